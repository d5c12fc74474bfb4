/-! THE PURE SIDE, 22: rings -/
theorem bit6 : ∀ m, m < 64 → ∀ k, k < 6 → decide (((Int32.ofNat m >>> (Int32.ofNat k &&& 31)) &&& 1) = 1) = m.testBit k := by decide +kernel
theorem or6 : ∀ m, m < 64 → ∀ k, k < 6 → Int32.ofNat m ||| (1 <<< (Int32.ofNat k &&& 31)) = Int32.ofNat (m ||| 1 <<< k) ∧ m ||| 1 <<< k < 64 := by decide +kernel
theorem or6b : ∀ m, m < 64 → ∀ k, k < 6 → ∀ j, j < 6 → (m ||| 1 <<< k).testBit j = (m.testBit j || j == k) := by decide +kernel
theorem sh6 : ∀ k, k < 6 → (1 : Int32) <<< (Int32.ofNat k &&& 31) = Int32.ofNat (1 <<< k) ∧ 1 <<< k < 64 := by decide +kernel
theorem sh6b : ∀ k, k < 6 → ∀ j, j < 6 → (1 <<< k).testBit j = (j == k) := by decide +kernel
def bbg (n : Nat → Int32) (m i : Nat) : Nat → Nat → Nat := fun a k => if m.testBit i && bt n i k then a ||| 1 <<< k else a
def bb (n : Nat → Int32) (m : Nat) : Nat := fo (fun a i => fo (bbg n m i) a (cdC n)) 0 (cdC n)
theorem bbg_64 {n : Nat → Int32} {m i a k : Nat} (ha : a < 64) (hk : k < 6) : bbg n m i a k < 64 := by
  unfold bbg
  split
  · exact (or6 a ha k hk).2
  · exact ha
theorem bbi_64 {n : Nat → Int32} {m i a k : Nat} (ha : a < 64) (hk : k ≤ 6) : fo (bbg n m i) a k < 64 := fo_ind (fun x => x < 64) ha (fun _ j hj hx => bbg_64 hx (by omega))
theorem bbo_64 {n : Nat → Int32} {m k : Nat} : fo (fun a i => fo (bbg n m i) a (cdC n)) 0 k < 64 := fo_ind (fun x => x < 64) (by omega) (fun _ j hj hx => bbi_64 hx (cdC_6 n))
theorem bb_64 (n : Nat → Int32) (m : Nat) : bb n m < 64 := bbo_64
theorem bbi_bit {n : Nat → Int32} {m i a j : Nat} (ha : a < 64) (hj : j < 6) : ∀ k, k ≤ 6 → (fo (bbg n m i) a k).testBit j = (a.testBit j || (decide (j < k) && (m.testBit i && bt n i j))) := by
  intro k
  induction k with
  | zero => intro _; simp [fo]
  | succ k ih =>
    intro hk
    have h1 := bbi_64 (n := n) (m := m) (i := i) ha (show k ≤ 6 by omega)
    have ih := ih (by omega)
    show (bbg n m i (fo (bbg n m i) a k) k).testBit j = _
    generalize fo (bbg n m i) a k = x at h1 ih
    unfold bbg
    by_cases e : j = k
    · subst e
      cases c : m.testBit i && bt n i j
      · simp only [Bool.false_eq_true, if_false, ih, c, Bool.and_false]
      · simp only [if_true, or6b x h1 j hj j hj, ih, c]
        simp
    · have e1 : decide (j < k + 1) = decide (j < k) := by
        by_cases q : j < k
        · rw [decide_eq_true q, decide_eq_true (by omega)]
        · rw [decide_eq_false q, decide_eq_false (by omega)]
      have e2 : (j == k) = false := by simpa using e
      rw [e1]
      split
      · rw [or6b x h1 k (by omega) j hj, ih, e2, Bool.or_false]
      · exact ih
theorem bb_bit {n : Nat → Int32} {m j : Nat} (hj : j < cdC n) : (bb n m).testBit j = orT (fun i => m.testBit i && bt n i j) (cdC n) := by
  have C6 := cdC_6 n
  unfold bb
  have : ∀ k, (fo (fun a i => fo (bbg n m i) a (cdC n)) 0 k).testBit j = orT (fun i => m.testBit i && bt n i j) k := by
    intro k
    induction k with
    | zero => simp [fo, orT]
    | succ k ih =>
      show (fo (bbg n m k) (fo (fun a i => fo (bbg n m i) a (cdC n)) 0 k) (cdC n)).testBit j = _
      rw [bbi_bit bbo_64 (by omega) _ C6, ih, decide_eq_true hj]
      simp [orT]
  exact this _
theorem s_beatenBy {h : mxH} (W : WF h) {n : Nat → Int32} (A : VR h n) {m : Nat} (hm : m < 64) : fX8_beatenBy 306 (Int32.ofNat m) h = some (Int32.ofNat (bb n m)) := by
  have C6 := cdC_6 n
  unfold fX8_beatenBy bb
  refine bs (nat_loop (fun a i => fo (bbg n m i) a (cdC n)) 0 (cdC n) (fun i hi => ?_) (fun c => ?_) (by unfold mxF; omega)) rfl
  · simp only [gI_at W fd_vc, bN, A.1, if_neg (nle hi (by omega))]
    have hb : fo (fun a i => fo (bbg n m i) a (cdC n)) 0 i < 64 := bbo_64
    generalize fo (fun a i => fo (bbg n m i) a (cdC n)) 0 i = a at hb
    refine bs (nat_loop (bbg n m i) a (cdC n) (fun k hk => ?_) (fun c => ?_) (by unfold mxF; omega)) (by rw [ofN_succ])
    · have hb2 := bbi_64 (n := n) (m := m) (i := i) hb (show k ≤ 6 by omega)
      generalize fo (bbg n m i) a k = x at hb2
      have hbit := bit6 m hm i (by omega)
      simp only [gI_at W fd_vc, bN, A.1, if_neg (nle hk (by omega)), isO_V W, s_vBeats W A hi hk, bI_0, ofN_succ]
      unfold bbg
      cases e : m.testBit i
      · rw [e] at hbit
        rw [if_neg (of_decide_eq_false hbit)]
        rfl
      · rw [e] at hbit
        rw [if_pos (of_decide_eq_true hbit)]
        cases bt n i k
        · rfl
        · rw [(or6 x hb2 k (by omega)).1]
          rfl
    · simp only [gI_at W fd_vc, bN, A.1, if_pos yle]
  · simp only [gI_at W fd_vc, bN, A.1, if_pos yle]
def rgm (n : Nat → Int32) (s : Nat) : Nat → Nat
  | 0 => 1 <<< s
  | l + 1 => bb n (rgm n s l)
theorem rgm_64 {n : Nat → Int32} {s : Nat} (hs : s < 6) (l : Nat) : rgm n s l < 64 := by
  cases l with
  | zero => exact (sh6 s hs).2
  | succ l => exact bb_64 n _
def rfs (n : Nat → Int32) (s : Nat) : Nat := fst1 (fun j => (rgm n s (j + 1)).testBit s) (cdC n)
theorem s_ringFrom {h : mxH} (W : WF h) {n : Nat → Int32} (A : VR h n) {s : Nat} (hs : s < cdC n) : fX8_ringFrom 306 (Int32.ofNat s) h = some (if rfs n s < cdC n then Int32.ofNat (1 + rfs n s) else -1) := by
  have C6 := cdC_6 n
  have s6 : s < 6 := by omega
  have hl : rfs n s ≤ cdC n := fst1_le _ _
  have hf := fst1_spec (fun j => (rgm n s (j + 1)).testBit s) (cdC n)
  unfold fX8_ringFrom
  rw [(sh6 s s6).1]
  refine bs (a := if rfs n s < cdC n then .inl (Int32.ofNat (1 + rfs n s)) else .inr ()) (mxLoop_find (S := fun j => (Int32.ofNat (rgm n s j), Int32.ofNat (1 + j))) (K := rfs n s) (fun j hj => ?_) ?_ (Nat.lt_of_le_of_lt hl (by unfold mxF; omega))) ?_
  · have hp : (rgm n s (j + 1)).testBit s = false := hf.1 j hj
    have c1 : ¬ Int32.ofNat (cdC n) < Int32.ofNat (1 + j) := fun z => by have := (ofN_lt (by omega) (by omega)).mp z; omega
    have hb := bit6 (bb n (rgm n s j)) (bb_64 _ _) s s6
    rw [show (bb n (rgm n s j)).testBit s = false from hp] at hb
    simp only [gI_at W fd_vc, bN, A.1, if_neg c1, isO_V W, s_beatenBy W A (rgm_64 s6 j), if_neg (of_decide_eq_false hb), ofN_succ]
    rfl
  · by_cases c : rfs n s < cdC n
    · have hp : (rgm n s (rfs n s + 1)).testBit s = true := hf.2 c
      have c1 : ¬ Int32.ofNat (cdC n) < Int32.ofNat (1 + rfs n s) := fun z => by have := (ofN_lt (by omega) (by omega)).mp z; omega
      have hb := bit6 (bb n (rgm n s (rfs n s))) (bb_64 _ _) s s6
      rw [show (bb n (rgm n s (rfs n s))).testBit s = true from hp] at hb
      rw [if_pos c]
      simp only [gI_at W fd_vc, bN, A.1, if_neg c1, isO_V W, s_beatenBy W A (rgm_64 s6 _), if_pos (of_decide_eq_true hb)]
    · have c1 : Int32.ofNat (cdC n) < Int32.ofNat (1 + rfs n s) := (ofN_lt (by omega) (by omega)).mpr (by omega)
      rw [if_neg c]
      simp only [gI_at W fd_vc, bN, A.1, if_pos c1]
  · split <;> rfl
def rgI (C b : Nat) : Int32 := if b < C then Int32.ofNat (1 + b) else -1
def srg (n : Nat → Int32) : Nat := fo (fun m s => min m (rfs n s)) (cdC n) (cdC n)
theorem s_shortestRing {h : mxH} (W : WF h) {n : Nat → Int32} (A : VR h n) : fX8_shortestRing 306 h = some (rgI (cdC n) (srg n)) := by
  have C6 := cdC_6 n
  unfold fX8_shortestRing srg
  have e0 : ((-1 : Int32), (0 : Int32)) = (rgI (cdC n) (fo (fun m s => min m (rfs n s)) (cdC n) 0), Int32.ofNat 0) := by
    rw [show rgI (cdC n) (fo (fun m s => min m (rfs n s)) (cdC n) 0) = -1 from if_neg (by show ¬ cdC n < cdC n; omega)]
    rfl
  rw [e0]
  refine bs (mxLoop_up (S := fun k => (rgI (cdC n) (fo (fun m s => min m (rfs n s)) (cdC n) k), Int32.ofNat k)) (N := cdC n) (r := rgI (cdC n) (fo (fun m s => min m (rfs n s)) (cdC n) (cdC n))) (fun k hk => ?_) ?_ (by unfold mxF; omega)) rfl
  · simp only [gI_at W fd_vc, bN, A.1, if_neg (nle hk (by omega)), isO_V W, s_ringFrom W A hk, ofN_succ]
    show _ = some (Sum.inl (rgI (cdC n) (min (fo (fun m s => min m (rfs n s)) (cdC n) k) (rfs n k)), _))
    generalize fo (fun m s => min m (rfs n s)) (cdC n) k = b
    generalize rfs n k = c
    unfold rgI
    by_cases q1 : c < cdC n
    · rw [if_pos q1, if_neg (ofN_nm (show 1 + c < 2147483648 by omega))]
      by_cases q2 : b < cdC n
      · rw [if_pos q2, if_neg (ofN_nm (show 1 + b < 2147483648 by omega)), if_pos (show min b c < cdC n by omega)]
        by_cases q3 : b ≤ c
        · rw [if_pos ((ofN_le (by omega) (by omega)).mpr (by omega)), Nat.min_eq_left q3]; rfl
        · rw [if_neg (fun z => by have := (ofN_le (by omega) (by omega)).mp z; omega), Nat.min_eq_right (by omega)]; rfl
      · rw [if_neg q2, if_pos rfl, if_pos (show min b c < cdC n by omega), Nat.min_eq_right (by omega)]; rfl
    · rw [if_neg q1, if_pos rfl]
      by_cases q2 : b < cdC n
      · rw [if_pos q2, if_pos (show min b c < cdC n by omega), Nat.min_eq_left (by omega)]; rfl
      · rw [if_neg q2, if_neg (show ¬ min b c < cdC n by omega)]; rfl
  · simp only [gI_at W fd_vc, bN, A.1, if_pos yle]
