/-! THE PURE SIDE, 6: what the class's rows count -/
theorem cnt_loop {f : Int32 × Int32 → Option ((Int32 × Int32) ⊕ Int32)} (p : Nat → Bool) (N : Nat) (step : ∀ k c, k < N → c ≤ k → f (Int32.ofNat c, Int32.ofNat k) = some (.inl (Int32.ofNat (c + if p k then 1 else 0), Int32.ofNat (k + 1)))) (last : ∀ c, f (Int32.ofNat c, Int32.ofNat N) = some (.inr (Int32.ofNat c))) (hN : N < mxF := by decide) : mxLoop f mxF (0, 0) = some (Int32.ofNat (cnt p N)) :=
  mxLoop_up (S := fun k => (Int32.ofNat (cnt p k), Int32.ofNat k)) (N := N) (fun k hk => step k _ hk (cnt_le p k)) (last _) hN
theorem nat_loop {f : Int32 × Int32 → Option ((Int32 × Int32) ⊕ Int32)} (g : Nat → Nat → Nat) (a N : Nat) (step : ∀ k, k < N → f (Int32.ofNat (fo g a k), Int32.ofNat k) = some (.inl (Int32.ofNat (g (fo g a k) k), Int32.ofNat (k + 1)))) (last : ∀ c, f (Int32.ofNat c, Int32.ofNat N) = some (.inr (Int32.ofNat c))) (hN : N < mxF := by decide) : mxLoop f mxF (Int32.ofNat a, 0) = some (Int32.ofNat (fo g a N)) :=
  mxLoop_up (S := fun k => (Int32.ofNat (fo g a k), Int32.ofNat k)) (N := N) step (last _) hN
theorem mxMin_N {a b : Nat} (ha : a < 2147483648) (hb : b < 2147483648) : mxMin (Int32.ofNat a) (Int32.ofNat b) = Int32.ofNat (min a b) := by
  unfold mxMin
  by_cases c : b < a
  · rw [if_pos ((ofN_lt hb ha).mpr c), Nat.min_eq_right (by omega)]
  · rw [if_neg (fun q => c ((ofN_lt hb ha).mp q)), Nat.min_eq_left (by omega)]
theorem mxMax_N {a b : Nat} (ha : a < 2147483648) (hb : b < 2147483648) : mxMax (Int32.ofNat a) (Int32.ofNat b) = Int32.ofNat (max a b) := by
  unfold mxMax
  by_cases c : a < b
  · rw [if_pos ((ofN_lt ha hb).mpr c), Nat.max_eq_right (by omega)]
  · rw [if_neg (fun q => c ((ofN_lt ha hb).mp q)), Nat.max_eq_left (by omega)]
def rdAt (n : Nat → Int32) (t d : Nat) : Bool := orT (fun i => rdI n i t d) 5
theorem fpl_lt {n : Nat → Int32} {t d : Nat} (hd : d ≤ 20) : decide (fpl n t < d) = rdAt n t d := by
  unfold fpl rdAt
  have : ∀ k, decide (fo (fun m i => if hs n i t then min m (pla n i t) else m) 20 k < d) = orT (fun i => rdI n i t d) k := by
    intro k
    induction k with
    | zero => exact decide_eq_false (by show ¬ 20 < d; omega)
    | succ k ih =>
      show decide ((if hs n k t then min _ (pla n k t) else _) < d) = (_ || rdI n k t d)
      rw [← ih]
      unfold rdI
      generalize fo (fun m i => if hs n i t then min m (pla n i t) else m) 20 k = m
      by_cases c : hs n k t = true
      · rw [if_pos c, c, Bool.true_and]
        by_cases c1 : m < d <;> by_cases c2 : pla n k t < d <;> simp [c1, c2] <;> omega
      · have c' : hs n k t = false := by simpa using c
        rw [if_neg c, c', Bool.false_and, Bool.or_false]
  exact this 5
theorem fpl_20 (n : Nat → Int32) (t : Nat) : fpl n t ≤ 20 := by
  unfold fpl
  refine fo_ind (fun m => m ≤ 20) (Nat.le_refl _) (fun m k _ hm => ?_)
  show (if hs n k t then min m (pla n k t) else m) ≤ 20
  split
  · exact Nat.le_trans (Nat.min_le_left _ _) hm
  · exact hm
theorem s_isRd {h : mxH} (W : WF h) {r t d : Nat} {n : Nat → Int32} (R : RB r) (A : RR h r n) (ht : t < 20) (hd : d ≤ 20) : fX6_isRead r (Int32.ofNat t) (Int32.ofNat d) h = some (bI (rdAt n t d)) := by
  have h20 := fpl_20 n t
  rw [s_isRead W R ht, A.2.2.2.2.2.1 t ht, ← fpl_lt hd]
  congr 2
  simp only [ofN_le (show d < 2147483648 by omega) (show fpl n t < 2147483648 by omega), Nat.not_le]
/-- known at all -/
def knw (n : Nat → Int32) (t : Nat) : Bool := rdAt n t 20
theorem s_isKn {h : mxH} (W : WF h) {r t : Nat} {n : Nat → Int32} (R : RB r) (A : RR h r n) (ht : t < 20) : fX6_isKnown r (Int32.ofNat t) h = some (bI (knw n t)) := by
  unfold fX6_isKnown
  simp only [isO_R W R, bN, show fX6_isRead r (Int32.ofNat t) 20 h = some (bI (rdAt n t 20)) from s_isRd W R A ht (Nat.le_refl _), z1_bI, knw]
/-- the items read at a depth -/
def rdN (n : Nat → Int32) (d : Nat) : Nat := fo (fun s i => s + min (itm n i) d) 0 5
theorem s_itemsRead {h : mxH} (W : WF h) {r d : Nat} {n : Nat → Int32} (R : RB r) (A : RR h r n) (hd : d ≤ 20) : fX6_itemsRead r (Int32.ofNat d) h = some (Int32.ofNat (rdN n d)) := by
  unfold fX6_itemsRead rdN
  simp only [gR_s W R, bN, lenA_at W (ar_sz R)]
  refine bs (nat_loop _ 0 5 (fun k hk => ?_) (fun c => if_pos yle)) rfl
  have := itm_20 n k
  simp only [if_neg (nle hk), ldI_at W (ar_sz R) hk, bN, A.2.2.2.1 k hk, ofN_succ, mxMin_N (show itm n k < 2147483648 by omega) (show d < 2147483648 by omega), ofN_add]
def rdT (n : Nat → Int32) (d : Nat) : Nat := cnt (fun t => rdAt n t d) 20
theorem s_thingsRead {h : mxH} (W : WF h) {r d : Nat} {n : Nat → Int32} (R : RB r) (A : RR h r n) (hd : d ≤ 20) : fX6_thingsRead r (Int32.ofNat d) h = some (Int32.ofNat (rdT n d)) := by
  unfold fX6_thingsRead rdT
  refine bs (cnt_loop (fun t => rdAt n t d) 20 (fun k c hk hc => ?_) (fun c => if_pos yle)) rfl
  simp only [if_neg (show ¬ (20 : Int32) ≤ Int32.ofNat k from nle hk), isO_R W R, bN, s_isRd W R A hk hd, bI_0, ofN_succ]
  cases rdAt n k d <;> simp
/-- a search among 0 .. N - 1 -/
theorem find_loop {f : Int32 → Option (Int32 ⊕ (Int32 ⊕ Unit))} (p : Nat → Bool) (N : Nat) (step : ∀ k, k < N → p k = false → f (Int32.ofNat k) = some (.inl (Int32.ofNat (k + 1)))) (hit : ∀ k, k < N → p k = true → f (Int32.ofNat k) = some (.inr (.inl (Int32.ofNat k)))) (last : f (Int32.ofNat N) = some (.inr (.inr ()))) (hN : N < mxF := by decide) : mxLoop f mxF 0 = some (if fst1 p N < N then .inl (Int32.ofNat (fst1 p N)) else .inr ()) := by
  have hl := fst1_le p N
  have hs := fst1_spec p N
  refine mxLoop_find (S := fun k => Int32.ofNat k) (K := fst1 p N) (fun k hk => step k (by omega) (hs.1 k hk)) ?_ (by omega)
  by_cases c : fst1 p N < N
  · rw [if_pos c]; exact hit _ c (hs.2 c)
  · rw [if_neg c, show fst1 p N = N by omega]; exact last
def lun (n : Nat → Int32) (d : Nat) : Nat := fst1 (fun t => !rdAt n t d) 20
theorem s_leastUnread {h : mxH} (W : WF h) {r d : Nat} {n : Nat → Int32} (R : RB r) (A : RR h r n) (hd : d ≤ 20) : fX6_leastUnread r (Int32.ofNat d) h = some (if lun n d < 20 then Int32.ofNat (lun n d) else -1) := by
  unfold fX6_leastUnread lun
  refine bs (find_loop (fun t => !rdAt n t d) 20 (fun k hk hp => ?_) (fun k hk hp => ?_) ?_) ?_
  · have hp : rdAt n k d = true := by simpa using hp
    simp only [if_neg (show ¬ (20 : Int32) ≤ Int32.ofNat k from nle hk), isO_R W R, bN, s_isRd W R A hk hd, bI_0, ofN_succ, hp, Bool.true_eq_false, if_false]
  · have hp : rdAt n k d = false := by simpa using hp
    simp only [if_neg (show ¬ (20 : Int32) ≤ Int32.ofNat k from nle hk), isO_R W R, bN, s_isRd W R A hk hd, bI_0, hp, if_true]
  · exact if_pos yle
  · split <;> rfl
/-- the longest row -/
def dpt (n : Nat → Int32) : Nat := fo (fun s i => max s (itm n i)) 0 5
theorem dpt_20 (n : Nat → Int32) : dpt n ≤ 20 := by
  unfold dpt
  refine fo_ind (fun m => m ≤ 20) (by omega) (fun m k _ hm => ?_)
  have := itm_20 n k
  show max m (itm n k) ≤ 20
  omega
theorem s_deepest {h : mxH} (W : WF h) {r : Nat} {n : Nat → Int32} (R : RB r) (A : RR h r n) : fX6_deepest r h = some (Int32.ofNat (dpt n)) := by
  unfold fX6_deepest dpt
  simp only [gR_s W R, bN, lenA_at W (ar_sz R)]
  refine bs (nat_loop _ 0 5 (fun k hk => ?_) (fun c => if_pos yle)) rfl
  have h1 := itm_20 n k
  have h2 : fo (fun s i => max s (itm n i)) 0 k ≤ 20 := fo_ind (fun m => m ≤ 20) (by omega) (fun m k _ hm => by
    have := itm_20 n k
    show max m (itm n k) ≤ 20
    omega)
  simp only [if_neg (nle hk), ldI_at W (ar_sz R) hk, bN, A.2.2.2.1 k hk, ofN_succ, mxMax_N (show fo (fun s i => max s (itm n i)) 0 k < 2147483648 by omega) (show itm n k < 2147483648 by omega)]
/-- how many rows prefer -/
def prf (n : Nat → Int32) (a b : Nat) : Nat := cnt (fun i => hs n i a && (!hs n i b || decide (pla n i a < pla n i b))) 5
theorem s_countPreferring {h : mxH} (W : WF h) {r a b : Nat} {n : Nat → Int32} (R : RB r) (A : RR h r n) (ha : a < 20) (hb : b < 20) : fX6_countPreferring r (Int32.ofNat a) (Int32.ofNat b) h = some (Int32.ofNat (prf n a b)) := by
  unfold fX6_countPreferring prf
  refine bs (cnt_loop (fun i => hs n i a && (!hs n i b || decide (pla n i a < pla n i b))) 5 (fun k c hk hc => ?_) (fun c => if_pos yle)) rfl
  have h1 := pla_20 (n := n) (r := k) ha
  have h2 := pla_20 (n := n) (r := k) hb
  simp only [if_neg (show ¬ (5 : Int32) ≤ Int32.ofNat k from nle hk), isO_R W R, bN, s_placeIn W R hk ha, s_placeIn W R hk hb, A.2.1 k a hk ha, A.2.1 k b hk hb, ofN_succ]
  cases hs n k a
  · simp
  · cases hs n k b
    · simp [ofN_nm (show pla n k a < 2147483648 by omega)]
    · by_cases c : pla n k b ≤ pla n k a
      · simp [ofN_nm (show pla n k a < 2147483648 by omega), ofN_nm (show pla n k b < 2147483648 by omega), ofN_le (show pla n k b < 2147483648 by omega) (show pla n k a < 2147483648 by omega), c, Nat.not_lt.mpr c]
      · simp [ofN_nm (show pla n k a < 2147483648 by omega), ofN_nm (show pla n k b < 2147483648 by omega), ofN_le (show pla n k b < 2147483648 by omega) (show pla n k a < 2147483648 by omega), c, Nat.not_le.mp c]
/-- in both rows -/
def bth (n : Nat → Int32) (i j t : Nat) : Bool := hs n i t && hs n j t
theorem s_isInBoth {h : mxH} (W : WF h) {r i j t : Nat} {n : Nat → Int32} (R : RB r) (A : RR h r n) (hi : i < 5) (hj : j < 5) (ht : t < 20) : fX6_isInBoth r (Int32.ofNat i) (Int32.ofNat j) (Int32.ofNat t) h = some (bI (bth n i j t)) := by
  unfold fX6_isInBoth bth hs
  simp only [isO_R W R, bN, s_markOf W R hi ht, s_markOf W R hj ht, A.1 i t hi ht, A.1 j t hj ht]
  by_cases c1 : n (20 * i + t) = -1
  · simp [c1, bI, mxZ1]
  · by_cases c2 : n (20 * j + t) = -1
    · simp [c1, c2, bI, mxZ1]
    · simp [c1, c2, bI, mxZ1]
theorem s_countCommon {h : mxH} (W : WF h) {r i j : Nat} {n : Nat → Int32} (R : RB r) (A : RR h r n) (hi : i < 5) (hj : j < 5) : fX6_countCommon r (Int32.ofNat i) (Int32.ofNat j) h = some (Int32.ofNat (cnt (bth n i j) 20)) := by
  unfold fX6_countCommon
  refine bs (cnt_loop (bth n i j) 20 (fun k c hk hc => ?_) (fun c => if_pos yle)) rfl
  simp only [if_neg (show ¬ (20 : Int32) ≤ Int32.ofNat k from nle hk), isO_R W R, bN, s_isInBoth W R A hi hj hk, bI_0, ofN_succ]
  cases bth n i j k <;> simp
/-- the one of which p holds, with q such ones below it -/
def nth (p : Nat → Bool) (q : Nat) : Nat → Nat := fst1 (fun t => p t && (cnt p t == q))
theorem s_commonOn {h : mxH} (W : WF h) {r i j q : Nat} {n : Nat → Int32} (R : RB r) (A : RR h r n) (hi : i < 5) (hj : j < 5) (hq : q < 20) : fX6_commonOn r (Int32.ofNat i) (Int32.ofNat j) (Int32.ofNat q) h = some (if nth (bth n i j) q 20 < 20 then Int32.ofNat (nth (bth n i j) q 20) else -1) := by
  unfold fX6_commonOn nth
  have hl := fst1_le (fun t => bth n i j t && (cnt (bth n i j) t == q)) 20
  have hs := fst1_spec (fun t => bth n i j t && (cnt (bth n i j) t == q)) 20
  refine bs (mxLoop_find (S := fun k => (Int32.ofNat (cnt (bth n i j) k), Int32.ofNat k)) (K := fst1 (fun t => bth n i j t && (cnt (bth n i j) t == q)) 20) (r := if fst1 (fun t => bth n i j t && (cnt (bth n i j) t == q)) 20 < 20 then .inl (Int32.ofNat (fst1 (fun t => bth n i j t && (cnt (bth n i j) t == q)) 20)) else .inr ()) (fun k hk => ?_) ?_ (Nat.lt_of_le_of_lt hl (by decide))) ?_
  · have hk2 : k < 20 := by omega
    have hp := hs.1 k hk
    have hc := cnt_le (bth n i j) k
    simp only [if_neg (show ¬ (20 : Int32) ≤ Int32.ofNat k from nle hk2), isO_R W R, bN, s_isInBoth W R A hi hj hk2, bI_0, ofN_succ, cnt]
    cases e : bth n i j k
    · simp
    · simp only [e, Bool.true_and, beq_eq_false_iff_ne] at hp
      simp [ofN_eq (show cnt (bth n i j) k < 2147483648 by omega) (show q < 2147483648 by omega), hp]
  · generalize hK : fst1 (fun t => bth n i j t && (cnt (bth n i j) t == q)) 20 = K at hl hs
    by_cases c : K < 20
    · have hp := hs.2 c
      simp only [Bool.and_eq_true, beq_iff_eq] at hp
      rw [if_pos c]
      simp only [if_neg (show ¬ (20 : Int32) ≤ Int32.ofNat K from nle c), isO_R W R, bN, s_isInBoth W R A hi hj c, bI_0, hp.1, hp.2]
      simp
    · rw [if_neg c, show K = 20 by omega]
      exact if_pos yle
  · split <;> rfl
def mkO (n : Nat → Int32) (i p : Nat) : Int32 := if p < itm n i then n (20 * i + thi n i p) else -1
theorem s_markOn {h : mxH} (W : WF h) {r i p : Nat} {n : Nat → Int32} (G : MG n) (R : RB r) (A : RR h r n) (hi : i < 5) (hp : p ≤ 20) : fX6_markOn r (Int32.ofNat i) (Int32.ofNat p) h = some (mkO n i p) := by
  unfold fX6_markOn mkO
  have h20 := itm_20 n i
  by_cases c : p < 20
  · simp only [isO_R W R, bN, s_thingOn W R hi c, A.2.2.1 i p hi c]
    by_cases c2 : p < itm n i
    · have h1 := (thi_spec G hi c2).1
      simp only [if_pos c2, s_markOf W R hi h1, A.1 i _ hi h1, bN]
    · simp only [if_neg c2, s_markOf_m hi, bN]
  · rw [s_thingOn_x hi (by rw [inN_ofN (by omega) (by decide)]; exact decide_eq_false c)]
    simp only [isO_R W R, bN, s_markOf_m hi, if_neg (show ¬ p < itm n i by omega)]
