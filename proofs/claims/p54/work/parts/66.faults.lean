/-! THE PURE SIDE, 17: stops of reading alone; what errors() counts of the reader -/
def setB (L U : Nat → Int32) (m : Nat) (lim : Int32) (k : Nat) : Bool := decide (k ≤ m) && !decide (L (k - 1) < lim) && !orT (fun j => decide (k ≤ j) && decide (L (k - 1) < U j)) m
theorem mxMax_lt {x a b : Int32} : x < mxMax a b ↔ x < a ∨ x < b := by
  unfold mxMax
  by_cases c : a < b
  · rw [if_pos c]
    simp only [i32_lt] at *
    omega
  · rw [if_neg c]
    simp only [i32_lt] at *
    omega
theorem s_stopSettled {h : mxH} (W : WF h) {m d : Nat} {lim : Int32} (hm : m ≤ 20) (hd : d ≤ 20) (hc : V h 297 4 = Int32.ofNat m) :
    Ok (fX5_stopSettled 297 (Int32.ofNat d) lim h) (fun h' => Fr (fun b => b = 299) h h' ∧ ∀ k, 1 ≤ k → k ≤ 20 → V h' 299 k = if V h 299 k = -1 ∧ setB (V h 300) (V h 301) m lim k = true then Int32.ofNat d else V h 299 k) := by
  unfold fX5_stopSettled
  have e20 : mxMin (Int32.ofNat m) 20 = Int32.ofNat m := by
    have := mxMin_N (a := m) (b := 20) (by omega) (by omega)
    rw [Nat.min_eq_left hm] at this
    exact this
  simp only [gI_at W fd_rc, bN, hc, e20]
  refine Ok_b (Ok_loop (fun i s => (∀ x, x < s.1 ↔ x < lim ∨ ∃ j, m - i ≤ j ∧ j < m ∧ x < V h 301 j) ∧ s.2.1 = Int32.ofNat (m - i) ∧ Fr (fun b => b = 299) h s.2.2 ∧ ∀ k, 1 ≤ k → k ≤ 20 → V s.2.2 299 k = if (m - i < k ∧ V h 299 k = -1) ∧ setB (V h 300) (V h 301) m lim k = true then Int32.ofNat d else V h 299 k) m ⟨fun x => ⟨fun q => Or.inl q, fun q => q.elim id (fun ⟨j, h1, h2, _⟩ => by omega)⟩, rfl, Fr.refl W, fun k h1 h2 => ?_⟩ ?_ ?_ (by unfold mxF; omega)) (fun h1 (H : Fr (fun b => b = 299) h h1 ∧ ∀ k, 1 ≤ k → k ≤ 20 → V h1 299 k = if V h 299 k = -1 ∧ setB (V h 300) (V h 301) m lim k = true then Int32.ofNat d else V h 299 k) => Ok_p H)
  · rw [if_neg (fun z => ?_)]
    have : setB (V h 300) (V h 301) m lim k = false := by
      unfold setB
      rw [decide_eq_false (show ¬ k ≤ m by omega)]
      rfl
    rw [this] at z; cases z.2
  · rintro i ⟨T, s1, h1⟩ hi ⟨hT, e, F, hv⟩
    obtain rfl := show s1 = _ from e
    have W1 := F.1
    have hT : ∀ x, x < T ↔ x < lim ∨ ∃ j, m - i ≤ j ∧ j < m ∧ x < V h 301 j := hT
    have hv : ∀ k, 1 ≤ k → k ≤ 20 → V h1 299 k = if (m - i < k ∧ V h 299 k = -1) ∧ setB (V h 300) (V h 301) m lim k = true then Int32.ofNat d else V h 299 k := hv
    have c1 : ¬ Int32.ofNat (m - i) < 1 := fun q => by have := (ofN_lt (b := 1) (by omega) (by omega)).mp q; omega
    have ev : V h1 299 (m - i) = V h 299 (m - i) := by rw [hv _ (by omega) (by omega), if_neg (by omega)]
    have e0 : V h1 300 = V h 300 := Fr_V F (by omega) (by omega)
    have e1 : V h1 301 = V h 301 := Fr_V F (by omega) (by omega)
    have hset : (¬ V h 300 (m - i - 1) < T) ↔ setB (V h 300) (V h 301) m lim (m - i) = true := by
      rw [hT]
      unfold setB
      rw [decide_eq_true (show m - i ≤ m by omega)]
      simp only [Bool.true_and, Bool.and_eq_true, Bool.not_eq_true', decide_eq_false_iff_not, not_or]
      refine and_congr_right (fun _ => ⟨fun q => orT_false.mpr (fun j hj => ?_), fun q ⟨j, g1, g2, g3⟩ => ?_⟩)
      · by_cases z : m - i ≤ j
        · rw [decide_eq_true z, decide_eq_false (fun y => q ⟨j, z, hj, y⟩)]; rfl
        · rw [decide_eq_false z]; rfl
      · have := orT_false.mp q j g2
        rw [decide_eq_true g1, decide_eq_true g3] at this
        cases this
    have hT2 : ∀ x, x < mxMax T (V h 301 (m - i - 1)) ↔ x < lim ∨ ∃ j, m - (i + 1) ≤ j ∧ j < m ∧ x < V h 301 j := fun x => by
      rw [mxMax_lt, hT]
      constructor
      · rintro ((q | ⟨j, g1, g2, g3⟩) | q)
        · exact Or.inl q
        · exact Or.inr ⟨j, by omega, g2, g3⟩
        · exact Or.inr ⟨m - i - 1, by omega, by omega, q⟩
      · rintro (q | ⟨j, g1, g2, g3⟩)
        · exact Or.inl (Or.inl q)
        · by_cases z : j = m - i - 1
          · subst z; exact Or.inr g3
          · exact Or.inl (Or.inr ⟨j, by omega, g2, g3⟩)
    have epre : Int32.ofNat (m - i) - 1 = Int32.ofNat (m - i - 1) := ofN_pred (by omega) (by omega)
    simp only [if_neg c1, gR_ps W1, gR_lo W1, bN, ldI_at W1 ar_ps (show m - i < 21 by omega), ev, epre, ldI_at W1 ar_lo (show m - i - 1 < 20 by omega), e0]
    by_cases c : V h 299 (m - i) = -1 ∧ ¬ V h 300 (m - i - 1) < T
    · have S := ar_ps.sl (show m - i < 21 by omega)
      have W2 := WF_st (x := Int32.ofNat d) W1 S
      have e2 : V (st h1 299 (m - i) (Int32.ofNat d)) 301 = V h 301 := by rw [V_st_ne (by omega)]; exact e1
      simp only [c.1, if_true, if_neg c.2, stI_at W1 ar_ps (show m - i < 21 by omega), bN, gR_up W2, ldI_at W2 ar_up (show m - i - 1 < 20 by omega), e2]
      refine Ok_p ⟨_, rfl, hT2, by show Int32.ofNat _ = Int32.ofNat _; congr 1, F.trans (Fr.st W1 S rfl), fun k h1 h2 => ?_⟩
      show V (st _ _ _ _) _ _ = _
      rw [V_st W1 S]
      by_cases z : k = m - i
      · subst z; rw [if_pos ⟨rfl, rfl⟩, if_pos ⟨⟨by omega, c.1⟩, hset.mp c.2⟩]
      · rw [if_neg (fun y => z y.2), hv k h1 h2]
        by_cases y : (m - i < k ∧ V h 299 k = -1) ∧ setB (V h 300) (V h 301) m lim k = true
        · rw [if_pos y, if_pos ⟨⟨by omega, y.1.2⟩, y.2⟩]
        · rw [if_neg y, if_neg (fun x => y ⟨⟨by omega, x.1.2⟩, x.2⟩)]
    · have e3 : (if V h 299 (m - i) = -1 then (if V h 300 (m - i - 1) < T then some h1 else Option.bind (stI h1 299 (Int32.ofNat (m - i)) (Int32.ofNat d)) (fun h27 => some h27)) else some h1) = some h1 := by
        by_cases z : V h 299 (m - i) = -1
        · rw [if_pos z]
          by_cases y : V h 300 (m - i - 1) < T
          · rw [if_pos y]
          · exact absurd ⟨z, y⟩ c
        · rw [if_neg z]
      rw [e3]
      simp only [bN, gR_up W1, ldI_at W1 ar_up (show m - i - 1 < 20 by omega), e1]
      refine Ok_p ⟨_, rfl, hT2, by show Int32.ofNat _ = Int32.ofNat _; congr 1, F, fun k h1 h2 => ?_⟩
      show V _ _ _ = _
      rw [hv k h1 h2]
      by_cases y : (m - i < k ∧ V h 299 k = -1) ∧ setB (V h 300) (V h 301) m lim k = true
      · rw [if_pos y, if_pos ⟨⟨by omega, y.1.2⟩, y.2⟩]
      · rw [if_neg y, if_neg (fun x => ?_)]
        by_cases z : k = m - i
        · subst z; exact c ⟨x.1.2, hset.mpr x.2⟩
        · exact y ⟨⟨by omega, x.1.2⟩, x.2⟩
  · rintro ⟨T, s1, h1⟩ ⟨hT, e, F, hv⟩
    obtain rfl := show s1 = _ from e
    have c1 : Int32.ofNat (m - m) < 1 := by rw [Nat.sub_self]; decide
    refine Ok_e (a := .inr h1) (if_pos c1) ⟨_, rfl, F, fun k h1 h2 => ?_⟩
    rw [hv k h1 h2]
    by_cases y : V h 299 k = -1 ∧ setB (V h 300) (V h 301) m lim k = true
    · rw [if_pos y, if_pos ⟨⟨by omega, y.1⟩, y.2⟩]
    · rw [if_neg y, if_neg (fun x => y ⟨x.1.2, x.2⟩)]
def setl (n : Nat → Int32) (d k : Nat) : Bool := setB (fun j => low n (bnr n d j) d) (fun j => upp n (bnr n d j) d) (rdT n d) (lim n d) k
theorem setB_congr {L U L' U' : Nat → Int32} {m k : Nat} {x : Int32} (h1 : 1 ≤ k) (hL : ∀ j, j < m → L j = L' j) (hU : ∀ j, j < m → U j = U' j) : setB L U m x k = setB L' U' m x k := by
  unfold setB
  by_cases c : k ≤ m
  · rw [hL (k - 1) (by omega), orT_congr (fun j hj => by rw [hU j hj])]
  · simp only [decide_eq_false c, Bool.false_and]
def pst (n : Nat → Int32) (k : Nat) : Nat := if dpt n = 0 then 0 else 1 + fst1 (fun d => setl n (d + 1) k) (dpt n - 1)
theorem pst_le (n : Nat → Int32) (k : Nat) : pst n k ≤ dpt n := by
  unfold pst
  have := fst1_le (fun d => setl n (d + 1) k) (dpt n - 1)
  split <;> omega
set_option maxHeartbeats 1000000 in
theorem s_findPlainStops {h : mxH} (W : WF h) {r : Nat} {n : Nat → Int32} (G : MG n) (H : WG n) (R : RB r) (A : RR h r n) : Ok (fX5_findPlainStops 297 r h) (fun h' => Fr (fun b => b = r + 22 ∨ b = 297 ∨ b = 299 ∨ b = 300 ∨ b = 301) h h' ∧ ∀ q, 1 ≤ q → q ≤ 20 → V h' 299 q = Int32.ofNat (pst n q)) := by
  have RL := RB_le R
  have D20 := dpt_20 n
  unfold fX5_findPlainStops
  simp only [gR_ps W, bN]
  refine Ok_b (s_fill W ar_ps) (fun h1 ⟨F1, w1⟩ => ?_)
  have W1 := F1.1
  have A1 := RR_fr R A F1 (fun o ho => by omega)
  simp only [isO_R W1 R, bN, s_deepest W1 R A1]
  have G1 := F1.mono (Q := fun b => b = r + 22 ∨ b = 297 ∨ b = 299 ∨ b = 300 ∨ b = 301) (fun b q => by omega)
  refine Ok_b (P := fun h2 => Fr (fun b => b = r + 22 ∨ b = 297 ∨ b = 299 ∨ b = 300 ∨ b = 301) h h2 ∧ ∀ q, 1 ≤ q → q ≤ 20 → V h2 299 q = if fst1 (fun d => setl n (d + 1) q) (dpt n - 1) < dpt n - 1 then Int32.ofNat (1 + fst1 (fun d => setl n (d + 1) q) (dpt n - 1)) else -1) (Ok_loop (fun j s => s.1 = Int32.ofNat (1 + j) ∧ Fr (fun b => b = r + 22 ∨ b = 297 ∨ b = 299 ∨ b = 300 ∨ b = 301) h s.2 ∧ ∀ q, 1 ≤ q → q ≤ 20 → V s.2 299 q = if fst1 (fun d => setl n (d + 1) q) j < j then Int32.ofNat (1 + fst1 (fun d => setl n (d + 1) q) j) else -1) (dpt n - 1) ⟨rfl, G1, fun q h1 h2 => by rw [if_neg (by omega)]; exact w1 q (by omega)⟩ ?_ ?_ (by unfold mxF; omega)) (fun h2 ⟨F2, v2⟩ => ?_)
  · rintro j ⟨s1, h2⟩ hj ⟨e, F, hv⟩
    obtain rfl := show s1 = _ from e
    have W2 := F.1
    have hv : ∀ q, 1 ≤ q → q ≤ 20 → V h2 299 q = if fst1 (fun d => setl n (d + 1) q) j < j then Int32.ofNat (1 + fst1 (fun d => setl n (d + 1) q) j) else -1 := hv
    have A2 := RR_fr R A F (fun o ho => by omega)
    simp only [if_neg (show ¬ Int32.ofNat (dpt n) ≤ Int32.ofNat (1 + j) from nle (by omega) (by omega)), isO_D W2, bN]
    refine Ok_b (s_gatherBounds W2 G H R A2 (show 1 ≤ 1 + j by omega) (by omega)) (fun h3 ⟨F3, c3, v3⟩ => ?_)
    have W3 := F3.1
    have A3 := RR_fr R A2 F3 (fun o ho => by omega)
    simp only [isO_R W3 R, bN]
    refine Ok_b (s_limitAt W3 G H R A3 (show 1 ≤ 1 + j by omega) (by omega)) (fun o ⟨e4, F4⟩ => ?_)
    have W4 := F4.1
    have c4 : V o.2 297 4 = Int32.ofNat (rdT n (1 + j)) := by rw [Fr_V F4 (by omega) (by omega)]; exact c3
    simp only [isO_D W4, bN, e4]
    refine Ok_b (s_stopSettled W4 (rdT_20 n _) (show 1 + j ≤ 20 by omega) c4) (fun h5 ⟨F5, v5⟩ => ?_)
    rw [ofN_succ]
    refine Ok_p ⟨_, rfl, by show Int32.ofNat _ = Int32.ofNat _; congr 1, F.trans ((F3.mono (fun b q => by omega)).trans ((F4.mono (fun b q => by omega)).trans (F5.mono (fun b q => by omega)))), fun q h1 h2 => ?_⟩
    show V h5 299 q = _
    have es : setB (V o.2 300) (V o.2 301) (rdT n (1 + j)) (lim n (1 + j)) q = setl n (j + 1) q := by
      rw [Nat.add_comm 1 j] at v3 ⊢
      unfold setl
      exact setB_congr h1 (fun i hi => by rw [Fr_V F4 (by omega) (by omega)]; exact (v3 i hi).1) (fun i hi => by rw [Fr_V F4 (by omega) (by omega)]; exact (v3 i hi).2)
    rw [v5 q h1 h2, es, Fr_V F4 (by omega) (by omega), Fr_V F3 (by omega) (by omega), hv q h1 h2]
    have hl := fst1_le (fun d => setl n (d + 1) q) j
    show _ = if fst1 (fun d => setl n (d + 1) q) (j + 1) < j + 1 then _ else _
    have e5 : fst1 (fun d => setl n (d + 1) q) (j + 1) = if fst1 (fun d => setl n (d + 1) q) j < j then fst1 (fun d => setl n (d + 1) q) j else if setl n (j + 1) q then j else j + 1 := rfl
    rw [e5]
    generalize fst1 (fun d => setl n (d + 1) q) j = f at hl
    by_cases c : f < j
    · simp only [c, if_true]
      rw [if_neg (show ¬ (Int32.ofNat (1 + f) = -1 ∧ setl n (j + 1) q = true) from fun z => ofN_nm (by omega) z.1), if_pos (show f < j + 1 by omega)]
    · simp only [c, if_false]
      by_cases c2 : setl n (j + 1) q = true
      · simp only [c2, and_true, if_true]
        rw [if_pos (show j < j + 1 by omega)]
      · have c2 : setl n (j + 1) q = false := by simpa using c2
        simp only [c2, Bool.false_eq_true, and_false, if_false]
        rw [if_neg (show ¬ j + 1 < j + 1 by omega)]
  · rintro ⟨s1, h2⟩ ⟨e, F, hv⟩
    obtain rfl := show s1 = _ from e
    have c1 : Int32.ofNat (dpt n) ≤ Int32.ofNat (1 + (dpt n - 1)) := (ofN_le (by omega) (by omega)).mpr (by omega)
    exact Ok_e (a := .inr h2) (if_pos c1) ⟨_, rfl, F, hv⟩
  · have W2 := F2.1
    refine Ok_b (Ok_loop (fun j s => s.1 = Int32.ofNat (1 + j) ∧ Fr (fun b => b = 299) h2 s.2 ∧ ∀ q, 1 ≤ q → q ≤ 20 → V s.2 299 q = if q ≤ j ∧ V h2 299 q = -1 then Int32.ofNat (dpt n) else V h2 299 q) 20 ⟨rfl, Fr.refl W2, fun q h1 h2 => by rw [if_neg (by omega)]⟩ ?_ ?_) (fun h3 (H3 : Fr (fun b => b = 299) h2 h3 ∧ ∀ q, 1 ≤ q → q ≤ 20 → V h3 299 q = if q ≤ 20 ∧ V h2 299 q = -1 then Int32.ofNat (dpt n) else V h2 299 q) => Ok_p ⟨F2.trans (H3.1.mono (fun b q => by omega)), fun q h1 h2 => ?_⟩)
    · rintro j ⟨s1, h3⟩ hj ⟨e, F, hv⟩
      obtain rfl := show s1 = _ from e
      have W3 := F.1
      have hv : ∀ q, 1 ≤ q → q ≤ 20 → V h3 299 q = if q ≤ j ∧ V h2 299 q = -1 then Int32.ofNat (dpt n) else V h2 299 q := hv
      have hj2 : 1 + j < 21 := by omega
      have ev : V h3 299 (1 + j) = V h2 299 (1 + j) := by rw [hv _ (by omega) (by omega), if_neg (by omega)]
      have c2 : ¬ (20 : Int32) < Int32.ofNat (1 + j) := fun q => by have := (ofN_lt (a := 20) (by omega) (by omega)).mp q; omega
      simp only [if_neg c2, gR_ps W3, bN, ldI_at W3 ar_ps hj2, ev, ofN_succ]
      by_cases c : V h2 299 (1 + j) = -1
      · have S := ar_ps.sl hj2
        rw [if_pos c]
        simp only [bN, stI_at W3 ar_ps hj2]
        refine Ok_p ⟨_, rfl, by show Int32.ofNat _ = Int32.ofNat _; congr 1, F.trans (Fr.st W3 S rfl), fun q q1 q2 => ?_⟩
        show V (st _ _ _ _) _ _ = _
        rw [V_st W3 S]
        by_cases e : q = 1 + j
        · subst e; rw [if_pos ⟨rfl, rfl⟩, if_pos ⟨by omega, c⟩]
        · rw [if_neg (fun z => e z.2), hv q q1 q2]
          by_cases y : q ≤ j ∧ V h2 299 q = -1
          · rw [if_pos y, if_pos ⟨by omega, y.2⟩]
          · rw [if_neg y, if_neg (fun z => y ⟨by omega, z.2⟩)]
      · rw [if_neg c]
        simp only [bN]
        refine Ok_p ⟨_, rfl, by show Int32.ofNat _ = Int32.ofNat _; congr 1, F, fun q q1 q2 => ?_⟩
        show V _ _ _ = _
        rw [hv q q1 q2]
        by_cases y : q ≤ j ∧ V h2 299 q = -1
        · rw [if_pos y, if_pos ⟨by omega, y.2⟩]
        · rw [if_neg y, if_neg (fun z => ?_)]
          by_cases e : q = 1 + j
          · subst e; exact c z.2
          · exact y ⟨by omega, z.2⟩
    · rintro ⟨s1, h3⟩ ⟨e, F, hv⟩
      obtain rfl := show s1 = _ from e
      have c1 : (20 : Int32) < Int32.ofNat (1 + 20) := (ofN_lt (a := 20) (by omega) (by omega)).mpr (by omega)
      exact Ok_e (a := .inr h3) (if_pos c1) ⟨_, rfl, F, hv⟩
    · rw [H3.2 q h1 h2, v2 q h1 h2]
      unfold pst
      have hl := fst1_le (fun d => setl n (d + 1) q) (dpt n - 1)
      generalize fst1 (fun d => setl n (d + 1) q) (dpt n - 1) = f at hl
      by_cases c : f < dpt n - 1
      · simp only [c, if_true]
        rw [if_neg (show ¬ (q ≤ 20 ∧ Int32.ofNat (1 + f) = -1) from fun z => ofN_nm (by omega) z.2), if_neg (by omega)]
      · simp only [c, if_false]
        rw [if_pos (show q ≤ 20 ∧ True from ⟨h2, trivial⟩)]
        congr 1
        split <;> omega
