/-! THE PURE SIDE, 8: the numbers that come by -/
def NB (b : Nat) : Prop := b = 27 ∨ ∃ q, q < 8 ∧ b = 58 + 29 * q
theorem NB_le {b : Nat} (B : NB b) : 27 ≤ b ∧ b ≤ 261 := by
  rcases B with rfl | ⟨q, h, rfl⟩ <;> omega
theorem lay_N {b o : Nat} (B : NB b) (ho : o < 5) : lay (b + o) = if o = 0 then (2, 9, [b + 1, 0, 0, b + 2, 0, 0, b + 3, b + 4, 0]) else if o = 1 then (100, 10, []) else if o = 2 then (100, 100, []) else (100, 4, []) := by
  have h5 : o = 0 ∨ o = 1 ∨ o = 2 ∨ o = 3 ∨ o = 4 := by omega
  rcases B with rfl | ⟨q, h, rfl⟩
  · rcases h5 with rfl | rfl | rfl | rfl | rfl <;> rfl
  · have e : lay (58 + 29 * q + o) = layS (34 + 29 * q) (24 + o) := by
      unfold lay
      rw [if_neg (by omega), if_neg (by omega), if_neg (by omega), if_neg (by omega), if_pos (by omega)]
      rw [show (58 + 29 * q + o - 34) / 29 = q by omega, show (58 + 29 * q + o - 34) % 29 = 24 + o by omega]
    rw [e]
    unfold layS
    rcases h5 with rfl | rfl | rfl | rfl | rfl
    · rw [if_neg (by omega), if_neg (by omega), if_pos (by omega)]
      rw [show 34 + 29 * q + 25 = 58 + 29 * q + 1 by omega, show 34 + 29 * q + 26 = 58 + 29 * q + 2 by omega, show 34 + 29 * q + 27 = 58 + 29 * q + 3 by omega, show 34 + 29 * q + 28 = 58 + 29 * q + 4 by omega]
      rfl
    · rfl
    · rfl
    · rfl
    · rfl
theorem ar_wn {b : Nat} (B : NB b) : ar (b + 1) 10 := by
  have := NB_le B
  exact ⟨by omega, by omega, by rw [lay_N B (by omega)]; rfl, by rw [lay_N B (by omega)]; rfl⟩
theorem ar_tm {b : Nat} (B : NB b) : ar (b + 2) 100 := by
  have := NB_le B
  exact ⟨by omega, by omega, by rw [lay_N B (by omega)]; rfl, by rw [lay_N B (by omega)]; rfl⟩
theorem ar_cn {b : Nat} (B : NB b) : ar (b + 3) 4 := by
  have := NB_le B
  exact ⟨by omega, by omega, by rw [lay_N B (by omega)]; rfl, by rw [lay_N B (by omega)]; rfl⟩
theorem ar_ct {b : Nat} (B : NB b) : ar (b + 4) 4 := by
  have := NB_le B
  exact ⟨by omega, by omega, by rw [lay_N B (by omega)]; rfl, by rw [lay_N B (by omega)]; rfl⟩
theorem lay_N0 {b : Nat} (B : NB b) : lay b = (2, 9, [b + 1, 0, 0, b + 2, 0, 0, b + 3, b + 4, 0]) := lay_N (o := 0) B (by omega)
theorem rf_N {b j c : Nat} (B : NB b) (hj : j < 9) (e : ([b + 1, 0, 0, b + 2, 0, 0, b + 3, b + 4, 0] : List Nat).getD j 0 = c) (hc : c ≠ 0) : rf b 2 j c := by
  have := NB_le B
  exact ⟨by omega, by omega, by rw [lay_N0 B], by omega, by rw [lay_N0 B]; exact hj, by rw [lay_N0 B]; exact e, hc⟩
theorem fd_N {b j : Nat} (B : NB b) (hj : j < 9) (e : ([b + 1, 0, 0, b + 2, 0, 0, b + 3, b + 4, 0] : List Nat).getD j 0 = 0) : fd b 2 j := by
  have := NB_le B
  exact ⟨by omega, by omega, by rw [lay_N0 B], by omega, by rw [lay_N0 B]; exact hj, by rw [lay_N0 B]; exact e⟩
theorem gR_wn {h : mxH} (W : WF h) {b : Nat} (B : NB b) : gR h b 2 0 = some (b + 1) := gR_at W (rf_N B (by omega) rfl (by omega))
theorem gR_tm {h : mxH} (W : WF h) {b : Nat} (B : NB b) : gR h b 2 3 = some (b + 2) := gR_at W (rf_N B (by omega) rfl (by omega))
theorem gR_cn {h : mxH} (W : WF h) {b : Nat} (B : NB b) : gR h b 2 6 = some (b + 3) := gR_at W (rf_N B (by omega) rfl (by omega))
theorem gR_ct {h : mxH} (W : WF h) {b : Nat} (B : NB b) : gR h b 2 7 = some (b + 4) := gR_at W (rf_N B (by omega) rfl (by omega))
theorem fd_1 {b : Nat} (B : NB b) : fd b 2 1 := fd_N B (by omega) rfl
theorem fd_2 {b : Nat} (B : NB b) : fd b 2 2 := fd_N B (by omega) rfl
theorem fd_4 {b : Nat} (B : NB b) : fd b 2 4 := fd_N B (by omega) rfl
theorem fd_5 {b : Nat} (B : NB b) : fd b 2 5 := fd_N B (by omega) rfl
theorem fd_8 {b : Nat} (B : NB b) : fd b 2 8 := fd_N B (by omega) rfl
theorem isO_N {h : mxH} (W : WF h) {b : Nat} (B : NB b) : isO h b 2 = some () := by
  have := NB_le B
  exact isO_at W ⟨by omega, by omega, by rw [lay_N0 B]⟩
def cm (n : Nat → Int32) : Nat := (n 110).toNatClampNeg
def wd (n : Nat → Int32) : Nat := (n 108).toNatClampNeg
def mn (n : Nat → Int32) : Nat := (n 109).toNatClampNeg
def inw (n : Nat → Int32) : Nat := min (cm n) (wd n)
/-- what holds of the numbers, where no more than j have come -/
def NG (n : Nat → Int32) (j : Nat) : Prop :=
  n 110 = Int32.ofNat (cm n) ∧ cm n ≤ j ∧ n 108 = Int32.ofNat (wd n) ∧ (1 ≤ wd n ∧ wd n ≤ 10) ∧ n 109 = Int32.ofNat (mn n) ∧ (1 ≤ mn n ∧ mn n ≤ 4) ∧
  (∀ k, k < inw n → ∃ v, v < 100 ∧ n (211 + k) = Int32.ofNat v) ∧ (∀ k, k < 4 → n (221 + k) = -1 → n (225 + k) = 0) ∧ (∀ i k, i < 4 → k < 4 → i ≠ k → n (221 + i) = n (221 + k) → n (221 + i) = -1)
/-- the numbers at b are those of n -/
def NR (h : mxH) (b : Nat) (n : Nat → Int32) : Prop :=
  V h b 1 = n 108 ∧ V h b 2 = Int32.ofNat (inw n) ∧ (∀ i, i < inw n → V h (b + 1) i = n (211 + (inw n - 1 - i))) ∧ (∀ k, k < 100 → V h (b + 2) k = n (111 + k)) ∧ V h b 4 = n 110 ∧ V h b 5 = n 109 ∧ (∀ k, k < 4 → V h (b + 3) k = n (221 + k)) ∧ (∀ k, k < 4 → V h (b + 4) k = n (225 + k)) ∧ V h b 8 = n 229
theorem NR_fr {P : Nat → Prop} {h h1 : mxH} {b : Nat} {n : Nat → Int32} (B : NB b) (a : NR h b n) (f : Fr P h h1) (hp : ∀ o, o < 5 → ¬ P (b + o)) : NR h1 b n := by
  have := NB_le B
  have e : ∀ o, o < 5 → V h1 (b + o) = V h (b + o) := fun o ho => Fr_V f (by omega) (hp o ho)
  have e0 : V h1 b = V h b := e 0 (by omega)
  unfold NR
  rw [e0, e 1 (by omega), e 2 (by omega), e 3 (by omega), e 4 (by omega)]
  exact a
theorem NR_congr {h : mxH} {b : Nat} {n m : Nat → Int32} (e : ∀ k, 108 ≤ k → n k = m k) (A : NR h b n) : NR h b m := by
  obtain ⟨a1, a2, a3, a4, a5, a6, a7, a8, a9⟩ := A
  have ei : inw n = inw m := by unfold inw cm wd; rw [e 110 (by omega), e 108 (by omega)]
  refine ⟨a1.trans (e _ (by omega)), by rw [a2, ei], fun i hi => ?_, fun k hk => (a4 k hk).trans (e _ (by omega)), a5.trans (e _ (by omega)), a6.trans (e _ (by omega)), fun k hk => (a7 k hk).trans (e _ (by omega)), fun k hk => (a8 k hk).trans (e _ (by omega)), a9.trans (e _ (by omega))⟩
  rw [← ei] at hi ⊢
  rw [a3 i hi, e _ (by omega)]
theorem n4 {k : Nat} (h : k < 4) : ¬ (4 : Int32) ≤ Int32.ofNat k := nle (a := 4) h
theorem n5 {k : Nat} (h : k < 5) : ¬ (5 : Int32) ≤ Int32.ofNat k := nle (a := 5) h
theorem n10 {k : Nat} (h : k < 10) : ¬ (10 : Int32) ≤ Int32.ofNat k := nle (a := 10) h
theorem n20 {k : Nat} (h : k < 20) : ¬ (20 : Int32) ≤ Int32.ofNat k := nle (a := 20) h
/-- the first counter of a number, of those that are used -/
def ctr (n : Nat → Int32) (p : Int32) : Nat := fst1 (fun k => decide (n (221 + k) = p)) (mn n)
theorem s_counterOf {h : mxH} (W : WF h) {b j : Nat} {n : Nat → Int32} {p : Int32} (B : NB b) (G : NG n j) (A : NR h b n) : fX2_counterOf b p h = some (if ctr n p < mn n then Int32.ofNat (ctr n p) else -1) := by
  obtain ⟨-, -, -, -, g5, g6, -⟩ := G
  obtain ⟨-, -, -, -, -, a6, a7, -, -⟩ := A
  unfold fX2_counterOf ctr
  refine bs (find_loop (fun k => decide (n (221 + k) = p)) (mn n) (fun k hk hp => ?_) (fun k hk hp => ?_) ?_ (by unfold mxF; omega)) ?_
  · have hp : ¬ n (221 + k) = p := by simpa using hp
    simp only [gI_at W (fd_5 B), bN, a6, g5, if_neg (nle hk (by omega)), if_neg (n4 (show k < 4 by omega)), gR_cn W B, ldI_at W (ar_cn B) (show k < 4 by omega), a7 k (by omega), if_neg hp, ofN_succ]
  · have hp : n (221 + k) = p := by simpa using hp
    simp only [gI_at W (fd_5 B), bN, a6, g5, if_neg (nle hk (by omega)), if_neg (n4 (show k < 4 by omega)), gR_cn W B, ldI_at W (ar_cn B) (show k < 4 by omega), a7 k (by omega), if_pos hp]
  · simp only [gI_at W (fd_5 B), bN, a6, g5, if_pos yle]
  · split <;> rfl
theorem s_countOf {h : mxH} (W : WF h) {b j : Nat} {n : Nat → Int32} {p : Int32} (B : NB b) (G : NG n j) (A : NR h b n) : fX2_countOf b p h = some (if ctr n p < mn n then n (225 + ctr n p) else 0) := by
  unfold fX2_countOf
  simp only [isO_N W B, bN, s_counterOf W B G A]
  obtain ⟨-, -, -, -, g5, g6, -⟩ := G
  obtain ⟨-, -, -, -, -, a6, a7, a8, -⟩ := A
  by_cases c : ctr n p < mn n
  · simp only [if_pos c, if_neg (ofN_nn (show ctr n p < 2147483648 by omega)), if_neg (n4 (show ctr n p < 4 by omega)), gR_ct W B, bN, ldI_at W (ar_ct B) (show ctr n p < 4 by omega), a8 _ (show ctr n p < 4 by omega)]
  · simp only [if_neg c]; rfl
theorem s_isNumber {k : Nat} (hk : k < 100) (h : mxH) : fX2_isNumber (Int32.ofNat k) h = some 1 := by
  unfold fX2_isNumber
  rw [if_neg (ofN_nn (by omega)), if_neg (fun q => by have := (ofN_lt (a := 99) (by omega) (by omega)).mp q; omega)]
  rfl
theorem s_timesOf {h : mxH} (W : WF h) {b k : Nat} {n : Nat → Int32} (B : NB b) (A : NR h b n) (hk : k < 100) : fX2_timesOf b (Int32.ofNat k) h = some (n (111 + k)) := by
  unfold fX2_timesOf
  simp only [s_isNumber hk, bN, e10, if_false, gR_tm W B, ldI_at W (ar_tm B) hk, A.2.2.2.1 k hk]
