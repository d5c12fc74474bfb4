/-! THE PURE SIDE, 20: what is read off the merged row; comparisons -/
theorem mnr_spec {n : Nat → Int32} {p : Nat} (hp : p < mcn n) : mnr n p < 100 ∧ hsG n (mnr n p) = true := ⟨(nrL_spec (P := hsG n) (bef_STO n 100) hp).1, (nrL_spec (P := hsG n) (bef_STO n 100) hp).2.1⟩
theorem mcn_100 (n : Nat → Int32) : mcn n ≤ 100 := cnt_le _ _
theorem n100 {k : Nat} (h : k < 100) : ¬ (100 : Int32) ≤ Int32.ofNat k := nle (a := 100) h
theorem s_rowOn {h : mxH} (W : WF h) {n : Nat → Int32} (M : MR h n) {p : Nat} (hp : p < mcn n) : fX1_rowOn 302 (Int32.ofNat p) h = some (Int32.ofNat (mnr n p / 20)) := by
  have h100 := mcn_100 n
  unfold fX1_rowOn
  simp only [if_neg (ofN_nn (show p < 2147483648 by omega)), if_neg (n100 (show p < 100 by omega)), gR_mr W, bN, ldI_at W ar_mr (show p < 100 by omega), M.2.1 p hp]
theorem s_mThingOn {h : mxH} (W : WF h) {n : Nat → Int32} (M : MR h n) {p : Nat} (hp : p < mcn n) : fX1_thingOn 302 (Int32.ofNat p) h = some (Int32.ofNat (mnr n p % 20)) := by
  have h100 := mcn_100 n
  unfold fX1_thingOn
  simp only [if_neg (ofN_nn (show p < 2147483648 by omega)), if_neg (n100 (show p < 100 by omega)), gR_mt W, bN, ldI_at W ar_mt (show p < 100 by omega), M.2.2 p hp]
def inM (M g : Nat) : Bool := M.testBit (g / 20)
theorem bit_eq : ∀ M, M < 32 → ∀ r, r < 5 → decide (((Int32.ofNat M >>> (Int32.ofNat r &&& 31)) &&& 1) = 1) = M.testBit r := by decide +kernel
theorem s_isAmong {h : mxH} (W : WF h) {n : Nat → Int32} (M : MR h n) {p m : Nat} (hp : p < mcn n) (hm : m < 32) : fX1_isAmong 302 (Int32.ofNat m) (Int32.ofNat p) h = some (bI (inM m (mnr n p))) := by
  have h1 := (mnr_spec hp).1
  have hr : mnr n p / 20 < 5 := by omega
  unfold fX1_isAmong
  simp only [isO_M W, bN, s_rowOn W M hp, isRow_k hr, e10, if_false]
  unfold inM
  rw [← bit_eq m hm _ hr]
  by_cases c : ((Int32.ofNat m >>> (Int32.ofNat (mnr n p / 20) &&& 31)) &&& 1) = 1
  · rw [if_pos c, decide_eq_true c]; rfl
  · rw [if_neg c, decide_eq_false c]; rfl
def cA (n : Nat → Int32) (m p : Nat) : Nat := cnt (fun q => inM m (mnr n q)) p
theorem s_countItems {h : mxH} (W : WF h) {n : Nat → Int32} (M : MR h n) {m : Nat} (hm : m < 32) : fX1_countItems 302 (Int32.ofNat m) h = some (Int32.ofNat (cA n m (mcn n))) := by
  have h100 := mcn_100 n
  unfold fX1_countItems cA
  refine bs (cnt_loop (fun q => inM m (mnr n q)) (mcn n) (fun k c hk hc => ?_) (fun c => ?_) (by unfold mxF; omega)) rfl
  · simp only [gI_at W fd_mc, bN, M.1, if_neg (nle hk (by omega)), isO_M W, s_isAmong W M hk hm, bI_0, ofN_succ]
    cases inM m (mnr n k) <;> simp
  · simp only [gI_at W fd_mc, bN, M.1, if_pos yle]
/-- how far the merging compares, in the merged row -/
def cpE (n : Nat → Int32) (a b : Nat) : Nat := fst1 (fun p => decide (cA n a p = cA n a (mcn n)) || decide (cA n b p = cA n b (mcn n))) (mcn n)
def cmpv (n : Nat → Int32) (a b : Nat) : Nat := cA n a (cpE n a b) + cA n b (cpE n a b)
theorem s_countComparisons {h : mxH} (W : WF h) {n : Nat → Int32} (M : MR h n) {a b : Nat} (ha : a < 32) (hb : b < 32) (hd : ∀ i, i < 5 → a.testBit i = true → b.testBit i = false) : fX1_countComparisons 302 (Int32.ofNat a) (Int32.ofNat b) h = some (Int32.ofNat (cmpv n a b)) := by
  have h100 := mcn_100 n
  unfold fX1_countComparisons cmpv
  simp only [isO_M W, bN, s_countItems W M ha, s_countItems W M hb]
  have hl : cpE n a b ≤ mcn n := fst1_le _ _
  have hs := fst1_spec (fun p => decide (cA n a p = cA n a (mcn n)) || decide (cA n b p = cA n b (mcn n))) (mcn n)
  have ca : ∀ m p, p ≤ mcn n → cA n m p ≤ cA n m (mcn n) := fun m p hp => cnt_mono_n hp
  have cb : ∀ m p, cA n m p ≤ p := fun m p => cnt_le _ _
  refine bs (a := Int32.ofNat (cA n a (cpE n a b) + cA n b (cpE n a b))) (mxLoop_find (S := fun p => (Int32.ofNat (cA n a (mcn n) - cA n a p), Int32.ofNat (cA n b (mcn n) - cA n b p), Int32.ofNat (cA n a p + cA n b p), Int32.ofNat p)) (K := cpE n a b) (fun p hp => ?_) ?_ (Nat.lt_of_le_of_lt hl (by unfold mxF; omega))) rfl
  · have hp2 : p < mcn n := Nat.lt_of_lt_of_le hp hl
    have := hs.1 p hp
    simp only [Bool.or_eq_false_iff, decide_eq_false_iff_not] at this
    have a1 := ca a p (by omega)
    have a2 := ca b p (by omega)
    have a3 := cb a p
    have a4 := cb b p
    have a5 := cb a (mcn n)
    have a6 := cb b (mcn n)
    simp only [gI_at W fd_mc, bN, M.1, if_neg (nle hp2 (by omega)), if_neg (show ¬ Int32.ofNat (cA n a (mcn n) - cA n a p) ≤ 0 from nle (b := 0) (show 0 < cA n a (mcn n) - cA n a p by omega) (by omega)), if_neg (show ¬ Int32.ofNat (cA n b (mcn n) - cA n b p) ≤ 0 from nle (b := 0) (show 0 < cA n b (mcn n) - cA n b p by omega) (by omega)), isO_M W, s_isAmong W M hp2 ha, s_isAmong W M hp2 hb, bI_0, ofN_succ, ofN_pred (show 1 ≤ cA n a (mcn n) - cA n a p by omega) (by omega), ofN_pred (show 1 ≤ cA n b (mcn n) - cA n b p by omega) (by omega)]
    have sA : ∀ m, cA n m (p + 1) = cA n m p + if inM m (mnr n p) then 1 else 0 := fun m => rfl
    have hr : mnr n p / 20 < 5 := by have := (mnr_spec hp2).1; omega
    by_cases c1 : inM a (mnr n p) = true
    · have c2 : inM b (mnr n p) = false := hd _ hr c1
      simp only [sA, c1, c2, Bool.true_eq_false, Bool.false_eq_true, if_false, if_true, bN, Nat.add_zero]
      rw [show cA n a (mcn n) - cA n a p - 1 = cA n a (mcn n) - (cA n a p + 1) by omega, show cA n a p + cA n b p + 1 = cA n a p + 1 + cA n b p by omega]
    · have c1 : inM a (mnr n p) = false := by simpa using c1
      by_cases c2 : inM b (mnr n p) = true
      · simp only [sA, c1, c2, Bool.true_eq_false, Bool.false_eq_true, if_false, if_true, bN, Nat.add_zero]
        rw [show cA n b (mcn n) - cA n b p - 1 = cA n b (mcn n) - (cA n b p + 1) by omega, show cA n a p + cA n b p + 1 = cA n a p + (cA n b p + 1) by omega]
      · have c2 : inM b (mnr n p) = false := by simpa using c2
        simp only [sA, c1, c2, Bool.false_eq_true, if_false, if_true, bN, Nat.add_zero]
  · simp only [gI_at W fd_mc, bN, M.1]
    by_cases c : cpE n a b < mcn n
    · have := hs.2 c
      rw [if_neg (nle c (by omega))]
      simp only [Bool.or_eq_true, decide_eq_true_eq] at this
      by_cases c1 : cA n a (cpE n a b) = cA n a (mcn n)
      · rw [if_pos (show Int32.ofNat (cA n a (mcn n) - cA n a (cpE n a b)) ≤ 0 by rw [c1, Nat.sub_self]; exact yle)]
      · have c2 := this.resolve_left c1
        have c2 : cA n b (cpE n a b) = cA n b (mcn n) := c2
        by_cases c3 : Int32.ofNat (cA n a (mcn n) - cA n a (cpE n a b)) ≤ 0
        · rw [if_pos c3]
        · rw [if_neg c3, if_pos (show Int32.ofNat (cA n b (mcn n) - cA n b (cpE n a b)) ≤ 0 by rw [c2, Nat.sub_self]; exact yle)]
    · rw [if_pos (show Int32.ofNat (mcn n) ≤ Int32.ofNat (cpE n a b) by rw [show cpE n a b = mcn n by omega]; exact yle)]
def cmpAll (n : Nat → Int32) : Int32 := Int32.ofNat (cmpv n 1 2) + Int32.ofNat (cmpv n 4 8) + Int32.ofNat (cmpv n 3 12) + Int32.ofNat (cmpv n 15 16)
theorem s_countAll {h : mxH} (W : WF h) {n : Nat → Int32} (M : MR h n) : fX1_countAllComparisons 302 h = some (cmpAll n) := by
  unfold fX1_countAllComparisons cmpAll
  have c1 : fX1_countComparisons 302 1 2 h = some (Int32.ofNat (cmpv n 1 2)) := s_countComparisons W M (a := 1) (b := 2) (by omega) (by omega) (by decide)
  have c2 : fX1_countComparisons 302 4 8 h = some (Int32.ofNat (cmpv n 4 8)) := s_countComparisons W M (a := 4) (b := 8) (by omega) (by omega) (by decide)
  have c3 : fX1_countComparisons 302 3 12 h = some (Int32.ofNat (cmpv n 3 12)) := s_countComparisons W M (a := 3) (b := 12) (by omega) (by omega) (by decide)
  have c4 : fX1_countComparisons 302 15 16 h = some (Int32.ofNat (cmpv n 15 16)) := s_countComparisons W M (a := 15) (b := 16) (by omega) (by omega) (by decide)
  simp only [isO_M W, bN, c1, c2, c3, c4]
theorem mnr_lt {n : Nat → Int32} {p q : Nat} (hpq : p < q) (hq : q < mcn n) : bef n (mnr n p) (mnr n q) = true := nrL_lt (P := hsG n) (bef_STO n 100) hpq hq
theorem s_mFaults {h : mxH} (W : WF h) {r : Nat} {n : Nat → Int32} (R : RB r) (A : RR h r n) (M : MR h n) : fX1_countFaults 302 r h = some 0 := by
  have h100 := mcn_100 n
  unfold fX1_countFaults
  have ah : ∀ p, p + 1 < mcn n → fX1_isAhead 302 (Int32.ofNat p) (Int32.ofNat (p + 1)) r h = some 1 := fun p hp => by
    obtain ⟨g1, g2⟩ := mnr_spec (show p < mcn n by omega)
    obtain ⟨g3, g4⟩ := mnr_spec hp
    have b := bef_iff.mp (mnr_lt (show p < p + 1 by omega) hp)
    have r1 : mnr n p / 20 < 5 := by omega
    have r2 : mnr n (p + 1) / 20 < 5 := by omega
    have t1 : mnr n p % 20 < 20 := by omega
    have t2 : mnr n (p + 1) % 20 < 20 := by omega
    have m1 : V h (r + 2 + mnr n p / 20) (mnr n p % 20) = n (mnr n p) := by rw [A.1 _ _ r1 t1, show 20 * (mnr n p / 20) + mnr n p % 20 = mnr n p by omega]
    have m2 : V h (r + 2 + mnr n (p + 1) / 20) (mnr n (p + 1) % 20) = n (mnr n (p + 1)) := by rw [A.1 _ _ r2 t2, show 20 * (mnr n (p + 1) / 20) + mnr n (p + 1) % 20 = mnr n (p + 1) by omega]
    unfold fX1_isAhead
    simp only [isO_M W, bN, s_rowOn W M (show p < mcn n by omega), s_rowOn W M hp, s_mThingOn W M (show p < mcn n by omega), s_mThingOn W M hp, isO_R W R, s_markOf W R r1 t1, s_markOf W R r2 t2, m1, m2]
    by_cases c : n (mnr n p) = n (mnr n (p + 1))
    · have b2 : mnr n p < mnr n (p + 1) := by
        rcases b with b | b
        · rw [c] at b; exact (Int32.lt_irrefl b).elim
        · exact b.2
      simp only [c, if_true]
      by_cases c2 : mnr n p / 20 = mnr n (p + 1) / 20
      · simp only [c2, if_true]
        rw [if_neg (nle (show mnr n p % 20 < mnr n (p + 1) % 20 by omega) (by omega))]; rfl
      · rw [if_neg (fun z => c2 ((ofN_eq (by omega) (by omega)).mp z)), if_neg (nle (show mnr n p / 20 < mnr n (p + 1) / 20 by omega) (by omega))]; rfl
    · rw [if_neg c]
      have b1 : n (mnr n (p + 1)) < n (mnr n p) := b.resolve_right (fun z => c z.1)
      rw [if_neg (Int32.not_le.mpr b1)]; rfl
  refine bs (a := 0) (mxLoop_up (S := fun p => ((0 : Int32), Int32.ofNat p)) (N := mcn n - 1) (r := 0) (fun k hk => ?_) ?_ (by unfold mxF; omega)) rfl
  · simp only [gI_at W fd_mc, bN, M.1, ofN_succ, if_neg (nle (show k + 1 < mcn n by omega) (by omega)), isO_M W, ah k (by omega), e10, if_false]
    rfl
  · simp only [gI_at W fd_mc, bN, M.1, ofN_succ]
    rw [if_pos ((ofN_le (by omega) (by omega)).mpr (by omega))]
