/-! THE PURE SIDE, 25: the reference: marks, places, values -/
theorem ar_now : ar 320 230 := ⟨by omega, by omega, rfl, rfl⟩
theorem ar_bfr : ar 321 1840 := ⟨by omega, by omega, rfl, rfl⟩
theorem ar_five : ar 322 5 := ⟨by omega, by omega, rfl, rfl⟩
theorem ar_f1 : ar 323 20 := ⟨by omega, by omega, rfl, rfl⟩
theorem ar_f2 : ar 324 20 := ⟨by omega, by omega, rfl, rfl⟩
theorem ar_kA : ar 325 100 := ⟨by omega, by omega, rfl, rfl⟩
theorem ar_kB : ar 326 100 := ⟨by omega, by omega, rfl, rfl⟩
theorem ar_kC : ar 327 100 := ⟨by omega, by omega, rfl, rfl⟩
theorem ar_cnd : ar 328 6 := ⟨by omega, by omega, rfl, rfl⟩
theorem ar_ord : ar 329 6 := ⟨by omega, by omega, rfl, rfl⟩
theorem ar_lst : ar 330 6 := ⟨by omega, by omega, rfl, rfl⟩
theorem ar_low : ar 332 20 := ⟨by omega, by omega, rfl, rfl⟩
theorem ar_hig : ar 333 20 := ⟨by omega, by omega, rfl, rfl⟩
theorem rf_M {j b : Nat} (hj : j < 16) (e : (lay 319).2.2.getD j 0 = b) (hb : b ≠ 0) : rf 319 10 j b := ⟨by omega, by omega, rfl, by omega, hj, e, hb⟩
theorem gM0 {h : mxH} (W : WF h) : gR h 319 10 0 = some 320 := gR_at W (rf_M (by omega) rfl (by omega))
theorem gM1 {h : mxH} (W : WF h) : gR h 319 10 1 = some 321 := gR_at W (rf_M (by omega) rfl (by omega))
theorem gM4 {h : mxH} (W : WF h) : gR h 319 10 4 = some 322 := gR_at W (rf_M (by omega) rfl (by omega))
theorem gM5 {h : mxH} (W : WF h) : gR h 319 10 5 = some 323 := gR_at W (rf_M (by omega) rfl (by omega))
theorem gM6 {h : mxH} (W : WF h) : gR h 319 10 6 = some 324 := gR_at W (rf_M (by omega) rfl (by omega))
theorem gM7 {h : mxH} (W : WF h) : gR h 319 10 7 = some 325 := gR_at W (rf_M (by omega) rfl (by omega))
theorem gM8 {h : mxH} (W : WF h) : gR h 319 10 8 = some 326 := gR_at W (rf_M (by omega) rfl (by omega))
theorem gM9 {h : mxH} (W : WF h) : gR h 319 10 9 = some 327 := gR_at W (rf_M (by omega) rfl (by omega))
theorem gM10 {h : mxH} (W : WF h) : gR h 319 10 10 = some 328 := gR_at W (rf_M (by omega) rfl (by omega))
theorem gM11 {h : mxH} (W : WF h) : gR h 319 10 11 = some 329 := gR_at W (rf_M (by omega) rfl (by omega))
theorem gM12 {h : mxH} (W : WF h) : gR h 319 10 12 = some 330 := gR_at W (rf_M (by omega) rfl (by omega))
theorem gM13 {h : mxH} (W : WF h) : gR h 319 10 13 = some 331 := gR_at W (rf_M (by omega) rfl (by omega))
theorem gM14 {h : mxH} (W : WF h) : gR h 319 10 14 = some 332 := gR_at W (rf_M (by omega) rfl (by omega))
theorem gM15 {h : mxH} (W : WF h) : gR h 319 10 15 = some 333 := gR_at W (rf_M (by omega) rfl (by omega))
theorem fd_chg : fd 319 10 2 := ⟨by omega, by omega, rfl, by omega, by decide, rfl⟩
theorem fd_thr : fd 319 10 3 := ⟨by omega, by omega, rfl, by omega, by decide, rfl⟩
theorem isO_X {h : mxH} (W : WF h) : isO h 319 10 = some () := isO_at W ⟨by omega, by omega, rfl⟩
theorem ofN_mul (a b : Nat) : Int32.ofNat a * Int32.ofNat b = Int32.ofNat (a * b) := (Int32.ofNat_mul a b).symm
theorem ix (i t : Nat) : (0 + 20 * Int32.ofNat i) + Int32.ofNat t = Int32.ofNat (20 * i + t) := by
  rw [show (0 : Int32) + 20 * Int32.ofNat i = Int32.ofNat (0 + 20 * i) from by rw [← ofN_add, ← ofN_mul]; rfl, ofN_add, Nat.zero_add]
theorem ixa (a : Nat) (i : Nat) : Int32.ofNat a + Int32.ofNat i = Int32.ofNat (a + i) := ofN_add a i
theorem m_thrown {h : mxH} (W : WF h) : fX10_thrown 319 h = some (V h 319 3) := by
  unfold fX10_thrown; rw [gI_at W fd_thr]; rfl
theorem m_fails {h : mxH} (W : WF h) (x : Int32) : fX10_fails 319 x h = some (0, st h 319 3 x) := by
  unfold fX10_fails; rw [pI_at W fd_thr]; rfl
/-- p lies from a to b -/
def inI (p a b : Int32) : Bool := !decide (p < a) && !decide (b < p)
theorem m_in (p a b : Int32) (h : mxH) : fX10_in p a b h = some (bI (inI p a b)) := by
  unfold fX10_in inI
  by_cases c1 : p < a
  · simp [c1, bI, mxZ1]
  · by_cases c2 : b < p
    · simp [c1, c2, bI, mxZ1]
    · simp [c1, c2, bI, mxZ1]
theorem inI_N {p : Int32} {n : Nat} (hn : 1 ≤ n) (hn2 : n < 2147483648) : inI p 0 (Int32.ofNat (n - 1)) = inN p n := by
  unfold inI inN
  have e0 : (0 : Int32).toInt = 0 := by decide
  by_cases c1 : p < 0
  · simp [c1]
  · have : decide (Int32.ofNat (n - 1) < p) = !decide (p < Int32.ofNat n) := by
      by_cases c2 : p < Int32.ofNat n
      · rw [decide_eq_true c2, decide_eq_false]
        · rfl
        · rw [i32_lt, ofN_int (by omega)] at *; omega
      · rw [decide_eq_false c2, decide_eq_true]
        · rfl
        · rw [i32_lt, ofN_int (by omega)] at *; omega
    rw [this, Bool.not_not]
    simp [c1]
theorem m_isRow (p : Int32) (h : mxH) : fX10_isRow p h = some (bI (inN p 5)) := by
  unfold fX10_isRow
  rw [m_in, show inI p 0 4 = inN p 5 from inI_N (n := 5) (by omega) (by omega)]
  simp only [bN, z1_bI]
theorem m_isThing (p : Int32) (h : mxH) : fX10_isThing p h = some (bI (inN p 20)) := by
  unfold fX10_isThing
  rw [m_in, show inI p 0 19 = inN p 20 from inI_N (n := 20) (by omega) (by omega)]
  simp only [bN, z1_bI]
theorem m_isK (p : Int32) (h : mxH) : fX10_isK p h = some (bI (inI p 1 20)) := by
  unfold fX10_isK
  rw [m_in]
  simp only [bN, z1_bI]
section
variable {h : mxH} {n : Nat → Int32}
theorem m_mark (W : WF h) (e : V h 320 = n) {i t : Nat} (hi : i < 5) (ht : t < 20) : fX10_mark 319 (Int32.ofNat i) (Int32.ofNat t) h = some (n (20 * i + t)) := by
  unfold fX10_mark
  simp only [gM0 W, bN, ix, ldI_at W ar_now (show 20 * i + t < 230 by omega), e]
theorem m_has (W : WF h) (e : V h 320 = n) {i t : Nat} (hi : i < 5) (ht : t < 20) : fX10_has 319 (Int32.ofNat i) (Int32.ofNat t) h = some (bI (hs n i t)) := by
  unfold fX10_has hs
  simp only [isO_X W, bN, m_mark W e hi ht]
  by_cases c : n (20 * i + t) = -1
  · simp [c, bI, mxZ1]
  · simp [c, bI, mxZ1]
theorem m_items (W : WF h) (e : V h 320 = n) {i : Nat} (hi : i < 5) : fX10_items 319 (Int32.ofNat i) h = some (Int32.ofNat (itm n i)) := by
  unfold fX10_items itm
  refine bs (cnt_loop (hs n i) 20 (fun k c hk hc => ?_) (fun c => if_pos yle)) rfl
  simp only [if_neg (n20 hk), isO_X W, bN, m_has W e hi hk, bI_0, ofN_succ]
  cases hs n i k <;> simp
theorem m_allItems (W : WF h) (e : V h 320 = n) : fX10_allItems 319 h = some (Int32.ofNat (fo (fun s i => s + itm n i) 0 5)) := by
  unfold fX10_allItems
  refine bs (nat_loop (fun s i => s + itm n i) 0 5 (fun k hk => ?_) (fun c => if_pos yle)) rfl
  simp only [if_neg (n5 hk), isO_X W, bN, m_items W e hk, ofN_succ, ofN_add]
theorem m_longest (W : WF h) (e : V h 320 = n) : fX10_longest 319 h = some (Int32.ofNat (dpt n)) := by
  unfold fX10_longest dpt
  refine bs (nat_loop (fun s i => max s (itm n i)) 0 5 (fun k hk => ?_) (fun c => if_pos yle)) rfl
  have h1 := itm_20 n k
  have h2 : fo (fun s i => max s (itm n i)) 0 k ≤ 20 := fo_ind (fun m => m ≤ 20) (by omega) (fun m k _ hm => by
    have := itm_20 n k
    show max m (itm n k) ≤ 20
    omega)
  simp only [if_neg (n5 hk), isO_X W, bN, m_items W e hk, ofN_succ, mxMax_N (show fo (fun s i => max s (itm n i)) 0 k < 2147483648 by omega) (show itm n k < 2147483648 by omega)]
theorem m_readsAt (W : WF h) (e : V h 320 = n) {d : Nat} (hd : d ≤ 20) : fX10_readsAt 319 (Int32.ofNat d) h = some (Int32.ofNat (rdN n d)) := by
  unfold fX10_readsAt rdN
  refine bs (nat_loop (fun s i => s + min (itm n i) d) 0 5 (fun k hk => ?_) (fun c => if_pos yle)) rfl
  have h1 := itm_20 n k
  simp only [if_neg (n5 hk), isO_X W, bN, m_items W e hk, ofN_succ, mxMin_N (show itm n k < 2147483648 by omega) (show d < 2147483648 by omega), ofN_add]
theorem m_place (W : WF h) (e : V h 320 = n) {i t : Nat} (hi : i < 5) (ht : t < 20) : fX10_place 319 (Int32.ofNat i) (Int32.ofNat t) h = some (Int32.ofNat (pla n i t)) := by
  unfold fX10_place pla
  refine bs (cnt_loop (fun s => bef (mkf n i) s t) 20 (fun k c hk hc => ?_) (fun c => if_pos yle)) rfl
  simp only [if_neg (n20 hk), isO_X W, bN, m_mark W e hi hk, m_mark W e hi ht, ofN_succ, bef, mkf]
  by_cases c1 : n (20 * i + t) < n (20 * i + k)
  · simp [c1]
  · by_cases c2 : n (20 * i + k) = n (20 * i + t)
    · by_cases c3 : t ≤ k
      · simp [c2, (ofN_le (show t < 2147483648 by omega) (show k < 2147483648 by omega)).mpr c3, Nat.not_lt.mpr c3, Int32.lt_irrefl]
      · have c4 : ¬ Int32.ofNat t ≤ Int32.ofNat k := fun z => c3 ((ofN_le (by omega) (by omega)).mp z)
        simp [c2, c4, Nat.not_le.mp c3, Int32.lt_irrefl]
    · simp [c1, c2]
theorem m_thingIn (G : MG n) (W : WF h) (e : V h 320 = n) {i p : Nat} (hi : i < 5) (hp : p < itm n i) : fX10_thingIn 319 (Int32.ofNat i) (Int32.ofNat p) h = some (Int32.ofNat (thi n i p)) := by
  have h20 := itm_20 n i
  unfold fX10_thingIn
  have hf := (thi_spec G hi hp).1
  have hsp := fst1_spec (fun t => hs n i t && (pla n i t == p)) 20
  refine bs (mxLoop_find (S := fun k => Int32.ofNat k) (K := thi n i p) (fun k hk => ?_) ?_ (by unfold mxF; omega)) rfl
  · have hk20 : k < 20 := by omega
    have hq := hsp.1 k hk
    have hb := pla_20 (n := n) (r := i) hk20
    simp only [isO_X W, bN, m_has W e hi hk20, m_place W e hi hk20, bI_0, ofN_succ]
    cases c : hs n i k
    · simp
    · simp only [c, Bool.true_and, beq_eq_false_iff_ne] at hq
      simp only [Bool.true_eq_false, if_false, bN]
      rw [if_neg (fun z => hq ((ofN_eq (by omega) (by omega)).mp z))]
  · have hq := hsp.2 hf
    simp only [Bool.and_eq_true, beq_iff_eq] at hq
    have q1 : hs n i (thi n i p) = true := hq.1
    have q2 : pla n i (thi n i p) = p := hq.2
    simp only [isO_X W, bN, m_has W e hi hf, m_place W e hi hf, bI_0, q1, q2, Bool.true_eq_false, if_false, if_true]
theorem or_loop {f : Int32 × Int32 → Option ((Int32 × Int32) ⊕ Int32)} (p : Nat → Bool) (N : Nat) (step : ∀ k b, k < N → f (bI b, Int32.ofNat k) = some (.inl (bI (b || p k), Int32.ofNat (k + 1)))) (last : ∀ c, f (c, Int32.ofNat N) = some (.inr c)) (hN : N < mxF := by decide) : mxLoop f mxF (0, 0) = some (bI (orT p N)) :=
  mxLoop_up (S := fun k => (bI (orT p k), Int32.ofNat k)) (N := N) (fun k hk => step k _ hk) (last _) hN
theorem knw_hs {n : Nat → Int32} {t : Nat} (ht : t < 20) : knw n t = orT (fun i => hs n i t) 5 := by
  unfold knw rdAt rdI
  exact orT_congr (fun i _ => by rw [decide_eq_true (pla_20 ht), Bool.and_true])
theorem m_isKnown (W : WF h) (e : V h 320 = n) {t : Nat} (ht : t < 20) : fX10_isKnown 319 (Int32.ofNat t) h = some (bI (knw n t)) := by
  unfold fX10_isKnown
  rw [knw_hs ht]
  refine bs (or_loop (fun i => hs n i t) 5 (fun k b hk => ?_) (fun c => if_pos yle)) (by simp only [z1_bI, bN])
  simp only [if_neg (n5 hk), isO_X W, bN, m_has W e hk ht, bI_0, ofN_succ]
  cases b
  · cases hs n k t <;> simp [bI]
  · simp [bI]
theorem m_isRead (W : WF h) (e : V h 320 = n) {i t d : Nat} (hi : i < 5) (ht : t < 20) (hd : d ≤ 20) : fX10_isRead 319 (Int32.ofNat i) (Int32.ofNat t) (Int32.ofNat d) h = some (bI (rdI n i t d)) := by
  have hb := pla_20 (n := n) (r := i) ht
  unfold fX10_isRead rdI
  simp only [isO_X W, bN, m_has W e hi ht, m_place W e hi ht, bI_0, ofN_le (show d < 2147483648 by omega) (show pla n i t < 2147483648 by omega)]
  cases hs n i t
  · rfl
  · by_cases c : d ≤ pla n i t
    · simp only [Bool.true_eq_false, if_false, c, if_true, bN, Bool.true_and, decide_eq_false (show ¬ pla n i t < d by omega)]; rfl
    · simp only [Bool.true_eq_false, if_false, c, bN, Bool.true_and, decide_eq_true (show pla n i t < d by omega)]; rfl
theorem m_isReadAt (W : WF h) (e : V h 320 = n) {t d : Nat} (ht : t < 20) (hd : d ≤ 20) : fX10_isReadAt 319 (Int32.ofNat t) (Int32.ofNat d) h = some (bI (rdAt n t d)) := by
  unfold fX10_isReadAt rdAt
  refine bs (or_loop (fun i => rdI n i t d) 5 (fun k b hk => ?_) (fun c => if_pos yle)) (by simp only [z1_bI, bN])
  simp only [if_neg (n5 hk), isO_X W, bN, m_isRead W e hk ht hd, bI_0, ofN_succ]
  cases b
  · cases rdI n k t d <;> simp [bI]
  · simp [bI]
theorem m_weighted (W : WF h) (e : V h 320 = n) {i t : Nat} (hi : i < 5) (ht : t < 20) : fX10_weighted 319 (Int32.ofNat i) (Int32.ofNat t) h = some (wm n i t) := by
  unfold fX10_weighted wm
  simp only [isO_X W, bN, m_has W e hi ht, m_mark W e hi ht, bI_0, gM0 W, show (100 : Int32) + Int32.ofNat i = Int32.ofNat (100 + i) from ixa 100 i, ldI_at W ar_now (show 100 + i < 230 by omega), e]
  cases hs n i t
  · simp
  · simp [Int32.mul_comm]
theorem m_lastMark (G : MG n) (W : WF h) (e : V h 320 = n) {i d : Nat} (hi : i < 5) (h1 : 1 ≤ d) (h2 : d ≤ 20) : fX10_lastMark 319 (Int32.ofNat i) (Int32.ofNat d) h = some (lm n i d) := by
  have h20 := itm_20 n i
  unfold fX10_lastMark lm
  simp only [isO_X W, bN, m_items W e hi, ofN_le (show d < 2147483648 by omega) (show itm n i < 2147483648 by omega)]
  by_cases c : d ≤ itm n i
  · rw [if_pos c, if_pos (by omega), ofN_pred h1 (by omega), m_thingIn G W e hi (show d - 1 < itm n i by omega)]
    simp only [bN, m_weighted W e hi (thi_spec G hi (show d - 1 < itm n i by omega)).1]
  · rw [if_neg c, if_neg (by omega)]; rfl
theorem m_ruled (W : WF h) (e : V h 320 = n) {x : Nat → Int32} (hx : ∀ i, i < 5 → V h 322 i = x i) (h0 : ∀ i, i < 5 → 0 ≤ x i) : fX10_ruled 319 h = some (rl n x) := by
  unfold fX10_ruled
  refine bs (a := (sum5 x, max5 x, least5 (fun i => n (100 + i)) x)) ?_ ?_
  · unfold sum5 max5 least5
    refine mxLoop_up (S := fun k => (fo (fun s i => s + x i) 0 k, fo (fun s i => mxMax s (x i)) 0 k, fo (fun s i => if 0 < n (100 + i) ∧ (s = -1 ∨ x i < s) then x i else s) (-1) k, Int32.ofNat k)) (N := 5) (fun k hk => ?_) ?_ (by decide)
    · simp only [if_neg (n5 hk), gM4 W, gM0 W, bN, ldI_at W ar_five hk, hx k hk, show (100 : Int32) + Int32.ofNat k = Int32.ofNat (100 + k) from ixa 100 k, ldI_at W ar_now (show 100 + k < 230 by omega), e, ofN_succ, fo]
      generalize fo (fun s i => if 0 < n (100 + i) ∧ (s = -1 ∨ x i < s) then x i else s) (-1) k = s
      by_cases c1 : n (100 + k) ≤ 0
      · simp [c1, Int32.not_lt.mpr c1]
      · have c1' := Int32.not_le.mp c1
        by_cases c2 : s = -1
        · simp [c1, c1', c2]
        · by_cases c3 : s ≤ x k
          · simp [c1, c2, c3, Int32.not_lt.mpr c3]
          · simp [c1, c1', c2, c3, Int32.not_le.mp c3]
    · exact if_pos yle
  · simp only [gM0 W, bN, show ldI h 320 105 = some (n 105) from (ldI_at W ar_now (k := 105) (by omega)).trans (by rw [e])]
    unfold rl
    by_cases c0 : n 105 = 0
    · simp [c0]
    · by_cases c1 : n 105 = 1
      · simp [c1]
      · simp [c0, c1]
/-! parts -/
theorem fr_now {P : Nat → Prop} {h h1 : mxH} {n : Nat → Int32} (f : Fr P h h1) (hp : ¬ P 320) (e : V h 320 = n) : V h1 320 = n := by rw [Fr_V f (by omega) hp, e]
theorem Ok_mparts (W : WF h) (e : V h 320 = n) {x : Nat → Int32} (h0 : ∀ i, i < 5 → 0 ≤ x i) {f : Int32 × mxH → Option ((Int32 × mxH) ⊕ mxH)}
    (step : ∀ k h1, k < 5 → WF h1 → V h1 320 = n → f (Int32.ofNat k, h1) = some (.inl (Int32.ofNat (k + 1), st h1 322 k (x k)))) (last : ∀ h1, f (Int32.ofNat 5, h1) = some (.inr h1)) :
    Ok (Option.bind (mxLoop (ρ := mxH) f mxF (0, h)) (fun r18 : mxH => Option.bind (isO r18 319 10) (fun _ => Option.bind (fX10_ruled 319 r18) (fun v22 => some (v22, r18))))) (fun o => o.1 = rl n x ∧ Fr (fun b => b = 322) h o.2) := by
  refine Ok_b (P := fun h1 => Fr (fun b => b = 322) h h1 ∧ ∀ i, i < 5 → V h1 322 i = x i) (Ok_loop (fun k s => s.1 = Int32.ofNat k ∧ Fr (fun b => b = 322) h s.2 ∧ ∀ i, i < k → V s.2 322 i = x i) 5 ⟨rfl, Fr.refl W, fun i hi => by omega⟩ ?_ ?_) ?_
  · rintro k ⟨s1, h1⟩ hk ⟨e', F, hv⟩
    obtain rfl := show s1 = _ from e'
    have S := ar_five.sl hk
    refine Ok_e (step k h1 hk F.1 (fr_now F (by omega) e)) ⟨_, rfl, rfl, F.trans (Fr.st F.1 S rfl), fun i hi => ?_⟩
    show V (st _ _ _ _) _ _ = _
    rw [V_st F.1 S]
    by_cases e : i = k
    · rw [if_pos ⟨rfl, e⟩, e]
    · rw [if_neg (fun q => e q.2)]; exact hv i (by omega)
  · rintro ⟨s1, h1⟩ ⟨e', F, hv⟩
    obtain rfl := show s1 = _ from e'
    exact Ok_e (last h1) ⟨_, rfl, F, hv⟩
  · rintro h1 ⟨F, hv⟩
    refine Ok_s (isO_X F.1) (Ok_s (m_ruled F.1 (fr_now F (by omega) e) hv h0) (Ok_p ⟨rfl, F⟩))
theorem m_valueOf (G : MG n) (H : WG n) (W : WF h) (e : V h 320 = n) {t : Nat} (ht : t < 20) : Ok (fX10_valueOf 319 (Int32.ofNat t) h) (fun o => o.1 = val n t ∧ Fr (fun b => b = 322) h o.2) := by
  unfold fX10_valueOf val
  refine Ok_mparts W e (fun i hi => wm_0 G H hi ht) (fun k h1 hk W1 e1 => ?_) (fun h1 => if_pos yle)
  simp only [if_neg (n5 hk), gM4 W1, isO_X W1, bN, m_weighted W1 e1 hk ht, stI_at W1 ar_five hk, ofN_succ]
theorem m_limitAt (G : MG n) (H : WG n) (W : WF h) (e : V h 320 = n) {d : Nat} (h1 : 1 ≤ d) (h2 : d ≤ 20) : Ok (fX10_limitAt 319 (Int32.ofNat d) h) (fun o => o.1 = lim n d ∧ Fr (fun b => b = 322) h o.2) := by
  unfold fX10_limitAt lim
  refine Ok_mparts W e (fun i hi => lm_0 G H hi h1) (fun k h3 hk W1 e1 => ?_) (fun h1 => if_pos yle)
  simp only [if_neg (n5 hk), gM4 W1, isO_X W1, bN, m_lastMark G W1 e1 hk h1 h2, stI_at W1 ar_five hk, ofN_succ]
theorem m_lowerAt (G : MG n) (H : WG n) (W : WF h) (e : V h 320 = n) {t d : Nat} (ht : t < 20) (h2 : d ≤ 20) : Ok (fX10_lowerAt 319 (Int32.ofNat t) (Int32.ofNat d) h) (fun o => o.1 = low n t d ∧ Fr (fun b => b = 322) h o.2) := by
  unfold fX10_lowerAt low
  refine Ok_mparts W e (fun i hi => ?_) (fun k h3 hk W1 e1 => ?_) (fun h1 => if_pos yle)
  · split
    · exact wm_0 G H hi ht
    · decide
  · simp only [if_neg (n5 hk), gM4 W1, isO_X W1, bN, m_isRead W1 e1 hk ht h2, bI_0, m_weighted W1 e1 hk ht, ofN_succ]
    cases rdI n k t d <;> simp [stI_at W1 ar_five hk]
theorem m_upperAt (G : MG n) (H : WG n) (W : WF h) (e : V h 320 = n) {t d : Nat} (ht : t < 20) (h1 : 1 ≤ d) (h2 : d ≤ 20) : Ok (fX10_upperAt 319 (Int32.ofNat t) (Int32.ofNat d) h) (fun o => o.1 = upp n t d ∧ Fr (fun b => b = 322) h o.2) := by
  unfold fX10_upperAt upp
  refine Ok_mparts W e (fun i hi => ?_) (fun k h3 hk W1 e1 => ?_) (fun h1 => if_pos yle)
  · split
    · exact wm_0 G H hi ht
    · exact lm_0 G H hi h1
  · simp only [if_neg (n5 hk), gM4 W1, isO_X W1, bN, m_isRead W1 e1 hk ht h2, bI_0, m_weighted W1 e1 hk ht, m_lastMark G W1 e1 hk h1 h2, ofN_succ]
    cases rdI n k t d <;> simp [stI_at W1 ar_five hk]
end
