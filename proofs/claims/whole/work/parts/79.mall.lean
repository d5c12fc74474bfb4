/-! THE PURE SIDE, 30: the reference: two rows compared, all comparisons -/
theorem bit5 : ∀ r, r < 5 → ∀ i, i < 5 → (1 <<< r).testBit i = (i == r) := by decide +kernel
theorem mQ_row {n : Nat → Int32} {r g : Nat} (hr : r < 5) (hg : g < 100) : mQ n (1 <<< r) g = rwQ n r g := by
  unfold mQ rwQ inM
  rw [bit5 r hr (g / 20) (by omega)]
  by_cases c : g / 20 = r
  · simp [c]
  · simp [c]
theorem cmq_congr {n : Nat → Int32} {P Q P' Q' : Nat → Bool} (h1 : ∀ g, g < 100 → P g = P' g) (h2 : ∀ g, g < 100 → Q g = Q' g) : cmq n P Q = cmq n P' Q' := by
  have n1 : ∀ j, nrL (bef n) P 100 j = nrL (bef n) P' 100 j := fun j => fst1_congr (fun t ht => by rw [h1 t ht, rkL_congr (P' := P') (fun s hs => by rw [h1 s hs])])
  have n2 : ∀ j, nrL (bef n) Q 100 j = nrL (bef n) Q' 100 j := fun j => fst1_congr (fun t ht => by rw [h2 t ht, rkL_congr (P' := Q') (fun s hs => by rw [h2 s hs])])
  have r1 : ∀ x, rkL (bef n) P 100 x = rkL (bef n) P' 100 x := fun x => rkL_congr (fun s hs => by rw [h1 s hs])
  have r2 : ∀ x, rkL (bef n) Q 100 x = rkL (bef n) Q' 100 x := fun x => rkL_congr (fun s hs => by rw [h2 s hs])
  unfold cmq
  rw [cnt_congr h1, cnt_congr h2, n1, n2, r1, r2]
def cpr (n : Nat → Int32) (i j : Nat) : Nat := cmq n (rwQ n i) (rwQ n j)
theorem m_comparedRows {h : mxH} {n : Nat → Int32} (G : MG n) (W : WF h) (e : V h 320 = n) {i j : Nat} (hi : i < 5) (hj : j < 5) (hij : i ≠ j) : Ok (fX10_comparedRows 319 (Int32.ofNat i) (Int32.ofNat j) h) (fun o => o.1 = Int32.ofNat (cpr n i j) ∧ Fr (fun b => b = 325 ∨ b = 326) h o.2) := by
  unfold fX10_comparedRows
  simp only [gM7 W, isO_X W, bN]
  refine Ok_b (m_keysRow G W e (a := 325) (Or.inl rfl) hi) (fun o ⟨o1, o2, o3⟩ => ?_)
  have W1 := o2.1
  simp only [gM8 W1, isO_X W1, bN]
  refine Ok_b (m_keysRow G W1 (fr_now o2 (by omega) e) (a := 326) (Or.inr (Or.inl rfl)) hj) (fun p ⟨p1, p2, p3⟩ => ?_)
  have W2 := p2.1
  have k1 := KA_fr o3 p2 (by omega) (by omega)
  rw [o1, p1]
  simp only [gM7 W2, gM8 W2, bN]
  rw [m_compared G W2 (a := 325) (b := 326) (Q1 := rwQ n i) (Q2 := rwQ n j) ar_kA ar_kB k1 p3 (fun g _ q => by simp only [rwQ, Bool.and_eq_true] at q; exact q.1) (fun g _ q => by simp only [rwQ, Bool.and_eq_true] at q; exact q.1) (fun g _ q => by
    simp only [rwQ, Bool.and_eq_true, decide_eq_true_eq] at q
    unfold rwQ
    rw [decide_eq_false (by omega), Bool.and_false])]
  exact Ok_p ⟨rfl, (o2.mono (fun b z => Or.inl z)).trans (p2.mono (fun b z => Or.inr z))⟩
def rw2Q (n : Nat → Int32) (i j : Nat) : Nat → Bool := fun g => rwQ n i g || rwQ n j g
theorem m_both {h : mxH} {n : Nat → Int32} (G : MG n) (W : WF h) (e : V h 320 = n) {a i j : Nat} (ha : a = 325 ∨ a = 326) (hi : i < 5) (hj : j < 5) (hij : i ≠ j) : Ok (fX10_both 319 a (Int32.ofNat i) (Int32.ofNat j) h) (fun o => o.1 = Int32.ofNat (cnt (rw2Q n i j) 100) ∧ Fr (fun b => b = a ∨ b = 327) h o.2 ∧ KA o.2 a n (rw2Q n i j)) := by
  have S := bef_STO n 100
  have A : ar a 100 := by rcases ha with rfl | rfl <;> exact ⟨by omega, by omega, rfl, rfl⟩
  have a327 : a ≠ 327 := by rcases ha with rfl | rfl <;> omega
  have a320 : a ≠ 320 := by rcases ha with rfl | rfl <;> omega
  have a335 : a < 335 := A.2.1
  unfold fX10_both
  simp only [isO_X W, bN]
  refine Ok_b (m_keysRow G W e (a := a) (by omega) hi) (fun o ⟨o1, o2, o3⟩ => ?_)
  have W1 := o2.1
  simp only [gM9 W1, isO_X W1, bN]
  refine Ok_b (m_keysRow G W1 (fr_now o2 (by omega) e) (a := 327) (Or.inr (Or.inr rfl)) hj) (fun p ⟨p1, p2, p3⟩ => ?_)
  have k1 := KA_fr o3 p2 a335 a327
  have F0 : Fr (fun b => b = a ∨ b = 327) h p.2 := (o2.mono (fun b z => Or.inl z)).trans (p2.mono (fun b z => Or.inr z))
  rw [o1, p1]
  have h2 : ∀ k, k < cnt (rwQ n j) 100 → nrL (bef n) (rwQ n j) 100 k < 100 ∧ rwQ n j (nrL (bef n) (rwQ n j) 100 k) = true ∧ rkL (bef n) (rwQ n j) 100 (nrL (bef n) (rwQ n j) 100 k) = k := fun k hk => nrL_spec S hk
  have h2b : ∀ g, g < 100 → rwQ n j g = true → nrL (bef n) (rwQ n j) 100 (rkL (bef n) (rwQ n j) 100 g) = g ∧ rkL (bef n) (rwQ n j) 100 g < cnt (rwQ n j) 100 := fun g hg q => ⟨nrL_of S hg q, rkL_cnt S hg q⟩
  have c100 : cnt (rwQ n j) 100 ≤ 100 := cnt_le _ _
  have e0 : ∀ g, g < 100 → rwQ n i g = (rwQ n i g || (rwQ n j g && decide (rkL (bef n) (rwQ n j) 100 g < 0))) := fun g _ => by
    rw [decide_eq_false (by omega), Bool.and_false, Bool.or_false]
  refine Ok_b (P := fun q : Int32 × mxH => q.1 = Int32.ofNat (cnt (rw2Q n i j) 100) ∧ Fr (fun b => b = a ∨ b = 327) h q.2 ∧ KA q.2 a n (rw2Q n i j)) (Ok_loop (fun k s => s.2.1 = Int32.ofNat k ∧ Fr (fun b => b = a) p.2 s.2.2 ∧ s.1 = Int32.ofNat (cnt (fun g => rwQ n i g || (rwQ n j g && decide (rkL (bef n) (rwQ n j) 100 g < k))) 100) ∧ KA s.2.2 a n (fun g => rwQ n i g || (rwQ n j g && decide (rkL (bef n) (rwQ n j) 100 g < k)))) (cnt (rwQ n j) 100) ⟨rfl, Fr.refl p2.1, by rw [cnt_congr e0], KA_congr k1 e0⟩ ?_ ?_ (by unfold mxF; omega)) (fun q H => Ok_p H)
  · rintro k ⟨s1, s2, h1⟩ hk ⟨e1, F, e2, K1⟩
    obtain rfl := show s2 = _ from e1
    obtain rfl := show s1 = _ from e2
    have F : Fr (fun b => b = a) p.2 h1 := F
    have K1 : KA h1 a n (fun g => rwQ n i g || (rwQ n j g && decide (rkL (bef n) (rwQ n j) 100 g < k))) := K1
    have W3 := F.1
    obtain ⟨x1, x2, x3⟩ := h2 k hk
    have k2 := KA_fr p3 F (by omega) (fun z => a327 z.symm)
    have v327 := k2 k hk
    generalize hx : nrL (bef n) (rwQ n j) 100 k = x at x1 x2 x3 v327
    have step : ∀ g, g < 100 → ((rwQ n i g || (rwQ n j g && decide (rkL (bef n) (rwQ n j) 100 g < k))) || (g == x)) = (rwQ n i g || (rwQ n j g && decide (rkL (bef n) (rwQ n j) 100 g < k + 1))) := fun g hg => by
      by_cases c : g = x
      · rw [c, x2, x3, decide_eq_true (show k < k + 1 by omega)]; simp
      · rw [show (g == x) = false by simpa using c, Bool.or_false]
        cases q : rwQ n j g
        · rfl
        · have : rkL (bef n) (rwQ n j) 100 g ≠ k := fun z => c (by rw [← (h2b g hg q).1, z, hx])
          by_cases c2 : rkL (bef n) (rwQ n j) 100 g < k
          · rw [decide_eq_true c2, decide_eq_true (show rkL (bef n) (rwQ n j) 100 g < k + 1 by omega)]
          · rw [decide_eq_false c2, decide_eq_false (show ¬ rkL (bef n) (rwQ n j) 100 g < k + 1 by omega)]
    have xi : rwQ n i x = false := by
      simp only [rwQ, Bool.and_eq_true, decide_eq_true_eq] at x2
      unfold rwQ
      rw [decide_eq_false (by omega), Bool.and_false]
    have xh : hsG n x = true := by simp only [rwQ, Bool.and_eq_true] at x2; exact x2.1
    have px : (rwQ n i x || (rwQ n j x && decide (rkL (bef n) (rwQ n j) 100 x < k))) = false := by
      rw [xi, x3, decide_eq_false (by omega), Bool.and_false]; rfl
    have qh : ∀ g, g < 100 → (rwQ n i g || (rwQ n j g && decide (rkL (bef n) (rwQ n j) 100 g < k))) = true → hsG n g = true := fun g hg q => by
      simp only [rwQ, Bool.or_eq_true, Bool.and_eq_true] at q
      rcases q with q | q
      · exact q.1
      · exact q.1.1
    generalize hP : (fun g => rwQ n i g || (rwQ n j g && decide (rkL (bef n) (rwQ n j) 100 g < k))) = P at K1
    have hP2 : ∀ g, (rwQ n i g || (rwQ n j g && decide (rkL (bef n) (rwQ n j) 100 g < k))) = P g := fun g => by rw [← hP]
    rw [hP2] at px
    have qh : ∀ g, g < 100 → P g = true → hsG n g = true := fun g hg q => qh g hg (by rw [hP2]; exact q)
    have step : ∀ g, g < 100 → (P g || (g == x)) = (rwQ n i g || (rwQ n j g && decide (rkL (bef n) (rwQ n j) 100 g < k + 1))) := fun g hg => by rw [← step g hg, hP2]
    have h100 : cnt P 100 < 100 := by
      have h2 : cnt P 100 < cnt (fun _ => true) 100 := cnt_lt (fun _ _ _ => rfl) x1 px rfl
      rw [cnt_all] at h2; exact h2
    have spec : ∀ t, t < cnt P 100 → nrL (bef n) P 100 t < 100 ∧ P (nrL (bef n) P 100 t) = true := fun t ht => ⟨(nrL_spec S ht).1, (nrL_spec S ht).2.1⟩
    simp only [if_neg (nle hk (by omega)), ofN_succ]
    refine Ok_b (k_insert W3 (a := a) (cap := 100) (m := cnt P 100) (x := x) (lt := bef n) (E := nrL (bef n) P 100) (w := ky n) A h100 (by omega) (fun t ht => ky_cmp G (spec t ht).1 x1 (qh _ (spec t ht).1 (spec t ht).2) xh (fun z => by have := (spec t ht).2; rw [z, px] at this; cases this)) K1 rfl (fun h2 => if_pos yle) (fun h2 t ht F2 => ?_)) (fun o ⟨pos, p1, p2, p3, p4, p5, p6, p7⟩ => ?_)
    · have c1 : ¬ Int32.ofNat (t + 1) ≤ 0 := nle (b := 0) (a := t + 1) (by omega) (by omega)
      have e327 : V h2 327 k = ky n x := by rw [Fr_V F2 (by omega) (fun z => a327 z.symm)]; exact v327
      simp only [if_neg c1, ofN_pred (show 1 ≤ t + 1 by omega) (show t + 1 < 2147483648 by omega), Nat.add_sub_cancel, ldI_at F2.1 A (show t < 100 by omega), bN, gM9 F2.1, ldI_at F2.1 ar_kC (show k < 100 by omega), e327, stI_at F2.1 A (show t + 1 < 100 by omega)]
    · have W4 := p3.1
      obtain ⟨q1, q2⟩ := KA_ins (h := o.2) W4 (a := a) (x := x) (pos := pos) (n := n) (Q := P) A x1 px p1 h100 p4 p5 p6 p7
      have e327 : V o.2 327 k = ky n x := by rw [Fr_V p3 (by omega) (fun z => a327 z.symm)]; exact v327
      rw [p2]
      simp only [gM9 W4, bN, ldI_at W4 ar_kC (show k < 100 by omega), e327, stI_at W4 A (show pos < 100 by omega), ofN_succ]
      exact Ok_p ⟨_, rfl, rfl, (F.trans p3).trans (Fr.st W4 (A.sl (show pos < 100 by omega)) rfl), by show Int32.ofNat _ = Int32.ofNat _; rw [← q2, cnt_congr step], KA_congr q1 step⟩
  · rintro ⟨s1, s2, h1⟩ ⟨e1, F, e2, K1⟩
    obtain rfl := show s2 = _ from e1
    obtain rfl := show s1 = _ from e2
    have fin : ∀ g, g < 100 → (rwQ n i g || (rwQ n j g && decide (rkL (bef n) (rwQ n j) 100 g < cnt (rwQ n j) 100))) = rw2Q n i j g := fun g hg => by
      unfold rw2Q
      cases q : rwQ n j g
      · rfl
      · rw [decide_eq_true (h2b g hg q).2, Bool.and_true]
    refine Ok_e (a := .inr (Int32.ofNat (cnt (fun g => rwQ n i g || (rwQ n j g && decide (rkL (bef n) (rwQ n j) 100 g < cnt (rwQ n j) 100))) 100), h1)) (if_pos yle) ⟨(Int32.ofNat (cnt (fun g => rwQ n i g || (rwQ n j g && decide (rkL (bef n) (rwQ n j) 100 g < cnt (rwQ n j) 100))) 100), h1), rfl, ?_, F0.trans (F.mono (fun b z => Or.inl z)), KA_congr K1 fin⟩
    show Int32.ofNat _ = Int32.ofNat _
    rw [cnt_congr fin]
theorem div_N {a b : Nat} (ha : a < 2147483648) (h0 : 0 < b) (hb : b < 2147483648) : Int32.ofNat a / Int32.ofNat b = Int32.ofNat (a / b) := by
  have hq := Nat.div_le_self a b
  rw [i32_eq, Int32.toInt_div_of_ne_right _ _ (ofN_nm hb), ofN_int ha, ofN_int hb, ofN_int (by omega)]
  exact (Int.ofNat_tdiv a b).symm
def upQ (n : Nat → Int32) : Nat → Bool := fun g => hsG n g && !decide (g / 20 = 4)
theorem ky_row {n : Nat → Int32} {g : Nat} (hg : g < 100) : (ky n g - ky n g / 100 * 100) / 20 = Int32.ofNat (g / 20) := by
  have k1 := ky_b (n := n) hg
  unfold ky
  have hm : kyN n g % 100 = g := by unfold kyN; omega
  rw [show (100 : Int32) = Int32.ofNat 100 from rfl, show (20 : Int32) = Int32.ofNat 20 from rfl, div_N (by omega) (by omega) (by omega), ofN_mul, sub_N (by omega) (by omega), div_N (by omega) (by omega) (by omega)]
  congr 1
  omega
theorem ky_thing {n : Nat → Int32} {g : Nat} (hg : g < 100) : ky n g - ky n g / 20 * 20 = Int32.ofNat (g % 20) := by
  have k1 := ky_b (n := n) hg
  unfold ky
  have hm : kyN n g % 100 = g := by unfold kyN; omega
  rw [show (20 : Int32) = Int32.ofNat 20 from rfl, div_N (by omega) (by omega) (by omega), ofN_mul, sub_N (by omega) (by omega)]
  congr 1
  omega
theorem ky_mark {n : Nat → Int32} (G : MG n) {g : Nat} (hg : g < 100) (q : hsG n g = true) : 99 - ky n g / 100 = n g := by
  have k1 := ky_b (n := n) hg
  obtain ⟨e, b⟩ := mk_nat G hg q
  unfold ky
  have hm : kyN n g / 100 = 99 - (n g).toNatClampNeg := by unfold kyN; omega
  rw [show (100 : Int32) = Int32.ofNat 100 from rfl, show (99 : Int32) = Int32.ofNat 99 from rfl, div_N (by omega) (by omega) (by omega), hm, sub_N (by omega) (by omega)]
  rw [show 99 - (99 - (n g).toNatClampNeg) = (n g).toNatClampNeg by omega]
  exact e.symm
theorem bit3 : ∀ i, i < 5 → ((3 : Nat).testBit i = (i == 0 || i == 1)) ∧ ((12 : Nat).testBit i = (i == 2 || i == 3)) ∧ ((15 : Nat).testBit i = !(i == 4)) ∧ ((16 : Nat).testBit i = (i == 4)) := by decide +kernel
theorem cpr_cmp {n : Nat → Int32} {i j : Nat} (hi : i < 5) (hj : j < 5) (hij : i ≠ j) : cmpv n (1 <<< i) (1 <<< j) = cpr n i j := by
  rw [cmp_eq (fun k hk q => by rw [bit5 i hi k hk] at q; rw [bit5 j hj k hk]; simp only [beq_iff_eq] at q; simpa using (show k ≠ j by omega))]
  exact cmq_congr (fun g hg => mQ_row hi hg) (fun g hg => mQ_row hj hg)
theorem W_thr {h : mxH} (W : WF h) (x : Int32) : WF (st h 319 3 x) := WF_st W fd_thr.sl
theorem n_thr {h : mxH} {n : Nat → Int32} (e : V h 320 = n) (x : Int32) : V (st h 319 3 x) 320 = n := by rw [V_st_ne (by omega)]; exact e
theorem m_allComparisons {h : mxH} {n : Nat → Int32} (G : MG n) (W : WF h) (e : V h 320 = n) : Ok (fX10_allComparisons 319 h) (fun o => o.1 = cmpAll n ∧ Fr (fun b => b = 325 ∨ b = 326 ∨ b = 327) (st h 319 3 0) o.2) := by
  unfold fX10_allComparisons
  simp only [pI_at W fd_thr, bN]
  have e := n_thr e 0
  have W := W_thr W 0
  generalize st h 319 3 0 = h at e W
  simp only [isO_X W, bN]
  have S := bef_STO n 100
  have hrow : ∀ r g, rwQ n r g = true → hsG n g = true := fun r g q => by simp only [rwQ, Bool.and_eq_true] at q; exact q.1
  have hrow2 : ∀ r s g, rw2Q n r s g = true → hsG n g = true := fun r s g q => by
    simp only [rw2Q, Bool.or_eq_true] at q
    rcases q with q | q
    · exact hrow r g q
    · exact hrow s g q
  refine Ok_b (show Ok (fX10_comparedRows 319 0 1 h) _ from m_comparedRows G W e (i := 0) (j := 1) (by omega) (by omega) (by omega)) (fun o6 ⟨a1, a2⟩ => ?_)
  have W1 := a2.1
  simp only [isO_X W1, bN]
  have a2 := a2.mono (Q := fun b => b = 325 ∨ b = 326 ∨ b = 327) (fun b z => by omega)
  refine Ok_b (show Ok (fX10_comparedRows 319 2 3 o6.2) _ from m_comparedRows G W1 (fr_now a2 (by omega) e) (i := 2) (j := 3) (by omega) (by omega) (by omega)) (fun o10 ⟨b1, b2⟩ => ?_)
  have W2 := b2.1
  have b2 := a2.trans (b2.mono (Q := fun b => b = 325 ∨ b = 326 ∨ b = 327) (fun b z => by omega))
  simp only [gM7 W2, isO_X W2, bN]
  refine Ok_b (show Ok (fX10_both 319 325 0 1 o10.2) _ from m_both G W2 (fr_now b2 (by omega) e) (a := 325) (i := 0) (j := 1) (Or.inl rfl) (by omega) (by omega) (by omega)) (fun o16 ⟨c1, c2, c3⟩ => ?_)
  have W3 := c2.1
  have c2 := b2.trans (c2.mono (Q := fun b => b = 325 ∨ b = 326 ∨ b = 327) (fun b z => by omega))
  simp only [gM8 W3, isO_X W3, bN]
  refine Ok_b (show Ok (fX10_both 319 326 2 3 o16.2) _ from m_both G W3 (fr_now c2 (by omega) e) (a := 326) (i := 2) (j := 3) (Or.inr rfl) (by omega) (by omega) (by omega)) (fun o22 ⟨d1, d2, d3⟩ => ?_)
  have W4 := d2.1
  have c3 := KA_fr c3 d2 (by omega) (by omega)
  have d2 := c2.trans (d2.mono (Q := fun b => b = 325 ∨ b = 326 ∨ b = 327) (fun b z => by omega))
  have x1 := m_compared G W4 (a := 325) (b := 326) (Q1 := rw2Q n 0 1) (Q2 := rw2Q n 2 3) ar_kA ar_kB c3 d3 (fun g _ q => hrow2 _ _ g q) (fun g _ q => hrow2 _ _ g q) (fun g _ q => by
    simp only [rw2Q, rwQ, Bool.or_eq_true, Bool.and_eq_true, decide_eq_true_eq] at q
    unfold rw2Q rwQ
    rw [decide_eq_false (show ¬ g / 20 = 2 by omega), decide_eq_false (show ¬ g / 20 = 3 by omega), Bool.and_false]; rfl)
  rw [c1, d1]
  simp only [gM7 W4, gM8 W4, bN, x1, isO_X W4]
  refine Ok_b (m_keysAll G W4 (fr_now d2 (by omega) e) (a := 325) (Or.inl rfl)) (fun o34 ⟨e1, e2, e3⟩ => ?_)
  have W5 := e2.1
  have e2 := d2.trans (e2.mono (Q := fun b => b = 325 ∨ b = 326 ∨ b = 327) (fun b z => by omega))
  rw [e1]
  have m100 := mcn_100 n
  have sp : ∀ p, p < mcn n → mnr n p < 100 ∧ hsG n (mnr n p) = true := fun p hp => mnr_spec hp
  have E := SE_filter (SE_of (P := hsG n) S) (M := mcn n) (Q := upQ n) (Nat.le_refl _) (fun s _ q => by simp only [upQ, Bool.and_eq_true] at q; exact q.1)
  have e3 : ∀ j, j < mcn n → V o34.2 325 j = ky n (mnr n j) := e3
  refine Ok_b (P := fun r : Int32 × mxH => r.1 = Int32.ofNat (cnt (upQ n) 100) ∧ Fr (fun b => b = 326) o34.2 r.2 ∧ KA r.2 326 n (upQ n)) (Ok_loop (fun k s => s.2.1 = Int32.ofNat k ∧ Fr (fun b => b = 326) o34.2 s.2.2 ∧ s.1 = Int32.ofNat (cnt (fun j => decide (j < mcn n) && upQ n (mnr n j)) k) ∧ ∀ q, q < cnt (fun j => decide (j < mcn n) && upQ n (mnr n j)) k → V s.2.2 326 q = ky n (mnr n (nth (fun j => decide (j < mcn n) && upQ n (mnr n j)) q (mcn n)))) (mcn n) ⟨rfl, Fr.refl W5, rfl, fun q hq => absurd hq (by show ¬ q < 0; omega)⟩ ?_ ?_ (by unfold mxF; omega)) (fun r61 ⟨f1, f2, f3⟩ => ?_)
  · rintro k ⟨s1, s2, h1⟩ hk ⟨z1, F, z2, v⟩
    obtain rfl := show s2 = _ from z1
    obtain rfl := show s1 = _ from z2
    have F : Fr (fun b => b = 326) o34.2 h1 := F
    have v : ∀ q, q < cnt (fun j => decide (j < mcn n) && upQ n (mnr n j)) k → V h1 326 q = ky n (mnr n (nth (fun j => decide (j < mcn n) && upQ n (mnr n j)) q (mcn n))) := v
    have W6 := F.1
    have vk : V h1 325 k = ky n (mnr n k) := by rw [Fr_V F (by omega) (by omega)]; exact e3 k hk
    obtain ⟨g1, g2⟩ := sp k hk
    have hc := cnt_le (fun j => decide (j < mcn n) && upQ n (mnr n j)) k
    simp only [if_neg (nle hk (by omega)), gM7 W6, gM8 W6, bN, ldI_at W6 ar_kA (show k < 100 by omega), vk, ky_row g1, ofN_succ]
    rw [show (4 : Int32) = Int32.ofNat 4 from rfl]
    simp only [ofN_eq (show mnr n k / 20 < 2147483648 by omega) (show 4 < 2147483648 by omega)]
    by_cases c : mnr n k / 20 = 4
    · have pk : (fun j => decide (j < mcn n) && upQ n (mnr n j)) k = false := by
        show (decide (k < mcn n) && upQ n (mnr n k)) = false
        unfold upQ
        rw [decide_eq_true c]; simp
      simp only [if_pos c, bN]
      exact Ok_p ⟨_, rfl, rfl, F, by show Int32.ofNat _ = Int32.ofNat _; rw [cnt_f pk], by rw [cnt_f pk]; exact v⟩
    · have pk : (fun j => decide (j < mcn n) && upQ n (mnr n j)) k = true := by
        show (decide (k < mcn n) && upQ n (mnr n k)) = true
        unfold upQ
        rw [decide_eq_false c, decide_eq_true hk, g2]; rfl
      have S6 := ar_kB.sl (show cnt (fun j => decide (j < mcn n) && upQ n (mnr n j)) k < 100 by omega)
      simp only [if_neg c, bN, stI_at W6 ar_kB (show cnt (fun j => decide (j < mcn n) && upQ n (mnr n j)) k < 100 by omega), ofN_succ]
      refine Ok_p ⟨_, rfl, rfl, F.trans (Fr.st W6 S6 rfl), by show Int32.ofNat _ = Int32.ofNat _; rw [cnt_t pk], fun q hq => ?_⟩
      rw [cnt_t pk] at hq
      show V (st _ _ _ _) _ _ = _
      rw [V_st W6 S6]
      by_cases y : q = cnt (fun j => decide (j < mcn n) && upQ n (mnr n j)) k
      · rw [if_pos ⟨rfl, y⟩, y, nth_of hk pk]
      · rw [if_neg (fun z => y z.2)]; exact v q (by omega)
  · rintro ⟨s1, s2, h1⟩ ⟨z1, F, z2, v⟩
    obtain rfl := show s2 = _ from z1
    obtain rfl := show s1 = _ from z2
    have ec := SE_cnt S E
    refine Ok_e (a := .inr (Int32.ofNat (cnt (fun j => decide (j < mcn n) && upQ n (mnr n j)) (mcn n)), h1)) (if_pos yle) ⟨(Int32.ofNat (cnt (fun j => decide (j < mcn n) && upQ n (mnr n j)) (mcn n)), h1), rfl, ?_, F, fun q hq => ?_⟩
    · show Int32.ofNat _ = Int32.ofNat _
      rw [← ec]; rfl
    · rw [← ec] at hq
      rw [← SE_nr S E hq]
      exact v q hq
  · have W6 := f2.1
    have f2 := e2.trans (f2.mono (Q := fun b => b = 325 ∨ b = 326 ∨ b = 327) (fun b z => by omega))
    simp only [gM9 W6, isO_X W6, bN]
    refine Ok_b (show Ok (fX10_keysOf 319 327 4 r61.2) _ from m_keysRow G W6 (fr_now f2 (by omega) e) (a := 327) (r := 4) (Or.inr (Or.inr rfl)) (by omega)) (fun o67 ⟨g1, g2, g3⟩ => ?_)
    have W7 := g2.1
    have f3 := KA_fr f3 g2 (by omega) (by omega)
    have g2 := f2.trans (g2.mono (Q := fun b => b = 325 ∨ b = 326 ∨ b = 327) (fun b z => by omega))
    have x2 := m_compared G W7 (a := 326) (b := 327) (Q1 := upQ n) (Q2 := rwQ n 4) ar_kB ar_kC f3 g3 (fun g _ q => by simp only [upQ, Bool.and_eq_true] at q; exact q.1) (fun g _ q => hrow 4 g q) (fun g _ q => by
      simp only [upQ, Bool.and_eq_true, Bool.not_eq_true', decide_eq_false_iff_not] at q
      unfold rwQ
      rw [decide_eq_false q.2, Bool.and_false])
    rw [f1, g1]
    simp only [gM8 W7, gM9 W7, bN, x2]
    have r1 : cmpv n 1 2 = cpr n 0 1 := cpr_cmp (i := 0) (j := 1) (by omega) (by omega) (by omega)
    have r2 : cmpv n 4 8 = cpr n 2 3 := cpr_cmp (i := 2) (j := 3) (by omega) (by omega) (by omega)
    have r3 : cmpv n 3 12 = cmq n (rw2Q n 0 1) (rw2Q n 2 3) := by
      rw [cmp_eq (fun k hk q => by rw [(bit3 k hk).1] at q; rw [(bit3 k hk).2.1]; simp only [Bool.or_eq_true, beq_iff_eq] at q; rcases q with q | q <;> subst q <;> rfl)]
      refine cmq_congr (fun g hg => ?_) (fun g hg => ?_)
      · unfold mQ rw2Q rwQ inM
        rw [(bit3 (g / 20) (by omega)).1, Bool.and_or_distrib_left]; rfl
      · unfold mQ rw2Q rwQ inM
        rw [(bit3 (g / 20) (by omega)).2.1, Bool.and_or_distrib_left]; rfl
    have r4 : cmpv n 15 16 = cmq n (upQ n) (rwQ n 4) := by
      rw [cmp_eq (fun k hk q => by rw [(bit3 k hk).2.2.1] at q; rw [(bit3 k hk).2.2.2]; simpa using q)]
      refine cmq_congr (fun g hg => ?_) (fun g hg => ?_)
      · unfold mQ upQ inM
        rw [(bit3 (g / 20) (by omega)).2.2.1]; rfl
      · unfold mQ rwQ inM
        rw [(bit3 (g / 20) (by omega)).2.2.2]; rfl
    refine Ok_p ⟨?_, g2⟩
    show _ = cmpAll n
    unfold cmpAll
    rw [a1, b1, r1, r2, r3, r4]
