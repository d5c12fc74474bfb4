/-! THE PURE SIDE, 35: questions, 1: marks, places, values, ranks -/
def RC1 (A : String) (r : Int32 ⊕ String) (c v : Int32) : Prop := (r = .inl v ∧ c = 0) ∨ (r = .inr A ∧ c = 1)
def RC2 (A B : String) (r : Int32 ⊕ String) (c v : Int32) : Prop := (r = .inl v ∧ c = 0) ∨ (r = .inr A ∧ c = 1) ∨ (r = .inr B ∧ c = 2)
/-- the class's call m and the reference's call k answer alike, where their states are n -/
def Ask (R : Int32 ⊕ String → Int32 → Int32 → Prop) (h : mxH) (n : Nat → Int32) (m : Option ((Int32 ⊕ String) × mxH)) (k : mxH → Option (Int32 × mxH)) : Prop :=
  ∃ r c v, R r c v ∧ Ok m (fun x => x.1 = r ∧ Fr QF h x.2) ∧ ∀ h1, WF h1 → V h1 320 = n → Ok (k h1) (MS h1 c v)
theorem Ask_v {R : Int32 ⊕ String → Int32 → Int32 → Prop} {h : mxH} {n : Nat → Int32} {m : Option ((Int32 ⊕ String) × mxH)} {k : mxH → Option (Int32 × mxH)} (v : Int32) (hR : R (.inl v) 0 v) (a : Ok m (fun x => x.1 = .inl v ∧ Fr QF h x.2)) (b : ∀ h1, WF h1 → WF (st h1 319 3 0) → V (st h1 319 3 0) 320 = n → Ok (k h1) (fun o => o.1 = v ∧ Fr MF (st h1 319 3 0) o.2)) : Ask R h n m k :=
  ⟨.inl v, 0, v, hR, a, fun h1 W e => by
    obtain ⟨⟨x, h2⟩, e1, e2, F⟩ := b h1 W (W_thr W 0) (n_thr e 0)
    exact Ok_e e1 (MS_of W F e2)⟩
theorem Ask_e {R : Int32 ⊕ String → Int32 → Int32 → Prop} {h : mxH} {n : Nat → Int32} {m : Option ((Int32 ⊕ String) × mxH)} {k : mxH → Option (Int32 × mxH)} (s : String) (c : Int32) (hc : c ≠ 0) (hR : R (.inr s) c 0) (a : Ok m (fun x => x.1 = .inr s ∧ Fr QF h x.2)) (b : ∀ h1, WF h1 → WF (st h1 319 3 0) → V (st h1 319 3 0) 320 = n → Ok (k h1) (fun o => ∃ h', o.2 = st h' 319 3 c ∧ Fr MF (st h1 319 3 0) h')) : Ask R h n m k :=
  ⟨.inr s, c, 0, hR, a, fun h1 W e => by
    obtain ⟨⟨x, h2⟩, e1, h', e2, F⟩ := b h1 W (W_thr W 0) (n_thr e 0)
    have e2 : h2 = st h' 319 3 c := e2
    subst e2
    exact Ok_e e1 (MS_no W F hc)⟩
theorem m_row {k : Nat} (hk : k < 5) (h : mxH) : fX10_isRow (Int32.ofNat k) h = some 1 := by rw [m_isRow, inN_ofN (by omega) (by omega), decide_eq_true hk]; rfl
theorem m_rowN {p : Int32} (hp : inN p 5 = false) (h : mxH) : fX10_isRow p h = some 0 := by rw [m_isRow, hp]; rfl
theorem m_thing {k : Nat} (hk : k < 20) (h : mxH) : fX10_isThing (Int32.ofNat k) h = some 1 := by rw [m_isThing, inN_ofN (by omega) (by omega), decide_eq_true hk]; rfl
theorem m_thingN {p : Int32} (hp : inN p 20 = false) (h : mxH) : fX10_isThing p h = some 0 := by rw [m_isThing, hp]; rfl
theorem m_inT {p a b : Int32} (hp : inI p a b = true) (h : mxH) : fX10_in p a b h = some 1 := by rw [m_in, hp]; rfl
theorem m_inF {p a b : Int32} (hp : inI p a b = false) (h : mxH) : fX10_in p a b h = some 0 := by rw [m_in, hp]; rfl
theorem m_kT {p : Int32} (hp : inI p 1 20 = true) (h : mxH) : fX10_isK p h = some 1 := by rw [m_isK, hp]; rfl
theorem m_kF {p : Int32} (hp : inI p 1 20 = false) (h : mxH) : fX10_isK p h = some 0 := by rw [m_isK, hp]; rfl
theorem inI_of {p : Int32} {a b : Nat} (ha : a < 2147483648) (hb : b < 2147483647) (h : inI p (Int32.ofNat a) (Int32.ofNat b) = true) : ∃ k, a ≤ k ∧ k ≤ b ∧ p = Int32.ofNat k := by
  simp only [inI, Bool.and_eq_true, Bool.not_eq_true', decide_eq_false_iff_not] at h
  have e0 : (0 : Int32).toInt = 0 := by decide
  obtain ⟨k, h1, h2⟩ := ofN_of (x := p) (n := b + 1) (by omega) (fun z => by
    have h1 := h.1
    rw [i32_lt, ofN_int ha] at h1
    rw [i32_lt, e0] at z
    omega) (by
    have h2 := h.2
    rw [i32_lt, ofN_int (show b < 2147483648 by omega)] at h2
    rw [i32_lt, ofN_int (by omega)]
    omega)
  subst h2
  exact ⟨k, by
    have h1 := h.1
    rw [ofN_lt (by omega) ha] at h1
    omega, by omega, rfl⟩
theorem inK_of {p : Int32} (h : inI p 1 20 = true) : ∃ k, 1 ≤ k ∧ k ≤ 20 ∧ p = Int32.ofNat k := inI_of (a := 1) (b := 20) (by omega) (by omega) h
theorem bF {b : Bool} (h : ¬ b = true) : b = false := by simpa using h
theorem em10 : ((-1 : Int32) = -1) = True := eq_self _
section
variable {h : mxH} {n : Nat → Int32} {j : Nat}
theorem Q_itemCount (W : WF h) (S : SR h 3 n) (p : Int32) : Ask (RC1 IX) h n (fX9_itemCount 2 p h) (fX10_itemCount 319 p) := by
  by_cases hr : inN p 5 = true
  · obtain ⟨k, hk, rfl⟩ := inN_of (by omega) hr
    refine Ask_v (Int32.ofNat (itm n k)) (Or.inl ⟨rfl, rfl⟩) ?_ (fun h1 W1 W2 e2 => ?_)
    · unfold fX9_itemCount
      simp only [rq_row hk, then_l, gH0 W, gS0 W, isO_R W R4, bN, s_sizeOf W R4 hk, S.1.2.2.2.1 k hk]
      exact Ok_p ⟨rfl, Fr.refl W⟩
    · unfold fX10_itemCount
      simp only [pI_at W1 fd_thr, m_row hk, bN, e10, if_false, isO_X W2, m_items W2 e2 hk]
      exact Ok_p ⟨rfl, Fr.refl W2⟩
  · refine Ask_e IX 1 (by decide) (Or.inr ⟨rfl, rfl⟩) ?_ (fun h1 W1 W2 e2 => ?_)
    · unfold fX9_itemCount
      simp only [rq_rowN (bF hr), then_r]
      exact Ok_p ⟨rfl, Fr_thr (Fr.refl W)⟩
    · unfold fX10_itemCount
      simp only [pI_at W1 fd_thr, m_rowN (bF hr), bN, if_true, isO_X W2, m_fails W2]
      exact Ok_p ⟨_, rfl, Fr.refl W2⟩
theorem Q_thingAt (W : WF h) (S : SR h 3 n) (G : GD n j) (p q : Int32) : Ask (RC1 IX) h n (fX9_thingAt 2 p q h) (fX10_thingAt 319 p q) := by
  by_cases hr : inN p 5 = true
  · obtain ⟨k, hk, rfl⟩ := inN_of (by omega) hr
    have i20 := itm_20 n k
    by_cases hq : inN q (itm n k) = true
    · obtain ⟨t, ht, rfl⟩ := inN_of (by omega) hq
      refine Ask_v (Int32.ofNat (thi n k t)) (Or.inl ⟨rfl, rfl⟩) ?_ (fun h1 W1 W2 e2 => ?_)
      · unfold fX9_thingAt
        simp only [rq_row hk, then_l, gH0 W, gS0 W, isO_R W R4, bN, s_sizeOf W R4 hk, S.1.2.2.2.1 k hk, rq_place ht (show itm n k < 2147483648 by omega), s_thingOn W R4 hk (show t < 20 by omega), S.1.2.2.1 k t hk (by omega), if_pos ht]
        exact Ok_p ⟨rfl, Fr.refl W⟩
      · unfold fX10_thingAt
        simp only [pI_at W1 fd_thr, m_row hk, bN, e10, if_false, isO_X W2, m_items W2 e2 hk, m_in, inI_S (show itm n k < 2147483648 by omega), hq, bI_t, m_thingIn G.1 W2 e2 hk ht]
        exact Ok_p ⟨rfl, Fr.refl W2⟩
    · refine Ask_e IX 1 (by decide) (Or.inr ⟨rfl, rfl⟩) ?_ (fun h1 W1 W2 e2 => ?_)
      · unfold fX9_thingAt
        simp only [rq_row hk, then_l, gH0 W, gS0 W, isO_R W R4, bN, s_sizeOf W R4 hk, S.1.2.2.2.1 k hk, rq_placeN (bF hq), then_r]
        exact Ok_p ⟨rfl, Fr_thr (Fr.refl W)⟩
      · unfold fX10_thingAt
        simp only [pI_at W1 fd_thr, m_row hk, bN, e10, if_false, isO_X W2, m_items W2 e2 hk, m_in, inI_S (show itm n k < 2147483648 by omega), bF hq, bI_f, if_true, m_fails W2]
        exact Ok_p ⟨_, rfl, Fr.refl W2⟩
  · refine Ask_e IX 1 (by decide) (Or.inr ⟨rfl, rfl⟩) ?_ (fun h1 W1 W2 e2 => ?_)
    · unfold fX9_thingAt
      simp only [rq_rowN (bF hr), then_r]
      exact Ok_p ⟨rfl, Fr_thr (Fr.refl W)⟩
    · unfold fX10_thingAt
      simp only [pI_at W1 fd_thr, m_rowN (bF hr), bN, if_true, isO_X W2, m_fails W2]
      exact Ok_p ⟨_, rfl, Fr.refl W2⟩
theorem Q_markAt (W : WF h) (S : SR h 3 n) (G : GD n j) (p q : Int32) : Ask (RC1 IX) h n (fX9_markAt 2 p q h) (fX10_markAt 319 p q) := by
  by_cases hr : inN p 5 = true
  · obtain ⟨k, hk, rfl⟩ := inN_of (by omega) hr
    have i20 := itm_20 n k
    by_cases hq : inN q (itm n k) = true
    · obtain ⟨t, ht, rfl⟩ := inN_of (by omega) hq
      refine Ask_v (n (20 * k + thi n k t)) (Or.inl ⟨rfl, rfl⟩) ?_ (fun h1 W1 W2 e2 => ?_)
      · unfold fX9_markAt
        simp only [rq_row hk, then_l, gH0 W, gS0 W, isO_R W R4, bN, s_sizeOf W R4 hk, S.1.2.2.2.1 k hk, rq_place ht (show itm n k < 2147483648 by omega), s_markOn W G.1 R4 S.1 hk (show t ≤ 20 by omega)]
        refine Ok_p ⟨?_, Fr.refl W⟩
        unfold mkO
        rw [if_pos ht]
      · unfold fX10_markAt
        simp only [pI_at W1 fd_thr, m_row hk, bN, e10, if_false, isO_X W2, m_items W2 e2 hk, m_in, inI_S (show itm n k < 2147483648 by omega), hq, bI_t, m_thingIn G.1 W2 e2 hk ht, m_mark W2 e2 hk (thi_spec G.1 hk ht).1]
        exact Ok_p ⟨rfl, Fr.refl W2⟩
    · refine Ask_e IX 1 (by decide) (Or.inr ⟨rfl, rfl⟩) ?_ (fun h1 W1 W2 e2 => ?_)
      · unfold fX9_markAt
        simp only [rq_row hk, then_l, gH0 W, gS0 W, isO_R W R4, bN, s_sizeOf W R4 hk, S.1.2.2.2.1 k hk, rq_placeN (bF hq), then_r]
        exact Ok_p ⟨rfl, Fr_thr (Fr.refl W)⟩
      · unfold fX10_markAt
        simp only [pI_at W1 fd_thr, m_row hk, bN, e10, if_false, isO_X W2, m_items W2 e2 hk, m_in, inI_S (show itm n k < 2147483648 by omega), bF hq, bI_f, if_true, m_fails W2]
        exact Ok_p ⟨_, rfl, Fr.refl W2⟩
  · refine Ask_e IX 1 (by decide) (Or.inr ⟨rfl, rfl⟩) ?_ (fun h1 W1 W2 e2 => ?_)
    · unfold fX9_markAt
      simp only [rq_rowN (bF hr), then_r]
      exact Ok_p ⟨rfl, Fr_thr (Fr.refl W)⟩
    · unfold fX10_markAt
      simp only [pI_at W1 fd_thr, m_rowN (bF hr), bN, if_true, isO_X W2, m_fails W2]
      exact Ok_p ⟨_, rfl, Fr.refl W2⟩
theorem Q_placeOf (W : WF h) (S : SR h 3 n) (p q : Int32) : Ask (RC2 IX NS) h n (fX9_placeOf 2 p q h) (fX10_placeOf 319 p q) := by
  by_cases hr : inN p 5 = true
  · obtain ⟨k, hk, rfl⟩ := inN_of (by omega) hr
    by_cases hq : inN q 20 = true
    · obtain ⟨t, ht, rfl⟩ := inN_of (by omega) hq
      have p20 := pla_20 (n := n) (r := k) ht
      by_cases c : hs n k t = true
      · refine Ask_v (Int32.ofNat (pla n k t)) (Or.inl ⟨rfl, rfl⟩) ?_ (fun h1 W1 W2 e2 => ?_)
        · unfold fX9_placeOf
          simp only [rq_row hk, rq_thing ht, then_l, gH0 W, gS0 W, isO_R W R4, bN, s_placeIn W R4 hk ht, S.1.2.1 k t hk ht, c, if_true, if_neg (ofN_nm (show pla n k t < 2147483648 by omega)), rq_found]
          exact Ok_p ⟨rfl, Fr.refl W⟩
        · unfold fX10_placeOf
          simp only [pI_at W1 fd_thr, m_row hk, m_thing ht, bN, e10, if_false, isO_X W2, m_has W2 e2 hk ht, c, bI_t, m_place W2 e2 hk ht]
          exact Ok_p ⟨rfl, Fr.refl W2⟩
      · refine Ask_e NS 2 (by decide) (Or.inr (Or.inr ⟨rfl, rfl⟩)) ?_ (fun h1 W1 W2 e2 => ?_)
        · unfold fX9_placeOf
          simp only [rq_row hk, rq_thing ht, then_l, gH0 W, gS0 W, isO_R W R4, bN, s_placeIn W R4 hk ht, S.1.2.1 k t hk ht, bF c, Bool.false_eq_true, if_false, if_true, rq_foundN, then_r]
          exact Ok_p ⟨rfl, Fr_thr (Fr.refl W)⟩
        · unfold fX10_placeOf
          simp only [pI_at W1 fd_thr, m_row hk, m_thing ht, bN, e10, if_false, isO_X W2, m_has W2 e2 hk ht, bF c, bI_f, if_true, m_fails W2]
          exact Ok_p ⟨_, rfl, Fr.refl W2⟩
    · refine Ask_e IX 1 (by decide) (Or.inr (Or.inl ⟨rfl, rfl⟩)) ?_ (fun h1 W1 W2 e2 => ?_)
      · unfold fX9_placeOf
        simp only [rq_row hk, rq_thingN (bF hq), then_l, then_r]
        exact Ok_p ⟨rfl, Fr_thr (Fr.refl W)⟩
      · unfold fX10_placeOf
        simp only [pI_at W1 fd_thr, m_row hk, m_thingN (bF hq), bN, e10, if_false, if_true, isO_X W2, m_fails W2]
        exact Ok_p ⟨_, rfl, Fr.refl W2⟩
  · refine Ask_e IX 1 (by decide) (Or.inr (Or.inl ⟨rfl, rfl⟩)) ?_ (fun h1 W1 W2 e2 => ?_)
    · unfold fX9_placeOf
      simp only [rq_rowN (bF hr), then_r]
      exact Ok_p ⟨rfl, Fr_thr (Fr.refl W)⟩
    · unfold fX10_placeOf
      simp only [pI_at W1 fd_thr, m_rowN (bF hr), bN, if_true, isO_X W2, m_fails W2]
      exact Ok_p ⟨_, rfl, Fr.refl W2⟩
theorem q26 {b : Nat} (z : b = 4 + 22) : QF b := Or.inl z
theorem m322 {b : Nat} (z : b = 322) : MF b := by unfold MF; omega
theorem Q_value (W : WF h) (S : SR h 3 n) (G : GD n j) (p : Int32) : Ask (RC1 IX) h n (fX9_value 2 p h) (fX10_value 319 p) := by
  by_cases hr : inN p 20 = true
  · obtain ⟨t, ht, rfl⟩ := inN_of (by omega) hr
    refine Ask_v (val n t) (Or.inl ⟨rfl, rfl⟩) ?_ (fun h1 W1 W2 e2 => ?_)
    · unfold fX9_value
      simp only [rq_thing ht, then_l, gH0 W, gS0 W, isO_R W R4, bN]
      refine Ok_b (s_valueOf W G.1 G.2.1 R4 S.1 ht) (fun o ⟨o1, o2⟩ => Ok_p ⟨by show Sum.inl _ = _; rw [o1], o2.mono (fun b z => q26 z)⟩)
    · unfold fX10_value
      simp only [pI_at W1 fd_thr, m_thing ht, bN, e10, if_false, isO_X W2]
      refine Ok_b (Ok_b (m_valueOf G.1 G.2.1 W2 e2 ht) (fun o H => Ok_p (P := fun o : Int32 × mxH => o.1 = val n t ∧ Fr (fun b => b = 322) (st h1 319 3 0) o.2) H)) (fun o ⟨o1, o2⟩ => Ok_p ⟨o1, o2.mono (fun b z => m322 z)⟩)
  · refine Ask_e IX 1 (by decide) (Or.inr ⟨rfl, rfl⟩) ?_ (fun h1 W1 W2 e2 => ?_)
    · unfold fX9_value
      simp only [rq_thingN (bF hr), then_r]
      exact Ok_p ⟨rfl, Fr_thr (Fr.refl W)⟩
    · unfold fX10_value
      simp only [pI_at W1 fd_thr, m_thingN (bF hr), bN, if_true, isO_X W2, m_fails W2]
      exact Ok_p ⟨_, rfl, Fr.refl W2⟩
theorem Q_limit (W : WF h) (S : SR h 3 n) (G : GD n j) (p : Int32) : Ask (RC1 IA) h n (fX9_limit 2 p h) (fX10_limit 319 p) := by
  by_cases hr : inI p 1 20 = true
  · obtain ⟨d, d1, d2, rfl⟩ := inK_of hr
    refine Ask_v (lim n d) (Or.inl ⟨rfl, rfl⟩) ?_ (fun h1 W1 W2 e2 => ?_)
    · unfold fX9_limit
      simp only [rq_range hr, then_l, gH0 W, gS0 W, isO_R W R4, bN]
      refine Ok_b (s_limitAt W G.1 G.2.1 R4 S.1 d1 d2) (fun o ⟨o1, o2⟩ => Ok_p ⟨by show Sum.inl _ = _; rw [o1], o2.mono (fun b z => q26 z)⟩)
    · unfold fX10_limit
      simp only [pI_at W1 fd_thr, m_inT hr, bN, e10, if_false, isO_X W2]
      refine Ok_b (Ok_b (m_limitAt G.1 G.2.1 W2 e2 d1 d2) (fun o H => Ok_p (P := fun o : Int32 × mxH => o.1 = lim n d ∧ Fr (fun b => b = 322) (st h1 319 3 0) o.2) H)) (fun o ⟨o1, o2⟩ => Ok_p ⟨o1, o2.mono (fun b z => m322 z)⟩)
  · refine Ask_e IA 1 (by decide) (Or.inr ⟨rfl, rfl⟩) ?_ (fun h1 W1 W2 e2 => ?_)
    · unfold fX9_limit
      simp only [rq_rangeN (bF hr), then_r]
      exact Ok_p ⟨rfl, Fr_thr (Fr.refl W)⟩
    · unfold fX10_limit
      simp only [pI_at W1 fd_thr, m_inF (bF hr), bN, if_true, isO_X W2, m_fails W2]
      exact Ok_p ⟨_, rfl, Fr.refl W2⟩
theorem Q_lower (W : WF h) (S : SR h 3 n) (G : GD n j) (p q : Int32) : Ask (RC2 IX IA) h n (fX9_lower 2 p q h) (fX10_lower 319 p q) := by
  by_cases hr : inN p 20 = true
  · obtain ⟨t, ht, rfl⟩ := inN_of (by omega) hr
    by_cases hq : inI q 1 20 = true
    · obtain ⟨d, d1, d2, rfl⟩ := inK_of hq
      refine Ask_v (low n t d) (Or.inl ⟨rfl, rfl⟩) ?_ (fun h1 W1 W2 e2 => ?_)
      · unfold fX9_lower
        simp only [rq_thing ht, rq_range hq, then_l, gH0 W, gS0 W, isO_R W R4, bN]
        refine Ok_b (s_lowerOf W G.1 G.2.1 R4 S.1 ht d1 d2) (fun o ⟨o1, o2⟩ => Ok_p ⟨by show Sum.inl _ = _; rw [o1], o2.mono (fun b z => q26 z)⟩)
      · unfold fX10_lower
        simp only [pI_at W1 fd_thr, m_thing ht, m_inT hq, bN, e10, if_false, isO_X W2]
        refine Ok_b (Ok_b (m_lowerAt G.1 G.2.1 W2 e2 ht d2) (fun o H => Ok_p (P := fun o : Int32 × mxH => o.1 = low n t d ∧ Fr (fun b => b = 322) (st h1 319 3 0) o.2) H)) (fun o ⟨o1, o2⟩ => Ok_p ⟨o1, o2.mono (fun b z => m322 z)⟩)
    · refine Ask_e IA 2 (by decide) (Or.inr (Or.inr ⟨rfl, rfl⟩)) ?_ (fun h1 W1 W2 e2 => ?_)
      · unfold fX9_lower
        simp only [rq_thing ht, rq_rangeN (bF hq), then_l, then_r]
        exact Ok_p ⟨rfl, Fr_thr (Fr.refl W)⟩
      · unfold fX10_lower
        simp only [pI_at W1 fd_thr, m_thing ht, m_inF (bF hq), bN, e10, if_false, if_true, isO_X W2, m_fails W2]
        exact Ok_p ⟨_, rfl, Fr.refl W2⟩
  · refine Ask_e IX 1 (by decide) (Or.inr (Or.inl ⟨rfl, rfl⟩)) ?_ (fun h1 W1 W2 e2 => ?_)
    · unfold fX9_lower
      simp only [rq_thingN (bF hr), then_r]
      exact Ok_p ⟨rfl, Fr_thr (Fr.refl W)⟩
    · unfold fX10_lower
      simp only [pI_at W1 fd_thr, m_thingN (bF hr), bN, if_true, isO_X W2, m_fails W2]
      exact Ok_p ⟨_, rfl, Fr.refl W2⟩
theorem Q_upper (W : WF h) (S : SR h 3 n) (G : GD n j) (p q : Int32) : Ask (RC2 IX IA) h n (fX9_upper 2 p q h) (fX10_upper 319 p q) := by
  by_cases hr : inN p 20 = true
  · obtain ⟨t, ht, rfl⟩ := inN_of (by omega) hr
    by_cases hq : inI q 1 20 = true
    · obtain ⟨d, d1, d2, rfl⟩ := inK_of hq
      refine Ask_v (upp n t d) (Or.inl ⟨rfl, rfl⟩) ?_ (fun h1 W1 W2 e2 => ?_)
      · unfold fX9_upper
        simp only [rq_thing ht, rq_range hq, then_l, gH0 W, gS0 W, isO_R W R4, bN]
        refine Ok_b (s_upperOf W G.1 G.2.1 R4 S.1 ht d1 d2) (fun o ⟨o1, o2⟩ => Ok_p ⟨by show Sum.inl _ = _; rw [o1], o2.mono (fun b z => q26 z)⟩)
      · unfold fX10_upper
        simp only [pI_at W1 fd_thr, m_thing ht, m_inT hq, bN, e10, if_false, isO_X W2]
        refine Ok_b (Ok_b (m_upperAt G.1 G.2.1 W2 e2 ht d1 d2) (fun o H => Ok_p (P := fun o : Int32 × mxH => o.1 = upp n t d ∧ Fr (fun b => b = 322) (st h1 319 3 0) o.2) H)) (fun o ⟨o1, o2⟩ => Ok_p ⟨o1, o2.mono (fun b z => m322 z)⟩)
    · refine Ask_e IA 2 (by decide) (Or.inr (Or.inr ⟨rfl, rfl⟩)) ?_ (fun h1 W1 W2 e2 => ?_)
      · unfold fX9_upper
        simp only [rq_thing ht, rq_rangeN (bF hq), then_l, then_r]
        exact Ok_p ⟨rfl, Fr_thr (Fr.refl W)⟩
      · unfold fX10_upper
        simp only [pI_at W1 fd_thr, m_thing ht, m_inF (bF hq), bN, e10, if_false, if_true, isO_X W2, m_fails W2]
        exact Ok_p ⟨_, rfl, Fr.refl W2⟩
  · refine Ask_e IX 1 (by decide) (Or.inr (Or.inl ⟨rfl, rfl⟩)) ?_ (fun h1 W1 W2 e2 => ?_)
    · unfold fX9_upper
      simp only [rq_thingN (bF hr), then_r]
      exact Ok_p ⟨rfl, Fr_thr (Fr.refl W)⟩
    · unfold fX10_upper
      simp only [pI_at W1 fd_thr, m_thingN (bF hr), bN, if_true, isO_X W2, m_fails W2]
      exact Ok_p ⟨_, rfl, Fr.refl W2⟩
end
