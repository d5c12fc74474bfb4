/-! THE PURE SIDE, 45: changes, 3: the calls that change -/
def CF (b : Nat) : Prop := 3 ≤ b ∧ b ≤ 318
def KF (b : Nat) : Prop := 319 ≤ b ∧ b ≤ 333
/-- what the reference has kept -/
def KP (h1 : mxH) (c : Nat) (n : Nat → Int32) (h2 : mxH) : Prop := Fr KF h1 h2 ∧ V h2 319 3 = 0 ∧ V h2 319 2 = Int32.ofNat (min (c + 1) 8) ∧ ∀ i, i < min (c + 1) 8 → ∀ k, k < 230 → Bf h2 i k = sav c (Bf h1) n i k
theorem KP_fr {h1 h2 h3 : mxH} {c : Nat} {n : Nat → Int32} (K : KP h1 c n h2) (F : Fr (fun b => b = 320) h2 h3) : KP h1 c n h3 := by
  obtain ⟨k1, k2, k3, k4⟩ := K
  refine ⟨k1.trans (F.mono (fun b z => by unfold KF; omega)), ?_, ?_, fun i hi k hk => ?_⟩
  · rw [Fr_V F (by omega) (by omega)]; exact k2
  · rw [Fr_V F (by omega) (by omega)]; exact k3
  · show V h3 321 _ = _
    rw [Fr_V F (by omega) (by omega)]; exact k4 i hi k hk
/-- a call that changes the state from n to n' -/
def Chg (h : mxH) (n : Nat → Int32) (c j : Nat) (m : Option ((Int32 ⊕ String) × mxH)) (k : mxH → Option (Int32 × mxH)) : Prop :=
  ∃ v n', (GD n' (j + 1) ∧ XG n') ∧ Ok m (fun x => x.1 = .inl v ∧ Fr CF h x.2 ∧ SR x.2 3 n' ∧ HR x.2 (min (c + 1) 8) (sav c (Bf h) n)) ∧
  ∀ h1, WF h1 → V h1 320 = n → V h1 319 2 = Int32.ofNat c → Ok (k h1) (fun o => o.1 = v ∧ KP h1 c n o.2 ∧ ∀ q, q < 230 → V o.2 320 q = n' q)
def Do (R : Int32 ⊕ String → Int32 → Int32 → Prop) (h : mxH) (n : Nat → Int32) (c j : Nat) (m : Option ((Int32 ⊕ String) × mxH)) (k : mxH → Option (Int32 × mxH)) : Prop := Ask R h n m k ∨ Chg h n c j m k
theorem NG_congr {n m : Nat → Int32} {j : Nat} (G : NG n j) (e : ∀ k, 108 ≤ k → m k = n k) : NG m j := by
  obtain ⟨g1, g2, g3, g4, g5, g6, g7, g8, g9⟩ := G
  have ec : cm m = cm n := by unfold cm; rw [e 110 (by omega)]
  have ew : wd m = wd n := by unfold wd; rw [e 108 (by omega)]
  have em : mn m = mn n := by unfold mn; rw [e 109 (by omega)]
  have ei : inw m = inw n := by unfold inw; rw [ec, ew]
  refine ⟨by rw [e 110 (by omega), ec]; exact g1, by rw [ec]; exact g2, by rw [e 108 (by omega), ew]; exact g3, by rw [ew]; exact g4, by rw [e 109 (by omega), em]; exact g5, by rw [em]; exact g6, fun k hk => ?_, fun k hk => ?_, fun i k hi hk => ?_⟩
  · rw [e _ (by omega)]; exact g7 k (by rw [← ei]; exact hk)
  · rw [e _ (by omega), e _ (by omega)]; exact g8 k hk
  · rw [e _ (by omega), e _ (by omega)]; exact g9 i k hi hk
theorem XG_congr {n m : Nat → Int32} (X : XG n) (e : ∀ k, 108 ≤ k → m k = n k) : XG m := by
  have em : mn m = mn n := by unfold mn; rw [e 109 (by omega)]
  intro k h1 h2
  rw [e _ (by omega)]; exact X k (by rw [← em]; exact h1) h2
theorem GD_fup {n : Nat → Int32} {j k : Nat} {x : Int32} (G : GD n j) (X : XG n) (hk : k < 108) (hM : MG (fup n k x)) (hW : WG (fup n k x)) : GD (fup n k x) (j + 1) ∧ XG (fup n k x) :=
  ⟨⟨hM, hW, NG_mono (NG_congr G.2.2 (fun q hq => fup_ne (by omega))) (by omega)⟩, XG_congr X (fun q hq => fup_ne (by omega))⟩
section
variable {h : mxH} {n : Nat → Int32} {j c : Nat}
theorem c_save (S : SR h 3 n) (G : GD n j) (W : WF h) {B : Nat → Nat → Int32} (Hi : HR h c B) : Ok (fX0_save 32 3 h) (fun h' => Fr CF h h' ∧ SR h' 3 n ∧ HR h' (min (c + 1) 8) (sav c B n)) :=
  Ok_m (s_save W G.2.2 S Hi) (fun g ⟨F, H⟩ => ⟨F.mono (fun b z => by unfold CF; omega), SR_fr S3 S F (fun b b1 b2 b3 => by omega), H⟩)
theorem m_pre (W : WF h) (e : V h 320 = n) (hc : V h 319 2 = Int32.ofNat c) (c8 : c ≤ 8) : Ok (fX10_keeps 319 (st h 319 3 0)) (fun g => V g 320 = n ∧ KP h c n g) := by
  have W2 := W_thr W 0
  have v319 : V (st h 319 3 0) 319 = fup (V h 319) 3 0 := V_st_eq W fd_thr.sl
  have eB : Bf (st h 319 3 0) = Bf h := by
    funext i k
    show V (st h 319 3 0) 321 _ = V h 321 _
    rw [V_st_ne (by omega)]
  refine Ok_m (m_keeps W2 (n_thr e 0) (c := c) (by rw [v319, fup_ne (by omega)]; exact hc) c8) (fun g ⟨F, v, b⟩ => ⟨?_, ?_, ?_, ?_, fun i hi k hk => ?_⟩)
  · rw [Fr_V F (by omega) (by omega)]; exact n_thr e 0
  · exact ((fr0 W 0).mono (fun b z => by unfold KF; omega)).trans (F.mono (fun b z => by unfold KF; omega))
  · rw [v, fup_ne (by omega), v319, fup_eq]
  · rw [v, fup_eq]
  · rw [b i hi k hk, eB]
theorem SR_row {h' : mxH} {k : Nat} {x : Int32} (S : SR h 3 n) (hk : k < 106) (F : Fr (fun b => 4 ≤ b ∧ b ≤ 25) h h') (A : RR h' 4 (fup n k x)) : SR h' 3 (fup n k x) := by
  obtain ⟨s1, s2, s3, s4⟩ := S
  have e : V h' 3 = V h 3 := Fr_V F (by omega) (by omega)
  refine ⟨A, NR_congr (fun q hq => (fup_ne (by omega)).symm) (NR_fr N27 s2 F (fun o ho => by omega)), ?_, ?_⟩
  · rw [e, fup_ne (by omega)]; exact s3
  · rw [e, fup_ne (by omega)]; exact s4
theorem HR_low {h' : mxH} {B : Nat → Nat → Int32} {d : Nat} (H : HR h d B) (F : Fr (fun b => 3 ≤ b ∧ b ≤ 31) h h') : HR h' d B := HR_fr H F (fun b b1 b2 => by omega)
theorem D_put (W : WF h) (S : SR h 3 n) (Hi : HR h c (Bf h)) (G : GD n j) (X : XG n) (c8 : c ≤ 8) (p q r : Int32) : Do (RC2 IX IA) h n c j (fX9_put 2 p q r h) (fX10_put 319 p q r) := by
  by_cases hp : inN p 5 = true
  · obtain ⟨a, ha, rfl⟩ := inN_of (by omega) hp
    by_cases hq : inN q 20 = true
    · obtain ⟨b, hb, rfl⟩ := inN_of (by omega) hq
      by_cases hr : inI r 0 99 = true
      · obtain ⟨m, hm, rfl⟩ := in99 hr
        have G' : MG (fup n (20 * a + b) (Int32.ofNat m)) := MG_fup G.1 hm
        refine Or.inr ⟨n (20 * a + b), fup n (20 * a + b) (Int32.ofNat m), GD_fup G X (by omega) G' (WG_fup G.2.1 (by omega)), ?_, fun h1 W1 e1 hc1 => ?_⟩
        · unfold fX9_put
          simp only [rq_row ha, rq_thing hb, rq_range hr, then_l, gH1 W, gH0 W, isHi W, bN]
          refine Ok_b (c_save S G W Hi) (fun g ⟨F, Sg, Hg⟩ => ?_)
          have Wg := F.1
          simp only [gH0 Wg, gS0 Wg, isO_R Wg R4, bN, s_markOf Wg R4 ha hb, Sg.1.1 a b ha hb]
          refine Ok_b (s_setMark Wg R4 Sg.1 ha hb G') (fun g2 ⟨F2, A2⟩ => ?_)
          exact Ok_p ⟨rfl, F.trans (F2.mono (fun b z => by unfold CF; omega)), SR_row Sg (by omega) (F2.mono (fun b z => by omega)) A2, HR_low Hg (F2.mono (fun b z => by omega))⟩
        · unfold fX10_put
          simp only [pI_at W1 fd_thr, m_row ha, m_thing hb, m_inT hr, bN, e10, if_false, isO_X (W_thr W1 0)]
          refine Ok_b (m_pre W1 e1 hc1 c8) (fun g ⟨e2, K⟩ => ?_)
          have Wg := K.1.1
          obtain ⟨l1, l2⟩ := m_lays Wg e2 (x := Int32.ofNat m) ha hb
          simp only [isO_X Wg, bN, m_mark Wg e2 ha hb, l1]
          exact Ok_p ⟨rfl, KP_fr K (Fr.st Wg (ar_now.sl (show 20 * a + b < 230 by omega)) rfl), fun q _ => by rw [l2]⟩
      · refine Or.inl (Ask_e IA 2 (by decide) (Or.inr (Or.inr ⟨rfl, rfl⟩)) ?_ (fun h1 W1 W2 e2 => ?_))
        · unfold fX9_put
          simp only [rq_row ha, rq_thing hb, rq_rangeN (bF hr), then_l, then_r]
          exact Ok_p ⟨rfl, Fr_thr (Fr.refl W)⟩
        · unfold fX10_put
          simp only [pI_at W1 fd_thr, m_row ha, m_thing hb, m_inF (bF hr), bN, e10, if_false, if_true, isO_X W2, m_fails W2]
          exact Ok_p ⟨_, rfl, Fr.refl W2⟩
    · refine Or.inl (Ask_e IX 1 (by decide) (Or.inr (Or.inl ⟨rfl, rfl⟩)) ?_ (fun h1 W1 W2 e2 => ?_))
      · unfold fX9_put
        simp only [rq_row ha, rq_thingN (bF hq), then_l, then_r]
        exact Ok_p ⟨rfl, Fr_thr (Fr.refl W)⟩
      · unfold fX10_put
        simp only [pI_at W1 fd_thr, m_row ha, m_thingN (bF hq), bN, e10, if_false, if_true, isO_X W2, m_fails W2]
        exact Ok_p ⟨_, rfl, Fr.refl W2⟩
  · refine Or.inl (Ask_e IX 1 (by decide) (Or.inr (Or.inl ⟨rfl, rfl⟩)) ?_ (fun h1 W1 W2 e2 => ?_))
    · unfold fX9_put
      simp only [rq_rowN (bF hp), then_r]
      exact Ok_p ⟨rfl, Fr_thr (Fr.refl W)⟩
    · unfold fX10_put
      simp only [pI_at W1 fd_thr, m_rowN (bF hp), bN, if_true, isO_X W2, m_fails W2]
      exact Ok_p ⟨_, rfl, Fr.refl W2⟩
theorem MG_drop {n : Nat → Int32} {g : Nat} (G : MG n) : MG (fup n g (-1)) := fun k hk => by
  unfold fup
  by_cases e : k = g
  · rw [if_pos e]; exact Or.inl rfl
  · rw [if_neg e]; exact G k hk
theorem D_drop (W : WF h) (S : SR h 3 n) (Hi : HR h c (Bf h)) (G : GD n j) (X : XG n) (c8 : c ≤ 8) (p q : Int32) : Do (RC2 IX NS) h n c j (fX9_drop 2 p q h) (fX10_drop 319 p q) := by
  by_cases hp : inN p 5 = true
  · obtain ⟨a, ha, rfl⟩ := inN_of (by omega) hp
    by_cases hq : inN q 20 = true
    · obtain ⟨b, hb, rfl⟩ := inN_of (by omega) hq
      by_cases hr : hs n a b = true
      · have hr2 : ¬ n (20 * a + b) = -1 := by simpa [hs] using hr
        have G' : MG (fup n (20 * a + b) (-1)) := MG_drop G.1
        refine Or.inr ⟨n (20 * a + b), fup n (20 * a + b) (-1), GD_fup G X (by omega) G' (WG_fup G.2.1 (by omega)), ?_, fun h1 W1 e1 hc1 => ?_⟩
        · unfold fX9_drop
          simp only [rq_row ha, rq_thing hb, then_l, gH0 W, gS0 W, isO_R W R4, s_markOf W R4 ha hb, S.1.1 a b ha hb, bN, if_neg hr2, rq_found, gH1 W, isHi W]
          refine Ok_b (c_save S G W Hi) (fun g ⟨F, Sg, Hg⟩ => ?_)
          have Wg := F.1
          simp only [gH0 Wg, gS0 Wg, isO_R Wg R4, bN]
          refine Ok_b (s_setMark Wg R4 Sg.1 ha hb G') (fun g2 ⟨F2, A2⟩ => ?_)
          exact Ok_p ⟨rfl, F.trans (F2.mono (fun b z => by unfold CF; omega)), SR_row Sg (by omega) (F2.mono (fun b z => by omega)) A2, HR_low Hg (F2.mono (fun b z => by omega))⟩
        · unfold fX10_drop
          simp only [pI_at W1 fd_thr, m_row ha, m_thing hb, bN, e10, if_false, isO_X (W_thr W1 0), m_has (W_thr W1 0) (n_thr e1 0) ha hb, hr, bI_t]
          refine Ok_b (m_pre W1 e1 hc1 c8) (fun g ⟨e2, K⟩ => ?_)
          have Wg := K.1.1
          obtain ⟨l1, l2⟩ := m_lays Wg e2 (x := -1) ha hb
          simp only [isO_X Wg, bN, m_mark Wg e2 ha hb, l1]
          exact Ok_p ⟨rfl, KP_fr K (Fr.st Wg (ar_now.sl (show 20 * a + b < 230 by omega)) rfl), fun q _ => by rw [l2]⟩
      · have hr2 : n (20 * a + b) = -1 := by
          have := bF hr
          simpa [hs] using this
        refine Or.inl (Ask_e NS 2 (by decide) (Or.inr (Or.inr ⟨rfl, rfl⟩)) ?_ (fun h1 W1 W2 e2 => ?_))
        · unfold fX9_drop
          simp only [rq_row ha, rq_thing hb, then_l, gH0 W, gS0 W, isO_R W R4, s_markOf W R4 ha hb, S.1.1 a b ha hb, bN, if_pos hr2, rq_foundN, then_r]
          exact Ok_p ⟨rfl, Fr_thr (Fr.refl W)⟩
        · unfold fX10_drop
          simp only [pI_at W1 fd_thr, m_row ha, m_thing hb, bN, e10, if_false, isO_X W2, m_has W2 e2 ha hb, bF hr, bI_f, if_true, m_fails W2]
          exact Ok_p ⟨_, rfl, Fr.refl W2⟩
    · refine Or.inl (Ask_e IX 1 (by decide) (Or.inr (Or.inl ⟨rfl, rfl⟩)) ?_ (fun h1 W1 W2 e2 => ?_))
      · unfold fX9_drop
        simp only [rq_row ha, rq_thingN (bF hq), then_l, then_r]
        exact Ok_p ⟨rfl, Fr_thr (Fr.refl W)⟩
      · unfold fX10_drop
        simp only [pI_at W1 fd_thr, m_row ha, m_thingN (bF hq), bN, e10, if_false, if_true, isO_X W2, m_fails W2]
        exact Ok_p ⟨_, rfl, Fr.refl W2⟩
  · refine Or.inl (Ask_e IX 1 (by decide) (Or.inr (Or.inl ⟨rfl, rfl⟩)) ?_ (fun h1 W1 W2 e2 => ?_))
    · unfold fX9_drop
      simp only [rq_rowN (bF hp), then_r]
      exact Ok_p ⟨rfl, Fr_thr (Fr.refl W)⟩
    · unfold fX10_drop
      simp only [pI_at W1 fd_thr, m_rowN (bF hp), bN, if_true, isO_X W2, m_fails W2]
      exact Ok_p ⟨_, rfl, Fr.refl W2⟩
theorem D_setWeight (W : WF h) (S : SR h 3 n) (Hi : HR h c (Bf h)) (G : GD n j) (X : XG n) (c8 : c ≤ 8) (p q : Int32) : Do (RC2 IX IA) h n c j (fX9_setWeight 2 p q h) (fX10_setWeight 319 p q) := by
  by_cases hp : inN p 5 = true
  · obtain ⟨a, ha, rfl⟩ := inN_of (by omega) hp
    by_cases hq : inI q 0 5 = true
    · obtain ⟨w, -, hw, rfl⟩ := inI_of (a := 0) (b := 5) (by omega) (by omega) hq
      have M' : MG (fup n (100 + a) (Int32.ofNat w)) := fun k hk => by rw [fup_ne (by omega)]; exact G.1 k hk
      have H' : WG (fup n (100 + a) (Int32.ofNat w)) := fun i hi => by
        unfold fup
        by_cases e : 100 + i = 100 + a
        · rw [if_pos e]; exact ⟨w, by omega, rfl⟩
        · rw [if_neg e]; exact G.2.1 i hi
      refine Or.inr ⟨n (100 + a), fup n (100 + a) (Int32.ofNat w), GD_fup G X (by omega) M' H', ?_, fun h1 W1 e1 hc1 => ?_⟩
      · unfold fX9_setWeight
        simp only [rq_row ha, rq_range hq, then_l, gH1 W, gH0 W, isHi W, bN]
        refine Ok_b (c_save S G W Hi) (fun g ⟨F, Sg, Hg⟩ => ?_)
        have Wg := F.1
        simp only [gH0 Wg, gS0 Wg, isO_R Wg R4, bN]
        refine Ok_b (s_changeWeight Wg R4 Sg.1 ha) (fun o ⟨o1, F2, A2⟩ => ?_)
        rw [o1]
        exact Ok_p ⟨rfl, F.trans (F2.mono (fun b z => by unfold CF; omega)), SR_row Sg (by omega) (F2.mono (fun b z => by omega)) A2, HR_low Hg (F2.mono (fun b z => by omega))⟩
      · unfold fX10_setWeight
        simp only [pI_at W1 fd_thr, m_row ha, m_inT hq, bN, e10, if_false, isO_X (W_thr W1 0)]
        refine Ok_b (m_pre W1 e1 hc1 c8) (fun g ⟨e2, K⟩ => ?_)
        have Wg := K.1.1
        obtain ⟨a1, a2, a3, a4⟩ := st_now Wg e2 (k := 100 + a) (x := Int32.ofNat w) (by omega)
        simp only [gM0 Wg, bN, show (100 : Int32) + Int32.ofNat a = Int32.ofNat (100 + a) from ixa 100 a, ld_now Wg e2 (show 100 + a < 230 by omega), a1]
        exact Ok_p ⟨rfl, KP_fr K a4, fun q _ => by rw [a3]⟩
    · refine Or.inl (Ask_e IA 2 (by decide) (Or.inr (Or.inr ⟨rfl, rfl⟩)) ?_ (fun h1 W1 W2 e2 => ?_))
      · unfold fX9_setWeight
        simp only [rq_row ha, rq_rangeN (bF hq), then_l, then_r]
        exact Ok_p ⟨rfl, Fr_thr (Fr.refl W)⟩
      · unfold fX10_setWeight
        simp only [pI_at W1 fd_thr, m_row ha, m_inF (bF hq), bN, e10, if_false, if_true, isO_X W2, m_fails W2]
        exact Ok_p ⟨_, rfl, Fr.refl W2⟩
  · refine Or.inl (Ask_e IX 1 (by decide) (Or.inr (Or.inl ⟨rfl, rfl⟩)) ?_ (fun h1 W1 W2 e2 => ?_))
    · unfold fX9_setWeight
      simp only [rq_rowN (bF hp), then_r]
      exact Ok_p ⟨rfl, Fr_thr (Fr.refl W)⟩
    · unfold fX10_setWeight
      simp only [pI_at W1 fd_thr, m_rowN (bF hp), bN, if_true, isO_X W2, m_fails W2]
      exact Ok_p ⟨_, rfl, Fr.refl W2⟩
theorem D_setRule (W : WF h) (S : SR h 3 n) (Hi : HR h c (Bf h)) (G : GD n j) (X : XG n) (c8 : c ≤ 8) (p : Int32) : Do (RC1 IA) h n c j (fX9_setRule 2 p h) (fX10_setRule 319 p) := by
  by_cases hp : inI p 0 2 = true
  · have M' : MG (fup n 105 p) := fun k hk => by rw [fup_ne (by omega)]; exact G.1 k hk
    have H' : WG (fup n 105 p) := fun i hi => by rw [fup_ne (by omega)]; exact G.2.1 i hi
    refine Or.inr ⟨n 105, fup n 105 p, GD_fup G X (by omega) M' H', ?_, fun h1 W1 e1 hc1 => ?_⟩
    · unfold fX9_setRule
      simp only [rq_range hp, then_l, gH1 W, gH0 W, isHi W, bN]
      refine Ok_b (c_save S G W Hi) (fun g ⟨F, Sg, Hg⟩ => ?_)
      have Wg := F.1
      have F2 : Fr (fun b => b = 4) g (st g 4 6 p) := Fr.st Wg (fd_rule R4).sl rfl
      simp only [gH0 Wg, gS0 Wg, bN, gI_at Wg (fd_rule R4), Sg.1.2.2.2.2.2.2, pI_at Wg (fd_rule R4)]
      exact Ok_p ⟨rfl, F.trans (F2.mono (fun b z => by unfold CF; omega)), SR_row Sg (by omega) (F2.mono (fun b z => by omega)) (RR_rule Wg R4 Sg.1), HR_low Hg (F2.mono (fun b z => by omega))⟩
    · unfold fX10_setRule
      simp only [pI_at W1 fd_thr, m_inT hp, bN, e10, if_false, isO_X (W_thr W1 0)]
      refine Ok_b (m_pre W1 e1 hc1 c8) (fun g ⟨e2, K⟩ => ?_)
      have Wg := K.1.1
      obtain ⟨a1, a2, a3, a4⟩ := st_now Wg e2 (k := 105) (x := p) (by omega)
      simp only [gM0 Wg, bN, show ldI g 320 105 = some (n 105) from ld_now Wg e2 (k := 105) (by omega), show stI g 320 105 p = _ from a1]
      exact Ok_p ⟨rfl, KP_fr K a4, fun q _ => by rw [a3]⟩
  · refine Or.inl (Ask_e IA 1 (by decide) (Or.inr ⟨rfl, rfl⟩) ?_ (fun h1 W1 W2 e2 => ?_))
    · unfold fX9_setRule
      simp only [rq_rangeN (bF hp), then_r]
      exact Ok_p ⟨rfl, Fr_thr (Fr.refl W)⟩
    · unfold fX10_setRule
      simp only [pI_at W1 fd_thr, m_inF (bF hp), bN, if_true, isO_X W2, m_fails W2]
      exact Ok_p ⟨_, rfl, Fr.refl W2⟩
theorem D_setCosts (W : WF h) (S : SR h 3 n) (Hi : HR h c (Bf h)) (G : GD n j) (X : XG n) (c8 : c ≤ 8) (p q : Int32) : Do (RC1 IA) h n c j (fX9_setCosts 2 p q h) (fX10_setCosts 319 p q) := by
  by_cases hp : inI p 0 99 = true
  · by_cases hq : inI q 0 99 = true
    · have M' : MG (fup (fup n 106 p) 107 q) := fun k hk => by rw [fup_ne (by omega), fup_ne (by omega)]; exact G.1 k hk
      have H' : WG (fup (fup n 106 p) 107 q) := fun i hi => by rw [fup_ne (by omega), fup_ne (by omega)]; exact G.2.1 i hi
      have ee : ∀ k, 108 ≤ k → fup (fup n 106 p) 107 q k = n k := fun k hk => by rw [fup_ne (by omega), fup_ne (by omega)]
      refine Or.inr ⟨(100 * n 106) + n 107, fup (fup n 106 p) 107 q, ⟨⟨M', H', NG_mono (NG_congr G.2.2 ee) (by omega)⟩, XG_congr X ee⟩, ?_, fun h1 W1 e1 hc1 => ?_⟩
      · unfold fX9_setCosts
        simp only [rq_range hp, rq_range hq, then_l, gH1 W, gH0 W, isHi W, bN]
        refine Ok_b (c_save S G W Hi) (fun g ⟨F, Sg, Hg⟩ => ?_)
        have Wg := F.1
        have T2 := (fd_S2 S3).sl
        have T3 := (fd_S3 S3).sl
        have W2 := WF_st (x := p) Wg T2
        have F2 : Fr (fun b => b = 3) g (st (st g 3 2 p) 3 3 q) := (Fr.st (P := fun b => b = 3) Wg T2 rfl).trans (Fr.st W2 T3 rfl)
        simp only [gH0 Wg, gH0 W2, bN, gI_at Wg (fd_S2 S3), gI_at Wg (fd_S3 S3), Sg.2.2.1, Sg.2.2.2, pI_at Wg (fd_S2 S3), pI_at W2 (fd_S3 S3)]
        refine Ok_p ⟨rfl, F.trans (F2.mono (fun b z => by unfold CF; omega)), ⟨?_, ?_, ?_, ?_⟩, HR_low Hg (F2.mono (fun b z => by omega))⟩
        · exact RR_congr (fun k hk => by rw [fup_ne (by omega), fup_ne (by omega)]) (RR_fr R4 Sg.1 F2 (fun o ho => by omega))
        · exact NR_congr (fun k hk => (ee k hk).symm) (NR_fr N27 Sg.2.1 F2 (fun o ho => by omega))
        · show V (st (st g 3 2 p) 3 3 q) 3 2 = _
          rw [V_st_eq W2 T3, V_st_eq Wg T2, fup_ne (by omega), fup_eq, fup_ne (by omega), fup_eq]
        · show V (st (st g 3 2 p) 3 3 q) 3 3 = _
          rw [V_st_eq W2 T3, fup_eq, fup_eq]
      · unfold fX10_setCosts
        simp only [pI_at W1 fd_thr, m_inT hp, m_inT hq, bN, e10, if_false, isO_X (W_thr W1 0)]
        refine Ok_b (m_pre W1 e1 hc1 c8) (fun g ⟨e2, K⟩ => ?_)
        have Wg := K.1.1
        obtain ⟨a1, a2, a3, a4⟩ := st_now Wg e2 (k := 106) (x := p) (by omega)
        obtain ⟨b1, b2, b3, b4⟩ := st_now a2 a3 (k := 107) (x := q) (by omega)
        simp only [gM0 Wg, gM0 a2, bN, show ldI g 320 106 = some (n 106) from ld_now Wg e2 (k := 106) (by omega), show ldI g 320 107 = some (n 107) from ld_now Wg e2 (k := 107) (by omega), show stI g 320 106 p = _ from a1, show stI (st g 320 106 p) 320 107 q = _ from b1]
        exact Ok_p ⟨rfl, KP_fr K (a4.trans b4), fun q _ => by rw [b3]⟩
    · refine Or.inl (Ask_e IA 1 (by decide) (Or.inr ⟨rfl, rfl⟩) ?_ (fun h1 W1 W2 e2 => ?_))
      · unfold fX9_setCosts
        simp only [rq_range hp, rq_rangeN (bF hq), then_l, then_r]
        exact Ok_p ⟨rfl, Fr_thr (Fr.refl W)⟩
      · unfold fX10_setCosts
        simp only [pI_at W1 fd_thr, m_inT hp, m_inF (bF hq), bN, e10, if_false, if_true, isO_X W2, m_fails W2]
        exact Ok_p ⟨_, rfl, Fr.refl W2⟩
  · refine Or.inl (Ask_e IA 1 (by decide) (Or.inr ⟨rfl, rfl⟩) ?_ (fun h1 W1 W2 e2 => ?_))
    · unfold fX9_setCosts
      simp only [rq_rangeN (bF hp), then_r]
      exact Ok_p ⟨rfl, Fr_thr (Fr.refl W)⟩
    · unfold fX10_setCosts
      simp only [pI_at W1 fd_thr, m_inF (bF hp), bN, if_true, isO_X W2, m_fails W2]
      exact Ok_p ⟨_, rfl, Fr.refl W2⟩
end
