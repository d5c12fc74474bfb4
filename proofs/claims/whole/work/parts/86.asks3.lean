/-! THE PURE SIDE, 37: questions, 3: the merged row, votes -/
/-- a call that throws nothing and changes nothing -/
def AskI (n : Nat → Int32) (m : Option Int32) (k : mxH → Option (Int32 × mxH)) : Prop :=
  ∃ v, m = some v ∧ ∀ h1, WF h1 → V h1 320 = n → Ok (k h1) (MS h1 0 v)
theorem AskI_v {n : Nat → Int32} {m : Option Int32} {k : mxH → Option (Int32 × mxH)} (v : Int32) (a : m = some v) (b : ∀ h1, WF h1 → WF (st h1 319 3 0) → V (st h1 319 3 0) 320 = n → Ok (k h1) (fun o => o.1 = v ∧ Fr MF (st h1 319 3 0) o.2)) : AskI n m k :=
  ⟨v, a, fun h1 W e => by
    obtain ⟨⟨x, h2⟩, e1, e2, F⟩ := b h1 W (W_thr W 0) (n_thr e 0)
    exact Ok_e e1 (MS_of W F e2)⟩
theorem al_eq (n : Nat → Int32) : fo (fun s i => s + itm n i) 0 5 = rdN n 20 := by
  unfold rdN
  exact fo_congr (fun x k hk => by rw [Nat.min_eq_left (itm_20 n k)])
section
variable {h : mxH} {n : Nat → Int32} {j : Nat}
theorem c_mergeAll (W : WF h) (S : SR h 3 n) (G : GD n j) : Ok (fX1_mergeAll 302 4 h) (fun h' => Fr QF h h' ∧ SR h' 3 n ∧ MR h' n) := by
  refine Ok_m (s_mergeAll W G.1 R4 S.1) (fun h1 ⟨F, K⟩ => ?_)
  have F2 : Fr QF h h1 := F.mono (fun b z => by unfold QF; omega)
  exact ⟨F2, SR_fr S3 S F2 (fun b b1 b2 b3 => by unfold QF; omega), K⟩
theorem c_gather (W : WF h) (S : SR h 3 n) : Ok (fX8_gather 306 4 h) (fun h' => Fr QF h h' ∧ SR h' 3 n ∧ VR h' n) := by
  refine Ok_m (s_gather W R4 S.1) (fun h1 ⟨F, K⟩ => ?_)
  have F2 : Fr QF h h1 := F.mono (fun b z => by unfold QF; omega)
  exact ⟨F2, SR_fr S3 S F2 (fun b b1 b2 b3 => by unfold QF; omega), K⟩
theorem mF5 {b : Nat} (z : b = 325) : MF b := by unfold MF; omega
theorem mF8 {b : Nat} (z : b = 328) : MF b := by unfold MF; omega
theorem Q_mergedCount (W : WF h) (S : SR h 3 n) : AskI n (fX9_mergedCount 2 h) (fX10_mergedCount 319) := by
  refine AskI_v (Int32.ofNat (rdN n 20)) ?_ (fun h1 W1 W2 e2 => ?_)
  · unfold fX9_mergedCount
    simp only [gH0 W, gS0 W, isO_R W R4, bN, show fX6_itemsRead 4 20 h = some (Int32.ofNat (rdN n 20)) from s_itemsRead W R4 S.1 (d := 20) (by omega)]
  · unfold fX10_mergedCount
    simp only [pI_at W1 fd_thr, isO_X W2, bN, m_allItems W2 e2, al_eq]
    exact Ok_p ⟨rfl, Fr.refl W2⟩
theorem Q_mergedThing (W : WF h) (S : SR h 3 n) (G : GD n j) (p : Int32) : Ask (RC1 IX) h n (fX9_mergedThing 2 p h) (fX10_mergedThing 319 p) := by
  have m100 := mcn_100 n
  by_cases hq : inN p (mcn n) = true
  · obtain ⟨q, hq2, rfl⟩ := inN_of (by omega) hq
    refine Ask_v (Int32.ofNat (mnr n q % 20)) (Or.inl ⟨rfl, rfl⟩) ?_ (fun h1 W1 W2 e2 => ?_)
    · unfold fX9_mergedThing
      simp only [gH6 W, gH0 W, gS0 W, isO_M W, bN]
      refine Ok_b (c_mergeAll W S G) (fun g ⟨F, Sg, K⟩ => ?_)
      have Wg := F.1
      simp only [gH6 Wg, bN, gI_at Wg fd_mc, K.1, rq_place hq2 (show mcn n < 2147483648 by omega), then_l, isO_M Wg, s_mThingOn Wg K hq2]
      exact Ok_p ⟨rfl, F⟩
    · unfold fX10_mergedThing
      simp only [pI_at W1 fd_thr, gM7 W2, isO_X W2, bN]
      refine Ok_b (m_keysAll G.1 W2 e2 (a := 325) (Or.inl rfl)) (fun o ⟨o1, o2, o3⟩ => ?_)
      have W3 := o2.1
      have ek : V o.2 325 q = ky n (mnr n q) := o3 q hq2
      rw [o1]
      simp only [m_in, inI_S (show mcn n < 2147483648 by omega), hq, bI_t, bN, e10, if_false, gM7 W3, ldI_at W3 ar_kA (show q < 100 by omega), ek, ky_thing (mnr_spec hq2).1]
      exact Ok_p ⟨rfl, o2.mono (fun b z => mF5 z)⟩
  · refine Ask_e IX 1 (by decide) (Or.inr ⟨rfl, rfl⟩) ?_ (fun h1 W1 W2 e2 => ?_)
    · unfold fX9_mergedThing
      simp only [gH6 W, gH0 W, gS0 W, isO_M W, bN]
      refine Ok_b (c_mergeAll W S G) (fun g ⟨F, Sg, K⟩ => ?_)
      have Wg := F.1
      simp only [gH6 Wg, bN, gI_at Wg fd_mc, K.1, rq_placeN (bF hq), then_r]
      exact Ok_p ⟨rfl, Fr_thr F⟩
    · unfold fX10_mergedThing
      simp only [pI_at W1 fd_thr, gM7 W2, isO_X W2, bN]
      refine Ok_b (m_keysAll G.1 W2 e2 (a := 325) (Or.inl rfl)) (fun o ⟨o1, o2, o3⟩ => ?_)
      have W3 := o2.1
      rw [o1]
      simp only [m_in, inI_S (show mcn n < 2147483648 by omega), bF hq, bI_f, bN, if_true, isO_X W3, m_fails W3]
      exact Ok_p ⟨_, rfl, o2.mono (fun b z => mF5 z)⟩
theorem Q_mergedRow (W : WF h) (S : SR h 3 n) (G : GD n j) (p : Int32) : Ask (RC1 IX) h n (fX9_mergedRow 2 p h) (fX10_mergedRow 319 p) := by
  have m100 := mcn_100 n
  by_cases hq : inN p (mcn n) = true
  · obtain ⟨q, hq2, rfl⟩ := inN_of (by omega) hq
    refine Ask_v (Int32.ofNat (mnr n q / 20)) (Or.inl ⟨rfl, rfl⟩) ?_ (fun h1 W1 W2 e2 => ?_)
    · unfold fX9_mergedRow
      simp only [gH6 W, gH0 W, gS0 W, isO_M W, bN]
      refine Ok_b (c_mergeAll W S G) (fun g ⟨F, Sg, K⟩ => ?_)
      have Wg := F.1
      simp only [gH6 Wg, bN, gI_at Wg fd_mc, K.1, rq_place hq2 (show mcn n < 2147483648 by omega), then_l, isO_M Wg, s_rowOn Wg K hq2]
      exact Ok_p ⟨rfl, F⟩
    · unfold fX10_mergedRow
      simp only [pI_at W1 fd_thr, gM7 W2, isO_X W2, bN]
      refine Ok_b (m_keysAll G.1 W2 e2 (a := 325) (Or.inl rfl)) (fun o ⟨o1, o2, o3⟩ => ?_)
      have W3 := o2.1
      have ek : V o.2 325 q = ky n (mnr n q) := o3 q hq2
      rw [o1]
      simp only [m_in, inI_S (show mcn n < 2147483648 by omega), hq, bI_t, bN, e10, if_false, gM7 W3, ldI_at W3 ar_kA (show q < 100 by omega), ek, ky_row (mnr_spec hq2).1]
      exact Ok_p ⟨rfl, o2.mono (fun b z => mF5 z)⟩
  · refine Ask_e IX 1 (by decide) (Or.inr ⟨rfl, rfl⟩) ?_ (fun h1 W1 W2 e2 => ?_)
    · unfold fX9_mergedRow
      simp only [gH6 W, gH0 W, gS0 W, isO_M W, bN]
      refine Ok_b (c_mergeAll W S G) (fun g ⟨F, Sg, K⟩ => ?_)
      have Wg := F.1
      simp only [gH6 Wg, bN, gI_at Wg fd_mc, K.1, rq_placeN (bF hq), then_r]
      exact Ok_p ⟨rfl, Fr_thr F⟩
    · unfold fX10_mergedRow
      simp only [pI_at W1 fd_thr, gM7 W2, isO_X W2, bN]
      refine Ok_b (m_keysAll G.1 W2 e2 (a := 325) (Or.inl rfl)) (fun o ⟨o1, o2, o3⟩ => ?_)
      have W3 := o2.1
      rw [o1]
      simp only [m_in, inI_S (show mcn n < 2147483648 by omega), bF hq, bI_f, bN, if_true, isO_X W3, m_fails W3]
      exact Ok_p ⟨_, rfl, o2.mono (fun b z => mF5 z)⟩
theorem Q_quantile (W : WF h) (S : SR h 3 n) (G : GD n j) (p : Int32) : Ask (RC2 IA NS) h n (fX9_quantile 2 p h) (fX10_quantile 319 p) := by
  have m100 := mcn_100 n
  by_cases hq : inI p 0 1000 = true
  · obtain ⟨k, -, hk, rfl⟩ := inI_of (a := 0) (b := 1000) (by omega) (by omega) hq
    by_cases z : mcn n = 0
    · refine Ask_e NS 2 (by decide) (Or.inr (Or.inr ⟨rfl, rfl⟩)) ?_ (fun h1 W1 W2 e2 => ?_)
      · unfold fX9_quantile
        simp only [rq_range hq, then_l, gH6 W, gH0 W, gS0 W, isO_M W, bN]
        refine Ok_b (c_mergeAll W S G) (fun g ⟨F, Sg, K⟩ => ?_)
        have Wg := F.1
        simp only [gH6 Wg, bN, gI_at Wg fd_mc, K.1, z, show Int32.ofNat 0 ≤ 0 from yle, if_true, rq_foundN, then_r]
        exact Ok_p ⟨rfl, Fr_thr F⟩
      · unfold fX10_quantile
        simp only [pI_at W1 fd_thr, m_inT hq, e10, if_false, gM7 W2, isO_X W2, bN]
        refine Ok_b (m_keysAll G.1 W2 e2 (a := 325) (Or.inl rfl)) (fun o ⟨o1, o2, o3⟩ => ?_)
        have W3 := o2.1
        rw [o1, z]
        simp only [show Int32.ofNat 0 = (0 : Int32) from rfl, if_true, isO_X W3, bN, m_fails W3]
        exact Ok_p ⟨_, rfl, o2.mono (fun b z => mF5 z)⟩
    · have h1000 : (mcn n - 1) * k ≤ (mcn n - 1) * 1000 := Nat.mul_le_mul_left _ hk
      have hx : (mcn n - 1) * k / 1000 < mcn n := by
        have : (mcn n - 1) * k / 1000 ≤ mcn n - 1 := Nat.div_le_of_le_mul (by rw [Nat.mul_comm 1000]; exact h1000)
        omega
      have ex : ((Int32.ofNat (mcn n) - 1) * Int32.ofNat k) / 1000 = Int32.ofNat ((mcn n - 1) * k / 1000) := by
        rw [ofN_pred (by omega) (by omega), ofN_mul]
        exact div_N (b := 1000) (by omega) (by omega) (by omega)
      generalize (mcn n - 1) * k / 1000 = x at hx ex
      obtain ⟨s1, s2⟩ := mnr_spec hx
      have nz : ¬ Int32.ofNat (mcn n) ≤ 0 := nle (b := 0) (by omega) (by omega)
      have nz2 : ¬ Int32.ofNat (mcn n) = 0 := fun y => by have := (ofN_eq (b := 0) (show mcn n < 2147483648 by omega) (by omega)).mp y; omega
      refine Ask_v (n (mnr n x)) (Or.inl ⟨rfl, rfl⟩) ?_ (fun h1 W1 W2 e2 => ?_)
      · unfold fX9_quantile
        simp only [rq_range hq, then_l, gH6 W, gH0 W, gS0 W, isO_M W, bN]
        refine Ok_b (c_mergeAll W S G) (fun g ⟨F, Sg, K⟩ => ?_)
        have Wg := F.1
        have r1 : mnr n x / 20 < 5 := by omega
        have t1 : mnr n x % 20 < 20 := by omega
        simp only [gH6 Wg, gH0 Wg, gS0 Wg, bN, gI_at Wg fd_mc, K.1, if_neg nz, rq_found, then_l, isO_M Wg, ex, s_rowOn Wg K hx, s_mThingOn Wg K hx, isO_R Wg R4, s_markOf Wg R4 r1 t1, Sg.1.1 _ _ r1 t1]
        exact Ok_p ⟨by show Sum.inl _ = Sum.inl _; rw [show 20 * (mnr n x / 20) + mnr n x % 20 = mnr n x by omega], F⟩
      · unfold fX10_quantile
        simp only [pI_at W1 fd_thr, m_inT hq, e10, if_false, gM7 W2, isO_X W2, bN]
        refine Ok_b (m_keysAll G.1 W2 e2 (a := 325) (Or.inl rfl)) (fun o ⟨o1, o2, o3⟩ => ?_)
        have W3 := o2.1
        have ek : V o.2 325 x = ky n (mnr n x) := o3 x hx
        rw [o1]
        simp only [if_neg nz2, gM7 W3, ex, bN, ldI_at W3 ar_kA (show x < 100 by omega), ek, ky_mark G.1 s1 s2]
        exact Ok_p ⟨rfl, o2.mono (fun b z => mF5 z)⟩
  · refine Ask_e IA 1 (by decide) (Or.inr (Or.inl ⟨rfl, rfl⟩)) ?_ (fun h1 W1 W2 e2 => ?_)
    · unfold fX9_quantile
      simp only [rq_rangeN (bF hq), then_r]
      exact Ok_p ⟨rfl, Fr_thr (Fr.refl W)⟩
    · unfold fX10_quantile
      simp only [pI_at W1 fd_thr, m_inF (bF hq), bN, if_true, isO_X W2, m_fails W2]
      exact Ok_p ⟨_, rfl, Fr.refl W2⟩
theorem Q_comparisons (W : WF h) (S : SR h 3 n) (G : GD n j) (p q : Int32) : Ask (RC2 IX IA) h n (fX9_comparisons 2 p q h) (fX10_comparisons 319 p q) := by
  by_cases hr : inN p 5 = true
  · obtain ⟨i, hi, rfl⟩ := inN_of (by omega) hr
    by_cases hq : inN q 5 = true
    · obtain ⟨k, hk, rfl⟩ := inN_of (by omega) hq
      by_cases c : i = k
      · subst c
        refine Ask_e IA 2 (by decide) (Or.inr (Or.inr ⟨rfl, rfl⟩)) ?_ (fun h1 W1 W2 e2 => ?_)
        · unfold fX9_comparisons
          simp only [rq_row hi, then_l, if_true]
          exact Ok_p ⟨rfl, Fr_thr (Fr.refl W)⟩
        · unfold fX10_comparisons
          simp only [pI_at W1 fd_thr, m_row hi, bN, e10, if_false, if_true, isO_X W2, m_fails W2]
          exact Ok_p ⟨_, rfl, Fr.refl W2⟩
      · have ne : ¬ Int32.ofNat i = Int32.ofNat k := fun z => c ((ofN_eq (by omega) (by omega)).mp z)
        refine Ask_v (Int32.ofNat (cpr n i k)) (Or.inl ⟨rfl, rfl⟩) ?_ (fun h1 W1 W2 e2 => ?_)
        · unfold fX9_comparisons
          simp only [rq_row hi, rq_row hk, then_l, if_neg ne, gH6 W, gH0 W, gS0 W, isO_M W, bN]
          refine Ok_b (c_mergeAll W S G) (fun g ⟨F, Sg, K⟩ => ?_)
          have Wg := F.1
          have b1 : 1 <<< i < 32 := (show ∀ i, i < 5 → 1 <<< i < 32 by decide) i hi
          have b2 : 1 <<< k < 32 := (show ∀ i, i < 5 → 1 <<< i < 32 by decide) k hk
          rw [(sh6 i (by omega)).1, (sh6 k (by omega)).1]
          simp only [gH6 Wg, isO_M Wg, bN, s_countComparisons Wg K b1 b2 (fun t ht z => by rw [bit5 i hi t ht] at z; rw [bit5 k hk t ht]; simp only [beq_iff_eq] at z; simpa using (show t ≠ k by omega)), cpr_cmp hi hk c]
          exact Ok_p ⟨rfl, F⟩
        · unfold fX10_comparisons
          simp only [pI_at W1 fd_thr, m_row hi, m_row hk, bN, e10, if_false, if_neg ne, isO_X W2]
          refine Ok_b (Ok_b (m_comparedRows G.1 W2 e2 hi hk c) (fun o H => Ok_p (P := fun o : Int32 × mxH => o.1 = Int32.ofNat (cpr n i k) ∧ Fr (fun b => b = 325 ∨ b = 326) (st h1 319 3 0) o.2) H)) (fun o ⟨o1, o2⟩ => Ok_p ⟨o1, o2.mono (fun b z => by unfold MF; omega)⟩)
    · refine Ask_e IX 1 (by decide) (Or.inr (Or.inl ⟨rfl, rfl⟩)) ?_ (fun h1 W1 W2 e2 => ?_)
      · unfold fX9_comparisons
        simp only [rq_row hi, rq_rowN (bF hq), then_l, then_r]
        exact Ok_p ⟨rfl, Fr_thr (Fr.refl W)⟩
      · unfold fX10_comparisons
        simp only [pI_at W1 fd_thr, m_row hi, m_rowN (bF hq), bN, e10, if_false, if_true, isO_X W2, m_fails W2]
        exact Ok_p ⟨_, rfl, Fr.refl W2⟩
  · refine Ask_e IX 1 (by decide) (Or.inr (Or.inl ⟨rfl, rfl⟩)) ?_ (fun h1 W1 W2 e2 => ?_)
    · unfold fX9_comparisons
      simp only [rq_rowN (bF hr), then_r]
      exact Ok_p ⟨rfl, Fr_thr (Fr.refl W)⟩
    · unfold fX10_comparisons
      simp only [pI_at W1 fd_thr, m_rowN (bF hr), bN, if_true, isO_X W2, m_fails W2]
      exact Ok_p ⟨_, rfl, Fr.refl W2⟩
theorem Q_allComparisons (W : WF h) (S : SR h 3 n) (G : GD n j) : Ask0 h n (fX9_allComparisons 2 h) (fX10_allComparisons 319) := by
  refine Ask0_v (cmpAll n) ?_ (fun h1 W1 W2 e2 => ?_)
  · unfold fX9_allComparisons
    simp only [gH6 W, gH0 W, gS0 W, isO_M W, bN]
    refine Ok_b (c_mergeAll W S G) (fun g ⟨F, Sg, K⟩ => ?_)
    have Wg := F.1
    simp only [gH6 Wg, isO_M Wg, bN, s_countAll Wg K]
    exact Ok_p ⟨rfl, F⟩
  · have e1 : V h1 320 = n := by rw [← e2, V_st_ne (by omega)]
    exact Ok_m (m_allComparisons G.1 W1 e1) (fun o ⟨o1, o2⟩ => ⟨o1, o2.mono (fun b z => by unfold MF; omega)⟩)
theorem Q_candidates (W : WF h) (S : SR h 3 n) : Ask0 h n (fX9_candidates 2 h) (fX10_candidates 319) := by
  refine Ask0_v (Int32.ofNat (cdC n)) ?_ (fun h1 W1 W2 e2 => ?_)
  · unfold fX9_candidates
    simp only [gH7 W, gH0 W, gS0 W, isO_V W, bN]
    refine Ok_b (c_gather W S) (fun g ⟨F, Sg, K⟩ => ?_)
    have Wg := F.1
    simp only [gH7 Wg, gI_at Wg fd_vc, bN, K.1]
    exact Ok_p ⟨rfl, F⟩
  · unfold fX10_candidates
    simp only [pI_at W1 fd_thr, isO_X W2, bN]
    exact Ok_b (m_finds W2 e2) (fun o ⟨o1, o2, o3⟩ => Ok_p ⟨o1, o2.mono (fun b z => mF8 z)⟩)
theorem Q_prefer (W : WF h) (S : SR h 3 n) (p q : Int32) : Ask (RC1 IX) h n (fX9_prefer 2 p q h) (fX10_prefer 319 p q) := by
  by_cases hr : inN p 20 = true
  · obtain ⟨i, hi, rfl⟩ := inN_of (by omega) hr
    by_cases hq : inN q 20 = true
    · obtain ⟨k, hk, rfl⟩ := inN_of (by omega) hq
      refine Ask_v (Int32.ofNat (prf n i k)) (Or.inl ⟨rfl, rfl⟩) ?_ (fun h1 W1 W2 e2 => ?_)
      · unfold fX9_prefer
        simp only [rq_thing hi, rq_thing hk, then_l, gH0 W, gS0 W, isO_R W R4, bN, s_countPreferring W R4 S.1 hi hk]
        exact Ok_p ⟨rfl, Fr.refl W⟩
      · unfold fX10_prefer
        simp only [pI_at W1 fd_thr, m_thing hi, m_thing hk, bN, e10, if_false, isO_X W2, m_preferring W2 e2 hi hk]
        exact Ok_p ⟨rfl, Fr.refl W2⟩
    · refine Ask_e IX 1 (by decide) (Or.inr ⟨rfl, rfl⟩) ?_ (fun h1 W1 W2 e2 => ?_)
      · unfold fX9_prefer
        simp only [rq_thing hi, rq_thingN (bF hq), then_l, then_r]
        exact Ok_p ⟨rfl, Fr_thr (Fr.refl W)⟩
      · unfold fX10_prefer
        simp only [pI_at W1 fd_thr, m_thing hi, m_thingN (bF hq), bN, e10, if_false, if_true, isO_X W2, m_fails W2]
        exact Ok_p ⟨_, rfl, Fr.refl W2⟩
  · refine Ask_e IX 1 (by decide) (Or.inr ⟨rfl, rfl⟩) ?_ (fun h1 W1 W2 e2 => ?_)
    · unfold fX9_prefer
      simp only [rq_thingN (bF hr), then_r]
      exact Ok_p ⟨rfl, Fr_thr (Fr.refl W)⟩
    · unfold fX10_prefer
      simp only [pI_at W1 fd_thr, m_thingN (bF hr), bN, if_true, isO_X W2, m_fails W2]
      exact Ok_p ⟨_, rfl, Fr.refl W2⟩
theorem Q_winner (W : WF h) (S : SR h 3 n) : Ask (RC1 NS) h n (fX9_winner 2 h) (fX10_winner 319) := by
  have cls : Ok (fX9_winner 2 h) (fun x => Fr QF h x.2 ∧ if wnr n < cdC n then x.1 = .inl (Int32.ofNat (cd n (wnr n))) else x.1 = .inr NS) := by
    unfold fX9_winner
    simp only [gH7 W, gH0 W, gS0 W, isO_V W, bN]
    refine Ok_b (c_gather W S) (fun g ⟨F, Sg, K⟩ => ?_)
    have Wg := F.1
    simp only [gH7 Wg, isO_V Wg, bN, s_findWinner Wg K]
    by_cases c : wnr n < cdC n
    · have c20 := (cd_spec c).1
      simp only [if_pos c, if_neg (ofN_nm (show cd n (wnr n) < 2147483648 by omega)), bN, rq_found, then_l]
      exact Ok_p ⟨F, rfl⟩
    · simp only [if_neg c, if_true, bN, rq_foundN, then_r]
      exact Ok_p ⟨Fr_thr F, rfl⟩
  by_cases c : wnr n < cdC n
  · refine Ask_v (Int32.ofNat (cd n (wnr n))) (Or.inl ⟨rfl, rfl⟩) (Ok_m cls (fun x ⟨x1, x2⟩ => ⟨by rw [if_pos c] at x2; exact x2, x1⟩)) (fun h1 W1 W2 e2 => ?_)
    have e1 : V h1 320 = n := by rw [← e2, V_st_ne (by omega)]
    exact Ok_m (m_winner W1 e1) (fun o H => by rw [if_pos c] at H; exact ⟨H.1, H.2.mono (fun b z => mF8 z)⟩)
  · refine Ask_e NS 1 (by decide) (Or.inr ⟨rfl, rfl⟩) (Ok_m cls (fun x ⟨x1, x2⟩ => ⟨by rw [if_neg c] at x2; exact x2, x1⟩)) (fun h1 W1 W2 e2 => ?_)
    have e1 : V h1 320 = n := by rw [← e2, V_st_ne (by omega)]
    exact Ok_m (m_winner W1 e1) (fun o H => by rw [if_neg c] at H; obtain ⟨_, h', a, b⟩ := H; exact ⟨h', a, b.mono (fun b z => mF8 z)⟩)
theorem Q_ring (W : WF h) (S : SR h 3 n) : Ask0 h n (fX9_ring 2 h) (fX10_ring 319) := by
  refine Ask0_v (rgI (cdC n) (srg n)) ?_ (fun h1 W1 W2 e2 => ?_)
  · unfold fX9_ring
    simp only [gH7 W, gH0 W, gS0 W, isO_V W, bN]
    refine Ok_b (c_gather W S) (fun g ⟨F, Sg, K⟩ => ?_)
    have Wg := F.1
    simp only [gH7 Wg, isO_V Wg, bN, s_shortestRing Wg K]
    exact Ok_p ⟨rfl, F⟩
  · have e1 : V h1 320 = n := by rw [← e2, V_st_ne (by omega)]
    exact Ok_m (m_ring W1 e1) (fun o ⟨o1, o2⟩ => ⟨o1, o2.mono (fun b z => mF8 z)⟩)
theorem Q_swaps (W : WF h) (S : SR h 3 n) : Ask0 h n (fX9_swaps 2 h) (fX10_swaps 319) := by
  have cls : Ok (fX9_swaps 2 h) (fun o => Fr QF h o.2 ∧ ∃ D, DP n D (2 ^ cdC n) ∧ o.1 = Int32.ofNat (D (2 ^ cdC n - 1))) := by
    unfold fX9_swaps
    simp only [gH7 W, gH0 W, gS0 W, isO_V W, bN]
    refine Ok_b (c_gather W S) (fun g ⟨F, Sg, K⟩ => ?_)
    have Wg := F.1
    simp only [gH7 Wg, isO_V Wg, bN]
    exact Ok_b (s_arrange Wg K) (fun o ⟨o1, D, d1, d2, d3, d4⟩ => Ok_p ⟨F.trans (o1.mono (fun b z => by unfold QF; omega)), D, d1, d3⟩)
  obtain ⟨o, eo, F, D, dp, ev⟩ := cls
  refine Ask0_v (Int32.ofNat (D (2 ^ cdC n - 1))) (Ok_e eo ⟨ev, F⟩) (fun h1 W1 W2 e2 => ?_)
  unfold fX10_swaps
  simp only [pI_at W1 fd_thr, isO_X W2, bN]
  refine Ok_b (m_finds W2 e2) (fun o6 ⟨a1, a2, a3⟩ => ?_)
  have W3 := a2.1
  rw [a1]
  simp only [isO_X W3, bN]
  exact Ok_b (m_findsLeast W3 (fr_now a2 (by omega) e2) a3 dp) (fun o ⟨o1, o2, o3⟩ => Ok_p ⟨o1, (a2.mono (fun b z => mF8 z)).trans (o2.mono (fun b z => by unfold MF; omega))⟩)
theorem Q_orderAt (W : WF h) (S : SR h 3 n) (p : Int32) : Ask (RC1 IX) h n (fX9_orderAt 2 p h) (fX10_orderAt 319 p) := by
  have C6 := cdC_6 n
  by_cases hq : inN p (cdC n) = true
  · obtain ⟨q, hq2, rfl⟩ := inN_of (by omega) hq
    have cls : Ok (fX9_orderAt 2 (Int32.ofNat q) h) (fun o => Fr QF h o.2 ∧ ∃ D, DP n D (2 ^ cdC n) ∧ o.1 = .inl (Int32.ofNat (cd n (fof n D (mks n D q))))) := by
      unfold fX9_orderAt
      simp only [gH7 W, gH0 W, gS0 W, isO_V W, bN]
      refine Ok_b (c_gather W S) (fun g ⟨F, Sg, K⟩ => ?_)
      have Wg := F.1
      simp only [gH7 Wg, gI_at Wg fd_vc, K.1, bN, rq_place hq2 (show cdC n < 2147483648 by omega), then_l, isO_V Wg]
      refine Ok_b (s_arrange Wg K) (fun o ⟨o1, D, d1, d2, d3, d4⟩ => ?_)
      have W2 := o1.1
      simp only [gH7 W2, isO_V W2, bN, s_vThingOn W2 (show q < 6 by omega), d4 q hq2]
      exact Ok_p ⟨F.trans (o1.mono (fun b z => by unfold QF; omega)), D, d1, rfl⟩
    obtain ⟨o, eo, F, D, dp, ev⟩ := cls
    refine Ask_v (Int32.ofNat (cd n (fof n D (mks n D q)))) (Or.inl ⟨rfl, rfl⟩) (Ok_e eo ⟨ev, F⟩) (fun h1 W1 W2 e2 => ?_)
    unfold fX10_orderAt
    simp only [pI_at W1 fd_thr, isO_X W2, bN]
    refine Ok_b (m_finds W2 e2) (fun o6 ⟨a1, a2, a3⟩ => ?_)
    have W3 := a2.1
    rw [a1]
    simp only [m_in, inI_S (show cdC n < 2147483648 by omega), hq, bI_t, bN, e10, if_false, isO_X W3]
    refine Ok_b (m_findsLeast W3 (fr_now a2 (by omega) e2) a3 dp) (fun o ⟨o1, o2, o3⟩ => ?_)
    have W4 := o2.1
    simp only [gM12 W4, bN, ldI_at W4 ar_lst (show q < 6 by omega), o3 q hq2]
    exact Ok_p ⟨rfl, (a2.mono (fun b z => mF8 z)).trans (o2.mono (fun b z => by unfold MF; omega))⟩
  · refine Ask_e IX 1 (by decide) (Or.inr ⟨rfl, rfl⟩) ?_ (fun h1 W1 W2 e2 => ?_)
    · unfold fX9_orderAt
      simp only [gH7 W, gH0 W, gS0 W, isO_V W, bN]
      refine Ok_b (c_gather W S) (fun g ⟨F, Sg, K⟩ => ?_)
      have Wg := F.1
      simp only [gH7 Wg, gI_at Wg fd_vc, K.1, bN, rq_placeN (bF hq), then_r]
      exact Ok_p ⟨rfl, Fr_thr F⟩
    · unfold fX10_orderAt
      simp only [pI_at W1 fd_thr, isO_X W2, bN]
      refine Ok_b (m_finds W2 e2) (fun o6 ⟨a1, a2, a3⟩ => ?_)
      have W3 := a2.1
      rw [a1]
      simp only [m_in, inI_S (show cdC n < 2147483648 by omega), bF hq, bI_f, bN, if_true, isO_X W3, m_fails W3]
      exact Ok_p ⟨_, rfl, a2.mono (fun b z => mF8 z)⟩
end
