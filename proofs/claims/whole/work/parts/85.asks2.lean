/-! THE PURE SIDE, 36: questions, 2: ranks, stops, costs, the best -/
/-- a call that throws nothing -/
def Ask0 (h : mxH) (n : Nat → Int32) (m : Option (Int32 × mxH)) (k : mxH → Option (Int32 × mxH)) : Prop :=
  ∃ v, Ok m (fun o => o.1 = v ∧ Fr QF h o.2) ∧ ∀ h1, WF h1 → V h1 320 = n → Ok (k h1) (MS h1 0 v)
theorem Ask0_v {h : mxH} {n : Nat → Int32} {m : Option (Int32 × mxH)} {k : mxH → Option (Int32 × mxH)} (v : Int32) (a : Ok m (fun o => o.1 = v ∧ Fr QF h o.2)) (b : ∀ h1, WF h1 → WF (st h1 319 3 0) → V (st h1 319 3 0) 320 = n → Ok (k h1) (fun o => o.1 = v ∧ Fr MF (st h1 319 3 0) o.2)) : Ask0 h n m k :=
  ⟨v, a, fun h1 W e => by
    obtain ⟨⟨x, h2⟩, e1, e2, F⟩ := b h1 W (W_thr W 0) (n_thr e 0)
    exact Ok_e e1 (MS_of W F e2)⟩
section
variable {h : mxH} {n : Nat → Int32} {j : Nat}
theorem c_rankAll (W : WF h) (S : SR h 3 n) (G : GD n j) : Ok (fX4_rankAll 289 4 h) (fun h' => Fr QF h h' ∧ SR h' 3 n ∧ KR h' 289 n) := by
  refine Ok_m (s_rankAll W G.1 G.2.1 K289 R4 S.1) (fun h1 ⟨F, K⟩ => ?_)
  have F2 : Fr QF h h1 := F.mono (fun b z => by unfold QF; omega)
  exact ⟨F2, SR_fr S3 S F2 (fun b b1 b2 b3 => by unfold QF; omega), K⟩
theorem c_findStop (W : WF h) (S : SR h 3 n) (G : GD n j) {k : Nat} (h1 : 1 ≤ k) (h2 : k ≤ 20) : Ok (fX9_findStop 2 (Int32.ofNat k) h) (fun o => o.1 = Int32.ofNat (stp n k) ∧ Fr QF h o.2 ∧ SR o.2 3 n ∧ KR o.2 289 n) := by
  unfold fX9_findStop
  simp only [gH3 W, gH0 W, gS0 W, isO_K W K289, bN]
  refine Ok_b (c_rankAll W S G) (fun g ⟨F, Sg, K⟩ => ?_)
  have Wg := F.1
  simp only [gH5 Wg, gH0 Wg, gS0 Wg, gH3 Wg, isO_D Wg, bN]
  refine Ok_b (s_findStops Wg G.1 G.2.1 K289 R4 Sg.1 K) (fun g2 ⟨F2, v2⟩ => ?_)
  have W2 := F2.1
  have F3 : Fr QF g g2 := F2.mono (fun b z => by unfold QF; omega)
  simp only [gH5 W2, isO_D W2, bN, s_stopOf W2 h1 h2, v2 k h1 h2]
  exact Ok_p ⟨rfl, F.trans F3, SR_fr S3 Sg F3 (fun b b1 b2 b3 => by unfold QF; omega), KR_fr K289 K F2 (fun o ho => by omega)⟩
theorem stp_20 (n : Nat → Int32) (k : Nat) : stp n k ≤ 20 := Nat.le_trans (stp_le n k) (dpt_20 n)
theorem pst_20 (n : Nat → Int32) (k : Nat) : pst n k ≤ 20 := Nat.le_trans (pst_le n k) (dpt_20 n)
theorem knr_bst (n : Nat → Int32) (q : Nat) : knr n q = bst n 20 q := rfl
theorem mF {b : Nat} (z : b = 322 ∨ b = 323) : MF b := by unfold MF; omega
theorem mF4 {b : Nat} (z : b = 322 ∨ b = 324) : MF b := by unfold MF; omega
theorem mFp {b : Nat} (z : b = 322 ∨ b = 331 ∨ b = 332 ∨ b = 333) : MF b := by unfold MF; omega
theorem Q_knownCount (W : WF h) (S : SR h 3 n) (G : GD n j) : Ask0 h n (fX9_knownCount 2 h) (fX10_knownCount 319) := by
  refine Ask0_v (Int32.ofNat (rdT n 20)) ?_ (fun h1 W1 W2 e2 => ?_)
  · unfold fX9_knownCount
    simp only [gH3 W, gH0 W, gS0 W, isO_K W K289, bN]
    refine Ok_b (c_rankAll W S G) (fun g ⟨F, Sg, K⟩ => ?_)
    have Wg := F.1
    simp only [gH3 Wg, bN, gI_at Wg (fd_K K289), K.2.2.2]
    exact Ok_p ⟨rfl, F⟩
  · unfold fX10_knownCount
    simp only [pI_at W1 fd_thr, gM5 W2, isO_X W2, bN]
    refine Ok_b (show Ok (fX10_ranks 319 323 20 _) _ from m_ranks G.1 G.2.1 W2 e2 (a := 323) (d := 20) (Or.inl rfl) (by omega)) (fun o ⟨o1, o2, o3⟩ => Ok_p ⟨o1, o2.mono (fun b z => mF z)⟩)
theorem Q_ranked (W : WF h) (S : SR h 3 n) (G : GD n j) (p : Int32) : Ask (RC1 IX) h n (fX9_ranked 2 p h) (fX10_ranked 319 p) := by
  have r20 := rdT_20 n 20
  by_cases hq : inN p (rdT n 20) = true
  · obtain ⟨q, hq2, rfl⟩ := inN_of (by omega) hq
    refine Ask_v (Int32.ofNat (knr n q)) (Or.inl ⟨rfl, rfl⟩) ?_ (fun h1 W1 W2 e2 => ?_)
    · unfold fX9_ranked
      simp only [gH3 W, gH0 W, gS0 W, isO_K W K289, bN]
      refine Ok_b (c_rankAll W S G) (fun g ⟨F, Sg, K⟩ => ?_)
      have Wg := F.1
      simp only [gH3 Wg, bN, gI_at Wg (fd_K K289), K.2.2.2, rq_place hq2 (show rdT n 20 < 2147483648 by omega), then_l, isO_K Wg K289, s_kThingOn Wg K289 (show q < 20 by omega), K.2.2.1 q (by omega), if_pos hq2]
      exact Ok_p ⟨rfl, F⟩
    · unfold fX10_ranked
      simp only [pI_at W1 fd_thr, gM5 W2, isO_X W2, bN]
      refine Ok_b (show Ok (fX10_ranks 319 323 20 _) _ from m_ranks G.1 G.2.1 W2 e2 (a := 323) (d := 20) (Or.inl rfl) (by omega)) (fun o ⟨o1, o2, o3⟩ => ?_)
      have W3 := o2.1
      rw [o1]
      simp only [m_in, inI_S (show rdT n 20 < 2147483648 by omega), hq, bI_t, bN, e10, if_false, gM5 W3, ldI_at W3 ar_f1 (show q < 20 by omega), o3 q hq2]
      exact Ok_p ⟨rfl, o2.mono (fun b z => mF z)⟩
  · refine Ask_e IX 1 (by decide) (Or.inr ⟨rfl, rfl⟩) ?_ (fun h1 W1 W2 e2 => ?_)
    · unfold fX9_ranked
      simp only [gH3 W, gH0 W, gS0 W, isO_K W K289, bN]
      refine Ok_b (c_rankAll W S G) (fun g ⟨F, Sg, K⟩ => ?_)
      have Wg := F.1
      simp only [gH3 Wg, bN, gI_at Wg (fd_K K289), K.2.2.2, rq_placeN (bF hq), then_r]
      exact Ok_p ⟨rfl, Fr_thr F⟩
    · unfold fX10_ranked
      simp only [pI_at W1 fd_thr, gM5 W2, isO_X W2, bN]
      refine Ok_b (show Ok (fX10_ranks 319 323 20 _) _ from m_ranks G.1 G.2.1 W2 e2 (a := 323) (d := 20) (Or.inl rfl) (by omega)) (fun o ⟨o1, o2, o3⟩ => ?_)
      have W3 := o2.1
      rw [o1]
      simp only [m_in, inI_S (show rdT n 20 < 2147483648 by omega), bF hq, bI_f, bN, if_true, isO_X W3, m_fails W3]
      exact Ok_p ⟨_, rfl, o2.mono (fun b z => mF z)⟩
theorem bst_spec {n : Nat → Int32} {d q : Nat} (hq : q < rdT n d) : bst n d q < 20 ∧ rdAt n (bst n d q) d = true ∧ rkL (bef (val n)) (fun t => rdAt n t d) 20 (bst n d q) = q := nrL_spec (P := fun t => rdAt n t d) (bef_STO (val n) 20) hq
theorem krk_spec {n : Nat → Int32} {t : Nat} (ht : t < 20) (h : knw n t = true) : krk n t < rdT n 20 ∧ bst n 20 (krk n t) = t := ⟨rkL_cnt (P := knw n) (bef_STO (val n) 20) ht h, nrL_of (P := knw n) (bef_STO (val n) 20) ht h⟩
theorem Q_rankOf (W : WF h) (S : SR h 3 n) (G : GD n j) (p : Int32) : Ask (RC2 IX NS) h n (fX9_rankOf 2 p h) (fX10_rankOf 319 p) := by
  have r20 := rdT_20 n 20
  by_cases hr : inN p 20 = true
  · obtain ⟨t, ht, rfl⟩ := inN_of (by omega) hr
    have mstep : ∀ h1 : mxH, WF h1 → (∀ q, q < rdT n 20 → V h1 323 q = Int32.ofNat (bst n 20 q)) → mxLoop (ρ := (Int32 ⊕ Unit)) (fun s12 : Int32 => (if Int32.ofNat (rdT n 20) ≤ s12 then some (Sum.inr (Sum.inr ())) else Option.bind (gR h1 319 10 5) (fun r22 => Option.bind (ldI h1 r22 s12) (fun v24 => (if v24 = Int32.ofNat t then some (Sum.inr (Sum.inl s12)) else some (Sum.inl (s12 + 1))))))) mxF 0 = some (if fst1 (fun q => decide (bst n 20 q = t)) (rdT n 20) < rdT n 20 then .inl (Int32.ofNat (fst1 (fun q => decide (bst n 20 q = t)) (rdT n 20))) else .inr ()) := fun h1 W1 hv => by
      refine find_loop (fun q => decide (bst n 20 q = t)) (rdT n 20) (fun q hq hp => ?_) (fun q hq hp => ?_) (if_pos yle) (by unfold mxF; omega)
      · have hp : ¬ bst n 20 q = t := of_decide_eq_false hp
        have hb := (bst_spec hq).1
        simp only [if_neg (nle hq (by omega)), gM5 W1, bN, ldI_at W1 ar_f1 (show q < 20 by omega), hv q hq, ofN_eq (show bst n 20 q < 2147483648 by omega) (show t < 2147483648 by omega), if_neg hp, ofN_succ]
      · have hp : bst n 20 q = t := of_decide_eq_true hp
        simp only [if_neg (nle hq (by omega)), gM5 W1, bN, ldI_at W1 ar_f1 (show q < 20 by omega), hv q hq, hp, if_true]
    by_cases c : knw n t = true
    · obtain ⟨k1, k2⟩ := krk_spec ht c
      have ef : fst1 (fun q => decide (bst n 20 q = t)) (rdT n 20) = krk n t := fst1_eq (fun d hd => decide_eq_false (fun z => by
        have a := (bst_spec (n := n) (d := 20) (q := d) (by omega)).2.2
        have b := (bst_spec k1).2.2
        rw [z] at a
        rw [k2] at b
        omega)) (fun _ => decide_eq_true k2) (by omega)
      refine Ask_v (Int32.ofNat (krk n t)) (Or.inl ⟨rfl, rfl⟩) ?_ (fun h1 W1 W2 e2 => ?_)
      · unfold fX9_rankOf
        simp only [rq_thing ht, then_l, gH3 W, gH0 W, gS0 W, isO_K W K289, bN]
        refine Ok_b (c_rankAll W S G) (fun g ⟨F, Sg, K⟩ => ?_)
        have Wg := F.1
        simp only [gH3 Wg, bN, isO_K Wg K289, s_rankIn Wg K289 ht, K.2.1 t ht, if_pos c, if_neg (ofN_nm (show krk n t < 2147483648 by omega)), rq_found, then_l]
        exact Ok_p ⟨rfl, F⟩
      · unfold fX10_rankOf
        simp only [pI_at W1 fd_thr, m_thing ht, e10, if_false, gM5 W2, isO_X W2, bN]
        refine Ok_b (show Ok (fX10_ranks 319 323 20 _) _ from m_ranks G.1 G.2.1 W2 e2 (a := 323) (d := 20) (Or.inl rfl) (by omega)) (fun o ⟨o1, o2, o3⟩ => ?_)
        have W3 := o2.1
        rw [o1, mstep o.2 W3 o3, ef, if_pos k1]
        exact Ok_p ⟨rfl, o2.mono (fun b z => mF z)⟩
    · have ef : ¬ fst1 (fun q => decide (bst n 20 q = t)) (rdT n 20) < rdT n 20 := fun z => by
        have a := of_decide_eq_true ((fst1_spec (fun q => decide (bst n 20 q = t)) (rdT n 20)).2 z)
        have b := (bst_spec z).2.1
        rw [a] at b
        exact c b
      refine Ask_e NS 2 (by decide) (Or.inr (Or.inr ⟨rfl, rfl⟩)) ?_ (fun h1 W1 W2 e2 => ?_)
      · unfold fX9_rankOf
        simp only [rq_thing ht, then_l, gH3 W, gH0 W, gS0 W, isO_K W K289, bN]
        refine Ok_b (c_rankAll W S G) (fun g ⟨F, Sg, K⟩ => ?_)
        have Wg := F.1
        simp only [gH3 Wg, bN, isO_K Wg K289, s_rankIn Wg K289 ht, K.2.1 t ht, if_neg c, if_true, rq_foundN, then_r]
        exact Ok_p ⟨rfl, Fr_thr F⟩
      · unfold fX10_rankOf
        simp only [pI_at W1 fd_thr, m_thing ht, e10, if_false, gM5 W2, isO_X W2, bN]
        refine Ok_b (show Ok (fX10_ranks 319 323 20 _) _ from m_ranks G.1 G.2.1 W2 e2 (a := 323) (d := 20) (Or.inl rfl) (by omega)) (fun o ⟨o1, o2, o3⟩ => ?_)
        have W3 := o2.1
        rw [o1, mstep o.2 W3 o3, if_neg ef]
        simp only [bN, Sum.elim_inr, isO_X W3, m_fails W3]
        exact Ok_p ⟨_, rfl, o2.mono (fun b z => mF z)⟩
  · refine Ask_e IX 1 (by decide) (Or.inr (Or.inl ⟨rfl, rfl⟩)) ?_ (fun h1 W1 W2 e2 => ?_)
    · unfold fX9_rankOf
      simp only [rq_thingN (bF hr), then_r]
      exact Ok_p ⟨rfl, Fr_thr (Fr.refl W)⟩
    · unfold fX10_rankOf
      simp only [pI_at W1 fd_thr, m_thingN (bF hr), bN, if_true, isO_X W2, m_fails W2]
      exact Ok_p ⟨_, rfl, Fr.refl W2⟩
theorem Q_stopDepth (W : WF h) (S : SR h 3 n) (G : GD n j) (p : Int32) : Ask (RC1 IA) h n (fX9_stopDepth 2 p h) (fX10_stopDepth 319 p) := by
  by_cases hr : inI p 1 20 = true
  · obtain ⟨k, k1, k2, rfl⟩ := inK_of hr
    refine Ask_v (Int32.ofNat (stp n k)) (Or.inl ⟨rfl, rfl⟩) ?_ (fun h1 W1 W2 e2 => ?_)
    · unfold fX9_stopDepth
      simp only [rq_range hr, then_l, isH W, bN]
      exact Ok_b (c_findStop W S G k1 k2) (fun o ⟨o1, o2, o3, o4⟩ => Ok_p ⟨by show Sum.inl _ = _; rw [o1], o2⟩)
    · unfold fX10_stopDepth
      simp only [pI_at W1 fd_thr, m_kT hr, bN, e10, if_false, isO_X W2]
      refine Ok_b (Ok_b (m_stop G.1 G.2.1 W2 e2 k1 k2) (fun o H => Ok_p (P := fun o : Int32 × mxH => o.1 = Int32.ofNat (stp n k) ∧ Fr (fun b => b = 322 ∨ b = 323) (st h1 319 3 0) o.2) H)) (fun o ⟨o1, o2⟩ => Ok_p ⟨o1, o2.mono (fun b z => mF z)⟩)
  · refine Ask_e IA 1 (by decide) (Or.inr ⟨rfl, rfl⟩) ?_ (fun h1 W1 W2 e2 => ?_)
    · unfold fX9_stopDepth
      simp only [rq_rangeN (bF hr), then_r]
      exact Ok_p ⟨rfl, Fr_thr (Fr.refl W)⟩
    · unfold fX10_stopDepth
      simp only [pI_at W1 fd_thr, m_kF (bF hr), bN, if_true, isO_X W2, m_fails W2]
      exact Ok_p ⟨_, rfl, Fr.refl W2⟩
theorem ld_now {h : mxH} {n : Nat → Int32} (W : WF h) (e : V h 320 = n) {k : Nat} (hk : k < 230) : ldI h 320 (Int32.ofNat k) = some (n k) := by rw [ldI_at W ar_now hk, e]
theorem Q_cost (W : WF h) (S : SR h 3 n) (G : GD n j) (p : Int32) : Ask (RC1 IA) h n (fX9_cost 2 p h) (fX10_cost 319 p) := by
  by_cases hr : inI p 1 20 = true
  · obtain ⟨k, k1, k2, rfl⟩ := inK_of hr
    have s20 := stp_20 n k
    refine Ask_v ((Int32.ofNat (rdN n (stp n k)) * n 106) + ((4 * Int32.ofNat (rdT n (stp n k))) * n 107)) (Or.inl ⟨rfl, rfl⟩) ?_ (fun h1 W1 W2 e2 => ?_)
    · unfold fX9_cost
      simp only [rq_range hr, then_l, isH W, bN]
      refine Ok_b (c_findStop W S G k1 k2) (fun o ⟨o1, o2, o3, o4⟩ => ?_)
      have Wg := o2.1
      rw [o1]
      simp only [gH0 Wg, gS0 Wg, isO_R Wg R4, bN, s_thingsRead Wg R4 o3.1 s20, s_itemsRead Wg R4 o3.1 s20, gI_at Wg (fd_S2 S3), gI_at Wg (fd_S3 S3), o3.2.2.1, o3.2.2.2]
      exact Ok_p ⟨rfl, o2⟩
    · unfold fX10_cost
      simp only [pI_at W1 fd_thr, m_kT hr, bN, e10, if_false, isO_X W2]
      refine Ok_b (m_stop G.1 G.2.1 W2 e2 k1 k2) (fun o ⟨o1, o2⟩ => ?_)
      have W3 := o2.1
      have e3 := fr_now o2 (by omega) e2
      rw [o1]
      simp only [isO_X W3, bN, m_readsAt W3 e3 s20, gM0 W3, show ldI o.2 320 106 = some (n 106) from ld_now W3 e3 (k := 106) (by omega), gM5 W3]
      refine Ok_b (m_ranks G.1 G.2.1 W3 e3 (a := 323) (Or.inl rfl) s20) (fun q ⟨q1, q2, q3⟩ => ?_)
      have W4 := q2.1
      have e4 := fr_now q2 (by omega) e3
      rw [q1]
      simp only [gM0 W4, bN, show ldI q.2 320 107 = some (n 107) from ld_now W4 e4 (k := 107) (by omega)]
      exact Ok_p ⟨rfl, (o2.trans q2).mono (fun b z => mF z)⟩
  · refine Ask_e IA 1 (by decide) (Or.inr ⟨rfl, rfl⟩) ?_ (fun h1 W1 W2 e2 => ?_)
    · unfold fX9_cost
      simp only [rq_rangeN (bF hr), then_r]
      exact Ok_p ⟨rfl, Fr_thr (Fr.refl W)⟩
    · unfold fX10_cost
      simp only [pI_at W1 fd_thr, m_kF (bF hr), bN, if_true, isO_X W2, m_fails W2]
      exact Ok_p ⟨_, rfl, Fr.refl W2⟩
theorem Q_best (W : WF h) (S : SR h 3 n) (G : GD n j) (p q : Int32) : Ask (RC2 IA IX) h n (fX9_best 2 p q h) (fX10_best 319 p q) := by
  by_cases hr : inI p 1 20 = true
  · obtain ⟨k, k1, k2, rfl⟩ := inK_of hr
    have s20 := stp_20 n k
    have r20 := rdT_20 n (stp n k)
    by_cases hq : inN q (min k (rdT n (stp n k))) = true
    · obtain ⟨x, hx, rfl⟩ := inN_of (by omega) hq
      refine Ask_v (Int32.ofNat (bst n (stp n k) x)) (Or.inl ⟨rfl, rfl⟩) ?_ (fun h1 W1 W2 e2 => ?_)
      · unfold fX9_best
        simp only [rq_range hr, then_l, isH W, bN]
        refine Ok_b (c_findStop W S G k1 k2) (fun o ⟨o1, o2, o3, o4⟩ => ?_)
        have Wg := o2.1
        rw [o1]
        simp only [gH0 Wg, gS0 Wg, gH3 Wg, isO_R Wg R4, isO_K Wg K289, bN, s_thingsRead Wg R4 o3.1 s20, mxMin_N (show k < 2147483648 by omega) (show rdT n (stp n k) < 2147483648 by omega), rq_place hx (show min k (rdT n (stp n k)) < 2147483648 by omega), then_l, s_readThingOn Wg K289 R4 o3.1 o4 s20 (show x < 20 by omega), if_pos (show x < rdT n (stp n k) by omega)]
        exact Ok_p ⟨rfl, o2⟩
      · unfold fX10_best
        simp only [pI_at W1 fd_thr, m_kT hr, bN, e10, if_false, isO_X W2]
        refine Ok_b (m_stop G.1 G.2.1 W2 e2 k1 k2) (fun o ⟨o1, o2⟩ => ?_)
        have W3 := o2.1
        have e3 := fr_now o2 (by omega) e2
        rw [o1]
        simp only [isO_X W3, bN, gM5 W3]
        refine Ok_b (m_ranks G.1 G.2.1 W3 e3 (a := 323) (Or.inl rfl) s20) (fun q ⟨q1, q2, q3⟩ => ?_)
        have W4 := q2.1
        rw [q1]
        simp only [mxMin_N (show rdT n (stp n k) < 2147483648 by omega) (show k < 2147483648 by omega), Nat.min_comm (rdT n (stp n k)) k, m_in, inI_S (show min k (rdT n (stp n k)) < 2147483648 by omega), hq, bI_t, bN, e10, if_false, gM5 W4, ldI_at W4 ar_f1 (show x < 20 by omega), q3 x (show x < rdT n (stp n k) by omega)]
        exact Ok_p ⟨rfl, (o2.trans q2).mono (fun b z => mF z)⟩
    · refine Ask_e IX 2 (by decide) (Or.inr (Or.inr ⟨rfl, rfl⟩)) ?_ (fun h1 W1 W2 e2 => ?_)
      · unfold fX9_best
        simp only [rq_range hr, then_l, isH W, bN]
        refine Ok_b (c_findStop W S G k1 k2) (fun o ⟨o1, o2, o3, o4⟩ => ?_)
        have Wg := o2.1
        rw [o1]
        simp only [gH0 Wg, gS0 Wg, isO_R Wg R4, bN, s_thingsRead Wg R4 o3.1 s20, mxMin_N (show k < 2147483648 by omega) (show rdT n (stp n k) < 2147483648 by omega), rq_placeN (bF hq), then_r]
        exact Ok_p ⟨rfl, Fr_thr o2⟩
      · unfold fX10_best
        simp only [pI_at W1 fd_thr, m_kT hr, bN, e10, if_false, isO_X W2]
        refine Ok_b (m_stop G.1 G.2.1 W2 e2 k1 k2) (fun o ⟨o1, o2⟩ => ?_)
        have W3 := o2.1
        have e3 := fr_now o2 (by omega) e2
        rw [o1]
        simp only [isO_X W3, bN, gM5 W3]
        refine Ok_b (m_ranks G.1 G.2.1 W3 e3 (a := 323) (Or.inl rfl) s20) (fun q ⟨q1, q2, q3⟩ => ?_)
        have W4 := q2.1
        rw [q1]
        simp only [mxMin_N (show rdT n (stp n k) < 2147483648 by omega) (show k < 2147483648 by omega), Nat.min_comm (rdT n (stp n k)) k, m_in, inI_S (show min k (rdT n (stp n k)) < 2147483648 by omega), bF hq, bI_f, bN, if_true, isO_X W4, m_fails W4]
        exact Ok_p ⟨_, rfl, (o2.trans q2).mono (fun b z => mF z)⟩
  · refine Ask_e IA 1 (by decide) (Or.inr (Or.inl ⟨rfl, rfl⟩)) ?_ (fun h1 W1 W2 e2 => ?_)
    · unfold fX9_best
      simp only [rq_rangeN (bF hr), then_r]
      exact Ok_p ⟨rfl, Fr_thr (Fr.refl W)⟩
    · unfold fX10_best
      simp only [pI_at W1 fd_thr, m_kF (bF hr), bN, if_true, isO_X W2, m_fails W2]
      exact Ok_p ⟨_, rfl, Fr.refl W2⟩
theorem Q_plainDepth (W : WF h) (S : SR h 3 n) (G : GD n j) (p : Int32) : Ask (RC1 IA) h n (fX9_plainDepth 2 p h) (fX10_plainDepth 319 p) := by
  by_cases hr : inI p 1 20 = true
  · obtain ⟨k, k1, k2, rfl⟩ := inK_of hr
    refine Ask_v (Int32.ofNat (pst n k)) (Or.inl ⟨rfl, rfl⟩) ?_ (fun h1 W1 W2 e2 => ?_)
    · unfold fX9_plainDepth
      simp only [rq_range hr, then_l, gH5 W, gH0 W, gS0 W, isO_D W, bN]
      refine Ok_b (s_findPlainStops W G.1 G.2.1 R4 S.1) (fun g ⟨F, v⟩ => ?_)
      have Wg := F.1
      simp only [gH5 Wg, isO_D Wg, bN, s_plainStopOf Wg k1 k2, v k k1 k2]
      exact Ok_p ⟨rfl, F.mono (fun b z => by unfold QF; omega)⟩
    · unfold fX10_plainDepth
      simp only [pI_at W1 fd_thr, m_kT hr, bN, e10, if_false, isO_X W2]
      refine Ok_b (Ok_b (m_plainStop G.1 G.2.1 W2 e2 k1 k2) (fun o H => Ok_p (P := fun o : Int32 × mxH => o.1 = Int32.ofNat (pst n k) ∧ Fr (fun b => b = 322 ∨ b = 331 ∨ b = 332 ∨ b = 333) (st h1 319 3 0) o.2) H)) (fun o ⟨o1, o2⟩ => Ok_p ⟨o1, o2.mono (fun b z => mFp z)⟩)
  · refine Ask_e IA 1 (by decide) (Or.inr ⟨rfl, rfl⟩) ?_ (fun h1 W1 W2 e2 => ?_)
    · unfold fX9_plainDepth
      simp only [rq_rangeN (bF hr), then_r]
      exact Ok_p ⟨rfl, Fr_thr (Fr.refl W)⟩
    · unfold fX10_plainDepth
      simp only [pI_at W1 fd_thr, m_kF (bF hr), bN, if_true, isO_X W2, m_fails W2]
      exact Ok_p ⟨_, rfl, Fr.refl W2⟩
theorem Q_plainCost (W : WF h) (S : SR h 3 n) (G : GD n j) (p : Int32) : Ask (RC1 IA) h n (fX9_plainCost 2 p h) (fX10_plainCost 319 p) := by
  by_cases hr : inI p 1 20 = true
  · obtain ⟨k, k1, k2, rfl⟩ := inK_of hr
    have p20 := pst_20 n k
    refine Ask_v (Int32.ofNat (rdN n (pst n k)) * n 106) (Or.inl ⟨rfl, rfl⟩) ?_ (fun h1 W1 W2 e2 => ?_)
    · unfold fX9_plainCost
      simp only [rq_range hr, then_l, gH5 W, gH0 W, gS0 W, isO_D W, bN]
      refine Ok_b (s_findPlainStops W G.1 G.2.1 R4 S.1) (fun g ⟨F, v⟩ => ?_)
      have Wg := F.1
      have F2 : Fr QF h g := F.mono (fun b z => by unfold QF; omega)
      have Sg := SR_fr S3 S F2 (fun b b1 b2 b3 => by unfold QF; omega)
      simp only [gH5 Wg, gH0 Wg, gS0 Wg, isO_D Wg, isO_R Wg R4, bN, s_plainStopOf Wg k1 k2, v k k1 k2, s_itemsRead Wg R4 Sg.1 p20, gI_at Wg (fd_S2 S3), Sg.2.2.1]
      exact Ok_p ⟨rfl, F2⟩
    · unfold fX10_plainCost
      simp only [pI_at W1 fd_thr, m_kT hr, bN, e10, if_false, isO_X W2]
      refine Ok_b (P := fun o : Int32 × mxH => o.1 = Int32.ofNat (rdN n (pst n k)) * n 106 ∧ Fr (fun b => b = 322 ∨ b = 331 ∨ b = 332 ∨ b = 333) (st h1 319 3 0) o.2) (Ok_b (m_plainStop G.1 G.2.1 W2 e2 k1 k2) (fun o ⟨o1, o2⟩ => ?_)) (fun o ⟨o1, o2⟩ => Ok_p ⟨o1, o2.mono (fun b z => mFp z)⟩)
      have W3 := o2.1
      have e3 := fr_now o2 (by omega) e2
      rw [o1]
      simp only [isO_X W3, bN, m_readsAt W3 e3 p20, gM0 W3, show ldI o.2 320 106 = some (n 106) from ld_now W3 e3 (k := 106) (by omega)]
      exact Ok_p ⟨rfl, o2⟩
  · refine Ask_e IA 1 (by decide) (Or.inr ⟨rfl, rfl⟩) ?_ (fun h1 W1 W2 e2 => ?_)
    · unfold fX9_plainCost
      simp only [rq_rangeN (bF hr), then_r]
      exact Ok_p ⟨rfl, Fr_thr (Fr.refl W)⟩
    · unfold fX10_plainCost
      simp only [pI_at W1 fd_thr, m_kF (bF hr), bN, if_true, isO_X W2, m_fails W2]
      exact Ok_p ⟨_, rfl, Fr.refl W2⟩
theorem Q_refute (W : WF h) (S : SR h 3 n) (G : GD n j) (p q : Int32) : Ask (RC2 IA NS) h n (fX9_refute 2 p q h) (fX10_refute 319 p q) := by
  by_cases hr : inI p 1 20 = true
  · obtain ⟨k, k1, k2, rfl⟩ := inK_of hr
    have s20 := stp_20 n k
    by_cases hq : inI q 0 20 = true
    · obtain ⟨d, -, d2, rfl⟩ := inI_of (a := 0) (b := 20) (by omega) (by omega) hq
      by_cases c1 : stp n k ≤ d
      · refine Ask_e NS 2 (by decide) (Or.inr (Or.inr ⟨rfl, rfl⟩)) ?_ (fun h1 W1 W2 e2 => ?_)
        · unfold fX9_refute
          simp only [rq_range hr, rq_range hq, then_l, isH W, bN]
          refine Ok_b (c_findStop W S G k1 k2) (fun o ⟨o1, o2, o3, o4⟩ => ?_)
          rw [o1]
          simp only [if_pos ((ofN_le (show stp n k < 2147483648 by omega) (show d < 2147483648 by omega)).mpr c1), bN, rq_foundN, then_r]
          exact Ok_p ⟨rfl, Fr_thr o2⟩
        · unfold fX10_refute
          simp only [pI_at W1 fd_thr, m_kT hr, m_inT hq, bN, e10, if_false, isO_X W2]
          refine Ok_b (m_stop G.1 G.2.1 W2 e2 k1 k2) (fun o ⟨o1, o2⟩ => ?_)
          have W3 := o2.1
          rw [o1, if_neg (fun z => by have := (ofN_lt (show d < 2147483648 by omega) (show stp n k < 2147483648 by omega)).mp z; omega)]
          simp only [isO_X W3, bN, m_fails W3]
          exact Ok_p ⟨_, rfl, o2.mono (fun b z => mF z)⟩
      · have mstep : ∀ h1 : mxH, WF h1 → V h1 320 = n → mxLoop (ρ := (Int32 ⊕ Unit)) (fun s18 : Int32 => (if 20 ≤ s18 then some (Sum.inr (Sum.inr ())) else Option.bind (isO h1 319 10) (fun u28 => Option.bind (fX10_isReadAt 319 s18 (Int32.ofNat d) h1) (fun v31 => (if v31 = 0 then some (Sum.inr (Sum.inl s18)) else some (Sum.inl (s18 + 1))))))) mxF 0 = some (if lun n d < 20 then .inl (Int32.ofNat (lun n d)) else .inr ()) := fun h1 W1 e1 => by
          refine find_loop (fun t => !rdAt n t d) 20 (fun t ht hp => ?_) (fun t ht hp => ?_) (if_pos yle)
          · have hp : rdAt n t d = true := by simpa using hp
            simp only [if_neg (n20 ht), isO_X W1, bN, m_isReadAt W1 e1 ht d2, hp, bI_t, e10, if_false, ofN_succ]
          · have hp : rdAt n t d = false := by simpa using hp
            simp only [if_neg (n20 ht), isO_X W1, bN, m_isReadAt W1 e1 ht d2, hp, bI_f, if_true]
        by_cases c2 : lun n d < 20
        · refine Ask_v (Int32.ofNat (lun n d)) (Or.inl ⟨rfl, rfl⟩) ?_ (fun h1 W1 W2 e2 => ?_)
          · unfold fX9_refute
            simp only [rq_range hr, rq_range hq, then_l, isH W, bN]
            refine Ok_b (c_findStop W S G k1 k2) (fun o ⟨o1, o2, o3, o4⟩ => ?_)
            have Wg := o2.1
            rw [o1]
            simp only [if_neg (fun z => c1 ((ofN_le (show stp n k < 2147483648 by omega) (show d < 2147483648 by omega)).mp z) : ¬ Int32.ofNat (stp n k) ≤ Int32.ofNat d), bN, rq_found, then_l, gH0 Wg, gS0 Wg, isO_R Wg R4, s_leastUnread Wg R4 o3.1 d2, if_pos c2, if_neg (ofN_nm (show lun n d < 2147483648 by omega))]
            exact Ok_p ⟨rfl, o2⟩
          · unfold fX10_refute
            simp only [pI_at W1 fd_thr, m_kT hr, m_inT hq, bN, e10, if_false, isO_X W2]
            refine Ok_b (m_stop G.1 G.2.1 W2 e2 k1 k2) (fun o ⟨o1, o2⟩ => ?_)
            have W3 := o2.1
            rw [o1, if_pos ((ofN_lt (show d < 2147483648 by omega) (show stp n k < 2147483648 by omega)).mpr (by omega)), mstep o.2 W3 (fr_now o2 (by omega) e2), if_pos c2]
            exact Ok_p ⟨rfl, o2.mono (fun b z => mF z)⟩
        · refine Ask_e NS 2 (by decide) (Or.inr (Or.inr ⟨rfl, rfl⟩)) ?_ (fun h1 W1 W2 e2 => ?_)
          · unfold fX9_refute
            simp only [rq_range hr, rq_range hq, then_l, isH W, bN]
            refine Ok_b (c_findStop W S G k1 k2) (fun o ⟨o1, o2, o3, o4⟩ => ?_)
            have Wg := o2.1
            rw [o1]
            simp only [if_neg (fun z => c1 ((ofN_le (show stp n k < 2147483648 by omega) (show d < 2147483648 by omega)).mp z) : ¬ Int32.ofNat (stp n k) ≤ Int32.ofNat d), bN, rq_found, then_l, gH0 Wg, gS0 Wg, isO_R Wg R4, s_leastUnread Wg R4 o3.1 d2, if_neg c2, if_true, rq_foundN, then_r]
            exact Ok_p ⟨rfl, Fr_thr o2⟩
          · unfold fX10_refute
            simp only [pI_at W1 fd_thr, m_kT hr, m_inT hq, bN, e10, if_false, isO_X W2]
            refine Ok_b (m_stop G.1 G.2.1 W2 e2 k1 k2) (fun o ⟨o1, o2⟩ => ?_)
            have W3 := o2.1
            rw [o1, if_pos ((ofN_lt (show d < 2147483648 by omega) (show stp n k < 2147483648 by omega)).mpr (by omega)), mstep o.2 W3 (fr_now o2 (by omega) e2), if_neg c2]
            simp only [bN, Sum.elim_inr, isO_X W3, m_fails W3]
            exact Ok_p ⟨_, rfl, o2.mono (fun b z => mF z)⟩
    · refine Ask_e IA 1 (by decide) (Or.inr (Or.inl ⟨rfl, rfl⟩)) ?_ (fun h1 W1 W2 e2 => ?_)
      · unfold fX9_refute
        simp only [rq_range hr, rq_rangeN (bF hq), then_l, then_r]
        exact Ok_p ⟨rfl, Fr_thr (Fr.refl W)⟩
      · unfold fX10_refute
        simp only [pI_at W1 fd_thr, m_kT hr, m_inF (bF hq), bN, e10, if_false, if_true, isO_X W2, m_fails W2]
        exact Ok_p ⟨_, rfl, Fr.refl W2⟩
  · refine Ask_e IA 1 (by decide) (Or.inr (Or.inl ⟨rfl, rfl⟩)) ?_ (fun h1 W1 W2 e2 => ?_)
    · unfold fX9_refute
      simp only [rq_rangeN (bF hr), then_r]
      exact Ok_p ⟨rfl, Fr_thr (Fr.refl W)⟩
    · unfold fX10_refute
      simp only [pI_at W1 fd_thr, m_kF (bF hr), bN, if_true, isO_X W2, m_fails W2]
      exact Ok_p ⟨_, rfl, Fr.refl W2⟩
end
