/-! THE PURE SIDE, 39: questions, 5: counters, pairs, common things -/
section
variable {h : mxH} {n : Nat → Int32} {j : Nat}
theorem in99 {p : Int32} (h : inI p 0 99 = true) : ∃ k, k < 100 ∧ p = Int32.ofNat k := by
  obtain ⟨k, _, h2, h3⟩ := inI_of (a := 0) (b := 99) (by omega) (by omega) h
  exact ⟨k, by omega, h3⟩
theorem Q_counted (W : WF h) (S : SR h 3 n) (G : GD n j) (p : Int32) : Ask (RC1 IA) h n (fX9_counted 2 p h) (fX10_counted 319 p) := by
  by_cases hp : inI p 0 99 = true
  · have hm : mn n ≤ 4 := G.2.2.2.2.2.2.2.1.2
    have g5 : n 109 = Int32.ofNat (mn n) := G.2.2.2.2.2.2.1
    refine Ask_v (if ctr n p < mn n then n (225 + ctr n p) else 0) (Or.inl ⟨rfl, rfl⟩) ?_ (fun h1 W1 W2 e2 => ?_)
    · unfold fX9_counted
      simp only [rq_range hp, then_l, gH0 W, gS1 W, isO_N W N27, bN, s_countOf W N27 G.2.2 S.2.1]
      exact Ok_p ⟨rfl, Fr.refl W⟩
    · unfold fX10_counted
      simp only [pI_at W1 fd_thr, m_inT hp, bN, e10, if_false]
      generalize st h1 319 3 0 = g at W2 e2
      refine Ok_s (find_loop (fun k => decide (n (221 + k) = p)) (mn n) (fun k hk hz => ?_) (fun k hk hz => ?_) ?_ (by unfold mxF; omega)) ?_
      · have hz : ¬ n (221 + k) = p := of_decide_eq_false hz
        simp only [gM0 W2, bN, show ldI g 320 109 = some (n 109) from ld_now W2 e2 (k := 109) (by omega), g5, if_neg (nle hk (by omega)), show (221 : Int32) + Int32.ofNat k = Int32.ofNat (221 + k) from ixa 221 k, ld_now W2 e2 (show 221 + k < 230 by omega), if_neg hz, ofN_succ]
      · have hz : n (221 + k) = p := of_decide_eq_true hz
        simp only [gM0 W2, bN, show ldI g 320 109 = some (n 109) from ld_now W2 e2 (k := 109) (by omega), g5, if_neg (nle hk (by omega)), show (221 : Int32) + Int32.ofNat k = Int32.ofNat (221 + k) from ixa 221 k, ld_now W2 e2 (show 221 + k < 230 by omega), if_pos hz]
      · simp only [gM0 W2, bN, show ldI g 320 109 = some (n 109) from ld_now W2 e2 (k := 109) (by omega), g5, if_pos yle]
      · by_cases c : fst1 (fun k => decide (n (221 + k) = p)) (mn n) < mn n
        · have c2 : ctr n p < mn n := c
          rw [if_pos c, if_pos c2]
          simp only [Sum.elim_inl, gM0 W2, bN, show (225 : Int32) + Int32.ofNat (fst1 (fun k => decide (n (221 + k) = p)) (mn n)) = Int32.ofNat (225 + ctr n p) from ixa 225 _, ld_now W2 e2 (show 225 + ctr n p < 230 by omega)]
          exact Ok_p ⟨rfl, Fr.refl W2⟩
        · have c2 : ¬ ctr n p < mn n := c
          rw [if_neg c, if_neg c2]
          exact Ok_p ⟨rfl, Fr.refl W2⟩
  · refine Ask_e IA 1 (by decide) (Or.inr ⟨rfl, rfl⟩) ?_ (fun h1 W1 W2 e2 => ?_)
    · unfold fX9_counted
      simp only [rq_rangeN (bF hp), then_r]
      exact Ok_p ⟨rfl, Fr_thr (Fr.refl W)⟩
    · unfold fX10_counted
      simp only [pI_at W1 fd_thr, m_inF (bF hp), bN, if_true, isO_X W2, m_fails W2]
      exact Ok_p ⟨_, rfl, Fr.refl W2⟩
theorem Q_came (W : WF h) (S : SR h 3 n) (p : Int32) : Ask (RC1 IA) h n (fX9_came 2 p h) (fX10_came 319 p) := by
  by_cases hp : inI p 0 99 = true
  · obtain ⟨k, hk, rfl⟩ := in99 hp
    refine Ask_v (n (111 + k)) (Or.inl ⟨rfl, rfl⟩) ?_ (fun h1 W1 W2 e2 => ?_)
    · unfold fX9_came
      simp only [rq_range hp, then_l, gH0 W, gS1 W, isO_N W N27, bN, s_timesOf W N27 S.2.1 hk]
      exact Ok_p ⟨rfl, Fr.refl W⟩
    · unfold fX10_came
      simp only [pI_at W1 fd_thr, m_inT hp, bN, e10, if_false, gM0 W2, show (111 : Int32) + Int32.ofNat k = Int32.ofNat (111 + k) from ixa 111 k, ld_now W2 e2 (show 111 + k < 230 by omega)]
      exact Ok_p ⟨rfl, Fr.refl W2⟩
  · refine Ask_e IA 1 (by decide) (Or.inr ⟨rfl, rfl⟩) ?_ (fun h1 W1 W2 e2 => ?_)
    · unfold fX9_came
      simp only [rq_rangeN (bF hp), then_r]
      exact Ok_p ⟨rfl, Fr_thr (Fr.refl W)⟩
    · unfold fX10_came
      simp only [pI_at W1 fd_thr, m_inF (bF hp), bN, if_true, isO_X W2, m_fails W2]
      exact Ok_p ⟨_, rfl, Fr.refl W2⟩
theorem Q_bound (W : WF h) (S : SR h 3 n) : AskI n (fX9_bound 2 h) (fX10_bound 319) := by
  refine AskI_v (n 229) ?_ (fun h1 W1 W2 e2 => ?_)
  · unfold fX9_bound
    simp only [gH0 W, gS1 W, bN, gI_at W (fd_8 N27), show V h 27 8 = n 229 from S.2.1.2.2.2.2.2.2.2.2]
  · unfold fX10_bound
    simp only [pI_at W1 fd_thr, gM0 W2, bN, show ldI (st h1 319 3 0) 320 229 = some (n 229) from ld_now W2 e2 (k := 229) (by omega)]
    exact Ok_p ⟨rfl, Fr.refl W2⟩
theorem PF_lt {i j s k p q : Nat} (a : PF n i j s k p q) : k < tot n i j s := by
  obtain ⟨a1, a2, a3, a4⟩ := a
  have := sumN_mono (f := tps n i j s) (show p + 1 ≤ itm n i by omega)
  rw [sumN_s] at this
  have h5 : cnt (ev n i j s p) q < tps n i j s p := cnt_lt_of a2 a3
  have e : tot n i j s = sumN (tps n i j s) (itm n i) := rfl
  omega
theorem m_pair (G : MG n) (W : WF h) (e : V h 320 = n) {i j k : Nat} (hi : i < 5) (hj : j < 5) (hk : k < itm n i * itm n j) : Ok (fX10_pair 319 (Int32.ofNat i) (Int32.ofNat j) (Int32.ofNat k) h) (fun o => ∃ p q, PF n i j (198 - pdn n i j k) (k - cup n i j (pdn n i j k)) p q ∧ o = Int32.ofNat (((198 - pdn n i j k) * 20 + p) * 20 + q)) := by
  have hi20 := itm_20 n i
  have hj20 := itm_20 n j
  have hk400 : k < 400 := Nat.lt_of_lt_of_le hk (Nat.mul_le_mul hi20 hj20)
  have hab : itm n i * itm n j < 2147483648 := Nat.lt_of_le_of_lt (Nat.mul_le_mul hi20 hj20) (by omega)
  obtain ⟨d1, d2, d3, d4⟩ := pdn_spec G hi hj hk
  have mo : ∀ i p, i < 5 → p < itm n i → fX10_thingIn 319 (Int32.ofNat i) (Int32.ofNat p) h = some (Int32.ofNat (thi n i p)) ∧ fX10_mark 319 (Int32.ofNat i) (Int32.ofNat (thi n i p)) h = some (Int32.ofNat (mkN n i p)) ∧ mkN n i p < 100 := fun i p hi hp => by
    obtain ⟨e1, b1⟩ := mkN_spec G hi hp
    have em : mkO n i p = n (20 * i + thi n i p) := if_pos hp
    refine ⟨m_thingIn G W e hi hp, ?_, b1⟩
    rw [m_mark W e hi (thi_spec G hi hp).1, ← em, e1]
  unfold fX10_pair
  simp only [isO_X W, bN, m_items W e hi, m_items W e hj, ofN_mul, m_in, inI_S hab, inN_ofN (show k < 2147483648 by omega) hab, decide_eq_true hk, bI_t, e10, if_false]
  have srch : ∀ s R, s < 199 → R < 400 → Ok (mxLoop (ρ := ((Int32 × Int32) ⊕ Int32)) (fun s22 : (Int32 × Int32) => (if Int32.ofNat (itm n i) ≤ s22.2 then some (Sum.inr (Sum.inr s22.1)) else Option.bind (fX10_thingIn 319 (Int32.ofNat i) s22.2 h) (fun v35 => Option.bind (fX10_mark 319 (Int32.ofNat i) v35 h) (fun v39 => Option.bind (mxLoop (ρ := (Int32 ⊕ Int32)) (fun s40 : (Int32 × Int32) => (if Int32.ofNat (itm n j) ≤ s40.2 then some (Sum.inr (Sum.inr s40.1)) else Option.bind (fX10_thingIn 319 (Int32.ofNat j) s40.2 h) (fun v53 => Option.bind (fX10_mark 319 (Int32.ofNat j) v53 h) (fun v57 => (if (v39 + v57) = Int32.ofNat s then (if s40.1 = 0 then some (Sum.inr (Sum.inl s40.2)) else some (Sum.inl (s40.1 - 1, s40.2 + 1))) else some (Sum.inl (s40.1, s40.2 + 1))))))) mxF (s22.1, 0)) (Sum.elim (fun r60 : Int32 => some (Sum.inr (Sum.inl (s22.2, r60)))) (fun r62 : Int32 => some (Sum.inl (r62, s22.2 + 1)))))))) mxF (Int32.ofNat R, 0)) (fun o => (∃ p q, PF n i j s R p q ∧ o = .inl (Int32.ofNat p, Int32.ofNat q)) ∨ (tot n i j s ≤ R ∧ o = .inr (Int32.ofNat (R - tot n i j s)))) := fun s R hs hR => by
    refine Ok_m (pair_outer (i := i) (j := j) (s := s) (k := R) (x0 := 0) (n := n) (cc := fun c => Int32.ofNat (R - c)) (fin := fun c => Int32.ofNat (R - c)) hi20 (fun p c0 hp hc0 => ?_) (fun c => if_pos yle) (Nat.zero_le _)) (fun o H => ?_)
    · obtain ⟨t1, t2, t3⟩ := mo i p hi hp
      simp only [if_neg (nle hp (by omega)), t1, t2, bN]
      refine Ok_b (pair_inner (i := i) (j := j) (s := s) (k := R) (p := p) (n := n) (cc := fun c => Int32.ofNat (R - c)) (c0 := c0) hj20 (fun q hq e => ?_) (fun q c hq e hc => ?_) (fun q c hq e => ?_) (fun c => if_pos yle) hc0) (fun o H => ?_)
      · obtain ⟨u1, u2, u3⟩ := mo j q hj hq
        have e : mkN n i p + mkN n j q = s := of_decide_eq_true e
        simp only [if_neg (nle hq (by omega)), u1, u2, bN, ofN_add, e, if_true, Nat.sub_self]
        exact if_pos rfl
      · obtain ⟨u1, u2, u3⟩ := mo j q hj hq
        have e : mkN n i p + mkN n j q = s := of_decide_eq_true e
        have nz : ¬ Int32.ofNat (R - c) = 0 := fun y => by have := (ofN_eq (b := 0) (by omega) (by omega)).mp y; omega
        simp only [if_neg (nle hq (by omega)), u1, u2, bN, ofN_add, e, if_true, if_neg nz, ofN_pred (show 1 ≤ R - c by omega) (by omega), ofN_succ]
        rw [show R - c - 1 = R - (c + 1) by omega]
      · obtain ⟨u1, u2, u3⟩ := mo j q hj hq
        have e : ¬ mkN n i p + mkN n j q = s := of_decide_eq_false e
        simp only [if_neg (nle hq (by omega)), u1, u2, bN, ofN_add, if_neg (fun z => e ((ofN_eq (by omega) (by omega)).mp z) : ¬ Int32.ofNat (mkN n i p + mkN n j q) = Int32.ofNat s), ofN_succ]
      · rcases H with ⟨q, q1, q2, q3, e⟩ | ⟨q1, e⟩
        · rw [e]; exact Ok_p (Or.inl ⟨q, q1, q2, q3, rfl⟩)
        · rw [e]; exact Ok_p (Or.inr ⟨q1, by rw [ofN_succ]⟩)
    · rcases H with ⟨p, q, H, e⟩ | ⟨H, e⟩
      · exact Or.inl ⟨p, q, H, e⟩
      · refine Or.inr ⟨by omega, ?_⟩
        rw [e, Nat.zero_add]
  have ht := fun d => tot_400 n i j (198 - d)
  obtain ⟨o, eo, H⟩ := srch (198 - pdn n i j k) (k - cup n i j (pdn n i j k)) (by omega) (by omega)
  rcases H with ⟨p, q, H, e1⟩ | ⟨H, e1⟩
  · refine Ok_s (a := .inl (Int32.ofNat (198 - pdn n i j k), Int32.ofNat p, Int32.ofNat q)) (mxLoop_find (S := fun d => (Int32.ofNat (k - cup n i j d), Int32.ofNat (198 - d))) (K := pdn n i j k) (fun d hd => ?_) ?_ (by unfold mxF; omega)) ?_
    · have h4 := d4 d hd
      have ec : cup n i j (d + 1) = cup n i j d + tot n i j (198 - d) := rfl
      obtain ⟨o', eo', H'⟩ := srch (198 - d) (k - cup n i j d) (by omega) (by omega)
      rcases H' with ⟨p', q', H', e1'⟩ | ⟨H', e1'⟩
      · have := PF_lt H'; omega
      · simp only [if_neg (ofN_nn (show 198 - d < 2147483648 by omega))]
        refine bs eo' ?_
        rw [e1']
        show some (Sum.inl (Int32.ofNat (k - cup n i j d - tot n i j (198 - d)), Int32.ofNat (198 - d) - 1)) = _
        rw [ofN_pred (by omega) (by omega), show k - cup n i j d - tot n i j (198 - d) = k - cup n i j (d + 1) by omega, show 198 - d - 1 = 198 - (d + 1) by omega]
    · simp only [if_neg (ofN_nn (show 198 - pdn n i j k < 2147483648 by omega))]
      refine bs eo ?_
      rw [e1]; rfl
    · simp only [Sum.elim_inl, show (20 : Int32) = Int32.ofNat 20 from rfl, ofN_mul, ofN_add]
      exact Ok_p ⟨p, q, H, rfl⟩
  · omega
theorem c_findPair (W : WF h) (S : SR h 3 n) (G : GD n j) {a b k : Nat} (ha : a < 5) (hb : b < 5) (hk : k < itm n a * itm n b) : Ok (fX9_findPair 2 (Int32.ofNat a) (Int32.ofNat b) (Int32.ofNat k) h) (fun x => x.1 = .inl () ∧ Fr QF h x.2 ∧ V x.2 317 1 = Int32.ofNat (198 - pdn n a b k) ∧ ∃ p q, PF n a b (198 - pdn n a b k) (k - cup n a b (pdn n a b k)) p q ∧ V x.2 317 2 = Int32.ofNat p ∧ V x.2 317 3 = Int32.ofNat q) := by
  have hab : itm n a * itm n b < 2147483648 := Nat.lt_of_le_of_lt (Nat.mul_le_mul (itm_20 n a) (itm_20 n b)) (by omega)
  unfold fX9_findPair
  simp only [rq_row ha, rq_row hb, then_l, gH0 W, gS0 W, isO_R W R4, bN, s_sizeOf W R4 ha, s_sizeOf W R4 hb, S.1.2.2.2.1 a ha, S.1.2.2.2.1 b hb, ofN_mul, rq_place hk hab, gH8 W, isO_P W]
  exact Ok_b (s_find W G.1 R4 S.1 ha hb hk) (fun g ⟨F, v1, v2⟩ => Ok_p ⟨rfl, F.mono (fun b z => by unfold QF; omega), v1, v2⟩)
theorem c_findPairN (W : WF h) (S : SR h 3 n) {p q r : Int32} (hN : inN p 5 = false ∨ (∃ a, a < 5 ∧ p = Int32.ofNat a ∧ (inN q 5 = false ∨ ∃ b, b < 5 ∧ q = Int32.ofNat b ∧ inN r (itm n a * itm n b) = false))) : fX9_findPair 2 p q r h = some (.inr IX, mxThr h) := by
  unfold fX9_findPair
  rcases hN with hp | ⟨a, ha, rfl, hq | ⟨b, hb, rfl, hr⟩⟩
  · simp only [rq_rowN hp, then_r]
  · simp only [rq_row ha, rq_rowN hq, then_l, then_r]
  · simp only [rq_row ha, rq_row hb, then_l, gH0 W, gS0 W, isO_R W R4, bN, s_sizeOf W R4 ha, s_sizeOf W R4 hb, S.1.2.2.2.1 a ha, S.1.2.2.2.1 b hb, ofN_mul, rq_placeN hr, then_r]
theorem m_pairN (W : WF h) (e : V h 320 = n) {a b : Nat} {r : Int32} (ha : a < 5) (hb : b < 5) (hr : inN r (itm n a * itm n b) = false) : fX10_pair 319 (Int32.ofNat a) (Int32.ofNat b) r h = some (-1) := by
  have hab : itm n a * itm n b < 2147483648 := Nat.lt_of_le_of_lt (Nat.mul_le_mul (itm_20 n a) (itm_20 n b)) (by omega)
  unfold fX10_pair
  simp only [isO_X W, bN, m_items W e ha, m_items W e hb, ofN_mul, m_in, inI_S hab, hr, bI_f, if_true]
theorem pq_20 {a b s k p q : Nat} (H : PF n a b s k p q) : p < 20 ∧ q < 20 := by
  have h1 := itm_20 n a
  have h2 := itm_20 n b
  have h3 := H.1
  have h4 := H.2.1
  omega
theorem Q_pairSum (W : WF h) (S : SR h 3 n) (G : GD n j) (p q r : Int32) : Ask (RC1 IX) h n (fX9_pairSum 2 p q r h) (fX10_pairSum 319 p q r) := by
  have errC : fX9_findPair 2 p q r h = some (.inr IX, mxThr h) → Ok (fX9_pairSum 2 p q r h) (fun x => x.1 = .inr IX ∧ Fr QF h x.2) := fun z => by
    unfold fX9_pairSum
    simp only [isH W, bN, z, then_r]
    exact Ok_p ⟨rfl, Fr_thr (Fr.refl W)⟩
  by_cases hp : inN p 5 = true
  · obtain ⟨a, ha, rfl⟩ := inN_of (by omega) hp
    by_cases hq : inN q 5 = true
    · obtain ⟨b, hb, rfl⟩ := inN_of (by omega) hq
      by_cases hr : inN r (itm n a * itm n b) = true
      · have hab : itm n a * itm n b < 2147483648 := Nat.lt_of_le_of_lt (Nat.mul_le_mul (itm_20 n a) (itm_20 n b)) (by omega)
        obtain ⟨k, hk, rfl⟩ := inN_of hab hr
        refine Ask_v (Int32.ofNat (198 - pdn n a b k)) (Or.inl ⟨rfl, rfl⟩) ?_ (fun h1 W1 W2 e2 => ?_)
        · unfold fX9_pairSum
          simp only [isH W, bN]
          obtain ⟨⟨x1, x2⟩, ex, e1, F, v1, -⟩ := c_findPair W S G ha hb hk
          obtain rfl := show x1 = _ from e1
          have F : Fr QF h x2 := F
          have v1 : V x2 317 1 = _ := v1
          rw [ex]
          simp only [then_l, gH8 F.1, bN, gI_at F.1 fd_p1, v1]
          exact Ok_p ⟨rfl, F⟩
        · unfold fX10_pairSum
          simp only [pI_at W1 fd_thr, m_row ha, m_row hb, bN, e10, if_false, isO_X W2]
          refine Ok_b (m_pair G.1 W2 e2 ha hb hk) (fun o ⟨p, q, H, eo⟩ => ?_)
          obtain ⟨hp20, hq20⟩ := pq_20 H
          have b199 : 198 - pdn n a b k < 199 := by omega
          generalize 198 - pdn n a b k = s at eo b199
          rw [eo, if_neg (ofN_nm (by omega))]
          simp only [bN, show (400 : Int32) = Int32.ofNat 400 from rfl, div_N (show (s * 20 + p) * 20 + q < 2147483648 by omega) (show 0 < 400 by omega) (show 400 < 2147483648 by omega)]
          exact Ok_p ⟨by show Int32.ofNat _ = _; congr 1; omega, Fr.refl W2⟩
      · refine Ask_e IX 1 (by decide) (Or.inr ⟨rfl, rfl⟩) (errC (c_findPairN W S (Or.inr ⟨a, ha, rfl, Or.inr ⟨b, hb, rfl, bF hr⟩⟩))) (fun h1 W1 W2 e2 => ?_)
        unfold fX10_pairSum
        simp only [pI_at W1 fd_thr, m_row ha, m_row hb, bN, e10, if_false, isO_X W2, m_pairN W2 e2 ha hb (bF hr), if_true, m_fails W2]
        exact Ok_p ⟨_, rfl, Fr.refl W2⟩
    · refine Ask_e IX 1 (by decide) (Or.inr ⟨rfl, rfl⟩) (errC (c_findPairN W S (Or.inr ⟨a, ha, rfl, Or.inl (bF hq)⟩))) (fun h1 W1 W2 e2 => ?_)
      unfold fX10_pairSum
      simp only [pI_at W1 fd_thr, m_row ha, m_rowN (bF hq), bN, e10, if_false, if_true, isO_X W2, m_fails W2]
      exact Ok_p ⟨_, rfl, Fr.refl W2⟩
  · refine Ask_e IX 1 (by decide) (Or.inr ⟨rfl, rfl⟩) (errC (c_findPairN W S (Or.inl (bF hp)))) (fun h1 W1 W2 e2 => ?_)
    unfold fX10_pairSum
    simp only [pI_at W1 fd_thr, m_rowN (bF hp), bN, if_true, isO_X W2, m_fails W2]
    exact Ok_p ⟨_, rfl, Fr.refl W2⟩
theorem Q_pairPlace (W : WF h) (S : SR h 3 n) (G : GD n j) (p q r x : Int32) : Ask (RC1 IX) h n (fX9_pairPlace 2 p q r x h) (fX10_pairPlace 319 p q r x) := by
  have errC : fX9_findPair 2 p q r h = some (.inr IX, mxThr h) → Ok (fX9_pairPlace 2 p q r x h) (fun x => x.1 = .inr IX ∧ Fr QF h x.2) := fun z => by
    unfold fX9_pairPlace
    simp only [isH W, bN, z, then_r]
    exact Ok_p ⟨rfl, Fr_thr (Fr.refl W)⟩
  by_cases hp : inN p 5 = true
  · obtain ⟨a, ha, rfl⟩ := inN_of (by omega) hp
    by_cases hq : inN q 5 = true
    · obtain ⟨b, hb, rfl⟩ := inN_of (by omega) hq
      by_cases hr : inN r (itm n a * itm n b) = true
      · have hab : itm n a * itm n b < 2147483648 := Nat.lt_of_le_of_lt (Nat.mul_le_mul (itm_20 n a) (itm_20 n b)) (by omega)
        obtain ⟨k, hk, rfl⟩ := inN_of hab hr
        obtain ⟨⟨x1, x2⟩, ex, e1, F, -, p', q', H', v2, v3⟩ := c_findPair W S G ha hb hk
        obtain rfl := show x1 = _ from e1
        have F : Fr QF h x2 := F
        have v2 : V x2 317 2 = _ := v2
        have v3 : V x2 317 3 = _ := v3
        refine Ask_v (if x = 0 then Int32.ofNat p' else Int32.ofNat q') (Or.inl ⟨rfl, rfl⟩) ?_ (fun h1 W1 W2 e2 => ?_)
        · unfold fX9_pairPlace
          simp only [isH W, bN]
          rw [ex]
          simp only [then_l, gH8 F.1, bN, gI_at F.1 fd_p2, gI_at F.1 fd_p3, v2, v3]
          by_cases c : x = 0
          · simp only [if_pos c, bN]; exact Ok_p ⟨rfl, F⟩
          · simp only [if_neg c, bN]; exact Ok_p ⟨rfl, F⟩
        · unfold fX10_pairPlace
          simp only [pI_at W1 fd_thr, m_row ha, m_row hb, bN, e10, if_false, isO_X W2]
          refine Ok_b (m_pair G.1 W2 e2 ha hb hk) (fun o ⟨p, q, H, eo⟩ => ?_)
          obtain ⟨hp20, hq20⟩ := pq_20 H
          obtain ⟨ep, eq⟩ := PF_inj H' H
          subst ep
          subst eq
          have b199 : 198 - pdn n a b k < 199 := by omega
          generalize 198 - pdn n a b k = s at eo b199
          rw [eo, if_neg (ofN_nm (by omega))]
          have hm := Nat.div_le_self ((s * 20 + p') * 20 + q') 20
          by_cases c : x = 0
          · simp only [if_pos c, bN, show (20 : Int32) = Int32.ofNat 20 from rfl, div_N (show (s * 20 + p') * 20 + q' < 2147483648 by omega) (show 0 < 20 by omega) (show 20 < 2147483648 by omega), div_N (show ((s * 20 + p') * 20 + q') / 20 < 2147483648 by omega) (show 0 < 20 by omega) (show 20 < 2147483648 by omega), ofN_mul, sub_N (show ((s * 20 + p') * 20 + q') / 20 / 20 * 20 ≤ ((s * 20 + p') * 20 + q') / 20 by omega) (show ((s * 20 + p') * 20 + q') / 20 < 2147483648 by omega)]
            exact Ok_p ⟨by show Int32.ofNat _ = _; congr 1; omega, Fr.refl W2⟩
          · simp only [if_neg c, bN, show (20 : Int32) = Int32.ofNat 20 from rfl, div_N (show (s * 20 + p') * 20 + q' < 2147483648 by omega) (show 0 < 20 by omega) (show 20 < 2147483648 by omega), ofN_mul, sub_N (show ((s * 20 + p') * 20 + q') / 20 * 20 ≤ (s * 20 + p') * 20 + q' by omega) (show (s * 20 + p') * 20 + q' < 2147483648 by omega)]
            exact Ok_p ⟨by show Int32.ofNat _ = _; congr 1; omega, Fr.refl W2⟩
      · refine Ask_e IX 1 (by decide) (Or.inr ⟨rfl, rfl⟩) (errC (c_findPairN W S (Or.inr ⟨a, ha, rfl, Or.inr ⟨b, hb, rfl, bF hr⟩⟩))) (fun h1 W1 W2 e2 => ?_)
        unfold fX10_pairPlace
        simp only [pI_at W1 fd_thr, m_row ha, m_row hb, bN, e10, if_false, isO_X W2, m_pairN W2 e2 ha hb (bF hr), if_true, m_fails W2]
        exact Ok_p ⟨_, rfl, Fr.refl W2⟩
    · refine Ask_e IX 1 (by decide) (Or.inr ⟨rfl, rfl⟩) (errC (c_findPairN W S (Or.inr ⟨a, ha, rfl, Or.inl (bF hq)⟩))) (fun h1 W1 W2 e2 => ?_)
      unfold fX10_pairPlace
      simp only [pI_at W1 fd_thr, m_row ha, m_rowN (bF hq), bN, e10, if_false, if_true, isO_X W2, m_fails W2]
      exact Ok_p ⟨_, rfl, Fr.refl W2⟩
  · refine Ask_e IX 1 (by decide) (Or.inr ⟨rfl, rfl⟩) (errC (c_findPairN W S (Or.inl (bF hp)))) (fun h1 W1 W2 e2 => ?_)
    unfold fX10_pairPlace
    simp only [pI_at W1 fd_thr, m_rowN (bF hp), bN, if_true, isO_X W2, m_fails W2]
    exact Ok_p ⟨_, rfl, Fr.refl W2⟩
theorem m_commonBefore (W : WF h) (e : V h 320 = n) {a b d : Nat} (ha : a < 5) (hb : b < 5) (hd : d ≤ 20) : fX10_commonBefore 319 (Int32.ofNat a) (Int32.ofNat b) (Int32.ofNat d) h = some (Int32.ofNat (cnt (bth n a b) d)) := by
  unfold fX10_commonBefore
  refine bs (cnt_loop (bth n a b) d (fun k c hk hc => ?_) (fun c => if_pos yle) (by unfold mxF; omega)) rfl
  simp only [if_neg (nle hk (by omega)), isO_X W, bN, m_has W e ha (show k < 20 by omega), m_has W e hb (show k < 20 by omega), bI_0, ofN_succ]
  unfold bth
  cases hs n a k
  · simp
  · cases hs n b k <;> simp
theorem Q_common (W : WF h) (S : SR h 3 n) (p q : Int32) : Ask (RC1 IX) h n (fX9_common 2 p q h) (fX10_common 319 p q) := by
  by_cases hp : inN p 5 = true
  · obtain ⟨a, ha, rfl⟩ := inN_of (by omega) hp
    by_cases hq : inN q 5 = true
    · obtain ⟨b, hb, rfl⟩ := inN_of (by omega) hq
      refine Ask_v (Int32.ofNat (cnt (bth n a b) 20)) (Or.inl ⟨rfl, rfl⟩) ?_ (fun h1 W1 W2 e2 => ?_)
      · unfold fX9_common
        simp only [rq_row ha, rq_row hb, then_l, gH0 W, gS0 W, isO_R W R4, bN, s_countCommon W R4 S.1 ha hb]
        exact Ok_p ⟨rfl, Fr.refl W⟩
      · unfold fX10_common
        simp only [pI_at W1 fd_thr, m_row ha, m_row hb, bN, e10, if_false, isO_X W2, show fX10_commonBefore 319 (Int32.ofNat a) (Int32.ofNat b) 20 (st h1 319 3 0) = some (Int32.ofNat (cnt (bth n a b) 20)) from m_commonBefore W2 e2 ha hb (d := 20) (by omega)]
        exact Ok_p ⟨rfl, Fr.refl W2⟩
    · refine Ask_e IX 1 (by decide) (Or.inr ⟨rfl, rfl⟩) ?_ (fun h1 W1 W2 e2 => ?_)
      · unfold fX9_common
        simp only [rq_row ha, rq_rowN (bF hq), then_l, then_r]
        exact Ok_p ⟨rfl, Fr_thr (Fr.refl W)⟩
      · unfold fX10_common
        simp only [pI_at W1 fd_thr, m_row ha, m_rowN (bF hq), bN, e10, if_false, if_true, isO_X W2, m_fails W2]
        exact Ok_p ⟨_, rfl, Fr.refl W2⟩
  · refine Ask_e IX 1 (by decide) (Or.inr ⟨rfl, rfl⟩) ?_ (fun h1 W1 W2 e2 => ?_)
    · unfold fX9_common
      simp only [rq_rowN (bF hp), then_r]
      exact Ok_p ⟨rfl, Fr_thr (Fr.refl W)⟩
    · unfold fX10_common
      simp only [pI_at W1 fd_thr, m_rowN (bF hp), bN, if_true, isO_X W2, m_fails W2]
      exact Ok_p ⟨_, rfl, Fr.refl W2⟩
theorem Q_commonAt (W : WF h) (S : SR h 3 n) (p q r : Int32) : Ask (RC1 IX) h n (fX9_commonAt 2 p q r h) (fX10_commonAt 319 p q r) := by
  by_cases hp : inN p 5 = true
  · obtain ⟨a, ha, rfl⟩ := inN_of (by omega) hp
    by_cases hq : inN q 5 = true
    · obtain ⟨b, hb, rfl⟩ := inN_of (by omega) hq
      have c20 := cnt_le (bth n a b) 20
      by_cases hr : inN r (cnt (bth n a b) 20) = true
      · obtain ⟨k, hk, rfl⟩ := inN_of (by omega) hr
        obtain ⟨t1, t2, t3⟩ := nth_found hk
        refine Ask_v (Int32.ofNat (nth (bth n a b) k 20)) (Or.inl ⟨rfl, rfl⟩) ?_ (fun h1 W1 W2 e2 => ?_)
        · unfold fX9_commonAt
          simp only [rq_row ha, rq_row hb, then_l, gH0 W, gS0 W, isO_R W R4, bN, s_countCommon W R4 S.1 ha hb, rq_place hk (show cnt (bth n a b) 20 < 2147483648 by omega), s_commonOn W R4 S.1 ha hb (show k < 20 by omega), if_pos t1]
          exact Ok_p ⟨rfl, Fr.refl W⟩
        · unfold fX10_commonAt
          simp only [pI_at W1 fd_thr, m_row ha, m_row hb, bN, e10, if_false, isO_X W2, show fX10_commonBefore 319 (Int32.ofNat a) (Int32.ofNat b) 20 (st h1 319 3 0) = some (Int32.ofNat (cnt (bth n a b) 20)) from m_commonBefore W2 e2 ha hb (d := 20) (by omega), m_in, inI_S (show cnt (bth n a b) 20 < 2147483648 by omega), hr, bI_t]
          generalize st h1 319 3 0 = g at W2 e2
          refine Ok_s (a := Int32.ofNat (nth (bth n a b) k 20)) (mxLoop_find (S := fun t => Int32.ofNat t) (K := nth (bth n a b) k 20) (fun t ht => ?_) ?_ (by unfold mxF; omega)) (Ok_p ⟨rfl, Fr.refl W2⟩)
          · have hm := cnt_mono_n (p := bth n a b) (show t + 1 ≤ nth (bth n a b) k 20 by omega)
            rw [t3] at hm
            simp only [ofN_succ, m_commonBefore W2 e2 ha hb (show t + 1 ≤ 20 by omega), bN]
            rw [if_neg (fun z => by have := (ofN_lt (by omega) (by omega)).mp z; omega)]
          · have hc : cnt (bth n a b) (nth (bth n a b) k 20 + 1) = k + 1 := by rw [cnt_t t2, t3]
            simp only [ofN_succ, m_commonBefore W2 e2 ha hb (show nth (bth n a b) k 20 + 1 ≤ 20 by omega), bN, hc]
            rw [if_pos ((ofN_lt (by omega) (by omega)).mpr (by omega))]
      · refine Ask_e IX 1 (by decide) (Or.inr ⟨rfl, rfl⟩) ?_ (fun h1 W1 W2 e2 => ?_)
        · unfold fX9_commonAt
          simp only [rq_row ha, rq_row hb, then_l, gH0 W, gS0 W, isO_R W R4, bN, s_countCommon W R4 S.1 ha hb, rq_placeN (bF hr), then_r]
          exact Ok_p ⟨rfl, Fr_thr (Fr.refl W)⟩
        · unfold fX10_commonAt
          simp only [pI_at W1 fd_thr, m_row ha, m_row hb, bN, e10, if_false, isO_X W2, show fX10_commonBefore 319 (Int32.ofNat a) (Int32.ofNat b) 20 (st h1 319 3 0) = some (Int32.ofNat (cnt (bth n a b) 20)) from m_commonBefore W2 e2 ha hb (d := 20) (by omega), m_in, inI_S (show cnt (bth n a b) 20 < 2147483648 by omega), bF hr, bI_f, if_true, m_fails W2]
          exact Ok_p ⟨_, rfl, Fr.refl W2⟩
    · refine Ask_e IX 1 (by decide) (Or.inr ⟨rfl, rfl⟩) ?_ (fun h1 W1 W2 e2 => ?_)
      · unfold fX9_commonAt
        simp only [rq_row ha, rq_rowN (bF hq), then_l, then_r]
        exact Ok_p ⟨rfl, Fr_thr (Fr.refl W)⟩
      · unfold fX10_commonAt
        simp only [pI_at W1 fd_thr, m_row ha, m_rowN (bF hq), bN, e10, if_false, if_true, isO_X W2, m_fails W2]
        exact Ok_p ⟨_, rfl, Fr.refl W2⟩
  · refine Ask_e IX 1 (by decide) (Or.inr ⟨rfl, rfl⟩) ?_ (fun h1 W1 W2 e2 => ?_)
    · unfold fX9_commonAt
      simp only [rq_rowN (bF hp), then_r]
      exact Ok_p ⟨rfl, Fr_thr (Fr.refl W)⟩
    · unfold fX10_commonAt
      simp only [pI_at W1 fd_thr, m_rowN (bF hp), bN, if_true, isO_X W2, m_fails W2]
      exact Ok_p ⟨_, rfl, Fr.refl W2⟩
end
