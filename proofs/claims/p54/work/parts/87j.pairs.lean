/-! THE PURE SIDE, 52: the law asks for pairs and common things -/
section
variable {h : mxH} {n : Nat → Int32} {c j : Nat} {B : Nat → Nat → Int32}
theorem common_tail (I : LSt h n n c B j) {a b : Nat} (ha : a < 5) (hb : b < 5) : Ok (Option.bind (mxLoop (ρ := (mxH ⊕ (Int32 × mxH))) (fun s613 : (Int32 × Int32 × mxH) => (if 20 ≤ s613.2.1 then some (Sum.inr (Sum.inr (s613.1, s613.2.2))) else Option.bind (gR s613.2.2 0 11 2) (fun r628 => Option.bind (ldR s613.2.2 r628 (Int32.ofNat a)) (fun r630 => Option.bind (ldI s613.2.2 r630 s613.2.1) (fun v632 => (if v632 < 0 then some (Sum.inl (s613.1, s613.2.1 + 1, s613.2.2)) else Option.bind (gR s613.2.2 0 11 2) (fun r635 => Option.bind (ldR s613.2.2 r635 (Int32.ofNat b)) (fun r637 => Option.bind (ldI s613.2.2 r637 s613.2.1) (fun v639 => (if 0 ≤ v639 then Option.bind (gR s613.2.2 0 11 0) (fun r642 => Option.bind (isO s613.2.2 r642 9) (fun u644 => Option.bind (mxOk (fX9_commonAt r642 (Int32.ofNat a) (Int32.ofNat b) s613.1 s613.2.2)) (fun o647 => (if o647.1 = s613.2.1 then some (Sum.inl (s613.1 + 1, s613.2.1 + 1, o647.2)) else some (Sum.inr (Sum.inl o647.2)))))) else some (Sum.inl (s613.1, s613.2.1 + 1, s613.2.2)))))))))))) 21 (0, 0, h)) (Sum.elim (fun r649 : mxH => Option.bind (mxZ1 0) (fun v650 => some (v650, r649))) (fun r653 : (Int32 × mxH) => Option.bind (gR r653.2 0 11 0) (fun r654 => Option.bind (isO r653.2 r654 9) (fun u656 => Option.bind (mxOk (fX9_common r654 (Int32.ofNat a) (Int32.ofNat b) r653.2)) (fun o659 => Option.bind (α := Int32) (if o659.1 = r653.1 then some 1 else some 0) (fun jp662' : Int32 => Option.bind (mxZ1 jp662') (fun v664 => some (v664, o659.2))))))))) (fun o => o.1 = 1 ∧ LSt o.2 n n c B j ∧ Ev 0 h o.2) := by
  refine Ok_b (P := fun r => ∃ g, r = Sum.inr (Int32.ofNat (cnt (bth n a b) 20), g) ∧ LSt g n n c B j ∧ Ev 0 h g) (Ok_loopF 21 (fun t s => s.2.1 = Int32.ofNat t ∧ s.1 = Int32.ofNat (cnt (bth n a b) t) ∧ LSt s.2.2 n n c B j ∧ Ev 0 h s.2.2) 20 ⟨rfl, rfl, I, Ev.refl h⟩ ?_ ?_ (by omega)) ?_
  · rintro t ⟨s1, s2, g⟩ ht ⟨e1, e2, Ig, vg⟩
    obtain rfl := show s2 = _ from e1
    obtain rfl := show s1 = _ from e2
    have Ig : LSt g n n c B j := Ig
    have vg : Ev 0 h g := vg
    simp only [if_neg (n20 ht), Ig.gm, l_row Ig.L ha, l_row Ig.L hb, l_mk Ig.L ha ht, l_mk Ig.L hb ht, bN]
    by_cases z : n (20 * a + t) < 0
    · have q : bth n a b t = false := by unfold bth; rw [MG_hs0 I.MG ha ht z]; rfl
      rw [if_pos z]
      exact Ok_p ⟨_, rfl, ofN_succ t, by rw [cnt_f q], Ig, vg⟩
    · rw [if_neg z]
      by_cases y : n (20 * b + t) < 0
      · have q : bth n a b t = false := by unfold bth; rw [MG_hs0 I.MG hb ht y]; simp
        rw [if_neg (Int32.not_le.mpr y)]
        exact Ok_p ⟨_, rfl, ofN_succ t, by rw [cnt_f q], Ig, vg⟩
      · have q : bth n a b t = true := by unfold bth; rw [MG_hs1 I.MG ha ht z, MG_hs1 I.MG hb ht y]; rfl
        rw [if_pos (Int32.not_lt.mp y)]
        simp only [Ig.go, Ig.hO, bN]
        have hc : cnt (bth n a b) t < cnt (bth n a b) 20 := cnt_lt_of ht q
        refine Ok_b (k_ok Ig (q_commonAt Ig.W Ig.S Ig.G ha hb hc)) (fun p ⟨p1, Ip, vp⟩ => ?_)
        rw [p1, nth_of ht q, if_pos rfl]
        exact Ok_p ⟨_, rfl, ofN_succ t, by rw [cnt_t q]; exact ofN_succ _, Ip, (vg.trans vp).le (by omega)⟩
  · rintro ⟨s1, s2, g⟩ ⟨e1, e2, Ig, vg⟩
    obtain rfl := show s2 = _ from e1
    obtain rfl := show s1 = _ from e2
    exact Ok_e (a := .inr (.inr (Int32.ofNat (cnt (bth n a b) 20), g))) (if_pos yle) ⟨_, rfl, g, rfl, Ig, vg⟩
  rintro r ⟨g, rfl, Ig, vg⟩
  simp only [Sum.elim_inr, Ig.go, Ig.hO, bN]
  refine Ok_b (k_ok Ig (q_common Ig.W Ig.S Ig.G ha hb)) (fun p ⟨p1, Ip, vp⟩ => ?_)
  rw [p1, if_pos rfl]
  exact Ok_p ⟨rfl, Ip, (vg.trans vp).le (by omega)⟩
theorem w_arePairs (I : LSt h n n c B j) : Ok (fL_arePairs 0 h) (fun o => o.1 = 1 ∧ LSt o.2 n n c B j ∧ Ev 0 h o.2) := by
  unfold fL_arePairs
  simp only [I.gd, I.d, bN]
  refine Ok_b (show Ok (fX10_next 1 5 h) _ from k_next I (N := 5) (by omega) (by omega)) (fun o1 ⟨⟨a, ha, ea⟩, I1, v1⟩ => ?_)
  rw [ea]
  simp only [I1.gd, I1.d, bN]
  refine Ok_b (show Ok (fX10_next 1 5 o1.2) _ from k_next I1 (N := 5) (by omega) (by omega)) (fun o2 ⟨⟨b, hb, eb⟩, I2, v2⟩ => ?_)
  rw [eb]
  have V2 := v1.trans v2
  have ia := itm_20 n a
  have ib := itm_20 n b
  have hm : itm n a * itm n b ≤ 20 * 20 := Nat.mul_le_mul ia ib
  simp only [I2.o, lp_items I2.L I2.MG ha, lp_items I2.L I2.MG hb, bN, ofN_mul]
  generalize hM : itm n a * itm n b = M at hm
  have MN : M < 2147483648 := by omega
  refine Ok_b (P := fun r => ∃ g, r = Sum.inr g ∧ LSt g n n c B j ∧ Ev 0 h g) (Ok_loopF 13 (fun k s => s.2.1 = Int32.ofNat k ∧ LSt s.2.2 n n c B j ∧ Ev 0 h s.2.2 ∧ ((k = 0 ∧ s.1 = 2147483647) ∨ ∃ k0 p q, k = k0 + 1 ∧ PA n a b k0 p q ∧ s.1 = pk (198 - pdn n a b k0) p q)) (min M 12) ⟨rfl, I2, V2.le (by omega), Or.inl ⟨rfl, rfl⟩⟩ ?_ ?_ (by omega)) ?_
  · rintro k ⟨s1, s2, g⟩ hk ⟨e1, Ig, vg, ho⟩
    obtain rfl := show s2 = _ from e1
    have Ig : LSt g n n c B j := Ig
    have vg : Ev 0 h g := vg
    have kM : k < M := Nat.lt_of_lt_of_le hk (Nat.min_le_left M 12)
    have k12 : k < 12 := Nat.lt_of_lt_of_le hk (Nat.min_le_right M 12)
    have hk2 : k < itm n a * itm n b := by rw [hM]; exact kM
    obtain ⟨p, q, H⟩ := PA_ex Ig.W Ig.S Ig.G ha hb hk2
    obtain ⟨p20, q20⟩ := pq_20 H
    have d199 := (pdn_spec I.MG ha hb hk2).1
    obtain ⟨H1, H2, H3, H4⟩ := show PF n a b _ _ p q from H
    obtain ⟨m1, m2⟩ := mkN_spec I.MG ha H1
    obtain ⟨m3, m4⟩ := mkN_spec I.MG hb H2
    have m1' : n (20 * a + thi n a p) = Int32.ofNat (mkN n a p) := by rw [← m1]; exact (if_pos H1).symm
    have m3' : n (20 * b + thi n b q) = Int32.ofNat (mkN n b q) := by rw [← m3]; exact (if_pos H2).symm
    have es : mkN n a p + mkN n b q = 198 - pdn n a b k := of_decide_eq_true H3
    simp only [if_neg (nle kM MN), if_neg (show ¬ (12 : Int32) ≤ Int32.ofNat k from nle (a := 12) k12), Ig.go, Ig.hO, bN]
    refine Ok_b (k_ok Ig (q_pairSum Ig.W Ig.S Ig.G ha hb hk2)) (fun x1 ⟨xe1, J1, w1⟩ => ?_)
    simp only [J1.go, J1.hO, bN]
    refine Ok_b (k_ok J1 (q_pairPlace (x := 0) J1.W J1.S J1.G ha hb hk2 H)) (fun x2 ⟨xe2, J2, w2⟩ => ?_)
    simp only [J2.go, J2.hO, bN]
    refine Ok_b (k_ok J2 (q_pairPlace (x := 1) J2.W J2.S J2.G ha hb hk2 H)) (fun x3 ⟨xe3, J3, w3⟩ => ?_)
    rw [xe2, xe3, if_pos rfl, if_neg (show ¬ (1 : Int32) = 0 by decide)]
    simp only [J3.go, J3.hO, bN]
    refine Ok_b (k_ok J3 (q_markAt J3.W J3.S J3.G ha H1)) (fun x4 ⟨xe4, J4, w4⟩ => ?_)
    simp only [J4.go, J4.hO, bN]
    refine Ok_b (k_ok J4 (q_markAt J4.W J4.S J4.G hb H2)) (fun x5 ⟨xe5, J5, w5⟩ => ?_)
    rw [xe1, xe4, xe5, m1', m3', ofN_add, es, if_pos rfl]
    have hd : pk (198 - pdn n a b k) p q < s1 := by
      rcases ho with ⟨k0, e⟩ | ⟨k0, p0, q0, rfl, H0, e⟩
      · obtain rfl := show s1 = _ from e
        rw [i32_lt, pk_int (by omega) p20 q20, show (2147483647 : Int32).toInt = 2147483647 by decide]
        omega
      · obtain rfl := show s1 = _ from e
        exact pk_desc I.MG ha hb hk2 H0 H
    rw [if_pos (show Int32.ofNat (198 - pdn n a b k) * 400 - Int32.ofNat p * 20 - Int32.ofNat q < s1 from hd)]
    exact Ok_p ⟨_, rfl, ofN_succ k, J5, (((((vg.trans w1).trans w2).trans w3).trans w4).trans w5).le (by omega), Or.inr ⟨k, p, q, rfl, H, rfl⟩⟩
  · rintro ⟨s1, s2, g⟩ ⟨e1, Ig, vg, ho⟩
    obtain rfl := show s2 = _ from e1
    by_cases y : M ≤ min M 12
    · exact Ok_e (a := .inr (.inr g)) (if_pos ((ofN_le MN (show min M 12 < 2147483648 by omega)).mpr y)) ⟨_, rfl, g, rfl, Ig, vg⟩
    · refine Ok_e (a := .inr (.inr g)) ((if_neg (fun z => y ((ofN_le MN (show min M 12 < 2147483648 by omega)).mp z))).trans (if_pos ?_)) ⟨_, rfl, g, rfl, Ig, vg⟩
      exact (ofN_le (a := 12) (show 12 < 2147483648 by omega) (show min M 12 < 2147483648 by omega)).mpr (by omega)
  rintro r ⟨g, rfl, Ig, vg⟩
  simp only [Sum.elim_inr]
  refine Ok_b (P := fun o => ∃ x, o.1 = Int32.ofNat x ∧ (M = 0 ∨ x < M) ∧ LSt o.2 n n c B j ∧ Ev 0 h o.2) ?_ (fun o ⟨x, ex, hx, Io, vo⟩ => ?_)
  · by_cases z : M = 0
    · rw [if_pos (by rw [z]; rfl)]
      exact Ok_p ⟨0, rfl, Or.inl z, Ig, vg⟩
    · rw [if_neg (fun y => z (ofN_inj MN (by omega) y) : ¬ Int32.ofNat M = 0)]
      simp only [Ig.gd, Ig.d, bN]
      exact Ok_b (k_next Ig (N := M) (by omega) MN) (fun o ⟨⟨x, hx, ex⟩, Io, vo⟩ => Ok_p ⟨x, ex, Or.inr hx, Io, (vg.trans vo).le (by omega)⟩)
  rw [ex]
  by_cases z : M = 0
  · have zN : Int32.ofNat M ≤ 0 := by rw [z]; exact yle
    refine Ok_b (P := fun r => r.2.2 = o.2) (Ok_loopF 21 (fun k s => s = (0, 0, 0, o.2)) 0 rfl (fun k s hk => absurd hk (Nat.not_lt_zero _)) (fun s e => ?_) (by omega)) (fun r e => ?_)
    · obtain rfl := e
      exact Ok_e (a := .inr (0, 0, o.2)) ((if_neg (show ¬ (20 : Int32) ≤ 0 by decide)).trans (if_pos zN)) ⟨_, rfl, rfl⟩
    · rw [if_pos zN, e]
      exact Ok_m (common_tail Io ha hb) (fun p ⟨p1, p2, p3⟩ => ⟨p1, p2, (vo.trans p3).le (by omega)⟩)
  · have hx : x < M := by omega
    have hx2 : x < itm n a * itm n b := by omega
    have zN : ¬ Int32.ofNat M ≤ 0 := nle (b := 0) (by omega) MN
    obtain ⟨d1, d2, d3, -⟩ := pdn_spec I.MG ha hb hx2
    have MC := more_cup (D := pdn n a b x) I.MG ha hb (by omega)
    have SC := same_tot (s := 198 - pdn n a b x) I.MG ha hb
    have Sb : 198 - pdn n a b x < 2147483648 := by omega
    have hPS : ∀ g, LSt g n n c B j → Ok (mxOk (fX9_pairSum 2 (Int32.ofNat a) (Int32.ofNat b) (Int32.ofNat x) g)) (fun o => o.1 = Int32.ofNat (198 - pdn n a b x) ∧ LSt o.2 n n c B j ∧ Ev 0 g o.2) := fun g Ig => k_ok Ig (q_pairSum Ig.W Ig.S Ig.G ha hb hx2)
    have b1 := cup_b n a b (d := pdn n a b x) (by omega)
    have b2 := tot_400 n a b (198 - pdn n a b x)
    generalize 198 - pdn n a b x = S at MC SC Sb hPS d3 b2
    refine Ok_b (P := fun r => r.1 = Int32.ofNat (cup n a b (pdn n a b x)) ∧ r.2.1 = Int32.ofNat (tot n a b S) ∧ LSt r.2.2 n n c B j ∧ Ev 0 h r.2.2) (Ok_loopF 21 (fun A s => s.2.2.1 = Int32.ofNat A ∧ s.1 = Int32.ofNat (sumN (prs n a b (fun x => decide (S < x))) A) ∧ s.2.1 = Int32.ofNat (sumN (prs n a b (fun x => decide (x = S))) A) ∧ LSt s.2.2.2 n n c B j ∧ Ev 0 h s.2.2.2) 20 ⟨rfl, rfl, rfl, Io, vo⟩ ?_ ?_ (by omega)) ?_
    · rintro A ⟨s1, s2, s3, g⟩ hA ⟨e1, e2, e3, Ig, vg⟩
      obtain rfl := show s3 = _ from e1
      obtain rfl := show s1 = _ from e2
      obtain rfl := show s2 = _ from e3
      have vg : Ev 0 h g := vg
      simp only [if_neg (n20 hA), if_neg zN]
      generalize hM1 : sumN (prs n a b (fun x => decide (S < x))) A = M1
      generalize hM2 : sumN (prs n a b (fun x => decide (x = S))) A = M2
      refine Ok_b (P := fun r => r.1 = Int32.ofNat (M1 + prs n a b (fun x => decide (S < x)) A) ∧ r.2.1 = Int32.ofNat (M2 + prs n a b (fun x => decide (x = S)) A) ∧ LSt r.2.2 n n c B j ∧ Ev 0 h r.2.2) (Ok_loopF 21 (fun t s => s.2.2.1 = Int32.ofNat t ∧ s.1 = Int32.ofNat (M1 + if hs n a A then cnt (fun t => hs n b t && decide (S < mkT n a A + mkT n b t)) t else 0) ∧ s.2.1 = Int32.ofNat (M2 + if hs n a A then cnt (fun t => hs n b t && decide (mkT n a A + mkT n b t = S)) t else 0) ∧ LSt s.2.2.2 n n c B j ∧ Ev 0 h s.2.2.2) 20 ⟨rfl, by show Int32.ofNat M1 = _; congr 1; split <;> rfl, by show Int32.ofNat M2 = _; congr 1; split <;> rfl, Ig, vg⟩ ?_ ?_ (by omega)) ?_
      · rintro t ⟨s1, s2, s3, g⟩ ht ⟨e1, e2, e3, Ig, vg⟩
        obtain rfl := show s3 = _ from e1
        obtain rfl := show s1 = _ from e2
        obtain rfl := show s2 = _ from e3
        have Ig : LSt g n n c B j := Ig
        have vg : Ev 0 h g := vg
        simp only [if_neg (n20 ht), Ig.gm, l_row Ig.L ha, l_row Ig.L hb, l_mk Ig.L ha hA, l_mk Ig.L hb ht, bN]
        by_cases y1 : n (20 * a + A) < 0
        · have q := MG_hs0 I.MG ha hA y1
          rw [if_pos y1]
          exact Ok_p ⟨_, rfl, ofN_succ t, by simp only [q]; rfl, by simp only [q]; rfl, Ig, vg⟩
        · have q := MG_hs1 I.MG ha hA y1
          obtain ⟨ma, ma2⟩ := mkT_nat I.MG ha hA q
          rw [if_neg y1]
          simp only [q, if_true]
          by_cases y2 : n (20 * b + t) < 0
          · have r := MG_hs0 I.MG hb ht y2
            rw [if_neg (Int32.not_le.mpr y2)]
            exact Ok_p ⟨_, rfl, ofN_succ t, by rw [cnt_f (by rw [r]; rfl)], by rw [cnt_f (by rw [r]; rfl)], Ig, vg⟩
          · have r := MG_hs1 I.MG hb ht y2
            obtain ⟨mb, mb2⟩ := mkT_nat I.MG hb ht r
            rw [if_pos (Int32.not_lt.mp y2)]
            simp only [Ig.go, Ig.hO, bN]
            refine Ok_b (Ok_b (hPS g Ig) (fun x1 ⟨xe1, J1, w1⟩ => ?_) (Q := fun o => o.1 = Int32.ofNat (M1 + cnt (fun t => hs n b t && decide (S < mkT n a A + mkT n b t)) (t + 1)) ∧ o.2.1 = Int32.ofNat (M2 + cnt (fun t => hs n b t && decide (mkT n a A + mkT n b t = S)) (t + 1)) ∧ LSt o.2.2 n n c B j ∧ Ev 0 h o.2.2)) (fun o ⟨o1, o2, o3, o4⟩ => Ok_p ⟨_, rfl, ofN_succ t, o1, o2, o3, o4⟩)
            rw [xe1, ma, mb, ofN_add]
            have xb : mkT n a A + mkT n b t < 2147483648 := by omega
            refine Ok_b (P := fun z => z = Int32.ofNat (if S < mkT n a A + mkT n b t then 1 else 0)) ?_ (fun z ez => ?_)
            · by_cases y : S < mkT n a A + mkT n b t
              · rw [if_neg (nle y xb), if_pos y]; exact Ok_p rfl
              · rw [if_pos ((ofN_le xb Sb).mpr (by omega)), if_neg y]; exact Ok_p rfl
            rw [ez]
            simp only [J1.go, J1.hO, bN]
            refine Ok_b (hPS x1.2 J1) (fun x2 ⟨xe2, J2, w2⟩ => ?_)
            rw [xe2]
            refine Ok_b (P := fun z => z = Int32.ofNat (if mkT n a A + mkT n b t = S then 1 else 0)) ?_ (fun z ez2 => ?_)
            · by_cases y : mkT n a A + mkT n b t = S
              · rw [if_pos (by rw [y]), if_pos y]; exact Ok_p rfl
              · rw [if_neg (fun z => y (ofN_inj xb Sb z)), if_neg y]; exact Ok_p rfl
            rw [ez2, ofN_add, ofN_add]
            refine Ok_p ⟨?_, ?_, J2, ((vg.trans w1).trans w2).le (by omega)⟩
            · show Int32.ofNat _ = Int32.ofNat _
              congr 1
              by_cases y : S < mkT n a A + mkT n b t
              · rw [cnt_t (by rw [r, decide_eq_true y]; rfl), if_pos y]; omega
              · rw [cnt_f (by rw [decide_eq_false y]; simp), if_neg y]; omega
            · show Int32.ofNat _ = Int32.ofNat _
              congr 1
              by_cases y : mkT n a A + mkT n b t = S
              · rw [cnt_t (by rw [r, decide_eq_true y]; rfl), if_pos y]; omega
              · rw [cnt_f (by rw [decide_eq_false y]; simp), if_neg y]; omega
      · rintro ⟨s1, s2, s3, g⟩ ⟨e1, e2, e3, Ig, vg⟩
        obtain rfl := show s3 = _ from e1
        exact Ok_e (a := .inr (s1, s2, g)) (if_pos yle) ⟨(s1, s2, g), rfl, e2, e3, Ig, vg⟩
      · rintro r ⟨r1, r2, r3, r4⟩
        refine Ok_p ⟨_, rfl, ofN_succ A, ?_, ?_, r3, r4⟩
        · rw [sumN_s, hM1]; exact r1
        · rw [sumN_s, hM2]; exact r2
    · rintro ⟨s1, s2, s3, g⟩ ⟨e1, e2, e3, Ig, vg⟩
      obtain rfl := show s3 = _ from e1
      exact Ok_e (a := .inr (s1, s2, g)) (if_pos yle) ⟨(s1, s2, g), rfl, by rw [← MC]; exact e2, by rw [← SC]; exact e3, Ig, vg⟩
    · rintro r ⟨r1, r2, r3, r4⟩
      rw [if_neg zN, r1, r2, if_neg (fun y => by have := (ofN_lt (show x < 2147483648 by omega) (show cup n a b (pdn n a b x) < 2147483648 by omega)).mp y; omega), ofN_add, if_pos ((ofN_lt (show x < 2147483648 by omega) (show cup n a b (pdn n a b x) + tot n a b S < 2147483648 by omega)).mpr d3)]
      exact Ok_m (common_tail r3 ha hb) (fun p ⟨p1, p2, p3⟩ => ⟨p1, p2, (r4.trans p3).le (by omega)⟩)
end
