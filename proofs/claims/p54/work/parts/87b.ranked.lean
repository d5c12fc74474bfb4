/-! THE PURE SIDE, 44: the law asks for the ranking -/
section
variable {h : mxH} {n : Nat → Int32} {c j : Nat} {B : Nat → Nat → Int32}
theorem MG_hs1 (G : MG n) {i t : Nat} (hi : i < 5) (ht : t < 20) (z : ¬ n (20 * i + t) < 0) : hs n i t = true := by
  have m := MG_hs G hi ht
  rw [decide_eq_false z] at m
  simpa using m.symm
theorem MG_hs0 (G : MG n) {i t : Nat} (hi : i < 5) (ht : t < 20) (z : n (20 * i + t) < 0) : hs n i t = false := by
  have m := MG_hs G hi ht
  rw [decide_eq_true z] at m
  simpa using m.symm
theorem w_areRanked (I : LSt h n n c B j) (hb : h.2 + 1000 ≤ 1000000) : Ok (fL_areRanked 0 h) (fun o => o.1 = 1 ∧ LSt o.2 n n c B j ∧ Ev 920 h o.2) := by
  have l1 := I.L.1
  have r20 := rdT_20 n 20
  unfold fL_areRanked
  simp only [I.o, bN]
  refine Ok_b (l_ranking I.1 (by omega) (d := 20) (by omega)) (fun o ⟨x, o1, A⟩ => ?_)
  have I1 := I.ext x
  have X1 := x.ev
  simp only [I1.go, I1.hO, bN]
  refine Ok_b (k_q I1 (q_knownCount I1.W I1.S I1.G)) (fun u ⟨u1, I2, v2⟩ => ?_)
  have A2 := A.ev (by omega) v2
  have X2 := X1.trans v2
  have sz2 := X2.2.1
  rw [u1]
  simp only [A2.len, bN, if_true]
  refine Ok_b (P := fun r => ∃ g, r = Sum.inr g ∧ LSt g n n c B j ∧ Ev 20 u.2 g) (Ok_loopF 21 (fun k s => s.1 = Int32.ofNat k ∧ LSt s.2 n n c B j ∧ Ev k u.2 s.2) (rdT n 20) ⟨rfl, I2, Ev.refl _⟩ ?_ ?_ (by omega)) ?_
  · rintro k ⟨s1, g⟩ hk ⟨e1, Ig, vg⟩
    obtain rfl := show s1 = _ from e1
    have Ig : LSt g n n c B j := Ig
    have vg : Ev k u.2 g := vg
    have Ag := A2.ev (by omega) vg
    obtain ⟨b1, b2, b3⟩ := bst_spec hk
    simp only [Ag.len, bN, if_neg (nle hk (by omega)), Ig.go, Ig.hO]
    refine Ok_b (k_ok Ig (q_ranked Ig.W Ig.S Ig.G (q := k) hk)) (fun p ⟨p1, Ip, vp⟩ => ?_)
    have Ap := Ag.ev (by omega) vp
    rw [p1, show knr n k = bst n 20 k from rfl]
    simp only [Ap.ld hk (by omega), bN, if_true, Ip.go, Ip.hO]
    refine Ok_b (k_ok Ip (q_rankOf Ip.W Ip.S Ip.G b1 b2)) (fun w ⟨w1, Iw, vw⟩ => ?_)
    have Aw := Ap.ev (by omega) vw
    rw [w1, show krk n (bst n 20 k) = k from b3, if_pos rfl]
    simp only [Iw.go, Aw.ld hk (by omega), Iw.hO, bN]
    refine Ok_b (k_ok Iw (q_value Iw.W Iw.S Iw.G b1)) (fun y ⟨y1, Iy, vy⟩ => ?_)
    have Ay := Aw.ev (by omega) vy
    have V1 := ((vg.trans vp).trans vw).trans vy
    have sz1 := V1.2.1
    simp only [Ay.ld hk (by omega), Iy.o, bN]
    refine Ok_b (l_value Iy.1 (by omega) b1) (fun z ⟨z1, xz⟩ => ?_)
    rw [y1, z1, if_pos rfl]
    exact Ok_p ⟨_, rfl, ofN_succ k, Iy.ext xz, (V1.trans xz.ev).le (by omega)⟩
  · rintro ⟨s1, g⟩ ⟨e1, Ig, vg⟩
    obtain rfl := show s1 = _ from e1
    have vg : Ev (rdT n 20) u.2 g := vg
    have Ag := A2.ev (by omega) vg
    simp only [Ag.len, bN]
    rw [if_pos yle]
    exact Ok_p ⟨_, rfl, _, rfl, Ig, vg.le (by omega)⟩
  · rintro r ⟨g, rfl, Ig, vg⟩
    simp only [Sum.elim_inr, Ig.gd, Ig.d, bN]
    have X3 := X2.trans vg
    refine Ok_b (show Ok (fX10_next 1 5 g) _ from k_next Ig (N := 5) (by omega) (by omega)) (fun d ⟨⟨r, hr, er⟩, Id, vd⟩ => ?_)
    rw [er]
    have X4 := X3.trans vd
    refine Ok_b (P := fun r => ∃ g, r = Sum.inr g ∧ LSt g n n c B j ∧ Ev 0 d.2 g) (Ok_loopF 21 (fun k s => s.1 = Int32.ofNat k ∧ LSt s.2 n n c B j ∧ Ev 0 d.2 s.2) 20 ⟨rfl, Id, Ev.refl _⟩ ?_ ?_ (by omega)) ?_
    · rintro t ⟨s1, g⟩ ht ⟨e1, Ig, vg⟩
      obtain rfl := show s1 = _ from e1
      have Ig : LSt g n n c B j := Ig
      have vg : Ev 0 d.2 g := vg
      simp only [if_neg (n20 ht), Ig.gm, l_row Ig.L hr, l_mk Ig.L hr ht, bN]
      by_cases z : n (20 * r + t) < 0
      · rw [if_pos z]; exact Ok_p ⟨_, rfl, ofN_succ t, Ig, vg⟩
      · rw [if_neg z]
        have q := MG_hs1 Ig.MG hr ht z
        simp only [Ig.go, Ig.hO, bN]
        refine Ok_b (k_ok Ig (q_placeOf Ig.W Ig.S Ig.G hr ht q)) (fun p ⟨p1, Ip, vp⟩ => ?_)
        simp only [Ip.o, lp_place Ip.L hr ht, bN]
        rw [p1, if_pos rfl]
        simp only [Ip.go, Ip.hO, bN]
        refine Ok_b (k_ok Ip (q_thingAt Ip.W Ip.S Ip.G hr (t := pla n r t) (pla_itm Ip.MG hr ht q))) (fun w ⟨w1, Iw, vw⟩ => ?_)
        rw [w1, thi_of Ip.MG hr ht q, if_pos rfl]
        simp only [Iw.go, Iw.o, lp_place Iw.L hr ht, Iw.hO, bN]
        refine Ok_b (k_ok Iw (q_markAt Iw.W Iw.S Iw.G hr (t := pla n r t) (pla_itm Ip.MG hr ht q))) (fun y ⟨y1, Iy, vy⟩ => ?_)
        rw [y1, thi_of Ip.MG hr ht q]
        simp only [Iy.gm, l_row Iy.L hr, l_mk Iy.L hr ht, bN, if_true]
        exact Ok_p ⟨_, rfl, ofN_succ t, Iy, (((vg.trans vp).trans vw).trans vy).le (by omega)⟩
    · rintro ⟨s1, g⟩ ⟨e1, Ig, vg⟩
      obtain rfl := show s1 = _ from e1
      exact Ok_e (a := .inr (.inr g)) (if_pos yle) ⟨_, rfl, _, rfl, Ig, vg⟩
    · rintro r' ⟨g, rfl, Ig, vg⟩
      simp only [Sum.elim_inr, Ig.go, Ig.hO, bN]
      refine Ok_b (k_ok Ig (q_itemCount Ig.W Ig.S Ig.G hr)) (fun p ⟨p1, Ip, vp⟩ => ?_)
      simp only [Ip.o, lp_items Ip.L Ip.MG hr, bN]
      rw [p1, if_pos rfl]
      exact Ok_p ⟨rfl, Ip, ((X4.trans vg).trans vp).le (by omega)⟩
end
