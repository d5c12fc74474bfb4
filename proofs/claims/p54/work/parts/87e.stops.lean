/-! THE PURE SIDE, 47: the law asks for a stop -/
section
variable {h : mxH} {n : Nat → Int32} {c j : Nat} {B : Nat → Nat → Int32}
theorem stop_tail (I : LSt h n n c B j) (hb : h.2 + 5000 ≤ 1000000) {k : Nat} (k1 : 1 ≤ k) (k2 : k ≤ 20) : Ok (Option.bind (isO h 0 11) (fun u15 => Option.bind (fL_ranking 0 20 h) (fun o18 => Option.bind (lenA o18.2 o18.1) (fun v19 => Option.bind (mxLoop (ρ := (mxH ⊕ mxH)) (fun s48 : (Int32 × mxH) => (if (mxMin (Int32.ofNat k) v19) ≤ s48.1 then some (Sum.inr (Sum.inr s48.2)) else Option.bind (gR s48.2 0 11 0) (fun r63 => Option.bind (isO s48.2 r63 9) (fun u65 => Option.bind (mxOk (fX9_best r63 (Int32.ofNat k) s48.1 s48.2)) (fun o68 => Option.bind (isO o68.2 0 11) (fun u69 => Option.bind (fL_value 0 o68.1 o68.2) (fun o72 => Option.bind (ldI o72.2 o18.1 s48.1) (fun v73 => Option.bind (isO o72.2 0 11) (fun u75 => Option.bind (fL_value 0 v73 o72.2) (fun o78 => (if o72.1 = o78.1 then some (Sum.inl (s48.1 + 1, o78.2)) else some (Sum.inr (Sum.inl o78.2))))))))))))) 21 (0, o18.2)) (Sum.elim (fun r80 : mxH => Option.bind (mxZ1 0) (fun v81 => some (v81, r80))) (fun r84 : mxH => Option.bind (mxLoop (ρ := Int32) (fun s85 : (Int32 × Int32) => (if 5 ≤ s85.2 then some (Sum.inr s85.1) else Option.bind (isO r84 0 11) (fun u94 => Option.bind (fL_items 0 s85.2 r84) (fun o97 => some (Sum.inl (s85.1 + (mxMin o97 (Int32.ofNat (stp n k))), s85.2 + 1)))))) mxF (0, 0)) (fun r98 : Int32 => Option.bind (gR r84 0 11 0) (fun r99 => Option.bind (isO r84 r99 9) (fun u101 => Option.bind (mxOk (fX9_cost r99 (Int32.ofNat k) r84)) (fun o104 => Option.bind (isO o104.2 0 11) (fun u105 => Option.bind (fL_ranking 0 (Int32.ofNat (stp n k)) o104.2) (fun o108 => Option.bind (lenA o108.2 o108.1) (fun v109 => (if o104.1 = (r98 + (4 * v109)) then Option.bind (α := (Int32 × mxH)) (if (Int32.ofNat (stp n k)) = 0 then some (1, o108.2) else Option.bind (gR o108.2 0 11 1) (fun r132 => Option.bind (isO o108.2 r132 10) (fun u134 => Option.bind (fX10_next r132 (Int32.ofNat (stp n k)) o108.2) (fun o137 => Option.bind (isO o137.2 0 11) (fun u138 => Option.bind (fL_isRefuted 0 (Int32.ofNat k) o137.1 o137.2) (fun o141 => (if o141.1 = 0 then some (0, o141.2) else Option.bind (isO o141.2 0 11) (fun u143 => Option.bind (fL_isRefuted 0 (Int32.ofNat k) ((Int32.ofNat (stp n k)) - 1) o141.2) (fun o146 => (if o146.1 = 0 then some (0, o146.2) else some (1, o146.2))))))))))) (fun jp114' : (Int32 × mxH) => Option.bind (mxZ1 jp114'.1) (fun v148 => some (v148, jp114'.2))) else Option.bind (mxZ1 0) (fun v151 => some (v151, o108.2)))))))))))))))) (fun o => o.1 = 1 ∧ (∃ c' B', LSt o.2 n n c' B' (j + 10)) ∧ Ev 4000 h o.2) := by
  have l1 := I.L.1
  have s20 := stp_20 n k
  have r20 := rdT_20 n 20
  obtain ⟨sb1, sb2⟩ := stop_best I.MG I.WG k1 k2
  simp only [I.o, bN]
  refine Ok_b (l_ranking I.1 (by omega) (d := 20) (by omega)) (fun o ⟨x, o1, A⟩ => ?_)
  have I1 := I.ext x
  have X1 := x.ev
  have sz1 := X1.2.1
  simp only [A.len, bN, mxMin_N (show k < 2147483648 by omega) (show rdT n 20 < 2147483648 by omega)]
  refine Ok_b (P := fun r => ∃ g, r = Sum.inr g ∧ LSt g n n c B j ∧ Ev 40 o.2 g) (Ok_loopF 21 (fun i s => s.1 = Int32.ofNat i ∧ LSt s.2 n n c B j ∧ Ev (2 * i) o.2 s.2) (min k (rdT n 20)) ⟨rfl, I1, Ev.refl _⟩ ?_ ?_ (by omega)) ?_
  · rintro i ⟨s1, g⟩ hi ⟨e1, Ig, vg⟩
    obtain rfl := show s1 = _ from e1
    have Ig : LSt g n n c B j := Ig
    have vg : Ev (2 * i) o.2 g := vg
    simp only [if_neg (nle hi (by omega)), Ig.go, Ig.hO, bN]
    refine Ok_b (k_ok Ig (q_best Ig.W Ig.S Ig.G k1 k2 (x := i) (by omega))) (fun p ⟨p1, Ip, vp⟩ => ?_)
    have Vp := vg.trans vp
    have szp := Vp.2.1
    rw [p1]
    simp only [Ip.o, bN]
    refine Ok_b (l_value Ip.1 (by omega) (bst_spec (n := n) (d := stp n k) (q := i) (by omega)).1) (fun u ⟨u1, xu⟩ => ?_)
    have Iu := Ip.ext xu
    have Vu := Vp.trans xu.ev
    have szu := Vu.2.1
    have Au := A.ev (by omega) Vu
    simp only [Au.ld (show i < rdT n 20 by omega) (by omega), Iu.o, bN]
    refine Ok_b (l_value Iu.1 (by omega) (bst_spec (n := n) (d := 20) (q := i) (by omega)).1) (fun v ⟨v1, xv⟩ => ?_)
    rw [u1, v1, sb2 i hi, if_pos rfl]
    exact Ok_p ⟨_, rfl, ofN_succ i, Iu.ext xv, (Vu.trans xv.ev).le (by omega)⟩
  · rintro ⟨s1, g⟩ ⟨e1, Ig, vg⟩
    obtain rfl := show s1 = _ from e1
    have vg : Ev (2 * min k (rdT n 20)) o.2 g := vg
    exact Ok_e (a := .inr (.inr g)) (if_pos yle) ⟨_, rfl, g, rfl, Ig, vg.le (by omega)⟩
  rintro r ⟨g, rfl, Ig, vg⟩
  have Vg := X1.trans vg
  have szg := Vg.2.1
  simp only [Sum.elim_inr]
  refine Ok_s (mxLoop_up (S := fun r => (Int32.ofNat (fo (fun s i => s + min (itm n i) (stp n k)) 0 r), Int32.ofNat r)) (N := 5) (r := Int32.ofNat (rdN n (stp n k))) (fun r hr => ?_) (if_pos yle) (by decide)) ?_
  · have i20 := itm_20 n r
    simp only [if_neg (n5 hr), Ig.o, lp_items Ig.L Ig.MG hr, bN, mxMin_N (show itm n r < 2147483648 by omega) (show stp n k < 2147483648 by omega), ofN_add, ofN_succ]
    rfl
  simp only [Ig.go, Ig.hO, bN]
  refine Ok_b (k_ok Ig (q_cost Ig.W Ig.S Ig.G k1 k2)) (fun p ⟨p1, Ip, vp⟩ => ?_)
  have Vp := Vg.trans vp
  have szp := Vp.2.1
  simp only [Ip.o, bN]
  refine Ok_b (l_ranking Ip.1 (by omega) s20) (fun u ⟨xu, u1, A2⟩ => ?_)
  have Iu := Ip.ext xu
  have Vu := Vp.trans xu.ev
  have szu := Vu.2.1
  simp only [A2.len, bN]
  rw [p1, Ig.C.1, Ig.C.2, Int32.mul_one, Int32.mul_one, if_pos rfl]
  refine Ok_b (P := fun o => o.1 = 1 ∧ (∃ c' B', LSt o.2 n n c' B' (j + 10)) ∧ Ev 1840 u.2 o.2) ?_ (fun jp ⟨j1, j2, j3⟩ => ?_)
  · by_cases z : stp n k = 0
    · rw [z, if_pos (show Int32.ofNat 0 = 0 from rfl)]
      exact Ok_p ⟨rfl, ⟨_, _, Iu.mono (by omega)⟩, (Ev.refl _).le (by omega)⟩
    · rw [if_neg (fun y => z (ofN_inj (by omega) (by omega) y) : ¬ Int32.ofNat (stp n k) = 0)]
      simp only [Iu.gd, Iu.d, bN]
      refine Ok_b (k_next Iu (show 1 ≤ stp n k by omega) (by omega)) (fun d ⟨⟨x, hx, ex⟩, Id, vd⟩ => ?_)
      rw [ex]
      simp only [Id.o, bN]
      have szd := (Vu.trans vd).2.1
      refine Ok_b (w_isRefuted Id (by omega) k1 k2 hx) (fun a ⟨a1, ⟨c1, B1, Ia⟩, va⟩ => ?_)
      rw [a1, if_neg (show ¬ (1 : Int32) = 0 by decide)]
      simp only [Ia.o, bN, ofN_pred (show 1 ≤ stp n k by omega) (show stp n k < 2147483648 by omega)]
      have sza := ((Vu.trans vd).trans va).2.1
      refine Ok_b (w_isRefuted Ia (by omega) k1 k2 (show stp n k - 1 < stp n k by omega)) (fun b ⟨b1, ⟨c2, B2, Ib⟩, vb⟩ => ?_)
      rw [b1, if_neg (show ¬ (1 : Int32) = 0 by decide)]
      exact Ok_p ⟨rfl, ⟨c2, B2, Ib.mono (by omega)⟩, ((vd.trans va).trans vb).le (by omega)⟩
  · rw [j1]
    simp only [z1_1, bN]
    exact Ok_p ⟨rfl, j2, (Vu.trans j3).le (by omega)⟩
theorem w_isRightToStop (I : LSt h n n c B j) (hb : h.2 + 6000 ≤ 1000000) {k : Nat} (k1 : 1 ≤ k) (k2 : k ≤ 20) : Ok (fL_isRightToStop 0 (Int32.ofNat k) h) (fun o => o.1 = 1 ∧ (∃ c' B', LSt o.2 n n c' B' (j + 10)) ∧ Ev 5000 h o.2) := by
  have s20 := stp_20 n k
  have d20 := dpt_20 n
  have sd := stp_le n k
  unfold fL_isRightToStop
  simp only [I.go, I.hO, bN]
  refine Ok_b (k_ok I (q_stopDepth I.W I.S I.G k1 k2)) (fun o ⟨o1, I1, v1⟩ => ?_)
  have sz1 := v1.2.1
  simp only [I1.o, lp_longest I1.L I1.MG, bN]
  rw [o1, if_neg (fun z => by have := (ofN_lt (show dpt n < 2147483648 by omega) (show stp n k < 2147483648 by omega)).mp z; omega)]
  by_cases q : dpt n ≤ stp n k
  · rw [if_pos ((ofN_le (show dpt n < 2147483648 by omega) (show stp n k < 2147483648 by omega)).mpr q)]
    have := stop_tail I1 (by omega) k1 k2
    simp only [I1.o, bN] at this
    exact Ok_m this (fun p ⟨p1, p2, p3⟩ => ⟨p1, p2, (v1.trans p3).le (by omega)⟩)
  · rw [if_neg (fun z => q ((ofN_le (show dpt n < 2147483648 by omega) (show stp n k < 2147483648 by omega)).mp z))]
    obtain ⟨s1, s2⟩ := stp_at (n := n) (k := k) (by omega)
    refine Ok_b (l_isEnough I1.1 (by omega) k1 k2 s1 s20) (fun u ⟨xu, u1⟩ => ?_)
    have Iu := I1.ext xu
    have Vu := v1.trans xu.ev
    have szu := Vu.2.1
    obtain ⟨e1, e2⟩ := (sur_iff s20 k1).mp s2
    rw [u1, decide_eq_true e1, decide_eq_false e2, show bI (true && !false) = 1 from rfl, if_neg (show ¬ (1 : Int32) = 0 by decide)]
    exact Ok_m (stop_tail Iu (by omega) k1 k2) (fun p ⟨p1, p2, p3⟩ => ⟨p1, p2, (Vu.trans p3).le (by omega)⟩)
end
