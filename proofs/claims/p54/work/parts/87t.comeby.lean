/-! THE PURE SIDE, 60: the law lets numbers come by -/
section
variable {h : mxH} {n : Nat → Int32} {c j : Nat} {B : Nat → Nat → Int32}
theorem w_comeBy (I : LSt h n n c B j) (T : TG n) (hb : h.2 + 100 ≤ 1000000) (hj : j < 50000) : Ok (fL_comeBy 0 h) (fun o => o.1 = 1 ∧ (∃ m c' B' j', LSt o.2 n m c' B' j') ∧ Ev 10 h o.2) := by
  have l1 := I.L.1
  unfold fL_comeBy
  simp only [I.gd, I.d, bN]
  refine Ok_b (show Ok (fX10_next 1 10 h) _ from k_next I (N := 10) (by omega) (by omega)) (fun o1 ⟨⟨x1, hx1, e1⟩, I1, v1⟩ => ?_)
  rw [e1, one_add]
  simp only [I1.gd, I1.d, bN]
  refine Ok_b (show Ok (fX10_next 1 4 o1.2) _ from k_next I1 (N := 4) (by omega) (by omega)) (fun o2 ⟨⟨x2, hx2, e2⟩, I2, v2⟩ => ?_)
  rw [e2, one_add]
  generalize hw : x1 + 1 = w
  generalize hmm : x2 + 1 = mm
  have w1 : 1 ≤ w := by omega
  have w10 : w ≤ 10 := by omega
  have m1 : 1 ≤ mm := by omega
  have m4 : mm ≤ 4 := by omega
  have wN' : w < 2147483648 := by omega
  have V2 := v1.trans v2
  simp only [I2.go, I2.hO, bN]
  refine Ok_b (k_setWindow I2 w1 w10 m1 m4) (fun o3 ⟨e3, I3, v3⟩ => ?_)
  rw [e3, T.2, if_pos rfl]
  have V3 := V2.trans v3
  simp only [I3.gd, I3.d, bN]
  refine Ok_b (show Ok (fX10_next 1 26 o3.2) _ from k_next I3 (N := 26) (by omega) (by omega)) (fun o4 ⟨⟨M, hM, e4⟩, I4, v4⟩ => ?_)
  rw [e4]
  simp only [I4.gd, I4.d, bN]
  refine Ok_b (show Ok (fX10_next 1 7 o4.2) _ from k_next I4 (N := 7) (by omega) (by omega)) (fun o5 ⟨⟨z, hz, e5⟩, I5, v5⟩ => ?_)
  rw [e5, show (2 : Int32) + Int32.ofNat z = Int32.ofNat (2 + z) from ofN_add 2 z]
  generalize hsz : 2 + z = sz
  have sz8 : sz < 9 := by omega
  have sz1 : 1 ≤ sz := by omega
  have V5 := (V3.trans v4).trans v5
  have size5 := V5.2.1
  have hh5 := V5.1
  have MN : M < 2147483648 := by omega
  obtain ⟨w6, A6⟩ := nwV_at I5.FR (m := M) (B := 25) (by omega) (by omega)
  refine Ok_s w6 ?_
  have I6 : LSt (mxNew o5.2 (100, List.replicate M 0, [])) n (bgn n (Int32.ofNat w) (Int32.ofNat mm)) (min (c + 1) 8) (sav c B n) (j + 1) := I5.ext Ext.new
  have V6 : Ev 1 h (mxNew o5.2 (100, List.replicate M 0, [])) := (V5.trans Ext.new.ev).le (by omega)
  generalize mxNew o5.2 (100, List.replicate M 0, []) = g6 at A6 I6 V6
  generalize ha : o5.2.2 = a at A6 hh5 size5
  have a337 : 337 ≤ a := by omega
  refine Ok_b (P := fun r => ∃ g m c B xs, r = Sum.inr g ∧ LSt g n m c B (j + 1 + M) ∧ PI m xs M w mm sz ∧ AT g a M (fun i => Int32.ofNat (xs i)) ∧ (∀ i, i < M → xs i < sz) ∧ Ev 1 h g) (Ok_loopF 27 (fun k s => s.1 = Int32.ofNat k ∧ ∃ m c B xs f, LSt s.2 n m c B (j + 1 + k) ∧ PI m xs k w mm sz ∧ AT s.2 a M f ∧ (∀ i, i < k → f i = Int32.ofNat (xs i)) ∧ (∀ i, i < k → xs i < sz) ∧ Ev 1 h s.2) M ⟨rfl, _, _, _, fun _ => 0, _, I6, PI_0 m4, A6, fun i hi => absurd hi (Nat.not_lt_zero _), fun i hi => absurd hi (Nat.not_lt_zero _), V6⟩ ?_ ?_ (by omega)) ?_
  · rintro k ⟨s1, g⟩ hk ⟨e1, m, c', B', xs, f, Ig, P, Af, hf, hxs, vg⟩
    obtain rfl := show s1 = _ from e1
    have Ig : LSt g n m c' B' (j + 1 + k) := Ig
    have Af : AT g a M f := Af
    have vg : Ev 1 h g := vg
    simp only [if_neg (nle hk MN), Ig.gd, Ig.d, bN]
    refine Ok_b (k_next Ig sz1 (by omega)) (fun o ⟨⟨x, hx, ex⟩, Io, vo⟩ => ?_)
    rw [ex]
    obtain ⟨w1', Iw, Aw⟩ := k_arr (x := Int32.ofNat x) Io a337 (Af.ev a337 vo) hk
    rw [w1']
    have vw : Ev 1 h (sA o.2 a k (Int32.ofNat x)) := ((vg.trans vo).le (show 1 + 0 ≤ 1 by omega)).up (by omega)
    generalize sA o.2 a k (Int32.ofNat x) = g2 at Iw Aw vw
    simp only [Iw.go, Aw.ld hk (by omega), fup_eq, Iw.hO, bN]
    refine Ok_b (k_push Iw (x := x) (by omega) (by omega)) (fun p ⟨p1, Ip, vp⟩ => ?_)
    have Ap := Aw.ev a337 vp
    obtain ⟨ys, ys1, ys2⟩ : ∃ ys : Nat → Nat, ys k = x ∧ ∀ i, i ≠ k → ys i = xs i := ⟨fun i => if i = k then x else xs i, if_pos rfl, fun i e => if_neg e⟩
    have Py : PI m ys k w mm sz := P.congr (fun i hi => (ys2 i (by omega)).symm)
    have Ps := PI_s Py Iw.G.2.2 ys1 hx (by omega) (by omega) m4
    have hfy : ∀ i, i < k + 1 → fup f k (Int32.ofNat x) i = Int32.ofNat (ys i) := fun i hi => by
      by_cases e : i = k
      · rw [e, fup_eq, ys1]
      · rw [fup_ne e, ys2 i e]; exact hf i (by omega)
    refine Ok_b (P := fun v => v = lve m) ?_ (fun v ev => ?_)
    · rw [PI_lve Py w1 w10 (by omega)]
      by_cases q : w ≤ k
      · rw [if_pos ((ofN_le wN' (by omega)).mpr q), if_pos q, sub_N q (by omega)]
        simp only [Ap.ld (show k - w < M by omega) (by omega), bN]
        exact Ok_p (hfy _ (by omega))
      · rw [if_neg (fun y => q ((ofN_le wN' (by omega)).mp y)), if_neg q]
        exact Ok_p rfl
    rw [p1, ev, if_pos rfl]
    exact Ok_p ⟨_, rfl, ofN_succ k, _, _, _, ys, _, Ip, Ps, Ap, hfy, fun i hi => by
      by_cases e : i = k
      · rw [e, ys1]; exact hx
      · rw [ys2 i e]; exact hxs i (by omega), (vw.trans vp).le (by omega)⟩
  · rintro ⟨s1, g⟩ ⟨e1, m, c', B', xs, f, Ig, P, Af, hf, hxs, vg⟩
    obtain rfl := show s1 = _ from e1
    exact Ok_e (a := .inr (.inr g)) (if_pos yle) ⟨_, rfl, g, m, c', B', xs, rfl, Ig, P, AT.congr Af hf, hxs, vg⟩
  rintro r ⟨g7, m, c7, B7, xs, rfl, I7, P7, A7, hxs, V7⟩
  have size7 := V7.2.1
  have hL := PI_inw P7 w10 (show M < 1000 by omega)
  simp only [Sum.elim_inr, mxMin_N MN wN']
  generalize hLL : min M w = L at hL
  have LM : L ≤ M := by omega
  have L10 : L ≤ 10 := by omega
  obtain ⟨w8, A8⟩ := nwV_at I7.FR (m := L) (B := 25) (by omega) (by omega)
  refine Ok_s w8 ?_
  have ag := A7.1
  have I8 : LSt (mxNew g7 (100, List.replicate L 0, [])) n m c7 B7 (j + 1 + M) := I7.ext Ext.new
  have V8 : Ev 2 h (mxNew g7 (100, List.replicate L 0, [])) := V7.trans Ext.new.ev
  have A78 : AT (mxNew g7 (100, List.replicate L 0, [])) a M (fun i => Int32.ofNat (xs i)) := A7.ext Ext.new
  generalize mxNew g7 (100, List.replicate L 0, []) = g8 at A8 I8 V8 A78
  generalize hp : g7.2 = p at A8 ag size7
  have pa : p ≠ a := by omega
  refine Ok_b (P := fun g => LSt g n m c7 B7 (j + 1 + M) ∧ Ev 2 h g ∧ AT g a M (fun i => Int32.ofNat (xs i)) ∧ AT g p L (fun i => Int32.ofNat (xs (M - 1 - i)))) (Ok_loop (fun k s => s.1 = Int32.ofNat k ∧ LSt s.2 n m c7 B7 (j + 1 + M) ∧ Ev 2 h s.2 ∧ AT s.2 a M (fun i => Int32.ofNat (xs i)) ∧ ∃ f, AT s.2 p L f ∧ ∀ i, i < k → f i = Int32.ofNat (xs (M - 1 - i))) L ⟨rfl, I8, V8, A78, _, A8, fun i hi => absurd hi (Nat.not_lt_zero _)⟩ ?_ ?_ (by unfold mxF; omega)) ?_
  · rintro k ⟨s1, g⟩ hk ⟨e1, Ig, vg, Ag, f, Af, hf⟩
    obtain rfl := show s1 = _ from e1
    have Ig : LSt g n m c7 B7 (j + 1 + M) := Ig
    have vg : Ev 2 h g := vg
    have Ag : AT g a M (fun i => Int32.ofNat (xs i)) := Ag
    have Af : AT g p L f := Af
    have ei : (Int32.ofNat M - 1) - Int32.ofNat k = Int32.ofNat (M - 1 - k) := by rw [ofN_pred (by omega) MN, sub_N (by omega) (by omega)]
    obtain ⟨w1', Iw, Aw⟩ := k_arr (x := Int32.ofNat (xs (M - 1 - k))) Ig (show 337 ≤ p by omega) Af hk
    simp only [Af.len, bN, if_neg (nle hk (by omega)), ei, Ag.ld (show M - 1 - k < M by omega) (by omega), w1']
    refine Ok_p ⟨_, rfl, ofN_succ k, Iw, vg.up (by omega), Ag.sA (fun z => pa z.symm), _, Aw, fun i hi => ?_⟩
    by_cases e : i = k
    · rw [e, fup_eq]
    · rw [fup_ne e]; exact hf i (by omega)
  · rintro ⟨s1, g⟩ ⟨e1, Ig, vg, Ag, f, Af, hf⟩
    obtain rfl := show s1 = _ from e1
    have Af : AT g p L f := Af
    simp only [Af.len, bN]
    rw [if_pos yle]
    exact Ok_p ⟨g, rfl, Ig, vg, Ag, AT.congr Af hf⟩
  rintro g9 ⟨I9, V9, A9, B9⟩
  have size9 := V9.2.1
  refine Ok_b (l_sort I9.FR (by omega) (show 337 ≤ p by omega) B9 (Or.inl (by omega))) (fun g10 ⟨x10, f, B10, Pf, Sf⟩ => ?_)
  have I10 := I9.sx x10 (show 337 ≤ p by omega)
  have V10 := x10.ev V9 (show h.2 ≤ p by omega)
  have A10 : AT g10 a M (fun i => Int32.ofNat (xs i)) := x10.at A9 (fun z => pa z.symm)
  have Pm : Prm L (fun i => m (211 + i)) f := (Pf.symm.congr (fun i hi => by
    show Int32.ofNat (xs (M - 1 - i)) = m (211 + i)
    exact (P7.2.1 i (by omega) (by omega)).symm)).symm
  obtain ⟨sw1, sw2⟩ := sorted_window I10.G.2.2 hL Pm Sf
  refine Ok_b (P := fun r => ∃ g, r = Sum.inr (Int32.ofNat (unl m), g) ∧ LSt g n m c7 B7 (j + 1 + M) ∧ Ev 3 h g ∧ AT g a M (fun i => Int32.ofNat (xs i)) ∧ AT g p L f) (Ok_loopF 12 (fun k s => s.2.1 = Int32.ofNat k ∧ s.1 = Int32.ofNat (cnt (fun k => k == 0 || !decide (f k = f (k - 1))) k) ∧ LSt s.2.2 n m c7 B7 (j + 1 + M) ∧ Ev 3 h s.2.2 ∧ AT s.2.2 a M (fun i => Int32.ofNat (xs i)) ∧ AT s.2.2 p L f) L ⟨rfl, rfl, I10, V10, A10, B10⟩ ?_ ?_ (by omega)) ?_
  · rintro k ⟨s1, s2, g⟩ hk ⟨e1, e2, Ig, vg, Ag, Bg⟩
    obtain rfl := show s2 = _ from e1
    obtain rfl := show s1 = _ from e2
    have Ig : LSt g n m c7 B7 (j + 1 + M) := Ig
    have vg : Ev 3 h g := vg
    have Ag : AT g a M (fun i => Int32.ofNat (xs i)) := Ag
    have Bg : AT g p L f := Bg
    simp only [Bg.len, bN, if_neg (nle hk (by omega)), Ig.go, Ig.hO]
    refine Ok_b (k_ok Ig (q_windowAt Ig.W Ig.S Ig.G (show k < inw m by omega) (by rw [hL]; exact (sw1 k hk).1))) (fun o ⟨oe, Io, vo⟩ => ?_)
    have Ao := Ag.ev a337 vo
    have Bo := Bg.ev (show 337 ≤ p by omega) vo
    have ei : (Int32.ofNat L - 1) - Int32.ofNat k = Int32.ofNat (L - 1 - k) := by rw [ofN_pred (by omega) (by omega), sub_N (by omega) (by omega)]
    simp only [Bo.len, bN, ei, Bo.ld (show L - 1 - k < L by omega) (by omega)]
    rw [oe, (sw1 k hk).2, if_pos rfl]
    refine Ok_b (P := fun z => z = Int32.ofNat (if (k == 0 || !decide (f k = f (k - 1))) = true then 1 else 0)) ?_ (fun z ez => ?_)
    · by_cases q : k = 0
      · subst q
        rw [if_pos (show Int32.ofNat 0 = 0 from rfl)]
        exact Ok_p rfl
      · rw [if_neg (fun y => q (ofN_inj (by omega) (by omega) y) : ¬ Int32.ofNat k = 0)]
        simp only [ofN_pred (show 1 ≤ k by omega) (show k < 2147483648 by omega), Bo.ld hk (by omega), Bo.ld (show k - 1 < L by omega) (by omega), bN]
        have h0 : (k == 0) = false := by simpa using q
        rw [h0, Bool.false_or]
        by_cases y : f k = f (k - 1)
        · rw [if_pos y, decide_eq_true y]; exact Ok_p rfl
        · rw [if_neg y, decide_eq_false y]; exact Ok_p rfl
    rw [ez, ofN_add]
    exact Ok_p ⟨_, rfl, ofN_succ k, rfl, Io, (vg.trans vo).le (by omega), Ao, Bo⟩
  · rintro ⟨s1, s2, g⟩ ⟨e1, e2, Ig, vg, Ag, Bg⟩
    obtain rfl := show s2 = _ from e1
    obtain rfl := show s1 = _ from e2
    have Bg : AT g p L f := Bg
    simp only [Bg.len, bN]
    rw [if_pos yle]
    exact Ok_p ⟨_, rfl, g, by rw [sw2], Ig, vg, Ag, Bg⟩
  rintro r ⟨g11, rfl, I11, V11, A11, B11⟩
  simp only [Sum.elim_inr, I11.go, I11.hO, q_windowSize I11.W I11.S, B11.len, hL, q_unlike I11.W I11.S I11.G, bN, if_true]
  obtain ⟨cv, b, b1, b2, b3, b4, b5, b6⟩ := PI_end P7 I11.G.2.2 m4 (by omega) (by omega)
  have cvk : ∀ v, v < sz → cv v ≤ M := fun v hv => by have := (b3 v hv).1; have := cnt_le (fun i => decide (xs i = v)) M; unfold CB at *; omega
  refine Ok_b (P := fun r => ∃ g, r = Sum.inr (Int32.ofNat (sumN cv sz), Int32.ofNat (cnt (fun v => decide (0 < cv v)) sz), g) ∧ LSt g n m c7 B7 (j + 1 + M) ∧ Ev 3 h g) (Ok_loopF 9 (fun v s => s.2.2.1 = Int32.ofNat v ∧ s.1 = Int32.ofNat (sumN cv v) ∧ s.2.1 = Int32.ofNat (cnt (fun v => decide (0 < cv v)) v) ∧ LSt s.2.2.2 n m c7 B7 (j + 1 + M) ∧ Ev 3 h s.2.2.2 ∧ AT s.2.2.2 a M (fun i => Int32.ofNat (xs i))) sz ⟨rfl, rfl, rfl, I11, V11, A11⟩ ?_ ?_ (by omega)) ?_
  · rintro v ⟨s1, s2, s3, g⟩ hv ⟨e1, e2, e3, Ig, vg, Ag⟩
    obtain rfl := show s3 = _ from e1
    obtain rfl := show s1 = _ from e2
    obtain rfl := show s2 = _ from e3
    have Ig : LSt g n m c7 B7 (j + 1 + M) := Ig
    have vg : Ev 3 h g := vg
    have Ag : AT g a M (fun i => Int32.ofNat (xs i)) := Ag
    obtain ⟨k1, k2⟩ := b3 v hv
    have cM : CB xs M v ≤ M := cnt_le _ _
    simp only [if_neg (nle hv (by omega)), Ag.len, bN]
    refine Ok_s (mxLoop_up (S := fun i => (Int32.ofNat (CB xs i v), Int32.ofNat i)) (N := M) (r := Int32.ofNat (CB xs M v)) (fun i hi => ?_) (if_pos yle) (by unfold mxF; omega)) ?_
    · have xi := hxs i hi
      simp only [if_neg (nle hi MN), Ag.ld hi (by omega), bN, ofN_succ]
      show _ = some (Sum.inl (Int32.ofNat (CB xs (i + 1) v), Int32.ofNat (i + 1)))
      rw [CB_s]
      by_cases y : xs i = v
      · rw [if_pos (by rw [y]), if_pos y]; simp only [bN, ofN_succ]
      · rw [if_neg (fun z => y (ofN_inj (by omega) (by omega) z)), if_neg y]; simp only [bN, Int32.add_zero, Nat.add_zero]
    simp only [Ig.go, Ig.hO, bN]
    refine Ok_b (k_ok Ig (q_counted Ig.W Ig.S Ig.G (in99_mk (show v < 100 by omega)))) (fun o ⟨oe, Io, vo⟩ => ?_)
    rw [b2 v hv] at oe
    simp only [Io.go, Io.hO, bN]
    refine Ok_b (k_ok Io (q_came Io.W Io.S Io.G (show v < 100 by omega))) (fun q ⟨qe, Iq, vq⟩ => ?_)
    rw [qe, P7.2.2.1 v (by omega), if_pos rfl, oe, if_neg (fun y => by have := (ofN_lt (show CB xs M v < 2147483648 by omega) (show cv v < 2147483648 by omega)).mp y; omega)]
    simp only [Iq.go, Iq.hO, q_bound Iq.W Iq.S, b1, bN, ofN_add]
    rw [if_pos ((ofN_le (show CB xs M v < 2147483648 by omega) (show cv v + b < 2147483648 by omega)).mpr k2)]
    refine Ok_b (P := fun z => z = Int32.ofNat (if decide (0 < cv v) = true then 1 else 0)) ?_ (fun z ez => ?_)
    · have := cvk v hv
      by_cases y : 0 < cv v
      · rw [if_neg (show ¬ Int32.ofNat (cv v) ≤ 0 from nle (b := 0) y (by omega)), decide_eq_true y]; exact Ok_p rfl
      · rw [if_pos (show Int32.ofNat (cv v) ≤ 0 from (ofN_le (b := 0) (by omega) (by omega)).mpr (by omega)), decide_eq_false y]; exact Ok_p rfl
    rw [ez, ofN_add]
    exact Ok_p ⟨_, rfl, ofN_succ v, rfl, rfl, Iq, ((vg.trans vo).trans vq).le (by omega), (Ag.ev a337 vo).ev a337 vq⟩
  · rintro ⟨s1, s2, s3, g⟩ ⟨e1, e2, e3, Ig, vg, Ag⟩
    obtain rfl := show s3 = _ from e1
    obtain rfl := show s1 = _ from e2
    obtain rfl := show s2 = _ from e3
    exact Ok_e (a := .inr (.inr (Int32.ofNat (sumN cv sz), Int32.ofNat (cnt (fun v => decide (0 < cv v)) sz), g))) (if_pos yle) ⟨_, rfl, g, rfl, Ig, vg⟩
  rintro r ⟨g, rfl, Ig, vg⟩
  simp only [Sum.elim_inr]
  have cs := cnt_le (fun v => decide (0 < cv v)) sz
  rw [if_neg (fun y => by have := (ofN_lt (show mm < 2147483648 by omega) (show cnt (fun v => decide (0 < cv v)) sz < 2147483648 by omega)).mp y; omega)]
  simp only [Ig.go, Ig.hO, q_bound Ig.W Ig.S, b1, bN, ofN_succ, ofN_mul, ofN_add]
  rw [b4, if_pos rfl]
  simp only [bN, z1_1]
  exact Ok_p ⟨rfl, ⟨m, c7, B7, _, Ig⟩, vg.le (by omega)⟩
end
