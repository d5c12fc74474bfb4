/-! THE PURE SIDE, 46: at a depth ahead of the stop a thing refutes -/
theorem mxLoop_upE {σ ρ : Type} {f : σ → Option (σ ⊕ ρ)} {S : Nat → σ} {N : Nat} {r : ρ} {s0 : σ} (h0 : S 0 = s0) (step : ∀ k, k < N → f (S k) = some (.inl (S (k + 1)))) (last : f (S N) = some (.inr r)) (hN : N < mxF) : mxLoop f mxF s0 = some r := by
  subst h0
  exact mxLoop_up step last hN
section
variable {h : mxH} {n : Nat → Int32} {c j : Nat} {B : Nat → Nat → Int32}
theorem sthi (G : MG n) {r t d : Nat} (hr : r < 5) (ht : t < 20) : (if hs n r t = true ∧ pla n r t = d - 1 then n (20 * r + t) else if thi n r (d - 1) < t then n (20 * r + thi n r (d - 1)) else -1) = if thi n r (d - 1) < t + 1 then n (20 * r + thi n r (d - 1)) else -1 := by
  by_cases q : hs n r t = true ∧ pla n r t = d - 1
  · have e : thi n r (d - 1) = t := by rw [← q.2]; exact thi_of G hr ht q.1
    rw [if_pos q, e, if_pos (by omega)]
  · rw [if_neg q]
    have e : thi n r (d - 1) ≠ t := fun e => by
      have y := (fst1_spec (fun t => hs n r t && (pla n r t == d - 1)) 20).2 (show thi n r (d - 1) < 20 by omega)
      rw [show fst1 (fun t => hs n r t && (pla n r t == d - 1)) 20 = t from e] at y
      simp only [Bool.and_eq_true, beq_iff_eq] at y
      exact q y
    by_cases a : thi n r (d - 1) < t
    · rw [if_pos a, if_pos (by omega)]
    · rw [if_neg a, if_neg (by omega)]
theorem mk_thi (G : MG n) {r d : Nat} (hr : r < 5) : (if thi n r (d - 1) < 20 then n (20 * r + thi n r (d - 1)) else -1) = mkO n r (d - 1) := by
  unfold mkO
  by_cases q : d - 1 < itm n r
  · rw [if_pos q, if_pos (thi_spec G hr q).1]
  · rw [if_neg q, if_neg]
    intro z
    have y := (fst1_spec (fun t => hs n r t && (pla n r t == d - 1)) 20).2 z
    rw [show fst1 (fun t => hs n r t && (pla n r t == d - 1)) 20 = thi n r (d - 1) from rfl] at y
    simp only [Bool.and_eq_true, beq_iff_eq] at y
    have y2 := pla_itm G hr z y.1
    rw [y.2] at y2
    omega
theorem MG_nat (G : MG n) {r t : Nat} (hr : r < 5) (ht : t < 20) (q : hs n r t = true) : ∃ m, m < 100 ∧ n (20 * r + t) = Int32.ofNat m := by
  rcases G (20 * r + t) (by omega) with e | e
  · unfold hs at q
    rw [e] at q
    simp at q
  · exact e
theorem w_isRefuted (I : LSt h n n c B j) (hb : h.2 + 1000 ≤ 1000000) {k d : Nat} (k1 : 1 ≤ k) (k2 : k ≤ 20) (hd : d < stp n k) : Ok (fL_isRefuted 0 (Int32.ofNat k) (Int32.ofNat d) h) (fun o => o.1 = 1 ∧ (∃ c' B', LSt o.2 n n c' B' (j + 5)) ∧ Ev 920 h o.2) := by
  have s20 := stp_20 n k
  have d20 : d < 20 := by omega
  have dN : d < 2147483648 := by omega
  unfold fL_isRefuted
  refine Ok_s (mxLoop_up (S := fun t => (bI (!orT (fun t => !rdAt n t d) t), Int32.ofNat t)) (N := 20) (r := bI (!orT (fun t => !rdAt n t d) 20)) (fun t ht => ?_) (if_pos yle) (by decide)) ?_
  · simp only [if_neg (n20 ht), I.o, lp_isReadAt I.L I.MG ht dN, bN, ofN_succ]
    show _ = some (Sum.inl (bI (!(orT (fun t => !rdAt n t d) t || !rdAt n t d)), Int32.ofNat (t + 1)))
    cases orT (fun t => !rdAt n t d) t <;> cases rdAt n t d <;> simp [bI, Option.bind]
  by_cases all : orT (fun t => !rdAt n t d) 20 = true
  · rw [all]
    obtain ⟨t0, h1, h2⟩ := orT_iff.mp all
    have lu : lun n d < 20 := fst1_found (p := fun t => !rdAt n t d) h1 h2
    have ls := fst1_spec (fun t => !rdAt n t d) 20
    have l1 : ∀ t, t < lun n d → rdAt n t d = true := fun t ht => by simpa using ls.1 t ht
    have l2 : rdAt n (lun n d) d = false := by
      have := ls.2 lu
      rw [show fst1 (fun t => !rdAt n t d) 20 = lun n d from rfl] at this
      simpa using this
    simp only [show bI (!true) = 0 from rfl, if_true, I.go, I.hO, bN]
    refine Ok_b (k_ok I (q_refute I.W I.S I.G k1 k2 (by omega) (by omega) lu)) (fun p ⟨p1, Ip, vp⟩ => ?_)
    rw [p1]
    generalize lun n d = T at l1 l2 lu
    refine Ok_s (a := Sum.inr ()) (mxLoop_up (S := fun t => Int32.ofNat t) (N := T) (r := Sum.inr ()) (fun t ht => ?_) (if_pos yle) (by unfold mxF; omega)) ?_
    · simp only [if_neg (nle ht (by omega)), Ip.o, lp_isReadAt Ip.L Ip.MG (show t < 20 by omega) dN, l1 t ht, bN, bI_t, e10, if_false, ofN_succ]
    simp only [Sum.elim_inr, Ip.o, lp_isReadAt Ip.L Ip.MG lu dN, l2, bI_f, if_true, bN]
    by_cases d0 : d = 0
    · subst d0
      rw [if_pos (show Int32.ofNat 0 = 0 from rfl)]
      simp only [z1_1, bN]
      exact Ok_p ⟨rfl, ⟨_, _, Ip.mono (by omega)⟩, vp.le (by omega)⟩
    rw [if_neg (fun z => d0 (ofN_inj dN (by omega) z) : ¬ Int32.ofNat d = 0)]
    have szp := vp.2.1
    refine Ok_b (l_isEnough Ip.1 (by omega) k1 k2 (show 1 ≤ d by omega) (show d ≤ 20 by omega)) (fun q ⟨xq, q1⟩ => ?_)
    have hE : (decide (k ≤ rdT n d) && !decide (val n (bst n d (k - 1)) < lim n d)) = false := by
      have := stp_below (n := n) (k := k) (d := d) (by omega) hd
      rw [sur_iff (by omega) k1] at this
      by_cases a : k ≤ rdT n d
      · by_cases b : val n (bst n d (k - 1)) < lim n d
        · rw [decide_eq_true b]; simp
        · exact absurd ⟨a, b⟩ this
      · rw [decide_eq_false a]; rfl
    rw [q1, hE]
    have Iq := Ip.ext xq
    have Vq := vp.trans xq.ev
    simp only [bI_f, if_true, Iq.go, Iq.hO, bN]
    refine Ok_b (k_ok Iq (q_limit Iq.W Iq.S Iq.G (show 1 ≤ d by omega) (show d ≤ 20 by omega))) (fun u ⟨u1, Iu, vu⟩ => ?_)
    have Vu := Vq.trans vu
    have szu := Vu.2.1
    simp only [Iu.o, bN]
    refine Ok_b (l_limit Iu.1 (by omega) (show 1 ≤ d by omega) (show d ≤ 20 by omega)) (fun v ⟨v1, xv⟩ => ?_)
    rw [u1, v1, if_pos rfl]
    have Iv := Iu.ext xv
    have Vv := Vu.trans xv.ev
    refine Ok_b (P := fun r => ∃ u c' B' g, r = Sum.inr (Int32.ofNat u, g) ∧ u ≤ 5 ∧ LSt g n (mfn n T d 5) c' B' (j + u) ∧ ST n (mfn n T d 5) u c' B' ∧ Ev 0 v.2 g) (Ok_loopF 6 (fun r s => s.2.1 = Int32.ofNat r ∧ ∃ u c' B', s.1 = Int32.ofNat u ∧ u ≤ r ∧ LSt s.2.2 n (mfn n T d r) c' B' (j + u) ∧ ST n (mfn n T d r) u c' B' ∧ Ev 0 v.2 s.2.2) 5 ⟨rfl, 0, c, B, rfl, Nat.le_refl _, Iv, ST_0, Ev.refl _⟩ ?_ ?_ (by omega)) ?_
    · rintro r ⟨s1, s2, g⟩ hr ⟨e1, u, c', B', e2, hu, Ig, Sg, vg⟩
      obtain rfl := show s2 = _ from e1
      obtain rfl := show s1 = _ from e2
      have Ig : LSt g n (mfn n T d r) c' B' (j + u) := Ig
      have vg : Ev 0 v.2 g := vg
      have mf := (mfn_at (n := n) (d := d) lu r).2 (20 * r + T) (fun i hi => by omega)
      simp only [if_neg (n5 hr)]
      obtain ⟨F, hF⟩ : ∃ F : Nat → Int32, ∀ t, F t = if thi n r (d - 1) < t then n (20 * r + thi n r (d - 1)) else -1 := ⟨_, fun _ => rfl⟩
      have F0 : F 0 = -1 := by rw [hF, if_neg (Nat.not_lt_zero _)]
      have F20 : F 20 = mkO n r (d - 1) := by rw [hF]; exact mk_thi I.MG hr
      have Fs : ∀ t, t < 20 → (if hs n r t = true ∧ pla n r t = d - 1 then n (20 * r + t) else F t) = F (t + 1) := fun t ht => by
        rw [hF, hF]; exact sthi I.MG hr ht
      clear hF
      refine Ok_s (mxLoop_upE (S := fun t => (F t, Int32.ofNat t)) (N := 20) (r := F 20) (by rw [F0]; rfl) (fun t ht => ?_) (if_pos yle) (by decide)) ?_
      · have p20 := pla_20 (n := n) (r := r) ht
        have S1 := Fs t ht
        simp only [if_neg (n20 ht), Ig.gm, l_row Ig.L hr, l_mk Ig.L hr ht, bN, Ig.o, lp_place Ig.L hr ht, ofN_succ, ofN_pred (show 1 ≤ d by omega) dN, ofN_eq (show pla n r t < 2147483648 by omega) (show d - 1 < 2147483648 by omega)]
        by_cases z : n (20 * r + t) < 0
        · rw [if_neg (fun q => by have := MG_hs0 I.MG hr ht z; rw [this] at q; cases q.1)] at S1
          rw [if_pos z, ← S1]; rfl
        · rw [if_neg z]
          by_cases w : pla n r t = d - 1
          · rw [if_pos ⟨MG_hs1 I.MG hr ht z, w⟩] at S1
            rw [if_pos w, ← S1]; rfl
          · rw [if_neg (fun q => w q.2)] at S1
            rw [if_neg w, ← S1]; rfl
      rw [F20]
      by_cases w : d - 1 < itm n r
      · obtain ⟨t1, t2, t3⟩ := thi_spec I.MG hr w
        obtain ⟨mk, m1, m2⟩ := MG_nat I.MG hr t1 t2
        have em : mkO n r (d - 1) = Int32.ofNat mk := by unfold mkO; rw [if_pos w, m2]
        have ef : mfn n T d (r + 1) = fup (mfn n T d r) (20 * r + T) (Int32.ofNat mk) := by rw [mfn_s, em]
        rw [em, ef]
        simp only [if_pos (ofN_0le (show mk < 2147483648 by omega)), Ig.go, Ig.hO, bN]
        refine Ok_b (P := fun o => o.1 = mfn n T d r (20 * r + T) ∧ LSt o.2 n (fup (mfn n T d r) (20 * r + T) (Int32.ofNat mk)) (min (c' + 1) 8) (sav c' B' (mfn n T d r)) (j + u + 1) ∧ Ev 0 g o.2) (Ok_b (k_put Ig hr lu m1) (fun p H => Ok_p H)) (fun o ⟨o1, Io, vo⟩ => ?_)
        simp only [Io.gm, l_row Io.L hr, l_mk Io.L hr lu, bN]
        rw [o1, mf, if_pos rfl]
        exact Ok_p ⟨_, rfl, ofN_succ r, u + 1, _, _, ofN_succ u, by omega, Io, ST_up Sg Ig.H.2.1 (by omega) _, (vg.trans vo).le (by omega)⟩
      · have em : mkO n r (d - 1) = -1 := if_neg w
        have ef : mfn n T d (r + 1) = fup (mfn n T d r) (20 * r + T) (-1) := by rw [mfn_s, em]
        rw [em, ef]
        have n0 : ¬ (0 : Int32) ≤ -1 := by decide
        simp only [if_neg n0, Ig.gm, l_row Ig.L hr, l_mk Ig.L hr lu, bN]
        by_cases z : n (20 * r + T) < 0
        · rw [if_neg (Int32.not_le.mpr z)]
          have ez := (MG_neg I.MG (show 20 * r + T < 100 by omega)).mp z
          have es : fup (mfn n T d r) (20 * r + T) (-1) = mfn n T d r := by
            have := fup_same (mfn n T d r) (20 * r + T)
            rw [mf, ez] at this
            exact this
          rw [es]
          exact Ok_p ⟨_, rfl, ofN_succ r, u, c', B', rfl, by omega, Ig, Sg, vg⟩
        · rw [if_pos (Int32.not_lt.mp z)]
          have q : hs (mfn n T d r) r T = true := by
            have := MG_hs1 I.MG hr lu z
            unfold hs at this ⊢
            rw [mf]; exact this
          simp only [Ig.go, Ig.hO, bN]
          refine Ok_b (P := fun o => o.1 = mfn n T d r (20 * r + T) ∧ LSt o.2 n (fup (mfn n T d r) (20 * r + T) (-1)) (min (c' + 1) 8) (sav c' B' (mfn n T d r)) (j + u + 1) ∧ Ev 0 g o.2) (Ok_b (k_drop Ig hr lu q) (fun p H => Ok_p H)) (fun o ⟨o1, Io, vo⟩ => ?_)
          simp only [Io.gm, l_row Io.L hr, l_mk Io.L hr lu, bN]
          rw [o1, mf, if_pos rfl]
          exact Ok_p ⟨_, rfl, ofN_succ r, u + 1, _, _, ofN_succ u, by omega, Io, ST_up Sg Ig.H.2.1 (by omega) _, (vg.trans vo).le (by omega)⟩
    · rintro ⟨s1, s2, g⟩ ⟨e1, u, c', B', e2, hu, Ig, Sg, vg⟩
      obtain rfl := show s2 = _ from e1
      obtain rfl := show s1 = _ from e2
      exact Ok_e (a := .inr (.inr (Int32.ofNat u, g))) (if_pos yle) ⟨_, rfl, u, c', B', g, rfl, by omega, Ig, Sg, vg⟩
    rintro r' ⟨u, c', B', g, rfl, hu, Ig, Sg, vg⟩
    simp only [Sum.elim_inr, Ig.go, Ig.hO, bN]
    refine Ok_b (k_ok Ig (q_value Ig.W Ig.S Ig.G lu)) (fun y ⟨y1, Iy, vy⟩ => ?_)
    rw [mfn_val I.MG lu (by omega)] at y1
    have Vy := (Vv.trans vg).trans vy
    refine Ok_b (P := fun r => ∃ c2 B2 g2, r = Sum.inr g2 ∧ LSt g2 n n c2 B2 (j + u) ∧ Ev 0 y.2 g2) (Ok_loop (fun i s => s.1 = Int32.ofNat i ∧ ∃ m2 c2 B2, LSt s.2 n m2 c2 B2 (j + u) ∧ ST n m2 (u - i) c2 B2 ∧ Ev 0 y.2 s.2) u ⟨rfl, _, _, _, Iy, Sg, Ev.refl _⟩ ?_ ?_ (by unfold mxF; omega)) ?_
    · rintro i ⟨s1, g2⟩ hi ⟨e1, m2, c2, B2, I2, S2, v2⟩
      obtain rfl := show s1 = _ from e1
      have I2 : LSt g2 n m2 c2 B2 (j + u) := I2
      have v2 : Ev 0 y.2 g2 := v2
      simp only [if_neg (nle hi (by omega)), I2.go, I2.hO, bN]
      obtain ⟨c0, S3⟩ := ST_dn (u := u - i - 1) (by rw [show u - i - 1 + 1 = u - i by omega]; exact S2)
      refine Ok_b (k_undo I2 c0) (fun o ⟨o1, Io, vo⟩ => ?_)
      rw [o1, if_pos (ofN_0le (by have := I2.H.2.1; omega))]
      exact Ok_p ⟨_, rfl, ofN_succ i, _, _, _, Io, by rw [show u - (i + 1) = u - i - 1 by omega]; exact S3, (v2.trans vo).le (by omega)⟩
    · rintro ⟨s1, g2⟩ ⟨e1, m2, c2, B2, I2, S2, v2⟩
      obtain rfl := show s1 = _ from e1
      rw [Nat.sub_self] at S2
      obtain rfl := ST_z S2
      exact Ok_e (a := .inr (.inr g2)) (if_pos yle) ⟨_, rfl, c2, B2, g2, rfl, I2, v2⟩
    rintro r' ⟨c2, B2, g2, rfl, I2, v2⟩
    simp only [Sum.elim_inr, I2.o, bN]
    have V2 := Vy.trans v2
    have sz2 := V2.2.1
    refine Ok_b (l_limit I2.1 (by omega) (show 1 ≤ d by omega) (show d ≤ 20 by omega)) (fun w ⟨w1, xw⟩ => ?_)
    have Iw := I2.ext xw
    have Vw := V2.trans xw.ev
    rw [y1, w1, if_pos rfl]
    simp only [Iw.go, Iw.hO, bN]
    refine Ok_b (P := fun o => o.1 = 1 ∧ LSt o.2 n n c2 B2 (j + u) ∧ Ev 1 w.2 o.2) (Ok_b (k_ok Iw (q_value Iw.W Iw.S Iw.G lu)) (fun a ⟨a1, Ia, va⟩ => ?_)) (fun jp ⟨j1, j2, j3⟩ => ?_)
    · simp only [Ia.o, bN]
      have sza := (Vw.trans va).2.1
      refine Ok_b (l_value Ia.1 (by omega) lu) (fun b ⟨b1, xb⟩ => ?_)
      rw [a1, b1, if_pos rfl]
      exact Ok_p ⟨rfl, Ia.ext xb, (va.trans xb.ev).le (by omega)⟩
    · rw [j1]
      simp only [z1_1, bN]
      exact Ok_p ⟨rfl, ⟨c2, B2, j2.mono (by omega)⟩, (Vw.trans j3).le (by omega)⟩
  · rw [bF all]
    simp only [show bI (!false) = 1 from rfl, e10, if_false, z1_1, bN]
    exact Ok_p ⟨rfl, ⟨c, B, I.mono (by omega)⟩, (Ev.refl h).le (by omega)⟩
end
