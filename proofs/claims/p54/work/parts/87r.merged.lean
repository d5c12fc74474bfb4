/-! THE PURE SIDE, 58: the law asks for merged rows -/
section
variable {n : Nat → Int32}
theorem cmpv_comm (a b : Nat) : cmpv n a b = cmpv n b a := by
  have e : cpE n a b = cpE n b a := by
    unfold cpE
    exact fst1_congr (fun p hp => Bool.or_comm _ _)
  unfold cmpv
  rw [e, Nat.add_comm]
theorem k_cmp {h : mxH} (G : MG n) {x y M N : Nat} (A : AT h x (cnt (mQ n M) 100) (fun i => ky n (nrL (bef n) (mQ n M) 100 i))) (B : AT h y (cnt (mQ n N) 100) (fun i => ky n (nrL (bef n) (mQ n N) 100 i))) (dj : ∀ i, i < 5 → M.testBit i = true → N.testBit i = false) : fL_compared x y h = some (Int32.ofNat (cmpv n M N)) := by
  rw [l_compared G A B (fun g hg q => ?_) (fun g hg q => ?_) (fun g hg q => ?_), cmp_eq dj]
  · unfold mQ at q; simp only [Bool.and_eq_true] at q; exact q.1
  · unfold mQ at q; simp only [Bool.and_eq_true] at q; exact q.1
  · unfold mQ inM at q ⊢
    simp only [Bool.and_eq_true] at q
    rw [dj (g / 20) (by omega) q.2]; simp
theorem rem5 {a x : Nat} (ha : a < 5) (hx : x < 4) : ((Int32.ofNat a + 1) + Int32.ofNat x) - ((Int32.ofNat a + 1) + Int32.ofNat x) / 5 * 5 = Int32.ofNat ((a + 1 + x) % 5) := by
  rw [ofN_succ, ofN_add, show (5 : Int32) = Int32.ofNat 5 from rfl, div_N (show a + 1 + x < 2147483648 by omega) (by omega) (by omega), ofN_mul, sub_N (Nat.div_mul_le_self _ _) (show a + 1 + x < 2147483648 by omega), modsub]
theorem bits31 : ∀ i, i < 5 → (31 : Nat).testBit i = true := by decide
theorem djs : (∀ i, i < 5 → (1 : Nat).testBit i = true → (2 : Nat).testBit i = false) ∧ (∀ i, i < 5 → (4 : Nat).testBit i = true → (8 : Nat).testBit i = false) ∧ (∀ i, i < 5 → (3 : Nat).testBit i = true → (12 : Nat).testBit i = false) ∧ (∀ i, i < 5 → (15 : Nat).testBit i = true → (16 : Nat).testBit i = false) := by decide
end
section
variable {h : mxH} {n : Nat → Int32} {c j : Nat} {B : Nat → Nat → Int32}
theorem w_areMerged (I : LSt h n n c B j) (T : TG n) (hb : h.2 + 200 ≤ 1000000) : Ok (fL_areMerged 0 h) (fun o => o.1 = 1 ∧ LSt o.2 n n c B j ∧ Ev 60 h o.2) := by
  have l1 := I.L.1
  have m100 := mcn_100 n
  have a31 : ∀ g, g < 100 → mQ n 31 g = hsG n g := fun g hg => by
    unfold mQ inM
    rw [bits31 (g / 20) (by omega), Bool.and_true]
  have e31 : cnt (mQ n 31) 100 = mcn n := cnt_congr a31
  have r31 : ∀ t, rkL (bef n) (mQ n 31) 100 t = rkL (bef n) (hsG n) 100 t := fun t => rkL_congr (fun s hs => by rw [a31 s hs])
  have n31 : ∀ i, nrL (bef n) (mQ n 31) 100 i = mnr n i := fun i => by
    show fst1 (fun t => mQ n 31 t && (rkL (bef n) (mQ n 31) 100 t == i)) 100 = fst1 (fun t => hsG n t && (rkL (bef n) (hsG n) 100 t == i)) 100
    refine fst1_congr (fun t ht => ?_)
    rw [a31 t ht, r31 t]
  unfold fL_areMerged
  simp only [I.o, bN]
  refine Ok_b (show Ok (fL_keys 0 31 h) _ from w_keys I T (by omega) (M := 31) (by omega)) (fun o1 ⟨I1, v1, s1, A1⟩ => ?_)
  rw [e31] at A1
  have A1 : AT o1.2 o1.1 (mcn n) (fun i => ky n (mnr n i)) := AT.congr A1 (fun i hi => by rw [n31])
  have sz1 := v1.2.1
  simp only [I1.go, I1.hO, q_mergedCount I1.W I1.S, rdN_mcn, A1.len, bN, if_true]
  refine Ok_b (P := fun r => ∃ g, r = Sum.inr g ∧ LSt g n n c B j ∧ Ev 0 o1.2 g) (Ok_loopF 101 (fun k s => s.1 = Int32.ofNat k ∧ LSt s.2 n n c B j ∧ Ev 0 o1.2 s.2) (mcn n) ⟨rfl, I1, Ev.refl _⟩ ?_ ?_ (by omega)) ?_
  · rintro k ⟨x1, g⟩ hk ⟨e1, Ig, vg⟩
    obtain rfl := show x1 = _ from e1
    have Ig : LSt g n n c B j := Ig
    have vg : Ev 0 o1.2 g := vg
    have Ag := A1.ev (by omega) vg
    obtain ⟨g1, g2⟩ := mnr_spec hk
    simp only [Ag.len, bN, if_neg (nle hk (by omega)), Ig.go, Ig.hO]
    refine Ok_b (k_ok Ig (q_mergedThing Ig.W Ig.S Ig.G hk)) (fun p ⟨p1, Ip, vp⟩ => ?_)
    have Ap := Ag.ev (by omega) vp
    simp only [Ap.ld hk (by omega), bN]
    rw [p1, ky_thing g1, if_pos rfl]
    simp only [Ip.go, Ip.hO, bN]
    refine Ok_b (k_ok Ip (q_mergedRow Ip.W Ip.S Ip.G hk)) (fun q ⟨q1, Iq, vq⟩ => ?_)
    have Aq := Ap.ev (by omega) vq
    simp only [Aq.ld hk (by omega), bN]
    rw [q1, ky_row g1, if_pos rfl]
    exact Ok_p ⟨_, rfl, ofN_succ k, Iq, ((vg.trans vp).trans vq).le (by omega)⟩
  · rintro ⟨x1, g⟩ ⟨e1, Ig, vg⟩
    obtain rfl := show x1 = _ from e1
    have vg : Ev 0 o1.2 g := vg
    have Ag := A1.ev (by omega) vg
    simp only [Ag.len, bN]
    rw [if_pos yle]
    exact Ok_p ⟨_, rfl, _, rfl, Ig, vg⟩
  rintro r ⟨g, rfl, Ig, vg⟩
  have Ag := A1.ev (by omega) vg
  have Vg := v1.trans vg
  simp only [Sum.elim_inr, Ig.gd, Ig.d, bN]
  refine Ok_b (show Ok (fX10_next 1 5 g) _ from k_next Ig (N := 5) (by omega) (by omega)) (fun o2 ⟨⟨a, ha, ea⟩, I2, v2⟩ => ?_)
  rw [ea]
  simp only [I2.gd, I2.d, bN]
  refine Ok_b (show Ok (fX10_next 1 4 o2.2) _ from k_next I2 (N := 4) (by omega) (by omega)) (fun o3 ⟨⟨x, hx, ex⟩, I3, v3⟩ => ?_)
  rw [ex, rem5 ha hx]
  generalize hbb : (a + 1 + x) % 5 = b
  have hb5 : b < 5 := by omega
  have hab : a ≠ b := by omega
  have V3 := (Vg.trans v2).trans v3
  have A3 := (Ag.ev (by omega) v2).ev (by omega) v3
  have ba : 1 <<< a < 32 := (show ∀ i, i < 5 → 1 <<< i < 32 by decide) a ha
  have bb : 1 <<< b < 32 := (show ∀ i, i < 5 → 1 <<< i < 32 by decide) b hb5
  have djab : ∀ i, i < 5 → (1 <<< a).testBit i = true → (1 <<< b).testBit i = false := fun t ht z => by
    rw [bit5 a ha t ht] at z; rw [bit5 b hb5 t ht]; simp only [beq_iff_eq] at z; simpa using (show t ≠ b by omega)
  rw [(sh6 a (by omega)).1, (sh6 b (by omega)).1]
  simp only [I3.go, I3.hO, bN]
  refine Ok_b (k_ok I3 (q_comparisons I3.W I3.S I3.G ha hb5 hab)) (fun o4 ⟨e4, I4, v4⟩ => ?_)
  have V4 := V3.trans v4
  have A4 := A3.ev (by omega) v4
  have sz4 := V4.2.1
  have hs4 := V4.1
  simp only [I4.o, bN]
  refine Ok_b (w_keys I4 T (by omega) ba) (fun o5 ⟨I5, v5, s5, K5⟩ => ?_)
  simp only [I5.o, bN]
  have sz5 := v5.2.1
  refine Ok_b (w_keys I5 T (by omega) bb) (fun o6 ⟨I6, v6, s6, K6⟩ => ?_)
  have V6 := (V4.trans v5).trans v6
  have A6 := (A4.ev (by omega) v5).ev (by omega) v6
  have sz6 := V6.2.1
  have hs6 := V6.1
  simp only [k_cmp I.MG (K5.ev (by omega) v6) K6 djab, bN]
  rw [e4, if_pos rfl]
  simp only [I6.go, I6.hO, bN]
  refine Ok_b (k_ok I6 (q_comparisons I6.W I6.S I6.G hb5 ha (fun z => hab z.symm))) (fun o7 ⟨e7, I7, v7⟩ => ?_)
  simp only [I7.go, I7.hO, bN]
  refine Ok_b (k_ok I7 (q_comparisons I7.W I7.S I7.G ha hb5 hab)) (fun o8 ⟨e8, I8, v8⟩ => ?_)
  rw [e7, e8, cmpv_comm (1 <<< b) (1 <<< a), if_pos rfl]
  simp only [I8.go, I8.hO, bN]
  refine Ok_b (k_q I8 (q_allComparisons I8.W I8.S I8.G)) (fun o9 ⟨e9, I9, v9⟩ => ?_)
  have V9 := ((V6.trans v7).trans v8).trans v9
  have A9 := ((A6.ev (by omega) v7).ev (by omega) v8).ev (by omega) v9
  have sz9 := V9.2.1
  have hs9 := V9.1
  simp only [I9.o, bN]
  refine Ok_b (show Ok (fL_keys 0 1 o9.2) _ from w_keys I9 T (by omega) (M := 1) (by omega)) (fun p1 ⟨J1, w1, t1, K1⟩ => ?_)
  have W1 := V9.trans w1
  have y1 := W1.2.1
  simp only [J1.o, bN]
  refine Ok_b (show Ok (fL_keys 0 2 p1.2) _ from w_keys J1 T (by omega) (M := 2) (by omega)) (fun p2 ⟨J2, w2, t2, K2⟩ => ?_)
  have W2 := W1.trans w2
  have y2 := W2.2.1
  have z2 := W2.1
  simp only [k_cmp I.MG (K1.ev (by omega) w2) K2 djs.1, J2.o, bN]
  refine Ok_b (show Ok (fL_keys 0 4 p2.2) _ from w_keys J2 T (by omega) (M := 4) (by omega)) (fun p3 ⟨J3, w3, t3, K3⟩ => ?_)
  have W3 := W2.trans w3
  have y3 := W3.2.1
  simp only [J3.o, bN]
  refine Ok_b (show Ok (fL_keys 0 8 p3.2) _ from w_keys J3 T (by omega) (M := 8) (by omega)) (fun p4 ⟨J4, w4, t4, K4⟩ => ?_)
  have W4 := W3.trans w4
  have y4 := W4.2.1
  have z4 := W4.1
  simp only [k_cmp I.MG (K3.ev (by omega) w4) K4 djs.2.1, J4.o, bN]
  refine Ok_b (show Ok (fL_keys 0 3 p4.2) _ from w_keys J4 T (by omega) (M := 3) (by omega)) (fun p5 ⟨J5, w5, t5, K5'⟩ => ?_)
  have W5 := W4.trans w5
  have y5 := W5.2.1
  simp only [J5.o, bN]
  refine Ok_b (show Ok (fL_keys 0 12 p5.2) _ from w_keys J5 T (by omega) (M := 12) (by omega)) (fun p6 ⟨J6, w6, t6, K6'⟩ => ?_)
  have W6 := W5.trans w6
  have y6 := W6.2.1
  have z6 := W6.1
  simp only [k_cmp I.MG (K5'.ev (by omega) w6) K6' djs.2.2.1, J6.o, bN]
  refine Ok_b (show Ok (fL_keys 0 15 p6.2) _ from w_keys J6 T (by omega) (M := 15) (by omega)) (fun p7 ⟨J7, w7, t7, K7⟩ => ?_)
  have W7 := W6.trans w7
  have y7 := W7.2.1
  simp only [J7.o, bN]
  refine Ok_b (show Ok (fL_keys 0 16 p7.2) _ from w_keys J7 T (by omega) (M := 16) (by omega)) (fun p8 ⟨J8, w8, t8, K8⟩ => ?_)
  have W8 := W7.trans w8
  have y8 := W8.2.1
  have z8 := W8.1
  simp only [k_cmp I.MG (K7.ev (by omega) w8) K8 djs.2.2.2, bN]
  rw [e9, show cmpAll n = Int32.ofNat (cmpv n 1 2) + Int32.ofNat (cmpv n 4 8) + Int32.ofNat (cmpv n 3 12) + Int32.ofNat (cmpv n 15 16) from rfl, if_pos rfl]
  simp only [J8.gd, J8.d, bN]
  refine Ok_b (show Ok (fX10_next 1 1001 p8.2) _ from k_next J8 (N := 1001) (by omega) (by omega)) (fun o10 ⟨⟨k, hk, ek⟩, I10, v10⟩ => ?_)
  have V10 := W8.trans v10
  have A10 := (((((((((A9.ev (by omega) w1).ev (by omega) w2).ev (by omega) w3).ev (by omega) w4).ev (by omega) w5).ev (by omega) w6).ev (by omega) w7).ev (by omega) w8).ev (by omega) v10)
  rw [ek]
  simp only [A10.len, bN]
  refine Ok_b (P := fun o => o.1 = 1 ∧ LSt o.2 n n c B j ∧ Ev 60 h o.2) ?_ (fun jp ⟨j1, j2, j3⟩ => ?_)
  · by_cases z : mcn n = 0
    · rw [z, if_pos (show Int32.ofNat 0 = 0 from rfl)]
      exact Ok_p ⟨rfl, I10, V10.le (by omega)⟩
    · rw [if_neg (fun y => z (ofN_inj (by omega) (by omega) y) : ¬ Int32.ofNat (mcn n) = 0)]
      simp only [I10.go, I10.hO, bN]
      refine Ok_b (k_ok I10 (q_quantile I10.W I10.S I10.G (k := k) (by omega) z)) (fun q ⟨q1, Iq, vq⟩ => ?_)
      have Aq := A10.ev (by omega) vq
      have h1000 : (mcn n - 1) * k ≤ (mcn n - 1) * 1000 := Nat.mul_le_mul_left _ (by omega)
      have hx : (mcn n - 1) * k / 1000 < mcn n := by
        have : (mcn n - 1) * k / 1000 ≤ mcn n - 1 := Nat.div_le_of_le_mul (by rw [Nat.mul_comm 1000]; exact h1000)
        omega
      have ex : ((Int32.ofNat (mcn n) - 1) * Int32.ofNat k) / 1000 = Int32.ofNat ((mcn n - 1) * k / 1000) := by
        rw [ofN_pred (by omega) (by omega), ofN_mul]
        exact div_N (b := 1000) (by omega) (by omega) (by omega)
      obtain ⟨g1, g2⟩ := mnr_spec hx
      simp only [Aq.len, bN, ex, Aq.ld hx (by omega)]
      rw [q1, ky_mark I.MG g1 g2, if_pos rfl]
      exact Ok_p ⟨rfl, Iq, (V10.trans vq).le (by omega)⟩
  · rw [j1]
    simp only [z1_1, bN]
    exact Ok_p ⟨rfl, j2, j3⟩
end
