/-! THE PURE SIDE, 51: the class's objects are made -/
theorem RR_eq {g K : mxH} {r : Nat} {n : Nat → Int32} (A : RR K r n) (e : ∀ o, o < 22 → g.1 (r + o) = K.1 (r + o)) : RR g r n := by
  have ev : ∀ o, o < 22 → V g (r + o) = V K (r + o) := fun o ho => by unfold V; rw [e o ho]
  obtain ⟨a1, a2, a3, a4, a5, a6, a7⟩ := A
  refine ⟨fun i t hi ht => ?_, fun i t hi ht => ?_, fun i t hi ht => ?_, fun i hi => ?_, fun i hi => ?_, fun t ht => ?_, ?_⟩
  · rw [Nat.add_assoc, ev _ (by omega), ← Nat.add_assoc]; exact a1 i t hi ht
  · rw [Nat.add_assoc, ev _ (by omega), ← Nat.add_assoc]; exact a2 i t hi ht
  · rw [Nat.add_assoc, ev _ (by omega), ← Nat.add_assoc]; exact a3 i t hi ht
  · rw [ev _ (by omega)]; exact a4 i hi
  · rw [ev _ (by omega)]; exact a5 i hi
  · rw [ev _ (by omega)]; exact a6 t ht
  · have := ev 0 (by omega); rw [Nat.add_zero] at this; rw [this]; exact a7
theorem NR_eq {g K : mxH} {b : Nat} {n : Nat → Int32} (A : NR K b n) (e : ∀ o, o < 5 → g.1 (b + o) = K.1 (b + o)) : NR g b n := by
  have ev : ∀ o, o < 5 → V g (b + o) = V K (b + o) := fun o ho => by unfold V; rw [e o ho]
  have e0 : V g b = V K b := ev 0 (by omega)
  unfold NR
  rw [e0, ev 1 (by omega), ev 2 (by omega), ev 3 (by omega), ev 4 (by omega)]
  exact A
theorem n0_w {i : Nat} (hi : i < 5) : n0 (100 + i) = 1 := by
  unfold n0; rw [if_neg (by omega), if_pos (by omega)]
theorem i_rows {K h0 h : mxH} {D s : Nat} (R : RB s) (P : PS K D h0 s (s + 1) 6 [.null, .null, .null, .null, .null, .null, .int 0, .null] [] h) : Ok (fX6_init s h) (fun g => Rdy h0 s (s + 23) g ∧ RR g s n0) := by
  have RL := RB_le R
  have L : ∀ o, o < 23 → lay (s + o) = layR s o := fun o ho => lay_R R ho
  have Lg : ∀ b, b = 1 ∨ b = 7 ∨ b = 13 → ∀ j, j < 5 → lay (s + b + 1 + j) = (100, 20, []) := fun b hb j hj => by
    rw [show s + b + 1 + j = s + (b + 1 + j) by omega, L _ (by omega)]
    rcases hb with rfl | rfl | rfl <;> rcases i5 hj with rfl | rfl | rfl | rfl | rfl <;> rfl
  unfold fX6_init
  rw [P.1]
  refine Ok_b (PS_G P (n := 5) (k := 20) (L := [s + 2, s + 3, s + 4, s + 5, s + 6]) (L 1 (by omega)) (fun j hj => by rcases i5 hj with rfl | rfl | rfl | rfl | rfl <;> rfl) (Lg 1 (by omega))) (fun h1 P1 => ?_)
  refine Ok_b (PS_R P1 0 (s + 1)) (fun h3 P3 => ?_)
  have P3 : PS K D h0 s (s + 7) 6 _ [] h3 := P3
  rw [P3.1]
  refine Ok_b (PS_G P3 (n := 5) (k := 20) (L := [s + 8, s + 9, s + 10, s + 11, s + 12]) (L 7 (by omega)) (fun j hj => by rcases i5 hj with rfl | rfl | rfl | rfl | rfl <;> rfl) (Lg 7 (by omega))) (fun h5 P5 => ?_)
  refine Ok_b (PS_R P5 1 (s + 7)) (fun h7 P7 => ?_)
  have P7 : PS K D h0 s (s + 13) 6 _ [] h7 := P7
  rw [P7.1]
  refine Ok_b (PS_G P7 (n := 5) (k := 20) (L := [s + 14, s + 15, s + 16, s + 17, s + 18]) (L 13 (by omega)) (fun j hj => by rcases i5 hj with rfl | rfl | rfl | rfl | rfl <;> rfl) (Lg 13 (by omega))) (fun h9 P9 => ?_)
  refine Ok_b (PS_R P9 2 (s + 13)) (fun h11 P11 => ?_)
  have P11 : PS K D h0 s (s + 19) 6 _ [] h11 := P11
  rw [P11.1]
  refine Ok_b (PS_I P11 (n := 5) (L 19 (by omega))) (fun h13 P13 => ?_)
  refine Ok_b (PS_R P13 3 (s + 19)) (fun h15 P15 => ?_)
  have P15 : PS K D h0 s (s + 20) 6 _ _ h15 := P15
  rw [P15.1]
  refine Ok_b (PS_I P15 (n := 5) (L 20 (by omega))) (fun h17 P17 => ?_)
  refine Ok_b (PS_R P17 4 (s + 20)) (fun h19 P19 => ?_)
  have P19 : PS K D h0 s (s + 21) 6 _ _ h19 := P19
  rw [P19.1]
  refine Ok_b (PS_I P19 (n := 20) (L 21 (by omega))) (fun h21 P21 => ?_)
  refine Ok_b (PS_R P21 5 (s + 21)) (fun h23 P23 => ?_)
  refine Ok_b (PS_P P23 6 0) (fun h25 P25 => ?_)
  have P25 : PS K D h0 s (s + 22) 6 _ _ h25 := P25
  rw [P25.1]
  refine Ok_b (PS_I P25 (n := 5) (L 22 (by omega))) (fun h27 P27 => ?_)
  refine Ok_b (PS_R P27 7 (s + 22)) (fun g P29 => ?_)
  have P29 : PS K D h0 s (s + 23) 6 [.ref (s + 1), .ref (s + 7), .ref (s + 13), .ref (s + 19), .ref (s + 20), .ref (s + 21), .int 0, .ref (s + 22)] [s + 22, s + 21, s + 20, s + 19] g := P29
  have Rd : Rdy h0 s (s + 23) g := PS_done P29 (by
    have e0 : lay s = (6, 8, [s + 1, s + 7, s + 13, s + 19, s + 20, s + 21, 0, s + 22]) := L 0 (by omega)
    rw [e0]
    refine ⟨rfl, fun z => absurd z (show ¬ ((6 : Nat) = 100 ∨ (6 : Nat) = 101) by decide), fun z => absurd z (show ¬ (6 : Nat) = 102 by decide), fun z => absurd z (show ¬ (6 : Nat) = 103 by decide), fun _ j hj => ?_, fun z => absurd z (show ¬ (6 : Nat) = 104 by decide)⟩
    have hj : j < 8 := hj
    rcases (show j = 0 ∨ j = 1 ∨ j = 2 ∨ j = 3 ∨ j = 4 ∨ j = 5 ∨ j = 6 ∨ j = 7 by omega) with rfl | rfl | rfl | rfl | rfl | rfl | rfl | rfl
    all_goals first | exact ⟨fun z => absurd z (Nat.succ_ne_zero _), fun _ => rfl⟩ | exact ⟨fun _ => ⟨0, rfl⟩, fun z => absurd rfl z⟩)
  obtain ⟨l, hl⟩ : ∃ l, s = l + 2 := ⟨s - 2, by omega⟩
  have W : WFc l (s + 23) g := ⟨Rd.1, fun a a1 a2 => Rd.2.2.2 a (by omega) a2⟩
  have Rc : RBc l (s + 23) s := ⟨R, by omega, by omega⟩
  have v19 : ∀ k, V g (s + 19) k = 0 := (P29.2.2.2.2.2.2.1 (s + 19) (by simp)).2.2
  have vr : V g s 6 = 0 := by
    unfold V
    rw [P29.2.2.2.1]; rfl
  clear P P1 P3 P5 P7 P9 P11 P13 P15 P17 P19 P21 P23 P25 P27 P29
  refine Ok_b (P := fun g' => Frc l (s + 23) (fun b => (s + 2 ≤ b ∧ b ≤ s + 18) ∨ b = s + 20 ∨ b = s + 21) g g' ∧ (∀ i, i < 5 → ∀ t, t < 20 → V g' (s + 2 + i) t = -1 ∧ V g' (s + 14 + i) t = -1 ∧ V g' (s + 8 + i) t = -1) ∧ (∀ t, t < 20 → V g' (s + 21) t = 20) ∧ ∀ i, i < 5 → V g' (s + 20) i = 1) (Ok_loop (fun i q => q.1 = Int32.ofNat i ∧ Frc l (s + 23) (fun b => (s + 2 ≤ b ∧ b ≤ s + 18) ∨ b = s + 20 ∨ b = s + 21) g q.2 ∧ (∀ i', i' < i → ∀ t, t < 20 → V q.2 (s + 2 + i') t = -1 ∧ V q.2 (s + 14 + i') t = -1 ∧ V q.2 (s + 8 + i') t = -1) ∧ (0 < i → ∀ t, t < 20 → V q.2 (s + 21) t = 20) ∧ ∀ i', i' < i → V q.2 (s + 20) i' = 1) 5 ⟨rfl, Frc.refl W, fun _ z => absurd z (Nat.not_lt_zero _), fun z => absurd z (Nat.lt_irrefl _), fun _ z => absurd z (Nat.not_lt_zero _)⟩ ?_ ?_) (fun g' ⟨F, w1, w2, w3⟩ => Ok_p ⟨?_, ?_⟩)
  · rintro i ⟨q1, g1⟩ hi ⟨e1, F, w1, w2, w3⟩
    obtain rfl := show q1 = _ from e1
    have F : Frc l (s + 23) (fun b => (s + 2 ≤ b ∧ b ≤ s + 18) ∨ b = s + 20 ∨ b = s + 21) g g1 := F
    have w1 : ∀ i', i' < i → ∀ t, t < 20 → V g1 (s + 2 + i') t = -1 ∧ V g1 (s + 14 + i') t = -1 ∧ V g1 (s + 8 + i') t = -1 := w1
    have w3 : ∀ i', i' < i → V g1 (s + 20) i' = 1 := w3
    simp only [if_neg (n5 hi)]
    refine Ok_b (P := fun g2 => Frc l (s + 23) (fun b => b = s + 2 + i ∨ b = s + 14 + i ∨ b = s + 8 + i ∨ b = s + 21) g1 g2 ∧ ∀ t, t < 20 → V g2 (s + 2 + i) t = -1 ∧ V g2 (s + 14 + i) t = -1 ∧ V g2 (s + 8 + i) t = -1 ∧ V g2 (s + 21) t = 20) (Ok_loop (fun t q => q.1 = Int32.ofNat t ∧ Frc l (s + 23) (fun b => b = s + 2 + i ∨ b = s + 14 + i ∨ b = s + 8 + i ∨ b = s + 21) g1 q.2 ∧ ∀ t', t' < t → V q.2 (s + 2 + i) t' = -1 ∧ V q.2 (s + 14 + i) t' = -1 ∧ V q.2 (s + 8 + i) t' = -1 ∧ V q.2 (s + 21) t' = 20) 20 ⟨rfl, Frc.refl F.1, fun _ z => absurd z (Nat.not_lt_zero _)⟩ ?_ ?_) (fun g2 ⟨F2, x1⟩ => ?_)
    · rintro t ⟨q1, g2⟩ ht ⟨e1, F2, x1⟩
      obtain rfl := show q1 = _ from e1
      have F2 : Frc l (s + 23) (fun b => b = s + 2 + i ∨ b = s + 14 + i ∨ b = s + 8 + i ∨ b = s + 21) g1 g2 := F2
      have x1 : ∀ t', t' < t → V g2 (s + 2 + i) t' = -1 ∧ V g2 (s + 14 + i) t' = -1 ∧ V g2 (s + 8 + i) t' = -1 ∧ V g2 (s + 21) t' = 20 := x1
      have Wa := F2.1
      have Sa := (ar_mkc Rc hi).sl ht
      have Wb := WF_stc (x := -1) Wa Sa
      have Sb := (ar_thc Rc hi).sl ht
      have Wc := WF_stc (x := -1) Wb Sb
      have Sc := (ar_plc Rc hi).sl ht
      have Wd := WF_stc (x := -1) Wc Sc
      have Sd := (ar_fpc Rc).sl ht
      simp only [if_neg (n20 ht), gR_mc Wa Rc, ldR_mc Wa Rc hi, stI_atc Wa (ar_mkc Rc hi) ht, gR_tc Wb Rc, ldR_tc Wb Rc hi, stI_atc Wb (ar_thc Rc hi) ht, gR_pc Wc Rc, ldR_pc Wc Rc hi, stI_atc Wc (ar_plc Rc hi) ht, gR_fc Wd Rc, stI_atc Wd (ar_fpc Rc) ht, bN, ofN_succ]
      refine Ok_p ⟨_, rfl, rfl, (((F2.trans (Frc.st Wa Sa (Or.inl rfl))).trans (Frc.st Wb Sb (Or.inr (Or.inl rfl)))).trans (Frc.st Wc Sc (Or.inr (Or.inr (Or.inl rfl))))).trans (Frc.st Wd Sd (Or.inr (Or.inr (Or.inr rfl)))), fun t' ht' => ?_⟩
      show V (st (st (st (st _ _ _ _) _ _ _) _ _ _) _ _ _) (s + 2 + i) t' = _ ∧ V (st (st (st (st _ _ _ _) _ _ _) _ _ _) _ _ _) (s + 14 + i) t' = _ ∧ V (st (st (st (st _ _ _ _) _ _ _) _ _ _) _ _ _) (s + 8 + i) t' = _ ∧ V (st (st (st (st _ _ _ _) _ _ _) _ _ _) _ _ _) (s + 21) t' = _
      refine ⟨?_, ?_, ?_, ?_⟩
      · rw [V_st_ne (by omega), V_st_ne (by omega), V_st_ne (by omega), V_stc Wa Sa]
        by_cases z : t' = t
        · rw [if_pos ⟨rfl, z⟩]
        · rw [if_neg (fun y => z y.2)]; exact (x1 t' (by omega)).1
      · rw [V_st_ne (by omega), V_st_ne (by omega), V_stc Wb Sb]
        by_cases z : t' = t
        · rw [if_pos ⟨rfl, z⟩]
        · rw [if_neg (fun y => z y.2), V_st_ne (by omega)]; exact (x1 t' (by omega)).2.1
      · rw [V_st_ne (by omega), V_stc Wc Sc]
        by_cases z : t' = t
        · rw [if_pos ⟨rfl, z⟩]
        · rw [if_neg (fun y => z y.2), V_st_ne (by omega), V_st_ne (by omega)]; exact (x1 t' (by omega)).2.2.1
      · rw [V_stc Wd Sd]
        by_cases z : t' = t
        · rw [if_pos ⟨rfl, z⟩]
        · rw [if_neg (fun y => z y.2), V_st_ne (by omega), V_st_ne (by omega), V_st_ne (by omega)]; exact (x1 t' (by omega)).2.2.2
    · rintro ⟨q1, g2⟩ ⟨e1, F2, x1⟩
      obtain rfl := show q1 = _ from e1
      exact Ok_e (a := .inr g2) (if_pos yle) ⟨g2, rfl, F2, x1⟩
    · have W2 := F2.1
      have S2 := (ar_wtc Rc).sl hi
      simp only [gR_wc W2 Rc, stI_atc W2 (ar_wtc Rc) hi, bN, ofN_succ]
      refine Ok_p ⟨_, rfl, rfl, (F.trans (F2.mono (fun b z => by omega))).trans (Frc.st W2 S2 (Or.inr (Or.inl rfl))), fun i' hi' t ht => ?_, fun _ t ht => ?_, fun i' hi' => ?_⟩
      · show V (st _ _ _ _) _ _ = _ ∧ V (st _ _ _ _) _ _ = _ ∧ V (st _ _ _ _) _ _ = _
        rw [V_st_ne (by omega), V_st_ne (by omega), V_st_ne (by omega)]
        by_cases z : i' = i
        · rw [z]
          obtain ⟨y1, y2, y3, y4⟩ := x1 t ht
          exact ⟨y1, y2, y3⟩
        · rw [Fr_Vc F2 (by omega) (by omega), Fr_Vc F2 (by omega) (by omega), Fr_Vc F2 (by omega) (by omega)]
          exact w1 i' (by omega) t ht
      · show V (st _ _ _ _) _ _ = _
        rw [V_st_ne (by omega)]; exact (x1 t ht).2.2.2
      · show V (st _ _ _ _) _ _ = _
        rw [V_stc W2 S2]
        by_cases z : i' = i
        · rw [if_pos ⟨rfl, z⟩]
        · rw [if_neg (fun y => z y.2), Fr_Vc F2 (by omega) (by omega)]; exact w3 i' (by omega)
  · rintro ⟨q1, g1⟩ ⟨e1, F, w1, w2, w3⟩
    obtain rfl := show q1 = _ from e1
    exact Ok_e (a := .inr g1) (if_pos yle) ⟨g1, rfl, F, w1, w2 (by omega), w3⟩
  · obtain ⟨r1, r2, r3, r4⟩ := Rd
    have FT := F.1.1
    have rT := r2.1
    refine ⟨F.1.1, ⟨by omega, fun b hb hb2 => ?_, by rw [F.2 1000001 trivial (by omega)]; exact r2.2.2⟩, fun b hb => ?_, fun a a1 a2 => F.1.2 a (by omega) a2⟩
    · rw [F.1.1] at hb
      rw [F.2 b trivial (by omega)]; exact r2.2.1 b (by rw [r1]; exact hb) hb2
    · rw [F.2 b trivial (by omega)]; exact r3 b hb
  · refine ⟨fun i t hi ht => ?_, fun i t hi ht => ?_, fun i p hi hp => ?_, fun i hi => ?_, fun i hi => ?_, fun t ht => ?_, ?_⟩
    · rw [n0_m (by omega)]; exact (w1 i hi t ht).1
    · rw [n0_hs hi ht, if_neg (by decide)]; exact (w1 i hi t ht).2.2
    · rw [n0_itm hi, if_neg (by omega)]; exact (w1 i hi p hp).2.1
    · rw [n0_itm hi, Fr_Vc F (by omega) (by omega)]; exact v19 i
    · rw [n0_w hi]; exact w3 i hi
    · rw [n0_fpl ht]; exact w2 t ht
    · have : V g' s = V g s := Fr_Vc F (by omega) (by omega)
      rw [this, vr]; rfl
