/-! THE PURE SIDE, 52: numbers, states, history are made -/
theorem n0_cm : cm n0 = 0 := by decide
theorem n0_inw : inw n0 = 0 := by unfold inw; rw [n0_cm]; exact Nat.zero_min _
theorem n0_111 {k : Nat} (hk : k < 100) : n0 (111 + k) = 0 := by
  unfold n0
  rw [if_neg (by omega), if_neg (by omega), if_neg (by omega), if_neg (by omega), if_neg (by omega), if_neg (by omega), if_neg (by omega)]
theorem n0_221 {k : Nat} (hk : k < 4) : n0 (221 + k) = -1 := by
  unfold n0
  rw [if_neg (by omega), if_neg (by omega), if_neg (by omega), if_neg (by omega), if_neg (by omega), if_neg (by omega), if_pos (by omega)]
theorem n0_225 {k : Nat} (hk : k < 4) : n0 (225 + k) = 0 := by
  unfold n0
  rw [if_neg (by omega), if_neg (by omega), if_neg (by omega), if_neg (by omega), if_neg (by omega), if_neg (by omega), if_neg (by omega)]
theorem i_numbers {K h0 h : mxH} {D b : Nat} (B : NB b) (P : PS K D h0 b (b + 1) 2 [.null, .int 0, .int 0, .null, .int 0, .int 0, .null, .null, .int 0] [] h) : Ok (fX2_init b h) (fun g => Rdy h0 b (b + 5) g ∧ NR g b n0) := by
  have BL := NB_le B
  have L : ∀ o, o < 5 → lay (b + o) = _ := fun o ho => lay_N B ho
  unfold fX2_init
  rw [P.1]
  refine Ok_b (PS_I P (n := 10) (L 1 (by omega))) (fun h1 P1 => ?_)
  refine Ok_b (PS_R P1 0 (b + 1)) (fun h3 P3 => ?_)
  refine Ok_b (PS_P P3 1 5) (fun h5 P5 => ?_)
  refine Ok_b (PS_P P5 2 0) (fun h7 P7 => ?_)
  have P7 : PS K D h0 b (b + 2) 2 _ _ h7 := P7
  rw [P7.1]
  refine Ok_b (PS_I P7 (n := 100) (L 2 (by omega))) (fun h9 P9 => ?_)
  refine Ok_b (PS_R P9 3 (b + 2)) (fun h11 P11 => ?_)
  refine Ok_b (PS_P P11 4 0) (fun h13 P13 => ?_)
  refine Ok_b (PS_P P13 5 2) (fun h15 P15 => ?_)
  have P15 : PS K D h0 b (b + 3) 2 _ _ h15 := P15
  rw [P15.1]
  refine Ok_b (PS_I P15 (n := 4) (L 3 (by omega))) (fun h17 P17 => ?_)
  refine Ok_b (PS_R P17 6 (b + 3)) (fun h19 P19 => ?_)
  have P19 : PS K D h0 b (b + 4) 2 _ _ h19 := P19
  rw [P19.1]
  refine Ok_b (PS_I P19 (n := 4) (L 4 (by omega))) (fun h21 P21 => ?_)
  refine Ok_b (PS_R P21 7 (b + 4)) (fun h23 P23 => ?_)
  refine Ok_b (PS_P P23 8 0) (fun g P25 => ?_)
  have P25 : PS K D h0 b (b + 5) 2 [.ref (b + 1), .int 5, .int 0, .ref (b + 2), .int 0, .int 2, .ref (b + 3), .ref (b + 4), .int 0] [b + 4, b + 3, b + 2, b + 1] g := P25
  have Rd : Rdy h0 b (b + 5) g := PS_done P25 (by
    rw [lay_N0 B]
    refine ⟨rfl, fun z => absurd z (show ¬ ((2 : Nat) = 100 ∨ (2 : Nat) = 101) by decide), fun z => absurd z (show ¬ (2 : Nat) = 102 by decide), fun z => absurd z (show ¬ (2 : Nat) = 103 by decide), fun _ j hj => ?_, fun z => absurd z (show ¬ (2 : Nat) = 104 by decide)⟩
    have hj : j < 9 := hj
    rcases (show j = 0 ∨ j = 1 ∨ j = 2 ∨ j = 3 ∨ j = 4 ∨ j = 5 ∨ j = 6 ∨ j = 7 ∨ j = 8 by omega) with rfl | rfl | rfl | rfl | rfl | rfl | rfl | rfl | rfl
    all_goals first | exact ⟨fun z => absurd z (Nat.succ_ne_zero _), fun _ => rfl⟩ | exact ⟨fun _ => ⟨_, rfl⟩, fun z => absurd rfl z⟩)
  obtain ⟨l, hl⟩ : ∃ l, b = l + 2 := ⟨b - 2, by omega⟩
  have W : WFc l (b + 5) g := ⟨Rd.1, fun a a1 a2 => Rd.2.2.2 a (by omega) a2⟩
  have vb : V g b = cv (2, [], [.ref (b + 1), .int 5, .int 0, .ref (b + 2), .int 0, .int 2, .ref (b + 3), .ref (b + 4), .int 0]) := by
    unfold V; rw [P25.2.2.2.1]
  have z4 : ∀ k, V g (b + 4) k = 0 := (P25.2.2.2.2.2.2.1 (b + 4) (by simp)).2.2
  have z2 : ∀ k, V g (b + 2) k = 0 := (P25.2.2.2.2.2.2.1 (b + 2) (by simp)).2.2
  have A3 : arc l (b + 5) (b + 3) 4 := ⟨by omega, by omega, by rw [L 3 (by omega)]; rfl, by rw [L 3 (by omega)]; rfl⟩
  have Rf : rfc l (b + 5) b 2 6 (b + 3) := ⟨by omega, by omega, by rw [lay_N0 B], by omega, by rw [lay_N0 B]; exact (by decide : 6 < 9), by rw [lay_N0 B]; rfl, by omega⟩
  clear P P1 P3 P5 P7 P9 P11 P13 P15 P17 P19 P21 P23 P25
  refine Ok_b (P := fun g' => Frc l (b + 5) (fun x => x = b + 3) g g' ∧ ∀ k, k < 4 → V g' (b + 3) k = -1) (Ok_loop (fun t q => q.1 = Int32.ofNat t ∧ Frc l (b + 5) (fun x => x = b + 3) g q.2 ∧ ∀ k, k < t → V q.2 (b + 3) k = -1) 4 ⟨rfl, Frc.refl W, fun _ z => absurd z (Nat.not_lt_zero _)⟩ ?_ ?_) (fun g' ⟨F, w⟩ => Ok_p ⟨?_, ?_⟩)
  · rintro t ⟨q1, g1⟩ ht ⟨e1, F, w⟩
    obtain rfl := show q1 = _ from e1
    have F : Frc l (b + 5) (fun x => x = b + 3) g g1 := F
    have w : ∀ k, k < t → V g1 (b + 3) k = -1 := w
    have Sa := A3.sl ht
    simp only [if_neg (n4 ht), gR_atc F.1 Rf, stI_atc F.1 A3 ht, bN, ofN_succ]
    refine Ok_p ⟨_, rfl, rfl, F.trans (Frc.st F.1 Sa rfl), fun k hk => ?_⟩
    show V (st _ _ _ _) _ _ = _
    rw [V_stc F.1 Sa]
    by_cases z : k = t
    · rw [if_pos ⟨rfl, z⟩]
    · rw [if_neg (fun y => z y.2)]; exact w k (by omega)
  · rintro ⟨q1, g1⟩ ⟨e1, F, w⟩
    obtain rfl := show q1 = _ from e1
    exact Ok_e (a := .inr g1) (if_pos yle) ⟨g1, rfl, F, w⟩
  · obtain ⟨r1, r2, r3, r4⟩ := Rd
    have FT := F.1.1
    have rT := r2.1
    refine ⟨F.1.1, ⟨by omega, fun x hb hb2 => ?_, by rw [F.2 1000001 trivial (by omega)]; exact r2.2.2⟩, fun x hb => ?_, fun a a1 a2 => F.1.2 a (by omega) a2⟩
    · rw [F.1.1] at hb
      rw [F.2 x trivial (by omega)]; exact r2.2.1 x (by rw [r1]; exact hb) hb2
    · rw [F.2 x trivial (by omega)]; exact r3 x hb
  · have eb : V g' b = V g b := Fr_Vc F (by omega) (by omega)
    unfold NR
    rw [eb, vb, n0_inw]
    refine ⟨rfl, rfl, fun i hi => absurd hi (Nat.not_lt_zero _), fun k hk => ?_, rfl, rfl, fun k hk => ?_, fun k hk => ?_, rfl⟩
    · rw [n0_111 hk, Fr_Vc F (by omega) (by omega)]; exact z2 k
    · rw [n0_221 hk]; exact w k hk
    · rw [n0_225 hk, Fr_Vc F (by omega) (by omega)]; exact z4 k
theorem i_state {K h0 h : mxH} {D s : Nat} (S : SB s) (P : PS K D h0 s (s + 1) 7 [.null, .null, .int 0, .int 0] [] h) : Ok (fX7_init s h) (fun g => Rdy h0 s (s + 29) g ∧ SR g s n0) := by
  have SL := SB_le S
  unfold fX7_init
  rw [P.1]
  refine Ok_b (PS_0 P.1 P.2.1 6 _) (fun h1 Q1 => ?_)
  refine Ok_b (i_rows (SB_R S) Q1) (fun o4 ⟨R4, A4⟩ => ?_)
  have P4 := PS_anchor (PS_in P R4 (by omega))
  have P4 : PS o4 (s + 24) h0 s (s + 24) 7 _ [] o4 := P4
  refine Ok_b (PS_R P4 0 (s + 1)) (fun h5 P5 => ?_)
  rw [P5.1]
  refine Ok_b (PS_0 P5.1 P5.2.1 2 _) (fun h7 Q7 => ?_)
  refine Ok_b (i_numbers (SB_N S) Q7) (fun o10 ⟨R10, A10⟩ => ?_)
  have P10 := PS_in P5 R10 (by omega)
  have P10 : PS o4 (s + 24) h0 s (s + 29) 7 _ [] o10 := P10
  have A4' : RR o10 (s + 1) n0 := RR_eq A4 (fun o ho => P10.2.2.2.2.2.2.2.2 _ (by omega) (by omega))
  have P10b := PS_anchor P10
  refine Ok_b (PS_R P10b 1 (s + 24)) (fun h11 P11 => ?_)
  refine Ok_b (PS_P P11 2 1) (fun h13 P13 => ?_)
  refine Ok_b (PS_P P13 3 1) (fun g P15 => ?_)
  have P15 : PS o10 (s + 29) h0 s (s + 29) 7 [.ref (s + 1), .ref (s + 24), .int 1, .int 1] [] g := P15
  have vs : V g s = cv (7, [], [.ref (s + 1), .ref (s + 24), .int 1, .int 1]) := by
    unfold V; rw [P15.2.2.2.1]
  refine Ok_p ⟨PS_done P15 ?_, RR_eq A4' (fun o ho => P15.2.2.2.2.2.2.2.2 _ (by omega) (by omega)), NR_eq A10 (fun o ho => P15.2.2.2.2.2.2.2.2 _ (by omega) (by omega)), ?_, ?_⟩
  · rw [lay_S0 S]
    refine ⟨rfl, fun z => absurd z (show ¬ ((7 : Nat) = 100 ∨ (7 : Nat) = 101) by decide), fun z => absurd z (show ¬ (7 : Nat) = 102 by decide), fun z => absurd z (show ¬ (7 : Nat) = 103 by decide), fun _ j hj => ?_, fun z => absurd z (show ¬ (7 : Nat) = 104 by decide)⟩
    have hj : j < 4 := hj
    rcases (show j = 0 ∨ j = 1 ∨ j = 2 ∨ j = 3 by omega) with rfl | rfl | rfl | rfl
    all_goals first | exact ⟨fun z => absurd z (Nat.succ_ne_zero _), fun _ => rfl⟩ | exact ⟨fun _ => ⟨_, rfl⟩, fun z => absurd rfl z⟩
  · rw [vs]; rfl
  · rw [vs]; rfl
