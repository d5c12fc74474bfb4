/-! THE PURE SIDE, 54: the house is made -/
def ig (j : Nat) : Nat × Nat × Nat := ([(0, 0, 90), (0, 1, 80), (0, 2, 70), (0, 3, 10), (1, 1, 85), (1, 2, 75), (1, 0, 20), (2, 2, 95), (2, 0, 60), (2, 4, 50)] : List (Nat × Nat × Nat)).getD j (0, 0, 0)
def itN : Nat → Nat → Int32
  | 0 => n0
  | j + 1 => fup (itN j) (20 * (ig j).1 + (ig j).2.1) (Int32.ofNat (ig j).2.2)
theorem ig_ok : ∀ j, j < 10 → (ig j).1 < 5 ∧ (ig j).2.1 < 20 ∧ (ig j).2.2 < 100 ∧ mxFI[3 * j]? = some (Int32.ofNat (ig j).1) ∧ mxFI[3 * j + 1]? = some (Int32.ofNat (ig j).2.1) ∧ mxFI[3 * j + 2]? = some (Int32.ofNat (ig j).2.2) := by decide
theorem itN_MG : ∀ j, j ≤ 10 → MG (itN j) := by
  intro j
  induction j with
  | zero => intro _ k hk; exact Or.inl (n0_m hk)
  | succ j ih => intro hj; exact MG_fup (ih (by omega)) (ig_ok j (by omega)).2.2.1
theorem itN_hi : ∀ j, j ≤ 10 → ∀ k, 100 ≤ k → itN j k = n0 k := by
  intro j
  induction j with
  | zero => intro _ k _; rfl
  | succ j ih =>
    intro hj k hk
    have := ig_ok j (by omega)
    show fup (itN j) _ _ k = _
    rw [fup_ne (by omega)]; exact ih (by omega) k hk
theorem SR_eq {g K : mxH} {s : Nat} {n : Nat → Int32} (A : SR K s n) (e : ∀ b, s ≤ b → b < s + 29 → g.1 b = K.1 b) : SR g s n := by
  obtain ⟨a1, a2, a3, a4⟩ := A
  have es : V g s = V K s := by unfold V; rw [e s (by omega) (by omega)]
  refine ⟨RR_eq a1 (fun o ho => e _ (by omega) (by omega)), NR_eq a2 (fun o ho => e _ (by omega) (by omega)), ?_, ?_⟩
  · rw [es]; exact a3
  · rw [es]; exact a4
/-- the house is ready -/
def HD (c0 c1 : mxE) (g : mxH) : Prop := g.2 = 319 ∧ Fresh g ∧ (g.1 0 = c0 ∧ g.1 1 = c1) ∧ (∀ a, 2 ≤ a → a < 319 → fits (lay a) (g.1 a)) ∧ SR g 3 (itN 10) ∧ V g 32 1 = 0 ∧ HS g (fun k => k)
theorem ld_1 {h : mxH} {k : Nat} {x : Int32} (e : h.1 1000001 = (100, mxFI, [])) (hk : k < 2147483648) (hx : mxFI[k]? = some x) : ldI h 1000001 (Int32.ofNat k) = some x := by
  unfold ldI
  rw [if_pos ⟨Or.inr (Or.inr rfl), by rw [e], ofN_nn hk⟩, e, ofN_clamp hk]; exact hx
theorem len_1 {h : mxH} (e : h.1 1000001 = (100, mxFI, [])) : lenA h 1000001 = some (Int32.ofNat 30) := by
  unfold lenA
  rw [if_pos ⟨Or.inr (Or.inr rfl), Or.inl (by rw [e])⟩, e]; rfl
theorem i_items {k0 k1 : mxE} {g : mxH} (W : WFc 0 319 g) (F0 : Fresh g) (e0 : g.1 0 = k0) (e1 : g.1 1 = k1) (S : SR g 3 n0) (v32 : V g 32 1 = 0) (Hs : HS g (fun k => k)) :
    Ok (mxLoop (ρ := mxH) (fun s55 : (Int32 × mxH) => Option.bind (lenA s55.2 1000001) (fun v63 => (if v63 ≤ (s55.1 + 2) then some (Sum.inr s55.2) else Option.bind (gR s55.2 2 9 0) (fun r66 => Option.bind (gR s55.2 r66 7 0) (fun r68 => Option.bind (ldI s55.2 1000001 s55.1) (fun v70 => Option.bind (ldI s55.2 1000001 (s55.1 + 1)) (fun v72 => Option.bind (ldI s55.2 1000001 (s55.1 + 2)) (fun v74 => Option.bind (isO s55.2 r68 6) (fun u76 => Option.bind (fX6_setMark r68 v70 v72 v74 s55.2) (fun o79 => some (Sum.inl (s55.1 + 3, o79)))))))))))) mxF (0, g)) (HD k0 k1) := by
  have Rc : RBc 0 319 4 := ⟨R4, by omega, by omega⟩
  have Ra : rfc 0 319 2 9 0 3 := ⟨by omega, by omega, rfl, by omega, by decide, rfl, by omega⟩
  have Rb : rfc 0 319 3 7 0 4 := ⟨by omega, by omega, rfl, by omega, by decide, rfl, by omega⟩
  refine Ok_loop (fun j s => s.1 = Int32.ofNat (3 * j) ∧ Frc 0 319 (fun b => 4 ≤ b ∧ b ≤ 25) g s.2 ∧ RR s.2 4 (itN j)) 10 ⟨rfl, Frc.refl W, S.1⟩ ?_ ?_
  · rintro j ⟨q1, g1⟩ hj ⟨z, F, A⟩
    obtain rfl := show q1 = _ from z
    have F : Frc 0 319 (fun b => 4 ≤ b ∧ b ≤ 25) g g1 := F
    have A : RR g1 4 (itN j) := A
    have c1 : g1.1 1000001 = (100, mxFI, []) := by rw [F.2 1000001 trivial (by omega)]; exact F0.2.2
    obtain ⟨i1, i2, i3, i4, i5', i6'⟩ := ig_ok j hj
    have cc : ¬ Int32.ofNat 30 ≤ Int32.ofNat (3 * j + 2) := nle (by omega)
    simp only [len_1 c1, bN, if_neg cc, gR_atc F.1 Ra, gR_atc F.1 Rb, ld_1 c1 (show 3 * j < 2147483648 by omega) i4, show Int32.ofNat (3 * j) + 1 = Int32.ofNat (3 * j + 1) from ofN_add _ _, ld_1 c1 (show 3 * j + 1 < 2147483648 by omega) i5', show Int32.ofNat (3 * j) + 2 = Int32.ofNat (3 * j + 2) from ofN_add _ _, ld_1 c1 (show 3 * j + 2 < 2147483648 by omega) i6', isO_Rc F.1 Rc]
    refine Ok_b (s_setMarkc F.1 Rc A i1 i2 (x := Int32.ofNat (ig j).2.2) (itN_MG (j + 1) (by omega))) (fun g2 ⟨F2, A2⟩ => Ok_p ⟨_, rfl, ?_, F.trans (F2.mono (fun b z => by omega)), A2⟩)
    show Int32.ofNat (3 * j) + 3 = _
    exact ofN_add _ _
  · rintro ⟨q1, g1⟩ ⟨z, F, A⟩
    obtain rfl := show q1 = _ from z
    have F : Frc 0 319 (fun b => 4 ≤ b ∧ b ≤ 25) g g1 := F
    have A : RR g1 4 (itN 10) := A
    have c1 : g1.1 1000001 = (100, mxFI, []) := by rw [F.2 1000001 trivial (by omega)]; exact F0.2.2
    refine Ok_e (a := .inr g1) (by simp only [len_1 c1, bN]; exact if_pos (by decide)) ⟨g1, rfl, F.1.1, ⟨by rw [F.1.1]; omega, fun b hb hb2 => ?_, c1⟩, ⟨?_, ?_⟩, fun a a1 a2 => F.1.2 a a1 a2, ⟨A, ?_, ?_, ?_⟩, ?_, ?_⟩
    · rw [F.1.1] at hb
      rw [F.2 b trivial (by omega)]; exact F0.2.1 b (by rw [W.1]; exact hb) hb2
    · rw [F.2 0 trivial (by omega)]; exact e0
    · rw [F.2 1 trivial (by omega)]; exact e1
    · exact NR_congr (fun k hk => (itN_hi 10 (by omega) k (by omega)).symm) (NR_eq S.2.1 (fun o ho => F.2 _ trivial (by omega)))
    · have : V g1 3 = V g 3 := Fr_Vc F (by omega) (by omega)
      rw [this, itN_hi 10 (by omega) 106 (by omega)]; exact S.2.2.1
    · have : V g1 3 = V g 3 := Fr_Vc F (by omega) (by omega)
      rw [this, itN_hi 10 (by omega) 107 (by omega)]; exact S.2.2.2
    · have : V g1 32 = V g 32 := Fr_Vc F (by omega) (by omega)
      rw [this]; exact v32
    · intro k hk
      rw [F.2 33 trivial (by omega)]; exact Hs k hk
theorem i_house {K h0 h : mxH} {D : Nat} {k0 k1 : mxE} (P : PS K D h0 2 3 9 [.null, .null, .null, .null, .null, .null, .null, .null, .null] [] h) (e0 : h0.1 0 = k0) (e1 : h0.1 1 = k1) : Ok (fX9_init 2 h) (HD k0 k1) := by
  unfold fX9_init
  rw [P.1]
  refine Ok_b (PS_0 P.1 P.2.1 7 _) (fun h1 Q1 => ?_)
  refine Ok_b (i_state S3 Q1) (fun o4 ⟨R4', A4⟩ => ?_)
  have P4 : PS o4 32 h0 2 32 9 _ [] o4 := PS_anchor (PS_in P R4' (by omega))
  refine Ok_b (PS_R P4 0 3) (fun h5 P5 => ?_)
  rw [P5.1]
  refine Ok_b (PS_0 P5.1 P5.2.1 0 _) (fun h7 Q7 => ?_)
  refine Ok_b (i_history Q7) (fun o10 ⟨R10, v10, s10⟩ => ?_)
  have P10 := PS_in P5 R10 (by omega)
  have A10 : SR o10 3 n0 := SR_eq A4 (fun b b1 b2 => P10.2.2.2.2.2.2.2.2 b (by omega) (by omega))
  have P10 : PS o10 266 h0 2 266 9 _ [] o10 := PS_anchor P10
  refine Ok_b (PS_R P10 1 32) (fun h11 P11 => ?_)
  rw [P11.1]
  refine Ok_b (PS_0 P11.1 P11.2.1 6 _) (fun h13 Q13 => ?_)
  refine Ok_b (i_rows R266 Q13) (fun o16 ⟨R16, _⟩ => ?_)
  have P16 : PS o10 266 h0 2 289 9 _ [] o16 := PS_in P11 R16 (by omega)
  refine Ok_b (PS_R P16 2 266) (fun h17 P17 => ?_)
  rw [P17.1]
  refine Ok_b (PS_0 P17.1 P17.2.1 4 _) (fun h19 Q19 => ?_)
  refine Ok_b (i_ranking K289 Q19) (fun o22 R22 => ?_)
  have P22 : PS o10 266 h0 2 293 9 _ [] o22 := PS_in P17 R22 (by omega)
  refine Ok_b (PS_R P22 3 289) (fun h23 P23 => ?_)
  rw [P23.1]
  refine Ok_b (PS_0 P23.1 P23.2.1 4 _) (fun h25 Q25 => ?_)
  refine Ok_b (i_ranking K293 Q25) (fun o28 R28 => ?_)
  have P28 : PS o10 266 h0 2 297 9 _ [] o28 := PS_in P23 R28 (by omega)
  refine Ok_b (PS_R P28 4 293) (fun h29 P29 => ?_)
  rw [P29.1]
  refine Ok_b (PS_0 P29.1 P29.2.1 5 _) (fun h31 Q31 => ?_)
  refine Ok_b (i_reader Q31) (fun o34 R34 => ?_)
  have P34 : PS o10 266 h0 2 302 9 _ [] o34 := PS_in P29 R34 (by omega)
  refine Ok_b (PS_R P34 5 297) (fun h35 P35 => ?_)
  rw [P35.1]
  refine Ok_b (PS_0 P35.1 P35.2.1 1 _) (fun h37 Q37 => ?_)
  refine Ok_b (i_merger Q37) (fun o40 R40 => ?_)
  have P40 : PS o10 266 h0 2 306 9 _ [] o40 := PS_in P35 R40 (by omega)
  refine Ok_b (PS_R P40 6 302) (fun h41 P41 => ?_)
  rw [P41.1]
  refine Ok_b (PS_0 P41.1 P41.2.1 8 _) (fun h43 Q43 => ?_)
  refine Ok_b (i_votes Q43) (fun o46 R46 => ?_)
  have P46 : PS o10 266 h0 2 317 9 _ [] o46 := PS_in P41 R46 (by omega)
  refine Ok_b (PS_R P46 7 306) (fun h47 P47 => ?_)
  rw [P47.1]
  refine Ok_b (PS_0 P47.1 P47.2.1 3 _) (fun h49 Q49 => ?_)
  refine Ok_b (i_pairs Q49) (fun o52 R52 => ?_)
  have P52 : PS o10 266 h0 2 319 9 _ [] o52 := PS_in P47 R52 (by omega)
  refine Ok_b (PS_R P52 8 317) (fun g P53 => ?_)
  have P53 : PS o10 266 h0 2 319 9 [.ref 3, .ref 32, .ref 266, .ref 289, .ref 293, .ref 297, .ref 302, .ref 306, .ref 317] [] g := P53
  have Rd : Rdy h0 2 319 g := PS_done P53 (by
    refine ⟨rfl, fun z => absurd z (show ¬ ((9 : Nat) = 100 ∨ (9 : Nat) = 101) by decide), fun z => absurd z (show ¬ (9 : Nat) = 102 by decide), fun z => absurd z (show ¬ (9 : Nat) = 103 by decide), fun _ j hj => ?_, fun z => absurd z (show ¬ (9 : Nat) = 104 by decide)⟩
    have hj : j < 9 := hj
    rcases (show j = 0 ∨ j = 1 ∨ j = 2 ∨ j = 3 ∨ j = 4 ∨ j = 5 ∨ j = 6 ∨ j = 7 ∨ j = 8 by omega) with rfl | rfl | rfl | rfl | rfl | rfl | rfl | rfl | rfl
    all_goals exact ⟨fun z => absurd z (Nat.succ_ne_zero _), fun _ => rfl⟩)
  have kp : ∀ b, 3 ≤ b → b < 266 → g.1 b = o10.1 b := fun b b1 b2 => P53.2.2.2.2.2.2.2.2 b (by omega) b2
  have v32 : V g 32 1 = 0 := by
    have : V g 32 = V o10 32 := by unfold V; rw [kp 32 (by omega) (by omega)]
    rw [this]; exact v10
  have y0 : g.1 0 = k0 := by rw [Rd.2.2.1 0 (by omega)]; exact e0
  have y1 : g.1 1 = k1 := by rw [Rd.2.2.1 1 (by omega)]; exact e1
  have kS : SR g 3 n0 := SR_eq A10 (fun b b1 b2 => kp b (by omega) (by omega))
  have kH : HS g (fun k => k) := fun k hk => by rw [kp 33 (by omega) (by omega)]; exact s10 k hk
  exact Ok_b (i_items ⟨Rd.1, fun a a1 a2 => Rd.2.2.2 a a1 a2⟩ Rd.2.1 y0 y1 kS v32 kH) (fun r H => Ok_p H)
