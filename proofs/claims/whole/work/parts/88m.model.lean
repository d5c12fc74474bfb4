/-! THE PURE SIDE, 55: the reference is made; all is ready -/
def mr0 : Nat → Int32 := fun i => if i < 100 then -1 else if i < 105 then 1 else 0
def mr1 : Nat → Int32 := fup (fup (fup (fup (fup (fup (fup (fup (fup (fup mr0 (20 * 0 + 0) 90) (20 * 0 + 1) 80) (20 * 0 + 2) 70) (20 * 0 + 3) 10) (20 * 1 + 1) 85) (20 * 1 + 2) 75) (20 * 1 + 0) 20) (20 * 2 + 2) 95) (20 * 2 + 0) 60) (20 * 2 + 4) 50
def mr2 : Nat → Int32 := bgn (fup (fup mr1 106 1) 107 1) 5 2
theorem mr2_eq : ∀ k, k < 230 → mr2 k = itN 10 k := by decide +kernel
theorem itN_G : (GD (itN 10) 0 ∧ XG (itN 10)) := by
  refine ⟨⟨itN_MG 10 (Nat.le_refl _), fun i hi => ⟨1, by omega, by rw [itN_hi 10 (Nat.le_refl _) (100 + i) (by omega), n0_w hi]; rfl⟩, ?_⟩, ?_⟩
  · have e : NG n0 0 := by
      have e1 : cm n0 = 0 := by decide
      have e2 : wd n0 = 5 := by decide
      have e3 : mn n0 = 2 := by decide
      refine ⟨by rw [e1]; decide, by omega, by rw [e2]; decide, by omega, by rw [e3]; decide, by omega, fun k hk => ?_, fun k hk _ => n0_225 hk, fun i k hi hk _ _ => n0_221 hi⟩
      rw [n0_inw] at hk; omega
    exact NG_congr e (fun k hk => itN_hi 10 (Nat.le_refl _) k (by omega))
  · have e : XG n0 := fun k _ hk => n0_221 hk
    exact XG_congr e (fun k hk => itN_hi 10 (Nat.le_refl _) k (by omega))
theorem i_row {g : mxH} (W : WFc 317 334 g) (z : V g 320 = fun _ => 0) {Q : mxH → Prop} (kk : ∀ g', Frc 317 334 (fun b => b = 320) g g' → V g' 320 = mr2 → Q g') :
    Ok (Option.bind (mxLoop (ρ := mxH) (fun s57 : (Int32 × mxH) => (if 100 ≤ s57.1 then some (Sum.inr s57.2) else Option.bind (gR s57.2 319 10 0) (fun r66 => Option.bind (stI s57.2 r66 (0 + s57.1) (-1)) (fun h68 => some (Sum.inl (s57.1 + 1, h68)))))) mxF (0, g)) (fun r70 : mxH => Option.bind (mxLoop (ρ := mxH) (fun s71 : (Int32 × mxH) => (if 5 ≤ s71.1 then some (Sum.inr s71.2) else Option.bind (gR s71.2 319 10 0) (fun r80 => Option.bind (stI s71.2 r80 (100 + s71.1) 1) (fun h82 => some (Sum.inl (s71.1 + 1, h82)))))) mxF (0, r70)) (fun r84 : mxH => Option.bind (isO r84 319 10) (fun u85 => Option.bind (fX10_lays 319 0 0 90 r84) (fun o88 => Option.bind (isO o88 319 10) (fun u89 => Option.bind (fX10_lays 319 0 1 80 o88) (fun o92 => Option.bind (isO o92 319 10) (fun u93 => Option.bind (fX10_lays 319 0 2 70 o92) (fun o96 => Option.bind (isO o96 319 10) (fun u97 => Option.bind (fX10_lays 319 0 3 10 o96) (fun o100 => Option.bind (isO o100 319 10) (fun u101 => Option.bind (fX10_lays 319 1 1 85 o100) (fun o104 => Option.bind (isO o104 319 10) (fun u105 => Option.bind (fX10_lays 319 1 2 75 o104) (fun o108 => Option.bind (isO o108 319 10) (fun u109 => Option.bind (fX10_lays 319 1 0 20 o108) (fun o112 => Option.bind (isO o112 319 10) (fun u113 => Option.bind (fX10_lays 319 2 2 95 o112) (fun o116 => Option.bind (isO o116 319 10) (fun u117 => Option.bind (fX10_lays 319 2 0 60 o116) (fun o120 => Option.bind (isO o120 319 10) (fun u121 => Option.bind (fX10_lays 319 2 4 50 o120) (fun o124 => Option.bind (gR o124 319 10 0) (fun r125 => Option.bind (stI o124 r125 106 1) (fun h127 => Option.bind (gR h127 319 10 0) (fun r129 => Option.bind (stI h127 r129 107 1) (fun h131 => Option.bind (isO h131 319 10) (fun u133 => Option.bind (fX10_begins 319 5 2 h131) (fun o136 => some o136))))))))))))))))))))))))))))) Q := by
  refine Ok_b (P := fun g1 => Frc 317 334 (fun b => b = 320) g g1 ∧ V g1 320 = fun i => if i < 100 then -1 else 0) (Ok_loop (fun k s => s.1 = Int32.ofNat k ∧ Frc 317 334 (fun b => b = 320) g s.2 ∧ V s.2 320 = fun i => if i < k then -1 else 0) 100 ⟨rfl, Frc.refl W, by rw [z]; funext i; rw [if_neg (Nat.not_lt_zero _)]⟩ ?_ ?_) (fun g1 ⟨F1, v1⟩ => ?_)
  · rintro k ⟨q1, g1⟩ hk ⟨e1, F, v⟩
    obtain rfl := show q1 = _ from e1
    have F : Frc 317 334 (fun b => b = 320) g g1 := F
    have v : V g1 320 = _ := v
    obtain ⟨a1, a2, a3, a4⟩ := st_nowc F.1 v (k := k) (x := -1) (by omega)
    simp only [if_neg (n100 hk), gM0c F.1, bN, show (0 : Int32) + Int32.ofNat k = Int32.ofNat k from by rw [show (0 : Int32) + Int32.ofNat k = Int32.ofNat (0 + k) from ixa 0 k, Nat.zero_add], a1, ofN_succ]
    refine Ok_p ⟨_, rfl, rfl, F.trans a4, ?_⟩
    show V (st _ _ _ _) 320 = _
    rw [a3]
    funext i
    unfold fup
    dsimp only
    by_cases q : i = k
    · rw [if_pos q, if_pos (by omega)]
    · rw [if_neg q]
      by_cases q2 : i < k
      · rw [if_pos q2, if_pos (by omega)]
      · rw [if_neg q2, if_neg (by omega)]
  · rintro ⟨q1, g1⟩ ⟨e1, F, v⟩
    obtain rfl := show q1 = _ from e1
    exact Ok_e (a := .inr g1) (if_pos yle) ⟨g1, rfl, F, v⟩
  refine Ok_b (P := fun g2 => Frc 317 334 (fun b => b = 320) g g2 ∧ V g2 320 = mr0) (Ok_loop (fun k s => s.1 = Int32.ofNat k ∧ Frc 317 334 (fun b => b = 320) g s.2 ∧ V s.2 320 = fun i => if i < 100 then -1 else if i < 100 + k then 1 else 0) 5 ⟨rfl, F1, by
    rw [v1]
    funext i
    by_cases q : i < 100
    · rw [if_pos q, if_pos q]
    · rw [if_neg q, if_neg q, if_neg (by omega)]⟩ ?_ ?_) (fun g2 ⟨F2, v2⟩ => ?_)
  · rintro k ⟨q1, g1⟩ hk ⟨e1, F, v⟩
    obtain rfl := show q1 = _ from e1
    have F : Frc 317 334 (fun b => b = 320) g g1 := F
    have v : V g1 320 = _ := v
    obtain ⟨a1, a2, a3, a4⟩ := st_nowc F.1 v (k := 100 + k) (x := 1) (by omega)
    simp only [if_neg (n5 hk), gM0c F.1, bN, show (100 : Int32) + Int32.ofNat k = Int32.ofNat (100 + k) from ixa 100 k, a1, ofN_succ]
    refine Ok_p ⟨_, rfl, rfl, F.trans a4, ?_⟩
    show V (st _ _ _ _) 320 = _
    rw [a3]
    funext i
    unfold fup
    dsimp only
    by_cases q : i = 100 + k
    · rw [if_pos q, if_neg (by omega), if_pos (by omega)]
    · rw [if_neg q]
      by_cases q0 : i < 100
      · rw [if_pos q0, if_pos q0]
      · rw [if_neg q0, if_neg q0]
        by_cases q2 : i < 100 + k
        · rw [if_pos q2, if_pos (by omega)]
        · rw [if_neg q2, if_neg (by omega)]
  · rintro ⟨q1, g1⟩ ⟨e1, F, v⟩
    obtain rfl := show q1 = _ from e1
    exact Ok_e (a := .inr g1) (if_pos yle) ⟨g1, rfl, F, v⟩
  have go : ∀ {g3 : mxH} {n : Nat → Int32} {i t : Nat} {x : Int32} {r : mxH → Option mxH} (hi : i < 5) (ht : t < 20), Frc 317 334 (fun b => b = 320) g g3 → V g3 320 = n → (∀ g4, Frc 317 334 (fun b => b = 320) g g4 → V g4 320 = fup n (20 * i + t) x → Ok (r g4) Q) → Ok (Option.bind (isO g3 319 10) (fun _ => Option.bind (fX10_lays 319 (Int32.ofNat i) (Int32.ofNat t) x g3) r)) Q := fun {g3 n i t x r} hi ht F v k => by
    obtain ⟨l1, l2⟩ := m_laysc F.1 v (x := x) hi ht
    exact Ok_s (isO_Xc F.1) (Ok_s l1 (k _ (F.trans (Frc.st F.1 (ar_nowc.sl (show 20 * i + t < 230 by omega)) rfl)) l2))
  refine go (i := 0) (t := 0) (by omega) (by omega) F2 v2 (fun g3 F2 v2 => ?_)
  refine go (i := 0) (t := 1) (by omega) (by omega) F2 v2 (fun g3 F2 v2 => ?_)
  refine go (i := 0) (t := 2) (by omega) (by omega) F2 v2 (fun g3 F2 v2 => ?_)
  refine go (i := 0) (t := 3) (by omega) (by omega) F2 v2 (fun g3 F2 v2 => ?_)
  refine go (i := 1) (t := 1) (by omega) (by omega) F2 v2 (fun g3 F2 v2 => ?_)
  refine go (i := 1) (t := 2) (by omega) (by omega) F2 v2 (fun g3 F2 v2 => ?_)
  refine go (i := 1) (t := 0) (by omega) (by omega) F2 v2 (fun g3 F2 v2 => ?_)
  refine go (i := 2) (t := 2) (by omega) (by omega) F2 v2 (fun g3 F2 v2 => ?_)
  refine go (i := 2) (t := 0) (by omega) (by omega) F2 v2 (fun g3 F2 v2 => ?_)
  refine go (i := 2) (t := 4) (by omega) (by omega) F2 v2 (fun g3 F2 v2 => ?_)
  have v2 : V g3 320 = mr1 := v2
  obtain ⟨a1, a2, a3, a4⟩ := st_nowc F2.1 v2 (k := 106) (x := 1) (by omega)
  refine Ok_s (gM0c F2.1) (Ok_s (show stI g3 320 106 1 = _ from a1) ?_)
  obtain ⟨b1, b2, b3, b4⟩ := st_nowc a2 a3 (k := 107) (x := 1) (by omega)
  refine Ok_s (gM0c a2) (Ok_s (show stI _ 320 107 1 = _ from b1) ?_)
  refine Ok_s (isO_Xc b2) (Ok_b (m_beginsc b2 b3 5 2) (fun g4 ⟨F4, v4⟩ => Ok_p (kk g4 ((F2.trans (a4.trans b4)).trans F4) v4)))
/-- all is ready -/
theorem i_model {g h1 : mxH} {xs : List Int32} (H : HD xs g) (P : PS g 320 g 319 320 10 [.null, .null, .int 0, .int 0, .null, .null, .null, .null, .null, .null, .null, .null, .null, .null, .null, .null] [] h1) : Ok (fX10_init 319 h1) (fun h4 => h4.2 = 334 ∧ (∃ h5, nwJ h4 1 = some h5) ∧ ∀ h5, nwJ h4 1 = some h5 → ∃ n, Inv h5 n 0 0 xs) := by
  obtain ⟨d1, d2, d3, d4, d5, d6, d7⟩ := H
  unfold fX10_init
  rw [P.1]
  refine Ok_b (PS_I P (n := 230) (show lay 320 = _ from rfl)) (fun h1 P1 => ?_)
  refine Ok_b (PS_R P1 0 320) (fun h3 P3 => ?_)
  have P3 : PS g 320 g 319 321 10 _ _ h3 := P3
  rw [P3.1]
  refine Ok_b (PS_I P3 (n := 1840) (show lay 321 = _ from rfl)) (fun h5 P5 => ?_)
  refine Ok_b (PS_R P5 1 321) (fun h7 P7 => ?_)
  have P7 : PS g 320 g 319 322 10 _ _ h7 := P7
  rw [P7.1]
  refine Ok_b (PS_I P7 (n := 5) (show lay 322 = _ from rfl)) (fun h9 P9 => ?_)
  refine Ok_b (PS_R P9 4 322) (fun h11 P11 => ?_)
  have P11 : PS g 320 g 319 323 10 _ _ h11 := P11
  rw [P11.1]
  refine Ok_b (PS_I P11 (n := 20) (show lay 323 = _ from rfl)) (fun h13 P13 => ?_)
  refine Ok_b (PS_R P13 5 323) (fun h15 P15 => ?_)
  have P15 : PS g 320 g 319 324 10 _ _ h15 := P15
  rw [P15.1]
  refine Ok_b (PS_I P15 (n := 20) (show lay 324 = _ from rfl)) (fun h17 P17 => ?_)
  refine Ok_b (PS_R P17 6 324) (fun h19 P19 => ?_)
  have P19 : PS g 320 g 319 325 10 _ _ h19 := P19
  rw [P19.1]
  refine Ok_b (PS_I P19 (n := 100) (show lay 325 = _ from rfl)) (fun h21 P21 => ?_)
  refine Ok_b (PS_R P21 7 325) (fun h23 P23 => ?_)
  have P23 : PS g 320 g 319 326 10 _ _ h23 := P23
  rw [P23.1]
  refine Ok_b (PS_I P23 (n := 100) (show lay 326 = _ from rfl)) (fun h25 P25 => ?_)
  refine Ok_b (PS_R P25 8 326) (fun h27 P27 => ?_)
  have P27 : PS g 320 g 319 327 10 _ _ h27 := P27
  rw [P27.1]
  refine Ok_b (PS_I P27 (n := 100) (show lay 327 = _ from rfl)) (fun h29 P29 => ?_)
  refine Ok_b (PS_R P29 9 327) (fun h31 P31 => ?_)
  have P31 : PS g 320 g 319 328 10 _ _ h31 := P31
  rw [P31.1]
  refine Ok_b (PS_I P31 (n := 6) (show lay 328 = _ from rfl)) (fun h33 P33 => ?_)
  refine Ok_b (PS_R P33 10 328) (fun h35 P35 => ?_)
  have P35 : PS g 320 g 319 329 10 _ _ h35 := P35
  rw [P35.1]
  refine Ok_b (PS_I P35 (n := 6) (show lay 329 = _ from rfl)) (fun h37 P37 => ?_)
  refine Ok_b (PS_R P37 11 329) (fun h39 P39 => ?_)
  have P39 : PS g 320 g 319 330 10 _ _ h39 := P39
  rw [P39.1]
  refine Ok_b (PS_I P39 (n := 6) (show lay 330 = _ from rfl)) (fun h41 P41 => ?_)
  refine Ok_b (PS_R P41 12 330) (fun h43 P43 => ?_)
  have P43 : PS g 320 g 319 331 10 _ _ h43 := P43
  rw [P43.1]
  refine Ok_b (PS_Z P43 (n := 20) (show lay 331 = _ from rfl)) (fun h45 P45 => ?_)
  refine Ok_b (PS_R P45 13 331) (fun h47 P47 => ?_)
  have P47 : PS g 320 g 319 332 10 _ _ h47 := P47
  rw [P47.1]
  refine Ok_b (PS_I P47 (n := 20) (show lay 332 = _ from rfl)) (fun h49 P49 => ?_)
  refine Ok_b (PS_R P49 14 332) (fun h51 P51 => ?_)
  have P51 : PS g 320 g 319 333 10 _ _ h51 := P51
  rw [P51.1]
  refine Ok_b (PS_I P51 (n := 20) (show lay 333 = _ from rfl)) (fun h53 P53 => ?_)
  refine Ok_b (PS_R P53 15 333) (fun q P55 => ?_)
  have P55 : PS g 320 g 319 334 10 [.ref 320, .ref 321, .int 0, .int 0, .ref 322, .ref 323, .ref 324, .ref 325, .ref 326, .ref 327, .ref 328, .ref 329, .ref 330, .ref 331, .ref 332, .ref 333] [333, 332, 330, 329, 328, 327, 326, 325, 324, 323, 322, 321, 320] q := P55
  have Rd : Rdy g 319 334 q := PS_done P55 (by
    refine ⟨rfl, fun z => absurd z (show ¬ ((10 : Nat) = 100 ∨ (10 : Nat) = 101) by decide), fun z => absurd z (show ¬ (10 : Nat) = 102 by decide), fun z => absurd z (show ¬ (10 : Nat) = 103 by decide), fun _ j hj => ?_, fun z => absurd z (show ¬ (10 : Nat) = 104 by decide)⟩
    have hj : j < 16 := hj
    rcases (show j = 0 ∨ j = 1 ∨ j = 2 ∨ j = 3 ∨ j = 4 ∨ j = 5 ∨ j = 6 ∨ j = 7 ∨ j = 8 ∨ j = 9 ∨ j = 10 ∨ j = 11 ∨ j = 12 ∨ j = 13 ∨ j = 14 ∨ j = 15 by omega) with rfl | rfl | rfl | rfl | rfl | rfl | rfl | rfl | rfl | rfl | rfl | rfl | rfl | rfl | rfl | rfl
    all_goals first | exact ⟨fun z => absurd z (Nat.succ_ne_zero _), fun _ => rfl⟩ | exact ⟨fun _ => ⟨_, rfl⟩, fun z => absurd rfl z⟩)
  have W : WFc 317 334 q := ⟨Rd.1, fun a a1 a2 => Rd.2.2.2 a a1 a2⟩
  have z : V q 320 = fun _ => 0 := funext (P55.2.2.2.2.2.2.1 320 (by simp)).2.2
  have v2 : V q 319 2 = 0 := by
    unfold V; rw [P55.2.2.2.1]; rfl
  have fr0 : ∀ g', Frc 317 334 (fun b => b = 320) q g' → Fresh g' := fun g' F b hb => by
    rw [F.1.1] at hb
    rw [F.2 b trivial (by omega)]; exact Rd.2.1 b (by rw [Rd.1]; exact hb)
  refine i_row W z (fun g' F v => ⟨F.1.1, ⟨_, if_pos (fr0 g' F g'.2 (Nat.le_refl _))⟩, fun h5 e5 => ?_⟩)
  have fr : Fresh g' := fr0 g' F
  unfold nwJ at e5
  rw [if_pos (fr g'.2 (Nat.le_refl _))] at e5
  have e5 := Option.some.inj e5
  have ne : ∀ b, b ≠ 334 → h5.1 b = g'.1 b := fun b hb => by rw [← e5, new_ne (by rw [F.1.1]; exact hb)]
  have at334 : h5.1 334 = (102, [], List.replicate 1 (.long 0)) := by rw [← e5, ← F.1.1, new_eq]
  have low : ∀ b, b < 319 → h5.1 b = g.1 b := fun b hb => by rw [ne b (by omega), F.2 b trivial (by omega), Rd.2.2.1 b hb]
  have WF5 : WF h5 := by
    refine ⟨by rw [← e5]; show g'.2 + 1 = _; rw [F.1.1], fun a a1 a2 => ?_⟩
    by_cases q1 : a < 319
    · rw [low a q1]; exact d4 a a1 q1
    · by_cases q2 : a = 334
      · rw [q2, at334]
        exact ⟨rfl, fun z => absurd z (show ¬ ((102 : Nat) = 100 ∨ (102 : Nat) = 101) by decide), fun _ => rfl, fun z => absurd z (show ¬ (102 : Nat) = 103 by decide), fun z => absurd z (show ¬ (102 : Nat) < 100 by decide), fun z => absurd z (show ¬ (102 : Nat) = 104 by decide)⟩
      · rw [ne a q2]; exact F.1.2 a (by omega) (by omega)
  have v320 : V h5 320 = mr2 := by
    have : V h5 320 = V g' 320 := by unfold V; rw [ne 320 (by omega)]
    rw [this, v]
  have v319 : V h5 319 2 = 0 := by
    have : V h5 319 = V q 319 := by unfold V; rw [ne 319 (by omega), F.2 319 trivial (by omega)]
    rw [this]; exact v2
  have v32 : V h5 32 1 = 0 := by
    have : V h5 32 = V g 32 := by unfold V; rw [low 32 (by omega)]
    rw [this]; exact d6
  refine ⟨V h5 320, Inv_new (n' := itN 10) (B := fun _ _ => 0) (c' := 0) WF5 (by rw [low 0 (by omega)]; exact d3) (SR_eq d5 (fun b b1 b2 => low b (by omega))) ⟨v32, by omega, fun k => k, fun k hk => hk, fun i k _ _ e => e, fun k hk => ?_, fun k hk => absurd hk (Nat.not_lt_zero _)⟩ v319 (fun k hk => by rw [v320]; exact mr2_eq k hk) (fun i hi => absurd hi (Nat.not_lt_zero _)) itN_G (fun i hi => absurd hi (Nat.not_lt_zero _))⟩
  rw [low 33 (by omega)]; exact d7 k hk
