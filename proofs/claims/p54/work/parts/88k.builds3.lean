/-! THE PURE SIDE, 53: history, rankings, reader, merger, votes, pairs are made -/
theorem up_ne {h : mxH} {a b : Nat} {e : mxE} (hb : b ≠ a) : (mxUp h a e).1 b = h.1 b := if_neg hb
theorem up_eq {h : mxH} {a : Nat} {e : mxE} : (mxUp h a e).1 a = e := if_pos rfl
theorem fits_tag {a : Nat} {e : mxE} (f : fits (lay a) e) : e.1 = (lay a).1 := f.1
/-- a cell of what is being made is written anew -/
theorem PS_mod {K h g : mxH} {r T ci a : Nat} {fs : List Value} {e : mxE} (P : PS K (r + 1) h r T ci fs [] g) (h1 : r < a) (h2 : a < T) (f : fits (lay a) e) : PS K (r + 1) h r T ci fs [] (mxUp g a e) := by
  obtain ⟨p1, p2, p3, p4, p5, p6, p7, p8, p9⟩ := P
  have ne : ∀ b, b ≠ a → (mxUp g a e).1 b = g.1 b := fun b hb => if_neg hb
  have pT := p2.1
  refine ⟨p1, ⟨p2.1, fun b hb hb2 => ?_, by rw [ne 1000001 (by omega)]; exact p2.2.2⟩, fun b hb => ?_, ?_, p5, fun b b1 b2 => ?_, fun b hb => (by cases hb), p8, fun b b1 b2 => by omega⟩
  · have hb : g.2 ≤ b := hb
    rw [ne b (by omega)]; exact p2.2.1 b hb hb2
  · rw [ne b (by omega)]; exact p3 b hb
  · rw [ne r (by omega)]; exact p4
  · by_cases q : b = a
    · rw [q]
      show fits _ (if a = a then e else _)
      rw [if_pos rfl]; exact f
    · rw [ne b q]; exact p6 b b1 b2
def HSt (h0 : mxH) (k : Nat) (g : mxH) : Prop := PS g 33 h0 32 (34 + 29 * k) 0 [.ref 33, .int 0] [] g ∧ ∃ L : List Value, g.1 33 = (104, [], L) ∧ L.length = 8 ∧ ∀ i, i < k → L[i]? = some (.ref (34 + 29 * i))
theorem H_step {h0 g : mxH} {k : Nat} {rest : mxH → Option mxH} {Q : mxH → Prop} (hk : k < 8) (St : HSt h0 k g) (kk : ∀ g', HSt h0 (k + 1) g' → Ok (rest g') Q) :
    Ok (Option.bind (gR g 32 0 0) (fun r7 => Option.bind (nwO g 7 [.null, .null, .int 0, .int 0]) (fun h9 => Option.bind (fX7_init g.2 h9) (fun o12 => Option.bind (stR o12 r7 (Int32.ofNat k) g.2) rest)))) Q := by
  obtain ⟨P, L, e33, e8, eL⟩ := St
  have S : SB (34 + 29 * k) := SB_q hk
  have er : gR g 32 0 0 = some 33 := by
    unfold gR
    rw [if_pos ⟨by rw [P.1]; omega, by rw [P.2.2.2.1]⟩, P.2.2.2.1]; rfl
  refine Ok_s er (Ok_b (PS_0 P.1 P.2.1 7 _) (fun h9 Q9 => ?_))
  rw [P.1]
  refine Ok_b (i_state S Q9) (fun o ⟨Ro, Ao⟩ => ?_)
  have Po : PS g 33 h0 32 (34 + 29 * k + 29) 0 [.ref 33, .int 0] [] o := PS_in P Ro (by omega)
  have eo33 : o.1 33 = (104, [], L) := by rw [Ro.2.2.1 33 (by omega)]; exact e33
  have eos : (o.1 (34 + 29 * k)).1 = 7 := by rw [fits_tag (Ro.2.2.2 (34 + 29 * k) (Nat.le_refl _) (by omega)), lay_S0 S]
  have est : stR o 33 (Int32.ofNat k) (34 + 29 * k) = some (mxUp o 33 (104, [], L.set k (.ref (34 + 29 * k)))) := by
    unfold stR
    rw [ofN_clamp (by omega), if_pos ⟨⟨by rw [Po.1]; omega, by omega⟩, ⟨by rw [eo33], by rw [Po.1]; omega, eos⟩, ofN_nn (by omega), by rw [eo33]; show k < L.length; omega⟩, eo33]
  refine Ok_s est (kk _ ?_)
  have l33 : lay 33 = (104, 8, []) := rfl
  have Pm := PS_mod (a := 33) (e := (104, [], L.set k (.ref (34 + 29 * k)))) Po (by omega) (by omega) (by
    rw [l33]
    exact ⟨rfl, fun z => absurd z (show ¬ ((104 : Nat) = 100 ∨ (104 : Nat) = 101) by decide), fun z => absurd z (show ¬ (104 : Nat) = 102 by decide), fun z => absurd z (show ¬ (104 : Nat) = 103 by decide), fun z => absurd z (show ¬ (104 : Nat) < 100 by decide), fun _ => by show (L.set k _).length = 8; rw [List.length_set]; exact e8⟩)
  obtain ⟨m1, m2, m3, m4, m5, m6, m7, m8, m9⟩ := Pm
  refine ⟨⟨by rw [m1]; omega, m2, m3, m4, by omega, fun a a1 a2 => m6 a a1 (by omega), m7, by omega, fun _ _ _ => rfl⟩, L.set k (.ref (34 + 29 * k)), up_eq, by rw [List.length_set]; exact e8, fun i hi => ?_⟩
  by_cases q : i = k
  · rw [q, List.getElem?_set_self (by omega)]
  · rw [List.getElem?_set_ne (fun z => q z.symm)]; exact eL i (by omega)
theorem PS_Re {K h g : mxH} {D r T ci : Nat} {fs : List Value} {zs : List Nat} (P : PS K D h r T ci fs zs g) (j x : Nat) : pR g r ci j x = some (mxUp g r (ci, [], fs.set j (.ref x))) := by
  unfold pR
  rw [if_pos ⟨by rw [P.1]; exact P.2.2.2.2.1, by rw [P.2.2.2.1]⟩, P.2.2.2.1]
theorem PS_Pe {K h g : mxH} {D r T ci : Nat} {fs : List Value} {zs : List Nat} (P : PS K D h r T ci fs zs g) (j : Nat) (x : Int32) : pI g r ci j x = some (mxUp g r (ci, [], fs.set j (.int x))) := by
  unfold pI
  rw [if_pos ⟨by rw [P.1]; exact P.2.2.2.2.1, by rw [P.2.2.2.1]⟩, P.2.2.2.1]
theorem i_history {K h0 h : mxH} {D : Nat} (P : PS K D h0 32 33 0 [.null, .int 0] [] h) : Ok (fX0_init 32 h) (fun g => Rdy h0 32 266 g ∧ V g 32 1 = 0 ∧ HS g (fun k => k)) := by
  unfold fX0_init
  rw [P.1]
  have e1 : nwS h 8 = some (mxNew h (104, [], List.replicate 8 .null)) := by
    unfold nwS
    rw [if_pos (P.2.1.2.1 h.2 (Nat.le_refl _) P.2.1.1)]
  have P1 : PS K D h0 32 34 0 [.null, .int 0] [] (mxNew h (104, [], List.replicate 8 .null)) := PS_new P (show fits (lay 33) _ from fits_S) (by omega)
  have a33 : (mxNew h (104, [], List.replicate 8 .null)).1 33 = (104, [], List.replicate 8 .null) := by rw [← P.1, new_eq]
  refine Ok_s e1 ?_
  generalize mxNew h (104, [], List.replicate 8 .null) = g1 at P1 a33
  have P2 := PS_up P1 [.ref 33, .int 0]
  have b33 : (mxUp g1 32 (0, [], [.ref 33, .int 0])).1 33 = (104, [], List.replicate 8 .null) := (up_ne (by omega)).trans a33
  refine Ok_s (show pR g1 32 0 0 33 = some (mxUp g1 32 (0, [], [.ref 33, .int 0])) from PS_Re P1 0 33) ?_
  generalize mxUp g1 32 (0, [], [.ref 33, .int 0]) = g2 at P2 b33
  have P3 := PS_up P2 [.ref 33, .int 0]
  have c33 : (mxUp g2 32 (0, [], [.ref 33, .int 0])).1 33 = (104, [], List.replicate 8 .null) := (up_ne (by omega)).trans b33
  refine Ok_s (show pI g2 32 0 1 0 = some (mxUp g2 32 (0, [], [.ref 33, .int 0])) from PS_Pe P2 1 0) ?_
  generalize mxUp g2 32 (0, [], [.ref 33, .int 0]) = g3 at P3 c33
  have St : HSt h0 0 g3 := by
    obtain ⟨m1, m2, m3, m4, m5, m6, m7, m8, m9⟩ := P3
    exact ⟨⟨m1, m2, m3, m4, m5, m6, m7, by omega, fun _ _ _ => rfl⟩, _, c33, by simp, fun i hi => absurd hi (Nat.not_lt_zero _)⟩
  refine H_step (k := 0) (by omega) St (fun g4 St => ?_)
  refine H_step (k := 1) (by omega) St (fun g5 St => ?_)
  refine H_step (k := 2) (by omega) St (fun g6 St => ?_)
  refine H_step (k := 3) (by omega) St (fun g7 St => ?_)
  refine H_step (k := 4) (by omega) St (fun g8 St => ?_)
  refine H_step (k := 5) (by omega) St (fun g9 St => ?_)
  refine H_step (k := 6) (by omega) St (fun g10 St => ?_)
  refine H_step (k := 7) (by omega) St (fun g11 St => ?_)
  obtain ⟨Pf, L, e33, e8, eL⟩ := St
  refine Ok_p ⟨PS_done Pf ?_, ?_, fun k hk => ?_⟩
  · refine ⟨rfl, fun z => absurd z (show ¬ ((0 : Nat) = 100 ∨ (0 : Nat) = 101) by decide), fun z => absurd z (show ¬ (0 : Nat) = 102 by decide), fun z => absurd z (show ¬ (0 : Nat) = 103 by decide), fun _ j hj => ?_, fun z => absurd z (show ¬ (0 : Nat) = 104 by decide)⟩
    have hj : j < 2 := hj
    rcases (show j = 0 ∨ j = 1 by omega) with rfl | rfl
    · exact ⟨fun z => absurd z (show ¬ (33 : Nat) = 0 by decide), fun _ => rfl⟩
    · exact ⟨fun _ => ⟨_, rfl⟩, fun z => absurd rfl z⟩
  · unfold V
    rw [Pf.2.2.2.1]; rfl
  · rw [e33]; exact eL k hk
theorem i_ranking {K h0 h : mxH} {D k : Nat} (B : KB k) (P : PS K D h0 k (k + 1) 4 [.null, .null, .null, .int 0] [] h) : Ok (fX4_init k h) (fun g => Rdy h0 k (k + 4) g) := by
  have L : ∀ o, 1 ≤ o → o ≤ 3 → lay (k + o) = (100, 20, []) := fun o h1 h2 => by
    rcases B with rfl | rfl <;> rcases (show o = 1 ∨ o = 2 ∨ o = 3 by omega) with rfl | rfl | rfl <;> rfl
  have L0 : lay k = (4, 4, [k + 1, k + 2, k + 3, 0]) := by rcases B with rfl | rfl <;> rfl
  unfold fX4_init
  rw [P.1]
  refine Ok_b (PS_I P (n := 20) (L 1 (by omega) (by omega))) (fun h1 P1 => ?_)
  refine Ok_b (PS_R P1 0 (k + 1)) (fun h3 P3 => ?_)
  have P3 : PS K D h0 k (k + 2) 4 _ _ h3 := P3
  rw [P3.1]
  refine Ok_b (PS_I P3 (n := 20) (L 2 (by omega) (by omega))) (fun h5 P5 => ?_)
  refine Ok_b (PS_R P5 1 (k + 2)) (fun h7 P7 => ?_)
  have P7 : PS K D h0 k (k + 3) 4 _ _ h7 := P7
  rw [P7.1]
  refine Ok_b (PS_I P7 (n := 20) (L 3 (by omega) (by omega))) (fun h9 P9 => ?_)
  refine Ok_b (PS_R P9 2 (k + 3)) (fun h11 P11 => ?_)
  refine Ok_b (PS_P P11 3 0) (fun g P13 => Ok_p (PS_done (T := k + 4) P13 ?_))
  rw [L0]
  refine ⟨rfl, fun z => absurd z (show ¬ ((4 : Nat) = 100 ∨ (4 : Nat) = 101) by decide), fun z => absurd z (show ¬ (4 : Nat) = 102 by decide), fun z => absurd z (show ¬ (4 : Nat) = 103 by decide), fun _ j hj => ?_, fun z => absurd z (show ¬ (4 : Nat) = 104 by decide)⟩
  have hj : j < 4 := hj
  rcases (show j = 0 ∨ j = 1 ∨ j = 2 ∨ j = 3 by omega) with rfl | rfl | rfl | rfl
  all_goals first | exact ⟨fun z => absurd z (Nat.succ_ne_zero _), fun _ => rfl⟩ | exact ⟨fun _ => ⟨_, rfl⟩, fun z => absurd rfl z⟩
theorem i_reader {K h0 h : mxH} {D : Nat} (P : PS K D h0 297 298 5 [.null, .null, .null, .null, .int 0] [] h) : Ok (fX5_init 297 h) (fun g => Rdy h0 297 302 g) := by
  unfold fX5_init
  rw [P.1]
  refine Ok_b (PS_I P (n := 21) (show lay 298 = _ from rfl)) (fun h1 P1 => ?_)
  refine Ok_b (PS_R P1 0 298) (fun h3 P3 => ?_)
  have P3 : PS K D h0 297 299 5 _ _ h3 := P3
  rw [P3.1]
  refine Ok_b (PS_I P3 (n := 21) (show lay 299 = _ from rfl)) (fun h5 P5 => ?_)
  refine Ok_b (PS_R P5 1 299) (fun h7 P7 => ?_)
  have P7 : PS K D h0 297 300 5 _ _ h7 := P7
  rw [P7.1]
  refine Ok_b (PS_I P7 (n := 20) (show lay 300 = _ from rfl)) (fun h9 P9 => ?_)
  refine Ok_b (PS_R P9 2 300) (fun h11 P11 => ?_)
  have P11 : PS K D h0 297 301 5 _ _ h11 := P11
  rw [P11.1]
  refine Ok_b (PS_I P11 (n := 20) (show lay 301 = _ from rfl)) (fun h13 P13 => ?_)
  refine Ok_b (PS_R P13 3 301) (fun h15 P15 => ?_)
  refine Ok_b (PS_P P15 4 0) (fun g P17 => Ok_p (PS_done (T := 302) P17 ?_))
  refine ⟨rfl, fun z => absurd z (show ¬ ((5 : Nat) = 100 ∨ (5 : Nat) = 101) by decide), fun z => absurd z (show ¬ (5 : Nat) = 102 by decide), fun z => absurd z (show ¬ (5 : Nat) = 103 by decide), fun _ j hj => ?_, fun z => absurd z (show ¬ (5 : Nat) = 104 by decide)⟩
  have hj : j < 5 := hj
  rcases (show j = 0 ∨ j = 1 ∨ j = 2 ∨ j = 3 ∨ j = 4 by omega) with rfl | rfl | rfl | rfl | rfl
  all_goals first | exact ⟨fun z => absurd z (Nat.succ_ne_zero _), fun _ => rfl⟩ | exact ⟨fun _ => ⟨_, rfl⟩, fun z => absurd rfl z⟩
theorem i_merger {K h0 h : mxH} {D : Nat} (P : PS K D h0 302 303 1 [.null, .null, .int 0, .null] [] h) : Ok (fX1_init 302 h) (fun g => Rdy h0 302 306 g) := by
  unfold fX1_init
  rw [P.1]
  refine Ok_b (PS_I P (n := 100) (show lay 303 = _ from rfl)) (fun h1 P1 => ?_)
  refine Ok_b (PS_R P1 0 303) (fun h3 P3 => ?_)
  have P3 : PS K D h0 302 304 1 _ _ h3 := P3
  rw [P3.1]
  refine Ok_b (PS_I P3 (n := 100) (show lay 304 = _ from rfl)) (fun h5 P5 => ?_)
  refine Ok_b (PS_R P5 1 304) (fun h7 P7 => ?_)
  refine Ok_b (PS_P P7 2 0) (fun h9 P9 => ?_)
  have P9 : PS K D h0 302 305 1 _ _ h9 := P9
  rw [P9.1]
  refine Ok_b (PS_I P9 (n := 5) (show lay 305 = _ from rfl)) (fun h11 P11 => ?_)
  refine Ok_b (PS_R P11 3 305) (fun g P13 => Ok_p (PS_done (T := 306) P13 ?_))
  refine ⟨rfl, fun z => absurd z (show ¬ ((1 : Nat) = 100 ∨ (1 : Nat) = 101) by decide), fun z => absurd z (show ¬ (1 : Nat) = 102 by decide), fun z => absurd z (show ¬ (1 : Nat) = 103 by decide), fun _ j hj => ?_, fun z => absurd z (show ¬ (1 : Nat) = 104 by decide)⟩
  have hj : j < 4 := hj
  rcases (show j = 0 ∨ j = 1 ∨ j = 2 ∨ j = 3 by omega) with rfl | rfl | rfl | rfl
  all_goals first | exact ⟨fun z => absurd z (Nat.succ_ne_zero _), fun _ => rfl⟩ | exact ⟨fun _ => ⟨_, rfl⟩, fun z => absurd rfl z⟩
theorem i_votes {K h0 h : mxH} {D : Nat} (P : PS K D h0 306 307 8 [.null, .int 0, .null, .null, .null] [] h) : Ok (fX8_init 306 h) (fun g => Rdy h0 306 317 g) := by
  unfold fX8_init
  rw [P.1]
  refine Ok_b (PS_I P (n := 6) (show lay 307 = _ from rfl)) (fun h1 P1 => ?_)
  refine Ok_b (PS_R P1 0 307) (fun h3 P3 => ?_)
  refine Ok_b (PS_P P3 1 0) (fun h5 P5 => ?_)
  have P5 : PS K D h0 306 308 8 _ _ h5 := P5
  rw [P5.1]
  refine Ok_b (PS_G P5 (n := 6) (k := 6) (L := [309, 310, 311, 312, 313, 314]) (show lay 308 = _ from rfl) (fun j hj => by rcases i6 hj with rfl | rfl | rfl | rfl | rfl | rfl <;> rfl) (fun j hj => by rcases i6 hj with rfl | rfl | rfl | rfl | rfl | rfl <;> rfl)) (fun h7 P7 => ?_)
  refine Ok_b (PS_R P7 2 308) (fun h9 P9 => ?_)
  have P9 : PS K D h0 306 315 8 _ _ h9 := P9
  rw [P9.1]
  refine Ok_b (PS_I P9 (n := 64) (show lay 315 = _ from rfl)) (fun h11 P11 => ?_)
  refine Ok_b (PS_R P11 3 315) (fun h13 P13 => ?_)
  have P13 : PS K D h0 306 316 8 _ _ h13 := P13
  rw [P13.1]
  refine Ok_b (PS_I P13 (n := 6) (show lay 316 = _ from rfl)) (fun h15 P15 => ?_)
  refine Ok_b (PS_R P15 4 316) (fun g P17 => Ok_p (PS_done (T := 317) P17 ?_))
  refine ⟨rfl, fun z => absurd z (show ¬ ((8 : Nat) = 100 ∨ (8 : Nat) = 101) by decide), fun z => absurd z (show ¬ (8 : Nat) = 102 by decide), fun z => absurd z (show ¬ (8 : Nat) = 103 by decide), fun _ j hj => ?_, fun z => absurd z (show ¬ (8 : Nat) = 104 by decide)⟩
  have hj : j < 5 := hj
  rcases (show j = 0 ∨ j = 1 ∨ j = 2 ∨ j = 3 ∨ j = 4 by omega) with rfl | rfl | rfl | rfl | rfl
  all_goals first | exact ⟨fun z => absurd z (Nat.succ_ne_zero _), fun _ => rfl⟩ | exact ⟨fun _ => ⟨_, rfl⟩, fun z => absurd rfl z⟩
theorem i_pairs {K h0 h : mxH} {D : Nat} (P : PS K D h0 317 318 3 [.null, .int 0, .int 0, .int 0] [] h) : Ok (fX3_init 317 h) (fun g => Rdy h0 317 319 g) := by
  unfold fX3_init
  rw [P.1]
  refine Ok_b (PS_I P (n := 199) (show lay 318 = _ from rfl)) (fun h1 P1 => ?_)
  refine Ok_b (PS_R P1 0 318) (fun h3 P3 => ?_)
  refine Ok_b (PS_P P3 1 0) (fun h5 P5 => ?_)
  refine Ok_b (PS_P P5 2 0) (fun h7 P7 => ?_)
  refine Ok_b (PS_P P7 3 0) (fun g P9 => Ok_p (PS_done (T := 319) P9 ?_))
  refine ⟨rfl, fun z => absurd z (show ¬ ((3 : Nat) = 100 ∨ (3 : Nat) = 101) by decide), fun z => absurd z (show ¬ (3 : Nat) = 102 by decide), fun z => absurd z (show ¬ (3 : Nat) = 103 by decide), fun _ j hj => ?_, fun z => absurd z (show ¬ (3 : Nat) = 104 by decide)⟩
  have hj : j < 4 := hj
  rcases (show j = 0 ∨ j = 1 ∨ j = 2 ∨ j = 3 by omega) with rfl | rfl | rfl | rfl
  all_goals first | exact ⟨fun z => absurd z (Nat.succ_ne_zero _), fun _ => rfl⟩ | exact ⟨fun _ => ⟨_, rfl⟩, fun z => absurd rfl z⟩
