/-! THE PURE SIDE, 67: the law comes to its end -/
theorem Ok_1 {β : Type} {f : Option (Int32 × mxH)} {P : Int32 × mxH → Prop} {rest : Int32 × mxH → Option β} {Q : β → Prop} (h : Ok f (fun o => o.1 = 1 ∧ P o)) (k : ∀ o : Int32 × mxH, P o → Ok (rest o) Q) : Ok (Option.bind f (fun o => if o.1 = 0 then none else rest o)) Q := by
  refine Ok_b h (fun o ⟨e, p⟩ => ?_)
  rw [if_neg (by rw [e]; decide)]
  exact k o p
section
variable {h : mxH} {n : Nat → Int32} {c j : Nat} {B : Nat → Nat → Int32}
theorem w_rd {N : Nat} {x : Int32} (N1 : 1 ≤ N) (N2 : N ≤ 20) (ex : x = Int32.ofNat N) (I : LSt h n n c B j) (hb : h.2 + 9000 ≤ 1000000) {Q : mxH → Prop} {rest : Int32 × mxH → Option mxH} (kk : ∀ o : Int32 × mxH, (∃ c' B', LSt o.2 n n c' B' (j + 10)) → o.2.2 ≤ h.2 + 7300 → Ok (rest o) Q) :
    Ok (Option.bind (gR h 0 11 1) (fun r19 => Option.bind (isO h r19 10) (fun _ => Option.bind (fX10_next r19 x h) (fun o24 => Option.bind (isO o24.2 0 11) (fun _ => Option.bind (fL_isRightToStop 0 (1 + o24.1) o24.2) (fun o28 => (if o28.1 = 0 then none else Option.bind (isO o28.2 0 11) (fun _ => Option.bind (fL_isPlain 0 (1 + o24.1) o28.2) (fun o33 => (if o33.1 = 0 then none else Option.bind (isO o33.2 0 11) (fun _ => Option.bind (fL_areHeld 0 o33.2) (fun o38 => (if o38.1 = 0 then none else rest o38))))))))))))) Q := by
  rw [I.gd, bN, I.d, bN, ex]
  refine Ok_b (k_next I N1 (by omega)) (fun o1 ⟨⟨y, hy, ey⟩, I1, v1⟩ => ?_)
  have z1 : o1.2.2 ≤ h.2 + 0 := v1.2.1
  rw [I1.o, bN, ey, one_add]
  refine Ok_1 (w_isRightToStop (k := y + 1) I1 (by omega) (by omega) (by omega)) (fun o2 ⟨⟨c2, B2, I2⟩, v2⟩ => ?_)
  have z2 : o2.2.2 ≤ o1.2.2 + 5000 := v2.2.1
  rw [I2.o, bN]
  refine Ok_1 (w_isPlain (k := y + 1) I2 (by omega) (by omega) (by omega)) (fun o3 ⟨I3, v3⟩ => ?_)
  have z3 : o3.2.2 ≤ o2.2.2 + 300 := v3.2.1
  rw [I3.o, bN]
  refine Ok_1 (w_areHeld I3 (by omega)) (fun o4 ⟨I4, v4⟩ => ?_)
  have z4 : o4.2.2 ≤ o3.2.2 + 2000 := v4.2.1
  exact kk o4 ⟨c2, B2, I4⟩ (by omega)
theorem w_law {xs : List Int32} (hx : xs.length ≤ 260) {h : mxH} (h2 : h.2 = 0) (hf : ∀ b, b < 1000000 → (h.1 b).1 = 300) (hxs : h.1 1000000 = (100, xs, [])) (hfi : h.1 1000001 = (100, mxFI, [])) : Ok (fL_law 1000000 h) (fun _ => True) := by
  unfold fL_law
  rw [h2]
  have e1 : nwO h 11 [.null, .null, .null, .null, .int 0] = some (mxNew h (11, [], [.null, .null, .null, .null, .int 0])) := by
    unfold nwO
    rw [if_pos (hf h.2 (by omega))]
  refine Ok_s e1 ?_
  have a0 : (mxNew h (11, [], [.null, .null, .null, .null, .int 0])).1 0 = (11, [], [.null, .null, .null, .null, .int 0]) := by
    have := new_eq (h := h) (e := (11, [], [.null, .null, .null, .null, .int 0]))
    rwa [h2] at this
  have an : ∀ b, b ≠ 0 → (mxNew h (11, [], [.null, .null, .null, .null, .int 0])).1 b = h.1 b := fun b hb => new_ne (by omega)
  have a2 : (mxNew h (11, [], [.null, .null, .null, .null, .int 0])).2 = 1 := by show h.2 + 1 = 1; rw [h2]
  generalize mxNew h (11, [], [.null, .null, .null, .null, .int 0]) = h1 at a0 an a2
  have e3 : nwO h1 10 [.long 0] = some (mxNew h1 (10, [], [.long 0])) := by
    unfold nwO
    rw [if_pos (by rw [a2, an 1 (by omega)]; exact hf 1 (by omega))]
  refine Ok_s e3 ?_
  rw [a2]
  have b1 : (mxNew h1 (10, [], [.long 0])).1 1 = (10, [], [.long 0]) := by
    have := new_eq (h := h1) (e := (10, [], [.long 0]))
    rwa [a2] at this
  have bn : ∀ b, b ≠ 1 → (mxNew h1 (10, [], [.long 0])).1 b = h1.1 b := fun b hb => new_ne (by omega)
  have b2 : (mxNew h1 (10, [], [.long 0])).2 = 2 := by show h1.2 + 1 = 2; rw [a2]
  generalize mxNew h1 (10, [], [.long 0]) = h3 at b1 bn b2
  refine Ok_b (w_seed hx b2 b1 (by rw [bn _ (by omega), an _ (by omega)]; exact hxs)) (fun h6 ⟨c2, ⟨s, c1⟩, cn⟩ => ?_)
  have F : Fresh h6 := ⟨by omega, fun b q1 q2 => by rw [cn b (by omega), bn b (by omega), an b (by omega)]; exact hf b q2, by rw [cn _ (by omega), bn _ (by omega), an _ (by omega)]; exact hfi⟩
  refine Ok_b (w_init c2 F (by rw [cn 0 (by omega), bn 0 (by omega)]; exact a0) c1) (fun h8 ⟨I8, z8⟩ => ?_)
  have I8 : LSt h8 (itN 10) (itN 10) 0 (fun _ => n0) 0 := I8
  rw [I8.o, bN]
  have n5 : itN 10 105 = 0 := by rw [itN_hi 10 (Nat.le_refl _) 105 (by omega)]; rfl
  refine Ok_1 (w_draws I8 itN_TG n5) (fun o1 ⟨⟨n, c1, B1, I1, T1⟩, v1⟩ => ?_)
  have z1 : o1.2.2 ≤ h8.2 + 0 := v1.2.1
  clear cn bn an F hf I8 v1
  rw [I1.o, bN]
  refine Ok_1 (w_areRanked I1 (by omega)) (fun o2 ⟨I2, v2⟩ => ?_)
  have z2 : o2.2.2 ≤ o1.2.2 + 920 := v2.2.1
  refine w_rd (N := 20) (x := 20) (by omega) (by omega) rfl I2 (by omega) (fun o3 ⟨c3, B3, I3⟩ z3 => ?_)
  refine w_rd (N := 5) (x := 5) (by omega) (by omega) rfl I3 (by omega) (fun o4 ⟨c4, B4, I4⟩ z4 => ?_)
  refine w_rd (N := 5) (x := 5) (by omega) (by omega) rfl I4 (by omega) (fun o5 ⟨c5, B5, I5⟩ z5 => ?_)
  rw [I5.o, bN]
  refine Ok_1 (w_areMerged I5 T1 (by omega)) (fun o6 ⟨I6, v6⟩ => ?_)
  have z6 : o6.2.2 ≤ o5.2.2 + 60 := v6.2.1
  rw [I6.o, bN]
  refine Ok_1 (w_arePairs I6) (fun o7 ⟨I7, v7⟩ => ?_)
  have z7 : o7.2.2 ≤ o6.2.2 + 0 := v7.2.1
  rw [I7.o, bN]
  refine Ok_1 (w_areVotes I7 (by omega)) (fun o8 ⟨I8, v8⟩ => ?_)
  have z8 : o8.2.2 ≤ o7.2.2 + 1000 := v8.2.1
  rw [I8.o, bN]
  refine Ok_1 (w_comeBy I8 T1 (by omega) (by omega)) (fun o9 ⟨⟨m, c9, B9, j9, I9⟩, v9⟩ => ?_)
  rw [I9.go, bN, I9.hO, bN]
  refine Ok_b (q_errors I9.W I9.S I9.G) (fun o ⟨e, _⟩ => ?_)
  rw [e, no_flt I9.G.1 I9.G.2.1, if_pos (show Int32.ofNat 0 = 0 from rfl)]
  exact Ok_p trivial
end
theorem law_pure (xs : List Int32) (hx : xs.length ≤ 260) : ∃ h', fL_law 1000000 (mxH0 xs) = some h' := by
  obtain ⟨h', e, -⟩ := w_law hx (h := mxH0 xs) rfl (fun b hb => by
    show ((if b = 1000000 then _ else if b = 1000001 then _ else _ : mxE)).1 = 300
    rw [if_neg (by omega), if_neg (by omega)]) rfl rfl
  exact ⟨h', e⟩
