/-! THE PURE SIDE, 66: the law begins -/
theorem w_seed {xs : List Int32} {h : mxH} (hx : xs.length ≤ 260) (h2 : h.2 = 2) (e1 : h.1 1 = (10, [], [.long 0])) (ex : h.1 1000000 = (100, xs, [])) : Ok (fX10_init 1 1000000 h) (fun g => g.2 = 2 ∧ (∃ s, g.1 1 = (10, [], [.long s])) ∧ ∀ b, b ≠ 1 → g.1 b = h.1 b) := by
  have st : ∀ (g : mxH) (s x : Int64), g.2 = 2 → g.1 1 = (10, [], [.long s]) → ∃ g', pJ g 1 10 0 x = some g' ∧ g'.2 = 2 ∧ g'.1 1 = (10, [], [.long x]) ∧ ∀ b, b ≠ 1 → g'.1 b = g.1 b := fun g s x g2 e => by
    refine ⟨mxUp g 1 (10, [], [.long x]), ?_, g2, mxUp_at, fun b hb => if_neg hb⟩
    unfold pJ
    rw [if_pos ⟨by omega, by rw [e]⟩, e]
    rfl
  have gt : ∀ (g : mxH) (s : Int64), g.2 = 2 → g.1 1 = (10, [], [.long s]) → gJ g 1 10 0 = some s := fun g s g2 e => by
    unfold gJ
    rw [if_pos ⟨by omega, by rw [e]⟩, e]
    rfl
  have lx : ∀ (g : mxH), g.1 1000000 = (100, xs, []) → ∀ k, k < xs.length → ldI g 1000000 (Int32.ofNat k) = some (xs.getD k 0) := fun g e k hk => by
    unfold ldI
    rw [if_pos ⟨Or.inr (Or.inl rfl), by rw [e], ofN_nn (by omega)⟩, e, ofN_clamp (by omega)]
    simp [List.getElem?_eq_getElem hk, List.getD_eq_getElem?_getD]
  unfold fX10_init
  obtain ⟨g1, w1, a1, b1, c1⟩ := st h 0 41 h2 e1
  refine Ok_s w1 ?_
  have ln : lenA g1 1000000 = some (Int32.ofNat xs.length) := by
    unfold lenA mxCont
    rw [c1 1000000 (by omega), ex, if_pos ⟨Or.inr (Or.inl rfl), Or.inl rfl⟩, if_pos (Or.inl rfl), List.length_map]
  refine Ok_s ln ?_
  refine Ok_b (P := fun g => g.2 = 2 ∧ (∃ s, g.1 1 = (10, [], [.long s])) ∧ ∀ b, b ≠ 1 → g.1 b = h.1 b) (Ok_loop (fun k s => s.1 = Int32.ofNat k ∧ s.2.2 = 2 ∧ (∃ z, s.2.1 1 = (10, [], [.long z])) ∧ ∀ b, b ≠ 1 → s.2.1 b = h.1 b) xs.length ⟨rfl, a1, ⟨_, b1⟩, c1⟩ ?_ ?_ (by unfold mxF; omega)) (fun g H => Ok_p H)
  · rintro k ⟨s1, g⟩ hk ⟨e, g2, ⟨z, ez⟩, eb⟩
    obtain rfl := show s1 = _ from e
    have g2 : g.2 = 2 := g2
    have ez : g.1 1 = _ := ez
    have eb : ∀ b, b ≠ 1 → g.1 b = h.1 b := eb
    simp only [if_neg (nle hk (by omega)), lx g (by rw [eb 1000000 (by omega)]; exact ex) k hk, gt g z g2 ez, bN]
    obtain ⟨g', w, p1, p2, p3⟩ := st g z (((z ^^^ (xs.getD k 0).toInt64) * (1099511628211 : Int64)) + 1) g2 ez
    rw [w]
    exact Ok_p ⟨_, rfl, ofN_succ k, p1, ⟨_, p2⟩, fun b hb => (p3 b hb).trans (eb b hb)⟩
  · rintro ⟨s1, g⟩ ⟨e, g2, ez, eb⟩
    obtain rfl := show s1 = _ from e
    exact Ok_e (a := .inr g) (if_pos yle) ⟨g, rfl, g2, ez, eb⟩
/-! the law's own rows -/
def IB (g h : mxH) (T : Nat) (vs : List Value) : Prop := h.2 = T ∧ h.1 0 = (11, [], vs) ∧ (∀ b, 1 ≤ b → b < 319 → h.1 b = g.1 b) ∧ ∀ b, T ≤ b → h.1 b = g.1 b
section
variable {g h : mxH} {T : Nat} {vs : List Value}
theorem IB_pR (I : IB g h T vs) (hT : 0 < T) (j x : Nat) : ∃ h', pR h 0 11 j x = some h' ∧ IB g h' T (vs.set j (.ref x)) ∧ ∀ b, 1 ≤ b → h'.1 b = h.1 b := by
  obtain ⟨i1, i2, i3, i4⟩ := I
  have ne : ∀ b, 1 ≤ b → (mxUp h 0 (11, [], vs.set j (.ref x))).1 b = h.1 b := fun b hb => if_neg (by omega)
  refine ⟨mxUp h 0 (11, [], vs.set j (.ref x)), ?_, ⟨i1, mxUp_at, fun b b1 b2 => (ne b b1).trans (i3 b b1 b2), fun b hb => (ne b (by omega)).trans (i4 b hb)⟩, ne⟩
  unfold pR
  rw [if_pos ⟨by omega, by rw [i2]⟩, i2]
theorem IB_sA (I : IB g h T vs) {a k : Nat} {x : Int32} (h1 : 319 ≤ a) (h2 : a < T) : IB g (sA h a k x) T vs := by
  obtain ⟨i1, i2, i3, i4⟩ := I
  exact ⟨i1, by rw [sA_ne (by omega)]; exact i2, fun b b1 b2 => by rw [sA_ne (by omega)]; exact i3 b b1 b2, fun b hb => by rw [sA_ne (by omega)]; exact i4 b hb⟩
theorem IB_up (I : IB g h T vs) {a : Nat} {e : mxE} (h1 : 319 ≤ a) (h2 : a < T) : IB g (mxUp h a e) T vs := by
  obtain ⟨i1, i2, i3, i4⟩ := I
  have ne : ∀ b, b ≠ a → (mxUp h a e).1 b = h.1 b := fun b hb => if_neg hb
  exact ⟨i1, by rw [ne 0 (by omega)]; exact i2, fun b b1 b2 => by rw [ne b (by omega)]; exact i3 b b1 b2, fun b hb => by rw [ne b (by omega)]; exact i4 b hb⟩
theorem IB_new (I : IB g h T vs) {e : mxE} (h1 : 319 ≤ T) : IB g (mxNew h e) (T + 1) vs := by
  obtain ⟨i1, i2, i3, i4⟩ := I
  refine ⟨by show h.2 + 1 = _; rw [i1], by rw [new_ne (by omega)]; exact i2, fun b b1 b2 => by rw [new_ne (by omega)]; exact i3 b b1 b2, fun b hb => by rw [new_ne (by omega)]; exact i4 b (by omega)⟩
theorem IB_fr (I : IB g h T vs) (F : Fresh g) (hg : g.2 = 319) (h1 : 319 ≤ T) (h2 : T < 1000000) : (h.1 h.2).1 = 300 := by
  rw [I.1, I.2.2.2 T (Nat.le_refl _)]
  exact F.2.1 T (by omega) h2
end
def RWs (h : mxH) (f : Nat → Nat → Int32) : Prop := h.1 319 = (103, [], [.ref 320, .ref 321, .ref 322, .ref 323, .ref 324]) ∧ ∀ i, i < 5 → AT h (320 + i) 20 (f i)
theorem RWs_ld {h : mxH} {f : Nat → Nat → Int32} (R : RWs h f) (h2 : 319 < h.2) {i : Nat} (hi : i < 5) : ldR h 319 (Int32.ofNat i) = some (320 + i) := by
  unfold ldR
  rw [if_pos ⟨h2, Or.inl (by rw [R.1]), ofN_nn (by omega)⟩, ofN_clamp (by omega), R.1]
  rcases i5 hi with rfl | rfl | rfl | rfl | rfl <;> rfl
theorem RWs_st {h : mxH} {f : Nat → Nat → Int32} (R : RWs h f) {i t : Nat} {x : Int32} (hi : i < 5) (ht : t < 20) : stI h (320 + i) (Int32.ofNat t) x = some (sA h (320 + i) t x) ∧ RWs (sA h (320 + i) t x) (fun r => if r = i then fup (f i) t x else f r) := by
  obtain ⟨w, A⟩ := (R.2 i hi).st (k := t) (x := x) (by omega) ht (by omega)
  refine ⟨w, by rw [sA_ne (by omega)]; exact R.1, fun r hr => ?_⟩
  by_cases e : r = i
  · show AT _ _ 20 (if r = i then fup (f i) t x else f r)
    rw [if_pos e, e]; exact A
  · show AT _ _ 20 (if r = i then fup (f i) t x else f r)
    rw [if_neg e]; exact (R.2 r hr).sA (by omega)
theorem RWs.keep {h h1 : mxH} {f : Nat → Nat → Int32} (R : RWs h f) (h2 : h.2 ≤ h1.2) (e : ∀ b, 319 ≤ b → b < 325 → h1.1 b = h.1 b) : RWs h1 f := by
  refine ⟨by rw [e 319 (by omega) (by omega)]; exact R.1, fun i hi => ?_⟩
  obtain ⟨a1, a2, a3⟩ := R.2 i hi
  exact ⟨by omega, by rw [e _ (by omega) (by omega)]; exact a2, by rw [e _ (by omega) (by omega)]; exact a3⟩
theorem AT.keep {h h1 : mxH} {a N : Nat} {f : Nat → Int32} (A : AT h a N f) (h2 : h.2 ≤ h1.2) (e : h1.1 a = h.1 a) : AT h1 a N f := ⟨by have := A.1; omega, by rw [e]; exact A.2.1, by rw [e]; exact A.2.2⟩
def lvs : List Value := [.ref 2, .ref 1, .ref 319, .ref 325, .int 0]
/-- k of the first items are laid -/
def IT (g : mxH) (k : Nat) (h : mxH) : Prop := IB g h (327 + k) lvs ∧ RWs h (fun _ _ => -1) ∧ AT h 325 5 (fun _ => 1) ∧ (∃ L, h.1 326 = (103, [], L) ∧ L.length = 10 ∧ ∀ i, i < k → L[i]? = some (.ref (327 + i))) ∧
  ∀ i, i < k → ∃ f, AT h (327 + i) 3 f ∧ f 0 = Int32.ofNat (ig i).1 ∧ f 1 = Int32.ofNat (ig i).2.1 ∧ f 2 = Int32.ofNat (ig i).2.2
theorem IT_step {g h : mxH} {k : Nat} {a b m : Int32} {rest : mxH → Option mxH} {Q : mxH → Prop} (F : Fresh g) (hg : g.2 = 319) (hk : k < 10) (I : IT g k h) (ea : a = Int32.ofNat (ig k).1) (eb : b = Int32.ofNat (ig k).2.1) (em : m = Int32.ofNat (ig k).2.2) (kk : ∀ h', IT g (k + 1) h' → Ok (rest h') Q) :
    Ok (Option.bind (nwV h 3 3) (fun h56 => Option.bind (stI h56 h.2 0 a) (fun h58 => Option.bind (stI h58 h.2 1 b) (fun h60 => Option.bind (stI h60 h.2 2 m) (fun h62 => Option.bind (stA h62 326 (Int32.ofNat k) h.2) rest))))) Q := by
  obtain ⟨i1, i2, i3, ⟨L, l1, l2, l3⟩, i5'⟩ := I
  have hT := i1.1
  have e0 : nwV h 3 3 = some (mxNew h (100, List.replicate 3 0, [])) := by
    unfold nwV
    rw [show (3 : Int32) = Int32.ofNat 3 from rfl, ofN_clamp (by omega), if_pos ⟨IB_fr i1 F hg (by omega) (by omega), ofN_nn (by omega), Nat.le_refl _⟩]
  refine Ok_s e0 ?_
  have J1 := IB_new (e := (100, List.replicate 3 0, [])) i1 (by omega)
  have A1 : AT (mxNew h (100, List.replicate 3 0, [])) h.2 3 (fun _ => 0) := ⟨Nat.lt_succ_self _, by rw [new_eq], by rw [new_eq]; exact tab_rep 3 0⟩
  have ne1 : ∀ b, b < h.2 → (mxNew h (100, List.replicate 3 0, [])).1 b = h.1 b := fun b hb => new_ne (by omega)
  generalize mxNew h (100, List.replicate 3 0, []) = h1 at J1 A1 ne1
  rw [hT] at A1 ne1 ⊢
  obtain ⟨w2, A2⟩ := A1.st (k := 0) (x := a) (by omega) (by omega) (by omega)
  have J2 := IB_sA (a := 327 + k) (k := 0) (x := a) J1 (by omega) (by omega)
  have ne2 : ∀ b, b < 327 + k → (sA h1 (327 + k) 0 a).1 b = h.1 b := fun b hb => (sA_ne (by omega)).trans (ne1 b hb)
  refine Ok_s w2 ?_
  generalize sA h1 (327 + k) 0 a = h2 at J2 A2 ne2
  obtain ⟨w3, A3⟩ := A2.st (k := 1) (x := b) (by omega) (by omega) (by omega)
  have J3 := IB_sA (a := 327 + k) (k := 1) (x := b) J2 (by omega) (by omega)
  have ne3 : ∀ c, c < 327 + k → (sA h2 (327 + k) 1 b).1 c = h.1 c := fun c hc => (sA_ne (by omega)).trans (ne2 c hc)
  refine Ok_s w3 ?_
  generalize sA h2 (327 + k) 1 b = h3 at J3 A3 ne3
  obtain ⟨w4, A4⟩ := A3.st (k := 2) (x := m) (by omega) (by omega) (by omega)
  have J4 := IB_sA (a := 327 + k) (k := 2) (x := m) J3 (by omega) (by omega)
  have ne4 : ∀ c, c < 327 + k → (sA h3 (327 + k) 2 m).1 c = h.1 c := fun c hc => (sA_ne (by omega)).trans (ne3 c hc)
  refine Ok_s w4 ?_
  generalize sA h3 (327 + k) 2 m = h4 at J4 A4 ne4
  have l326 : h4.1 326 = (103, [], L) := (ne4 326 (by omega)).trans l1
  have s4 := J4.1
  have e5 : stA h4 326 (Int32.ofNat k) (327 + k) = some (mxUp h4 326 (103, [], L.set k (.ref (327 + k)))) := by
    unfold stA
    rw [ofN_clamp (by omega), if_pos ⟨⟨by omega, by omega⟩, ⟨by rw [l326], by omega, A4.2.1⟩, ofN_nn (by omega), by rw [l326]; show k < L.length; omega⟩, l326]
  refine Ok_s e5 (kk _ ?_)
  have ne5 : ∀ c, c ≠ 326 → (mxUp h4 326 (103, [], L.set k (.ref (327 + k)))).1 c = h4.1 c := fun c hc => if_neg hc
  have s5 : (mxUp h4 326 (103, [], L.set k (.ref (327 + k)))).2 = h4.2 := rfl
  refine ⟨IB_up J4 (by omega) (by omega), i2.keep (by omega) (fun c c1 c2 => (ne5 c (by omega)).trans (ne4 c (by omega))), i3.keep (by omega) ((ne5 325 (by omega)).trans (ne4 325 (by omega))), ⟨_, mxUp_at, by rw [List.length_set]; exact l2, fun i hi => ?_⟩, fun i hi => ?_⟩
  · by_cases e : i = k
    · rw [e, List.getElem?_set_self (by omega)]
    · rw [List.getElem?_set_ne (fun z => e z.symm)]; exact l3 i (by omega)
  · by_cases e : i = k
    · rw [e]
      refine ⟨_, A4.keep (Nat.le_refl _) (ne5 _ (by omega)), ?_, ?_, ?_⟩
      · rw [fup_ne (by omega), fup_ne (by omega), fup_eq]; exact ea
      · rw [fup_ne (by omega), fup_eq]; exact eb
      · rw [fup_eq]; exact em
    · obtain ⟨f, f1, f2⟩ := i5' i (by omega)
      exact ⟨f, f1.keep (by omega) ((ne5 _ (by omega)).trans (ne4 _ (by omega))), f2⟩
theorem n0_MG : MG n0 := fun k hk => Or.inl (n0_m hk)
/-- the law's own cells are made, the house stands -/
theorem w_init {s : Int64} {h : mxH} (h2 : h.2 = 2) (F : Fresh h) (e0 : h.1 0 = (11, [], [.null, .null, .null, .null, .int 0])) (e1 : h.1 1 = (10, [], [.long s])) : Ok (fL_init 0 1 h) (fun g => LSt g (itN 10) (itN 10) 0 (fun _ => n0) 0 ∧ g.2 = 337) := by
  unfold fL_init
  rw [h2]
  refine Ok_b (PS_0 h2 F 9 _ (by omega)) (fun g0 P0 => ?_)
  refine Ok_b (i_house P0 e0 e1) (fun g ⟨g1, g2, ⟨g3, g4⟩, g5, g6, g7, g8⟩ => ?_)
  have B0 : IB g g 319 [.null, .null, .null, .null, .int 0] := ⟨g1, g3, fun _ _ _ => rfl, fun _ _ => rfl⟩
  obtain ⟨h5, w5, B5, n5⟩ := IB_pR B0 (by omega) 0 2
  refine Ok_s w5 ?_
  have s5 := B5.1
  have f5 := IB_fr B5 g2 g1 (by omega) (by omega)
  refine Ok_s (a := mxGrid h5 5 20) (by unfold nwG; rw [if_pos ⟨f5, by omega⟩]) ?_
  have a0 : (mxGrid h5 5 20).1 319 = (103, [], [.ref 320, .ref 321, .ref 322, .ref 323, .ref 324]) := by
    show (if 319 = h5.2 then _ else _ : mxE) = _
    rw [if_pos s5.symm, s5]; rfl
  have a1 : ∀ i, i < 5 → (mxGrid h5 5 20).1 (320 + i) = (100, List.replicate 20 0, []) := fun i hi => by
    show (if 320 + i = h5.2 then _ else if h5.2 < 320 + i ∧ 320 + i < h5.2 + 1 + 5 then _ else _ : mxE) = _
    rw [if_neg (by omega), if_pos (by omega)]
  have a2 : ∀ b, b < 319 ∨ 325 ≤ b → (mxGrid h5 5 20).1 b = h5.1 b := fun b hb => by
    show (if b = h5.2 then _ else if h5.2 < b ∧ b < h5.2 + 1 + 5 then _ else _ : mxE) = _
    rw [if_neg (by omega), if_neg (by omega)]
  have a3 : (mxGrid h5 5 20).2 = 325 := by show h5.2 + 1 + 5 = _; rw [s5]
  have B7 : IB g (mxGrid h5 5 20) 325 _ := ⟨a3, by rw [a2 0 (by omega)]; exact B5.2.1, fun b b1 b2 => by rw [a2 b (by omega)]; exact B5.2.2.1 b b1 b2, fun b hb => by rw [a2 b (by omega)]; exact B5.2.2.2 b (by omega)⟩
  have R7 : RWs (mxGrid h5 5 20) (fun _ _ => 0) := ⟨a0, fun i hi => ⟨by omega, by rw [a1 i hi], by rw [a1 i hi]; exact tab_rep 20 0⟩⟩
  generalize mxGrid h5 5 20 = h7 at B7 R7
  rw [s5]
  obtain ⟨h9, w9, B9, n9⟩ := IB_pR B7 (by omega) 2 319
  refine Ok_s w9 ?_
  have s7 := B7.1
  have s9 := B9.1
  have R9 := R7.keep (h1 := h9) (by omega) (fun b b1 b2 => n9 b (by omega))
  have e11 : nwV h9 5 5 = some (mxNew h9 (100, List.replicate 5 0, [])) := by
    unfold nwV
    rw [show (5 : Int32) = Int32.ofNat 5 from rfl, ofN_clamp (by omega), if_pos ⟨IB_fr B9 g2 g1 (by omega) (by omega), ofN_nn (by omega), Nat.le_refl _⟩]
  refine Ok_s e11 ?_
  have B11 := IB_new (e := (100, List.replicate 5 0, [])) B9 (by omega)
  have A11 : AT (mxNew h9 (100, List.replicate 5 0, [])) h9.2 5 (fun _ => 0) := ⟨Nat.lt_succ_self _, by rw [new_eq], by rw [new_eq]; exact tab_rep 5 0⟩
  have R11 := R9.keep (h1 := mxNew h9 (100, List.replicate 5 0, [])) (by show h9.2 ≤ h9.2 + 1; omega) (fun b b1 b2 => new_ne (by omega))
  generalize mxNew h9 (100, List.replicate 5 0, []) = h11 at B11 A11 R11
  rw [s9] at A11 ⊢
  have stw : ∀ (x : mxH) (f : Nat → Int32) (k : Nat), k < 5 → AT x 325 5 f → RWs x (fun _ _ => 0) → ∀ vs, IB g x 326 vs → stI x 325 (Int32.ofNat k) 1 = some (sA x 325 k 1) ∧ AT (sA x 325 k 1) 325 5 (fup f k 1) ∧ RWs (sA x 325 k 1) (fun _ _ => 0) ∧ IB g (sA x 325 k 1) 326 vs := fun x f k hk A R vs I => by
    obtain ⟨w, A2⟩ := A.st (k := k) (x := 1) (by omega) hk (by omega)
    exact ⟨w, A2, R.keep (Nat.le_refl _) (fun b b1 b2 => sA_ne (by omega)), IB_sA I (by omega) (by omega)⟩
  obtain ⟨w13, A13, R13, B13⟩ := stw _ _ 0 (by omega) A11 R11 _ B11
  refine Ok_s w13 ?_
  generalize sA h11 325 0 1 = h13 at A13 R13 B13
  obtain ⟨w15, A15, R15, B15⟩ := stw _ _ 1 (by omega) A13 R13 _ B13
  refine Ok_s w15 ?_
  generalize sA h13 325 1 1 = h15 at A15 R15 B15
  obtain ⟨w17, A17, R17, B17⟩ := stw _ _ 2 (by omega) A15 R15 _ B15
  refine Ok_s w17 ?_
  generalize sA h15 325 2 1 = h17 at A17 R17 B17
  obtain ⟨w19, A19, R19, B19⟩ := stw _ _ 3 (by omega) A17 R17 _ B17
  refine Ok_s w19 ?_
  generalize sA h17 325 3 1 = h19 at A19 R19 B19
  obtain ⟨w21, A21, R21, B21⟩ := stw _ _ 4 (by omega) A19 R19 _ B19
  refine Ok_s w21 ?_
  generalize sA h19 325 4 1 = h21 at A21 R21 B21
  have A21 : AT h21 325 5 (fun _ => 1) := AT.congr A21 (fun k hk => by
    rcases i5 hk with rfl | rfl | rfl | rfl | rfl <;> rfl)
  obtain ⟨h23, w23, B23, n23⟩ := IB_pR B21 (by omega) 3 325
  refine Ok_s w23 ?_
  obtain ⟨h25, w25, B25, n25⟩ := IB_pR B23 (by omega) 1 1
  refine Ok_s w25 ?_
  have s21 := B21.1
  have s25 := B25.1
  have R25 := R21.keep (h1 := h25) (by omega) (fun b b1 b2 => (n25 b (by omega)).trans (n23 b (by omega)))
  have A25 := A21.keep (h1 := h25) (by omega) ((n25 325 (by omega)).trans (n23 325 (by omega)))
  have B25 : IB g h25 326 lvs := B25
  refine Ok_b (P := fun x => IB g x 326 lvs ∧ AT x 325 5 (fun _ => 1) ∧ RWs x (fun _ _ => -1)) (Ok_loop (fun r s => s.1 = Int32.ofNat r ∧ IB g s.2 326 lvs ∧ AT s.2 325 5 (fun _ => 1) ∧ ∃ f, RWs s.2 f ∧ ∀ i t, i < 5 → t < 20 → i < r → f i t = -1) 5 ⟨rfl, B25, A25, _, R25, fun i t _ _ z => absurd z (Nat.not_lt_zero _)⟩ ?_ ?_ (by decide)) ?_
  · rintro r ⟨q1, x⟩ hr ⟨e, I, A, f, R, hf⟩
    obtain rfl := show q1 = _ from e
    simp only [if_neg (show ¬ (5 : Int32) ≤ Int32.ofNat r from nle hr)]
    refine Ok_b (P := fun x => IB g x 326 lvs ∧ AT x 325 5 (fun _ => 1) ∧ ∃ f, RWs x f ∧ ∀ i t, i < 5 → t < 20 → i < r + 1 → f i t = -1) (Ok_loop (fun t s => s.1 = Int32.ofNat t ∧ IB g s.2 326 lvs ∧ AT s.2 325 5 (fun _ => 1) ∧ ∃ f, RWs s.2 f ∧ ∀ i u, i < 5 → u < 20 → i < r ∨ (i = r ∧ u < t) → f i u = -1) 20 ⟨rfl, I, A, f, R, fun i u h1 h2 h3 => hf i u h1 h2 (by omega)⟩ ?_ ?_ (by decide)) (fun x ⟨x1, x2, x3⟩ => Ok_p ⟨_, rfl, ofN_succ r, x1, x2, x3⟩)
    · rintro t ⟨q1, x⟩ ht ⟨e, I, A, f, R, hf⟩
      obtain rfl := show q1 = _ from e
      have I : IB g x 326 lvs := I
      have A : AT x 325 5 (fun _ => 1) := A
      have R : RWs x f := R
      have sx := I.1
      have eg : gR x 0 11 2 = some 319 := by
        unfold gR
        rw [if_pos ⟨by omega, by rw [I.2.1]⟩, I.2.1]; rfl
      obtain ⟨w, R2⟩ := RWs_st (x := -1) R hr ht
      simp only [if_neg (n20 ht), eg, RWs_ld R (by omega) hr, w, bN]
      refine Ok_p ⟨_, rfl, ofN_succ t, IB_sA I (by omega) (by omega), A.sA (by omega), _, R2, fun i u h1 h2 h3 => ?_⟩
      by_cases y : i = r
      · rw [y, if_pos rfl]
        by_cases z : u = t
        · rw [z, fup_eq]
        · rw [fup_ne z]; exact hf r u hr h2 (Or.inr ⟨rfl, by omega⟩)
      · rw [if_neg y]; exact hf i u h1 h2 (Or.inl (by omega))
    · rintro ⟨q1, x⟩ ⟨e, I, A, f, R, hf⟩
      obtain rfl := show q1 = _ from e
      exact Ok_e (a := .inr x) (if_pos yle) ⟨x, rfl, I, A, f, R, fun i u h1 h2 h3 => hf i u h1 h2 (by omega)⟩
  · rintro ⟨q1, x⟩ ⟨e, I, A, f, R, hf⟩
    obtain rfl := show q1 = _ from e
    exact Ok_e (a := .inr x) (if_pos yle) ⟨x, rfl, I, A, R.1, fun i hi => AT.congr (R.2 i hi) (fun t ht => hf i t hi ht hi)⟩
  rintro h53 ⟨B53, A53, R53⟩
  have s53 := B53.1
  have e54 : nwA h53 10 = some (mxNew h53 (103, [], List.replicate 10 .null)) := by
    unfold nwA
    rw [if_pos (IB_fr B53 g2 g1 (by omega) (by omega))]
  refine Ok_s e54 ?_
  have I54 : IT g 0 (mxNew h53 (103, [], List.replicate 10 .null)) := ⟨IB_new B53 (by omega), R53.keep (by show h53.2 ≤ h53.2 + 1; omega) (fun b b1 b2 => new_ne (by omega)), A53.keep (by show h53.2 ≤ h53.2 + 1; omega) (new_ne (by omega)), ⟨_, by rw [← s53, new_eq], rfl, fun i hi => absurd hi (Nat.not_lt_zero _)⟩, fun i hi => absurd hi (Nat.not_lt_zero _)⟩
  rw [s53]
  generalize mxNew h53 (103, [], List.replicate 10 .null) = h54 at I54
  refine IT_step (k := 0) g2 g1 (by omega) I54 rfl rfl rfl (fun h64 I64 => ?_)
  refine IT_step (k := 1) g2 g1 (by omega) I64 rfl rfl rfl (fun h74 I74 => ?_)
  refine IT_step (k := 2) g2 g1 (by omega) I74 rfl rfl rfl (fun h84 I84 => ?_)
  refine IT_step (k := 3) g2 g1 (by omega) I84 rfl rfl rfl (fun h94 I94 => ?_)
  refine IT_step (k := 4) g2 g1 (by omega) I94 rfl rfl rfl (fun h104 I104 => ?_)
  refine IT_step (k := 5) g2 g1 (by omega) I104 rfl rfl rfl (fun h114 I114 => ?_)
  refine IT_step (k := 6) g2 g1 (by omega) I114 rfl rfl rfl (fun h124 I124 => ?_)
  refine IT_step (k := 7) g2 g1 (by omega) I124 rfl rfl rfl (fun h134 I134 => ?_)
  refine IT_step (k := 8) g2 g1 (by omega) I134 rfl rfl rfl (fun h144 I144 => ?_)
  refine IT_step (k := 9) g2 g1 (by omega) I144 rfl rfl rfl (fun h154 I154 => ?_)
  obtain ⟨B, R, A, ⟨L, l1, l2, l3⟩, its⟩ := I154
  have B : IB g h154 337 lvs := B
  have sB := B.1
  have eL : lenA h154 326 = some (Int32.ofNat 10) := by
    unfold lenA mxCont
    rw [l1, if_pos ⟨Or.inl (by omega), Or.inr (Or.inl rfl)⟩]
    show some (Int32.ofNat L.length) = _
    rw [l2]
  refine Ok_s eL ?_
  refine Ok_b (P := fun x => IB g x 337 lvs ∧ AT x 325 5 (fun _ => 1) ∧ RWs x (fun i t => itN 10 (20 * i + t))) (Ok_loop (fun j s => s.1 = Int32.ofNat j ∧ IB g s.2 337 lvs ∧ AT s.2 325 5 (fun _ => 1) ∧ RWs s.2 (fun i t => itN j (20 * i + t)) ∧ ∀ b, 326 ≤ b → s.2.1 b = h154.1 b) 10 ⟨rfl, B, A, ⟨R.1, fun i hi => AT.congr (R.2 i hi) (fun t ht => (n0_m (by omega)).symm)⟩, fun _ _ => rfl⟩ ?_ ?_ (by decide)) ?_
  · rintro j ⟨q1, x⟩ hj ⟨e, I, A, R, K⟩
    obtain rfl := show q1 = _ from e
    have I : IB g x 337 lvs := I
    have A : AT x 325 5 (fun _ => 1) := A
    have R : RWs x (fun i t => itN j (20 * i + t)) := R
    have K : ∀ b, 326 ≤ b → x.1 b = h154.1 b := K
    have sx := I.1
    obtain ⟨f, Af, f0, f1, f2⟩ := its j hj
    have Af : AT x (327 + j) 3 f := Af.keep (by omega) (K _ (by omega))
    obtain ⟨y1, y2, y3, -⟩ := ig_ok j hj
    have eg : gR x 0 11 2 = some 319 := by
      unfold gR
      rw [if_pos ⟨by omega, by rw [I.2.1]⟩, I.2.1]; rfl
    have el : ldR x 326 (Int32.ofNat j) = some (327 + j) := by
      unfold ldR
      rw [if_pos ⟨by omega, Or.inl (by rw [K 326 (by omega), l1]), ofN_nn (by omega)⟩, ofN_clamp (by omega), K 326 (by omega), l1]
      show mxRf L[j]? = _
      rw [l3 j (by omega)]; rfl
    obtain ⟨w, R2⟩ := RWs_st (x := Int32.ofNat (ig j).2.2) R y1 y2
    simp only [if_neg (nle (show j < 10 by omega) (by omega)), el, eg, show ldI x (327 + j) 0 = some (Int32.ofNat (ig j).1) from (Af.ld (k := 0) (by omega) (by omega)).trans (by rw [f0]), show ldI x (327 + j) 1 = some (Int32.ofNat (ig j).2.1) from (Af.ld (k := 1) (by omega) (by omega)).trans (by rw [f1]), show ldI x (327 + j) 2 = some (Int32.ofNat (ig j).2.2) from (Af.ld (k := 2) (by omega) (by omega)).trans (by rw [f2]), RWs_ld R (by omega) y1, w, bN]
    refine Ok_p ⟨_, rfl, ofN_succ j, IB_sA I (by omega) (by omega), A.sA (by omega), ⟨R2.1, fun i hi => AT.congr (R2.2 i hi) (fun t ht => ?_)⟩, fun b hb => (sA_ne (by omega)).trans (K b hb)⟩
    show _ = fup (itN j) (20 * (ig j).1 + (ig j).2.1) (Int32.ofNat (ig j).2.2) (20 * i + t)
    by_cases y : i = (ig j).1
    · show (if i = (ig j).1 then fup (fun t => itN j (20 * (ig j).1 + t)) (ig j).2.1 (Int32.ofNat (ig j).2.2) else fun t => itN j (20 * i + t)) t = _
      rw [if_pos y]
      unfold fup
      by_cases z : t = (ig j).2.1
      · rw [if_pos z, if_pos (by omega)]
      · rw [if_neg z, if_neg (by omega), y]
    · show (if i = (ig j).1 then fup (fun t => itN j (20 * (ig j).1 + t)) (ig j).2.1 (Int32.ofNat (ig j).2.2) else fun t => itN j (20 * i + t)) t = _
      rw [if_neg y, fup_ne (by omega)]
  · rintro ⟨q1, x⟩ ⟨e, I, A, R, K⟩
    obtain rfl := show q1 = _ from e
    exact Ok_e (a := .inr x) (if_pos yle) ⟨x, rfl, I, A, R⟩
  rintro x ⟨I, A, R⟩
  refine Ok_p ⟨?_, I.1⟩
  have sx := I.1
  have hi0 := itN_hi 10 (Nat.le_refl _)
  have W : WF x := ⟨by omega, fun a a1 a2 => by rw [I.2.2.1 a (by omega) a2]; exact g5 a a1 a2⟩
  have Fx : Fr (fun b => 319 ≤ b ∨ b < 2) g x := ⟨W, fun b hb => I.2.2.1 b (by have hb : ¬ (319 ≤ b ∨ b < 2) := hb; omega) (by have hb : ¬ (319 ≤ b ∨ b < 2) := hb; omega), fun q => absurd (q 319 (Or.inl (Nat.le_refl _))) (by omega)⟩
  have S : SR x 3 (itN 10) := SR_fr S3 g6 Fx (fun b b1 b2 b3 => by omega)
  have M := itN_MG 10 (Nat.le_refl _)
  have Wg : WG (itN 10) := fun i hi => ⟨1, by omega, by rw [hi0 (100 + i) (by omega)]; exact n0_w hi⟩
  have Rg : RG (itN 10) := Or.inl (by rw [hi0 105 (by omega)]; rfl)
  have N0 : NG (itN 10) 0 := by
    refine NG_congr (n := n0) ?_ (fun k hk => hi0 k (by omega))
    exact ⟨rfl, by decide, rfl, by decide, rfl, by decide, fun k hk => by rw [n0_inw] at hk; exact absurd hk (Nat.not_lt_zero _), fun k hk _ => n0_225 hk, fun i k hi hk _ _ => n0_221 hi⟩
  have X0 : XG (itN 10) := fun k h1 h2 => by rw [hi0 _ (by omega)]; exact n0_221 h2
  refine ⟨⟨⟨by omega, ⟨by rw [I.2.1], by rw [I.2.1, hi0 105 (by omega)]; rfl⟩, ⟨by rw [I.2.2.1 1 (by omega) (by omega), g4], s, by rw [I.2.2.1 1 (by omega) (by omega), g4]⟩, ⟨by rw [R.1], by rw [R.1]⟩, fun i hi => ⟨(R.2 i hi).2.1, (R.2 i hi).2.2⟩, ⟨A.2.1, A.2.2.trans (tab_ext (fun k hk => ?_))⟩⟩, ?_, M, Wg, Rg⟩, W, S, ?_, ⟨M, Wg, N0⟩, X0, fun i hi => absurd hi (Nat.not_lt_zero _), by rw [CG, hi0 106 (by omega), hi0 107 (by omega)]; exact ⟨rfl, rfl⟩⟩
  · rw [hi0 (100 + k) (by omega)]; exact (n0_w hk).symm
  · intro b b1 b2
    rw [I.2.2.2 b (by omega)]
    exact g2.2.1 b (by omega) b2
  · have v : V x 32 = V g 32 := Fr_V Fx (by omega) (by omega)
    exact ⟨by rw [v]; exact g7, by omega, fun k => k, fun k hk => hk, fun i k _ _ e => e, HS_fr g8 Fx (by omega), fun k hk => absurd hk (Nat.not_lt_zero _)⟩
theorem itN_TG : TG (itN 10) := by
  refine ⟨?_, by rw [itN_hi 10 (Nat.le_refl _) 110 (by omega)]; rfl⟩
  have key : ∀ j, j ≤ 10 → ∀ i t, i < 5 → 12 ≤ t → t < 20 → itN j (20 * i + t) = -1 := by
    intro j
    induction j with
    | zero => intro _ i t hi h1 h2; exact n0_m (by omega)
    | succ j ih =>
      intro hj i t hi h1 h2
      have y := ig_ok j (by omega)
      have y12 : (ig j).2.1 < 12 := (show ∀ j, j < 10 → (ig j).2.1 < 12 by decide) j (by omega)
      show fup (itN j) _ _ _ = _
      rw [fup_ne (by omega)]; exact ih (by omega) i t hi h1 h2
  exact key 10 (Nat.le_refl _)
