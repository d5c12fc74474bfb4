/-! THE PURE SIDE, 50: objects being made -/
def Fresh (h : mxH) : Prop := h.2 < 1000000 ∧ (∀ b, h.2 ≤ b → b < 1000000 → (h.1 b).1 = 300) ∧ h.1 1000001 = (100, mxFI, [])
theorem lay_hi {T : Nat} (h : 319 ≤ T) : lay T = (200, 0, []) := by
  unfold lay
  repeat rw [if_neg (by omega)]
theorem lay_lt {T c n : Nat} {L : List Nat} (e : lay T = (c, n, L)) (hc : c ≠ 200) : T < 319 := by
  by_cases h : T < 319
  · exact h
  · rw [lay_hi (by omega)] at e
    exact absurd (congrArg Prod.fst e).symm hc
/-- an object of class ci is being made at r: its fields are fs; what was made for it lies from r + 1 to below T; the arrays zs hold zeros -/
def PS (K : mxH) (D : Nat) (h : mxH) (r T ci : Nat) (fs : List Value) (zs : List Nat) (g : mxH) : Prop :=
  g.2 = T ∧ Fresh g ∧ (∀ b, b < r → g.1 b = h.1 b) ∧ g.1 r = (ci, [], fs) ∧ r < T ∧ (∀ a, r < a → a < T → fits (lay a) (g.1 a)) ∧ (∀ a, a ∈ zs → r < a ∧ a < T ∧ ∀ k, cv (g.1 a) k = 0) ∧ D ≤ T ∧ ∀ b, r < b → b < D → g.1 b = K.1 b
theorem new_ne {h : mxH} {e : mxE} {b : Nat} (hb : b ≠ h.2) : (mxNew h e).1 b = h.1 b := if_neg hb
theorem new_eq {h : mxH} {e : mxE} : (mxNew h e).1 h.2 = e := if_pos rfl
theorem Fresh_new {h : mxH} {e : mxE} (F : Fresh h) (hb : h.2 < 999999) : Fresh (mxNew h e) := by
  refine ⟨by show h.2 + 1 < 1000000; omega, fun b hb b2 => ?_, by rw [new_ne (by omega)]; exact F.2.2⟩
  have hb : h.2 + 1 ≤ b := hb
  rw [new_ne (by omega)]; exact F.2.1 b (by omega) b2
section
variable {K h g : mxH} {D r T ci : Nat} {fs : List Value} {zs : List Nat}
theorem PS_new {e : mxE} (P : PS K D h r T ci fs zs g) (f : fits (lay T) e) (hT : T < 1000) : PS K D h r (T + 1) ci fs zs (mxNew g e) := by
  obtain ⟨p1, p2, p3, p4, p5, p6, p7, p8, p9⟩ := P
  refine ⟨by show g.2 + 1 = _; rw [p1], Fresh_new p2 (by omega), fun b hb => ?_, ?_, by omega, fun a a1 a2 => ?_, fun a ha => ?_, by omega, fun b b1 b2 => by rw [new_ne (by omega)]; exact p9 b b1 b2⟩
  · rw [new_ne (by omega)]; exact p3 b hb
  · rw [new_ne (by omega)]; exact p4
  · by_cases q : a = g.2
    · rw [q, new_eq, p1]; exact f
    · rw [new_ne q]; exact p6 a a1 (by omega)
  · obtain ⟨q1, q2, q3⟩ := p7 a ha
    exact ⟨q1, by omega, fun k => by rw [new_ne (by omega)]; exact q3 k⟩
theorem cv_zero (n k : Nat) (l : List Value) : cv (100, List.replicate n 0, l) k = 0 := by
  rw [cv_a (show ¬ (100 : Nat) < 100 by decide)]
  show ((List.replicate n (0 : Int32))[k]?).getD 0 = 0
  by_cases c : k < n
  · simp [c]
  · rw [List.getElem?_eq_none (by simp; omega)]; rfl
theorem fits_I {n : Nat} : fits (100, n, []) (100, List.replicate n 0, []) := ⟨rfl, fun _ => by simp, fun z => absurd z (show ¬ (100 : Nat) = 102 by decide), fun z => absurd z (show ¬ (100 : Nat) = 103 by decide), fun z => absurd z (show ¬ (100 : Nat) < 100 by decide), fun z => absurd z (show ¬ (100 : Nat) = 104 by decide)⟩
theorem fits_S : fits (104, 8, []) (104, [], List.replicate 8 .null) := ⟨rfl, fun z => absurd z (by decide), fun z => absurd z (by decide), fun z => absurd z (by decide), fun z => absurd z (by decide), fun _ => rfl⟩
theorem PS_I (P : PS K D h r T ci fs zs g) {n : Nat} (e : lay T = (100, n, [])) : Ok (nwI g n) (PS K D h r (T + 1) ci fs (T :: zs)) := by
  have hT := lay_lt e (by decide)
  have hf := P.2.1.2.1 g.2 (Nat.le_refl _) P.2.1.1
  have N := PS_new (e := (100, List.replicate n 0, [])) P (by rw [e]; exact fits_I) (by omega)
  unfold nwI
  rw [if_pos hf]
  obtain ⟨n1, n2, n3, n4, n5, n6, n7, n8⟩ := N
  refine Ok_p ⟨n1, n2, n3, n4, n5, n6, fun a ha => ?_, n8⟩
  rcases List.mem_cons.mp ha with q | q
  · rw [q]
    refine ⟨P.2.2.2.2.1, by omega, fun k => ?_⟩
    have : (mxNew g (100, List.replicate n 0, [])).1 T = (100, List.replicate n 0, []) := by rw [← P.1, new_eq]
    rw [this]; exact cv_zero n k []
  · exact n7 a q
theorem PS_S (P : PS K D h r T ci fs zs g) (e : lay T = (104, 8, [])) : Ok (nwS g 8) (PS K D h r (T + 1) ci fs zs) := by
  unfold nwS
  have hT := lay_lt e (by decide)
  rw [if_pos (P.2.1.2.1 g.2 (Nat.le_refl _) P.2.1.1)]
  exact Ok_p (PS_new P (by rw [e]; exact fits_S) (by omega))
theorem PS_G (P : PS K D h r T ci fs zs g) {n k : Nat} {L : List Nat} (e : lay T = (103, n, L)) (eL : ∀ j, j < n → L.getD j 0 = T + 1 + j) (e2 : ∀ j, j < n → lay (T + 1 + j) = (100, k, [])) : Ok (nwG g n k) (PS K D h r (T + 1 + n) ci fs zs) := by
  unfold nwG
  have hT := lay_lt e (by decide)
  have hTn : T + 1 + n ≤ 320 := by
    by_cases z : n = 0
    · omega
    · have := lay_lt (e2 (n - 1) (by omega)) (by decide)
      omega
  rw [if_pos ⟨P.2.1.2.1 g.2 (Nat.le_refl _) P.2.1.1, by rw [P.1]; omega⟩]
  obtain ⟨p1, p2, p3, p4, p5, p6, p7, p8, p9⟩ := P
  have at0 : (mxGrid g n k).1 T = (103, [], (List.range n).map fun i => .ref (T + 1 + i)) := by
    show (if T = g.2 then _ else _) = _
    rw [if_pos p1.symm, p1]
  have at1 : ∀ b, T < b → b < T + 1 + n → (mxGrid g n k).1 b = (100, List.replicate k 0, []) := fun b h1 h2 => by
    show (if b = g.2 then _ else if g.2 < b ∧ b < g.2 + 1 + n then _ else _) = _
    rw [if_neg (by omega), if_pos (by omega)]
  have at2 : ∀ b, b < T ∨ T + 1 + n ≤ b → (mxGrid g n k).1 b = g.1 b := fun b h1 => by
    show (if b = g.2 then _ else if g.2 < b ∧ b < g.2 + 1 + n then _ else _) = _
    rw [if_neg (by omega), if_neg (by omega)]
  refine Ok_p ⟨by show g.2 + 1 + n = _; rw [p1], ⟨by show g.2 + 1 + n < 1000000; omega, fun b hb hb2 => ?_, by rw [at2 1000001 (by omega)]; exact p2.2.2⟩, fun b hb => ?_, ?_, by omega, fun a a1 a2 => ?_, fun a ha => ?_, by omega, fun b b1 b2 => by rw [at2 b (by omega)]; exact p9 b b1 b2⟩
  · have hb : g.2 + 1 + n ≤ b := hb
    rw [at2 b (by omega)]; exact p2.2.1 b (by omega) hb2
  · rw [at2 b (by omega)]; exact p3 b hb
  · rw [at2 r (by omega)]; exact p4
  · by_cases q : a < T
    · rw [at2 a (by omega)]; exact p6 a a1 q
    · by_cases q2 : a = T
      · rw [q2, at0, e]
        refine ⟨rfl, fun z => absurd z (by show ¬ ((103 : Nat) = 100 ∨ (103 : Nat) = 101); decide), fun z => absurd z (by show ¬ (103 : Nat) = 102; decide), fun _ j hj => ?_, fun z => absurd z (by show ¬ (103 : Nat) < 100; decide), fun z => absurd z (by show ¬ (103 : Nat) = 104; decide)⟩
        have hj : j < n := hj
        show ((List.range n).map fun i => Value.ref (T + 1 + i))[j]? = some (Value.ref (L.getD j 0))
        rw [eL j hj]
        simp [hj]
      · rw [at1 a (by omega) a2]
        have := e2 (a - T - 1) (by omega)
        rw [show T + 1 + (a - T - 1) = a by omega] at this
        rw [this]; exact fits_I
  · obtain ⟨q1, q2, q3⟩ := p7 a ha
    exact ⟨q1, by omega, fun k => by rw [at2 a (by omega)]; exact q3 k⟩
theorem PS_up (P : PS K D h r T ci fs zs g) (fs' : List Value) : PS K D h r T ci fs' zs (mxUp g r (ci, [], fs')) := by
  obtain ⟨p1, p2, p3, p4, p5, p6, p7, p8, p9⟩ := P
  have ne : ∀ b, b ≠ r → (mxUp g r (ci, [], fs')).1 b = g.1 b := fun b hb => if_neg hb
  have pT := p2.1
  refine ⟨p1, ⟨p2.1, fun b hb hb2 => ?_, by rw [ne 1000001 (by omega)]; exact p2.2.2⟩, fun b hb => ?_, if_pos rfl, p5, fun a a1 a2 => ?_, fun a ha => ?_, p8, fun b b1 b2 => by rw [ne b (by omega)]; exact p9 b b1 b2⟩
  · have hb : g.2 ≤ b := hb
    rw [ne b (by omega)]; exact p2.2.1 b hb hb2
  · rw [ne b (by omega)]; exact p3 b hb
  · rw [ne a (by omega)]; exact p6 a a1 a2
  · obtain ⟨q1, q2, q3⟩ := p7 a ha
    exact ⟨q1, q2, fun k => by rw [ne a (by omega)]; exact q3 k⟩
theorem PS_R (P : PS K D h r T ci fs zs g) (j x : Nat) : Ok (pR g r ci j x) (PS K D h r T ci (fs.set j (.ref x)) zs) := by
  unfold pR
  rw [if_pos ⟨by rw [P.1]; exact P.2.2.2.2.1, by rw [P.2.2.2.1]⟩, P.2.2.2.1]
  exact Ok_p (PS_up P _)
theorem PS_P (P : PS K D h r T ci fs zs g) (j : Nat) (x : Int32) : Ok (pI g r ci j x) (PS K D h r T ci (fs.set j (.int x)) zs) := by
  unfold pI
  rw [if_pos ⟨by rw [P.1]; exact P.2.2.2.2.1, by rw [P.2.2.2.1]⟩, P.2.2.2.1]
  exact Ok_p (PS_up P _)
/-- an object is begun -/
theorem PS_0 (hT : h.2 = r) (F : Fresh h) (ci : Nat) (fs : List Value) (hr : r < 999999 := by omega) : Ok (nwO h ci fs) (fun g => PS h (r + 1) h r (r + 1) ci fs [] g) := by
  unfold nwO
  rw [if_pos (F.2.1 h.2 (Nat.le_refl _) F.1)]
  refine Ok_p ⟨by show h.2 + 1 = _; rw [hT], Fresh_new F (by omega), fun b hb => new_ne (by omega), by rw [← hT, new_eq], by omega, fun a a1 a2 => by omega, fun a ha => (by cases ha), Nat.le_refl _, fun b b1 b2 => by omega⟩
/-- an object made within another: it is ready -/
def Rdy (g : mxH) (s T : Nat) (g' : mxH) : Prop := g'.2 = T ∧ Fresh g' ∧ (∀ b, b < s → g'.1 b = g.1 b) ∧ ∀ a, s ≤ a → a < T → fits (lay a) (g'.1 a)
theorem PS_in {g' : mxH} {T' : Nat} (P : PS K D h r T ci fs zs g) (R : Rdy g T T' g') (hT : T < T') : PS K D h r T' ci fs zs g' := by
  obtain ⟨p1, p2, p3, p4, p5, p6, p7, p8, p9⟩ := P
  obtain ⟨r1, r2, r3, r4⟩ := R
  refine ⟨r1, r2, fun b hb => by rw [r3 b (by omega)]; exact p3 b hb, by rw [r3 r p5]; exact p4, by omega, fun a a1 a2 => ?_, fun a ha => ?_, by omega, fun b b1 b2 => by rw [r3 b (by omega)]; exact p9 b b1 b2⟩
  · by_cases q : a < T
    · rw [r3 a q]; exact p6 a a1 q
    · exact r4 a (by omega) a2
  · obtain ⟨q1, q2, q3⟩ := p7 a ha
    exact ⟨q1, by omega, fun k => by rw [r3 a q2]; exact q3 k⟩
theorem PS_anchor (P : PS K D h r T ci fs zs g) : PS g T h r T ci fs zs g := ⟨P.1, P.2.1, P.2.2.1, P.2.2.2.1, P.2.2.2.2.1, P.2.2.2.2.2.1, P.2.2.2.2.2.2.1, Nat.le_refl _, fun _ _ _ => rfl⟩
theorem PS_done (P : PS K D h r T ci fs zs g) (f : fits (lay r) (ci, [], fs)) : Rdy h r T g := by
  obtain ⟨p1, p2, p3, p4, p5, p6, p7, p8, p9⟩ := P
  refine ⟨p1, p2, p3, fun a a1 a2 => ?_⟩
  by_cases q : a = r
  · rw [q, p4]; exact f
  · exact p6 a (by omega) a2
theorem Rdy_WF (R : Rdy h (r + 2) T g) : WFc r T g := ⟨R.1, fun a a1 a2 => R.2.2.2 a a1 a2⟩
theorem Rdy_tr {g1 g2 : mxH} (hr : 2 ≤ r) (R : Rdy h r T g1) {P : Nat → Prop} (F : Frc (r - 2) T P g1 g2) (hp : ∀ b, P b → r ≤ b ∧ b < T) : Rdy h r T g2 := by
  obtain ⟨r1, r2, r3, r4⟩ := R
  have rT := r2.1
  have FT := F.1.1
  refine ⟨F.1.1, ⟨by omega, fun b hb hb2 => ?_, by rw [F.2 1000001 trivial (fun z => by have := hp 1000001 z; omega)]; exact r2.2.2⟩, fun b hb => ?_, fun a a1 a2 => F.1.2 a (by omega) a2⟩
  · rw [F.1.1] at hb
    rw [F.2 b trivial (fun z => by have := hp b z; omega)]; exact r2.2.1 b (by rw [r1]; exact hb) hb2
  · rw [F.2 b trivial (fun z => by have := hp b z; omega)]; exact r3 b hb
end
/-- the reference's row at the start, before the first items -/
def n0 : Nat → Int32 := fun k => if k < 100 then -1 else if k < 105 then 1 else if k = 105 then 0 else if k < 108 then 1 else if k = 108 then 5 else if k = 109 then 2 else if 221 ≤ k ∧ k < 225 then -1 else 0
theorem n0_m {k : Nat} (hk : k < 100) : n0 k = -1 := if_pos hk
theorem n0_hs {r t : Nat} (hr : r < 5) (ht : t < 20) : hs n0 r t = false := by
  unfold hs
  rw [n0_m (by omega)]; decide
theorem n0_itm {r : Nat} (hr : r < 5) : itm n0 r = 0 := by
  unfold itm
  rw [cnt_congr (q := fun _ => false) (fun t ht => n0_hs hr ht)]
  have z : ∀ m, cnt (fun _ => false) m = 0 := fun m => by
    induction m with
    | zero => rfl
    | succ m ih => rw [cnt_f rfl, ih]
  exact z 20
theorem n0_fpl {t : Nat} (ht : t < 20) : fpl n0 t = 20 := by
  unfold fpl
  rw [fo_congr (g' := fun m _ => m) (fun x k hk => by rw [n0_hs hk ht]; rfl)]
  rfl
