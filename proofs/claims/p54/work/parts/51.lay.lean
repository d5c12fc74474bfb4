/-! THE PURE SIDE, 2: the heap's layout, what lies where, reads and writes -/
def layR (r o : Nat) : Nat × Nat × List Nat :=
  if o = 0 then (6, 8, [r + 1, r + 7, r + 13, r + 19, r + 20, r + 21, 0, r + 22])
  else if o = 1 then (103, 5, [r + 2, r + 3, r + 4, r + 5, r + 6])
  else if o = 7 then (103, 5, [r + 8, r + 9, r + 10, r + 11, r + 12])
  else if o = 13 then (103, 5, [r + 14, r + 15, r + 16, r + 17, r + 18])
  else if o = 19 ∨ o = 20 ∨ o = 22 then (100, 5, []) else (100, 20, [])
def layS (s o : Nat) : Nat × Nat × List Nat :=
  if o = 0 then (7, 4, [s + 1, s + 24, 0, 0]) else if o < 24 then layR (s + 1) (o - 1)
  else if o = 24 then (2, 9, [s + 25, 0, 0, s + 26, 0, 0, s + 27, s + 28, 0])
  else if o = 25 then (100, 10, []) else if o = 26 then (100, 100, []) else (100, 4, [])
def lay (a : Nat) : Nat × Nat × List Nat :=
  if a = 2 then (9, 9, [3, 32, 266, 289, 293, 297, 302, 306, 317])
  else if a < 32 then layS 3 (a - 3)
  else if a = 32 then (0, 2, [33, 0])
  else if a = 33 then (104, 8, [])
  else if a < 266 then layS (34 + 29 * ((a - 34) / 29)) ((a - 34) % 29)
  else if a < 289 then layR 266 (a - 266)
  else if a = 289 then (4, 4, [290, 291, 292, 0]) else if a < 293 then (100, 20, [])
  else if a = 293 then (4, 4, [294, 295, 296, 0]) else if a < 297 then (100, 20, [])
  else if a = 297 then (5, 5, [298, 299, 300, 301, 0])
  else if a < 300 then (100, 21, []) else if a < 302 then (100, 20, [])
  else if a = 302 then (1, 4, [303, 304, 0, 305]) else if a < 305 then (100, 100, []) else if a = 305 then (100, 5, [])
  else if a = 306 then (8, 5, [307, 0, 308, 315, 316]) else if a = 307 then (100, 6, [])
  else if a = 308 then (103, 6, [309, 310, 311, 312, 313, 314]) else if a < 315 then (100, 6, []) else if a = 315 then (100, 64, []) else if a = 316 then (100, 6, [])
  else if a = 317 then (3, 4, [318, 0, 0, 0]) else if a = 318 then (100, 199, [])
  else (200, 0, [])
/-- the number at place k of a cell: an element, or a field -/
def cv (e : mxE) (k : Nat) : Int32 := if e.1 < 100 then (mxIn e.2.2[k]?).getD 0 else (e.2.1[k]?).getD 0
def V (h : mxH) (a : Nat) : Nat → Int32 := cv (h.1 a)
def fits (L : Nat × Nat × List Nat) (e : mxE) : Prop :=
  e.1 = L.1 ∧ ((L.1 = 100 ∨ L.1 = 101) → e.2.1.length = L.2.1) ∧ (L.1 = 102 → e.2.2.length = L.2.1) ∧
  (L.1 = 103 → ∀ j, j < L.2.1 → e.2.2[j]? = some (.ref (L.2.2.getD j 0))) ∧
  (L.1 < 100 → ∀ j, j < L.2.1 → (L.2.2.getD j 0 = 0 → ∃ x, e.2.2[j]? = some (.int x)) ∧ (L.2.2.getD j 0 ≠ 0 → e.2.2[j]? = some (.ref (L.2.2.getD j 0)))) ∧
  (L.1 = 104 → e.2.2.length = 8)
def WF (h : mxH) : Prop := 319 ≤ h.2 ∧ ∀ a, 2 ≤ a → a < 319 → fits (lay a) (h.1 a)
/-- an array of n ints lies at a -/
def ar (a n : Nat) : Prop := 2 ≤ a ∧ a < 319 ∧ (lay a).1 = 100 ∧ (lay a).2.1 = n
/-- an int field j of an object of class c at a -/
def fd (a c j : Nat) : Prop := 2 ≤ a ∧ a < 319 ∧ (lay a).1 = c ∧ c < 100 ∧ j < (lay a).2.1 ∧ (lay a).2.2.getD j 0 = 0
/-- the field j of an object of class c at a is the object at b -/
def rf (a c j b : Nat) : Prop := 2 ≤ a ∧ a < 319 ∧ (lay a).1 = c ∧ c < 100 ∧ j < (lay a).2.1 ∧ (lay a).2.2.getD j 0 = b ∧ b ≠ 0
/-- the row j of the rows at a is the array at b -/
def rw2 (a j b : Nat) : Prop := 2 ≤ a ∧ a < 319 ∧ (lay a).1 = 103 ∧ j < (lay a).2.1 ∧ (lay a).2.2.getD j 0 = b
theorem ldI_at {h : mxH} (W : WF h) {a n k : Nat} (A : ar a n) (hk : k < n) (hn : n < 2147483648 := by decide) : ldI h a (Int32.ofNat k) = some (V h a k) := by
  obtain ⟨a1, a2, a3, a4⟩ := A
  obtain ⟨f1, f2, -⟩ := W.2 a a1 a2
  rw [a3] at f1
  have f2 := f2 (Or.inl a3)
  unfold ldI
  rw [if_pos ⟨by have := W.1; omega, f1, ofN_nn (by omega)⟩, ofN_clamp (by omega)]
  unfold V cv
  rw [if_neg (by rw [f1]; decide)]
  rw [List.getElem?_eq_getElem (by rw [f2, a4]; exact hk)]
  rfl
/-- the heap with x at the place k of the cell a -/
def st (h : mxH) (a k : Nat) (x : Int32) : mxH := mxUp h a (if (h.1 a).1 < 100 then ((h.1 a).1, (h.1 a).2.1, (h.1 a).2.2.set k (.int x)) else ((h.1 a).1, (h.1 a).2.1.set k x, (h.1 a).2.2))
theorem stI_at {h : mxH} (W : WF h) {a n k : Nat} {x : Int32} (A : ar a n) (hk : k < n) (hn : n < 2147483648 := by decide) : stI h a (Int32.ofNat k) x = some (st h a k x) := by
  obtain ⟨a1, a2, a3, a4⟩ := A
  obtain ⟨f1, f2, -⟩ := W.2 a a1 a2
  rw [a3] at f1
  have f2 := f2 (Or.inl a3)
  unfold stI st
  rw [ofN_clamp (by omega)]
  rw [if_pos ⟨⟨by have := W.1; omega, a1⟩, f1, ofN_nn (by omega), by rw [f2, a4]; exact hk⟩, if_neg (by rw [f1]; decide), f1]
theorem gI_at {h : mxH} (W : WF h) {a c j : Nat} (A : fd a c j) : gI h a c j = some (V h a j) := by
  obtain ⟨a1, a2, a3, a4, a5, a6⟩ := A
  obtain ⟨f1, -, -, -, f2, -⟩ := W.2 a a1 a2
  obtain ⟨x, hx⟩ := (f2 (by omega) j a5).1 a6
  unfold gI
  rw [if_pos ⟨by have := W.1; omega, by rw [f1, a3]⟩, hx]
  unfold V cv
  rw [if_pos (by rw [f1, a3]; exact a4), hx]
  rfl
theorem pI_at {h : mxH} (W : WF h) {a c j : Nat} {x : Int32} (A : fd a c j) : pI h a c j x = some (st h a j x) := by
  obtain ⟨a1, a2, a3, a4, a5, a6⟩ := A
  obtain ⟨f1, -⟩ := W.2 a a1 a2
  unfold pI st
  rw [if_pos ⟨by have := W.1; omega, by rw [f1, a3]⟩, if_pos (by rw [f1, a3]; exact a4), f1, a3]
theorem gR_at {h : mxH} (W : WF h) {a c j b : Nat} (A : rf a c j b) : gR h a c j = some b := by
  obtain ⟨a1, a2, a3, a4, a5, a6, a7⟩ := A
  obtain ⟨f1, -, -, -, f2, -⟩ := W.2 a a1 a2
  have := (f2 (by omega) j a5).2 (by omega)
  unfold gR
  rw [if_pos ⟨by have := W.1; omega, by rw [f1, a3]⟩, this, a6]
  rfl
theorem ldR_at {h : mxH} (W : WF h) {a j b : Nat} (A : rw2 a j b) (hj : j < 2147483648 := by omega) : ldR h a (Int32.ofNat j) = some b := by
  obtain ⟨a1, a2, a3, a5, a6⟩ := A
  obtain ⟨f1, -, -, f2, -⟩ := W.2 a a1 a2
  have := f2 a3 j a5
  unfold ldR
  rw [if_pos ⟨by have := W.1; omega, Or.inl (by rw [f1, a3]), ofN_nn hj⟩, ofN_clamp hj, this, a6]
  rfl
theorem isO_at {h : mxH} (W : WF h) {a c : Nat} (A : 2 ≤ a ∧ a < 319 ∧ (lay a).1 = c) : isO h a c = some () := by
  obtain ⟨a1, a2, a3⟩ := A
  obtain ⟨f1, -⟩ := W.2 a a1 a2
  unfold isO
  rw [if_pos ⟨by have := W.1; omega, by rw [f1, a3]⟩]
theorem lenA_at {h : mxH} (W : WF h) {a n : Nat} (A : ar a n) : lenA h a = some (Int32.ofNat n) := by
  obtain ⟨a1, a2, a3, a4⟩ := A
  obtain ⟨f1, f2, -⟩ := W.2 a a1 a2
  have f2 := f2 (Or.inl a3)
  rw [a3] at f1
  unfold lenA mxCont
  rw [if_pos ⟨by have := W.1; omega, Or.inl f1⟩, if_pos (Or.inl f1), List.length_map, f2, a4]
/-! what a write leaves -/
/-- a place that may be written -/
def sl (a k : Nat) : Prop := 2 ≤ a ∧ a < 319 ∧ (((lay a).1 = 100 ∨ (lay a).1 = 101) ∧ k < (lay a).2.1 ∨ (lay a).1 < 100 ∧ k < (lay a).2.1 ∧ (lay a).2.2.getD k 0 = 0)
theorem ar.sl {a n k : Nat} (A : ar a n) (hk : k < n) : sl a k := ⟨A.1, A.2.1, Or.inl ⟨Or.inl A.2.2.1, by rw [A.2.2.2]; exact hk⟩⟩
theorem fd.sl {a c j : Nat} (A : fd a c j) : sl a j := ⟨A.1, A.2.1, Or.inr ⟨by rw [A.2.2.1]; exact A.2.2.2.1, A.2.2.2.2⟩⟩
theorem st_ne {h : mxH} {a k b : Nat} {x : Int32} (hb : b ≠ a) : (st h a k x).1 b = h.1 b := if_neg hb
theorem st_2 {h : mxH} {a k : Nat} {x : Int32} : (st h a k x).2 = h.2 := rfl
theorem st_self {h : mxH} {a k : Nat} {x : Int32} : (st h a k x).1 a = (if (h.1 a).1 < 100 then ((h.1 a).1, (h.1 a).2.1, (h.1 a).2.2.set k (.int x)) else ((h.1 a).1, (h.1 a).2.1.set k x, (h.1 a).2.2)) := if_pos rfl
theorem WF_st {h : mxH} (W : WF h) {a k : Nat} {x : Int32} (A : sl a k) : WF (st h a k x) := by
  refine ⟨W.1, fun b b1 b2 => ?_⟩
  by_cases e : b = a
  · subst e
    obtain ⟨f1, f2, f3, f4, f5, f6⟩ := W.2 b b1 b2
    rw [st_self]
    obtain ⟨-, -, ⟨c1, c2⟩ | ⟨c1, c2, c3⟩⟩ := A
    · rw [if_neg (by rw [f1]; omega)]
      exact ⟨f1, fun q => by show (List.set _ _ _).length = _; rw [List.length_set]; exact f2 q, f3, f4, f5, f6⟩
    · rw [if_pos (by rw [f1]; omega)]
      refine ⟨f1, f2, fun q => by omega, fun q => by omega, fun q j hj => ?_, fun q => by omega⟩
      obtain ⟨g1, g2⟩ := f5 q j hj
      show (_ → ∃ y, ((h.1 b).2.2.set k (Value.int x))[j]? = _) ∧ (_ → ((h.1 b).2.2.set k (Value.int x))[j]? = _)
      by_cases e : k = j
      · subst e
        refine ⟨fun q => ?_, fun q => absurd c3 q⟩
        obtain ⟨y, hy⟩ := g1 q
        exact ⟨x, List.getElem?_set_self (List.getElem?_eq_some_iff.mp hy).1⟩
      · rw [List.getElem?_set_ne e]
        exact ⟨g1, g2⟩
  · rw [st_ne e]
    exact W.2 b b1 b2
theorem cv_f {e : mxE} {k : Nat} (h : e.1 < 100) : cv e k = (mxIn e.2.2[k]?).getD 0 := if_pos h
theorem cv_a {e : mxE} {k : Nat} (h : ¬ e.1 < 100) : cv e k = (e.2.1[k]?).getD 0 := if_neg h
theorem V_st {h : mxH} (W : WF h) {a k : Nat} {x : Int32} (A : sl a k) (b j : Nat) : V (st h a k x) b j = if b = a ∧ j = k then x else V h b j := by
  unfold V
  by_cases e : b = a
  · subst e
    obtain ⟨f1, f2, -, -, f5, -⟩ := W.2 b A.1 A.2.1
    rw [st_self]
    obtain ⟨-, -, ⟨c1, c2⟩ | ⟨c1, c2, c3⟩⟩ := A
    · have hn : ¬ (h.1 b).1 < 100 := by rw [f1]; omega
      rw [if_neg hn, cv_a (e := ((h.1 b).1, (h.1 b).2.1.set k x, (h.1 b).2.2)) hn, cv_a hn]
      show (((h.1 b).2.1.set k x)[j]?).getD 0 = _
      by_cases e : j = k
      · subst e
        rw [if_pos ⟨rfl, rfl⟩, List.getElem?_set_self (by rw [f2 c1]; exact c2)]
        rfl
      · rw [if_neg (fun q => e q.2), List.getElem?_set_ne (fun q => e q.symm)]
    · have hn : (h.1 b).1 < 100 := by rw [f1]; omega
      rw [if_pos hn, cv_f (e := ((h.1 b).1, (h.1 b).2.1, (h.1 b).2.2.set k (Value.int x))) hn, cv_f hn]
      show (mxIn ((h.1 b).2.2.set k (Value.int x))[j]?).getD 0 = _
      by_cases e : j = k
      · subst e
        obtain ⟨y, hy⟩ := (f5 c1 j c2).1 c3
        rw [if_pos ⟨rfl, rfl⟩, List.getElem?_set_self (List.getElem?_eq_some_iff.mp hy).1]
        rfl
      · rw [if_neg (fun q => e q.2), List.getElem?_set_ne (fun q => e q.symm)]
  · rw [st_ne e, if_neg (fun q => e q.1)]
theorem V_st_ne {h : mxH} {a k : Nat} {x : Int32} {b : Nat} (hb : b ≠ a) : V (st h a k x) b = V h b := by
  unfold V; rw [st_ne hb]
theorem V_st_eq {h : mxH} (W : WF h) {a k : Nat} {x : Int32} (A : sl a k) : V (st h a k x) a = fup (V h a) k x := by
  funext j
  rw [V_st W A]
  unfold fup
  by_cases e : j = k
  · rw [if_pos ⟨rfl, e⟩, if_pos e]
  · rw [if_neg (fun q => e q.2), if_neg e]
/-! what else stays: all cells but those of P -/
def Fr (P : Nat → Prop) (h h' : mxH) : Prop := WF h' ∧ (∀ b, ¬ P b → h'.1 b = h.1 b) ∧ ((∀ b, P b → b < 319) → h'.2 = h.2)
theorem Fr.refl {P : Nat → Prop} {h : mxH} (W : WF h) : Fr P h h := ⟨W, fun _ _ => rfl, fun _ => rfl⟩
theorem Fr.trans {P : Nat → Prop} {h h1 h2 : mxH} (a : Fr P h h1) (b : Fr P h1 h2) : Fr P h h2 := ⟨b.1, fun c c2 => (b.2.1 c c2).trans (a.2.1 c c2), fun q => (b.2.2 q).trans (a.2.2 q)⟩
theorem Fr.mono {P Q : Nat → Prop} {h h1 : mxH} (a : Fr P h h1) (m : ∀ b, P b → Q b) : Fr Q h h1 := ⟨a.1, fun c c2 => a.2.1 c (fun q => c2 (m c q)), fun q => a.2.2 (fun b z => q b (m b z))⟩
theorem Fr.st {P : Nat → Prop} {h : mxH} (W : WF h) {a k : Nat} {x : Int32} (A : sl a k) (p : P a) : Fr P h (st h a k x) := ⟨WF_st W A, fun b hb => st_ne (fun e => hb (e ▸ p)), fun _ => rfl⟩
theorem Fr_V {P : Nat → Prop} {h h1 : mxH} (a : Fr P h h1) {b : Nat} (_ : b < 319) (h3 : ¬ P b) : V h1 b = V h b := by
  unfold V; rw [a.2.1 b h3]
theorem cpI_at {h : mxH} (W : WF h) {a0 a n0 n1 sp dp m : Nat} (A0 : ar a0 n0) (A : ar a n1) (h1 : sp + m ≤ n0) (h2 : dp + m ≤ n1) (s0 : n0 < 2147483648 := by decide) (s1 : n1 < 2147483648 := by decide) :
    ∃ h', cpI h a0 (Int32.ofNat sp) a (Int32.ofNat dp) (Int32.ofNat m) = some h' ∧ Fr (fun b => b = a) h h' ∧ ∀ j, j < n1 → V h' a j = if dp ≤ j ∧ j < dp + m then V h a0 (sp + (j - dp)) else V h a j := by
  obtain ⟨a1, a2, a3, a4⟩ := A
  obtain ⟨b1, b2, b3, b4⟩ := A0
  obtain ⟨f1, f2, f3, f4, f5, f6⟩ := W.2 a a1 a2
  obtain ⟨g1, g2, -⟩ := W.2 a0 b1 b2
  have f2 := f2 (Or.inl a3)
  have g2 := g2 (Or.inl b3)
  have hl : (mxCpy (h.1 a0).2.1 (h.1 a).2.1 sp dp m).length = (h.1 a).2.1.length := mxCpy_len (by omega) (by omega)
  refine ⟨mxUp h a (100, mxCpy (h.1 a0).2.1 (h.1 a).2.1 sp dp m, (h.1 a).2.2), ?_, ⟨⟨W.1, fun b c1 c2 => ?_⟩, fun b hb => if_neg hb, fun _ => rfl⟩, fun j hj => ?_⟩
  · unfold cpI
    rw [ofN_clamp (by omega), ofN_clamp (by omega), ofN_clamp (by omega)]
    rw [if_pos ⟨⟨by have := W.1; omega, by have := W.1; omega, a1⟩, ⟨by rw [g1, b3], by rw [f1, a3]⟩, ⟨ofN_nn (by omega), ofN_nn (by omega), ofN_nn (by omega)⟩, by omega, by omega⟩]
  · by_cases e : b = a
    · subst e
      show fits _ (if b = b then _ else _)
      rw [if_pos rfl]
      exact ⟨a3.symm, fun _ => hl.trans f2, f3, f4, fun q => by omega, f6⟩
    · show fits _ (if b = a then _ else _)
      rw [if_neg e]
      exact W.2 b c1 c2
  · have e : V (mxUp h a (100, mxCpy (h.1 a0).2.1 (h.1 a).2.1 sp dp m, (h.1 a).2.2)) a j = (mxCpy (h.1 a0).2.1 (h.1 a).2.1 sp dp m).getD j 0 := by
      show cv (if a = a then _ else _) j = _
      rw [if_pos rfl]
      rw [List.getD_eq_getElem?_getD]
      rfl
    rw [e, mxCpy_at (by omega) (by omega) j (by omega)]
    have e1 : ∀ i, (h.1 a0).2.1.getD i 0 = V h a0 i := fun i => by
      unfold V cv
      rw [if_neg (by rw [g1, b3]; decide), List.getD_eq_getElem?_getD]
    have e2 : ∀ i, (h.1 a).2.1.getD i 0 = V h a i := fun i => by
      unfold V cv
      rw [if_neg (by rw [f1, a3]; decide), List.getD_eq_getElem?_getD]
    rw [e1, e2]
