/-! the mini machine: typed reads and writes, loops, joins: what the printed walks use -/
def gI (h : mxH) (a ci j : Nat) : Option Int32 := if a < h.2 ∧ (h.1 a).1 = ci then mxIn (h.1 a).2.2[j]? else none
def gR (h : mxH) (a ci j : Nat) : Option Nat := if a < h.2 ∧ (h.1 a).1 = ci then mxRf (h.1 a).2.2[j]? else none
def pI (h : mxH) (a ci j : Nat) (x : Int32) : Option mxH := if a < h.2 ∧ (h.1 a).1 = ci then some (mxUp h a (ci, (h.1 a).2.1, (h.1 a).2.2.set j (.int x))) else none
def pR (h : mxH) (a ci j : Nat) (x : Nat) : Option mxH := if a < h.2 ∧ (h.1 a).1 = ci then some (mxUp h a (ci, (h.1 a).2.1, (h.1 a).2.2.set j (.ref x))) else none
/-- an object of class ci lies there -/
def isO (h : mxH) (a ci : Nat) : Option Unit := if a < h.2 ∧ (h.1 a).1 = ci then some () else none
def mxNz (y : Int32) : Option Unit := if y = 0 then none else some ()
def mxZ1 (x : Int32) : Option Int32 := if x = 0 ∨ x = 1 then some x else none
def mxMax (x y : Int32) : Int32 := if x < y then y else x
def mxMin (x y : Int32) : Int32 := if y < x then y else x
def mxLoop {σ ρ : Type} (f : σ → Option (σ ⊕ ρ)) : Nat → σ → Option ρ
  | 0, _ => none
  | n + 1, s => match f s with
    | none => none
    | some (.inl s') => mxLoop f n s'
    | some (.inr r) => some r
def mxF : Nat := 100000
theorem mx_bind {α β : Type} {o : Option α} {f : α → Option β} {r : β} (h : Option.bind o f = some r) : ∃ v, o = some v ∧ f v = some r := by
  cases o with
  | none => cases h
  | some v => exact ⟨v, rfl, h⟩
theorem mxLoop_ind {σ ρ : Type} {f : σ → Option (σ ⊕ ρ)} {r : ρ} {K : σ → Prop} (step : ∀ (s : σ) (o : σ ⊕ ρ), f s = some o → (∀ s', o = .inl s' → K s') → (∀ r', o = .inr r' → r' = r) → K s) : ∀ (n : Nat) (s : σ), mxLoop f n s = some r → K s := by
  intro n
  induction n with
  | zero => intro s h; cases h
  | succ n ih =>
    intro s h
    unfold mxLoop at h
    cases hf : f s with
    | none => rw [hf] at h; cases h
    | some o =>
      rw [hf] at h
      cases o with
      | inl s' => exact step s _ hf (fun s2 e => by cases e; exact ih s' h) (fun r' e => by cases e)
      | inr r' => exact step s _ hf (fun s2 e => by cases e) (fun r2 e => by cases e; exact Option.some.inj h)
def mxThen {α β : Type} (o : Option ((α ⊕ String) × mxH)) (f : α → mxH → Option ((β ⊕ String) × mxH)) : Option ((β ⊕ String) × mxH) := match o with
  | none => none
  | some (.inl v, h) => f v h
  | some (.inr E, h) => some (.inr E, h)
theorem mx_then {α β : Type} {o : Option ((α ⊕ String) × mxH)} {f : α → mxH → Option ((β ⊕ String) × mxH)} {r : (β ⊕ String) × mxH} (h : mxThen o f = some r) : (∃ v h1, o = some (.inl v, h1) ∧ f v h1 = some r) ∨ (∃ E h1, o = some (.inr E, h1) ∧ r = (.inr E, h1)) := by
  cases o with
  | none => cases h
  | some p =>
    obtain ⟨v | E, h1⟩ := p
    · exact Or.inl ⟨v, h1, rfl, h⟩
    · exact Or.inr ⟨E, h1, rfl, (Option.some.inj h).symm⟩
def mxRI (r : Int32 ⊕ String) : mxR := match r with
  | .inl v => .inl (some (.int v))
  | .inr E => .inr E
def mxRU (r : Unit ⊕ String) : mxR := match r with
  | .inl _ => .inl none
  | .inr E => .inr E
theorem mxNz_some {y : Int32} {u : Unit} (h : mxNz y = some u) : ¬ y = 0 := by
  intro q
  unfold mxNz at h
  rw [if_pos q] at h
  cases h
theorem mxZ1_some {x y : Int32} (h : mxZ1 x = some y) : y = x ∧ narrow .boolean (.int x) = .int x := by
  unfold mxZ1 at h
  split at h
  · rename_i q
    cases h
    rcases q with rfl | rfl <;> exact ⟨rfl, rfl⟩
  · cases h
theorem isO_some {h : mxH} {a ci : Nat} {u : Unit} (q : isO h a ci = some u) : a < h.2 ∧ (h.1 a).1 = ci := by
  unfold isO at q
  split at q
  · assumption
  · cases q
/-- ls holds what ls' holds -/
def mxLe (ls' ls : List (Option Value)) : Prop := ∀ i v, mxGet ls' i = some v → mxGet ls i = some v
theorem mxLe_z {ls : List (Option Value)} : mxLe [] ls := fun _ _ h => by cases h
theorem mxLe_n {a b : List (Option Value)} {w : Option Value} (h : mxLe a b) : mxLe (none :: a) (w :: b) := fun i v q => by
  cases i with
  | zero => cases q
  | succ i => exact h i v q
theorem mxLe_s {a b : List (Option Value)} {v : Value} (h : mxLe a b) : mxLe (some v :: a) (some v :: b) := fun i w q => by
  cases i with
  | zero => exact q
  | succ i => exact h i w q
/-- all the room checks of a call -/
def mxFit (R rm : Room) (nL k n : Nat) : Bool := decide (rm.frames + 1 ≤ R.frames) && decide (8 + (nL + 11) + rm.locals ≤ R.locals) && decide (k + rm.cells ≤ R.cells) && decide (n + rm.slots ≤ R.slots)
theorem mxFit_of {R rm : Room} {nL k n : Nat} (h : mxFit R rm nL k n = true) : (rm.frames + 1 ≤ R.frames ∧ 8 + (nL + 11) + rm.locals ≤ R.locals) ∧ (k + rm.cells ≤ R.cells ∧ n + rm.slots ≤ R.slots) := by
  simp only [mxFit, Bool.and_eq_true, decide_eq_true_eq] at h
  exact ⟨⟨h.1.1.1, h.1.1.2⟩, ⟨h.1.2, h.2⟩⟩
section MG8
variable {l : Launch} {Z : mxZ} {X : mxX} {own : String} {cc : ByteArray} {nL k n pc : Nat} {ls : List (Option Value)} {st : List Value} {h : mxH}
theorem mG_sub {ls' : List (Option Value)} (hs : mxLe ls' ls) (g : mG l Z X nL k n pc ls' st h) : mG l Z X nL k n pc ls st h := by
  obtain ⟨p, e, R, s, m, args, below, meth, c, Q⟩ := X
  intro H locs lr hH hL hlr
  exact g H locs lr hH hL ⟨hlr.1, hlr.2.1, fun i v q => hlr.2.2 i v (hs i v q)⟩
theorem mG_ic {d : Int} {v : Int32} (C : mxC l Z X own cc nL) (hd : decode cc pc = .ok (.iconst d, 1)) (hv : Int32.ofInt d = v) (g : mG l Z X nL k n (pc + 1) ls (.int v :: st) h) : mG l Z X nL k n pc ls st h := by
  subst hv; exact mG_iconst C hd g
theorem mG_bp {d : Int} {v : Int32} (C : mxC l Z X own cc nL) (hd : decode cc pc = .ok (.bipush d, 2)) (hv : (Int8.ofInt d).toInt32 = v) (g : mG l Z X nL k n (pc + 2) ls (.int v :: st) h) : mG l Z X nL k n pc ls st h := by
  subst hv; exact mG_bipush C hd g
theorem mG_sp {d : Int} {v : Int32} (C : mxC l Z X own cc nL) (hd : decode cc pc = .ok (.sipush d, 3)) (hv : (Int16.ofInt d).toInt32 = v) (g : mG l Z X nL k n (pc + 3) ls (.int v :: st) h) : mG l Z X nL k n pc ls st h := by
  subst hv; exact mG_sipush C hd g
theorem mG_inc {i : Nat} {d : Int} {x v : Int32} (C : mxC l Z X own cc nL) (hd : decode cc pc = .ok (.iinc i d, 3)) (hl : mxGet ls i = some (.int x)) (hv : x + Int32.ofInt d = v) (hi : i < nL) (hf : mxFree ls i = true) (g : mG l Z X nL k n (pc + 3) (mxPut ls i (some (.int v))) st h) : mG l Z X nL k n pc ls st h := by
  subst hv; exact mG_iinc C hd hl hi hf g
theorem mG_is {ls' : List (Option Value)} {i : Nat} {x : Int32} (C : mxC l Z X own cc nL) (hd : decode cc pc = .ok (.istore i, 2)) (hi : Nat.blt i nL = true) (hf : mxFree ls i = true) (hp : mxPut ls i (some (.int x)) = ls') (g : mG l Z X nL k n (pc + 2) ls' st h) : mG l Z X nL k n pc ls (.int x :: st) h := by
  subst hp; exact mG_istore C hd (by simpa [Nat.blt_eq] using hi) hf g
theorem mG_isn {ls' : List (Option Value)} {i : Fin 4} {x : Int32} (C : mxC l Z X own cc nL) (hd : decode cc pc = .ok (.istore_n i, 1)) (hi : Nat.blt i.val nL = true) (hf : mxFree ls i.val = true) (hp : mxPut ls i.val (some (.int x)) = ls') (g : mG l Z X nL k n (pc + 1) ls' st h) : mG l Z X nL k n pc ls (.int x :: st) h := by
  subst hp; exact mG_istore_n C hd (by simpa [Nat.blt_eq] using hi) hf g
theorem mG_as {ls' : List (Option Value)} {i : Nat} {x : Nat} (C : mxC l Z X own cc nL) (hd : decode cc pc = .ok (.astore i, 2)) (hi : Nat.blt i nL = true) (hf : mxFree ls i = true) (hp : mxPut ls i (some (.ref x)) = ls') (g : mG l Z X nL k n (pc + 2) ls' st h) : mG l Z X nL k n pc ls (.ref x :: st) h := by
  subst hp; exact mG_astore C hd (by simpa [Nat.blt_eq] using hi) hf g
theorem mG_asn {ls' : List (Option Value)} {i : Fin 4} {x : Nat} (C : mxC l Z X own cc nL) (hd : decode cc pc = .ok (.astore_n i, 1)) (hi : Nat.blt i.val nL = true) (hf : mxFree ls i.val = true) (hp : mxPut ls i.val (some (.ref x)) = ls') (g : mG l Z X nL k n (pc + 1) ls' st h) : mG l Z X nL k n pc ls (.ref x :: st) h := by
  subst hp; exact mG_astore_n C hd (by simpa [Nat.blt_eq] using hi) hf g
theorem mG_ds {ls' : List (Option Value)} {i : Nat} {x : UInt64} (C : mxC l Z X own cc nL) (hd : decode cc pc = .ok (.dstore i, 2)) (hi : Nat.blt (i + 1) nL = true) (hf : mxFree ls i = true) (hp : mxPut (mxPut ls (i + 1) none) i (some (.double x)) = ls') (g : mG l Z X nL k n (pc + 2) ls' st h) : mG l Z X nL k n pc ls (.double x :: st) h := by
  subst hp; exact mG_dstore C hd (by simpa [Nat.blt_eq] using hi) hf g
theorem mG_ii {ls' : List (Option Value)} {i : Nat} {d : Int} {x v : Int32} (C : mxC l Z X own cc nL) (hd : decode cc pc = .ok (.iinc i d, 3)) (hl : mxGet ls i = some (.int x)) (hv : x + Int32.ofInt d = v) (hi : Nat.blt i nL = true) (hf : mxFree ls i = true) (hp : mxPut ls i (some (.int v)) = ls') (g : mG l Z X nL k n (pc + 3) ls' st h) : mG l Z X nL k n pc ls st h := by
  subst hp; exact mG_inc C hd hl hv (by simpa [Nat.blt_eq] using hi) hf g
theorem mG_getI {idx ci j a : Nat} {ty : FieldType} {fin : Bool} {x : Int32} (C : mxC l Z X own cc nL) (hd : decode cc pc = .ok (.getfield idx, 3)) (hf : mxFld own idx ci j ty fin) (hv : gI h a ci j = some x) (g : mG l Z X nL k n (pc + 3) ls (.int x :: st) h) : mG l Z X nL k n pc ls (.ref a :: st) h := by
  unfold gI at hv
  split at hv
  · rename_i q; exact mG_getfield C hd hf q.1 q.2 (mxIn_some hv) g
  · cases hv
theorem mG_getR {idx ci j a : Nat} {ty : FieldType} {fin : Bool} {x : Nat} (C : mxC l Z X own cc nL) (hd : decode cc pc = .ok (.getfield idx, 3)) (hf : mxFld own idx ci j ty fin) (hv : gR h a ci j = some x) (g : mG l Z X nL k n (pc + 3) ls (.ref x :: st) h) : mG l Z X nL k n pc ls (.ref a :: st) h := by
  unfold gR at hv
  split at hv
  · rename_i q; exact mG_getfield C hd hf q.1 q.2 (mxRf_some hv) g
  · cases hv
theorem mG_putI {idx ci j a : Nat} {x : Int32} {h' : mxH} (C : mxC l Z X own cc nL) (hd : decode cc pc = .ok (.putfield idx, 3)) (hf : mxFld own idx ci j .int false) (hv : pI h a ci j x = some h') (g : mG l Z X nL k n (pc + 3) ls st h') : mG l Z X nL k n pc ls (.int x :: .ref a :: st) h := by
  unfold pI at hv
  split at hv
  · rename_i q
    obtain ⟨q1, q2⟩ := q
    cases hv
    subst q2
    exact mG_putfield C hd hf q1 rfl rfl rfl g
  · cases hv
theorem mG_putR {idx ci j a x : Nat} {ty : FieldType} {h' : mxH} (C : mxC l Z X own cc nL) (hd : decode cc pc = .ok (.putfield idx, 3)) (hf : mxFld own idx ci j ty true) (ho : mxCl[ci]?.map (fun r => (r.2.1 j).1) = some own) (hi0 : X.2.2.2.2.2.2.2.1.name = "<init>") (hw : ∃ T N, mxCl[ci]? = some (own, T, N) ∧ Cond.fieldLink own idx (T j).1 (T j).2.1 (T j).2.2.1 ∈ mxAW) (hn : ∀ a, narrow ty (.ref a) = .ref a) (hfit : ∀ a, fits ty (.ref a) = true)
    (hv : pR h a ci j x = some h') (g : mG l Z X nL k n (pc + 3) ls st h') : mG l Z X nL k n pc ls (.ref x :: .ref a :: st) h := by
  unfold pR at hv
  split at hv
  · rename_i q
    obtain ⟨q1, q2⟩ := q
    cases hv
    subst q2
    exact mG_putfinal C hd hf ho hi0 hw q1 rfl (hn _) (hfit _) g
  · cases hv
theorem mG_cS {idx k' n' : Nat} {y : MethodName} {cc' : ByteArray} {nL' : Nat} {ret : Option FieldType} {R0 rm : Room} (as rest : List Value) {h' : mxH} {v : Option Value}
    (C : mxC l Z X own cc nL) (hX : mxRm X = R0) (hd : decode cc pc = .ok (.invokestatic idx, 3)) (hlk : mxLkS own idx y cc' nL' ret as.length) (hs : st = as.reverse ++ rest) (hm : mxMet l Z y cc' nL' ret rm as h (.inl v) h') (hF : mxFit R0 rm nL' k n = true) (hk : k + rm.cells = k') (hn : n + rm.slots = n') (hW : Nat.ble (rest.map fun v => v.category).sum 8 = true)
    (g : mG l Z X nL k' n' (pc + 3) ls (v.toList ++ rest) h') : mG l Z X nL k n pc ls st h := by
  obtain ⟨f1, f2⟩ := mxFit_of hF
  subst hk; subst hn; subst hX
  exact mG_callS C hd hlk hs hm f1 f2 (Nat.le_of_ble_eq_true hW) g
theorem mG_cV {idx k' n' : Nat} {y : MethodName} {cc' : ByteArray} {nL' : Nat} {ret : Option FieldType} {R0 rm : Room} (ci : Nat) {a : Nat} (as rest : List Value) {h' : mxH} {v : Option Value} {u : Unit}
    (C : mxC l Z X own cc nL) (hX : mxRm X = R0) (hd : decode cc pc = .ok (.invokevirtual idx, 3)) (hlk : mxLkV own idx y cc' nL' ret as.length) (hs : st = as.reverse ++ .ref a :: rest) (hrc : mxCl[ci]?.map (fun q => q.1) = some y.cls) (ho : isO h a ci = some u) (hm : mxMet l Z y cc' nL' ret rm (.ref a :: as) h (.inl v) h') (hF : mxFit R0 rm nL' k n = true) (hk : k + rm.cells = k') (hn : n + rm.slots = n') (hW : Nat.ble (rest.map fun v => v.category).sum 8 = true)
    (g : mG l Z X nL k' n' (pc + 3) ls (v.toList ++ rest) h') : mG l Z X nL k n pc ls st h := by
  obtain ⟨f1, f2⟩ := mxFit_of hF
  obtain ⟨o1, o2⟩ := isO_some ho
  subst hk; subst hn; subst hX
  exact mG_callV ci C hd hlk hs hrc o1 o2 hm f1 f2 (Nat.le_of_ble_eq_true hW) g
theorem mG_cI {idx k' n' : Nat} {y : MethodName} {cc' : ByteArray} {nL' : Nat} {R0 rm : Room} {a : Nat} (as rest : List Value) {h' : mxH}
    (C : mxC l Z X own cc nL) (hX : mxRm X = R0) (hd : decode cc pc = .ok (.invokespecial idx, 3)) (hlk : mxLkI own idx y cc' nL' as.length) (hs : st = as.reverse ++ .ref a :: rest) (hm : mxMet l Z y cc' nL' none rm (.ref a :: as) h (.inl none) h') (hF : mxFit R0 rm nL' k n = true) (hk : k + rm.cells = k') (hn : n + rm.slots = n') (hW : Nat.ble (rest.map fun v => v.category).sum 8 = true)
    (g : mG l Z X nL k' n' (pc + 3) ls rest h') : mG l Z X nL k n pc ls st h := by
  obtain ⟨f1, f2⟩ := mxFit_of hF
  subst hk; subst hn; subst hX
  exact mG_callI C hd hlk hs hm f1 f2 (Nat.le_of_ble_eq_true hW) g
/-- the callee throws, and nothing catches it here -/
theorem mG_cSX {idx : Nat} {y : MethodName} {cc' : ByteArray} {nL' : Nat} {ret ret' : Option FieldType} {R0 rm : Room} (as rest : List Value) {h' : mxH} {E : String}
    (C : mxC l Z X own cc nL) (En : mxEnd Z X ret (.inr E) h') (hX : mxRm X = R0) (hd : decode cc pc = .ok (.invokestatic idx, 3)) (hlk : mxLkS own idx y cc' nL' ret' as.length) (hs : st = as.reverse ++ rest) (hm : mxMet l Z y cc' nL' ret' rm as h (.inr E) h') (hF : mxFit R0 rm nL' k n = true) (hW : Nat.ble (rest.map fun v => v.category).sum 8 = true) : mG l Z X nL k n pc ls st h := by
  obtain ⟨f1, f2⟩ := mxFit_of hF
  subst hX
  exact mG_callSX C En hd hlk hs hm f1 f2 (Nat.le_of_ble_eq_true hW)
theorem mG_cVX {idx : Nat} {y : MethodName} {cc' : ByteArray} {nL' : Nat} {ret ret' : Option FieldType} {R0 rm : Room} (ci : Nat) {a : Nat} (as rest : List Value) {h' : mxH} {E : String} {u : Unit}
    (C : mxC l Z X own cc nL) (En : mxEnd Z X ret (.inr E) h') (hX : mxRm X = R0) (hd : decode cc pc = .ok (.invokevirtual idx, 3)) (hlk : mxLkV own idx y cc' nL' ret' as.length) (hs : st = as.reverse ++ .ref a :: rest) (hrc : mxCl[ci]?.map (fun q => q.1) = some y.cls) (ho : isO h a ci = some u) (hm : mxMet l Z y cc' nL' ret' rm (.ref a :: as) h (.inr E) h') (hF : mxFit R0 rm nL' k n = true) (hW : Nat.ble (rest.map fun v => v.category).sum 8 = true) : mG l Z X nL k n pc ls st h := by
  obtain ⟨f1, f2⟩ := mxFit_of hF
  obtain ⟨o1, o2⟩ := isO_some ho
  subst hX
  exact mG_callVX ci C En hd hlk hs hrc o1 o2 hm f1 f2 (Nat.le_of_ble_eq_true hW)
theorem mG_mx {idx : Nat} {x y : Int32} {R0 : Room} (C : mxC l Z X own cc nL) (hX : mxRm X = R0) (hd : decode cc pc = .ok (.invokestatic idx, 3)) (hw : Cond.methodLink own idx Lib.Math.max.name ∈ mxAW) (hw2 : Cond.static Lib.Math.max.name ∈ mxAW ∧ Cond.initialized "java/lang/Math" ∈ mxAW ∧ Cond.code Lib.Math.max.name Lib.Math.max.code 2 (some .int) ∈ mxAW)
    (hF : mxFit R0 { frames := 0, cells := 0, slots := 0, locals := 0 } 2 k n = true) (hW : Nat.ble (st.map fun v => v.category).sum 8 = true) (g : mG l Z X nL k n (pc + 3) ls (.int (mxMax x y) :: st) h) : mG l Z X nL k n pc ls (.int y :: .int x :: st) h := by
  obtain ⟨f1, f2⟩ := mxFit_of hF
  have h9 := Nat.le_of_ble_eq_true hW
  subst hX
  exact mG_max C hd hw hw2 ⟨by simpa using f1.1, by have := f1.2; simp at this; omega⟩ (by simpa using f2) g
theorem mG_mn {idx : Nat} {x y : Int32} {R0 : Room} (C : mxC l Z X own cc nL) (hX : mxRm X = R0) (hd : decode cc pc = .ok (.invokestatic idx, 3)) (hw : Cond.methodLink own idx Lib.Math.min.name ∈ mxAW) (hw2 : Cond.static Lib.Math.min.name ∈ mxAW ∧ Cond.initialized "java/lang/Math" ∈ mxAW ∧ Cond.code Lib.Math.min.name Lib.Math.min.code 2 (some .int) ∈ mxAW)
    (hF : mxFit R0 { frames := 0, cells := 0, slots := 0, locals := 0 } 2 k n = true) (hW : Nat.ble (st.map fun v => v.category).sum 8 = true) (g : mG l Z X nL k n (pc + 3) ls (.int (mxMin x y) :: st) h) : mG l Z X nL k n pc ls (.int y :: .int x :: st) h := by
  obtain ⟨f1, f2⟩ := mxFit_of hF
  have h9 := Nat.le_of_ble_eq_true hW
  subst hX
  exact mG_min C hd hw hw2 ⟨by simpa using f1.1, by have := f1.2; simp at this; omega⟩ (by simpa using f2) g
theorem mG_oI {idx a : Nat} {R0 : Room} (C : mxC l Z X own cc nL) (hX : mxRm X = R0) (hd : decode cc pc = .ok (.invokespecial idx, 3)) (hw : Cond.methodLink own idx Lib.objectInit ∈ mxAW ∧ Cond.instanceMethod Lib.objectInit ∈ mxAW ∧ Cond.code Lib.objectInit ⟨#[0xb1]⟩ 1 none ∈ mxAW) (hF : mxFit R0 { frames := 0, cells := 0, slots := 0, locals := 0 } 2 k n = true) (hW : Nat.ble (st.map fun v => v.category).sum 8 = true) (g : mG l Z X nL k n (pc + 3) ls st h) : mG l Z X nL k n pc ls (.ref a :: st) h := by
  obtain ⟨f1, f2⟩ := mxFit_of hF
  have h9 := Nat.le_of_ble_eq_true hW
  subst hX
  exact mG_objInit C hd hw ⟨by simpa using f1.1, by have := f1.2; simp at this; omega⟩ g
theorem mG_ir {x : Int32} {R0 : Room} (C : mxC l Z X own cc nL) (E : mxEnd Z X (some .int) (.inl (some (.int x))) h) (hX : mxRm X = R0) (hd : decode cc pc = .ok (.ireturn, 1)) (hk : (Nat.ble k R0.cells && Nat.ble n R0.slots) = true) : mG l Z X nL k n pc ls [.int x] h := by
  subst hX
  simp only [Bool.and_eq_true] at hk
  exact mG_ireturn C E hd rfl ⟨Nat.le_of_ble_eq_true hk.1, Nat.le_of_ble_eq_true hk.2⟩
theorem mG_zr {x y : Int32} {R0 : Room} (C : mxC l Z X own cc nL) (hz : mxZ1 x = some y) (E : mxEnd Z X (some .boolean) (.inl (some (.int y))) h) (hX : mxRm X = R0) (hd : decode cc pc = .ok (.ireturn, 1)) (hk : (Nat.ble k R0.cells && Nat.ble n R0.slots) = true) : mG l Z X nL k n pc ls [.int x] h := by
  subst hX
  simp only [Bool.and_eq_true] at hk
  obtain ⟨e, hn⟩ := mxZ1_some hz
  subst e
  exact mG_ireturn C E hd hn ⟨Nat.le_of_ble_eq_true hk.1, Nat.le_of_ble_eq_true hk.2⟩
theorem mG_vr {R0 : Room} (C : mxC l Z X own cc nL) (E : mxEnd Z X none (.inl none) h) (hX : mxRm X = R0) (hd : decode cc pc = .ok (.return_, 1)) (hk : (Nat.ble k R0.cells && Nat.ble n R0.slots) = true) : mG l Z X nL k n pc ls [] h := by
  subst hX
  simp only [Bool.and_eq_true] at hk
  exact mG_return C E hd ⟨Nat.le_of_ble_eq_true hk.1, Nat.le_of_ble_eq_true hk.2⟩
theorem mG_dr {x : UInt64} {R0 : Room} (C : mxC l Z X own cc nL) (E : mxEnd Z X (some .double) (.inl (some (.double x))) h) (hX : mxRm X = R0) (hd : decode cc pc = .ok (.dreturn, 1)) (hk : (Nat.ble k R0.cells && Nat.ble n R0.slots) = true) : mG l Z X nL k n pc ls [.double x] h := by
  subst hX
  simp only [Bool.and_eq_true] at hk
  exact mG_dreturn C E hd ⟨Nat.le_of_ble_eq_true hk.1, Nat.le_of_ble_eq_true hk.2⟩
theorem mG_fr {x : UInt32} {R0 : Room} (C : mxC l Z X own cc nL) (E : mxEnd Z X (some .float) (.inl (some (.float x))) h) (hX : mxRm X = R0) (hd : decode cc pc = .ok (.freturn, 1)) (hk : (Nat.ble k R0.cells && Nat.ble n R0.slots) = true) : mG l Z X nL k n pc ls [.float x] h := by
  subst hX
  simp only [Bool.and_eq_true] at hk
  exact mG_freturn C E hd ⟨Nat.le_of_ble_eq_true hk.1, Nat.le_of_ble_eq_true hk.2⟩
theorem mG_th {E text : String} {ik is ic : Nat} {R0 : Room} {ret : Option FieldType} (C : mxC l Z X RX9 cc nL) (En : mxEnd Z X ret (.inr E) (mxThr h)) (hX : mxRm X = R0) (hT : mxThw E ik ic) (hx : (is, text) ∈ mxTx)
    (d0 : decode cc pc = .ok (.new ik, 3)) (d3 : decode cc (pc + 3) = .ok (.dup, 1)) (d4 : decode cc (pc + 4) = .ok (.ldc_w is, 3)) (d7 : decode cc (pc + 7) = .ok (.invokespecial ic, 3)) (d10 : decode cc (pc + 10) = .ok (.athrow, 1))
    (hF : mxFit R0 { frames := 5, cells := 1, slots := 6, locals := 80 } 2 k n = true) (hW : Nat.ble (st.map fun v => v.category).sum 8 = true) : mG l Z X nL k n pc ls st h := by
  obtain ⟨f1, f2⟩ := mxFit_of hF
  have h9 := Nat.le_of_ble_eq_true hW
  subst hX
  exact mG_throw C En hT hx d0 d3 d4 d7 d10 f2 ⟨by have := f1.1; simp at this; omega, by have := f1.2; simp at this; omega⟩
theorem mG_ac {idx a0 a : Nat} {sp dp x : Int32} {h' : mxH} {R0 : Room} (C : mxC l Z X own cc nL) (hX : mxRm X = R0) (hd : decode cc pc = .ok (.invokestatic idx, 3)) (hw : Cond.methodLink own idx arraycopyName ∈ mxAW) (hw2 : Cond.native arraycopyName ∈ mxAW ∧ Cond.static arraycopyName ∈ mxAW ∧ Cond.initialized "java/lang/System" ∈ mxAW) (hv : cpI h a0 sp a dp x = some h')
    (hF : mxFit R0 { frames := 0, cells := 0, slots := 0, locals := 20 } 2 k n = true) (hW : Nat.ble (st.map fun v => v.category).sum 8 = true) (g : mG l Z X nL k n (pc + 3) ls st h') : mG l Z X nL k n pc ls (.int x :: .int dp :: .ref a :: .int sp :: .ref a0 :: st) h := by
  obtain ⟨f1, f2⟩ := mxFit_of hF
  have h9 := Nat.le_of_ble_eq_true hW
  have e : nativeFrameWords "java/lang/System" "arraycopy" 5 ≤ 20 := by decide +kernel
  subst hX
  exact mG_copy C hd hw hw2 hv ⟨by simpa using f1.1, by have := f1.2; simp at this; omega⟩ g
end MG8
