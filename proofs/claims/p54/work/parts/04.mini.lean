/-! The mini machine: a heap of cells numbered from 0 (what the run makes, in order; 1000000: the script, 1000001: FIRST_ITEMS), values whose references are such numbers, and one row an instruction over it. Everything of the kit's worlds is said here once, for any heap; what stands behind this part speaks of the mini machine alone. -/
def mxIsN : Cond → Bool
  | .fieldLinkNest .. => true
  | .methodLinkNest .. => true
  | .declares _ => true
  | .castable .. => true
  | _ => false
/-- the words that every method's contract bears -/
def mxAW : List Cond := lw_tbl.filter goodWord
/-- the nest mates' words, borne in the start of every contract -/
def mxNW : List Cond := lw_tbl.filter mxIsN
abbrev mxCl : List vw_C := [(RX0, TX0, 2), (RX1, TX1, 4), (RX2, TX2, 9), (RX3, TX3, 4), (RX4, TX4, 4), (RX5, TX5, 5), (RX6, TX6, 8), (RX7, TX7, 4), (RX8, TX8, 5), (RX9, TX9, 9), (RX10, TX10, 1), (RL, TL, 5)]
/-- a cell: a class's place in mxCl, or 100 int[], 101 boolean[], 102 long[], 103 int[][], 104 State[], 200 an exception; ints; values -/
abbrev mxE : Type := Nat × List Int32 × List Value
/-- the cells, and how many -/
abbrev mxH : Type := (Nat → mxE) × Nat
/-- what stays through the whole run: the classes' numbers and slots, the heap at the law's start, the script's cell, that of FIRST_ITEMS, the array classes' numbers -/
abbrev mxZ : Type := va_G × Heap × Nat × Nat × (Nat → ClassId)
/-- how a method ends: its answer, or the class that it throws -/
abbrev mxR : Type := Option Value ⊕ String
def mxTr (Z : mxZ) (i : Nat) : Nat := if i = 1000000 then Z.2.2.1 else if i = 1000001 then Z.2.2.2.1 else Z.2.1.size + i
def mxSh (Z : mxZ) (v : Value) : Value := match v with
  | .ref i => .ref (mxTr Z i)
  | w => w
theorem mxSh_cat (Z : mxZ) (v : Value) : (mxSh Z v).category = v.category := by cases v <;> rfl
theorem mxTr_hi {Z : mxZ} {i : Nat} (h : i < 1000000) : mxTr Z i = Z.2.1.size + i := by
  unfold mxTr
  rw [if_neg (by omega), if_neg (by omega)]
def mxCont (e : mxE) : List Value := if e.1 = 100 ∨ e.1 = 101 then e.2.1.map Value.int else e.2.2
def mxCell (Z : mxZ) (e : mxE) (cell : Cell) : Prop :=
  (e.1 < 100 → cell.cls = Z.1.1 e.1 ∧ cell.vm = .none ∧ (∃ r : vw_C, mxCl[e.1]? = some r ∧ e.2.2.length = r.2.2) ∧ ∀ k v, e.2.2[k]? = some v → cell.slots[Z.1.2 e.1 k]? = some (mxSh Z v)) ∧
  (100 ≤ e.1 → e.1 < 200 → cell = { cls := Z.2.2.2.2 e.1, slots := ((mxCont e).map (mxSh Z)).toArray, vm := .none })
def mxOld (e : mxE) (cell : Cell) : Prop := e.1 = 100 ∧ cell.vm ≠ .unknown ∧ cell.slots = (e.2.1.map Value.int).toArray
/-- the heap as the mini machine has it; 300 behind the last cell: no cell that it doesn't know lies there -/
def mxHp (Z : mxZ) (h : mxH) (H : Heap) : Prop :=
  (Z.2.1.size + h.2 ≤ H.size ∧ ((h.1 h.2).1 = 300 → H.size = Z.2.1.size + h.2)) ∧ h.2 ≤ 1000000 ∧ (∀ q : Nat, q < Z.2.1.size → H[q]? = Z.2.1[q]?) ∧
  (∀ i : Nat, i < 2 → ∃ cell : Cell, Z.2.1[mxTr Z (1000000 + i)]? = some cell ∧ mxOld (h.1 (1000000 + i)) cell) ∧
  ∀ i : Nat, i < h.2 → ∃ cell : Cell, H[mxTr Z i]? = some cell ∧ mxCell Z (h.1 i) cell
/-- a type of each kind of array -/
def mxTy (k : Nat) : FieldType := if k = 100 then .int else if k = 101 then .boolean else if k = 102 then .long else if k = 103 then .array .int else .object RX7
/-- the texts of what the class throws -/
def mxTx : List (Nat × String) := [(312, "there is no such row"), (318, "there is no such thing"), (322, "an argument is out of range"), (326, "there is none"), (320, "there is no such place or rank"), (218, "both rows are the same")]
/-- the classes that are thrown -/
def mxXs : List String := ["java/util/NoSuchElementException"]
/-- int[][] has its class -/
def mxAO (U : State) : Prop := (Cond.arrayOver (.array .int)).before #[] U = true
def mxKd (comp : ClassId) (kd : Kind) : Bool := match kd with
  | .array component _ => component == comp
  | _ => false
theorem mx_idx (g : Kind → Bool) (vm : Vm) : (vm.bare.classes.findIdx? fun (x : Class) => g x.kind) = (vm.classes.findIdx? fun (x : Class) => g x.kind) := by
  simp only [Vm.bare, Array.findIdx?_map]
  rfl
theorem mxAO.moved {u U : State} (hvm : u.vm.Alike U.vm) (h : mxAO u) : mxAO U := by
  obtain ⟨comp, c, k, h1, h2, h3, h4, h5⟩ := arrayOverA_spec h
  obtain ⟨k', hk', he⟩ := hvm.2.2 _ _ h3
  have h2' : (u.vm.classes.findIdx? fun (x : Class) => mxKd comp x.kind) = some c := h2
  have hi : (U.vm.classes.findIdx? fun (x : Class) => mxKd comp x.kind) = some c := by
    rw [← mx_idx] at h2' ⊢
    first | rw [← hvm.bare_eq] | rw [hvm.bare_eq]
    exact h2'
  have hkind : k'.kind = .array comp (.array .int) := by rw [he]; exact h4
  have f1 : U.vm.findClass (FieldType.array .int).toString = some comp := by rw [hvm.findClass]; exact h1
  have f2 : U.vm.findClass ("[" ++ (FieldType.array .int).toString) = some c := by rw [hvm.findClass]; exact h5
  unfold mxAO Cond.before Cond.holds
  simp only [Cond.value]
  rw [f1, Option.bind_some]
  refine (congrArg (fun o : Option Nat => (o.bind (fun c => (U.vm.classes[c]?).map fun (k : Class) => match k.kind with | .array _ ty => decide (ty = FieldType.array .int) && decide (U.vm.findClass ("[" ++ (FieldType.array .int).toString) = some c) | _ => false) == some true)) hi).trans ?_
  simp [hk', hkind, f2]
/-- the kinds of arrays that there are -/
abbrev mxKn (k : Nat) : Prop := k = 100 ∨ k = 103 ∨ k = 104
/-- what a state's tables say, for the whole run -/
def mxGF (Z : mxZ) (U : State) : Prop :=
  (∀ w ∈ mxNW, va_Nw w U) ∧ va_K Z.1 mxCl [] U ∧
  (∀ k : Nat, mxKn k → ArrOfT U (Z.2.2.2.2 k) (mxTy k) ∧ U.vm.findClass ("[" ++ (mxTy k).toString) = some (Z.2.2.2.2 k)) ∧
  va_RA U (Z.2.2.2.2 104) (.object RX7) ∧
  (∀ i : Nat, i < 2 → ∃ cell : Cell, Z.2.1[mxTr Z (1000000 + i)]? = some cell ∧ U.isArrayOf cell .int) ∧
  va_Z RX9 "FIRST_ITEMS" "[I" (.ref (mxTr Z 1000001)) (fun q => Z.2.1.size ≤ q) U Z.2.1 ∧
  (vx_Zq Bundle.tN "UNASSIGNED_STACK" Bundle.steD (fun q => Z.2.1.size ≤ q) U Z.2.1 ∧ vx_Zq Bundle.tN "SUPPRESSED_SENTINEL" Bundle.listD (fun q => Z.2.1.size ≤ q) U Z.2.1) ∧
  (∀ x ∈ mxTx, ∃ sa : Nat, vk_R RX9 x.1 x.2 sa U) ∧
  (∀ x ∈ mxXs, ∀ y ∈ mxXs, x ≠ y → va_Nc x y U) ∧
  (va_AO RX7 U ∧ mxAO U)
theorem mxGF.warm {Z : mxZ} {s U : State} (hW : s.WarmedH U.vm) (h : mxGF Z s) : mxGF Z U := by
  obtain ⟨h1, h2, h3, h4, h5, h6, h7, h8, h9, h10⟩ := h
  refine ⟨fun w hw => ?_, h2.moved hW.alike, fun k a => ⟨arrOfT_moved hW.alike (h3 k a).1, ?_⟩, h4.moved hW.alike, fun i hi => ?_, h6.moved hW.alike, ⟨h7.1.moved hW.alike, h7.2.moved hW.alike⟩, fun x hx => ?_, fun x hx y hy hn => (h9 x hx y hy hn).moved hW.alike, ⟨h10.1.moved hW.alike, h10.2.moved hW.alike⟩⟩
  · have hn : mxIsN w = true := (List.mem_filter.mp hw).2
    have hs := h1 w hw
    cases w <;> first | exact va_Nw.warmF hW hs | exact va_Nw.warmM hW hs | exact va_Nw.warmD hW hs | exact va_Nw.warmC hW hs | cases hn
  · rw [hW.alike.findClass]; exact (h3 k a).2
  · obtain ⟨cell, hc, ha⟩ := h5 i hi
    exact ⟨cell, hc, State.isArrayOf_alike hW.alike ha⟩
  · obtain ⟨sa, ha⟩ := h8 x hx
    exact ⟨sa, ha.warm hW⟩
theorem mxGF.same {Z : mxZ} {u U : State} (hv : u.vm = U.vm) (h : mxGF Z u) : mxGF Z U :=
  h.warm (by rw [← hv]; exact State.WarmedH.refl u)
/-- locals: which are set, to what -/
def mxGet : List (Option Value) → Nat → Option Value
  | [], _ => none
  | a :: _, 0 => a
  | _ :: l, n + 1 => mxGet l n
def mxPut : List (Option Value) → Nat → Option Value → List (Option Value)
  | [], _, _ => []
  | _ :: l, 0, v => v :: l
  | a :: l, n + 1, v => a :: mxPut l n v
/-- the local ahead of i is no long or double -/
def mxFree (ls : List (Option Value)) (i : Nat) : Bool := match i with
  | 0 => true
  | j + 1 => match mxGet ls j with
    | none => true
    | some v => v.category == 1
def mxLs (Z : mxZ) (nL : Nat) (ls : List (Option Value)) (lr : Array Slot) : Prop :=
  lr.size = nL ∧ lv_wf lr ∧ ∀ i v, mxGet ls i = some v → lr[i]? = some (.val (mxSh Z v))
theorem mxGet_put {ls : List (Option Value)} : ∀ {i j : Nat} {v : Option Value} {w : Value}, mxGet (mxPut ls i v) j = some w → (j = i ∧ v = some w) ∨ (j ≠ i ∧ mxGet ls j = some w) := by
  induction ls with
  | nil => intro i j v w h; cases h
  | cons a l ih =>
    intro i j v w h
    cases i with
    | zero => cases j with
      | zero => exact Or.inl ⟨rfl, h⟩
      | succ j => exact Or.inr ⟨by omega, h⟩
    | succ i => cases j with
      | zero => exact Or.inr ⟨by omega, h⟩
      | succ j =>
        rcases ih (i := i) (j := j) (v := v) (w := w) h with ⟨e, h⟩ | ⟨e, h⟩
        · exact Or.inl ⟨by omega, h⟩
        · exact Or.inr ⟨by omega, h⟩
def mxLst (Z : mxZ) (ls : List (Option Value)) (n : Nat) : List (Nat × Value) := (List.range n).filterMap fun i => (mxGet ls i).map fun v => (i, mxSh Z v)
theorem mxLs.has {Z : mxZ} {nL : Nat} {ls : List (Option Value)} {lr : Array Slot} (h : mxLs Z nL ls lr) (n : Nat) : lv_has lr nL (mxLst Z ls n) := by
  refine ⟨h.1, h.2.1, fun q hq => ?_⟩
  obtain ⟨i, -, hi⟩ := List.mem_filterMap.mp hq
  cases hg : mxGet ls i with
  | none => rw [hg] at hi; cases hi
  | some v =>
    rw [hg] at hi
    cases hi
    exact h.2.2 i v hg
theorem mxLst_in {Z : mxZ} {ls : List (Option Value)} {n i : Nat} {v : Value} (hi : i < n) (h : mxGet ls i = some v) : (i, mxSh Z v) ∈ mxLst Z ls n :=
  List.mem_filterMap.mpr ⟨i, List.mem_range.mpr hi, by rw [h]; rfl⟩
/-- a store of a value of one local -/
theorem mxLs.put1 {Z : mxZ} {nL i : Nat} {ls : List (Option Value)} {lr lr' : Array Slot} {v : Value} (h : mxLs Z nL ls lr) (hf : mxFree ls i = true)
    (h' : lv_has lr' nL ((i, mxSh Z v) :: (mxLst Z ls nL).filter (fun q => !(q.1 == i) && !(q.1 + 1 == i && q.2.category == 2)))) : mxLs Z nL (mxPut ls i (some v)) lr' := by
  refine ⟨h'.1, h'.2.1, fun j w hj => ?_⟩
  rcases mxGet_put hj with ⟨rfl, e⟩ | ⟨hne, hg⟩
  · cases e
    exact h'.2.2 _ List.mem_cons_self
  · have hlt : j < nL := by
      have := h.2.2 j w hg
      have h3 := (Array.getElem?_eq_some_iff.mp this).1
      rw [h.1] at h3; exact h3
    refine h'.2.2 (j, mxSh Z w) (List.mem_cons_of_mem _ (List.mem_filter.mpr ⟨mxLst_in hlt hg, ?_⟩))
    have h1 : (j == i) = false := by simpa using hne
    by_cases hji : j + 1 = i
    · subst hji
      have : w.category = 1 := by
        have h4 := hf
        simp only [mxFree, hg] at h4
        simpa using h4
      simp [h1, mxSh_cat, this]
    · simp [h1, hji]
theorem mxLs.put2 {Z : mxZ} {nL i : Nat} {ls : List (Option Value)} {lr lr' : Array Slot} {v : Value} (h : mxLs Z nL ls lr) (hf : mxFree ls i = true)
    (h' : lv_has lr' nL ((i, mxSh Z v) :: (mxLst Z ls nL).filter (fun q => !(q.1 == i) && (!(q.1 == i + 1) && !(q.1 + 1 == i && q.2.category == 2))))) : mxLs Z nL (mxPut (mxPut ls (i + 1) none) i (some v)) lr' := by
  refine ⟨h'.1, h'.2.1, fun j w hj => ?_⟩
  rcases mxGet_put hj with ⟨rfl, e⟩ | ⟨hne, hg0⟩
  · cases e
    exact h'.2.2 _ List.mem_cons_self
  · rcases mxGet_put hg0 with ⟨rfl, e⟩ | ⟨hne2, hg⟩
    · cases e
    · have hlt : j < nL := by
        have := h.2.2 j w hg
        have h3 := (Array.getElem?_eq_some_iff.mp this).1
        rw [h.1] at h3; exact h3
      refine h'.2.2 (j, mxSh Z w) (List.mem_cons_of_mem _ (List.mem_filter.mpr ⟨mxLst_in hlt hg, ?_⟩))
      have h1 : (j == i) = false := by simpa using hne
      have h2 : (j == i + 1) = false := by simpa using hne2
      by_cases hji : j + 1 = i
      · subst hji
        have : w.category = 1 := by
          have h4 := hf
          simp only [mxFree, hg] at h4
          simpa using h4
        simp [h1, h2, mxSh_cat, this]
      · simp [h1, h2, hji]
/-- what a walk stands on, besides the place, the locals, the stack and the heap -/
abbrev mxX : Type := Program × Env × Room × State × MethodId × Array Value × List Frame × Method × Code × (State → Prop)
def mxC (l : Launch) (Z : mxZ) (X : mxX) (own : String) (cc : ByteArray) (nL : Nat) : Prop := match X with
  | (p, _, _, s, m, args, _, meth, c, _) => p.tables.exec = Jvm.exec ∧ c.code = cc ∧ c.maxLocals = nL ∧ s.vm.findClass own = some m.cls ∧ (∀ w ∈ mxAW, w.before args s = true) ∧ meth.locks = false ∧ mxGF Z s ∧ (Z.2.1.size ≤ s.heap.size ∧ ∀ q : Nat, q < Z.2.1.size → s.heap[q]? = Z.2.1[q]?) ∧ l.stackTraces = false
/-- from here the method comes to its end -/
def mG (l : Launch) (Z : mxZ) (X : mxX) (nL k n pc : Nat) (ls : List (Option Value)) (st : List Value) (h : mxH) : Prop := match X with
  | (p, e, R, s, m, args, below, meth, c, Q) => ∀ (H : Heap) (locs : List Loc) (lr : Array Slot), mxHp Z h H → (∀ z ∈ locs, Z.2.1.size ≤ z.base) → mxLs Z nL ls lr → W p l e R s m args below meth c H locs k n Q (F0 m pc lr (st.map (mxSh Z)))
