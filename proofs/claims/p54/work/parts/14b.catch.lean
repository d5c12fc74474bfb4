/-! the mini machine: methods with handlers, and calls of them -/
def mxWsH (y : MethodName) (cc : ByteArray) (nL : Nat) (ret : Option FieldType) (hh : List (Nat × Nat × Nat × Nat)) : List Cond := .codeWith y cc nL ret hh :: mxAW
def mxMetH (l : Launch) (Z : mxZ) (y : MethodName) (cc : ByteArray) (nL : Nat) (ret : Option FieldType) (hh : List (Nat × Nat × Nat × Nat)) (rm : Room) (as : List Value) (h : mxH) (r : mxR) (h' : mxH) : Prop :=
  vx_Met l y (mxWsH y cc nL ret hh) rm (mxPc Z as h) (mxQc Z r h') (mxXC Z r h') rm.cells rm.slots (fun q => Z.2.1.size ≤ q)
def mxEndH (Z : mxZ) (X : mxX) (ret : Option FieldType) (r : mxR) (h : mxH) (hh : List (Nat × Nat × Nat × Nat)) : Prop := match X with
  | (_, _, R, s, _, args, below, meth, c, Q) => meth.sig.returnType = ret ∧ Q = vx_MQ below (mxQc Z r h) (mxXC Z r h) args s R.cells R.slots (fun q => Z.2.1.size ≤ q) ∧ c.exceptionTable.toList = tableOf hh
theorem mxGoodInH {y : MethodName} {cc : ByteArray} {nL : Nat} {ret : Option FieldType} {hh : List (Nat × Nat × Nat × Nat)} (h : Cond.codeWith y cc nL ret hh ∈ mxAW) : GoodIn mxAW (mxWsH y cc nL ret hh) := fun w hw => by
  rcases List.mem_cons.mp hw with rfl | hw
  · exact ⟨h, good_of_word (mxAW_good _ h)⟩
  · exact ⟨hw, good_of_word (mxAW_good _ hw)⟩
theorem mxMetH_of {l : Launch} {Z : mxZ} {y : MethodName} {cc : ByteArray} {nL : Nat} {ret : Option FieldType} {hh : List (Nat × Nat × Nat × Nat)} {rm : Room} {as : List Value} {h h' : mxH} {r : mxR} (hy : plainName y.cls = true) (hl : l.stackTraces = false) (hc : ∀ v ∈ as, v.category = 1) (hn : as.length ≤ nL)
    (body : ∀ X : mxX, mxC l Z X y.cls cc nL → mxEndH Z X ret r h' hh → mxRm X = rm → mG l Z X nL 0 0 0 (mxArg as nL) [] h) : mxMetH l Z y cc nL ret hh rm as h r h' := by
  refine vx_ofWH (cc := cc) (maxL := nL) (ret := ret) (hh := hh) hy rfl ?_
  intro p e s m args below meth c s₁ B hml hv
  obtain ⟨rfl, hG, hH⟩ := hv
  have hts := atoms_spec (ws := mxWsH y cc nL ret hh) B.pre
  have hg := body (p, e, (headSpec (mxWsH y cc nL ret hh) rm).room, s, m, (as.map (mxSh Z)).toArray, below, meth, c, vx_MQ below (mxQc Z r h') (mxXC Z r h') (as.map (mxSh Z)).toArray s rm.cells rm.slots (fun q => Z.2.1.size ≤ q))
    ⟨B.exec, B.bytes, hml, findClass_of_methodNamed B.named, fun w hw => hts w (List.mem_cons_of_mem _ hw), B.notSynchronized, hG, ⟨by obtain ⟨⟨g1, -⟩, g2, -⟩ := hH; omega, hH.2.2.1⟩, hl⟩
    ⟨B.returns, rfl, vx_table (x := y) B (hts _ List.mem_cons_self)⟩ rfl
  have hle := lv_entry (as.map (mxSh Z)) (n := nL) (by rw [mx_sl as hc]; exact hn)
  rw [lg_entry_eq]
  refine hg s.heap [] _ hH (fun z hz => absurd hz List.not_mem_nil) ⟨hle.1, hle.2.1, fun i v hi => ?_⟩
  have := hle.2.2 _ (mx_args as 0 i v hc (mxGet_arg hi))
  rwa [Nat.zero_add] at this
theorem mxLs.putN {Z : mxZ} {nL i : Nat} {ls : List (Option Value)} {lr lr' : Array Slot} {w0 : Value} (h : mxLs Z nL ls lr) (hf : mxFree ls i = true)
    (h' : lv_has lr' nL ((i, w0) :: (mxLst Z ls nL).filter (fun q => !(q.1 == i) && !(q.1 + 1 == i && q.2.category == 2)))) : mxLs Z nL (mxPut ls i none) lr' := by
  refine ⟨h'.1, h'.2.1, fun j w hj => ?_⟩
  rcases mxGet_put hj with ⟨rfl, e⟩ | ⟨hne, hg⟩
  · cases e
  · have hlt : j < nL := by
      have := h.2.2 j w hg
      have h3 := (Array.getElem?_eq_some_iff.mp this).1
      rw [h.1] at h3; exact h3
    refine h'.2.2 (j, mxSh Z w) (List.mem_cons_of_mem _ (List.mem_filter.mpr ⟨mxLst_in hlt hg, ?_⟩))
    have h1 : (j == i) = false := by simpa using hne
    by_cases hji : j + 1 = i
    · subst hji
      have : w.category = 1 := by
        have h4 := hf
        simp only [mxFree, hg] at h4
        simpa using h4
      simp [h1, mxSh_cat, this]
    · simp [h1, hji]
/-- a static method with handlers, as own links it -/
def mxLkH (own : String) (idx : Nat) (y : MethodName) (cc : ByteArray) (nL : Nat) (ret : Option FieldType) (hh : List (Nat × Nat × Nat × Nat)) (np : Nat) : Prop :=
  Cond.methodLink own idx y ∈ mxAW ∧ Cond.static y ∈ mxAW ∧ Cond.initialized y.cls ∈ mxAW ∧ Cond.codeWith y cc nL ret hh ∈ mxAW ∧
  y.cls ≠ "java/lang/invoke/MethodHandle" ∧ y.cls ≠ "java/lang/invoke/VarHandle" ∧ (parseMethodDescriptor y.desc).map (fun d => d.parameters.length) = some np
section MGH
variable {l : Launch} {Z : mxZ} {X : mxX} {own : String} {cc : ByteArray} {nL k n pc : Nat} {ls : List (Option Value)} {st : List Value} {h : mxH}
theorem mG_irH {x : Int32} {R0 : Room} {hh : List (Nat × Nat × Nat × Nat)} (C : mxC l Z X own cc nL) (E : mxEndH Z X (some .int) (.inl (some (.int x))) h hh) (hX : mxRm X = R0) (hd : decode cc pc = .ok (.ireturn, 1)) (hk : (Nat.ble k R0.cells && Nat.ble n R0.slots) = true) : mG l Z X nL k n pc ls [.int x] h := by
  subst hX
  simp only [Bool.and_eq_true] at hk
  obtain ⟨p, e, R, s, m, args, below, meth, c, Q⟩ := X
  intro H locs lr hH hL hlr
  obtain ⟨hr, hQ, -⟩ := E
  subst hQ
  have hlocks : meth.locks = false := C.2.2.2.2.2.1
  exact W.widen (Nat.le_of_ble_eq_true hk.1) (Nat.le_of_ble_eq_true hk.2) (vx_ret (W.zret (v := x) C.1 C.2.1 hr rfl (fun t ht _ => ⟨_, rfl, rfl, by rw [ht]; exact hH⟩) hL hd))
/-- the callee throws, a handler of this method takes it, lays it into a local -/
theorem mG_cVC {idx k' n' i ln : Nat} {y : MethodName} {cc' : ByteArray} {nL' : Nat} {ret ret' : Option FieldType} {R0 rm : Room} (ci : Nat) {a : Nat} (as rest : List Value) {h' h0 : mxH} {r0 : mxR} {E : String} {u : Unit} {hh : List (Nat × Nat × Nat × Nat)} (pre : List ExceptionTableEntry) (x : ExceptionTableEntry) (suf : List ExceptionTableEntry)
    (C : mxC l Z X own cc nL) (En : mxEndH Z X ret r0 h0 hh) (hX : mxRm X = R0) (hd : decode cc pc = .ok (.invokevirtual idx, 3)) (hlk : mxLkV own idx y cc' nL' ret' as.length) (hs : st = as.reverse ++ .ref a :: rest) (hrc : mxCl[ci]?.map (fun q => q.1) = some y.cls) (ho : isO h a ci = some u) (hm : mxMet l Z y cc' nL' ret' rm (.ref a :: as) h (.inr E) h') (hF : mxFit R0 rm nL' k n = true) (hk : k + rm.cells = k') (hn : n + rm.slots = n') (hW : Nat.ble (rest.map fun v => v.category).sum 8 = true)
    (hT : tableOf hh = pre ++ x :: suf) (hpass : ∀ z ∈ pre, z.catchType ≠ 0 ∧ ∃ nm : String, Cond.classLink own z.catchType nm ∈ mxAW ∧ E ∈ mxXs ∧ nm ∈ mxXs ∧ E ≠ nm) (hx : covers x pc = true) (hx0 : x.catchType ≠ 0) (hl : Cond.classLink own x.catchType E ∈ mxAW) (hcast : Cond.castable E E ∈ mxNW)
    (hda : (decode cc x.handlerPc = .ok (.astore i, 2) ∧ ln = 2) ∨ (∃ j : Fin 4, j.val = i ∧ decode cc x.handlerPc = .ok (.astore_n j, 1) ∧ ln = 1)) (hi : Nat.blt i nL = true) (hfr : mxFree ls i = true)
    (g : mG l Z X nL k' n' (x.handlerPc + ln) (mxPut ls i none) [] h') : mG l Z X nL k n pc ls st h := by
  obtain ⟨f1, f2⟩ := mxFit_of hF
  obtain ⟨o1, o2⟩ := isO_some ho
  subst hX; subst hk; subst hn
  obtain ⟨p, e, R, s, m, args, below, meth, c, Q⟩ := X
  subst hs
  intro H locs lr hH hL hlr
  obtain ⟨-, -, htab⟩ := En
  have hr := mx_runV C hd hlk hrc o1 o2 hm f1 f2 (Nat.le_of_ble_eq_true hW) hH hlr.1 (locs := locs)
  have hts := C.2.2.2.2.1
  have hG := C.2.2.2.2.2.2.1
  intro T hT0 Xs
  rcases hr T hT0 Xs with ⟨v', st₀, t, T', L, h0, X', hL1, e1, e2, ⟨w, hw, -⟩, -⟩ | ⟨q, st₀, t, T', L, E', ce, h0, X', hL1, e1, e2, ⟨hxx, hh'⟩, hce, hcv, hcl, st'⟩
  · cases hw
  · cases hxx
    have hi' : i < nL := by simpa [Nat.blt_eq] using hi
    have h9 : vx_W p l e R s m args below meth c T'.heap (locs ++ L) (k + rm.cells) (n + rm.slots) Q (F0 m pc lr (rest.map (mxSh Z))) q := by
      refine vx_catch C.2.2.2.1 pre x suf (htab.trans hT) (fun z hz => ?_) hx hx0 (hts _ hl) (va_Nw.use rfl (hG.1 _ hcast)) (by rw [e1]; exact hce) hcv hcl ?_
      · obtain ⟨z0, nm, z1, z2, z3, z4⟩ := hpass z hz
        exact Or.inr ⟨z0, nm, hts _ z1, hG.2.2.2.2.2.2.2.2.1 _ z2 _ z3 z4⟩
      · have hH' : mxHp Z h' T'.heap := by rw [e1]; exact hh'
        have hLL : ∀ z ∈ locs ++ L, Z.2.1.size ≤ z.base := fun z hz => (List.mem_append.mp hz).elim (hL z) (hL1 z)
        rcases hda with ⟨hda, rfl⟩ | ⟨j, rfl, hda, rfl⟩
        · exact lv_astore C.1 C.2.1 hda (hlr.has nL) hi' rfl (fun ls' h' => g _ _ ls' hH' hLL (hlr.putN hfr h'))
        · exact lv_astore_n C.1 C.2.1 hda rfl (hlr.has nL) hi' rfl (fun ls' h' => g _ _ ls' hH' hLL (hlr.putN hfr h'))
    obtain ⟨t2, a1, b1⟩ := h9 T' rfl X'
    exact ⟨t2, st'.trans a1, b1⟩
/-- a call of a method with handlers; the room by hypothesis -/
theorem mG_cSH {idx k' n' : Nat} {y : MethodName} {cc' : ByteArray} {nL' : Nat} {ret : Option FieldType} {hh : List (Nat × Nat × Nat × Nat)} {R0 rm : Room} (as rest : List Value) {h' : mxH} {v : Option Value}
    (C : mxC l Z X own cc nL) (hX : mxRm X = R0) (hd : decode cc pc = .ok (.invokestatic idx, 3)) (hlk : mxLkH own idx y cc' nL' ret hh as.length) (hs : st = as.reverse ++ rest) (hm : mxMetH l Z y cc' nL' ret hh rm as h (.inl v) h') (hF : mxFit2 R0 rm nL' = true) (hr : k + rm.cells ≤ R0.cells ∧ n + rm.slots ≤ R0.slots) (hk : k + rm.cells = k') (hn : n + rm.slots = n') (hW : Nat.ble (rest.map fun v => v.category).sum 8 = true)
    (g : mG l Z X nL k' n' (pc + 3) ls (v.toList ++ rest) h') : mG l Z X nL k n pc ls st h := by
  have f1 := mxFit2_of hF
  subst hk; subst hn; subst hX
  obtain ⟨p, e, R, s, m, args, below, meth, c, Q⟩ := X
  subst hs
  intro H locs lr hH hL hlr
  obtain ⟨hlink, hst, hini, hcode, hy1, hy2, hnp⟩ := hlk
  have hW' : ((rest.map (mxSh Z)).map fun v => v.category).sum ≤ 8 := by
    rw [List.map_map, show ((fun v : Value => v.category) ∘ mxSh Z) = (fun v => v.category) from funext (mxSh_cat Z)]; exact Nat.le_of_ble_eq_true hW
  have hss : (F0 m pc lr ((as.reverse ++ rest).map (mxSh Z))).stack = (as.map (mxSh Z)).reverse ++ rest.map (mxSh Z) := by
    show (as.reverse ++ rest).map (mxSh Z) = _
    rw [List.map_append, List.map_reverse]
  have hts := C.2.2.2.2.1
  have S : CallFix p m c cc nL s args mxAW own := ⟨C.1, C.2.1, C.2.2.1, C.2.2.2.1, hts⟩
  have hp : PreS s H (mxPc Z as h) (as.map (mxSh Z)) := ⟨mxPc_blind Z as h, fun U hU hWU => ⟨rfl, C.2.2.2.2.2.2.1.warm hWU, by rw [hU]; exact hH⟩⟩
  have hcw : Cond.codeWith y cc' nL' ret hh ∈ mxWsH y cc' nL' ret hh := List.mem_cons_self
  have cw : vx_CSW R s args own idx y cc' nL' ret hh (mxWsH y cc' nL' ret hh) rm rm.cells rm.slots as.length :=
    ⟨⟨rfl, rfl, f1.1, f1.2, pay_in hts (mxGoodInH hcode), hcw⟩, hts _ hcode, hts _ hini, ⟨hy1, hy2⟩, fun sig h9 => by rw [h9] at hnp; exact (Option.some.inj hnp).symm, hts _ hlink, hts _ hst⟩
  exact mx_back (vx_runSX S hm cw hp rfl (by simp) hlr.1 hss (lv_room hW') hd hr) hL (fun H1 locs1 h1 h2 => g H1 locs1 lr h1 h2 hlr)
end MGH
/-- callees that return or throw, the throws caught here -/
def mxCatch {α β : Type} (o : Option ((α ⊕ String) × mxH)) (f : α → mxH → Option β) (g : String → mxH → Option β) : Option β := match o with
  | none => none
  | some (.inl v, h) => f v h
  | some (.inr E, h) => g E h
theorem mx_catch {α β : Type} {o : Option ((α ⊕ String) × mxH)} {f : α → mxH → Option β} {g : String → mxH → Option β} {r : β} (h : mxCatch o f g = some r) : (∃ v h1, o = some (.inl v, h1) ∧ f v h1 = some r) ∨ (∃ E h1, o = some (.inr E, h1) ∧ g E h1 = some r) := by
  cases o with
  | none => cases h
  | some p =>
    obtain ⟨v | E, h1⟩ := p
    · exact Or.inl ⟨v, h1, rfl, h⟩
    · exact Or.inr ⟨E, h1, rfl, h⟩
section MG14b
variable {l : Launch} {Z : mxZ} {X : mxX} {own : String} {cc : ByteArray} {nL k n pc : Nat} {ls : List (Option Value)} {st : List Value} {h : mxH}
theorem mG_ldci {i : Nat} {v : Int32} (C : mxC l Z X own cc nL) (hd : decode cc pc = .ok (.ldc i, 2)) (hw : Cond.constant own i v ∈ mxAW) (g : mG l Z X nL k n (pc + 2) ls (.int v :: st) h) : mG l Z X nL k n pc ls st h := by
  obtain ⟨p, e, R, s, m, args, below, meth, c, Q⟩ := X
  intro H locs lr hH hL hlr
  exact lv_ldc C.1 C.2.1 C.2.2.2.1 (C.2.2.2.2.1 _ hw) hd (g H locs lr hH hL hlr)
/-- a computed number gets a name -/
theorem mG_isv {ls' : List (Option Value)} {i : Nat} {x v : Int32} (C : mxC l Z X own cc nL) (hd : decode cc pc = .ok (.istore i, 2)) (hv : some x = some v) (hi : Nat.blt i nL = true) (hf : mxFree ls i = true) (hp : mxPut ls i (some (.int v)) = ls') (g : mG l Z X nL k n (pc + 2) ls' st h) : mG l Z X nL k n pc ls (.int x :: st) h := by
  cases hv
  exact mG_is C hd hi hf hp g
end MG14b
