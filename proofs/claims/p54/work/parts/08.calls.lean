/-! the mini machine: what is new, statics, the library's natives, calls, ends, throws -/
/-- the words of a method's contract -/
def mxWs (y : MethodName) (cc : ByteArray) (nL : Nat) (ret : Option FieldType) : List Cond := .code y cc nL ret :: mxAW
def mxPc (Z : mxZ) (as : List Value) (h : mxH) : Array Value → State → Prop := fun a U => a = (as.map (mxSh Z)).toArray ∧ mxGF Z U ∧ mxHp Z h U.heap
def mxQc (Z : mxZ) (r : mxR) (h : mxH) : Array Value → State → Outcome → State → Prop := fun _ _ o t => ∃ v : Option Value, r = .inl v ∧ o = .returned (v.map (mxSh Z)) ∧ mxHp Z h t.heap
def mxXC (Z : mxZ) (r : mxR) (h : mxH) : String → State → State → Prop := fun E _ t => r = .inr E ∧ mxHp Z h t.heap
/-- the contract: over any heap that the mini machine knows as h, the method ends with r, the heap is then h' -/
def mxMet (l : Launch) (Z : mxZ) (y : MethodName) (cc : ByteArray) (nL : Nat) (ret : Option FieldType) (rm : Room) (as : List Value) (h : mxH) (r : mxR) (h' : mxH) : Prop :=
  vx_Met l y (mxWs y cc nL ret) rm (mxPc Z as h) (mxQc Z r h') (mxXC Z r h') rm.cells rm.slots (fun q => Z.2.1.size ≤ q)
theorem mxPc_blind (Z : mxZ) (as : List Value) (h : mxH) : FrameBlind (mxPc Z as h) := fun a U g mk q => ⟨q.1, mxGF.same (u := U) (U := U.calling g mk a) rfl q.2.1, q.2.2⟩
/-- how this body ends: the answer's type, the answer, the heap -/
def mxEnd (Z : mxZ) (X : mxX) (ret : Option FieldType) (r : mxR) (h : mxH) : Prop := match X with
  | (_, _, R, s, _, args, below, meth, c, Q) => meth.sig.returnType = ret ∧ Q = vx_MQ below (mxQc Z r h) (mxXC Z r h) args s R.cells R.slots (fun q => Z.2.1.size ≤ q) ∧ ∀ x ∈ c.exceptionTable.toList, False
def mxRm (X : mxX) : Room := X.2.2.1
theorem mxAW_good : ∀ w ∈ mxAW, goodWord w = true := fun _ h => (List.mem_filter.mp h).2
theorem mxGoodIn {y : MethodName} {cc : ByteArray} {nL : Nat} {ret : Option FieldType} (h : Cond.code y cc nL ret ∈ mxAW) : GoodIn mxAW (mxWs y cc nL ret) := fun w hw => by
  rcases List.mem_cons.mp hw with rfl | hw
  · exact ⟨h, good_of_word (mxAW_good _ h)⟩
  · exact ⟨hw, good_of_word (mxAW_good _ hw)⟩
/-- locals at a method's entry: the arguments, one behind the other; none of them is a long or a double -/
def mxArg (as : List Value) (nL : Nat) : List (Option Value) := as.map some ++ List.replicate (nL - as.length) none
theorem mxGet_arg {as : List Value} {m : Nat} : ∀ {i : Nat} {v : Value}, mxGet (as.map some ++ List.replicate m none) i = some v → as[i]? = some v := by
  induction as with
  | nil =>
    intro i v h
    have : ∀ (m i : Nat), mxGet (List.replicate m none) i = none := by
      intro m
      induction m with
      | zero => intro i; rfl
      | succ m ih => intro i; cases i with
        | zero => rfl
        | succ i => exact ih i
    rw [List.map_nil, List.nil_append, this] at h
    cases h
  | cons a as ih =>
    intro i v h
    cases i with
    | zero => exact h
    | succ i => exact ih h
theorem mx_args {Z : mxZ} : ∀ (as : List Value) (k i : Nat) (v : Value), (∀ v ∈ as, v.category = 1) → as[i]? = some v → (k + i, mxSh Z v) ∈ lv_args k (as.map (mxSh Z)) := by
  intro as
  induction as with
  | nil => intro k i v _ h; cases h
  | cons a as ih =>
    intro k i v hc h
    have ha : ¬ (mxSh Z a).category = 2 := by rw [mxSh_cat, hc a List.mem_cons_self]; decide
    simp only [List.map_cons, lv_args, ha, if_false]
    cases i with
    | zero => cases h; exact List.mem_cons_self
    | succ i =>
      refine List.mem_cons_of_mem _ ?_
      have := ih (k + 1) i v (fun w hw => hc w (List.mem_cons_of_mem _ hw)) h
      rwa [show k + 1 + i = k + (i + 1) by omega] at this
theorem mx_sl {Z : mxZ} : ∀ (as : List Value), (∀ v ∈ as, v.category = 1) → (lg_sl (as.map (mxSh Z))).length = as.length := by
  intro as
  induction as with
  | nil => intro _; rfl
  | cons a as ih =>
    intro hc
    have ha : ¬ (mxSh Z a).category = 2 := by rw [mxSh_cat, hc a List.mem_cons_self]; decide
    have := ih (fun w hw => hc w (List.mem_cons_of_mem _ hw))
    simp [lg_sl, ha] at this ⊢
    omega
/-- a contract out of a walk -/
theorem mxMet_of {l : Launch} {Z : mxZ} {y : MethodName} {cc : ByteArray} {nL : Nat} {ret : Option FieldType} {rm : Room} {as : List Value} {h h' : mxH} {r : mxR} (hy : plainName y.cls = true) (hl : l.stackTraces = false) (hc : ∀ v ∈ as, v.category = 1) (hn : as.length ≤ nL)
    (body : ∀ X : mxX, mxC l Z X y.cls cc nL → mxEnd Z X ret r h' → mxRm X = rm → (y.name = "<init>" → (X.2.2.2.2.2.2.2.1).name = "<init>") → mG l Z X nL 0 0 0 (mxArg as nL) [] h) : mxMet l Z y cc nL ret rm as h r h' := by
  refine vx_ofW (cc := cc) (maxL := nL) (ret := ret) hy rfl ?_
  intro p e s m args below meth c s₁ B hml ht hv
  obtain ⟨rfl, hG, hH⟩ := hv
  have hts := atoms_spec (ws := mxWs y cc nL ret) B.pre
  have hg := body (p, e, (headSpec (mxWs y cc nL ret) rm).room, s, m, (as.map (mxSh Z)).toArray, below, meth, c, vx_MQ below (mxQc Z r h') (mxXC Z r h') (as.map (mxSh Z)).toArray s rm.cells rm.slots (fun q => Z.2.1.size ≤ q))
    ⟨B.exec, B.bytes, hml, findClass_of_methodNamed B.named, fun w hw => hts w (List.mem_cons_of_mem _ hw), B.notSynchronized, hG, ⟨by obtain ⟨⟨g1, -⟩, g2, -⟩ := hH; omega, hH.2.2.1⟩, hl⟩
    ⟨B.returns, rfl, ht⟩ rfl (fun hi => (name_of_methodNamed B.named B.method).1.trans hi)
  have hle := lv_entry (as.map (mxSh Z)) (n := nL) (by rw [mx_sl as hc]; exact hn)
  rw [lg_entry_eq]
  refine hg s.heap [] _ hH (fun z hz => absurd hz List.not_mem_nil) ⟨hle.1, hle.2.1, fun i v hi => ?_⟩
  have := hle.2.2 _ (mx_args as 0 i v hc (mxGet_arg hi))
  rwa [Nat.zero_add] at this
/-- a static method, as own links it by idx -/
def mxLkS (own : String) (idx : Nat) (y : MethodName) (cc : ByteArray) (nL : Nat) (ret : Option FieldType) (np : Nat) : Prop :=
  (Cond.methodLink own idx y ∈ mxAW ∨ ∃ host : String, Cond.methodLinkNest own idx y host ∈ mxNW) ∧ Cond.static y ∈ mxAW ∧ Cond.initialized y.cls ∈ mxAW ∧ Cond.code y cc nL ret ∈ mxAW ∧
  y.cls ≠ "java/lang/invoke/MethodHandle" ∧ y.cls ≠ "java/lang/invoke/VarHandle" ∧ (parseMethodDescriptor y.desc).map (fun d => d.parameters.length) = some np
def mxLkV (own : String) (idx : Nat) (y : MethodName) (cc : ByteArray) (nL : Nat) (ret : Option FieldType) (np : Nat) : Prop :=
  (Cond.methodLink own idx y ∈ mxAW ∨ ∃ host : String, Cond.methodLinkNest own idx y host ∈ mxNW) ∧ (Cond.instanceMethod y ∈ mxAW ∧ Cond.selects y.cls y y ∈ mxAW) ∧ Cond.initialized y.cls ∈ mxAW ∧ Cond.code y cc nL ret ∈ mxAW ∧
  y.cls ≠ "java/lang/invoke/MethodHandle" ∧ y.cls ≠ "java/lang/invoke/VarHandle" ∧ (parseMethodDescriptor y.desc).map (fun d => d.parameters.length) = some np
def mxLkI (own : String) (idx : Nat) (y : MethodName) (cc : ByteArray) (nL np : Nat) : Prop :=
  (Cond.methodLink own idx y ∈ mxAW ∨ ∃ host : String, Cond.methodLinkNest own idx y host ∈ mxNW) ∧ (Cond.instanceMethod y ∈ mxAW ∧ y.name = "<init>") ∧ Cond.initialized y.cls ∈ mxAW ∧ Cond.code y cc nL none ∈ mxAW ∧
  y.cls ≠ "java/lang/invoke/MethodHandle" ∧ y.cls ≠ "java/lang/invoke/VarHandle" ∧ (parseMethodDescriptor y.desc).map (fun d => d.parameters.length) = some np
section MG4
variable {l : Launch} {Z : mxZ} {X : mxX} {own : String} {cc : ByteArray} {nL k n pc : Nat} {ls : List (Option Value)} {st : List Value} {h : mxH}
/-- what stands behind a call: the callee's run -/
theorem mx_runS {p : Program} {e : Env} {R : Room} {s : State} {m : MethodId} {args : Array Value} {below : List Frame} {meth : Method} {c : Code} {Q : State → Prop} {idx : Nat} {y : MethodName} {cc' : ByteArray} {nL' : Nat} {ret : Option FieldType} {rm : Room} {as rest : List Value} {h' : mxH} {r : mxR} {H : Heap} {locs : List Loc} {lr : Array Slot}
    (C : mxC l Z (p, e, R, s, m, args, below, meth, c, Q) own cc nL) (hd : decode cc pc = .ok (.invokestatic idx, 3)) (hlk : mxLkS own idx y cc' nL' ret as.length) (hm : mxMet l Z y cc' nL' ret rm as h r h') (hR : rm.frames + 1 ≤ R.frames ∧ 8 + (nL' + 11) + rm.locals ≤ R.locals) (hk : k + rm.cells ≤ R.cells ∧ n + rm.slots ≤ R.slots) (hW : (rest.map fun v => v.category).sum ≤ 8) (hH : mxHp Z h H) (hsz : lr.size = nL) :
    vx_Run p l e R s m args below meth c H locs k n rm.cells rm.slots (F0 m pc lr ((as.reverse ++ rest).map (mxSh Z))) (rest.map (mxSh Z)) (mxQc Z r h' (as.map (mxSh Z)).toArray) (mxXC Z r h') (fun q => Z.2.1.size ≤ q) := by
  obtain ⟨hlink, hst, hini, hcode, hy1, hy2, hnp⟩ := hlk
  have hW' : ((rest.map (mxSh Z)).map fun v => v.category).sum ≤ 8 := by
    rw [List.map_map, show ((fun v : Value => v.category) ∘ mxSh Z) = (fun v => v.category) from funext (mxSh_cat Z)]; exact hW
  have hs : (F0 m pc lr ((as.reverse ++ rest).map (mxSh Z))).stack = (as.map (mxSh Z)).reverse ++ rest.map (mxSh Z) := by
    show (as.reverse ++ rest).map (mxSh Z) = _
    rw [List.map_append, List.map_reverse]
  have hts := C.2.2.2.2.1
  have S : CallFix p m c cc nL s args mxAW own := ⟨C.1, C.2.1, C.2.2.1, C.2.2.2.1, hts⟩
  have hp : PreS s H (mxPc Z as h) (as.map (mxSh Z)) := ⟨mxPc_blind Z as h, fun U hU hWU => ⟨rfl, C.2.2.2.2.2.2.1.warm hWU, by rw [hU]; exact hH⟩⟩
  rcases hlink with hlink | ⟨host, hlink⟩
  · exact vx_runS S hm ⟨callB_of as.length hts (mxGoodIn hcode) rfl rfl rfl (hts _ hini) (hts _ hlink) ⟨hy1, hy2, hnp⟩ hR, hts _ hst⟩ hp rfl (by simp) hsz hs (lv_room hW') hd hk
  · exact vx_runSN S hm ⟨va_cnB as.length hts (mxGoodIn hcode) rfl rfl rfl (C.2.2.2.2.2.2.1.1 _ hlink) (hts _ hini) ⟨hy1, hy2, hnp⟩ hR, hts _ hst, trivial⟩ hp rfl (by simp) hsz hs (lv_room hW') hd hk
theorem mx_runV {p : Program} {e : Env} {R : Room} {s : State} {m : MethodId} {args : Array Value} {below : List Frame} {meth : Method} {c : Code} {Q : State → Prop} {idx : Nat} {y : MethodName} {cc' : ByteArray} {nL' : Nat} {ret : Option FieldType} {rm : Room} {a ci : Nat} {as rest : List Value} {h' : mxH} {r : mxR} {H : Heap} {locs : List Loc} {lr : Array Slot}
    (C : mxC l Z (p, e, R, s, m, args, below, meth, c, Q) own cc nL) (hd : decode cc pc = .ok (.invokevirtual idx, 3)) (hlk : mxLkV own idx y cc' nL' ret as.length) (hrc : mxCl[ci]?.map (fun q => q.1) = some y.cls) (hlt : a < h.2) (hc : (h.1 a).1 = ci) (hm : mxMet l Z y cc' nL' ret rm (.ref a :: as) h r h') (hR : rm.frames + 1 ≤ R.frames ∧ 8 + (nL' + 11) + rm.locals ≤ R.locals) (hk : k + rm.cells ≤ R.cells ∧ n + rm.slots ≤ R.slots) (hW : (rest.map fun v => v.category).sum ≤ 8) (hH : mxHp Z h H) (hsz : lr.size = nL) :
    vx_Run p l e R s m args below meth c H locs k n rm.cells rm.slots (F0 m pc lr ((as.reverse ++ .ref a :: rest).map (mxSh Z))) (rest.map (mxSh Z)) (mxQc Z r h' ((Value.ref a :: as).map (mxSh Z)).toArray) (mxXC Z r h') (fun q => Z.2.1.size ≤ q) := by
  obtain ⟨hlink, ⟨hin, hse⟩, hini, hcode, hy1, hy2, hnp⟩ := hlk
  obtain ⟨q, hq, hqc⟩ := Option.map_eq_some_iff.mp hrc
  have hci := mxCl_lt hq
  obtain ⟨cell, c1, co, -⟩ := hH.2.2.2.2 a hlt
  obtain ⟨c2, c3, -, -⟩ := co (by omega)
  rw [hc] at c2
  have hcls : s.vm.findClass y.cls = some cell.cls := by
    rw [c2, ← hqc]
    exact (C.2.2.2.2.2.2.1.2.1.1 ci q hq).2.1
  have hW' : ((rest.map (mxSh Z)).map fun v => v.category).sum ≤ 8 := by
    rw [List.map_map, show ((fun v : Value => v.category) ∘ mxSh Z) = (fun v => v.category) from funext (mxSh_cat Z)]; exact hW
  have hs : (F0 m pc lr ((as.reverse ++ .ref a :: rest).map (mxSh Z))).stack = (as.map (mxSh Z)).reverse ++ .ref (mxTr Z a) :: rest.map (mxSh Z) := by
    show (as.reverse ++ .ref a :: rest).map (mxSh Z) = _
    rw [List.map_append, List.map_reverse]; rfl
  have hts := C.2.2.2.2.1
  have S : CallFix p m c cc nL s args mxAW own := ⟨C.1, C.2.1, C.2.2.1, C.2.2.2.1, hts⟩
  have hp : PreV s H y.cls (mxTr Z a) (mxPc Z (.ref a :: as) h) (as.map (mxSh Z)) := ⟨mxPc_blind Z _ h, ⟨cell, c1, by rw [c3]; rfl, hcls⟩, fun U hU hWU => ⟨rfl, C.2.2.2.2.2.2.1.warm hWU, by rw [hU]; exact hH⟩⟩
  rcases hlink with hlink | ⟨host, hlink⟩
  · exact vx_runV S hm ⟨callB_of as.length hts (mxGoodIn hcode) rfl rfl rfl (hts _ hini) (hts _ hlink) ⟨hy1, hy2, hnp⟩ hR, hts _ hin, hts _ hse⟩ hp rfl (by simp) hsz hs (lv_room hW') hd hk
  · exact vx_runVN S hm ⟨va_cnB as.length hts (mxGoodIn hcode) rfl rfl rfl (C.2.2.2.2.2.2.1.1 _ hlink) (hts _ hini) ⟨hy1, hy2, hnp⟩ hR, hts _ hin, hts _ hse⟩ hp rfl (by simp) hsz hs (lv_room hW') hd hk
theorem mx_runI {p : Program} {e : Env} {R : Room} {s : State} {m : MethodId} {args : Array Value} {below : List Frame} {meth : Method} {c : Code} {Q : State → Prop} {idx : Nat} {y : MethodName} {cc' : ByteArray} {nL' : Nat} {rm : Room} {a : Nat} {as rest : List Value} {h' : mxH} {r : mxR} {H : Heap} {locs : List Loc} {lr : Array Slot}
    (C : mxC l Z (p, e, R, s, m, args, below, meth, c, Q) own cc nL) (hd : decode cc pc = .ok (.invokespecial idx, 3)) (hlk : mxLkI own idx y cc' nL' as.length) (hm : mxMet l Z y cc' nL' none rm (.ref a :: as) h r h') (hR : rm.frames + 1 ≤ R.frames ∧ 8 + (nL' + 11) + rm.locals ≤ R.locals) (hk : k + rm.cells ≤ R.cells ∧ n + rm.slots ≤ R.slots) (hW : (rest.map fun v => v.category).sum ≤ 8) (hH : mxHp Z h H) (hsz : lr.size = nL) :
    vx_Run p l e R s m args below meth c H locs k n rm.cells rm.slots (F0 m pc lr ((as.reverse ++ .ref a :: rest).map (mxSh Z))) (rest.map (mxSh Z)) (mxQc Z r h' ((Value.ref a :: as).map (mxSh Z)).toArray) (mxXC Z r h') (fun q => Z.2.1.size ≤ q) := by
  obtain ⟨hlink, ⟨hin, hnm⟩, hini, hcode, hy1, hy2, hnp⟩ := hlk
  have hW' : ((rest.map (mxSh Z)).map fun v => v.category).sum ≤ 8 := by
    rw [List.map_map, show ((fun v : Value => v.category) ∘ mxSh Z) = (fun v => v.category) from funext (mxSh_cat Z)]; exact hW
  have hs : (F0 m pc lr ((as.reverse ++ .ref a :: rest).map (mxSh Z))).stack = (as.map (mxSh Z)).reverse ++ .ref (mxTr Z a) :: rest.map (mxSh Z) := by
    show (as.reverse ++ .ref a :: rest).map (mxSh Z) = _
    rw [List.map_append, List.map_reverse]; rfl
  have hts := C.2.2.2.2.1
  have S : CallFix p m c cc nL s args mxAW own := ⟨C.1, C.2.1, C.2.2.1, C.2.2.2.1, hts⟩
  have hp : PreS s H (mxPc Z (.ref a :: as) h) (.ref (mxTr Z a) :: as.map (mxSh Z)) := ⟨mxPc_blind Z _ h, fun U hU hWU => ⟨rfl, C.2.2.2.2.2.2.1.warm hWU, by rw [hU]; exact hH⟩⟩
  rcases hlink with hlink | ⟨host, hlink⟩
  · exact vx_runI S hm ⟨callB_of as.length hts (mxGoodIn hcode) rfl rfl rfl (hts _ hini) (hts _ hlink) ⟨hy1, hy2, hnp⟩ hR, hnm, hts _ hin⟩ hp rfl (by simp) hsz hs (lv_room hW') hd hk
  · exact vx_runIN S hm ⟨va_cnB as.length hts (mxGoodIn hcode) rfl rfl rfl (C.2.2.2.2.2.2.1.1 _ hlink) (hts _ hini) ⟨hy1, hy2, hnp⟩ hR, hnm, hts _ hin⟩ hp rfl (by simp) hsz hs (lv_room hW') hd hk
/-- the callee returned -/
theorem mx_back {p : Program} {e : Env} {R : Room} {s : State} {m : MethodId} {args : Array Value} {below : List Frame} {meth : Method} {c : Code} {Q : State → Prop} {H : Heap} {locs : List Loc} {lr : Array Slot} {mc ms : Nat} {st0 rest : List Value} {v : Option Value} {h' : mxH} {a : Array Value}
    (hr : vx_Run p l e R s m args below meth c H locs k n mc ms (F0 m pc lr st0) (rest.map (mxSh Z)) (mxQc Z (.inl v) h' a) (mxXC Z (.inl v) h') (fun q => Z.2.1.size ≤ q)) (hL : ∀ z ∈ locs, Z.2.1.size ≤ z.base)
    (g : ∀ (H1 : Heap) (locs1 : List Loc), mxHp Z h' H1 → (∀ z ∈ locs1, Z.2.1.size ≤ z.base) → W p l e R s m args below meth c H1 locs1 (k + mc) (n + ms) Q (F0 m (pc + 3) lr ((v.toList ++ rest).map (mxSh Z)))) : W p l e R s m args below meth c H locs k n Q (F0 m pc lr st0) := by
  intro T hT Xs
  rcases hr T hT Xs with ⟨v', st₀, t, T', L, h0, X', hL1, e1, e2, ⟨w, hw, ho, hh⟩, st⟩ | ⟨q, st₀, t, T', L, E, ce, h0, X', hL1, e1, e2, ⟨hx, -⟩, -⟩
  · cases hw
    cases ho
    obtain ⟨t2, a1, b1⟩ := g T'.heap (locs ++ L) (by rw [e1]; exact hh) (fun z hz => (List.mem_append.mp hz).elim (hL z) (hL1 z)) T' rfl X'
    refine ⟨t2, st t2 ?_, b1⟩
    have : (v.map (mxSh Z)).toList ++ rest.map (mxSh Z) = (v.toList ++ rest).map (mxSh Z) := by cases v <;> simp
    rw [this]
    exact a1
  · cases hx
theorem mG_callS {idx : Nat} {y : MethodName} {cc' : ByteArray} {nL' : Nat} {ret : Option FieldType} {rm : Room} {as rest : List Value} {h' : mxH} {v : Option Value}
    (C : mxC l Z X own cc nL) (hd : decode cc pc = .ok (.invokestatic idx, 3)) (hlk : mxLkS own idx y cc' nL' ret as.length) (hs : st = as.reverse ++ rest) (hm : mxMet l Z y cc' nL' ret rm as h (.inl v) h') (hR : rm.frames + 1 ≤ (mxRm X).frames ∧ 8 + (nL' + 11) + rm.locals ≤ (mxRm X).locals) (hk : k + rm.cells ≤ (mxRm X).cells ∧ n + rm.slots ≤ (mxRm X).slots) (hW : (rest.map fun v => v.category).sum ≤ 8)
    (g : mG l Z X nL (k + rm.cells) (n + rm.slots) (pc + 3) ls (v.toList ++ rest) h') : mG l Z X nL k n pc ls st h := by
  obtain ⟨p, e, R, s, m, args, below, meth, c, Q⟩ := X
  subst hs
  intro H locs lr hH hL hlr
  exact mx_back (mx_runS C hd hlk hm hR hk hW hH hlr.1) hL (fun H1 locs1 h1 h2 => g H1 locs1 lr h1 h2 hlr)
theorem mG_callV {idx : Nat} {y : MethodName} {cc' : ByteArray} {nL' : Nat} {ret : Option FieldType} {rm : Room} {a : Nat} (ci : Nat) {as rest : List Value} {h' : mxH} {v : Option Value}
    (C : mxC l Z X own cc nL) (hd : decode cc pc = .ok (.invokevirtual idx, 3)) (hlk : mxLkV own idx y cc' nL' ret as.length) (hs : st = as.reverse ++ .ref a :: rest) (hrc : mxCl[ci]?.map (fun q => q.1) = some y.cls) (hlt : a < h.2) (hc : (h.1 a).1 = ci) (hm : mxMet l Z y cc' nL' ret rm (.ref a :: as) h (.inl v) h') (hR : rm.frames + 1 ≤ (mxRm X).frames ∧ 8 + (nL' + 11) + rm.locals ≤ (mxRm X).locals) (hk : k + rm.cells ≤ (mxRm X).cells ∧ n + rm.slots ≤ (mxRm X).slots) (hW : (rest.map fun v => v.category).sum ≤ 8)
    (g : mG l Z X nL (k + rm.cells) (n + rm.slots) (pc + 3) ls (v.toList ++ rest) h') : mG l Z X nL k n pc ls st h := by
  obtain ⟨p, e, R, s, m, args, below, meth, c, Q⟩ := X
  subst hs
  intro H locs lr hH hL hlr
  exact mx_back (mx_runV C hd hlk hrc hlt hc hm hR hk hW hH hlr.1) hL (fun H1 locs1 h1 h2 => g H1 locs1 lr h1 h2 hlr)
theorem mG_callI {idx : Nat} {y : MethodName} {cc' : ByteArray} {nL' : Nat} {rm : Room} {a : Nat} {as rest : List Value} {h' : mxH} {v : Option Value}
    (C : mxC l Z X own cc nL) (hd : decode cc pc = .ok (.invokespecial idx, 3)) (hlk : mxLkI own idx y cc' nL' as.length) (hs : st = as.reverse ++ .ref a :: rest) (hm : mxMet l Z y cc' nL' none rm (.ref a :: as) h (.inl v) h') (hR : rm.frames + 1 ≤ (mxRm X).frames ∧ 8 + (nL' + 11) + rm.locals ≤ (mxRm X).locals) (hk : k + rm.cells ≤ (mxRm X).cells ∧ n + rm.slots ≤ (mxRm X).slots) (hW : (rest.map fun v => v.category).sum ≤ 8)
    (g : mG l Z X nL (k + rm.cells) (n + rm.slots) (pc + 3) ls (v.toList ++ rest) h') : mG l Z X nL k n pc ls st h := by
  obtain ⟨p, e, R, s, m, args, below, meth, c, Q⟩ := X
  subst hs
  intro H locs lr hH hL hlr
  exact mx_back (mx_runI C hd hlk hm hR hk hW hH hlr.1) hL (fun H1 locs1 h1 h2 => g H1 locs1 lr h1 h2 hlr)
end MG4
