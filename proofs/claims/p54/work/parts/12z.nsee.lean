/-! 'throw new NoSuchElementException(text)': its constructor links RuntimeException's by another entry (13) than the kit's throwing rows know (7). The road is the library's for the entry 7 (Stand.ctorThrowS), with Bundle.chainSX in chainS's place. -/
section MGN
variable {p : Program} {l : Launch} {e : Env} {R : Room} {s : State} {m₀ : MethodId} {args : Array Value} {below : List Frame} {meth : Method} {c : Code} {T0 : State} {locs : List Loc} {cells slots : Nat}
set_option maxHeartbeats 4000000 in
theorem mx_ctorX (X : Stand p l e R s m₀ args below meth c T0 locs cells slots) (hexec : p.tables.exec = Jvm.exec) (htr : e.platform.stackTraces = false) {own cls : String} {names : List String} {ic ix : Nat} {rx : ByteArray}
    (x0 : decode rx 0 = .ok (.aload_n 0, 1)) (x1 : decode rx 1 = .ok (.aload_n 1, 1)) (x2 : decode rx 2 = .ok (.invokespecial ix, 3)) (x5 : decode rx 5 = .ok (.return_, 1))
    (hown : s.vm.findClass own = some m₀.cls) (hcls : Bundle.fit cls = true) (hnames : ∀ n ∈ names, Bundle.fit n = true) (h : ∀ a ∈ Bundle.ownAtomsX own ic cls ix rx names, a.before args s = true)
    (hlocs : ∀ x ∈ locs, ∀ cell, s.heap[x.base]? = some cell → cell.vm.isStatics = false)
    {a : Addr} {cX : ClassId} {kX : Class} (hfoundX : s.vm.findClass cls = some cX) (hkX : s.vm.classes[cX]? = some kX) (hcell : T0.heap[a]? = some (freshCell cX kX)) (hnew : s.heap.size ≤ a)
    {msg : Value} (hmsg : msg.isRef = true) {g : JFrame} (hg : g.method = m₀) (hsize : g.locals.size = c.maxLocals) (hlocked : g.locked = none) (hentered : g.entered = []) {rest : List Value} (hstack : g.stack = msg :: .ref a :: .ref a :: rest)
    (hd6 : decode c.code g.pc = .ok (.invokespecial ic, 3)) (hd9 : decode c.code (g.pc + 3) = .ok (.athrow, 1)) (hout : ∀ x ∈ c.exceptionTable.toList, covers x (g.pc + 3) = false)
    (hRframes : names.length + 3 < R.frames) (hRlocals : 2 * g.monitorRoom + ((Value.ref a :: rest).map fun v => v.category).sum + (13 * (names.length + 1) + 42) ≤ R.locals) (hlocks : meth.locks = false) :
    ∃ U : State, Steps p.tables e below (T0.setTop g) U ∧ U.status = .running ∧ Ended U below (.threw a) ∧ s.WarmedH U.vm ∧ s.sameButNew ({ U with vm := s.vm } : State) locs cells slots ∧
      ∃ ce, U.heap[a]? = some ce ∧ ce.vm = .none ∧ s.vm.findClass cls = some ce.cls := by
  have howns : e.platform.frameOwnsMonitors = true := by rw [X.admits.platform]
  have hfin : e.platform.finalization = false := by rw [X.admits.platform]
  have hpl : e.platform.magicAccessors = ({} : Platform).magicAccessors := by rw [X.admits.platform]
  have a' : ∀ x, x ∈ Bundle.ownAtomsX own ic cls ix rx names → x.holds args s none s [] = true := fun x hx => h x hx
  obtain ⟨T, Z0, L, -, Y⟩ := ThrowableC.of_atoms (args := args) howns hfin hpl (fun x hx => h x (by simp [Bundle.ownAtomsX, hx]))
  obtain ⟨Z, M, LZ, LM, hnZ⟩ := Init0T.ofS_atoms (args := args) hpl L Y (fun x hx => h x (by simp [Bundle.ownAtomsX, hx]))
  obtain ⟨P1, Ps, hlen, L1, hL, hP1m, hlink1, hlink⟩ := Bundle.chainSX (args := args) hpl hnZ x0 x1 x2 x5 names cls hcls hnames (fun x hx => h x (by simp [Bundle.ownAtomsX, hx]))
  have hfound : s.vm.findClass cls = some P1.m.cls := findClass_of_methodNamed hP1m
  cases Option.some.inj (hfoundX.symm.trans hfound)
  obtain ⟨c1, kX', hc1, hk, hord, -, -, hn6⟩ := Cond.instantiable_spec (a' (.instantiable cls 6) (by simp [Bundle.ownAtomsX]))
  cases Option.some.inj (hc1.symm.trans hfound)
  cases Option.some.inj (hkX.symm.trans hk)
  have sel : ∀ (y : MethodName) (k : MethodId), Cond.selects cls y y ∈ Bundle.ownAtomsX own ic cls ix rx names → s.methodFound? y.cls y.name y.desc = some k → s.methodNamed? y = some k → selectMethod e.platform s.vm P1.m.cls k = .method k := by
    intro y k hy hf hn
    obtain ⟨c2, r2, m2, q1, q2, q3, q4, -⟩ := Cond.selects_spec (a' _ hy)
    cases Option.some.inj (q1.symm.trans hfound)
    cases Option.some.inj (q2.symm.trans hf)
    cases Option.some.inj (q3.symm.trans hn)
    rw [Launch.admits_selectMethod X.admits]; exact q4
  have hsel0 := sel _ _ (by simp [Bundle.ownAtomsX]) (State.methodFound?_of_named Y.fill0 (by decide)) Y.fill0
  have hselF := sel _ _ (by simp [Bundle.ownAtomsX]) (State.methodFound?_of_named Y.fill (by decide)) Y.fill
  obtain ⟨cellS0, hcS0, hiss⟩ := Y.statics
  obtain ⟨u0, hu0⟩ := Cond.staticRefV Y.unassigned L.unassignedStatic L.statics hcS0 hiss (a' (.isRef (.static Bundle.tN "UNASSIGNED_STACK" Bundle.steD)) (by simp [Bundle.ownAtomsX]))
  obtain ⟨sen, hsen⟩ := Cond.staticRefV Y.sentinel L.sentinelStatic L.statics hcS0 hiss (a' (.isRef (.static Bundle.tN "SUPPRESSED_SENTINEL" Bundle.listD)) (by simp [Bundle.ownAtomsX]))
  obtain ⟨ci198, i198, fB, hk198, hg198, ha198, hsB, -, hnB, htB, hffB⟩ := Cond.ownField (t := .object "java/lang/Object") Y.found L.cls (by decide +kernel) (a' (.fieldLink Bundle.tN 198 Bundle.tN "backtrace" "Ljava/lang/Object;") (by simp [Bundle.ownAtomsX])) (a' (.lays Bundle.tN Bundle.tN "backtrace" "Ljava/lang/Object;") (by simp [Bundle.ownAtomsX])) e.platform hpl
  obtain ⟨cellS, hcS', heS, -, hkeep⟩ := X.same.2.2.2.2.2 T.aS cellS0 hcS0
  have hcellS : T0.heap[T.aS]? = some cellS := hcS'
  have hout' : ∀ i, (⟨T.aS, i⟩ : Loc) ∉ locs := fun i hmem => by
    have := hlocs _ hmem cellS0 hcS0
    rw [hiss] at this; cases this
  have hknownS : cellS.vm ≠ .unknown := by
    rw [heS]; intro hu
    rw [show cellS0.vm = .unknown from hu] at hiss
    cases hiss
  have hneS : T.aS ≠ a := Nat.ne_of_lt (Nat.lt_of_lt_of_le (Array.getElem?_eq_some_iff.mp hcS0).1 hnew)
  obtain ⟨iM, hffM⟩ := Y.msg
  have lay : ∀ f d, f ∈ ["cause", "stackTrace", "suppressedExceptions", "detailMessage", "backtrace"] → Cond.lays cls Bundle.tN f d ∈ Bundle.ownAtomsX own ic cls ix rx names → (Cond.lays cls Bundle.tN f d).holds args s none s [] = true := fun f d _ hm => a' _ hm
  obtain ⟨tyC, dC, hdC, hdnC⟩ := Cond.laysAt hfound hk Y.cause (a' (.lays cls Bundle.tN "cause" "Ljava/lang/Throwable;") (by simp [Bundle.ownAtomsX]))
  obtain ⟨tyS, dS, hdS, hdnS⟩ := Cond.laysAt hfound hk Y.stack (a' (.lays cls Bundle.tN "stackTrace" Bundle.steD) (by simp [Bundle.ownAtomsX]))
  obtain ⟨tyP, dP, hdP, hdnP⟩ := Cond.laysAt hfound hk Y.supp (a' (.lays cls Bundle.tN "suppressedExceptions" Bundle.listD) (by simp [Bundle.ownAtomsX]))
  obtain ⟨tyM, dM, hdM, hdnM⟩ := Cond.laysAt hfound hk hffM (a' (.lays cls Bundle.tN "detailMessage" "Ljava/lang/String;") (by simp [Bundle.ownAtomsX]))
  obtain ⟨tyB, dB, hdB, hdnB⟩ := Cond.laysAt hfound hk hffB (a' (.lays cls Bundle.tN "backtrace" "Ljava/lang/Object;") (by simp [Bundle.ownAtomsX]))
  have bC := Cond.laysApart hdB hdC hdnB hdnC (by rw [hnB, Y.causeName]; decide)
  have bS := Cond.laysApart hdB hdS hdnB hdnS (by rw [hnB, Y.stackName]; decide)
  have bP := Cond.laysApart hdB hdP hdnB hdnP (by rw [hnB, Y.suppName]; decide)
  have hskip : SkipFacts T e.platform s (fun u => u) u0 ((preparedCellV T.toThrowableT (freshCell P1.m.cls kX) a u0 sen).withEntry T0.cur) :=
    ⟨{ ci198 := ci198, i198 := i198, fBack := fB }, ⟨hk198, hg198, ha198, hsB⟩, by
      have := fresh_default (c := P1.m.cls) tyB
      rw [htB] at this
      simpa [preparedCellV, Cell.setSlot, Cell.withEntry, Array.getElem?_setIfInBounds, bC, bS, bP, bC.symm, bS.symm, bP.symm, defaultValue] using this, fun _ _ => rfl⟩
  obtain ⟨tm, methC, cdC, kC, vm₁, hnC, -, -, -, -, -, -, -, hW₁, st1⟩ := Steps.initColdS (tb := p.tables) (e := e) (below := below) (s := s) (U := T0) X.here hexec X.warmed hpl hown (t := Bundle.initS cls) rfl rfl (Bundle.fit_spec hcls).2
    (a' (.methodLink own ic (Bundle.initS cls)) (by simp [Bundle.ownAtomsX])) (h (.instanceMethod (Bundle.initS cls)) (by cases names <;> simp [Bundle.ownAtomsX, Bundle.chainSAtomsX, Bundle.passSAtoms])) (bytes := rx) (maxL := 2) (h (.code (Bundle.initS cls) rx 2 none) (by cases names <;> simp [Bundle.ownAtomsX, Bundle.chainSAtomsX, Bundle.passSAtoms]))
    (f := g) hg (a := a) (msg := msg) (rest := .ref a :: rest) hstack hd6
  cases Option.some.inj (hnC.symm.trans hP1m)
  have X₁ := X.noted hW₁
  obtain ⟨vm₂, X₂, st2⟩ := X₁.ctorMessageOffV hexec (g := { g with stack := .ref a :: rest }) hg hsize T L Z LZ M LM (P1 :: Ps)
    (fun P hP => by rcases List.mem_cons.mp hP with rfl | hP; exact L1; exact hL P hP) ⟨hlink1, hlink⟩ (u0 := u0) (sen := sen) (self := a) hmsg (cell := freshCell P1.m.cls kX) (cellS := cellS)
    hcell (fun _ => by simp) (by simp) rfl rfl hsel0 hselF hcellS hneS hknownS (by rw [hkeep _ (hout' _)]; exact hu0) (by rw [hkeep _ (hout' _)]; exact hsen)
    (Takes.of_laid hk hord tyC (by rw [Y.causeType]; rfl)) (Takes.of_laid hk hord tyS (by rw [Y.stackType]; exact fits_refV_array _ u0)) (Takes.of_laid hk hord tyP (by rw [Y.suppType]; exact fits_refV_object _ sen))
    (Takes.of_laid hk hord tyM (by rw [Y.msgType]; exact fits_refV_object _ ⟨msg, hmsg⟩)) Y.objLocals hskip htr [] hd6
    (by simp only [List.length_cons, hlen]; omega) (by simp only [List.length_cons, hlen]; exact hRlocals)
  obtain ⟨hwalk, hrun, hended, hWU, hsame⟩ := X₂.athrowLeaves hexec (g := { g with stack := .ref a :: rest, pc := g.pc + 3 }) hg hlocked hentered hout (a := a) (rest := rest) rfl hd9
  have hlt : a < ((T0.setVm vm₁).setVm vm₂).heap.size := (Array.getElem?_eq_some_iff.mp hcell).1
  have hU := heapAt_setCell_self (s := (T0.setVm vm₁).setVm vm₂) (plainBareV T.toThrowableT (freshCell P1.m.cls kX) a u0 sen msg) hlt
  refine ⟨_, st1 _ (fun acts => ?_), hrun, hended, hWU, hsame.weaken (fun y hy hlt' => ?_) (Nat.le_refl _) (Nat.le_refl _), _, hU, rfl, hfound⟩
  · rw [doInvoke_state]
    exact st2 _ hwalk
  · rcases List.mem_append.mp hy with h1 | h1
    · exact h1
    · exfalso
      have hb : y.base = a := by
        simp only [List.mem_cons, List.not_mem_nil, or_false] at h1
        rcases h1 with rfl | rfl | rfl | rfl | rfl <;> rfl
      rw [hb] at hlt'
      exact Nat.not_lt.mpr hnew hlt'
end MGN
/-- the words of the NoSuchElementException's throw, but the four that speak of the heap -/
def mxNsW : List Cond := (Bundle.ownAtomsX RX9 328 "java/util/NoSuchElementException" 13 prog_26_method_4_code ["java/lang/RuntimeException", "java/lang/Exception"]).filter vx_no
theorem mxNs_in : ∀ w ∈ mxNsW, w ∈ mxAW ∨ w ∈ mxNW := by decide +kernel
theorem mxNs_ot : ∀ w ∈ Cond.classLink RX9 324 "java/util/NoSuchElementException" :: Cond.initialized "java/util/NoSuchElementException" :: mxNsW, vx_ot w = true := by decide +kernel
theorem mxNs_k : Cond.classLink RX9 324 "java/util/NoSuchElementException" ∈ mxAW ∧ Cond.initialized "java/util/NoSuchElementException" ∈ mxAW := ⟨List.mem_filter.mpr ⟨List.mem_append_right _ (List.mem_of_getElem? (i := 648) (by decide +kernel)), by decide +kernel⟩, List.mem_filter.mpr ⟨List.mem_append_right _ (List.mem_of_getElem? (i := 20) (by decide +kernel)), by decide +kernel⟩⟩
/-- behind a throw of which one cell is new -/
def nwX (h : mxH) : Option mxH := if (h.1 h.2).1 = 300 then some (mxNew h (200, [], [])) else none
section MGN2
variable {l : Launch} {Z : mxZ} {X : mxX} {own : String} {cc : ByteArray} {nL k n pc : Nat} {ls : List (Option Value)} {st : List Value} {h : mxH}
set_option maxHeartbeats 4000000 in
theorem mG_thNS {hN9 : mxH} {ret : Option FieldType} {R0 : Room} (C : mxC l Z X RX9 cc nL) (En : mxEnd Z X ret (.inr "java/util/NoSuchElementException") hN9) (hv9 : nwX h = some hN9) (hX : mxRm X = R0)
    (d0 : decode cc pc = .ok (.new 324, 3)) (d3 : decode cc (pc + 3) = .ok (.dup, 1)) (d4 : decode cc (pc + 4) = .ok (.ldc_w 326, 3)) (d7 : decode cc (pc + 7) = .ok (.invokespecial 328, 3)) (d10 : decode cc (pc + 10) = .ok (.athrow, 1))
    (hF : mxFit R0 { frames := 5, cells := 1, slots := 6, locals := 80 } 2 k n = true) (hW : Nat.ble (st.map fun v => v.category).sum 8 = true) : mG l Z X nL k n pc ls st h := by
  obtain ⟨f1, hk⟩ := mxFit_of hF
  have h9 := Nat.le_of_ble_eq_true hW
  subst hX
  obtain ⟨p, e, R, s, m, args, below, meth, c, Q⟩ := X
  intro H locs lr hH hL hlr
  obtain ⟨hr, hQ, htab⟩ := En
  subst hQ
  have hG := C.2.2.2.2.2.2.1
  have hts := C.2.2.2.2.1
  have hold := C.2.2.2.2.2.2.2.1
  have hown := C.2.2.2.1
  have hexec := C.1
  obtain ⟨sa, hsa⟩ := hG.2.2.2.2.2.2.2.1 (326, "there is none") (by decide +kernel)
  have hq : ∀ a : Nat, a < Z.2.1.size → ¬ (fun q => Z.2.1.size ≤ q) a → s.heap[a]? = Z.2.1[a]? := fun a ha _ => hold.2 a ha
  intro T hT X
  have hS : va_S (fun q => Z.2.1.size ≤ q) s.heap H locs := by
    refine ⟨by rw [← hT]; exact X.heapGrown, fun q _ hq2 => ?_, hL⟩
    have hlt : q < Z.2.1.size := Nat.not_le.mp hq2
    rw [hH.2.2.1 q hlt, hold.2 q hlt]
  have hcat0 : ((st.map (mxSh Z)).map fun v => v.category).sum = (st.map fun v => v.category).sum := by
    rw [List.map_map, show ((fun v : Value => v.category) ∘ mxSh Z) = (fun v => v.category) from funext (mxSh_cat Z)]
  have htr : e.platform.stackTraces = false := (show e.platform.stackTraces = l.stackTraces by rw [X.admits.platform]).trans C.2.2.2.2.2.2.2.2
  have Y := vx_rebase X (R' := { frames := R.frames, locals := R.locals, cells := 1, slots := 6 }) (Nat.le_refl _) (Nat.le_refl _) hk.1 hk.2
  obtain ⟨s', hA⟩ : ∃ z, z = (T.setVm s.vm).setFrames (.invoking m args :: below) := ⟨_, rfl⟩
  rw [← hA] at Y
  have hvm : s'.vm = s.vm := by rw [hA]; rfl
  have hhp : s'.heap = H := by rw [hA]; exact hT
  have hW0 : s.WarmedH s'.vm := by rw [hvm]; exact State.WarmedH.refl s
  have mv : ∀ w, w ∈ Cond.classLink RX9 324 "java/util/NoSuchElementException" :: Cond.initialized "java/util/NoSuchElementException" :: mxNsW → w.before args s = true → w.before args s' = true := fun w hw h => vx_ot_at hW0 hvm.symm (mxNs_ot w hw) h
  have hat' : ∀ w ∈ mxNsW, w.before args s' = true := fun w hw => mv w (List.mem_cons_of_mem _ (List.mem_cons_of_mem _ hw)) ((mxNs_in w hw).elim (fun q => hts w q) (fun q => va_Nw.use (mxNW_on w q) (hG.1 w q)))
  have hU' : vx_Zq Bundle.tN "UNASSIGNED_STACK" Bundle.steD (fun q => Z.2.1.size ≤ q) s' s'.heap := by rw [hhp]; exact vx_Zq.moved hW0.alike ((hG.2.2.2.2.2.2.1.1.kept hq).kept hS.2.1)
  have hN' : vx_Zq Bundle.tN "SUPPRESSED_SENTINEL" Bundle.listD (fun q => Z.2.1.size ≤ q) s' s'.heap := by rw [hhp]; exact vx_Zq.moved hW0.alike ((hG.2.2.2.2.2.2.1.2.kept hq).kept hS.2.1)
  have h' : ∀ w ∈ Bundle.ownAtomsX RX9 328 "java/util/NoSuchElementException" 13 prog_26_method_4_code ["java/lang/RuntimeException", "java/lang/Exception"], w.before args s' = true := vx_own hat' (vx_isRefq hU'.1) (vx_isRefq hN'.1) hU'.2.word hN'.2.word
  have hown' : s'.vm.findClass RX9 = some m.cls := by rw [hvm]; exact hown
  have hins : (Cond.instantiable "java/util/NoSuchElementException" 6).before args s' = true := h' _ (by simp [Bundle.ownAtomsX])
  obtain ⟨vm₁, cX, kX, hfX, hkX, -, -, X₁, st1⟩ := Y.newCold hexec (own := RX9) (C := "java/util/NoSuchElementException") (index := 324) (n := 6) hown' (mv _ List.mem_cons_self (hts _ mxNs_k.1)) hins (mv _ (List.mem_cons_of_mem _ List.mem_cons_self) (hts _ mxNs_k.2))
    (g := F0 m pc lr (st.map (mxSh Z))) rfl (by rw [C.2.1]; exact d0) (Nat.le_refl _) (Nat.le_refl _)
  generalize hT1 : (T.setVm vm₁).pushCell { cls := cX, slots := kX.instanceTypes.map defaultValue, vm := .none } = T1 at X₁ st1
  have hcat : (Value.ref T.heap.size).category = 1 := rfl
  have hcellA : T1.heap[T.heap.size]? = some (freshCell cX kX) := by rw [← hT1]; exact State.heap_pushCell_size _ _
  have d3' : decode c.code (pc + 3) = .ok (.dup, 1) := by rw [C.2.1]; exact d3
  have d4' : decode c.code (pc + 4) = .ok (.ldc_w 326, 3) := by rw [C.2.1]; exact d4
  have hstr' : vk_R RX9 326 "there is none" sa s' := vk_R.warm hW0 hsa
  have r1 := f1.1
  have r2 := f1.2
  simp [mxRm] at r1 r2
  obtain ⟨U, hsteps, hrun, hend, hWU, hsame, ce, hce, hcv, hcc⟩ := mx_ctorX X₁ hexec htr (own := RX9) (cls := "java/util/NoSuchElementException") (names := ["java/lang/RuntimeException", "java/lang/Exception"]) (ic := 328) (ix := 13) (rx := prog_26_method_4_code) (by decide +kernel) (by decide +kernel) (by decide +kernel) (by decide +kernel) hown' (by decide +kernel) mx_fits h' (fun x hx => nomatch hx) hfX hkX hcellA (by rw [hhp, hT]; exact Nat.le_refl _) (msg := .ref sa) rfl
    (g := { method := m, pc := pc + 7, locals := lr, stack := .ref sa :: .ref T.heap.size :: .ref T.heap.size :: st.map (mxSh Z), locked := none }) rfl (hlr.1.trans C.2.2.1.symm) rfl rfl (rest := st.map (mxSh Z)) rfl
    (by rw [C.2.1]; exact d7) (by rw [C.2.1]; exact d10) (fun x hx => (htab x hx).elim) (by show 2 + 3 < R.frames; omega) (by simp only [List.map_cons, List.sum_cons, hcat, hcat0]; show 2 * 0 + _ + (13 * (2 + 1) + 42) ≤ R.locals; omega) C.2.2.2.2.2.1
  obtain ⟨g1, g2⟩ := vx_frame hsame
  rw [hhp] at g1 g2
  have hnew : mxHp Z hN9 U.heap := by
    have z1 : U.heap.size ≤ s'.heap.size + (0 + 1) := hsame.2.2.1
    have z2 := (Array.getElem?_eq_some_iff.mp hce).1
    rw [hhp] at z1
    rw [hT] at z2
    unfold nwX at hv9
    split at hv9
    · rename_i hx9
      cases hv9
      exact hH.one hx9 (by omega) (fun q hq => g2 q hq (fun z hz => nomatch hz))
    · cases hv9
  have hWs : s.WarmedH U.vm := State.WarmedH.trans hW0 hWU
  have hcl : s.vm.findClass "java/util/NoSuchElementException" = some ce.cls := by rw [hvm] at hcc; exact hcc
  have hall : s.sameButNew ({ U with vm := s.vm } : State) locs R.cells R.slots := by
    subst hA
    obtain ⟨e1, e2⟩ := hsame
    rw [State.setFrames_setFrames] at e1
    have h2 : (T.setVm s.vm).sameButNew ({ U with vm := s.vm } : State) [] (0 + 1) (0 + 6) := ⟨e1, e2⟩
    have h3 := X.same.trans h2
    rw [List.append_nil] at h3
    exact h3.mono hk.1 hk.2
  refine ⟨U, ?_, .threw T.heap.size, hrun, hend, Or.inr ⟨T.heap.size, rfl, "java/util/NoSuchElementException", ce, locs, ⟨rfl, hnew⟩, hce, hcv, hcl, hWs, hall, hL⟩⟩
  refine st1 _ ?_
  show Steps p.tables e below (T1.setTop { method := m, pc := pc + 3, locals := lr, stack := .ref T.heap.size :: st.map (mxSh Z), locked := none }) _
  jvm_step X₁.here [X₁.here.top, hexec, d3', Value.category]
  exact X₁.ldcStringW hexec (own := RX9) (text := "there is none") (index := 326) (a := sa) hown' hstr'.1 hstr'.2
    (g := { method := m, pc := pc + 4, locals := lr, stack := .ref T.heap.size :: .ref T.heap.size :: st.map (mxSh Z), locked := none }) rfl d4' _ hsteps
end MGN2
