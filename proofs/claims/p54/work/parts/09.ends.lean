/-! the mini machine: ends, throws, handlers -/
section MG5
variable {l : Launch} {Z : mxZ} {X : mxX} {own : String} {cc : ByteArray} {nL k n pc : Nat} {ls : List (Option Value)} {st : List Value} {h : mxH} {ret : Option FieldType}
theorem mG_ireturn {x : Int32} {ty : FieldType} (C : mxC l Z X own cc nL) (E : mxEnd Z X (some ty) (.inl (some (.int x))) h) (hd : decode cc pc = .ok (.ireturn, 1)) (hn : narrow ty (.int x) = .int x) (hk : k ≤ (mxRm X).cells ∧ n ≤ (mxRm X).slots) : mG l Z X nL k n pc ls [.int x] h := by
  obtain ⟨p, e, R, s, m, args, below, meth, c, Q⟩ := X
  intro H locs lr hH hL hlr
  obtain ⟨hr, hQ, -⟩ := E
  subst hQ
  have hlocks : meth.locks = false := C.2.2.2.2.2.1
  exact W.widen hk.1 hk.2 (vx_ret (W.zret (v := x) C.1 C.2.1 hr hn (fun t ht _ => ⟨_, rfl, rfl, by rw [ht]; exact hH⟩) hL hd))
theorem mG_dreturn {x : UInt64} (C : mxC l Z X own cc nL) (E : mxEnd Z X (some .double) (.inl (some (.double x))) h) (hd : decode cc pc = .ok (.dreturn, 1)) (hk : k ≤ (mxRm X).cells ∧ n ≤ (mxRm X).slots) : mG l Z X nL k n pc ls [.double x] h := by
  obtain ⟨p, e, R, s, m, args, below, meth, c, Q⟩ := X
  intro H locs lr hH hL hlr
  obtain ⟨hr, hQ, -⟩ := E
  subst hQ
  have hlocks : meth.locks = false := C.2.2.2.2.2.1
  exact W.widen hk.1 hk.2 (vx_ret (W.dret (v := x) C.1 C.2.1 hr (fun t ht _ => ⟨_, rfl, rfl, by rw [ht]; exact hH⟩) hL hd))
theorem mG_freturn {x : UInt32} (C : mxC l Z X own cc nL) (E : mxEnd Z X (some .float) (.inl (some (.float x))) h) (hd : decode cc pc = .ok (.freturn, 1)) (hk : k ≤ (mxRm X).cells ∧ n ≤ (mxRm X).slots) : mG l Z X nL k n pc ls [.float x] h := by
  obtain ⟨p, e, R, s, m, args, below, meth, c, Q⟩ := X
  intro H locs lr hH hL hlr
  obtain ⟨hr, hQ, -⟩ := E
  subst hQ
  have hlocks : meth.locks = false := C.2.2.2.2.2.1
  exact W.widen hk.1 hk.2 (vx_ret (W.fret (v := x) C.1 C.2.1 hr (fun t ht _ => ⟨_, rfl, rfl, by rw [ht]; exact hH⟩) hL hd))
theorem mG_return (C : mxC l Z X own cc nL) (E : mxEnd Z X none (.inl none) h) (hd : decode cc pc = .ok (.return_, 1)) (hk : k ≤ (mxRm X).cells ∧ n ≤ (mxRm X).slots) : mG l Z X nL k n pc ls [] h := by
  obtain ⟨p, e, R, s, m, args, below, meth, c, Q⟩ := X
  intro H locs lr hH hL hlr
  obtain ⟨hr, hQ, -⟩ := E
  subst hQ
  have hlocks : meth.locks = false := C.2.2.2.2.2.1
  exact W.widen hk.1 hk.2 (vx_ret (W.vret C.1 C.2.1 hr (fun t ht _ => ⟨_, rfl, rfl, by rw [ht]; exact hH⟩) hL hd))
/-- the words of 'throw new E(text)' in the class -/
def mxThw (E : String) (ik ic : Nat) : Prop :=
  Bundle.fit E = true ∧ Cond.classLink RX9 ik E ∈ mxAW ∧ Cond.initialized E ∈ mxAW ∧ (∀ w ∈ vx_atS RX9 ic E ["java/lang/RuntimeException", "java/lang/Exception"], w ∈ mxAW ∨ w ∈ mxNW) ∧
  ∀ w ∈ Cond.classLink RX9 ik E :: Cond.initialized E :: vx_atS RX9 ic E ["java/lang/RuntimeException", "java/lang/Exception"], vx_ot w = true
theorem mxNW_on : ∀ w ∈ mxNW, w.onTables = true := by
  intro w hw
  have hn : mxIsN w = true := (List.mem_filter.mp hw).2
  cases w <;> first | rfl | cases hn
theorem mx_fits : ∀ n ∈ ["java/lang/RuntimeException", "java/lang/Exception"], Bundle.fit n = true := by decide +kernel
theorem mG_throw {E text : String} {ik is ic : Nat} (C : mxC l Z X RX9 cc nL) (En : mxEnd Z X ret (.inr E) (mxThr h)) (hT : mxThw E ik ic) (hx : (is, text) ∈ mxTx)
    (d0 : decode cc pc = .ok (.new ik, 3)) (d3 : decode cc (pc + 3) = .ok (.dup, 1)) (d4 : decode cc (pc + 4) = .ok (.ldc_w is, 3)) (d7 : decode cc (pc + 7) = .ok (.invokespecial ic, 3)) (d10 : decode cc (pc + 10) = .ok (.athrow, 1))
    (hk : k + 1 ≤ (mxRm X).cells ∧ n + 6 ≤ (mxRm X).slots) (hR : 5 < (mxRm X).frames ∧ (st.map fun v => v.category).sum + 82 ≤ (mxRm X).locals) : mG l Z X nL k n pc ls st h := by
  obtain ⟨p, e, R, s, m, args, below, meth, c, Q⟩ := X
  intro H locs lr hH hL hlr
  obtain ⟨hr, hQ, htab⟩ := En
  subst hQ
  obtain ⟨t1, t2, t3, t4, t5⟩ := hT
  have hG := C.2.2.2.2.2.2.1
  have hts := C.2.2.2.2.1
  have hold := C.2.2.2.2.2.2.2.1
  obtain ⟨sa, hsa⟩ := hG.2.2.2.2.2.2.2.1 (is, text) hx
  have hq : ∀ a : Nat, a < Z.2.1.size → ¬ (fun q => Z.2.1.size ≤ q) a → s.heap[a]? = Z.2.1[a]? := fun a ha _ => hold.2 a ha
  intro T hT Xs
  have hS : va_S (fun q => Z.2.1.size ≤ q) s.heap H locs := by
    refine ⟨by rw [← hT]; exact Xs.heapGrown, fun q _ hq2 => ?_, hL⟩
    have hlt : q < Z.2.1.size := Nat.not_le.mp hq2
    rw [hH.2.2.1 q hlt, hold.2 q hlt]
  have hcat : ((st.map (mxSh Z)).map fun v => v.category).sum = (st.map fun v => v.category).sum := by
    rw [List.map_map, show ((fun v : Value => v.category) ∘ mxSh Z) = (fun v => v.category) from funext (mxSh_cat Z)]
  exact vx_throwSW C.1 C.2.1 C.2.2.2.2.2.2.2.2 C.2.2.2.1 t1 mx_fits (hts _ t2) (hts _ t3) hsa
    (fun w hw => (t4 w hw).elim (fun q => hts w q) (fun q => va_Nw.use (mxNW_on w q) (hG.1 w q))) t5
    (hG.2.2.2.2.2.2.1.1.kept hq) (hG.2.2.2.2.2.2.1.2.kept hq) hS (hlr.1.trans C.2.2.1.symm) d0 d3 d4 d7 d10 (fun x hx => (htab x hx).elim) hR.1 (by rw [hcat]; exact hR.2) hk.1 hk.2 C.2.2.2.2.2.1
    (fun t _ h1 h2 => ⟨rfl, hH.thr h1 h2⟩) hL hk.1 hk.2 T hT Xs
/-- the callee threw, and this method has no handlers -/
theorem mx_backX {p : Program} {e : Env} {R : Room} {s : State} {m : MethodId} {args : Array Value} {below : List Frame} {meth : Method} {c : Code} {Q : State → Prop} {H : Heap} {locs : List Loc} {lr : Array Slot} {mc ms : Nat} {st0 rest : List Value} {E : String} {h' : mxH} {a : Array Value} {cc : ByteArray}
    (C : mxC l Z (p, e, R, s, m, args, below, meth, c, Q) own cc nL) (En : mxEnd Z (p, e, R, s, m, args, below, meth, c, Q) ret (.inr E) h')
    (hr : vx_Run p l e R s m args below meth c H locs k n mc ms (F0 m pc lr st0) (rest.map (mxSh Z)) (mxQc Z (.inr E) h' a) (mxXC Z (.inr E) h') (fun q => Z.2.1.size ≤ q)) (hL : ∀ z ∈ locs, Z.2.1.size ≤ z.base) (hk : k + mc ≤ R.cells ∧ n + ms ≤ R.slots) : W p l e R s m args below meth c H locs k n Q (F0 m pc lr st0) := by
  obtain ⟨hret, hQ, htab⟩ := En
  subst hQ
  intro T hT Xs
  rcases hr T hT Xs with ⟨v', st₀, t, T', L, h0, X', hL1, e1, e2, ⟨w, hw, -⟩, -⟩ | ⟨q, st₀, t, T', L, E', ce, h0, X', hL1, e1, e2, ⟨hx, hh⟩, hce, hcv, hcl, st⟩
  · cases hw
  · cases hx
    have h9 := vx_out (l := l) (p := p) (e := e) (R := R) (s := s) (m := m) (args := args) (below := below) (meth := meth) (c := c) (H := T'.heap) (locs := locs ++ L) (cells := k + mc) (slots := n + ms) (ls := lr) (rest := rest.map (mxSh Z)) (pc := pc) (Qc := mxQc Z (.inr E) h') (XC := mxXC Z (.inr E) h') (mc := R.cells) (ms := R.slots) (free := fun q => Z.2.1.size ≤ q) (q := q)
      (fun x hx => (htab x hx).elim) C.2.2.2.2.2.1 (by rw [e1]; exact hce) hcv hcl (fun t9 h9 _ => ⟨rfl, by rw [h9, e1]; exact hh⟩) (fun z hz => (List.mem_append.mp hz).elim (hL z) (hL1 z)) hk.1 hk.2
    obtain ⟨t2, a1, b1⟩ := h9 T' rfl X'
    exact ⟨t2, st.trans a1, b1⟩
theorem mG_callSX {idx : Nat} {y : MethodName} {cc' : ByteArray} {nL' : Nat} {ret' : Option FieldType} {rm : Room} {as rest : List Value} {h' : mxH} {E : String}
    (C : mxC l Z X own cc nL) (En : mxEnd Z X ret (.inr E) h') (hd : decode cc pc = .ok (.invokestatic idx, 3)) (hlk : mxLkS own idx y cc' nL' ret' as.length) (hs : st = as.reverse ++ rest) (hm : mxMet l Z y cc' nL' ret' rm as h (.inr E) h') (hR : rm.frames + 1 ≤ (mxRm X).frames ∧ 8 + (nL' + 11) + rm.locals ≤ (mxRm X).locals) (hk : k + rm.cells ≤ (mxRm X).cells ∧ n + rm.slots ≤ (mxRm X).slots) (hW : (rest.map fun v => v.category).sum ≤ 8) : mG l Z X nL k n pc ls st h := by
  obtain ⟨p, e, R, s, m, args, below, meth, c, Q⟩ := X
  subst hs
  intro H locs lr hH hL hlr
  exact mx_backX C En (mx_runS C hd hlk hm hR hk hW hH hlr.1) hL hk
theorem mG_callVX {idx : Nat} {y : MethodName} {cc' : ByteArray} {nL' : Nat} {ret' : Option FieldType} {rm : Room} {a : Nat} (ci : Nat) {as rest : List Value} {h' : mxH} {E : String}
    (C : mxC l Z X own cc nL) (En : mxEnd Z X ret (.inr E) h') (hd : decode cc pc = .ok (.invokevirtual idx, 3)) (hlk : mxLkV own idx y cc' nL' ret' as.length) (hs : st = as.reverse ++ .ref a :: rest) (hrc : mxCl[ci]?.map (fun q => q.1) = some y.cls) (hlt : a < h.2) (hc : (h.1 a).1 = ci) (hm : mxMet l Z y cc' nL' ret' rm (.ref a :: as) h (.inr E) h') (hR : rm.frames + 1 ≤ (mxRm X).frames ∧ 8 + (nL' + 11) + rm.locals ≤ (mxRm X).locals) (hk : k + rm.cells ≤ (mxRm X).cells ∧ n + rm.slots ≤ (mxRm X).slots) (hW : (rest.map fun v => v.category).sum ≤ 8) : mG l Z X nL k n pc ls st h := by
  obtain ⟨p, e, R, s, m, args, below, meth, c, Q⟩ := X
  subst hs
  intro H locs lr hH hL hlr
  exact mx_backX C En (mx_runV C hd hlk hrc hlt hc hm hR hk hW hH hlr.1) hL hk
end MG5
