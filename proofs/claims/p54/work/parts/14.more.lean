/-! the mini machine: what the law and the library's sort ask beside: longs, null, int[][] made by hand, arrays of a computed length, the room by hypothesis -/
section MG14
variable {l : Launch} {Z : mxZ} {X : mxX} {own : String} {cc : ByteArray} {nL k n pc : Nat} {ls : List (Option Value)} {st : List Value} {h : mxH}
theorem mG_wd {k' n' : Nat} (hk : k ≤ k') (hn : n ≤ n') (g : mG l Z X nL k' n' pc ls st h) : mG l Z X nL k n pc ls st h := by
  obtain ⟨p, e, R, s, m, args, below, meth, c, Q⟩ := X
  intro H locs lr hH hL hlr
  exact W.widen hk hn (g H locs lr hH hL hlr)
theorem mG_null (C : mxC l Z X own cc nL) (hd : decode cc pc = .ok (.aconst_null, 1)) (g : mG l Z X nL k n (pc + 1) ls (.null :: st) h) : mG l Z X nL k n pc ls st h := by
  obtain ⟨p, e, R, s, m, args, below, meth, c, Q⟩ := X
  intro H locs lr hH hL hlr
  exact lv_null C.1 C.2.1 hd (g H locs lr hH hL hlr)
theorem mG_aloadN {i : Nat} (C : mxC l Z X own cc nL) (hd : decode cc pc = .ok (.aload i, 2)) (hl : mxGet ls i = some .null) (g : mG l Z X nL k n (pc + 2) ls (.null :: st) h) : mG l Z X nL k n pc ls st h := by
  obtain ⟨p, e, R, s, m, args, below, meth, c, Q⟩ := X
  intro H locs lr hH hL hlr
  exact lv_aloadN C.1 C.2.1 hd (hlr.2.2 i _ hl) (g H locs lr hH hL hlr)
theorem mG_aload_nN {i : Fin 4} (C : mxC l Z X own cc nL) (hd : decode cc pc = .ok (.aload_n i, 1)) (hl : mxGet ls i.val = some .null) (g : mG l Z X nL k n (pc + 1) ls (.null :: st) h) : mG l Z X nL k n pc ls st h := by
  obtain ⟨p, e, R, s, m, args, below, meth, c, Q⟩ := X
  intro H locs lr hH hL hlr
  exact lv_aload_nN C.1 C.2.1 hd rfl (hlr.2.2 _ _ hl) (g H locs lr hH hL hlr)
theorem mG_asN {ls' : List (Option Value)} {i : Nat} (C : mxC l Z X own cc nL) (hd : decode cc pc = .ok (.astore i, 2)) (hi : Nat.blt i nL = true) (hf : mxFree ls i = true) (hp : mxPut ls i (some .null) = ls') (g : mG l Z X nL k n (pc + 2) ls' st h) : mG l Z X nL k n pc ls (.null :: st) h := by
  subst hp
  obtain ⟨p, e, R, s, m, args, below, meth, c, Q⟩ := X
  intro H locs lr hH hL hlr
  exact lv_astoreN C.1 C.2.1 hd (hlr.has nL) (by simpa [Nat.blt_eq] using hi) rfl (fun ls' h' => g H locs ls' hH hL (hlr.put1 (v := .null) hf h'))
theorem mG_ifnullN {off : Int} {tgt : Nat} (C : mxC l Z X own cc nL) (hd : decode cc pc = .ok (.ifnull off, 3)) (ht : (pc : Int) + off = (tgt : Int)) (g : mG l Z X nL k n tgt ls st h) : mG l Z X nL k n pc ls (.null :: st) h := by
  obtain ⟨p, e, R, s, m, args, below, meth, c, Q⟩ := X
  intro H locs lr hH hL hlr
  exact lv_ifnullN C.1 C.2.1 hd ht (g H locs lr hH hL hlr)
theorem mG_ifnonnullN {off : Int} (C : mxC l Z X own cc nL) (hd : decode cc pc = .ok (.ifnonnull off, 3)) (g : mG l Z X nL k n (pc + 3) ls st h) : mG l Z X nL k n pc ls (.null :: st) h := by
  obtain ⟨p, e, R, s, m, args, below, meth, c, Q⟩ := X
  intro H locs lr hH hL hlr
  exact lv_ifnonnullN C.1 C.2.1 hd (g H locs lr hH hL hlr)
/-! longs -/
def mxUshr (x y : Int32) : Int32 := (x.toUInt32 >>> (y.toUInt32 &&& Int32.toUInt32 31)).toInt32
def mxLshr (x : Int64) (y : Int32) : Int64 := (x.toUInt64 >>> (y.toInt64.toUInt64 &&& Int64.toUInt64 63)).toInt64
theorem mG_iushr {x y : Int32} (C : mxC l Z X own cc nL) (hd : decode cc pc = .ok (.iushr, 1)) (g : mG l Z X nL k n (pc + 1) ls (.int (mxUshr x y) :: st) h) : mG l Z X nL k n pc ls (.int y :: .int x :: st) h := by
  obtain ⟨p, e, R, s, m, args, below, meth, c, Q⟩ := X
  intro H locs lr hH hL hlr
  exact lv_iushr C.1 C.2.1 hd rfl (g H locs lr hH hL hlr)
theorem mG_lushr {x : Int64} {y : Int32} (C : mxC l Z X own cc nL) (hd : decode cc pc = .ok (.lushr, 1)) (g : mG l Z X nL k n (pc + 1) ls (.long (mxLshr x y) :: st) h) : mG l Z X nL k n pc ls (.int y :: .long x :: st) h := by
  obtain ⟨p, e, R, s, m, args, below, meth, c, Q⟩ := X
  intro H locs lr hH hL hlr
  exact lv_lushr C.1 C.2.1 hd rfl (g H locs lr hH hL hlr)
theorem mG_lxor {x y : Int64} (C : mxC l Z X own cc nL) (hd : decode cc pc = .ok (.lxor, 1)) (g : mG l Z X nL k n (pc + 1) ls (.long (x ^^^ y) :: st) h) : mG l Z X nL k n pc ls (.long y :: .long x :: st) h := by
  obtain ⟨p, e, R, s, m, args, below, meth, c, Q⟩ := X
  intro H locs lr hH hL hlr
  exact lv_lxor C.1 C.2.1 hd (g H locs lr hH hL hlr)
theorem mG_ladd {x y : Int64} (C : mxC l Z X own cc nL) (hd : decode cc pc = .ok (.ladd, 1)) (g : mG l Z X nL k n (pc + 1) ls (.long (x + y) :: st) h) : mG l Z X nL k n pc ls (.long y :: .long x :: st) h := by
  obtain ⟨p, e, R, s, m, args, below, meth, c, Q⟩ := X
  intro H locs lr hH hL hlr
  exact lv_ladd C.1 C.2.1 hd (g H locs lr hH hL hlr)
theorem mG_lmul {x y : Int64} (C : mxC l Z X own cc nL) (hd : decode cc pc = .ok (.lmul, 1)) (g : mG l Z X nL k n (pc + 1) ls (.long (x * y) :: st) h) : mG l Z X nL k n pc ls (.long y :: .long x :: st) h := by
  obtain ⟨p, e, R, s, m, args, below, meth, c, Q⟩ := X
  intro H locs lr hH hL hlr
  exact lv_lmul C.1 C.2.1 hd (g H locs lr hH hL hlr)
def mxNzL (y : Int64) : Option Unit := if y = 0 then none else some ()
theorem mxNzL_some {y : Int64} {u : Unit} (h : mxNzL y = some u) : ¬ y = 0 := by
  intro q
  unfold mxNzL at h
  rw [if_pos q] at h
  cases h
theorem mG_lrem {x y : Int64} (C : mxC l Z X own cc nL) (hd : decode cc pc = .ok (.lrem, 1)) (hne : ¬ y = 0) (g : mG l Z X nL k n (pc + 1) ls (.long (x - x / y * y) :: st) h) : mG l Z X nL k n pc ls (.long y :: .long x :: st) h := by
  obtain ⟨p, e, R, s, m, args, below, meth, c, Q⟩ := X
  intro H locs lr hH hL hlr
  exact lv_lrem C.1 C.2.1 hd hne (g H locs lr hH hL hlr)
theorem mG_l2i {x : Int64} (C : mxC l Z X own cc nL) (hd : decode cc pc = .ok (.l2i, 1)) (g : mG l Z X nL k n (pc + 1) ls (.int x.toInt32 :: st) h) : mG l Z X nL k n pc ls (.long x :: st) h := by
  obtain ⟨p, e, R, s, m, args, below, meth, c, Q⟩ := X
  intro H locs lr hH hL hlr
  exact lv_l2i C.1 C.2.1 hd rfl (g H locs lr hH hL hlr)
theorem mG_ldc2 {i : Nat} {v : Int64} (C : mxC l Z X own cc nL) (hd : decode cc pc = .ok (.ldc2_w i, 3)) (hw : Cond.constantLong own i v ∈ mxAW) (g : mG l Z X nL k n (pc + 3) ls (.long v :: st) h) : mG l Z X nL k n pc ls st h := by
  obtain ⟨p, e, R, s, m, args, below, meth, c, Q⟩ := X
  intro H locs lr hH hL hlr
  exact lv_ldc2 C.1 C.2.1 C.2.2.2.1 (C.2.2.2.2.1 _ hw) hd (g H locs lr hH hL hlr)
theorem mG_lc {d : Fin 2} {v : Int64} (C : mxC l Z X own cc nL) (hd : decode cc pc = .ok (.lconst d, 1)) (hv : Int64.ofNat d.val = v) (g : mG l Z X nL k n (pc + 1) ls (.long v :: st) h) : mG l Z X nL k n pc ls st h := by
  subst hv; exact mG_lconst C hd g
theorem klc1 : Int64.ofNat 1 = 1 := by decide +kernel
def gJ (h : mxH) (a ci j : Nat) : Option Int64 := if a < h.2 ∧ (h.1 a).1 = ci then mxLg (h.1 a).2.2[j]? else none
def pJ (h : mxH) (a ci j : Nat) (x : Int64) : Option mxH := if a < h.2 ∧ (h.1 a).1 = ci then some (mxUp h a (ci, (h.1 a).2.1, (h.1 a).2.2.set j (.long x))) else none
theorem mG_getJ {idx ci j a : Nat} {ty : FieldType} {fin : Bool} {x : Int64} (C : mxC l Z X own cc nL) (hd : decode cc pc = .ok (.getfield idx, 3)) (hf : mxFld own idx ci j ty fin) (hv : gJ h a ci j = some x) (g : mG l Z X nL k n (pc + 3) ls (.long x :: st) h) : mG l Z X nL k n pc ls (.ref a :: st) h := by
  unfold gJ at hv
  split at hv
  · rename_i q; exact mG_getfield C hd hf q.1 q.2 (mxLg_some hv) g
  · cases hv
theorem mG_putJ {idx ci j a : Nat} {x : Int64} {h' : mxH} (C : mxC l Z X own cc nL) (hd : decode cc pc = .ok (.putfield idx, 3)) (hf : mxFld own idx ci j .long false) (hv : pJ h a ci j x = some h') (g : mG l Z X nL k n (pc + 3) ls st h') : mG l Z X nL k n pc ls (.long x :: .ref a :: st) h := by
  unfold pJ at hv
  split at hv
  · rename_i q
    obtain ⟨q1, q2⟩ := q
    cases hv
    subst q2
    exact mG_putfield C hd hf q1 rfl rfl rfl g
  · cases hv
/-! the answer is an array -/
theorem mG_areturn {x : Nat} {ty : FieldType} (C : mxC l Z X own cc nL) (E : mxEnd Z X (some (.array ty)) (.inl (some (.ref x))) h) (hd : decode cc pc = .ok (.areturn, 1)) (hk : k ≤ (mxRm X).cells ∧ n ≤ (mxRm X).slots) : mG l Z X nL k n pc ls [.ref x] h := by
  obtain ⟨p, e, R, s, m, args, below, meth, c, Q⟩ := X
  intro H locs lr hH hL hlr
  obtain ⟨hr, hQ, -⟩ := E
  subst hQ
  have hlocks : meth.locks = false := C.2.2.2.2.2.1
  exact W.widen hk.1 hk.2 (vx_ret (W.aret (v := .ref (mxTr Z x)) C.1 C.2.1 hr (Or.inr ⟨_, rfl⟩) (Or.inr ⟨_, rfl⟩) (fun t ht _ => ⟨_, rfl, rfl, by rw [ht]; exact hH⟩) hL hd))
/-! ends with the room by hypothesis -/
theorem mG_ar2 {x : Nat} {R0 : Room} {ty : FieldType} (C : mxC l Z X own cc nL) (E : mxEnd Z X (some (.array ty)) (.inl (some (.ref x))) h) (hX : mxRm X = R0) (hd : decode cc pc = .ok (.areturn, 1)) (hk : k ≤ R0.cells ∧ n ≤ R0.slots) : mG l Z X nL k n pc ls [.ref x] h := by
  subst hX
  exact mG_areturn C E hd hk
theorem mG_ir2 {x : Int32} {R0 : Room} (C : mxC l Z X own cc nL) (E : mxEnd Z X (some .int) (.inl (some (.int x))) h) (hX : mxRm X = R0) (hd : decode cc pc = .ok (.ireturn, 1)) (hk : k ≤ R0.cells ∧ n ≤ R0.slots) : mG l Z X nL k n pc ls [.int x] h := by
  subst hX
  exact mG_ireturn C E hd rfl hk
theorem mG_zr2 {x y : Int32} {R0 : Room} (C : mxC l Z X own cc nL) (hz : mxZ1 x = some y) (E : mxEnd Z X (some .boolean) (.inl (some (.int y))) h) (hX : mxRm X = R0) (hd : decode cc pc = .ok (.ireturn, 1)) (hk : k ≤ R0.cells ∧ n ≤ R0.slots) : mG l Z X nL k n pc ls [.int x] h := by
  subst hX
  obtain ⟨e, hn⟩ := mxZ1_some hz
  subst e
  exact mG_ireturn C E hd hn hk
theorem mG_vr2 {R0 : Room} (C : mxC l Z X own cc nL) (E : mxEnd Z X none (.inl none) h) (hX : mxRm X = R0) (hd : decode cc pc = .ok (.return_, 1)) (hk : k ≤ R0.cells ∧ n ≤ R0.slots) : mG l Z X nL k n pc ls [] h := by
  subst hX
  exact mG_return C E hd hk
/-- frames and locals of a call fit -/
def mxFit2 (R rm : Room) (nL : Nat) : Bool := decide (rm.frames + 1 ≤ R.frames) && decide (8 + (nL + 11) + rm.locals ≤ R.locals)
theorem mxFit2_of {R rm : Room} {nL : Nat} (h : mxFit2 R rm nL = true) : rm.frames + 1 ≤ R.frames ∧ 8 + (nL + 11) + rm.locals ≤ R.locals := by
  simp only [mxFit2, Bool.and_eq_true, decide_eq_true_eq] at h
  exact h
theorem mG_cS2 {idx k' n' : Nat} {y : MethodName} {cc' : ByteArray} {nL' : Nat} {ret : Option FieldType} {R0 rm : Room} (as rest : List Value) {h' : mxH} {v : Option Value}
    (C : mxC l Z X own cc nL) (hX : mxRm X = R0) (hd : decode cc pc = .ok (.invokestatic idx, 3)) (hlk : mxLkS own idx y cc' nL' ret as.length) (hs : st = as.reverse ++ rest) (hm : mxMet l Z y cc' nL' ret rm as h (.inl v) h') (hF : mxFit2 R0 rm nL' = true) (hk : k + rm.cells = k') (hn : n + rm.slots = n') (hr : k' ≤ R0.cells ∧ n' ≤ R0.slots) (hW : Nat.ble (rest.map fun v => v.category).sum 8 = true)
    (g : mG l Z X nL k' n' (pc + 3) ls (v.toList ++ rest) h') : mG l Z X nL k n pc ls st h := by
  subst hk; subst hn; subst hX
  exact mG_callS C hd hlk hs hm (mxFit2_of hF) hr (Nat.le_of_ble_eq_true hW) g
theorem mG_cV2 {idx k' n' : Nat} {y : MethodName} {cc' : ByteArray} {nL' : Nat} {ret : Option FieldType} {R0 rm : Room} (ci : Nat) {a : Nat} (as rest : List Value) {h' : mxH} {v : Option Value} {u : Unit}
    (C : mxC l Z X own cc nL) (hX : mxRm X = R0) (hd : decode cc pc = .ok (.invokevirtual idx, 3)) (hlk : mxLkV own idx y cc' nL' ret as.length) (hs : st = as.reverse ++ .ref a :: rest) (hrc : mxCl[ci]?.map (fun q => q.1) = some y.cls) (ho : isO h a ci = some u) (hm : mxMet l Z y cc' nL' ret rm (.ref a :: as) h (.inl v) h') (hF : mxFit2 R0 rm nL' = true) (hk : k + rm.cells = k') (hn : n + rm.slots = n') (hr : k' ≤ R0.cells ∧ n' ≤ R0.slots) (hW : Nat.ble (rest.map fun v => v.category).sum 8 = true)
    (g : mG l Z X nL k' n' (pc + 3) ls (v.toList ++ rest) h') : mG l Z X nL k n pc ls st h := by
  obtain ⟨o1, o2⟩ := isO_some ho
  subst hk; subst hn; subst hX
  exact mG_callV ci C hd hlk hs hrc o1 o2 hm (mxFit2_of hF) hr (Nat.le_of_ble_eq_true hW) g
theorem mG_cI2 {idx k' n' : Nat} {y : MethodName} {cc' : ByteArray} {nL' : Nat} {R0 rm : Room} {a : Nat} (as rest : List Value) {h' : mxH}
    (C : mxC l Z X own cc nL) (hX : mxRm X = R0) (hd : decode cc pc = .ok (.invokespecial idx, 3)) (hlk : mxLkI own idx y cc' nL' as.length) (hs : st = as.reverse ++ .ref a :: rest) (hm : mxMet l Z y cc' nL' none rm (.ref a :: as) h (.inl none) h') (hF : mxFit2 R0 rm nL' = true) (hk : k + rm.cells = k') (hn : n + rm.slots = n') (hr : k' ≤ R0.cells ∧ n' ≤ R0.slots) (hW : Nat.ble (rest.map fun v => v.category).sum 8 = true)
    (g : mG l Z X nL k' n' (pc + 3) ls rest h') : mG l Z X nL k n pc ls st h := by
  subst hk; subst hn; subst hX
  exact mG_callI C hd hlk hs hm (mxFit2_of hF) hr (Nat.le_of_ble_eq_true hW) g
theorem mG_mx2 {idx : Nat} {x y : Int32} {R0 : Room} (C : mxC l Z X own cc nL) (hX : mxRm X = R0) (hd : decode cc pc = .ok (.invokestatic idx, 3)) (hw : Cond.methodLink own idx Lib.Math.max.name ∈ mxAW) (hw2 : Cond.static Lib.Math.max.name ∈ mxAW ∧ Cond.initialized "java/lang/Math" ∈ mxAW ∧ Cond.code Lib.Math.max.name Lib.Math.max.code 2 (some .int) ∈ mxAW)
    (hF : mxFit2 R0 { frames := 0, cells := 0, slots := 0, locals := 0 } 2 = true) (hr : k ≤ R0.cells ∧ n ≤ R0.slots) (hW : Nat.ble (st.map fun v => v.category).sum 8 = true) (g : mG l Z X nL k n (pc + 3) ls (.int (mxMax x y) :: st) h) : mG l Z X nL k n pc ls (.int y :: .int x :: st) h := by
  have f1 := mxFit2_of hF
  have h9 := Nat.le_of_ble_eq_true hW
  subst hX
  exact mG_max C hd hw hw2 ⟨by simpa using f1.1, by have := f1.2; simp at this; omega⟩ hr g
theorem mG_mn2 {idx : Nat} {x y : Int32} {R0 : Room} (C : mxC l Z X own cc nL) (hX : mxRm X = R0) (hd : decode cc pc = .ok (.invokestatic idx, 3)) (hw : Cond.methodLink own idx Lib.Math.min.name ∈ mxAW) (hw2 : Cond.static Lib.Math.min.name ∈ mxAW ∧ Cond.initialized "java/lang/Math" ∈ mxAW ∧ Cond.code Lib.Math.min.name Lib.Math.min.code 2 (some .int) ∈ mxAW)
    (hF : mxFit2 R0 { frames := 0, cells := 0, slots := 0, locals := 0 } 2 = true) (hr : k ≤ R0.cells ∧ n ≤ R0.slots) (hW : Nat.ble (st.map fun v => v.category).sum 8 = true) (g : mG l Z X nL k n (pc + 3) ls (.int (mxMin x y) :: st) h) : mG l Z X nL k n pc ls (.int y :: .int x :: st) h := by
  have f1 := mxFit2_of hF
  have h9 := Nat.le_of_ble_eq_true hW
  subst hX
  exact mG_min C hd hw hw2 ⟨by simpa using f1.1, by have := f1.2; simp at this; omega⟩ hr g
theorem mG_oI2 {idx a : Nat} {R0 : Room} (C : mxC l Z X own cc nL) (hX : mxRm X = R0) (hd : decode cc pc = .ok (.invokespecial idx, 3)) (hw : Cond.methodLink own idx Lib.objectInit ∈ mxAW ∧ Cond.instanceMethod Lib.objectInit ∈ mxAW ∧ Cond.code Lib.objectInit ⟨#[0xb1]⟩ 1 none ∈ mxAW) (hF : mxFit2 R0 { frames := 0, cells := 0, slots := 0, locals := 0 } 2 = true) (hW : Nat.ble (st.map fun v => v.category).sum 8 = true) (g : mG l Z X nL k n (pc + 3) ls st h) : mG l Z X nL k n pc ls (.ref a :: st) h := by
  have f1 := mxFit2_of hF
  have h9 := Nat.le_of_ble_eq_true hW
  subst hX
  exact mG_objInit C hd hw ⟨by simpa using f1.1, by have := f1.2; simp at this; omega⟩ g
theorem mG_ac2 {idx a0 a : Nat} {sp dp x : Int32} {h' : mxH} {R0 : Room} (C : mxC l Z X own cc nL) (hX : mxRm X = R0) (hd : decode cc pc = .ok (.invokestatic idx, 3)) (hw : Cond.methodLink own idx arraycopyName ∈ mxAW) (hw2 : Cond.native arraycopyName ∈ mxAW ∧ Cond.static arraycopyName ∈ mxAW ∧ Cond.initialized "java/lang/System" ∈ mxAW) (hv : cpI h a0 sp a dp x = some h')
    (hF : mxFit2 R0 { frames := 0, cells := 0, slots := 0, locals := 20 } 2 = true) (hW : Nat.ble (st.map fun v => v.category).sum 8 = true) (g : mG l Z X nL k n (pc + 3) ls st h') : mG l Z X nL k n pc ls (.int x :: .int dp :: .ref a :: .int sp :: .ref a0 :: st) h := by
  have f1 := mxFit2_of hF
  have h9 := Nat.le_of_ble_eq_true hW
  have e : nativeFrameWords "java/lang/System" "arraycopy" 5 ≤ 20 := by decide +kernel
  subst hX
  exact mG_copy C hd hw hw2 hv ⟨by simpa using f1.1, by have := f1.2; simp at this; omega⟩ g
/-! what is new, the room by hypothesis -/
/-- an int array of a computed length, of at most B -/
def nwV (h : mxH) (x : Int32) (B : Nat) : Option mxH := if (h.1 h.2).1 = 300 ∧ ¬ x < 0 ∧ x.toNatClampNeg ≤ B then some (mxNew h (100, List.replicate x.toNatClampNeg 0, [])) else none
theorem mG_nwV {x : Int32} {B k' n' : Nat} {R0 : Room} {h' : mxH} (C : mxC l Z X own cc nL) (hX : mxRm X = R0) (hd : decode cc pc = .ok (.newarray .int, 2)) (hw : Cond.arrayClass .int ∈ mxAW) (hB : Nat.ble B 10000 = true) (hv : nwV h x B = some h') (hk : k + 1 = k') (hn : n + B = n') (hr : k' ≤ R0.cells ∧ n' ≤ R0.slots) (g : mG l Z X nL k' n' (pc + 2) ls (.ref h.2 :: st) h') : mG l Z X nL k n pc ls (.int x :: st) h := by
  unfold nwV at hv
  split at hv
  · rename_i q
    obtain ⟨hx, hx0, hxB⟩ := q
    cases hv
    subst hX; subst hk; subst hn
    have hB := Nat.le_of_ble_eq_true hB
    exact mG_newarray (t := 100) (N := x.toNatClampNeg) C hd rfl rfl hw hx0 rfl (by omega) rfl (by unfold mxCont; rw [if_pos (Or.inl rfl), List.map_replicate]; rfl) hx ⟨hr.1, by omega⟩ (mG_wd (Nat.le_refl _) (by omega) g)
  · cases hv
theorem mG_nwO2 {idx ci N k' n' : Nat} {fs : List Value} {R0 : Room} {h' : mxH} (C : mxC l Z X own cc nL) (hX : mxRm X = R0) (hd : decode cc pc = .ok (.new idx, 3)) (hm : mxMk own idx ci fs N) (hv : nwO h ci fs = some h') (hk : k + 1 = k') (hn : n + N = n') (hr : k' ≤ R0.cells ∧ n' ≤ R0.slots) (g : mG l Z X nL k' n' (pc + 3) ls (.ref h.2 :: st) h') : mG l Z X nL k n pc ls st h := by
  unfold nwO at hv
  split at hv
  · rename_i hx
    cases hv
    subst hX; subst hk; subst hn
    exact mG_new C hd hm hx hr g
  · cases hv
/-- int[n][] with null in it -/
def nwA (h : mxH) (n : Nat) : Option mxH := if (h.1 h.2).1 = 300 then some (mxNew h (103, [], List.replicate n .null)) else none
theorem mG_nwA {idx : Nat} {x : Int32} {N k' n' : Nat} {R0 : Room} {h' : mxH} (C : mxC l Z X own cc nL) (hX : mxRm X = R0) (hd : decode cc pc = .ok (.anewarray idx, 3)) (hw : Cond.classLink own idx (FieldType.array .int).toString ∈ mxAW) (hx0 : ¬ x < 0) (hN : x.toNatClampNeg = N) (hN2 : Nat.ble N 10000 = true) (hv : nwA h N = some h') (hk : k + 1 = k') (hn : n + N = n') (hr : k' ≤ R0.cells ∧ n' ≤ R0.slots) (g : mG l Z X nL k' n' (pc + 3) ls (.ref h.2 :: st) h') : mG l Z X nL k n pc ls (.int x :: st) h := by
  unfold nwA at hv
  split at hv
  · rename_i hx
    cases hv
    subst hX; subst hk; subst hn; subst hN
    have hN2 := Nat.le_of_ble_eq_true hN2
    obtain ⟨p, e, R, s, m, args, below, meth, c, Q⟩ := X
    intro H locs lr hH hL hlr
    have hts := C.2.2.2.2.1
    have hG := C.2.2.2.2.2.2.1
    refine W.anewA C.1 C.2.1 C.2.2.2.1 (hts _ hw) hG.2.2.2.2.2.2.2.2.2.2 rfl hd rfl hx0 (by omega) hr.1 hr.2 (fun cA kA comp h1 h2 h3 h4 => ?_)
    have hcA : cA = Z.2.2.2.2 103 := Option.some.inj (h1.symm.trans (hG.2.2.1 103 (by omega)).2)
    have hn := hH.next hx
    show W _ _ _ _ _ _ _ _ _ _ _ _ _ _ _ (F0 m (pc + 3) lr (.ref H.size :: st.map (mxSh Z)))
    rw [← hn]
    refine g _ locs lr (hH.push hx (cell := { cls := cA, slots := Array.replicate x.toNatClampNeg .null, vm := .none }) (by simp) ⟨fun q => absurd (show (103 : Nat) < 100 from q) (by omega), fun _ _ => ?_⟩ (by simp) (fun q hq => by rw [Array.getElem?_push, if_neg (Nat.ne_of_lt hq)])) hL hlr
    show _ = ({ cls := Z.2.2.2.2 103, slots := ((mxCont (103, [], List.replicate x.toNatClampNeg .null)).map (mxSh Z)).toArray, vm := .none } : Cell)
    rw [hcA]
    congr 1
    unfold mxCont
    rw [if_neg (by omega), List.map_replicate]
    simp [mxSh]
  · cases hv
/-- an int[] into an int[][] -/
def stA (h : mxH) (a : Nat) (i : Int32) (r : Nat) : Option mxH := if (a < h.2 ∧ 2 ≤ a) ∧ ((h.1 a).1 = 103 ∧ r < h.2 ∧ (h.1 r).1 = 100) ∧ ¬ i < 0 ∧ i.toNatClampNeg < (h.1 a).2.2.length then some (mxUp h a (103, (h.1 a).2.1, (h.1 a).2.2.set i.toNatClampNeg (.ref r))) else none
theorem mx_self (vm : Vm) (c : ClassId) : vm.assignable c c = true := by
  show vm.assignableAux (255 + 1) c c = true
  rw [Vm.assignableAux]
  simp only [beq_self_eq_true, Bool.true_or]
theorem mG_aastA {a r : Nat} {i : Int32} {h' : mxH} (C : mxC l Z X own cc nL) (hd : decode cc pc = .ok (.aastore, 1)) (hv : stA h a i r = some h') (g : mG l Z X nL k n (pc + 1) ls st h') : mG l Z X nL k n pc ls (.ref r :: .int i :: .ref a :: st) h := by
  obtain ⟨p, e, R, s, m, args, below, meth, c, Q⟩ := X
  intro H locs lr hH hL hlr
  unfold stA at hv
  split at hv
  · rename_i hq
    obtain ⟨⟨hlt, h2⟩, ⟨hc, hrl, hr8⟩, hi, hb⟩ := hq
    cases hv
    have hG := C.2.2.2.2.2.2.1
    obtain ⟨cell, c1, c2, c3, c4, c5⟩ := hH.arr hG (Or.inl hlt) hc (by omega)
    have hco : mxCont (h.1 a) = (h.1 a).2.2 := by unfold mxCont; rw [if_neg (by omega)]
    have hcell := c5 hlt
    obtain ⟨cv, v1, v2, v3, v4, v5⟩ := hH.arr hG (Or.inl hrl) hr8 (by omega)
    have hcv := v5 hrl
    obtain ⟨comp, cA, kA, hcomp, hidx, hkA, hkindA, hnameA⟩ := arrayOverA_spec hG.2.2.2.2.2.2.2.2.2.2
    have e1 : cA = Z.2.2.2.2 103 := Option.some.inj (hnameA.symm.trans (hG.2.2.1 103 (by omega)).2)
    have e2 : comp = Z.2.2.2.2 100 := Option.some.inj (hcomp.symm.trans (hG.2.2.1 100 (by omega)).2)
    subst e1; subst e2
    obtain ⟨kC, hkC, -⟩ := Vm.findClass_spec hcomp
    refine W.aast C.1 C.2.1 c1 (fun q h => by rw [hcell] at h; cases h) c3 (by rw [hcell]; exact hkA) hkindA rfl hkC ⟨hi, ?_⟩ v1 (fun q h => by rw [hcv] at h; cases h) (by rw [hcv]; exact hkC) (by rw [hcv]; exact mx_self _ _) rfl rfl hd (fun H' e1 e2 e3 => g H' _ lr (hH.put hlt e1 (mx_put_arr (v := .ref r) (L := mxCont (h.1 a)) (by omega) hcell ?_) e2 e3) ?_ hlr)
    · rw [c4, hco]; simpa using hb
    · rw [hco]; unfold mxCont; rw [if_neg (by omega)]
    · intro z hz
      rcases List.mem_append.mp hz with hz | hz
      · exact hL z hz
      · rw [List.mem_singleton.mp hz]; exact mxTr_ge (hH.lt hlt)
  · cases hv
end MG14
/-- a call that does not throw -/
def mxOk {α : Type} (o : Option ((α ⊕ String) × mxH)) : Option (α × mxH) := match o with
  | some (.inl v, h) => some (v, h)
  | _ => none
theorem mxOk_some {α : Type} {o : Option ((α ⊕ String) × mxH)} {p : α × mxH} (h : mxOk o = some p) : o = some (.inl p.1, p.2) := by
  cases o with
  | none => cases h
  | some q =>
    obtain ⟨v | E, h1⟩ := q
    · cases h; rfl
    · cases h
theorem mxLoop_indN {σ ρ : Type} {f : σ → Option (σ ⊕ ρ)} {r : ρ} {K : Nat → σ → Prop} (step : ∀ (n : Nat) (s : σ) (o : σ ⊕ ρ), f s = some o → (∀ s', o = .inl s' → K n s') → (∀ r', o = .inr r' → r' = r) → K (n + 1) s) : ∀ (n : Nat) (s : σ), mxLoop f n s = some r → K n s := by
  intro n
  induction n with
  | zero => intro s h; cases h
  | succ n ih =>
    intro s h
    unfold mxLoop at h
    cases hf : f s with
    | none => rw [hf] at h; cases h
    | some o =>
      rw [hf] at h
      cases o with
      | inl s' => exact step n s _ hf (fun s2 e => by cases e; exact ih s' h) (fun r' e => by cases e)
      | inr r' => exact step n s _ hf (fun s2 e => by cases e) (fun r2 e => by cases e; exact Option.some.inj h)
