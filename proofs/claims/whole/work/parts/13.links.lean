/-! the mini machine: the last rows, and what the walks' calls and fields rest on (printed by wip/gen/emit.py) -/
theorem wmax : Cond.static Lib.Math.max.name ∈ mxAW ∧ Cond.initialized "java/lang/Math" ∈ mxAW ∧ Cond.code Lib.Math.max.name Lib.Math.max.code 2 (some .int) ∈ mxAW := ⟨by decide +kernel, by decide +kernel, by decide +kernel⟩
theorem wmin : Cond.static Lib.Math.min.name ∈ mxAW ∧ Cond.initialized "java/lang/Math" ∈ mxAW ∧ Cond.code Lib.Math.min.name Lib.Math.min.code 2 (some .int) ∈ mxAW := ⟨by decide +kernel, by decide +kernel, by decide +kernel⟩
theorem wac : Cond.native arraycopyName ∈ mxAW ∧ Cond.static arraycopyName ∈ mxAW ∧ Cond.initialized "java/lang/System" ∈ mxAW := ⟨by decide +kernel, by decide +kernel, by decide +kernel⟩
theorem tx312 : (312, "there is no such row") ∈ mxTx := by decide +kernel
theorem tx318 : (318, "there is no such thing") ∈ mxTx := by decide +kernel
theorem tx322 : (322, "an argument is out of range") ∈ mxTx := by decide +kernel
theorem tx326 : (326, "there is none") ∈ mxTx := by decide +kernel
theorem tx320 : (320, "there is no such place or rank") ∈ mxTx := by decide +kernel
theorem tx218 : (218, "both rows are the same") ∈ mxTx := by decide +kernel
/-- a quotient that is a number -/
def mxDdiv (x y : UInt64) : Option UInt64 := if (FP.ddiv x y) &&& 0x7fffffffffffffff ≤ 0x7ff0000000000000 then some (FP.ddiv x y) else none
def mxFdiv (x y : UInt32) : Option UInt32 := if (FP.fdiv x y) &&& 0x7fffffff ≤ 0x7f800000 then some (FP.fdiv x y) else none
section MG9
variable {l : Launch} {Z : mxZ} {X : mxX} {own : String} {cc : ByteArray} {nL k n pc : Nat} {ls : List (Option Value)} {st : List Value} {h : mxH}
theorem mG_ddivv {x y r : UInt64} (C : mxC l Z X own cc nL) (hd : decode cc pc = .ok (.ddiv, 1)) (hv : mxDdiv x y = some r) (g : mG l Z X nL k n (pc + 1) ls (.double r :: st) h) : mG l Z X nL k n pc ls (.double y :: .double x :: st) h := by
  unfold mxDdiv at hv
  split at hv
  · rename_i q
    cases hv
    exact mG_ddiv C hd q g
  · cases hv
theorem mG_fdivv {x y r : UInt32} (C : mxC l Z X own cc nL) (hd : decode cc pc = .ok (.fdiv, 1)) (hv : mxFdiv x y = some r) (g : mG l Z X nL k n (pc + 1) ls (.float r :: st) h) : mG l Z X nL k n pc ls (.float y :: .float x :: st) h := by
  unfold mxFdiv at hv
  split at hv
  · rename_i q
    cases hv
    exact mG_fdiv C hd q g
  · cases hv
theorem mG_ldcfw {i : Nat} {v : UInt32} (C : mxC l Z X own cc nL) (hd : decode cc pc = .ok (.ldc_w i, 3)) (hw : Cond.constantFloat own i v ∈ mxAW) (g : mG l Z X nL k n (pc + 3) ls (.float v :: st) h) : mG l Z X nL k n pc ls st h := by
  obtain ⟨p, e, R, s, m, args, below, meth, c, Q⟩ := X
  intro H locs lr hH hL hlr
  intro T hT Xs
  obtain ⟨t, a1, b1⟩ := g H locs lr hH hL hlr T hT Xs
  refine ⟨t, ?_, b1⟩
  obtain ⟨k1, cf, hk1, hcf, hcp⟩ := Cond.constantFloat_spec C.2.2.2.1 (C.2.2.2.2.1 _ hw)
  obtain ⟨k', hk', he⟩ := Xs.warmed.alike.2.2 _ _ hk1
  have hx : p.tables.exec = Jvm.exec := C.1
  have hb : c.code = cc := C.2.1
  jvm_step Xs.here [hx, hb, hd, ldc_w.wp_float (s := T) (f := F0 m pc lr (st.map (mxSh Z))) Xs.here.top hk' (by rw [he]; exact hcf) hcp]
  exact a1
theorem mG_thn {E text : String} {ik is ic : Nat} {R0 : Room} {ret : Option FieldType} (C : mxC l Z X RX9 cc nL) (En : mxEnd Z X ret (.inr E) (mxThr h)) (hX : mxRm X = R0) (hT : mxThw E ik ic) (hx : (is, text) ∈ mxTx)
    (d0 : decode cc pc = .ok (.new ik, 3)) (d3 : decode cc (pc + 3) = .ok (.dup, 1)) (d4 : decode cc (pc + 4) = .ok (.ldc is, 2)) (d6 : decode cc (pc + 6) = .ok (.invokespecial ic, 3)) (d9 : decode cc (pc + 9) = .ok (.athrow, 1))
    (hF : mxFit R0 { frames := 5, cells := 1, slots := 6, locals := 80 } 2 k n = true) (hW : Nat.ble (st.map fun v => v.category).sum 8 = true) : mG l Z X nL k n pc ls st h := by
  obtain ⟨f1, hk⟩ := mxFit_of hF
  have h9 := Nat.le_of_ble_eq_true hW
  subst hX
  obtain ⟨p, e, R, s, m, args, below, meth, c, Q⟩ := X
  intro H locs lr hH hL hlr
  obtain ⟨hr, hQ, htab⟩ := En
  subst hQ
  obtain ⟨t1, t2, t3, t4, t5⟩ := hT
  have hG := C.2.2.2.2.2.2.1
  have hts := C.2.2.2.2.1
  have hold := C.2.2.2.2.2.2.2.1
  obtain ⟨sa, hsa⟩ := hG.2.2.2.2.2.2.2.1 (is, text) hx
  have hq : ∀ a : Nat, a < Z.2.1.size → ¬ (fun q => Z.2.1.size ≤ q) a → s.heap[a]? = Z.2.1[a]? := fun a ha _ => hold.2 a ha
  intro T hT Xs
  have hS : va_S (fun q => Z.2.1.size ≤ q) s.heap H locs := by
    refine ⟨by rw [← hT]; exact Xs.heapGrown, fun q _ hq2 => ?_, hL⟩
    have hlt : q < Z.2.1.size := Nat.not_le.mp hq2
    rw [hH.2.2.1 q hlt, hold.2 q hlt]
  have hcat : ((st.map (mxSh Z)).map fun v => v.category).sum = (st.map fun v => v.category).sum := by
    rw [List.map_map, show ((fun v : Value => v.category) ∘ mxSh Z) = (fun v => v.category) from funext (mxSh_cat Z)]
  exact vx_throwS C.1 C.2.1 C.2.2.2.2.2.2.2.2 C.2.2.2.1 t1 mx_fits (hts _ t2) (hts _ t3) hsa
    (fun w hw => (t4 w hw).elim (fun q => hts w q) (fun q => va_Nw.use (mxNW_on w q) (hG.1 w q))) t5
    (hG.2.2.2.2.2.2.1.1.kept hq) (hG.2.2.2.2.2.2.1.2.kept hq) hS (hlr.1.trans C.2.2.1.symm) d0 d3 d4 d6 d9 (fun x hx => (htab x hx).elim) (by have := f1.1; simp [mxRm] at this; show 2 + 3 < R.frames; omega) (by have := f1.2; simp [mxRm] at this; rw [hcat]; show _ + 82 ≤ R.locals; omega) hk.1 hk.2 C.2.2.2.2.2.1
    (fun t _ h1 h2 => ⟨rfl, hH.thr h1 h2⟩) hL hk.1 hk.2 T hT Xs
end MG9
set_option maxRecDepth 20000
theorem oi_X2_3 : Cond.methodLink RX2 3 Lib.objectInit ∈ mxAW ∧ Cond.instanceMethod Lib.objectInit ∈ mxAW ∧ Cond.code Lib.objectInit ⟨#[0xb1]⟩ 1 none ∈ mxAW := ⟨(by decide +kernel), (by decide +kernel), (by decide +kernel)⟩
theorem kB10 : (Int8.ofInt (10)).toInt32 = 10 := by decide +kernel
theorem oi_X6_3 : Cond.methodLink RX6 3 Lib.objectInit ∈ mxAW ∧ Cond.instanceMethod Lib.objectInit ∈ mxAW ∧ Cond.code Lib.objectInit ⟨#[0xb1]⟩ 1 none ∈ mxAW := ⟨(by decide +kernel), (by decide +kernel), (by decide +kernel)⟩
theorem kI5 : Int32.ofInt (5) = 5 := by decide +kernel
theorem kB20 : (Int8.ofInt (20)).toInt32 = 20 := by decide +kernel
theorem oi_X7_1 : Cond.methodLink RX7 1 Lib.objectInit ∈ mxAW ∧ Cond.instanceMethod Lib.objectInit ∈ mxAW ∧ Cond.code Lib.objectInit ⟨#[0xb1]⟩ 1 none ∈ mxAW := ⟨(by decide +kernel), (by decide +kernel), (by decide +kernel)⟩
theorem oi_X0_3 : Cond.methodLink RX0 3 Lib.objectInit ∈ mxAW ∧ Cond.instanceMethod Lib.objectInit ∈ mxAW ∧ Cond.code Lib.objectInit ⟨#[0xb1]⟩ 1 none ∈ mxAW := ⟨(by decide +kernel), (by decide +kernel), (by decide +kernel)⟩
theorem kB8 : (Int8.ofInt (8)).toInt32 = 8 := by decide +kernel
theorem fl_X2_9 : mxFld RX2 9 2 0 (.array .int) true := ⟨RX2, TX2, 9, rfl, by decide, by decide +kernel, rfl, Or.inl (by decide +kernel)⟩
theorem kI0 : Int32.ofInt (0) = 0 := by decide +kernel
theorem acp_X2_40 : Cond.methodLink RX2 40 arraycopyName ∈ mxAW := (by decide +kernel)
theorem fl_X2_15 : mxFld RX2 15 2 1 (.int) false := ⟨RX2, TX2, 9, rfl, by decide, by decide +kernel, rfl, Or.inl (by decide +kernel)⟩
theorem fl_X2_19 : mxFld RX2 19 2 2 (.int) false := ⟨RX2, TX2, 9, rfl, by decide, by decide +kernel, rfl, Or.inl (by decide +kernel)⟩
theorem fl_X2_22 : mxFld RX2 22 2 3 (.array .int) true := ⟨RX2, TX2, 9, rfl, by decide, by decide +kernel, rfl, Or.inl (by decide +kernel)⟩
theorem kB100 : (Int8.ofInt (100)).toInt32 = 100 := by decide +kernel
theorem fl_X2_25 : mxFld RX2 25 2 4 (.int) false := ⟨RX2, TX2, 9, rfl, by decide, by decide +kernel, rfl, Or.inl (by decide +kernel)⟩
theorem fl_X2_28 : mxFld RX2 28 2 5 (.int) false := ⟨RX2, TX2, 9, rfl, by decide, by decide +kernel, rfl, Or.inl (by decide +kernel)⟩
theorem fl_X2_31 : mxFld RX2 31 2 6 (.array .int) true := ⟨RX2, TX2, 9, rfl, by decide, by decide +kernel, rfl, Or.inl (by decide +kernel)⟩
theorem kI4 : Int32.ofInt (4) = 4 := by decide +kernel
theorem fl_X2_34 : mxFld RX2 34 2 7 (.array .int) true := ⟨RX2, TX2, 9, rfl, by decide, by decide +kernel, rfl, Or.inl (by decide +kernel)⟩
theorem fl_X2_37 : mxFld RX2 37 2 8 (.int) false := ⟨RX2, TX2, 9, rfl, by decide, by decide +kernel, rfl, Or.inl (by decide +kernel)⟩
theorem fl_X6_29 : mxFld RX6 29 6 5 (.array .int) true := ⟨RX6, TX6, 8, rfl, by decide, by decide +kernel, rfl, Or.inl (by decide +kernel)⟩
theorem fl_X6_32 : mxFld RX6 32 6 6 (.int) false := ⟨RX6, TX6, 8, rfl, by decide, by decide +kernel, rfl, Or.inl (by decide +kernel)⟩
theorem fl_X6_11 : mxFld RX6 11 6 0 (.array (.array .int)) true := ⟨RX6, TX6, 8, rfl, by decide, by decide +kernel, rfl, Or.inl (by decide +kernel)⟩
theorem fl_X6_19 : mxFld RX6 19 6 2 (.array (.array .int)) true := ⟨RX6, TX6, 8, rfl, by decide, by decide +kernel, rfl, Or.inl (by decide +kernel)⟩
theorem fl_X6_16 : mxFld RX6 16 6 1 (.array (.array .int)) true := ⟨RX6, TX6, 8, rfl, by decide, by decide +kernel, rfl, Or.inl (by decide +kernel)⟩
theorem fl_X6_22 : mxFld RX6 22 6 3 (.array .int) true := ⟨RX6, TX6, 8, rfl, by decide, by decide +kernel, rfl, Or.inl (by decide +kernel)⟩
theorem fl_X6_26 : mxFld RX6 26 6 4 (.array .int) true := ⟨RX6, TX6, 8, rfl, by decide, by decide +kernel, rfl, Or.inl (by decide +kernel)⟩
theorem acp_X6_39 : Cond.methodLink RX6 39 arraycopyName ∈ mxAW := (by decide +kernel)
theorem kinc1 (x : Int32) : x + Int32.ofInt 1 = x + 1 := rfl
theorem fl_X7_10 : mxFld RX7 10 7 0 (.object "ToplistHouse$Rows") true := ⟨RX7, TX7, 4, rfl, by decide, by decide +kernel, rfl, Or.inl (by decide +kernel)⟩
theorem lkV_X7_30 : mxLkV RX7 30 yX6_copyFrom cX6_copyFrom 3 (none) 1 := ⟨Or.inr ⟨"ToplistHouse", (by decide +kernel)⟩, ⟨(by decide +kernel), (by decide +kernel)⟩, (by decide +kernel), (by decide +kernel), by decide, by decide, by decide +kernel⟩
theorem fl_X7_19 : mxFld RX7 19 7 1 (.object "ToplistHouse$Numbers") true := ⟨RX7, TX7, 4, rfl, by decide, by decide +kernel, rfl, Or.inl (by decide +kernel)⟩
theorem lkV_X7_34 : mxLkV RX7 34 yX2_copyFrom cX2_copyFrom 2 (none) 1 := ⟨Or.inr ⟨"ToplistHouse", (by decide +kernel)⟩, ⟨(by decide +kernel), (by decide +kernel)⟩, (by decide +kernel), (by decide +kernel), by decide, by decide, by decide +kernel⟩
theorem fl_X7_23 : mxFld RX7 23 7 2 (.int) false := ⟨RX7, TX7, 4, rfl, by decide, by decide +kernel, rfl, Or.inl (by decide +kernel)⟩
theorem fl_X7_27 : mxFld RX7 27 7 3 (.int) false := ⟨RX7, TX7, 4, rfl, by decide, by decide +kernel, rfl, Or.inl (by decide +kernel)⟩
theorem fl_X0_11 : mxFld RX0 11 0 0 (.array (.object "ToplistHouse$State")) true := ⟨RX0, TX0, 2, rfl, by decide, by decide +kernel, rfl, Or.inl (by decide +kernel)⟩
theorem kB7 : (Int8.ofInt (7)).toInt32 = 7 := by decide +kernel
theorem fl_X0_17 : mxFld RX0 17 0 1 (.int) false := ⟨RX0, TX0, 2, rfl, by decide, by decide +kernel, rfl, Or.inl (by decide +kernel)⟩
theorem kI1 : Int32.ofInt (1) = 1 := by decide +kernel
theorem kincm1 (x : Int32) : x + Int32.ofInt (-1) = x - 1 := by rw [Int32.sub_eq_add_neg]; rfl
theorem lkV_X0_22 : mxLkV RX0 22 yX7_copyFrom cX7_copyFrom 2 (none) 1 := ⟨Or.inr ⟨"ToplistHouse", (by decide +kernel)⟩, ⟨(by decide +kernel), (by decide +kernel)⟩, (by decide +kernel), (by decide +kernel), by decide, by decide, by decide +kernel⟩
theorem mnn_X0_26 : Cond.methodLink RX0 26 Lib.Math.min.name ∈ mxAW := (by decide +kernel)
theorem kIm1 : Int32.ofInt (-1) = (-1) := by decide +kernel
theorem oi_X1_3 : Cond.methodLink RX1 3 Lib.objectInit ∈ mxAW ∧ Cond.instanceMethod Lib.objectInit ∈ mxAW ∧ Cond.code Lib.objectInit ⟨#[0xb1]⟩ 1 none ∈ mxAW := ⟨(by decide +kernel), (by decide +kernel), (by decide +kernel)⟩
theorem lkS_X6_45 : mxLkS RX6 45 yX9_isRow cX9_isRow 1 (some .boolean) 1 := ⟨Or.inr ⟨"ToplistHouse", (by decide +kernel)⟩, (by decide +kernel), (by decide +kernel), (by decide +kernel), by decide, by decide, by decide +kernel⟩
theorem lkS_X6_49 : mxLkS RX6 49 yX9_isThing cX9_isThing 1 (some .boolean) 1 := ⟨Or.inr ⟨"ToplistHouse", (by decide +kernel)⟩, (by decide +kernel), (by decide +kernel), (by decide +kernel), by decide, by decide, by decide +kernel⟩
theorem lkV_X6_75 : mxLkV RX6 75 yX6_thingOn cX6_thingOn 3 (some .int) 2 := ⟨Or.inl (by decide +kernel), ⟨(by decide +kernel), (by decide +kernel)⟩, (by decide +kernel), (by decide +kernel), by decide, by decide, by decide +kernel⟩
theorem lkV_X6_78 : mxLkV RX6 78 yX6_markOf cX6_markOf 3 (some .int) 2 := ⟨Or.inl (by decide +kernel), ⟨(by decide +kernel), (by decide +kernel)⟩, (by decide +kernel), (by decide +kernel), by decide, by decide, by decide +kernel⟩
theorem fl_X1_22 : mxFld RX1 22 1 3 (.array .int) true := ⟨RX1, TX1, 4, rfl, by decide, by decide +kernel, rfl, Or.inl (by decide +kernel)⟩
theorem lkV_X1_45 : mxLkV RX1 45 yX6_markOn cX6_markOn 3 (some .int) 2 := ⟨Or.inr ⟨"ToplistHouse", (by decide +kernel)⟩, ⟨(by decide +kernel), (by decide +kernel)⟩, (by decide +kernel), (by decide +kernel), by decide, by decide, by decide +kernel⟩
theorem lkS_X1_25 : mxLkS RX1 25 yJ7_fill_53178 cJ7_fill_53178 4 (none) 2 := ⟨Or.inl (by decide +kernel), (by decide +kernel), (by decide +kernel), (by decide +kernel), by decide, by decide, by decide +kernel⟩
theorem fl_X1_18 : mxFld RX1 18 1 2 (.int) false := ⟨RX1, TX1, 4, rfl, by decide, by decide +kernel, rfl, Or.inl (by decide +kernel)⟩
theorem fl_X1_9 : mxFld RX1 9 1 0 (.array .int) true := ⟨RX1, TX1, 4, rfl, by decide, by decide +kernel, rfl, Or.inl (by decide +kernel)⟩
theorem fl_X1_15 : mxFld RX1 15 1 1 (.array .int) true := ⟨RX1, TX1, 4, rfl, by decide, by decide +kernel, rfl, Or.inl (by decide +kernel)⟩
theorem lkV_X1_31 : mxLkV RX1 31 yX1_rowAhead cX1_rowAhead 6 (some .int) 1 := ⟨Or.inl (by decide +kernel), ⟨(by decide +kernel), (by decide +kernel)⟩, (by decide +kernel), (by decide +kernel), by decide, by decide, by decide +kernel⟩
theorem lkS_X1_35 : mxLkS RX1 35 yX9_isRow cX9_isRow 1 (some .boolean) 1 := ⟨Or.inr ⟨"ToplistHouse", (by decide +kernel)⟩, (by decide +kernel), (by decide +kernel), (by decide +kernel), by decide, by decide, by decide +kernel⟩
theorem lkV_X1_39 : mxLkV RX1 39 yX6_thingOn cX6_thingOn 3 (some .int) 2 := ⟨Or.inr ⟨"ToplistHouse", (by decide +kernel)⟩, ⟨(by decide +kernel), (by decide +kernel)⟩, (by decide +kernel), (by decide +kernel), by decide, by decide, by decide +kernel⟩
theorem lkV_X1_59 : mxLkV RX1 59 yX1_rowOn cX1_rowOn 2 (some .int) 1 := ⟨Or.inl (by decide +kernel), ⟨(by decide +kernel), (by decide +kernel)⟩, (by decide +kernel), (by decide +kernel), by decide, by decide, by decide +kernel⟩
theorem lkV_X1_55 : mxLkV RX1 55 yX1_isAmong cX1_isAmong 4 (some .boolean) 2 := ⟨Or.inl (by decide +kernel), ⟨(by decide +kernel), (by decide +kernel)⟩, (by decide +kernel), (by decide +kernel), by decide, by decide, by decide +kernel⟩
theorem lkV_X1_51 : mxLkV RX1 51 yX1_countItems cX1_countItems 4 (some .int) 1 := ⟨Or.inl (by decide +kernel), ⟨(by decide +kernel), (by decide +kernel)⟩, (by decide +kernel), (by decide +kernel), by decide, by decide, by decide +kernel⟩
theorem kI2 : Int32.ofInt (2) = 2 := by decide +kernel
theorem lkV_X1_48 : mxLkV RX1 48 yX1_countComparisons cX1_countComparisons 7 (some .int) 2 := ⟨Or.inl (by decide +kernel), ⟨(by decide +kernel), (by decide +kernel)⟩, (by decide +kernel), (by decide +kernel), by decide, by decide, by decide +kernel⟩
theorem kI3 : Int32.ofInt (3) = 3 := by decide +kernel
theorem kB12 : (Int8.ofInt (12)).toInt32 = 12 := by decide +kernel
theorem kB15 : (Int8.ofInt (15)).toInt32 = 15 := by decide +kernel
theorem kB16 : (Int8.ofInt (16)).toInt32 = 16 := by decide +kernel
theorem lkV_X1_66 : mxLkV RX1 66 yX1_thingOn cX1_thingOn 2 (some .int) 1 := ⟨Or.inl (by decide +kernel), ⟨(by decide +kernel), (by decide +kernel)⟩, (by decide +kernel), (by decide +kernel), by decide, by decide, by decide +kernel⟩
theorem lkV_X1_68 : mxLkV RX1 68 yX6_markOf cX6_markOf 3 (some .int) 2 := ⟨Or.inr ⟨"ToplistHouse", (by decide +kernel)⟩, ⟨(by decide +kernel), (by decide +kernel)⟩, (by decide +kernel), (by decide +kernel), by decide, by decide, by decide +kernel⟩
theorem lkV_X1_62 : mxLkV RX1 62 yX1_isAhead cX1_isAhead 6 (some .boolean) 3 := ⟨Or.inl (by decide +kernel), ⟨(by decide +kernel), (by decide +kernel)⟩, (by decide +kernel), (by decide +kernel), by decide, by decide, by decide +kernel⟩
theorem lkS_X2_46 : mxLkS RX2 46 yJ7_fill_53178 cJ7_fill_53178 4 (none) 2 := ⟨Or.inl (by decide +kernel), (by decide +kernel), (by decide +kernel), (by decide +kernel), by decide, by decide, by decide +kernel⟩
theorem kB99 : (Int8.ofInt (99)).toInt32 = 99 := by decide +kernel
theorem lkV_X2_64 : mxLkV RX2 64 yX2_counterOf cX2_counterOf 3 (some .int) 1 := ⟨Or.inl (by decide +kernel), ⟨(by decide +kernel), (by decide +kernel)⟩, (by decide +kernel), (by decide +kernel), by decide, by decide, by decide +kernel⟩
theorem lkV_X2_68 : mxLkV RX2 68 yX2_countAllLess cX2_countAllLess 2 (none) 0 := ⟨Or.inl (by decide +kernel), ⟨(by decide +kernel), (by decide +kernel)⟩, (by decide +kernel), (by decide +kernel), by decide, by decide, by decide +kernel⟩
theorem lkV_X2_52 : mxLkV RX2 52 yX2_dropOldest cX2_dropOldest 3 (some .int) 0 := ⟨Or.inl (by decide +kernel), ⟨(by decide +kernel), (by decide +kernel)⟩, (by decide +kernel), (by decide +kernel), by decide, by decide, by decide +kernel⟩
theorem lkS_X2_56 : mxLkS RX2 56 yX2_isNumber cX2_isNumber 1 (some .boolean) 1 := ⟨Or.inl (by decide +kernel), (by decide +kernel), (by decide +kernel), (by decide +kernel), by decide, by decide, by decide +kernel⟩
theorem lkV_X2_60 : mxLkV RX2 60 yX2_tally cX2_tally 3 (none) 1 := ⟨Or.inl (by decide +kernel), ⟨(by decide +kernel), (by decide +kernel)⟩, (by decide +kernel), (by decide +kernel), by decide, by decide, by decide +kernel⟩
theorem lkV_X2_71 : mxLkV RX2 71 yX2_rankInWindow cX2_rankInWindow 4 (some .int) 1 := ⟨Or.inl (by decide +kernel), ⟨(by decide +kernel), (by decide +kernel)⟩, (by decide +kernel), (by decide +kernel), by decide, by decide, by decide +kernel⟩
theorem lkV_X2_74 : mxLkV RX2 74 yX2_isFirstOfItsKind cX2_isFirstOfItsKind 3 (some .boolean) 1 := ⟨Or.inl (by decide +kernel), ⟨(by decide +kernel), (by decide +kernel)⟩, (by decide +kernel), (by decide +kernel), by decide, by decide, by decide +kernel⟩
theorem oi_X3_3 : Cond.methodLink RX3 3 Lib.objectInit ∈ mxAW ∧ Cond.instanceMethod Lib.objectInit ∈ mxAW ∧ Cond.code Lib.objectInit ⟨#[0xb1]⟩ 1 none ∈ mxAW := ⟨(by decide +kernel), (by decide +kernel), (by decide +kernel)⟩
theorem kS199 : (Int16.ofInt (199)).toInt32 = 199 := by decide +kernel
theorem fl_X3_9 : mxFld RX3 9 3 0 (.array .int) true := ⟨RX3, TX3, 4, rfl, by decide, by decide +kernel, rfl, Or.inl (by decide +kernel)⟩
theorem lkS_X3_33 : mxLkS RX3 33 yJ7_fill_53178 cJ7_fill_53178 4 (none) 2 := ⟨Or.inl (by decide +kernel), (by decide +kernel), (by decide +kernel), (by decide +kernel), by decide, by decide, by decide +kernel⟩
theorem lkV_X3_39 : mxLkV RX3 39 yX6_sizeOf cX6_sizeOf 2 (some .int) 1 := ⟨Or.inr ⟨"ToplistHouse", (by decide +kernel)⟩, ⟨(by decide +kernel), (by decide +kernel)⟩, (by decide +kernel), (by decide +kernel), by decide, by decide, by decide +kernel⟩
theorem lkV_X3_45 : mxLkV RX3 45 yX6_markOn cX6_markOn 3 (some .int) 2 := ⟨Or.inr ⟨"ToplistHouse", (by decide +kernel)⟩, ⟨(by decide +kernel), (by decide +kernel)⟩, (by decide +kernel), (by decide +kernel), by decide, by decide, by decide +kernel⟩
theorem fl_X3_15 : mxFld RX3 15 3 1 (.int) false := ⟨RX3, TX3, 4, rfl, by decide, by decide +kernel, rfl, Or.inl (by decide +kernel)⟩
theorem fl_X3_19 : mxFld RX3 19 3 2 (.int) false := ⟨RX3, TX3, 4, rfl, by decide, by decide +kernel, rfl, Or.inl (by decide +kernel)⟩
theorem fl_X3_22 : mxFld RX3 22 3 3 (.int) false := ⟨RX3, TX3, 4, rfl, by decide, by decide +kernel, rfl, Or.inl (by decide +kernel)⟩
theorem lkV_X3_25 : mxLkV RX3 25 yX3_countSums cX3_countSums 7 (none) 3 := ⟨Or.inl (by decide +kernel), ⟨(by decide +kernel), (by decide +kernel)⟩, (by decide +kernel), (by decide +kernel), by decide, by decide, by decide +kernel⟩
theorem kS198 : (Int16.ofInt (198)).toInt32 = 198 := by decide +kernel
theorem lkV_X3_29 : mxLkV RX3 29 yX3_findOfSum cX3_findOfSum 8 (none) 4 := ⟨Or.inl (by decide +kernel), ⟨(by decide +kernel), (by decide +kernel)⟩, (by decide +kernel), (by decide +kernel), by decide, by decide, by decide +kernel⟩
theorem oi_X4_3 : Cond.methodLink RX4 3 Lib.objectInit ∈ mxAW ∧ Cond.instanceMethod Lib.objectInit ∈ mxAW ∧ Cond.code Lib.objectInit ⟨#[0xb1]⟩ 1 none ∈ mxAW := ⟨(by decide +kernel), (by decide +kernel), (by decide +kernel)⟩
theorem lkS_X4_44 : mxLkS RX4 44 yX9_isThing cX9_isThing 1 (some .boolean) 1 := ⟨Or.inr ⟨"ToplistHouse", (by decide +kernel)⟩, (by decide +kernel), (by decide +kernel), (by decide +kernel), by decide, by decide, by decide +kernel⟩
theorem fl_X4_9 : mxFld RX4 9 4 0 (.array .int) true := ⟨RX4, TX4, 4, rfl, by decide, by decide +kernel, rfl, Or.inl (by decide +kernel)⟩
theorem lkV_X4_47 : mxLkV RX4 47 yX4_valueIn cX4_valueIn 2 (some .int) 1 := ⟨Or.inl (by decide +kernel), ⟨(by decide +kernel), (by decide +kernel)⟩, (by decide +kernel), (by decide +kernel), by decide, by decide, by decide +kernel⟩
theorem lkV_X6_104 : mxLkV RX6 104 yX6_isRead cX6_isRead 3 (some .boolean) 2 := ⟨Or.inl (by decide +kernel), ⟨(by decide +kernel), (by decide +kernel)⟩, (by decide +kernel), (by decide +kernel), by decide, by decide, by decide +kernel⟩
theorem fl_X6_36 : mxFld RX6 36 6 7 (.array .int) true := ⟨RX6, TX6, 8, rfl, by decide, by decide +kernel, rfl, Or.inl (by decide +kernel)⟩
theorem mxx_X6_98 : Cond.methodLink RX6 98 Lib.Math.max.name ∈ mxAW := (by decide +kernel)
theorem lkV_X6_95 : mxLkV RX6 95 yX6_leastPart cX6_leastPart 3 (some .int) 0 := ⟨Or.inl (by decide +kernel), ⟨(by decide +kernel), (by decide +kernel)⟩, (by decide +kernel), (by decide +kernel), by decide, by decide, by decide +kernel⟩
theorem lkV_X6_81 : mxLkV RX6 81 yX6_weightedMark cX6_weightedMark 4 (some .int) 2 := ⟨Or.inl (by decide +kernel), ⟨(by decide +kernel), (by decide +kernel)⟩, (by decide +kernel), (by decide +kernel), by decide, by decide, by decide +kernel⟩
theorem lkV_X6_84 : mxLkV RX6 84 yX6_applyRule cX6_applyRule 6 (some .int) 0 := ⟨Or.inl (by decide +kernel), ⟨(by decide +kernel), (by decide +kernel)⟩, (by decide +kernel), (by decide +kernel), by decide, by decide, by decide +kernel⟩
theorem fl_X4_21 : mxFld RX4 21 4 3 (.int) false := ⟨RX4, TX4, 4, rfl, by decide, by decide +kernel, rfl, Or.inl (by decide +kernel)⟩
theorem fl_X4_15 : mxFld RX4 15 4 1 (.array .int) true := ⟨RX4, TX4, 4, rfl, by decide, by decide +kernel, rfl, Or.inl (by decide +kernel)⟩
theorem fl_X4_18 : mxFld RX4 18 4 2 (.array .int) true := ⟨RX4, TX4, 4, rfl, by decide, by decide +kernel, rfl, Or.inl (by decide +kernel)⟩
theorem lkV_X4_25 : mxLkV RX4 25 yX6_isKnown cX6_isKnown 2 (some .boolean) 1 := ⟨Or.inr ⟨"ToplistHouse", (by decide +kernel)⟩, ⟨(by decide +kernel), (by decide +kernel)⟩, (by decide +kernel), (by decide +kernel), by decide, by decide, by decide +kernel⟩
theorem lkV_X4_31 : mxLkV RX4 31 yX6_valueOf cX6_valueOf 3 (some .int) 1 := ⟨Or.inr ⟨"ToplistHouse", (by decide +kernel)⟩, ⟨(by decide +kernel), (by decide +kernel)⟩, (by decide +kernel), (by decide +kernel), by decide, by decide, by decide +kernel⟩
theorem lkS_X4_35 : mxLkS RX4 35 yJ7_fill_53178 cJ7_fill_53178 4 (none) 2 := ⟨Or.inl (by decide +kernel), (by decide +kernel), (by decide +kernel), (by decide +kernel), by decide, by decide, by decide +kernel⟩
theorem lkV_X4_41 : mxLkV RX4 41 yX4_countAhead cX4_countAhead 5 (some .int) 1 := ⟨Or.inl (by decide +kernel), ⟨(by decide +kernel), (by decide +kernel)⟩, (by decide +kernel), (by decide +kernel), by decide, by decide, by decide +kernel⟩
theorem lkV_X4_50 : mxLkV RX4 50 yX6_isRead cX6_isRead 3 (some .boolean) 2 := ⟨Or.inr ⟨"ToplistHouse", (by decide +kernel)⟩, ⟨(by decide +kernel), (by decide +kernel)⟩, (by decide +kernel), (by decide +kernel), by decide, by decide, by decide +kernel⟩
theorem lkV_X4_54 : mxLkV RX4 54 yX4_thingOn cX4_thingOn 2 (some .int) 1 := ⟨Or.inl (by decide +kernel), ⟨(by decide +kernel), (by decide +kernel)⟩, (by decide +kernel), (by decide +kernel), by decide, by decide, by decide +kernel⟩
theorem oi_X5_3 : Cond.methodLink RX5 3 Lib.objectInit ∈ mxAW ∧ Cond.instanceMethod Lib.objectInit ∈ mxAW ∧ Cond.code Lib.objectInit ⟨#[0xb1]⟩ 1 none ∈ mxAW := ⟨(by decide +kernel), (by decide +kernel), (by decide +kernel)⟩
theorem kB21 : (Int8.ofInt (21)).toInt32 = 21 := by decide +kernel
theorem lkV_X5_52 : mxLkV RX5 52 yX4_valueIn cX4_valueIn 2 (some .int) 1 := ⟨Or.inr ⟨"ToplistHouse", (by decide +kernel)⟩, ⟨(by decide +kernel), (by decide +kernel)⟩, (by decide +kernel), (by decide +kernel), by decide, by decide, by decide +kernel⟩
theorem lkV_X5_57 : mxLkV RX5 57 yX6_isRead cX6_isRead 3 (some .boolean) 2 := ⟨Or.inr ⟨"ToplistHouse", (by decide +kernel)⟩, ⟨(by decide +kernel), (by decide +kernel)⟩, (by decide +kernel), (by decide +kernel), by decide, by decide, by decide +kernel⟩
theorem fl_X5_9 : mxFld RX5 9 5 0 (.array .int) true := ⟨RX5, TX5, 5, rfl, by decide, by decide +kernel, rfl, Or.inl (by decide +kernel)⟩
theorem lkV_X6_88 : mxLkV RX6 88 yX6_lastMark cX6_lastMark 3 (some .int) 2 := ⟨Or.inl (by decide +kernel), ⟨(by decide +kernel), (by decide +kernel)⟩, (by decide +kernel), (by decide +kernel), by decide, by decide, by decide +kernel⟩
theorem lkS_X5_28 : mxLkS RX5 28 yJ7_fill_53178 cJ7_fill_53178 4 (none) 2 := ⟨Or.inl (by decide +kernel), (by decide +kernel), (by decide +kernel), (by decide +kernel), by decide, by decide, by decide +kernel⟩
theorem lkV_X5_34 : mxLkV RX5 34 yX6_deepest cX6_deepest 6 (some .int) 0 := ⟨Or.inr ⟨"ToplistHouse", (by decide +kernel)⟩, ⟨(by decide +kernel), (by decide +kernel)⟩, (by decide +kernel), (by decide +kernel), by decide, by decide, by decide +kernel⟩
theorem lkV_X5_40 : mxLkV RX5 40 yX6_limitAt cX6_limitAt 3 (some .int) 1 := ⟨Or.inr ⟨"ToplistHouse", (by decide +kernel)⟩, ⟨(by decide +kernel), (by decide +kernel)⟩, (by decide +kernel), (by decide +kernel), by decide, by decide, by decide +kernel⟩
theorem lkS_X5_44 : mxLkS RX5 44 yX5_countSure cX5_countSure 6 (some .int) 4 := ⟨Or.inl (by decide +kernel), (by decide +kernel), (by decide +kernel), (by decide +kernel), by decide, by decide, by decide +kernel⟩
theorem lkV_X5_48 : mxLkV RX5 48 yX5_stopUpTo cX5_stopUpTo 4 (none) 2 := ⟨Or.inl (by decide +kernel), ⟨(by decide +kernel), (by decide +kernel)⟩, (by decide +kernel), (by decide +kernel), by decide, by decide, by decide +kernel⟩
theorem fl_X5_24 : mxFld RX5 24 5 4 (.int) false := ⟨RX5, TX5, 5, rfl, by decide, by decide +kernel, rfl, Or.inl (by decide +kernel)⟩
theorem lkS_X5_78 : mxLkS RX5 78 yX9_isThing cX9_isThing 1 (some .boolean) 1 := ⟨Or.inr ⟨"ToplistHouse", (by decide +kernel)⟩, (by decide +kernel), (by decide +kernel), (by decide +kernel), by decide, by decide, by decide +kernel⟩
theorem fl_X5_18 : mxFld RX5 18 5 2 (.array .int) true := ⟨RX5, TX5, 5, rfl, by decide, by decide +kernel, rfl, Or.inl (by decide +kernel)⟩
theorem fl_X5_21 : mxFld RX5 21 5 3 (.array .int) true := ⟨RX5, TX5, 5, rfl, by decide, by decide +kernel, rfl, Or.inl (by decide +kernel)⟩
theorem lkS_X5_82 : mxLkS RX5 82 yX5_isLess cX5_isLess 4 (some .boolean) 4 := ⟨Or.inl (by decide +kernel), (by decide +kernel), (by decide +kernel), (by decide +kernel), by decide, by decide, by decide +kernel⟩
theorem lkV_X6_101 : mxLkV RX6 101 yX6_placeIn cX6_placeIn 3 (some .int) 2 := ⟨Or.inl (by decide +kernel), ⟨(by decide +kernel), (by decide +kernel)⟩, (by decide +kernel), (by decide +kernel), by decide, by decide, by decide +kernel⟩
theorem lkV_X6_91 : mxLkV RX6 91 yX6_isReadIn cX6_isReadIn 5 (some .boolean) 3 := ⟨Or.inl (by decide +kernel), ⟨(by decide +kernel), (by decide +kernel)⟩, (by decide +kernel), (by decide +kernel), by decide, by decide, by decide +kernel⟩
theorem lkV_X5_68 : mxLkV RX5 68 yX6_lowerOf cX6_lowerOf 4 (some .int) 2 := ⟨Or.inr ⟨"ToplistHouse", (by decide +kernel)⟩, ⟨(by decide +kernel), (by decide +kernel)⟩, (by decide +kernel), (by decide +kernel), by decide, by decide, by decide +kernel⟩
theorem lkV_X5_72 : mxLkV RX5 72 yX6_upperOf cX6_upperOf 4 (some .int) 2 := ⟨Or.inr ⟨"ToplistHouse", (by decide +kernel)⟩, ⟨(by decide +kernel), (by decide +kernel)⟩, (by decide +kernel), (by decide +kernel), by decide, by decide, by decide +kernel⟩
theorem lkV_X5_75 : mxLkV RX5 75 yX5_insertBounds cX5_insertBounds 4 (none) 2 := ⟨Or.inl (by decide +kernel), ⟨(by decide +kernel), (by decide +kernel)⟩, (by decide +kernel), (by decide +kernel), by decide, by decide, by decide +kernel⟩
theorem mnn_X5_86 : Cond.methodLink RX5 86 Lib.Math.min.name ∈ mxAW := (by decide +kernel)
theorem fl_X5_15 : mxFld RX5 15 5 1 (.array .int) true := ⟨RX5, TX5, 5, rfl, by decide, by decide +kernel, rfl, Or.inl (by decide +kernel)⟩
theorem mxx_X5_91 : Cond.methodLink RX5 91 Lib.Math.max.name ∈ mxAW := (by decide +kernel)
theorem lkV_X5_61 : mxLkV RX5 61 yX5_gatherBounds cX5_gatherBounds 4 (none) 2 := ⟨Or.inl (by decide +kernel), ⟨(by decide +kernel), (by decide +kernel)⟩, (by decide +kernel), (by decide +kernel), by decide, by decide, by decide +kernel⟩
theorem lkV_X5_65 : mxLkV RX5 65 yX5_stopSettled cX5_stopSettled 5 (none) 2 := ⟨Or.inl (by decide +kernel), ⟨(by decide +kernel), (by decide +kernel)⟩, (by decide +kernel), (by decide +kernel), by decide, by decide, by decide +kernel⟩
theorem lkV_X5_98 : mxLkV RX5 98 yX5_stopOf cX5_stopOf 2 (some .int) 1 := ⟨Or.inl (by decide +kernel), ⟨(by decide +kernel), (by decide +kernel)⟩, (by decide +kernel), (by decide +kernel), by decide, by decide, by decide +kernel⟩
theorem fl_X5_101 : mxFld RX5 101 4 3 (.int) false := ⟨RX4, TX4, 4, rfl, by decide, by decide +kernel, rfl, Or.inr ⟨"ToplistHouse", (by decide +kernel)⟩⟩
theorem lkV_X5_104 : mxLkV RX5 104 yX4_thingOn cX4_thingOn 2 (some .int) 1 := ⟨Or.inr ⟨"ToplistHouse", (by decide +kernel)⟩, ⟨(by decide +kernel), (by decide +kernel)⟩, (by decide +kernel), (by decide +kernel), by decide, by decide, by decide +kernel⟩
theorem lkV_X5_94 : mxLkV RX5 94 yX5_isAnswerBest cX5_isAnswerBest 8 (some .boolean) 3 := ⟨Or.inl (by decide +kernel), ⟨(by decide +kernel), (by decide +kernel)⟩, (by decide +kernel), (by decide +kernel), by decide, by decide, by decide +kernel⟩
theorem mnn_X6_69 : Cond.methodLink RX6 69 Lib.Math.min.name ∈ mxAW := (by decide +kernel)
theorem lkS_X6_59 : mxLkS RX6 59 yJ7_fill_53178 cJ7_fill_53178 4 (none) 2 := ⟨Or.inl (by decide +kernel), (by decide +kernel), (by decide +kernel), (by decide +kernel), by decide, by decide, by decide +kernel⟩
theorem lkS_X6_65 : mxLkS RX6 65 yX6_countAhead cX6_countAhead 5 (some .int) 2 := ⟨Or.inl (by decide +kernel), (by decide +kernel), (by decide +kernel), (by decide +kernel), by decide, by decide, by decide +kernel⟩
theorem lkS_X6_52 : mxLkS RX6 52 yX6_sort cX6_sort 6 (some .int) 3 := ⟨Or.inl (by decide +kernel), (by decide +kernel), (by decide +kernel), (by decide +kernel), by decide, by decide, by decide +kernel⟩
theorem lkV_X6_56 : mxLkV RX6 56 yX6_findFirstPlaces cX6_findFirstPlaces 5 (none) 0 := ⟨Or.inl (by decide +kernel), ⟨(by decide +kernel), (by decide +kernel)⟩, (by decide +kernel), (by decide +kernel), by decide, by decide, by decide +kernel⟩
theorem lkV_X6_108 : mxLkV RX6 108 yX6_isInBoth cX6_isInBoth 4 (some .boolean) 3 := ⟨Or.inl (by decide +kernel), ⟨(by decide +kernel), (by decide +kernel)⟩, (by decide +kernel), (by decide +kernel), by decide, by decide, by decide +kernel⟩
theorem oi_X8_3 : Cond.methodLink RX8 3 Lib.objectInit ∈ mxAW ∧ Cond.instanceMethod Lib.objectInit ∈ mxAW ∧ Cond.code Lib.objectInit ⟨#[0xb1]⟩ 1 none ∈ mxAW := ⟨(by decide +kernel), (by decide +kernel), (by decide +kernel)⟩
theorem kB6 : (Int8.ofInt (6)).toInt32 = 6 := by decide +kernel
theorem fl_X8_15 : mxFld RX8 15 8 1 (.int) false := ⟨RX8, TX8, 5, rfl, by decide, by decide +kernel, rfl, Or.inl (by decide +kernel)⟩
theorem fl_X8_21 : mxFld RX8 21 8 2 (.array (.array .int)) true := ⟨RX8, TX8, 5, rfl, by decide, by decide +kernel, rfl, Or.inl (by decide +kernel)⟩
theorem fl_X8_9 : mxFld RX8 9 8 0 (.array .int) true := ⟨RX8, TX8, 5, rfl, by decide, by decide +kernel, rfl, Or.inl (by decide +kernel)⟩
theorem lkS_X8_30 : mxLkS RX8 30 yX8_isCandidate cX8_isCandidate 1 (some .boolean) 1 := ⟨Or.inl (by decide +kernel), (by decide +kernel), (by decide +kernel), (by decide +kernel), by decide, by decide, by decide +kernel⟩
theorem lkV_X8_34 : mxLkV RX8 34 yX6_isKnown cX6_isKnown 2 (some .boolean) 1 := ⟨Or.inr ⟨"ToplistHouse", (by decide +kernel)⟩, ⟨(by decide +kernel), (by decide +kernel)⟩, (by decide +kernel), (by decide +kernel), by decide, by decide, by decide +kernel⟩
theorem lkV_X8_39 : mxLkV RX8 39 yX6_countPreferring cX6_countPreferring 7 (some .int) 2 := ⟨Or.inr ⟨"ToplistHouse", (by decide +kernel)⟩, ⟨(by decide +kernel), (by decide +kernel)⟩, (by decide +kernel), (by decide +kernel), by decide, by decide, by decide +kernel⟩
theorem lkV_X8_47 : mxLkV RX8 47 yX8_beats cX8_beats 3 (some .boolean) 2 := ⟨Or.inl (by decide +kernel), ⟨(by decide +kernel), (by decide +kernel)⟩, (by decide +kernel), (by decide +kernel), by decide, by decide, by decide +kernel⟩
theorem lkV_X8_43 : mxLkV RX8 43 yX8_countBeaten cX8_countBeaten 4 (some .int) 1 := ⟨Or.inl (by decide +kernel), ⟨(by decide +kernel), (by decide +kernel)⟩, (by decide +kernel), (by decide +kernel), by decide, by decide, by decide +kernel⟩
theorem lkV_X8_54 : mxLkV RX8 54 yX8_beatenBy cX8_beatenBy 5 (some .int) 1 := ⟨Or.inl (by decide +kernel), ⟨(by decide +kernel), (by decide +kernel)⟩, (by decide +kernel), (by decide +kernel), by decide, by decide, by decide +kernel⟩
theorem lkV_X8_51 : mxLkV RX8 51 yX8_ringFrom cX8_ringFrom 4 (some .int) 1 := ⟨Or.inl (by decide +kernel), ⟨(by decide +kernel), (by decide +kernel)⟩, (by decide +kernel), (by decide +kernel), by decide, by decide, by decide +kernel⟩
theorem fl_X8_24 : mxFld RX8 24 8 3 (.array .int) true := ⟨RX8, TX8, 5, rfl, by decide, by decide +kernel, rfl, Or.inl (by decide +kernel)⟩
theorem lkV_X8_60 : mxLkV RX8 60 yX8_swapsBehind cX8_swapsBehind 6 (some .int) 2 := ⟨Or.inl (by decide +kernel), ⟨(by decide +kernel), (by decide +kernel)⟩, (by decide +kernel), (by decide +kernel), by decide, by decide, by decide +kernel⟩
theorem fl_X8_27 : mxFld RX8 27 8 4 (.array .int) true := ⟨RX8, TX8, 5, rfl, by decide, by decide +kernel, rfl, Or.inl (by decide +kernel)⟩
theorem lkV_X8_57 : mxLkV RX8 57 yX8_firstOf cX8_firstOf 4 (some .int) 1 := ⟨Or.inl (by decide +kernel), ⟨(by decide +kernel), (by decide +kernel)⟩, (by decide +kernel), (by decide +kernel), by decide, by decide, by decide +kernel⟩
theorem oi_X9_3 : Cond.methodLink RX9 3 Lib.objectInit ∈ mxAW ∧ Cond.instanceMethod Lib.objectInit ∈ mxAW ∧ Cond.code Lib.objectInit ⟨#[0xb1]⟩ 1 none ∈ mxAW := ⟨(by decide +kernel), (by decide +kernel), (by decide +kernel)⟩
theorem thw_216_220 : mxThw "java/lang/IllegalArgumentException" 216 220 := ⟨by decide +kernel, (by decide +kernel), (by decide +kernel), by decide +kernel, by decide +kernel⟩
theorem lkS_X9_306 : mxLkS RX9 306 yX9_isRow cX9_isRow 1 (some .boolean) 1 := ⟨Or.inl (by decide +kernel), (by decide +kernel), (by decide +kernel), (by decide +kernel), by decide, by decide, by decide +kernel⟩
theorem thw_310_314 : mxThw "java/lang/IndexOutOfBoundsException" 310 314 := ⟨by decide +kernel, (by decide +kernel), (by decide +kernel), by decide +kernel, by decide +kernel⟩
theorem lkS_X9_315 : mxLkS RX9 315 yX9_isThing cX9_isThing 1 (some .boolean) 1 := ⟨Or.inl (by decide +kernel), (by decide +kernel), (by decide +kernel), (by decide +kernel), by decide, by decide, by decide +kernel⟩
theorem lkS_X9_79 : mxLkS RX9 79 yX9_requireRow cX9_requireRow 1 (none) 1 := ⟨Or.inl (by decide +kernel), (by decide +kernel), (by decide +kernel), (by decide +kernel), by decide, by decide, by decide +kernel⟩
theorem lkS_X9_83 : mxLkS RX9 83 yX9_requireThing cX9_requireThing 1 (none) 1 := ⟨Or.inl (by decide +kernel), (by decide +kernel), (by decide +kernel), (by decide +kernel), by decide, by decide, by decide +kernel⟩
theorem lkS_X9_86 : mxLkS RX9 86 yX9_requireRange cX9_requireRange 3 (none) 3 := ⟨Or.inl (by decide +kernel), (by decide +kernel), (by decide +kernel), (by decide +kernel), by decide, by decide, by decide +kernel⟩
theorem fl_X9_19 : mxFld RX9 19 9 1 (.object "ToplistHouse$History") true := ⟨RX9, TX9, 9, rfl, by decide, by decide +kernel, rfl, Or.inl (by decide +kernel)⟩
theorem fl_X9_12 : mxFld RX9 12 9 0 (.object "ToplistHouse$State") true := ⟨RX9, TX9, 9, rfl, by decide, by decide +kernel, rfl, Or.inl (by decide +kernel)⟩
theorem lkV_X9_89 : mxLkV RX9 89 yX0_save cX0_save 4 (none) 1 := ⟨Or.inr ⟨"ToplistHouse", (by decide +kernel)⟩, ⟨(by decide +kernel), (by decide +kernel)⟩, (by decide +kernel), (by decide +kernel), by decide, by decide, by decide +kernel⟩
theorem fl_X9_72 : mxFld RX9 72 7 0 (.object "ToplistHouse$Rows") true := ⟨RX7, TX7, 4, rfl, by decide, by decide +kernel, rfl, Or.inr ⟨"ToplistHouse", (by decide +kernel)⟩⟩
theorem lkV_X9_93 : mxLkV RX9 93 yX6_markOf cX6_markOf 3 (some .int) 2 := ⟨Or.inr ⟨"ToplistHouse", (by decide +kernel)⟩, ⟨(by decide +kernel), (by decide +kernel)⟩, (by decide +kernel), (by decide +kernel), by decide, by decide, by decide +kernel⟩
theorem lkV_X9_75 : mxLkV RX9 75 yX6_setMark cX6_setMark 4 (none) 3 := ⟨Or.inr ⟨"ToplistHouse", (by decide +kernel)⟩, ⟨(by decide +kernel), (by decide +kernel)⟩, (by decide +kernel), (by decide +kernel), by decide, by decide, by decide +kernel⟩
theorem thw_324_328 : mxThw "java/util/NoSuchElementException" 324 328 := ⟨by decide +kernel, (by decide +kernel), (by decide +kernel), by decide +kernel, by decide +kernel⟩
theorem lkS_X9_97 : mxLkS RX9 97 yX9_requireFound cX9_requireFound 1 (none) 1 := ⟨Or.inl (by decide +kernel), (by decide +kernel), (by decide +kernel), (by decide +kernel), by decide, by decide, by decide +kernel⟩
theorem lkV_X9_101 : mxLkV RX9 101 yX6_changeWeight cX6_changeWeight 4 (some .int) 2 := ⟨Or.inr ⟨"ToplistHouse", (by decide +kernel)⟩, ⟨(by decide +kernel), (by decide +kernel)⟩, (by decide +kernel), (by decide +kernel), by decide, by decide, by decide +kernel⟩
theorem fl_X9_104 : mxFld RX9 104 6 6 (.int) false := ⟨RX6, TX6, 8, rfl, by decide, by decide +kernel, rfl, Or.inr ⟨"ToplistHouse", (by decide +kernel)⟩⟩
theorem fl_X9_108 : mxFld RX9 108 7 2 (.int) false := ⟨RX7, TX7, 4, rfl, by decide, by decide +kernel, rfl, Or.inr ⟨"ToplistHouse", (by decide +kernel)⟩⟩
theorem fl_X9_111 : mxFld RX9 111 7 3 (.int) false := ⟨RX7, TX7, 4, rfl, by decide, by decide +kernel, rfl, Or.inr ⟨"ToplistHouse", (by decide +kernel)⟩⟩
theorem fl_X9_114 : mxFld RX9 114 7 1 (.object "ToplistHouse$Numbers") true := ⟨RX7, TX7, 4, rfl, by decide, by decide +kernel, rfl, Or.inr ⟨"ToplistHouse", (by decide +kernel)⟩⟩
theorem fl_X9_118 : mxFld RX9 118 2 4 (.int) false := ⟨RX2, TX2, 9, rfl, by decide, by decide +kernel, rfl, Or.inr ⟨"ToplistHouse", (by decide +kernel)⟩⟩
theorem lkV_X9_123 : mxLkV RX9 123 yX2_beginAnew cX2_beginAnew 3 (none) 2 := ⟨Or.inr ⟨"ToplistHouse", (by decide +kernel)⟩, ⟨(by decide +kernel), (by decide +kernel)⟩, (by decide +kernel), (by decide +kernel), by decide, by decide, by decide +kernel⟩
theorem lkV_X9_127 : mxLkV RX9 127 yX2_take cX2_take 3 (some .int) 1 := ⟨Or.inr ⟨"ToplistHouse", (by decide +kernel)⟩, ⟨(by decide +kernel), (by decide +kernel)⟩, (by decide +kernel), (by decide +kernel), by decide, by decide, by decide +kernel⟩
theorem lkV_X9_131 : mxLkV RX9 131 yX0_restore cX0_restore 4 (some .int) 1 := ⟨Or.inr ⟨"ToplistHouse", (by decide +kernel)⟩, ⟨(by decide +kernel), (by decide +kernel)⟩, (by decide +kernel), (by decide +kernel), by decide, by decide, by decide +kernel⟩
theorem lkV_X9_135 : mxLkV RX9 135 yX6_sizeOf cX6_sizeOf 2 (some .int) 1 := ⟨Or.inr ⟨"ToplistHouse", (by decide +kernel)⟩, ⟨(by decide +kernel), (by decide +kernel)⟩, (by decide +kernel), (by decide +kernel), by decide, by decide, by decide +kernel⟩
theorem lkS_X9_138 : mxLkS RX9 138 yX9_requirePlace cX9_requirePlace 2 (none) 2 := ⟨Or.inl (by decide +kernel), (by decide +kernel), (by decide +kernel), (by decide +kernel), by decide, by decide, by decide +kernel⟩
theorem lkV_X9_141 : mxLkV RX9 141 yX6_thingOn cX6_thingOn 3 (some .int) 2 := ⟨Or.inr ⟨"ToplistHouse", (by decide +kernel)⟩, ⟨(by decide +kernel), (by decide +kernel)⟩, (by decide +kernel), (by decide +kernel), by decide, by decide, by decide +kernel⟩
theorem lkV_X9_144 : mxLkV RX9 144 yX6_markOn cX6_markOn 3 (some .int) 2 := ⟨Or.inr ⟨"ToplistHouse", (by decide +kernel)⟩, ⟨(by decide +kernel), (by decide +kernel)⟩, (by decide +kernel), (by decide +kernel), by decide, by decide, by decide +kernel⟩
theorem lkV_X9_147 : mxLkV RX9 147 yX6_placeIn cX6_placeIn 3 (some .int) 2 := ⟨Or.inr ⟨"ToplistHouse", (by decide +kernel)⟩, ⟨(by decide +kernel), (by decide +kernel)⟩, (by decide +kernel), (by decide +kernel), by decide, by decide, by decide +kernel⟩
theorem lkV_X9_150 : mxLkV RX9 150 yX6_valueOf cX6_valueOf 3 (some .int) 1 := ⟨Or.inr ⟨"ToplistHouse", (by decide +kernel)⟩, ⟨(by decide +kernel), (by decide +kernel)⟩, (by decide +kernel), (by decide +kernel), by decide, by decide, by decide +kernel⟩
theorem fl_X9_33 : mxFld RX9 33 9 3 (.object "ToplistHouse$Ranking") true := ⟨RX9, TX9, 9, rfl, by decide, by decide +kernel, rfl, Or.inl (by decide +kernel)⟩
theorem lkV_X9_153 : mxLkV RX9 153 yX4_rankAll cX4_rankAll 4 (none) 1 := ⟨Or.inr ⟨"ToplistHouse", (by decide +kernel)⟩, ⟨(by decide +kernel), (by decide +kernel)⟩, (by decide +kernel), (by decide +kernel), by decide, by decide, by decide +kernel⟩
theorem fl_X9_157 : mxFld RX9 157 4 3 (.int) false := ⟨RX4, TX4, 4, rfl, by decide, by decide +kernel, rfl, Or.inr ⟨"ToplistHouse", (by decide +kernel)⟩⟩
theorem lkV_X9_160 : mxLkV RX9 160 yX4_thingOn cX4_thingOn 2 (some .int) 1 := ⟨Or.inr ⟨"ToplistHouse", (by decide +kernel)⟩, ⟨(by decide +kernel), (by decide +kernel)⟩, (by decide +kernel), (by decide +kernel), by decide, by decide, by decide +kernel⟩
theorem lkV_X9_162 : mxLkV RX9 162 yX4_rankIn cX4_rankIn 2 (some .int) 1 := ⟨Or.inr ⟨"ToplistHouse", (by decide +kernel)⟩, ⟨(by decide +kernel), (by decide +kernel)⟩, (by decide +kernel), (by decide +kernel), by decide, by decide, by decide +kernel⟩
theorem lkV_X9_165 : mxLkV RX9 165 yX6_limitAt cX6_limitAt 3 (some .int) 1 := ⟨Or.inr ⟨"ToplistHouse", (by decide +kernel)⟩, ⟨(by decide +kernel), (by decide +kernel)⟩, (by decide +kernel), (by decide +kernel), by decide, by decide, by decide +kernel⟩
theorem fl_X9_43 : mxFld RX9 43 9 5 (.object "ToplistHouse$Reader") true := ⟨RX9, TX9, 9, rfl, by decide, by decide +kernel, rfl, Or.inl (by decide +kernel)⟩
theorem lkV_X9_288 : mxLkV RX9 288 yX5_findStops cX5_findStops 5 (none) 2 := ⟨Or.inr ⟨"ToplistHouse", (by decide +kernel)⟩, ⟨(by decide +kernel), (by decide +kernel)⟩, (by decide +kernel), (by decide +kernel), by decide, by decide, by decide +kernel⟩
theorem lkV_X9_299 : mxLkV RX9 299 yX5_stopOf cX5_stopOf 2 (some .int) 1 := ⟨Or.inr ⟨"ToplistHouse", (by decide +kernel)⟩, ⟨(by decide +kernel), (by decide +kernel)⟩, (by decide +kernel), (by decide +kernel), by decide, by decide, by decide +kernel⟩
theorem lkV_X9_168 : mxLkV RX9 168 yX9_findStop cX9_findStop 2 (some .int) 1 := ⟨Or.inl (by decide +kernel), ⟨(by decide +kernel), (by decide +kernel)⟩, (by decide +kernel), (by decide +kernel), by decide, by decide, by decide +kernel⟩
theorem lkV_X9_171 : mxLkV RX9 171 yX6_thingsRead cX6_thingsRead 4 (some .int) 1 := ⟨Or.inr ⟨"ToplistHouse", (by decide +kernel)⟩, ⟨(by decide +kernel), (by decide +kernel)⟩, (by decide +kernel), (by decide +kernel), by decide, by decide, by decide +kernel⟩
theorem lkV_X9_174 : mxLkV RX9 174 yX6_itemsRead cX6_itemsRead 7 (some .int) 1 := ⟨Or.inr ⟨"ToplistHouse", (by decide +kernel)⟩, ⟨(by decide +kernel), (by decide +kernel)⟩, (by decide +kernel), (by decide +kernel), by decide, by decide, by decide +kernel⟩
theorem mnn_X9_177 : Cond.methodLink RX9 177 Lib.Math.min.name ∈ mxAW := (by decide +kernel)
theorem lkV_X9_182 : mxLkV RX9 182 yX4_readThingOn cX4_readThingOn 9 (some .int) 3 := ⟨Or.inr ⟨"ToplistHouse", (by decide +kernel)⟩, ⟨(by decide +kernel), (by decide +kernel)⟩, (by decide +kernel), (by decide +kernel), by decide, by decide, by decide +kernel⟩
theorem lkV_X9_186 : mxLkV RX9 186 yX6_leastUnread cX6_leastUnread 3 (some .int) 1 := ⟨Or.inr ⟨"ToplistHouse", (by decide +kernel)⟩, ⟨(by decide +kernel), (by decide +kernel)⟩, (by decide +kernel), (by decide +kernel), by decide, by decide, by decide +kernel⟩
theorem lkV_X9_189 : mxLkV RX9 189 yX6_lowerOf cX6_lowerOf 4 (some .int) 2 := ⟨Or.inr ⟨"ToplistHouse", (by decide +kernel)⟩, ⟨(by decide +kernel), (by decide +kernel)⟩, (by decide +kernel), (by decide +kernel), by decide, by decide, by decide +kernel⟩
theorem lkV_X9_192 : mxLkV RX9 192 yX6_upperOf cX6_upperOf 4 (some .int) 2 := ⟨Or.inr ⟨"ToplistHouse", (by decide +kernel)⟩, ⟨(by decide +kernel), (by decide +kernel)⟩, (by decide +kernel), (by decide +kernel), by decide, by decide, by decide +kernel⟩
theorem lkV_X9_195 : mxLkV RX9 195 yX5_findPlainStops cX5_findPlainStops 4 (none) 1 := ⟨Or.inr ⟨"ToplistHouse", (by decide +kernel)⟩, ⟨(by decide +kernel), (by decide +kernel)⟩, (by decide +kernel), (by decide +kernel), by decide, by decide, by decide +kernel⟩
theorem lkV_X9_198 : mxLkV RX9 198 yX5_plainStopOf cX5_plainStopOf 2 (some .int) 1 := ⟨Or.inr ⟨"ToplistHouse", (by decide +kernel)⟩, ⟨(by decide +kernel), (by decide +kernel)⟩, (by decide +kernel), (by decide +kernel), by decide, by decide, by decide +kernel⟩
theorem fl_X9_26 : mxFld RX9 26 9 2 (.object "ToplistHouse$Rows") true := ⟨RX9, TX9, 9, rfl, by decide, by decide +kernel, rfl, Or.inl (by decide +kernel)⟩
theorem lkV_X9_201 : mxLkV RX9 201 yX6_copyFrom cX6_copyFrom 3 (none) 1 := ⟨Or.inr ⟨"ToplistHouse", (by decide +kernel)⟩, ⟨(by decide +kernel), (by decide +kernel)⟩, (by decide +kernel), (by decide +kernel), by decide, by decide, by decide +kernel⟩
theorem fl_X9_37 : mxFld RX9 37 9 4 (.object "ToplistHouse$Ranking") true := ⟨RX9, TX9, 9, rfl, by decide, by decide +kernel, rfl, Or.inl (by decide +kernel)⟩
theorem lkV_X9_204 : mxLkV RX9 204 yX4_hasSameFirst cX4_hasSameFirst 4 (some .boolean) 2 := ⟨Or.inr ⟨"ToplistHouse", (by decide +kernel)⟩, ⟨(by decide +kernel), (by decide +kernel)⟩, (by decide +kernel), (by decide +kernel), by decide, by decide, by decide +kernel⟩
theorem fl_X9_50 : mxFld RX9 50 9 6 (.object "ToplistHouse$Merger") true := ⟨RX9, TX9, 9, rfl, by decide, by decide +kernel, rfl, Or.inl (by decide +kernel)⟩
theorem lkV_X9_208 : mxLkV RX9 208 yX1_mergeAll cX1_mergeAll 4 (none) 1 := ⟨Or.inr ⟨"ToplistHouse", (by decide +kernel)⟩, ⟨(by decide +kernel), (by decide +kernel)⟩, (by decide +kernel), (by decide +kernel), by decide, by decide, by decide +kernel⟩
theorem fl_X9_211 : mxFld RX9 211 1 2 (.int) false := ⟨RX1, TX1, 4, rfl, by decide, by decide +kernel, rfl, Or.inr ⟨"ToplistHouse", (by decide +kernel)⟩⟩
theorem lkV_X9_212 : mxLkV RX9 212 yX1_thingOn cX1_thingOn 2 (some .int) 1 := ⟨Or.inr ⟨"ToplistHouse", (by decide +kernel)⟩, ⟨(by decide +kernel), (by decide +kernel)⟩, (by decide +kernel), (by decide +kernel), by decide, by decide, by decide +kernel⟩
theorem lkV_X9_213 : mxLkV RX9 213 yX1_rowOn cX1_rowOn 2 (some .int) 1 := ⟨Or.inr ⟨"ToplistHouse", (by decide +kernel)⟩, ⟨(by decide +kernel), (by decide +kernel)⟩, (by decide +kernel), (by decide +kernel), by decide, by decide, by decide +kernel⟩
theorem lkV_X9_223 : mxLkV RX9 223 yX1_countComparisons cX1_countComparisons 7 (some .int) 2 := ⟨Or.inr ⟨"ToplistHouse", (by decide +kernel)⟩, ⟨(by decide +kernel), (by decide +kernel)⟩, (by decide +kernel), (by decide +kernel), by decide, by decide, by decide +kernel⟩
theorem lkV_X9_226 : mxLkV RX9 226 yX1_countAllComparisons cX1_countAllComparisons 1 (some .int) 0 := ⟨Or.inr ⟨"ToplistHouse", (by decide +kernel)⟩, ⟨(by decide +kernel), (by decide +kernel)⟩, (by decide +kernel), (by decide +kernel), by decide, by decide, by decide +kernel⟩
theorem kS1000 : (Int16.ofInt (1000)).toInt32 = 1000 := by decide +kernel
theorem fl_X9_57 : mxFld RX9 57 9 7 (.object "ToplistHouse$Votes") true := ⟨RX9, TX9, 9, rfl, by decide, by decide +kernel, rfl, Or.inl (by decide +kernel)⟩
theorem lkV_X9_230 : mxLkV RX9 230 yX8_gather cX8_gather 4 (none) 1 := ⟨Or.inr ⟨"ToplistHouse", (by decide +kernel)⟩, ⟨(by decide +kernel), (by decide +kernel)⟩, (by decide +kernel), (by decide +kernel), by decide, by decide, by decide +kernel⟩
theorem fl_X9_233 : mxFld RX9 233 8 1 (.int) false := ⟨RX8, TX8, 5, rfl, by decide, by decide +kernel, rfl, Or.inr ⟨"ToplistHouse", (by decide +kernel)⟩⟩
theorem lkV_X9_234 : mxLkV RX9 234 yX6_countPreferring cX6_countPreferring 7 (some .int) 2 := ⟨Or.inr ⟨"ToplistHouse", (by decide +kernel)⟩, ⟨(by decide +kernel), (by decide +kernel)⟩, (by decide +kernel), (by decide +kernel), by decide, by decide, by decide +kernel⟩
theorem lkV_X9_237 : mxLkV RX9 237 yX8_findWinner cX8_findWinner 2 (some .int) 0 := ⟨Or.inr ⟨"ToplistHouse", (by decide +kernel)⟩, ⟨(by decide +kernel), (by decide +kernel)⟩, (by decide +kernel), (by decide +kernel), by decide, by decide, by decide +kernel⟩
theorem lkV_X9_240 : mxLkV RX9 240 yX8_shortestRing cX8_shortestRing 4 (some .int) 0 := ⟨Or.inr ⟨"ToplistHouse", (by decide +kernel)⟩, ⟨(by decide +kernel), (by decide +kernel)⟩, (by decide +kernel), (by decide +kernel), by decide, by decide, by decide +kernel⟩
theorem lkV_X9_243 : mxLkV RX9 243 yX8_arrange cX8_arrange 5 (some .int) 0 := ⟨Or.inr ⟨"ToplistHouse", (by decide +kernel)⟩, ⟨(by decide +kernel), (by decide +kernel)⟩, (by decide +kernel), (by decide +kernel), by decide, by decide, by decide +kernel⟩
theorem lkV_X9_246 : mxLkV RX9 246 yX8_thingOn cX8_thingOn 2 (some .int) 1 := ⟨Or.inr ⟨"ToplistHouse", (by decide +kernel)⟩, ⟨(by decide +kernel), (by decide +kernel)⟩, (by decide +kernel), (by decide +kernel), by decide, by decide, by decide +kernel⟩
theorem fl_X9_247 : mxFld RX9 247 2 2 (.int) false := ⟨RX2, TX2, 9, rfl, by decide, by decide +kernel, rfl, Or.inr ⟨"ToplistHouse", (by decide +kernel)⟩⟩
theorem lkV_X9_250 : mxLkV RX9 250 yX2_bySize cX2_bySize 3 (some .int) 1 := ⟨Or.inr ⟨"ToplistHouse", (by decide +kernel)⟩, ⟨(by decide +kernel), (by decide +kernel)⟩, (by decide +kernel), (by decide +kernel), by decide, by decide, by decide +kernel⟩
theorem lkV_X9_253 : mxLkV RX9 253 yX2_countUnlike cX2_countUnlike 3 (some .int) 0 := ⟨Or.inr ⟨"ToplistHouse", (by decide +kernel)⟩, ⟨(by decide +kernel), (by decide +kernel)⟩, (by decide +kernel), (by decide +kernel), by decide, by decide, by decide +kernel⟩
theorem lkV_X9_256 : mxLkV RX9 256 yX2_countOf cX2_countOf 3 (some .int) 1 := ⟨Or.inr ⟨"ToplistHouse", (by decide +kernel)⟩, ⟨(by decide +kernel), (by decide +kernel)⟩, (by decide +kernel), (by decide +kernel), by decide, by decide, by decide +kernel⟩
theorem lkV_X9_259 : mxLkV RX9 259 yX2_timesOf cX2_timesOf 2 (some .int) 1 := ⟨Or.inr ⟨"ToplistHouse", (by decide +kernel)⟩, ⟨(by decide +kernel), (by decide +kernel)⟩, (by decide +kernel), (by decide +kernel), by decide, by decide, by decide +kernel⟩
theorem fl_X9_262 : mxFld RX9 262 2 8 (.int) false := ⟨RX2, TX2, 9, rfl, by decide, by decide +kernel, rfl, Or.inr ⟨"ToplistHouse", (by decide +kernel)⟩⟩
theorem fl_X9_64 : mxFld RX9 64 9 8 (.object "ToplistHouse$Pairs") true := ⟨RX9, TX9, 9, rfl, by decide, by decide +kernel, rfl, Or.inl (by decide +kernel)⟩
theorem lkV_X9_302 : mxLkV RX9 302 yX3_find cX3_find 7 (none) 4 := ⟨Or.inr ⟨"ToplistHouse", (by decide +kernel)⟩, ⟨(by decide +kernel), (by decide +kernel)⟩, (by decide +kernel), (by decide +kernel), by decide, by decide, by decide +kernel⟩
theorem lkV_X9_265 : mxLkV RX9 265 yX9_findPair cX9_findPair 4 (none) 3 := ⟨Or.inl (by decide +kernel), ⟨(by decide +kernel), (by decide +kernel)⟩, (by decide +kernel), (by decide +kernel), by decide, by decide, by decide +kernel⟩
theorem fl_X9_268 : mxFld RX9 268 3 1 (.int) false := ⟨RX3, TX3, 4, rfl, by decide, by decide +kernel, rfl, Or.inr ⟨"ToplistHouse", (by decide +kernel)⟩⟩
theorem fl_X9_274 : mxFld RX9 274 3 2 (.int) false := ⟨RX3, TX3, 4, rfl, by decide, by decide +kernel, rfl, Or.inr ⟨"ToplistHouse", (by decide +kernel)⟩⟩
theorem fl_X9_271 : mxFld RX9 271 3 3 (.int) false := ⟨RX3, TX3, 4, rfl, by decide, by decide +kernel, rfl, Or.inr ⟨"ToplistHouse", (by decide +kernel)⟩⟩
theorem lkV_X9_277 : mxLkV RX9 277 yX6_countCommon cX6_countCommon 5 (some .int) 2 := ⟨Or.inr ⟨"ToplistHouse", (by decide +kernel)⟩, ⟨(by decide +kernel), (by decide +kernel)⟩, (by decide +kernel), (by decide +kernel), by decide, by decide, by decide +kernel⟩
theorem lkV_X9_280 : mxLkV RX9 280 yX6_commonOn cX6_commonOn 6 (some .int) 3 := ⟨Or.inr ⟨"ToplistHouse", (by decide +kernel)⟩, ⟨(by decide +kernel), (by decide +kernel)⟩, (by decide +kernel), (by decide +kernel), by decide, by decide, by decide +kernel⟩
theorem lkV_X9_284 : mxLkV RX9 284 yX6_sumOfMarks cX6_sumOfMarks 7 (some .int) 0 := ⟨Or.inr ⟨"ToplistHouse", (by decide +kernel)⟩, ⟨(by decide +kernel), (by decide +kernel)⟩, (by decide +kernel), (by decide +kernel), by decide, by decide, by decide +kernel⟩
theorem cf_X9_287 : Cond.constantFloat RX9 287 1120403456 ∈ mxAW := (by decide +kernel)
theorem lkV_X9_292 : mxLkV RX9 292 yX5_countFaults cX5_countFaults 5 (some .int) 2 := ⟨Or.inr ⟨"ToplistHouse", (by decide +kernel)⟩, ⟨(by decide +kernel), (by decide +kernel)⟩, (by decide +kernel), (by decide +kernel), by decide, by decide, by decide +kernel⟩
theorem lkV_X9_296 : mxLkV RX9 296 yX1_countFaults cX1_countFaults 4 (some .int) 1 := ⟨Or.inr ⟨"ToplistHouse", (by decide +kernel)⟩, ⟨(by decide +kernel), (by decide +kernel)⟩, (by decide +kernel), (by decide +kernel), by decide, by decide, by decide +kernel⟩
theorem fl_X10_9 : mxFld RX10 9 10 0 (.array .int) true := ⟨RX10, TX10, 16, rfl, by decide, by decide +kernel, rfl, Or.inl (by decide +kernel)⟩
theorem kB108 : (Int8.ofInt (108)).toInt32 = 108 := by decide +kernel
theorem kB109 : (Int8.ofInt (109)).toInt32 = 109 := by decide +kernel
theorem kB110 : (Int8.ofInt (110)).toInt32 = 110 := by decide +kernel
theorem kB111 : (Int8.ofInt (111)).toInt32 = 111 := by decide +kernel
theorem kS221 : (Int16.ofInt (221)).toInt32 = 221 := by decide +kernel
theorem kS225 : (Int16.ofInt (225)).toInt32 = 225 := by decide +kernel
theorem kS229 : (Int16.ofInt (229)).toInt32 = 229 := by decide +kernel
theorem oi_X10_3 : Cond.methodLink RX10 3 Lib.objectInit ∈ mxAW ∧ Cond.instanceMethod Lib.objectInit ∈ mxAW ∧ Cond.code Lib.objectInit ⟨#[0xb1]⟩ 1 none ∈ mxAW := ⟨(by decide +kernel), (by decide +kernel), (by decide +kernel)⟩
theorem kS230 : (Int16.ofInt (230)).toInt32 = 230 := by decide +kernel
theorem fl_X10_61 : mxFld RX10 61 10 3 (.int) false := ⟨RX10, TX10, 16, rfl, by decide, by decide +kernel, rfl, Or.inl (by decide +kernel)⟩
theorem lkS_X10_65 : mxLkS RX10 65 yX10_in cX10_in 3 (some .boolean) 3 := ⟨Or.inl (by decide +kernel), (by decide +kernel), (by decide +kernel), (by decide +kernel), by decide, by decide, by decide +kernel⟩
theorem kB19 : (Int8.ofInt (19)).toInt32 = 19 := by decide +kernel
theorem lkV_X10_69 : mxLkV RX10 69 yX10_mark cX10_mark 3 (some .int) 2 := ⟨Or.inl (by decide +kernel), ⟨(by decide +kernel), (by decide +kernel)⟩, (by decide +kernel), (by decide +kernel), by decide, by decide, by decide +kernel⟩
theorem lkV_X10_73 : mxLkV RX10 73 yX10_has cX10_has 3 (some .boolean) 2 := ⟨Or.inl (by decide +kernel), ⟨(by decide +kernel), (by decide +kernel)⟩, (by decide +kernel), (by decide +kernel), by decide, by decide, by decide +kernel⟩
theorem lkV_X10_77 : mxLkV RX10 77 yX10_items cX10_items 4 (some .int) 1 := ⟨Or.inl (by decide +kernel), ⟨(by decide +kernel), (by decide +kernel)⟩, (by decide +kernel), (by decide +kernel), by decide, by decide, by decide +kernel⟩
theorem mxx_X10_81 : Cond.methodLink RX10 81 Lib.Math.max.name ∈ mxAW := (by decide +kernel)
theorem lkV_X10_86 : mxLkV RX10 86 yX10_place cX10_place 5 (some .int) 2 := ⟨Or.inl (by decide +kernel), ⟨(by decide +kernel), (by decide +kernel)⟩, (by decide +kernel), (by decide +kernel), by decide, by decide, by decide +kernel⟩
theorem fl_X10_16 : mxFld RX10 16 10 4 (.array .int) true := ⟨RX10, TX10, 16, rfl, by decide, by decide +kernel, rfl, Or.inl (by decide +kernel)⟩
theorem kB105 : (Int8.ofInt (105)).toInt32 = 105 := by decide +kernel
theorem lkV_X10_89 : mxLkV RX10 89 yX10_weighted cX10_weighted 3 (some .int) 2 := ⟨Or.inl (by decide +kernel), ⟨(by decide +kernel), (by decide +kernel)⟩, (by decide +kernel), (by decide +kernel), by decide, by decide, by decide +kernel⟩
theorem lkV_X10_92 : mxLkV RX10 92 yX10_ruled cX10_ruled 5 (some .int) 0 := ⟨Or.inl (by decide +kernel), ⟨(by decide +kernel), (by decide +kernel)⟩, (by decide +kernel), (by decide +kernel), by decide, by decide, by decide +kernel⟩
theorem lkV_X10_96 : mxLkV RX10 96 yX10_isRead cX10_isRead 4 (some .boolean) 3 := ⟨Or.inl (by decide +kernel), ⟨(by decide +kernel), (by decide +kernel)⟩, (by decide +kernel), (by decide +kernel), by decide, by decide, by decide +kernel⟩
theorem lkV_X10_99 : mxLkV RX10 99 yX10_thingIn cX10_thingIn 4 (some .int) 2 := ⟨Or.inl (by decide +kernel), ⟨(by decide +kernel), (by decide +kernel)⟩, (by decide +kernel), (by decide +kernel), by decide, by decide, by decide +kernel⟩
theorem lkV_X10_102 : mxLkV RX10 102 yX10_lastMark cX10_lastMark 3 (some .int) 2 := ⟨Or.inl (by decide +kernel), ⟨(by decide +kernel), (by decide +kernel)⟩, (by decide +kernel), (by decide +kernel), by decide, by decide, by decide +kernel⟩
theorem lkV_X10_105 : mxLkV RX10 105 yX10_isReadAt cX10_isReadAt 5 (some .boolean) 2 := ⟨Or.inl (by decide +kernel), ⟨(by decide +kernel), (by decide +kernel)⟩, (by decide +kernel), (by decide +kernel), by decide, by decide, by decide +kernel⟩
theorem lkV_X10_108 : mxLkV RX10 108 yX10_valueOf cX10_valueOf 3 (some .int) 1 := ⟨Or.inl (by decide +kernel), ⟨(by decide +kernel), (by decide +kernel)⟩, (by decide +kernel), (by decide +kernel), by decide, by decide, by decide +kernel⟩
theorem lkV_X10_111 : mxLkV RX10 111 yX10_longest cX10_longest 3 (some .int) 0 := ⟨Or.inl (by decide +kernel), ⟨(by decide +kernel), (by decide +kernel)⟩, (by decide +kernel), (by decide +kernel), by decide, by decide, by decide +kernel⟩
theorem fl_X10_19 : mxFld RX10 19 10 5 (.array .int) true := ⟨RX10, TX10, 16, rfl, by decide, by decide +kernel, rfl, Or.inl (by decide +kernel)⟩
theorem lkV_X10_114 : mxLkV RX10 114 yX10_ranks cX10_ranks 7 (some .int) 2 := ⟨Or.inl (by decide +kernel), ⟨(by decide +kernel), (by decide +kernel)⟩, (by decide +kernel), (by decide +kernel), by decide, by decide, by decide +kernel⟩
theorem lkV_X10_118 : mxLkV RX10 118 yX10_limitAt cX10_limitAt 3 (some .int) 1 := ⟨Or.inl (by decide +kernel), ⟨(by decide +kernel), (by decide +kernel)⟩, (by decide +kernel), (by decide +kernel), by decide, by decide, by decide +kernel⟩
theorem fl_X10_43 : mxFld RX10 43 10 13 (.array .boolean) true := ⟨RX10, TX10, 16, rfl, by decide, by decide +kernel, rfl, Or.inl (by decide +kernel)⟩
theorem fl_X10_47 : mxFld RX10 47 10 14 (.array .int) true := ⟨RX10, TX10, 16, rfl, by decide, by decide +kernel, rfl, Or.inl (by decide +kernel)⟩
theorem fl_X10_50 : mxFld RX10 50 10 15 (.array .int) true := ⟨RX10, TX10, 16, rfl, by decide, by decide +kernel, rfl, Or.inl (by decide +kernel)⟩
theorem lkV_X10_121 : mxLkV RX10 121 yX10_lowerAt cX10_lowerAt 4 (some .int) 2 := ⟨Or.inl (by decide +kernel), ⟨(by decide +kernel), (by decide +kernel)⟩, (by decide +kernel), (by decide +kernel), by decide, by decide, by decide +kernel⟩
theorem lkV_X10_124 : mxLkV RX10 124 yX10_upperAt cX10_upperAt 4 (some .int) 2 := ⟨Or.inl (by decide +kernel), ⟨(by decide +kernel), (by decide +kernel)⟩, (by decide +kernel), (by decide +kernel), by decide, by decide, by decide +kernel⟩
theorem lkV_X10_127 : mxLkV RX10 127 yX10_laysBounds cX10_laysBounds 3 (none) 1 := ⟨Or.inl (by decide +kernel), ⟨(by decide +kernel), (by decide +kernel)⟩, (by decide +kernel), (by decide +kernel), by decide, by decide, by decide +kernel⟩
theorem lkV_X10_131 : mxLkV RX10 131 yX10_areSure cX10_areSure 9 (some .boolean) 2 := ⟨Or.inl (by decide +kernel), ⟨(by decide +kernel), (by decide +kernel)⟩, (by decide +kernel), (by decide +kernel), by decide, by decide, by decide +kernel⟩
theorem mnn_X10_134 : Cond.methodLink RX10 134 Lib.Math.min.name ∈ mxAW := (by decide +kernel)
theorem lkV_X10_137 : mxLkV RX10 137 yX10_key cX10_key 3 (some .int) 2 := ⟨Or.inl (by decide +kernel), ⟨(by decide +kernel), (by decide +kernel)⟩, (by decide +kernel), (by decide +kernel), by decide, by decide, by decide +kernel⟩
theorem lkV_X10_140 : mxLkV RX10 140 yX10_keysOf cX10_keysOf 7 (some .int) 2 := ⟨Or.inl (by decide +kernel), ⟨(by decide +kernel), (by decide +kernel)⟩, (by decide +kernel), (by decide +kernel), by decide, by decide, by decide +kernel⟩
theorem fl_X10_31 : mxFld RX10 31 10 9 (.array .int) true := ⟨RX10, TX10, 16, rfl, by decide, by decide +kernel, rfl, Or.inl (by decide +kernel)⟩
theorem fl_X10_25 : mxFld RX10 25 10 7 (.array .int) true := ⟨RX10, TX10, 16, rfl, by decide, by decide +kernel, rfl, Or.inl (by decide +kernel)⟩
theorem fl_X10_28 : mxFld RX10 28 10 8 (.array .int) true := ⟨RX10, TX10, 16, rfl, by decide, by decide +kernel, rfl, Or.inl (by decide +kernel)⟩
theorem lkS_X10_143 : mxLkS RX10 143 yX10_compared cX10_compared 6 (some .int) 4 := ⟨Or.inl (by decide +kernel), (by decide +kernel), (by decide +kernel), (by decide +kernel), by decide, by decide, by decide +kernel⟩
theorem fl_X10_34 : mxFld RX10 34 10 10 (.array .int) true := ⟨RX10, TX10, 16, rfl, by decide, by decide +kernel, rfl, Or.inl (by decide +kernel)⟩
theorem lkV_X10_147 : mxLkV RX10 147 yX10_isKnown cX10_isKnown 4 (some .boolean) 1 := ⟨Or.inl (by decide +kernel), ⟨(by decide +kernel), (by decide +kernel)⟩, (by decide +kernel), (by decide +kernel), by decide, by decide, by decide +kernel⟩
theorem lkV_X10_151 : mxLkV RX10 151 yX10_preferring cX10_preferring 5 (some .int) 2 := ⟨Or.inl (by decide +kernel), ⟨(by decide +kernel), (by decide +kernel)⟩, (by decide +kernel), (by decide +kernel), by decide, by decide, by decide +kernel⟩
theorem lkV_X10_154 : mxLkV RX10 154 yX10_beats cX10_beats 3 (some .boolean) 2 := ⟨Or.inl (by decide +kernel), ⟨(by decide +kernel), (by decide +kernel)⟩, (by decide +kernel), (by decide +kernel), by decide, by decide, by decide +kernel⟩
theorem fl_X10_37 : mxFld RX10 37 10 11 (.array .int) true := ⟨RX10, TX10, 16, rfl, by decide, by decide +kernel, rfl, Or.inl (by decide +kernel)⟩
theorem fl_X10_40 : mxFld RX10 40 10 12 (.array .int) true := ⟨RX10, TX10, 16, rfl, by decide, by decide +kernel, rfl, Or.inl (by decide +kernel)⟩
theorem lkV_X10_157 : mxLkV RX10 157 yX10_laysOrder cX10_laysOrder 10 (none) 3 := ⟨Or.inl (by decide +kernel), ⟨(by decide +kernel), (by decide +kernel)⟩, (by decide +kernel), (by decide +kernel), by decide, by decide, by decide +kernel⟩
theorem lkV_X10_160 : mxLkV RX10 160 yX10_swapsOf cX10_swapsOf 5 (some .int) 1 := ⟨Or.inl (by decide +kernel), ⟨(by decide +kernel), (by decide +kernel)⟩, (by decide +kernel), (by decide +kernel), by decide, by decide, by decide +kernel⟩
theorem fl_X10_163 : mxFld RX10 163 10 2 (.int) false := ⟨RX10, TX10, 16, rfl, by decide, by decide +kernel, rfl, Or.inl (by decide +kernel)⟩
theorem fl_X10_13 : mxFld RX10 13 10 1 (.array .int) true := ⟨RX10, TX10, 16, rfl, by decide, by decide +kernel, rfl, Or.inl (by decide +kernel)⟩
theorem kS1610 : (Int16.ofInt (1610)).toInt32 = 1610 := by decide +kernel
theorem acp_X10_166 : Cond.methodLink RX10 166 arraycopyName ∈ mxAW := (by decide +kernel)
theorem lkS_X10_172 : mxLkS RX10 172 yX10_isRow cX10_isRow 1 (some .boolean) 1 := ⟨Or.inl (by decide +kernel), (by decide +kernel), (by decide +kernel), (by decide +kernel), by decide, by decide, by decide +kernel⟩
theorem lkV_X10_178 : mxLkV RX10 178 yX10_fails cX10_fails 2 (some .int) 1 := ⟨Or.inl (by decide +kernel), ⟨(by decide +kernel), (by decide +kernel)⟩, (by decide +kernel), (by decide +kernel), by decide, by decide, by decide +kernel⟩
theorem lkS_X10_175 : mxLkS RX10 175 yX10_isThing cX10_isThing 1 (some .boolean) 1 := ⟨Or.inl (by decide +kernel), (by decide +kernel), (by decide +kernel), (by decide +kernel), by decide, by decide, by decide +kernel⟩
theorem lkV_X10_181 : mxLkV RX10 181 yX10_keeps cX10_keeps 1 (none) 0 := ⟨Or.inl (by decide +kernel), ⟨(by decide +kernel), (by decide +kernel)⟩, (by decide +kernel), (by decide +kernel), by decide, by decide, by decide +kernel⟩
theorem lkV_X10_53 : mxLkV RX10 53 yX10_lays cX10_lays 4 (none) 3 := ⟨Or.inl (by decide +kernel), ⟨(by decide +kernel), (by decide +kernel)⟩, (by decide +kernel), (by decide +kernel), by decide, by decide, by decide +kernel⟩
theorem kB106 : (Int8.ofInt (106)).toInt32 = 106 := by decide +kernel
theorem kB107 : (Int8.ofInt (107)).toInt32 = 107 := by decide +kernel
theorem lkV_X10_57 : mxLkV RX10 57 yX10_begins cX10_begins 4 (none) 2 := ⟨Or.inl (by decide +kernel), ⟨(by decide +kernel), (by decide +kernel)⟩, (by decide +kernel), (by decide +kernel), by decide, by decide, by decide +kernel⟩
theorem kS211 : (Int16.ofInt (211)).toInt32 = 211 := by decide +kernel
theorem kB9 : (Int8.ofInt (9)).toInt32 = 9 := by decide +kernel
theorem lkV_X10_184 : mxLkV RX10 184 yX10_counts cX10_counts 4 (none) 1 := ⟨Or.inl (by decide +kernel), ⟨(by decide +kernel), (by decide +kernel)⟩, (by decide +kernel), (by decide +kernel), by decide, by decide, by decide +kernel⟩
theorem lkS_X10_187 : mxLkS RX10 187 yX10_isK cX10_isK 1 (some .boolean) 1 := ⟨Or.inl (by decide +kernel), (by decide +kernel), (by decide +kernel), (by decide +kernel), by decide, by decide, by decide +kernel⟩
theorem lkV_X10_190 : mxLkV RX10 190 yX10_stop cX10_stop 5 (some .int) 1 := ⟨Or.inl (by decide +kernel), ⟨(by decide +kernel), (by decide +kernel)⟩, (by decide +kernel), (by decide +kernel), by decide, by decide, by decide +kernel⟩
theorem lkV_X10_193 : mxLkV RX10 193 yX10_readsAt cX10_readsAt 4 (some .int) 1 := ⟨Or.inl (by decide +kernel), ⟨(by decide +kernel), (by decide +kernel)⟩, (by decide +kernel), (by decide +kernel), by decide, by decide, by decide +kernel⟩
theorem lkV_X10_196 : mxLkV RX10 196 yX10_plainStop cX10_plainStop 4 (some .int) 1 := ⟨Or.inl (by decide +kernel), ⟨(by decide +kernel), (by decide +kernel)⟩, (by decide +kernel), (by decide +kernel), by decide, by decide, by decide +kernel⟩
theorem fl_X10_22 : mxFld RX10 22 10 6 (.array .int) true := ⟨RX10, TX10, 16, rfl, by decide, by decide +kernel, rfl, Or.inl (by decide +kernel)⟩
theorem lkV_X10_199 : mxLkV RX10 199 yX10_allItems cX10_allItems 3 (some .int) 0 := ⟨Or.inl (by decide +kernel), ⟨(by decide +kernel), (by decide +kernel)⟩, (by decide +kernel), (by decide +kernel), by decide, by decide, by decide +kernel⟩
theorem lkV_X10_202 : mxLkV RX10 202 yX10_comparedRows cX10_comparedRows 5 (some .int) 2 := ⟨Or.inl (by decide +kernel), ⟨(by decide +kernel), (by decide +kernel)⟩, (by decide +kernel), (by decide +kernel), by decide, by decide, by decide +kernel⟩
theorem lkV_X10_205 : mxLkV RX10 205 yX10_both cX10_both 8 (some .int) 3 := ⟨Or.inl (by decide +kernel), ⟨(by decide +kernel), (by decide +kernel)⟩, (by decide +kernel), (by decide +kernel), by decide, by decide, by decide +kernel⟩
theorem lkV_X10_209 : mxLkV RX10 209 yX10_findsCandidates cX10_findsCandidates 3 (some .int) 0 := ⟨Or.inl (by decide +kernel), ⟨(by decide +kernel), (by decide +kernel)⟩, (by decide +kernel), (by decide +kernel), by decide, by decide, by decide +kernel⟩
theorem lkV_X10_212 : mxLkV RX10 212 yX10_comesBack cX10_comesBack 9 (some .boolean) 3 := ⟨Or.inl (by decide +kernel), ⟨(by decide +kernel), (by decide +kernel)⟩, (by decide +kernel), (by decide +kernel), by decide, by decide, by decide +kernel⟩
theorem lkV_X10_215 : mxLkV RX10 215 yX10_findsLeast cX10_findsLeast 7 (some .int) 1 := ⟨Or.inl (by decide +kernel), ⟨(by decide +kernel), (by decide +kernel)⟩, (by decide +kernel), (by decide +kernel), by decide, by decide, by decide +kernel⟩
theorem lkV_X10_218 : mxLkV RX10 218 yX10_inWindow cX10_inWindow 1 (some .int) 0 := ⟨Or.inl (by decide +kernel), ⟨(by decide +kernel), (by decide +kernel)⟩, (by decide +kernel), (by decide +kernel), by decide, by decide, by decide +kernel⟩
theorem lkV_X10_221 : mxLkV RX10 221 yX10_pair cX10_pair 11 (some .int) 3 := ⟨Or.inl (by decide +kernel), ⟨(by decide +kernel), (by decide +kernel)⟩, (by decide +kernel), (by decide +kernel), by decide, by decide, by decide +kernel⟩
theorem kS400 : (Int16.ofInt (400)).toInt32 = 400 := by decide +kernel
theorem lkV_X10_225 : mxLkV RX10 225 yX10_commonBefore cX10_commonBefore 6 (some .int) 3 := ⟨Or.inl (by decide +kernel), ⟨(by decide +kernel), (by decide +kernel)⟩, (by decide +kernel), (by decide +kernel), by decide, by decide, by decide +kernel⟩
theorem cf_X10_228 : Cond.constantFloat RX10 228 1120403456 ∈ mxAW := (by decide +kernel)
