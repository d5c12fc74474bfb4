/-! the mini machine: one row an instruction, those that leave the heap alone -/
section MG1
variable {l : Launch} {Z : mxZ} {X : mxX} {own : String} {cc : ByteArray} {nL k n pc : Nat} {ls : List (Option Value)} {st : List Value} {h : mxH}
theorem mG_iload {i : Nat} {x : Int32} (C : mxC l Z X own cc nL) (hd : decode cc pc = .ok (.iload i, 2)) (hl : mxGet ls i = some (.int x)) (g : mG l Z X nL k n (pc + 2) ls (.int x :: st) h) : mG l Z X nL k n pc ls st h := by
  obtain ⟨p, e, R, s, m, args, below, meth, c, Q⟩ := X
  intro H locs lr hH hL hlr
  exact lv_iload C.1 C.2.1 hd (hlr.2.2 i _ hl) (g H locs lr hH hL hlr)
theorem mG_iload_n {i : Fin 4} {x : Int32} (C : mxC l Z X own cc nL) (hd : decode cc pc = .ok (.iload_n i, 1)) (hl : mxGet ls i.val = some (.int x)) (g : mG l Z X nL k n (pc + 1) ls (.int x :: st) h) : mG l Z X nL k n pc ls st h := by
  obtain ⟨p, e, R, s, m, args, below, meth, c, Q⟩ := X
  intro H locs lr hH hL hlr
  exact lv_iload_n C.1 C.2.1 hd rfl (hlr.2.2 _ _ hl) (g H locs lr hH hL hlr)
theorem mG_aload {i : Nat} {x : Nat} (C : mxC l Z X own cc nL) (hd : decode cc pc = .ok (.aload i, 2)) (hl : mxGet ls i = some (.ref x)) (g : mG l Z X nL k n (pc + 2) ls (.ref x :: st) h) : mG l Z X nL k n pc ls st h := by
  obtain ⟨p, e, R, s, m, args, below, meth, c, Q⟩ := X
  intro H locs lr hH hL hlr
  exact lv_aload C.1 C.2.1 hd (hlr.2.2 i _ hl) (g H locs lr hH hL hlr)
theorem mG_aload_n {i : Fin 4} {x : Nat} (C : mxC l Z X own cc nL) (hd : decode cc pc = .ok (.aload_n i, 1)) (hl : mxGet ls i.val = some (.ref x)) (g : mG l Z X nL k n (pc + 1) ls (.ref x :: st) h) : mG l Z X nL k n pc ls st h := by
  obtain ⟨p, e, R, s, m, args, below, meth, c, Q⟩ := X
  intro H locs lr hH hL hlr
  exact lv_aload_n C.1 C.2.1 hd rfl (hlr.2.2 _ _ hl) (g H locs lr hH hL hlr)
theorem mG_dload {i : Nat} {x : UInt64} (C : mxC l Z X own cc nL) (hd : decode cc pc = .ok (.dload i, 2)) (hl : mxGet ls i = some (.double x)) (g : mG l Z X nL k n (pc + 2) ls (.double x :: st) h) : mG l Z X nL k n pc ls st h := by
  obtain ⟨p, e, R, s, m, args, below, meth, c, Q⟩ := X
  intro H locs lr hH hL hlr
  exact lv_dload C.1 C.2.1 hd (hlr.2.2 i _ hl) (g H locs lr hH hL hlr)
theorem mG_dload_n {i : Fin 4} {x : UInt64} (C : mxC l Z X own cc nL) (hd : decode cc pc = .ok (.dload_n i, 1)) (hl : mxGet ls i.val = some (.double x)) (g : mG l Z X nL k n (pc + 1) ls (.double x :: st) h) : mG l Z X nL k n pc ls st h := by
  obtain ⟨p, e, R, s, m, args, below, meth, c, Q⟩ := X
  intro H locs lr hH hL hlr
  exact lv_dload_n C.1 C.2.1 hd rfl (hlr.2.2 _ _ hl) (g H locs lr hH hL hlr)
theorem mG_istore {i : Nat} {x : Int32} (C : mxC l Z X own cc nL) (hd : decode cc pc = .ok (.istore i, 2)) (hi : i < nL) (hf : mxFree ls i = true) (g : mG l Z X nL k n (pc + 2) (mxPut ls i (some (.int x))) st h) : mG l Z X nL k n pc ls (.int x :: st) h := by
  obtain ⟨p, e, R, s, m, args, below, meth, c, Q⟩ := X
  intro H locs lr hH hL hlr
  exact lv_istore C.1 C.2.1 hd (hlr.has nL) hi rfl (fun ls' h' => g H locs ls' hH hL (hlr.put1 (v := .int x) hf h'))
theorem mG_istore_n {i : Fin 4} {x : Int32} (C : mxC l Z X own cc nL) (hd : decode cc pc = .ok (.istore_n i, 1)) (hi : i.val < nL) (hf : mxFree ls i.val = true) (g : mG l Z X nL k n (pc + 1) (mxPut ls i.val (some (.int x))) st h) : mG l Z X nL k n pc ls (.int x :: st) h := by
  obtain ⟨p, e, R, s, m, args, below, meth, c, Q⟩ := X
  intro H locs lr hH hL hlr
  exact lv_istore_n C.1 C.2.1 hd rfl (hlr.has nL) hi rfl (fun ls' h' => g H locs ls' hH hL (hlr.put1 (v := .int x) hf h'))
theorem mG_astore {i : Nat} {x : Nat} (C : mxC l Z X own cc nL) (hd : decode cc pc = .ok (.astore i, 2)) (hi : i < nL) (hf : mxFree ls i = true) (g : mG l Z X nL k n (pc + 2) (mxPut ls i (some (.ref x))) st h) : mG l Z X nL k n pc ls (.ref x :: st) h := by
  obtain ⟨p, e, R, s, m, args, below, meth, c, Q⟩ := X
  intro H locs lr hH hL hlr
  exact lv_astore C.1 C.2.1 hd (hlr.has nL) hi rfl (fun ls' h' => g H locs ls' hH hL (hlr.put1 (v := .ref x) hf h'))
theorem mG_astore_n {i : Fin 4} {x : Nat} (C : mxC l Z X own cc nL) (hd : decode cc pc = .ok (.astore_n i, 1)) (hi : i.val < nL) (hf : mxFree ls i.val = true) (g : mG l Z X nL k n (pc + 1) (mxPut ls i.val (some (.ref x))) st h) : mG l Z X nL k n pc ls (.ref x :: st) h := by
  obtain ⟨p, e, R, s, m, args, below, meth, c, Q⟩ := X
  intro H locs lr hH hL hlr
  exact lv_astore_n C.1 C.2.1 hd rfl (hlr.has nL) hi rfl (fun ls' h' => g H locs ls' hH hL (hlr.put1 (v := .ref x) hf h'))
theorem mG_dstore {i : Nat} {x : UInt64} (C : mxC l Z X own cc nL) (hd : decode cc pc = .ok (.dstore i, 2)) (hi : i + 1 < nL) (hf : mxFree ls i = true) (g : mG l Z X nL k n (pc + 2) (mxPut (mxPut ls (i + 1) none) i (some (.double x))) st h) : mG l Z X nL k n pc ls (.double x :: st) h := by
  obtain ⟨p, e, R, s, m, args, below, meth, c, Q⟩ := X
  intro H locs lr hH hL hlr
  exact lv_dstore C.1 C.2.1 hd (hlr.has nL) hi rfl (fun ls' h' => g H locs ls' hH hL (hlr.put2 (v := .double x) hf h'))
theorem mG_iinc {i : Nat} {d : Int} {x : Int32} (C : mxC l Z X own cc nL) (hd : decode cc pc = .ok (.iinc i d, 3)) (hl : mxGet ls i = some (.int x)) (hi : i < nL) (hf : mxFree ls i = true) (g : mG l Z X nL k n (pc + 3) (mxPut ls i (some (.int (x + Int32.ofInt d)))) st h) : mG l Z X nL k n pc ls st h := by
  obtain ⟨p, e, R, s, m, args, below, meth, c, Q⟩ := X
  intro H locs lr hH hL hlr
  have h0 : lv_has lr nL ((i, .int x) :: mxLst Z ls nL) := ⟨hlr.1, hlr.2.1, fun q hq => by
    rcases List.mem_cons.mp hq with e1 | hq
    · rw [e1]; exact hlr.2.2 i _ hl
    · exact (hlr.has nL).2.2 q hq⟩
  refine lv_iinc (k := 0) C.1 C.2.1 hd h0 rfl rfl hi rfl (fun ls' h' => g H locs ls' hH hL (hlr.put1 (v := .int (x + Int32.ofInt d)) hf ⟨h'.1, h'.2.1, fun q hq => h'.2.2 q ?_⟩))
  rcases List.mem_cons.mp hq with e1 | hq
  · rw [e1]; exact List.mem_cons_self
  · exact List.mem_cons_of_mem _ (List.mem_filter.mpr ⟨List.mem_cons_of_mem _ (List.mem_filter.mp hq).1, (List.mem_filter.mp hq).2⟩)
theorem mG_iconst {d : Int} (C : mxC l Z X own cc nL) (hd : decode cc pc = .ok (.iconst d, 1)) (g : mG l Z X nL k n (pc + 1) ls (.int (Int32.ofInt d) :: st) h) : mG l Z X nL k n pc ls st h := by
  obtain ⟨p, e, R, s, m, args, below, meth, c, Q⟩ := X
  intro H locs lr hH hL hlr
  exact lv_iconst C.1 C.2.1 hd rfl (g H locs lr hH hL hlr)
theorem mG_bipush {d : Int} (C : mxC l Z X own cc nL) (hd : decode cc pc = .ok (.bipush d, 2)) (g : mG l Z X nL k n (pc + 2) ls (.int (Int8.ofInt d).toInt32 :: st) h) : mG l Z X nL k n pc ls st h := by
  obtain ⟨p, e, R, s, m, args, below, meth, c, Q⟩ := X
  intro H locs lr hH hL hlr
  exact lv_bipush C.1 C.2.1 hd rfl (g H locs lr hH hL hlr)
theorem mG_sipush {d : Int} (C : mxC l Z X own cc nL) (hd : decode cc pc = .ok (.sipush d, 3)) (g : mG l Z X nL k n (pc + 3) ls (.int (Int16.ofInt d).toInt32 :: st) h) : mG l Z X nL k n pc ls st h := by
  obtain ⟨p, e, R, s, m, args, below, meth, c, Q⟩ := X
  intro H locs lr hH hL hlr
  exact lv_sipush C.1 C.2.1 hd rfl (g H locs lr hH hL hlr)
theorem mG_lconst {d : Fin 2} (C : mxC l Z X own cc nL) (hd : decode cc pc = .ok (.lconst d, 1)) (g : mG l Z X nL k n (pc + 1) ls (.long (Int64.ofNat d.val) :: st) h) : mG l Z X nL k n pc ls st h := by
  obtain ⟨p, e, R, s, m, args, below, meth, c, Q⟩ := X
  intro H locs lr hH hL hlr
  exact lv_lconst C.1 C.2.1 hd rfl (g H locs lr hH hL hlr)
theorem mG_dconst0 (C : mxC l Z X own cc nL) (hd : decode cc pc = .ok (.dconst 0, 1)) (g : mG l Z X nL k n (pc + 1) ls (.double FP.dconst0 :: st) h) : mG l Z X nL k n pc ls st h := by
  obtain ⟨p, e, R, s, m, args, below, meth, c, Q⟩ := X
  intro H locs lr hH hL hlr
  exact lv_dconst0 C.1 C.2.1 hd (g H locs lr hH hL hlr)
theorem mG_ldcf {i : Nat} {v : UInt32} (C : mxC l Z X own cc nL) (hd : decode cc pc = .ok (.ldc i, 2)) (hw : Cond.constantFloat own i v ∈ mxAW) (g : mG l Z X nL k n (pc + 2) ls (.float v :: st) h) : mG l Z X nL k n pc ls st h := by
  obtain ⟨p, e, R, s, m, args, below, meth, c, Q⟩ := X
  intro H locs lr hH hL hlr
  exact lv_ldcf C.1 C.2.1 C.2.2.2.1 (C.2.2.2.2.1 _ hw) hd (g H locs lr hH hL hlr)
theorem mG_iadd {x y : Int32} (C : mxC l Z X own cc nL) (hd : decode cc pc = .ok (.iadd, 1)) (g : mG l Z X nL k n (pc + 1) ls (.int (x + y) :: st) h) : mG l Z X nL k n pc ls (.int y :: .int x :: st) h := by
  obtain ⟨p, e, R, s, m, args, below, meth, c, Q⟩ := X
  intro H locs lr hH hL hlr
  exact lv_iadd C.1 C.2.1 hd (g H locs lr hH hL hlr)
theorem mG_isub {x y : Int32} (C : mxC l Z X own cc nL) (hd : decode cc pc = .ok (.isub, 1)) (g : mG l Z X nL k n (pc + 1) ls (.int (x - y) :: st) h) : mG l Z X nL k n pc ls (.int y :: .int x :: st) h := by
  obtain ⟨p, e, R, s, m, args, below, meth, c, Q⟩ := X
  intro H locs lr hH hL hlr
  exact lv_isub C.1 C.2.1 hd (g H locs lr hH hL hlr)
theorem mG_imul {x y : Int32} (C : mxC l Z X own cc nL) (hd : decode cc pc = .ok (.imul, 1)) (g : mG l Z X nL k n (pc + 1) ls (.int (x * y) :: st) h) : mG l Z X nL k n pc ls (.int y :: .int x :: st) h := by
  obtain ⟨p, e, R, s, m, args, below, meth, c, Q⟩ := X
  intro H locs lr hH hL hlr
  exact lv_imul C.1 C.2.1 hd (g H locs lr hH hL hlr)
theorem mG_iand {x y : Int32} (C : mxC l Z X own cc nL) (hd : decode cc pc = .ok (.iand, 1)) (g : mG l Z X nL k n (pc + 1) ls (.int (x &&& y) :: st) h) : mG l Z X nL k n pc ls (.int y :: .int x :: st) h := by
  obtain ⟨p, e, R, s, m, args, below, meth, c, Q⟩ := X
  intro H locs lr hH hL hlr
  exact lv_iand C.1 C.2.1 hd (g H locs lr hH hL hlr)
theorem mG_ior {x y : Int32} (C : mxC l Z X own cc nL) (hd : decode cc pc = .ok (.ior, 1)) (g : mG l Z X nL k n (pc + 1) ls (.int (x ||| y) :: st) h) : mG l Z X nL k n pc ls (.int y :: .int x :: st) h := by
  obtain ⟨p, e, R, s, m, args, below, meth, c, Q⟩ := X
  intro H locs lr hH hL hlr
  exact lv_ior C.1 C.2.1 hd (g H locs lr hH hL hlr)
theorem mG_ixor {x y : Int32} (C : mxC l Z X own cc nL) (hd : decode cc pc = .ok (.ixor, 1)) (g : mG l Z X nL k n (pc + 1) ls (.int (x ^^^ y) :: st) h) : mG l Z X nL k n pc ls (.int y :: .int x :: st) h := by
  obtain ⟨p, e, R, s, m, args, below, meth, c, Q⟩ := X
  intro H locs lr hH hL hlr
  exact lv_ixor C.1 C.2.1 hd (g H locs lr hH hL hlr)
theorem mG_ishl {x y : Int32} (C : mxC l Z X own cc nL) (hd : decode cc pc = .ok (.ishl, 1)) (g : mG l Z X nL k n (pc + 1) ls (.int (x <<< (y &&& 31)) :: st) h) : mG l Z X nL k n pc ls (.int y :: .int x :: st) h := by
  obtain ⟨p, e, R, s, m, args, below, meth, c, Q⟩ := X
  intro H locs lr hH hL hlr
  exact lv_ishl C.1 C.2.1 hd (g H locs lr hH hL hlr)
theorem mG_ishr {x y : Int32} (C : mxC l Z X own cc nL) (hd : decode cc pc = .ok (.ishr, 1)) (g : mG l Z X nL k n (pc + 1) ls (.int (x >>> (y &&& 31)) :: st) h) : mG l Z X nL k n pc ls (.int y :: .int x :: st) h := by
  obtain ⟨p, e, R, s, m, args, below, meth, c, Q⟩ := X
  intro H locs lr hH hL hlr
  exact lv_ishr C.1 C.2.1 hd (g H locs lr hH hL hlr)
theorem mG_idiv {x y : Int32} (C : mxC l Z X own cc nL) (hd : decode cc pc = .ok (.idiv, 1)) (hne : ¬ y = 0) (g : mG l Z X nL k n (pc + 1) ls (.int (x / y) :: st) h) : mG l Z X nL k n pc ls (.int y :: .int x :: st) h := by
  obtain ⟨p, e, R, s, m, args, below, meth, c, Q⟩ := X
  intro H locs lr hH hL hlr
  exact lv_idiv C.1 C.2.1 hd hne (g H locs lr hH hL hlr)
theorem mG_irem {x y : Int32} (C : mxC l Z X own cc nL) (hd : decode cc pc = .ok (.irem, 1)) (hne : ¬ y = 0) (g : mG l Z X nL k n (pc + 1) ls (.int (x - x / y * y) :: st) h) : mG l Z X nL k n pc ls (.int y :: .int x :: st) h := by
  obtain ⟨p, e, R, s, m, args, below, meth, c, Q⟩ := X
  intro H locs lr hH hL hlr
  exact lv_irem C.1 C.2.1 hd hne (g H locs lr hH hL hlr)
theorem mG_i2l {x : Int32} (C : mxC l Z X own cc nL) (hd : decode cc pc = .ok (.i2l, 1)) (g : mG l Z X nL k n (pc + 1) ls (.long x.toInt64 :: st) h) : mG l Z X nL k n pc ls (.int x :: st) h := by
  obtain ⟨p, e, R, s, m, args, below, meth, c, Q⟩ := X
  intro H locs lr hH hL hlr
  exact lv_i2l C.1 C.2.1 hd rfl (g H locs lr hH hL hlr)
theorem mG_i2d {x : Int32} (C : mxC l Z X own cc nL) (hd : decode cc pc = .ok (.i2d, 1)) (g : mG l Z X nL k n (pc + 1) ls (.double (FP.i2d x) :: st) h) : mG l Z X nL k n pc ls (.int x :: st) h := by
  obtain ⟨p, e, R, s, m, args, below, meth, c, Q⟩ := X
  intro H locs lr hH hL hlr
  exact lv_i2d C.1 C.2.1 hd (g H locs lr hH hL hlr)
theorem mG_i2f {x : Int32} (C : mxC l Z X own cc nL) (hd : decode cc pc = .ok (.i2f, 1)) (g : mG l Z X nL k n (pc + 1) ls (.float (FP.i2f x) :: st) h) : mG l Z X nL k n pc ls (.int x :: st) h := by
  obtain ⟨p, e, R, s, m, args, below, meth, c, Q⟩ := X
  intro H locs lr hH hL hlr
  exact lv_i2f C.1 C.2.1 hd (g H locs lr hH hL hlr)
theorem mG_f2d {x : UInt32} (C : mxC l Z X own cc nL) (hd : decode cc pc = .ok (.f2d, 1)) (hne : vf_n64 (FP.f2d x)) (g : mG l Z X nL k n (pc + 1) ls (.double (FP.f2d x) :: st) h) : mG l Z X nL k n pc ls (.float x :: st) h := by
  obtain ⟨p, e, R, s, m, args, below, meth, c, Q⟩ := X
  intro H locs lr hH hL hlr
  exact lv_f2d C.1 C.2.1 hd hne (g H locs lr hH hL hlr)
theorem mG_ddiv {x y : UInt64} (C : mxC l Z X own cc nL) (hd : decode cc pc = .ok (.ddiv, 1)) (hne : vf_n64 (FP.ddiv x y)) (g : mG l Z X nL k n (pc + 1) ls (.double (FP.ddiv x y) :: st) h) : mG l Z X nL k n pc ls (.double y :: .double x :: st) h := by
  obtain ⟨p, e, R, s, m, args, below, meth, c, Q⟩ := X
  intro H locs lr hH hL hlr
  exact lv_ddiv C.1 C.2.1 hd hne (g H locs lr hH hL hlr)
theorem mG_fdiv {x y : UInt32} (C : mxC l Z X own cc nL) (hd : decode cc pc = .ok (.fdiv, 1)) (hne : vf_n32 (FP.fdiv x y)) (g : mG l Z X nL k n (pc + 1) ls (.float (FP.fdiv x y) :: st) h) : mG l Z X nL k n pc ls (.float y :: .float x :: st) h := by
  obtain ⟨p, e, R, s, m, args, below, meth, c, Q⟩ := X
  intro H locs lr hH hL hlr
  exact lv_fdiv C.1 C.2.1 hd hne (g H locs lr hH hL hlr)
theorem mG_dcmp {x y : UInt64} {op : CmpOp} (C : mxC l Z X own cc nL) (hd : decode cc pc = .ok (.dcmp op, 1)) (g : mG l Z X nL k n (pc + 1) ls (.int (Op.cmpValue (FP.dcmp x y) op) :: st) h) : mG l Z X nL k n pc ls (.double y :: .double x :: st) h := by
  obtain ⟨p, e, R, s, m, args, below, meth, c, Q⟩ := X
  intro H locs lr hH hL hlr
  exact lv_dcmp C.1 C.2.1 hd (g H locs lr hH hL hlr)
theorem mG_lcmp {x y : Int64} (C : mxC l Z X own cc nL) (hd : decode cc pc = .ok (.lcmp, 1)) (g : mG l Z X nL k n (pc + 1) ls (.int (lg_cmp x y) :: st) h) : mG l Z X nL k n pc ls (.long y :: .long x :: st) h := by
  obtain ⟨p, e, R, s, m, args, below, meth, c, Q⟩ := X
  intro H locs lr hH hL hlr
  exact W.lcmp C.1 C.2.1 hd (g H locs lr hH hL hlr)
theorem mG_dup {v : Value} (C : mxC l Z X own cc nL) (hd : decode cc pc = .ok (.dup, 1)) (hv : v.category = 1) (g : mG l Z X nL k n (pc + 1) ls (v :: v :: st) h) : mG l Z X nL k n pc ls (v :: st) h := by
  obtain ⟨p, e, R, s, m, args, below, meth, c, Q⟩ := X
  intro H locs lr hH hL hlr
  exact lv_dup C.1 C.2.1 hd ((mxSh_cat Z v).trans hv) (g H locs lr hH hL hlr)
theorem mG_dup2 {v w : Value} (C : mxC l Z X own cc nL) (hd : decode cc pc = .ok (.dup2, 1)) (hv : v.category = 1) (hw : w.category = 1) (g : mG l Z X nL k n (pc + 1) ls (v :: w :: v :: w :: st) h) : mG l Z X nL k n pc ls (v :: w :: st) h := by
  obtain ⟨p, e, R, s, m, args, below, meth, c, Q⟩ := X
  intro H locs lr hH hL hlr
  exact lv_dup2_11 C.1 C.2.1 hd ((mxSh_cat Z v).trans hv) ((mxSh_cat Z w).trans hw) (g H locs lr hH hL hlr)
theorem mG_pop {v : Value} (C : mxC l Z X own cc nL) (hd : decode cc pc = .ok (.pop, 1)) (hv : v.category = 1) (g : mG l Z X nL k n (pc + 1) ls st h) : mG l Z X nL k n pc ls (v :: st) h := by
  obtain ⟨p, e, R, s, m, args, below, meth, c, Q⟩ := X
  intro H locs lr hH hL hlr
  exact lv_pop C.1 C.2.1 hd ((mxSh_cat Z v).trans hv) (g H locs lr hH hL hlr)
theorem mG_goto {off : Int} {tgt : Nat} (C : mxC l Z X own cc nL) (hd : decode cc pc = .ok (.goto off, 3)) (ht : (pc : Int) + off = (tgt : Int)) (g : mG l Z X nL k n tgt ls st h) : mG l Z X nL k n pc ls st h := by
  obtain ⟨p, e, R, s, m, args, below, meth, c, Q⟩ := X
  intro H locs lr hH hL hlr
  exact lv_goto C.1 C.2.1 hd ht (g H locs lr hH hL hlr)
theorem mG_ifnull {x : Nat} {off : Int} (C : mxC l Z X own cc nL) (hd : decode cc pc = .ok (.ifnull off, 3)) (g : mG l Z X nL k n (pc + 3) ls st h) : mG l Z X nL k n pc ls (.ref x :: st) h := by
  obtain ⟨p, e, R, s, m, args, below, meth, c, Q⟩ := X
  intro H locs lr hH hL hlr
  exact lv_ifnull C.1 C.2.1 hd (g H locs lr hH hL hlr)
theorem mG_ifnonnull {x : Nat} {off : Int} {tgt : Nat} (C : mxC l Z X own cc nL) (hd : decode cc pc = .ok (.ifnonnull off, 3)) (ht : (pc : Int) + off = (tgt : Int)) (g : mG l Z X nL k n tgt ls st h) : mG l Z X nL k n pc ls (.ref x :: st) h := by
  obtain ⟨p, e, R, s, m, args, below, meth, c, Q⟩ := X
  intro H locs lr hH hL hlr
  exact lv_ifnonnull C.1 C.2.1 hd ht (g H locs lr hH hL hlr)
theorem mG_if_eq {x : Int32} {off : Int} {tgt : Nat} (C : mxC l Z X own cc nL) (hd : decode cc pc = .ok (.ifCond .eq off, 3)) (ht : (pc : Int) + off = (tgt : Int)) (kt : x = 0 → mG l Z X nL k n tgt ls st h) (kf : ¬ x = 0 → mG l Z X nL k n (pc + 3) ls st h) : mG l Z X nL k n pc ls (.int x :: st) h := by
  obtain ⟨p, e, R, s, m, args, below, meth, c, Q⟩ := X
  intro H locs lr hH hL hlr
  exact lv_if_eq C.1 C.2.1 hd ht (fun q => kt q H locs lr hH hL hlr) (fun q => kf q H locs lr hH hL hlr)
theorem mG_if_ne {x : Int32} {off : Int} {tgt : Nat} (C : mxC l Z X own cc nL) (hd : decode cc pc = .ok (.ifCond .ne off, 3)) (ht : (pc : Int) + off = (tgt : Int)) (kt : ¬ x = 0 → mG l Z X nL k n tgt ls st h) (kf : x = 0 → mG l Z X nL k n (pc + 3) ls st h) : mG l Z X nL k n pc ls (.int x :: st) h := by
  obtain ⟨p, e, R, s, m, args, below, meth, c, Q⟩ := X
  intro H locs lr hH hL hlr
  exact lv_if_ne C.1 C.2.1 hd ht (fun q => kt q H locs lr hH hL hlr) (fun q => kf q H locs lr hH hL hlr)
theorem mG_if_lt {x : Int32} {off : Int} {tgt : Nat} (C : mxC l Z X own cc nL) (hd : decode cc pc = .ok (.ifCond .lt off, 3)) (ht : (pc : Int) + off = (tgt : Int)) (kt : x < 0 → mG l Z X nL k n tgt ls st h) (kf : ¬ x < 0 → mG l Z X nL k n (pc + 3) ls st h) : mG l Z X nL k n pc ls (.int x :: st) h := by
  obtain ⟨p, e, R, s, m, args, below, meth, c, Q⟩ := X
  intro H locs lr hH hL hlr
  exact lv_if_lt C.1 C.2.1 hd ht (fun q => kt q H locs lr hH hL hlr) (fun q => kf q H locs lr hH hL hlr)
theorem mG_if_ge {x : Int32} {off : Int} {tgt : Nat} (C : mxC l Z X own cc nL) (hd : decode cc pc = .ok (.ifCond .ge off, 3)) (ht : (pc : Int) + off = (tgt : Int)) (kt : 0 ≤ x → mG l Z X nL k n tgt ls st h) (kf : ¬ 0 ≤ x → mG l Z X nL k n (pc + 3) ls st h) : mG l Z X nL k n pc ls (.int x :: st) h := by
  obtain ⟨p, e, R, s, m, args, below, meth, c, Q⟩ := X
  intro H locs lr hH hL hlr
  exact lv_if_ge C.1 C.2.1 hd ht (fun q => kt q H locs lr hH hL hlr) (fun q => kf q H locs lr hH hL hlr)
theorem mG_if_gt {x : Int32} {off : Int} {tgt : Nat} (C : mxC l Z X own cc nL) (hd : decode cc pc = .ok (.ifCond .gt off, 3)) (ht : (pc : Int) + off = (tgt : Int)) (kt : 0 < x → mG l Z X nL k n tgt ls st h) (kf : ¬ 0 < x → mG l Z X nL k n (pc + 3) ls st h) : mG l Z X nL k n pc ls (.int x :: st) h := by
  obtain ⟨p, e, R, s, m, args, below, meth, c, Q⟩ := X
  intro H locs lr hH hL hlr
  exact lv_if_gt C.1 C.2.1 hd ht (fun q => kt q H locs lr hH hL hlr) (fun q => kf q H locs lr hH hL hlr)
theorem mG_if_le {x : Int32} {off : Int} {tgt : Nat} (C : mxC l Z X own cc nL) (hd : decode cc pc = .ok (.ifCond .le off, 3)) (ht : (pc : Int) + off = (tgt : Int)) (kt : x ≤ 0 → mG l Z X nL k n tgt ls st h) (kf : ¬ x ≤ 0 → mG l Z X nL k n (pc + 3) ls st h) : mG l Z X nL k n pc ls (.int x :: st) h := by
  obtain ⟨p, e, R, s, m, args, below, meth, c, Q⟩ := X
  intro H locs lr hH hL hlr
  exact lv_if_le C.1 C.2.1 hd ht (fun q => kt q H locs lr hH hL hlr) (fun q => kf q H locs lr hH hL hlr)
theorem mG_icmp_eq {x y : Int32} {off : Int} {tgt : Nat} (C : mxC l Z X own cc nL) (hd : decode cc pc = .ok (.if_icmp .eq off, 3)) (ht : (pc : Int) + off = (tgt : Int)) (kt : x = y → mG l Z X nL k n tgt ls st h) (kf : ¬ x = y → mG l Z X nL k n (pc + 3) ls st h) : mG l Z X nL k n pc ls (.int y :: .int x :: st) h := by
  obtain ⟨p, e, R, s, m, args, below, meth, c, Q⟩ := X
  intro H locs lr hH hL hlr
  exact lv_icmp_eq C.1 C.2.1 hd ht (fun q => kt q H locs lr hH hL hlr) (fun q => kf q H locs lr hH hL hlr)
theorem mG_icmp_ne {x y : Int32} {off : Int} {tgt : Nat} (C : mxC l Z X own cc nL) (hd : decode cc pc = .ok (.if_icmp .ne off, 3)) (ht : (pc : Int) + off = (tgt : Int)) (kt : ¬ x = y → mG l Z X nL k n tgt ls st h) (kf : x = y → mG l Z X nL k n (pc + 3) ls st h) : mG l Z X nL k n pc ls (.int y :: .int x :: st) h := by
  obtain ⟨p, e, R, s, m, args, below, meth, c, Q⟩ := X
  intro H locs lr hH hL hlr
  exact lv_icmp_ne C.1 C.2.1 hd ht (fun q => kt q H locs lr hH hL hlr) (fun q => kf q H locs lr hH hL hlr)
theorem mG_icmp_lt {x y : Int32} {off : Int} {tgt : Nat} (C : mxC l Z X own cc nL) (hd : decode cc pc = .ok (.if_icmp .lt off, 3)) (ht : (pc : Int) + off = (tgt : Int)) (kt : x < y → mG l Z X nL k n tgt ls st h) (kf : ¬ x < y → mG l Z X nL k n (pc + 3) ls st h) : mG l Z X nL k n pc ls (.int y :: .int x :: st) h := by
  obtain ⟨p, e, R, s, m, args, below, meth, c, Q⟩ := X
  intro H locs lr hH hL hlr
  exact lv_icmp_lt C.1 C.2.1 hd ht (fun q => kt q H locs lr hH hL hlr) (fun q => kf q H locs lr hH hL hlr)
theorem mG_icmp_ge {x y : Int32} {off : Int} {tgt : Nat} (C : mxC l Z X own cc nL) (hd : decode cc pc = .ok (.if_icmp .ge off, 3)) (ht : (pc : Int) + off = (tgt : Int)) (kt : y ≤ x → mG l Z X nL k n tgt ls st h) (kf : ¬ y ≤ x → mG l Z X nL k n (pc + 3) ls st h) : mG l Z X nL k n pc ls (.int y :: .int x :: st) h := by
  obtain ⟨p, e, R, s, m, args, below, meth, c, Q⟩ := X
  intro H locs lr hH hL hlr
  exact lv_icmp_ge C.1 C.2.1 hd ht (fun q => kt q H locs lr hH hL hlr) (fun q => kf q H locs lr hH hL hlr)
theorem mG_icmp_gt {x y : Int32} {off : Int} {tgt : Nat} (C : mxC l Z X own cc nL) (hd : decode cc pc = .ok (.if_icmp .gt off, 3)) (ht : (pc : Int) + off = (tgt : Int)) (kt : y < x → mG l Z X nL k n tgt ls st h) (kf : ¬ y < x → mG l Z X nL k n (pc + 3) ls st h) : mG l Z X nL k n pc ls (.int y :: .int x :: st) h := by
  obtain ⟨p, e, R, s, m, args, below, meth, c, Q⟩ := X
  intro H locs lr hH hL hlr
  exact lv_icmp_gt C.1 C.2.1 hd ht (fun q => kt q H locs lr hH hL hlr) (fun q => kf q H locs lr hH hL hlr)
theorem mG_icmp_le {x y : Int32} {off : Int} {tgt : Nat} (C : mxC l Z X own cc nL) (hd : decode cc pc = .ok (.if_icmp .le off, 3)) (ht : (pc : Int) + off = (tgt : Int)) (kt : x ≤ y → mG l Z X nL k n tgt ls st h) (kf : ¬ x ≤ y → mG l Z X nL k n (pc + 3) ls st h) : mG l Z X nL k n pc ls (.int y :: .int x :: st) h := by
  obtain ⟨p, e, R, s, m, args, below, meth, c, Q⟩ := X
  intro H locs lr hH hL hlr
  exact lv_icmp_le C.1 C.2.1 hd ht (fun q => kt q H locs lr hH hL hlr) (fun q => kf q H locs lr hH hL hlr)
end MG1
