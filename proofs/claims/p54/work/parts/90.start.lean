/-! THE CLAIM OUT OF ONE WALK OF THE LAW'S BODY. Your part is whole_start (and what it stands on); all else here is the same for every law, but numbers. -/
def R_law : String := "ToplistHouseLaw"
def lw_P (b : Addr) (xs : List Int32) (args : Array Value) (s : State) : Prop := args = #[.ref b] ∧ s.IntsAt b xs ∧ xs.length ≤ 260 ∧ (Jvm.Cond.and given_1 narrow_1).before args s = true
def lw_Q (_ : Array Value) (s : State) (o : Outcome) (t : State) : Prop := o = .returned (some (.int 1)) ∧ Framed s o t [] 661355 7117559
def lw_Z (below : List Frame) (a : Array Value) (s : State) : State → Prop := fun t => ∃ o, t.status = .running ∧ Ended t below o ∧ lw_Q a s o t
/-- the law's own end, with 1 on the stack, nothing written that was there before, its room as the claim has it -/
theorem lw_ret {p : Program} {l : Launch} {e : Env} {s : State} {m : MethodId} {below : List Frame} {meth : Method} {c : Code} {b : Nat} (hx : p.tables.exec = Jvm.exec) (hb : c.code = code) (hr : meth.sig.returnType = ret) (hlocks : meth.locks = false) {pc : Nat} {H : Heap} {ls : Array Slot} (hdg : decode code pc = .ok (.ireturn, 1)) : W p l e room_1 s m #[Value.ref b] below meth c H [] 661355 7117559 (lw_Z below #[Value.ref b] s) (F0 m pc ls [.int 1]) := by
  intro T hT X
  obtain ⟨fs, hret, hrun, hended, hW, hframe⟩ := X.leave (v := some (.int 1)) (hlocks := hlocks) (fun h => by rw [hr] at h; cases h)
  have hmeth' : T.vm.method? m = some meth := X.method'
  refine ⟨T.setFrames fs, ?_, .returned (some (.int 1)), hrun, hended, rfl, ⟨_, rfl⟩, hW, hframe⟩
  jvm_step X.here [X.here.top, hx, hb, hdg, hmeth', hr, ret, narrow_b1]
  (try refine ⟨rfl, ?_⟩); (try refine ⟨rfl, ?_⟩)
  first | (intro acts; rw [hret _ acts rfl rfl rfl]) | rw [hret _ _ rfl rfl rfl]
  exact Steps.refl _
/-- what holds at the law's entry: the machine, the code, the tables' words (any of lw_tbl by 'hts w (by decide +kernel)'), the script of L ints xs at the cell b, what the Statement gives of the start (any of its parts by flat_of_before) -/
def lw_At (p : Program) (s : State) (m : MethodId) (meth : Method) (c : Code) (b L : Nat) (xs : Nat → Int32) : Prop :=
  p.tables.exec = Jvm.exec ∧ c.code = code ∧ meth.sig.returnType = ret ∧ c.maxLocals = 4 ∧ s.vm.findClass R_law = some m.cls ∧ (∀ w ∈ lw_tbl, w.before #[Value.ref b] s = true) ∧ va_X b L xs s s.heap ∧ b < s.heap.size ∧ meth.locks = false ∧ (Jvm.Cond.and given_1 narrow_1).before #[Value.ref b] s = true
theorem mx_fi1 : (mxFI.zipIdx.all fun q => decide (Cond.eq (.elem mxFT (.int (Int32.ofNat q.2))) (.int q.1) ∈ flatC (Jvm.Cond.and given_1 narrow_1))) = true := by decide +kernel
theorem mx_first {s : State} {args : Array Value} (hgv : (Jvm.Cond.and given_1 narrow_1).before args s = true) : ∃ (fa : Addr) (cell : Cell), mxFT.eval args s none [] s = some (.ref fa) ∧ s.heap[fa]? = some cell ∧ cell.vm ≠ .unknown ∧ s.isArrayOf cell .int ∧ cell.slots = (mxFI.map Value.int).toArray := by
  have hs := flat_of_before _ hgv
  have h1 : (Cond.eq (.length mxFT) (.int 30)).before args s = true := hs _ (by decide +kernel)
  have h2 : (Term.length mxFT).eval args s none [] s = some (.int 30) := Cond.eq_int h1 rfl
  obtain ⟨a, cell, ht, harr, e⟩ := Term.length_spec h2
  obtain ⟨hcell, hkn, -, -⟩ := State.arrayAt?_spec harr
  have hsz : cell.slots.size < 2 ^ 31 := by
    simp only [Term.eval, ht, harr, Option.bind_eq_bind, Option.bind_some] at h2
    by_cases hlt : cell.slots.size < 2147483648
    · exact hlt
    · simp [hlt] at h2
  have h30 : cell.slots.size = 30 := by
    have e1 : (30 : Int32) = Int32.ofNat cell.slots.size := by
      have := Value.int.inj e
      exact this
    have e2 := congrArg Int32.toInt e1
    rw [Int32.toInt_ofNat_small hsz] at e2
    have e3 : (30 : Int32).toInt = 30 := by decide
    omega
  have harr2 : (Cond.arrayOf mxFT .int).before args s = true := hs _ (by decide +kernel)
  refine ⟨a, cell, ht, hcell, hkn, (Cond.arrayOf_spec harr2 ht hcell).1, ?_⟩
  have hel : ∀ (k : Nat) (v : Int32), mxFI[k]? = some v → cell.slots[k]? = some (.int v) := by
    intro k v hv
    have hk : k < 30 := (List.getElem?_eq_some_iff.mp hv).1
    have hm : (v, k) ∈ mxFI.zipIdx := List.mem_zipIdx_iff_getElem?.mpr hv
    have hq := List.all_eq_true.mp mx_fi1 _ hm
    have hq2 := hs _ (of_decide_eq_true hq)
    have hq3 : (Term.elem mxFT (.int (Int32.ofNat k))).eval args s none [] s = some (.int v) := Cond.eq_int hq2 rfl
    obtain ⟨a2, j, cell2, g1, g2, g3, -, g4⟩ := Term.elem_spec hq3
    cases g1.symm.trans ht
    cases g3.symm.trans harr
    have hj : j = Int32.ofNat k := by cases g2; rfl
    subst hj
    rwa [Int32.toNatClampNeg_ofNat_of_lt (by omega)] at g4
  apply Array.ext_getElem?
  intro i
  by_cases hi : i < 30
  · obtain ⟨v, hv⟩ : ∃ v, mxFI[i]? = some v := ⟨_, List.getElem?_eq_getElem (show i < mxFI.length from hi)⟩
    rw [hel i v hv]
    simp [hv]
  · rw [Array.getElem?_eq_none (by omega), Array.getElem?_eq_none (by simp [mxFI]; omega)]
theorem mx_inst : (mxCl.all fun r => decide (Cond.instantiable r.1 r.2.2 ∈ lw_tbl)) = true := by decide +kernel
theorem mx_known {s : State} {args : Array Value} (hts : ∀ w ∈ lw_tbl, w.before args s = true) (ci : Nat) : ∃ (cC : ClassId) (iS : Nat → Nat), ∀ r, mxCl[ci]? = some r → u_Kn s r.1 r.2.1 r.2.2 cC iS := by
  cases h : mxCl[ci]? with
  | none => exact ⟨0, fun _ => 0, fun r hr => by cases hr⟩
  | some r =>
    obtain ⟨cC, iS, hk⟩ := u_known (ws := mxAW) (N := r.2.2) (n := r.2.2) (C := r.1) (T := r.2.1) (fun w hw => hts w (List.mem_filter.mp hw).1) (mxKl_all ci r h).1 (hts _ (of_decide_eq_true (List.all_eq_true.mp mx_inst r (List.mem_of_getElem? h))))
    exact ⟨cC, iS, fun r' hr => by cases hr; exact hk⟩
theorem mx_arr {s : State} {args : Array Value} {ty : FieldType} (h : (Cond.arrayClass ty).before args s = true) : ∃ cA : ClassId, ArrOfT s cA ty ∧ s.vm.findClass ("[" ++ ty.toString) = some cA := by
  obtain ⟨c, k, comp, h1, h2, h3⟩ := Cond.arrayClass_spec h
  exact ⟨c, fun n z => ⟨fun q hq => (by cases hq), k, h2, comp, h3⟩, h1⟩
theorem mx_tbl_in {w : Cond} (i : Nat) (h : tables_1[i]? = some w) : w ∈ lw_tbl := List.mem_append_right _ (List.mem_of_getElem? h)
theorem mx_strs : (mxTx.all fun x => decide (Cond.stringRef RX9 x.1 x.2 ∈ lw_tbl) && decide (Cond.exactly (.string RX9 x.1) "java/lang/String" ∈ flatC (Jvm.Cond.and given_1 narrow_1))) = true := by decide +kernel
theorem mx_nots : (mxXs.all fun x => mxXs.all fun y => decide (x = y) || decide (Cond.not (.castable x y) ∈ flatC (Jvm.Cond.and given_1 narrow_1))) = true := by decide +kernel
set_option maxHeartbeats 4000000 in
theorem mx_GF {s : State} {b L : Nat} {xs : Nat → Int32} (hts : ∀ w ∈ lw_tbl, w.before #[Value.ref b] s = true) (hX : va_X b L xs s s.heap) (hbl : b < s.heap.size) (hgv : (Jvm.Cond.and given_1 narrow_1).before #[Value.ref b] s = true) :
    ∃ (D : va_G) (fa : Nat) (arr : Nat → ClassId), mxGF (D, s.heap, b, fa, arr) s ∧ mxHp (D, s.heap, b, fa, arr) (mxH0 ((List.range L).map xs)) s.heap := by
  have hs := flat_of_before _ hgv
  obtain ⟨fa, fcell, f1, f2, f3, f4, f5⟩ := mx_first hgv
  obtain ⟨scr, x1, x2, x3, x4, x5⟩ := hX
  have hk := mx_known hts
  obtain ⟨a0, p0, q0⟩ := mx_arr (hts (.arrayClass .int) (by decide +kernel))
  have hO3 := hts (.arrayOver (.array .int)) (by decide +kernel)
  have hO4 := hts (.arrayOver (.object RX7)) (by decide +kernel)
  obtain ⟨m3, a3, k3, t1, t2, t3, t4, t5⟩ := arrayOverA_spec hO3
  obtain ⟨m4, a4, k4, v1, v2, v3, v4, v5⟩ := Cond.arrayOver_spec hO4
  have hlt : ∀ a : Nat, a < s.heap.size → ¬ (s.heap.size ≤ a) := fun a h => by omega
  let D : va_G := (fun ci => Classical.choose (hk ci), fun ci => Classical.choose (Classical.choose_spec (hk ci)))
  let arr : Nat → ClassId := fun k => if k = 100 then a0 else if k = 103 then a3 else a4
  have hold : ∀ i : Nat, i < 2 → ∃ cell : Cell, s.heap[mxTr (D, s.heap, b, fa, arr) (1000000 + i)]? = some cell ∧ s.isArrayOf cell .int ∧ mxOld ((mxH0 ((List.range L).map xs)).1 (1000000 + i)) cell := by
    intro i hi
    have : i = 0 ∨ i = 1 := by omega
    rcases this with rfl | rfl
    · refine ⟨scr, x1, x2, rfl, x3, ?_⟩
      apply Array.ext_getElem?
      intro j
      by_cases hj : j < L
      · rw [x5 j hj]
        simp [mxH0, hj]
      · rw [Array.getElem?_eq_none (by omega), Array.getElem?_eq_none (by simp [mxH0]; omega)]
    · exact ⟨fcell, f2, f4, rfl, f3, f5⟩
  refine ⟨D, fa, arr, ⟨fun w hw => ?_, ⟨fun c q hq => ?_, fun k q hq => by cases hq⟩, fun k h1 => ?_, ?_, fun i hi => ?_, ?_, ⟨?_, ?_⟩, fun x hx => ?_, fun x hx y hy hn => ?_, ⟨hO4, hO3⟩⟩, ⟨⟨by simp [mxH0], fun _ => by simp [mxH0]⟩, by simp [mxH0], fun q _ => rfl, fun i hi => ?_, fun i h2 => ?_⟩⟩
  · exact va_Nw.of (mxNW_on w hw) (hts w (List.mem_filter.mp hw).1)
  · exact Classical.choose_spec (Classical.choose_spec (hk c)) q hq
  · rcases h1 with rfl | rfl | rfl
    · exact ⟨p0, q0⟩
    · exact ⟨fun n z => ⟨fun q hq => (by cases hq), k3, t3, m3, t4⟩, t5⟩
    · exact ⟨fun n z => ⟨fun q hq => (by cases hq), k4, v3, m4, v4⟩, v5⟩
  · exact ⟨k4, m4, v3, v4, v1, v5⟩
  · obtain ⟨cell, g1, g2, -⟩ := hold i hi
    exact ⟨cell, g1, g2⟩
  · exact va_Zof (args := #[Value.ref b]) (hts _ (by decide +kernel)) (hts _ (by decide +kernel)) f1 hlt
  · exact vx_Zqof (args := #[Value.ref b]) (hts _ (by decide +kernel)) (hts _ (by decide +kernel)) (hs _ (by decide +kernel)) hlt
  · exact vx_Zqof (args := #[Value.ref b]) (hts _ (by decide +kernel)) (hts _ (by decide +kernel)) (hs _ (by decide +kernel)) hlt
  · have hq := List.all_eq_true.mp mx_strs x hx
    simp only [Bool.and_eq_true, decide_eq_true_eq] at hq
    obtain ⟨sa, -, -, -, g1, -⟩ := Cond.exactly_spec (hs _ hq.2)
    exact ⟨sa, vk_R.of (A := #[Value.ref b]) (hts _ hq.1) g1⟩
  · have hq := List.all_eq_true.mp (List.all_eq_true.mp mx_nots x hx) y hy
    simp only [Bool.or_eq_true, decide_eq_true_eq] at hq
    exact va_Nc.of (hs _ (hq.resolve_left hn))
  · obtain ⟨cell, g1, -, g3⟩ := hold i hi
    exact ⟨cell, g1, g3⟩
  · have : (mxH0 ((List.range L).map xs)).2 = 0 := rfl
    omega
/-- YOUR PART: from the entry, for every script of at most 260 ints, the law comes to its end with true -/
theorem whole_start {p : Program} {e : Env} {s : State} {m : MethodId} {below : List Frame} {meth : Method} {c : Code} (l : Launch) (hflags : l.flags = flags0) {b L : Nat} {xs : Nat → Int32} (hL : L ≤ 260) (C0 : lw_At p s m meth c b L xs) : W p l e room_1 s m #[Value.ref b] below meth c s.heap [] 0 0 (lw_Z below #[Value.ref b] s) (entryFrame m ([Value.ref b] : List Value).toArray 4) := by
  obtain ⟨hx, hb, hr, hml, hown, hts, hX, hbl, hlocks, hgv⟩ := id C0
  have hl : l.stackTraces = false := by unfold Launch.stackTraces; rw [hflags]; decide +kernel
  obtain ⟨D, fa, arr, hG, hH⟩ := mx_GF hts hX hbl hgv
  obtain ⟨h', hf⟩ := law_pure ((List.range L).map xs) (by simpa using hL)
  have C : mxC l (D, s.heap, b, fa, arr) (p, e, room_1, s, m, #[Value.ref b], below, meth, c, lw_Z below #[Value.ref b] s) RL cL_law 4 :=
    ⟨hx, hb, hml, hown, fun w hw => hts w (List.mem_filter.mp hw).1, hlocks, hG, ⟨Nat.le_refl _, fun _ _ => rfl⟩, hl⟩
  have T := tL_law hl C rfl hf (fun k n hk hn => by
    intro H locs lr hH2 hL2 hlr
    exact W.widen hk hn (va_forget (fun q hq => hL2 q hq) (lw_ret hx hb hr hlocks dL_law_133)))
  have hle := lv_entry ([.ref b]) (n := 4) (Nat.le_of_ble_eq_true rfl)
  rw [lg_entry_eq]
  refine T s.heap [] _ hH (fun z hz => absurd hz List.not_mem_nil) ⟨hle.1, hle.2.1, fun i v hi => ?_⟩
  cases i with
  | zero =>
    cases hi
    exact hle.2.2 _ List.mem_cons_self
  | succ i =>
    exfalso
    have : ∀ (m i : Nat), mxGet (List.replicate m none) i = none := by
      intro m
      induction m with
      | zero => intro i; rfl
      | succ m ih => intro i; cases i with
        | zero => rfl
        | succ i => exact ih i
    have h9 : mxGet (List.replicate 3 none) i = some v := hi
    rw [this 3 i] at h9
    cases h9
