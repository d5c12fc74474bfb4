/-! the mini machine: what is new, statics, the library's natives -/
def mxMk (own : String) (idx ci : Nat) (fs : List Value) (N : Nat) : Prop :=
  ∃ (C : String) (T : u_T), mxCl[ci]? = some (C, T, N) ∧ Cond.classLink own idx C ∈ mxAW ∧ Cond.instantiable C N ∈ mxAW ∧ Cond.initialized C ∈ mxAW ∧ fs.length = N ∧
    (∀ j, j < N → (parseFieldDescriptor (T j).2.2.1).map defaultValue = some (fs.getD j .null)) ∧ ∀ v ∈ fs, v.isDefault = true
theorem mxSh_def {Z : mxZ} {v : Value} (h : v.isDefault = true) : mxSh Z v = v := by
  cases v <;> first | rfl | cases h
section MG6
variable {l : Launch} {Z : mxZ} {X : mxX} {own : String} {cc : ByteArray} {nL k n pc : Nat} {ls : List (Option Value)} {st : List Value} {h : mxH}
theorem mG_new {idx ci N : Nat} {fs : List Value} (C : mxC l Z X own cc nL) (hd : decode cc pc = .ok (.new idx, 3)) (hm : mxMk own idx ci fs N) (hx : (h.1 h.2).1 = 300) (hk : k + 1 ≤ (mxRm X).cells ∧ n + N ≤ (mxRm X).slots) (g : mG l Z X nL (k + 1) (n + N) (pc + 3) ls (.ref h.2 :: st) (mxNew h (ci, [], fs))) : mG l Z X nL k n pc ls st h := by
  obtain ⟨p, e, R, s, m, args, below, meth, c, Q⟩ := X
  intro H locs lr hH hL hlr
  obtain ⟨CC, T, hcl, w1, w2, w3, hlen, hdf, hnr⟩ := hm
  have hts := C.2.2.2.2.1
  have hci := mxCl_lt hcl
  obtain ⟨hin, -, ty, hty⟩ := mxKl_all ci _ hcl
  have hKn := C.2.2.2.2.2.2.1.2.1.1 ci _ hcl
  refine W.newcK C.1 C.2.1 C.2.2.2.1 (hts _ w1) (hts _ w2) (hts _ w3) rfl hd hk.1 hk.2 hKn.2.1 rfl (fun H1 kC hkC e1 z1 o1 => ?_)
  obtain ⟨cell, b1, b2, b3, b4⟩ := u_born ty hts hin hKn hkC e1 hty
  have hn := hH.next hx
  show W _ _ _ _ _ _ _ _ _ _ H1 _ _ _ _ (F0 m (pc + 3) lr (.ref H.size :: st.map (mxSh Z)))
  rw [← hn]
  refine g H1 locs lr (hH.push hx b1 ⟨fun _ => ⟨b2, b3, ⟨_, hcl, hlen⟩, fun j v hv => ?_⟩, fun h3 => ?_⟩ z1 o1) hL hlr
  · have hv : fs[j]? = some v := hv
    have hj : j < N := by rw [← hlen]; exact (List.getElem?_eq_some_iff.mp hv).1
    have h5 := hdf j hj
    rw [hty j hj] at h5
    have h6 : defaultValue (ty j) = v := by
      have := Option.some.inj h5
      rw [this]; simp [hv]
    have b5 : cell.slots[Z.1.2 ci j]? = some (defaultValue (ty j)) := b4 j hj
    rw [mxSh_def (hnr v (List.mem_of_getElem? hv)), ← h6]
    exact b5
  · exact absurd (show 100 ≤ ci from h3) (by omega)
theorem mG_newarray {aty : ArrayType} {t : Nat} {x : Int32} {N : Nat} {e1 : mxE} (C : mxC l Z X own cc nL) (hd : decode cc pc = .ok (.newarray aty, 2)) (ha : newarray.typeOf aty = mxTy t) (ht : t = 100) (hw : Cond.arrayClass (mxTy t) ∈ mxAW) (hx0 : ¬ x < 0) (hN : x.toNatClampNeg = N) (hN2 : N ≤ 10000) (he : e1.1 = t) (hco : mxCont e1 = List.replicate N (defaultValue (mxTy t)))
    (hx : (h.1 h.2).1 = 300) (hk : k + 1 ≤ (mxRm X).cells ∧ n + N ≤ (mxRm X).slots) (g : mG l Z X nL (k + 1) (n + N) (pc + 2) ls (.ref h.2 :: st) (mxNew h e1)) : mG l Z X nL k n pc ls (.int x :: st) h := by
  obtain ⟨p, e, R, s, m, args, below, meth, c, Q⟩ := X
  intro H locs lr hH hL hlr
  subst hN
  have hts := C.2.2.2.2.1
  have hcb : componentBytes (mxTy t) ≤ 8 := by
    subst ht; decide
  have hdv : (defaultValue (mxTy t)).isDefault = true := by
    subst ht; decide
  refine W.newa C.1 C.2.1 (by rw [ha]; exact hts _ hw) rfl hd rfl hx0 (by rw [ha]; exact Nat.le_trans (Nat.mul_le_mul hN2 hcb) (by decide)) hk.1 hk.2 (fun cA kA comp h1 h2 h3 => ?_)
  rw [ha] at h1
  have hcA : cA = Z.2.2.2.2 t := Option.some.inj (h1.symm.trans (C.2.2.2.2.2.2.1.2.2.1 t (Or.inl ht)).2)
  have hn := hH.next hx
  show W _ _ _ _ _ _ _ _ _ _ _ _ _ _ _ (F0 m (pc + 2) lr (.ref H.size :: st.map (mxSh Z)))
  rw [← hn]
  refine g _ locs lr (hH.push hx (cell := { cls := cA, slots := Array.replicate x.toNatClampNeg (defaultValue (newarray.typeOf aty)), vm := .none }) (by simp) ⟨fun q => ?_, fun _ _ => ?_⟩ (by simp) (fun q hq => by rw [Array.getElem?_push, if_neg (Nat.ne_of_lt hq)])) hL hlr
  · rw [he] at q; omega
  · rw [he, hco, hcA, ha]
    congr 1
    rw [List.map_replicate, mxSh_def hdv]
    simp
theorem mG_anewarray {idx : Nat} {x : Int32} {N : Nat} (C : mxC l Z X own cc nL) (hd : decode cc pc = .ok (.anewarray idx, 3)) (hw : Cond.classLink own idx RX7 ∈ mxAW) (hx0 : ¬ x < 0) (hN : x.toNatClampNeg = N) (hN2 : N ≤ 10000)
    (hx : (h.1 h.2).1 = 300) (hk : k + 1 ≤ (mxRm X).cells ∧ n + N ≤ (mxRm X).slots) (g : mG l Z X nL (k + 1) (n + N) (pc + 3) ls (.ref h.2 :: st) (mxNew h (104, [], List.replicate N .null))) : mG l Z X nL k n pc ls (.int x :: st) h := by
  obtain ⟨p, e, R, s, m, args, below, meth, c, Q⟩ := X
  intro H locs lr hH hL hlr
  subst hN
  have hts := C.2.2.2.2.1
  have hG := C.2.2.2.2.2.2.1
  refine W.anew C.1 C.2.1 C.2.2.2.1 (hts _ hw) (va_AO.use hG.2.2.2.2.2.2.2.2.2.1) rfl hd rfl hx0 (by omega) hk.1 hk.2 (fun cA kA comp h1 h2 h3 h4 => ?_)
  have hcA : cA = Z.2.2.2.2 104 := Option.some.inj (h1.symm.trans (hG.2.2.1 104 (by omega)).2)
  have hn := hH.next hx
  show W _ _ _ _ _ _ _ _ _ _ _ _ _ _ _ (F0 m (pc + 3) lr (.ref H.size :: st.map (mxSh Z)))
  rw [← hn]
  refine g _ locs lr (hH.push hx (cell := { cls := cA, slots := Array.replicate x.toNatClampNeg .null, vm := .none }) (by simp) ⟨fun q => absurd (show (104 : Nat) < 100 from q) (by omega), fun _ _ => ?_⟩ (by simp) (fun q hq => by rw [Array.getElem?_push, if_neg (Nat.ne_of_lt hq)])) hL hlr
  show _ = ({ cls := Z.2.2.2.2 104, slots := ((mxCont (104, [], List.replicate x.toNatClampNeg .null)).map (mxSh Z)).toArray, vm := .none } : Cell)
  rw [hcA]
  congr 1
  unfold mxCont
  rw [if_neg (by omega), List.map_replicate]
  simp [mxSh]
theorem mG_objInit {idx a : Nat} (C : mxC l Z X own cc nL) (hd : decode cc pc = .ok (.invokespecial idx, 3)) (hw : Cond.methodLink own idx Lib.objectInit ∈ mxAW ∧ Cond.instanceMethod Lib.objectInit ∈ mxAW ∧ Cond.code Lib.objectInit ⟨#[0xb1]⟩ 1 none ∈ mxAW) (hR : 1 ≤ (mxRm X).frames ∧ (st.map fun v => v.category).sum + 12 ≤ (mxRm X).locals) (g : mG l Z X nL k n (pc + 3) ls st h) : mG l Z X nL k n pc ls (.ref a :: st) h := by
  obtain ⟨p, e, R, s, m, args, below, meth, c, Q⟩ := X
  intro H locs lr hH hL hlr
  have hts := C.2.2.2.2.1
  have hcat : ((st.map (mxSh Z)).map fun v => v.category).sum = (st.map fun v => v.category).sum := by
    rw [List.map_map, show ((fun v : Value => v.category) ∘ mxSh Z) = (fun v => v.category) from funext (mxSh_cat Z)]
  exact W.objInit C.1 C.2.1 C.2.2.2.1 (hts _ hw.1) (hts _ hw.2.1) (hts _ hw.2.2) rfl (hlr.1.trans C.2.2.1.symm) rfl hd hR.1 (by rw [hcat]; show 2 * 0 + _ + 12 ≤ _; have := hR.2; simp only [mxRm] at this; omega) (g H locs lr hH hL hlr)
theorem mG_max {idx : Nat} {x y : Int32} (C : mxC l Z X own cc nL) (hd : decode cc pc = .ok (.invokestatic idx, 3)) (hw : Cond.methodLink own idx Lib.Math.max.name ∈ mxAW) (hw2 : Cond.static Lib.Math.max.name ∈ mxAW ∧ Cond.initialized "java/lang/Math" ∈ mxAW ∧ Cond.code Lib.Math.max.name Lib.Math.max.code 2 (some .int) ∈ mxAW)
    (hR : 1 ≤ (mxRm X).frames ∧ (st.map fun v => v.category).sum + 13 ≤ (mxRm X).locals) (hk : k ≤ (mxRm X).cells ∧ n ≤ (mxRm X).slots) (g : mG l Z X nL k n (pc + 3) ls (.int (if x < y then y else x) :: st) h) : mG l Z X nL k n pc ls (.int y :: .int x :: st) h := by
  obtain ⟨p, e, R, s, m, args, below, meth, c, Q⟩ := X
  intro H locs lr hH hL hlr
  have hts := C.2.2.2.2.1
  have hcat : ((st.map (mxSh Z)).map fun v => v.category).sum = (st.map fun v => v.category).sum := by
    rw [List.map_map, show ((fun v : Value => v.category) ∘ mxSh Z) = (fun v => v.category) from funext (mxSh_cat Z)]
  exact va_mmax C.1 C.2.1 (C.2.2.1.trans hlr.1.symm) C.2.2.2.1 (hts _ hw) (hts _ hw2.1) (hts _ hw2.2.1) (hts _ hw2.2.2) hR.1 (by rw [hcat]; exact hR.2) hk.1 hk.2 hd (g H locs lr hH hL hlr)
theorem mG_min {idx : Nat} {x y : Int32} (C : mxC l Z X own cc nL) (hd : decode cc pc = .ok (.invokestatic idx, 3)) (hw : Cond.methodLink own idx Lib.Math.min.name ∈ mxAW) (hw2 : Cond.static Lib.Math.min.name ∈ mxAW ∧ Cond.initialized "java/lang/Math" ∈ mxAW ∧ Cond.code Lib.Math.min.name Lib.Math.min.code 2 (some .int) ∈ mxAW)
    (hR : 1 ≤ (mxRm X).frames ∧ (st.map fun v => v.category).sum + 13 ≤ (mxRm X).locals) (hk : k ≤ (mxRm X).cells ∧ n ≤ (mxRm X).slots) (g : mG l Z X nL k n (pc + 3) ls (.int (if y < x then y else x) :: st) h) : mG l Z X nL k n pc ls (.int y :: .int x :: st) h := by
  obtain ⟨p, e, R, s, m, args, below, meth, c, Q⟩ := X
  intro H locs lr hH hL hlr
  have hts := C.2.2.2.2.1
  have hcat : ((st.map (mxSh Z)).map fun v => v.category).sum = (st.map fun v => v.category).sum := by
    rw [List.map_map, show ((fun v : Value => v.category) ∘ mxSh Z) = (fun v => v.category) from funext (mxSh_cat Z)]
  exact va_mmin C.1 C.2.1 (C.2.2.1.trans hlr.1.symm) C.2.2.2.1 (hts _ hw) (hts _ hw2.1) (hts _ hw2.2.1) (hts _ hw2.2.2) hR.1 (by rw [hcat]; exact hR.2) hk.1 hk.2 hd (g H locs lr hH hL hlr)
/-- FIRST_ITEMS -/
theorem mG_first {idx : Nat} (C : mxC l Z X own cc nL) (hd : decode cc pc = .ok (.getstatic idx, 3)) (hw : Cond.fieldLink own idx RX9 "FIRST_ITEMS" "[I" ∈ mxAW) (g : mG l Z X nL k n (pc + 3) ls (.ref 1000001 :: st) h) : mG l Z X nL k n pc ls st h := by
  obtain ⟨p, e, R, s, m, args, below, meth, c, Q⟩ := X
  intro H locs lr hH hL hlr
  intro T hT Xs
  have hts := C.2.2.2.2.1
  have hG := C.2.2.2.2.2.2.1
  have hold := C.2.2.2.2.2.2.2.1
  have hS : va_S (fun q => Z.2.1.size ≤ q) s.heap H locs := by
    refine ⟨by rw [← hT]; exact Xs.heapGrown, fun q _ hq2 => ?_, hL⟩
    have hlt : q < Z.2.1.size := Nat.not_le.mp hq2
    rw [hH.2.2.1 q hlt, hold.2 q hlt]
  obtain ⟨cf, kf, fi, f, a, cell, f1, f2, f3, f4, f5, f6⟩ := hG.2.2.2.2.2.1
  have ha : a < Z.2.1.size := (Array.getElem?_eq_some_iff.mp f5).1
  exact va_gets (A := fun q => Z.2.1.size ≤ q) C.1 C.2.1 ⟨cf, kf, fi, f, a, cell, f1, f2, f3, f4, (hold.2 a ha).trans f5, f6⟩ hS C.2.2.2.1 (hts _ hw) (fun _ q => q) hd (g H locs lr hH hL hlr) T hT Xs
end MG6
