/-! the mini machine: final fields, arraycopy, int[][], a float constant -/
section MG7
variable {l : Launch} {Z : mxZ} {X : mxX} {own : String} {cc : ByteArray} {nL k n pc : Nat} {ls : List (Option Value)} {st : List Value} {h : mxH}
theorem mG_putfinal {idx ci j a : Nat} {ty : FieldType} {v : Value} (C : mxC l Z X own cc nL) (hd : decode cc pc = .ok (.putfield idx, 3)) (hf : mxFld own idx ci j ty true) (ho : mxCl[ci]?.map (fun r => (r.2.1 j).1) = some own) (hi0 : X.2.2.2.2.2.2.2.1.name = "<init>") (hw : ∃ T N, mxCl[ci]? = some (own, T, N) ∧ Cond.fieldLink own idx (T j).1 (T j).2.1 (T j).2.2.1 ∈ mxAW)
    (hlt : a < h.2) (hc : (h.1 a).1 = ci) (hn : narrow ty (mxSh Z v) = mxSh Z v) (hfit : fits ty (mxSh Z v) = true) (g : mG l Z X nL k n (pc + 3) ls st (mxUp h a ((h.1 a).1, (h.1 a).2.1, (h.1 a).2.2.set j v))) : mG l Z X nL k n pc ls (v :: .ref a :: st) h := by
  obtain ⟨p, e, R, s, m, args, below, meth, c, Q⟩ := X
  intro H locs lr hH hL hlr
  obtain ⟨CC, T, N, hcl, hjN, hty, hfin, -⟩ := hf
  obtain ⟨T', N', hcl', hlk⟩ := hw
  have e9 : (CC, T, N) = (own, T', N') := Option.some.inj (hcl.symm.trans hcl')
  cases e9
  rw [hcl] at ho
  have hdecl : (T j).1 = own := Option.some.inj ho
  have hci := mxCl_lt hcl
  have h2 := hH.lt hlt
  obtain ⟨cell, hcell, hobj, -⟩ := hH.2.2.2.2 a hlt
  obtain ⟨q1, q2, ⟨r, q3, q4⟩, q5⟩ := hobj (by omega)
  rw [hc] at q3 q1
  have hr : r = (own, T, N) := Option.some.inj (q3.symm.trans hcl)
  subst hr
  obtain ⟨hin, -, -⟩ := mxKl_all ci _ hcl
  have hts := C.2.2.2.2.1
  have hown := C.2.2.2.1
  obtain ⟨hS, hfc, kC, hkC, hkind⟩ := C.2.2.2.2.2.2.1.2.1.1 ci _ hcl
  obtain ⟨cf, kf, fi, f, hi, hsl⟩ := hS j hjN
  have hlay := hts _ (hin _ (u_in_lay hjN))
  unfold u_lay at hlay
  rw [if_pos hfin] at hlay
  have hst := (u_facts hfc hkC (u_lays hts hin hjN) hi).1
  have hcf : m.cls = cf := by
    obtain ⟨_, _, c', _, _, _, -, -, hf', -, -, -, hown2, -⟩ := Cond.laysFinal_spec hlay
    have e1 : c' = cf := by have := hi.symm.trans hf'; simp at this; exact this.1.symm
    have hown2 : s.vm.findClass (T j).1 = some c' := hown2
    rw [hdecl] at hown2
    rw [← e1]; exact Option.some.inj (hown.symm.trans hown2)
  have h6 := u_fits hfc hkC hkind (Or.inr hlay) hi hty hn hfit
  have hjl : j < (h.1 a).2.2.length := by rw [q4]; exact hjN
  have hslot : f.slot < cell.slots.size := by
    rw [hsl]
    have := q5 j _ (List.getElem?_eq_getElem hjl)
    rw [hc] at this
    exact (Array.getElem?_eq_some_iff.mp this).1
  refine W.putFinK C.1 C.2.1 hown (hts _ hlk) hi hst hcf hi0 (by rw [q1]; exact h6) hcell q2 hslot rfl rfl hd (fun H' e1 e2 e3 => ?_)
  refine g H' _ lr (hH.put hlt e1 ⟨fun _ => ⟨by show _ = Z.1.1 (h.1 a).1; rw [hc]; exact q1, q2, ⟨_, by show mxCl[(h.1 a).1]? = _; rw [hc]; exact hcl, by show ((h.1 a).2.2.set j v).length = _; rw [List.length_set]; exact q4⟩, ?_⟩, fun h3 => ?_⟩ e2 e3) ?_ hlr
  · show ∀ k w, ((h.1 a).2.2.set j v)[k]? = some w → _ = _
    rw [show ((h.1 a).1, (h.1 a).2.1, (h.1 a).2.2.set j v).1 = ci from hc, hsl]
    refine mx_slot hcl hts C.2.2.2.2.2.2.1.2.1 q4 (fun k w hk => ?_) hjN rfl
    have := q5 k w hk
    rw [hc] at this; exact this
  · exact absurd (show 100 ≤ (h.1 a).1 from h3) (by omega)
  · intro z hz
    rcases List.mem_append.mp hz with hz | hz
    · exact hL z hz
    · rw [List.mem_singleton.mp hz]; exact mxTr_ge h2
/-- n ints of xs from sp on, into ys from dp on -/
def mxCpy (xs ys : List Int32) (sp dp n : Nat) : List Int32 := ys.take dp ++ ((xs.drop sp).take n ++ ys.drop (dp + n))
def cpI (h : mxH) (a0 : Nat) (sp : Int32) (a : Nat) (dp n : Int32) : Option mxH :=
  if (mxLv h a0 ∧ a < h.2 ∧ 2 ≤ a) ∧ ((h.1 a0).1 = 100 ∧ (h.1 a).1 = 100) ∧ (¬ sp < 0 ∧ ¬ dp < 0 ∧ ¬ n < 0) ∧ sp.toNatClampNeg + n.toNatClampNeg ≤ (h.1 a0).2.1.length ∧ dp.toNatClampNeg + n.toNatClampNeg ≤ (h.1 a).2.1.length
  then some (mxUp h a (100, mxCpy (h.1 a0).2.1 (h.1 a).2.1 sp.toNatClampNeg dp.toNatClampNeg n.toNatClampNeg, (h.1 a).2.2)) else none
theorem mxCpy_len {xs ys : List Int32} {sp dp n : Nat} (h1 : sp + n ≤ xs.length) (h2 : dp + n ≤ ys.length) : (mxCpy xs ys sp dp n).length = ys.length := by
  simp [mxCpy]; omega
theorem mxCpy_at {xs ys : List Int32} {sp dp n : Nat} (h1 : sp + n ≤ xs.length) (h2 : dp + n ≤ ys.length) (j : Nat) (hj : j < ys.length) : (mxCpy xs ys sp dp n).getD j 0 = if dp ≤ j ∧ j < dp + n then xs.getD (sp + (j - dp)) 0 else ys.getD j 0 := by
  unfold mxCpy
  simp only [List.getD_eq_getElem?_getD]
  have l1 : (ys.take dp).length = dp := by simp; omega
  by_cases c1 : j < dp
  · rw [List.getElem?_append_left (by omega), if_neg (by omega), List.getElem?_take_of_lt c1]
  · rw [List.getElem?_append_right (by omega), l1]
    have l2 : ((xs.drop sp).take n).length = n := by simp; omega
    by_cases c2 : j < dp + n
    · rw [List.getElem?_append_left (by omega), if_pos ⟨by omega, c2⟩, List.getElem?_take_of_lt (by omega), List.getElem?_drop]
    · rw [List.getElem?_append_right (by omega), if_neg (by omega), l2, List.getElem?_drop]
      rw [show dp + n + (j - dp - n) = j by omega]
theorem mx_arrI (cA : ClassId) (xs : List Int32) : ({ cls := cA, slots := ((xs.map Value.int).map fun v => v).toArray, vm := .none } : Cell) = arrV cA xs.length (fun j => .int (xs.getD j 0)) := by
  unfold arrV
  congr 1
  apply Array.ext
  · simp
  · intro i h1 h2
    have : i < xs.length := by simpa using h1
    simp [this]
theorem mx_slI {Z : mxZ} {e : mxE} (h1 : e.1 = 100) : (mxCont e).map (mxSh Z) = e.2.1.map Value.int := by
  unfold mxCont
  rw [if_pos (Or.inl h1), List.map_map]
  rfl
theorem mx_nn (z : Int32) (hz : ¬ z < 0) : z.toInt = (z.toNatClampNeg : Int) := by
  have hz0 : (0 : Int) ≤ z.toInt := by
    have := Int32.not_lt.mp hz
    simpa using Int32.le_iff_toInt_le.mp this
  show z.toInt = ((z.toInt.toNat : Nat) : Int)
  omega
theorem mG_copy {idx a0 a : Nat} {sp dp x : Int32} {h' : mxH} (C : mxC l Z X own cc nL) (hd : decode cc pc = .ok (.invokestatic idx, 3)) (hw : Cond.methodLink own idx arraycopyName ∈ mxAW) (hw2 : Cond.native arraycopyName ∈ mxAW ∧ Cond.static arraycopyName ∈ mxAW ∧ Cond.initialized "java/lang/System" ∈ mxAW) (hv : cpI h a0 sp a dp x = some h')
    (hR : 1 ≤ (mxRm X).frames ∧ (st.map fun v => v.category).sum + (nativeFrameWords "java/lang/System" "arraycopy" 5 + 11) ≤ (mxRm X).locals) (g : mG l Z X nL k n (pc + 3) ls st h') : mG l Z X nL k n pc ls (.int x :: .int dp :: .ref a :: .int sp :: .ref a0 :: st) h := by
  obtain ⟨p, e, R, s, m, args, below, meth, c, Q⟩ := X
  intro H locs lr hH hL hlr
  unfold cpI at hv
  split at hv
  · rename_i hq
    obtain ⟨⟨l0, l1, h2⟩, ⟨t0, t1⟩, ⟨n1, n2, n3⟩, b0, b1⟩ := hq
    cases hv
    have hts := C.2.2.2.2.1
    have hG := C.2.2.2.2.2.2.1
    obtain ⟨cs, c1, ⟨-, k0, hk0, cm0, hkk0⟩, c3, c4, -⟩ := hH.arr hG l0 t0 (by omega)
    obtain ⟨cd, d1, ⟨-, k1, hk1, cm1, hkk1⟩, d3, d4, d5⟩ := hH.arr hG (Or.inl l1) t1 (by omega)
    rw [mx_slI t0] at c4
    have d5 := d5 l1
    rw [mx_slI t1] at d5 d4
    have hvs : ∀ q, cs.vm ≠ .statics q := by
      intro q hq
      by_cases hlo : ∃ i, i < 2 ∧ a0 = 1000000 + i
      · obtain ⟨i, hlo, rfl⟩ := hlo
        obtain ⟨cell, g1, -⟩ := hH.2.2.2.1 i hlo
        obtain ⟨cell', f1, ⟨f2, -⟩⟩ := hG.2.2.2.2.1 i hlo
        have : mxTr Z (1000000 + i) < Z.2.1.size := (Array.getElem?_eq_some_iff.mp f1).1
        have e1 : some cs = some cell' := by rw [← c1, hH.2.2.1 _ this, f1]
        cases e1
        exact f2 q hq
      · have l0 : a0 < h.2 := by
          rcases l0 with w | w | w
          · exact w
          · exact absurd ⟨0, by omega, w⟩ hlo
          · exact absurd ⟨1, by omega, w⟩ hlo
        obtain ⟨cell, g1, -, g2⟩ := hH.2.2.2.2 a0 l0
        cases g1.symm.trans c1
        have := g2 (by omega) (by omega)
        rw [this] at hq
        cases hq
    have hcat : ((st.map (mxSh Z)).map fun v => v.category).sum = (st.map fun v => v.category).sum := by
      rw [List.map_map, show ((fun v : Value => v.category) ∘ mxSh Z) = (fun v => v.category) from funext (mxSh_cat Z)]
    intro T hT Xs
    obtain ⟨vm', X', step⟩ := Xs.arraycopy C.1 C.2.2.2.1 (hts _ hw) (hts _ hw2.1) (hts _ hw2.2.1) (hts _ hw2.2.2) (src := mxTr Z a0) (dst := mxTr Z a) (cs := cs) (cd := cd) (srcPos := sp) (destPos := dp) (n := x) (by rw [hT]; exact c1) (by rw [hT]; exact d1)
      hvs (fun _ h => by rw [d5] at h; cases h) c3 d3 hk0 hk1 hkk0 hkk1 (by simp [mxTy, refKind]) n1 n2 n3
      (by rw [mx_nn sp n1, mx_nn x n3, c4]; simp; omega)
      (by rw [mx_nn dp n2, mx_nn x n3, d4]; simp; omega)
      (fun vm₁ _ i hi => by
        have hlt : sp.toNatClampNeg + i < (h.1 a0).2.1.length := by omega
        have e9 : cs.slots.getD (sp.toNatClampNeg + i) .null = .int ((h.1 a0).2.1[sp.toNatClampNeg + i]) := by
          rw [Array.getD_eq_getD_getElem?, c4]
          simp [hlt]
        rw [e9]
        exact ⟨rfl, trivial⟩)
      (g := F0 m pc lr ((.int x :: .int dp :: .ref a :: .int sp :: .ref a0 :: st : List Value).map (mxSh Z))) rfl (by rw [C.2.2.1]; exact hlr.1) (rest := st.map (mxSh Z)) rfl (by rw [C.2.1]; exact hd) hR.1 (by show 2 * 0 + _ + _ ≤ _; rw [hcat]; have := hR.2; simp only [mxRm] at this; omega)
    have hcp : mxCell Z (100, mxCpy (h.1 a0).2.1 (h.1 a).2.1 sp.toNatClampNeg dp.toNatClampNeg x.toNatClampNeg, (h.1 a).2.2) (copied cs cd sp dp x) := by
      refine ⟨fun q => absurd (show (100 : Nat) < 100 from q) (by omega), fun _ _ => ?_⟩
      show copied cs cd sp dp x = ({ cls := Z.2.2.2.2 100, slots := ((mxCont (100, mxCpy (h.1 a0).2.1 (h.1 a).2.1 sp.toNatClampNeg dp.toNatClampNeg x.toNatClampNeg, (h.1 a).2.2)).map (mxSh Z)).toArray, vm := .none } : Cell)
      rw [mx_slI (e := (100, mxCpy (h.1 a0).2.1 (h.1 a).2.1 sp.toNatClampNeg dp.toNatClampNeg x.toNatClampNeg, (h.1 a).2.2)) rfl]
      have e1 : copied cs cd sp dp x = cd.storeRun dp.toNatClampNeg (cs.stretch sp.toNatClampNeg x.toNatClampNeg) := rfl
      have e2 : cs.stretch sp.toNatClampNeg x.toNatClampNeg = (arrV (Z.2.2.2.2 100) (h.1 a0).2.1.length (fun j => .int ((h.1 a0).2.1.getD j 0))).stretch sp.toNatClampNeg x.toNatClampNeg := by
        rw [← mx_arrI]
        unfold Cell.stretch
        rw [c4, List.map_id']
      rw [e1, e2, d5]
      have e3 := mx_arrI (Z.2.2.2.2 100) (h.1 a).2.1
      rw [List.map_id'] at e3
      rw [e3, va_copied (fun z : Int32 => Value.int z) (Z.2.2.2.2 100) (Z.2.2.2.2 100) (fun j => (h.1 a0).2.1.getD j 0) (fun j => (h.1 a).2.1.getD j 0) b0]
      have e4 := mx_arrI (Z.2.2.2.2 100) (mxCpy (h.1 a0).2.1 (h.1 a).2.1 sp.toNatClampNeg dp.toNatClampNeg x.toNatClampNeg)
      rw [List.map_id'] at e4
      show _ = ({ cls := Z.2.2.2.2 100, slots := ((mxCpy (h.1 a0).2.1 (h.1 a).2.1 sp.toNatClampNeg dp.toNatClampNeg x.toNatClampNeg).map Value.int).toArray, vm := .none } : Cell)
      rw [e4, mxCpy_len b0 b1]
      unfold arrV
      congr 1
      apply Array.ext
      · simp
      · intro i h1 h2
        have hi : i < (h.1 a).2.1.length := by simpa using h1
        have := mxCpy_at b0 b1 i hi
        simp only [Array.getElem_ofFn]
        rw [this]
        rfl
    have hl : mxTr Z a < H.size := (Array.getElem?_eq_some_iff.mp d1).1
    have hheap : ((T.setVm vm').setCell (mxTr Z a) (copied cs cd sp dp x)).heap = H.setIfInBounds (mxTr Z a) (copied cs cd sp dp x) := by rw [← hT]; rfl
    obtain ⟨t, a1, b9⟩ := g _ _ lr (hH.put (H1 := H.setIfInBounds (mxTr Z a) (copied cs cd sp dp x)) l1 (by simp [Array.getElem?_setIfInBounds, hl]) hcp (by simp) (fun q hq => by simp [Array.getElem?_setIfInBounds, Ne.symm hq])) (fun q hq => by
      rcases List.mem_append.mp hq with h9 | h9
      · exact hL q h9
      · obtain ⟨z, -, hz⟩ := List.mem_map.mp h9
        rw [← hz]
        exact mxTr_ge (hH.lt l1)) hlr _ hheap X'
    exact ⟨t, step t a1, b9⟩
  · cases hv
end MG7
