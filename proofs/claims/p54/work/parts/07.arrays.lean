/-! the mini machine: arrays -/
/-- a cell that may be read: one that was made, or one of the two old ones -/
abbrev mxLv (h : mxH) (a : Nat) : Prop := a < h.2 ∨ a = 1000000 ∨ a = 1000001
def ldI (h : mxH) (a : Nat) (i : Int32) : Option Int32 := if mxLv h a ∧ (h.1 a).1 = 100 ∧ ¬ i < 0 then (h.1 a).2.1[i.toNatClampNeg]? else none
def ldZ (h : mxH) (a : Nat) (i : Int32) : Option Int32 := if a < h.2 ∧ (h.1 a).1 = 101 ∧ ¬ i < 0 then (h.1 a).2.1[i.toNatClampNeg]? else none
def mxRf (v : Option Value) : Option Nat := match v with
  | some (.ref r) => some r
  | _ => none
def mxIn (v : Option Value) : Option Int32 := match v with
  | some (.int r) => some r
  | _ => none
def mxLg (v : Option Value) : Option Int64 := match v with
  | some (.long r) => some r
  | _ => none
theorem mxRf_some {v : Option Value} {r : Nat} (h : mxRf v = some r) : v = some (.ref r) := by
  cases v with
  | none => cases h
  | some w => cases w <;> first | (cases h; rfl) | cases h
theorem mxIn_some {v : Option Value} {r : Int32} (h : mxIn v = some r) : v = some (.int r) := by
  cases v with
  | none => cases h
  | some w => cases w <;> first | (cases h; rfl) | cases h
theorem mxLg_some {v : Option Value} {r : Int64} (h : mxLg v = some r) : v = some (.long r) := by
  cases v with
  | none => cases h
  | some w => cases w <;> first | (cases h; rfl) | cases h
def ldR (h : mxH) (a : Nat) (i : Int32) : Option Nat := if a < h.2 ∧ ((h.1 a).1 = 103 ∨ (h.1 a).1 = 104) ∧ ¬ i < 0 then mxRf (h.1 a).2.2[i.toNatClampNeg]? else none
def ldJ (h : mxH) (a : Nat) (i : Int32) : Option Int64 := if a < h.2 ∧ (h.1 a).1 = 102 ∧ ¬ i < 0 then mxLg (h.1 a).2.2[i.toNatClampNeg]? else none
def stI (h : mxH) (a : Nat) (i x : Int32) : Option mxH := if (a < h.2 ∧ 2 ≤ a) ∧ (h.1 a).1 = 100 ∧ ¬ i < 0 ∧ i.toNatClampNeg < (h.1 a).2.1.length then some (mxUp h a (100, (h.1 a).2.1.set i.toNatClampNeg x, (h.1 a).2.2)) else none
def stZ (h : mxH) (a : Nat) (i x : Int32) : Option mxH := if ((a < h.2 ∧ 2 ≤ a) ∧ (x = 0 ∨ x = 1)) ∧ (h.1 a).1 = 101 ∧ ¬ i < 0 ∧ i.toNatClampNeg < (h.1 a).2.1.length then some (mxUp h a (101, (h.1 a).2.1.set i.toNatClampNeg x, (h.1 a).2.2)) else none
def stJ (h : mxH) (a : Nat) (i : Int32) (x : Int64) : Option mxH := if (a < h.2 ∧ 2 ≤ a) ∧ (h.1 a).1 = 102 ∧ ¬ i < 0 ∧ i.toNatClampNeg < (h.1 a).2.2.length then some (mxUp h a (102, (h.1 a).2.1, (h.1 a).2.2.set i.toNatClampNeg (.long x))) else none
/-- a State into an array of them -/
def stR (h : mxH) (a : Nat) (i : Int32) (r : Nat) : Option mxH := if (a < h.2 ∧ 2 ≤ a) ∧ ((h.1 a).1 = 104 ∧ r < h.2 ∧ (h.1 r).1 = 7) ∧ ¬ i < 0 ∧ i.toNatClampNeg < (h.1 a).2.2.length then some (mxUp h a (104, (h.1 a).2.1, (h.1 a).2.2.set i.toNatClampNeg (.ref r))) else none
def lenA (h : mxH) (a : Nat) : Option Int32 := if mxLv h a ∧ mxKn (h.1 a).1 then some (Int32.ofNat (mxCont (h.1 a)).length) else none
theorem mx_arrV (cA : ClassId) (L : List Value) : ({ cls := cA, slots := L.toArray, vm := .none } : Cell) = arrV cA L.length (fun j => L.getD j .null) := by
  unfold arrV
  congr 1
  apply Array.ext
  · simp
  · intro i h1 h2
    have : i < L.length := by simpa using h1
    simp [this]
/-- what lies at an array -/
theorem mxHp.arr {Z : mxZ} {h : mxH} {H : Heap} {s : State} (hH : mxHp Z h H) (hG : mxGF Z s) {a t : Nat} (hlt : mxLv h a) (hc : (h.1 a).1 = t) (h1 : mxKn t) :
    ∃ cell : Cell, H[mxTr Z a]? = some cell ∧ s.isArrayOf cell (mxTy t) ∧ cell.vm ≠ .unknown ∧ cell.slots = ((mxCont (h.1 a)).map (mxSh Z)).toArray ∧ (a < h.2 → cell = { cls := Z.2.2.2.2 t, slots := ((mxCont (h.1 a)).map (mxSh Z)).toArray, vm := .none }) := by
  have hle := hH.2.1
  by_cases h3 : ∃ i, i < 2 ∧ a = 1000000 + i
  · obtain ⟨i, h3, rfl⟩ := h3
    obtain ⟨cell, g1, g2, g3, g4⟩ := hH.2.2.2.1 i h3
    obtain ⟨cell', f1, f2⟩ := hG.2.2.2.2.1 i h3
    cases f1.symm.trans g1
    have ht : t = 100 := by rw [← hc]; exact g2
    subst ht
    have hlo : mxTr Z (1000000 + i) < Z.2.1.size := (Array.getElem?_eq_some_iff.mp g1).1
    refine ⟨cell, (hH.2.2.1 _ hlo).trans g1, f2, g3, ?_, fun q => by omega⟩
    rw [g4]
    unfold mxCont
    rw [if_pos (Or.inl g2), List.map_map]
    rfl
  · have hlt : a < h.2 := by
      rcases hlt with q | q | q
      · exact q
      · exact absurd ⟨0, by omega, q⟩ h3
      · exact absurd ⟨1, by omega, q⟩ h3
    obtain ⟨cell, g1, -, g2⟩ := hH.2.2.2.2 a hlt
    have g3 := g2 (by omega) (by omega)
    rw [hc] at g3
    refine ⟨cell, g1, ?_, (by rw [g3]; exact fun q => nomatch q), (by rw [g3]), fun _ => g3⟩
    rw [g3, mx_arrV]
    exact (hG.2.2.1 t h1).1 _ _
theorem mx_put_arr {Z : mxZ} {t : Nat} {ints : List Int32} {vals : List Value} {L : List Value} {cell : Cell} {i : Nat} {v : Value} (h1 : 100 ≤ t) (hcell : cell = { cls := Z.2.2.2.2 t, slots := (L.map (mxSh Z)).toArray, vm := .none }) (hL : mxCont (t, ints, vals) = L.set i v) : mxCell Z (t, ints, vals) (cell.setSlot i (mxSh Z v)) := by
  subst hcell
  refine ⟨fun q => absurd q (by show ¬ t < 100; omega), fun _ _ => ?_⟩
  show ({ cls := Z.2.2.2.2 t, slots := (L.map (mxSh Z)).toArray.setIfInBounds i (mxSh Z v), vm := .none } : Cell) = _
  rw [hL]
  congr 1
  rw [List.setIfInBounds_toArray, List.map_set]
section MG3
variable {l : Launch} {Z : mxZ} {X : mxX} {own : String} {cc : ByteArray} {nL k n pc : Nat} {ls : List (Option Value)} {st : List Value} {h : mxH}
theorem mx_in {L : List Value} {i : Int32} {v : Value} {Z : mxZ} {slots : Array Value} (h1 : ¬ i < 0) (hs : slots = (L.map (mxSh Z)).toArray) (hv : L[i.toNatClampNeg]? = some v) : ¬ (i < 0 ∨ slots.size ≤ i.toNatClampNeg) ∧ slots[i.toNatClampNeg]? = some (mxSh Z v) := by
  subst hs
  have hlt := (List.getElem?_eq_some_iff.mp hv).1
  refine ⟨fun q => ?_, ?_⟩
  · rcases q with q | q
    · exact h1 q
    · simp at q; omega
  · simp [hv]
theorem mG_iaload {a : Nat} {i x : Int32} (C : mxC l Z X own cc nL) (hd : decode cc pc = .ok (.iaload, 1)) (hv : ldI h a i = some x) (g : mG l Z X nL k n (pc + 1) ls (.int x :: st) h) : mG l Z X nL k n pc ls (.int i :: .ref a :: st) h := by
  obtain ⟨p, e, R, s, m, args, below, meth, c, Q⟩ := X
  intro H locs lr hH hL hlr
  unfold ldI at hv
  split at hv
  · rename_i hq
    obtain ⟨hlt, hc, hi⟩ := hq
    obtain ⟨cell, c1, c2, c3, c4, -⟩ := hH.arr C.2.2.2.2.2.2.1 hlt hc (by omega)
    have hv' : (mxCont (h.1 a))[i.toNatClampNeg]? = some (.int x) := by
      unfold mxCont; rw [if_pos (Or.inl hc), List.getElem?_map, hv]; rfl
    obtain ⟨q1, q2⟩ := mx_in hi c4 hv'
    exact W.iald C.1 C.2.1 c1 c2 c3 q1 q2 rfl rfl hd (g H locs lr hH hL hlr)
  · cases hv
theorem mG_aaload {a r : Nat} {i : Int32} (C : mxC l Z X own cc nL) (hd : decode cc pc = .ok (.aaload, 1)) (hv : ldR h a i = some r) (g : mG l Z X nL k n (pc + 1) ls (.ref r :: st) h) : mG l Z X nL k n pc ls (.int i :: .ref a :: st) h := by
  obtain ⟨p, e, R, s, m, args, below, meth, c, Q⟩ := X
  intro H locs lr hH hL hlr
  unfold ldR at hv
  split at hv
  · rename_i hq
    obtain ⟨hlt, hc, hi⟩ := hq
    obtain ⟨cell, c1, c2, c3, c4, -⟩ := hH.arr (t := (h.1 a).1) C.2.2.2.2.2.2.1 (Or.inl hlt) rfl (by omega)
    have hv' : (mxCont (h.1 a))[i.toNatClampNeg]? = some (.ref r) := by
      unfold mxCont; rw [if_neg (by omega)]; exact mxRf_some hv
    obtain ⟨q1, q2⟩ := mx_in hi c4 hv'
    refine W.aald C.1 C.2.1 c1 c2 ?_ c3 q1 q2 rfl rfl hd (g H locs lr hH hL hlr)
    rcases hc with e1 | e1 <;> rw [e1] <;> rfl
  · cases hv
theorem mG_arraylength {a : Nat} {x : Int32} (C : mxC l Z X own cc nL) (hd : decode cc pc = .ok (.arraylength, 1)) (hv : lenA h a = some x) (g : mG l Z X nL k n (pc + 1) ls (.int x :: st) h) : mG l Z X nL k n pc ls (.ref a :: st) h := by
  obtain ⟨p, e, R, s, m, args, below, meth, c, Q⟩ := X
  intro H locs lr hH hL hlr
  unfold lenA at hv
  split at hv
  · rename_i hq
    obtain ⟨hlt, hc⟩ := hq
    cases hv
    obtain ⟨cell, c1, c2, c3, c4, -⟩ := hH.arr (t := (h.1 a).1) C.2.2.2.2.2.2.1 hlt rfl hc
    exact W.alen C.1 C.2.1 c1 c2 (by rw [c4]; simp) rfl rfl hd (g H locs lr hH hL hlr)
  · cases hv
theorem mG_iastore {a : Nat} {i x : Int32} {h' : mxH} (C : mxC l Z X own cc nL) (hd : decode cc pc = .ok (.iastore, 1)) (hv : stI h a i x = some h') (g : mG l Z X nL k n (pc + 1) ls st h') : mG l Z X nL k n pc ls (.int x :: .int i :: .ref a :: st) h := by
  obtain ⟨p, e, R, s, m, args, below, meth, c, Q⟩ := X
  intro H locs lr hH hL hlr
  unfold stI at hv
  split at hv
  · rename_i hq
    obtain ⟨⟨hlt, h2⟩, hc, hi, hb⟩ := hq
    cases hv
    obtain ⟨cell, c1, c2, c3, c4, c5⟩ := hH.arr C.2.2.2.2.2.2.1 (Or.inl hlt) hc (by omega)
    have hco : mxCont (h.1 a) = (h.1 a).2.1.map Value.int := by unfold mxCont; rw [if_pos (Or.inl hc)]
    refine W.iast C.1 C.2.1 c1 c2 c3 (fun q => ?_) rfl rfl hd (fun H' e1 e2 e3 => g H' _ lr (hH.put hlt e1 (mx_put_arr (v := .int x) (L := mxCont (h.1 a)) (by omega) (c5 hlt) ?_) e2 e3) ?_ hlr)
    · rcases q with q | q
      · exact hi q
      · rw [c4, hco] at q; simp at q; omega
    · rw [hco]; unfold mxCont; rw [if_pos (Or.inl rfl), List.map_set]
    · intro z hz
      rcases List.mem_append.mp hz with hz | hz
      · exact hL z hz
      · rw [List.mem_singleton.mp hz]; exact mxTr_ge (hH.lt hlt)
  · cases hv
theorem mG_aastore {a r : Nat} {i : Int32} {h' : mxH} (C : mxC l Z X own cc nL) (hd : decode cc pc = .ok (.aastore, 1)) (hv : stR h a i r = some h') (g : mG l Z X nL k n (pc + 1) ls st h') : mG l Z X nL k n pc ls (.ref r :: .int i :: .ref a :: st) h := by
  obtain ⟨p, e, R, s, m, args, below, meth, c, Q⟩ := X
  intro H locs lr hH hL hlr
  unfold stR at hv
  split at hv
  · rename_i hq
    obtain ⟨⟨hlt, h2⟩, ⟨hc, hrl, hr8⟩, hi, hb⟩ := hq
    cases hv
    have hG := C.2.2.2.2.2.2.1
    obtain ⟨cell, c1, c2, c3, c4, c5⟩ := hH.arr hG (Or.inl hlt) hc (by omega)
    have hco : mxCont (h.1 a) = (h.1 a).2.2 := by unfold mxCont; rw [if_neg (by omega)]
    have hcell := c5 hlt
    obtain ⟨cv, v1, vo, -⟩ := hH.2.2.2.2 r hrl
    obtain ⟨v2, v3, -, -⟩ := vo (by omega)
    rw [hr8] at v2
    obtain ⟨kA, comp, k1, k2, k3, -⟩ := hG.2.2.2.1
    have hcl : mxCl[7]? = some (RX7, TX7, 4) := rfl
    have hcls := (hG.2.1.1 7 _ hcl).2
    have hcomp : comp = Z.1.1 7 := Option.some.inj (k3.symm.trans hcls.1)
    subst hcomp
    obtain ⟨kC, hkC, -⟩ := hcls.2
    refine W.aast C.1 C.2.1 c1 (fun q h => by rw [hcell] at h; cases h) c3 (by rw [hcell]; exact k1) k2 rfl hkC ⟨hi, ?_⟩ v1 (fun q h => by rw [v3] at h; cases h) (by rw [v2]; exact hkC) (by rw [v2]; exact va_assign hcls) rfl rfl hd (fun H' e1 e2 e3 => g H' _ lr (hH.put hlt e1 (mx_put_arr (v := .ref r) (L := mxCont (h.1 a)) (by omega) hcell ?_) e2 e3) ?_ hlr)
    · rw [c4, hco]; simpa using hb
    · rw [hco]; unfold mxCont; rw [if_neg (by omega)]
    · intro z hz
      rcases List.mem_append.mp hz with hz | hz
      · exact hL z hz
      · rw [List.mem_singleton.mp hz]; exact mxTr_ge (hH.lt hlt)
  · cases hv
end MG3
