/-! the mini machine: int[n][k], and the makes as the walks use them -/
/-- the heap behind new int[n][k] -/
def mxGrid (h : mxH) (n k : Nat) : mxH := (fun b => if b = h.2 then (103, [], (List.range n).map fun i => .ref (h.2 + 1 + i)) else if h.2 < b ∧ b < h.2 + 1 + n then (100, List.replicate k 0, []) else h.1 b, h.2 + 1 + n)
theorem mx_outer (c : ClassId) (N h0 : Nat) : ∀ i : Nat, i ≤ N → Jvm.Free.Multi.outerC c N h0 i = { cls := c, slots := ((List.range i).map (fun j => Value.ref (h0 + 1 + j)) ++ List.replicate (N - i) Value.null).toArray, vm := .none } := by
  intro i
  induction i with
  | zero =>
    intro _
    show ({ cls := c, slots := Array.replicate N .null, vm := .none } : Cell) = _
    simp
  | succ i ih =>
    intro hi
    show (Jvm.Free.Multi.outerC c N h0 i).setSlot i (.ref (h0 + 1 + i)) = _
    rw [ih (by omega)]
    show ({ cls := c, slots := Array.setIfInBounds _ i _, vm := .none } : Cell) = _
    congr 1
    rw [List.setIfInBounds_toArray]
    congr 1
    apply List.ext_getElem
    · simp; omega
    · intro j h1 h2
      rw [List.getElem_set]
      by_cases e : i = j
      · subst e
        simp
      · rw [if_neg e]
        by_cases hj : j < i
        · rw [List.getElem_append_left (by simpa using hj), List.getElem_append_left (by simp; omega)]
          simp
        · rw [List.getElem_append_right (by simpa using hj), List.getElem_append_right (by simp; omega)]
          simp
theorem mxHp.grid {Z : mxZ} {h : mxH} {H H1 : Heap} (hH : mxHp Z h H) (hx : (h.1 h.2).1 = 300) {N K : Nat} (hb : h.2 + 1 + N ≤ 1000000) (hz : H1.size = H.size + 1 + N) (h0 : H1[H.size]? = some { cls := Z.2.2.2.2 103, slots := ((List.range N).map (fun j => Value.ref (H.size + 1 + j))).toArray, vm := .none })
    (hr : ∀ j, j < N → H1[H.size + 1 + j]? = some { cls := Z.2.2.2.2 100, slots := Array.replicate K (.int 0), vm := .none }) (hk : ∀ q : Nat, q < H.size → H1[q]? = H[q]?) : mxHp Z (mxGrid h N K) H1 := by
  obtain ⟨⟨-, g1⟩, g2, g3, g4, g5⟩ := hH
  have g1 := g1 hx
  have hn : (mxGrid h N K).2 = h.2 + 1 + N := rfl
  refine ⟨⟨by rw [hz, hn]; omega, fun _ => by rw [hz, hn]; omega⟩, by rw [hn]; omega, fun q hq => ?_, fun i hi => ?_, fun i hi2 => ?_⟩
  · rw [hk q (by omega)]; exact g3 q hq
  · have : (mxGrid h N K).1 (1000000 + i) = h.1 (1000000 + i) := by
      show (if 1000000 + i = h.2 then _ else if h.2 < 1000000 + i ∧ 1000000 + i < h.2 + 1 + N then _ else h.1 (1000000 + i)) = h.1 (1000000 + i)
      rw [if_neg (by omega), if_neg (by omega)]
    rw [this]; exact g4 i hi
  · rw [hn] at hi2
    rw [mxTr_hi (by omega)]
    by_cases c1 : i = h.2
    · subst c1
      have : (mxGrid h N K).1 h.2 = (103, [], (List.range N).map fun i => .ref (h.2 + 1 + i)) := if_pos rfl
      rw [this]
      refine ⟨_, by rw [show Z.2.1.size + h.2 = H.size by omega]; exact h0, fun q => absurd (show (103 : Nat) < 100 from q) (by omega), fun _ _ => ?_⟩
      show _ = ({ cls := Z.2.2.2.2 103, slots := ((mxCont (103, [], (List.range N).map fun i => .ref (h.2 + 1 + i))).map (mxSh Z)).toArray, vm := .none } : Cell)
      congr 2
      unfold mxCont
      rw [if_neg (by omega), List.map_map]
      apply List.map_congr_left
      intro j hj0
      have hj := hj0
      clear hj0
      show Value.ref (H.size + 1 + j) = Value.ref (mxTr Z (h.2 + 1 + j))
      rw [mxTr_hi (by have := List.mem_range.mp hj; omega)]
      have e9 : (H.size + 1 + j : Nat) = Z.2.1.size + (h.2 + 1 + j) := by omega
      rw [e9]
    · by_cases c2 : h.2 < i
      · have : (mxGrid h N K).1 i = (100, List.replicate K 0, []) := by
          show (if i = h.2 then _ else if h.2 < i ∧ i < h.2 + 1 + N then _ else h.1 i) = _
          rw [if_neg c1, if_pos ⟨c2, hi2⟩]
        rw [this]
        obtain ⟨j, rfl⟩ : ∃ j, i = h.2 + 1 + j := ⟨i - h.2 - 1, by omega⟩
        refine ⟨_, by rw [show Z.2.1.size + (h.2 + 1 + j) = H.size + 1 + j by omega]; exact hr j (by omega), fun q => absurd (show (100 : Nat) < 100 from q) (by omega), fun _ _ => ?_⟩
        show _ = ({ cls := Z.2.2.2.2 100, slots := ((mxCont (100, List.replicate K 0, [])).map (mxSh Z)).toArray, vm := .none } : Cell)
        rw [mx_slI (e := (100, List.replicate K 0, [])) rfl]
        congr 1
        simp
      · have : (mxGrid h N K).1 i = h.1 i := by
          show (if i = h.2 then _ else if h.2 < i ∧ i < h.2 + 1 + N then _ else h.1 i) = _
          rw [if_neg c1, if_neg (by omega)]
        rw [this, hk _ (by omega), ← mxTr_hi (by omega)]
        exact g5 i (by omega)
def nwI (h : mxH) (n : Nat) : Option mxH := if (h.1 h.2).1 = 300 then some (mxNew h (100, List.replicate n 0, [])) else none
def nwZ (h : mxH) (n : Nat) : Option mxH := if (h.1 h.2).1 = 300 then some (mxNew h (101, List.replicate n 0, [])) else none
def nwJ (h : mxH) (n : Nat) : Option mxH := if (h.1 h.2).1 = 300 then some (mxNew h (102, [], List.replicate n (.long 0))) else none
def nwS (h : mxH) (n : Nat) : Option mxH := if (h.1 h.2).1 = 300 then some (mxNew h (104, [], List.replicate n .null)) else none
def nwG (h : mxH) (n k : Nat) : Option mxH := if (h.1 h.2).1 = 300 ∧ h.2 + 1 + n ≤ 1000000 then some (mxGrid h n k) else none
def nwO (h : mxH) (ci : Nat) (fs : List Value) : Option mxH := if (h.1 h.2).1 = 300 then some (mxNew h (ci, [], fs)) else none
def mxRoom (R : Room) (k n : Nat) : Bool := Nat.ble k R.cells && Nat.ble n R.slots
theorem mxRoom_of {R : Room} {k n : Nat} (h : mxRoom R k n = true) : k ≤ R.cells ∧ n ≤ R.slots := by
  simp only [mxRoom, Bool.and_eq_true] at h
  exact ⟨Nat.le_of_ble_eq_true h.1, Nat.le_of_ble_eq_true h.2⟩
section MGM
variable {l : Launch} {Z : mxZ} {X : mxX} {own : String} {cc : ByteArray} {nL k n pc : Nat} {ls : List (Option Value)} {st : List Value} {h : mxH}
theorem mG_nwI {x : Int32} {N k' n' : Nat} {R0 : Room} {h' : mxH} (C : mxC l Z X own cc nL) (hX : mxRm X = R0) (hd : decode cc pc = .ok (.newarray .int, 2)) (hw : Cond.arrayClass .int ∈ mxAW) (hx0 : ¬ x < 0) (hN : x.toNatClampNeg = N) (hN2 : Nat.ble N 10000 = true) (hv : nwI h N = some h') (hk : k + 1 = k') (hn : n + N = n') (hR : mxRoom R0 k' n' = true) (g : mG l Z X nL k' n' (pc + 2) ls (.ref h.2 :: st) h') : mG l Z X nL k n pc ls (.int x :: st) h := by
  unfold nwI at hv
  split at hv
  · rename_i hx
    cases hv
    subst hX; subst hk; subst hn
    exact mG_newarray (t := 100) C hd rfl rfl hw hx0 hN (Nat.le_of_ble_eq_true hN2) rfl (by unfold mxCont; rw [if_pos (Or.inl rfl), List.map_replicate]; rfl) hx (mxRoom_of hR) g
  · cases hv
theorem mG_nwS {idx : Nat} {x : Int32} {N k' n' : Nat} {R0 : Room} {h' : mxH} (C : mxC l Z X own cc nL) (hX : mxRm X = R0) (hd : decode cc pc = .ok (.anewarray idx, 3)) (hw : Cond.classLink own idx RX7 ∈ mxAW) (hx0 : ¬ x < 0) (hN : x.toNatClampNeg = N) (hN2 : Nat.ble N 10000 = true) (hv : nwS h N = some h') (hk : k + 1 = k') (hn : n + N = n') (hR : mxRoom R0 k' n' = true) (g : mG l Z X nL k' n' (pc + 3) ls (.ref h.2 :: st) h') : mG l Z X nL k n pc ls (.int x :: st) h := by
  unfold nwS at hv
  split at hv
  · rename_i hx
    cases hv
    subst hX; subst hk; subst hn
    exact mG_anewarray C hd hw hx0 hN (Nat.le_of_ble_eq_true hN2) hx (mxRoom_of hR) g
  · cases hv
theorem mG_nwO {idx ci N k' n' : Nat} {fs : List Value} {R0 : Room} {h' : mxH} (C : mxC l Z X own cc nL) (hX : mxRm X = R0) (hd : decode cc pc = .ok (.new idx, 3)) (hm : mxMk own idx ci fs N) (hv : nwO h ci fs = some h') (hk : k + 1 = k') (hn : n + N = n') (hR : mxRoom R0 k' n' = true) (g : mG l Z X nL k' n' (pc + 3) ls (.ref h.2 :: st) h') : mG l Z X nL k n pc ls st h := by
  unfold nwO at hv
  split at hv
  · rename_i hx
    cases hv
    subst hX; subst hk; subst hn
    exact mG_new C hd hm hx (mxRoom_of hR) g
  · cases hv
theorem mG_nwG {idx : Nat} {x y : Int32} {N K k' n' : Nat} {R0 : Room} {h' : mxH} (C : mxC l Z X own cc nL) (hX : mxRm X = R0) (hd : decode cc pc = .ok (.multianewarray idx 2, 4)) (hw : Cond.classLink own idx ("[" ++ (FieldType.array .int).toString) ∈ mxAW) (hw2 : Cond.arrayClass .int ∈ mxAW) (hx0 : ¬ x < 0) (hy0 : ¬ y < 0) (hN : x.toNatClampNeg = N) (hK : y.toNatClampNeg = K) (hN2 : Nat.ble N 10000 = true) (hK2 : Nat.ble K 10000 = true) (hv : nwG h N K = some h') (hk : k + 1 + N = k') (hn : n + N + N * K = n') (hR : mxRoom R0 k' n' = true)
    (g : mG l Z X nL k' n' (pc + 4) ls (.ref h.2 :: st) h') : mG l Z X nL k n pc ls (.int y :: .int x :: st) h := by
  unfold nwG at hv
  split at hv
  · rename_i hx9
    obtain ⟨hx, hb9⟩ := hx9
    cases hv
    subst hX; subst hk; subst hn; subst hN; subst hK
    have hN2 := Nat.le_of_ble_eq_true hN2
    have hK2 := Nat.le_of_ble_eq_true hK2
    obtain ⟨r1, r2⟩ := mxRoom_of hR
    obtain ⟨p, e, R, s, m, args, below, meth, c, Q⟩ := X
    intro H locs lr hH hL hlr
    have hts := C.2.2.2.2.1
    have hG := C.2.2.2.2.2.2.1
    intro T hT Xs
    obtain ⟨vm₁, cA, comp, -, fA, fC, -, -, X', step⟩ := Xs.multianewarray2F C.1 C.2.2.2.1 (hts _ hw) hG.2.2.2.2.2.2.2.2.2.2 (hts _ hw2) (g := F0 m pc lr (.int y :: .int x :: st.map (mxSh Z))) rfl (by rw [C.2.1]; exact hd) rfl hx0 hy0 (by omega) (Nat.le_trans (Nat.mul_le_mul hK2 (show componentBytes .int ≤ 8 by decide)) (by decide)) (by omega) rfl rfl (by simp only [mxRm] at r1; omega) (by simp only [mxRm] at r2; omega)
    have eA : cA = Z.2.2.2.2 103 := Option.some.inj (fA.symm.trans (hG.2.2.1 103 (by omega)).2)
    have eC : comp = Z.2.2.2.2 100 := Option.some.inj (fC.symm.trans (hG.2.2.1 100 (by omega)).2)
    subst eA; subst eC
    generalize hF : Jvm.Free.Multi.fill (T.setVm vm₁) (Z.2.2.2.2 103) (Z.2.2.2.2 100) x.toNatClampNeg y.toNatClampNeg (defaultValue .int) x.toNatClampNeg = F at X' step
    have hTh : (T.setVm vm₁).heap = H := hT
    obtain ⟨f1, f2, -, -⟩ := Jvm.Free.Multi.fill_facts (T.setVm vm₁) (Z.2.2.2.2 103) (Z.2.2.2.2 100) x.toNatClampNeg y.toNatClampNeg (defaultValue .int) x.toNatClampNeg
    rw [hF, hTh] at f1 f2
    have hold : ∀ q : Nat, q < H.size → F.heap[q]? = H[q]? := fun q hq => by
      have := Jvm.Free.Multi.fill_old (T.setVm vm₁) (Z.2.2.2.2 103) (Z.2.2.2.2 100) x.toNatClampNeg y.toNatClampNeg (defaultValue .int) (a := q) (by rw [hTh]; exact hq) x.toNatClampNeg
      rw [hF, hTh] at this
      exact this
    have hrow : ∀ j : Nat, j < x.toNatClampNeg → F.heap[H.size + 1 + j]? = some { cls := Z.2.2.2.2 100, slots := Array.replicate y.toNatClampNeg (.int 0), vm := .none } := fun j hj => by
      have := Jvm.Free.Multi.fill_inner (T.setVm vm₁) (Z.2.2.2.2 103) (Z.2.2.2.2 100) x.toNatClampNeg y.toNatClampNeg (defaultValue .int) x.toNatClampNeg j hj
      rw [hF, hTh] at this
      exact this
    rw [mx_outer _ _ _ _ (Nat.le_refl _)] at f2
    have f2' : F.heap[H.size]? = some { cls := Z.2.2.2.2 103, slots := ((List.range x.toNatClampNeg).map (fun j => Value.ref (H.size + 1 + j))).toArray, vm := .none } := by
      rw [f2]; simp
    have hn := hH.next hx
    have e : T.heap.size = H.size := by rw [hT]
    obtain ⟨t, a1, b1⟩ := g F.heap locs lr (hH.grid hx hb9 f1 f2' hrow hold) hL hlr F rfl X'
    refine ⟨t, step t ?_, b1⟩
    rw [e, ← hn]
    exact a1
  · cases hv
theorem mG_fst {idx : Nat} (C : mxC l Z X own cc nL) (hd : decode cc pc = .ok (.getstatic idx, 3)) (hw : Cond.fieldLink own idx RX9 "FIRST_ITEMS" "[I" ∈ mxAW) (g : mG l Z X nL k n (pc + 3) ls (.ref 1000001 :: st) h) : mG l Z X nL k n pc ls st h := mG_first C hd hw g
end MGM
