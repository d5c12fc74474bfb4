/-! the mini machine: the rows that read and write the heap -/
def mxUp (h : mxH) (a : Nat) (e : mxE) : mxH := (fun b => if b = a then e else h.1 b, h.2)
def mxNew (h : mxH) (e : mxE) : mxH := (fun b => if b = h.2 then e else h.1 b, h.2 + 1)
theorem mxTr_inj {Z : mxZ} {i j : Nat} (hi : i < 1000000) (hj : j < 1000000) (h : mxTr Z i = mxTr Z j) : i = j := by
  rw [mxTr_hi hi, mxTr_hi hj] at h
  omega
theorem mxTr_ge {Z : mxZ} {i : Nat} (hi : i < 1000000) : Z.2.1.size ≤ mxTr Z i := by
  rw [mxTr_hi hi]; omega
theorem mxHp.lt {Z : mxZ} {h : mxH} {H : Heap} (hH : mxHp Z h H) {a : Nat} (hlt : a < h.2) : a < 1000000 := Nat.lt_of_lt_of_le hlt hH.2.1
/-- a cell that is not yet: it isn't one of the two old ones -/
theorem mxHp.new {Z : mxZ} {h : mxH} {H : Heap} (hH : mxHp Z h H) (hx : (h.1 h.2).1 = 300) : h.2 < 1000000 := by
  obtain ⟨-, g2, -, g4, -⟩ := hH
  obtain ⟨cell, -, g, -⟩ := g4 0 (by omega)
  by_cases e : h.2 = 1000000
  · rw [e] at hx
    have g : (h.1 1000000).1 = 100 := g
    omega
  · omega
theorem mxHp.put {Z : mxZ} {h : mxH} {H H1 : Heap} (hH : mxHp Z h H) {a : Nat} {e : mxE} {cell : Cell} (hlt : a < h.2) (h1 : H1[mxTr Z a]? = some cell) (hc : mxCell Z e cell) (hz : H1.size = H.size) (hk : ∀ q : Nat, q ≠ mxTr Z a → H1[q]? = H[q]?) : mxHp Z (mxUp h a e) H1 := by
  have h2 := hH.lt hlt
  obtain ⟨g1, g2, g3, g4, g5⟩ := hH
  refine ⟨⟨by rw [hz]; exact g1.1, fun q => by rw [hz]; exact g1.2 ((congrArg Prod.fst (show (mxUp h a e).1 h.2 = h.1 h.2 from if_neg (by omega))) ▸ q)⟩, g2, fun q hq => ?_, fun i hi => ?_, fun i hi2 => ?_⟩
  · rw [hk q (fun e => by have := mxTr_ge (Z := Z) h2; omega)]; exact g3 q hq
  · have : (mxUp h a e).1 (1000000 + i) = h.1 (1000000 + i) := if_neg (by omega)
    rw [this]; exact g4 i hi
  · have hi2 : i < h.2 := hi2
    by_cases hia : i = a
    · subst hia
      have : (mxUp h i e).1 i = e := if_pos rfl
      rw [this]; exact ⟨cell, h1, hc⟩
    · have : (mxUp h a e).1 i = h.1 i := if_neg hia
      rw [this, hk _ (fun e => hia (mxTr_inj (by omega) h2 e))]
      exact g5 i hi2
theorem mxHp.push {Z : mxZ} {h : mxH} {H H1 : Heap} (hH : mxHp Z h H) (hx : (h.1 h.2).1 = 300) {e : mxE} {cell : Cell} (h1 : H1[H.size]? = some cell) (hc : mxCell Z e cell) (hz : H1.size = H.size + 1) (hk : ∀ q : Nat, q < H.size → H1[q]? = H[q]?) : mxHp Z (mxNew h e) H1 := by
  have g6 := hH.new hx
  obtain ⟨⟨-, g1⟩, g2, g3, g4, g5⟩ := hH
  have g1 := g1 hx
  have hn : (mxNew h e).2 = h.2 + 1 := rfl
  refine ⟨⟨by rw [hz, hn]; omega, fun _ => by rw [hz, hn]; omega⟩, by rw [hn]; omega, fun q hq => ?_, fun i hi => ?_, fun i hi2 => ?_⟩
  · rw [hk q (by omega)]; exact g3 q hq
  · have : (mxNew h e).1 (1000000 + i) = h.1 (1000000 + i) := if_neg (by omega)
    rw [this]; exact g4 i hi
  · rw [hn] at hi2
    by_cases hia : i = h.2
    · subst hia
      have : (mxNew h e).1 h.2 = e := if_pos rfl
      rw [this, mxTr_hi g6]
      refine ⟨cell, ?_, hc⟩
      rw [show Z.2.1.size + h.2 = H.size by omega]; exact h1
    · have : (mxNew h e).1 i = h.1 i := if_neg hia
      rw [this, hk _ (by rw [mxTr_hi (by omega)]; omega)]
      exact g5 i (by omega)
theorem mxHp.next {Z : mxZ} {h : mxH} {H : Heap} (hH : mxHp Z h H) (hx : (h.1 h.2).1 = 300) : mxTr Z h.2 = H.size := by
  have g6 := hH.new hx
  obtain ⟨⟨-, g1⟩, g2, -⟩ := hH
  have g1 := g1 hx
  rw [mxTr_hi g6]; omega
/-- behind a throw: what came beyond the known cells is not known -/
def mxThr (h : mxH) : mxH := (fun b => if b = h.2 ∧ b < 1000000 then (200, [], []) else h.1 b, h.2)
theorem mxHp.thr {Z : mxZ} {h : mxH} {H H1 : Heap} (hH : mxHp Z h H) (hz : H.size ≤ H1.size) (hk : ∀ q : Nat, q < H.size → H1[q]? = H[q]?) : mxHp Z (mxThr h) H1 := by
  obtain ⟨⟨g0, -⟩, g2, g3, g4, g5⟩ := hH
  have hs : (mxThr h).2 = h.2 := rfl
  refine ⟨⟨by rw [hs]; omega, fun q => ?_⟩, g2, fun q hq => ?_, fun i hi => ?_, fun i hi2 => ?_⟩
  · rw [hs] at q
    by_cases e : h.2 < 1000000
    · have : (mxThr h).1 h.2 = (200, [], []) := if_pos ⟨rfl, e⟩
      rw [this] at q
      exact absurd q (by decide)
    · have : (mxThr h).1 h.2 = h.1 h.2 := if_neg (fun w => e w.2)
      rw [this] at q
      obtain ⟨cell, -, g, -⟩ := g4 0 (by omega)
      have g : (h.1 1000000).1 = 100 := g
      rw [show h.2 = 1000000 by omega] at q
      omega
  · rw [hk q (by omega)]; exact g3 q hq
  · have : (mxThr h).1 (1000000 + i) = h.1 (1000000 + i) := if_neg (by omega)
    rw [this]; exact g4 i hi
  · have h3 : i < h.2 := hi2
    have : (mxThr h).1 i = h.1 i := if_neg (by omega)
    rw [this, hk _ (by rw [mxTr_hi (by omega)]; omega)]
    exact g5 i h3
/-- behind a throw that made one cell, of which no more is known -/
theorem mxHp.one {Z : mxZ} {h : mxH} {H H1 : Heap} (hH : mxHp Z h H) (hx : (h.1 h.2).1 = 300) (hz : H1.size = H.size + 1) (hk : ∀ q : Nat, q < H.size → H1[q]? = H[q]?) : mxHp Z (mxNew h (200, [], [])) H1 :=
  hH.push hx (cell := H1[H.size]'(by omega)) (Array.getElem?_eq_getElem (by omega)) ⟨fun q => absurd (show (200 : Nat) < 100 from q) (by omega), fun _ q => absurd (show (200 : Nat) < 200 from q) (by omega)⟩ hz hk
/-- field j of class ci, as the constant idx of own links it: its type, whether it is final -/
def mxFld (own : String) (idx ci j : Nat) (ty : FieldType) (fin : Bool) : Prop :=
  ∃ (C : String) (T : u_T) (N : Nat), mxCl[ci]? = some (C, T, N) ∧ j < N ∧ parseFieldDescriptor (T j).2.2.1 = some ty ∧ (T j).2.2.2 = fin ∧
    (Cond.fieldLink own idx (T j).1 (T j).2.1 (T j).2.2.1 ∈ mxAW ∨ ∃ host : String, Cond.fieldLinkNest own idx (T j).1 (T j).2.1 (T j).2.2.1 host ∈ mxNW)
/-- what is so of every class of the list -/
def mxKl (r : vw_C) : Prop := (∀ w ∈ u_ws r.1 r.2.1 r.2.2, w ∈ mxAW) ∧ (∀ a, a < r.2.2 → ∀ b, b < r.2.2 → a ≠ b → (r.2.1 a).2.1 ≠ (r.2.1 b).2.1) ∧ ∃ ty : Nat → FieldType, ∀ k, k < r.2.2 → parseFieldDescriptor (r.2.1 k).2.2.1 = some (ty k)
set_option maxRecDepth 100000 in
theorem mxKl_all : ∀ (ci : Nat) (r : vw_C), mxCl[ci]? = some r → mxKl r := by
  intro ci r h
  have hm := List.mem_of_getElem? h
  simp only [mxCl, List.mem_cons, List.not_mem_nil, or_false] at hm
  rcases hm with rfl | rfl | rfl | rfl | rfl | rfl | rfl | rfl | rfl | rfl | rfl | rfl
  · exact ⟨by decide +kernel, nmX0, tyX0, tyX0_ok⟩
  · exact ⟨by decide +kernel, nmX1, tyX1, tyX1_ok⟩
  · exact ⟨by decide +kernel, nmX2, tyX2, tyX2_ok⟩
  · exact ⟨by decide +kernel, nmX3, tyX3, tyX3_ok⟩
  · exact ⟨by decide +kernel, nmX4, tyX4, tyX4_ok⟩
  · exact ⟨by decide +kernel, nmX5, tyX5, tyX5_ok⟩
  · exact ⟨by decide +kernel, nmX6, tyX6, tyX6_ok⟩
  · exact ⟨by decide +kernel, nmX7, tyX7, tyX7_ok⟩
  · exact ⟨by decide +kernel, nmX8, tyX8, tyX8_ok⟩
  · exact ⟨by decide +kernel, nmX9, tyX9, tyX9_ok⟩
  · exact ⟨by decide +kernel, nmX10, tyX10, tyX10_ok⟩
  · exact ⟨by decide +kernel, nmL, tyL, tyL_ok⟩
theorem mxCl_lt {ci : Nat} {r : vw_C} (h : mxCl[ci]? = some r) : ci < 12 := (List.getElem?_eq_some_iff.mp h).1
section MG2
variable {l : Launch} {Z : mxZ} {X : mxX} {own : String} {cc : ByteArray} {nL k n pc : Nat} {ls : List (Option Value)} {st : List Value} {h : mxH}
theorem mG_getfield {idx ci j a : Nat} {ty : FieldType} {fin : Bool} {v : Value} (C : mxC l Z X own cc nL) (hd : decode cc pc = .ok (.getfield idx, 3)) (hf : mxFld own idx ci j ty fin) (hlt : a < h.2) (hc : (h.1 a).1 = ci) (hv : (h.1 a).2.2[j]? = some v) (g : mG l Z X nL k n (pc + 3) ls (v :: st) h) : mG l Z X nL k n pc ls (.ref a :: st) h := by
  obtain ⟨p, e, R, s, m, args, below, meth, c, Q⟩ := X
  intro H locs lr hH hL hlr
  obtain ⟨CC, T, N, hcl, hjN, -, -, hlk⟩ := hf
  have hci := mxCl_lt hcl
  have h2 := hH.lt hlt
  obtain ⟨cell, hcell, hobj, -⟩ := hH.2.2.2.2 a hlt
  obtain ⟨q1, q2, ⟨r, q3, q4⟩, q5⟩ := hobj (by omega)
  rw [hc] at q3
  have hr : r = (CC, T, N) := Option.some.inj (q3.symm.trans hcl)
  subst hr
  obtain ⟨hin, -, -⟩ := mxKl_all ci _ hcl
  have hP : va_P Z.1 mxCl [(mxTr Z a, .inr (ci, (h.1 a).2.2.map (mxSh Z)))] H := by
    intro i q hq
    have hi0 : i = 0 := by
      have := (List.getElem?_eq_some_iff.mp hq).1
      simp at this; omega
    subst hi0
    cases hq
    refine ⟨_, hcl, cell, hcell, by rw [← hc]; exact q1, q2, fun i hi => ?_⟩
    have hlen : i < (h.1 a).2.2.length := by rw [q4]; exact hi
    rw [← hc, q5 i _ (List.getElem?_eq_getElem hlen)]
    simp [vp_V, hlen]
  have hv' : ((h.1 a).2.2.map (mxSh Z))[j]? = some (mxSh Z v) := by rw [List.getElem?_map, hv]; rfl
  rcases hlk with hlk | ⟨host, hlk⟩
  · exact va_get (D := Z.1) (T := T) C.1 C.2.1 C.2.2.2.2.1 hin C.2.2.2.1 C.2.2.2.2.2.2.1.2.1 hP 0 rfl hcl j hjN (C.2.2.2.2.1 _ hlk) (fun _ q => q) hv' hd (g H locs lr hH hL hlr)
  · exact va_getN (D := Z.1) (T := T) C.1 C.2.1 C.2.2.2.2.1 hin C.2.2.2.1 C.2.2.2.2.2.2.1.2.1 hP 0 rfl hcl j hjN (va_Nw.use rfl (C.2.2.2.2.2.2.1.1 _ hlk)) (fun _ q => q) hv' hd (g H locs lr hH hL hlr)
theorem mx_slot {Z : mxZ} {h : mxH} {a ci j : Nat} {CC : String} {T : u_T} {N : Nat} {s : State} {args : Array Value} {v : Value} {cell : Cell} {D2 : Nat → Nat} (hcl : mxCl[ci]? = some (CC, T, N)) (hts : ∀ w ∈ mxAW, w.before args s = true) (hK : va_K Z.1 mxCl [] s)
    (q4 : (h.1 a).2.2.length = N) (q5 : ∀ k v, (h.1 a).2.2[k]? = some v → cell.slots[Z.1.2 ci k]? = some (mxSh Z v)) (hjN : j < N) (hD2 : D2 = Z.1.2 ci) : ∀ k w, ((h.1 a).2.2.set j v)[k]? = some w → (cell.setSlot (D2 j) (mxSh Z v)).slots[Z.1.2 ci k]? = some (mxSh Z w) := by
  obtain ⟨hin, hnm, ty, hty⟩ := mxKl_all ci _ hcl
  have hap := va_apart (own := CC) hts hin ty hty hnm hK hcl
  subst hD2
  intro k w hk
  have hkN : k < N := by
    have := (List.getElem?_eq_some_iff.mp hk).1
    rw [List.length_set, q4] at this; exact this
  have h1 := t_set (cell := cell) (N := N) (iS := Z.1.2 ci) (V := fun k => mxSh Z ((h.1 a).2.2.getD k .null)) (fun i hi => by
    have hlen : i < (h.1 a).2.2.length := by rw [q4]; exact hi
    rw [q5 i _ (List.getElem?_eq_getElem hlen)]
    simp [hlen]) hap hjN (mxSh Z v) k hkN
  rw [h1]
  by_cases hkj : k = j
  · subst hkj
    have hlen : k < (h.1 a).2.2.length := by rw [q4]; exact hkN
    rw [List.getElem?_set_self hlen] at hk
    cases hk
    simp [updV]
  · rw [List.getElem?_set_ne (fun e => hkj e.symm)] at hk
    simp [updV, hkj, hk]
theorem mG_putfield {idx ci j a : Nat} {ty : FieldType} {v : Value} (C : mxC l Z X own cc nL) (hd : decode cc pc = .ok (.putfield idx, 3)) (hf : mxFld own idx ci j ty false) (hlt : a < h.2) (hc : (h.1 a).1 = ci) (hn : narrow ty (mxSh Z v) = mxSh Z v) (hfit : fits ty (mxSh Z v) = true) (g : mG l Z X nL k n (pc + 3) ls st (mxUp h a ((h.1 a).1, (h.1 a).2.1, (h.1 a).2.2.set j v))) : mG l Z X nL k n pc ls (v :: .ref a :: st) h := by
  obtain ⟨p, e, R, s, m, args, below, meth, c, Q⟩ := X
  intro H locs lr hH hL hlr
  obtain ⟨CC, T, N, hcl, hjN, hty, hfin, hlk⟩ := hf
  have hci := mxCl_lt hcl
  have h2 := hH.lt hlt
  obtain ⟨cell, hcell, hobj, -⟩ := hH.2.2.2.2 a hlt
  obtain ⟨q1, q2, ⟨r, q3, q4⟩, q5⟩ := hobj (by omega)
  rw [hc] at q3 q1
  have hr : r = (CC, T, N) := Option.some.inj (q3.symm.trans hcl)
  subst hr
  obtain ⟨hin, -, -⟩ := mxKl_all ci _ hcl
  have hts := C.2.2.2.2.1
  obtain ⟨hS, hfc, kC, hkC, hkind⟩ := C.2.2.2.2.2.2.1.2.1.1 ci _ hcl
  obtain ⟨cf, kf, fi, f, hi, hsl⟩ := hS j hjN
  have hlay := hts _ (hin _ (u_in_lay hjN))
  unfold u_lay at hlay
  rw [if_neg (by rw [hfin]; decide)] at hlay
  have hst := (u_facts hfc hkC (u_lays hts hin hjN) hi).1
  have h6 := u_store hfc hkC hkind hlay hi hty hn hfit
  have hjl : j < (h.1 a).2.2.length := by rw [q4]; exact hjN
  have hslot : f.slot < cell.slots.size := by
    rw [hsl]
    have := q5 j _ (List.getElem?_eq_getElem hjl)
    rw [hc] at this
    exact (Array.getElem?_eq_some_iff.mp this).1
  have fin : ∀ H' : Heap, H'[mxTr Z a]? = some (cell.setSlot f.slot (mxSh Z v)) → H'.size = H.size → (∀ q, q ≠ mxTr Z a → H'[q]? = H[q]?) → W p l e R s m args below meth c H' (locs ++ [⟨mxTr Z a, f.slot⟩]) k n Q (F0 m (pc + 3) lr (st.map (mxSh Z))) := by
    intro H' e1 e2 e3
    refine g H' _ lr (hH.put hlt e1 ⟨fun _ => ⟨by show _ = Z.1.1 (h.1 a).1; rw [hc]; exact q1, q2, ⟨_, by show mxCl[(h.1 a).1]? = _; rw [hc]; exact hcl, by show ((h.1 a).2.2.set j v).length = _; rw [List.length_set]; exact q4⟩, ?_⟩, fun h3 => ?_⟩ e2 e3) ?_ hlr
    · show ∀ k w, ((h.1 a).2.2.set j v)[k]? = some w → _ = _
      rw [show ((h.1 a).1, (h.1 a).2.1, (h.1 a).2.2.set j v).1 = ci from hc, hsl]
      refine mx_slot hcl hts C.2.2.2.2.2.2.1.2.1 q4 (fun k w hk => ?_) hjN rfl
      have := q5 k w hk
      rw [hc] at this; exact this
    · exact absurd (show 100 ≤ (h.1 a).1 from h3) (by omega)
    · intro z hz
      rcases List.mem_append.mp hz with hz | hz
      · exact hL z hz
      · rw [List.mem_singleton.mp hz]; exact mxTr_ge h2
  rcases hlk with hlk | ⟨host, hlk⟩
  · exact W.putK C.1 C.2.1 (f := f) ⟨C.2.2.2.1, hts _ hlk, ⟨_, _, _, hi⟩, hst⟩ (by rw [q1]; exact h6) hcell q2 hslot rfl rfl hd fin
  · exact va_WputK C.1 C.2.1 (f := f) C.2.2.2.1 (va_Nw.use rfl (C.2.2.2.2.2.2.1.1 _ hlk)) hi hst (by rw [q1]; exact h6) hcell q2 hslot rfl rfl hd fin
end MG2
