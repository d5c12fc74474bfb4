/-! THE PURE SIDE, 37: the law's own cells; what grows; loops of any fuel -/
/-- from h to h' at most K cells came, the old ones are as they were -/
def Ext (K : Nat) (h h' : mxH) : Prop := h.2 ≤ h'.2 ∧ h'.2 ≤ h.2 + K ∧ (∀ b, b < h.2 → h'.1 b = h.1 b) ∧ ∀ b, h'.2 ≤ b → h'.1 b = h.1 b
/-- what isn't there yet is new -/
def FR (h : mxH) : Prop := ∀ b, h.2 ≤ b → b < 1000000 → (h.1 b).1 = 300
theorem Ext.refl (h : mxH) : Ext 0 h h := ⟨Nat.le_refl _, by omega, fun _ _ => rfl, fun _ _ => rfl⟩
theorem Ext.trans {K L : Nat} {h h1 h2 : mxH} (a : Ext K h h1) (b : Ext L h1 h2) : Ext (K + L) h h2 := by
  obtain ⟨a1, a2, a3, a4⟩ := a
  obtain ⟨b1, b2, b3, b4⟩ := b
  exact ⟨by omega, by omega, fun c hc => (b3 c (by omega)).trans (a3 c hc), fun c hc => (b4 c hc).trans (a4 c (by omega))⟩
theorem Ext.le {K L : Nat} {h h1 : mxH} (a : Ext K h h1) (k : K ≤ L) : Ext L h h1 := ⟨a.1, by have := a.2.1; omega, a.2.2⟩
theorem Ext.fr {K : Nat} {h h1 : mxH} (a : Ext K h h1) (F : FR h) : FR h1 := fun b b1 b2 => by
  rw [a.2.2.2 b b1]
  exact F b (by have := a.1; omega) b2
/-- a write into a cell that came since h -/
theorem Ext.up {K : Nat} {h h1 : mxH} {a : Nat} {e : mxE} (x : Ext K h h1) (h2 : h.2 ≤ a) (h3 : a < h1.2) : Ext K h (mxUp h1 a e) :=
  ⟨x.1, x.2.1, fun b hb => (if_neg (by omega)).trans (x.2.2.1 b hb), fun b hb => (if_neg (by have hb : h1.2 ≤ b := hb; omega)).trans (x.2.2.2 b hb)⟩
theorem Ext.new {h : mxH} {e : mxE} : Ext 1 h (mxNew h e) := ⟨Nat.le_succ _, Nat.le_refl _, fun b hb => if_neg (by omega), fun b hb => if_neg (by have hb : h.2 + 1 ≤ b := hb; omega)⟩
/-- a row of N numbers lies at a -/
def AT (h : mxH) (a N : Nat) (f : Nat → Int32) : Prop := a < h.2 ∧ (h.1 a).1 = 100 ∧ (h.1 a).2.1 = tab N f
theorem AT.ext {K N a : Nat} {f : Nat → Int32} {h h1 : mxH} (A : AT h a N f) (x : Ext K h h1) : AT h1 a N f := by
  obtain ⟨a1, a2, a3⟩ := A
  exact ⟨by have := x.1; omega, by rw [x.2.2.1 a a1]; exact a2, by rw [x.2.2.1 a a1]; exact a3⟩
theorem AT.congr {N a : Nat} {f g : Nat → Int32} {h : mxH} (A : AT h a N f) (e : ∀ k, k < N → f k = g k) : AT h a N g := ⟨A.1, A.2.1, by rw [A.2.2]; exact tab_ext e⟩
theorem ld_tab {h : mxH} {a N k : Nat} {f : Nat → Int32} (l : mxLv h a) (t : (h.1 a).1 = 100) (e : (h.1 a).2.1 = tab N f) (hk : k < N) (hN : N < 2147483648) : ldI h a (Int32.ofNat k) = some (f k) := by
  unfold ldI
  rw [if_pos ⟨l, t, ofN_nn (by omega)⟩, ofN_clamp (by omega), e, tab_get hk]
theorem AT.ld {h : mxH} {a N k : Nat} {f : Nat → Int32} (A : AT h a N f) (hk : k < N) (hN : N < 2147483648 := by omega) : ldI h a (Int32.ofNat k) = some (f k) := ld_tab (Or.inl A.1) A.2.1 A.2.2 hk hN
theorem len_tab {h : mxH} {a N : Nat} {f : Nat → Int32} (l : mxLv h a) (t : (h.1 a).1 = 100) (e : (h.1 a).2.1 = tab N f) : lenA h a = some (Int32.ofNat N) := by
  unfold lenA mxCont
  rw [if_pos ⟨l, Or.inl t⟩, if_pos (Or.inl t), List.length_map, e, tab_len]
theorem AT.len {h : mxH} {a N : Nat} {f : Nat → Int32} (A : AT h a N f) : lenA h a = some (Int32.ofNat N) := len_tab (Or.inl A.1) A.2.1 A.2.2
/-- the heap with x at the place k of the row a -/
def sA (h : mxH) (a k : Nat) (x : Int32) : mxH := mxUp h a (100, (h.1 a).2.1.set k x, (h.1 a).2.2)
theorem AT.st {h : mxH} {a N k : Nat} {f : Nat → Int32} {x : Int32} (A : AT h a N f) (h2 : 2 ≤ a) (hk : k < N) (hN : N < 2147483648 := by omega) : stI h a (Int32.ofNat k) x = some (sA h a k x) ∧ AT (sA h a k x) a N (fup f k x) := by
  obtain ⟨a1, a2, a3⟩ := A
  constructor
  · unfold stI sA
    rw [ofN_clamp (by omega), if_pos ⟨⟨a1, h2⟩, a2, ofN_nn (by omega), by rw [a3, tab_len]; exact hk⟩]
  · refine ⟨a1, ?_, ?_⟩
    · show (if a = a then _ else _ : mxE).1 = 100
      rw [if_pos rfl]
    · show (if a = a then _ else _ : mxE).2.1 = _
      rw [if_pos rfl]
      show (h.1 a).2.1.set k x = _
      rw [a3, tab_set]
theorem AT.up {h : mxH} {a b N : Nat} {f : Nat → Int32} {e : mxE} (A : AT h a N f) (n : a ≠ b) : AT (mxUp h b e) a N f :=
  ⟨A.1, (congrArg Prod.fst (show (mxUp h b e).1 a = h.1 a from if_neg n)).trans A.2.1, (congrArg (fun q : mxE => q.2.1) (show (mxUp h b e).1 a = h.1 a from if_neg n)).trans A.2.2⟩
/-- a new row of a computed length -/
theorem nwV_at {h : mxH} (F : FR h) {m B : Nat} (hb : h.2 < 1000000) (hm : m ≤ B) (hB : B < 2147483648 := by omega) : nwV h (Int32.ofNat m) B = some (mxNew h (100, List.replicate m 0, [])) ∧ AT (mxNew h (100, List.replicate m 0, [])) h.2 m (fun _ => 0) := by
  constructor
  · unfold nwV
    rw [ofN_clamp (by omega), if_pos ⟨F _ (Nat.le_refl _) hb, ofN_nn (by omega), hm⟩]
  · refine ⟨Nat.lt_succ_self _, ?_, ?_⟩
    · show (if h.2 = h.2 then _ else _ : mxE).1 = 100
      rw [if_pos rfl]
    · show (if h.2 = h.2 then _ else _ : mxE).2.1 = _
      rw [if_pos rfl]
      exact tab_rep m 0
/-- loops of any fuel -/
theorem Ok_loopF {σ ρ : Type} {f : σ → Option (σ ⊕ ρ)} {Q : ρ → Prop} {s0 : σ} (F : Nat) (I : Nat → σ → Prop) (N : Nat) (i0 : I 0 s0) (step : ∀ k s, k < N → I k s → Ok (f s) (fun o => ∃ s', o = .inl s' ∧ I (k + 1) s')) (last : ∀ s, I N s → Ok (f s) (fun o => ∃ r, o = .inr r ∧ Q r)) (hN : N < F := by decide) : Ok (mxLoop f F s0) Q := by
  exact mxLoop_run (f := f) (I := fun k s => k ≤ N ∧ I (N - k) s) (E := Q) (fun k s hI => by
    obtain ⟨hk, hI⟩ := hI
    by_cases h0 : k = 0
    · subst h0
      obtain ⟨o, e, r, h1, h2⟩ := last s hI
      exact Or.inr ⟨r, by rw [e, h1], h2⟩
    · obtain ⟨o, e, s', h1, h2⟩ := step (N - k) s (by omega) hI
      refine Or.inl ⟨s', by rw [e, h1], by omega, by omega, ?_⟩
      rw [show N - (k - 1) = N - k + 1 by omega]
      exact h2) F N s0 hN ⟨Nat.le_refl _, by rw [Nat.sub_self]; exact i0⟩
theorem Ok_loopEF {σ ρ : Type} {f : σ → Option (σ ⊕ ρ)} {Q : ρ → Prop} {s0 : σ} (F : Nat) (I : Nat → σ → Prop) (N : Nat) (i0 : I 0 s0) (step : ∀ k s, k ≤ N → I k s → Ok (f s) (fun o => (∃ s', o = .inl s' ∧ k < N ∧ I (k + 1) s') ∨ ∃ r, o = .inr r ∧ Q r)) (hN : N < F := by decide) : Ok (mxLoop f F s0) Q := by
  exact mxLoop_run (f := f) (I := fun k s => k ≤ N ∧ I (N - k) s) (E := Q) (fun k s hI => by
    obtain ⟨hk, hI⟩ := hI
    obtain ⟨o, e, ⟨s', h1, h2, h3⟩ | ⟨r, h1, h2⟩⟩ := step (N - k) s (by omega) hI
    · refine Or.inl ⟨s', by rw [e, h1], by omega, by omega, ?_⟩
      rw [show N - (k - 1) = N - k + 1 by omega]
      exact h3
    · exact Or.inr ⟨r, by rw [e, h1], h2⟩) F N s0 hN ⟨Nat.le_refl _, by rw [Nat.sub_self]; exact i0⟩
/-! the law's own cells -/
def LW (h : mxH) (n : Nat → Int32) : Prop :=
  337 ≤ h.2 ∧ ((h.1 0).1 = 11 ∧ (h.1 0).2.2 = [.ref 2, .ref 1, .ref 319, .ref 325, .int (n 105)]) ∧ ((h.1 1).1 = 10 ∧ ∃ s, (h.1 1).2.2 = [.long s]) ∧
  ((h.1 319).1 = 103 ∧ (h.1 319).2.2 = [.ref 320, .ref 321, .ref 322, .ref 323, .ref 324]) ∧
  (∀ i, i < 5 → (h.1 (320 + i)).1 = 100 ∧ (h.1 (320 + i)).2.1 = tab 20 (fun t => n (20 * i + t))) ∧
  ((h.1 325).1 = 100 ∧ (h.1 325).2.1 = tab 5 (fun i => n (100 + i)))
/-- all of the law's cells but the dice are as they were -/
theorem LW.keep {h h1 : mxH} {n : Nat → Int32} (L : LW h n) (h2 : h.2 ≤ h1.2) (e : ∀ b, (b = 0 ∨ 319 ≤ b ∧ b < 337) → h1.1 b = h.1 b) (d : (h1.1 1).1 = 10 ∧ ∃ s, (h1.1 1).2.2 = [.long s]) : LW h1 n := by
  obtain ⟨l1, l2, l3, l4, l5, l6⟩ := L
  refine ⟨by omega, ?_, d, ?_, fun i hi => ?_, ?_⟩
  · rw [e 0 (Or.inl rfl)]; exact l2
  · rw [e 319 (by omega)]; exact l4
  · rw [e (320 + i) (by omega)]; exact l5 i hi
  · rw [e 325 (by omega)]; exact l6
theorem LW.ext {h h1 : mxH} {n : Nat → Int32} {K : Nat} (L : LW h n) (x : Ext K h h1) : LW h1 n := by
  have l1 := L.1
  refine L.keep x.1 (fun b hb => x.2.2.1 b (by omega)) ?_
  rw [x.2.2.1 1 (by omega)]; exact L.2.2.1
theorem LW.fr {h h1 : mxH} {n : Nat → Int32} {P : Nat → Prop} (L : LW h n) (F : Fr P h h1) (hp : ∀ b, P b → 2 ≤ b ∧ b < 319) : LW h1 n := by
  have e := F.2.2 (fun b z => (hp b z).2)
  refine L.keep (by omega) (fun b hb => F.2.1 b (fun z => by have := hp b z; omega)) ?_
  rw [F.2.1 1 (fun z => by have := hp 1 z; omega)]; exact L.2.2.1
theorem FR.fr {h h1 : mxH} {P : Nat → Prop} (R : FR h) (F : Fr P h h1) (hp : ∀ b, P b → 2 ≤ b ∧ b < 319) (h9 : 319 ≤ h.2) : FR h1 := by
  have e := F.2.2 (fun b z => (hp b z).2)
  intro b b1 b2
  rw [F.2.1 b (fun z => by have := hp b z; omega)]
  exact R b (by omega) b2
section
variable {h : mxH} {n : Nat → Int32}
theorem l_O (L : LW h n) : isO h 0 11 = some () := by
  unfold isO
  rw [if_pos ⟨by have := L.1; omega, L.2.1.1⟩]
theorem l_D (L : LW h n) : isO h 1 10 = some () := by
  unfold isO
  rw [if_pos ⟨by have := L.1; omega, L.2.2.1.1⟩]
theorem l_go (L : LW h n) : gR h 0 11 0 = some 2 := by
  unfold gR
  rw [if_pos ⟨by have := L.1; omega, L.2.1.1⟩, L.2.1.2]; rfl
theorem l_gd (L : LW h n) : gR h 0 11 1 = some 1 := by
  unfold gR
  rw [if_pos ⟨by have := L.1; omega, L.2.1.1⟩, L.2.1.2]; rfl
theorem l_gm (L : LW h n) : gR h 0 11 2 = some 319 := by
  unfold gR
  rw [if_pos ⟨by have := L.1; omega, L.2.1.1⟩, L.2.1.2]; rfl
theorem l_gw (L : LW h n) : gR h 0 11 3 = some 325 := by
  unfold gR
  rw [if_pos ⟨by have := L.1; omega, L.2.1.1⟩, L.2.1.2]; rfl
theorem l_gr (L : LW h n) : gI h 0 11 4 = some (n 105) := by
  unfold gI
  rw [if_pos ⟨by have := L.1; omega, L.2.1.1⟩, L.2.1.2]; rfl
theorem l_row (L : LW h n) {i : Nat} (hi : i < 5) : ldR h 319 (Int32.ofNat i) = some (320 + i) := by
  unfold ldR
  rw [if_pos ⟨by have := L.1; omega, Or.inl L.2.2.2.1.1, ofN_nn (by omega)⟩, ofN_clamp (by omega), L.2.2.2.1.2]
  rcases i5 hi with rfl | rfl | rfl | rfl | rfl <;> rfl
theorem l_AT (L : LW h n) {i : Nat} (hi : i < 5) : AT h (320 + i) 20 (fun t => n (20 * i + t)) := ⟨by have := L.1; omega, (L.2.2.2.2.1 i hi).1, (L.2.2.2.2.1 i hi).2⟩
theorem l_WT (L : LW h n) : AT h 325 5 (fun i => n (100 + i)) := ⟨by have := L.1; omega, L.2.2.2.2.2.1, L.2.2.2.2.2.2⟩
theorem l_mk (L : LW h n) {i t : Nat} (hi : i < 5) (ht : t < 20) : ldI h (320 + i) (Int32.ofNat t) = some (n (20 * i + t)) := (l_AT L hi).ld ht
theorem l_wt (L : LW h n) {i : Nat} (hi : i < 5) : ldI h 325 (Int32.ofNat i) = some (n (100 + i)) := (l_WT L).ld hi
theorem MG_neg (G : MG n) {k : Nat} (hk : k < 100) : n k < 0 ↔ n k = -1 := by
  rcases G k hk with e | ⟨m, hm, e⟩
  · rw [e]; exact ⟨fun _ => rfl, fun _ => by decide⟩
  · rw [e]
    exact ⟨fun z => absurd z (ofN_nn (by omega)), fun z => absurd z (ofN_nm (by omega))⟩
theorem MG_hs (G : MG n) {i t : Nat} (hi : i < 5) (ht : t < 20) : decide (n (20 * i + t) < 0) = !hs n i t := by
  unfold hs
  by_cases z : n (20 * i + t) = -1
  · rw [decide_eq_true ((MG_neg G (by omega)).mpr z)]; simp [z]
  · rw [decide_eq_false (fun y => z ((MG_neg G (by omega)).mp y))]; simp [z]
theorem lp_items (L : LW h n) (G : MG n) {i : Nat} (hi : i < 5) : fL_items 0 (Int32.ofNat i) h = some (Int32.ofNat (itm n i)) := by
  unfold fL_items
  refine bs (cnt_loop (hs n i) 20 (fun k c hk hc => ?_) (fun c => if_pos yle)) rfl
  have m := MG_hs G hi hk
  simp only [if_neg (n20 hk), l_gm L, l_row L hi, l_mk L hi hk, bN, ofN_succ]
  by_cases z : n (20 * i + k) < 0
  · rw [decide_eq_true z] at m
    have m : hs n i k = false := by simpa using m.symm
    rw [if_pos z]
    simp only [bN, m, Int32.add_zero]
    rfl
  · rw [decide_eq_false z] at m
    have m : hs n i k = true := by simpa using m.symm
    rw [if_neg z]
    simp only [bN, m, ofN_succ]
    rfl
theorem lp_isAhead (L : LW h n) {i s t : Nat} (hi : i < 5) (hs : s < 20) (ht : t < 20) : fL_isAhead 0 (Int32.ofNat i) (Int32.ofNat s) (Int32.ofNat t) h = some (bI (bef (mkf n i) s t)) := by
  unfold fL_isAhead
  simp only [l_gm L, l_row L hi, l_mk L hi hs, l_mk L hi ht, bN]
  have e1 : mkf n i t = n (20 * i + t) := rfl
  have e2 : mkf n i s = n (20 * i + s) := rfl
  by_cases c1 : n (20 * i + t) < n (20 * i + s)
  · rw [if_pos c1]
    have : bef (mkf n i) s t = true := bef_iff.mpr (Or.inl (by rw [e1, e2]; exact c1))
    rw [this]; rfl
  · rw [if_neg c1]
    by_cases c2 : n (20 * i + s) = n (20 * i + t)
    · rw [if_pos c2]
      by_cases c3 : s < t
      · have : bef (mkf n i) s t = true := bef_iff.mpr (Or.inr ⟨by rw [e1, e2]; exact c2, c3⟩)
        rw [if_neg (nle c3 (by omega)), this]; rfl
      · have : bef (mkf n i) s t = false := by
          by_cases q : bef (mkf n i) s t = true
          · rcases bef_iff.mp q with q | q
            · exact absurd (by rw [e1, e2] at q; exact q) c1
            · exact absurd q.2 c3
          · exact bF q
        rw [if_pos ((ofN_le (by omega) (by omega)).mpr (by omega)), this]; rfl
    · have : bef (mkf n i) s t = false := by
        by_cases q : bef (mkf n i) s t = true
        · rcases bef_iff.mp q with q | q
          · exact absurd (by rw [e1, e2] at q; exact q) c1
          · exact absurd (by rw [e1, e2] at q; exact q.1) c2
        · exact bF q
      rw [if_neg c2, this]; rfl
theorem lp_place (L : LW h n) {i t : Nat} (hi : i < 5) (ht : t < 20) : fL_place 0 (Int32.ofNat i) (Int32.ofNat t) h = some (Int32.ofNat (pla n i t)) := by
  unfold fL_place
  refine bs (cnt_loop (fun s => bef (mkf n i) s t) 20 (fun k c hk hc => ?_) (fun c => if_pos yle)) rfl
  simp only [if_neg (n20 hk), l_O L, lp_isAhead L hi hk ht, bN, ofN_succ, ofN_eq (show k < 2147483648 by omega) (show t < 2147483648 by omega)]
  by_cases z : k = t
  · subst z
    simp only [if_true, bN, bef_irr, Int32.add_zero]
    rfl
  · rw [if_neg z]
    cases bef (mkf n i) k t with
    | true => simp only [bI_t, e10, if_false, bN, ofN_succ]; rfl
    | false => simp only [bI_f, if_true, bN, Int32.add_zero]; rfl
theorem lp_isRead (L : LW h n) (G : MG n) {i t d : Nat} (hi : i < 5) (ht : t < 20) (hd : d < 2147483648) : fL_isRead 0 (Int32.ofNat i) (Int32.ofNat t) (Int32.ofNat d) h = some (bI (rdI n i t d)) := by
  have m := MG_hs G hi ht
  have p20 := pla_20 (n := n) (r := i) ht
  unfold fL_isRead
  simp only [l_gm L, l_row L hi, l_mk L hi ht, bN, l_O L, lp_place L hi ht]
  unfold rdI
  by_cases z : n (20 * i + t) < 0
  · rw [decide_eq_true z] at m
    have m : hs n i t = false := by simpa using m.symm
    rw [if_pos z, m]; rfl
  · rw [decide_eq_false z] at m
    have m : hs n i t = true := by simpa using m.symm
    rw [if_neg z, m]
    by_cases c : pla n i t < d
    · rw [if_neg (nle c hd), decide_eq_true c]; rfl
    · rw [if_pos ((ofN_le (by omega) (by omega)).mpr (by omega)), decide_eq_false c]; rfl
theorem lp_isReadAt (L : LW h n) (G : MG n) {t d : Nat} (ht : t < 20) (hd : d < 2147483648) : fL_isReadAt 0 (Int32.ofNat t) (Int32.ofNat d) h = some (bI (rdAt n t d)) := by
  unfold fL_isReadAt
  refine bs (mxLoop_up (S := fun k => (bI (orT (fun i => rdI n i t d) k), Int32.ofNat k)) (N := 5) (r := bI (rdAt n t d)) (fun k hk => ?_) (if_pos yle) (by decide)) (by simp only [z1_bI, bN])
  simp only [if_neg (n5 hk), l_O L, lp_isRead L G hk ht hd, bN, ofN_succ]
  show _ = some (Sum.inl (bI (orT (fun i => rdI n i t d) k || rdI n k t d), Int32.ofNat (k + 1)))
  cases orT (fun i => rdI n i t d) k <;> cases rdI n k t d <;> simp [bI, Option.bind]
theorem lp_last (L : LW h n) (G : MG n) {i d : Nat} (hi : i < 5) (h1 : 1 ≤ d) (h2 : d ≤ 20) : fL_last 0 (Int32.ofNat i) (Int32.ofNat d) h = some (lm n i d) := by
  have st : ∀ t, t < 20 → (if (20 : Int32) ≤ Int32.ofNat t then (some (Sum.inr (Sum.inr ())) : Option (Int32 ⊕ (Int32 ⊕ Unit))) else Option.bind (gR h 0 11 2) (fun r11 => Option.bind (ldR h r11 (Int32.ofNat i)) (fun r13 => Option.bind (ldI h r13 (Int32.ofNat t)) (fun v15 => (if v15 < 0 then some (Sum.inl (Int32.ofNat t + 1)) else Option.bind (isO h 0 11) (fun u18 => Option.bind (fL_place 0 (Int32.ofNat i) (Int32.ofNat t) h) (fun o21 => (if o21 = (Int32.ofNat d - 1) then some (Sum.inr (Sum.inl (Int32.ofNat t))) else some (Sum.inl (Int32.ofNat t + 1)))))))))) = if hs n i t && (pla n i t == d - 1) then some (Sum.inr (Sum.inl (Int32.ofNat t))) else some (Sum.inl (Int32.ofNat (t + 1))) := fun t ht => by
    have m := MG_hs G hi ht
    have p20 := pla_20 (n := n) (r := i) ht
    simp only [if_neg (n20 ht), l_gm L, l_row L hi, l_mk L hi ht, bN, l_O L, lp_place L hi ht, ofN_succ, ofN_pred h1 (show d < 2147483648 by omega), ofN_eq (show pla n i t < 2147483648 by omega) (show d - 1 < 2147483648 by omega)]
    by_cases z : n (20 * i + t) < 0
    · rw [decide_eq_true z] at m
      have m : hs n i t = false := by simpa using m.symm
      rw [if_pos z, m]; rfl
    · rw [decide_eq_false z] at m
      have m : hs n i t = true := by simpa using m.symm
      rw [if_neg z, m, Bool.true_and]
      by_cases c : pla n i t = d - 1
      · rw [if_pos c, if_pos (beq_iff_eq.mpr c)]
      · rw [if_neg c, if_neg (fun y => c (beq_iff_eq.mp y))]
  unfold fL_last
  refine bs (find_loop (fun t => hs n i t && (pla n i t == d - 1)) 20 (fun t ht hp => ?_) (fun t ht hp => ?_) (if_pos yle)) ?_
  · have := st t ht
    rw [hp] at this
    exact this.trans (if_neg (by simp))
  · have := st t ht
    rw [hp] at this
    exact this.trans (if_pos rfl)
  · have ef : fst1 (fun t => hs n i t && (pla n i t == d - 1)) 20 = thi n i (d - 1) := rfl
    rw [ef]
    unfold lm
    by_cases c : d - 1 < itm n i
    · obtain ⟨t1, t2, t3⟩ := thi_spec G hi c
      rw [if_pos t1, if_pos (by omega)]
      simp only [Sum.elim_inl, l_gw L, l_wt L hi, l_gm L, l_row L hi, l_mk L hi t1, bN]
      unfold wm
      rw [if_pos t2, Int32.mul_comm]
    · rw [if_neg (show ¬ d < itm n i + 1 by omega)]
      have : ¬ thi n i (d - 1) < 20 := fun z => by
        have y := (fst1_spec (fun t => hs n i t && (pla n i t == d - 1)) 20).2 z
        rw [ef] at y
        simp only [Bool.and_eq_true, beq_iff_eq] at y
        have y2 := pla_itm G hi z y.1
        rw [y.2] at y2
        omega
      rw [if_neg this]
      rfl
end
