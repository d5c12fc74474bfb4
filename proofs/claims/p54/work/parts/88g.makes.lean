/-! THE PURE SIDE, 49: the same reads and writes on a heap that is still being made: its cells from l + 2 to below T are laid -/
section
variable {l T : Nat}
def WFc (l T : Nat) (h : mxH) : Prop := h.2 = T ∧ ∀ a, l + 2 ≤ a → a < T → fits (lay a) (h.1 a)
def arc (l T : Nat) (a n : Nat) : Prop := l + 2 ≤ a ∧ a < T ∧ (lay a).1 = 100 ∧ (lay a).2.1 = n
def fdc (l T : Nat) (a c j : Nat) : Prop := l + 2 ≤ a ∧ a < T ∧ (lay a).1 = c ∧ c < 100 ∧ j < (lay a).2.1 ∧ (lay a).2.2.getD j 0 = 0
def rfc (l T : Nat) (a c j b : Nat) : Prop := l + 2 ≤ a ∧ a < T ∧ (lay a).1 = c ∧ c < 100 ∧ j < (lay a).2.1 ∧ (lay a).2.2.getD j 0 = b ∧ b ≠ 0
def rw2c (l T : Nat) (a j b : Nat) : Prop := l + 2 ≤ a ∧ a < T ∧ (lay a).1 = 103 ∧ j < (lay a).2.1 ∧ (lay a).2.2.getD j 0 = b
theorem ldI_atc {h : mxH} (W : (WFc l T) h) {a n k : Nat} (A : (arc l T) a n) (hk : k < n) (hn : n < 2147483648 := by decide) : ldI h a (Int32.ofNat k) = some (V h a k) := by
  obtain ⟨a1, a2, a3, a4⟩ := A
  obtain ⟨f1, f2, -⟩ := W.2 a a1 a2
  rw [a3] at f1
  have f2 := f2 (Or.inl a3)
  unfold ldI
  rw [if_pos ⟨by have := W.1; omega, f1, ofN_nn (by omega)⟩, ofN_clamp (by omega)]
  unfold V cv
  rw [if_neg (by rw [f1]; decide)]
  rw [List.getElem?_eq_getElem (by rw [f2, a4]; exact hk)]
  rfl
theorem stI_atc {h : mxH} (W : (WFc l T) h) {a n k : Nat} {x : Int32} (A : (arc l T) a n) (hk : k < n) (hn : n < 2147483648 := by decide) : stI h a (Int32.ofNat k) x = some (st h a k x) := by
  obtain ⟨a1, a2, a3, a4⟩ := A
  obtain ⟨f1, f2, -⟩ := W.2 a a1 a2
  rw [a3] at f1
  have f2 := f2 (Or.inl a3)
  unfold stI st
  rw [ofN_clamp (by omega)]
  rw [if_pos ⟨⟨by rw [W.1]; exact a2, by omega⟩, f1, ofN_nn (by omega), by rw [f2, a4]; exact hk⟩, if_neg (by rw [f1]; decide), f1]
theorem gI_atc {h : mxH} (W : (WFc l T) h) {a c j : Nat} (A : (fdc l T) a c j) : gI h a c j = some (V h a j) := by
  obtain ⟨a1, a2, a3, a4, a5, a6⟩ := A
  obtain ⟨f1, -, -, -, f2, -⟩ := W.2 a a1 a2
  obtain ⟨x, hx⟩ := (f2 (by omega) j a5).1 a6
  unfold gI
  rw [if_pos ⟨by rw [W.1]; exact a2, by rw [f1, a3]⟩, hx]
  unfold V cv
  rw [if_pos (by rw [f1, a3]; exact a4), hx]
  rfl
theorem pI_atc {h : mxH} (W : (WFc l T) h) {a c j : Nat} {x : Int32} (A : (fdc l T) a c j) : pI h a c j x = some (st h a j x) := by
  obtain ⟨a1, a2, a3, a4, a5, a6⟩ := A
  obtain ⟨f1, -⟩ := W.2 a a1 a2
  unfold pI st
  rw [if_pos ⟨by rw [W.1]; exact a2, by rw [f1, a3]⟩, if_pos (by rw [f1, a3]; exact a4), f1, a3]
theorem gR_atc {h : mxH} (W : (WFc l T) h) {a c j b : Nat} (A : (rfc l T) a c j b) : gR h a c j = some b := by
  obtain ⟨a1, a2, a3, a4, a5, a6, a7⟩ := A
  obtain ⟨f1, -, -, -, f2, -⟩ := W.2 a a1 a2
  have := (f2 (by omega) j a5).2 (by omega)
  unfold gR
  rw [if_pos ⟨by rw [W.1]; exact a2, by rw [f1, a3]⟩, this, a6]
  rfl
theorem ldR_atc {h : mxH} (W : (WFc l T) h) {a j b : Nat} (A : (rw2c l T) a j b) (hj : j < 2147483648 := by omega) : ldR h a (Int32.ofNat j) = some b := by
  obtain ⟨a1, a2, a3, a5, a6⟩ := A
  obtain ⟨f1, -, -, f2, -⟩ := W.2 a a1 a2
  have := f2 a3 j a5
  unfold ldR
  rw [if_pos ⟨by rw [W.1]; exact a2, Or.inl (by rw [f1, a3]), ofN_nn hj⟩, ofN_clamp hj, this, a6]
  rfl
theorem isO_atc {h : mxH} (W : (WFc l T) h) {a c : Nat} (A : l + 2 ≤ a ∧ a < T ∧ (lay a).1 = c) : isO h a c = some () := by
  obtain ⟨a1, a2, a3⟩ := A
  obtain ⟨f1, -⟩ := W.2 a a1 a2
  unfold isO
  rw [if_pos ⟨by rw [W.1]; exact a2, by rw [f1, a3]⟩]
theorem lenA_atc {h : mxH} (W : (WFc l T) h) {a n : Nat} (A : (arc l T) a n) : lenA h a = some (Int32.ofNat n) := by
  obtain ⟨a1, a2, a3, a4⟩ := A
  obtain ⟨f1, f2, -⟩ := W.2 a a1 a2
  have f2 := f2 (Or.inl a3)
  rw [a3] at f1
  unfold lenA mxCont
  rw [if_pos ⟨by have := W.1; omega, Or.inl f1⟩, if_pos (Or.inl f1), List.length_map, f2, a4]
def slc (l T : Nat) (a k : Nat) : Prop := l + 2 ≤ a ∧ a < T ∧ (((lay a).1 = 100 ∨ (lay a).1 = 101) ∧ k < (lay a).2.1 ∨ (lay a).1 < 100 ∧ k < (lay a).2.1 ∧ (lay a).2.2.getD k 0 = 0)
theorem arc.sl {a n k : Nat} (A : (arc l T) a n) (hk : k < n) : (slc l T) a k := ⟨A.1, A.2.1, Or.inl ⟨Or.inl A.2.2.1, by rw [A.2.2.2]; exact hk⟩⟩
theorem fdc.sl {a c j : Nat} (A : (fdc l T) a c j) : (slc l T) a j := ⟨A.1, A.2.1, Or.inr ⟨by rw [A.2.2.1]; exact A.2.2.2.1, A.2.2.2.2⟩⟩
theorem WF_stc {h : mxH} (W : (WFc l T) h) {a k : Nat} {x : Int32} (A : (slc l T) a k) : (WFc l T) (st h a k x) := by
  refine ⟨W.1, fun b b1 b2 => ?_⟩
  by_cases e : b = a
  · subst e
    obtain ⟨f1, f2, f3, f4, f5, f6⟩ := W.2 b b1 b2
    rw [st_self]
    obtain ⟨-, -, ⟨c1, c2⟩ | ⟨c1, c2, c3⟩⟩ := A
    · rw [if_neg (by rw [f1]; omega)]
      exact ⟨f1, fun q => by show (List.set _ _ _).length = _; rw [List.length_set]; exact f2 q, f3, f4, f5, f6⟩
    · rw [if_pos (by rw [f1]; omega)]
      refine ⟨f1, f2, fun q => by omega, fun q => by omega, fun q j hj => ?_, fun q => by omega⟩
      obtain ⟨g1, g2⟩ := f5 q j hj
      show (_ → ∃ y, ((h.1 b).2.2.set k (Value.int x))[j]? = _) ∧ (_ → ((h.1 b).2.2.set k (Value.int x))[j]? = _)
      by_cases e : k = j
      · subst e
        refine ⟨fun q => ?_, fun q => absurd c3 q⟩
        obtain ⟨y, hy⟩ := g1 q
        exact ⟨x, List.getElem?_set_self (List.getElem?_eq_some_iff.mp hy).1⟩
      · rw [List.getElem?_set_ne e]
        exact ⟨g1, g2⟩
  · rw [st_ne e]
    exact W.2 b b1 b2
theorem V_stc {h : mxH} (W : (WFc l T) h) {a k : Nat} {x : Int32} (A : (slc l T) a k) (b j : Nat) : V (st h a k x) b j = if b = a ∧ j = k then x else V h b j := by
  unfold V
  by_cases e : b = a
  · subst e
    obtain ⟨f1, f2, -, -, f5, -⟩ := W.2 b A.1 A.2.1
    rw [st_self]
    obtain ⟨-, -, ⟨c1, c2⟩ | ⟨c1, c2, c3⟩⟩ := A
    · have hn : ¬ (h.1 b).1 < 100 := by rw [f1]; omega
      rw [if_neg hn, cv_a (e := ((h.1 b).1, (h.1 b).2.1.set k x, (h.1 b).2.2)) hn, cv_a hn]
      show (((h.1 b).2.1.set k x)[j]?).getD 0 = _
      by_cases e : j = k
      · subst e
        rw [if_pos ⟨rfl, rfl⟩, List.getElem?_set_self (by rw [f2 c1]; exact c2)]
        rfl
      · rw [if_neg (fun q => e q.2), List.getElem?_set_ne (fun q => e q.symm)]
    · have hn : (h.1 b).1 < 100 := by rw [f1]; omega
      rw [if_pos hn, cv_f (e := ((h.1 b).1, (h.1 b).2.1, (h.1 b).2.2.set k (Value.int x))) hn, cv_f hn]
      show (mxIn ((h.1 b).2.2.set k (Value.int x))[j]?).getD 0 = _
      by_cases e : j = k
      · subst e
        obtain ⟨y, hy⟩ := (f5 c1 j c2).1 c3
        rw [if_pos ⟨rfl, rfl⟩, List.getElem?_set_self (List.getElem?_eq_some_iff.mp hy).1]
        rfl
      · rw [if_neg (fun q => e q.2), List.getElem?_set_ne (fun q => e q.symm)]
  · rw [st_ne e, if_neg (fun q => e q.1)]
theorem V_st_eqc {h : mxH} (W : (WFc l T) h) {a k : Nat} {x : Int32} (A : (slc l T) a k) : V (st h a k x) a = fup (V h a) k x := by
  funext j
  rw [V_stc W A]
  unfold fup
  by_cases e : j = k
  · rw [if_pos ⟨rfl, e⟩, if_pos e]
  · rw [if_neg (fun q => e q.2), if_neg e]
def Frc (l T : Nat) (P : Nat → Prop) (h h' : mxH) : Prop := (WFc l T) h' ∧ ∀ b, True → ¬ P b → h'.1 b = h.1 b
theorem Frc.refl {P : Nat → Prop} {h : mxH} (W : (WFc l T) h) : (Frc l T) P h h := ⟨W, fun _ _ _ => rfl⟩
theorem Frc.trans {P : Nat → Prop} {h h1 h2 : mxH} (a : (Frc l T) P h h1) (b : (Frc l T) P h1 h2) : (Frc l T) P h h2 := ⟨b.1, fun c c1 c2 => (b.2 c c1 c2).trans (a.2 c c1 c2)⟩
theorem Frc.mono {P Q : Nat → Prop} {h h1 : mxH} (a : (Frc l T) P h h1) (m : ∀ b, P b → Q b) : (Frc l T) Q h h1 := ⟨a.1, fun c c1 c2 => a.2 c c1 (fun q => c2 (m c q))⟩
theorem Frc.st {P : Nat → Prop} {h : mxH} (W : (WFc l T) h) {a k : Nat} {x : Int32} (A : (slc l T) a k) (p : P a) : (Frc l T) P h (st h a k x) := ⟨WF_stc W A, fun b _ hb => st_ne (fun e => hb (e ▸ p))⟩
theorem Fr_Vc {P : Nat → Prop} {h h1 : mxH} (a : (Frc l T) P h h1) {b : Nat} (h2 : b < T) (h3 : ¬ P b) : V h1 b = V h b := by
  unfold V; rw [a.2 b trivial h3]
def RBc (l T r : Nat) : Prop := RB r ∧ l + 2 ≤ r ∧ r + 23 ≤ T
theorem RB_lec {r : Nat} (R : (RBc l T) r) : (4 ≤ r ∧ r ≤ 266) ∧ l + 2 ≤ r ∧ r + 23 ≤ T := ⟨RB_le R.1, R.2⟩
theorem lay_Rc {r o : Nat} (R : (RBc l T) r) (ho : o < 23) : lay (r + o) = layR r o := lay_R R.1 ho
theorem ar_Rc {r o n : Nat} (R : (RBc l T) r) (ho : o < 23) (e : layR r o = (100, n, [])) : (arc l T) (r + o) n := by
  have := RB_lec R
  exact ⟨by omega, by omega, by rw [lay_Rc R ho, e], by rw [lay_Rc R ho, e]⟩
theorem ar_mkc {r i : Nat} (R : (RBc l T) r) (hi : i < 5) : (arc l T) (r + 2 + i) 20 := by
  rw [Nat.add_assoc]
  refine ar_Rc R (by omega) ?_
  rcases i5 hi with rfl | rfl | rfl | rfl | rfl <;> rfl
theorem ar_plc {r i : Nat} (R : (RBc l T) r) (hi : i < 5) : (arc l T) (r + 8 + i) 20 := by
  rw [Nat.add_assoc]
  refine ar_Rc R (by omega) ?_
  rcases i5 hi with rfl | rfl | rfl | rfl | rfl <;> rfl
theorem ar_thc {r i : Nat} (R : (RBc l T) r) (hi : i < 5) : (arc l T) (r + 14 + i) 20 := by
  rw [Nat.add_assoc]
  refine ar_Rc R (by omega) ?_
  rcases i5 hi with rfl | rfl | rfl | rfl | rfl <;> rfl
theorem ar_szc {r : Nat} (R : (RBc l T) r) : (arc l T) (r + 19) 5 := ar_Rc R (by omega) rfl
theorem ar_wtc {r : Nat} (R : (RBc l T) r) : (arc l T) (r + 20) 5 := ar_Rc R (by omega) rfl
theorem ar_fpc {r : Nat} (R : (RBc l T) r) : (arc l T) (r + 21) 20 := ar_Rc R (by omega) rfl
theorem ar_ptc {r : Nat} (R : (RBc l T) r) : (arc l T) (r + 22) 5 := ar_Rc R (by omega) rfl
theorem lay_R0c {r : Nat} (R : (RBc l T) r) : lay r = (6, 8, [r + 1, r + 7, r + 13, r + 19, r + 20, r + 21, 0, r + 22]) := lay_Rc (o := 0) R (by omega)
theorem rf_Rc {r j b : Nat} (R : (RBc l T) r) (hj : j < 8) (e : ([r + 1, r + 7, r + 13, r + 19, r + 20, r + 21, 0, r + 22] : List Nat).getD j 0 = b) (hb : b ≠ 0) : (rfc l T) r 6 j b := by
  have := RB_lec R
  exact ⟨by omega, by omega, by rw [lay_R0c R], by omega, by rw [lay_R0c R]; exact hj, by rw [lay_R0c R]; exact e, hb⟩
theorem gR_mc {h : mxH} (W : (WFc l T) h) {r : Nat} (R : (RBc l T) r) : gR h r 6 0 = some (r + 1) := gR_atc W (rf_Rc R (by omega) rfl (by omega))
theorem gR_pc {h : mxH} (W : (WFc l T) h) {r : Nat} (R : (RBc l T) r) : gR h r 6 1 = some (r + 7) := gR_atc W (rf_Rc R (by omega) rfl (by omega))
theorem gR_tc {h : mxH} (W : (WFc l T) h) {r : Nat} (R : (RBc l T) r) : gR h r 6 2 = some (r + 13) := gR_atc W (rf_Rc R (by omega) rfl (by omega))
theorem gR_sc {h : mxH} (W : (WFc l T) h) {r : Nat} (R : (RBc l T) r) : gR h r 6 3 = some (r + 19) := gR_atc W (rf_Rc R (by omega) rfl (by omega))
theorem gR_wc {h : mxH} (W : (WFc l T) h) {r : Nat} (R : (RBc l T) r) : gR h r 6 4 = some (r + 20) := gR_atc W (rf_Rc R (by omega) rfl (by omega))
theorem gR_fc {h : mxH} (W : (WFc l T) h) {r : Nat} (R : (RBc l T) r) : gR h r 6 5 = some (r + 21) := gR_atc W (rf_Rc R (by omega) rfl (by omega))
theorem gR_xc {h : mxH} (W : (WFc l T) h) {r : Nat} (R : (RBc l T) r) : gR h r 6 7 = some (r + 22) := gR_atc W (rf_Rc R (by omega) rfl (by omega))
theorem fd_rulec {r : Nat} (R : (RBc l T) r) : (fdc l T) r 6 6 := by
  have := RB_lec R
  exact ⟨by omega, by omega, by rw [lay_R0c R], by omega, by rw [lay_R0c R]; exact (by decide : 6 < 8), by rw [lay_R0c R]; rfl⟩
theorem isO_Rc {h : mxH} (W : (WFc l T) h) {r : Nat} (R : (RBc l T) r) : isO h r 6 = some () := by
  have := RB_lec R
  exact isO_atc W ⟨by omega, by omega, by rw [lay_R0c R]⟩
theorem ldR_mc {h : mxH} (W : (WFc l T) h) {r i : Nat} (R : (RBc l T) r) (hi : i < 5) : ldR h (r + 1) (Int32.ofNat i) = some (r + 2 + i) := by
  have := RB_lec R
  refine ldR_atc W ⟨by omega, by omega, by rw [lay_Rc R (by omega)]; rfl, by rw [lay_Rc R (by omega)]; exact hi, ?_⟩
  rw [lay_Rc R (by omega)]
  rcases i5 hi with rfl | rfl | rfl | rfl | rfl <;> rfl
theorem ldR_pc {h : mxH} (W : (WFc l T) h) {r i : Nat} (R : (RBc l T) r) (hi : i < 5) : ldR h (r + 7) (Int32.ofNat i) = some (r + 8 + i) := by
  have := RB_lec R
  refine ldR_atc W ⟨by omega, by omega, by rw [lay_Rc R (by omega)]; rfl, by rw [lay_Rc R (by omega)]; exact hi, ?_⟩
  rw [lay_Rc R (by omega)]
  rcases i5 hi with rfl | rfl | rfl | rfl | rfl <;> rfl
theorem ldR_tc {h : mxH} (W : (WFc l T) h) {r i : Nat} (R : (RBc l T) r) (hi : i < 5) : ldR h (r + 13) (Int32.ofNat i) = some (r + 14 + i) := by
  have := RB_lec R
  refine ldR_atc W ⟨by omega, by omega, by rw [lay_Rc R (by omega)]; rfl, by rw [lay_Rc R (by omega)]; exact hi, ?_⟩
  rw [lay_Rc R (by omega)]
  rcases i5 hi with rfl | rfl | rfl | rfl | rfl <;> rfl
theorem RR_frc {P : Nat → Prop} {h h1 : mxH} {r : Nat} {n : Nat → Int32} (R : (RBc l T) r) (a : RR h r n) (f : (Frc l T) P h h1) (hp : ∀ o, o < 22 → ¬ P (r + o)) : RR h1 r n := by
  have := RB_lec R
  obtain ⟨a1, a2, a3, a4, a5, a6, a7⟩ := a
  have e : ∀ o, o < 22 → V h1 (r + o) = V h (r + o) := fun o ho => Fr_Vc f (by omega) (hp o ho)
  refine ⟨fun i t hi ht => ?_, fun i t hi ht => ?_, fun i t hi ht => ?_, fun i hi => ?_, fun i hi => ?_, fun t ht => ?_, ?_⟩
  · rw [Nat.add_assoc, e _ (by omega), ← Nat.add_assoc]; exact a1 i t hi ht
  · rw [Nat.add_assoc, e _ (by omega), ← Nat.add_assoc]; exact a2 i t hi ht
  · rw [Nat.add_assoc, e _ (by omega), ← Nat.add_assoc]; exact a3 i t hi ht
  · rw [e _ (by omega)]; exact a4 i hi
  · rw [e _ (by omega)]; exact a5 i hi
  · rw [e _ (by omega)]; exact a6 t ht
  · have := e 0 (by omega); rw [Nat.add_zero] at this; rw [this]; exact a7

theorem s_fillc {h : mxH} (W : (WFc l T) h) {a n : Nat} {x : Int32} (A : (arc l T) a n) (hn : n < mxF := by decide) : Ok (fJ7_fill_53178 a x h) (fun h' => (Frc l T) (fun b => b = a) h h' ∧ ∀ j, j < n → V h' a j = x) := by
  have hn2 : n < 100000 := hn
  unfold fJ7_fill_53178
  rw [lenA_atc W A, bN]
  refine Ok_b (Ok_loop (fun k s => s.1 = Int32.ofNat k ∧ (Frc l T) (fun b => b = a) h s.2 ∧ ∀ j, j < k → V s.2 a j = x) n ⟨rfl, Frc.refl W, fun j hj => by omega⟩ ?_ ?_ hn) (fun h1 H => Ok_p H)
  · rintro k ⟨s1, h1⟩ hk ⟨e, F, hv⟩
    obtain rfl := show s1 = _ from e
    have S := A.sl hk
    simp only [if_neg (nle hk (by omega)), stI_atc F.1 A hk (by omega), bN, ofN_succ]
    refine Ok_p ⟨_, rfl, rfl, F.trans (Frc.st F.1 S rfl), fun j hj => ?_⟩
    rw [V_stc F.1 S]
    split
    · rfl
    · exact hv j (by omega)
  · rintro ⟨s1, h1⟩ ⟨e, F, hv⟩
    obtain rfl := show s1 = _ from e
    exact Ok_e (if_pos yle) ⟨_, rfl, F, hv⟩
theorem s_countAheadc {h : mxH} (W : (WFc l T) h) {a t : Nat} (A : (arc l T) a 20) (ht : t < 20) : fX6_countAhead a (Int32.ofNat t) h = some (Int32.ofNat (cnt (fun s => bef (V h a) s t) 20)) := by
  unfold fX6_countAhead
  simp only [isThing_k ht, bN, e10, if_false, ldI_atc W A ht]
  refine bs (cnt_loop (fun s => bef (V h a) s t) 20 (fun k c hk hc => ?_) (fun c => if_pos yle)) rfl
  simp only [if_neg (show ¬ (20 : Int32) ≤ Int32.ofNat k from nle hk), ldI_atc W A hk, bN, ofN_succ, bef, ofN_le (show t < 2147483648 by omega) (show k < 2147483648 by omega)]
  by_cases c1 : V h a t < V h a k
  · simp [c1]
  · by_cases c2 : V h a k = V h a t
    · by_cases c3 : t ≤ k
      · simp [c2, c3, Nat.not_lt.mpr c3]
      · simp [c2, c3, Nat.not_le.mp c3]
    · simp [c1, c2]
theorem s_sortc {h : mxH} (W : (WFc l T) h) {a b c : Nat} (A : (arc l T) a 20) (B : (arc l T) b 20) (C : (arc l T) c 20) (hab : a ≠ b) (hac : a ≠ c) (hbc : b ≠ c) {f : Nat → Int32} (hf : ∀ t, t < 20 → V h a t = f t) :
    Ok (fX6_sort a b c h) (fun o => o.1 = Int32.ofNat (cnt (fun t => decide (f t ≠ -1)) 20) ∧ (Frc l T) (fun x => x = b ∨ x = c) h o.2 ∧ (∀ t, t < 20 → V o.2 c t = if f t = -1 then -1 else Int32.ofNat (cnt (fun s => bef f s t) 20)) ∧ (∀ t, t < 20 → f t ≠ -1 → V o.2 b (cnt (fun s => bef f s t) 20) = Int32.ofNat t) ∧ (∀ p, p < 20 → (∀ t, t < 20 → f t ≠ -1 → cnt (fun s => bef f s t) 20 ≠ p) → V o.2 b p = -1)) := by
  have h20 : ∀ t, t < 20 → cnt (fun s => bef f s t) 20 < 20 := fun t ht => by
    have h1 : cnt (fun s => bef f s t) 20 < cnt (fun _ => true) 20 := cnt_lt (fun _ _ _ => rfl) ht (bef_irr _ _) rfl
    have h2 := cnt_le (fun _ => true) 20
    omega
  have hinj : ∀ s t, s < 20 → t < 20 → cnt (fun u => bef f u s) 20 = cnt (fun u => bef f u t) 20 → s = t := fun s t hs ht e => by
    by_cases q : s = t
    · exact q
    · rcases bef_total (f := f) q with h | h
      · have := cnt_lt (p := fun u => bef f u s) (q := fun u => bef f u t) (fun k _ q => bef_trans q h) hs (bef_irr _ _) h
        omega
      · have := cnt_lt (p := fun u => bef f u t) (q := fun u => bef f u s) (fun k _ q => bef_trans q h) ht (bef_irr _ _) h
        omega
  have hP : ∀ h1 : mxH, (∀ t, t < 20 → V h1 a t = f t) → ∀ t, t < 20 → cnt (fun s => bef (V h1 a) s t) 20 = cnt (fun s => bef f s t) 20 := fun h1 e t ht => cnt_congr (fun s hs => by unfold bef; rw [e t ht, e s hs])
  unfold fX6_sort
  refine Ok_b (s_fillc W B) (fun h1 ⟨F1, v1⟩ => ?_)
  refine Ok_b (s_fillc F1.1 C) (fun h2 ⟨F2, v2⟩ => ?_)
  have F12 : (Frc l T) (fun x => x = b ∨ x = c) h h2 := (F1.mono (fun _ q => Or.inl q)).trans (F2.mono (fun _ q => Or.inr q))
  refine Ok_b (P := fun o => o.1 = Int32.ofNat (cnt (fun t => decide (f t ≠ -1)) 20) ∧ (Frc l T) (fun x => x = b ∨ x = c) h o.2 ∧ (∀ t, t < 20 → V o.2 c t = if f t = -1 then -1 else Int32.ofNat (cnt (fun s => bef f s t) 20)) ∧ (∀ t, t < 20 → f t ≠ -1 → V o.2 b (cnt (fun s => bef f s t) 20) = Int32.ofNat t) ∧ (∀ p, p < 20 → (∀ t, t < 20 → f t ≠ -1 → cnt (fun s => bef f s t) 20 ≠ p) → V o.2 b p = -1)) (Ok_loop (fun k s => s.1 = Int32.ofNat (cnt (fun t => decide (f t ≠ -1)) k) ∧ s.2.1 = Int32.ofNat k ∧ (Frc l T) (fun x => x = b ∨ x = c) h s.2.2 ∧ (∀ t, t < k → V s.2.2 c t = if f t = -1 then -1 else Int32.ofNat (cnt (fun s => bef f s t) 20)) ∧ (∀ t, k ≤ t → t < 20 → V s.2.2 c t = -1) ∧ (∀ t, t < k → f t ≠ -1 → V s.2.2 b (cnt (fun s => bef f s t) 20) = Int32.ofNat t) ∧ (∀ p, p < 20 → (∀ t, t < k → f t ≠ -1 → cnt (fun s => bef f s t) 20 ≠ p) → V s.2.2 b p = -1)) 20 ⟨rfl, rfl, F12, fun t ht => by omega, fun t _ ht => v2 t ht, fun t ht => by omega, fun p hp _ => by
    show V h2 b p = -1
    rw [Fr_Vc F2 B.2.1 hbc]; exact v1 p hp⟩ ?_ ?_) (fun o H => Ok_p H)
  · rintro k ⟨s1, s2, h3⟩ hk ⟨e1, e2, F, w1, w2, w3, w4⟩
    obtain rfl := show s1 = _ from e1
    obtain rfl := show s2 = _ from e2
    have hv : ∀ t, t < 20 → V h3 a t = f t := fun t ht => by
      rw [Fr_Vc F A.2.1 (by rintro (q | q); exact hab q; exact hac q)]; exact hf t ht
    simp only [if_neg (show ¬ (20 : Int32) ≤ Int32.ofNat k from nle hk), ldI_atc F.1 A hk, bN, hv k hk, s_countAheadc F.1 A hk, hP h3 hv k hk]
    by_cases q : f k = -1
    · simp only [q, if_true, isThing_m, bN, ofN_succ]
      refine Ok_p ⟨_, rfl, ?_, rfl, F, ?_, ?_, ?_, ?_⟩
      · show Int32.ofNat _ = Int32.ofNat (cnt _ (k + 1))
        rw [cnt_f (by simp [q])]
      · intro t ht
        by_cases e : t = k
        · subst e; rw [if_pos q]; exact w2 t (Nat.le_refl _) hk
        · exact w1 t (by omega)
      · intro t h1 h2; exact w2 t (by omega) h2
      · intro t ht hn
        by_cases e : t = k
        · subst e; exact absurd q hn
        · exact w3 t (by omega) hn
      · intro p hp hn; exact w4 p hp (fun t ht => hn t (by omega))
    · have hk20 := h20 k hk
      have S1 := B.sl hk20
      have W1 := WF_stc (x := Int32.ofNat k) F.1 S1
      have S2 := C.sl hk
      simp only [q, if_false, isThing_k hk20, bN, e10, stI_atc F.1 B hk20, stI_atc W1 C hk, ofN_succ]
      refine Ok_p ⟨_, rfl, ?_, rfl, F.trans ((Frc.st F.1 S1 (Or.inl rfl)).trans (Frc.st W1 S2 (Or.inr rfl))), ?_, ?_, ?_, ?_⟩
      · show Int32.ofNat _ = Int32.ofNat (cnt _ (k + 1))
        rw [cnt_t (by simp [q])]
      · intro t ht
        show V (st _ _ _ _) c t = _
        rw [V_stc W1 S2, V_stc F.1 S1]
        by_cases e : t = k
        · subst e; rw [if_pos ⟨rfl, rfl⟩, if_neg q]
        · rw [if_neg (fun z => e z.2), if_neg (fun z => hbc z.1.symm)]; exact w1 t (by omega)
      · intro t h1 h2
        show V (st _ _ _ _) c t = _
        rw [V_stc W1 S2, V_stc F.1 S1, if_neg (fun z => by omega), if_neg (fun z => hbc z.1.symm)]
        exact w2 t (by omega) h2
      · intro t ht hn
        show V (st _ _ _ _) b _ = _
        rw [V_stc W1 S2, V_stc F.1 S1, if_neg (fun z => hbc z.1)]
        by_cases e : t = k
        · subst e; rw [if_pos ⟨rfl, rfl⟩]
        · rw [if_neg (fun z => e (hinj t k (by omega) hk z.2))]; exact w3 t (by omega) hn
      · intro p hp hn
        show V (st _ _ _ _) b _ = _
        rw [V_stc W1 S2, V_stc F.1 S1, if_neg (fun z => hbc z.1), if_neg (fun z => hn k (by omega) q z.2.symm)]
        exact w4 p hp (fun t ht => hn t (by omega))
  · rintro ⟨s1, s2, h3⟩ ⟨e1, e2, F, w1, w2, w3, w4⟩
    obtain rfl := show s1 = _ from e1
    obtain rfl := show s2 = _ from e2
    exact Ok_e (if_pos yle) ⟨_, rfl, rfl, F, w1, w3, w4⟩
theorem s_findFirstPlacesc {h : mxH} (W : (WFc l T) h) {r : Nat} {n : Nat → Int32} (R : (RBc l T) r) (A : ∀ i t, i < 5 → t < 20 → V h (r + 8 + i) t = if hs n i t then Int32.ofNat (pla n i t) else -1) :
    Ok (fX6_findFirstPlaces r h) (fun h' => (Frc l T) (fun b => b = r + 21) h h' ∧ ∀ t, t < 20 → V h' (r + 21) t = Int32.ofNat (fpl n t)) := by
  have RL := RB_lec R
  unfold fX6_findFirstPlaces
  refine Ok_b (Ok_loop (fun k s => s.1 = Int32.ofNat k ∧ (Frc l T) (fun b => b = r + 21) h s.2 ∧ ∀ t, t < k → V s.2 (r + 21) t = Int32.ofNat (fpl n t)) 20 ⟨rfl, Frc.refl W, fun j hj => by omega⟩ ?_ ?_) (fun h1 H => Ok_p H)
  · rintro k ⟨s1, h1⟩ hk ⟨e, F, hv⟩
    obtain rfl := show s1 = _ from e
    have W1 := F.1
    simp only [if_neg (show ¬ (20 : Int32) ≤ Int32.ofNat k from nle hk)]
    refine Ok_s (a := Int32.ofNat (fpl n k)) ?_ ?_
    · unfold fpl
      refine nat_loop (fun m i => if hs n i k then min m (pla n i k) else m) 20 5 (fun i hi => ?_) (fun c => if_pos yle)
      have h20 := pla_20 (n := n) (r := i) hk
      have hm : fo (fun m i => if hs n i k then min m (pla n i k) else m) 20 i ≤ 20 := fo_ind (fun m => m ≤ 20) (Nat.le_refl _) (fun m j _ hm => by
        show (if hs n j k then min m (pla n j k) else m) ≤ 20
        split
        · exact Nat.le_trans (Nat.min_le_left _ _) hm
        · exact hm)
      have e : V h1 (r + 8 + i) k = if hs n i k then Int32.ofNat (pla n i k) else -1 := by
        rw [Fr_Vc F (by omega) (by omega)]; exact A i k hi hk
      simp only [if_neg (nle hi), if_neg (show ¬ (5 : Int32) ≤ Int32.ofNat i from nle hi), gR_pc W1 R, ldR_pc W1 R hi, ldI_atc W1 (ar_plc R hi) hk, bN, e, ofN_succ]
      generalize fo (fun m i => if hs n i k then min m (pla n i k) else m) 20 i = m at hm
      cases hs n i k
      · simp
      · simp [ofN_nm (show pla n i k < 2147483648 by omega), mxMin_N (show m < 2147483648 by omega) (show pla n i k < 2147483648 by omega)]
    · have S := (ar_fpc R).sl hk
      simp only [gR_fc W1 R, bN, stI_atc W1 (ar_fpc R) hk, ofN_succ]
      refine Ok_p ⟨_, rfl, rfl, F.trans (Frc.st W1 S rfl), fun j hj => ?_⟩
      show V (st _ _ _ _) _ _ = _
      rw [V_stc W1 S]
      by_cases e : j = k
      · subst e; rw [if_pos ⟨rfl, rfl⟩]
      · rw [if_neg (fun z => e z.2)]; exact hv j (by omega)
  · rintro ⟨s1, h1⟩ ⟨e, F, hv⟩
    obtain rfl := show s1 = _ from e
    exact Ok_e (if_pos yle) ⟨_, rfl, F, hv⟩
theorem s_setMarkc {h : mxH} (W : (WFc l T) h) {r i t : Nat} {n : Nat → Int32} {x : Int32} (R : (RBc l T) r) (A : RR h r n) (hi : i < 5) (ht : t < 20) (G : MG (fup n (20 * i + t) x)) :
    Ok (fX6_setMark r (Int32.ofNat i) (Int32.ofNat t) x h) (fun h' => (Frc l T) (fun b => r + 2 ≤ b ∧ b ≤ r + 21) h h' ∧ RR h' r (fup n (20 * i + t) x)) := by
  have RL := RB_lec R
  obtain ⟨a1, a2, a3, a4, a5, a6, a7⟩ := A
  unfold fX6_setMark
  have S1 := (ar_mkc R hi).sl ht
  have W1 := WF_stc (x := x) W S1
  simp only [isRow_k hi, isThing_k ht, bN, e10, if_false, gR_mc W R, ldR_mc W R hi, stI_atc W (ar_mkc R hi) ht, gR_sc W1 R, gR_mc W1 R, ldR_mc W1 R hi, gR_tc W1 R, ldR_tc W1 R hi, gR_pc W1 R, ldR_pc W1 R hi]
  have hf : ∀ s, s < 20 → V (st h (r + 2 + i) t x) (r + 2 + i) s = mkf (fup n (20 * i + t) x) i s := fun s hs => by
    rw [V_stc W S1]
    unfold mkf fup
    by_cases e : s = t
    · subst e; rw [if_pos ⟨rfl, rfl⟩, if_pos rfl]
    · rw [if_neg (fun z => e z.2), if_neg (by omega)]; exact a1 i s hi hs
  generalize hn : fup n (20 * i + t) x = n' at hf G
  have oth : ∀ j, j < 5 → j ≠ i → ∀ s, s < 20 → n (20 * j + s) = n' (20 * j + s) := fun j hj hji s hs => by
    rw [← hn]; unfold fup; rw [if_neg (by omega)]
  have oth2 : ∀ k, 100 ≤ k → n' k = n k := fun k hk => by
    rw [← hn]; unfold fup; rw [if_neg (by omega)]
  refine Ok_b (P := fun h' => (Frc l T) (fun b => r + 2 ≤ b ∧ b ≤ r + 21) h h' ∧ RR h' r n') ?_ (fun o H => Ok_p H)
  refine Ok_b (s_sortc W1 (ar_mkc R hi) (ar_thc R hi) (ar_plc R hi) (by omega) (by omega) (by omega) hf) (fun o ⟨e1, F, v1, v2, v3⟩ => ?_)
  have W2 := F.1
  have S2 := (ar_szc R).sl hi
  have W3 := WF_stc (x := o.1) W2 S2
  simp only [stI_atc W2 (ar_szc R) hi, bN, isO_Rc W3 R]
  have F3 : (Frc l T) (fun b => r + 2 ≤ b ∧ b ≤ r + 21) h (st o.2 (r + 19) i o.1) := (Frc.st W S1 (by omega)).trans ((F.mono (fun b q => by omega)).trans (Frc.st W2 S2 (by omega)))
  -- the cells that were not touched
  have keep : ∀ b, b < T → b ≠ r + 2 + i → b ≠ r + 14 + i → b ≠ r + 8 + i → b ≠ r + 19 → V (st o.2 (r + 19) i o.1) b = V h b := fun b hb q1 q2 q3 q4 => by
    rw [V_st_ne q4, Fr_Vc F hb (by omega), V_st_ne q1]
  have hpl : ∀ j s, j < 5 → s < 20 → V (st o.2 (r + 19) i o.1) (r + 8 + j) s = if hs n' j s then Int32.ofNat (pla n' j s) else -1 := fun j s hj hs' => by
    by_cases e : j = i
    · subst e
      rw [V_st_ne (by omega), v1 s hs']
      unfold hs pla mkf
      by_cases q : n' (20 * j + s) = -1 <;> simp [q]
    · rw [keep _ (by omega) (by omega) (by omega) (by omega) (by omega), a2 j s hj hs', hs_congr (oth j hj e) hs', pla_congr (oth j hj e) hs']
  refine Ok_b (s_findFirstPlacesc W3 R hpl) (fun h4 ⟨F4, v4⟩ => Ok_p ⟨F3.trans (F4.mono (fun b q => by omega)), ?_⟩)
  have keep4 : ∀ o', o' ≠ 21 → o' < 22 → V h4 (r + o') = V (st o.2 (r + 19) i o.1) (r + o') := fun o' q1 q2 => Fr_Vc F4 (by omega) (by omega)
  refine ⟨fun j s hj hs' => ?_, fun j s hj hs' => ?_, fun j p hj hp => ?_, fun j hj => ?_, fun j hj => ?_, v4, ?_⟩
  · rw [Nat.add_assoc, keep4 _ (by omega) (by omega), ← Nat.add_assoc]
    by_cases e : j = i
    · subst e
      rw [V_st_ne (by omega), Fr_Vc F (by omega) (by omega), hf s hs']; rfl
    · rw [keep _ (by omega) (by omega) (by omega) (by omega) (by omega), a1 j s hj hs']; exact oth j hj e s hs'
  · rw [Nat.add_assoc, keep4 _ (by omega) (by omega), ← Nat.add_assoc]; exact hpl j s hj hs'
  · rw [Nat.add_assoc, keep4 _ (by omega) (by omega), ← Nat.add_assoc]
    by_cases e : j = i
    · subst e
      rw [V_st_ne (by omega)]
      by_cases c : p < itm n' j
      · obtain ⟨g1, g2, g3⟩ := thi_spec G hj c
        rw [if_pos c]
        have := v2 (thi n' j p) g1 (by simpa [hs, mkf] using g2)
        have e2 : cnt (fun s => bef (mkf n' j) s (thi n' j p)) 20 = p := g3
        rw [e2] at this
        exact this
      · rw [if_neg c]
        refine v3 p hp (fun s hs' q e => c ?_)
        rw [← e]
        exact pla_itm G hj hs' (by simpa [hs, mkf] using q)
    · rw [keep _ (by omega) (by omega) (by omega) (by omega) (by omega), a3 j p hj hp, itm_congr (oth j hj e), thi_congr (oth j hj e)]
  · rw [keep4 _ (by omega) (by omega), V_stc W2 S2]
    by_cases e : j = i
    · subst e
      rw [if_pos ⟨rfl, rfl⟩, e1]
      rfl
    · rw [if_neg (fun z => e z.2), Fr_Vc F (by omega) (by omega), V_st_ne (by omega), a4 j hj, itm_congr (oth j hj e)]
  · rw [keep4 _ (by omega) (by omega), keep _ (by omega) (by omega) (by omega) (by omega) (by omega), a5 j hj, oth2 _ (by omega)]
  · have := keep4 0 (by omega) (by omega)
    rw [Nat.add_zero] at this
    rw [this, keep _ (by omega) (by omega) (by omega) (by omega) (by omega), a7, oth2 _ (by omega)]
end
