/-! THE PURE SIDE, 34: what holds between two calls; how a call is compared -/
def QF (b : Nat) : Prop := b = 26 ∨ (266 ≤ b ∧ b ≤ 318)
def QO (b : Nat) : Prop := QF b ∨ b = 334
def MF (b : Nat) : Prop := 322 ≤ b ∧ b ≤ 333
def MX (b : Nat) : Prop := b = 319 ∨ b = 320 ∨ MF b
/-- a state of the reference that may be -/
def GD (n : Nat → Int32) (j : Nat) : Prop := MG n ∧ WG n ∧ NG n j
/-- a counter that isn't asked for is free -/
def XG (n : Nat → Int32) : Prop := ∀ k, mn n ≤ k → k < 4 → n (221 + k) = -1
def Bf (h : mxH) (i k : Nat) : Int32 := V h 321 (230 * i + k)
/-- what holds between two calls -/
def Inv (h : mxH) (n : Nat → Int32) (c j : Nat) (xs : List Int32) : Prop :=
  WF h ∧ h.1 0 = (100, xs, []) ∧ V h 320 = n ∧ SR h 3 n ∧ HR h c (Bf h) ∧ V h 319 2 = Int32.ofNat c ∧ (GD n j ∧ XG n) ∧ ∀ i, i < c → GD (Bf h i) j ∧ XG (Bf h i)
theorem NG_mono {n : Nat → Int32} {j k : Nat} (G : NG n j) (h : j ≤ k) : NG n k := by
  obtain ⟨a, b, r⟩ := G
  exact ⟨a, by omega, r⟩
theorem GD_mono {n : Nat → Int32} {j k : Nat} (G : GD n j) (h : j ≤ k) : GD n k := ⟨G.1, G.2.1, NG_mono G.2.2 h⟩
theorem Inv_fr {h h1 : mxH} {n : Nat → Int32} {c j : Nat} {xs : List Int32} {P : Nat → Prop} (I : Inv h n c j xs) (F : Fr P h h1) (hp : ∀ b, P b → b = 26 ∨ 266 ≤ b ∧ b ≤ 320 ∨ 322 ≤ b) (hn : V h1 320 = V h 320) (h2 : V h1 319 2 = V h 319 2) : Inv h1 n c (j + 1) xs := by
  obtain ⟨W, S, N, R, Hi, C, G, GB⟩ := I
  have np : ∀ b, ¬ (b = 26 ∨ 266 ≤ b ∧ b ≤ 320 ∨ 322 ≤ b) → ¬ P b := fun b z q => z (hp b q)
  have eB : Bf h1 = Bf h := by
    funext i k
    unfold Bf
    rw [Fr_V F (by omega) (np _ (by omega))]
  refine ⟨F.1, ?_, ?_, ?_, ?_, ?_, ⟨GD_mono G.1 (by omega), G.2⟩, fun i hi => ?_⟩
  · rw [F.2 0 (by omega) (np _ (by omega))]; exact S
  · rw [hn]; exact N
  · exact SR_fr (s := 3) (Or.inl rfl) R F (fun b b1 b2 b3 => np _ (by omega))
  · rw [eB]; exact HR_fr Hi F (fun b b1 b2 => np _ (by omega))
  · rw [h2]; exact C
  · rw [eB]; exact ⟨GD_mono (GB i hi).1 (by omega), (GB i hi).2⟩
/-! the house's parts -/
theorem rf_H {j b : Nat} (hj : j < 9) (e : (lay 2).2.2.getD j 0 = b) (hb : b ≠ 0) : rf 2 9 j b := ⟨by omega, by omega, rfl, by omega, hj, e, hb⟩
section
variable {h : mxH}
theorem gH0 (W : WF h) : gR h 2 9 0 = some 3 := gR_at W (rf_H (by omega) rfl (by omega))
theorem gH1 (W : WF h) : gR h 2 9 1 = some 32 := gR_at W (rf_H (by omega) rfl (by omega))
theorem gH2 (W : WF h) : gR h 2 9 2 = some 266 := gR_at W (rf_H (by omega) rfl (by omega))
theorem gH3 (W : WF h) : gR h 2 9 3 = some 289 := gR_at W (rf_H (by omega) rfl (by omega))
theorem gH4 (W : WF h) : gR h 2 9 4 = some 293 := gR_at W (rf_H (by omega) rfl (by omega))
theorem gH5 (W : WF h) : gR h 2 9 5 = some 297 := gR_at W (rf_H (by omega) rfl (by omega))
theorem gH6 (W : WF h) : gR h 2 9 6 = some 302 := gR_at W (rf_H (by omega) rfl (by omega))
theorem gH7 (W : WF h) : gR h 2 9 7 = some 306 := gR_at W (rf_H (by omega) rfl (by omega))
theorem gH8 (W : WF h) : gR h 2 9 8 = some 317 := gR_at W (rf_H (by omega) rfl (by omega))
theorem gS0 (W : WF h) : gR h 3 7 0 = some 4 := gR_S0 W (s := 3) (Or.inl rfl)
theorem gS1 (W : WF h) : gR h 3 7 1 = some 27 := gR_S1 W (s := 3) (Or.inl rfl)
theorem isH (W : WF h) : isO h 2 9 = some () := isO_at W ⟨by omega, by omega, rfl⟩
theorem isHi (W : WF h) : isO h 32 0 = some () := isO_at W ⟨by omega, by omega, rfl⟩
end
theorem R4 : RB 4 := Or.inl rfl
theorem R266 : RB 266 := Or.inr (Or.inl rfl)
theorem N27 : NB 27 := Or.inl rfl
theorem K289 : KB 289 := Or.inl rfl
theorem K293 : KB 293 := Or.inr rfl
theorem S3 : SB 3 := Or.inl rfl
theorem then_l {α β : Type} {v : α} {h : mxH} {f : α → mxH → Option ((β ⊕ String) × mxH)} : mxThen (some (.inl v, h)) f = f v h := rfl
theorem then_r {α β : Type} {E : String} {h : mxH} {f : α → mxH → Option ((β ⊕ String) × mxH)} : mxThen (some (.inr E, h)) f = some (.inr E, h) := rfl
def IX : String := "java/lang/IndexOutOfBoundsException"
def IA : String := "java/lang/IllegalArgumentException"
def NS : String := "java/util/NoSuchElementException"
theorem Fr_thr {P : Nat → Prop} {h h1 : mxH} (F : Fr P h h1) : Fr P h (mxThr h1) := by
  have W := F.1
  have e : ∀ b, b < 335 → (mxThr h1).1 b = h1.1 b := fun b hb => if_neg (by rw [W.1]; omega)
  refine ⟨⟨W.1, fun a a1 a2 => ?_⟩, fun b b1 b2 => ?_⟩
  · rw [e a a2]; exact W.2 a a1 a2
  · rw [e b b1]; exact F.2 b b1 b2
section
variable {h : mxH} {p q : Int32}
theorem rq_row {k : Nat} (hk : k < 5) : fX9_requireRow (Int32.ofNat k) h = some (.inl (), h) := by
  unfold fX9_requireRow
  simp only [isRow_k hk, bN, e10, if_false]
theorem rq_rowN (hp : inN p 5 = false) : fX9_requireRow p h = some (.inr IX, mxThr h) := by
  unfold fX9_requireRow
  simp only [isRow_eq, hp, bI_f, bN, if_true]; rfl
theorem rq_thing {k : Nat} (hk : k < 20) : fX9_requireThing (Int32.ofNat k) h = some (.inl (), h) := by
  unfold fX9_requireThing
  simp only [isThing_k hk, bN, e10, if_false]
theorem rq_thingN (hp : inN p 20 = false) : fX9_requireThing p h = some (.inr IX, mxThr h) := by
  unfold fX9_requireThing
  simp only [isThing_eq, hp, bI_f, bN, if_true]; rfl
theorem rq_range {a b : Int32} (hp : inI p a b = true) : fX9_requireRange p a b h = some (.inl (), h) := by
  simp only [inI, Bool.and_eq_true, Bool.not_eq_true', decide_eq_false_iff_not] at hp
  unfold fX9_requireRange
  rw [if_neg hp.1, if_pos (Int32.not_lt.mp hp.2)]
theorem rq_rangeN {a b : Int32} (hp : inI p a b = false) : fX9_requireRange p a b h = some (.inr IA, mxThr h) := by
  unfold fX9_requireRange
  by_cases c : p < a
  · rw [if_pos c]; rfl
  · have c2 : b < p := by
      by_cases c2 : b < p
      · exact c2
      · simp [inI, c, c2] at hp
    rw [if_neg c, if_neg (fun z => absurd c2 (Int32.not_lt.mpr z))]; rfl
theorem rq_place {k s : Nat} (hk : k < s) (hs : s < 2147483648) : fX9_requirePlace (Int32.ofNat k) (Int32.ofNat s) h = some (.inl (), h) := by
  unfold fX9_requirePlace
  rw [if_neg (ofN_nn (by omega)), if_pos ((ofN_lt (by omega) hs).mpr hk)]
theorem rq_placeN {s : Nat} (hp : inN p s = false) : fX9_requirePlace p (Int32.ofNat s) h = some (.inr IX, mxThr h) := by
  unfold fX9_requirePlace
  by_cases c : p < 0
  · rw [if_pos c]; rfl
  · rw [if_neg c, if_neg (fun z => by simp [inN, c, z] at hp)]; rfl
theorem rq_found : fX9_requireFound 1 h = some (.inl (), h) := rfl
theorem rq_foundN : fX9_requireFound 0 h = some (.inr NS, mxThr h) := rfl
theorem inI_S {p : Int32} {s : Nat} (hs : s < 2147483648) : inI p 0 (Int32.ofNat s - 1) = inN p s := by
  by_cases z : s = 0
  · subst z
    have e : (Int32.ofNat 0 - 1) = (-1 : Int32) := by decide
    rw [e]
    unfold inI inN
    have e0 : (0 : Int32).toInt = 0 := by decide
    have em : (-1 : Int32).toInt = -1 := by decide
    have e00 : Int32.ofNat 0 = (0 : Int32) := rfl
    rw [e00]
    simp only [i32_lt, e0, em]
    by_cases c : p.toInt < 0
    · simp [c]
    · have : (-1 : Int) < p.toInt := by omega
      simp [c, this]
  · rw [ofN_pred (by omega) hs]; exact inI_N (by omega) hs
end
/-! the out cell -/
theorem ar_out : 2 ≤ 334 ∧ 334 < 335 ∧ (lay 334).1 = 102 ∧ (lay 334).2.1 = 1 := ⟨by omega, by omega, rfl, rfl⟩
theorem out_ok {h : mxH} (W : WF h) (x : Int64) : Ok (Option.bind (stJ h 334 0 x) (fun h7 => some ((0 : Int32), h7))) (fun o => o.1 = 0 ∧ Fr (fun b => b = 334) h o.2 ∧ ldJ o.2 334 0 = some x) := by
  obtain ⟨f1, f2, f3, f4, f5, f6⟩ := W.2 334 (by omega) (by omega)
  have e1 : (h.1 334).1 = 102 := f1
  have e3 : (h.1 334).2.2.length = 1 := f3 rfl
  have e0 : (0 : Int32).toNatClampNeg = 0 := rfl
  unfold stJ
  rw [e0, if_pos ⟨⟨by rw [W.1]; omega, by omega⟩, e1, by decide, by rw [e3]; omega⟩]
  have Wn : WF (mxUp h 334 (102, (h.1 334).2.1, (h.1 334).2.2.set 0 (.long x))) := by
    refine ⟨W.1, fun a a1 a2 => ?_⟩
    by_cases q : a = 334
    · subst q
      show fits _ (if 334 = 334 then _ else _)
      rw [if_pos rfl]
      exact ⟨rfl, fun z => f2 z, fun z => (by show (List.set _ _ _).length = _; rw [List.length_set]; exact f3 z), fun z => absurd z (by decide), fun z => absurd z (by decide), fun z => absurd z (by decide)⟩
    · show fits _ (if a = 334 then _ else _)
      rw [if_neg q]
      exact W.2 a a1 a2
  refine Ok_p ⟨rfl, ⟨Wn, fun b _ hb => if_neg hb⟩, ?_⟩
  unfold ldJ
  show (if 334 < h.2 ∧ (if (334 : Nat) = 334 then ((102, (h.1 334).2.1, (h.1 334).2.2.set 0 (.long x)) : mxE) else h.1 334).1 = 102 ∧ ¬ (0 : Int32) < 0 then mxLg (if (334 : Nat) = 334 then ((102, (h.1 334).2.1, (h.1 334).2.2.set 0 (.long x)) : mxE) else h.1 334).2.2[(0 : Int32).toNatClampNeg]? else none) = some x
  rw [if_pos (show (334 : Nat) = 334 from rfl), if_pos ⟨by rw [W.1]; omega, rfl, by decide⟩, e0, List.getElem?_set_self (by rw [e3]; omega)]
  rfl
theorem ldJ_fr {P : Nat → Prop} {h h1 : mxH} (W : WF h) (F : Fr P h h1) (hp : ¬ P 334) : ldJ h1 334 0 = ldJ h 334 0 := by
  unfold ldJ
  rw [F.2 334 (by omega) hp, F.1.1, W.1]
/-! a call that may throw: the answer r, its code c, its value v -/
def Catch (C : String → Int32 → Prop) (r : Int32 ⊕ String) (c v : Int32) : Prop := (r = .inl v ∧ c = 0) ∨ ∃ s, r = .inr s ∧ C s c ∧ c ≠ 0
def Hn (g : String → mxH → Option (Int32 × mxH)) (s : String) (c : Int32) : Prop := ∀ h, g s h = some (c, h)
theorem Ok_catch {P : Nat → Prop} {h : mxH} {m : Option ((Int32 ⊕ String) × mxH)} {g : String → mxH → Option (Int32 × mxH)} {r : Int32 ⊕ String} {c v : Int32} (rc : Catch (Hn g) r c v) (k : Ok m (fun x => x.1 = r ∧ Fr P h x.2)) :
    Ok (mxCatch m (fun v4 h5 => Option.bind (stJ h5 334 0 v4.toInt64) (fun h7 => some (0, h7))) g) (fun o => o.1 = c ∧ Fr (fun b => P b ∨ b = 334) h o.2 ∧ (c = 0 → ldJ o.2 334 0 = some v.toInt64)) := by
  obtain ⟨⟨r', h1⟩, e, e1, F⟩ := k
  subst e
  obtain rfl := show r' = r from e1
  have F : Fr P h h1 := F
  have F1 : Fr (fun b => P b ∨ b = 334) h h1 := F.mono (fun b z => Or.inl z)
  rcases rc with ⟨er, ec⟩ | ⟨s, er, es, ec⟩
  · rw [er, ec]
    obtain ⟨o, eo, o1, o2, o3⟩ := out_ok F.1 v.toInt64
    exact Ok_e (a := o) eo ⟨o1, F1.trans (o2.mono (fun b z => Or.inr z)), fun _ => o3⟩
  · rw [er]
    exact Ok_e (a := (c, h1)) (es h1) ⟨rfl, F1, fun z => absurd z ec⟩
/-- what the reference says -/
def MS (h : mxH) (c v : Int32) (o : Int32 × mxH) : Prop := Fr MX h o.2 ∧ V o.2 319 = fup (V h 319) 3 c ∧ (c = 0 → o.1 = v) ∧ V o.2 320 = V h 320
theorem lg_same (x : Int64) : lg_cmp x x = 0 := by
  unfold lg_cmp
  rw [if_neg (show ¬ x > x from Int64.lt_irrefl), if_pos rfl]
theorem arm_tail {P : Nat → Prop} {h : mxH} {i c v : Int32} {o p : Int32 × mxH} (F : Fr P h o.2) (hc : o.1 = c) (hv : c = 0 → ldJ o.2 334 0 = some v.toInt64) (M : MS o.2 c v p) :
    Ok (Option.bind (isO p.2 319 10) (fun _ => Option.bind (fX10_thrown 319 p.2) (fun v14 => (if v14 = o.1 then (if o.1 = 0 then Option.bind (ldJ p.2 334 0) (fun r17 => (if (lg_cmp r17 p.1.toInt64) = 0 then some (i + 5, p.2) else none)) else some (i + 5, p.2)) else none)))) (fun q => q = (i + 5, p.2)) := by
  obtain ⟨M1, M2, M3, -⟩ := M
  simp only [isO_X M1.1, bN, m_thrown M1.1, M2, fup_eq, hc, if_true]
  by_cases c0 : c = 0
  · rw [if_pos c0, ldJ_fr F.1 M1 (by unfold MX MF; omega), hv c0, M3 c0]
    simp only [bN, lg_same, if_true]
    exact Ok_p rfl
  · rw [if_neg c0]
    exact Ok_p rfl
/-- the script's numbers of this call -/
def SC (h : mxH) (i a1 a2 a3 a4 : Int32) : Prop := ldI h 0 (i + 1) = some a1 ∧ ldI h 0 (i + 2) = some a2 ∧ ldI h 0 (i + 3) = some a3 ∧ ldI h 0 (i + 4) = some a4
theorem SC_fr {P : Nat → Prop} {h h1 : mxH} {i a1 a2 a3 a4 : Int32} (S : SC h i a1 a2 a3 a4) (W : WF h) (F : Fr P h h1) (hp : ¬ P 0) : SC h1 i a1 a2 a3 a4 := by
  have e : ∀ k, ldI h1 0 k = ldI h 0 k := fun k => by
    unfold ldI
    rw [F.2 0 (by omega) hp, F.1.1, W.1]
  unfold SC
  rw [e, e, e, e]; exact S
/-- the model's call begins with no throw -/
theorem fr0 {h : mxH} (W : WF h) (x : Int32) : Fr (fun b => b = 319) h (st h 319 3 x) := Fr.st W fd_thr.sl rfl
theorem MS_of {h h1 : mxH} {v : Int32} {x : Int32} (W : WF h) (F : Fr MF (st h 319 3 0) h1) (e : x = v) : MS h 0 v (x, h1) := by
  refine ⟨(Fr.mono (fr0 W 0) (fun b z => Or.inl z)).trans (F.mono (fun b z => Or.inr (Or.inr z))), ?_, fun _ => e, ?_⟩
  · show V h1 319 = _
    rw [Fr_V F (by omega) (by unfold MF; omega), V_st_eq W fd_thr.sl]
  · show V h1 320 = _
    rw [Fr_V F (by omega) (by unfold MF; omega), V_st_ne (by omega)]
theorem MS_no {h h1 : mxH} {x c v : Int32} (W : WF h) (F : Fr MF (st h 319 3 0) h1) (hc : c ≠ 0) : MS h c v (x, st h1 319 3 c) := by
  refine ⟨((Fr.mono (fr0 W 0) (fun b z => Or.inl z)).trans (F.mono (fun b z => Or.inr (Or.inr z)))).trans (Fr.st F.1 fd_thr.sl (Or.inl rfl)), ?_, fun z => absurd z hc, ?_⟩
  rotate_left
  · show V (st h1 319 3 c) 320 = _
    rw [V_st_ne (by omega), Fr_V F (by omega) (by unfold MF; omega), V_st_ne (by omega)]
  show V (st h1 319 3 c) 319 = _
  rw [V_st_eq F.1 fd_thr.sl, Fr_V F (by omega) (by unfold MF; omega), V_st_eq W fd_thr.sl]
  funext k
  unfold fup
  by_cases q : k = 3
  · rw [if_pos q, if_pos q]
  · rw [if_neg q, if_neg q, if_neg q]
theorem Inv_MS {h h1 : mxH} {n : Nat → Int32} {c j : Nat} {xs : List Int32} {x v : Int32} {p : Int32 × mxH} (I : Inv h n c j xs) (F : Fr QO h h1) (M : MS h1 x v p) : Inv p.2 n c (j + 1) xs := by
  obtain ⟨M1, M2, M3, M4⟩ := M
  refine Inv_fr I ((F.mono (Q := fun b => QO b ∨ MX b) (fun b z => Or.inl z)).trans (M1.mono (fun b z => Or.inr z))) (fun b z => by unfold QO QF MX MF at z; omega) ?_ ?_
  · rw [M4, Fr_V F (by omega) (by unfold QO QF; omega)]
  rw [M2, fup_ne (by omega), Fr_V F (by omega) (by unfold QO QF; omega)]
