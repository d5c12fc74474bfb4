/-! THE PURE SIDE, 27: the reference: bounds, plain stops -/
def az (a n : Nat) : Prop := 2 ≤ a ∧ a < 335 ∧ (lay a).1 = 101 ∧ (lay a).2.1 = n
theorem az.sl {a n k : Nat} (A : az a n) (hk : k < n) : sl a k := ⟨A.1, A.2.1, Or.inl ⟨Or.inr A.2.2.1, by rw [A.2.2.2]; exact hk⟩⟩
theorem az_is : az 331 20 := ⟨by omega, by omega, rfl, rfl⟩
theorem ldZ_at {h : mxH} (W : WF h) {a n k : Nat} (A : az a n) (hk : k < n) (hn : n < 2147483648 := by decide) : ldZ h a (Int32.ofNat k) = some (V h a k) := by
  obtain ⟨a1, a2, a3, a4⟩ := A
  obtain ⟨f1, f2, -⟩ := W.2 a a1 a2
  rw [a3] at f1
  have f2 := f2 (Or.inr a3)
  unfold ldZ
  rw [if_pos ⟨by rw [W.1]; exact a2, f1, ofN_nn (by omega)⟩, ofN_clamp (by omega)]
  unfold V cv
  rw [if_neg (by rw [f1]; decide)]
  rw [List.getElem?_eq_getElem (by rw [f2, a4]; exact hk)]
  rfl
theorem stZ_at {h : mxH} (W : WF h) {a n k : Nat} {b : Bool} (A : az a n) (hk : k < n) (hn : n < 2147483648 := by decide) : stZ h a (Int32.ofNat k) (bI b) = some (st h a k (bI b)) := by
  obtain ⟨a1, a2, a3, a4⟩ := A
  obtain ⟨f1, f2, -⟩ := W.2 a a1 a2
  rw [a3] at f1
  have f2 := f2 (Or.inr a3)
  unfold stZ st
  rw [ofN_clamp (by omega)]
  rw [if_pos ⟨⟨⟨by rw [W.1]; exact a2, a1⟩, by cases b; exact Or.inl rfl; exact Or.inr rfl⟩, f1, ofN_nn (by omega), by rw [f2, a4]; exact hk⟩, if_neg (by rw [f1]; decide), f1]
/-- what the reference lays of the bounds at a depth -/
def BR (h : mxH) (n : Nat → Int32) (d : Nat) : Prop := (∀ t, t < 20 → V h 331 t = bI (rdAt n t d)) ∧ (∀ t, t < 20 → rdAt n t d = true → V h 332 t = low n t d) ∧ (∀ t, t < 20 → rdAt n t d = true → V h 333 t = upp n t d)
theorem m_laysBounds {h : mxH} {n : Nat → Int32} (G : MG n) (H : WG n) (W : WF h) (e : V h 320 = n) {d : Nat} (h1 : 1 ≤ d) (h2 : d ≤ 20) : Ok (fX10_laysBounds 319 (Int32.ofNat d) h) (fun h' => Fr (fun b => b = 322 ∨ b = 331 ∨ b = 332 ∨ b = 333) h h' ∧ BR h' n d) := by
  unfold fX10_laysBounds
  refine Ok_b (P := fun h' => Fr (fun b => b = 322 ∨ b = 331 ∨ b = 332 ∨ b = 333) h h' ∧ BR h' n d) (Ok_loop (fun k s => s.1 = Int32.ofNat k ∧ Fr (fun b => b = 322 ∨ b = 331 ∨ b = 332 ∨ b = 333) h s.2 ∧ (∀ t, t < k → V s.2 331 t = bI (rdAt n t d)) ∧ (∀ t, t < k → rdAt n t d = true → V s.2 332 t = low n t d) ∧ (∀ t, t < k → rdAt n t d = true → V s.2 333 t = upp n t d)) 20 ⟨rfl, Fr.refl W, fun t ht => by omega, fun t ht => by omega, fun t ht => by omega⟩ ?_ ?_) (fun o H => Ok_p H)
  · rintro k ⟨s1, g1⟩ hk ⟨e1, F, v1, v2, v3⟩
    obtain rfl := show s1 = _ from e1
    have F : Fr (fun b => b = 322 ∨ b = 331 ∨ b = 332 ∨ b = 333) h g1 := F
    have v1 : ∀ t, t < k → V g1 331 t = bI (rdAt n t d) := v1
    have v2 : ∀ t, t < k → rdAt n t d = true → V g1 332 t = low n t d := v2
    have v3 : ∀ t, t < k → rdAt n t d = true → V g1 333 t = upp n t d := v3
    have W1 := F.1
    have en := fr_now F (by omega) e
    have S := az_is.sl hk
    simp only [if_neg (n20 hk), gM13 W1, isO_X W1, bN, m_isReadAt W1 en hk h2, stZ_at W1 az_is hk, ofN_succ]
    have Fa : Fr (fun b => b = 322 ∨ b = 331 ∨ b = 332 ∨ b = 333) h (st g1 331 k (bI (rdAt n k d))) := F.trans (Fr.st W1 S (by omega))
    have ca : ∀ t, t < k + 1 → V (st g1 331 k (bI (rdAt n k d))) 331 t = bI (rdAt n t d) := fun t ht => by
      rw [V_st W1 S]
      by_cases q : t = k
      · rw [if_pos ⟨rfl, q⟩, q]
      · rw [if_neg (fun z => q z.2)]; exact v1 t (by omega)
    have cb : V (st g1 331 k (bI (rdAt n k d))) 332 = V g1 332 := V_st_ne (by omega)
    have cc : V (st g1 331 k (bI (rdAt n k d))) 333 = V g1 333 := V_st_ne (by omega)
    generalize st g1 331 k (bI (rdAt n k d)) = g2 at Fa ca cb cc
    have W2 := Fa.1
    have en2 := fr_now Fa (by omega) e
    simp only [gM13 W2, gM14 W2, bN, ldZ_at W2 az_is hk, ca k (by omega), bI_0]
    refine Ok_b (P := fun p : Int32 × mxH => Fr (fun b => b = 322) g2 p.2 ∧ (rdAt n k d = true → p.1 = low n k d)) ?_ (fun p ⟨P1, P2⟩ => ?_)
    · cases c : rdAt n k d
      · simp only [if_true]; exact Ok_p ⟨Fr.refl W2, fun z => by cases z⟩
      · simp only [Bool.true_eq_false, if_false, isO_X W2, bN]
        refine Ok_b (m_lowerAt G H W2 en2 hk h2) (fun o ⟨o1, o2⟩ => Ok_p ⟨o2, fun _ => o1⟩)
    · have W3 := P1.1
      have S3 := ar_low.sl hk
      have W4 := WF_st W3 (x := p.1) S3
      have F4 : Fr (fun b => b = 322 ∨ b = 331 ∨ b = 332 ∨ b = 333) h (st p.2 332 k p.1) := (Fa.trans (P1.mono (fun b z => Or.inl z))).trans (Fr.st W3 S3 (by omega))
      have en4 := fr_now F4 (by omega) e
      have da : ∀ t, t < k + 1 → V (st p.2 332 k p.1) 331 t = bI (rdAt n t d) := fun t ht => by rw [V_st_ne (by omega), Fr_V P1 (by omega) (by omega)]; exact ca t ht
      have db : ∀ t, t < k + 1 → rdAt n t d = true → V (st p.2 332 k p.1) 332 t = low n t d := fun t ht q => by
        rw [V_st W3 S3]
        by_cases y : t = k
        · rw [if_pos ⟨rfl, y⟩, y]; exact P2 (y ▸ q)
        · rw [if_neg (fun z => y z.2), Fr_V P1 (by omega) (by omega), cb]; exact v2 t (by omega) q
      have dc : ∀ t, t < k → rdAt n t d = true → V (st p.2 332 k p.1) 333 t = upp n t d := fun t ht q => by
        rw [V_st_ne (by omega), Fr_V P1 (by omega) (by omega), cc]; exact v3 t ht q
      simp only [stI_at W3 ar_low hk, bN]
      generalize st p.2 332 k p.1 = g4 at W4 F4 en4 da db dc
      simp only [gM13 W4, gM15 W4, bN, ldZ_at W4 az_is hk, da k (by omega), bI_0]
      refine Ok_b (P := fun p : Int32 × mxH => Fr (fun b => b = 322) g4 p.2 ∧ (rdAt n k d = true → p.1 = upp n k d)) ?_ (fun q ⟨Q1, Q2⟩ => ?_)
      · cases c : rdAt n k d
        · simp only [if_true]; exact Ok_p ⟨Fr.refl W4, fun z => by cases z⟩
        · simp only [Bool.true_eq_false, if_false, isO_X W4, bN]
          refine Ok_b (m_upperAt G H W4 en4 hk h1 h2) (fun o ⟨o1, o2⟩ => Ok_p ⟨o2, fun _ => o1⟩)
      · have W5 := Q1.1
        have S5 := ar_hig.sl hk
        simp only [stI_at W5 ar_hig hk, bN]
        refine Ok_p ⟨_, rfl, rfl, (F4.trans (Q1.mono (fun b z => Or.inl z))).trans (Fr.st W5 S5 (by omega)), fun t ht => ?_, fun t ht r => ?_, fun t ht r => ?_⟩
        · show V (st _ _ _ _) _ _ = _
          rw [V_st_ne (by omega), Fr_V Q1 (by omega) (by omega)]; exact da t ht
        · show V (st _ _ _ _) _ _ = _
          rw [V_st_ne (by omega), Fr_V Q1 (by omega) (by omega)]; exact db t ht r
        · show V (st _ _ _ _) _ _ = _
          rw [V_st W5 S5]
          by_cases y : t = k
          · rw [if_pos ⟨rfl, y⟩, y]; exact Q2 (y ▸ r)
          · rw [if_neg (fun z => y z.2), Fr_V Q1 (by omega) (by omega)]; exact dc t (by omega) r
  · rintro ⟨s1, g1⟩ ⟨e1, F, v1, v2, v3⟩
    obtain rfl := show s1 = _ from e1
    exact Ok_e (a := .inr g1) (if_pos yle) ⟨_, rfl, F, v1, v2, v3⟩
/-- the k best are sure, as the reference says it, told by the thing that bounds them -/
def ovr (n : Nat → Int32) (d : Nat) (v : Int32) : Nat → Bool := fun s => rdAt n s d && decide (v < upp n s d)
def rch (n : Nat → Int32) (d : Nat) (v : Int32) : Nat → Bool := fun s => rdAt n s d && !decide (low n s d < v)
def bad (n : Nat → Int32) (d : Nat) (v : Int32) : Nat → Bool := fun s => ovr n d v s && decide (low n s d < v)
def areS (n : Nat → Int32) (d k : Nat) (L : Int32) (t : Nat) : Bool := rdAt n t d && decide (L ≤ low n t d) && !orT (bad n d (low n t d)) 20 && decide (cnt (ovr n d (low n t d)) 20 ≤ k) && decide (k ≤ cnt (rch n d (low n t d)) 20)
theorem m_areSure {h : mxH} {n : Nat → Int32} (W : WF h) {d k : Nat} {L : Int32} (B : BR h n d) (hk : k ≤ 20) : fX10_areSure 319 (Int32.ofNat k) L h = some (bI (orT (areS n d k L) 20)) := by
  unfold fX10_areSure
  have inner : ∀ t, t < 20 → rdAt n t d = true → mxLoop (ρ := (Int32 × Int32 × Int32)) (fun s21 : (Int32 × Int32 × Int32 × Int32) => (if 20 ≤ s21.2.2.2 then some (Sum.inr (s21.1, s21.2.1, s21.2.2.1)) else Option.bind (gR h 319 10 13) (fun r30 => Option.bind (ldZ h r30 s21.2.2.2) (fun v32 => Option.bind (α := (Int32 × Int32 × Int32)) (if v32 = 0 then some (s21.1, s21.2.1, s21.2.2.1) else Option.bind (gR h 319 10 14) (fun r38 => Option.bind (ldI h r38 s21.2.2.2) (fun v40 => Option.bind (α := Int32) (if v40 < low n t d then some 0 else some 1) (fun p44' : Int32 => Option.bind (gR h 319 10 15) (fun r46 => Option.bind (ldI h r46 s21.2.2.2) (fun v48 => (if low n t d < v48 then Option.bind (α := Int32) (if s21.2.2.1 = 0 then some 0 else Option.bind (gR h 319 10 14) (fun r55 => Option.bind (ldI h r55 s21.2.2.2) (fun v57 => (if v57 < low n t d then some 0 else some 1)))) (fun p53' : Int32 => some (s21.1 + 1, s21.2.1 + p44', p53')) else some (s21.1, s21.2.1 + p44', s21.2.2.1)))))))) (fun p36' : (Int32 × Int32 × Int32) => some (Sum.inl (p36'.1, p36'.2.1, p36'.2.2, s21.2.2.2 + 1))))))) mxF (0, 0, 1, 0) = some (Int32.ofNat (cnt (ovr n d (low n t d)) 20), Int32.ofNat (cnt (rch n d (low n t d)) 20), bI (!orT (bad n d (low n t d)) 20)) := fun t ht rt => by
    refine mxLoop_up (S := fun s => (Int32.ofNat (cnt (ovr n d (low n t d)) s), Int32.ofNat (cnt (rch n d (low n t d)) s), bI (!orT (bad n d (low n t d)) s), Int32.ofNat s)) (N := 20) (fun s hs => ?_) (if_pos yle) (by decide)
    simp only [if_neg (n20 hs), gM13 W, bN, ldZ_at W az_is hs, B.1 s hs, bI_0, gM14 W, gM15 W, ldI_at W ar_low hs, ldI_at W ar_hig hs, ofN_succ]
    generalize low n t d = v
    have e1 : cnt (ovr n d v) (s + 1) = cnt (ovr n d v) s + if ovr n d v s then 1 else 0 := rfl
    have e2 : cnt (rch n d v) (s + 1) = cnt (rch n d v) s + if rch n d v s then 1 else 0 := rfl
    have e3 : orT (bad n d v) (s + 1) = (orT (bad n d v) s || bad n d v s) := rfl
    rw [e1, e2, e3]
    generalize cnt (ovr n d v) s = x
    generalize cnt (rch n d v) s = y
    generalize orT (bad n d v) s = z
    unfold bad ovr rch
    cases c : rdAt n s d
    · simp
    · simp only [B.2.1 s hs c, B.2.2 s hs c, Bool.true_eq_false, if_false, Bool.true_and]
      by_cases c1 : low n s d < v
      · by_cases c2 : v < upp n s d
        · cases z <;> simp only [c1, c2, if_true, if_false, bN, decide_true, decide_false, Bool.not_true, Bool.not_false, Bool.and_true, Bool.and_false, Bool.true_and, Bool.false_and, Bool.or_true, Bool.or_false, bI_t, bI_f, e10, Bool.false_eq_true, Bool.true_eq_false, Nat.add_zero, Int32.add_zero, ofN_succ, B.2.1 s hs c]
        · simp only [c1, c2, if_true, if_false, bN, decide_true, decide_false, Bool.not_true, Bool.not_false, Bool.and_true, Bool.and_false, Bool.true_and, Bool.false_and, Bool.or_true, Bool.or_false, bI_t, bI_f, e10, Bool.false_eq_true, Bool.true_eq_false, Nat.add_zero, Int32.add_zero, ofN_succ, B.2.1 s hs c]
      · by_cases c2 : v < upp n s d
        · cases z <;> simp only [c1, c2, if_true, if_false, bN, decide_true, decide_false, Bool.not_true, Bool.not_false, Bool.and_true, Bool.and_false, Bool.true_and, Bool.false_and, Bool.or_true, Bool.or_false, bI_t, bI_f, e10, Bool.false_eq_true, Bool.true_eq_false, Nat.add_zero, Int32.add_zero, ofN_succ, B.2.1 s hs c]
        · simp only [c1, c2, if_true, if_false, bN, decide_true, decide_false, Bool.not_true, Bool.not_false, Bool.and_true, Bool.and_false, Bool.true_and, Bool.false_and, Bool.or_true, Bool.or_false, bI_t, bI_f, e10, Bool.false_eq_true, Bool.true_eq_false, Nat.add_zero, Int32.add_zero, ofN_succ, B.2.1 s hs c]
  simp only [gM13 W, gM14 W, gM15 W, bN] at inner
  refine bs (find_loopU (areS n d k L) 20 (fun t ht hp => ?_) (fun t ht hp => ?_) (if_pos yle)) ?_
  · simp only [if_neg (n20 ht), gM13 W, gM14 W, gM15 W, bN, ldI_at W ar_low ht, ldZ_at W az_is ht, B.1 t ht, bI_0, ofN_succ]
    cases c : rdAt n t d
    · simp
    · simp only [Bool.true_eq_false, if_false, B.2.1 t ht c]
      by_cases c1 : L ≤ low n t d
      · simp only [c1, if_true]
        refine bs (inner t ht c) ?_
        have hb1 := cnt_le (ovr n d (low n t d)) 20
        have hb2 := cnt_le (rch n d (low n t d)) 20
        simp only [areS, c, c1, decide_true, Bool.true_and] at hp
        simp only [bI_0, ofN_lt (show k < 2147483648 by omega) (show cnt (ovr n d (low n t d)) 20 < 2147483648 by omega), ofN_lt (show cnt (rch n d (low n t d)) 20 < 2147483648 by omega) (show k < 2147483648 by omega)]
        cases z : orT (bad n d (low n t d)) 20
        · rw [z] at hp
          simp only [Bool.not_false, Bool.true_and, Bool.and_eq_false_iff, decide_eq_false_iff_not] at hp
          simp only [Bool.not_false, Bool.true_eq_false, if_false]
          by_cases c3 : k < cnt (ovr n d (low n t d)) 20
          · rw [if_pos c3]
          · rw [if_neg c3, if_pos (by omega)]
        · simp
      · simp only [c1, if_false]
  · simp only [areS, Bool.and_eq_true, Bool.not_eq_true', decide_eq_true_eq] at hp
    obtain ⟨⟨⟨⟨c, c1⟩, z⟩, c3⟩, c4⟩ := hp
    have hb1 := cnt_le (ovr n d (low n t d)) 20
    have hb2 := cnt_le (rch n d (low n t d)) 20
    simp only [if_neg (n20 ht), gM13 W, gM14 W, gM15 W, bN, ldI_at W ar_low ht, ldZ_at W az_is ht, B.1 t ht, bI_0, c, Bool.true_eq_false, if_false, B.2.1 t ht c, c1, if_true]
    refine bs (inner t ht c) ?_
    simp only [bI_0, ofN_lt (show k < 2147483648 by omega) (show cnt (ovr n d (low n t d)) 20 < 2147483648 by omega), ofN_lt (show cnt (rch n d (low n t d)) 20 < 2147483648 by omega) (show k < 2147483648 by omega), z, Bool.not_false, Bool.true_eq_false, if_false]
    rw [if_neg (by omega), if_neg (by omega)]
  · cases orT (areS n d k L) 20 <;> rfl
/-! the same, told by the k-th in the class's order -/
theorem mxMax_mono {a b c d : Int32} (h1 : a ≤ c) (h2 : b ≤ d) : mxMax a b ≤ mxMax c d := by
  unfold mxMax
  rw [i32_le] at *
  simp only [i32_lt]
  split <;> split <;> omega
theorem sum5_mono {x y : Nat → Int32} (hx : ∀ i, i < 5 → ∃ a, a < 496 ∧ x i = Int32.ofNat a) (hy : ∀ i, i < 5 → ∃ a, a < 496 ∧ y i = Int32.ofNat a) (h : ∀ i, i < 5 → x i ≤ y i) : sum5 x ≤ sum5 y := by
  have key : ∀ k, k ≤ 5 → ∃ a b, fo (fun s i => s + x i) 0 k = Int32.ofNat a ∧ fo (fun s i => s + y i) 0 k = Int32.ofNat b ∧ a ≤ b ∧ b ≤ 496 * k := by
    intro k
    induction k with
    | zero => intro _; exact ⟨0, 0, rfl, rfl, Nat.le_refl _, Nat.zero_le _⟩
    | succ k ih =>
      intro hk
      obtain ⟨a, b, h1, h2, h3, h4⟩ := ih (by omega)
      obtain ⟨p, hp, ep⟩ := hx k (by omega)
      obtain ⟨q, hq, eq⟩ := hy k (by omega)
      have hpq := h k (by omega)
      rw [ep, eq, ofN_le (by omega) (by omega)] at hpq
      refine ⟨a + p, b + q, ?_, ?_, by omega, by omega⟩
      · show fo (fun s i => s + x i) 0 k + x k = _
        rw [h1, ep, ofN_add]
      · show fo (fun s i => s + y i) 0 k + y k = _
        rw [h2, eq, ofN_add]
  obtain ⟨a, b, h1, h2, h3, h4⟩ := key 5 (Nat.le_refl _)
  unfold sum5
  rw [h1, h2, ofN_le (by omega) (by omega)]; exact h3
theorem max5_mono {x y : Nat → Int32} (h : ∀ i, i < 5 → x i ≤ y i) : max5 x ≤ max5 y := by
  have key : ∀ k, k ≤ 5 → fo (fun s i => mxMax s (x i)) 0 k ≤ fo (fun s i => mxMax s (y i)) 0 k := by
    intro k
    induction k with
    | zero => intro _; show (0 : Int32) ≤ 0; exact Int32.le_refl _
    | succ k ih => intro hk; exact mxMax_mono (ih (by omega)) (h k (by omega))
  exact key 5 (Nat.le_refl _)
def lg (w x : Nat → Int32) : Int32 → Nat → Int32 := fun s i => if 0 < w i ∧ (s = -1 ∨ x i < s) then x i else s
theorem lg_step {w x y : Nat → Int32} {s s' : Int32} {k : Nat} (h0 : 0 ≤ x k) (h : x k ≤ y k) (ih : (s = -1 ∧ s' = -1) ∨ (0 ≤ s ∧ s ≤ s')) : (lg w x s k = -1 ∧ lg w y s' k = -1) ∨ (0 ≤ lg w x s k ∧ lg w x s k ≤ lg w y s' k) := by
  have e0 : (0 : Int32).toInt = 0 := by decide
  have em : (-1 : Int32).toInt = -1 := by decide
  unfold lg
  by_cases w : 0 < w k
  · simp only [w, true_and]
    simp only [i32_lt, i32_le, i32_eq, e0, em] at *
    split <;> split <;> omega
  · simp only [w, false_and, if_false]
    exact ih
theorem least5_mono {w x y : Nat → Int32} (h0 : ∀ i, i < 5 → 0 ≤ x i) (h : ∀ i, i < 5 → x i ≤ y i) : least5 w x ≤ least5 w y := by
  have key : ∀ k, k ≤ 5 → (fo (lg w x) (-1) k = -1 ∧ fo (lg w y) (-1) k = -1) ∨ (0 ≤ fo (lg w x) (-1) k ∧ fo (lg w x) (-1) k ≤ fo (lg w y) (-1) k) := by
    intro k
    induction k with
    | zero => intro _; exact Or.inl ⟨rfl, rfl⟩
    | succ k ih => intro hk; exact lg_step (h0 k (by omega)) (h k (by omega)) (ih (by omega))
  show fo (lg w x) (-1) 5 ≤ fo (lg w y) (-1) 5
  rcases key 5 (Nat.le_refl _) with ⟨a, b⟩ | ⟨a, b⟩
  · rw [a, b]; exact Int32.le_refl _
  · exact b
theorem rl_mono {n x y : Nat → Int32} (hx : ∀ i, i < 5 → ∃ a, a < 496 ∧ x i = Int32.ofNat a) (hy : ∀ i, i < 5 → ∃ a, a < 496 ∧ y i = Int32.ofNat a) (h : ∀ i, i < 5 → x i ≤ y i) : rl n x ≤ rl n y := by
  have x0 : ∀ i, i < 5 → 0 ≤ x i := fun i hi => by obtain ⟨a, h1, h2⟩ := hx i hi; rw [h2]; exact ofN_0le (by omega)
  unfold rl
  by_cases c1 : n 105 = 0
  · rw [if_pos c1, if_pos c1]; exact sum5_mono hx hy h
  · rw [if_neg c1, if_neg c1]
    by_cases c2 : n 105 = 1
    · rw [if_pos c2, if_pos c2]; exact mxMax_mono (least5_mono x0 h) (Int32.le_refl _)
    · rw [if_neg c2, if_neg c2]; exact max5_mono h
theorem low_upp {n : Nat → Int32} (G : MG n) (H : WG n) {t d : Nat} (ht : t < 20) (hd : 1 ≤ d) : low n t d ≤ upp n t d := by
  unfold low upp
  refine rl_mono (fun i hi => ?_) (fun i hi => ?_) (fun i hi => ?_)
  · split
    · exact wm_nat G H hi ht
    · exact ⟨0, by omega, rfl⟩
  · split
    · exact wm_nat G H hi ht
    · exact lm_nat G H hi hd
  · split
    · exact Int32.le_refl _
    · exact lm_0 G H hi hd
theorem setl_iff {n : Nat → Int32} {d k : Nat} : setl n d k = true ↔ k ≤ rdT n d ∧ ¬ low n (bnr n d (k - 1)) d < lim n d ∧ ∀ j, k ≤ j → j < rdT n d → ¬ low n (bnr n d (k - 1)) d < upp n (bnr n d j) d := by
  unfold setl setB
  simp only [Bool.and_eq_true, Bool.not_eq_true', decide_eq_true_eq, decide_eq_false_iff_not, orT_false, Bool.and_eq_false_iff]
  constructor
  · rintro ⟨⟨h1, h2⟩, h3⟩
    exact ⟨h1, h2, fun j a b => (h3 j b).resolve_left (fun z => z a)⟩
  · rintro ⟨h1, h2, h3⟩
    exact ⟨⟨h1, h2⟩, fun j b => by
      by_cases a : k ≤ j
      · exact Or.inr (h3 j a b)
      · exact Or.inl a⟩
theorem sure_eq {n : Nat → Int32} (G : MG n) (H : WG n) {d k : Nat} (hd : 1 ≤ d) (hk : 1 ≤ k) : orT (areS n d k (lim n d)) 20 = setl n d k := by
  have S := befB_STO n d 20
  have nr : ∀ j, j < rdT n d → bnr n d j < 20 ∧ rdAt n (bnr n d j) d = true ∧ rkL (befB n d) (fun t => rdAt n t d) 20 (bnr n d j) = j := fun j hj => nrL_spec (P := fun t => rdAt n t d) S hj
  have nl : ∀ i j, i < j → j < rdT n d → befB n d (bnr n d i) (bnr n d j) = true := fun i j hij hj => nrL_lt (P := fun t => rdAt n t d) S hij hj
  have no : ∀ t, t < 20 → rdAt n t d = true → rkL (befB n d) (fun t => rdAt n t d) 20 t < rdT n d ∧ bnr n d (rkL (befB n d) (fun t => rdAt n t d) 20 t) = t := fun t ht h => ⟨rkL_cnt S ht h, nrL_of S ht h⟩
  have lle : ∀ i j, i ≤ j → j < rdT n d → low n (bnr n d j) d ≤ low n (bnr n d i) d := fun i j hij hj => by
    by_cases e : i = j
    · rw [e]; exact Int32.le_refl _
    · rcases befB_iff.mp (nl i j (by omega) hj) with z | z
      · rw [i32_lt] at z; rw [i32_le]; omega
      · rw [z.1]; exact Int32.le_refl _
  have bi : ∀ i j, i < rdT n d → j < rdT n d → bnr n d i = bnr n d j → i = j := fun i j hi hj e => by
    have a := (nr i hi).2.2
    rw [e, (nr j hj).2.2] at a; omega
  have hb : ∀ (a b : Bool), (a = true ↔ b = true) → a = b := fun a b h => by
    cases a <;> cases b
    · rfl
    · exact absurd (h.mpr rfl) (by decide)
    · exact absurd (h.mp rfl) (by decide)
    · rfl
  apply hb
  rw [orT_iff, setl_iff]
  constructor
  · rintro ⟨t, ht, h⟩
    simp only [areS, Bool.and_eq_true, Bool.not_eq_true', decide_eq_true_eq] at h
    obtain ⟨⟨⟨⟨c, c1⟩, z⟩, c3⟩, c4⟩ := h
    have z := orT_false.mp z
    generalize low n t d = v at c1 z c3 c4
    have h1 : k ≤ rdT n d := Nat.le_trans c4 (cnt_mono (fun s _ q => by simp only [rch, Bool.and_eq_true] at q; exact q.1))
    have h2 : v ≤ low n (bnr n d (k - 1)) d := by
      by_cases q : v ≤ low n (bnr n d (k - 1)) d
      · exact q
      · exfalso
        have : cnt (rch n d v) 20 ≤ rkL (befB n d) (fun t => rdAt n t d) 20 (bnr n d (k - 1)) := cnt_mono (fun s _ y => by
          simp only [rch, Bool.and_eq_true, Bool.not_eq_true', decide_eq_false_iff_not] at y ⊢
          refine ⟨y.1, befB_iff.mpr (Or.inl ?_)⟩
          have y2 := y.2
          rw [i32_lt] at *
          rw [i32_le] at q
          omega)
        rw [(nr (k - 1) (by omega)).2.2] at this
        omega
    refine ⟨h1, ?_, fun j hj hj2 q => ?_⟩
    · rw [i32_lt]; rw [i32_le] at c1 h2; omega
    · have uj : v < upp n (bnr n d j) d := by rw [i32_lt] at *; rw [i32_le] at h2; omega
      have lj : v ≤ low n (bnr n d j) d := by
        have := z _ (nr j hj2).1
        simp only [bad, ovr, (nr j hj2).2.1, Bool.true_and, decide_eq_true uj, decide_eq_false_iff_not] at this
        exact Int32.not_lt.mp this
      have all : ∀ i, i < k → ovr n d v (bnr n d i) = true := fun i hi => by
        have hi2 : i < rdT n d := by omega
        have hlu := low_upp G H (n := n) (nr i hi2).1 hd
        have l1 := lle i (k - 1) (by omega) (by omega)
        have l2 := lle (k - 1) j (by omega) hj2
        have := befB_iff.mp (nl i j (by omega) hj2)
        simp only [ovr, (nr i hi2).2.1, Bool.true_and, decide_eq_true_eq]
        simp only [i32_lt, i32_le, i32_eq] at *
        omega
      have oj : ovr n d v (bnr n d j) = true := by simp only [ovr, (nr j hj2).2.1, Bool.true_and, decide_eq_true uj]
      have := cnt_inj (n := k + 1) (p := fun _ => true) (m := 20) (f := fun i => if i = k then bnr n d j else bnr n d i) (q := ovr n d v) (fun i hi _ => by
        show (if i = k then bnr n d j else bnr n d i) < 20 ∧ ovr n d v (if i = k then bnr n d j else bnr n d i) = true
        by_cases e : i = k
        · rw [if_pos e]; exact ⟨(nr j hj2).1, oj⟩
        · rw [if_neg e]; exact ⟨(nr i (by omega)).1, all i (by omega)⟩) (fun a b ha hb _ _ e => by
        have e : (if a = k then bnr n d j else bnr n d a) = (if b = k then bnr n d j else bnr n d b) := e
        by_cases e1 : a = k
        · by_cases e2 : b = k
          · omega
          · rw [if_pos e1, if_neg e2] at e
            have := bi _ _ hj2 (by omega) e; omega
        · by_cases e2 : b = k
          · rw [if_neg e1, if_pos e2] at e
            have := bi _ _ (by omega) hj2 e; omega
          · rw [if_neg e1, if_neg e2] at e
            exact bi _ _ (by omega) (by omega) e)
      rw [cnt_all] at this
      omega
  · rintro ⟨h1, h2, h3⟩
    obtain ⟨t1, t2, t3⟩ := nr (k - 1) (by omega)
    refine ⟨bnr n d (k - 1), t1, ?_⟩
    have pos : ∀ s, s < 20 → ovr n d (low n (bnr n d (k - 1)) d) s = true → rkL (befB n d) (fun t => rdAt n t d) 20 s < k := fun s hs q => by
      simp only [ovr, Bool.and_eq_true, decide_eq_true_eq] at q
      obtain ⟨p1, p2⟩ := no s hs q.1
      by_cases c : rkL (befB n d) (fun t => rdAt n t d) 20 s < k
      · exact c
      · have := h3 _ (by omega) p1
        rw [p2] at this
        exact absurd q.2 this
    simp only [areS, Bool.and_eq_true, Bool.not_eq_true', decide_eq_true_eq, t2, true_and]
    refine ⟨⟨⟨Int32.not_lt.mp h2, orT_false.mpr (fun s hs => ?_)⟩, ?_⟩, ?_⟩
    · cases b : bad n d (low n (bnr n d (k - 1)) d) s
      · rfl
      · exfalso
        have q := b
        simp only [bad, Bool.and_eq_true, decide_eq_true_eq] at q
        have p := pos s hs q.1
        have rs : rdAt n s d = true := by
          have q1 := q.1
          simp only [ovr, Bool.and_eq_true] at q1; exact q1.1
        obtain ⟨p1, p2⟩ := no s hs rs
        have := lle _ (k - 1) (show rkL (befB n d) (fun t => rdAt n t d) 20 s ≤ k - 1 by omega) (by omega)
        rw [p2] at this
        exact absurd q.2 (Int32.not_lt.mpr this)
    · refine pigeon (p := ovr n d (low n (bnr n d (k - 1)) d)) (n := 20) (f := rkL (befB n d) (fun t => rdAt n t d) 20) k _ (fun s hs q => pos s hs q) (fun a b ha hb pa pb e => ?_)
      have ra : rdAt n a d = true := by simp only [ovr, Bool.and_eq_true] at pa; exact pa.1
      have rb : rdAt n b d = true := by simp only [ovr, Bool.and_eq_true] at pb; exact pb.1
      exact rkL_inj S ha hb ra rb e
    · have := cnt_inj (n := k) (p := fun _ => true) (m := 20) (f := bnr n d) (q := rch n d (low n (bnr n d (k - 1)) d)) (fun i hi _ => ⟨(nr i (by omega)).1, by
        simp only [rch, (nr i (by omega)).2.1, Bool.true_and, Bool.not_eq_true', decide_eq_false_iff_not]
        exact Int32.not_lt.mpr (lle i (k - 1) (by omega) (by omega))⟩) (fun a b ha hb _ _ e => bi _ _ (by omega) (by omega) e)
      rw [cnt_all] at this
      exact this
theorem pst_eq {n : Nat → Int32} {k j : Nat} (h0 : dpt n ≠ 0) (h1 : ∀ d, d < j → setl n (d + 1) k = false) (h2 : j < dpt n - 1 → setl n (j + 1) k = true) (h3 : j ≤ dpt n - 1) : pst n k = 1 + j := by
  unfold pst
  rw [if_neg h0, fst1_eq h1 h2 h3]
theorem BR_fr {P : Nat → Prop} {h h1 : mxH} {n : Nat → Int32} {d : Nat} (a : BR h n d) (f : Fr P h h1) (hp : ¬ P 331 ∧ ¬ P 332 ∧ ¬ P 333) : BR h1 n d := by
  refine ⟨fun t ht => ?_, fun t ht => ?_, fun t ht => ?_⟩
  · rw [Fr_V f (by omega) hp.1]; exact a.1 t ht
  · rw [Fr_V f (by omega) hp.2.1]; exact a.2.1 t ht
  · rw [Fr_V f (by omega) hp.2.2]; exact a.2.2 t ht
theorem m_plainStop {h : mxH} {n : Nat → Int32} (G : MG n) (H : WG n) (W : WF h) (e : V h 320 = n) {k : Nat} (hk1 : 1 ≤ k) (hk2 : k ≤ 20) : Ok (fX10_plainStop 319 (Int32.ofNat k) h) (fun o => o.1 = Int32.ofNat (pst n k) ∧ Fr (fun b => b = 322 ∨ b = 331 ∨ b = 332 ∨ b = 333) h o.2) := by
  have D20 := dpt_20 n
  unfold fX10_plainStop
  simp only [isO_X W, bN, m_longest W e]
  refine Ok_b (P := fun o => match o with | .inl x => x.1 = Int32.ofNat (pst n k) ∧ Fr (fun b => b = 322 ∨ b = 331 ∨ b = 332 ∨ b = 333) h x.2 | .inr h' => dpt n = pst n k ∧ Fr (fun b => b = 322 ∨ b = 331 ∨ b = 332 ∨ b = 333) h h') (Ok_loopE (fun j s => j ≤ dpt n - 1 ∧ s.1 = Int32.ofNat (1 + j) ∧ Fr (fun b => b = 322 ∨ b = 331 ∨ b = 332 ∨ b = 333) h s.2 ∧ ∀ d, d < j → setl n (d + 1) k = false) (dpt n - 1) ⟨by omega, rfl, Fr.refl W, fun d hd => by omega⟩ ?_ (by unfold mxF; omega)) (fun o H => ?_)
  · rintro j ⟨s1, h1⟩ hj ⟨-, e1, F, hn⟩
    obtain rfl := show s1 = _ from e1
    have F : Fr (fun b => b = 322 ∨ b = 331 ∨ b = 332 ∨ b = 333) h h1 := F
    have W1 := F.1
    have en := fr_now F (by omega) e
    by_cases c : dpt n ≤ 1 + j
    · refine Ok_e (a := .inr (.inr h1)) (if_pos ((ofN_le (by omega) (by omega)).mpr c)) (Or.inr ⟨.inr h1, rfl, ?_⟩)
      show dpt n = pst n k ∧ Fr _ h h1
      refine ⟨?_, F⟩
      by_cases z : dpt n = 0
      · unfold pst; rw [if_pos z, z]
      · rw [pst_eq z hn (fun q => by omega) hj]; omega
    · simp only [if_neg (show ¬ Int32.ofNat (dpt n) ≤ Int32.ofNat (1 + j) from nle (by omega) (by omega)), isO_X W1, bN]
      refine Ok_b (m_laysBounds G H W1 en (d := 1 + j) (by omega) (by omega)) (fun h2 ⟨F2, B2⟩ => ?_)
      have F3 := F.trans F2
      have W3 := F3.1
      simp only [isO_X W3, bN]
      refine Ok_b (m_limitAt G H W3 (fr_now F3 (by omega) e) (d := 1 + j) (by omega) (by omega)) (fun q ⟨q1, q2⟩ => ?_)
      have F4 := F3.trans (q2.mono (fun b z => Or.inl z))
      have W4 := F4.1
      have B4 := BR_fr B2 q2 (by omega)
      rw [q1]
      simp only [isO_X W4, bN, m_areSure W4 B4 hk2, sure_eq G H (d := 1 + j) (by omega) hk1, bI_0, ofN_succ]
      cases c3 : setl n (1 + j) k
      · rw [if_pos rfl]
        refine Ok_p (Or.inl ⟨_, rfl, by omega, by omega, by show Int32.ofNat _ = Int32.ofNat _; rw [Nat.add_assoc], F4, fun d hd => ?_⟩)
        by_cases e : d = j
        · rw [e, Nat.add_comm j 1]; exact c3
        · exact hn d (by omega)
      · rw [if_neg (by decide)]
        refine Ok_p (Or.inr ⟨.inl (Int32.ofNat (1 + j), q.2), rfl, ?_⟩)
        show Int32.ofNat (1 + j) = Int32.ofNat (pst n k) ∧ Fr _ h q.2
        refine ⟨?_, F4⟩
        rw [pst_eq (by omega) hn (fun _ => by rw [Nat.add_comm j 1]; exact c3) hj]
  · cases o with
    | inl x => exact Ok_p H
    | inr h' => exact Ok_p ⟨by show Int32.ofNat _ = _; rw [H.1], H.2⟩
