/-! THE PURE SIDE, 32: the reference: all orders, the least -/
def fct : Nat → Nat
  | 0 => 1
  | n + 1 => (n + 1) * fct n
theorem fct_pos (n : Nat) : 0 < fct n := by
  induction n with
  | zero => exact Nat.one_pos
  | succ n ih => exact Nat.mul_pos (by omega) ih
theorem fct_6 : ∀ c, c < 7 → fct c ≤ 720 := by decide
def el (c u q : Nat) : Nat := nth (fun k => u.testBit k) q c
def dsq (c r : Nat) : Nat → Nat × Nat
  | 0 => (2 ^ c - 1, r)
  | i + 1 => (clr (dsq c r i).1 (el c (dsq c r i).1 ((dsq c r i).2 / fct (c - 1 - i))), (dsq c r i).2 % fct (c - 1 - i))
def oe (c r i : Nat) : Nat := el c (dsq c r i).1 ((dsq c r i).2 / fct (c - 1 - i))
theorem dsq_u (c r i : Nat) : (dsq c r (i + 1)).1 = clr (dsq c r i).1 (oe c r i) := rfl
theorem dsq_x (c r i : Nat) : (dsq c r (i + 1)).2 = (dsq c r i).2 % fct (c - 1 - i) := rfl
theorem el_spec {c u q : Nat} (h : q < cnt (fun k => u.testBit k) c) : el c u q < c ∧ u.testBit (el c u q) = true ∧ cnt (fun k => u.testBit k) (el c u q) = q := nth_found h
theorem dsq_ok {c r : Nat} (hc : c < 7) (hr : r < fct c) : ∀ i, i ≤ c → (dsq c r i).1 < 2 ^ c ∧ cnt (fun k => (dsq c r i).1.testBit k) c = c - i ∧ (dsq c r i).2 < fct (c - i) := by
  have h64 := (full6 c hc).2
  have hp : 0 < 2 ^ c := Nat.pow_pos (by omega)
  intro i
  induction i with
  | zero =>
    intro _
    refine ⟨by show 2 ^ c - 1 < _; omega, ?_, hr⟩
    refine Eq.trans (cnt_congr (q := fun _ => true) (fun k hk => full_bit c hc k hk)) ?_
    rw [cnt_all]; rfl
  | succ i ih =>
    intro hi
    obtain ⟨h1, h2, h3⟩ := ih (by omega)
    have hq : (dsq c r i).2 / fct (c - 1 - i) < c - i := by
      rw [Nat.div_lt_iff_lt_mul (fct_pos _)]
      have : fct (c - i) = (c - i) * fct (c - 1 - i) := by
        rw [show c - i = (c - 1 - i) + 1 by omega]; rfl
      rw [← this]; exact h3
    obtain ⟨e1, e2, e3⟩ := el_spec (c := c) (u := (dsq c r i).1) (q := (dsq c r i).2 / fct (c - 1 - i)) (by rw [h2]; exact hq)
    have h4 := cnt_clr (m := (dsq c r i).1) (f := oe c r i) (c := c) (by omega) e1 (by omega) e2
    have h5 := clr_le (dsq c r i).1 (oe c r i)
    refine ⟨by rw [dsq_u]; omega, by rw [dsq_u]; omega, ?_⟩
    rw [dsq_x, show c - (i + 1) = c - 1 - i by omega]
    exact Nat.mod_lt _ (fct_pos _)
theorem dsq_q {c r : Nat} (hc : c < 7) (hr : r < fct c) {i : Nat} (hi : i < c) : (dsq c r i).2 / fct (c - 1 - i) < c - i := by
  obtain ⟨h1, h2, h3⟩ := dsq_ok hc hr i (by omega)
  rw [Nat.div_lt_iff_lt_mul (fct_pos _)]
  have : fct (c - i) = (c - i) * fct (c - 1 - i) := by
    rw [show c - i = (c - 1 - i) + 1 by omega]; rfl
  rw [← this]; exact h3
theorem oe_spec {c r : Nat} (hc : c < 7) (hr : r < fct c) {i : Nat} (hi : i < c) : oe c r i < c ∧ (dsq c r i).1.testBit (oe c r i) = true ∧ cnt (fun k => (dsq c r i).1.testBit k) (oe c r i) = (dsq c r i).2 / fct (c - 1 - i) :=
  el_spec (by rw [(dsq_ok hc hr i (by omega)).2.1]; exact dsq_q hc hr hi)
theorem mask_0 {c u : Nat} (hc : c < 7) (hu : u < 2 ^ c) (h : cnt (fun k => u.testBit k) c = 0) : u = 0 := by
  by_cases z : u = 0
  · exact z
  · obtain ⟨k, h1, h2⟩ := hasbit c hc u hu (by omega)
    have := cnt_pos (p := fun k => u.testBit k) h1 h2
    omega
/-! sums over a mask -/
def bsg (u : Nat) (g : Nat → Nat) : Nat → Nat → Nat := fun s k => s + if u.testBit k then g k else 0
def bsm (u : Nat) (g : Nat → Nat) (c : Nat) : Nat := fo (bsg u g) 0 c
theorem bsm_0 (g : Nat → Nat) (c : Nat) : bsm 0 g c = 0 := by
  induction c with
  | zero => rfl
  | succ c ih =>
    show bsm 0 g c + (if (0 : Nat).testBit c then g c else 0) = 0
    rw [ih, Nat.zero_testBit]; rfl
theorem bsm_out {u e : Nat} {g : Nat → Nat} (hu : u < 64) (he6 : e < 6) (b : u.testBit e = true) : ∀ c, c ≤ 6 → bsm u g c = (if e < c then g e else 0) + bsm (clr u e) g c := by
  intro c
  induction c with
  | zero => intro _; rw [if_neg (by omega)]; rfl
  | succ c ih =>
    intro hc
    show bsm u g c + (if u.testBit c then g c else 0) = _ + (bsm (clr u e) g c + (if (clr u e).testBit c then g c else 0))
    rw [ih (by omega), clr_bit u hu e he6 c (by omega)]
    by_cases q : c = e
    · subst q
      rw [b, if_neg (show ¬ c < c by omega), if_pos (show c < c + 1 by omega), show (c == c) = true by simp]
      simp only [Bool.not_true, Bool.and_false, Bool.false_eq_true, if_false, if_true]; omega
    · rw [show (c == e) = false by simpa using q, Bool.not_false, Bool.and_true]
      by_cases q2 : e < c
      · rw [if_pos q2, if_pos (show e < c + 1 by omega)]; omega
      · rw [if_neg q2, if_neg (show ¬ e < c + 1 by omega)]; omega
theorem swb_eq {n : Nat → Int32} {D : Nat → Nat} {u e : Nat} : swb n D u e = D (clr u e) + bsm (clr u e) (fun k => pf n k e) (cdC n) := swg_ge _
/-- what the last k places of the r-th order cost -/
def cos (n : Nat → Int32) (r : Nat) : Nat → Nat
  | 0 => 0
  | k + 1 => bsm (dsq (cdC n) r (cdC n - k)).1 (fun j => pf n j (oe (cdC n) r (cdC n - 1 - k))) (cdC n) + cos n r k
/-- a sum over the last k places of the r-th order -/
def ts (c r : Nat) (g : Nat → Nat) : Nat → Nat
  | 0 => 0
  | k + 1 => g (oe c r (c - 1 - k)) + ts c r g k
theorem ts_eq {c r : Nat} {g : Nat → Nat} (hc : c < 7) (hr : r < fct c) : ∀ k, k ≤ c → ts c r g k = bsm (dsq c r (c - k)).1 g c := by
  have h64 := (full6 c hc).2
  intro k
  induction k with
  | zero =>
    intro _
    obtain ⟨h1, h2, h3⟩ := dsq_ok hc hr c (Nat.le_refl _)
    show 0 = bsm (dsq c r c).1 g c
    rw [mask_0 hc h1 (by rw [h2]; omega), bsm_0]
  | succ k ih =>
    intro hk
    obtain ⟨h1, h2, h3⟩ := dsq_ok hc hr (c - 1 - k) (by omega)
    obtain ⟨e1, e2, e3⟩ := oe_spec hc hr (show c - 1 - k < c by omega)
    show g (oe c r (c - 1 - k)) + ts c r g k = _
    rw [ih (by omega), show c - (k + 1) = c - 1 - k by omega, bsm_out (by omega) (by omega) e2 c (by omega), if_pos e1, ← dsq_u, show c - 1 - k + 1 = c - k by omega]
theorem cos_le {n : Nat → Int32} {D : Nat → Nat} {r : Nat} (dp : DP n D (2 ^ cdC n)) (hr : r < fct (cdC n)) : ∀ k, k ≤ cdC n → D (dsq (cdC n) r (cdC n - k)).1 ≤ cos n r k := by
  have C6 := cdC_6 n
  have hc : cdC n < 7 := by omega
  intro k
  induction k with
  | zero =>
    intro _
    obtain ⟨h1, h2, h3⟩ := dsq_ok hc hr (cdC n) (Nat.le_refl _)
    show D (dsq (cdC n) r (cdC n)).1 ≤ 0
    rw [mask_0 hc h1 (by rw [h2]; omega), dp.1]; exact Nat.le_refl _
  | succ k ih =>
    intro hk
    obtain ⟨h1, h2, h3⟩ := dsq_ok hc hr (cdC n - 1 - k) (by omega)
    obtain ⟨e1, e2, e3⟩ := oe_spec hc hr (show cdC n - 1 - k < cdC n by omega)
    have ih := ih (by omega)
    have pos : 0 < (dsq (cdC n) r (cdC n - 1 - k)).1 := by
      by_cases z : (dsq (cdC n) r (cdC n - 1 - k)).1 = 0
      · rw [z, Nat.zero_testBit] at e2; cases e2
      · omega
    have M := fof_MIN (n := n) (D := D) ⟨_, e1, e2⟩
    have ml := (M.2.2 _ e1 e2).1
    rw [← dp.2 _ pos h1, swb_eq, ← dsq_u, show cdC n - 1 - k + 1 = cdC n - k by omega] at ml
    rw [show cdC n - (k + 1) = cdC n - 1 - k by omega]
    show _ ≤ bsm (dsq (cdC n) r (cdC n - k)).1 (fun j => pf n j (oe (cdC n) r (cdC n - 1 - k))) (cdC n) + cos n r k
    omega
/-- the place of the class's order among all -/
def rnk (n : Nat → Int32) (D : Nat → Nat) : Nat → Nat
  | 0 => 0
  | k + 1 => cnt (fun j => (mks n D (cdC n - 1 - k)).testBit j) (fof n D (mks n D (cdC n - 1 - k))) * fct k + rnk n D k
theorem mks_M {n : Nat → Int32} {D : Nat → Nat} {i : Nat} (hi : i < cdC n) : MIN n D (mks n D i) (cdC n) (fof n D (mks n D i)) :=
  fof_MIN (cnt_bit (by rw [(mks_spec i (by omega)).2]; omega))
theorem rnk_lt {n : Nat → Int32} {D : Nat → Nat} : ∀ k, k ≤ cdC n → rnk n D k < fct k := by
  intro k
  induction k with
  | zero => intro _; exact Nat.one_pos
  | succ k ih =>
    intro hk
    have ih := ih (by omega)
    have M := mks_M (n := n) (D := D) (show cdC n - 1 - k < cdC n by omega)
    have h2 := (mks_spec (n := n) (D := D) (cdC n - 1 - k) (by omega)).2
    have h3 := cnt_lt_of (p := fun j => (mks n D (cdC n - 1 - k)).testBit j) M.1 M.2.1
    have h4 : cnt (fun j => (mks n D (cdC n - 1 - k)).testBit j) (fof n D (mks n D (cdC n - 1 - k))) + 1 ≤ k + 1 := by omega
    show cnt (fun j => (mks n D (cdC n - 1 - k)).testBit j) (fof n D (mks n D (cdC n - 1 - k))) * fct k + rnk n D k < (k + 1) * fct k
    have h5 := Nat.mul_le_mul_right (fct k) h4
    rw [Nat.succ_mul] at h5
    omega
theorem dsq_rnk {n : Nat → Int32} {D : Nat → Nat} : ∀ i, i ≤ cdC n → dsq (cdC n) (rnk n D (cdC n)) i = (mks n D i, rnk n D (cdC n - i)) ∧ (i < cdC n → oe (cdC n) (rnk n D (cdC n)) i = fof n D (mks n D i)) := by
  have fin : ∀ i, i < cdC n → dsq (cdC n) (rnk n D (cdC n)) i = (mks n D i, rnk n D (cdC n - i)) → oe (cdC n) (rnk n D (cdC n)) i = fof n D (mks n D i) ∧ rnk n D (cdC n - i) % fct (cdC n - 1 - i) = rnk n D (cdC n - 1 - i) := fun i hi h => by
    have M := mks_M (n := n) (D := D) hi
    have e : cdC n - i = (cdC n - 1 - i) + 1 := by omega
    have hl := rnk_lt (n := n) (D := D) (cdC n - 1 - i) (by omega)
    have er : rnk n D (cdC n - i) = cnt (fun j => (mks n D i).testBit j) (fof n D (mks n D i)) * fct (cdC n - 1 - i) + rnk n D (cdC n - 1 - i) := by
      rw [e]
      show cnt (fun j => (mks n D (cdC n - 1 - (cdC n - 1 - i))).testBit j) (fof n D (mks n D (cdC n - 1 - (cdC n - 1 - i)))) * fct (cdC n - 1 - i) + rnk n D (cdC n - 1 - i) = _
      rw [show cdC n - 1 - (cdC n - 1 - i) = i by omega]
    have ed : rnk n D (cdC n - i) / fct (cdC n - 1 - i) = cnt (fun j => (mks n D i).testBit j) (fof n D (mks n D i)) := by
      rw [er, Nat.add_comm, Nat.add_mul_div_right _ _ (fct_pos _), Nat.div_eq_of_lt hl, Nat.zero_add]
    constructor
    · unfold oe
      rw [h]
      show el (cdC n) (mks n D i) (rnk n D (cdC n - i) / fct (cdC n - 1 - i)) = _
      rw [ed]
      exact nth_of (p := fun k => (mks n D i).testBit k) M.1 M.2.1
    · rw [er, Nat.add_comm, Nat.add_mul_mod_self_right, Nat.mod_eq_of_lt hl]
  intro i
  induction i with
  | zero => intro _; exact ⟨rfl, fun h => (fin 0 h rfl).1⟩
  | succ i ih =>
    intro hi
    have h := (ih (by omega)).1
    obtain ⟨f1, f2⟩ := fin i (by omega) h
    have e : dsq (cdC n) (rnk n D (cdC n)) (i + 1) = (mks n D (i + 1), rnk n D (cdC n - (i + 1))) := by
      apply Prod.ext
      · rw [dsq_u, f1, h]; rfl
      · rw [dsq_x, h]
        show rnk n D (cdC n - i) % fct (cdC n - 1 - i) = rnk n D (cdC n - (i + 1))
        rw [f2, show cdC n - (i + 1) = cdC n - 1 - i by omega]
    exact ⟨e, fun h2 => (fin (i + 1) h2 e).1⟩
theorem cos_rnk {n : Nat → Int32} {D : Nat → Nat} (dp : DP n D (2 ^ cdC n)) : ∀ k, k ≤ cdC n → cos n (rnk n D (cdC n)) k = D (mks n D (cdC n - k)) := by
  have C6 := cdC_6 n
  intro k
  induction k with
  | zero =>
    intro _
    obtain ⟨h1, h2⟩ := mks_spec (n := n) (D := D) (cdC n) (Nat.le_refl _)
    show 0 = D (mks n D (cdC n))
    rw [mask_0 (by omega) h1 (by rw [h2]; omega), dp.1]
  | succ k ih =>
    intro hk
    have M := mks_M (n := n) (D := D) (show cdC n - 1 - k < cdC n by omega)
    have h1 := (mks_spec (n := n) (D := D) (cdC n - 1 - k) (by omega)).1
    have d1 := (dsq_rnk (n := n) (D := D) (cdC n - k) (by omega)).1
    have d2 := (dsq_rnk (n := n) (D := D) (cdC n - 1 - k) (by omega)).2 (by omega)
    have pos : 0 < mks n D (cdC n - 1 - k) := by
      have b := M.2.1
      by_cases z : mks n D (cdC n - 1 - k) = 0
      · rw [z, Nat.zero_testBit] at b; cases b
      · omega
    have cl : clr (mks n D (cdC n - 1 - k)) (fof n D (mks n D (cdC n - 1 - k))) = mks n D (cdC n - k) := by
      rw [show cdC n - k = (cdC n - 1 - k) + 1 by omega]; rfl
    show bsm (dsq (cdC n) (rnk n D (cdC n)) (cdC n - k)).1 (fun j => pf n j (oe (cdC n) (rnk n D (cdC n)) (cdC n - 1 - k))) (cdC n) + cos n (rnk n D (cdC n)) k = _
    rw [ih (by omega), d1, d2, show cdC n - (k + 1) = cdC n - 1 - k by omega, dp.2 _ pos h1, swb_eq, cl]
    exact Nat.add_comm _ _
theorem cos_gt {n : Nat → Int32} {D : Nat → Nat} {r : Nat} (dp : DP n D (2 ^ cdC n)) (hr : r < fct (cdC n)) : ∀ k, k ≤ cdC n → (dsq (cdC n) r (cdC n - k)).1 = mks n D (cdC n - k) → (dsq (cdC n) r (cdC n - k)).2 < rnk n D k → D (mks n D (cdC n - k)) < cos n r k := by
  have C6 := cdC_6 n
  have hc : cdC n < 7 := by omega
  intro k
  induction k with
  | zero => intro _ _ h; exact absurd h (Nat.not_lt_zero _)
  | succ k ih =>
    intro hk hu hx
    rw [show cdC n - (k + 1) = cdC n - 1 - k by omega] at hu hx ⊢
    have M := mks_M (n := n) (D := D) (show cdC n - 1 - k < cdC n by omega)
    have h1 := (mks_spec (n := n) (D := D) (cdC n - 1 - k) (by omega)).1
    obtain ⟨e1, e2, e3⟩ := oe_spec hc hr (show cdC n - 1 - k < cdC n by omega)
    have cle := cos_le dp hr k (by omega)
    rw [show cdC n - 1 - (cdC n - 1 - k) = k by omega] at e3
    rw [hu] at e2 e3
    have pos : 0 < mks n D (cdC n - 1 - k) := by
      have b := M.2.1
      by_cases z : mks n D (cdC n - 1 - k) = 0
      · rw [z, Nat.zero_testBit] at b; cases b
      · omega
    have du : (dsq (cdC n) r (cdC n - k)).1 = clr (mks n D (cdC n - 1 - k)) (oe (cdC n) r (cdC n - 1 - k)) := by
      rw [show cdC n - k = (cdC n - 1 - k) + 1 by omega, dsq_u, hu]
    have dx : (dsq (cdC n) r (cdC n - k)).2 = (dsq (cdC n) r (cdC n - 1 - k)).2 % fct k := by
      rw [show cdC n - k = (cdC n - 1 - k) + 1 by omega, dsq_x, show cdC n - 1 - (cdC n - 1 - k) = k by omega]
    have hx : (dsq (cdC n) r (cdC n - 1 - k)).2 < cnt (fun j => (mks n D (cdC n - 1 - k)).testBit j) (fof n D (mks n D (cdC n - 1 - k))) * fct k + rnk n D k := hx
    have hl := rnk_lt (n := n) (D := D) k (by omega)
    show _ < bsm (dsq (cdC n) r (cdC n - k)).1 (fun j => pf n j (oe (cdC n) r (cdC n - 1 - k))) (cdC n) + cos n r k
    have dm := Nat.div_add_mod (dsq (cdC n) r (cdC n - 1 - k)).2 (fct k)
    rw [dp.2 _ pos h1]
    by_cases c : oe (cdC n) r (cdC n - 1 - k) < fof n D (mks n D (cdC n - 1 - k))
    · have := (M.2.2 _ e1 e2).2 c
      rw [swb_eq (e := oe (cdC n) r (cdC n - 1 - k)), ← du] at this
      omega
    · have e4 : oe (cdC n) r (cdC n - 1 - k) = fof n D (mks n D (cdC n - 1 - k)) := by
        by_cases c2 : fof n D (mks n D (cdC n - 1 - k)) < oe (cdC n) r (cdC n - 1 - k)
        · exfalso
          have h5 := cnt_lt_of (p := fun j => (mks n D (cdC n - 1 - k)).testBit j) c2 M.2.1
          rw [e3] at h5
          have h6 := Nat.mul_le_mul_right (fct k) h5
          rw [Nat.succ_mul] at h6
          have h7 := Nat.mul_comm (fct k) ((dsq (cdC n) r (cdC n - 1 - k)).2 / fct k)
          omega
        · omega
      rw [e4] at e3
      rw [e3] at hx
      have h7 := Nat.mul_comm (fct k) ((dsq (cdC n) r (cdC n - 1 - k)).2 / fct k)
      have ih := ih (by omega) (by rw [du, e4, show cdC n - k = (cdC n - 1 - k) + 1 by omega]; rfl) (by rw [dx]; omega)
      rw [swb_eq, ← e4, ← du]
      have hm : mks n D (cdC n - k) = (dsq (cdC n) r (cdC n - k)).1 := by
        rw [du, e4, show cdC n - k = (cdC n - 1 - k) + 1 by omega]; rfl
      rw [hm] at ih
      omega
