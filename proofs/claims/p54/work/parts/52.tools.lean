/-! THE PURE SIDE, 3: what a function answers; loops; Booleans; rows and things -/
def Ok {α : Type} (o : Option α) (P : α → Prop) : Prop := ∃ a, o = some a ∧ P a
theorem Ok_p {α : Type} {a : α} {P : α → Prop} (h : P a) : Ok (some a) P := ⟨a, rfl, h⟩
theorem Ok_e {α : Type} {o : Option α} {a : α} {P : α → Prop} (e : o = some a) (h : P a) : Ok o P := ⟨a, e, h⟩
theorem Ok_m {α : Type} {o : Option α} {P Q : α → Prop} (h : Ok o P) (k : ∀ a, P a → Q a) : Ok o Q := by
  obtain ⟨a, e, p⟩ := h
  exact ⟨a, e, k a p⟩
theorem Ok_b {α β : Type} {o : Option α} {f : α → Option β} {P : α → Prop} {Q : β → Prop} (h : Ok o P) (k : ∀ a, P a → Ok (f a) Q) : Ok (o.bind f) Q := by
  obtain ⟨a, e, p⟩ := h
  subst e
  exact k a p
/-- a step whose answer is known -/
theorem Ok_s {α β : Type} {o : Option α} {f : α → Option β} {Q : β → Prop} {a : α} (e : o = some a) (k : Ok (f a) Q) : Ok (o.bind f) Q := by
  subst e
  exact k
theorem bs {α β : Type} {o : Option α} {f : α → Option β} {a : α} {r : Option β} (e : o = some a) (k : f a = r) : o.bind f = r := by
  subst e
  exact k
theorem Ok_loop {σ ρ : Type} {f : σ → Option (σ ⊕ ρ)} {Q : ρ → Prop} {s0 : σ} (I : Nat → σ → Prop) (N : Nat) (i0 : I 0 s0) (step : ∀ k s, k < N → I k s → Ok (f s) (fun o => ∃ s', o = .inl s' ∧ I (k + 1) s')) (last : ∀ s, I N s → Ok (f s) (fun o => ∃ r, o = .inr r ∧ Q r)) (hN : N < mxF := by decide) : Ok (mxLoop f mxF s0) Q := by
  exact mxLoop_run (f := f) (I := fun k s => k ≤ N ∧ I (N - k) s) (E := Q) (fun k s hI => by
    obtain ⟨hk, hI⟩ := hI
    by_cases h0 : k = 0
    · subst h0
      obtain ⟨o, e, r, h1, h2⟩ := last s hI
      exact Or.inr ⟨r, by rw [e, h1], h2⟩
    · obtain ⟨o, e, s', h1, h2⟩ := step (N - k) s (by omega) hI
      refine Or.inl ⟨s', by rw [e, h1], by omega, by omega, ?_⟩
      rw [show N - (k - 1) = N - k + 1 by omega]
      exact h2) mxF N s0 hN ⟨Nat.le_refl _, by rw [Nat.sub_self]; exact i0⟩
/-- a loop that may end at any turn -/
theorem Ok_loopE {σ ρ : Type} {f : σ → Option (σ ⊕ ρ)} {Q : ρ → Prop} {s0 : σ} (I : Nat → σ → Prop) (N : Nat) (i0 : I 0 s0) (step : ∀ k s, k ≤ N → I k s → Ok (f s) (fun o => (∃ s', o = .inl s' ∧ k < N ∧ I (k + 1) s') ∨ ∃ r, o = .inr r ∧ Q r)) (hN : N < mxF := by decide) : Ok (mxLoop f mxF s0) Q := by
  exact mxLoop_run (f := f) (I := fun k s => k ≤ N ∧ I (N - k) s) (E := Q) (fun k s hI => by
    obtain ⟨hk, hI⟩ := hI
    obtain ⟨o, e, ⟨s', h1, h2, h3⟩ | ⟨r, h1, h2⟩⟩ := step (N - k) s (by omega) hI
    · refine Or.inl ⟨s', by rw [e, h1], by omega, by omega, ?_⟩
      rw [show N - (k - 1) = N - k + 1 by omega]
      exact h3
    · exact Or.inr ⟨r, by rw [e, h1], h2⟩) mxF N s0 hN ⟨Nat.le_refl _, by rw [Nat.sub_self]; exact i0⟩
/-- a fold over 0 .. n - 1 -/
def fo {α : Type} (g : α → Nat → α) (a : α) : Nat → α
  | 0 => a
  | n + 1 => g (fo g a n) n
theorem fo_congr {α : Type} {g g' : α → Nat → α} {a : α} {n : Nat} (h : ∀ x k, k < n → g x k = g' x k) : fo g a n = fo g' a n := by
  induction n with
  | zero => rfl
  | succ n ih =>
    show g (fo g a n) n = g' (fo g' a n) n
    rw [ih (fun x k hk => h x k (by omega)), h _ n (by omega)]
/-- whether p holds of one below n -/
def orT (p : Nat → Bool) : Nat → Bool
  | 0 => false
  | n + 1 => orT p n || p n
theorem orT_iff {p : Nat → Bool} {n : Nat} : orT p n = true ↔ ∃ k, k < n ∧ p k = true := by
  induction n with
  | zero => exact ⟨fun h => (by cases h), fun ⟨k, h, _⟩ => (by omega)⟩
  | succ n ih =>
    unfold orT
    rw [Bool.or_eq_true, ih]
    constructor
    · rintro (⟨k, h1, h2⟩ | h)
      · exact ⟨k, by omega, h2⟩
      · exact ⟨n, by omega, h⟩
    · rintro ⟨k, h1, h2⟩
      by_cases e : k = n
      · subst e; exact Or.inr h2
      · exact Or.inl ⟨k, by omega, h2⟩
theorem orT_congr {p q : Nat → Bool} {n : Nat} (h : ∀ k, k < n → p k = q k) : orT p n = orT q n := by
  induction n with
  | zero => rfl
  | succ n ih =>
    unfold orT
    rw [ih (fun k hk => h k (by omega)), h n (by omega)]
theorem orT_false {p : Nat → Bool} {n : Nat} : orT p n = false ↔ ∀ k, k < n → p k = false := by
  constructor
  · intro h k hk
    by_cases q : p k = true
    · have := orT_iff.mpr ⟨k, hk, q⟩
      rw [h] at this; cases this
    · simpa using q
  · intro h
    by_cases q : orT p n = true
    · obtain ⟨k, h1, h2⟩ := orT_iff.mp q
      rw [h k h1] at h2; cases h2
    · simpa using q
/-- a Boolean as an int -/
def bI (b : Bool) : Int32 := if b then 1 else 0
theorem bI_0 {b : Bool} : bI b = 0 ↔ b = false := by cases b <;> simp [bI]
theorem bI_t : bI true = 1 := rfl
theorem bI_f : bI false = 0 := rfl
theorem z1_bI {b : Bool} : mxZ1 (bI b) = some (bI b) := by cases b <;> rfl
theorem z1_0 : mxZ1 0 = some 0 := rfl
theorem z1_1 : mxZ1 1 = some 1 := rfl
theorem bI_inj {a b : Bool} (h : bI a = bI b) : a = b := by
  cases a <;> cases b <;> first | rfl | (exfalso; revert h; decide)
theorem i32_lt {a b : Int32} : a < b ↔ a.toInt < b.toInt := Int32.lt_iff_toInt_lt
theorem i32_le {a b : Int32} : a ≤ b ↔ a.toInt ≤ b.toInt := Int32.le_iff_toInt_le
theorem i32_eq {a b : Int32} : a = b ↔ a.toInt = b.toInt := ⟨fun h => by rw [h], fun h => Int32.toInt_inj.mp h⟩
/-- a number of a half-open range from 0 -/
def inN (p : Int32) (n : Nat) : Bool := decide (¬ p < 0) && decide (p < Int32.ofNat n)
theorem inN_of {p : Int32} {n : Nat} (hn : n < 2147483648) (h : inN p n = true) : ∃ k, k < n ∧ p = Int32.ofNat k := by
  simp only [inN, Bool.and_eq_true, decide_eq_true_eq] at h
  exact ofN_of hn h.1 h.2
theorem inN_ofN {k n : Nat} (hk : k < 2147483648) (hn : n < 2147483648) : inN (Int32.ofNat k) n = decide (k < n) := by
  unfold inN
  rw [show (decide ¬ Int32.ofNat k < 0) = true from decide_eq_true (ofN_nn hk)]
  simp only [Bool.true_and]
  by_cases h : k < n
  · rw [decide_eq_true h, decide_eq_true ((ofN_lt hk hn).mpr h)]
  · rw [decide_eq_false h, decide_eq_false (fun q => h ((ofN_lt hk hn).mp q))]
theorem inN_neg {n : Nat} : inN (-1) n = false := by
  unfold inN
  rw [show (decide ¬ ((-1 : Int32) < 0)) = false by decide]
  rfl
theorem isRow_eq (p : Int32) (h : mxH) : fX9_isRow p h = some (bI (inN p 5)) := by
  unfold fX9_isRow inN
  by_cases h0 : p < 0
  · simp [h0, bI, mxZ1]
  · by_cases h5 : (5 : Int32) ≤ p
    · have : ¬ p < Int32.ofNat 5 := fun q => by
        have a := i32_lt.mp q; have b := i32_le.mp h5
        have : (Int32.ofNat 5) = (5 : Int32) := rfl
        rw [this] at a; omega
      simp [h0, h5, this, bI, mxZ1]
    · have : p < Int32.ofNat 5 := by
        have : (Int32.ofNat 5) = (5 : Int32) := rfl
        rw [this]
        exact Int32.not_le.mp h5
      simp [h0, h5, this, bI, mxZ1]
theorem isThing_eq (p : Int32) (h : mxH) : fX9_isThing p h = some (bI (inN p 20)) := by
  unfold fX9_isThing inN
  by_cases h0 : p < 0
  · simp [h0, bI, mxZ1]
  · by_cases h5 : (20 : Int32) ≤ p
    · have : ¬ p < Int32.ofNat 20 := fun q => by
        have a := i32_lt.mp q; have b := i32_le.mp h5
        have : (Int32.ofNat 20) = (20 : Int32) := rfl
        rw [this] at a; omega
      simp [h0, h5, this, bI, mxZ1]
    · have : p < Int32.ofNat 20 := by
        have : (Int32.ofNat 20) = (20 : Int32) := rfl
        rw [this]
        exact Int32.not_le.mp h5
      simp [h0, h5, this, bI, mxZ1]
theorem isRow_k {k : Nat} (hk : k < 5) (h : mxH) : fX9_isRow (Int32.ofNat k) h = some 1 := by
  rw [isRow_eq, inN_ofN (by omega) (by decide), decide_eq_true hk]; rfl
theorem isThing_k {k : Nat} (hk : k < 20) (h : mxH) : fX9_isThing (Int32.ofNat k) h = some 1 := by
  rw [isThing_eq, inN_ofN (by omega) (by decide), decide_eq_true hk]; rfl
theorem isRow_m (h : mxH) : fX9_isRow (-1) h = some 0 := by rw [isRow_eq, inN_neg]; rfl
theorem isThing_m (h : mxH) : fX9_isThing (-1) h = some 0 := by rw [isThing_eq, inN_neg]; rfl
theorem bindT {α : Type} {c : Prop} [Decidable c] {β : Type} {a b : Option α} {f : α → Option β} : Option.bind (if c then a else b) f = if c then Option.bind a f else Option.bind b f := by
  split <;> rfl
theorem nle {a b : Nat} (h : b < a) (ha : a < 2147483648 := by decide) : ¬ Int32.ofNat a ≤ Int32.ofNat b := fun q => by
  have := (ofN_le ha (by omega)).mp q; omega
theorem yle {a : Nat} : Int32.ofNat a ≤ Int32.ofNat a := Int32.le_refl _
