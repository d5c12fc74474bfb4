/-! THE PURE SIDE, 1: rows of numbers as functions, counts, loops -/
def tab (n : Nat) (f : Nat → Int32) : List Int32 := (List.range n).map f
theorem tab_len (n : Nat) (f : Nat → Int32) : (tab n f).length = n := by simp [tab]
theorem tab_get {n : Nat} {f : Nat → Int32} {k : Nat} (h : k < n) : (tab n f)[k]? = some (f k) := by
  simp [tab, h]
def fup (f : Nat → Int32) (k : Nat) (x : Int32) : Nat → Int32 := fun j => if j = k then x else f j
theorem fup_eq (f : Nat → Int32) (k : Nat) (x : Int32) : fup f k x k = x := if_pos rfl
theorem fup_ne {f : Nat → Int32} {k j : Nat} {x : Int32} (h : j ≠ k) : fup f k x j = f j := if_neg h
theorem tab_set {n : Nat} {f : Nat → Int32} {k : Nat} {x : Int32} : (tab n f).set k x = tab n (fup f k x) := by
  apply List.ext_getElem?
  intro i
  by_cases hi : i < n
  · rw [tab_get hi]
    by_cases e : k = i
    · subst e
      rw [List.getElem?_set_self (by rw [tab_len]; exact hi), fup_eq]
    · rw [List.getElem?_set_ne e, tab_get hi, fup_ne (fun q => e q.symm)]
  · rw [List.getElem?_eq_none (by rw [List.length_set, tab_len]; omega), List.getElem?_eq_none (by rw [tab_len]; omega)]
theorem tab_rep (n : Nat) (x : Int32) : List.replicate n x = tab n (fun _ => x) := by
  apply List.ext_getElem?
  intro i
  by_cases hi : i < n
  · rw [tab_get hi]; simp [hi]
  · rw [List.getElem?_eq_none (by simp; omega), List.getElem?_eq_none (by rw [tab_len]; omega)]
theorem tab_ext {n : Nat} {f g : Nat → Int32} (h : ∀ k, k < n → f k = g k) : tab n f = tab n g := by
  unfold tab
  apply List.map_congr_left
  intro k hk
  exact h k (List.mem_range.mp hk)
theorem tab_inj {n : Nat} {f g : Nat → Int32} (h : tab n f = tab n g) : ∀ k, k < n → f k = g k := by
  intro k hk
  have := congrArg (fun l => l[k]?) h
  simp only [tab_get hk] at this
  exact Option.some.inj this
/-- any list is one -/
theorem tab_of {xs : List Int32} {n : Nat} (h : xs.length = n) : xs = tab n (fun k => xs.getD k 0) := by
  apply List.ext_getElem?
  intro i
  by_cases hi : i < n
  · rw [tab_get hi]
    simp [List.getD_eq_getElem?_getD, h, hi]
  · rw [List.getElem?_eq_none (by omega), List.getElem?_eq_none (by rw [tab_len]; omega)]
/-! numbers -/
theorem i0 : (0 : Int32) = Int32.ofNat 0 := rfl
theorem ofN_add (a b : Nat) : Int32.ofNat a + Int32.ofNat b = Int32.ofNat (a + b) := (Int32.ofNat_add a b).symm
theorem ofN_succ (a : Nat) : Int32.ofNat a + 1 = Int32.ofNat (a + 1) := i32_ofNat_add_one a
theorem ofN_clamp {k : Nat} (h : k < 2147483648) : (Int32.ofNat k).toNatClampNeg = k := Int32.toNatClampNeg_ofNat_of_lt h
theorem ofN_int {k : Nat} (h : k < 2147483648) : (Int32.ofNat k).toInt = (k : Int) := Int32.toInt_ofNat_small h
theorem ofN_nn {k : Nat} (h : k < 2147483648) : ¬ Int32.ofNat k < 0 := Int32.ofNat_not_neg h
theorem ofN_le {a b : Nat} (ha : a < 2147483648) (hb : b < 2147483648) : Int32.ofNat a ≤ Int32.ofNat b ↔ a ≤ b := by
  rw [Int32.le_iff_toInt_le, ofN_int ha, ofN_int hb]; omega
theorem ofN_lt {a b : Nat} (ha : a < 2147483648) (hb : b < 2147483648) : Int32.ofNat a < Int32.ofNat b ↔ a < b := by
  rw [Int32.lt_iff_toInt_lt, ofN_int ha, ofN_int hb]; omega
theorem ofN_inj {a b : Nat} (ha : a < 2147483648) (hb : b < 2147483648) (h : Int32.ofNat a = Int32.ofNat b) : a = b := by
  have := congrArg Int32.toInt h
  rw [ofN_int ha, ofN_int hb] at this
  omega
theorem ofN_eq {a b : Nat} (ha : a < 2147483648) (hb : b < 2147483648) : Int32.ofNat a = Int32.ofNat b ↔ a = b := ⟨ofN_inj ha hb, fun h => by rw [h]⟩
/-- a number from 0 to below n is one of Nat -/
theorem ofN_of {x : Int32} {n : Nat} (hn : n < 2147483648) (h0 : ¬ x < 0) (h1 : x < Int32.ofNat n) : ∃ k, k < n ∧ x = Int32.ofNat k := by
  have e0 : (0 : Int) ≤ x.toInt := by
    have := Int32.not_lt.mp h0
    simpa using Int32.le_iff_toInt_le.mp this
  have e1 : x.toInt < n := by
    have := Int32.lt_iff_toInt_lt.mp h1
    rwa [ofN_int hn] at this
  refine ⟨x.toInt.toNat, by omega, ?_⟩
  have e2 : x = Int32.ofInt x.toInt := (Int32.ofInt_toInt x).symm
  have e3 : x.toInt = ((x.toInt.toNat : Nat) : Int) := by omega
  rw [e3] at e2
  exact e2
/-! counts -/
def cnt (p : Nat → Bool) : Nat → Nat
  | 0 => 0
  | n + 1 => cnt p n + if p n then 1 else 0
theorem cnt_le (p : Nat → Bool) (n : Nat) : cnt p n ≤ n := by
  induction n with
  | zero => exact Nat.le_refl _
  | succ n ih => unfold cnt; split <;> omega
theorem cnt_congr {p q : Nat → Bool} {n : Nat} (h : ∀ k, k < n → p k = q k) : cnt p n = cnt q n := by
  induction n with
  | zero => rfl
  | succ n ih =>
    unfold cnt
    rw [ih (fun k hk => h k (by omega)), h n (by omega)]
theorem cnt_mono {p q : Nat → Bool} {n : Nat} (h : ∀ k, k < n → p k = true → q k = true) : cnt p n ≤ cnt q n := by
  induction n with
  | zero => exact Nat.le_refl _
  | succ n ih =>
    unfold cnt
    have h1 := ih (fun k hk => h k (by omega))
    have h2 := h n (by omega)
    by_cases hp : p n = true
    · rw [if_pos hp, if_pos (h2 hp)]; omega
    · rw [if_neg hp]; omega
theorem cnt_lt {p q : Nat → Bool} {n : Nat} (h : ∀ k, k < n → p k = true → q k = true) {k : Nat} (hk : k < n) (h1 : p k = false) (h2 : q k = true) : cnt p n < cnt q n := by
  induction n with
  | zero => omega
  | succ n ih =>
    unfold cnt
    by_cases e : k = n
    · subst e
      have := cnt_mono (p := p) (q := q) (n := k) (fun j hj => h j (by omega))
      rw [if_neg (by rw [h1]; decide), if_pos h2]; omega
    · have h3 := ih (fun j hj => h j (by omega)) (by omega)
      have h4 := h n (by omega)
      by_cases hp : p n = true
      · rw [if_pos hp, if_pos (h4 hp)]; omega
      · rw [if_neg hp]; omega
theorem cnt_pos {p : Nat → Bool} {n k : Nat} (hk : k < n) (h : p k = true) : 0 < cnt p n := by
  have := cnt_lt (p := fun _ => false) (q := p) (n := n) (fun _ _ q => by cases q) hk rfl h
  omega
theorem cnt_zero {p : Nat → Bool} {n : Nat} (h : cnt p n = 0) : ∀ k, k < n → p k = false := by
  intro k hk
  by_cases hp : p k = true
  · have := cnt_pos hk hp; omega
  · simpa using hp
/-- one taken out -/
theorem cnt_out {p : Nat → Bool} {n k : Nat} (hk : k < n) (h : p k = true) : cnt p n = cnt (fun j => p j && !(j == k)) n + 1 := by
  induction n with
  | zero => omega
  | succ n ih =>
    unfold cnt
    by_cases e : k = n
    · subst e
      have : cnt (fun j => p j && !(j == k)) k = cnt p k := cnt_congr (fun j hj => by
        have : (j == k) = false := by simpa using (show j ≠ k by omega)
        simp [this])
      rw [this]
      simp [h]
    · have h3 := ih (by omega)
      have : (n == k) = false := by simpa using (show n ≠ k by omega)
      rw [h3]
      simp only [this, Bool.not_false, Bool.and_true]
      omega
/-- no more than there are values -/
theorem pigeon {p : Nat → Bool} {n : Nat} {f : Nat → Nat} : ∀ (k : Nat) (p : Nat → Bool), (∀ t, t < n → p t = true → f t < k) → (∀ s t, s < n → t < n → p s = true → p t = true → f s = f t → s = t) → cnt p n ≤ k := by
  intro k
  induction k with
  | zero =>
    intro p h _
    have : cnt p n = cnt (fun _ => false) n := cnt_congr (fun t ht => by
      by_cases hp : p t = true
      · exact absurd (h t ht hp) (by omega)
      · simpa using hp)
    rw [this]
    have : ∀ m, cnt (fun _ => false) m = 0 := by
      intro m
      induction m with
      | zero => rfl
      | succ m ih => unfold cnt; rw [ih]; simp
    rw [this]
    exact Nat.le_refl _
  | succ k ih =>
    intro p h hinj
    by_cases hx : ∃ t, t < n ∧ p t = true ∧ f t = k
    · obtain ⟨t0, h1, h2, h3⟩ := hx
      rw [cnt_out h1 h2]
      have := ih (fun j => p j && !(j == t0)) (fun t ht hp => by
        simp only [Bool.and_eq_true, Bool.not_eq_true', beq_eq_false_iff_ne] at hp
        have h5 := h t ht hp.1
        have h6 : f t ≠ k := fun e => hp.2 (hinj t t0 ht h1 hp.1 h2 (e.trans h3.symm))
        omega) (fun s t hs ht hps hpt => hinj s t hs ht (by simp only [Bool.and_eq_true] at hps; exact hps.1) (by simp only [Bool.and_eq_true] at hpt; exact hpt.1))
      omega
    · have := ih p (fun t ht hp => by
        have h5 := h t ht hp
        have h6 : f t ≠ k := fun e => hx ⟨t, ht, hp, e⟩
        omega) hinj
      omega
/-- as many as there are values: each is taken -/
theorem pigeon_onto {p : Nat → Bool} {n : Nat} {f : Nat → Nat} (h : ∀ t, t < n → p t = true → f t < cnt p n) (hinj : ∀ s t, s < n → t < n → p s = true → p t = true → f s = f t → s = t) {v : Nat} (hv : v < cnt p n) : ∃ t, t < n ∧ p t = true ∧ f t = v := by
  by_cases hx : ∃ t, t < n ∧ p t = true ∧ f t = v
  · exact hx
  · exfalso
    have := pigeon (p := p) (n := n) (f := fun t => if f t = cnt p n - 1 then v else f t) (cnt p n - 1) p (fun t ht hp => by
      have h5 := h t ht hp
      have h6 : f t ≠ v := fun e => hx ⟨t, ht, hp, e⟩
      show (if f t = cnt p n - 1 then v else f t) < _
      split
      · rename_i e
        have : v ≠ cnt p n - 1 := fun q => h6 (e.trans q.symm)
        omega
      · omega) (fun s t hs ht hps hpt e => by
      have e : (if f s = cnt p n - 1 then v else f s) = (if f t = cnt p n - 1 then v else f t) := e
      have v1 : f s ≠ v := fun q => hx ⟨s, hs, hps, q⟩
      have v2 : f t ≠ v := fun q => hx ⟨t, ht, hpt, q⟩
      split at e <;> split at e
      · rename_i a b; exact hinj s t hs ht hps hpt (a.trans b.symm)
      · exact absurd e.symm v2
      · exact absurd e v1
      · exact hinj s t hs ht hps hpt e)
    omega
/-! loops: a measure that falls; what the loop ends with -/
theorem mxLoop_run {σ ρ : Type} {f : σ → Option (σ ⊕ ρ)} {I : Nat → σ → Prop} {E : ρ → Prop} (step : ∀ k s, I k s → (∃ s', f s = some (.inl s') ∧ 0 < k ∧ I (k - 1) s') ∨ (∃ r, f s = some (.inr r) ∧ E r)) : ∀ (n k : Nat) (s : σ), k < n → I k s → ∃ r, mxLoop f n s = some r ∧ E r := by
  intro n
  induction n with
  | zero => intro k s h; omega
  | succ n ih =>
    intro k s hk hI
    unfold mxLoop
    rcases step k s hI with ⟨s', h1, h2, h3⟩ | ⟨r, h1, h2⟩
    · rw [h1]; exact ih (k - 1) s' (by omega) h3
    · rw [h1]; exact ⟨r, rfl, h2⟩
/-- a loop whose counter goes up to N: the state behind k turns is S k -/
theorem mxLoop_up {σ ρ : Type} {f : σ → Option (σ ⊕ ρ)} {S : Nat → σ} {N : Nat} {r : ρ} (step : ∀ k, k < N → f (S k) = some (.inl (S (k + 1)))) (last : f (S N) = some (.inr r)) (hN : N < mxF) : mxLoop f mxF (S 0) = some r := by
  obtain ⟨r', h1, h2⟩ := mxLoop_run (f := f) (I := fun k s => k ≤ N ∧ s = S (N - k)) (E := fun r' => r' = r) (fun k s hI => by
    obtain ⟨hk, rfl⟩ := hI
    by_cases h0 : k = 0
    · subst h0
      exact Or.inr ⟨r, last, rfl⟩
    · refine Or.inl ⟨S (N - k + 1), step (N - k) (by omega), by omega, by omega, ?_⟩
      rw [show N - (k - 1) = N - k + 1 by omega]) mxF N (S 0) hN ⟨Nat.le_refl _, by rw [Nat.sub_self]⟩
  rw [h1, h2]
/-- a search: turns k below K go on, at K it ends -/
theorem mxLoop_find {σ ρ : Type} {f : σ → Option (σ ⊕ ρ)} {S : Nat → σ} {K : Nat} {r : ρ} (step : ∀ k, k < K → f (S k) = some (.inl (S (k + 1)))) (last : f (S K) = some (.inr r)) (hN : K < mxF) : mxLoop f mxF (S 0) = some r := mxLoop_up step last hN
theorem mxF_lt {n : Nat} (h : n < 100000) : n < mxF := h
/-- the first of which p holds, or n -/
def fst1 (p : Nat → Bool) : Nat → Nat
  | 0 => 0
  | n + 1 => if fst1 p n < n then fst1 p n else if p n then n else n + 1
theorem fst1_le (p : Nat → Bool) (n : Nat) : fst1 p n ≤ n := by
  induction n with
  | zero => exact Nat.le_refl _
  | succ n ih =>
    unfold fst1
    split
    · omega
    · split <;> omega
theorem fst1_spec (p : Nat → Bool) (n : Nat) : (∀ k, k < fst1 p n → p k = false) ∧ (fst1 p n < n → p (fst1 p n) = true) := by
  induction n with
  | zero => exact ⟨fun k h => by simp [fst1] at h, fun h => by omega⟩
  | succ n ih =>
    unfold fst1
    have hle := fst1_le p n
    split
    · rename_i h
      exact ⟨ih.1, fun _ => ih.2 h⟩
    · rename_i h
      have e : fst1 p n = n := by omega
      rw [e] at ih
      split
      · rename_i h2
        exact ⟨ih.1, fun _ => h2⟩
      · rename_i h2
        refine ⟨fun k hk => ?_, fun h => by omega⟩
        by_cases hkn : k < n
        · exact ih.1 k hkn
        · rw [show k = n by omega]; simpa using h2
theorem fst1_found {p : Nat → Bool} {n k : Nat} (hk : k < n) (h : p k = true) : fst1 p n < n := by
  have hle := fst1_le p n
  have hs := fst1_spec p n
  by_cases h2 : fst1 p n < n
  · exact h2
  · have := hs.1 k (by omega)
    rw [h] at this
    cases this
