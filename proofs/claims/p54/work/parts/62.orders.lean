/-! THE PURE SIDE, 13: ranks in a strict order, sorted rows, insertion -/
theorem cnt_inj {n : Nat} {p : Nat → Bool} {m : Nat} {f : Nat → Nat} : ∀ {q : Nat → Bool}, (∀ i, i < n → p i = true → f i < m ∧ q (f i) = true) → (∀ i j, i < n → j < n → p i = true → p j = true → f i = f j → i = j) → cnt p n ≤ cnt q m := by
  induction n with
  | zero => intro q _ _; exact Nat.zero_le _
  | succ n ih =>
    intro q h1 h2
    by_cases hp : p n = true
    · obtain ⟨g1, g2⟩ := h1 n (by omega) hp
      rw [cnt_t hp, cnt_out g1 g2]
      have := ih (q := fun j => q j && !(j == f n)) (fun i hi hpi => by
        obtain ⟨k1, k2⟩ := h1 i (by omega) hpi
        refine ⟨k1, ?_⟩
        have : f i ≠ f n := fun e => by have := h2 i n (by omega) (by omega) hpi hp e; omega
        simp [k2, this]) (fun i j hi hj => h2 i j (by omega) (by omega))
      omega
    · rw [cnt_f (by simpa using hp)]
      exact ih (fun i hi => h1 i (by omega)) (fun i j hi hj => h2 i j (by omega) (by omega))
/-- a strict order in which any two differ -/
def STO (lt : Nat → Nat → Bool) (N : Nat) : Prop := (∀ a, a < N → lt a a = false) ∧ (∀ a b c, a < N → b < N → c < N → lt a b = true → lt b c = true → lt a c = true) ∧ (∀ a b, a < N → b < N → a ≠ b → lt a b = true ∨ lt b a = true)
def rkL (lt : Nat → Nat → Bool) (P : Nat → Bool) (N t : Nat) : Nat := cnt (fun s => P s && lt s t) N
def nrL (lt : Nat → Nat → Bool) (P : Nat → Bool) (N j : Nat) : Nat := fst1 (fun t => P t && (rkL lt P N t == j)) N
theorem bef_STO (f : Nat → Int32) (N : Nat) : STO (bef f) N := ⟨fun a _ => bef_irr f a, fun _ _ _ _ _ _ h1 h2 => bef_trans h1 h2, fun _ _ _ _ h => bef_total h⟩
theorem STO.asym {lt : Nat → Nat → Bool} {N a b : Nat} (S : STO lt N) (ha : a < N) (hb : b < N) (h : lt a b = true) : lt b a = false := by
  by_cases q : lt b a = true
  · have := S.2.1 a b a ha hb ha h q
    rw [S.1 a ha] at this; cases this
  · simpa using q
theorem rkL_lt {lt : Nat → Nat → Bool} {P : Nat → Bool} {N s t : Nat} (S : STO lt N) (hs : s < N) (ht : t < N) (ps : P s = true) (h : lt s t = true) : rkL lt P N s < rkL lt P N t := by
  refine cnt_lt (fun k hk q => ?_) hs ?_ ?_
  · simp only [Bool.and_eq_true] at q ⊢
    exact ⟨q.1, S.2.1 k s t hk hs ht q.2 h⟩
  · simp [S.1 s hs]
  · simp [ps, h]
theorem rkL_cnt {lt : Nat → Nat → Bool} {P : Nat → Bool} {N t : Nat} (S : STO lt N) (ht : t < N) (pt : P t = true) : rkL lt P N t < cnt P N := by
  refine cnt_lt (fun k hk q => ?_) ht ?_ pt
  · simp only [Bool.and_eq_true] at q
    exact q.1
  · simp [S.1 t ht]
theorem rkL_inj {lt : Nat → Nat → Bool} {P : Nat → Bool} {N s t : Nat} (S : STO lt N) (hs : s < N) (ht : t < N) (ps : P s = true) (pt : P t = true) (e : rkL lt P N s = rkL lt P N t) : s = t := by
  by_cases q : s = t
  · exact q
  · rcases S.2.2 s t hs ht q with h | h
    · have := rkL_lt S hs ht ps h; omega
    · have := rkL_lt S ht hs pt h; omega
theorem nrL_spec {lt : Nat → Nat → Bool} {P : Nat → Bool} {N j : Nat} (S : STO lt N) (hj : j < cnt P N) : nrL lt P N j < N ∧ P (nrL lt P N j) = true ∧ rkL lt P N (nrL lt P N j) = j := by
  obtain ⟨t, h1, h2, h3⟩ := pigeon_onto (p := P) (n := N) (f := rkL lt P N) (fun t ht q => rkL_cnt S ht q) (fun s t hs ht ps pt e => rkL_inj S hs ht ps pt e) hj
  have hf := fst1_found (p := fun t => P t && (rkL lt P N t == j)) h1 (by simp [h2, h3])
  have := (fst1_spec (fun t => P t && (rkL lt P N t == j)) N).2 hf
  simp only [Bool.and_eq_true, beq_iff_eq] at this
  exact ⟨hf, this.1, this.2⟩
theorem nrL_of {lt : Nat → Nat → Bool} {P : Nat → Bool} {N t : Nat} (S : STO lt N) (ht : t < N) (pt : P t = true) : nrL lt P N (rkL lt P N t) = t := by
  obtain ⟨h1, h2, h3⟩ := nrL_spec S (rkL_cnt S ht pt)
  exact rkL_inj S h1 ht h2 pt h3
theorem nrL_lt {lt : Nat → Nat → Bool} {P : Nat → Bool} {N i j : Nat} (S : STO lt N) (hij : i < j) (hj : j < cnt P N) : lt (nrL lt P N i) (nrL lt P N j) = true := by
  obtain ⟨a1, a2, a3⟩ := nrL_spec S (show i < cnt P N by omega)
  obtain ⟨b1, b2, b3⟩ := nrL_spec S hj
  have hne : nrL lt P N i ≠ nrL lt P N j := fun e => by rw [e] at a3; omega
  rcases S.2.2 _ _ a1 b1 hne with h | h
  · exact h
  · have := rkL_lt S b1 a1 b2 h; omega
/-- the m first of e are P's, in order -/
def SE (lt : Nat → Nat → Bool) (P : Nat → Bool) (N m : Nat) (e : Nat → Nat) : Prop := (∀ j, j < m → e j < N ∧ P (e j) = true) ∧ (∀ i j, i < j → j < m → lt (e i) (e j) = true) ∧ (∀ s, s < N → P s = true → ∃ j, j < m ∧ e j = s)
theorem SE_inj {lt : Nat → Nat → Bool} {P : Nat → Bool} {N m i j : Nat} {e : Nat → Nat} (S : STO lt N) (E : SE lt P N m e) (hi : i < m) (hj : j < m) (h : e i = e j) : i = j := by
  by_cases q : i = j
  · exact q
  · by_cases c : i < j
    · have := E.2.1 i j c hj; rw [h, S.1 _ (E.1 j hj).1] at this; cases this
    · have := E.2.1 j i (by omega) hi; rw [h, S.1 _ (E.1 j hj).1] at this; cases this
theorem SE_rank {lt : Nat → Nat → Bool} {P : Nat → Bool} {N m j : Nat} {e : Nat → Nat} (S : STO lt N) (E : SE lt P N m e) (hj : j < m) : rkL lt P N (e j) = j := by
  have up : cnt (fun _ => true) j ≤ rkL lt P N (e j) := cnt_inj (f := e) (fun i hi _ => ⟨(E.1 i (by omega)).1, by simp [(E.1 i (by omega)).2, E.2.1 i j hi hj]⟩) (fun a b ha hb _ _ h => SE_inj S E (by omega) (by omega) h)
  have all : ∀ n, cnt (fun _ => true) n = n := fun n => by
    induction n with
    | zero => rfl
    | succ n ih => rw [cnt_t rfl, ih]
  have dn : rkL lt P N (e j) ≤ j := by
    refine pigeon (p := fun s => P s && lt s (e j)) (n := N) (f := fun s => fst1 (fun i => e i == s) m) j _ (fun s hs q => ?_) (fun s t hs ht ps pt h => ?_)
    · simp only [Bool.and_eq_true] at q
      obtain ⟨i, hi, he⟩ := E.2.2 s hs q.1
      have hf := fst1_found (p := fun i => e i == s) hi (by simp [he])
      have h2 := (fst1_spec (fun i => e i == s) m).2 hf
      simp only [beq_iff_eq] at h2
      show fst1 (fun i => e i == s) m < j
      generalize fst1 (fun i => e i == s) m = k at hf h2
      by_cases c : k < j
      · exact c
      · exfalso
        by_cases c2 : k = j
        · subst c2; rw [h2, S.1 s hs] at q; cases q.2
        · have h4 := E.2.1 j k (by omega) hf
          rw [h2] at h4
          have h5 := S.asym (E.1 j hj).1 hs h4
          rw [q.2] at h5; cases h5
    · simp only [Bool.and_eq_true] at ps pt
      have key : ∀ u, u < N → P u = true → e (fst1 (fun i => e i == u) m) = u := fun u hu q => by
        obtain ⟨i, hi, he⟩ := E.2.2 u hu q
        have hf := fst1_found (p := fun i => e i == u) hi (by simp [he])
        have h2 := (fst1_spec (fun i => e i == u) m).2 hf
        simpa using h2
      have h : fst1 (fun i => e i == s) m = fst1 (fun i => e i == t) m := h
      rw [← key s hs ps.1, h, key t ht pt.1]
  rw [all] at up
  omega
theorem SE_cnt {lt : Nat → Nat → Bool} {P : Nat → Bool} {N m : Nat} {e : Nat → Nat} (S : STO lt N) (E : SE lt P N m e) : m = cnt P N := by
  have up : cnt (fun _ => true) m ≤ cnt P N := cnt_inj (f := e) (fun i hi _ => ⟨(E.1 i hi).1, (E.1 i hi).2⟩) (fun a b ha hb _ _ h => SE_inj S E ha hb h)
  have all : ∀ n, cnt (fun _ => true) n = n := fun n => by
    induction n with
    | zero => rfl
    | succ n ih => rw [cnt_t rfl, ih]
  rw [all] at up
  have dn : cnt P N ≤ m := by
    refine pigeon (p := P) (n := N) (f := rkL lt P N) m _ (fun s hs q => ?_) (fun s t hs ht ps pt h => rkL_inj S hs ht ps pt h)
    obtain ⟨i, hi, he⟩ := E.2.2 s hs q
    rw [← he, SE_rank S E hi]; exact hi
  omega
theorem SE_nr {lt : Nat → Nat → Bool} {P : Nat → Bool} {N m j : Nat} {e : Nat → Nat} (S : STO lt N) (E : SE lt P N m e) (hj : j < m) : e j = nrL lt P N j := by
  have h := nrL_of S (E.1 j hj).1 (E.1 j hj).2
  rw [SE_rank S E hj] at h
  exact h.symm
/-- one more is put in -/
theorem SE_ins {lt : Nat → Nat → Bool} {P : Nat → Bool} {N m x pos : Nat} {e : Nat → Nat} (S : STO lt N) (E : SE lt P N m e) (hx : x < N) (px : P x = false) (hp : pos ≤ m) (h1 : ∀ j, pos ≤ j → j < m → lt x (e j) = true) (h2 : pos = 0 ∨ lt x (e (pos - 1)) = false) :
    SE lt (fun s => P s || s == x) N (m + 1) (fun j => if j < pos then e j else if j = pos then x else e (j - 1)) := by
  have hne : ∀ j, j < m → e j ≠ x := fun j hj q => by have := (E.1 j hj).2; rw [q, px] at this; cases this
  have h3 : ∀ j, j < pos → lt (e j) x = true := fun j hj => by
    rcases h2 with h2 | h2
    · omega
    · have hq : lt (e (pos - 1)) x = true := (S.2.2 _ _ (E.1 (pos - 1) (by omega)).1 hx (hne _ (by omega))).resolve_right (by rw [h2]; decide)
      by_cases c : j = pos - 1
      · subst c; exact hq
      · exact S.2.1 _ _ _ (E.1 j (by omega)).1 (E.1 (pos - 1) (by omega)).1 hx (E.2.1 j (pos - 1) (by omega) (by omega)) hq
  refine ⟨fun j hj => ?_, fun i j hij hj => ?_, fun s hs q => ?_⟩
  · show (if j < pos then e j else if j = pos then x else e (j - 1)) < N ∧ (P (if j < pos then e j else if j = pos then x else e (j - 1)) || (if j < pos then e j else if j = pos then x else e (j - 1)) == x) = true
    by_cases c1 : j < pos
    · rw [if_pos c1]; exact ⟨(E.1 j (by omega)).1, by simp [(E.1 j (by omega)).2]⟩
    · rw [if_neg c1]
      by_cases c2 : j = pos
      · rw [if_pos c2]; exact ⟨hx, by simp⟩
      · rw [if_neg c2]; exact ⟨(E.1 (j - 1) (by omega)).1, by simp [(E.1 (j - 1) (by omega)).2]⟩
  · show lt (if i < pos then e i else if i = pos then x else e (i - 1)) (if j < pos then e j else if j = pos then x else e (j - 1)) = true
    by_cases c1 : j < pos
    · rw [if_pos c1, if_pos (by omega)]; exact E.2.1 i j hij (by omega)
    · rw [if_neg c1]
      by_cases c2 : j = pos
      · rw [if_pos c2, if_pos (by omega)]; exact h3 i (by omega)
      · rw [if_neg c2]
        by_cases c3 : i < pos
        · rw [if_pos c3]; exact E.2.1 i (j - 1) (by omega) (by omega)
        · rw [if_neg c3]
          by_cases c4 : i = pos
          · rw [if_pos c4]; exact h1 (j - 1) (by omega) (by omega)
          · rw [if_neg c4]; exact E.2.1 (i - 1) (j - 1) (by omega) (by omega)
  · simp only [Bool.or_eq_true, beq_iff_eq] at q
    rcases q with q | q
    · obtain ⟨j, hj, he⟩ := E.2.2 s hs q
      by_cases c : j < pos
      · exact ⟨j, by omega, by show (if j < pos then _ else _) = _; rw [if_pos c]; exact he⟩
      · refine ⟨j + 1, by omega, ?_⟩
        show (if j + 1 < pos then _ else if j + 1 = pos then _ else e (j + 1 - 1)) = _
        rw [if_neg (by omega), if_neg (by omega)]
        exact he
    · exact ⟨pos, by omega, by show (if pos < pos then _ else if pos = pos then _ else _) = _; rw [if_neg (by omega), if_pos rfl]; exact q.symm⟩
theorem SE_congr {lt : Nat → Nat → Bool} {P Q : Nat → Bool} {N m : Nat} {e : Nat → Nat} (E : SE lt P N m e) (h : ∀ s, s < N → P s = Q s) : SE lt Q N m e :=
  ⟨fun j hj => ⟨(E.1 j hj).1, by rw [← h _ (E.1 j hj).1]; exact (E.1 j hj).2⟩, E.2.1, fun s hs q => E.2.2 s hs (by rw [h s hs]; exact q)⟩
theorem SE_nil {lt : Nat → Nat → Bool} {N : Nat} {e : Nat → Nat} {P : Nat → Bool} (h : ∀ s, s < N → P s = false) : SE lt P N 0 e :=
  ⟨fun j hj => by omega, fun i j _ hj => by omega, fun s hs q => by rw [h s hs] at q; cases q⟩
theorem SE_of {lt : Nat → Nat → Bool} {P : Nat → Bool} {N : Nat} (S : STO lt N) : SE lt P N (cnt P N) (nrL lt P N) :=
  ⟨fun j hj => ⟨(nrL_spec S hj).1, (nrL_spec S hj).2.1⟩, fun i j hij hj => nrL_lt S hij hj, fun s hs q => ⟨rkL lt P N s, rkL_cnt S hs q, nrL_of S hs q⟩⟩
theorem rkL_congr {lt lt' : Nat → Nat → Bool} {P P' : Nat → Bool} {N t : Nat} (h : ∀ s, s < N → (P s && lt s t) = (P' s && lt' s t)) : rkL lt P N t = rkL lt' P' N t := cnt_congr h
/-! loops that look for the q-th -/
theorem nth_loop {f : Int32 × Int32 → Option ((Int32 × Int32) ⊕ (Int32 ⊕ Unit))} (p : Nat → Bool) (out : Nat → Int32) (N q : Nat)
    (no : ∀ k c, k < N → c ≤ k → p k = false → f (Int32.ofNat c, Int32.ofNat k) = some (.inl (Int32.ofNat c, Int32.ofNat (k + 1))))
    (yes : ∀ k c, k < N → c ≤ k → p k = true → c ≠ q → f (Int32.ofNat c, Int32.ofNat k) = some (.inl (Int32.ofNat (c + 1), Int32.ofNat (k + 1))))
    (hit : ∀ k, k < N → p k = true → q ≤ k → f (Int32.ofNat q, Int32.ofNat k) = some (.inr (.inl (out k))))
    (last : ∀ c, f (Int32.ofNat c, Int32.ofNat N) = some (.inr (.inr ()))) (hN : N < mxF := by decide) :
    mxLoop f mxF (0, 0) = some (if nth p q N < N then .inl (out (nth p q N)) else .inr ()) := by
  unfold nth
  have hl := fst1_le (fun t => p t && (cnt p t == q)) N
  have hs := fst1_spec (fun t => p t && (cnt p t == q)) N
  refine mxLoop_find (S := fun k => (Int32.ofNat (cnt p k), Int32.ofNat k)) (K := fst1 (fun t => p t && (cnt p t == q)) N) (fun k hk => ?_) ?_ (Nat.lt_of_le_of_lt hl hN)
  · have hp := hs.1 k hk
    by_cases e : p k = true
    · simp only [e, Bool.true_and, beq_eq_false_iff_ne] at hp
      show f (Int32.ofNat (cnt p k), Int32.ofNat k) = some (.inl (Int32.ofNat (cnt p (k + 1)), Int32.ofNat (k + 1)))
      rw [cnt_t e]; exact yes k _ (by omega) (cnt_le p k) e hp
    · have e : p k = false := by simpa using e
      show f (Int32.ofNat (cnt p k), Int32.ofNat k) = some (.inl (Int32.ofNat (cnt p (k + 1)), Int32.ofNat (k + 1)))
      rw [cnt_f e]; exact no k _ (by omega) (cnt_le p k) e
  · by_cases c : fst1 (fun t => p t && (cnt p t == q)) N < N
    · have hp := hs.2 c
      simp only [Bool.and_eq_true, beq_iff_eq] at hp
      rw [if_pos c]
      have hc := cnt_le p (fst1 (fun t => p t && (cnt p t == q)) N)
      have h5 := hit _ c hp.1 (by omega)
      generalize hK : fst1 (fun t => p t && (cnt p t == q)) N = K at hp h5
      rw [← hp.2] at h5
      exact h5
    · rw [if_neg c]
      have e : fst1 (fun t => p t && (cnt p t == q)) N = N := by omega
      show f (Int32.ofNat (cnt p (fst1 (fun t => p t && (cnt p t == q)) N)), Int32.ofNat (fst1 (fun t => p t && (cnt p t == q)) N)) = _
      rw [e]
      exact last _
theorem nth_found {p : Nat → Bool} {q N : Nat} (h : q < cnt p N) : nth p q N < N ∧ p (nth p q N) = true ∧ cnt p (nth p q N) = q := by
  have : ∃ k, k < N ∧ p k = true ∧ cnt p k = q := by
    induction N with
    | zero => exact absurd h (Nat.not_lt_zero _)
    | succ N ih =>
      by_cases c : q < cnt p N
      · obtain ⟨k, h1, h2, h3⟩ := ih c
        exact ⟨k, by omega, h2, h3⟩
      · by_cases e : p N = true
        · rw [cnt_t e] at h
          exact ⟨N, by omega, e, by omega⟩
        · rw [cnt_f (by simpa using e)] at h; omega
  obtain ⟨k, h1, h2, h3⟩ := this
  have hf := fst1_found (p := fun t => p t && (cnt p t == q)) h1 (by simp [h2, h3])
  have := (fst1_spec (fun t => p t && (cnt p t == q)) N).2 hf
  simp only [Bool.and_eq_true, beq_iff_eq] at this
  exact ⟨hf, this.1, this.2⟩
theorem cnt_lt_of {p : Nat → Bool} {k l : Nat} (h : k < l) (hp : p k = true) : cnt p k < cnt p l := by
  induction l with
  | zero => omega
  | succ l ih =>
    by_cases c : k = l
    · subst c; rw [cnt_t hp]; omega
    · have := ih (by omega)
      show cnt p k < cnt p l + _
      omega
theorem nth_none {p : Nat → Bool} {q N : Nat} (h : ¬ q < cnt p N) : ¬ nth p q N < N := fun c => by
  have := (fst1_spec (fun t => p t && (cnt p t == q)) N).2 c
  simp only [Bool.and_eq_true, beq_iff_eq] at this
  have h2 := cnt_lt_of (p := p) (k := nth p q N) (l := N) c this.1
  have h3 : cnt p (nth p q N) = q := this.2
  omega
