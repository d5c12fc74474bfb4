/-! THE PURE SIDE, 56: what a sort leaves -/
/-- the same numbers as often -/
def Prm (N : Nat) (f g : Nat → Int32) : Prop := ∀ p : Int32 → Bool, cnt (fun i => p (g i)) N = cnt (fun i => p (f i)) N
def Srt (N : Nat) (g : Nat → Int32) : Prop := ∀ i k, i < k → k < N → ¬ g k < g i
/-- only the row a is other, at most K cells came -/
def SX (a K : Nat) (h g : mxH) : Prop := h.2 ≤ g.2 ∧ g.2 ≤ h.2 + K ∧ (∀ b, b < h.2 → b ≠ a → g.1 b = h.1 b) ∧ ∀ b, g.2 ≤ b → g.1 b = h.1 b
theorem Prm.refl (N : Nat) (f : Nat → Int32) : Prm N f f := fun _ => rfl
theorem Prm.trans {N : Nat} {f g e : Nat → Int32} (a : Prm N f g) (b : Prm N g e) : Prm N f e := fun p => (b p).trans (a p)
theorem Prm.symm {N : Nat} {f g : Nat → Int32} (a : Prm N f g) : Prm N g f := fun p => (a p).symm
theorem Prm.congr {N : Nat} {f g e : Nat → Int32} (a : Prm N f g) (h : ∀ i, i < N → g i = e i) : Prm N f e := fun p => by
  rw [← a p]; exact cnt_congr (fun i hi => by rw [h i hi])
theorem SX.refl (a : Nat) (h : mxH) : SX a 0 h h := ⟨Nat.le_refl _, by omega, fun _ _ _ => rfl, fun _ _ => rfl⟩
theorem SX.trans {a K L : Nat} {h g e : mxH} (x : SX a K h g) (y : SX a L g e) : SX a (K + L) h e := by
  obtain ⟨x1, x2, x3, x4⟩ := x
  obtain ⟨y1, y2, y3, y4⟩ := y
  exact ⟨by omega, by omega, fun b b1 b2 => (y3 b (by omega) b2).trans (x3 b b1 b2), fun b b1 => (y4 b b1).trans (x4 b (by omega))⟩
theorem SX.le {a K L : Nat} {h g : mxH} (x : SX a K h g) (k : K ≤ L) : SX a L h g := ⟨x.1, by have := x.2.1; omega, x.2.2⟩
theorem SX.up {a K k : Nat} {x : Int32} {h g : mxH} (s : SX a K h g) (ha : a < h.2) : SX a K h (sA g a k x) := by
  obtain ⟨x1, x2, x3, x4⟩ := s
  refine ⟨x1, x2, fun b b1 b2 => by rw [sA_ne b2]; exact x3 b b1 b2, fun b b1 => ?_⟩
  have b1 : g.2 ≤ b := b1
  rw [sA_ne (by omega)]; exact x4 b b1
theorem SX.fr {a K : Nat} {h g : mxH} (s : SX a K h g) (F : FR h) : FR g := fun b b1 b2 => by
  rw [s.2.2.2 b b1]; exact F b (by have := s.1; omega) b2
theorem SX.at {a K b N : Nat} {f : Nat → Int32} {h g : mxH} (s : SX a K h g) (A : AT h b N f) (n : b ≠ a) : AT g b N f := by
  obtain ⟨a1, a2, a3⟩ := A
  have e := s.2.2.1 b a1 n
  exact ⟨by have := s.1; omega, by rw [e]; exact a2, by rw [e]; exact a3⟩
theorem SX.ev {a K L : Nat} {h0 h g : mxH} (s : SX a K h g) (v : Ev L h0 h) (ha : h0.2 ≤ a) : Ev (L + K) h0 g := by
  obtain ⟨s1, s2, s3, s4⟩ := s
  obtain ⟨v1, v2, v3⟩ := v
  exact ⟨by omega, by omega, fun b b1 b2 => (s3 b (by omega) (by omega)).trans (v3 b b1 b2)⟩
theorem LSt.sx {h g : mxH} {n m : Nat → Int32} {c j a K : Nat} {B : Nat → Nat → Int32} (I : LSt h n m c B j) (s : SX a K h g) (ha : 337 ≤ a) : LSt g n m c B j := by
  have l1 := I.L.1
  have s1 := s.1
  have w1 := I.W.1
  have L' : LW g n := I.L.keep s1 (fun b hb => s.2.2.1 b (by omega) (by omega)) (by rw [s.2.2.1 1 (by omega) (by omega)]; exact I.L.2.2.1)
  have F : Fr (fun b => 319 ≤ b) h g := by
    refine ⟨⟨by omega, fun b b1 b2 => by rw [s.2.2.1 b (by omega) (by omega)]; exact I.W.2 b b1 b2⟩, fun b hb => ?_, fun q => absurd (q 319 (Nat.le_refl _)) (by omega)⟩
    have hb : ¬ 319 ≤ b := hb
    exact s.2.2.1 b (by omega) (by omega)
  exact I.law ⟨L', s.fr I.FR, I.MG, I.WG, I.RG⟩ F
theorem cnt_ex {p : Nat → Bool} {N : Nat} (h : 0 < cnt p N) : ∃ i, i < N ∧ p i = true := by
  cases e : orT p N with
  | true => exact orT_iff.mp e
  | false =>
    have := orT_false.mp e
    rw [cnt_congr (q := fun _ => false) this] at h
    have z : ∀ n, cnt (fun _ => false) n = 0 := fun n => by
      induction n with
      | zero => rfl
      | succ n ih => rw [cnt_f rfl, ih]
    rw [z] at h; omega
theorem cnt_2 {p : Nat → Bool} {N i k : Nat} (hi : i < N) (hk : k < N) (e : i ≠ k) (pi : p i = true) (pk : p k = true) : 2 ≤ cnt p N := by
  rw [cnt_out hi pi]
  have := cnt_pos (p := fun j => p j && !(j == i)) hk (by rw [pk]; simpa using fun y => e y.symm)
  omega
theorem cnt_1 {p : Nat → Bool} {N : Nat} (h : ∀ i k, i < N → k < N → p i = true → p k = true → i = k) : cnt p N ≤ 1 :=
  pigeon (p := p) (n := N) (f := fun _ => 0) 1 p (fun _ _ _ => Nat.lt_succ_self 0) (fun s t hs ht ps pt _ => h s t hs ht ps pt)
theorem cnt_add (p : Nat → Bool) (a b : Nat) : cnt p (a + b) = cnt p a + cnt (fun i => p (a + i)) b := by
  induction b with
  | zero => rfl
  | succ b ih =>
    show cnt p (a + b) + (if p (a + b) = true then 1 else 0) = cnt p a + (cnt (fun i => p (a + i)) b + (if p (a + b) = true then 1 else 0))
    rw [ih]; omega
theorem cnt_swap {p : Nat → Bool} {q : Nat → Bool} {N i k : Nat} (hi : i < N) (hk : k < N) (h1 : q i = p k) (h2 : q k = p i) (h : ∀ j, j < N → j ≠ i → j ≠ k → q j = p j) : cnt q N = cnt p N := by
  have le : ∀ (p q : Nat → Bool), q i = p k → q k = p i → (∀ j, j < N → j ≠ i → j ≠ k → q j = p j) → cnt q N ≤ cnt p N := fun p q h1 h2 h => by
    refine cnt_inj (f := fun j => if j = i then k else if j = k then i else j) (fun j hj qj => ?_) (fun a b ha hb _ _ e => ?_)
    · show (if j = i then k else if j = k then i else j) < N ∧ p (if j = i then k else if j = k then i else j) = true
      by_cases a : j = i
      · rw [if_pos a, ← h1, ← a]; exact ⟨hk, qj⟩
      · rw [if_neg a]
        by_cases b : j = k
        · rw [if_pos b, ← h2, ← b]; exact ⟨hi, qj⟩
        · rw [if_neg b, ← h j hj a b]; exact ⟨hj, qj⟩
    · have e : (if a = i then k else if a = k then i else a) = (if b = i then k else if b = k then i else b) := e
      repeat' split at e
      all_goals omega
  exact Nat.le_antisymm (le p q h1 h2 h) (le q p h2.symm h1.symm (fun j hj a b => (h j hj a b).symm))
/-- two numbers change places -/
theorem Prm.swap {N i k : Nat} {f g : Nat → Int32} (hi : i < N) (hk : k < N) (h1 : g i = f k) (h2 : g k = f i) (h : ∀ j, j < N → j ≠ i → j ≠ k → g j = f j) : Prm N f g := fun p =>
  cnt_swap (p := fun j => p (f j)) (q := fun j => p (g j)) hi hk (by show p (g i) = p (f k); rw [h1]) (by show p (g k) = p (f i); rw [h2]) (fun j hj a b => by show p (g j) = p (f j); rw [h j hj a b])
/-- each number of the one stands in the other -/
theorem Prm.mem {N i : Nat} {f g : Nat → Int32} (P : Prm N f g) (hi : i < N) : ∃ k, k < N ∧ f k = g i := by
  have := cnt_pos (p := fun j => decide (g j = g i)) hi (decide_eq_true rfl)
  rw [P (fun v => decide (v = g i))] at this
  obtain ⟨k, k1, k2⟩ := cnt_ex this
  exact ⟨k, k1, of_decide_eq_true k2⟩
theorem Prm.dist {N : Nat} {f g : Nat → Int32} (P : Prm N f g) (d : ∀ i k, i < N → k < N → f i = f k → i = k) : ∀ i k, i < N → k < N → g i = g k → i = k := fun i k hi hk e => by
  by_cases z : i = k
  · exact z
  · exfalso
    have h2 := cnt_2 (p := fun j => decide (g j = g i)) hi hk z (decide_eq_true rfl) (decide_eq_true e.symm)
    rw [P (fun v => decide (v = g i))] at h2
    have h1 := cnt_1 (p := fun j => decide (f j = g i)) (N := N) (fun a b ha hb pa pb => d a b ha hb ((of_decide_eq_true pa).trans (of_decide_eq_true pb).symm))
    omega
