/-! THE PURE SIDE, 59: numbers that come by (begun from the rows of whole) -/
theorem cnt_rev {p : Nat → Bool} {N : Nat} : cnt (fun i => p (N - 1 - i)) N = cnt p N := by
  apply Nat.le_antisymm
  · exact cnt_inj (f := fun i => N - 1 - i) (fun i hi q => ⟨by show N - 1 - i < N; omega, q⟩) (fun a b ha hb _ _ e => by
      have e : N - 1 - a = N - 1 - b := e
      omega)
  · exact cnt_inj (f := fun i => N - 1 - i) (fun i hi q => ⟨by show N - 1 - i < N; omega, by show p (N - 1 - (N - 1 - i)) = true; rw [show N - 1 - (N - 1 - i) = i by omega]; exact q⟩) (fun a b ha hb _ _ e => by
      have e : N - 1 - a = N - 1 - b := e
      omega)
theorem orT_rev {p : Nat → Bool} {N : Nat} : orT (fun i => p (N - 1 - i)) N = orT p N := by
  cases e : orT p N
  · have e := orT_false.mp e
    exact orT_false.mpr (fun k hk => e _ (by omega))
  · obtain ⟨k, h1, h2⟩ := orT_iff.mp e
    exact orT_iff.mpr ⟨N - 1 - k, by omega, by show p (N - 1 - (N - 1 - k)) = true; rw [show N - 1 - (N - 1 - k) = k by omega]; exact h2⟩
theorem dis_cnt {f : Nat → Nat} {M : Nat} : ∀ N, (∀ i, i < N → f i < M) → cnt (fun i => !orT (fun k => decide (f k = f i)) i) N = cnt (fun v => orT (fun i => decide (f i = v)) N) M := by
  intro N
  induction N with
  | zero =>
    intro _
    have z : ∀ m, cnt (fun _ => false) m = 0 := fun m => by
      induction m with
      | zero => rfl
      | succ m ih => rw [cnt_f rfl, ih]
    exact (z M).symm
  | succ N ih =>
    intro hf
    have ih := ih (fun i hi => hf i (by omega))
    have hN := hf N (by omega)
    cases e : orT (fun k => decide (f k = f N)) N
    · rw [cnt_t (k := N) (by show (!orT (fun k => decide (f k = f N)) N) = true; rw [e]; rfl), ih]
      rw [cnt_out (p := fun v => orT (fun i => decide (f i = v)) (N + 1)) hN (by show (orT (fun i => decide (f i = f N)) N || decide (f N = f N)) = true; simp)]
      congr 1
      refine cnt_congr (fun v hv => ?_)
      show _ = ((orT (fun i => decide (f i = v)) N || decide (f N = v)) && !(v == f N))
      by_cases q : v = f N
      · subst q
        rw [e]; simp
      · rw [decide_eq_false (fun z => q z.symm), show (v == f N) = false by simpa using q]; simp
    · rw [cnt_f (k := N) (by show (!orT (fun k => decide (f k = f N)) N) = false; rw [e]; rfl), ih]
      refine cnt_congr (fun v hv => ?_)
      show _ = (orT (fun i => decide (f i = v)) N || decide (f N = v))
      by_cases q : f N = v
      · subst q
        rw [e]; rfl
      · rw [decide_eq_false q, Bool.or_false]
def wN (n : Nat → Int32) (k : Nat) : Nat := (n (211 + k)).toNatClampNeg
section
variable {n : Nat → Int32} {j : Nat}
theorem wN_spec (G : NG n j) {k : Nat} (hk : k < inw n) : n (211 + k) = Int32.ofNat (wN n k) ∧ wN n k < 100 := by
  obtain ⟨-, -, -, -, -, -, g7, -⟩ := G
  obtain ⟨v, hv, e⟩ := g7 k hk
  unfold wN
  rw [e, ofN_clamp (by omega)]; exact ⟨rfl, hv⟩
theorem unl_eq (G : NG n j) : unl n = cnt (fun k => !orT (fun i => decide (wN n i = wN n k)) k) (inw n) := by
  have hv : ∀ i, i < inw n → wv n i = Int32.ofNat (wN n (inw n - 1 - i)) := fun i hi => (wN_spec G (show inw n - 1 - i < inw n by omega)).1
  have hb : ∀ i, i < inw n → wN n i < 100 := fun i hi => (wN_spec G hi).2
  rw [dis_cnt (M := 100) (inw n) hb]
  have e1 : unl n = cnt (fun i => !orT (fun k => decide (wN n (inw n - 1 - k) = wN n (inw n - 1 - i))) i) (inw n) := by
    unfold unl
    refine cnt_congr (fun i hi => ?_)
    rw [orT_congr (fun k hk => ?_)]
    rw [hv k (by omega), hv i hi]
    have b1 := hb (inw n - 1 - k) (by omega)
    have b2 := hb (inw n - 1 - i) (by omega)
    simp only [ofN_eq (show wN n (inw n - 1 - k) < 2147483648 by omega) (show wN n (inw n - 1 - i) < 2147483648 by omega)]
  rw [e1, dis_cnt (f := fun i => wN n (inw n - 1 - i)) (M := 100) (inw n) (fun i hi => hb _ (by omega))]
  exact cnt_congr (fun v _ => orT_rev (p := fun i => decide (wN n i = v)) (N := inw n))
def geN (n : Nat → Int32) (v : Nat) : Nat := cnt (fun k => decide (v ≤ wN n k)) (inw n)
theorem bysz_spec (G : NG n j) {q : Nat} (hq : q < inw n) : bysz n q < inw n ∧ geN n (wN n (inw n - 1 - bysz n q) + 1) ≤ q ∧ q < geN n (wN n (inw n - 1 - bysz n q)) := by
  have S := bef_STO (wv n) (inw n)
  have hv : ∀ i, i < inw n → wv n i = Int32.ofNat (wN n (inw n - 1 - i)) := fun i hi => (wN_spec G (show inw n - 1 - i < inw n by omega)).1
  have hb : ∀ i, i < inw n → wN n i < 100 := fun i hi => (wN_spec G hi).2
  have hc : cnt (fun _ => true) (inw n) = inw n := cnt_all _
  obtain ⟨t1, t2, t3⟩ := nrL_spec (P := fun _ => true) S (j := q) (by rw [hc]; exact hq)
  have er : ∀ t, rkL (bef (wv n)) (fun _ => true) (inw n) t = rkw n t := fun t => cnt_congr (fun s hs => by simp)
  rw [er] at t3
  have hf := fst1_found (p := fun i => rkw n i == q) (n := inw n) t1 (by show (rkw n _ == q) = true; rw [t3]; simp)
  have hs := (fst1_spec (fun i => rkw n i == q) (inw n)).2 hf
  have hs : rkw n (bysz n q) = q := beq_iff_eq.mp hs
  have hf : bysz n q < inw n := hf
  generalize bysz n q = i at hs hf
  have hr1 : geN n (wN n (inw n - 1 - i) + 1) = cnt (fun s => decide (wN n (inw n - 1 - i) + 1 ≤ wN n (inw n - 1 - s))) (inw n) := (cnt_rev (p := fun k => decide (wN n (inw n - 1 - i) + 1 ≤ wN n k)) (N := inw n)).symm
  have hr2 : geN n (wN n (inw n - 1 - i)) = cnt (fun s => decide (wN n (inw n - 1 - i) ≤ wN n (inw n - 1 - s))) (inw n) := (cnt_rev (p := fun k => decide (wN n (inw n - 1 - i) ≤ wN n k)) (N := inw n)).symm
  have bb : ∀ s, s < inw n → bef (wv n) s i = true → wN n (inw n - 1 - i) ≤ wN n (inw n - 1 - s) := fun s hs2 z => by
    have b1 := hb (inw n - 1 - s) (by omega)
    have b2 := hb (inw n - 1 - i) (by omega)
    rcases bef_iff.mp z with z | z
    · rw [hv s hs2, hv i hf, ofN_lt (by omega) (by omega)] at z; omega
    · have := z.1
      rw [hv s hs2, hv i hf, ofN_eq (by omega) (by omega)] at this; omega
  refine ⟨hf, ?_, ?_⟩
  · rw [hr1, ← hs]
    refine cnt_mono (fun s hs2 z => ?_)
    have z := of_decide_eq_true z
    have b1 := hb (inw n - 1 - s) (by omega)
    have b2 := hb (inw n - 1 - i) (by omega)
    refine bef_iff.mpr (Or.inl ?_)
    rw [hv s hs2, hv i hf, ofN_lt (by omega) (by omega)]; omega
  · rw [hr2, ← hs]
    exact cnt_lt (fun s hs2 z => decide_eq_true (bb s hs2 z)) hf (bef_irr _ _) (decide_eq_true (Nat.le_refl _))
end
/-! the law's own count -/
/-- behind k numbers: the window, how often, the counters -/
def CB (xs : Nat → Nat) (k v : Nat) : Nat := cnt (fun i => decide (xs i = v)) k
def PJ (m : Nat → Int32) (xs : Nat → Nat) (k mm sz : Nat) : Prop := ∃ (c : Nat → Nat) (b : Nat), (∀ i, i < 4 → m (225 + i) = Int32.ofNat (c i)) ∧ m 229 = Int32.ofNat b ∧
  (∀ i, i < mm → (m (221 + i) = -1 ∧ c i = 0) ∨ ∃ v, v < sz ∧ m (221 + i) = Int32.ofNat v ∧ 1 ≤ c i ∧ c i ≤ CB xs k v ∧ CB xs k v ≤ c i + b) ∧
  (∀ v, v < sz → (∀ i, i < mm → m (221 + i) ≠ Int32.ofNat v) → CB xs k v ≤ b) ∧ sumN c mm + b * (mm + 1) = k
def PI (m : Nat → Int32) (xs : Nat → Nat) (k w mm sz : Nat) : Prop :=
  (m 110 = Int32.ofNat k ∧ m 108 = Int32.ofNat w ∧ m 109 = Int32.ofNat mm) ∧ (∀ i, i < k → i < 10 → m (211 + i) = Int32.ofNat (xs (k - 1 - i))) ∧ (∀ v, v < 100 → m (111 + v) = Int32.ofNat (CB xs k v)) ∧ PJ m xs k mm sz
theorem CB_congr {xs ys : Nat → Nat} {k v : Nat} (e : ∀ i, i < k → xs i = ys i) : CB xs k v = CB ys k v := cnt_congr (fun i hi => by rw [e i hi])
theorem PI.congr {m : Nat → Int32} {xs ys : Nat → Nat} {k w mm sz : Nat} (P : PI m xs k w mm sz) (e : ∀ i, i < k → xs i = ys i) : PI m ys k w mm sz := by
  obtain ⟨p1, p2, p3, c, b, c1, c2, c3, c4, c5⟩ := P
  refine ⟨p1, fun i hi h10 => by rw [← e _ (by omega)]; exact p2 i hi h10, fun v hv => by rw [← CB_congr e]; exact p3 v hv, c, b, c1, c2, fun i hi => ?_, fun v hv h => by rw [← CB_congr e]; exact c4 v hv h, c5⟩
  rcases c3 i hi with z | ⟨v, v1, v2, v3, v4, v5⟩
  · exact Or.inl z
  · exact Or.inr ⟨v, v1, v2, v3, by rw [← CB_congr e]; exact v4, by rw [← CB_congr e]; exact v5⟩
theorem PI_0 {n : Nat → Int32} {xs : Nat → Nat} {w mm sz : Nat} (hm4 : mm ≤ 4) : PI (bgn n (Int32.ofNat w) (Int32.ofNat mm)) xs 0 w mm sz := by
  have v110 : ∀ k, 110 ≤ k → k < 211 → bgn n (Int32.ofNat w) (Int32.ofNat mm) k = 0 := fun k h1 h2 => by
    unfold bgn
    rw [if_neg (by omega), if_neg (by omega), if_pos (by omega)]
  have v221 : ∀ k, k < 4 → bgn n (Int32.ofNat w) (Int32.ofNat mm) (221 + k) = -1 := fun k hk => by
    unfold bgn
    rw [if_neg (by omega), if_neg (by omega), if_neg (by omega), if_pos (by omega)]
  have v225 : ∀ k, k < 5 → bgn n (Int32.ofNat w) (Int32.ofNat mm) (225 + k) = 0 := fun k hk => by
    unfold bgn
    rw [if_neg (by omega), if_neg (by omega), if_neg (by omega), if_neg (by omega), if_pos (by omega)]
  have z : ∀ k, sumN (fun _ => 0) k = 0 := sumN_zero
  refine ⟨⟨v110 110 (by omega) (by omega), rfl, rfl⟩, fun i hi => by omega, fun v hv => v110 _ (by omega) (by omega), fun _ => 0, 0, fun i hi => v225 i (by omega), v225 4 (by omega), fun i hi => ?_, fun v hv h => Nat.zero_le _, by rw [z]; omega⟩
  exact Or.inl ⟨v221 i (by omega), rfl⟩
theorem sumN_fup {c d : Nat → Nat} {f : Nat} : ∀ m, f < m → d f = c f + 1 → (∀ i, i < m → i ≠ f → d i = c i) → sumN d m = sumN c m + 1 := by
  intro m
  induction m with
  | zero => intro h; omega
  | succ m ih =>
    intro hf h1 h2
    rw [sumN_s, sumN_s]
    by_cases e : f = m
    · rw [← e, h1, sumN_congr (f := d) (g := c) (fun i hi => h2 i (by omega) (by omega))]; omega
    · rw [ih (by omega) h1 (fun i hi => h2 i (by omega)), h2 m (by omega) (fun y => e y.symm)]; omega
theorem sumN_dn {c d : Nat → Nat} : ∀ m, (∀ i, i < m → d i + 1 = c i) → sumN d m + m = sumN c m := by
  intro m
  induction m with
  | zero => intro _; rfl
  | succ m ih =>
    intro h
    have := ih (fun i hi => h i (by omega))
    have := h m (by omega)
    rw [sumN_s, sumN_s]; omega
theorem sumN_ge {c : Nat → Nat} {i : Nat} : ∀ m, i < m → c i ≤ sumN c m := by
  intro m
  induction m with
  | zero => intro h; omega
  | succ m ih =>
    intro h
    rw [sumN_s]
    by_cases e : i = m
    · rw [e]; omega
    · have := ih (by omega); omega
theorem CB_s {xs : Nat → Nat} {k v : Nat} : CB xs (k + 1) v = CB xs k v + if xs k = v then 1 else 0 := by
  show cnt _ k + (if decide (xs k = v) = true then 1 else 0) = _
  by_cases e : xs k = v
  · rw [if_pos (decide_eq_true e), if_pos e]; rfl
  · rw [if_neg (by rw [decide_eq_false e]; simp), if_neg e]; rfl
theorem ctr_no {m : Nat → Int32} {y : Int32} (h : ¬ ctr m y < mn m) : ∀ i, i < mn m → m (221 + i) ≠ y := fun i hi e => h (fst1_found (p := fun k => decide (m (221 + k) = y)) hi (decide_eq_true e))
/-- the counters behind one number more -/
theorem PJ_s {m : Nat → Int32} {xs : Nat → Nat} {k mm sz x : Nat} (P : PJ m xs k mm sz) (hm : mn m = mm) (hm4 : mm ≤ 4) (hd : ∀ i l, i < 4 → l < 4 → i ≠ l → m (221 + i) = m (221 + l) → m (221 + i) = -1) (hx : xs k = x) (xz : x < sz) (sz8 : sz < 100) (k25 : k < 1000) : PJ (tly m (Int32.ofNat x)) xs (k + 1) mm sz := by
  obtain ⟨c, b, c1, c2, c3, c4, c5⟩ := P
  have ck : ∀ i, i < mm → c i ≤ k := fun i hi => by have := sumN_ge (c := c) mm hi; omega
  have nm : ∀ v, v < sz → Int32.ofNat v ≠ -1 := fun v hv => ofN_nm (by omega)
  have vi : ∀ u v, u < sz → v < sz → Int32.ofNat u = Int32.ofNat v → u = v := fun u v hu hv e => ofN_inj (by omega) (by omega) e
  have cs : ∀ v, CB xs (k + 1) v = CB xs k v + if x = v then 1 else 0 := fun v => by rw [CB_s, hx]
  unfold tly
  by_cases q1 : ctr m (Int32.ofNat x) < mn m
  · rw [if_pos q1]
    have at1 := ctr_at q1
    rw [hm] at q1
    generalize ctr m (Int32.ofNat x) = f at q1 at1
    obtain ⟨d, df, dn⟩ : ∃ d : Nat → Nat, d f = c f + 1 ∧ ∀ i, i ≠ f → d i = c i := ⟨fun i => if i = f then c i + 1 else c i, if_pos rfl, fun i e => if_neg e⟩
    refine ⟨d, b, fun i hi => ?_, by rw [fup_ne (by omega)]; exact c2, fun i hi => ?_, fun v hv h => ?_, ?_⟩
    · by_cases e : i = f
      · rw [e, fup_eq, df, c1 f (by omega), ofN_succ]
      · rw [fup_ne (by omega), dn i e]; exact c1 i hi
    · rw [fup_ne (by omega)]
      rcases c3 i hi with z | ⟨v, v1, v2, v3, v4, v5⟩
      · have e : i ≠ f := fun y => by rw [y, at1] at z; exact nm x xz z.1
        rw [dn i e]; exact Or.inl z
      · refine Or.inr ⟨v, v1, v2, ?_⟩
        rw [cs]
        by_cases e : i = f
        · rw [e, at1] at v2
          have := vi x v xz v1 v2
          rw [e] at v3 v4 v5
          rw [e, df, if_pos this]; omega
        · rw [dn i e, if_neg (fun y => by
            have := hd i f (by omega) (by omega) e (by rw [v2, at1, y])
            rw [v2] at this; exact nm v v1 this)]
          omega
    · rw [cs, if_neg (fun y => by
        have := h f q1
        rw [fup_ne (by omega), at1, y] at this; exact this rfl)]
      exact c4 v hv (fun i hi => by have := h i hi; rw [fup_ne (by omega)] at this; exact this)
    · rw [sumN_fup (c := c) (f := f) mm q1 df (fun i hi e => dn i e)]; omega
  · rw [if_neg q1]
    have no1 := ctr_no q1
    rw [hm] at no1
    by_cases q2 : ctr m (-1) < mn m
    · rw [if_pos q2]
      have at1 := ctr_at q2
      rw [hm] at q2
      generalize ctr m (-1) = f at q2 at1
      have cf : c f = 0 := by
        rcases c3 f q2 with z | ⟨v, v1, v2, -⟩
        · exact z.2
        · rw [at1] at v2; exact absurd v2.symm (nm v v1)
      have v221 : ∀ i, i < 4 → fup (fup m (221 + f) (Int32.ofNat x)) (225 + f) (m (225 + f) + 1) (221 + i) = if i = f then Int32.ofNat x else m (221 + i) := fun i hi => by
        rw [fup_ne (by omega)]
        by_cases y : i = f
        · rw [if_pos y, y, fup_eq]
        · rw [if_neg y, fup_ne (by omega)]
      obtain ⟨d, df, dn⟩ : ∃ d : Nat → Nat, d f = c f + 1 ∧ ∀ i, i ≠ f → d i = c i := ⟨fun i => if i = f then c i + 1 else c i, if_pos rfl, fun i e => if_neg e⟩
      refine ⟨d, b, fun i hi => ?_, by rw [fup_ne (by omega), fup_ne (by omega)]; exact c2, fun i hi => ?_, fun v hv h => ?_, ?_⟩
      · by_cases e : i = f
        · rw [e, fup_eq, df, c1 f (by omega), ofN_succ]
        · rw [fup_ne (by omega), fup_ne (by omega), dn i e]; exact c1 i hi
      · rw [v221 i (by omega)]
        by_cases e : i = f
        · rw [if_pos e, e, df]
          refine Or.inr ⟨x, xz, rfl, by omega, ?_, ?_⟩
          · rw [cs, if_pos rfl, cf]; omega
          · have := c4 x xz no1
            rw [cs, if_pos rfl, cf]; omega
        · rw [if_neg e, dn i e]
          rcases c3 i hi with z | ⟨v, v1, v2, v3, v4, v5⟩
          · exact Or.inl z
          · refine Or.inr ⟨v, v1, v2, v3, ?_⟩
            rw [cs, if_neg (fun y => no1 i hi (by rw [v2, y]))]; omega
      · have hvx : x ≠ v := fun y => by
          have := h f q2
          rw [v221 f (by omega), if_pos rfl, y] at this; exact this rfl
        rw [cs, if_neg hvx]
        refine c4 v hv (fun i hi z => ?_)
        by_cases e : i = f
        · rw [e, at1] at z; exact nm v hv z.symm
        · have := h i hi
          rw [v221 i (by omega), if_neg e] at this; exact this z
      · rw [sumN_fup (c := c) (f := f) mm q2 df (fun i hi e => dn i e)]; omega
    · rw [if_neg q2]
      have no2 := ctr_no q2
      rw [hm] at no2
      have pos : ∀ i, i < mm → ∃ v, v < sz ∧ m (221 + i) = Int32.ofNat v ∧ 1 ≤ c i ∧ c i ≤ CB xs k v ∧ CB xs k v ≤ c i + b := fun i hi => by
        rcases c3 i hi with z | z
        · exact absurd z.1 (no2 i hi)
        · exact z
      have z1 : ∀ i, i < mm → (m (225 + i) - 1 = 0 ↔ c i = 1) := fun i hi => by
        obtain ⟨v, -, -, v3, -⟩ := pos i hi
        have := ck i hi
        rw [c1 i (by omega), ofN_pred v3 (by omega)]
        constructor
        · intro y
          have := ofN_inj (b := 0) (by omega) (by omega) y
          omega
        · intro y; rw [y]; rfl
      have l221 : ∀ i, i < mm → lss m (221 + i) = if c i = 1 then -1 else m (221 + i) := fun i hi => by
        rw [lss_221 (by omega), hm]
        by_cases y : c i = 1
        · rw [if_pos ⟨hi, (z1 i hi).mpr y⟩, if_pos y]
        · rw [if_neg (fun w => y ((z1 i hi).mp w.2)), if_neg y]
      obtain ⟨d, d1, d2⟩ : ∃ d : Nat → Nat, (∀ i, i < mm → d i = c i - 1) ∧ ∀ i, ¬ i < mm → d i = c i := ⟨fun i => if i < mm then c i - 1 else c i, fun i e => if_pos e, fun i e => if_neg e⟩
      refine ⟨d, b + 1, fun i hi => ?_, ?_, fun i hi => ?_, fun v hv h => ?_, ?_⟩
      · rw [lss_225 hi, hm]
        by_cases y : i < mm
        · obtain ⟨v, -, -, v3, -⟩ := pos i y
          have := ck i y
          rw [if_pos y, d1 i y, c1 i hi, ofN_pred v3 (by omega)]
        · rw [if_neg y, d2 i y]; exact c1 i hi
      · show (if (229 : Nat) = 229 then m 229 + 1 else _) = _
        rw [if_pos rfl, c2, ofN_succ]
      · rw [l221 i hi, d1 i hi]
        obtain ⟨v, v1, v2, v3, v4, v5⟩ := pos i hi
        by_cases y : c i = 1
        · rw [if_pos y]; exact Or.inl ⟨rfl, by omega⟩
        · rw [if_neg y]
          refine Or.inr ⟨v, v1, v2, by omega, ?_⟩
          rw [cs, if_neg (fun y => no1 i hi (by rw [v2, y]))]; omega
      · rw [cs]
        by_cases y : x = v
        · rw [if_pos y]
          have := c4 x xz no1
          rw [y] at this; omega
        · rw [if_neg y]
          by_cases w : ∃ i, i < mm ∧ m (221 + i) = Int32.ofNat v
          · obtain ⟨i, i1, i2⟩ := w
            obtain ⟨u, u1, u2, u3, u4, u5⟩ := pos i i1
            have euv := vi u v u1 hv (by rw [← u2, i2])
            have h2 := h i i1
            rw [l221 i i1] at h2
            by_cases y2 : c i = 1
            · rw [← euv]; omega
            · rw [if_neg y2] at h2; exact absurd i2 h2
          · have := c4 v hv (fun i hi z => w ⟨i, hi, z⟩)
            omega
      · have := sumN_dn (c := c) (d := d) mm (fun i hi => by
          obtain ⟨v, -, -, v3, -⟩ := pos i hi
          rw [d1 i hi]; omega)
        rw [Nat.add_mul]
        omega
theorem mid_PJ {m : Nat → Int32} {xs : Nat → Nat} {k mm sz x : Nat} (P : PJ m xs k mm sz) (hx : x < 100) (hm4 : mm ≤ 4) : PJ (mid m x) xs k mm sz := by
  obtain ⟨c, b, c1, c2, c3, c4, c5⟩ := P
  refine ⟨c, b, fun i hi => by rw [mid_hi hx (by omega)]; exact c1 i hi, by rw [mid_hi hx (by omega)]; exact c2, fun i hi => by rw [mid_hi hx (by omega)]; exact c3 i hi, fun v hv h => c4 v hv (fun i hi => by have := h i hi; rw [mid_hi hx (by omega)] at this; exact this), c5⟩
theorem PI_s {m : Nat → Int32} {xs : Nat → Nat} {k w mm sz x j : Nat} (P : PI m xs k w mm sz) (G : NG m j) (hx : xs k = x) (xz : x < sz) (sz8 : sz < 100) (k25 : k < 1000) (hm4 : mm ≤ 4) : PI (psh m x) xs (k + 1) w mm sz := by
  have x100 : x < 100 := by omega
  have hmid : mn (mid m x) = mm := by unfold mn; rw [mid_lo (by omega), P.1.2.2, ofN_clamp (by omega)]
  have lo : ∀ q, q < 221 → psh m x q = mid m x q := fun q hq => tly_cm _ _ hq (by rw [hmid]; exact hm4)
  refine ⟨⟨?_, ?_, ?_⟩, fun i hi h10 => ?_, fun v hv => ?_, ?_⟩
  · rw [lo 110 (by omega)]
    show (if (110 : Nat) = 110 then m 110 + 1 else _) = _
    rw [if_pos rfl, P.1.1, ofN_succ]
  · rw [lo 108 (by omega), mid_lo (by omega)]; exact P.1.2.1
  · rw [lo 109 (by omega), mid_lo (by omega)]; exact P.1.2.2
  · rw [lo _ (by omega)]
    by_cases z : i = 0
    · rw [z, show k + 1 - 1 - 0 = k by omega, hx]; exact mid_0 x100
    · rw [mid_w x100 (by omega) (by omega), show 211 + i - 1 = 211 + (i - 1) by omega, P.2.1 (i - 1) (by omega) (by omega), show k + 1 - 1 - i = k - 1 - (i - 1) by omega]
  · rw [lo _ (by omega), CB_s, hx]
    unfold mid
    rw [if_neg (by omega)]
    by_cases e : x = v
    · rw [if_pos (by omega), if_pos e, P.2.2.1 v hv, ofN_succ]
    · rw [if_neg (by omega), if_neg e, if_neg (by omega), if_neg (by omega)]; exact P.2.2.1 v hv
  · refine PJ_s (mid_PJ P.2.2.2 x100 hm4) hmid hm4 (fun i l hi hl e => ?_) hx xz sz8 k25
    rw [mid_hi x100 (by omega), mid_hi x100 (by omega)]
    exact G.2.2.2.2.2.2.2.2 i l hi hl e
theorem PI_lve {m : Nat → Int32} {xs : Nat → Nat} {k w mm sz : Nat} (P : PI m xs k w mm sz) (w1 : 1 ≤ w) (w2 : w ≤ 10) (k25 : k < 1000) : lve m = if w ≤ k then Int32.ofNat (xs (k - w)) else -1 := by
  have ec : cm m = k := by unfold cm; rw [P.1.1, ofN_clamp (by omega)]
  have ew : wd m = w := by unfold wd; rw [P.1.2.1, ofN_clamp (by omega)]
  unfold lve
  rw [ec, ew]
  by_cases c : w ≤ k
  · rw [if_neg (by omega), if_pos c, P.2.1 (w - 1) (by omega) (by omega), show k - 1 - (w - 1) = k - w by omega]
  · rw [if_pos (by omega), if_neg c]
theorem PI_inw {m : Nat → Int32} {xs : Nat → Nat} {k w mm sz : Nat} (P : PI m xs k w mm sz) (w2 : w ≤ 10) (k25 : k < 1000) : inw m = min k w := by
  unfold inw cm wd
  rw [P.1.1, P.1.2.1, ofN_clamp (by omega), ofN_clamp (by omega)]
/-! the window by size -/
theorem sorted_window {m : Nat → Int32} {j L : Nat} (G : NG m j) (hL : inw m = L) {f : Nat → Int32} (P : Prm L (fun i => m (211 + i)) f) (S : Srt L f) : (∀ q, q < L → bysz m q < L ∧ wv m (bysz m q) = f (L - 1 - q)) ∧ unl m = cnt (fun k => k == 0 || !decide (f k = f (k - 1))) L := by
  have hu : ∀ k, k < L → f k = Int32.ofNat ((f k).toNatClampNeg) ∧ (f k).toNatClampNeg < 100 := fun k hk => by
    obtain ⟨i, i1, i2⟩ := P.mem hk
    obtain ⟨a, b⟩ := wN_spec G (show i < inw m by omega)
    have i2 : m (211 + i) = f k := i2
    rw [← i2]
    exact ⟨a, b⟩
  generalize hU : (fun k => (f k).toNatClampNeg) = u
  have hu : ∀ k, k < L → f k = Int32.ofNat (u k) ∧ u k < 100 := fun k hk => by rw [← hU]; exact hu k hk
  have us : ∀ i k, i ≤ k → k < L → u i ≤ u k := fun i k hik hk => by
    by_cases e : i = k
    · rw [e]; exact Nat.le_refl _
    · have := S i k (by omega) hk
      obtain ⟨a1, a2⟩ := hu i (by omega)
      obtain ⟨b1, b2⟩ := hu k hk
      rw [a1, b1, ofN_lt (by omega) (by omega)] at this
      omega
  have ge : ∀ v, geN m v = cnt (fun k => decide (v ≤ u k)) L := fun v => by
    have := P (fun y => decide (v ≤ y.toNatClampNeg))
    unfold geN
    rw [hL, ← hU]
    exact this.symm
  have mono : ∀ a b, a ≤ b → geN m b ≤ geN m a := fun a b hab => cnt_mono (fun k _ z => decide_eq_true (by have := of_decide_eq_true z; omega))
  refine ⟨fun q hq => ?_, ?_⟩
  · obtain ⟨b1, b2, b3⟩ := bysz_spec G (show q < inw m by omega)
    rw [hL] at b1 b2 b3
    refine ⟨b1, ?_⟩
    have wb := (wN_spec G (show L - 1 - bysz m q < inw m by omega)).1
    have e1 : wv m (bysz m q) = Int32.ofNat (wN m (L - 1 - bysz m q)) := by unfold wv; rw [hL]; exact wb
    rw [e1, (hu (L - 1 - q) (by omega)).1]
    generalize wN m (L - 1 - bysz m q) = v at b2 b3
    have k1 : q < geN m (u (L - 1 - q)) := by
      rw [ge]
      have := cnt_inj (n := q + 1) (p := fun _ => true) (m := L) (f := fun i => L - 1 - i) (q := fun k => decide (u (L - 1 - q) ≤ u k)) (fun i hi _ => ⟨by show L - 1 - i < L; omega, decide_eq_true (us _ _ (by omega) (by omega))⟩) (fun a b ha hb _ _ e => by
        have e : L - 1 - a = L - 1 - b := e
        omega)
      rw [cnt_all] at this
      omega
    have k2 : geN m (u (L - 1 - q) + 1) ≤ q := by
      rw [ge]
      refine pigeon (p := fun k => decide (u (L - 1 - q) + 1 ≤ u k)) (n := L) (f := fun k => L - 1 - k) q _ (fun t ht pt => ?_) (fun s t hs ht _ _ e => ?_)
      · show L - 1 - t < q
        have pt := of_decide_eq_true pt
        by_cases c : t ≤ L - 1 - q
        · have := us t (L - 1 - q) c (by omega)
          omega
        · omega
      · have e : L - 1 - s = L - 1 - t := e
        omega
    congr 1
    by_cases c1 : u (L - 1 - q) < v
    · have := mono (u (L - 1 - q) + 1) v (by omega); omega
    · by_cases c2 : v < u (L - 1 - q)
      · have := mono (v + 1) (u (L - 1 - q)) (by omega); omega
      · omega
  · rw [unl_eq G, hL, dis_cnt (M := 100) L (fun i hi => (wN_spec G (by omega)).2)]
    have e1 : cnt (fun v => orT (fun i => decide (wN m i = v)) L) 100 = cnt (fun v => orT (fun i => decide (u i = v)) L) 100 := cnt_congr (fun v _ => by
      have one : ∀ a b : Nat → Int32, Prm L a b → orT (fun i => decide ((a i).toNatClampNeg = v)) L = true → orT (fun i => decide ((b i).toNatClampNeg = v)) L = true := fun a b pab z => by
        obtain ⟨i, i1, i2⟩ := orT_iff.mp z
        obtain ⟨k, k1, k2⟩ := pab.symm.mem i1
        exact orT_iff.mpr ⟨k, k1, decide_eq_true (by rw [k2]; exact of_decide_eq_true i2)⟩
      have z1 := one _ _ P
      have z2 := one _ _ P.symm
      rw [← hU]
      show orT (fun i => decide ((m (211 + i)).toNatClampNeg = v)) L = orT (fun i => decide ((f i).toNatClampNeg = v)) L
      cases h1 : orT (fun i => decide ((m (211 + i)).toNatClampNeg = v)) L with
      | true => rw [z1 h1]
      | false =>
        cases h2 : orT (fun i => decide ((f i).toNatClampNeg = v)) L with
        | true => rw [z2 h2] at h1; cases h1
        | false => rfl)
    rw [e1, ← dis_cnt (f := u) (M := 100) L (fun i hi => (hu i hi).2)]
    refine cnt_congr (fun k hk => ?_)
    by_cases z : k = 0
    · subst z; rfl
    · have h0 : (k == 0) = false := by simpa using z
      rw [h0, Bool.false_or]
      congr 1
      obtain ⟨a1, a2⟩ := hu k hk
      obtain ⟨b1, b2⟩ := hu (k - 1) (by omega)
      by_cases y : u (k - 1) = u k
      · rw [decide_eq_true (by rw [a1, b1, y])]
        exact orT_iff.mpr ⟨k - 1, by omega, decide_eq_true y⟩
      · rw [decide_eq_false (fun w => y (by rw [a1, b1] at w; exact (ofN_inj (by omega) (by omega) w).symm))]
        refine orT_false.mpr (fun i hi => decide_eq_false (fun w => y ?_))
        have m1 := us i (k - 1) (by omega) (by omega)
        have m2 := us (k - 1) k (by omega) hk
        omega
/-! the counters' sums -/
theorem sumN_single {f m c : Nat} (hf : f < m) : sumN (fun i => if f = i then c else 0) m = c := by
  have e3 : ∀ m c (g : Nat → Nat), sumN (fun p => c * g p) m = c * sumN g m := fun m c g => by
    induction m with
    | zero => exact (Nat.mul_zero _).symm
    | succ m ih => rw [sumN_s, sumN_s, ih, Nat.mul_add]
  rw [sumN_congr (g := fun i => c * (if f = i then 1 else 0)) (fun i _ => by by_cases e : f = i <;> simp [e]), e3, sumN_one hf, Nat.mul_one]
theorem PI_end {m : Nat → Int32} {xs : Nat → Nat} {k w mm sz j : Nat} (P : PI m xs k w mm sz) (G : NG m j) (hm4 : mm ≤ 4) (sz8 : sz < 100) (k25 : k < 1000) : ∃ (cv : Nat → Nat) (b : Nat), m 229 = Int32.ofNat b ∧ (∀ v, v < sz → (if ctr m (Int32.ofNat v) < mn m then m (225 + ctr m (Int32.ofNat v)) else 0) = Int32.ofNat (cv v)) ∧ (∀ v, v < sz → cv v ≤ CB xs k v ∧ CB xs k v ≤ cv v + b) ∧ sumN cv sz + b * (mm + 1) = k ∧ cnt (fun v => decide (0 < cv v)) sz ≤ mm ∧ b ≤ k := by
  have hm : mn m = mm := by unfold mn; rw [P.1.2.2, ofN_clamp (by omega)]
  obtain ⟨c, b, c1, c2, c3, c4, c5⟩ := P.2.2.2
  have hd := G.2.2.2.2.2.2.2.2
  have nm : ∀ v, v < sz → Int32.ofNat v ≠ -1 := fun v hv => ofN_nm (by omega)
  rw [hm]
  have hat : ∀ v, ctr m (Int32.ofNat v) < mm → m (221 + ctr m (Int32.ofNat v)) = Int32.ofNat v := fun v h => ctr_at (by rw [hm]; exact h)
  have hno : ∀ v, ¬ ctr m (Int32.ofNat v) < mm → ∀ i, i < mm → m (221 + i) ≠ Int32.ofNat v := fun v h => by
    have := ctr_no (m := m) (y := Int32.ofNat v) (by rw [hm]; exact h)
    rw [hm] at this; exact this
  obtain ⟨cv, cy, cn⟩ : ∃ cv : Nat → Nat, (∀ v, ctr m (Int32.ofNat v) < mm → cv v = c (ctr m (Int32.ofNat v))) ∧ ∀ v, ¬ ctr m (Int32.ofNat v) < mm → cv v = 0 := ⟨fun v => if ctr m (Int32.ofNat v) < mm then c (ctr m (Int32.ofNat v)) else 0, fun v e => if_pos e, fun v e => if_neg e⟩
  refine ⟨cv, b, c2, fun v hv => ?_, fun v hv => ?_, ?_, ?_, ?_⟩
  · by_cases q : ctr m (Int32.ofNat v) < mm
    · rw [if_pos q, cy v q]; exact c1 _ (by omega)
    · rw [if_neg q, cn v q]; rfl
  · by_cases q : ctr m (Int32.ofNat v) < mm
    · rw [cy v q]
      have at1 := hat v q
      rcases c3 _ q with z | ⟨u, u1, u2, u3, u4, u5⟩
      · rw [at1] at z; exact absurd z.1 (nm v hv)
      · have : u = v := by rw [at1] at u2; exact (ofN_inj (by omega) (by omega) u2).symm
        rw [← this] at u4 u5 ⊢; exact ⟨u4, u5⟩
    · rw [cn v q]
      have := c4 v hv (hno v q)
      omega
  · have e1 : sumN cv sz = sumN (fun v => sumN (fun i => if m (221 + i) = Int32.ofNat v then c i else 0) mm) sz := sumN_congr (fun v hv => by
      by_cases q : ctr m (Int32.ofNat v) < mm
      · have at1 := hat v q
        rw [cy v q]
        generalize ctr m (Int32.ofNat v) = f at q at1
        rw [sumN_congr (g := fun i => if f = i then c f else 0) (fun i hi => ?_), sumN_single q]
        by_cases e : f = i
        · rw [if_pos e, ← e, if_pos at1]
        · rw [if_neg e, if_neg (fun y => by
            have := hd f i (by omega) (by omega) e (by rw [at1, y])
            rw [at1] at this; exact nm v hv this)]
      · rw [cn v q, sumN_congr (g := fun _ => 0) (fun i hi => if_neg (hno v q i hi)), sumN_zero])
    rw [e1, sumN_comm, sumN_congr (g := c) (fun i hi => ?_)]
    · exact c5
    · rcases c3 i hi with z | ⟨u, u1, u2, -⟩
      · rw [sumN_congr (g := fun _ => 0) (fun v hv => if_neg (fun y => by rw [z.1] at y; exact nm v hv y.symm)), sumN_zero]; exact z.2.symm
      · rw [sumN_congr (g := fun v => if u = v then c i else 0) (fun v hv => by
          by_cases e : u = v
          · rw [if_pos e, if_pos (by rw [u2, e])]
          · rw [if_neg e, if_neg (fun y => e (by rw [u2] at y; exact ofN_inj (by omega) (by omega) y))]), sumN_single u1]
  · have lt : ∀ t, decide (0 < cv t) = true → ctr m (Int32.ofNat t) < mm := fun t pt => by
      have pt := of_decide_eq_true pt
      by_cases q : ctr m (Int32.ofNat t) < mm
      · exact q
      · rw [cn t q] at pt; omega
    refine pigeon (p := fun v => decide (0 < cv v)) (n := sz) (f := fun v => ctr m (Int32.ofNat v)) mm _ (fun t ht pt => lt t pt) (fun s t hs ht ps pt e => ?_)
    have e : ctr m (Int32.ofNat s) = ctr m (Int32.ofNat t) := e
    have a1 := hat t (lt t pt)
    have a2 := hat s (lt s ps)
    rw [e, a1] at a2
    exact (ofN_inj (by omega) (by omega) a2).symm
  · have : b * 1 ≤ b * (mm + 1) := Nat.mul_le_mul_left _ (by omega)
    omega
