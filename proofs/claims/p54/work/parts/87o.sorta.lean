/-! THE PURE SIDE, 57: sorting, the tools -/
theorem tl {x y : Int32} : x ≤ y ↔ x.toInt ≤ y.toInt := Int32.le_iff_toInt_le
theorem tt {x y : Int32} : x < y ↔ x.toInt < y.toInt := Int32.lt_iff_toInt_lt
theorem tg {x y : Int32} (h : y.toInt < x.toInt) : ¬ x ≤ y := fun q => by have := tl.mp q; omega
theorem tn {x y : Int32} (h : y.toInt ≤ x.toInt) : ¬ x < y := fun q => by have := tt.mp q; omega
/-- a permutation that moves nothing outside lo .. hi - 1 -/
def Pm (N lo hi : Nat) (f g : Nat → Int32) : Prop := Prm N f g ∧ ∀ t, t < lo ∨ hi ≤ t → g t = f t
def Sg (lo hi : Nat) (g : Nat → Int32) : Prop := ∀ i k, lo ≤ i → i < k → k < hi → (g i).toInt ≤ (g k).toInt
theorem Pm.refl (N lo hi : Nat) (f : Nat → Int32) : Pm N lo hi f f := ⟨Prm.refl N f, fun _ _ => rfl⟩
theorem Pm.trans {N lo hi : Nat} {f g e : Nat → Int32} (a : Pm N lo hi f g) (b : Pm N lo hi g e) : Pm N lo hi f e := ⟨a.1.trans b.1, fun t ht => (b.2 t ht).trans (a.2 t ht)⟩
theorem Pm.mono {N lo hi l2 h2 : Nat} {f g : Nat → Int32} (a : Pm N lo hi f g) (h1 : l2 ≤ lo) (h3 : hi ≤ h2) : Pm N l2 h2 f g := ⟨a.1, fun t ht => a.2 t (by omega)⟩
theorem Pm.swap {N lo hi i k : Nat} {f g : Nat → Int32} (hN : hi ≤ N) (i1 : lo ≤ i) (i2 : i < hi) (k1 : lo ≤ k) (k2 : k < hi) (e1 : g i = f k) (e2 : g k = f i) (h : ∀ j, j ≠ i → j ≠ k → g j = f j) : Pm N lo hi f g :=
  ⟨Prm.swap (by omega) (by omega) e1 e2 (fun j _ a b => h j a b), fun t ht => h t (by omega) (by omega)⟩
theorem Pm.all {N lo hi : Nat} {f g : Nat → Int32} (P : Int32 → Prop) (a : Pm N lo hi f g) (hN : hi ≤ N) (h : ∀ t, lo ≤ t → t < hi → P (f t)) : ∀ t, lo ≤ t → t < hi → P (g t) := fun t t1 t2 => by
  classical
  by_cases z : P (g t)
  · exact z
  · exfalso
    have key := a.1 (fun x => decide (¬ P x))
    obtain ⟨d, rfl⟩ : ∃ d, N = hi + d := ⟨N - hi, by omega⟩
    obtain ⟨e, rfl⟩ : ∃ e, hi = lo + e := ⟨hi - lo, by omega⟩
    rw [cnt_add, cnt_add, cnt_add _ (lo + e) d, cnt_add _ lo e] at key
    have e1 : cnt (fun i => decide (¬ P (g i))) lo = cnt (fun i => decide (¬ P (f i))) lo := cnt_congr (fun i hi => by rw [a.2 i (by omega)])
    have e2 : cnt (fun i => decide (¬ P (g (lo + e + i)))) d = cnt (fun i => decide (¬ P (f (lo + e + i)))) d := cnt_congr (fun i hi => by rw [a.2 _ (by omega)])
    have e3 : cnt (fun i => decide (¬ P (f (lo + i)))) e = 0 := by
      have z : ∀ n, cnt (fun _ => false) n = 0 := fun n => by
        induction n with
        | zero => rfl
        | succ n ih => rw [cnt_f rfl, ih]
      rw [cnt_congr (q := fun _ => false) (fun i hi => decide_eq_false (not_not_intro (h (lo + i) (by omega) (by omega)))), z]
    have e4 : 0 < cnt (fun i => decide (¬ P (g (lo + i)))) e := cnt_pos (p := fun i => decide (¬ P (g (lo + i)))) (k := t - lo) (by omega) (by
      show decide (¬ P (g (lo + (t - lo)))) = true
      rw [show lo + (t - lo) = t by omega]; exact decide_eq_true z)
    omega
/-- the row a holds f -/
def St (a N K : Nat) (h0 h : mxH) (f : Nat → Int32) : Prop := SX a K h0 h ∧ AT h a N f ∧ a < h0.2 ∧ 2 ≤ a ∧ N ≤ 60
section
variable {a N K : Nat} {h0 h : mxH} {f F : Nat → Int32}
theorem St.n (S : St a N K h0 h f) : N ≤ 60 := S.2.2.2.2
theorem St.ld (S : St a N K h0 h f) {k : Nat} (hk : k < N) : ldI h a (Int32.ofNat k) = some (f k) := S.2.1.ld hk (by have := S.n; omega)
theorem St.st (S : St a N K h0 h f) {k : Nat} {x : Int32} (hk : k < N) : stI h a (Int32.ofNat k) x = some (sA h a k x) ∧ St a N K h0 (sA h a k x) (fup f k x) := by
  obtain ⟨w, A⟩ := S.2.1.st (k := k) (x := x) S.2.2.2.1 hk (by have := S.n; omega)
  exact ⟨w, S.1.up S.2.2.1, A, S.2.2⟩
theorem St.eq {g : Nat → Int32} (S : St a N K h0 h f) (e : ∀ k, f k = g k) : St a N K h0 h g := by
  rw [← show f = g from funext e]; exact S
theorem sub_add1 (x : Int32) : x - 1 + 1 = x := by
  apply Int32.toBitVec_inj.mp
  simp
theorem add_sub1 (x : Int32) : x + 1 - 1 = x := by
  apply Int32.toBitVec_inj.mp
  simp
/-- the key's way down: what stands over p is not under it -/
def Ins (N lo i p : Nat) (key : Int32) (F f : Nat → Int32) : Prop :=
  lo ≤ p ∧ p ≤ i ∧ i < N ∧ Prm N f (fup F p key) ∧ (∀ t, t < lo ∨ i < t → F t = f t) ∧ (∀ x y, lo ≤ x → x < y → y ≤ i → x ≠ p → y ≠ p → (F x).toInt ≤ (F y).toInt) ∧ ∀ y, p < y → y ≤ i → key.toInt ≤ (F y).toInt
theorem Ins.start {lo i : Nat} (hi : i < N) (h1 : lo ≤ i) (s : Sg lo i f) : Ins N lo i i (f i) f f :=
  ⟨h1, Nat.le_refl _, hi, by rw [fup_same]; exact Prm.refl N f, fun _ _ => rfl, fun x y h1 h2 h3 h4 h5 => s x y h1 h2 (by omega), fun y h1 h2 => by omega⟩
theorem Ins.step {lo i p : Nat} {key : Int32} (I : Ins N lo i p key F f) (hp : lo < p) (q : key.toInt < (F (p - 1)).toInt) : Ins N lo i (p - 1) key (fup F p (F (p - 1))) f := by
  obtain ⟨i1, i2, i3, i4, i5, i6, i7⟩ := I
  refine ⟨by omega, by omega, i3, i4.trans (Prm.swap (i := p) (k := p - 1) (by omega) (by omega) ?_ ?_ (fun j _ j1 j2 => ?_)), fun t ht => by rw [fup_ne (by omega)]; exact i5 t ht, fun x y h1 h2 h3 h4 h5 => ?_, fun y h1 h2 => ?_⟩
  · rw [fup_ne (by omega), fup_eq, fup_ne (by omega)]
  · rw [fup_eq, fup_eq]
  · rw [fup_ne j2, fup_ne j1, fup_ne j1]
  · by_cases e : y = p
    · rw [e, fup_eq, fup_ne (by omega)]; exact i6 x (p - 1) h1 (by omega) (by omega) (by omega) (by omega)
    · by_cases e2 : x = p
      · rw [e2, fup_eq, fup_ne e]; exact i6 (p - 1) y (by omega) (by omega) h3 (by omega) e
      · rw [fup_ne e2, fup_ne e]; exact i6 x y h1 h2 h3 e2 e
  · by_cases e : y = p
    · rw [e, fup_eq]; omega
    · rw [fup_ne e]; exact i7 y (by omega) h2
theorem Ins.done {lo i p : Nat} {key : Int32} (I : Ins N lo i p key F f) (q : p = lo ∨ (F (p - 1)).toInt ≤ key.toInt) : Pm N lo (i + 1) f (fup F p key) ∧ Sg lo (i + 1) (fup F p key) := by
  obtain ⟨i1, i2, i3, i4, i5, i6, i7⟩ := I
  refine ⟨⟨i4, fun t ht => by rw [fup_ne (by omega)]; exact i5 t (by omega)⟩, fun x y h1 h2 h3 => ?_⟩
  by_cases e : x = p
  · rw [e, fup_eq, fup_ne (by omega)]; exact i7 y (by omega) (by omega)
  · by_cases e2 : y = p
    · rw [e2, fup_eq, fup_ne e]
      by_cases e3 : x = p - 1
      · rw [e3]; omega
      · have := i6 x (p - 1) h1 (by omega) (by omega) e (by omega); omega
    · rw [fup_ne e, fup_ne e2]; exact i6 x y h1 h2 (by omega) e e2
/-- down to the row's begin -/
theorem ins_A {β : Type} {i p : Nat} {key : Int32} {k : mxH → Option β} {Q : β → Prop} (S : St a N K h0 h F) (I : Ins N 0 i p key F f) (kk : ∀ g f', St a N K h0 g f' → Pm N 0 (i + 1) f f' → Sg 0 (i + 1) f' → Ok (k g) Q) :
    Ok (Option.bind (mxLoop (ρ := (Int32 × mxH)) (fun s38 : (Int32 × mxH) => (if (s38.1 - 1) < 0 then some (Sum.inr (s38.1 - 1, s38.2)) else Option.bind (ldI s38.2 a (s38.1 - 1)) (fun v47 => (if v47 ≤ key then some (Sum.inr (s38.1 - 1, s38.2)) else Option.bind (ldI s38.2 a (s38.1 - 1)) (fun v50 => Option.bind (stI s38.2 a ((s38.1 - 1) + 1) v50) (fun h52 => some (Sum.inl (s38.1 - 1, h52)))))))) mxF (Int32.ofNat p, h)) (fun r54 : (Int32 × mxH) => Option.bind (stI r54.2 a (r54.1 + 1) key) k)) Q := by
  have n60 := S.n
  have pi := I.2.1
  have iN := I.2.2.1
  refine Ok_b (P := fun r => ∃ p F, r.1 = Int32.ofNat p - 1 ∧ St a N K h0 r.2 F ∧ Ins N 0 i p key F f ∧ (p = 0 ∨ (F (p - 1)).toInt ≤ key.toInt)) (Ok_loopE (fun t s => ∃ q F, q + t = p ∧ s.1 = Int32.ofNat q ∧ St a N K h0 s.2 F ∧ Ins N 0 i q key F f) p ⟨p, F, by omega, rfl, S, I⟩ ?_ (by unfold mxF; omega)) ?_
  · rintro t ⟨s, g⟩ ht ⟨q, F, e, es, S, I⟩
    obtain rfl := show s = _ from es
    have S : St a N K h0 g F := S
    by_cases z : q = 0
    · subst z
      exact Ok_e (a := .inr (Int32.ofNat 0 - 1, g)) (if_pos (show Int32.ofNat 0 - 1 < 0 by decide)) (Or.inr ⟨(Int32.ofNat 0 - 1, g), rfl, 0, F, rfl, S, I, Or.inl rfl⟩)
    · have l := S.ld (k := q - 1) (by omega)
      obtain ⟨w, S2⟩ := S.st (k := q) (x := F (q - 1)) (by omega)
      have e1 := ofN_pred (a := q) (by omega) (by omega)
      simp only [e1, if_neg (ofN_nn (k := q - 1) (by omega)), l, bN]
      by_cases y : (F (q - 1)).toInt ≤ key.toInt
      · rw [if_pos (tl.mpr y)]
        exact Ok_p (Or.inr ⟨_, rfl, q, F, by rw [e1], S, I, Or.inr y⟩)
      · rw [if_neg (tg (by omega)), ← e1, sub_add1, w]
        exact Ok_p (Or.inl ⟨_, rfl, by omega, q - 1, _, by omega, e1, S2, I.step (by omega) (by omega)⟩)
  · rintro ⟨r, g⟩ ⟨q, F, er, S, I, y⟩
    obtain rfl := show r = _ from er
    have S : St a N K h0 g F := S
    obtain ⟨w, S2⟩ := S.st (k := q) (x := key) (by have := I.2.1; omega)
    show Ok (Option.bind (stI g a (Int32.ofNat q - 1 + 1) key) k) Q
    rw [sub_add1]
    refine Ok_s w ?_
    obtain ⟨d1, d2⟩ := I.done y
    exact kk _ _ S2 d1 d2
/-- down to what stands before the part, which is under all -/
theorem ins_B {β : Type} {lo i p : Nat} {key : Int32} {k : mxH → Option β} {Q : β → Prop} (S : St a N K h0 h F) (I : Ins N lo i p key F f) (h1 : 1 ≤ lo) (hs : (f (lo - 1)).toInt ≤ key.toInt) (kk : ∀ g f', St a N K h0 g f' → Pm N lo (i + 1) f f' → Sg lo (i + 1) f' → Ok (k g) Q) :
    Ok (Option.bind (mxLoop (ρ := (Int32 × mxH)) (fun s744 : (Int32 × mxH) => Option.bind (ldI s744.2 a (s744.1 - 1)) (fun v752 => (if v752 ≤ key then some (Sum.inr (s744.1 - 1, s744.2)) else Option.bind (ldI s744.2 a (s744.1 - 1)) (fun v755 => Option.bind (stI s744.2 a ((s744.1 - 1) + 1) v755) (fun h757 => some (Sum.inl (s744.1 - 1, h757))))))) mxF (Int32.ofNat p, h)) (fun r759 : (Int32 × mxH) => Option.bind (stI r759.2 a (r759.1 + 1) key) k)) Q := by
  have n60 := S.n
  have pi := I.2.1
  have iN := I.2.2.1
  refine Ok_b (P := fun r => ∃ p F, r.1 = Int32.ofNat p - 1 ∧ St a N K h0 r.2 F ∧ Ins N lo i p key F f ∧ (p = lo ∨ (F (p - 1)).toInt ≤ key.toInt)) (Ok_loopE (fun t s => ∃ q F, q + t = p ∧ s.1 = Int32.ofNat q ∧ St a N K h0 s.2 F ∧ Ins N lo i q key F f) p ⟨p, F, by omega, rfl, S, I⟩ ?_ (by unfold mxF; omega)) ?_
  · rintro t ⟨s, g⟩ ht ⟨q, F, e, es, S, I⟩
    obtain rfl := show s = _ from es
    have S : St a N K h0 g F := S
    have ql := I.1
    have l := S.ld (k := q - 1) (by omega)
    obtain ⟨w, S2⟩ := S.st (k := q) (x := F (q - 1)) (by omega)
    have e1 := ofN_pred (a := q) (by omega) (by omega)
    simp only [e1, l, bN]
    by_cases y : (F (q - 1)).toInt ≤ key.toInt
    · rw [if_pos (tl.mpr y)]
      exact Ok_p (Or.inr ⟨_, rfl, q, F, by rw [e1], S, I, Or.inr y⟩)
    · have ne : q ≠ lo := fun z => by
        rw [z, I.2.2.2.2.1 (lo - 1) (by omega)] at y
        exact y hs
      rw [if_neg (tg (by omega)), ← e1, sub_add1, w]
      exact Ok_p (Or.inl ⟨_, rfl, by omega, q - 1, _, by omega, e1, S2, I.step (by omega) (by omega)⟩)
  · rintro ⟨r, g⟩ ⟨q, F, er, S, I, y⟩
    obtain rfl := show r = _ from er
    have S : St a N K h0 g F := S
    obtain ⟨w, S2⟩ := S.st (k := q) (x := key) (by have := I.2.1; omega)
    show Ok (Option.bind (stI g a (Int32.ofNat q - 1 + 1) key) k) Q
    rw [sub_add1]
    refine Ok_s w ?_
    obtain ⟨d1, d2⟩ := I.done y
    exact kk _ _ S2 d1 d2
theorem Sg.more {lo k : Nat} (s : Sg lo (k + 1) f) (q : (f k).toInt ≤ (f (k + 1)).toInt) : Sg lo (k + 2) f := fun i j h1 h2 h3 => by
  by_cases e : j = k + 1
  · rw [e]
    by_cases e2 : i = k
    · rw [e2]; exact q
    · have := s i k h1 (by omega) (by omega); omega
  · exact s i j h1 h2 (by omega)
theorem Sg.le {lo hi l2 h2 : Nat} (s : Sg lo hi f) (a : lo ≤ l2) (b : h2 ≤ hi) : Sg l2 h2 f := fun i j h1 h3 h4 => s i j (by omega) h3 (by omega)
theorem Sg.one (lo : Nat) (f : Nat → Int32) : Sg lo (lo + 1) f := fun i j h1 h2 h3 => by omega
/-- the plain sort of 0 .. hi - 1 -/
theorem l_insertion {hi : Nat} (S : St a N K h0 h f) (hN : hi ≤ N) : Ok (fX12_insertionSort a 0 (Int32.ofNat hi) h) (fun g => ∃ f', St a N K h0 g f' ∧ Pm N 0 hi f f' ∧ Sg 0 hi f') := by
  have n60 := S.n
  unfold fX12_insertionSort
  refine Ok_b (P := fun g => ∃ f', St a N K h0 g f' ∧ Pm N 0 hi f f' ∧ Sg 0 hi f') (Ok_loop (fun k s => s.1 = Int32.ofNat k ∧ ∃ f', St a N K h0 s.2 f' ∧ Pm N 0 hi f f' ∧ Sg 0 (k + 1) f') (hi - 1) ⟨rfl, f, S, Pm.refl _ _ _ _, Sg.one 0 f⟩ ?_ ?_ (by unfold mxF; omega)) (fun g H => Ok_p H)
  · rintro k ⟨s, g⟩ hk ⟨es, f', S, P, s'⟩
    obtain rfl := show s = _ from es
    have S : St a N K h0 g f' := S
    simp only [ofN_succ, if_neg (nle (show k + 1 < hi by omega) (by omega)), ofN_pred (a := k + 1) (by omega) (by omega), S.ld (k := k + 1) (by omega), S.ld (k := k + 1 - 1) (by omega), bN]
    by_cases q : (f' (k + 1 - 1)).toInt ≤ (f' (k + 1)).toInt
    · rw [if_pos (tl.mpr q), bN]
      exact Ok_p ⟨_, rfl, rfl, f', S, P, s'.more q⟩
    · rw [if_neg (tg (by omega))]
      refine Ok_b (P := fun g => ∃ f', St a N K h0 g f' ∧ Pm N 0 hi f f' ∧ Sg 0 (k + 2) f') (ins_A (f := f') S (Ins.start (by omega) (by omega) s') (fun g2 f2 S2 P2 s2 => Ok_p ⟨f2, S2, P.trans (P2.mono (Nat.le_refl _) (by omega)), s2⟩)) (fun g2 ⟨f2, S2, P2, s2⟩ => Ok_p ⟨_, rfl, rfl, f2, S2, P2, s2⟩)
  · rintro ⟨s, g⟩ ⟨es, f', S, P, s'⟩
    obtain rfl := show s = _ from es
    have e : Int32.ofNat hi ≤ Int32.ofNat (hi - 1) + 1 := by
      rw [ofN_succ, ofN_le (by omega) (by omega)]; omega
    exact Ok_e (a := .inr g) (if_pos e) ⟨g, rfl, f', S, P, s'.le (Nat.le_refl _) (by omega)⟩
end
