/-! THE PURE SIDE, 51: pairs by places and by things -/
section
variable {n : Nat → Int32}
/-- a sum over the things with an item is one over the places -/
theorem sum_pl (G : MG n) {i : Nat} (hi : i < 5) (g : Nat → Nat) : sumN (fun t => if hs n i t then g t else 0) 20 = sumN (fun p => g (thi n i p)) (itm n i) := by
  have e1 : sumN (fun t => if hs n i t then g t else 0) 20 = sumN (fun t => sumN (fun p => if thi n i p = t then g t else 0) (itm n i)) 20 := by
    refine sumN_congr (fun t ht => ?_)
    by_cases q : hs n i t = true
    · rw [if_pos q]
      have hp := pla_itm G hi ht q
      have e2 : sumN (fun p => if thi n i p = t then g t else 0) (itm n i) = sumN (fun p => g t * (if pla n i t = p then 1 else 0)) (itm n i) := sumN_congr (fun p hp => by
        by_cases y : thi n i p = t
        · rw [if_pos y, if_pos (by rw [← y]; exact (thi_spec G hi hp).2.2), Nat.mul_one]
        · rw [if_neg y, if_neg (fun z => y (by rw [← z]; exact thi_of G hi ht q)), Nat.mul_zero])
      have e3 : ∀ m c (f : Nat → Nat), sumN (fun p => c * f p) m = c * sumN f m := fun m c f => by
        induction m with
        | zero => exact (Nat.mul_zero _).symm
        | succ m ih => rw [sumN_s, sumN_s, ih, Nat.mul_add]
      rw [e2, e3, sumN_one hp, Nat.mul_one]
    · rw [if_neg q, sumN_congr (g := fun _ => 0) (fun p hp => if_neg (fun z => q (by rw [← z]; exact (thi_spec G hi hp).2.1))), sumN_zero]
  rw [e1, sumN_comm]
  refine sumN_congr (fun p hp => ?_)
  have ht := (thi_spec G hi hp).1
  have e3 : ∀ m c (f : Nat → Nat), sumN (fun p => c * f p) m = c * sumN f m := fun m c f => by
    induction m with
    | zero => exact (Nat.mul_zero _).symm
    | succ m ih => rw [sumN_s, sumN_s, ih, Nat.mul_add]
  rw [sumN_congr (g := fun t => g (thi n i p) * (if thi n i p = t then 1 else 0)) (fun t _ => by
    by_cases y : thi n i p = t
    · rw [if_pos y, if_pos y, Nat.mul_one, y]
    · rw [if_neg y, if_neg y, Nat.mul_zero]), e3, sumN_one ht, Nat.mul_one]
theorem cnt_pl (G : MG n) {i : Nat} (hi : i < 5) (R : Nat → Bool) : cnt (fun t => hs n i t && R t) 20 = cnt (fun p => R (thi n i p)) (itm n i) := by
  rw [cnt_sum, cnt_sum]
  have := sum_pl G hi (fun t => if R t then 1 else 0)
  refine Eq.trans (sumN_congr (fun t _ => ?_)) this
  cases hs n i t <;> cases R t <;> rfl
/-- the mark as a number -/
def mkT (n : Nat → Int32) (i t : Nat) : Nat := (n (20 * i + t)).toNatClampNeg
theorem mkT_pl {i p : Nat} (hp : p < itm n i) : mkT n i (thi n i p) = mkN n i p := by
  unfold mkT mkN mkO
  rw [if_pos hp]
theorem mkT_nat (G : MG n) {i t : Nat} (hi : i < 5) (ht : t < 20) (q : hs n i t = true) : n (20 * i + t) = Int32.ofNat (mkT n i t) ∧ mkT n i t < 100 := by
  obtain ⟨m, m1, m2⟩ := MG_nat G hi ht q
  unfold mkT
  rw [m2, ofN_clamp (by omega)]
  exact ⟨rfl, m1⟩
/-- pairs of things whose marks' sum is as R says -/
def prs (n : Nat → Int32) (a b : Nat) (R : Nat → Bool) (A : Nat) : Nat := if hs n a A then cnt (fun t => hs n b t && R (mkT n a A + mkT n b t)) 20 else 0
theorem prs_pl (G : MG n) {a b : Nat} (ha : a < 5) (hb : b < 5) (R : Nat → Bool) : sumN (prs n a b R) 20 = sumN (fun p => cnt (fun q => R (mkN n a p + mkN n b q)) (itm n b)) (itm n a) := by
  have := sum_pl G ha (fun A => cnt (fun t => hs n b t && R (mkT n a A + mkT n b t)) 20)
  refine Eq.trans this (sumN_congr (fun p hp => ?_))
  rw [cnt_pl G hb (fun t => R (mkT n a (thi n a p) + mkT n b t)), mkT_pl hp]
  exact cnt_congr (fun q hq => by rw [mkT_pl hq])
theorem cup_more (G : MG n) {a b : Nat} (ha : a < 5) (hb : b < 5) : ∀ D, D ≤ 198 → cup n a b D = sumN (fun p => cnt (fun q => decide (198 - D < mkN n a p + mkN n b q)) (itm n b)) (itm n a) := by
  intro D
  induction D with
  | zero =>
    intro _
    show 0 = _
    rw [sumN_congr (g := fun _ => 0) (fun p hp => ?_), sumN_zero]
    rw [cnt_congr (q := fun _ => false) (fun q hq => ?_)]
    · have : ∀ m, cnt (fun _ => false) m = 0 := fun m => by
        induction m with
        | zero => rfl
        | succ m ih => unfold cnt; rw [ih]; simp
      exact this _
    · have h1 := (mkN_spec G ha hp).2
      have h2 := (mkN_spec G hb hq).2
      exact decide_eq_false (by omega)
  | succ D ih =>
    intro hD
    have e1 : cup n a b (D + 1) = cup n a b D + tot n a b (198 - D) := rfl
    rw [e1, ih (by omega)]
    unfold tot
    rw [← sumN_add]
    refine sumN_congr (fun p hp => ?_)
    show cnt _ _ + tps n a b (198 - D) p = _
    unfold tps ev
    rw [cnt_sum, cnt_sum, cnt_sum, ← sumN_add]
    refine sumN_congr (fun q hq => ?_)
    generalize mkN n a p + mkN n b q = x
    by_cases c1 : 198 - D < x
    · rw [if_pos (decide_eq_true c1), if_neg (by rw [decide_eq_true_eq]; omega), if_pos (decide_eq_true (by omega))]
    · by_cases c2 : x = 198 - D
      · rw [if_neg (by rw [decide_eq_true_eq]; exact c1), if_pos (decide_eq_true c2), if_pos (decide_eq_true (by omega))]
      · rw [if_neg (by rw [decide_eq_true_eq]; exact c1), if_neg (by rw [decide_eq_true_eq]; exact c2), if_neg (by rw [decide_eq_true_eq]; omega)]
theorem more_cup (G : MG n) {a b D : Nat} (ha : a < 5) (hb : b < 5) (hD : D ≤ 198) : sumN (prs n a b (fun x => decide (198 - D < x))) 20 = cup n a b D := by
  rw [prs_pl G ha hb, cup_more G ha hb D hD]
theorem same_tot (G : MG n) {a b s : Nat} (ha : a < 5) (hb : b < 5) : sumN (prs n a b (fun x => decide (x = s))) 20 = tot n a b s := by
  rw [prs_pl G ha hb]; rfl
/-! the order of the pairs -/
theorem PF_lex {i j s k k' p q p' q' : Nat} (a : PF n i j s k p q) (b : PF n i j s k' p' q') (h : k < k') : p < p' ∨ (p = p' ∧ q < q') := by
  obtain ⟨a1, a2, a3, a4⟩ := a
  obtain ⟨b1, b2, b3, b4⟩ := b
  by_cases c1 : p < p'
  · exact Or.inl c1
  · by_cases c2 : p' < p
    · exfalso
      have := sumN_mono (f := tps n i j s) (show p' + 1 ≤ p by omega)
      rw [sumN_s] at this
      have h5 : cnt (ev n i j s p') q' < tps n i j s p' := cnt_lt_of b2 b3
      omega
    · have e : p = p' := by omega
      subst e
      by_cases c3 : q < q'
      · exact Or.inr ⟨rfl, c3⟩
      · exfalso
        have := cnt_mono_n (p := ev n i j s p) (show q' ≤ q by omega)
        omega
def pk (s p q : Nat) : Int32 := Int32.ofNat s * 400 - Int32.ofNat p * 20 - Int32.ofNat q
theorem pk_int {s p q : Nat} (hs : s < 199) (hp : p < 20) (hq : q < 20) : (pk s p q).toInt = 400 * (s : Int) - 20 * p - q := by
  unfold pk
  rw [show (400 : Int32) = Int32.ofNat 400 from rfl, show (20 : Int32) = Int32.ofNat 20 from rfl, ofN_mul, ofN_mul, Int32.toInt_sub, Int32.toInt_sub, ofN_int (by omega), ofN_int (by omega), ofN_int (by omega)]
  rw [Int.bmod_eq_of_le_mul_two (x := ((s * 400 : Nat) : Int) - ((p * 20 : Nat) : Int)) (by omega) (by omega), Int.bmod_eq_of_le_mul_two (by omega) (by omega)]
  omega
theorem pk_desc (G : MG n) {a b k p q p' q' : Nat} (ha : a < 5) (hb : b < 5) (hk : k + 1 < itm n a * itm n b) (H : PA n a b k p q) (H' : PA n a b (k + 1) p' q') : pk (198 - pdn n a b (k + 1)) p' q' < pk (198 - pdn n a b k) p q := by
  obtain ⟨d1, d2, d3, d4⟩ := pdn_spec G ha hb (show k < itm n a * itm n b by omega)
  obtain ⟨f1, f2, f3, f4⟩ := pdn_spec G ha hb hk
  obtain ⟨p1, q1⟩ := pq_20 H
  obtain ⟨p2, q2⟩ := pq_20 H'
  have mono : pdn n a b k ≤ pdn n a b (k + 1) := by
    by_cases c : pdn n a b k ≤ pdn n a b (k + 1)
    · exact c
    · exfalso
      have := d4 (pdn n a b (k + 1)) (by omega)
      have e : cup n a b (pdn n a b (k + 1) + 1) = cup n a b (pdn n a b (k + 1)) + tot n a b (198 - pdn n a b (k + 1)) := rfl
      omega
  rw [i32_lt, pk_int (by omega) p2 q2, pk_int (by omega) p1 q1]
  by_cases c : pdn n a b k = pdn n a b (k + 1)
  · unfold PA at H H'
    rw [← c] at H' f2 ⊢
    have := PF_lex H H' (by omega)
    omega
  · omega
end
