/-! THE PURE SIDE, 24: sums of pairs -/
def sumN (f : Nat → Nat) : Nat → Nat := fo (fun c k => c + f k) 0
theorem sumN_s (f : Nat → Nat) (k : Nat) : sumN f (k + 1) = sumN f k + f k := rfl
theorem sumN_congr {f g : Nat → Nat} {n : Nat} (h : ∀ k, k < n → f k = g k) : sumN f n = sumN g n := fo_congr (fun x k hk => by rw [h k hk])
theorem sumN_add (f g : Nat → Nat) (n : Nat) : sumN (fun k => f k + g k) n = sumN f n + sumN g n := by
  induction n with
  | zero => rfl
  | succ n ih => rw [sumN_s, sumN_s, sumN_s, ih]; omega
theorem sumN_zero (n : Nat) : sumN (fun _ => 0) n = 0 := by
  induction n with
  | zero => rfl
  | succ n ih => rw [sumN_s, ih]
theorem sumN_comm (f : Nat → Nat → Nat) (m n : Nat) : sumN (fun a => sumN (f a) n) m = sumN (fun b => sumN (fun a => f a b) m) n := by
  induction m with
  | zero => exact (sumN_zero n).symm
  | succ m ih =>
    rw [sumN_s, ih, ← sumN_add]
    exact sumN_congr (fun k _ => rfl)
theorem sumN_le {f : Nat → Nat} {c n : Nat} (h : ∀ k, k < n → f k ≤ c) : sumN f n ≤ c * n := by
  induction n with
  | zero => exact Nat.zero_le _
  | succ n ih =>
    rw [sumN_s, Nat.mul_succ]
    have := ih (fun k hk => h k (by omega))
    have := h n (by omega)
    omega
theorem sumN_mono {f : Nat → Nat} {m n : Nat} (h : m ≤ n) : sumN f m ≤ sumN f n := by
  induction n with
  | zero => rw [show m = 0 by omega]; exact Nat.le_refl _
  | succ n ih =>
    by_cases e : m = n + 1
    · rw [e]; exact Nat.le_refl _
    · have := ih (by omega)
      rw [sumN_s]; omega
theorem sumN_one {k n : Nat} (h : k < n) : sumN (fun s => if k = s then 1 else 0) n = 1 := by
  induction n with
  | zero => omega
  | succ n ih =>
    rw [sumN_s]
    by_cases e : k = n
    · subst e
      rw [if_pos rfl, sumN_congr (g := fun _ => 0) (fun j hj => if_neg (by omega)), sumN_zero]
    · rw [if_neg e, ih (by omega)]
theorem cnt_sum (p : Nat → Bool) (n : Nat) : cnt p n = sumN (fun k => if p k then 1 else 0) n := by
  induction n with
  | zero => rfl
  | succ n ih => rw [sumN_s, ← ih]; rfl
/-- the mark on a place, as one of Nat -/
def mkN (n : Nat → Int32) (i p : Nat) : Nat := (mkO n i p).toNatClampNeg
theorem mkN_spec {n : Nat → Int32} (G : MG n) {i p : Nat} (hi : i < 5) (hp : p < itm n i) : mkO n i p = Int32.ofNat (mkN n i p) ∧ mkN n i p < 100 := by
  obtain ⟨h1, h2, h3⟩ := thi_spec G hi hp
  have e : mkO n i p = n (20 * i + thi n i p) := if_pos hp
  unfold mkN
  rw [e]
  simp only [hs, decide_eq_true_eq] at h2
  rcases G (20 * i + thi n i p) (by omega) with q | ⟨m, hm, q⟩
  · exact absurd q h2
  · rw [q, ofN_clamp (by omega)]; exact ⟨rfl, hm⟩
def ev (n : Nat → Int32) (i j s p : Nat) : Nat → Bool := fun q => decide (mkN n i p + mkN n j q = s)
def tps (n : Nat → Int32) (i j s p : Nat) : Nat := cnt (ev n i j s p) (itm n j)
def tot (n : Nat → Int32) (i j s : Nat) : Nat := sumN (tps n i j s) (itm n i)
def cup (n : Nat → Int32) (i j : Nat) : Nat → Nat := sumN (fun d => tot n i j (198 - d))
theorem tps_20 (n : Nat → Int32) (i j s p : Nat) : tps n i j s p ≤ 20 := by
  have := cnt_le (ev n i j s p) (itm n j)
  have := itm_20 n j
  unfold tps; omega
theorem pre_400 (n : Nat → Int32) (i j s : Nat) {p : Nat} (hp : p ≤ 20) : sumN (tps n i j s) p ≤ 400 := by
  have := sumN_le (f := tps n i j s) (c := 20) (n := p) (fun k _ => tps_20 n i j s k)
  omega
theorem tot_400 (n : Nat → Int32) (i j s : Nat) : tot n i j s ≤ 400 := pre_400 n i j s (itm_20 n i)
theorem cup_b (n : Nat → Int32) (i j : Nat) {d : Nat} (h : d ≤ 199) : cup n i j d ≤ 80000 := by
  have := sumN_le (f := fun d => tot n i j (198 - d)) (c := 400) (n := d) (fun k _ => tot_400 n i j _)
  unfold cup
  omega
theorem cup_all {n : Nat → Int32} (G : MG n) {i j : Nat} (hi : i < 5) (hj : j < 5) : cup n i j 199 = itm n i * itm n j := by
  unfold cup tot
  rw [sumN_comm]
  have e : ∀ p, p < itm n i → sumN (fun a => tps n i j (198 - a) p) 199 = itm n j := fun p hp => by
    have h1 := (mkN_spec G hi hp).2
    have e2 : ∀ a, tps n i j (198 - a) p = sumN (fun q => if ev n i j (198 - a) p q then 1 else 0) (itm n j) := fun a => cnt_sum _ _
    rw [sumN_congr (fun a _ => e2 a), sumN_comm]
    have e3 : ∀ q, q < itm n j → sumN (fun a => if ev n i j (198 - a) p q then 1 else 0) 199 = 1 := fun q hq => by
      have h2 := (mkN_spec G hj hq).2
      refine Eq.trans (sumN_congr (g := fun s => if 198 - (mkN n i p + mkN n j q) = s then 1 else 0) (fun a ha => ?_)) (sumN_one (k := 198 - (mkN n i p + mkN n j q)) (n := 199) (by omega))
      unfold ev
      by_cases c : mkN n i p + mkN n j q = 198 - a
      · rw [if_pos (decide_eq_true c), if_pos (by omega)]
      · rw [if_neg (by simpa using c), if_neg (by omega)]
    rw [sumN_congr e3]
    have : ∀ m, sumN (fun _ => 1) m = m := fun m => by
      induction m with
      | zero => rfl
      | succ m ih => rw [sumN_s, ih]
    exact this _
  rw [sumN_congr e]
  have : ∀ m c, sumN (fun _ => c) m = m * c := fun m c => by
    induction m with
    | zero => rw [Nat.zero_mul]; rfl
    | succ m ih => rw [sumN_s, ih, Nat.succ_mul]
  exact this _ _
theorem ar_cs : ar 318 199 := ⟨by omega, by omega, rfl, rfl⟩
theorem gR_cs {h : mxH} (W : WF h) : gR h 317 3 0 = some 318 := gR_at W ⟨by omega, by omega, rfl, by omega, by decide, rfl, by omega⟩
theorem fd_p1 : fd 317 3 1 := ⟨by omega, by omega, rfl, by omega, by decide, rfl⟩
theorem fd_p2 : fd 317 3 2 := ⟨by omega, by omega, rfl, by omega, by decide, rfl⟩
theorem fd_p3 : fd 317 3 3 := ⟨by omega, by omega, rfl, by omega, by decide, rfl⟩
theorem isO_P {h : mxH} (W : WF h) : isO h 317 3 = some () := isO_at W ⟨by omega, by omega, rfl⟩
theorem s_countSums {h : mxH} (W : WF h) {r i j : Nat} {n : Nat → Int32} (G : MG n) (R : RB r) (A : RR h r n) (hi : i < 5) (hj : j < 5) : Ok (fX3_countSums 317 r (Int32.ofNat i) (Int32.ofNat j) h) (fun h' => Fr (fun b => b = 318) h h' ∧ ∀ s, s < 199 → V h' 318 s = Int32.ofNat (tot n i j s)) := by
  have RL := RB_le R
  have hi20 := itm_20 n i
  have hj20 := itm_20 n j
  unfold fX3_countSums
  simp only [gR_cs W, bN]
  refine Ok_b (s_fill W ar_cs) (fun h1 ⟨F1, w1⟩ => ?_)
  refine Ok_b (P := fun h' => Fr (fun b => b = 318) h h' ∧ ∀ s, s < 199 → V h' 318 s = Int32.ofNat (tot n i j s)) (Ok_loop (fun p s => s.1 = Int32.ofNat p ∧ Fr (fun b => b = 318) h s.2 ∧ ∀ x, x < 199 → V s.2 318 x = Int32.ofNat (sumN (tps n i j x) p)) (itm n i) ⟨rfl, F1, fun x hx => w1 x hx⟩ ?_ ?_ (by unfold mxF; omega)) (fun h' H => Ok_p H)
  · rintro p ⟨s1, h2⟩ hp ⟨e, F, hv⟩
    obtain rfl := show s1 = _ from e
    have hv : ∀ x, x < 199 → V h2 318 x = Int32.ofNat (sumN (tps n i j x) p) := hv
    have A2 := RR_fr R A F (fun o ho => by omega)
    simp only [isO_R F.1 R, bN, s_sizeOf F.1 R hi, A2.2.2.2.1 i hi, if_neg (nle hp (by omega))]
    obtain ⟨ei, bi⟩ := mkN_spec G hi hp
    refine Ok_b (P := fun h3 => Fr (fun b => b = 318) h h3 ∧ ∀ x, x < 199 → V h3 318 x = Int32.ofNat (sumN (tps n i j x) (p + 1))) (Ok_loop (fun q s => s.1 = Int32.ofNat q ∧ Fr (fun b => b = 318) h s.2 ∧ ∀ x, x < 199 → V s.2 318 x = Int32.ofNat (sumN (tps n i j x) p + cnt (ev n i j x p) q)) (itm n j) ⟨rfl, F, fun x hx => hv x hx⟩ ?_ ?_ (by unfold mxF; omega)) (fun h3 ⟨F3, v3⟩ => Ok_p ⟨_, rfl, by show Int32.ofNat p + 1 = _; rw [ofN_succ], F3, v3⟩)
    · rintro q ⟨s1, h3⟩ hq ⟨e, F3, v3⟩
      obtain rfl := show s1 = _ from e
      have W3 := F3.1
      have v3 : ∀ x, x < 199 → V h3 318 x = Int32.ofNat (sumN (tps n i j x) p + cnt (ev n i j x p) q) := v3
      have A3 := RR_fr R A F3 (fun o ho => by omega)
      obtain ⟨ej, bj⟩ := mkN_spec G hj hq
      have b199 : mkN n i p + mkN n j q < 199 := by omega
      have S := ar_cs.sl b199
      simp only [isO_R W3 R, bN, s_sizeOf W3 R hj, A3.2.2.2.1 j hj, if_neg (nle hq (by omega)), s_markOn W3 G R A3 hi (show p ≤ 20 by omega), s_markOn W3 G R A3 hj (show q ≤ 20 by omega), ei, ej, ofN_add, if_neg (ofN_nn (show mkN n i p + mkN n j q < 2147483648 by omega)), gR_cs W3, lenA_at W3 ar_cs, if_neg (nle b199), ldI_at W3 ar_cs b199, v3 _ b199, ofN_succ, stI_at W3 ar_cs b199]
      refine Ok_p ⟨_, rfl, rfl, F3.trans (Fr.st W3 S rfl), fun x hx => ?_⟩
      show V (st _ _ _ _) _ _ = _
      rw [V_st W3 S]
      by_cases e : x = mkN n i p + mkN n j q
      · rw [if_pos ⟨rfl, e⟩, cnt_t (k := q) (by unfold ev; rw [e]; simp), e]; rfl
      · rw [if_neg (fun z => e z.2), cnt_f (k := q) (by unfold ev; exact decide_eq_false (fun z => e z.symm))]
        exact v3 x hx
    · rintro ⟨s1, h3⟩ ⟨e, F3, v3⟩
      obtain rfl := show s1 = _ from e
      have A3 := RR_fr R A F3 (fun o ho => by omega)
      refine Ok_e (a := .inr h3) ?_ ⟨_, rfl, F3, v3⟩
      simp only [isO_R F3.1 R, bN, s_sizeOf F3.1 R hj, A3.2.2.2.1 j hj, if_pos yle]
  · rintro ⟨s1, h2⟩ ⟨e, F, hv⟩
    obtain rfl := show s1 = _ from e
    have A2 := RR_fr R A F (fun o ho => by omega)
    refine Ok_e (a := .inr h2) ?_ ⟨_, rfl, F, hv⟩
    simp only [isO_R F.1 R, bN, s_sizeOf F.1 R hi, A2.2.2.2.1 i hi, if_pos yle]
/-- the pair of places that is the k-th of the sum s -/
def PF (n : Nat → Int32) (i j s k p q : Nat) : Prop := p < itm n i ∧ q < itm n j ∧ ev n i j s p q = true ∧ sumN (tps n i j s) p + cnt (ev n i j s p) q = k
theorem PF_inj {n : Nat → Int32} {i j s k p q p' q' : Nat} (a : PF n i j s k p q) (b : PF n i j s k p' q') : p = p' ∧ q = q' := by
  obtain ⟨a1, a2, a3, a4⟩ := a
  obtain ⟨b1, b2, b3, b4⟩ := b
  have key : ∀ {p q p' q'}, p < p' → q < itm n j → ev n i j s p q = true → sumN (tps n i j s) p + cnt (ev n i j s p) q < sumN (tps n i j s) p' + cnt (ev n i j s p') q' := fun {p q p' q'} h1 h2 h3 => by
    have := sumN_mono (f := tps n i j s) (show p + 1 ≤ p' by omega)
    rw [sumN_s] at this
    have h5 : cnt (ev n i j s p) q < tps n i j s p := cnt_lt_of h2 h3
    omega
  by_cases c1 : p < p'
  · have := key (q' := q') c1 a2 a3; omega
  · by_cases c2 : p' < p
    · have := key (q' := q) c2 b2 b3; omega
    · have e : p = p' := by omega
      subst e
      refine ⟨rfl, ?_⟩
      by_cases c3 : q < q'
      · have := cnt_lt_of c3 a3; omega
      · by_cases c4 : q' < q
        · have := cnt_lt_of c4 b3; omega
        · omega
/-- a search over all pairs of places; what is carried is c below the k-th, as cc says it -/
theorem pair_inner {i j s k p : Nat} {n : Nat → Int32} {cc : Nat → Int32} {f : Int32 × Int32 → Option ((Int32 × Int32) ⊕ (Int32 ⊕ Int32))} {c0 : Nat} (hj20 : itm n j ≤ 20)
    (yes : ∀ q, q < itm n j → ev n i j s p q = true → f (cc k, Int32.ofNat q) = some (.inr (.inl (Int32.ofNat q))))
    (up : ∀ q c, q < itm n j → ev n i j s p q = true → c < k → f (cc c, Int32.ofNat q) = some (.inl (cc (c + 1), Int32.ofNat (q + 1))))
    (no : ∀ q c, q < itm n j → ev n i j s p q = false → f (cc c, Int32.ofNat q) = some (.inl (cc c, Int32.ofNat (q + 1))))
    (last : ∀ c, f (cc c, Int32.ofNat (itm n j)) = some (.inr (.inr (cc c)))) (h0 : c0 ≤ k) :
    Ok (mxLoop f mxF (cc c0, 0)) (fun o => (∃ q, q < itm n j ∧ ev n i j s p q = true ∧ c0 + cnt (ev n i j s p) q = k ∧ o = .inl (Int32.ofNat q)) ∨ (c0 + tps n i j s p ≤ k ∧ o = .inr (cc (c0 + tps n i j s p)))) := by
  by_cases hx : c0 + tps n i j s p ≤ k
  · refine Ok_e (mxLoop_up (S := fun q => (cc (c0 + cnt (ev n i j s p) q), Int32.ofNat q)) (N := itm n j) (fun q hq => ?_) (last _) (by unfold mxF; omega)) (Or.inr ⟨hx, rfl⟩)
    cases e : ev n i j s p q
    · show _ = some (Sum.inl (cc (c0 + cnt (ev n i j s p) (q + 1)), _))
      rw [cnt_f e]; exact no q _ hq e
    · show _ = some (Sum.inl (cc (c0 + cnt (ev n i j s p) (q + 1)), _))
      rw [cnt_t e]
      have := cnt_lt_of hq e
      exact up q _ hq e (by unfold tps at hx; omega)
  · obtain ⟨q1, q2, q3⟩ := nth_found (p := ev n i j s p) (q := k - c0) (N := itm n j) (by unfold tps at hx; omega)
    generalize nth (ev n i j s p) (k - c0) (itm n j) = q0 at q1 q2 q3
    refine Ok_e (mxLoop_find (S := fun q => (cc (c0 + cnt (ev n i j s p) q), Int32.ofNat q)) (K := q0) (fun q hq => ?_) ?_ (by unfold mxF; omega)) (Or.inl ⟨q0, q1, q2, by omega, rfl⟩)
    · cases e : ev n i j s p q
      · show _ = some (Sum.inl (cc (c0 + cnt (ev n i j s p) (q + 1)), _))
        rw [cnt_f e]; exact no q _ (by omega) e
      · show _ = some (Sum.inl (cc (c0 + cnt (ev n i j s p) (q + 1)), _))
        rw [cnt_t e]
        have := cnt_lt_of hq e
        exact up q _ (by omega) e (by omega)
    · show f (cc (c0 + cnt (ev n i j s p) q0), _) = _
      rw [show c0 + cnt (ev n i j s p) q0 = k by omega]
      exact yes q0 q1 q2
theorem pair_outer {β : Type} {i j s k x0 : Nat} {n : Nat → Int32} {cc : Nat → Int32} {fin : Nat → β} {f : Int32 × Int32 → Option ((Int32 × Int32) ⊕ ((Int32 × Int32) ⊕ β))} (hi20 : itm n i ≤ 20)
    (step : ∀ p c0, p < itm n i → c0 ≤ k → Ok (f (cc c0, Int32.ofNat p)) (fun o => (∃ q, q < itm n j ∧ ev n i j s p q = true ∧ c0 + cnt (ev n i j s p) q = k ∧ o = .inr (.inl (Int32.ofNat p, Int32.ofNat q))) ∨ (c0 + tps n i j s p ≤ k ∧ o = .inl (cc (c0 + tps n i j s p), Int32.ofNat (p + 1)))))
    (last : ∀ c, f (cc c, Int32.ofNat (itm n i)) = some (.inr (.inr (fin c)))) (h0 : x0 ≤ k) :
    Ok (mxLoop f mxF (cc x0, 0)) (fun o => (∃ p q, PF n i j s (k - x0) p q ∧ o = .inl (Int32.ofNat p, Int32.ofNat q)) ∨ (x0 + tot n i j s ≤ k ∧ o = .inr (fin (x0 + tot n i j s)))) := by
  by_cases hx : x0 + tot n i j s ≤ k
  · refine Ok_e (mxLoop_up (S := fun p => (cc (x0 + sumN (tps n i j s) p), Int32.ofNat p)) (N := itm n i) (fun p hp => ?_) (last _) (by unfold mxF; omega)) (Or.inr ⟨hx, rfl⟩)
    have hm := sumN_mono (f := tps n i j s) (show p + 1 ≤ itm n i by omega)
    rw [sumN_s] at hm
    have hx2 : x0 + sumN (tps n i j s) (itm n i) ≤ k := hx
    obtain ⟨o, eo, ⟨q, q1, q2, q3, q4⟩ | ⟨q1, q2⟩⟩ := step p (x0 + sumN (tps n i j s) p) hp (by omega)
    · exfalso
      have := cnt_lt_of q1 q2
      have e : tps n i j s p = cnt (ev n i j s p) (itm n j) := rfl
      omega
    · show f (cc (x0 + sumN (tps n i j s) p), Int32.ofNat p) = some (Sum.inl (cc (x0 + sumN (tps n i j s) (p + 1)), Int32.ofNat (p + 1)))
      rw [eo, q2, sumN_s, Nat.add_assoc]
  · have hx2 : ¬ x0 + sumN (tps n i j s) (itm n i) ≤ k := hx
    have z : itm n i ≠ 0 := fun z => by rw [z] at hx2; exact hx2 h0
    have hf := fst1_found (p := fun p => decide (k < x0 + sumN (tps n i j s) (p + 1))) (n := itm n i) (k := itm n i - 1) (by omega) (by
      rw [show itm n i - 1 + 1 = itm n i by omega]; exact decide_eq_true (by omega))
    have hs := fst1_spec (fun p => decide (k < x0 + sumN (tps n i j s) (p + 1))) (itm n i)
    generalize fst1 (fun p => decide (k < x0 + sumN (tps n i j s) (p + 1))) (itm n i) = p0 at hf hs
    have h2 : k < x0 + sumN (tps n i j s) (p0 + 1) := of_decide_eq_true (hs.2 hf)
    have h1 : ∀ p, p < p0 → x0 + sumN (tps n i j s) (p + 1) ≤ k := fun p hp => by
      have : ¬ k < x0 + sumN (tps n i j s) (p + 1) := of_decide_eq_false (hs.1 p hp)
      omega
    have h3 : x0 + sumN (tps n i j s) p0 ≤ k := by
      cases p0 with
      | zero => exact h0
      | succ p0 => exact h1 p0 (by omega)
    obtain ⟨o, eo, ⟨q, q1, q2, q3, q4⟩ | ⟨q1, q2⟩⟩ := step p0 (x0 + sumN (tps n i j s) p0) hf h3
    · refine Ok_e (mxLoop_find (S := fun p => (cc (x0 + sumN (tps n i j s) p), Int32.ofNat p)) (K := p0) (fun p hp => ?_) ?_ (by unfold mxF; omega)) (Or.inl ⟨p0, q, ⟨hf, q1, q2, by omega⟩, rfl⟩)
      · have hx3 := h1 p hp
        rw [sumN_s] at hx3
        obtain ⟨o', eo', ⟨q', q1', q2', q3', q4'⟩ | ⟨q1', q2'⟩⟩ := step p (x0 + sumN (tps n i j s) p) (by omega) (by omega)
        · exfalso
          have := cnt_lt_of q1' q2'
          have e : tps n i j s p = cnt (ev n i j s p) (itm n j) := rfl
          omega
        · show f (cc (x0 + sumN (tps n i j s) p), Int32.ofNat p) = some (Sum.inl (cc (x0 + sumN (tps n i j s) (p + 1)), Int32.ofNat (p + 1)))
          rw [eo', q2', sumN_s, Nat.add_assoc]
      · show f (cc (x0 + sumN (tps n i j s) p0), Int32.ofNat p0) = _
        rw [eo, q4]
    · exfalso; rw [sumN_s] at h2; omega
/-- how far down the sums the k-th pair lies -/
def pdn (n : Nat → Int32) (i j k : Nat) : Nat := fst1 (fun d => decide (k < cup n i j (d + 1))) 199
theorem pdn_spec {n : Nat → Int32} (G : MG n) {i j k : Nat} (hi : i < 5) (hj : j < 5) (hk : k < itm n i * itm n j) : pdn n i j k < 199 ∧ cup n i j (pdn n i j k) ≤ k ∧ k < cup n i j (pdn n i j k) + tot n i j (198 - pdn n i j k) ∧ ∀ d, d < pdn n i j k → cup n i j (d + 1) ≤ k := by
  have hf := fst1_found (p := fun d => decide (k < cup n i j (d + 1))) (n := 199) (k := 198) (by omega) (decide_eq_true (by
    show k < cup n i j 199
    rw [cup_all G hi hj]; exact hk))
  have hs := fst1_spec (fun d => decide (k < cup n i j (d + 1))) 199
  unfold pdn
  generalize fst1 (fun d => decide (k < cup n i j (d + 1))) 199 = p0 at hf hs
  have h1 : ∀ d, d < p0 → cup n i j (d + 1) ≤ k := fun d hd => by
    have : ¬ k < cup n i j (d + 1) := of_decide_eq_false (hs.1 d hd)
    omega
  refine ⟨hf, ?_, of_decide_eq_true (hs.2 hf), h1⟩
  cases p0 with
  | zero => exact Nat.zero_le _
  | succ p0 => exact h1 p0 (by omega)
theorem sub_N {a b : Nat} (h : b ≤ a) (ha : a < 2147483648) : Int32.ofNat a - Int32.ofNat b = Int32.ofNat (a - b) := by
  rw [i32_eq, Int32.toInt_sub, ofN_int ha, ofN_int (by omega), ofN_int (by omega), Int.bmod_eq_of_le (by omega) (by omega)]
  omega
theorem s_findOfSum {h : mxH} (W : WF h) {r i j s k : Nat} {n : Nat → Int32} (G : MG n) (R : RB r) (A : RR h r n) (hi : i < 5) (hj : j < 5) (hs : V h 317 1 = Int32.ofNat s) (h199 : s < 199) (hk : k < tot n i j s) : Ok (fX3_findOfSum 317 r (Int32.ofNat i) (Int32.ofNat j) (Int32.ofNat k) h) (fun h' => ∃ p q, PF n i j s k p q ∧ h' = st (st h 317 2 (Int32.ofNat p)) 317 3 (Int32.ofNat q)) := by
  have hi20 := itm_20 n i
  have hj20 := itm_20 n j
  have ht := tot_400 n i j s
  unfold fX3_findOfSum
  refine Ok_b (pair_outer (i := i) (j := j) (s := s) (k := k) (x0 := 0) (n := n) (cc := Int32.ofNat) (fin := fun _ => ()) hi20 (fun p c0 hp hc0 => ?_) (fun c => ?_) (Nat.zero_le _)) (fun o H => ?_)
  · obtain ⟨ei, bi⟩ := mkN_spec G hi hp
    simp only [isO_R W R, bN, s_sizeOf W R hi, A.2.2.2.1 i hi, if_neg (nle hp (by omega))]
    have mrk : ∀ q, q < itm n j → fX6_markOn r (Int32.ofNat i) (Int32.ofNat p) h = some (Int32.ofNat (mkN n i p)) ∧ fX6_markOn r (Int32.ofNat j) (Int32.ofNat q) h = some (Int32.ofNat (mkN n j q)) ∧ mkN n j q < 100 := fun q hq => by
      obtain ⟨ej, bj⟩ := mkN_spec G hj hq
      exact ⟨by rw [s_markOn W G R A hi (by omega), ei], by rw [s_markOn W G R A hj (by omega), ej], bj⟩
    refine Ok_b (pair_inner (i := i) (j := j) (s := s) (k := k) (p := p) (n := n) (cc := Int32.ofNat) (c0 := c0) hj20 (fun q hq e => ?_) (fun q c hq e hc => ?_) (fun q c hq e => ?_) (fun c => ?_) hc0) (fun o H => ?_)
    · obtain ⟨m1, m2, m3⟩ := mrk q hq
      have e : mkN n i p + mkN n j q = s := of_decide_eq_true e
      simp only [isO_R W R, bN, s_sizeOf W R hj, A.2.2.2.1 j hj, if_neg (nle hq (by omega)), m1, m2, gI_at W fd_p1, hs, ofN_add, e, if_true]
    · obtain ⟨m1, m2, m3⟩ := mrk q hq
      have e : mkN n i p + mkN n j q = s := of_decide_eq_true e
      simp only [isO_R W R, bN, s_sizeOf W R hj, A.2.2.2.1 j hj, if_neg (nle hq (by omega)), m1, m2, gI_at W fd_p1, hs, ofN_add, e, if_true, if_neg (fun z => by have := (ofN_eq (show c < 2147483648 by omega) (show k < 2147483648 by omega)).mp z; omega : ¬ Int32.ofNat c = Int32.ofNat k), ofN_succ]
    · obtain ⟨m1, m2, m3⟩ := mrk q hq
      have e : ¬ mkN n i p + mkN n j q = s := of_decide_eq_false e
      simp only [isO_R W R, bN, s_sizeOf W R hj, A.2.2.2.1 j hj, if_neg (nle hq (by omega)), m1, m2, gI_at W fd_p1, hs, ofN_add, if_neg (fun z => e ((ofN_eq (by omega) (by omega)).mp z) : ¬ Int32.ofNat (mkN n i p + mkN n j q) = Int32.ofNat s), ofN_succ]
    · simp only [isO_R W R, bN, s_sizeOf W R hj, A.2.2.2.1 j hj, if_pos yle]
    · rcases H with ⟨q, q1, q2, q3, e⟩ | ⟨q1, e⟩
      · rw [e]; exact Ok_p (Or.inl ⟨q, q1, q2, q3, rfl⟩)
      · rw [e]; exact Ok_p (Or.inr ⟨q1, by rw [ofN_succ]⟩)
  · simp only [isO_R W R, bN, s_sizeOf W R hi, A.2.2.2.1 i hi, if_pos yle]
  · rcases H with ⟨p, q, H, e⟩ | ⟨H, e⟩
    · rw [e]
      have W2 := WF_st W (x := Int32.ofNat p) fd_p2.sl
      simp only [Sum.elim_inl, pI_at W fd_p2, bN, pI_at W2 fd_p3]
      exact Ok_p ⟨p, q, H, rfl⟩
    · omega
theorem s_find {h : mxH} (W : WF h) {r i j k : Nat} {n : Nat → Int32} (G : MG n) (R : RB r) (A : RR h r n) (hi : i < 5) (hj : j < 5) (hk : k < itm n i * itm n j) : Ok (fX3_find 317 r (Int32.ofNat i) (Int32.ofNat j) (Int32.ofNat k) h) (fun h' => Fr (fun b => b = 317 ∨ b = 318) h h' ∧ V h' 317 1 = Int32.ofNat (198 - pdn n i j k) ∧ ∃ p q, PF n i j (198 - pdn n i j k) (k - cup n i j (pdn n i j k)) p q ∧ V h' 317 2 = Int32.ofNat p ∧ V h' 317 3 = Int32.ofNat q) := by
  have RL := RB_le R
  have hi20 := itm_20 n i
  have hj20 := itm_20 n j
  have hk400 : k < 400 := Nat.lt_of_lt_of_le hk (Nat.mul_le_mul hi20 hj20)
  obtain ⟨d1, d2, d3, d4⟩ := pdn_spec G hi hj hk
  unfold fX3_find
  simp only [isO_P W, bN]
  refine Ok_b (s_countSums W G R A hi hj) (fun h1 ⟨F1, v1⟩ => ?_)
  have W1 := F1.1
  have A1 := RR_fr R A F1 (fun o ho => by omega)
  refine Ok_s (a := .inl (Int32.ofNat (cup n i j (pdn n i j k)), Int32.ofNat (198 - pdn n i j k))) (mxLoop_find (S := fun d => (Int32.ofNat (cup n i j d), Int32.ofNat (198 - d))) (K := pdn n i j k) (fun d hd => ?_) ?_ (by unfold mxF; omega)) ?_
  · have h4 := d4 d hd
    have ec : cup n i j (d + 1) = cup n i j d + tot n i j (198 - d) := rfl
    have hb := cup_b n i j (show d + 1 ≤ 199 by omega)
    show _ = some (Sum.inl (Int32.ofNat (cup n i j (d + 1)), Int32.ofNat (198 - (d + 1))))
    simp only [if_neg (ofN_nn (show 198 - d < 2147483648 by omega)), gR_cs W1, bN, ldI_at W1 ar_cs (show 198 - d < 199 by omega), v1 _ (show 198 - d < 199 by omega), ofN_add, if_pos ((ofN_le (show cup n i j d + tot n i j (198 - d) < 2147483648 by omega) (show k < 2147483648 by omega)).mpr (by omega)), ofN_pred (show 1 ≤ 198 - d by omega) (by omega)]
    rw [ec, show 198 - d - 1 = 198 - (d + 1) by omega]
  · have hb := cup_b n i j (show pdn n i j k ≤ 199 by omega)
    have ht := tot_400 n i j (198 - pdn n i j k)
    simp only [if_neg (ofN_nn (show 198 - pdn n i j k < 2147483648 by omega)), gR_cs W1, bN, ldI_at W1 ar_cs (show 198 - pdn n i j k < 199 by omega), v1 _ (show 198 - pdn n i j k < 199 by omega), ofN_add, if_neg (fun z => by have := (ofN_le (show cup n i j (pdn n i j k) + tot n i j (198 - pdn n i j k) < 2147483648 by omega) (show k < 2147483648 by omega)).mp z; omega : ¬ Int32.ofNat (cup n i j (pdn n i j k) + tot n i j (198 - pdn n i j k)) ≤ Int32.ofNat k)]
  · have S := fd_p1.sl
    have W2 := WF_st W1 (x := Int32.ofNat (198 - pdn n i j k)) S
    have F2 : Fr (fun b => b = 317 ∨ b = 318) h (st h1 317 1 (Int32.ofNat (198 - pdn n i j k))) := (F1.mono (fun b q => Or.inr q)).trans (Fr.st W1 S (Or.inl rfl))
    have A2 := RR_fr R A F2 (fun o ho => by omega)
    simp only [Sum.elim_inl, pI_at W1 fd_p1, bN, isO_P W2, sub_N d2 (show k < 2147483648 by omega)]
    refine Ok_b (s_findOfSum W2 G R A2 hi hj (s := 198 - pdn n i j k) (k := k - cup n i j (pdn n i j k)) (by rw [V_st W1 S, if_pos ⟨rfl, rfl⟩]) (by omega) (by omega)) (fun h3 ⟨p, q, H, e⟩ => ?_)
    subst e
    have W3 := WF_st W2 (x := Int32.ofNat p) fd_p2.sl
    refine Ok_p ⟨(F2.trans (Fr.st W2 fd_p2.sl (Or.inl rfl))).trans (Fr.st W3 fd_p3.sl (Or.inl rfl)), ?_, p, q, H, ?_, ?_⟩
    · rw [V_st W3 fd_p3.sl, if_neg (by omega), V_st W2 fd_p2.sl, if_neg (by omega), V_st W1 S, if_pos ⟨rfl, rfl⟩]
    · rw [V_st W3 fd_p3.sl, if_neg (by omega), V_st W2 fd_p2.sl, if_pos ⟨rfl, rfl⟩]
    · rw [V_st W3 fd_p3.sl, if_pos ⟨rfl, rfl⟩]
