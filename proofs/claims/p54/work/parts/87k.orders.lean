/-! THE PURE SIDE, 53: orders of candidates; the law's preferences -/
section
variable {n : Nat → Int32}
theorem DP_eq {D E : Nat → Nat} (a : DP n D (2 ^ cdC n)) (b : DP n E (2 ^ cdC n)) : ∀ m, m < 2 ^ cdC n → D m = E m := by
  have C6 := cdC_6 n
  have h64 := (full6 (cdC n) (by omega)).2
  intro m
  induction m using Nat.strongRecOn with
  | ind m ih =>
    intro hm
    by_cases z : m = 0
    · rw [z, a.1, b.1]
    · rw [a.2 m (by omega) hm, b.2 m (by omega) hm]
      have e1 : fof n D m = fof n E m := fof_congr (by omega) (fun i hi => ih i hi (by omega))
      rw [e1]
      have M := fof_MIN (n := n) (D := E) (m := m) (hasbit (cdC n) (by omega) m hm (by omega))
      have hl := clr_lt m (by omega) (fof n E m) (by have := M.1; omega) M.2.1
      exact swb_congr (ih _ hl (by omega))
theorem mks_eq {D E : Nat → Nat} (a : DP n D (2 ^ cdC n)) (b : DP n E (2 ^ cdC n)) : ∀ i, i ≤ cdC n → mks n D i = mks n E i ∧ fof n D (mks n D i) = fof n E (mks n E i) := by
  have C6 := cdC_6 n
  have h64 := (full6 (cdC n) (by omega)).2
  have key : ∀ i, i ≤ cdC n → mks n D i = mks n E i → fof n D (mks n D i) = fof n E (mks n E i) := fun i hi e => by
    have h1 := (mks_spec (n := n) (D := D) i hi).1
    rw [← e]
    exact fof_congr (by omega) (fun x hx => DP_eq a b x (by omega))
  intro i
  induction i with
  | zero => intro hi; exact ⟨rfl, key 0 hi rfl⟩
  | succ i ih =>
    intro hi
    obtain ⟨e1, e2⟩ := ih (by omega)
    have e3 : mks n D (i + 1) = mks n E (i + 1) := by
      show clr (mks n D i) (fof n D (mks n D i)) = clr (mks n E i) (fof n E (mks n E i))
      rw [e2, e1]
    exact ⟨e3, key _ hi e3⟩
/-- the masks behind an order -/
def msk (n : Nat → Int32) (e : Nat → Nat) : Nat → Nat
  | 0 => 2 ^ cdC n - 1
  | i + 1 => clr (msk n e i) (e i)
def PM (n : Nat → Int32) (e : Nat → Nat) : Prop := (∀ i, i < cdC n → e i < cdC n) ∧ ∀ i k, i < cdC n → k < cdC n → e i = e k → i = k
theorem PM_on {e : Nat → Nat} (P : PM n e) {q : Nat} (hq : q < cdC n) : ∃ k, k < cdC n ∧ e k = q := by
  obtain ⟨k, h1, -, h3⟩ := pigeon_onto (p := fun _ => true) (n := cdC n) (f := e) (fun t ht _ => by rw [cnt_all]; exact P.1 t ht) (fun s t hs ht _ _ y => P.2 s t hs ht y) (v := q) (by rw [cnt_all]; exact hq)
  exact ⟨k, h1, h3⟩
theorem msk_bits {e : Nat → Nat} (P : PM n e) : ∀ i, i ≤ cdC n → msk n e i < 2 ^ cdC n ∧ ∀ q, q < cdC n → ((msk n e i).testBit q = true ↔ ∀ k, k < i → e k ≠ q) := by
  have C6 := cdC_6 n
  have h64 := (full6 (cdC n) (by omega)).2
  have hp : 0 < 2 ^ cdC n := Nat.pow_pos (by omega)
  intro i
  induction i with
  | zero =>
    intro _
    refine ⟨by show 2 ^ cdC n - 1 < _; omega, fun q hq => ⟨fun _ k hk => by omega, fun _ => full_bit (cdC n) (by omega) q hq⟩⟩
  | succ i ih =>
    intro hi
    obtain ⟨h1, h2⟩ := ih (by omega)
    have h4 := clr_le (msk n e i) (e i)
    have he := P.1 i (by omega)
    refine ⟨by show clr _ _ < _; omega, fun q hq => ?_⟩
    show (clr (msk n e i) (e i)).testBit q = true ↔ _
    rw [clr_bit _ (by omega) (e i) (by omega) q (by omega), Bool.and_eq_true, h2 q hq]
    constructor
    · rintro ⟨a, b⟩ k hk
      by_cases y : k = i
      · rw [y]
        intro z
        rw [z] at b
        simp at b
      · exact a k (by omega)
    · intro a
      refine ⟨fun k hk => a k (by omega), ?_⟩
      have := a i (by omega)
      simp only [Bool.not_eq_true', beq_eq_false_iff_ne, ne_eq]
      exact fun z => this z.symm
theorem msk_end {e : Nat → Nat} (P : PM n e) : msk n e (cdC n) = 0 := by
  have C6 := cdC_6 n
  obtain ⟨h1, h2⟩ := msk_bits P (cdC n) (Nat.le_refl _)
  by_cases z : msk n e (cdC n) = 0
  · exact z
  · exfalso
    obtain ⟨k, k1, k2⟩ := hasbit (cdC n) (by omega) _ h1 (by omega)
    obtain ⟨i, i1, i2⟩ := PM_on P k1
    exact (h2 k k1).mp k2 i i1 i2
theorem sumN_first (f : Nat → Nat) : ∀ d, sumN f (d + 1) = f 0 + sumN (fun q => f (q + 1)) d := by
  intro d
  induction d with
  | zero => show 0 + f 0 = f 0 + 0; omega
  | succ d ih => rw [sumN_s, ih, sumN_s]; omega
theorem bsm_rs {e : Nat → Nat} (P : PM n e) (g : Nat → Nat) : ∀ d, d ≤ cdC n → bsm (msk n e (cdC n - d)) g (cdC n) = sumN (fun q => g (e (cdC n - d + q))) d := by
  have C6 := cdC_6 n
  have h64 := (full6 (cdC n) (by omega)).2
  intro d
  induction d with
  | zero => intro _; rw [Nat.sub_zero, msk_end P, bsm_0]; rfl
  | succ d ih =>
    intro hd
    obtain ⟨h1, h2⟩ := msk_bits P (cdC n - (d + 1)) (by omega)
    have he := P.1 (cdC n - (d + 1)) (by omega)
    have hb : (msk n e (cdC n - (d + 1))).testBit (e (cdC n - (d + 1))) = true := (h2 _ he).mpr (fun k hk z => by
      have := P.2 _ _ (by omega) (by omega) z
      omega)
    rw [bsm_out (by omega) (by omega) hb (cdC n) C6, if_pos he]
    have es : clr (msk n e (cdC n - (d + 1))) (e (cdC n - (d + 1))) = msk n e (cdC n - d) := by
      rw [show cdC n - d = cdC n - (d + 1) + 1 by omega]; rfl
    rw [es, ih (by omega), sumN_first]
    congr 1
    refine sumN_congr (fun q hq => ?_)
    rw [show cdC n - d + q = cdC n - (d + 1) + (q + 1) by omega]
/-- the swaps of an order, one by one -/
def inn (n : Nat → Int32) (e : Nat → Nat) (a : Nat) : Nat := sumN (fun q => pf n (e (a + 1 + q)) (e a)) (cdC n - (a + 1))
def cst (n : Nat → Int32) (e : Nat → Nat) : Nat := sumN (inn n e) (cdC n)
theorem inn_bsm {e : Nat → Nat} (P : PM n e) {a : Nat} (ha : a < cdC n) : bsm (msk n e (a + 1)) (fun k => pf n k (e a)) (cdC n) = inn n e a := by
  have := bsm_rs P (fun k => pf n k (e a)) (cdC n - (a + 1)) (by omega)
  rw [show cdC n - (cdC n - (a + 1)) = a + 1 by omega] at this
  exact this
theorem ord_le {D e : Nat → Nat} (dp : DP n D (2 ^ cdC n)) (P : PM n e) : D (2 ^ cdC n - 1) ≤ cst n e := by
  have C6 := cdC_6 n
  have h64 := (full6 (cdC n) (by omega)).2
  have key : ∀ i, i ≤ cdC n → D (2 ^ cdC n - 1) ≤ sumN (inn n e) i + D (msk n e i) := by
    intro i
    induction i with
    | zero => intro _; show _ ≤ 0 + D (2 ^ cdC n - 1); omega
    | succ i ih =>
      intro hi
      have h0 := ih (by omega)
      obtain ⟨h1, h2⟩ := msk_bits P i (by omega)
      have he := P.1 i (by omega)
      have hb : (msk n e i).testBit (e i) = true := (h2 _ he).mpr (fun k hk z => by
        have := P.2 _ _ (by omega) (by omega) z
        omega)
      have hpos : 0 < msk n e i := by
        by_cases z : msk n e i = 0
        · rw [z, Nat.zero_testBit] at hb; cases hb
        · omega
      have M := fof_MIN (n := n) (D := D) (m := msk n e i) ⟨e i, he, hb⟩
      have hm := (M.2.2 (e i) he hb).1
      rw [← dp.2 _ hpos h1, swb_eq] at hm
      have h5 : bsm (clr (msk n e i) (e i)) (fun k => pf n k (e i)) (cdC n) = inn n e i := inn_bsm P (by omega)
      rw [h5] at hm
      have h6 : clr (msk n e i) (e i) = msk n e (i + 1) := rfl
      rw [h6] at hm
      rw [sumN_s]
      omega
  have := key (cdC n) (Nat.le_refl _)
  rw [msk_end P, dp.1] at this
  exact this
def sg (n : Nat → Int32) (D : Nat → Nat) (i : Nat) : Nat := fof n D (mks n D i)
theorem sg_MIN {D : Nat → Nat} {i : Nat} (hi : i < cdC n) : MIN n D (mks n D i) (cdC n) (sg n D i) :=
  fof_MIN (cnt_bit (by have := (mks_spec (n := n) (D := D) i (by omega)).2; omega))
theorem sg_PM (D : Nat → Nat) : PM n (sg n D) := by
  have C6 := cdC_6 n
  have h64 := (full6 (cdC n) (by omega)).2
  refine ⟨fun i hi => (sg_MIN hi).1, ?_⟩
  have key : ∀ k i, i < k → k ≤ cdC n → (mks n D k).testBit (sg n D i) = false := by
    intro k
    induction k with
    | zero => intro i h; omega
    | succ k ih =>
      intro i hi hk
      have hm := (mks_spec (n := n) (D := D) k (by omega)).1
      have h1 := (sg_MIN (n := n) (D := D) (i := k) (by omega)).1
      have h2 := (sg_MIN (n := n) (D := D) (i := i) (by omega)).1
      show (clr (mks n D k) (sg n D k)).testBit (sg n D i) = false
      rw [clr_bit _ (by omega) _ (by omega) _ (by omega)]
      by_cases e : i = k
      · rw [e]; simp
      · rw [ih i (by omega) (by omega)]; rfl
  intro i k hi hk e
  by_cases c : i < k
  · have := key k i c (by omega)
    rw [e, (sg_MIN (n := n) (D := D) hk).2.1] at this; cases this
  · by_cases c2 : k < i
    · have := key i k c2 (by omega)
      rw [← e, (sg_MIN (n := n) (D := D) hi).2.1] at this; cases this
    · omega
theorem msk_sg (D : Nat → Nat) : ∀ i, msk n (sg n D) i = mks n D i := by
  intro i
  induction i with
  | zero => rfl
  | succ i ih =>
    show clr (msk n (sg n D) i) (sg n D i) = clr (mks n D i) (fof n D (mks n D i))
    rw [ih]; rfl
theorem ord_eq {D : Nat → Nat} (dp : DP n D (2 ^ cdC n)) : D (2 ^ cdC n - 1) = cst n (sg n D) := by
  have C6 := cdC_6 n
  have P := sg_PM (n := n) D
  have key : ∀ i, i ≤ cdC n → D (2 ^ cdC n - 1) = sumN (inn n (sg n D)) i + D (mks n D i) := by
    intro i
    induction i with
    | zero => intro _; show _ = 0 + D (2 ^ cdC n - 1); omega
    | succ i ih =>
      intro hi
      have h0 := ih (by omega)
      have h1 := (mks_spec (n := n) (D := D) i (by omega)).1
      have M := sg_MIN (n := n) (D := D) (i := i) (by omega)
      have hpos : 0 < mks n D i := by
        by_cases z : mks n D i = 0
        · have := M.2.1
          rw [z, Nat.zero_testBit] at this; cases this
        · omega
      have hm := dp.2 _ hpos h1
      rw [swb_eq] at hm
      have h5 : bsm (clr (mks n D i) (sg n D i)) (fun k => pf n k (sg n D i)) (cdC n) = inn n (sg n D) i := by
        have := inn_bsm P (a := i) (by omega)
        rw [msk_sg] at this
        exact this
      have h5' : bsm (clr (mks n D i) (fof n D (mks n D i))) (fun k => pf n k (fof n D (mks n D i))) (cdC n) = inn n (sg n D) i := h5
      rw [h5'] at hm
      have h6 : clr (mks n D i) (fof n D (mks n D i)) = mks n D (i + 1) := rfl
      rw [h6] at hm
      rw [sumN_s]
      omega
  have := key (cdC n) (Nat.le_refl _)
  rw [← msk_sg, msk_end P, dp.1] at this
  exact this
theorem cst_b (n : Nat → Int32) (e : Nat → Nat) : cst n e ≤ 180 := by
  have C6 := cdC_6 n
  have h1 : ∀ a, a < cdC n → inn n e a ≤ 30 := fun a ha => by
    have := sumN_le (f := fun q => pf n (e (a + 1 + q)) (e a)) (c := 5) (n := cdC n - (a + 1)) (fun k _ => pf_5 _ _ _)
    unfold inn
    omega
  have := sumN_le (f := inn n e) (c := 30) (n := cdC n) h1
  unfold cst
  omega
end
/-! the law's preferences -/
section
variable {h : mxH} {n : Nat → Int32}
theorem lp_prefer (L : LW h n) (G : MG n) {a b : Nat} (ha : a < 20) (hb : b < 20) : fL_prefer 0 (Int32.ofNat a) (Int32.ofNat b) h = some (Int32.ofNat (prf n a b)) := by
  unfold fL_prefer prf
  refine bs (cnt_loop (fun i => hs n i a && (!hs n i b || decide (pla n i a < pla n i b))) 5 (fun k c hk hc => ?_) (fun c => if_pos yle)) rfl
  simp only [if_neg (show ¬ (5 : Int32) ≤ Int32.ofNat k from nle hk), ofN_succ]
  by_cases e : a = b
  · subst e
    have : (hs n k a && (!hs n k a || decide (pla n k a < pla n k a))) = false := by
      rw [decide_eq_false (show ¬ pla n k a < pla n k a by omega)]
      cases hs n k a <;> rfl
    rw [if_pos rfl, this]
    simp only [bN, Int32.add_zero]
    rfl
  · rw [if_neg (fun z => e (ofN_inj (by omega) (by omega) z))]
    simp only [l_gm L, l_row L hk, l_mk L hk ha, l_mk L hk hb, bN, l_O L, lp_isAhead L hk ha hb]
    by_cases z : n (20 * k + a) < 0
    · rw [if_pos z, MG_hs0 G hk ha z]
      simp only [bN, Int32.add_zero]
      rfl
    · rw [if_neg z, MG_hs1 G hk ha z]
      by_cases y : n (20 * k + b) < 0
      · rw [if_pos y, MG_hs0 G hk hb y]
        simp only [bN, ofN_succ]
        rfl
      · rw [if_neg y, MG_hs1 G hk hb y]
        by_cases w : bef (mkf n k) a b = true
        · have : pla n k a < pla n k b := pla_lt ha w
          rw [w, decide_eq_true this, bI_t, if_neg (show ¬ (1 : Int32) = 0 by decide)]
          simp only [bN, ofN_succ]
          rfl
        · have : ¬ pla n k a < pla n k b := fun z => w (pla_bef ha hb z)
          rw [bF w, decide_eq_false this, bI_f, if_pos rfl]
          simp only [bN, Int32.add_zero]
          rfl
theorem lp_beats (L : LW h n) (G : MG n) {a b : Nat} (ha : a < 20) (hb : b < 20) : fL_beats 0 (Int32.ofNat a) (Int32.ofNat b) h = some (bI (decide (prf n b a < prf n a b))) := by
  have h1 := prf_5 n a b
  have h2 := prf_5 n b a
  unfold fL_beats
  simp only [l_O L, lp_prefer L G ha hb, lp_prefer L G hb ha, bN]
  by_cases q : prf n b a < prf n a b
  · rw [if_neg (nle q (by omega)), decide_eq_true q]; rfl
  · rw [if_pos ((ofN_le (by omega) (by omega)).mpr (by omega)), decide_eq_false q]; rfl
theorem lp_swaps (L : LW h n) (G : MG n) {a m : Nat} {x : Nat → Nat} (A : AT h a m (fun i => Int32.ofNat (x i))) (hm : m ≤ 6) (hx : ∀ i, i < m → x i < 20) : fL_swaps 0 a h = some (Int32.ofNat (sumN (fun i => sumN (fun q => prf n (x (i + 1 + q)) (x i)) (m - (i + 1))) m)) := by
  unfold fL_swaps
  refine bs (mxLoop_up (S := fun i => (Int32.ofNat (sumN (fun i => sumN (fun q => prf n (x (i + 1 + q)) (x i)) (m - (i + 1))) i), Int32.ofNat i)) (N := m) (fun i hi => ?_) ?_ (by unfold mxF; omega)) rfl
  · simp only [A.len, bN, if_neg (nle hi (by omega)), ofN_succ]
    generalize hT : sumN (fun i => sumN (fun q => prf n (x (i + 1 + q)) (x i)) (m - (i + 1))) i = T
    refine bs (mxLoop_up (S := fun q => (Int32.ofNat (T + sumN (fun q => prf n (x (i + 1 + q)) (x i)) q), Int32.ofNat (i + 1 + q))) (N := m - (i + 1)) (r := Int32.ofNat (T + sumN (fun q => prf n (x (i + 1 + q)) (x i)) (m - (i + 1)))) (fun q hq => ?_) ?_ (by unfold mxF; omega)) ?_
    · simp only [A.len, bN, if_neg (nle (show i + 1 + q < m by omega) (by omega)), A.ld (show i + 1 + q < m by omega) (by omega), A.ld hi (by omega), l_O L, lp_prefer L G (hx _ (show i + 1 + q < m by omega)) (hx _ hi), ofN_succ, ofN_add]
      show some (Sum.inl (Int32.ofNat _, Int32.ofNat _)) = some (Sum.inl (Int32.ofNat (T + sumN _ (q + 1)), Int32.ofNat _))
      rw [sumN_s, ← Nat.add_assoc T]
      rfl
    · simp only [A.len, bN, show i + 1 + (m - (i + 1)) = m by omega]
      exact if_pos yle
    · show some (Sum.inl (_, _)) = some (Sum.inl (Int32.ofNat (sumN _ (i + 1)), _))
      rw [sumN_s, hT]
  · simp only [A.len, bN]
    exact if_pos yle
end
