/-! THE PURE SIDE, 29: the reference: rows of keys, comparisons -/
theorem m_keysAll {h : mxH} {n : Nat → Int32} (G : MG n) (W : WF h) (e : V h 320 = n) {a : Nat} (ha : a = 325 ∨ a = 326 ∨ a = 327) : Ok (fX10_keysOf 319 a (-1) h) (fun o => o.1 = Int32.ofNat (mcn n) ∧ Fr (fun b => b = a) h o.2 ∧ KA o.2 a n (hsG n)) := by
  have A : ar a 100 := by rcases ha with rfl | rfl | rfl <;> exact ⟨by omega, by omega, rfl, rfl⟩
  have z : ∀ m, cnt (fun _ => false) m = 0 := fun m => by
    induction m with
    | zero => rfl
    | succ m ih => rw [cnt_f rfl, ih]
  have q0 : cnt (fun g => hsG n g && decide (g < 20 * 0)) 100 = 0 := by
    rw [cnt_congr (q := fun _ => false) (fun g hg => by rw [decide_eq_false (by omega), Bool.and_false]), z]
  have fin : ∀ g, g < 100 → (hsG n g && decide (g < 20 * 5)) = hsG n g := fun g hg => by rw [decide_eq_true (by omega), Bool.and_true]
  rw [keysOf_eq]
  refine Ok_b (P := fun o : Int32 × mxH => o.1 = Int32.ofNat (mcn n) ∧ Fr (fun b => b = a) h o.2 ∧ KA o.2 a n (hsG n)) (Ok_loop (fun i s => s.2.1 = Int32.ofNat i ∧ Fr (fun b => b = a) h s.2.2 ∧ s.1 = Int32.ofNat (cnt (fun g => hsG n g && decide (g < 20 * i)) 100) ∧ KA s.2.2 a n (fun g => hsG n g && decide (g < 20 * i))) 5 ⟨rfl, Fr.refl W, by rw [q0]; rfl, fun j hj => absurd hj (by rw [q0]; omega)⟩ ?_ ?_) (fun o H => Ok_p H)
  · rintro i ⟨s1, s2, h1⟩ hi ⟨e1, F, e2, K1⟩
    obtain rfl := show s2 = _ from e1
    obtain rfl := show s1 = _ from e2
    have F : Fr (fun b => b = a) h h1 := F
    have K1 : KA h1 a n (fun g => hsG n g && decide (g < 20 * i)) := K1
    have step : ∀ g, g < 100 → ((hsG n g && decide (g < 20 * i)) || (hsG n g && decide (g / 20 = i))) = (hsG n g && decide (g < 20 * (i + 1))) := fun g hg => by
      rw [← Bool.and_or_distrib_left]
      congr 1
      by_cases c : g < 20 * i
      · rw [decide_eq_true c, decide_eq_true (show g < 20 * (i + 1) by omega), Bool.true_or]
      · rw [decide_eq_false c, Bool.false_or]
        by_cases c2 : g / 20 = i
        · rw [decide_eq_true c2, decide_eq_true (by omega)]
        · rw [decide_eq_false c2, decide_eq_false (by omega)]
    simp only [if_neg (n5 hi), if_true]
    refine Ok_b (Ok_b (k_row G F.1 (fr_now F (by omega) e) (a := a) (i := i) (Q := fun g => hsG n g && decide (g < 20 * i)) A ha hi (fun g hg q => by simp only [Bool.and_eq_true, decide_eq_true_eq] at q; exact q) K1) (fun r H => Ok_p (P := fun p : Int32 × mxH => p.1 = Int32.ofNat (cnt (fun g => (hsG n g && decide (g < 20 * i)) || (hsG n g && decide (g / 20 = i))) 100) ∧ Fr (fun b => b = a) h1 p.2 ∧ KA p.2 a n (fun g => (hsG n g && decide (g < 20 * i)) || (hsG n g && decide (g / 20 = i)))) H)) (fun p ⟨q1, q2, q3⟩ => ?_)
    rw [ofN_succ]
    exact Ok_p ⟨_, rfl, rfl, F.trans q2, by rw [cnt_congr step] at q1; exact q1, KA_congr q3 step⟩
  · rintro ⟨s1, s2, h1⟩ ⟨e1, F, e2, K1⟩
    obtain rfl := show s2 = _ from e1
    obtain rfl := show s1 = _ from e2
    refine Ok_e (a := .inr (Int32.ofNat (cnt (fun g => hsG n g && decide (g < 20 * 5)) 100), h1)) (if_pos yle) ⟨(Int32.ofNat (cnt (fun g => hsG n g && decide (g < 20 * 5)) 100), h1), rfl, ?_, F, KA_congr K1 fin⟩
    show Int32.ofNat _ = Int32.ofNat _
    rw [cnt_congr fin]; rfl
def rwQ (n : Nat → Int32) (r : Nat) : Nat → Bool := fun g => hsG n g && decide (g / 20 = r)
theorem m_keysRow {h : mxH} {n : Nat → Int32} (G : MG n) (W : WF h) (e : V h 320 = n) {a r : Nat} (ha : a = 325 ∨ a = 326 ∨ a = 327) (hr : r < 5) : Ok (fX10_keysOf 319 a (Int32.ofNat r) h) (fun o => o.1 = Int32.ofNat (cnt (rwQ n r) 100) ∧ Fr (fun b => b = a) h o.2 ∧ KA o.2 a n (rwQ n r)) := by
  have A : ar a 100 := by rcases ha with rfl | rfl | rfl <;> exact ⟨by omega, by omega, rfl, rfl⟩
  have z : ∀ m, cnt (fun _ => false) m = 0 := fun m => by
    induction m with
    | zero => rfl
    | succ m ih => rw [cnt_f rfl, ih]
  have q0 : cnt (fun g => rwQ n r g && decide (g < 20 * 0)) 100 = 0 := by
    rw [cnt_congr (q := fun _ => false) (fun g hg => by rw [decide_eq_false (by omega), Bool.and_false]), z]
  have fin : ∀ g, g < 100 → (rwQ n r g && decide (g < 20 * 5)) = rwQ n r g := fun g hg => by rw [decide_eq_true (by omega), Bool.and_true]
  rw [keysOf_eq]
  refine Ok_b (P := fun o : Int32 × mxH => o.1 = Int32.ofNat (cnt (rwQ n r) 100) ∧ Fr (fun b => b = a) h o.2 ∧ KA o.2 a n (rwQ n r)) (Ok_loop (fun i s => s.2.1 = Int32.ofNat i ∧ Fr (fun b => b = a) h s.2.2 ∧ s.1 = Int32.ofNat (cnt (fun g => rwQ n r g && decide (g < 20 * i)) 100) ∧ KA s.2.2 a n (fun g => rwQ n r g && decide (g < 20 * i))) 5 ⟨rfl, Fr.refl W, by rw [q0]; rfl, fun j hj => absurd hj (by rw [q0]; omega)⟩ ?_ ?_) (fun o H => Ok_p H)
  · rintro i ⟨s1, s2, h1⟩ hi ⟨e1, F, e2, K1⟩
    obtain rfl := show s2 = _ from e1
    obtain rfl := show s1 = _ from e2
    have F : Fr (fun b => b = a) h h1 := F
    have K1 : KA h1 a n (fun g => rwQ n r g && decide (g < 20 * i)) := K1
    simp only [if_neg (n5 hi), if_neg (ofN_nm (show r < 2147483648 by omega)), ofN_eq (show i < 2147483648 by omega) (show r < 2147483648 by omega), ofN_succ]
    by_cases c : i = r
    · subst c
      have step : ∀ g, g < 100 → ((rwQ n i g && decide (g < 20 * i)) || (hsG n g && decide (g / 20 = i))) = (rwQ n i g && decide (g < 20 * (i + 1))) := fun g hg => by
        unfold rwQ
        by_cases c2 : g / 20 = i
        · rw [decide_eq_true c2, decide_eq_true (show g < 20 * (i + 1) by omega)]
          cases hsG n g <;> simp
        · rw [decide_eq_false c2]; simp
      simp only [if_true]
      refine Ok_b (Ok_b (k_row G F.1 (fr_now F (by omega) e) (a := a) (i := i) (Q := fun g => rwQ n i g && decide (g < 20 * i)) A ha hi (fun g hg q => by simp only [rwQ, Bool.and_eq_true, decide_eq_true_eq] at q; exact ⟨q.1.1, q.2⟩) K1) (fun r H => Ok_p (P := fun p : Int32 × mxH => p.1 = Int32.ofNat (cnt (fun g => (rwQ n i g && decide (g < 20 * i)) || (hsG n g && decide (g / 20 = i))) 100) ∧ Fr (fun b => b = a) h1 p.2 ∧ KA p.2 a n (fun g => (rwQ n i g && decide (g < 20 * i)) || (hsG n g && decide (g / 20 = i)))) H)) (fun p ⟨q1, q2, q3⟩ => ?_)
      exact Ok_p ⟨_, rfl, rfl, F.trans q2, by rw [cnt_congr step] at q1; exact q1, KA_congr q3 step⟩
    · have step : ∀ g, g < 100 → (rwQ n r g && decide (g < 20 * i)) = (rwQ n r g && decide (g < 20 * (i + 1))) := fun g hg => by
        unfold rwQ
        by_cases c2 : g / 20 = r
        · by_cases c3 : g < 20 * i
          · rw [decide_eq_true c3, decide_eq_true (show g < 20 * (i + 1) by omega)]
          · rw [decide_eq_false c3, decide_eq_false (show ¬ g < 20 * (i + 1) by omega)]
        · rw [decide_eq_false c2]; simp
      simp only [if_neg c, bN]
      exact Ok_p ⟨_, rfl, rfl, F, by show Int32.ofNat _ = Int32.ofNat _; rw [cnt_congr step], KA_congr K1 step⟩
  · rintro ⟨s1, s2, h1⟩ ⟨e1, F, e2, K1⟩
    obtain rfl := show s2 = _ from e1
    obtain rfl := show s1 = _ from e2
    refine Ok_e (a := .inr (Int32.ofNat (cnt (fun g => rwQ n r g && decide (g < 20 * 5)) 100), h1)) (if_pos yle) ⟨(Int32.ofNat (cnt (fun g => rwQ n r g && decide (g < 20 * 5)) 100), h1), rfl, ?_, F, KA_congr K1 fin⟩
    show Int32.ofNat _ = Int32.ofNat _
    rw [cnt_congr fin]
/-! how far two sorted rows are compared -/
def cmq (n : Nat → Int32) (Q1 Q2 : Nat → Bool) : Nat :=
  if cnt Q1 100 = 0 ∨ cnt Q2 100 = 0 then 0
  else if bef n (nrL (bef n) Q1 100 (cnt Q1 100 - 1)) (nrL (bef n) Q2 100 (cnt Q2 100 - 1)) then cnt Q1 100 + rkL (bef n) Q2 100 (nrL (bef n) Q1 100 (cnt Q1 100 - 1))
  else cnt Q2 100 + rkL (bef n) Q1 100 (nrL (bef n) Q2 100 (cnt Q2 100 - 1))
theorem rk_split {lt : Nat → Nat → Bool} {P : Nat → Bool} {N m j x : Nat} {e : Nat → Nat} (S : STO lt N) (E : SE lt P N m e) (hj : j ≤ m) (h1 : ∀ i, i < j → lt (e i) x = true) (h2 : ∀ i, j ≤ i → i < m → lt (e i) x = false) : rkL lt P N x = j := by
  have up : cnt (fun _ => true) j ≤ rkL lt P N x := cnt_inj (f := e) (fun i hi _ => ⟨(E.1 i (by omega)).1, by simp [(E.1 i (by omega)).2, h1 i hi]⟩) (fun a b ha hb _ _ h => SE_inj S E (by omega) (by omega) h)
  have dn : rkL lt P N x ≤ j := pigeon (p := fun s => P s && lt s x) (n := N) (f := rkL lt P N) j _ (fun s hs q => by
    simp only [Bool.and_eq_true] at q
    obtain ⟨i, hi, he⟩ := E.2.2 s hs q.1
    rw [← he, SE_rank S E hi]
    by_cases c : i < j
    · exact c
    · have := h2 i (by omega) hi
      rw [he, q.2] at this; cases this) (fun s t hs ht ps pt e => by
    simp only [Bool.and_eq_true] at ps pt
    exact rkL_inj S hs ht ps.1 pt.1 e)
  rw [cnt_all] at up
  omega
theorem m_compared {h : mxH} {n : Nat → Int32} (G : MG n) (W : WF h) {a b : Nat} {Q1 Q2 : Nat → Bool} (A : ar a 100) (B : ar b 100) (K1 : KA h a n Q1) (K2 : KA h b n Q2) (q1 : ∀ g, g < 100 → Q1 g = true → hsG n g = true) (q2 : ∀ g, g < 100 → Q2 g = true → hsG n g = true) (dj : ∀ g, g < 100 → Q1 g = true → Q2 g = false) :
    fX10_compared a (Int32.ofNat (cnt Q1 100)) b (Int32.ofNat (cnt Q2 100)) h = some (Int32.ofNat (cmq n Q1 Q2)) := by
  have S := bef_STO n 100
  have b1 : cnt Q1 100 ≤ 100 := cnt_le _ _
  have b2 : cnt Q2 100 ≤ 100 := cnt_le _ _
  have s1 : ∀ j, j < cnt Q1 100 → nrL (bef n) Q1 100 j < 100 ∧ Q1 (nrL (bef n) Q1 100 j) = true := fun j hj => ⟨(nrL_spec S hj).1, (nrL_spec S hj).2.1⟩
  have s2 : ∀ j, j < cnt Q2 100 → nrL (bef n) Q2 100 j < 100 ∧ Q2 (nrL (bef n) Q2 100 j) = true := fun j hj => ⟨(nrL_spec S hj).1, (nrL_spec S hj).2.1⟩
  have l1 : ∀ i j, i < j → j < cnt Q1 100 → bef n (nrL (bef n) Q1 100 i) (nrL (bef n) Q1 100 j) = true := fun i j hij hj => nrL_lt S hij hj
  have l2 : ∀ i j, i < j → j < cnt Q2 100 → bef n (nrL (bef n) Q2 100 i) (nrL (bef n) Q2 100 j) = true := fun i j hij hj => nrL_lt S hij hj
  have E1 := SE_of (P := Q1) S
  have E2 := SE_of (P := Q2) S
  have k1 : ∀ j, j < cnt Q1 100 → V h a j = ky n (nrL (bef n) Q1 100 j) := K1
  have k2 : ∀ j, j < cnt Q2 100 → V h b j = ky n (nrL (bef n) Q2 100 j) := K2
  have hne : ∀ i j, i < cnt Q1 100 → j < cnt Q2 100 → nrL (bef n) Q1 100 i ≠ nrL (bef n) Q2 100 j := fun i j hi hj z => by
    have := dj _ (s1 i hi).1 (s1 i hi).2
    rw [z, (s2 j hj).2] at this; cases this
  unfold fX10_compared cmq
  generalize hc1 : cnt Q1 100 = c1 at *
  generalize hc2 : cnt Q2 100 = c2 at *
  generalize he1 : nrL (bef n) Q1 100 = e1 at *
  generalize he2 : nrL (bef n) Q2 100 = e2 at *
  by_cases z : c1 = 0 ∨ c2 = 0
  · rw [if_pos z]
    refine bs (a := (0, 0)) (mxLoop_find (S := fun _ => ((0 : Int32), (0 : Int32))) (K := 0) (fun k hk => by omega) ?_ (by decide)) rfl
    rcases z with z | z
    · rw [z]; exact if_pos yle
    · rw [z]
      by_cases y : Int32.ofNat c1 ≤ 0
      · exact if_pos y
      · exact (if_neg y).trans (if_pos yle)
  · rw [if_neg z]
    have key : Ok (mxLoop (ρ := (Int32 × Int32)) (fun s1 : (Int32 × Int32) => (if Int32.ofNat c1 ≤ s1.1 then some (Sum.inr (s1.1, s1.2)) else (if Int32.ofNat c2 ≤ s1.2 then some (Sum.inr (s1.1, s1.2)) else Option.bind (ldI h a s1.1) (fun v11 => Option.bind (ldI h b s1.2) (fun v13 => (if v13 ≤ v11 then some (Sum.inl (s1.1, s1.2 + 1)) else some (Sum.inl (s1.1 + 1, s1.2)))))))) mxF (0, 0)) (fun r => ∃ i j, r = (Int32.ofNat i, Int32.ofNat j) ∧ i ≤ c1 ∧ j ≤ c2 ∧ ((i = c1 ∧ j < c2) ∨ (i < c1 ∧ j = c2)) ∧ (∀ j', j' < j → bef n (e2 j') (e1 (min i (c1 - 1))) = true) ∧ (∀ i', i' < i → bef n (e1 i') (e2 (min j (c2 - 1))) = true)) := by
      refine Ok_loopE (fun k s => ∃ i j, k = i + j ∧ s = (Int32.ofNat i, Int32.ofNat j) ∧ i ≤ c1 ∧ j ≤ c2 ∧ (i < c1 ∨ j < c2) ∧ (∀ j', j' < j → bef n (e2 j') (e1 (min i (c1 - 1))) = true) ∧ (∀ i', i' < i → bef n (e1 i') (e2 (min j (c2 - 1))) = true)) (c1 + c2) ⟨0, 0, rfl, rfl, by omega, by omega, by omega, fun _ _ => by omega, fun _ _ => by omega⟩ ?_ (by unfold mxF; omega)
      rintro k ⟨x, y⟩ hk ⟨i, j, hkij, e, hi, hj, hor, a1, a2⟩
      obtain rfl := show x = _ from congrArg Prod.fst e
      obtain rfl := show y = _ from congrArg Prod.snd e
      by_cases x1 : i = c1
      · refine Ok_e (a := .inr (Int32.ofNat i, Int32.ofNat j)) (if_pos (by rw [x1]; exact yle)) (Or.inr ⟨_, rfl, i, j, rfl, hi, hj, by omega, a1, a2⟩)
      · by_cases x2 : j = c2
        · refine Ok_e (a := .inr (Int32.ofNat i, Int32.ofNat j)) ((if_neg (nle (show i < c1 by omega) (by omega))).trans (if_pos (by rw [x2]; exact yle))) (Or.inr ⟨_, rfl, i, j, rfl, hi, hj, by omega, a1, a2⟩)
        · have hi2 : i < c1 := by omega
          have hj2 : j < c2 := by omega
          simp only [if_neg (nle hi2 (by omega)), if_neg (nle hj2 (by omega)), ldI_at W A (show i < 100 by omega), ldI_at W B (show j < 100 by omega), bN, k1 i hi2, k2 j hj2, ofN_succ]
          have hn := hne i j hi2 hj2
          have hc := ky_cmp G (s2 j hj2).1 (s1 i hi2).1 (q2 _ (s2 j hj2).1 (s2 j hj2).2) (q1 _ (s1 i hi2).1 (s1 i hi2).2) (fun z => hn z.symm)
          rw [show min i (c1 - 1) = i by omega] at a1
          rw [show min j (c2 - 1) = j by omega] at a2
          by_cases c : ky n (e2 j) ≤ ky n (e1 i)
          · rw [if_pos c]
            have hb : bef n (e2 j) (e1 i) = true := (bef_total hn).resolve_left (by rw [hc.mp c]; decide)
            refine Ok_p (Or.inl ⟨_, rfl, by omega, i, j + 1, by omega, rfl, by omega, by omega, by omega, fun j' hj' => ?_, fun i' hi' => ?_⟩)
            · rw [show min i (c1 - 1) = i by omega]
              by_cases y : j' = j
              · rw [y]; exact hb
              · exact a1 j' (by omega)
            · by_cases y : j + 1 ≤ c2 - 1
              · rw [show min (j + 1) (c2 - 1) = j + 1 by omega]
                exact bef_trans (a2 i' hi') (l2 j (j + 1) (by omega) (by omega))
              · rw [show min (j + 1) (c2 - 1) = j by omega]; exact a2 i' hi'
          · rw [if_neg c]
            have hb : bef n (e1 i) (e2 j) = true := by
              cases y : bef n (e1 i) (e2 j)
              · exact absurd (hc.mpr y) c
              · rfl
            refine Ok_p (Or.inl ⟨_, rfl, by omega, i + 1, j, by omega, rfl, by omega, by omega, by omega, fun j' hj' => ?_, fun i' hi' => ?_⟩)
            · by_cases y : i + 1 ≤ c1 - 1
              · rw [show min (i + 1) (c1 - 1) = i + 1 by omega]
                exact bef_trans (a1 j' hj') (l1 i (i + 1) (by omega) (by omega))
              · rw [show min (i + 1) (c1 - 1) = i by omega]; exact a1 j' hj'
            · rw [show min j (c2 - 1) = j by omega]
              by_cases y : i' = i
              · rw [y]; exact hb
              · exact a2 i' (by omega)
    obtain ⟨r, er, i, j, e, hi, hj, hor, a1, a2⟩ := key
    refine bs er ?_
    rw [e]
    show some (Int32.ofNat i + Int32.ofNat j) = _
    rw [ofN_add]
    congr 2
    rcases hor with ⟨x1, x2⟩ | ⟨x1, x2⟩
    · rw [x1, show min c1 (c1 - 1) = c1 - 1 by omega] at a1
      have b3 := a2 (c1 - 1) (by omega)
      rw [show min j (c2 - 1) = j by omega] at b3
      have b4 : ∀ j', j ≤ j' → j' < c2 → bef n (e1 (c1 - 1)) (e2 j') = true := fun j' y1 y2 => by
        by_cases y : j' = j
        · rw [y]; exact b3
        · exact bef_trans b3 (l2 j j' (by omega) y2)
      rw [b4 (c2 - 1) (by omega) (by omega), if_pos rfl, rk_split S E2 hj a1 (fun i' y1 y2 => bef_not (b4 i' y1 y2)), x1]
    · rw [x2, show min c2 (c2 - 1) = c2 - 1 by omega] at a2
      have b3 := a1 (c2 - 1) (by omega)
      rw [show min i (c1 - 1) = i by omega] at b3
      have b4 : ∀ i', i ≤ i' → i' < c1 → bef n (e2 (c2 - 1)) (e1 i') = true := fun i' y1 y2 => by
        by_cases y : i' = i
        · rw [y]; exact b3
        · exact bef_trans b3 (l1 i i' (by omega) y2)
      rw [bef_not (b4 (c1 - 1) (by omega) (by omega)), if_neg (by decide), rk_split S E1 hi a2 (fun i' y1 y2 => bef_not (b4 i' y1 y2)), x2]
      omega
/-! the same in the merged row -/
def mQ (n : Nat → Int32) (m : Nat) : Nat → Bool := fun g => hsG n g && inM m g
theorem cA_pos {n : Nat → Int32} {m x : Nat} (hx : x < 100) (q : hsG n x = true) : cA n m (rkL (bef n) (hsG n) 100 x) = rkL (bef n) (mQ n m) 100 x := by
  have S := bef_STO n 100
  have pm : rkL (bef n) (hsG n) 100 x < mcn n := rkL_cnt S hx q
  have sp : ∀ p, p < mcn n → mnr n p < 100 ∧ hsG n (mnr n p) = true ∧ rkL (bef n) (hsG n) 100 (mnr n p) = p := fun p hp => nrL_spec S hp
  have inv : ∀ s, s < 100 → hsG n s = true → mnr n (rkL (bef n) (hsG n) 100 s) = s := fun s hs q => nrL_of S hs q
  apply Nat.le_antisymm
  · refine cnt_inj (f := mnr n) (fun p hp y => ?_) (fun a b ha hb _ _ e => ?_)
    · obtain ⟨h1, h2, h3⟩ := sp p (by omega)
      refine ⟨h1, ?_⟩
      have y : inM m (mnr n p) = true := y
      simp only [mQ, h2, y, Bool.true_and]
      have hne : mnr n p ≠ x := fun z => by rw [z] at h3; omega
      rcases bef_total (f := n) hne with z | z
      · exact z
      · have := rkL_lt (P := hsG n) S hx h1 q z; omega
    · have a3 := (sp a (by omega)).2.2
      have b3 := (sp b (by omega)).2.2
      rw [e] at a3; omega
  · refine cnt_inj (f := rkL (bef n) (hsG n) 100) (fun s hs y => ?_) (fun a b ha hb pa pb e => ?_)
    · simp only [mQ, Bool.and_eq_true] at y
      exact ⟨rkL_lt S hs hx y.1.1 y.2, by rw [inv s hs y.1.1]; exact y.1.2⟩
    · simp only [mQ, Bool.and_eq_true] at pa pb
      exact rkL_inj S ha hb pa.1.1 pb.1.1 e
theorem cA_full {n : Nat → Int32} {m : Nat} : cA n m (mcn n) = cnt (mQ n m) 100 := by
  have S := bef_STO n 100
  have sp : ∀ p, p < mcn n → mnr n p < 100 ∧ hsG n (mnr n p) = true ∧ rkL (bef n) (hsG n) 100 (mnr n p) = p := fun p hp => nrL_spec S hp
  have inv : ∀ s, s < 100 → hsG n s = true → mnr n (rkL (bef n) (hsG n) 100 s) = s := fun s hs q => nrL_of S hs q
  apply Nat.le_antisymm
  · refine cnt_inj (f := mnr n) (fun p hp y => ?_) (fun a b ha hb _ _ e => ?_)
    · obtain ⟨h1, h2, h3⟩ := sp p hp
      exact ⟨h1, by simp only [mQ, h2, Bool.true_and]; exact y⟩
    · have a3 := (sp a ha).2.2
      have b3 := (sp b hb).2.2
      rw [e] at a3; omega
  · refine cnt_inj (f := rkL (bef n) (hsG n) 100) (fun s hs y => ?_) (fun a b ha hb pa pb e => ?_)
    · simp only [mQ, Bool.and_eq_true] at y
      exact ⟨rkL_cnt S hs y.1, by rw [inv s hs y.1]; exact y.2⟩
    · simp only [mQ, Bool.and_eq_true] at pa pb
      exact rkL_inj S ha hb pa.1 pb.1 e
theorem cA_mono {n : Nat → Int32} {m p q : Nat} (h : p ≤ q) : cA n m p ≤ cA n m q := cnt_mono_n h
theorem cmp_eq {n : Nat → Int32} {a b : Nat} (dj : ∀ i, i < 5 → a.testBit i = true → b.testBit i = false) : cmpv n a b = cmq n (mQ n a) (mQ n b) := by
  have S := bef_STO n 100
  have sp : ∀ p, p < mcn n → mnr n p < 100 ∧ hsG n (mnr n p) = true ∧ rkL (bef n) (hsG n) 100 (mnr n p) = p := fun p hp => nrL_spec S hp
  have inv : ∀ s, s < 100 → hsG n s = true → mnr n (rkL (bef n) (hsG n) 100 s) = s := fun s hs q => nrL_of S hs q
  unfold cmpv cmq
  have s1 : ∀ m j, j < cnt (mQ n m) 100 → nrL (bef n) (mQ n m) 100 j < 100 ∧ mQ n m (nrL (bef n) (mQ n m) 100 j) = true ∧ rkL (bef n) (mQ n m) 100 (nrL (bef n) (mQ n m) 100 j) = j := fun m j hj => nrL_spec S hj
  by_cases z : cnt (mQ n a) 100 = 0 ∨ cnt (mQ n b) 100 = 0
  · rw [if_pos z]
    have : cpE n a b = 0 := by
      unfold cpE
      refine fst1_eq (fun d hd => by omega) (fun _ => ?_) (by omega)
      show (decide (cA n a 0 = cA n a (mcn n)) || decide (cA n b 0 = cA n b (mcn n))) = true
      rw [cA_full, cA_full]
      rcases z with z | z
      · rw [z]; rfl
      · rw [z, Bool.or_eq_true]; exact Or.inr rfl
    rw [this]; rfl
  · rw [if_neg z]
    obtain ⟨x1, x2, x3⟩ := s1 a (cnt (mQ n a) 100 - 1) (by omega)
    obtain ⟨y1, y2, y3⟩ := s1 b (cnt (mQ n b) 100 - 1) (by omega)
    generalize nrL (bef n) (mQ n a) 100 (cnt (mQ n a) 100 - 1) = u at x1 x2 x3
    generalize nrL (bef n) (mQ n b) 100 (cnt (mQ n b) 100 - 1) = v at y1 y2 y3
    have ua : hsG n u = true ∧ inM a u = true := by simpa only [mQ, Bool.and_eq_true] using x2
    have vb : hsG n v = true ∧ inM b v = true := by simpa only [mQ, Bool.and_eq_true] using y2
    have ub : inM b u = false := dj _ (by omega) ua.2
    have va : inM a v = false := by
      cases q : inM a v
      · rfl
      · have := dj _ (by omega) q
        rw [show b.testBit (v / 20) = true from vb.2] at this; cases this
    have hne : u ≠ v := fun q => by rw [q, vb.2] at ub; cases ub
    have pu : rkL (bef n) (hsG n) 100 u < mcn n := rkL_cnt S x1 ua.1
    have pv : rkL (bef n) (hsG n) 100 v < mcn n := rkL_cnt S y1 vb.1
    have cu : ∀ m, cA n m (rkL (bef n) (hsG n) 100 u + 1) = rkL (bef n) (mQ n m) 100 u + if inM m u then 1 else 0 := fun m => by
      show cA n m (rkL (bef n) (hsG n) 100 u) + (if inM m (mnr n (rkL (bef n) (hsG n) 100 u)) then 1 else 0) = _
      rw [inv u x1 ua.1, cA_pos x1 ua.1]
    have cv' : ∀ m, cA n m (rkL (bef n) (hsG n) 100 v + 1) = rkL (bef n) (mQ n m) 100 v + if inM m v then 1 else 0 := fun m => by
      show cA n m (rkL (bef n) (hsG n) 100 v) + (if inM m (mnr n (rkL (bef n) (hsG n) 100 v)) then 1 else 0) = _
      rw [inv v y1 vb.1, cA_pos y1 vb.1]
    have cua := cu a
    have cub := cu b
    have cva := cv' a
    have cvb := cv' b
    rw [ua.2, if_pos rfl, x3] at cua
    rw [ub, if_neg (by decide)] at cub
    rw [va, if_neg (by decide)] at cva
    rw [vb.2, if_pos rfl, y3] at cvb
    have pa := cA_pos (m := a) x1 ua.1
    have pb := cA_pos (m := b) y1 vb.1
    rw [x3] at pa
    rw [y3] at pb
    have fa := cA_full (n := n) (m := a)
    have fb := cA_full (n := n) (m := b)
    cases c : bef n u v
    · have c2 : bef n v u = true := (bef_total hne).resolve_left (by rw [c]; decide)
      have lt := rkL_lt (P := hsG n) S y1 x1 vb.1 c2
      have ec : cpE n a b = rkL (bef n) (hsG n) 100 v + 1 := by
        unfold cpE
        refine fst1_eq (fun d hd => ?_) (fun _ => ?_) (by omega)
        · have m1 := cA_mono (n := n) (m := a) (show d ≤ rkL (bef n) (hsG n) 100 u by omega)
          have m2 := cA_mono (n := n) (m := b) (show d ≤ rkL (bef n) (hsG n) 100 v by omega)
          rw [decide_eq_false (show ¬ cA n a d = cA n a (mcn n) by omega), decide_eq_false (show ¬ cA n b d = cA n b (mcn n) by omega)]; rfl
        · rw [decide_eq_true (show cA n b (rkL (bef n) (hsG n) 100 v + 1) = cA n b (mcn n) by omega), Bool.or_true]
      rw [ec, cva, cvb, if_neg (by decide)]; omega
    · have lt := rkL_lt (P := hsG n) S x1 y1 ua.1 c
      have ec : cpE n a b = rkL (bef n) (hsG n) 100 u + 1 := by
        unfold cpE
        refine fst1_eq (fun d hd => ?_) (fun _ => ?_) (by omega)
        · have m1 := cA_mono (n := n) (m := a) (show d ≤ rkL (bef n) (hsG n) 100 u by omega)
          have m2 := cA_mono (n := n) (m := b) (show d ≤ rkL (bef n) (hsG n) 100 v by omega)
          rw [decide_eq_false (show ¬ cA n a d = cA n a (mcn n) by omega), decide_eq_false (show ¬ cA n b d = cA n b (mcn n) by omega)]; rfl
        · rw [decide_eq_true (show cA n a (rkL (bef n) (hsG n) 100 u + 1) = cA n a (mcn n) by omega), Bool.true_or]
      rw [ec, cua, cub, if_pos rfl]; omega
