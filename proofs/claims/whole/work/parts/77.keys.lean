/-! THE PURE SIDE, 28: the reference: keys, sorted rows of keys -/
def kyN (n : Nat → Int32) (g : Nat) : Nat := (99 - (n g).toNatClampNeg) * 100 + g
def ky (n : Nat → Int32) (g : Nat) : Int32 := Int32.ofNat (kyN n g)
theorem mk_nat {n : Nat → Int32} (G : MG n) {g : Nat} (hg : g < 100) (q : hsG n g = true) : n g = Int32.ofNat (n g).toNatClampNeg ∧ (n g).toNatClampNeg < 100 := by
  simp only [hsG, decide_eq_true_eq] at q
  rcases G g hg with e | ⟨m, hm, e⟩
  · exact absurd e q
  · rw [e, ofN_clamp (by omega)]; exact ⟨rfl, hm⟩
theorem ky_b {n : Nat → Int32} {g : Nat} (hg : g < 100) : kyN n g < 10000 := by unfold kyN; omega
theorem ky_cmp {n : Nat → Int32} (G : MG n) {g x : Nat} (hg : g < 100) (hx : x < 100) (q : hsG n g = true) (r : hsG n x = true) (hne : g ≠ x) : ky n g ≤ ky n x ↔ bef n x g = false := by
  obtain ⟨e1, b1⟩ := mk_nat G hg q
  obtain ⟨e2, b2⟩ := mk_nat G hx r
  have k1 := ky_b (n := n) hg
  have k2 := ky_b (n := n) hx
  unfold ky
  rw [ofN_le (by omega) (by omega)]
  have : bef n x g = decide (kyN n x < kyN n g) := by
    unfold bef
    rw [e1, e2]
    simp only [ofN_lt (show (n g).toNatClampNeg < 2147483648 by omega) (show (n x).toNatClampNeg < 2147483648 by omega), ofN_eq (show (n x).toNatClampNeg < 2147483648 by omega) (show (n g).toNatClampNeg < 2147483648 by omega)]
    unfold kyN
    generalize (n g).toNatClampNeg = u at b1
    generalize (n x).toNatClampNeg = v at b2
    by_cases c1 : u < v
    · rw [decide_eq_true c1, Bool.true_or, decide_eq_true (by omega)]
    · rw [decide_eq_false c1, Bool.false_or]
      by_cases c2 : v = u
      · rw [decide_eq_true c2, Bool.true_and]
        by_cases c3 : x < g
        · rw [decide_eq_true c3, decide_eq_true (by omega)]
        · rw [decide_eq_false c3, decide_eq_false (by omega)]
      · rw [decide_eq_false c2, Bool.false_and, decide_eq_false (by omega)]
  rw [this, decide_eq_false_iff_not]
  have hk : kyN n g ≠ kyN n x := by unfold kyN; omega
  omega
/-- one more is put in among sorted ones -/
theorem k_insert {h : mxH} (W : WF h) {a cap m x N : Nat} {lt : Nat → Nat → Bool} {E : Nat → Nat} {w : Nat → Int32} (A : ar a cap) (hm : m < cap) (hcap : cap < 1000) (hc : ∀ j, j < m → (w (E j) ≤ w x ↔ lt x (E j) = false)) (hV : ∀ j, j < m → V h a j = w (E j))
    (hN : N = m) {f : Int32 × mxH → Option ((Int32 × mxH) ⊕ (Int32 × mxH))}
    (f0 : ∀ h1, f (Int32.ofNat 0, h1) = some (.inr (Int32.ofNat 0, h1)))
    (f1 : ∀ h1 k, k + 1 ≤ m → Fr (fun b => b = a) h h1 → f (Int32.ofNat (k + 1), h1) = if V h1 a k ≤ w x then some (.inr (Int32.ofNat (k + 1), h1)) else some (.inl (Int32.ofNat k, st h1 a (k + 1) (V h1 a k)))) :
    Ok (mxLoop f mxF (Int32.ofNat m, h)) (fun o => ∃ pos, pos ≤ m ∧ o.1 = Int32.ofNat pos ∧ Fr (fun b => b = a) h o.2 ∧ (∀ j, j < pos → V o.2 a j = w (E j)) ∧ (∀ j, pos < j → j ≤ m → V o.2 a j = w (E (j - 1))) ∧ (∀ j, pos ≤ j → j < m → lt x (E j) = true) ∧ (pos = 0 ∨ lt x (E (pos - 1)) = false)) := by
  refine Ok_loopE (fun k s => k ≤ m ∧ s.1 = Int32.ofNat (m - k) ∧ Fr (fun b => b = a) h s.2 ∧ (∀ j, j < m - k → V s.2 a j = w (E j)) ∧ (∀ j, m - k < j → j ≤ m → V s.2 a j = w (E (j - 1))) ∧ (∀ j, m - k ≤ j → j < m → lt x (E j) = true)) m ⟨by omega, by rw [Nat.sub_zero], Fr.refl W, fun j hj => hV j (by omega), fun j h1 h2 => by omega, fun j h1 h2 => by omega⟩ ?_ (by unfold mxF; omega)
  rintro k ⟨s1, h1⟩ hk ⟨-, e1, F, v1, v2, v3⟩
  obtain rfl := show s1 = _ from e1
  have v1 : ∀ j, j < m - k → V h1 a j = w (E j) := v1
  have v2 : ∀ j, m - k < j → j ≤ m → V h1 a j = w (E (j - 1)) := v2
  have F : Fr (fun b => b = a) h h1 := F
  by_cases z : m - k = 0
  · rw [z]
    exact Ok_e (f0 h1) (Or.inr ⟨_, rfl, 0, by omega, rfl, F, fun j hj => by omega, fun j a b => v2 j (by omega) b, fun j a b => v3 j (by omega) b, Or.inl rfl⟩)
  · obtain ⟨q, hq⟩ : ∃ q, m - k = q + 1 := ⟨m - k - 1, by omega⟩
    rw [hq] at v1 v2 v3 ⊢
    have W1 := F.1
    have ex := v1 q (by omega)
    rw [f1 h1 q (by omega) F, ex]
    by_cases c : w (E q) ≤ w x
    · rw [if_pos c]
      exact Ok_p (Or.inr ⟨_, rfl, q + 1, by omega, rfl, F, v1, v2, v3, Or.inr (by rw [show q + 1 - 1 = q by omega]; exact (hc q (by omega)).mp c)⟩)
    · rw [if_neg c]
      have S := A.sl (show q + 1 < cap by omega)
      refine Ok_p (Or.inl ⟨_, rfl, by omega, by omega, by show Int32.ofNat q = _; rw [show m - (k + 1) = q by omega], F.trans (Fr.st W1 S rfl), fun j hj => ?_, fun j h2 h3 => ?_, fun j h2 h3 => ?_⟩)
      · show V (st _ _ _ _) _ _ = _
        rw [V_st W1 S, if_neg (by omega)]; exact v1 j (by omega)
      · show V (st _ _ _ _) _ _ = _
        rw [V_st W1 S]
        by_cases e : j = q + 1
        · rw [if_pos ⟨rfl, e⟩, e]; rfl
        · rw [if_neg (fun z => e z.2)]; exact v2 j (by omega) h3
      · by_cases e : j = q
        · rw [e]
          cases b : lt x (E q)
          · exact absurd ((hc q (by omega)).mpr b) c
          · rfl
        · exact v3 j (by omega) h3
/-- the keys at a are those of Q, in order -/
def KA (h : mxH) (a : Nat) (n : Nat → Int32) (Q : Nat → Bool) : Prop := ∀ j, j < cnt Q 100 → V h a j = ky n (nrL (bef n) Q 100 j)
theorem KA_congr {h : mxH} {a : Nat} {n : Nat → Int32} {Q Q' : Nat → Bool} (A : KA h a n Q) (e : ∀ g, g < 100 → Q g = Q' g) : KA h a n Q' := by
  intro j hj
  rw [cnt_congr (q := Q) (fun g hg => (e g hg).symm)] at hj
  have S := SE_congr (SE_of (P := Q) (bef_STO n 100)) e
  rw [A j hj, SE_nr (bef_STO n 100) S hj]
theorem KA_fr {P : Nat → Prop} {h h1 : mxH} {a : Nat} {n : Nat → Int32} {Q : Nat → Bool} (A : KA h a n Q) (f : Fr P h h1) (ha : a < 335) (hp : ¬ P a) : KA h1 a n Q := fun j hj => by
  rw [Fr_V f ha hp]; exact A j hj
/-- the step: x comes to Q at place pos -/
theorem KA_ins {h : mxH} (W : WF h) {a x pos : Nat} {n : Nat → Int32} {Q : Nat → Bool} (A : ar a 100) (hx : x < 100) (qx : Q x = false) (hp : pos ≤ cnt Q 100) (h100 : cnt Q 100 < 100)
    (v1 : ∀ j, j < pos → V h a j = ky n (nrL (bef n) Q 100 j)) (v2 : ∀ j, pos < j → j ≤ cnt Q 100 → V h a j = ky n (nrL (bef n) Q 100 (j - 1)))
    (g1 : ∀ j, pos ≤ j → j < cnt Q 100 → bef n x (nrL (bef n) Q 100 j) = true) (g2 : pos = 0 ∨ bef n x (nrL (bef n) Q 100 (pos - 1)) = false) :
    KA (st h a pos (ky n x)) a n (fun g => Q g || g == x) ∧ cnt (fun g => Q g || g == x) 100 = cnt Q 100 + 1 := by
  have S := bef_STO n 100
  have E := SE_ins S (SE_of (P := Q) S) hx qx hp g1 g2
  have ec := SE_cnt S E
  refine ⟨fun j hj => ?_, ec.symm⟩
  rw [← ec] at hj
  rw [← SE_nr S E hj, V_st W (A.sl (show pos < 100 by omega))]
  show _ = ky n (if j < pos then _ else if j = pos then x else _)
  by_cases q : j = pos
  · rw [if_pos ⟨rfl, q⟩, if_neg (by omega), if_pos q]
  · rw [if_neg (fun z => q z.2)]
    by_cases q2 : j < pos
    · rw [if_pos q2]; exact v1 j q2
    · rw [if_neg q2, if_neg q]; exact v2 j (by omega) (by omega)
theorem m_key {h : mxH} {n : Nat → Int32} (G : MG n) (W : WF h) (e : V h 320 = n) {i t : Nat} (hi : i < 5) (ht : t < 20) (q : hs n i t = true) : fX10_key 319 (Int32.ofNat i) (Int32.ofNat t) h = some (ky n (20 * i + t)) := by
  obtain ⟨e1, b1⟩ := mk_nat G (show 20 * i + t < 100 by omega) (show hsG n (20 * i + t) = true from q)
  unfold fX10_key
  simp only [isO_X W, bN, m_mark W e hi ht]
  unfold ky kyN
  generalize (n (20 * i + t)).toNatClampNeg = m at e1 b1
  rw [e1, show (99 : Int32) = Int32.ofNat 99 from rfl, sub_N (show m ≤ 99 by omega) (by omega), show (100 : Int32) = Int32.ofNat 100 from rfl, show (20 : Int32) = Int32.ofNat 20 from rfl, ofN_mul, ofN_mul, ofN_add, ofN_add, Nat.add_assoc]
def rowF (a : Nat) (i : Int32) : (Int32 × Int32 × mxH) → Option ((Int32 × Int32 × mxH) ⊕ (Int32 × mxH)) := fun s14 : (Int32 × Int32 × mxH) => (if 20 ≤ s14.2.1 then some (Sum.inr (s14.1, s14.2.2)) else Option.bind (isO s14.2.2 319 10) (fun u23 => Option.bind (fX10_has 319 i s14.2.1 s14.2.2) (fun v26 => Option.bind (α := (Int32 × mxH)) (if v26 = 0 then some (s14.1, s14.2.2) else Option.bind (mxLoop (ρ := (Int32 × mxH)) (fun s31 : (Int32 × mxH) => (if s31.1 ≤ 0 then some (Sum.inr (s31.1, s31.2)) else Option.bind (ldI s31.2 a (s31.1 - 1)) (fun v40 => Option.bind (isO s31.2 319 10) (fun u42 => Option.bind (fX10_key 319 i s14.2.1 s31.2) (fun v45 => (if v40 ≤ v45 then some (Sum.inr (s31.1, s31.2)) else Option.bind (ldI s31.2 a (s31.1 - 1)) (fun v47 => Option.bind (stI s31.2 a s31.1 v47) (fun h49 => some (Sum.inl (s31.1 - 1, h49)))))))))) mxF (s14.1, s14.2.2)) (fun r51 : (Int32 × mxH) => Option.bind (isO r51.2 319 10) (fun u52 => Option.bind (fX10_key 319 i s14.2.1 r51.2) (fun v55 => Option.bind (stI r51.2 a r51.1 v55) (fun h56 => some (s14.1 + 1, h56)))))) (fun p29' : (Int32 × mxH) => some (Sum.inl (p29'.1, s14.2.1 + 1, p29'.2))))))
theorem keysOf_eq (a : Nat) (p : Int32) (h : mxH) : fX10_keysOf 319 a p h = Option.bind (mxLoop (ρ := (Int32 × mxH)) (fun s1 : (Int32 × Int32 × mxH) => (if 5 ≤ s1.2.1 then some (Sum.inr (s1.1, s1.2.2)) else Option.bind (α := (Int32 × mxH)) (if p = (-1) then Option.bind (mxLoop (ρ := (Int32 × mxH)) (rowF a s1.2.1) mxF (s1.1, 0, s1.2.2)) (fun r60 : (Int32 × mxH) => some (r60.1, r60.2)) else (if s1.2.1 = p then Option.bind (mxLoop (ρ := (Int32 × mxH)) (rowF a s1.2.1) mxF (s1.1, 0, s1.2.2)) (fun r109 : (Int32 × mxH) => some (r109.1, r109.2)) else some (s1.1, s1.2.2))) (fun a2' : (Int32 × mxH) => some (Sum.inl (a2'.1, s1.2.1 + 1, a2'.2))))) mxF (0, 0, h)) (fun r112 : (Int32 × mxH) => some (r112.1, r112.2)) := rfl
theorem ix2 {i t x s : Nat} (ht : t < 20) (hs : s < 20) : (20 * x + s < 20 * i + t) ↔ (x < i ∨ (x = i ∧ s < t)) := by omega
/-- one row's keys come in -/
theorem k_row {h : mxH} {n : Nat → Int32} (G : MG n) (W : WF h) (e : V h 320 = n) {a i : Nat} {Q : Nat → Bool} (A : ar a 100) (ha : a = 325 ∨ a = 326 ∨ a = 327) (hi : i < 5) (hQ : ∀ g, g < 100 → Q g = true → hsG n g = true ∧ g < 20 * i) (K : KA h a n Q) :
    Ok (mxLoop (ρ := (Int32 × mxH)) (rowF a (Int32.ofNat i)) mxF (Int32.ofNat (cnt Q 100), 0, h)) (fun o => o.1 = Int32.ofNat (cnt (fun g => Q g || (hsG n g && decide (g / 20 = i))) 100) ∧ Fr (fun b => b = a) h o.2 ∧ KA o.2 a n (fun g => Q g || (hsG n g && decide (g / 20 = i)))) := by
  have S := bef_STO n 100
  refine Ok_loop (fun t s => s.2.1 = Int32.ofNat t ∧ Fr (fun b => b = a) h s.2.2 ∧ s.1 = Int32.ofNat (cnt (fun g => Q g || (hsG n g && decide (g / 20 = i) && decide (g < 20 * i + t))) 100) ∧ KA s.2.2 a n (fun g => Q g || (hsG n g && decide (g / 20 = i) && decide (g < 20 * i + t)))) 20 ⟨rfl, Fr.refl W, ?_, ?_⟩ ?_ ?_
  · show Int32.ofNat _ = Int32.ofNat _
    rw [cnt_congr (fun g hg => ?_)]
    by_cases c : g / 20 = i
    · rw [decide_eq_false (show ¬ g < 20 * i + 0 by omega), Bool.and_false, Bool.or_false]
    · rw [decide_eq_false c, Bool.and_false, Bool.false_and, Bool.or_false]
  · refine KA_congr K (fun g hg => ?_)
    by_cases c : g / 20 = i
    · rw [decide_eq_false (show ¬ g < 20 * i + 0 by omega), Bool.and_false, Bool.or_false]
    · rw [decide_eq_false c, Bool.and_false, Bool.false_and, Bool.or_false]
  · rintro t ⟨s1, s2, h1⟩ ht ⟨e1, F, e2, K1⟩
    obtain rfl := show s2 = _ from e1
    obtain rfl := show s1 = _ from e2
    have F : Fr (fun b => b = a) h h1 := F
    have K1 : KA h1 a n (fun g => Q g || (hsG n g && decide (g / 20 = i) && decide (g < 20 * i + t))) := K1
    have W1 := F.1
    have en := fr_now F (by omega) e
    have hQ2 : ∀ g, g < 100 → (Q g || (hsG n g && decide (g / 20 = i) && decide (g < 20 * i + t))) = true → hsG n g = true ∧ g < 20 * i + t := fun g hg q => by
      rw [Bool.or_eq_true] at q
      rcases q with q | q
      · have := hQ g hg q; exact ⟨this.1, by omega⟩
      · simp only [Bool.and_eq_true, decide_eq_true_eq] at q; exact ⟨q.1.1, q.2⟩
    have step : ∀ g, g < 100 → (Q g || (hsG n g && decide (g / 20 = i) && decide (g < 20 * i + (t + 1)))) = ((Q g || (hsG n g && decide (g / 20 = i) && decide (g < 20 * i + t))) || (hsG n g && (g == 20 * i + t))) := fun g hg => by
      by_cases c : g = 20 * i + t
      · have c2 : g / 20 = i := by omega
        rw [decide_eq_true c2, decide_eq_true (show g < 20 * i + (t + 1) by omega), decide_eq_false (show ¬ g < 20 * i + t by omega), show (g == 20 * i + t) = true by simpa using c]
        simp
      · rw [show (g == 20 * i + t) = false by simpa using c, Bool.and_false, Bool.or_false]
        by_cases c2 : g < 20 * i + t
        · rw [decide_eq_true c2, decide_eq_true (show g < 20 * i + (t + 1) by omega)]
        · rw [decide_eq_false c2, decide_eq_false (show ¬ g < 20 * i + (t + 1) by omega)]
    unfold rowF
    simp only [if_neg (n20 ht), isO_X W1, bN, m_has W1 en hi ht, bI_0, ofN_succ]
    have hg : hsG n (20 * i + t) = hs n i t := rfl
    cases c : hs n i t
    · simp only [if_true, bN]
      have st2 : ∀ g, g < 100 → (Q g || (hsG n g && decide (g / 20 = i) && decide (g < 20 * i + t))) = (Q g || (hsG n g && decide (g / 20 = i) && decide (g < 20 * i + (t + 1)))) := fun g hg2 => by
        rw [step g hg2]
        by_cases q : g = 20 * i + t
        · rw [q, hg, c]; simp
        · rw [show (g == 20 * i + t) = false by simpa using q, Bool.and_false, Bool.or_false]
      exact Ok_p ⟨_, rfl, rfl, F, by show Int32.ofNat _ = Int32.ofNat _; rw [cnt_congr st2], KA_congr K1 st2⟩
    · simp only [Bool.true_eq_false, if_false]
      have step : ∀ g, g < 100 → ((Q g || (hsG n g && decide (g / 20 = i) && decide (g < 20 * i + t))) || (g == 20 * i + t)) = (Q g || (hsG n g && decide (g / 20 = i) && decide (g < 20 * i + (t + 1)))) := fun g hg2 => by
        rw [step g hg2]
        by_cases q : g = 20 * i + t
        · rw [q, hg, c]; simp
        · rw [show (g == 20 * i + t) = false by simpa using q, Bool.and_false, Bool.or_false]
      have px : (Q (20 * i + t) || (hsG n (20 * i + t) && decide ((20 * i + t) / 20 = i) && decide (20 * i + t < 20 * i + t))) = false := by
        cases y : (Q (20 * i + t) || (hsG n (20 * i + t) && decide ((20 * i + t) / 20 = i) && decide (20 * i + t < 20 * i + t)))
        · rfl
        · have := (hQ2 _ (by omega) y).2; omega
      generalize hP : (fun g => Q g || (hsG n g && decide (g / 20 = i) && decide (g < 20 * i + t))) = P at K1
      have hP2 : ∀ g, (Q g || (hsG n g && decide (g / 20 = i) && decide (g < 20 * i + t))) = P g := fun g => by rw [← hP]
      have px : P (20 * i + t) = false := by rw [← hP]; exact px
      have hQ2 : ∀ g, g < 100 → P g = true → hsG n g = true ∧ g < 20 * i + t := fun g hg q => by rw [← hP] at q; exact hQ2 g hg q
      have step : ∀ g, g < 100 → (P g || (g == 20 * i + t)) = (Q g || (hsG n g && decide (g / 20 = i) && decide (g < 20 * i + (t + 1)))) := fun g hg => by rw [← step g hg, hP2]
      have h100 : cnt P 100 < 100 := by
        have h2 : cnt P 100 < cnt (fun _ => true) 100 := cnt_lt (fun _ _ _ => rfl) (show 20 * i + t < 100 by omega) px rfl
        rw [cnt_all] at h2; exact h2
      have spec : ∀ j, j < cnt P 100 → nrL (bef n) P 100 j < 100 ∧ P (nrL (bef n) P 100 j) = true := fun j hj => ⟨(nrL_spec S hj).1, (nrL_spec S hj).2.1⟩
      refine Ok_b (P := fun p : Int32 × mxH => p.1 = Int32.ofNat (cnt P 100 + 1) ∧ Fr (fun b => b = a) h p.2 ∧ KA p.2 a n (fun g => P g || g == 20 * i + t) ∧ cnt (fun g => P g || g == 20 * i + t) 100 = cnt P 100 + 1) (Ok_b (k_insert W1 (a := a) (cap := 100) (m := cnt P 100) (x := 20 * i + t) (lt := bef n) (E := nrL (bef n) P 100) (w := ky n) A h100 (by omega) (fun j hj => ky_cmp G (spec j hj).1 (by omega) (hQ2 _ (spec j hj).1 (spec j hj).2).1 c (by have := (hQ2 _ (spec j hj).1 (spec j hj).2).2; omega)) K1 rfl (fun h2 => if_pos yle) (fun h2 k hk F2 => ?_)) (fun o ⟨pos, p1, p2, p3, p4, p5, p6, p7⟩ => ?_)) (fun p ⟨q1, q2, q3, q4⟩ => Ok_p ⟨_, rfl, rfl, q2, ?_, KA_congr q3 step⟩)
      · have c1 : ¬ Int32.ofNat (k + 1) ≤ 0 := nle (b := 0) (a := k + 1) (by omega) (by omega)
        have en2 := fr_now F2 (by omega) en
        simp only [if_neg c1, ofN_pred (show 1 ≤ k + 1 by omega) (show k + 1 < 2147483648 by omega), Nat.add_sub_cancel, ldI_at F2.1 A (show k < 100 by omega), bN, isO_X F2.1, m_key G F2.1 en2 hi ht c, stI_at F2.1 A (show k + 1 < 100 by omega)]
      · have W3 := p3.1
        have en3 := fr_now p3 (by omega) en
        obtain ⟨q1, q2⟩ := KA_ins (h := o.2) W3 (a := a) (x := 20 * i + t) (pos := pos) (n := n) (Q := P) A (by omega) px p1 h100 p4 p5 p6 p7
        rw [p2]
        simp only [isO_X W3, bN, m_key G W3 en3 hi ht c, stI_at W3 A (show pos < 100 by omega), ofN_succ]
        exact Ok_p ⟨rfl, (F.trans p3).trans (Fr.st W3 (A.sl (show pos < 100 by omega)) rfl), q1, q2⟩
      · show p.1 = Int32.ofNat _
        rw [q1, ← q4, cnt_congr step]
  · rintro ⟨s1, s2, h1⟩ ⟨e1, F, e2, K1⟩
    obtain rfl := show s2 = _ from e1
    obtain rfl := show s1 = _ from e2
    have fin : ∀ g, g < 100 → (Q g || (hsG n g && decide (g / 20 = i) && decide (g < 20 * i + 20))) = (Q g || (hsG n g && decide (g / 20 = i))) := fun g hg => by
      by_cases c : g / 20 = i
      · rw [decide_eq_true (show g < 20 * i + 20 by omega), Bool.and_true]
      · rw [decide_eq_false c, Bool.and_false, Bool.false_and]
    refine Ok_e (a := .inr (Int32.ofNat (cnt (fun g => Q g || (hsG n g && decide (g / 20 = i) && decide (g < 20 * i + 20))) 100), h1)) (by unfold rowF; exact if_pos yle) ⟨(Int32.ofNat (cnt (fun g => Q g || (hsG n g && decide (g / 20 = i) && decide (g < 20 * i + 20))) 100), h1), rfl, ?_, F, KA_congr K1 fin⟩
    show Int32.ofNat _ = Int32.ofNat _
    rw [cnt_congr fin]
