/-! THE PURE SIDE, 31: the reference: candidates, rings -/
/-- the candidates as the reference keeps them -/
def CR (h : mxH) (n : Nat → Int32) : Prop := ∀ i, i < cdC n → V h 328 i = Int32.ofNat (cd n i)
theorem CR_fr {P : Nat → Prop} {h h1 : mxH} {n : Nat → Int32} (a : CR h n) (f : Fr P h h1) (hp : ¬ P 328) : CR h1 n := fun i hi => by
  rw [Fr_V f (by omega) hp]; exact a i hi
theorem m_finds {h : mxH} {n : Nat → Int32} (W : WF h) (e : V h 320 = n) : Ok (fX10_findsCandidates 319 h) (fun o => o.1 = Int32.ofNat (cdC n) ∧ Fr (fun b => b = 328) h o.2 ∧ CR o.2 n) := by
  unfold fX10_findsCandidates
  refine Ok_b (P := fun o : Int32 × mxH => o.1 = Int32.ofNat (cdC n) ∧ Fr (fun b => b = 328) h o.2 ∧ CR o.2 n) (Ok_loopE (fun k s => k ≤ 20 ∧ s.2.1 = Int32.ofNat k ∧ Fr (fun b => b = 328) h s.2.2 ∧ cnt (knw n) k ≤ 6 ∧ s.1 = Int32.ofNat (cnt (knw n) k) ∧ ∀ i, i < cnt (knw n) k → V s.2.2 328 i = Int32.ofNat (cd n i)) 20 ⟨by omega, rfl, Fr.refl W, Nat.zero_le _, rfl, fun i hi => absurd hi (Nat.not_lt_zero _)⟩ ?_) (fun o H => Ok_p H)
  rintro k ⟨s1, s2, h1⟩ hk ⟨-, e1, F, hb, e2, hv⟩
  obtain rfl := show s2 = _ from e1
  obtain rfl := show s1 = _ from e2
  have F : Fr (fun b => b = 328) h h1 := F
  have hv : ∀ i, i < cnt (knw n) k → V h1 328 i = Int32.ofNat (cd n i) := hv
  have W1 := F.1
  by_cases k20 : k = 20
  · refine Ok_e (a := .inr (Int32.ofNat (cnt (knw n) k), h1)) (if_pos (by rw [k20]; exact yle)) (Or.inr ⟨(Int32.ofNat (cnt (knw n) k), h1), rfl, ?_, F, ?_⟩)
    · show Int32.ofNat _ = Int32.ofNat _
      unfold cdC
      rw [← k20, Nat.min_eq_right hb]
    · intro i hi
      unfold cdC at hi
      rw [← k20] at hi
      exact hv i (Nat.lt_of_lt_of_le hi (Nat.min_le_right _ _))
  · have hk : k < 20 := by omega
    by_cases c6 : cnt (knw n) k = 6
    · refine Ok_e (a := .inr (Int32.ofNat (cnt (knw n) k), h1)) ((if_neg (n20 hk)).trans (if_pos (by show (6 : Int32) ≤ Int32.ofNat (cnt (knw n) k); rw [c6]; exact yle))) (Or.inr ⟨(Int32.ofNat (cnt (knw n) k), h1), rfl, ?_, F, ?_⟩)
      · show Int32.ofNat _ = Int32.ofNat _
        have := cnt_mono_n (p := knw n) (show k ≤ 20 by omega)
        unfold cdC
        rw [c6] at this ⊢
        rw [Nat.min_eq_left this]
      · intro i hi
        have := cdC_6 n
        exact hv i (by rw [c6]; exact Nat.lt_of_lt_of_le hi this)
    · have c6' : cnt (knw n) k < 6 := by omega
      simp only [if_neg (n20 hk), if_neg (n6 c6'), isO_X W1, bN, m_isKnown W1 (fr_now F (by omega) e) hk, bI_0, ofN_succ]
      cases c : knw n k
      · simp only [if_true, bN]
        have cs : cnt (knw n) (k + 1) = cnt (knw n) k := cnt_f c
        refine Ok_p (Or.inl ⟨_, rfl, hk, by omega, rfl, F, by rw [cs]; exact hb, by show Int32.ofNat _ = Int32.ofNat _; rw [cs], by rw [cs]; exact hv⟩)
      · have cs : cnt (knw n) (k + 1) = cnt (knw n) k + 1 := cnt_t c
        have S := ar_cnd.sl c6'
        simp only [Bool.true_eq_false, if_false, gM10 W1, bN, stI_at W1 ar_cnd c6', ofN_succ]
        refine Ok_p (Or.inl ⟨_, rfl, hk, by omega, rfl, F.trans (Fr.st W1 S rfl), by rw [cs]; omega, by show Int32.ofNat _ = Int32.ofNat _; rw [cs], fun i hi => ?_⟩)
        rw [cs] at hi
        show V (st _ _ _ _) _ _ = _
        rw [V_st W1 S]
        by_cases y : i = cnt (knw n) k
        · rw [if_pos ⟨rfl, y⟩, y]
          show _ = Int32.ofNat (nth (knw n) _ 20)
          rw [nth_of hk c]
        · rw [if_neg (fun z => y z.2)]; exact hv i (by omega)
theorem m_preferring {h : mxH} {n : Nat → Int32} (W : WF h) (e : V h 320 = n) {a b : Nat} (ha : a < 20) (hb : b < 20) : fX10_preferring 319 (Int32.ofNat a) (Int32.ofNat b) h = some (Int32.ofNat (prf n a b)) := by
  unfold fX10_preferring prf
  refine bs (cnt_loop (fun i => hs n i a && (!hs n i b || decide (pla n i a < pla n i b))) 5 (fun k c hk hc => ?_) (fun c => if_pos yle)) rfl
  have h1 := pla_20 (n := n) (r := k) ha
  have h2 := pla_20 (n := n) (r := k) hb
  simp only [if_neg (n5 hk), isO_X W, bN, m_has W e hk ha, m_has W e hk hb, m_place W e hk ha, m_place W e hk hb, bI_0, ofN_succ, ofN_eq (show a < 2147483648 by omega) (show b < 2147483648 by omega)]
  cases c1 : hs n k a
  · simp
  · by_cases q : a = b
    · subst q
      simp [c1]
    · cases c2 : hs n k b
      · simp [q]
      · simp only [Bool.true_eq_false, if_false, q, ofN_le (show pla n k b < 2147483648 by omega) (show pla n k a < 2147483648 by omega), Bool.not_true, Bool.false_or, Bool.true_and, decide_eq_true_eq]
        by_cases c3 : pla n k b ≤ pla n k a
        · rw [if_pos c3, if_neg (show ¬ pla n k a < pla n k b by omega)]; rfl
        · rw [if_neg c3, if_pos (show pla n k a < pla n k b by omega)]; rfl
theorem m_beats {h : mxH} {n : Nat → Int32} (W : WF h) (e : V h 320 = n) (C : CR h n) {i k : Nat} (hi : i < cdC n) (hk : k < cdC n) : fX10_beats 319 (Int32.ofNat i) (Int32.ofNat k) h = some (bI (bt n i k)) := by
  have C6 := cdC_6 n
  have p1 := pf_5 n i k
  have p2 := pf_5 n k i
  unfold fX10_beats bt
  have e1 : fX10_preferring 319 (Int32.ofNat (cd n i)) (Int32.ofNat (cd n k)) h = some (Int32.ofNat (pf n i k)) := m_preferring W e (cd_spec hi).1 (cd_spec hk).1
  have e2 : fX10_preferring 319 (Int32.ofNat (cd n k)) (Int32.ofNat (cd n i)) h = some (Int32.ofNat (pf n k i)) := m_preferring W e (cd_spec hk).1 (cd_spec hi).1
  simp only [gM10 W, bN, ldI_at W ar_cnd (show i < 6 by omega), ldI_at W ar_cnd (show k < 6 by omega), C i hi, C k hk, isO_X W, e1, e2, ofN_le (show pf n i k < 2147483648 by omega) (show pf n k i < 2147483648 by omega)]
  by_cases c : pf n i k ≤ pf n k i
  · simp only [c, if_true, bN, z1_0]; rw [decide_eq_false (by omega)]; rfl
  · simp only [c, if_false, bN, z1_1]; rw [decide_eq_true (by omega)]; rfl
theorem m_comesBack {h : mxH} {n : Nat → Int32} (W : WF h) (e : V h 320 = n) (C : CR h n) {s l : Nat} (hs : s < cdC n) (hl : l ≤ 6) : fX10_comesBack 319 (Int32.ofNat s) (Int32.ofNat l) (Int32.ofNat (cdC n)) h = some (bI ((rgm n s l).testBit s)) := by
  have C6 := cdC_6 n
  have s6 : s < 6 := by omega
  unfold fX10_comesBack
  rw [(sh6 s s6).1]
  refine bs (a := Int32.ofNat (rgm n s l)) (mxLoop_up (S := fun j => (Int32.ofNat (rgm n s j), Int32.ofNat j)) (N := l) (fun j hj => ?_) (if_pos yle) (by unfold mxF; omega)) ?_
  · have h64 := rgm_64 (n := n) s6 j
    show _ = some (Sum.inl (Int32.ofNat (bb n (rgm n s j)), Int32.ofNat (j + 1)))
    generalize rgm n s j = m at h64
    simp only [if_neg (nle hj (by omega))]
    refine bs (a := Int32.ofNat (bb n m)) ?_ (by rw [ofN_succ])
    unfold bb
    refine nat_loop (fun a i => fo (bbg n m i) a (cdC n)) 0 (cdC n) (fun i hi => ?_) (fun c => if_pos yle) (by unfold mxF; omega)
    simp only [if_neg (nle hi (by omega))]
    have hb : fo (fun a i => fo (bbg n m i) a (cdC n)) 0 i < 64 := bbo_64
    generalize fo (fun a i => fo (bbg n m i) a (cdC n)) 0 i = a at hb
    refine bs (nat_loop (bbg n m i) a (cdC n) (fun k hk => ?_) (fun c => if_pos yle) (by unfold mxF; omega)) (by rw [ofN_succ])
    have hb2 := bbi_64 (n := n) (m := m) (i := i) hb (show k ≤ 6 by omega)
    generalize fo (bbg n m i) a k = x at hb2
    have hbit := bit6 m h64 i (by omega)
    simp only [if_neg (nle hk (by omega)), isO_X W, bN, m_beats W e C hi hk, bI_0, ofN_succ]
    unfold bbg
    cases e : m.testBit i
    · rw [e] at hbit
      rw [if_neg (of_decide_eq_false hbit)]
      rfl
    · rw [e] at hbit
      rw [if_pos (of_decide_eq_true hbit)]
      cases bt n i k
      · rfl
      · rw [(or6 x hb2 k (by omega)).1]
        rfl
  · have h64 := rgm_64 (n := n) s6 l
    have hbit := bit6 (rgm n s l) h64 s s6
    cases e : (rgm n s l).testBit s
    · rw [e] at hbit
      rw [if_neg (of_decide_eq_false hbit)]; rfl
    · rw [e] at hbit
      rw [if_pos (of_decide_eq_true hbit)]; rfl
theorem bt_irr (n : Nat → Int32) (i : Nat) : bt n i i = false := by unfold bt; exact decide_eq_false (by omega)
theorem bt_asym {n : Nat → Int32} {i k : Nat} (h : bt n i k = true) : bt n k i = false := by
  unfold bt at *
  have := of_decide_eq_true h
  exact decide_eq_false (by omega)
theorem rg_1 {n : Nat → Int32} {s : Nat} (hs : s < cdC n) : (rgm n s 1).testBit s = false := by
  have C6 := cdC_6 n
  show (bb n (1 <<< s)).testBit s = false
  rw [bb_bit hs, orT_false]
  intro i hi
  rw [sh6b s (by omega) i (by omega)]
  by_cases q : i = s
  · rw [q, bt_irr, Bool.and_false]
  · rw [show (i == s) = false by simpa using q]; rfl
theorem rg_2 {n : Nat → Int32} {s : Nat} (hs : s < cdC n) : (rgm n s 2).testBit s = false := by
  have C6 := cdC_6 n
  show (bb n (bb n (1 <<< s))).testBit s = false
  rw [bb_bit hs, orT_false]
  intro i hi
  rw [bb_bit hi]
  cases c : bt n i s
  · rw [Bool.and_false]
  · rw [Bool.and_true, orT_false]
    intro k hk
    rw [sh6b s (by omega) k (by omega)]
    by_cases q : k = s
    · rw [q, bt_asym c, Bool.and_false]
    · rw [show (k == s) = false by simpa using q]; rfl
def rgA (n : Nat → Int32) (l : Nat) : Bool := orT (fun s => (rgm n s l).testBit s) (cdC n)
theorem srg_eq (n : Nat → Int32) : srg n = fst1 (fun j => rgA n (j + 1)) (cdC n) := by
  have gen : ∀ k, k ≤ cdC n → fo (fun m s => min m (rfs n s)) (cdC n) k = fst1 (fun j => orT (fun s => (rgm n s (j + 1)).testBit s) k) (cdC n) := by
    intro k
    induction k with
    | zero =>
      intro _
      exact (fst1_eq (fun d _ => rfl) (fun h => absurd h (Nat.lt_irrefl _)) (Nat.le_refl _)).symm
    | succ k ih =>
      intro hk
      show min (fo (fun m s => min m (rfs n s)) (cdC n) k) (rfs n k) = _
      rw [ih (by omega)]
      have l1 := fst1_le (fun j => orT (fun s => (rgm n s (j + 1)).testBit s) k) (cdC n)
      have s1 := fst1_spec (fun j => orT (fun s => (rgm n s (j + 1)).testBit s) k) (cdC n)
      have l2 : rfs n k ≤ cdC n := fst1_le _ _
      have s2 : (∀ j, j < rfs n k → (rgm n k (j + 1)).testBit k = false) ∧ (rfs n k < cdC n → (rgm n k (rfs n k + 1)).testBit k = true) := fst1_spec (fun j => (rgm n k (j + 1)).testBit k) (cdC n)
      generalize fst1 (fun j => orT (fun s => (rgm n s (j + 1)).testBit s) k) (cdC n) = x at l1 s1
      generalize rfs n k = y at l2 s2
      refine (fst1_eq (fun d hd => ?_) (fun hd => ?_) (by omega)).symm
      · show (orT (fun s => (rgm n s (d + 1)).testBit s) k || (rgm n k (d + 1)).testBit k) = false
        rw [show orT (fun s => (rgm n s (d + 1)).testBit s) k = false from s1.1 d (by omega), s2.1 d (by omega)]; rfl
      · show (orT (fun s => (rgm n s (min x y + 1)).testBit s) k || (rgm n k (min x y + 1)).testBit k) = true
        by_cases c : x ≤ y
        · rw [Nat.min_eq_left c] at hd ⊢
          rw [show orT (fun s => (rgm n s (x + 1)).testBit s) k = true from s1.2 hd]; rfl
        · rw [Nat.min_eq_right (by omega)] at hd ⊢
          rw [s2.2 hd, Bool.or_true]
  exact gen (cdC n) (Nat.le_refl _)
theorem m_ring {h : mxH} {n : Nat → Int32} (W : WF h) (e : V h 320 = n) : Ok (fX10_ring 319 h) (fun o => o.1 = rgI (cdC n) (srg n) ∧ Fr (fun b => b = 328) (st h 319 3 0) o.2) := by
  have C6 := cdC_6 n
  unfold fX10_ring
  simp only [pI_at W fd_thr, bN]
  have e := n_thr e 0
  have W := W_thr W 0
  generalize st h 319 3 0 = h at e W
  simp only [isO_X W, bN]
  refine Ok_b (m_finds W e) (fun o6 ⟨a1, a2, a3⟩ => ?_)
  have W1 := a2.1
  have e1 := fr_now a2 (by omega) e
  rw [a1, srg_eq]
  have hb1 : ∀ j, j < 2 → rgA n (j + 1) = false := fun j hj => orT_false.mpr (fun s hs => by
    rcases (show j = 0 ∨ j = 1 by omega) with rfl | rfl
    · exact rg_1 hs
    · exact rg_2 hs)
  have hl := fst1_le (fun j => rgA n (j + 1)) (cdC n)
  have hsp := fst1_spec (fun j => rgA n (j + 1)) (cdC n)
  generalize fst1 (fun j => rgA n (j + 1)) (cdC n) = K at hl hsp
  have inner : ∀ l, 3 ≤ l → l ≤ cdC n → mxLoop (ρ := (Unit ⊕ Unit)) (fun s17 : Int32 => (if (Int32.ofNat (cdC n)) ≤ s17 then some (Sum.inr (Sum.inr ())) else Option.bind (isO o6.2 319 10) (fun u27 => Option.bind (fX10_comesBack 319 s17 (Int32.ofNat l) (Int32.ofNat (cdC n)) o6.2) (fun v30 => (if v30 = 0 then some (Sum.inl (s17 + 1)) else some (Sum.inr (Sum.inl ()))))))) mxF 0 = some (if rgA n l then .inl () else .inr ()) := fun l h1 h2 => by
    refine find_loopU (fun s => (rgm n s l).testBit s) (cdC n) (fun s hs hp => ?_) (fun s hs hp => ?_) (if_pos yle) (by unfold mxF; omega)
    · simp only [if_neg (nle hs (by omega)), isO_X W1, bN, m_comesBack W1 e1 a3 hs (show l ≤ 6 by omega), bI_0, hp, if_true, ofN_succ]
    · simp only [if_neg (nle hs (by omega)), isO_X W1, bN, m_comesBack W1 e1 a3 hs (show l ≤ 6 by omega), bI_0, hp, Bool.true_eq_false, if_false]
  by_cases c : K < cdC n
  · have k2 : 2 ≤ K := by
      by_cases q : 2 ≤ K
      · exact q
      · have := hb1 K (by omega)
        rw [hsp.2 c] at this; cases this
    refine Ok_s (a := .inl (Int32.ofNat (1 + K))) (mxLoop_find (S := fun j => Int32.ofNat (3 + j)) (K := K - 2) (fun j hj => ?_) ?_ (by unfold mxF; omega)) (Ok_p ⟨?_, a2⟩)
    · have hp : rgA n (3 + j) = false := by
        have := hsp.1 (j + 2) (by omega)
        rw [show j + 2 + 1 = 3 + j by omega] at this; exact this
      have c1 : ¬ Int32.ofNat (cdC n) < Int32.ofNat (3 + j) := fun z => by have := (ofN_lt (by omega) (by omega)).mp z; omega
      simp only [if_neg c1]
      refine bs (inner (3 + j) (by omega) (by omega)) ?_
      rw [hp]
      show some (Sum.inl (Int32.ofNat (3 + j) + 1)) = _
      rw [ofN_succ]; rfl
    · have hp : rgA n (1 + K) = true := by rw [Nat.add_comm]; exact hsp.2 c
      have c1 : ¬ Int32.ofNat (cdC n) < Int32.ofNat (1 + K) := fun z => by have := (ofN_lt (by omega) (by omega)).mp z; omega
      rw [show 3 + (K - 2) = 1 + K by omega]
      simp only [if_neg c1]
      refine bs (inner (1 + K) (by omega) (by omega)) ?_
      rw [hp]; rfl
    · show Int32.ofNat (1 + K) = _
      unfold rgI; rw [if_pos c]
  · refine Ok_s (a := .inr ()) (mxLoop_find (S := fun j => Int32.ofNat (3 + j)) (K := cdC n - 2) (fun j hj => ?_) ?_ (by unfold mxF; omega)) (Ok_p ⟨?_, a2⟩)
    · have hp : rgA n (3 + j) = false := by
        have := hsp.1 (j + 2) (by omega)
        rw [show j + 2 + 1 = 3 + j by omega] at this; exact this
      have c1 : ¬ Int32.ofNat (cdC n) < Int32.ofNat (3 + j) := fun z => by have := (ofN_lt (by omega) (by omega)).mp z; omega
      simp only [if_neg c1]
      refine bs (inner (3 + j) (by omega) (by omega)) ?_
      rw [hp]
      show some (Sum.inl (Int32.ofNat (3 + j) + 1)) = _
      rw [ofN_succ]; rfl
    · have c1 : Int32.ofNat (cdC n) < Int32.ofNat (3 + (cdC n - 2)) := (ofN_lt (by omega) (by omega)).mpr (by omega)
      exact if_pos c1
    · show (-1 : Int32) = _
      unfold rgI; rw [if_neg c]
theorem wnr_eq {n : Nat → Int32} {i : Nat} (hi : i < cdC n) : (cnt (bt n i) (cdC n) == cdC n - 1) = !orT (fun k => !decide (k = i) && !bt n i k) (cdC n) := by
  have o := cnt_out (p := fun k => bt n i k || decide (k = i)) hi (by simp)
  have e1 : cnt (fun j => (bt n i j || decide (j = i)) && !(j == i)) (cdC n) = cnt (bt n i) (cdC n) := cnt_congr (fun j hj => by
    by_cases q : j = i
    · rw [q, bt_irr]; simp
    · simp [q])
  rw [e1] at o
  have hle := cnt_le (fun k => bt n i k || decide (k = i)) (cdC n)
  cases c : orT (fun k => !decide (k = i) && !bt n i k) (cdC n)
  · have c := orT_false.mp c
    have e2 : cnt (fun k => bt n i k || decide (k = i)) (cdC n) = cdC n := by
      rw [cnt_congr (q := fun _ => true) (fun k hk => by
        have := c k hk
        by_cases q : k = i
        · simp [q]
        · have : bt n i k = true := by simpa [q] using this
          simp [this]), cnt_all]
    show _ = true
    rw [beq_iff_eq]; omega
  · obtain ⟨k, h1, h2⟩ := orT_iff.mp c
    show _ = false
    have : cnt (fun k => bt n i k || decide (k = i)) (cdC n) < cnt (fun _ => true) (cdC n) := cnt_lt (fun _ _ _ => rfl) h1 (by
      simp only [Bool.and_eq_true, Bool.not_eq_true', decide_eq_false_iff_not] at h2
      show (bt n i k || decide (k = i)) = false
      rw [h2.2, decide_eq_false h2.1]; rfl) rfl
    rw [cnt_all] at this
    rw [beq_eq_false_iff_ne]; omega
theorem m_winner {h : mxH} {n : Nat → Int32} (W : WF h) (e : V h 320 = n) : Ok (fX10_winner 319 h) (fun o => if wnr n < cdC n then o.1 = Int32.ofNat (cd n (wnr n)) ∧ Fr (fun b => b = 328) (st h 319 3 0) o.2 else o.1 = 0 ∧ ∃ h', o.2 = st h' 319 3 1 ∧ Fr (fun b => b = 328) (st h 319 3 0) h') := by
  have C6 := cdC_6 n
  unfold fX10_winner
  simp only [pI_at W fd_thr, bN]
  have e := n_thr e 0
  have W := W_thr W 0
  generalize st h 319 3 0 = h at e W
  simp only [isO_X W, bN]
  refine Ok_b (m_finds W e) (fun o6 ⟨a1, a2, a3⟩ => ?_)
  have W1 := a2.1
  have e1 := fr_now a2 (by omega) e
  rw [a1]
  have inner : ∀ i, i < cdC n → mxLoop (ρ := Int32) (fun s17 : (Int32 × Int32) => (if (Int32.ofNat (cdC n)) ≤ s17.2 then some (Sum.inr s17.1) else Option.bind (α := Int32) (if s17.1 = 0 then some 0 else (if s17.2 = (Int32.ofNat i) then some 1 else Option.bind (isO o6.2 319 10) (fun u31 => Option.bind (fX10_beats 319 (Int32.ofNat i) s17.2 o6.2) (fun v34 => (if v34 = 0 then some 0 else some 1))))) (fun p28' : Int32 => some (Sum.inl (p28', s17.2 + 1))))) mxF (1, 0) = some (bI (!orT (fun k => !decide (k = i) && !bt n i k) (cdC n))) := fun i hi => by
    refine mxLoop_up (S := fun k => (bI (!orT (fun k => !decide (k = i) && !bt n i k) k), Int32.ofNat k)) (N := cdC n) (fun k hk => ?_) (if_pos yle) (by unfold mxF; omega)
    show _ = some (Sum.inl (bI (!(orT (fun k => !decide (k = i) && !bt n i k) k || (!decide (k = i) && !bt n i k))), Int32.ofNat (k + 1)))
    simp only [if_neg (nle hk (by omega)), isO_X W1, bN, m_beats W1 e1 a3 hi hk, bI_0, ofN_eq (show k < 2147483648 by omega) (show i < 2147483648 by omega), ofN_succ]
    generalize orT (fun k => !decide (k = i) && !bt n i k) k = b
    cases b
    · by_cases q : k = i
      · simp [q, bI]
      · cases bt n i k <;> simp [q, bI]
    · simp [bI]
  refine Ok_s (a := if wnr n < cdC n then .inl (Int32.ofNat (wnr n)) else .inr ()) (find_loop (fun i => cnt (bt n i) (cdC n) == cdC n - 1) (cdC n) (fun i hi hp => ?_) (fun i hi hp => ?_) (if_pos yle) (by unfold mxF; omega)) ?_
  · have hp : (cnt (bt n i) (cdC n) == cdC n - 1) = false := hp
    simp only [if_neg (nle hi (by omega))]
    refine bs (inner i hi) ?_
    rw [← wnr_eq hi, hp]
    show some (Sum.inl (Int32.ofNat i + 1)) = _
    rw [ofN_succ]
  · have hp : (cnt (bt n i) (cdC n) == cdC n - 1) = true := hp
    simp only [if_neg (nle hi (by omega))]
    refine bs (inner i hi) ?_
    rw [← wnr_eq hi, hp]; rfl
  · by_cases c : wnr n < cdC n
    · rw [if_pos c]
      simp only [Sum.elim_inl, gM10 W1, bN, ldI_at W1 ar_cnd (show wnr n < 6 by omega), a3 _ c]
      refine Ok_p ?_
      rw [if_pos c]
      exact ⟨rfl, a2⟩
    · rw [if_neg c]
      simp only [Sum.elim_inr, isO_X W1, bN, m_fails W1]
      refine Ok_p ?_
      rw [if_neg c]
      exact ⟨rfl, _, rfl, a2⟩
