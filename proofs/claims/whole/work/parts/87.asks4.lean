/-! THE PURE SIDE, 38: questions, 4: the window, counters, pairs, common things -/
section
variable {h : mxH} {n : Nat → Int32} {j : Nat}
theorem cnt_rev {p : Nat → Bool} {N : Nat} : cnt (fun i => p (N - 1 - i)) N = cnt p N := by
  apply Nat.le_antisymm
  · exact cnt_inj (f := fun i => N - 1 - i) (fun i hi q => ⟨by show N - 1 - i < N; omega, q⟩) (fun a b ha hb _ _ e => by
      have e : N - 1 - a = N - 1 - b := e
      omega)
  · exact cnt_inj (f := fun i => N - 1 - i) (fun i hi q => ⟨by show N - 1 - i < N; omega, by show p (N - 1 - (N - 1 - i)) = true; rw [show N - 1 - (N - 1 - i) = i by omega]; exact q⟩) (fun a b ha hb _ _ e => by
      have e : N - 1 - a = N - 1 - b := e
      omega)
theorem orT_rev {p : Nat → Bool} {N : Nat} : orT (fun i => p (N - 1 - i)) N = orT p N := by
  cases e : orT p N
  · have e := orT_false.mp e
    exact orT_false.mpr (fun k hk => e _ (by omega))
  · obtain ⟨k, h1, h2⟩ := orT_iff.mp e
    exact orT_iff.mpr ⟨N - 1 - k, by omega, by show p (N - 1 - (N - 1 - k)) = true; rw [show N - 1 - (N - 1 - k) = k by omega]; exact h2⟩
/-- how many unlike numbers there are, counted from either end -/
theorem dis_cnt {f : Nat → Nat} {M : Nat} : ∀ N, (∀ i, i < N → f i < M) → cnt (fun i => !orT (fun k => decide (f k = f i)) i) N = cnt (fun v => orT (fun i => decide (f i = v)) N) M := by
  intro N
  induction N with
  | zero =>
    intro _
    have z : ∀ m, cnt (fun _ => false) m = 0 := fun m => by
      induction m with
      | zero => rfl
      | succ m ih => rw [cnt_f rfl, ih]
    exact (z M).symm
  | succ N ih =>
    intro hf
    have ih := ih (fun i hi => hf i (by omega))
    have hN := hf N (by omega)
    cases e : orT (fun k => decide (f k = f N)) N
    · rw [cnt_t (k := N) (by show (!orT (fun k => decide (f k = f N)) N) = true; rw [e]; rfl), ih]
      rw [cnt_out (p := fun v => orT (fun i => decide (f i = v)) (N + 1)) hN (by show (orT (fun i => decide (f i = f N)) N || decide (f N = f N)) = true; simp)]
      congr 1
      refine cnt_congr (fun v hv => ?_)
      show _ = ((orT (fun i => decide (f i = v)) N || decide (f N = v)) && !(v == f N))
      by_cases q : v = f N
      · subst q
        rw [e]; simp
      · rw [decide_eq_false (fun z => q z.symm), show (v == f N) = false by simpa using q]; simp
    · rw [cnt_f (k := N) (by show (!orT (fun k => decide (f k = f N)) N) = false; rw [e]; rfl), ih]
      refine cnt_congr (fun v hv => ?_)
      show _ = (orT (fun i => decide (f i = v)) N || decide (f N = v))
      by_cases q : f N = v
      · subst q
        rw [e]; rfl
      · rw [decide_eq_false q, Bool.or_false]
def wN (n : Nat → Int32) (k : Nat) : Nat := (n (211 + k)).toNatClampNeg
theorem wN_spec (G : NG n j) {k : Nat} (hk : k < inw n) : n (211 + k) = Int32.ofNat (wN n k) ∧ wN n k < 100 := by
  obtain ⟨-, -, -, -, -, -, g7, -⟩ := G
  obtain ⟨v, hv, e⟩ := g7 k hk
  unfold wN
  rw [e, ofN_clamp (by omega)]; exact ⟨rfl, hv⟩
theorem m_inWindow (G : NG n j) (W : WF h) (e : V h 320 = n) (hj : j < 100000) : fX10_inWindow 319 h = some (Int32.ofNat (inw n)) := by
  obtain ⟨g1, g2, g3, g4, -⟩ := G
  unfold fX10_inWindow
  simp only [gM0 W, bN, show ldI h 320 110 = some (n 110) from ld_now W e (k := 110) (by omega), show ldI h 320 108 = some (n 108) from ld_now W e (k := 108) (by omega)]
  rw [g1, g3, mxMin_N (by omega) (by omega)]
  rfl
theorem Q_windowSize (W : WF h) (S : SR h 3 n) (G : GD n j) (hj : j < 100000) : AskI n (fX9_windowSize 2 h) (fX10_windowSize 319) := by
  refine AskI_v (Int32.ofNat (inw n)) ?_ (fun h1 W1 W2 e2 => ?_)
  · unfold fX9_windowSize
    simp only [gH0 W, gS1 W, bN, gI_at W (fd_2 N27), show V h 27 2 = Int32.ofNat (inw n) from S.2.1.2.1]
  · unfold fX10_windowSize
    simp only [pI_at W1 fd_thr, isO_X W2, bN, m_inWindow G.2.2 W2 e2 hj]
    exact Ok_p ⟨rfl, Fr.refl W2⟩
theorem unl_eq (G : NG n j) : unl n = cnt (fun k => !orT (fun i => decide (wN n i = wN n k)) k) (inw n) := by
  have hv : ∀ i, i < inw n → wv n i = Int32.ofNat (wN n (inw n - 1 - i)) := fun i hi => (wN_spec G (show inw n - 1 - i < inw n by omega)).1
  have hb : ∀ i, i < inw n → wN n i < 100 := fun i hi => (wN_spec G hi).2
  rw [dis_cnt (M := 100) (inw n) hb]
  have e1 : unl n = cnt (fun i => !orT (fun k => decide (wN n (inw n - 1 - k) = wN n (inw n - 1 - i))) i) (inw n) := by
    unfold unl
    refine cnt_congr (fun i hi => ?_)
    rw [orT_congr (fun k hk => ?_)]
    rw [hv k (by omega), hv i hi]
    have b1 := hb (inw n - 1 - k) (by omega)
    have b2 := hb (inw n - 1 - i) (by omega)
    simp only [ofN_eq (show wN n (inw n - 1 - k) < 2147483648 by omega) (show wN n (inw n - 1 - i) < 2147483648 by omega)]
  rw [e1, dis_cnt (f := fun i => wN n (inw n - 1 - i)) (M := 100) (inw n) (fun i hi => hb _ (by omega))]
  exact cnt_congr (fun v _ => orT_rev (p := fun i => decide (wN n i = v)) (N := inw n))
theorem Q_unlike (W : WF h) (S : SR h 3 n) (G : GD n j) (hj : j < 100000) : AskI n (fX9_unlike 2 h) (fX10_unlike 319) := by
  have h10 := inw_10 G.2.2
  refine AskI_v (Int32.ofNat (unl n)) ?_ (fun h1 W1 W2 e2 => ?_)
  · unfold fX9_unlike
    simp only [gH0 W, gS1 W, isO_N W N27, bN, s_countUnlike W N27 G.2.2 S.2.1]
  · unfold fX10_unlike
    simp only [pI_at W1 fd_thr, bN]
    generalize st h1 319 3 0 = g at W2 e2
    rw [unl_eq G.2.2]
    refine Ok_s (cnt_loop (fun k => !orT (fun i => decide (wN n i = wN n k)) k) (inw n) (fun k c hk hc => ?_) (fun c => ?_) (by unfold mxF; omega)) (Ok_p ⟨rfl, Fr.refl W2⟩)
    · obtain ⟨ek, bk⟩ := wN_spec G.2.2 hk
      simp only [isO_X W2, bN, m_inWindow G.2.2 W2 e2 hj, if_neg (nle hk (by omega)), ofN_succ]
      refine bs (a := bI (!orT (fun i => decide (wN n i = wN n k)) k)) ?_ ?_
      · refine mxLoop_up (S := fun i => (bI (!orT (fun i => decide (wN n i = wN n k)) i), Int32.ofNat i)) (N := k) (fun i hi => ?_) (if_pos yle) (by unfold mxF; omega)
        obtain ⟨ei, bi⟩ := wN_spec G.2.2 (show i < inw n by omega)
        show _ = some (Sum.inl (bI (!(orT (fun i => decide (wN n i = wN n k)) i || decide (wN n i = wN n k))), Int32.ofNat (i + 1)))
        simp only [if_neg (nle hi (by omega)), gM0 W2, bN, show (211 : Int32) + Int32.ofNat i = Int32.ofNat (211 + i) from ixa 211 i, show (211 : Int32) + Int32.ofNat k = Int32.ofNat (211 + k) from ixa 211 k, ld_now W2 e2 (show 211 + i < 230 by omega), ld_now W2 e2 (show 211 + k < 230 by omega), ei, ek, ofN_eq (show wN n i < 2147483648 by omega) (show wN n k < 2147483648 by omega), bI_0, ofN_succ]
        generalize orT (fun i => decide (wN n i = wN n k)) i = b
        cases b
        · by_cases q : wN n i = wN n k <;> simp [q, bI]
        · simp [bI]
      · simp only [bI_0]
        cases orT (fun i => decide (wN n i = wN n k)) k
        · simp only [Bool.not_false, Bool.true_eq_false, if_false, if_true, bN, ofN_succ]
        · simp only [Bool.not_true, if_true, Bool.false_eq_true, if_false, bN, Nat.add_zero, Int32.add_zero]
    · simp only [isO_X W2, bN, m_inWindow G.2.2 W2 e2 hj, if_pos yle]
/-- how many of the window are not below v -/
def geN (n : Nat → Int32) (v : Nat) : Nat := cnt (fun k => decide (v ≤ wN n k)) (inw n)
def eqN (n : Nat → Int32) (v : Nat) : Nat → Bool := fun k => decide (wN n k = v)
theorem geN_s (n : Nat → Int32) (v : Nat) : geN n v = geN n (v + 1) + cnt (eqN n v) (inw n) := by
  unfold geN eqN
  have : ∀ N, cnt (fun k => decide (v ≤ wN n k)) N = cnt (fun k => decide (v + 1 ≤ wN n k)) N + cnt (fun k => decide (wN n k = v)) N := by
    intro N
    induction N with
    | zero => rfl
    | succ N ih =>
      show cnt _ N + (if decide (v ≤ wN n N) = true then 1 else 0) = (cnt _ N + (if decide (v + 1 ≤ wN n N) = true then 1 else 0)) + (cnt _ N + (if decide (wN n N = v) = true then 1 else 0))
      rw [ih]
      by_cases c1 : v ≤ wN n N
      · by_cases c2 : wN n N = v
        · rw [decide_eq_true c1, decide_eq_false (show ¬ v + 1 ≤ wN n N by omega), decide_eq_true c2]
          simp only [if_true, Bool.false_eq_true, if_false]; omega
        · rw [decide_eq_true c1, decide_eq_true (show v + 1 ≤ wN n N by omega), decide_eq_false c2]
          simp only [if_true, Bool.false_eq_true, if_false]; omega
      · rw [decide_eq_false c1, decide_eq_false (show ¬ v + 1 ≤ wN n N by omega), decide_eq_false (show ¬ wN n N = v by omega)]
        simp only [Bool.false_eq_true, if_false]; omega
  exact this _
theorem bysz_spec (G : NG n j) {q : Nat} (hq : q < inw n) : bysz n q < inw n ∧ geN n (wN n (inw n - 1 - bysz n q) + 1) ≤ q ∧ q < geN n (wN n (inw n - 1 - bysz n q)) := by
  have S := bef_STO (wv n) (inw n)
  have hv : ∀ i, i < inw n → wv n i = Int32.ofNat (wN n (inw n - 1 - i)) := fun i hi => (wN_spec G (show inw n - 1 - i < inw n by omega)).1
  have hb : ∀ i, i < inw n → wN n i < 100 := fun i hi => (wN_spec G hi).2
  have hc : cnt (fun _ => true) (inw n) = inw n := cnt_all _
  obtain ⟨t1, t2, t3⟩ := nrL_spec (P := fun _ => true) S (j := q) (by rw [hc]; exact hq)
  have er : ∀ t, rkL (bef (wv n)) (fun _ => true) (inw n) t = rkw n t := fun t => cnt_congr (fun s hs => by simp)
  rw [er] at t3
  have hf := fst1_found (p := fun i => rkw n i == q) (n := inw n) t1 (by show (rkw n _ == q) = true; rw [t3]; simp)
  have hs := (fst1_spec (fun i => rkw n i == q) (inw n)).2 hf
  have hs : rkw n (bysz n q) = q := beq_iff_eq.mp hs
  have hf : bysz n q < inw n := hf
  generalize bysz n q = i at hs hf
  have hr1 : geN n (wN n (inw n - 1 - i) + 1) = cnt (fun s => decide (wN n (inw n - 1 - i) + 1 ≤ wN n (inw n - 1 - s))) (inw n) := (cnt_rev (p := fun k => decide (wN n (inw n - 1 - i) + 1 ≤ wN n k)) (N := inw n)).symm
  have hr2 : geN n (wN n (inw n - 1 - i)) = cnt (fun s => decide (wN n (inw n - 1 - i) ≤ wN n (inw n - 1 - s))) (inw n) := (cnt_rev (p := fun k => decide (wN n (inw n - 1 - i) ≤ wN n k)) (N := inw n)).symm
  have bb : ∀ s, s < inw n → bef (wv n) s i = true → wN n (inw n - 1 - i) ≤ wN n (inw n - 1 - s) := fun s hs2 z => by
    have b1 := hb (inw n - 1 - s) (by omega)
    have b2 := hb (inw n - 1 - i) (by omega)
    rcases bef_iff.mp z with z | z
    · rw [hv s hs2, hv i hf, ofN_lt (by omega) (by omega)] at z; omega
    · have := z.1
      rw [hv s hs2, hv i hf, ofN_eq (by omega) (by omega)] at this; omega
  refine ⟨hf, ?_, ?_⟩
  · rw [hr1, ← hs]
    refine cnt_mono (fun s hs2 z => ?_)
    have z := of_decide_eq_true z
    have b1 := hb (inw n - 1 - s) (by omega)
    have b2 := hb (inw n - 1 - i) (by omega)
    refine bef_iff.mpr (Or.inl ?_)
    rw [hv s hs2, hv i hf, ofN_lt (by omega) (by omega)]; omega
  · rw [hr2, ← hs]
    exact cnt_lt (fun s hs2 z => decide_eq_true (bb s hs2 z)) hf (bef_irr _ _) (decide_eq_true (Nat.le_refl _))
theorem Q_windowAt (W : WF h) (S : SR h 3 n) (G : GD n j) (hj : j < 100000) (p : Int32) : Ask (RC1 IX) h n (fX9_windowAt 2 p h) (fX10_windowAt 319 p) := by
  have h10 := inw_10 G.2.2
  by_cases hq : inN p (inw n) = true
  · obtain ⟨q, hq2, rfl⟩ := inN_of (by omega) hq
    obtain ⟨b1, b2, b3⟩ := bysz_spec G.2.2 hq2
    obtain ⟨ew, bw⟩ := wN_spec G.2.2 (show inw n - 1 - bysz n q < inw n by omega)
    have ev : wv n (bysz n q) = Int32.ofNat (wN n (inw n - 1 - bysz n q)) := ew
    refine Ask_v (Int32.ofNat (wN n (inw n - 1 - bysz n q))) (Or.inl ⟨rfl, rfl⟩) ?_ (fun h1 W1 W2 e2 => ?_)
    · unfold fX9_windowAt
      simp only [gH0 W, gS1 W, bN, gI_at W (fd_2 N27), show V h 27 2 = Int32.ofNat (inw n) from S.2.1.2.1, rq_place hq2 (show inw n < 2147483648 by omega), then_l, isO_N W N27, s_bySize W N27 G.2.2 S.2.1 (show q < 10 by omega), if_pos b1, ev]
      exact Ok_p ⟨rfl, Fr.refl W⟩
    · generalize wN n (inw n - 1 - bysz n q) = x at b2 b3 bw
      unfold fX10_windowAt
      simp only [pI_at W1 fd_thr, isO_X W2, bN, m_inWindow G.2.2 W2 e2 hj, m_in, inI_S (show inw n < 2147483648 by omega), hq, bI_t, e10, if_false]
      generalize st h1 319 3 0 = g at W2 e2
      have inner : ∀ v r, v < 100 → mxLoop (ρ := (Unit ⊕ Int32)) (fun s20 : (Int32 × Int32) => Option.bind (isO g 319 10) (fun u29 => Option.bind (fX10_inWindow 319 g) (fun v32 => (if v32 ≤ s20.2 then some (Sum.inr (Sum.inr s20.1)) else Option.bind (gR g 319 10 0) (fun r34 => Option.bind (ldI g r34 (211 + s20.2)) (fun v36 => (if v36 = Int32.ofNat v then (if s20.1 = 0 then some (Sum.inr (Sum.inl ())) else some (Sum.inl (s20.1 - 1, s20.2 + 1))) else some (Sum.inl (s20.1, s20.2 + 1))))))))) mxF (Int32.ofNat r, 0) = some (if r < cnt (eqN n v) (inw n) then .inl () else .inr (Int32.ofNat (r - cnt (eqN n v) (inw n)))) ∨ 2147483648 ≤ r := fun v r hv => by
        by_cases hr : 2147483648 ≤ r
        · exact Or.inr hr
        · refine Or.inl ?_
          have ld : ∀ k, k < inw n → ldI g 320 (211 + Int32.ofNat k) = some (Int32.ofNat (wN n k)) ∧ wN n k < 100 := fun k hk => by
            obtain ⟨e1, e3⟩ := wN_spec G.2.2 hk
            rw [show (211 : Int32) + Int32.ofNat k = Int32.ofNat (211 + k) from ixa 211 k, ld_now W2 e2 (by omega), e1]
            exact ⟨rfl, e3⟩
          by_cases c : r < cnt (eqN n v) (inw n)
          · rw [if_pos c]
            obtain ⟨q1, q2, q3⟩ := nth_found c
            refine mxLoop_find (S := fun k => (Int32.ofNat (r - cnt (eqN n v) k), Int32.ofNat k)) (K := nth (eqN n v) r (inw n)) (fun k hk => ?_) ?_ (by unfold mxF; omega)
            · obtain ⟨l1, l2⟩ := ld k (by omega)
              simp only [isO_X W2, bN, m_inWindow G.2.2 W2 e2 hj, if_neg (nle (show k < inw n by omega) (by omega)), gM0 W2, l1, ofN_eq (show wN n k < 2147483648 by omega) (show v < 2147483648 by omega), ofN_succ]
              by_cases z : wN n k = v
              · have zz : eqN n v k = true := decide_eq_true z
                have lt := cnt_lt_of hk zz
                rw [q3] at lt
                have nz : ¬ Int32.ofNat (r - cnt (eqN n v) k) = 0 := fun y => by have := (ofN_eq (b := 0) (by omega) (by omega)).mp y; omega
                rw [if_pos z, if_neg nz, ofN_pred (by omega) (by omega), cnt_t zz, show r - cnt (eqN n v) k - 1 = r - (cnt (eqN n v) k + 1) by omega]
              · rw [if_neg z, cnt_f (show eqN n v k = false from decide_eq_false z)]
            · obtain ⟨l1, l2⟩ := ld _ q1
              have z : wN n (nth (eqN n v) r (inw n)) = v := of_decide_eq_true q2
              simp only [isO_X W2, bN, m_inWindow G.2.2 W2 e2 hj, if_neg (nle q1 (by omega)), gM0 W2, l1, z, if_true, q3, Nat.sub_self]
              exact if_pos rfl
          · rw [if_neg c]
            refine mxLoop_up (S := fun k => (Int32.ofNat (r - cnt (eqN n v) k), Int32.ofNat k)) (N := inw n) (fun k hk => ?_) ?_ (by unfold mxF; omega)
            · obtain ⟨l1, l2⟩ := ld k hk
              simp only [isO_X W2, bN, m_inWindow G.2.2 W2 e2 hj, if_neg (nle hk (by omega)), gM0 W2, l1, ofN_eq (show wN n k < 2147483648 by omega) (show v < 2147483648 by omega), ofN_succ]
              by_cases z : wN n k = v
              · have zz : eqN n v k = true := decide_eq_true z
                have lt := cnt_lt_of hk zz
                have nz : ¬ Int32.ofNat (r - cnt (eqN n v) k) = 0 := fun y => by have := (ofN_eq (b := 0) (by omega) (by omega)).mp y; omega
                rw [if_pos z, if_neg nz, ofN_pred (by omega) (by omega), cnt_t zz, show r - cnt (eqN n v) k - 1 = r - (cnt (eqN n v) k + 1) by omega]
              · rw [if_neg z, cnt_f (show eqN n v k = false from decide_eq_false z)]
            · simp only [isO_X W2, bN, m_inWindow G.2.2 W2 e2 hj, if_pos yle]
      have gm : ∀ u v, u ≤ v → geN n v ≤ geN n u := fun u v huv => cnt_mono (fun k _ z => decide_eq_true (by have := of_decide_eq_true z; omega))
      have step : ∀ d, d < 99 → d < 99 - x → mxLoop (ρ := (Unit ⊕ Int32)) (fun s20 : (Int32 × Int32) => Option.bind (isO g 319 10) (fun u29 => Option.bind (fX10_inWindow 319 g) (fun v32 => (if v32 ≤ s20.2 then some (Sum.inr (Sum.inr s20.1)) else Option.bind (gR g 319 10 0) (fun r34 => Option.bind (ldI g r34 (211 + s20.2)) (fun v36 => (if v36 = Int32.ofNat (99 - d) then (if s20.1 = 0 then some (Sum.inr (Sum.inl ())) else some (Sum.inl (s20.1 - 1, s20.2 + 1))) else some (Sum.inl (s20.1, s20.2 + 1))))))))) mxF (Int32.ofNat (q - geN n (99 - d + 1)), 0) = some (.inr (Int32.ofNat (q - geN n (99 - d)))) := fun d hd hdx => by
        have e3 := geN_s n (99 - d)
        have e4 := gm (x + 1) (99 - d) (by omega)
        have := (inner (99 - d) (q - geN n (99 - d + 1)) (by omega)).resolve_right (by omega)
        rw [this, if_neg (by omega), show q - geN n (99 - d + 1) - cnt (eqN n (99 - d)) (inw n) = q - geN n (99 - d) by omega]
      simp only [isO_X W2, bN, m_inWindow G.2.2 W2 e2 hj] at inner step
      have z100 : geN n (99 - 0 + 1) = 0 := by
        unfold geN
        rw [cnt_congr (q := fun _ => false) (fun k hk => decide_eq_false (by have := (wN_spec G.2.2 hk).2; omega))]
        have z : ∀ m, cnt (fun _ => false) m = 0 := fun m => by
          induction m with
          | zero => rfl
          | succ m ih => rw [cnt_f rfl, ih]
        exact z _
      have e00 : (Int32.ofNat q, (99 : Int32)) = (Int32.ofNat (q - geN n (99 - 0 + 1)), Int32.ofNat (99 - 0)) := by rw [z100]; rfl
      rw [e00]
      by_cases x0 : x = 0
      · subst x0
        refine Ok_s (a := .inr ()) (mxLoop_find (S := fun d => (Int32.ofNat (q - geN n (99 - d + 1)), Int32.ofNat (99 - d))) (K := 99) (fun d hd => ?_) (if_pos yle) (by decide)) (Ok_p ⟨rfl, Fr.refl W2⟩)
        have c1 : ¬ Int32.ofNat (99 - d) ≤ 0 := nle (b := 0) (by omega) (by omega)
        simp only [if_neg c1]
        refine bs (step d hd (by omega)) ?_
        show some (Sum.inl (Int32.ofNat (q - geN n (99 - d)), Int32.ofNat (99 - d) - 1)) = _
        rw [ofN_pred (by omega) (by omega), show 99 - d - 1 = 99 - (d + 1) by omega, show 99 - (d + 1) + 1 = 99 - d by omega]
      · refine Ok_s (a := .inl (Int32.ofNat x)) (mxLoop_find (S := fun d => (Int32.ofNat (q - geN n (99 - d + 1)), Int32.ofNat (99 - d))) (K := 99 - x) (fun d hd => ?_) ?_ (by unfold mxF; omega)) (Ok_p ⟨rfl, Fr.refl W2⟩)
        · have c1 : ¬ Int32.ofNat (99 - d) ≤ 0 := nle (b := 0) (by omega) (by omega)
          simp only [if_neg c1]
          refine bs (step d (by omega) hd) ?_
          show some (Sum.inl (Int32.ofNat (q - geN n (99 - d)), Int32.ofNat (99 - d) - 1)) = _
          rw [ofN_pred (by omega) (by omega), show 99 - d - 1 = 99 - (d + 1) by omega, show 99 - (d + 1) + 1 = 99 - d by omega]
        · rw [show 99 - (99 - x) = x by omega]
          have c1 : ¬ Int32.ofNat x ≤ 0 := nle (b := 0) (by omega) (by omega)
          have e3 := geN_s n x
          simp only [if_neg c1]
          refine bs ((inner x (q - geN n (x + 1)) (by omega)).resolve_right (by omega)) ?_
          rw [if_pos (by omega)]
          rfl
  · refine Ask_e IX 1 (by decide) (Or.inr ⟨rfl, rfl⟩) ?_ (fun h1 W1 W2 e2 => ?_)
    · unfold fX9_windowAt
      simp only [gH0 W, gS1 W, bN, gI_at W (fd_2 N27), show V h 27 2 = Int32.ofNat (inw n) from S.2.1.2.1, rq_placeN (bF hq), then_r]
      exact Ok_p ⟨rfl, Fr_thr (Fr.refl W)⟩
    · unfold fX10_windowAt
      simp only [pI_at W1 fd_thr, isO_X W2, bN, m_inWindow G.2.2 W2 e2 hj, m_in, inI_S (show inw n < 2147483648 by omega), bF hq, bI_f, if_true, m_fails W2]
      exact Ok_p ⟨_, rfl, Fr.refl W2⟩
end
