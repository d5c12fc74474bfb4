/-! THE PURE SIDE, 21: the candidates, who beats whom -/
def cdC (n : Nat → Int32) : Nat := min 6 (cnt (knw n) 20)
def cd (n : Nat → Int32) (i : Nat) : Nat := nth (knw n) i 20
theorem cdC_6 (n : Nat → Int32) : cdC n ≤ 6 := Nat.min_le_left _ _
theorem cd_spec {n : Nat → Int32} {i : Nat} (h : i < cdC n) : cd n i < 20 ∧ knw n (cd n i) = true ∧ cnt (knw n) (cd n i) = i := nth_found (Nat.lt_of_lt_of_le h (Nat.min_le_right _ _))
theorem n6 {k : Nat} (h : k < 6) : ¬ (6 : Int32) ≤ Int32.ofNat k := nle (a := 6) h
theorem i6 {i : Nat} (h : i < 6) : i = 0 ∨ i = 1 ∨ i = 2 ∨ i = 3 ∨ i = 4 ∨ i = 5 := by omega
theorem isCand_k {k : Nat} (hk : k < 6) (h : mxH) : fX8_isCandidate (Int32.ofNat k) h = some 1 := by
  unfold fX8_isCandidate
  simp only [if_neg (ofN_nn (show k < 2147483648 by omega)), if_neg (n6 hk), bN, z1_1]
theorem isCand_6 (h : mxH) : fX8_isCandidate (Int32.ofNat 6) h = some 0 := by
  unfold fX8_isCandidate
  simp only [if_neg (ofN_nn (show 6 < 2147483648 by omega)), if_pos (show (6 : Int32) ≤ Int32.ofNat 6 from yle), bN, z1_0]
theorem ar_ch : ar 307 6 := ⟨by omega, by omega, rfl, rfl⟩
theorem ar_pr {i : Nat} (hi : i < 6) : ar (309 + i) 6 := by
  rcases i6 hi with rfl | rfl | rfl | rfl | rfl | rfl <;> exact ⟨by omega, by omega, rfl, rfl⟩
theorem ar_fw : ar 315 64 := ⟨by omega, by omega, rfl, rfl⟩
theorem ar_or : ar 316 6 := ⟨by omega, by omega, rfl, rfl⟩
theorem gR_ch {h : mxH} (W : WF h) : gR h 306 8 0 = some 307 := gR_at W ⟨by omega, by omega, rfl, by omega, by decide, rfl, by omega⟩
theorem gR_pr {h : mxH} (W : WF h) : gR h 306 8 2 = some 308 := gR_at W ⟨by omega, by omega, rfl, by omega, by decide, rfl, by omega⟩
theorem gR_fw {h : mxH} (W : WF h) : gR h 306 8 3 = some 315 := gR_at W ⟨by omega, by omega, rfl, by omega, by decide, rfl, by omega⟩
theorem gR_or {h : mxH} (W : WF h) : gR h 306 8 4 = some 316 := gR_at W ⟨by omega, by omega, rfl, by omega, by decide, rfl, by omega⟩
theorem ldR_pr {h : mxH} (W : WF h) {i : Nat} (hi : i < 6) : ldR h 308 (Int32.ofNat i) = some (309 + i) := by
  refine ldR_at W ⟨by omega, by omega, rfl, hi, ?_⟩
  rcases i6 hi with rfl | rfl | rfl | rfl | rfl | rfl <;> rfl
theorem fd_vc : fd 306 8 1 := ⟨by omega, by omega, rfl, by omega, by decide, rfl⟩
theorem isO_V {h : mxH} (W : WF h) : isO h 306 8 = some () := isO_at W ⟨by omega, by omega, rfl⟩
def pf (n : Nat → Int32) (i k : Nat) : Nat := prf n (cd n i) (cd n k)
def bt (n : Nat → Int32) (i k : Nat) : Bool := decide (pf n k i < pf n i k)
theorem prf_5 (n : Nat → Int32) (a b : Nat) : prf n a b ≤ 5 := cnt_le _ _
theorem pf_5 (n : Nat → Int32) (a b : Nat) : pf n a b ≤ 5 := prf_5 _ _ _
def VR (h : mxH) (n : Nat → Int32) : Prop := V h 306 1 = Int32.ofNat (cdC n) ∧ (∀ i, i < cdC n → V h 307 i = Int32.ofNat (cd n i)) ∧ (∀ i k, i < cdC n → k < cdC n → V h (309 + i) k = Int32.ofNat (pf n i k))
theorem VR_fr {P : Nat → Prop} {h h1 : mxH} {n : Nat → Int32} (a : VR h n) (f : Fr P h h1) (hp : ∀ b, 306 ≤ b → b ≤ 314 → ¬ P b) : VR h1 n := by
  have C6 := cdC_6 n
  refine ⟨?_, fun i hi => ?_, fun i k hi hk => ?_⟩
  · rw [Fr_V f (by omega) (hp _ (by omega) (by omega))]; exact a.1
  · rw [Fr_V f (by omega) (hp _ (by omega) (by omega))]; exact a.2.1 i hi
  · rw [Fr_V f (by omega) (hp _ (by omega) (by omega))]; exact a.2.2 i k hi hk
theorem s_gather {h : mxH} (W : WF h) {r : Nat} {n : Nat → Int32} (R : RB r) (A : RR h r n) : Ok (fX8_gather 306 r h) (fun h' => Fr (fun b => 306 ≤ b ∧ b ≤ 314) h h' ∧ VR h' n) := by
  have RL := RB_le R
  unfold fX8_gather
  simp only [pI_at W fd_vc, bN]
  have S0 := fd_vc.sl
  have F0 : Fr (fun b => 306 ≤ b ∧ b ≤ 314) h (st h 306 1 0) := Fr.st W S0 (by omega)
  refine Ok_b (P := fun h1 => Fr (fun b => 306 ≤ b ∧ b ≤ 314) h h1 ∧ V h1 306 1 = Int32.ofNat (cdC n) ∧ ∀ i, i < cdC n → V h1 307 i = Int32.ofNat (cd n i)) (Ok_loop (fun k s => s.1 = Int32.ofNat k ∧ Fr (fun b => 306 ≤ b ∧ b ≤ 314) h s.2 ∧ V s.2 306 1 = Int32.ofNat (min 6 (cnt (knw n) k)) ∧ ∀ i, i < min 6 (cnt (knw n) k) → V s.2 307 i = Int32.ofNat (cd n i)) 20 ⟨rfl, F0, by show V (st h 306 1 0) _ _ = _; rw [V_st W S0, if_pos ⟨rfl, rfl⟩]; rfl, fun i hi => absurd hi (by show ¬ i < min 6 0; omega)⟩ ?_ ?_) (fun h1 ⟨F1, v1, w1⟩ => ?_)
  · rintro k ⟨s1, h1⟩ hk ⟨e, F, hc, hv⟩
    obtain rfl := show s1 = _ from e
    have W1 := F.1
    have hc : V h1 306 1 = Int32.ofNat (min 6 (cnt (knw n) k)) := hc
    have hv : ∀ i, i < min 6 (cnt (knw n) k) → V h1 307 i = Int32.ofNat (cd n i) := hv
    have A1 := RR_fr R A F (fun o ho => by omega)
    simp only [if_neg (n20 hk), gI_at W1 fd_vc, bN, hc, ofN_succ]
    by_cases c : cnt (knw n) k < 6
    · rw [Nat.min_eq_right (by omega)] at hv ⊢
      simp only [isCand_k c, bN, e10, if_false, isO_R W1 R, s_isKn W1 R A1 hk, bI_0]
      cases e : knw n k
      · simp only [if_true, bN]
        refine Ok_p ⟨_, rfl, rfl, F, ?_, ?_⟩
        · show V h1 _ _ = _; rw [cnt_f e]; exact hc
        · show ∀ i, i < _ → V h1 _ _ = _; rw [cnt_f e, Nat.min_eq_right (by omega)]; exact hv
      · have S1 := ar_ch.sl c
        have W2 := WF_st W1 (x := Int32.ofNat k) S1
        have hc2 : V (st h1 307 (cnt (knw n) k) (Int32.ofNat k)) 306 1 = Int32.ofNat (cnt (knw n) k) := by
          rw [V_st_ne (by omega), hc, Nat.min_eq_right (by omega)]
        simp only [Bool.true_eq_false, if_false, gR_ch W1, stI_at W1 ar_ch c, bN, gI_at W2 fd_vc, hc2, pI_at W2 fd_vc, ofN_succ]
        have S2 := fd_vc.sl
        refine Ok_p ⟨_, rfl, rfl, (F.trans (Fr.st W1 S1 (by omega))).trans (Fr.st W2 S2 (by omega)), ?_, ?_⟩
        · show V (st _ _ _ _) _ _ = _
          rw [V_st W2 S2, if_pos ⟨rfl, rfl⟩, cnt_t e, Nat.min_eq_right (by omega)]
        · show ∀ i, i < _ → V (st _ _ _ _) _ _ = _
          intro i hi
          rw [cnt_t e] at hi
          rw [V_st_ne (by omega), V_st W1 S1]
          by_cases q : i = cnt (knw n) k
          · rw [if_pos ⟨rfl, q⟩, q]
            show _ = Int32.ofNat (nth (knw n) _ 20)
            rw [nth_of (by omega) e]
          · rw [if_neg (fun z => q z.2)]; exact hv i (by omega)
    · rw [Nat.min_eq_left (by omega)] at hv hc ⊢
      simp only [isCand_6, bN, if_true]
      have hm := cnt_le (knw n) k
      have e6 : min 6 (cnt (knw n) (k + 1)) = 6 := Nat.min_eq_left (by
        have : cnt (knw n) k ≤ cnt (knw n) (k + 1) := cnt_mono_n (by omega)
        omega)
      refine Ok_p ⟨_, rfl, rfl, F, ?_, ?_⟩
      · show V h1 _ _ = _; rw [e6]; exact hc
      · show ∀ i, i < _ → V h1 _ _ = _; rw [e6]; exact hv
  · rintro ⟨s1, h1⟩ ⟨e, F, hc, hv⟩
    obtain rfl := show s1 = _ from e
    exact Ok_e (a := .inr h1) (if_pos yle) ⟨_, rfl, F, hc, hv⟩
  · have C6 := cdC_6 n
    refine Ok_b (P := fun h2 => Fr (fun b => 306 ≤ b ∧ b ≤ 314) h h2 ∧ VR h2 n) (Ok_loop (fun i s => s.1 = Int32.ofNat i ∧ Fr (fun b => 306 ≤ b ∧ b ≤ 314) h s.2 ∧ V s.2 306 1 = Int32.ofNat (cdC n) ∧ (∀ i, i < cdC n → V s.2 307 i = Int32.ofNat (cd n i)) ∧ ∀ a k, a < i → k < cdC n → V s.2 (309 + a) k = Int32.ofNat (pf n a k)) (cdC n) ⟨rfl, F1, v1, w1, fun a k ha => by omega⟩ ?_ ?_ (by unfold mxF; omega)) (fun h2 H => Ok_p H)
    · rintro i ⟨s1, h2⟩ hi ⟨e, F, hc, hv, hx⟩
      obtain rfl := show s1 = _ from e
      have hc : V h2 306 1 = Int32.ofNat (cdC n) := hc
      have hv : ∀ i, i < cdC n → V h2 307 i = Int32.ofNat (cd n i) := hv
      have hx : ∀ a k, a < i → k < cdC n → V h2 (309 + a) k = Int32.ofNat (pf n a k) := hx
      simp only [gI_at F.1 fd_vc, bN, hc, if_neg (nle hi (by omega))]
      refine Ok_b (P := fun h3 => Fr (fun b => 306 ≤ b ∧ b ≤ 314) h h3 ∧ V h3 306 1 = Int32.ofNat (cdC n) ∧ (∀ i, i < cdC n → V h3 307 i = Int32.ofNat (cd n i)) ∧ ∀ a k, (a < i ∨ a = i) → k < cdC n → V h3 (309 + a) k = Int32.ofNat (pf n a k)) (Ok_loop (fun k s => s.1 = Int32.ofNat k ∧ Fr (fun b => 306 ≤ b ∧ b ≤ 314) h s.2 ∧ V s.2 306 1 = Int32.ofNat (cdC n) ∧ (∀ i, i < cdC n → V s.2 307 i = Int32.ofNat (cd n i)) ∧ ∀ a q, (a < i ∧ q < cdC n) ∨ (a = i ∧ q < k) → V s.2 (309 + a) q = Int32.ofNat (pf n a q)) (cdC n) ⟨rfl, F, hc, hv, fun a q z => hx a q (by omega) (by omega)⟩ ?_ ?_ (by unfold mxF; omega)) (fun h3 ⟨F3, c3, v3, x3⟩ => Ok_p ⟨_, rfl, by show Int32.ofNat i + 1 = _; rw [ofN_succ], F3, c3, v3, fun a k ha hk => x3 a k (by omega) hk⟩)
      · rintro k ⟨s1, h3⟩ hk ⟨e, F3, c3, v3, x3⟩
        obtain rfl := show s1 = _ from e
        have W3 := F3.1
        have c3 : V h3 306 1 = Int32.ofNat (cdC n) := c3
        have v3 : ∀ i, i < cdC n → V h3 307 i = Int32.ofNat (cd n i) := v3
        have A3 := RR_fr R A F3 (fun o ho => by omega)
        have i6' : i < 6 := by omega
        have k6' : k < 6 := by omega
        have S := (ar_pr i6').sl k6'
        simp only [gI_at W3 fd_vc, bN, c3, if_neg (nle hk (by omega)), isCand_k i6', isCand_k k6', e10, if_false, gR_pr W3, ldR_pr W3 i6', gR_ch W3, ldI_at W3 ar_ch i6', ldI_at W3 ar_ch k6', v3 i hi, v3 k hk, isO_R W3 R, s_countPreferring W3 R A3 (cd_spec hi).1 (cd_spec hk).1, stI_at W3 (ar_pr i6') k6', ofN_succ]
        refine Ok_p ⟨_, rfl, rfl, F3.trans (Fr.st W3 S (by omega)), ?_, ?_, ?_⟩
        · show V (st _ _ _ _) _ _ = _; rw [V_st_ne (by omega)]; exact c3
        · show ∀ i, _ → V (st _ _ _ _) _ _ = _; intro j hj; rw [V_st_ne (by omega)]; exact v3 j hj
        · show ∀ a q, _ → V (st _ _ _ _) _ _ = _
          intro a q z
          rw [V_st W3 S]
          by_cases y : a = i ∧ q = k
          · rw [y.1, y.2, if_pos ⟨rfl, rfl⟩]; rfl
          · rw [if_neg (fun z => y ⟨by omega, z.2⟩)]; exact x3 a q (by omega)
      · rintro ⟨s1, h3⟩ ⟨e, F3, c3, v3, x3⟩
        obtain rfl := show s1 = _ from e
        have c3 : V h3 306 1 = Int32.ofNat (cdC n) := c3
        refine Ok_e (a := .inr h3) ?_ ⟨_, rfl, F3, c3, v3, fun a k ha hk => x3 a k (by omega)⟩
        simp only [gI_at F3.1 fd_vc, bN, c3, if_pos yle]
    · rintro ⟨s1, h2⟩ ⟨e, F, hc, hv, hx⟩
      obtain rfl := show s1 = _ from e
      have hc : V h2 306 1 = Int32.ofNat (cdC n) := hc
      refine Ok_e (a := .inr h2) ?_ ⟨_, rfl, F, hc, hv, fun a k ha hk => hx a k ha hk⟩
      simp only [gI_at F.1 fd_vc, bN, hc, if_pos yle]
theorem s_vBeats {h : mxH} (W : WF h) {n : Nat → Int32} (A : VR h n) {i k : Nat} (hi : i < cdC n) (hk : k < cdC n) : fX8_beats 306 (Int32.ofNat i) (Int32.ofNat k) h = some (bI (bt n i k)) := by
  have C6 := cdC_6 n
  have i6' : i < 6 := by omega
  have k6' : k < 6 := by omega
  have p1 := pf_5 n i k
  have p2 := pf_5 n k i
  unfold fX8_beats bt
  simp only [isCand_k i6', isCand_k k6', bN, e10, if_false, gR_pr W, ldR_pr W i6', ldR_pr W k6', ldI_at W (ar_pr i6') k6', ldI_at W (ar_pr k6') i6', A.2.2 i k hi hk, A.2.2 k i hk hi, ofN_le (show pf n i k < 2147483648 by omega) (show pf n k i < 2147483648 by omega)]
  by_cases c : pf n i k ≤ pf n k i
  · simp only [c, if_true, bN, z1_0]; rw [decide_eq_false (by omega)]; rfl
  · simp only [c, if_false, bN, z1_1]; rw [decide_eq_true (by omega)]; rfl
theorem s_countBeaten {h : mxH} (W : WF h) {n : Nat → Int32} (A : VR h n) {i : Nat} (hi : i < cdC n) : fX8_countBeaten 306 (Int32.ofNat i) h = some (Int32.ofNat (cnt (bt n i) (cdC n))) := by
  have C6 := cdC_6 n
  unfold fX8_countBeaten
  refine bs (cnt_loop (bt n i) (cdC n) (fun k c hk hc => ?_) (fun c => ?_) (by unfold mxF; omega)) rfl
  · simp only [gI_at W fd_vc, bN, A.1, if_neg (nle hk (by omega)), isO_V W, s_vBeats W A hi hk, bI_0, ofN_succ]
    cases bt n i k <;> simp
  · simp only [gI_at W fd_vc, bN, A.1, if_pos yle]
def wnr (n : Nat → Int32) : Nat := fst1 (fun i => cnt (bt n i) (cdC n) == cdC n - 1) (cdC n)
theorem s_findWinner {h : mxH} (W : WF h) {n : Nat → Int32} (A : VR h n) : fX8_findWinner 306 h = some (if wnr n < cdC n then Int32.ofNat (cd n (wnr n)) else -1) := by
  have C6 := cdC_6 n
  unfold fX8_findWinner wnr
  have hb : ∀ i, cnt (bt n i) (cdC n) ≤ cdC n := fun i => cnt_le _ _
  refine bs (find_loop (fun i => cnt (bt n i) (cdC n) == cdC n - 1) (cdC n) (fun k hk hp => ?_) (fun k hk hp => ?_) ?_ (by unfold mxF; omega)) ?_
  · have hp : ¬ cnt (bt n k) (cdC n) = cdC n - 1 := by simpa using hp
    have := hb k
    simp only [gI_at W fd_vc, bN, A.1, if_neg (nle hk (by omega)), if_neg (n6 (show k < 6 by omega)), isO_V W, s_countBeaten W A hk, ofN_pred (show 1 ≤ cdC n by omega) (by omega), ofN_eq (show cnt (bt n k) (cdC n) < 2147483648 by omega) (show cdC n - 1 < 2147483648 by omega), if_neg hp, ofN_succ]
  · have hp : cnt (bt n k) (cdC n) = cdC n - 1 := by simpa using hp
    simp only [gI_at W fd_vc, bN, A.1, if_neg (nle hk (by omega)), if_neg (n6 (show k < 6 by omega)), isO_V W, s_countBeaten W A hk, ofN_pred (show 1 ≤ cdC n by omega) (by omega), hp, if_true]
  · simp only [gI_at W fd_vc, bN, A.1, if_pos yle]
  · split
    · rename_i c
      simp only [Sum.elim_inl, gR_ch W, bN, ldI_at W ar_ch (show fst1 (fun i => cnt (bt n i) (cdC n) == cdC n - 1) (cdC n) < 6 by omega), A.2.1 _ c]
    · rfl
