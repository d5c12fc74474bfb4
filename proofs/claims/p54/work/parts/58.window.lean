/-! THE PURE SIDE, 9: the window -/
def wv (n : Nat → Int32) (i : Nat) : Int32 := n (211 + (inw n - 1 - i))
theorem inw_10 {n : Nat → Int32} {j : Nat} (G : NG n j) : inw n ≤ 10 := by
  have := G.2.2.2.1.2
  unfold inw; omega
def rkw (n : Nat → Int32) (i : Nat) : Nat := cnt (fun j => bef (wv n) j i) (inw n)
theorem s_rankInWindow {h : mxH} (W : WF h) {b j i : Nat} {n : Nat → Int32} (B : NB b) (G : NG n j) (A : NR h b n) (hi : i < inw n) : fX2_rankInWindow b (Int32.ofNat i) h = some (Int32.ofNat (rkw n i)) := by
  have h10 := inw_10 G
  obtain ⟨-, a2, a3, -⟩ := A
  have a3 : ∀ i, i < inw n → V h (b + 1) i = wv n i := a3
  unfold fX2_rankInWindow rkw
  refine bs (cnt_loop (fun j => bef (wv n) j i) (inw n) (fun k c hk hc => ?_) (fun c => ?_) (by unfold mxF; omega)) rfl
  · simp only [gI_at W (fd_2 B), bN, a2, if_neg (nle hk (by omega)), if_neg (n10 (show k < 10 by omega)), if_neg (n10 (show i < 10 by omega)), if_neg (ofN_nn (show i < 2147483648 by omega)), gR_wn W B, ldI_at W (ar_wn B) (show k < 10 by omega), ldI_at W (ar_wn B) (show i < 10 by omega), a3 k hk, a3 i hi, ofN_succ, bef, ofN_le (show i < 2147483648 by omega) (show k < 2147483648 by omega)]
    by_cases c1 : wv n i < wv n k
    · simp [c1]
    · by_cases c2 : wv n k = wv n i
      · by_cases c3 : i ≤ k
        · simp [c2, c3, Nat.not_lt.mpr c3]
        · simp [c2, c3, Nat.not_le.mp c3]
      · simp [c1, c2]
  · simp only [gI_at W (fd_2 B), bN, a2, if_pos yle]
def bysz (n : Nat → Int32) (q : Nat) : Nat := fst1 (fun i => rkw n i == q) (inw n)
theorem s_bySize {h : mxH} (W : WF h) {b j q : Nat} {n : Nat → Int32} (B : NB b) (G : NG n j) (A : NR h b n) (hq : q < 10) : fX2_bySize b (Int32.ofNat q) h = some (if bysz n q < inw n then wv n (bysz n q) else -1) := by
  have h10 := inw_10 G
  have A' := A
  obtain ⟨-, a2, a3, -⟩ := A
  have hr : ∀ i, rkw n i < 2147483648 := fun i => by
    have := cnt_le (fun j => bef (wv n) j i) (inw n)
    unfold rkw; omega
  unfold fX2_bySize bysz
  refine bs (find_loop (fun i => rkw n i == q) (inw n) (fun k hk hp => ?_) (fun k hk hp => ?_) ?_ (by unfold mxF; omega)) ?_
  · have hp : ¬ rkw n k = q := by simpa using hp
    simp only [gI_at W (fd_2 B), bN, a2, if_neg (nle hk (by omega)), if_neg (n10 (show k < 10 by omega)), isO_N W B, s_rankInWindow W B G A' hk, ofN_eq (hr k) (show q < 2147483648 by omega), if_neg hp, ofN_succ]
  · have hp : rkw n k = q := by simpa using hp
    simp only [gI_at W (fd_2 B), bN, a2, if_neg (nle hk (by omega)), if_neg (n10 (show k < 10 by omega)), isO_N W B, s_rankInWindow W B G A' hk, ofN_eq (hr k) (show q < 2147483648 by omega), if_pos hp]
  · simp only [gI_at W (fd_2 B), bN, a2, if_pos yle]
  · by_cases c : fst1 (fun i => rkw n i == q) (inw n) < inw n
    · rw [if_pos c, if_pos c]
      simp only [Sum.elim, gR_wn W B, bN, ldI_at W (ar_wn B) (show fst1 (fun i => rkw n i == q) (inw n) < 10 by omega), a3 _ c, wv]
    · rw [if_neg c, if_neg c]; rfl
/-- a search that tells only whether -/
theorem find_loopU {f : Int32 → Option (Int32 ⊕ (Unit ⊕ Unit))} (p : Nat → Bool) (N : Nat) (step : ∀ k, k < N → p k = false → f (Int32.ofNat k) = some (.inl (Int32.ofNat (k + 1)))) (hit : ∀ k, k < N → p k = true → f (Int32.ofNat k) = some (.inr (.inl ()))) (last : f (Int32.ofNat N) = some (.inr (.inr ()))) (hN : N < mxF := by decide) : mxLoop f mxF 0 = some (if orT p N then .inl () else .inr ()) := by
  have hl := fst1_le p N
  have hs := fst1_spec p N
  refine mxLoop_find (S := fun k => Int32.ofNat k) (K := fst1 p N) (fun k hk => step k (by omega) (hs.1 k hk)) ?_ (by omega)
  by_cases c : fst1 p N < N
  · rw [if_pos (orT_iff.mpr ⟨_, c, hs.2 c⟩)]; exact hit _ c (hs.2 c)
  · have e : fst1 p N = N := by omega
    rw [if_neg (by rw [orT_false.mpr (fun k hk => hs.1 k (by omega))]; decide), e]; exact last
theorem s_isFirst {h : mxH} (W : WF h) {b j i : Nat} {n : Nat → Int32} (B : NB b) (G : NG n j) (A : NR h b n) (hi : i < inw n) : fX2_isFirstOfItsKind b (Int32.ofNat i) h = some (bI (!orT (fun k => decide (wv n k = wv n i)) i)) := by
  have h10 := inw_10 G
  obtain ⟨-, a2, a3, -⟩ := A
  unfold fX2_isFirstOfItsKind
  refine bs (find_loopU (fun k => decide (wv n k = wv n i)) i (fun k hk hp => ?_) (fun k hk hp => ?_) ?_ (by unfold mxF; omega)) ?_
  · have hp : ¬ wv n k = wv n i := by simpa using hp
    simp only [if_neg (nle hk (by omega)), if_neg (n10 (show i < 10 by omega)), gR_wn W B, bN, ldI_at W (ar_wn B) (show k < 10 by omega), ldI_at W (ar_wn B) (show i < 10 by omega), a3 k (by omega), a3 i hi, ofN_succ]
    exact if_neg hp
  · have hp : wv n k = wv n i := by simpa using hp
    simp only [if_neg (nle hk (by omega)), if_neg (n10 (show i < 10 by omega)), gR_wn W B, bN, ldI_at W (ar_wn B) (show k < 10 by omega), ldI_at W (ar_wn B) (show i < 10 by omega), a3 k (by omega), a3 i hi]
    exact if_pos hp
  · exact if_pos yle
  · cases orT (fun k => decide (wv n k = wv n i)) i <;> rfl
def unl (n : Nat → Int32) : Nat := cnt (fun i => !orT (fun k => decide (wv n k = wv n i)) i) (inw n)
theorem s_countUnlike {h : mxH} (W : WF h) {b j : Nat} {n : Nat → Int32} (B : NB b) (G : NG n j) (A : NR h b n) : fX2_countUnlike b h = some (Int32.ofNat (unl n)) := by
  have h10 := inw_10 G
  have A' := A
  obtain ⟨-, a2, a3, -⟩ := A
  unfold fX2_countUnlike unl
  refine bs (cnt_loop (fun i => !orT (fun k => decide (wv n k = wv n i)) i) (inw n) (fun k c hk hc => ?_) (fun c => ?_) (by unfold mxF; omega)) rfl
  · simp only [gI_at W (fd_2 B), bN, a2, if_neg (nle hk (by omega)), if_neg (n10 (show k < 10 by omega)), isO_N W B, s_isFirst W B G A' hk, bI_0, ofN_succ]
    cases orT (fun j => decide (wv n j = wv n k)) k
    · simp
    · simp
  · simp only [gI_at W (fd_2 B), bN, a2, if_pos yle]
/-! a copy, a new beginning -/
theorem NB_dis {a b : Nat} (A : NB a) (B : NB b) (h : a ≠ b) : a + 5 ≤ b ∨ b + 5 ≤ a := by
  rcases A with rfl | ⟨q, hq, rfl⟩ <;> rcases B with rfl | ⟨p, hp, rfl⟩ <;> omega
set_option maxHeartbeats 1000000 in
theorem s_copyNumbers {h : mxH} (W : WF h) {a b j : Nat} {n : Nat → Int32} (A0 : NB a) (B : NB b) (hab : a ≠ b) (G : NG n j) (A : NR h b n) :
    Ok (fX2_copyFrom a b h) (fun h' => Fr (fun x => a ≤ x ∧ x ≤ a + 4) h h' ∧ NR h' a n) := by
  have AL := NB_le A0
  have BL := NB_le B
  have D := NB_dis A0 B hab
  have h10 := inw_10 G
  obtain ⟨a1, a2, a3, a4, a5, a6, a7, a8, a9⟩ := A
  have src : ∀ {h2 : mxH}, Fr (fun x => a ≤ x ∧ x ≤ a + 4) h h2 → ∀ o, o < 5 → V h2 (b + o) = V h (b + o) := fun F o ho => Fr_V F (by omega) (by omega)
  have src0 : ∀ {h2 : mxH}, Fr (fun x => a ≤ x ∧ x ≤ a + 4) h h2 → V h2 b = V h b := fun F => Fr_V F (by omega) (by omega)
  unfold fX2_copyFrom
  simp only [gR_wn W B, gR_wn W A0, bN]
  refine Ok_b (Ok_cp0 (m := 10) W (ar_wn B) (ar_wn A0)) (fun h1 ⟨F1, w1⟩ => ?_)
  have W1 := F1.1
  have G1 := F1.mono (Q := fun x => a ≤ x ∧ x ≤ a + 4) (fun x q => (show a ≤ x ∧ x ≤ a + 4 by omega))
  have S2 := (fd_1 A0).sl
  have W2 := WF_st (x := V h1 b 1) W1 S2
  have G2 := G1.trans (Fr.st (x := V h1 b 1) W1 S2 (show a ≤ a ∧ a ≤ a + 4 by omega))
  have S3 := (fd_2 A0).sl
  have W3 := WF_st (x := V (st h1 a 1 (V h1 b 1)) b 2) W2 S3
  have G3 := G2.trans (Fr.st (x := V (st h1 a 1 (V h1 b 1)) b 2) W2 S3 (show a ≤ a ∧ a ≤ a + 4 by omega))
  simp only [gI_at W1 (fd_1 B), pI_at W1 (fd_1 A0), gI_at W2 (fd_2 B), pI_at W2 (fd_2 A0), gR_tm W3 B, gR_tm W3 A0, bN]
  refine Ok_b (Ok_cp0 (m := 100) W3 (ar_tm B) (ar_tm A0)) (fun h4 ⟨F4, w4⟩ => ?_)
  have W4 := F4.1
  have G4 := G3.trans (F4.mono (fun x q => (show a ≤ x ∧ x ≤ a + 4 by omega)))
  have S5 := (fd_4 A0).sl
  have W5 := WF_st (x := V h4 b 4) W4 S5
  have G5 := G4.trans (Fr.st (x := V h4 b 4) W4 S5 (show a ≤ a ∧ a ≤ a + 4 by omega))
  have S6 := (fd_5 A0).sl
  have W6 := WF_st (x := V (st h4 a 4 (V h4 b 4)) b 5) W5 S6
  have G6 := G5.trans (Fr.st (x := V (st h4 a 4 (V h4 b 4)) b 5) W5 S6 (show a ≤ a ∧ a ≤ a + 4 by omega))
  simp only [gI_at W4 (fd_4 B), pI_at W4 (fd_4 A0), gI_at W5 (fd_5 B), pI_at W5 (fd_5 A0), gR_cn W6 B, gR_cn W6 A0, bN]
  refine Ok_b (Ok_cp0 (m := 4) W6 (ar_cn B) (ar_cn A0)) (fun h7 ⟨F7, w7⟩ => ?_)
  have W7 := F7.1
  have G7 := G6.trans (F7.mono (fun x q => (show a ≤ x ∧ x ≤ a + 4 by omega)))
  simp only [gR_ct W7 B, gR_ct W7 A0, bN]
  refine Ok_b (Ok_cp0 (m := 4) W7 (ar_ct B) (ar_ct A0)) (fun h8 ⟨F8, w8⟩ => ?_)
  have W8 := F8.1
  have G8 := G7.trans (F8.mono (fun x q => (show a ≤ x ∧ x ≤ a + 4 by omega)))
  have S9 := (fd_8 A0).sl
  simp only [gI_at W8 (fd_8 B), pI_at W8 (fd_8 A0), bN]
  have e8 : V h8 a = V h7 a := Fr_V F8 (by omega) (by omega)
  have e7 : V h7 a = V (st (st h4 a 4 (V h4 b 4)) a 5 (V (st h4 a 4 (V h4 b 4)) b 5)) a := Fr_V F7 (by omega) (by omega)
  have e4 : V h4 a = V (st (st h1 a 1 (V h1 b 1)) a 2 (V (st h1 a 1 (V h1 b 1)) b 2)) a := Fr_V F4 (by omega) (by omega)
  refine Ok_p ⟨G8.trans (Fr.st W8 S9 (show a ≤ a ∧ a ≤ a + 4 by omega)), ?_, ?_, fun i hi => ?_, fun k hk => ?_, ?_, ?_, fun k hk => ?_, fun k hk => ?_, ?_⟩
  · rw [V_st W8 S9, if_neg (by omega), e8, e7, V_st W5 S6, if_neg (by omega), V_st W4 S5, if_neg (by omega), e4, V_st W2 S3, if_neg (by omega), V_st W1 S2, if_pos ⟨rfl, rfl⟩, src0 G1, a1]
  · rw [V_st W8 S9, if_neg (by omega), e8, e7, V_st W5 S6, if_neg (by omega), V_st W4 S5, if_neg (by omega), e4, V_st W2 S3, if_pos ⟨rfl, rfl⟩, src0 G2, a2]
  · rw [V_st_ne (by omega), Fr_V F8 (by omega) (by omega), Fr_V F7 (by omega) (by omega), V_st_ne (by omega), V_st_ne (by omega), Fr_V F4 (by omega) (by omega), V_st_ne (by omega), V_st_ne (by omega), w1 i (by omega)]; exact a3 i hi
  · rw [V_st_ne (by omega), Fr_V F8 (by omega) (by omega), Fr_V F7 (by omega) (by omega), V_st_ne (by omega), V_st_ne (by omega), w4 k hk, src G3 _ (by omega)]; exact a4 k hk
  · rw [V_st W8 S9, if_neg (by omega), e8, e7, V_st W5 S6, if_neg (by omega), V_st W4 S5, if_pos ⟨rfl, rfl⟩, src0 G4, a5]
  · rw [V_st W8 S9, if_neg (by omega), e8, e7, V_st W5 S6, if_pos ⟨rfl, rfl⟩, src0 G5, a6]
  · rw [V_st_ne (by omega), Fr_V F8 (by omega) (by omega), w7 k hk, src G6 _ (by omega)]; exact a7 k hk
  · rw [V_st_ne (by omega), w8 k hk, src G7 _ (by omega)]; exact a8 k hk
  · rw [V_st W8 S9, if_pos ⟨rfl, rfl⟩, src0 G8, a9]
