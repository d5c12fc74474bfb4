/-! THE PURE SIDE, 11: the tally; what push leaves -/
/-- the counters behind one more number -/
def tly (n : Nat → Int32) (x : Int32) : Nat → Int32 :=
  if ctr n x < mn n then fup n (225 + ctr n x) (n (225 + ctr n x) + 1)
  else if ctr n (-1) < mn n then fup (fup n (221 + ctr n (-1)) x) (225 + ctr n (-1)) (n (225 + ctr n (-1)) + 1)
  else lss n
theorem ctr_at {n : Nat → Int32} {x : Int32} (h : ctr n x < mn n) : n (221 + ctr n x) = x := by
  have := (fst1_spec (fun k => decide (n (221 + k) = x)) (mn n)).2 h
  exact of_decide_eq_true this
theorem NR_cnt {h : mxH} {b k : Nat} {n : Nat → Int32} {x : Int32} (W : WF h) (B : NB b) (hk : k < 4) (h10 : inw n ≤ 10) (A : NR h b n) : NR (st h (b + 4) k x) b (fup n (225 + k) x) := by
  have BL := NB_le B
  obtain ⟨a1, a2, a3, a4, a5, a6, a7, a8, a9⟩ := A
  have S := (ar_ct B).sl hk
  have low : ∀ i, i ≠ 225 + k → fup n (225 + k) x i = n i := fun i hi => fup_ne hi
  have hi2 : inw (fup n (225 + k) x) = inw n := by
    unfold inw cm wd; rw [low _ (by omega), low _ (by omega)]
  refine ⟨?_, ?_, fun i hi => ?_, fun i hi => ?_, ?_, ?_, fun i hi => ?_, fun i hi => ?_, ?_⟩
  · rw [V_st_ne (by omega), a1, low _ (by omega)]
  · rw [V_st_ne (by omega), a2, hi2]
  · rw [hi2] at hi ⊢; rw [V_st_ne (by omega), a3 i hi, low _ (by omega)]
  · rw [V_st_ne (by omega), a4 i hi, low _ (by omega)]
  · rw [V_st_ne (by omega), a5, low _ (by omega)]
  · rw [V_st_ne (by omega), a6, low _ (by omega)]
  · rw [V_st_ne (by omega), a7 i hi, low _ (by omega)]
  · rw [V_st W S]
    by_cases e : i = k
    · subst e; rw [if_pos ⟨rfl, rfl⟩, fup_eq]
    · rw [if_neg (fun z => e z.2), a8 i hi, low _ (by omega)]
  · rw [V_st_ne (by omega), a9, low _ (by omega)]
theorem NR_num {h : mxH} {b k : Nat} {n : Nat → Int32} {x : Int32} (W : WF h) (B : NB b) (hk : k < 4) (h10 : inw n ≤ 10) (A : NR h b n) : NR (st h (b + 3) k x) b (fup n (221 + k) x) := by
  have BL := NB_le B
  obtain ⟨a1, a2, a3, a4, a5, a6, a7, a8, a9⟩ := A
  have S := (ar_cn B).sl hk
  have low : ∀ i, i ≠ 221 + k → fup n (221 + k) x i = n i := fun i hi => fup_ne hi
  have hi2 : inw (fup n (221 + k) x) = inw n := by
    unfold inw cm wd; rw [low _ (by omega), low _ (by omega)]
  refine ⟨?_, ?_, fun i hi => ?_, fun i hi => ?_, ?_, ?_, fun i hi => ?_, fun i hi => ?_, ?_⟩
  · rw [V_st_ne (by omega), a1, low _ (by omega)]
  · rw [V_st_ne (by omega), a2, hi2]
  · rw [hi2] at hi ⊢; rw [V_st_ne (by omega), a3 i hi, low _ (by omega)]
  · rw [V_st_ne (by omega), a4 i hi, low _ (by omega)]
  · rw [V_st_ne (by omega), a5, low _ (by omega)]
  · rw [V_st_ne (by omega), a6, low _ (by omega)]
  · rw [V_st W S]
    by_cases e : i = k
    · subst e; rw [if_pos ⟨rfl, rfl⟩, fup_eq]
    · rw [if_neg (fun z => e z.2), a7 i hi, low _ (by omega)]
  · rw [V_st_ne (by omega), a8 i hi, low _ (by omega)]
  · rw [V_st_ne (by omega), a9, low _ (by omega)]
theorem fup_same (n : Nat → Int32) (k : Nat) : fup n k (n k) = n := by
  funext j
  unfold fup
  split
  · rename_i e; rw [e]
  · rfl
theorem s_tally {h : mxH} (W : WF h) {b j x : Nat} {n : Nat → Int32} (B : NB b) (G : NG n j) (A : NR h b n) (hx : x < 100) : Ok (fX2_tally b (Int32.ofNat x) h) (fun h' => Fr (fun x => b ≤ x ∧ x ≤ b + 4) h h' ∧ NR h' b (tly n (Int32.ofNat x))) := by
  have BL := NB_le B
  have h10 := inw_10 G
  have g6 := G.2.2.2.2.2.1
  -- the count of one counter goes up
  have up : ∀ k, k < 4 → ∀ y : Int32, Ok (Option.bind (gR h b 2 6) (fun r26 => Option.bind (stI h r26 (Int32.ofNat k) y) (fun h28 => Option.bind (gR h28 b 2 7) (fun r30 => Option.bind (ldI h28 r30 (Int32.ofNat k)) (fun v32 => Option.bind (stI h28 r30 (Int32.ofNat k) (v32 + 1)) (fun h34 => some h34)))))) (fun h' => Fr (fun x => b ≤ x ∧ x ≤ b + 4) h h' ∧ NR h' b (fup (fup n (221 + k) y) (225 + k) (n (225 + k) + 1))) := fun k hk y => by
    have S1 := (ar_cn B).sl hk
    have W1 := WF_st (x := y) W S1
    have A1 := NR_num (x := y) W B hk h10 A
    have S2 := (ar_ct B).sl hk
    have e : V (st h (b + 3) k y) (b + 4) k = n (225 + k) := by rw [V_st_ne (by omega)]; exact A.2.2.2.2.2.2.2.1 k hk
    simp only [gR_cn W B, bN, stI_at W (ar_cn B) hk, gR_ct W1 B, ldI_at W1 (ar_ct B) hk, e, stI_at W1 (ar_ct B) hk]
    refine Ok_p ⟨(Fr.st W S1 (show b ≤ b + 3 ∧ b + 3 ≤ b + 4 by omega)).trans (Fr.st W1 S2 (show b ≤ b + 4 ∧ b + 4 ≤ b + 4 by omega)), ?_⟩
    have hi2 : inw (fup n (221 + k) y) = inw n := by
      unfold inw cm wd; rw [fup_ne (by omega), fup_ne (by omega)]
    exact NR_cnt W1 B hk (by omega) A1
  unfold fX2_tally tly
  simp only [isO_N W B, bN, s_counterOf W B G A]
  by_cases c1 : ctr n (Int32.ofNat x) < mn n
  · have hk : ctr n (Int32.ofNat x) < 4 := by omega
    simp only [if_pos c1, if_neg (ofN_nm (show ctr n (Int32.ofNat x) < 2147483648 by omega)), bN, if_neg (ofN_nn (show ctr n (Int32.ofNat x) < 2147483648 by omega)), if_neg (n4 hk)]
    refine Ok_b (up _ hk (Int32.ofNat x)) (fun h1 H => Ok_p ⟨H.1, ?_⟩)
    have e : fup n (221 + ctr n (Int32.ofNat x)) (Int32.ofNat x) = n := by
      have := fup_same n (221 + ctr n (Int32.ofNat x))
      rw [ctr_at c1] at this
      exact this
    have := H.2
    rw [e] at this
    exact this
  · simp only [if_neg c1, if_true, bN]
    by_cases c2 : ctr n (-1) < mn n
    · have hk : ctr n (-1) < 4 := by omega
      simp only [if_pos c2, bN, if_neg (ofN_nn (show ctr n (-1) < 2147483648 by omega)), if_neg (n4 hk)]
      exact Ok_b (up _ hk (Int32.ofNat x)) (fun h1 H => Ok_p H)
    · simp only [if_neg c2, bN]
      rw [if_pos (by decide)]
      refine Ok_b (P := fun h' => Fr (fun x => b ≤ x ∧ x ≤ b + 4) h h' ∧ NR h' b (lss n)) (Ok_b (s_countAllLess W B G A) (fun h1 H => Ok_p H)) (fun h1 H => Ok_p H)
/-- the window behind one more number -/
def mid (n : Nat → Int32) (x : Nat) : Nat → Int32 := fun k => if k = 110 then n 110 + 1 else if k = 111 + x then n k + 1 else if k = 211 then Int32.ofNat x else if 212 ≤ k ∧ k ≤ 220 then n (k - 1) else n k
theorem mid_hi {n : Nat → Int32} {x k : Nat} (hx : x < 100) (hk : 221 ≤ k) : mid n x k = n k := by
  unfold mid; rw [if_neg (by omega), if_neg (by omega), if_neg (by omega), if_neg (by omega)]
theorem mid_lo {n : Nat → Int32} {x k : Nat} (hk : k < 110) : mid n x k = n k := by
  unfold mid; rw [if_neg (by omega), if_neg (by omega), if_neg (by omega), if_neg (by omega)]
theorem mid_w {n : Nat → Int32} {x k : Nat} (hx : x < 100) (h1 : 212 ≤ k) (h2 : k ≤ 220) : mid n x k = n (k - 1) := by
  unfold mid; rw [if_neg (by omega), if_neg (by omega), if_neg (by omega), if_pos ⟨h1, h2⟩]
theorem mid_0 {n : Nat → Int32} {x : Nat} (hx : x < 100) : mid n x 211 = Int32.ofNat x := by
  unfold mid; rw [if_neg (by omega), if_neg (by omega), if_pos rfl]
theorem mid_G {n : Nat → Int32} {x j : Nat} (G : NG n j) (hx : x < 100) (hj : j < 100000) : NG (mid n x) (j + 1) ∧ cm (mid n x) = cm n + 1 ∧ wd (mid n x) = wd n := by
  obtain ⟨g1, g2, g3, g4, g5, g6, g7, g8, g9⟩ := G
  have e1 : mid n x 110 = Int32.ofNat (cm n + 1) := by
    show n 110 + 1 = _
    rw [g1, ofN_succ]
  have e2 : cm (mid n x) = cm n + 1 := by
    show (mid n x 110).toNatClampNeg = _
    rw [e1, ofN_clamp (by omega)]
  have e3 : wd (mid n x) = wd n := by unfold wd; rw [mid_lo (by omega)]
  have e4 : mn (mid n x) = mn n := by unfold mn; rw [mid_lo (by omega)]
  refine ⟨⟨by rw [e1, e2], by omega, by rw [mid_lo (by omega), e3]; exact g3, by rw [e3]; exact g4, by rw [mid_lo (by omega), e4]; exact g5, by rw [e4]; exact g6, fun k hk => ?_, fun k hk => ?_, fun i k hi hk => ?_⟩, e2, e3⟩
  · unfold inw at hk
    rw [e2, e3] at hk
    by_cases c : k = 0
    · subst c; exact ⟨x, hx, mid_0 hx⟩
    · rw [mid_w hx (by omega) (by omega)]
      have := g7 (k - 1) (by unfold inw; omega)
      rw [show 211 + (k - 1) = 211 + k - 1 by omega] at this
      exact this
  · rw [mid_hi hx (by omega), mid_hi hx (by omega)]; exact g8 k hk
  · rw [mid_hi hx (by omega), mid_hi hx (by omega)]; exact g9 i k hi hk
/-- what leaves -/
def lve (n : Nat → Int32) : Int32 := if cm n < wd n then -1 else n (211 + (wd n - 1))
def psh (n : Nat → Int32) (x : Nat) : Nat → Int32 := tly (mid n x) (Int32.ofNat x)
set_option maxHeartbeats 1000000 in
theorem s_take {h : mxH} (W : WF h) {b j x : Nat} {n : Nat → Int32} (B : NB b) (G : NG n j) (A : NR h b n) (hx : x < 100) (hj : j < 100000) : Ok (fX2_take b (Int32.ofNat x) h) (fun o => o.1 = lve n ∧ Fr (fun x => b ≤ x ∧ x ≤ b + 4) h o.2 ∧ NR o.2 b (psh n x)) := by
  have BL := NB_le B
  have h10 := inw_10 G
  obtain ⟨GM, ec, ew⟩ := mid_G G hx hj
  obtain ⟨g1, g2, g3, g4, g5, g6, g7, g8, g9⟩ := G
  obtain ⟨a1, a2, a3, a4, a5, a6, a7, a8, a9⟩ := A
  have hiw : inw (mid n x) = min (cm n + 1) (wd n) := by unfold inw; rw [ec, ew]
  have hi0 : inw n = min (cm n) (wd n) := rfl
  unfold fX2_take
  simp only [gI_at W (fd_2 B), gI_at W (fd_1 B), bN, a1, a2]
  -- behind the first step the window has room
  refine Ok_b (P := fun o => o.1 = lve n ∧ Fr (fun x => b ≤ x ∧ x ≤ b + 4) h o.2 ∧ V o.2 b 2 = Int32.ofNat (inw (mid n x) - 1) ∧ (∀ i, i < inw (mid n x) - 1 → V o.2 (b + 1) i = n (211 + (inw (mid n x) - 1 - 1 - i))) ∧ V o.2 (b + 2) = V h (b + 2) ∧ V o.2 (b + 3) = V h (b + 3) ∧ V o.2 (b + 4) = V h (b + 4) ∧ (∀ q, q ≠ 2 → V o.2 b q = V h b q)) ?_ ?_
  · rw [g3]
    simp only [ofN_lt (show inw n < 2147483648 by omega) (show wd n < 2147483648 by omega)]
    by_cases c : inw n < wd n
    · rw [if_pos c]
      refine Ok_p ⟨by unfold lve; rw [if_pos (by omega)], Fr.refl W, by rw [a2]; congr 1; omega, fun i hi => ?_, rfl, rfl, rfl, fun _ _ => rfl⟩
      rw [a3 i (by omega)]; congr 1; omega
    · rw [if_neg c]
      simp only [isO_N W B, bN]
      refine Ok_b (s_dropOldest W B) (fun o ⟨e1, F, v1, v2⟩ => Ok_p ⟨?_, F.mono (fun y q => (show b ≤ y ∧ y ≤ b + 4 by omega)), ?_, fun i hi => ?_, Fr_V F (by omega) (by omega), Fr_V F (by omega) (by omega), Fr_V F (by omega) (by omega), fun q hq => ?_⟩)
      · show o.1 = _
        rw [e1, a3 0 (by omega)]
        unfold lve
        rw [if_neg (by omega)]
        congr 1; omega
      · show V o.2 b 2 = _
        rw [v2, fup_eq, a2, ofN_pred (by omega) (by omega)]; congr 1; omega
      · show V o.2 (b + 1) i = _
        rw [v1 i (by omega), a3 (i + 1) (by omega)]; congr 1; omega
      · show V o.2 b q = _
        rw [v2, fup_ne hq]
  · rintro ⟨lv, h1⟩ ⟨e1, F1, b2, b3, b4, b5, b6, b7⟩
    have W1 := F1.1
    have b2 : V h1 b 2 = Int32.ofNat (inw (mid n x) - 1) := b2
    have b3 : ∀ i, i < inw (mid n x) - 1 → V h1 (b + 1) i = n (211 + (inw (mid n x) - 1 - 1 - i)) := b3
    have b4 : V h1 (b + 2) = V h (b + 2) := b4
    have b5 : V h1 (b + 3) = V h (b + 3) := b5
    have b6 : V h1 (b + 4) = V h (b + 4) := b6
    have b7 : ∀ q, q ≠ 2 → V h1 b q = V h b q := b7
    have hs : inw (mid n x) - 1 < 10 := by omega
    have S2 := (ar_wn B).sl hs
    have W2 := WF_st (x := Int32.ofNat x) W1 S2
    have G2 := F1.trans (Fr.st (x := Int32.ofNat x) W1 S2 (show b ≤ b + 1 ∧ b + 1 ≤ b + 4 by omega))
    have e2 : V (st h1 (b + 1) (inw (mid n x) - 1) (Int32.ofNat x)) b 2 = Int32.ofNat (inw (mid n x) - 1) := by rw [V_st_ne (by omega)]; exact b2
    have S3 := (fd_2 B).sl
    have W3 := WF_st (x := Int32.ofNat (inw (mid n x) - 1) + 1) W2 S3
    have G3 := G2.trans (Fr.st (x := Int32.ofNat (inw (mid n x) - 1) + 1) W2 S3 (show b ≤ b ∧ b ≤ b + 4 by omega))
    simp only [gI_at W1 (fd_2 B), bN, b2, if_neg (ofN_nn (show inw (mid n x) - 1 < 2147483648 by omega)), if_neg (n10 hs), gR_wn W1 B, stI_at W1 (ar_wn B) hs, gI_at W2 (fd_2 B), e2, pI_at W2 (fd_2 B), s_isNumber hx, e10, if_false, gR_tm W3 B, ldI_at W3 (ar_tm B) hx, stI_at W3 (ar_tm B) hx]
    have e3 : V (st (st h1 (b + 1) (inw (mid n x) - 1) (Int32.ofNat x)) b 2 (Int32.ofNat (inw (mid n x) - 1) + 1)) (b + 2) = V h (b + 2) := by
      rw [V_st_ne (by omega), V_st_ne (by omega)]; exact b4
    rw [e3]
    have S4 := (ar_tm B).sl hx
    have W4 := WF_st (x := V h (b + 2) x + 1) W3 S4
    have G4 := G3.trans (Fr.st (x := V h (b + 2) x + 1) W3 S4 (show b ≤ b + 2 ∧ b + 2 ≤ b + 4 by omega))
    have S5 := (fd_4 B).sl
    have e4 : ∀ q, q ≠ 2 → V (st (st (st h1 (b + 1) (inw (mid n x) - 1) (Int32.ofNat x)) b 2 (Int32.ofNat (inw (mid n x) - 1) + 1)) (b + 2) x (V h (b + 2) x + 1)) b q = V h b q := fun q hq => by
      rw [V_st_ne (by omega), V_st W2 S3, if_neg (fun z => hq z.2), V_st_ne (by omega)]; exact b7 q hq
    simp only [gI_at W4 (fd_4 B), pI_at W4 (fd_4 B), bN, e4 4 (by omega)]
    have W5 := WF_st (x := V h b 4 + 1) W4 S5
    have G5 := G4.trans (Fr.st (x := V h b 4 + 1) W4 S5 (show b ≤ b ∧ b ≤ b + 4 by omega))
    have N5 : NR (st (st (st (st h1 (b + 1) (inw (mid n x) - 1) (Int32.ofNat x)) b 2 (Int32.ofNat (inw (mid n x) - 1) + 1)) (b + 2) x (V h (b + 2) x + 1)) b 4 (V h b 4 + 1)) b (mid n x) := by
      refine ⟨?_, ?_, fun i hi => ?_, fun i hi => ?_, ?_, ?_, fun i hi => ?_, fun i hi => ?_, ?_⟩
      · rw [V_st W4 S5, if_neg (by omega), e4 1 (by omega), a1, mid_lo (by omega)]
      · rw [V_st W4 S5, if_neg (by omega), V_st_ne (by omega), V_st W2 S3, if_pos ⟨rfl, rfl⟩, ofN_succ]; congr 1; omega
      · rw [V_st_ne (by omega), V_st_ne (by omega), V_st_ne (by omega), V_st W1 S2]
        by_cases e : i = inw (mid n x) - 1
        · rw [if_pos ⟨rfl, e⟩, show 211 + (inw (mid n x) - 1 - i) = 211 by omega, mid_0 hx]
        · rw [if_neg (fun z => e z.2), b3 i (by omega), mid_w hx (by omega) (by omega)]; congr 1; omega
      · rw [V_st_ne (by omega), V_st W3 S4, a4 x hx]
        by_cases e : i = x
        · subst e; rw [if_pos ⟨rfl, rfl⟩]
          unfold mid; rw [if_neg (by omega), if_pos rfl]
        · rw [if_neg (fun z => e z.2), e3, a4 i hi]
          unfold mid; rw [if_neg (by omega), if_neg (by omega), if_neg (by omega), if_neg (by omega)]
      · rw [V_st W4 S5, if_pos ⟨rfl, rfl⟩, a5]; rfl
      · rw [V_st W4 S5, if_neg (by omega), e4 5 (by omega), a6, mid_lo (by omega)]
      · rw [V_st_ne (by omega), V_st_ne (by omega), V_st_ne (by omega), V_st_ne (by omega), b5, a7 i hi, mid_hi hx (by omega)]
      · rw [V_st_ne (by omega), V_st_ne (by omega), V_st_ne (by omega), V_st_ne (by omega), b6, a8 i hi, mid_hi hx (by omega)]
      · rw [V_st W4 S5, if_neg (by omega), e4 8 (by omega), a9, mid_hi hx (by omega)]
    simp only [isO_N W5 B, bN]
    exact Ok_b (s_tally W5 B GM N5 hx) (fun h6 ⟨F6, N6⟩ => Ok_p ⟨e1, G5.trans F6, N6⟩)
