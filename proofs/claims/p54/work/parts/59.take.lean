/-! THE PURE SIDE, 10: a number comes; the numbers begin anew -/
def bgn (n : Nat → Int32) (w m : Int32) : Nat → Int32 := fun k => if k = 108 then w else if k = 109 then m else if 110 ≤ k ∧ k < 211 then 0 else if 221 ≤ k ∧ k < 225 then -1 else if 225 ≤ k ∧ k < 230 then 0 else n k
theorem inw_bgn (n : Nat → Int32) (w m : Int32) : inw (bgn n w m) = 0 := by
  have : cm (bgn n w m) = 0 := by
    unfold cm bgn
    rw [if_neg (by omega), if_neg (by omega), if_pos (by omega)]
    rfl
  unfold inw; omega
theorem s_beginAnew {h : mxH} (W : WF h) {b : Nat} {n : Nat → Int32} {w m : Int32} (B : NB b) : Ok (fX2_beginAnew b w m h) (fun h' => Fr (fun x => b ≤ x ∧ x ≤ b + 4) h h' ∧ NR h' b (bgn n w m)) := by
  have BL := NB_le B
  unfold fX2_beginAnew
  have S1 := (fd_1 B).sl
  have W1 := WF_st (x := w) W S1
  have G1 := Fr.st (P := fun x => b ≤ x ∧ x ≤ b + 4) (x := w) W S1 (show b ≤ b ∧ b ≤ b + 4 by omega)
  have S2 := (fd_2 B).sl
  have W2 := WF_st (x := 0) W1 S2
  have G2 := G1.trans (Fr.st (x := 0) W1 S2 (show b ≤ b ∧ b ≤ b + 4 by omega))
  simp only [pI_at W (fd_1 B), pI_at W1 (fd_2 B), gR_tm W2 B, bN]
  refine Ok_b (s_fill W2 (ar_tm B)) (fun h3 ⟨F3, w3⟩ => ?_)
  have W3 := F3.1
  have G3 := G2.trans (F3.mono (fun x q => (show b ≤ x ∧ x ≤ b + 4 by omega)))
  have S4 := (fd_4 B).sl
  have W4 := WF_st (x := 0) W3 S4
  have G4 := G3.trans (Fr.st (x := 0) W3 S4 (show b ≤ b ∧ b ≤ b + 4 by omega))
  have S5 := (fd_5 B).sl
  have W5 := WF_st (x := m) W4 S5
  have G5 := G4.trans (Fr.st (x := m) W4 S5 (show b ≤ b ∧ b ≤ b + 4 by omega))
  simp only [pI_at W3 (fd_4 B), pI_at W4 (fd_5 B), gR_cn W5 B, bN]
  refine Ok_b (s_fill W5 (ar_cn B)) (fun h6 ⟨F6, w6⟩ => ?_)
  have W6 := F6.1
  have G6 := G5.trans (F6.mono (fun x q => (show b ≤ x ∧ x ≤ b + 4 by omega)))
  simp only [gR_ct W6 B, bN]
  refine Ok_b (s_fill W6 (ar_ct B)) (fun h7 ⟨F7, w7⟩ => ?_)
  have W7 := F7.1
  have G7 := G6.trans (F7.mono (fun x q => (show b ≤ x ∧ x ≤ b + 4 by omega)))
  have S8 := (fd_8 B).sl
  simp only [pI_at W7 (fd_8 B), bN]
  have e7 : V h7 b = V h6 b := Fr_V F7 (by omega) (by omega)
  have e6 : V h6 b = V (st (st h3 b 4 0) b 5 m) b := Fr_V F6 (by omega) (by omega)
  have e3 : V h3 b = V (st (st h b 1 w) b 2 0) b := Fr_V F3 (by omega) (by omega)
  refine Ok_p ⟨G7.trans (Fr.st W7 S8 (show b ≤ b ∧ b ≤ b + 4 by omega)), ?_, ?_, fun i hi => ?_, fun k hk => ?_, ?_, ?_, fun k hk => ?_, fun k hk => ?_, ?_⟩
  · rw [V_st W7 S8, if_neg (by omega), e7, e6, V_st W4 S5, if_neg (by omega), V_st W3 S4, if_neg (by omega), e3, V_st W1 S2, if_neg (by omega), V_st W S1, if_pos ⟨rfl, rfl⟩]; rfl
  · rw [V_st W7 S8, if_neg (by omega), e7, e6, V_st W4 S5, if_neg (by omega), V_st W3 S4, if_neg (by omega), e3, V_st W1 S2, if_pos ⟨rfl, rfl⟩, inw_bgn]; rfl
  · rw [inw_bgn] at hi; omega
  · rw [V_st_ne (by omega), Fr_V F7 (by omega) (by omega), Fr_V F6 (by omega) (by omega), V_st_ne (by omega), V_st_ne (by omega), w3 k hk]
    unfold bgn
    rw [if_neg (by omega), if_neg (by omega), if_pos (by omega)]
  · rw [V_st W7 S8, if_neg (by omega), e7, e6, V_st W4 S5, if_neg (by omega), V_st W3 S4, if_pos ⟨rfl, rfl⟩]; rfl
  · rw [V_st W7 S8, if_neg (by omega), e7, e6, V_st W4 S5, if_pos ⟨rfl, rfl⟩]; rfl
  · rw [V_st_ne (by omega), Fr_V F7 (by omega) (by omega), w6 k hk]
    unfold bgn
    rw [if_neg (by omega), if_neg (by omega), if_neg (by omega), if_pos (by omega)]
  · rw [V_st_ne (by omega), w7 k hk]
    unfold bgn
    rw [if_neg (by omega), if_neg (by omega), if_neg (by omega), if_neg (by omega), if_pos (by omega)]
  · rw [V_st W7 S8, if_pos ⟨rfl, rfl⟩]; rfl
theorem ofN_pred {a : Nat} (h1 : 1 ≤ a) (h : a < 2147483648) : Int32.ofNat a - 1 = Int32.ofNat (a - 1) := by
  rw [i32_eq, Int32.toInt_sub, ofN_int h, ofN_int (by omega)]
  have : (1 : Int32).toInt = 1 := by decide
  rw [this, Int.bmod_eq_of_le (by omega) (by omega)]
  omega
theorem s_dropOldest {h : mxH} (W : WF h) {b : Nat} (B : NB b) : Ok (fX2_dropOldest b h) (fun o => o.1 = V h (b + 1) 0 ∧ Fr (fun x => x = b ∨ x = b + 1) h o.2 ∧ (∀ i, i < 9 → V o.2 (b + 1) i = V h (b + 1) (i + 1)) ∧ V o.2 b = fup (V h b) 2 (V h b 2 - 1)) := by
  have BL := NB_le B
  unfold fX2_dropOldest
  simp only [gR_wn W B, bN, show ldI h (b + 1) 0 = some (V h (b + 1) 0) from ldI_at W (ar_wn B) (k := 0) (by omega)]
  refine Ok_b (Ok_loop (fun k s => s.1 = Int32.ofNat k ∧ Fr (fun x => x = b + 1) h s.2 ∧ (∀ i, i < k → V s.2 (b + 1) i = V h (b + 1) (i + 1)) ∧ (∀ i, k ≤ i → V s.2 (b + 1) i = V h (b + 1) i)) 9 ⟨rfl, Fr.refl W, fun _ _ => by omega, fun _ _ => rfl⟩ ?_ ?_) (fun h1 (H : Fr (fun x => x = b + 1) h h1 ∧ (∀ i, i < 9 → V h1 (b + 1) i = V h (b + 1) (i + 1))) => ?_)
  · rintro k ⟨s1, h1⟩ hk ⟨e, F, v1, v2⟩
    obtain rfl := show s1 = _ from e
    have W1 := F.1
    have S := (ar_wn B).sl (show k < 10 by omega)
    simp only [ofN_succ, if_neg (n10 (show k + 1 < 10 by omega)), gR_wn W1 B, bN, ldI_at W1 (ar_wn B) (show k + 1 < 10 by omega), stI_at W1 (ar_wn B) (show k < 10 by omega)]
    refine Ok_p ⟨_, rfl, rfl, F.trans (Fr.st W1 S rfl), fun i hi => ?_, fun i hi => ?_⟩
    · show V (st _ _ _ _) _ _ = _
      rw [V_st W1 S]
      by_cases e : i = k
      · subst e; rw [if_pos ⟨rfl, rfl⟩]; exact v2 _ (by omega)
      · rw [if_neg (fun z => e z.2)]; exact v1 i (by omega)
    · show V (st _ _ _ _) _ _ = _
      rw [V_st W1 S, if_neg (fun z => by omega)]
      exact v2 i (by omega)
  · rintro ⟨s1, h1⟩ ⟨e, F, v1, v2⟩
    obtain rfl := show s1 = _ from e
    refine Ok_e (a := .inr h1) ?_ ⟨_, rfl, F, v1⟩
    show (if (10 : Int32) ≤ Int32.ofNat 9 + 1 then _ else _) = _
    rw [ofN_succ]; exact if_pos yle
  · obtain ⟨F, v1⟩ := H
    have W1 := F.1
    have S := (fd_2 B).sl
    simp only [gI_at W1 (fd_2 B), pI_at W1 (fd_2 B), bN]
    refine Ok_p ⟨rfl, (F.mono (fun x q => Or.inr q)).trans (Fr.st W1 S (Or.inl rfl)), fun i hi => ?_, ?_⟩
    · rw [V_st_ne (by omega)]; exact v1 i hi
    · rw [V_st_eq W1 S, Fr_V F (by omega) (by omega)]
/-- all counters one less -/
def lss (n : Nat → Int32) : Nat → Int32 := fun k => if k = 229 then n 229 + 1 else if 225 ≤ k ∧ k < 225 + mn n then n k - 1 else if (221 ≤ k ∧ k < 221 + mn n) ∧ n (k + 4) - 1 = 0 then -1 else n k
theorem s_countAllLess {h : mxH} (W : WF h) {b j : Nat} {n : Nat → Int32} (B : NB b) (G : NG n j) (A : NR h b n) : Ok (fX2_countAllLess b h) (fun h' => Fr (fun x => b ≤ x ∧ x ≤ b + 4) h h' ∧ NR h' b (lss n)) := by
  have BL := NB_le B
  have h10 := inw_10 G
  obtain ⟨-, -, -, -, g5, g6, -⟩ := G
  obtain ⟨a1, a2, a3, a4, a5, a6, a7, a8, a9⟩ := A
  unfold fX2_countAllLess
  refine Ok_b (Ok_loop (fun k s => s.1 = Int32.ofNat k ∧ Fr (fun x => x = b + 3 ∨ x = b + 4) h s.2 ∧ (∀ i, i < 4 → V s.2 (b + 4) i = if i < k then n (225 + i) - 1 else n (225 + i)) ∧ (∀ i, i < 4 → V s.2 (b + 3) i = if i < k ∧ n (225 + i) - 1 = 0 then -1 else n (221 + i))) (mn n) ⟨rfl, Fr.refl W, fun i hi => by rw [if_neg (by omega)]; exact a8 i hi, fun i hi => by rw [if_neg (by omega)]; exact a7 i hi⟩ ?_ ?_ (by unfold mxF; omega)) (fun h1 (H : Fr (fun x => x = b + 3 ∨ x = b + 4) h h1 ∧ (∀ i, i < 4 → V h1 (b + 4) i = if i < mn n then n (225 + i) - 1 else n (225 + i)) ∧ (∀ i, i < 4 → V h1 (b + 3) i = if i < mn n ∧ n (225 + i) - 1 = 0 then -1 else n (221 + i))) => ?_)
  · rintro k ⟨s1, h1⟩ hk ⟨e, F, v1, v2⟩
    obtain rfl := show s1 = _ from e
    have v1 : ∀ i, i < 4 → V h1 (b + 4) i = if i < k then n (225 + i) - 1 else n (225 + i) := v1
    have v2 : ∀ i, i < 4 → V h1 (b + 3) i = if i < k ∧ n (225 + i) - 1 = 0 then -1 else n (221 + i) := v2
    have W1 := F.1
    have e0 : V h1 b = V h b := Fr_V F (by omega) (by omega)
    have hk4 : k < 4 := by omega
    have S := (ar_ct B).sl hk4
    have ek : V h1 (b + 4) k = n (225 + k) := by rw [v1 k hk4, if_neg (by omega)]
    have W2 := WF_st (x := n (225 + k) - 1) W1 S
    have e2 : V (st h1 (b + 4) k (n (225 + k) - 1)) (b + 4) k = n (225 + k) - 1 := by rw [V_st W1 S, if_pos ⟨rfl, rfl⟩]
    have F2 := F.trans (Fr.st (x := n (225 + k) - 1) W1 S (Or.inr rfl))
    simp only [gI_at W1 (fd_5 B), e0, a6, g5, bN, if_neg (nle hk (by omega)), if_neg (n4 hk4), gR_ct W1 B, ldI_at W1 (ar_ct B) hk4, ek, stI_at W1 (ar_ct B) hk4, gR_ct W2 B, ldI_at W2 (ar_ct B) hk4, e2, ofN_succ]
    by_cases c : n (225 + k) - 1 = 0
    · have S3 := (ar_cn B).sl hk4
      simp only [c, if_true, bN]
      rw [c] at W2 F2
      simp only [gR_cn W2 B, bN, stI_at W2 (ar_cn B) hk4]
      refine Ok_p ⟨_, rfl, rfl, F2.trans (Fr.st W2 S3 (Or.inl rfl)), fun i hi => ?_, fun i hi => ?_⟩
      · show V (st _ _ _ _) _ _ = _
        rw [V_st_ne (by omega), V_st W1 S]
        by_cases e : i = k
        · subst e; rw [if_pos ⟨rfl, rfl⟩, if_pos (by omega), c]
        · rw [if_neg (fun z => e z.2), v1 i hi]
          by_cases q : i < k
          · rw [if_pos q, if_pos (by omega)]
          · rw [if_neg q, if_neg (by omega)]
      · show V (st _ _ _ _) _ _ = _
        rw [V_st W2 S3]
        by_cases e : i = k
        · subst e; rw [if_pos ⟨rfl, rfl⟩, if_pos ⟨by omega, c⟩]
        · rw [if_neg (fun z => e z.2), V_st_ne (by omega), v2 i hi]
          by_cases q : i < k ∧ n (225 + i) - 1 = 0
          · rw [if_pos q, if_pos ⟨by omega, q.2⟩]
          · rw [if_neg q, if_neg (fun z => q ⟨by omega, z.2⟩)]
    · simp only [c, if_false, bN]
      refine Ok_p ⟨_, rfl, rfl, F2, fun i hi => ?_, fun i hi => ?_⟩
      · show V (st _ _ _ _) _ _ = _
        rw [V_st W1 S]
        by_cases e : i = k
        · subst e; rw [if_pos ⟨rfl, rfl⟩, if_pos (by omega)]
        · rw [if_neg (fun z => e z.2), v1 i hi]
          by_cases q : i < k
          · rw [if_pos q, if_pos (by omega)]
          · rw [if_neg q, if_neg (by omega)]
      · show V (st _ _ _ _) _ _ = _
        rw [V_st_ne (by omega), v2 i hi]
        by_cases q : i < k ∧ n (225 + i) - 1 = 0
        · rw [if_pos q, if_pos ⟨by omega, q.2⟩]
        · rw [if_neg q, if_neg (fun z => ?_)]
          by_cases e : i = k
          · subst e; exact c z.2
          · exact q ⟨by omega, z.2⟩
  · rintro ⟨s1, h1⟩ ⟨e, F, v1, v2⟩
    obtain rfl := show s1 = _ from e
    have W1 := F.1
    have e0 : V h1 b = V h b := Fr_V F (by omega) (by omega)
    simp only [gI_at W1 (fd_5 B), e0, a6, g5, bN, if_pos yle]
    exact Ok_p ⟨_, rfl, F, v1, v2⟩
  · obtain ⟨F, v1, v2⟩ := H
    have W1 := F.1
    have e0 : V h1 b = V h b := Fr_V F (by omega) (by omega)
    have S := (fd_8 B).sl
    simp only [gI_at W1 (fd_8 B), pI_at W1 (fd_8 B), bN, e0, a9]
    have hm : mn (lss n) = mn n := by
      unfold mn lss; rw [if_neg (by omega), if_neg (by omega), if_neg (by omega)]
    have low : ∀ k, k < 221 → lss n k = n k := fun k hk => by
      unfold lss; rw [if_neg (by omega), if_neg (by omega), if_neg (by omega)]
    have hi2 : inw (lss n) = inw n := by
      unfold inw cm wd; rw [low _ (by omega), low _ (by omega)]
    refine Ok_p ⟨(F.mono (fun x q => (show b ≤ x ∧ x ≤ b + 4 by omega))).trans (Fr.st W1 S (show b ≤ b ∧ b ≤ b + 4 by omega)), ?_, ?_, fun i hi => ?_, fun k hk => ?_, ?_, ?_, fun k hk => ?_, fun k hk => ?_, ?_⟩
    · rw [V_st W1 S, if_neg (by omega), e0, a1, low _ (by omega)]
    · rw [V_st W1 S, if_neg (by omega), e0, a2, hi2]
    · rw [hi2] at hi ⊢
      rw [V_st_ne (by omega), Fr_V F (by omega) (by omega), a3 i hi, low _ (by omega)]
    · rw [V_st_ne (by omega), Fr_V F (by omega) (by omega), a4 k hk, low _ (by omega)]
    · rw [V_st W1 S, if_neg (by omega), e0, a5, low _ (by omega)]
    · rw [V_st W1 S, if_neg (by omega), e0, a6, low _ (by omega)]
    · rw [V_st_ne (by omega), v2 k hk]
      unfold lss
      rw [if_neg (show ¬ 221 + k = 229 by omega), if_neg (show ¬ (225 ≤ 221 + k ∧ _) by omega), show 221 + k + 4 = 225 + k by omega]
      by_cases q : k < mn n ∧ n (225 + k) - 1 = 0
      · rw [if_pos q, if_pos ⟨by omega, q.2⟩]
      · rw [if_neg q, if_neg (fun z => q ⟨by omega, z.2⟩)]
    · rw [V_st_ne (by omega), v1 k hk]
      unfold lss
      rw [if_neg (show ¬ 225 + k = 229 by omega)]
      by_cases q : k < mn n
      · rw [if_pos q, if_pos (by omega)]
      · rw [if_neg q, if_neg (by omega), if_neg (by omega)]
    · rw [V_st W1 S, if_pos ⟨rfl, rfl⟩]; rfl
