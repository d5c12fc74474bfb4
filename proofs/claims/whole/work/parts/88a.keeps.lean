/-! THE PURE SIDE, 43: changes, 1: what the reference keeps and lays -/
section
variable {h : mxH} {n : Nat → Int32} {j c : Nat}
theorem m_keeps (W : WF h) (e : V h 320 = n) (hc : V h 319 2 = Int32.ofNat c) (c8 : c ≤ 8) : Ok (fX10_keeps 319 h) (fun h' => Fr (fun b => b = 319 ∨ b = 321) h h' ∧ V h' 319 = fup (V h 319) 2 (Int32.ofNat (min (c + 1) 8)) ∧ ∀ i, i < min (c + 1) 8 → ∀ k, k < 230 → Bf h' i k = sav c (Bf h) n i k) := by
  have S2 := fd_chg.sl
  have cp2 : ∀ h1 : mxH, WF h1 → V h1 320 = n → ∀ d, d < 8 → V h1 319 2 = Int32.ofNat d → Ok (Option.bind (gR h1 319 10 0) (fun r17 => Option.bind (gR h1 319 10 1) (fun r19 => Option.bind (gI h1 319 10 2) (fun v21 => Option.bind (cpI h1 r17 0 r19 (v21 * 230) 230) (fun h23 => Option.bind (gI h23 319 10 2) (fun v25 => Option.bind (pI h23 319 10 2 (v25 + 1)) (fun h27 => some h27))))))) (fun h' => Fr (fun b => b = 319 ∨ b = 321) h1 h' ∧ V h' 319 = fup (V h1 319) 2 (Int32.ofNat (d + 1)) ∧ ∀ i, i < 8 → ∀ k, k < 230 → Bf h' i k = if i = d then n k else Bf h1 i k) := fun h1 W1 e1 d hd hv => by
    simp only [gM0 W1, gM1 W1, bN, gI_at W1 fd_chg, hv]
    rw [show Int32.ofNat d * 230 = Int32.ofNat (d * 230) from ofN_mul d 230]
    obtain ⟨h2, eh, F, vv⟩ := cpI_at W1 (sp := 0) (dp := d * 230) (m := 230) ar_now ar_bfr (by omega) (by omega)
    refine Ok_s (a := h2) eh ?_
    have W2 := F.1
    have e319 : V h2 319 = V h1 319 := Fr_V F (by omega) (by omega)
    simp only [gI_at W2 fd_chg, bN, e319, hv, ofN_succ, pI_at W2 fd_chg]
    refine Ok_p ⟨(F.mono (fun b z => Or.inr z)).trans (Fr.st W2 S2 (Or.inl rfl)), by rw [V_st_eq W2 S2, e319], fun i hi k hk => ?_⟩
    show V (st h2 319 2 _) 321 (230 * i + k) = _
    rw [V_st_ne (by omega), vv _ (by omega)]
    by_cases q : i = d
    · rw [if_pos q, if_pos (by omega), show 0 + (230 * i + k - d * 230) = k by omega, e1]
    · rw [if_neg q, if_neg (by omega)]; rfl
  unfold fX10_keeps
  simp only [gI_at W fd_chg, bN, hc]
  by_cases c1 : c = 8
  · subst c1
    have e8 : (Int32.ofNat 8 = (8 : Int32)) = True := eq_true rfl
    simp only [e8, if_true, gM1 W, bN]
    refine Ok_b (P := fun h1 => Fr (fun b => b = 319 ∨ b = 321) h h1 ∧ V h1 319 = fup (V h 319) 2 (Int32.ofNat 7) ∧ V h1 320 = n ∧ ∀ i, i < 7 → ∀ k, k < 230 → Bf h1 i k = Bf h (i + 1) k) ?_ (fun h1 ⟨F1, v1, e1, b1⟩ => ?_)
    · obtain ⟨h2, eh, F, vv⟩ := cpI_at W (sp := 230) (dp := 0) (m := 1610) ar_bfr ar_bfr (by omega) (by omega)
      refine Ok_s (a := h2) eh ?_
      have W2 := F.1
      have e319 : V h2 319 = V h 319 := Fr_V F (by omega) (by omega)
      simp only [gI_at W2 fd_chg, bN, e319, hc, ofN_pred (show 1 ≤ 8 by omega) (by omega), pI_at W2 fd_chg]
      refine Ok_p ⟨(F.mono (fun b z => Or.inr z)).trans (Fr.st W2 S2 (Or.inl rfl)), by rw [V_st_eq W2 S2, e319], by rw [V_st_ne (by omega), Fr_V F (by omega) (by omega), e], fun i hi k hk => ?_⟩
      show V (st h2 319 2 _) 321 (230 * i + k) = V h 321 (230 * (i + 1) + k)
      rw [V_st_ne (by omega), vv _ (by omega), if_pos (by omega)]
      congr 1
      omega
    · refine Ok_m (cp2 h1 F1.1 e1 7 (by omega) (by rw [v1, fup_eq])) (fun h2 ⟨F2, v2, b2⟩ => ⟨F1.trans F2, ?_, fun i hi k hk => ?_⟩)
      · rw [v2, v1]
        funext t
        unfold fup
        by_cases q : t = 2
        · rw [if_pos q, if_pos q]; rfl
        · rw [if_neg q, if_neg q, if_neg q]
      · rw [b2 i (by omega) k hk]
        unfold sav
        rw [if_neg (show ¬ 8 < 8 by omega)]
        by_cases q : i = 7
        · rw [if_pos q, if_pos q]
        · rw [if_neg q, if_neg q]; exact b1 i (by omega) k hk
  · have n8 : ¬ Int32.ofNat c = 8 := fun z => by have := (ofN_eq (b := 8) (show c < 2147483648 by omega) (by omega)).mp z; omega
    simp only [if_neg n8, bN]
    refine Ok_m (cp2 h W e c (by omega) hc) (fun h2 ⟨F2, v2, b2⟩ => ⟨F2, ?_, fun i hi k hk => ?_⟩)
    · rw [v2, Nat.min_eq_left (by omega)]
    · rw [b2 i (by omega) k hk]
      unfold sav
      rw [if_pos (show c < 8 by omega)]
      by_cases q : i = c
      · rw [if_pos q, if_pos q]
      · rw [if_neg q, if_neg q]
theorem m_lays (W : WF h) (e : V h 320 = n) {i t : Nat} {x : Int32} (hi : i < 5) (ht : t < 20) : fX10_lays 319 (Int32.ofNat i) (Int32.ofNat t) x h = some (st h 320 (20 * i + t) x) ∧ V (st h 320 (20 * i + t) x) 320 = fup n (20 * i + t) x := by
  constructor
  · unfold fX10_lays
    simp only [gM0 W, bN, ix, stI_at W ar_now (show 20 * i + t < 230 by omega)]
  · rw [V_st_eq W (ar_now.sl (show 20 * i + t < 230 by omega)), e]
/-- one number of the row is laid -/
theorem st_now (W : WF h) (e : V h 320 = n) {k : Nat} {x : Int32} (hk : k < 230) : stI h 320 (Int32.ofNat k) x = some (st h 320 k x) ∧ WF (st h 320 k x) ∧ V (st h 320 k x) 320 = fup n k x ∧ Fr (fun b => b = 320) h (st h 320 k x) :=
  ⟨stI_at W ar_now hk, WF_st W (ar_now.sl hk), by rw [V_st_eq W (ar_now.sl hk), e], Fr.st W (ar_now.sl hk) rfl⟩
theorem m_begins (W : WF h) (e : V h 320 = n) (w m : Int32) : Ok (fX10_begins 319 w m h) (fun h' => Fr (fun b => b = 320) h h' ∧ V h' 320 = bgn n w m) := by
  unfold fX10_begins
  obtain ⟨a1, a2, a3, a4⟩ := st_now W e (k := 108) (x := w) (by omega)
  refine Ok_s (gM0 W) (Ok_s a1 ?_)
  obtain ⟨b1, b2, b3, b4⟩ := st_now a2 a3 (k := 109) (x := m) (by omega)
  refine Ok_s (gM0 a2) (Ok_s b1 ?_)
  obtain ⟨c1, c2, c3, c4⟩ := st_now b2 b3 (k := 110) (x := 0) (by omega)
  refine Ok_s (gM0 b2) (Ok_s c1 ?_)
  have F3 := (a4.trans b4).trans c4
  generalize st (st (st h 320 108 w) 320 109 m) 320 110 0 = g at c2 c3 F3
  refine Ok_b (P := fun h1 => Fr (fun b => b = 320) h h1 ∧ V h1 320 = fun k => if 111 ≤ k ∧ k < 211 then 0 else fup (fup (fup n 108 w) 109 m) 110 0 k) (Ok_loop (fun t s => s.1 = Int32.ofNat t ∧ Fr (fun b => b = 320) h s.2 ∧ V s.2 320 = fun k => if 111 ≤ k ∧ k < 111 + t then 0 else fup (fup (fup n 108 w) 109 m) 110 0 k) 100 ⟨rfl, F3, by rw [c3]; funext k; rw [if_neg (by omega)]⟩ ?_ ?_) (fun h1 ⟨F1, v1⟩ => ?_)
  · rintro t ⟨s1, h1⟩ ht ⟨e1, F, hv⟩
    obtain rfl := show s1 = _ from e1
    have F : Fr (fun b => b = 320) h h1 := F
    have hv : V h1 320 = _ := hv
    obtain ⟨d1, d2, d3, d4⟩ := st_now F.1 hv (k := 111 + t) (x := 0) (by omega)
    simp only [if_neg (n100 ht), gM0 F.1, bN, show (111 : Int32) + Int32.ofNat t = Int32.ofNat (111 + t) from ixa 111 t, d1, ofN_succ]
    refine Ok_p ⟨_, rfl, rfl, F.trans d4, ?_⟩
    show V (st _ _ _ _) 320 = _
    rw [d3]
    funext k
    unfold fup
    try dsimp only
    repeat' split
    all_goals first | rfl | omega
  · rintro ⟨s1, h1⟩ ⟨e1, F, hv⟩
    obtain rfl := show s1 = _ from e1
    exact Ok_e (a := .inr h1) (if_pos yle) ⟨h1, rfl, F, hv⟩
  · refine Ok_b (P := fun h2 => Fr (fun b => b = 320) h h2 ∧ V h2 320 = fun k => if 221 ≤ k ∧ k < 225 then -1 else if 225 ≤ k ∧ k < 229 then 0 else V h1 320 k) (Ok_loop (fun t s => s.1 = Int32.ofNat t ∧ Fr (fun b => b = 320) h s.2 ∧ V s.2 320 = fun k => if 221 ≤ k ∧ k < 221 + t then -1 else if 225 ≤ k ∧ k < 225 + t then 0 else V h1 320 k) 4 ⟨rfl, F1, by funext k; rw [if_neg (by omega), if_neg (by omega)]⟩ ?_ ?_) (fun h2 ⟨F2, v2⟩ => ?_)
    · rintro t ⟨s1, h2⟩ ht ⟨e1, F, hv⟩
      obtain rfl := show s1 = _ from e1
      have F : Fr (fun b => b = 320) h h2 := F
      have hv : V h2 320 = _ := hv
      obtain ⟨d1, d2, d3, d4⟩ := st_now F.1 hv (k := 221 + t) (x := -1) (by omega)
      obtain ⟨f1, f2, f3, f4⟩ := st_now d2 d3 (k := 225 + t) (x := 0) (by omega)
      simp only [if_neg (n4 ht), gM0 F.1, gM0 d2, bN, show (221 : Int32) + Int32.ofNat t = Int32.ofNat (221 + t) from ixa 221 t, show (225 : Int32) + Int32.ofNat t = Int32.ofNat (225 + t) from ixa 225 t, d1, f1, ofN_succ]
      refine Ok_p ⟨_, rfl, rfl, (F.trans d4).trans f4, ?_⟩
      show V (st _ _ _ _) 320 = _
      rw [f3]
      funext k
      unfold fup
      try dsimp only
      repeat' split
      all_goals first | rfl | omega
    · rintro ⟨s1, h2⟩ ⟨e1, F, hv⟩
      obtain rfl := show s1 = _ from e1
      exact Ok_e (a := .inr h2) (if_pos yle) ⟨h2, rfl, F, hv⟩
    · obtain ⟨d1, d2, d3, d4⟩ := st_now F2.1 v2 (k := 229) (x := 0) (by omega)
      refine Ok_s (gM0 F2.1) (Ok_s d1 (Ok_p ⟨F2.trans d4, ?_⟩))
      rw [d3, v1]
      funext k
      unfold fup bgn
      try dsimp only
      repeat' split
      all_goals first | rfl | omega
end
