/-! THE PURE SIDE, 46: changes, 4: the window and what is taken back -/
section
variable {h : mxH} {n : Nat → Int32} {j c : Nat}
theorem bgn_G {n : Nat → Int32} {w m j : Nat} (hw : 1 ≤ w ∧ w ≤ 10) (hm : 1 ≤ m ∧ m ≤ 4) : NG (bgn n (Int32.ofNat w) (Int32.ofNat m)) j ∧ XG (bgn n (Int32.ofNat w) (Int32.ofNat m)) := by
  have v108 : bgn n (Int32.ofNat w) (Int32.ofNat m) 108 = Int32.ofNat w := rfl
  have v109 : bgn n (Int32.ofNat w) (Int32.ofNat m) 109 = Int32.ofNat m := rfl
  have v110 : bgn n (Int32.ofNat w) (Int32.ofNat m) 110 = 0 := by
    unfold bgn
    rw [if_neg (by omega), if_neg (by omega), if_pos (by omega)]
  have v221 : ∀ k, k < 4 → bgn n (Int32.ofNat w) (Int32.ofNat m) (221 + k) = -1 := fun k hk => by
    unfold bgn
    rw [if_neg (by omega), if_neg (by omega), if_neg (by omega), if_pos (by omega)]
  have v225 : ∀ k, k < 4 → bgn n (Int32.ofNat w) (Int32.ofNat m) (225 + k) = 0 := fun k hk => by
    unfold bgn
    rw [if_neg (by omega), if_neg (by omega), if_neg (by omega), if_neg (by omega), if_pos (by omega)]
  have ec : cm (bgn n (Int32.ofNat w) (Int32.ofNat m)) = 0 := by
    unfold cm; rw [v110]; rfl
  have ew : wd (bgn n (Int32.ofNat w) (Int32.ofNat m)) = w := by
    unfold wd; rw [v108, ofN_clamp (by omega)]
  have em : mn (bgn n (Int32.ofNat w) (Int32.ofNat m)) = m := by
    unfold mn; rw [v109, ofN_clamp (by omega)]
  have ei := inw_bgn n (Int32.ofNat w) (Int32.ofNat m)
  refine ⟨⟨by rw [v110, ec]; rfl, by omega, by rw [v108, ew], by rw [ew]; exact hw, by rw [v109, em], by rw [em]; exact hm, fun k hk => by omega, fun k hk _ => v225 k hk, fun i k hi hk _ _ => v221 i hi⟩, fun k _ hk => v221 k hk⟩
theorem tly_cm (n : Nat → Int32) (x : Int32) {k : Nat} (hk : k < 221) (h3 : mn n ≤ 4) : tly n x k = n k := by
  unfold tly
  split
  · rw [fup_ne (by omega)]
  · split
    · rw [fup_ne (by omega), fup_ne (by omega)]
    · unfold lss
      rw [if_neg (by omega), if_neg (by omega), if_neg (by omega)]
theorem lss_221 {n : Nat → Int32} {k : Nat} (hk : k < 4) : lss n (221 + k) = if k < mn n ∧ n (225 + k) - 1 = 0 then -1 else n (221 + k) := by
  unfold lss
  rw [if_neg (by omega), if_neg (by omega), show 221 + k + 4 = 225 + k by omega]
  by_cases c : k < mn n ∧ n (225 + k) - 1 = 0
  · rw [if_pos c, if_pos ⟨by omega, c.2⟩]
  · rw [if_neg c, if_neg (fun z => c ⟨by omega, z.2⟩)]
theorem lss_225 {n : Nat → Int32} {k : Nat} (hk : k < 4) : lss n (225 + k) = if k < mn n then n (225 + k) - 1 else n (225 + k) := by
  unfold lss
  rw [if_neg (by omega)]
  by_cases c : k < mn n
  · rw [if_pos c, if_pos (by omega)]
  · rw [if_neg c, if_neg (by omega), if_neg (by omega)]
theorem tly_G {n : Nat → Int32} {j x : Nat} (G : NG n j) (X : XG n) (hx : x < 100) : NG (tly n (Int32.ofNat x)) j ∧ XG (tly n (Int32.ofNat x)) := by
  obtain ⟨g1, g2, g3, g4, g5, g6, g7, g8, g9⟩ := G
  have lo : ∀ k, k < 221 → tly n (Int32.ofNat x) k = n k := fun k hk => tly_cm n _ hk g6.2
  have ec : cm (tly n (Int32.ofNat x)) = cm n := by unfold cm; rw [lo 110 (by omega)]
  have ew : wd (tly n (Int32.ofNat x)) = wd n := by unfold wd; rw [lo 108 (by omega)]
  have em : mn (tly n (Int32.ofNat x)) = mn n := by unfold mn; rw [lo 109 (by omega)]
  have ei : inw (tly n (Int32.ofNat x)) = inw n := by unfold inw; rw [ec, ew]
  have h10 : inw n ≤ 10 := by unfold inw; omega
  have nm : ¬ Int32.ofNat x = -1 := ofN_nm (by omega)
  have key : (∀ k, k < 4 → tly n (Int32.ofNat x) (221 + k) = -1 → tly n (Int32.ofNat x) (225 + k) = 0) ∧ (∀ i k, i < 4 → k < 4 → i ≠ k → tly n (Int32.ofNat x) (221 + i) = tly n (Int32.ofNat x) (221 + k) → tly n (Int32.ofNat x) (221 + i) = -1) ∧ (∀ k, mn n ≤ k → k < 4 → tly n (Int32.ofNat x) (221 + k) = -1) := by
    unfold tly
    by_cases c1 : ctr n (Int32.ofNat x) < mn n
    · rw [if_pos c1]
      have at1 := ctr_at c1
      generalize ctr n (Int32.ofNat x) = f at c1 at1
      refine ⟨fun k hk z => ?_, fun i k hi hk hik z => ?_, fun k h1 h2 => ?_⟩
      · rw [fup_ne (by omega)] at z
        have hne : k ≠ f := fun y => by rw [y, at1] at z; exact nm z
        rw [fup_ne (by omega)]; exact g8 k hk z
      · rw [fup_ne (by omega), fup_ne (by omega)] at z
        rw [fup_ne (by omega)]; exact g9 i k hi hk hik z
      · rw [fup_ne (by omega)]; exact X k h1 h2
    · rw [if_neg c1]
      have nox : ∀ k, k < 4 → n (221 + k) ≠ Int32.ofNat x := fun k hk z => by
        by_cases c : k < mn n
        · exact c1 (fst1_found (p := fun k => decide (n (221 + k) = Int32.ofNat x)) c (decide_eq_true z))
        · rw [X k (by omega) hk] at z; exact nm z.symm
      by_cases c2 : ctr n (-1) < mn n
      · rw [if_pos c2]
        have at1 := ctr_at c2
        generalize ctr n (-1) = f at c2 at1
        have v221 : ∀ k, k < 4 → fup (fup n (221 + f) (Int32.ofNat x)) (225 + f) (n (225 + f) + 1) (221 + k) = if k = f then Int32.ofNat x else n (221 + k) := fun k hk => by
          rw [fup_ne (by omega)]
          by_cases y : k = f
          · rw [if_pos y, y, fup_eq]
          · rw [if_neg y, fup_ne (by omega)]
        refine ⟨fun k hk z => ?_, fun i k hi hk hik z => ?_, fun k h1 h2 => ?_⟩
        · rw [v221 k hk] at z
          by_cases y : k = f
          · rw [if_pos y] at z; exact absurd z nm
          · rw [if_neg y] at z
            rw [fup_ne (by omega), fup_ne (by omega)]; exact g8 k hk z
        · rw [v221 i hi, v221 k hk] at z
          rw [v221 i hi]
          by_cases y : i = f
          · rw [if_pos y, if_neg (by omega)] at z
            exact absurd z.symm (nox k hk)
          · rw [if_neg y] at z ⊢
            by_cases y2 : k = f
            · rw [if_pos y2] at z
              exact absurd z (nox i hi)
            · rw [if_neg y2] at z
              exact g9 i k hi hk hik z
        · rw [v221 k h2, if_neg (by omega)]; exact X k h1 h2
      · rw [if_neg c2]
        have nom : ∀ k, k < mn n → n (221 + k) ≠ -1 := fun k hk z => c2 (fst1_found (p := fun k => decide (n (221 + k) = -1)) hk (decide_eq_true z))
        refine ⟨fun k hk z => ?_, fun i k hi hk hik z => ?_, fun k h1 h2 => ?_⟩
        · rw [lss_221 hk] at z
          rw [lss_225 hk]
          by_cases y : k < mn n
          · rw [if_pos y]
            by_cases y2 : k < mn n ∧ n (225 + k) - 1 = 0
            · exact y2.2
            · rw [if_neg y2] at z
              exact absurd z (nom k y)
          · rw [if_neg y]
            rw [if_neg (fun q => y q.1)] at z
            exact g8 k hk z
        · rw [lss_221 hi] at z ⊢
          rw [lss_221 hk] at z
          by_cases y : i < mn n ∧ n (225 + i) - 1 = 0
          · rw [if_pos y]
          · rw [if_neg y] at z ⊢
            by_cases y2 : k < mn n ∧ n (225 + k) - 1 = 0
            · rw [if_pos y2] at z; exact z
            · rw [if_neg y2] at z
              exact g9 i k hi hk hik z
        · rw [lss_221 h2, if_neg (fun q => by omega)]; exact X k h1 h2
  refine ⟨⟨by rw [lo 110 (by omega), ec]; exact g1, by rw [ec]; exact g2, by rw [lo 108 (by omega), ew]; exact g3, by rw [ew]; exact g4, by rw [lo 109 (by omega), em]; exact g5, by rw [em]; exact g6, fun k hk => ?_, key.1, key.2.1⟩, fun k h1 h2 => key.2.2 k (by rw [← em]; exact h1) h2⟩
  rw [ei] at hk
  rw [lo _ (by omega)]; exact g7 k hk
theorem psh_GD {n : Nat → Int32} {j x : Nat} (G : GD n j) (X : XG n) (hx : x < 100) (hj : j < 100000) : GD (psh n x) (j + 1) ∧ XG (psh n x) := by
  obtain ⟨m1, m2, m3⟩ := mid_G G.2.2 hx hj
  have em : mn (mid n x) = mn n := by unfold mn; rw [mid_lo (by omega)]
  have X2 : XG (mid n x) := fun k h1 h2 => by rw [mid_hi hx (by omega)]; exact X k (by rw [← em]; exact h1) h2
  have h4 : mn (mid n x) ≤ 4 := m1.2.2.2.2.2.1.2
  obtain ⟨t1, t2⟩ := tly_G m1 X2 hx
  have lo : ∀ k, k < 110 → psh n x k = n k := fun k hk => by
    unfold psh
    rw [tly_cm _ _ (by omega) h4, mid_lo hk]
  exact ⟨⟨fun k hk => by rw [lo k (by omega)]; exact G.1 k hk, fun i hi => by rw [lo _ (by omega)]; exact G.2.1 i hi, t1⟩, t2⟩
theorem D_setWindow (W : WF h) (S : SR h 3 n) (Hi : HR h c (Bf h)) (G : GD n j) (c8 : c ≤ 8) (p q : Int32) : Do (RC1 IA) h n c j (fX9_setWindow 2 p q h) (fX10_setWindow 319 p q) := by
  by_cases hp : inI p 1 10 = true
  · by_cases hq : inI q 1 4 = true
    · obtain ⟨w, w1, w2, rfl⟩ := inI_of (a := 1) (b := 10) (by omega) (by omega) hp
      obtain ⟨m, m1, m2, rfl⟩ := inI_of (a := 1) (b := 4) (by omega) (by omega) hq
      obtain ⟨N', X'⟩ := bgn_G (n := n) (j := j + 1) (w := w) (m := m) ⟨w1, w2⟩ ⟨m1, m2⟩
      have lo : ∀ k, k < 108 → bgn n (Int32.ofNat w) (Int32.ofNat m) k = n k := fun k hk => by
        unfold bgn
        rw [if_neg (by omega), if_neg (by omega), if_neg (by omega), if_neg (by omega), if_neg (by omega)]
      refine Or.inr ⟨n 110, bgn n (Int32.ofNat w) (Int32.ofNat m), ⟨⟨fun k hk => by rw [lo k (by omega)]; exact G.1 k hk, fun i hi => by rw [lo _ (by omega)]; exact G.2.1 i hi, N'⟩, X'⟩, ?_, fun h1 W1 e1 hc1 => ?_⟩
      · unfold fX9_setWindow
        simp only [rq_range hp, rq_range hq, then_l, gH1 W, gH0 W, isHi W, bN]
        refine Ok_b (c_save S G W Hi) (fun g ⟨F, Sg, Hg⟩ => ?_)
        have Wg := F.1
        simp only [gH0 Wg, gS1 Wg, isO_N Wg N27, bN, gI_at Wg (fd_4 N27), show V g 27 4 = n 110 from Sg.2.1.2.2.2.2.1]
        refine Ok_b (s_beginAnew Wg N27 (n := n)) (fun g2 ⟨F2, A2⟩ => ?_)
        have e3 : V g2 3 = V g 3 := Fr_V F2 (by omega) (by omega)
        refine Ok_p ⟨rfl, F.trans (F2.mono (fun b z => by unfold CF; omega)), ⟨?_, A2, ?_, ?_⟩, HR_low Hg (F2.mono (fun b z => by omega))⟩
        · exact RR_congr (fun k hk => (lo k (by omega)).symm) (RR_fr R4 Sg.1 F2 (fun o ho => by omega))
        · show V g2 3 2 = _
          rw [e3, lo 106 (by omega)]; exact Sg.2.2.1
        · show V g2 3 3 = _
          rw [e3, lo 107 (by omega)]; exact Sg.2.2.2
      · unfold fX10_setWindow
        simp only [pI_at W1 fd_thr, m_inT hp, m_inT hq, bN, e10, if_false, isO_X (W_thr W1 0)]
        refine Ok_b (m_pre W1 e1 hc1 c8) (fun g ⟨e2, K⟩ => ?_)
        have Wg := K.1.1
        simp only [gM0 Wg, isO_X Wg, bN, show ldI g 320 110 = some (n 110) from ld_now Wg e2 (k := 110) (by omega)]
        exact Ok_b (m_begins Wg e2 (Int32.ofNat w) (Int32.ofNat m)) (fun g2 ⟨F2, v2⟩ => Ok_p ⟨rfl, KP_fr K F2, fun q _ => by rw [v2]⟩)
    · refine Or.inl (Ask_e IA 1 (by decide) (Or.inr ⟨rfl, rfl⟩) ?_ (fun h1 W1 W2 e2 => ?_))
      · unfold fX9_setWindow
        simp only [rq_range hp, rq_rangeN (bF hq), then_l, then_r]
        exact Ok_p ⟨rfl, Fr_thr (Fr.refl W)⟩
      · unfold fX10_setWindow
        simp only [pI_at W1 fd_thr, m_inT hp, m_inF (bF hq), bN, e10, if_false, if_true, isO_X W2, m_fails W2]
        exact Ok_p ⟨_, rfl, Fr.refl W2⟩
  · refine Or.inl (Ask_e IA 1 (by decide) (Or.inr ⟨rfl, rfl⟩) ?_ (fun h1 W1 W2 e2 => ?_))
    · unfold fX9_setWindow
      simp only [rq_rangeN (bF hp), then_r]
      exact Ok_p ⟨rfl, Fr_thr (Fr.refl W)⟩
    · unfold fX10_setWindow
      simp only [pI_at W1 fd_thr, m_inF (bF hp), bN, if_true, isO_X W2, m_fails W2]
      exact Ok_p ⟨_, rfl, Fr.refl W2⟩
theorem D_push (W : WF h) (S : SR h 3 n) (Hi : HR h c (Bf h)) (G : GD n j) (X : XG n) (hj : j < 100000) (c8 : c ≤ 8) (p : Int32) : Do (RC1 IA) h n c j (fX9_push 2 p h) (fX10_push 319 p) := by
  by_cases hp : inI p 0 99 = true
  · obtain ⟨x, hx, rfl⟩ := in99 hp
    obtain ⟨m1, m2, m3⟩ := mid_G G.2.2 hx hj
    have h4 : mn (mid n x) ≤ 4 := m1.2.2.2.2.2.1.2
    have lo : ∀ k, k < 110 → psh n x k = n k := fun k hk => by
      unfold psh
      rw [tly_cm _ _ (by omega) h4, mid_lo hk]
    have g1 : n 110 = Int32.ofNat (cm n) := G.2.2.1
    have g2 : cm n ≤ j := G.2.2.2.1
    have g3 : n 108 = Int32.ofNat (wd n) := G.2.2.2.2.1
    have g4 : 1 ≤ wd n ∧ wd n ≤ 10 := G.2.2.2.2.2.1
    refine Or.inr ⟨lve n, psh n x, psh_GD G X hx hj, ?_, fun h1 W1 e1 hc1 => ?_⟩
    · unfold fX9_push
      simp only [rq_range hp, then_l, gH1 W, gH0 W, isHi W, bN]
      refine Ok_b (c_save S G W Hi) (fun g ⟨F, Sg, Hg⟩ => ?_)
      have Wg := F.1
      simp only [gH0 Wg, gS1 Wg, isO_N Wg N27, bN]
      refine Ok_b (s_take Wg N27 G.2.2 Sg.2.1 hx hj) (fun o ⟨o1, F2, A2⟩ => ?_)
      have e3 : V o.2 3 = V g 3 := Fr_V F2 (by omega) (by omega)
      rw [o1]
      refine Ok_p ⟨rfl, F.trans (F2.mono (fun b z => by unfold CF; omega)), ⟨?_, A2, ?_, ?_⟩, HR_low Hg (F2.mono (fun b z => by omega))⟩
      · exact RR_congr (fun k hk => (lo k (by omega)).symm) (RR_fr R4 Sg.1 F2 (fun o ho => by omega))
      · show V o.2 3 2 = _
        rw [e3, lo 106 (by omega)]; exact Sg.2.2.1
      · show V o.2 3 3 = _
        rw [e3, lo 107 (by omega)]; exact Sg.2.2.2
    · unfold fX10_push
      simp only [pI_at W1 fd_thr, m_inT hp, bN, e10, if_false, isO_X (W_thr W1 0)]
      refine Ok_b (m_pre W1 e1 hc1 c8) (fun g ⟨e2, K⟩ => ?_)
      have Wg := K.1.1
      have l110 : ldI g 320 110 = some (Int32.ofNat (cm n)) := by rw [show ldI g 320 110 = some (n 110) from ld_now Wg e2 (k := 110) (by omega), g1]
      have l108 : ldI g 320 108 = some (Int32.ofNat (wd n)) := by rw [show ldI g 320 108 = some (n 108) from ld_now Wg e2 (k := 108) (by omega), g3]
      have el : (211 : Int32) + Int32.ofNat (wd n) - 1 = Int32.ofNat (211 + (wd n - 1)) := by
        rw [show (211 : Int32) + Int32.ofNat (wd n) = Int32.ofNat (211 + wd n) from ixa 211 _, ofN_pred (by omega) (by omega)]
        congr 1; omega
      simp only [gM0 Wg, bN, l110, l108, el, ld_now Wg e2 (show 211 + (wd n - 1) < 230 by omega), ofN_le (show wd n < 2147483648 by omega) (show cm n < 2147483648 by omega)]
      refine Ok_s (a := lve n) (by
        unfold lve
        by_cases z : cm n < wd n
        · rw [if_neg (by omega), if_pos z]
        · rw [if_pos (by omega), if_neg z]) ?_
      refine Ok_b (P := fun g2 => Fr (fun b => b = 320) g g2 ∧ V g2 320 = fun i => if 212 ≤ i ∧ i ≤ 220 then n (i - 1) else n i) (Ok_loop (fun d s => s.1 = Int32.ofNat (9 - d) ∧ Fr (fun b => b = 320) g s.2 ∧ V s.2 320 = fun i => if 211 + (9 - d) < i ∧ i ≤ 220 then n (i - 1) else n i) 9 ⟨rfl, Fr.refl Wg, by rw [e2]; funext i; rw [if_neg (by omega)]⟩ ?_ ?_) (fun g2 ⟨F2, v2⟩ => ?_)
      · rintro d ⟨s1, g2⟩ hd ⟨e1, F, hv⟩
        obtain rfl := show s1 = _ from e1
        have F : Fr (fun b => b = 320) g g2 := F
        have hv : V g2 320 = _ := hv
        have c1 : ¬ Int32.ofNat (9 - d) ≤ 0 := nle (b := 0) (by omega) (by omega)
        have ea : (211 : Int32) + Int32.ofNat (9 - d) = Int32.ofNat (211 + (9 - d)) := ixa 211 _
        have eb : Int32.ofNat (211 + (9 - d)) - 1 = Int32.ofNat (210 + (9 - d)) := by
          rw [ofN_pred (by omega) (by omega)]; congr 1; omega
        have lv : ldI g2 320 (Int32.ofNat (210 + (9 - d))) = some (n (210 + (9 - d))) := by
          rw [ldI_at F.1 ar_now (show 210 + (9 - d) < 230 by omega), hv]
          show some (if _ then _ else _) = _
          rw [if_neg (by omega)]
        obtain ⟨d1, d2, d3, d4⟩ := st_now F.1 hv (k := 211 + (9 - d)) (x := n (210 + (9 - d))) (by omega)
        simp only [if_neg c1, gM0 F.1, bN, ea, eb, lv, d1, ofN_pred (show 1 ≤ 9 - d by omega) (show 9 - d < 2147483648 by omega)]
        refine Ok_p ⟨_, rfl, by show Int32.ofNat _ = _; congr 1, F.trans d4, ?_⟩
        show V (st _ _ _ _) 320 = _
        rw [d3]
        funext i
        unfold fup
        dsimp only
        by_cases q : i = 211 + (9 - d)
        · rw [if_pos q, if_pos (by omega), q, show 211 + (9 - d) - 1 = 210 + (9 - d) by omega]
        · rw [if_neg q]
          by_cases q2 : 211 + (9 - d) < i ∧ i ≤ 220
          · rw [if_pos q2, if_pos (by omega)]
          · rw [if_neg q2, if_neg (by omega)]
      · rintro ⟨s1, g2⟩ ⟨e1, F, hv⟩
        obtain rfl := show s1 = _ from e1
        have F : Fr (fun b => b = 320) g g2 := F
        have hv : V g2 320 = _ := hv
        refine Ok_e (a := .inr g2) (if_pos (show Int32.ofNat (9 - 9) ≤ 0 from yle)) ⟨g2, rfl, F, ?_⟩
        rw [hv]
        funext i
        by_cases q : 212 ≤ i ∧ i ≤ 220
        · rw [if_pos q, if_pos (by omega)]
        · rw [if_neg q, if_neg (by omega)]
      · have W2 := F2.1
        obtain ⟨a1, a2, a3, a4⟩ := st_now W2 v2 (k := 211) (x := Int32.ofNat x) (by omega)
        refine Ok_s (gM0 W2) (Ok_s (show stI g2 320 211 (Int32.ofNat x) = _ from a1) ?_)
        have F3 := F2.trans a4
        generalize st g2 320 211 (Int32.ofNat x) = g3 at a2 a3 F3
        have v110 : V g3 320 110 = n 110 := by
          rw [a3, fup_ne (by omega)]
          show (if _ then _ else _) = _
          rw [if_neg (by omega)]
        have v111 : V g3 320 (111 + x) = n (111 + x) := by
          rw [a3, fup_ne (by omega)]
          show (if _ then _ else _) = _
          rw [if_neg (by omega)]
        obtain ⟨b1, b2, b3, b4⟩ := st_now a2 a3 (k := 110) (x := n 110 + 1) (by omega)
        refine Ok_s (gM0 a2) (Ok_s (show ldI g3 320 110 = some (n 110) from (ldI_at a2 ar_now (k := 110) (by omega)).trans (by rw [v110])) (Ok_s (show stI g3 320 110 (n 110 + 1) = _ from b1) ?_))
        have F4 := F3.trans b4
        have v111b : V (st g3 320 110 (n 110 + 1)) 320 (111 + x) = n (111 + x) := by
          rw [V_st a2 (ar_now.sl (show 110 < 230 by omega)), if_neg (by omega), v111]
        generalize st g3 320 110 (n 110 + 1) = g4 at b2 b3 F4 v111b
        obtain ⟨d1, d2, d3, d4⟩ := st_now b2 b3 (k := 111 + x) (x := n (111 + x) + 1) (by omega)
        have F5 := F4.trans d4
        have ev : V (st g4 320 (111 + x) (n (111 + x) + 1)) 320 = mid n x := by
          rw [d3]
          funext i
          unfold fup mid
          dsimp only
          by_cases q1 : i = 111 + x
          · rw [if_pos q1, if_neg (by omega), if_pos q1, q1]
          · rw [if_neg q1]
            by_cases q2 : i = 110
            · rw [if_pos q2, if_pos q2]
            · rw [if_neg q2, if_neg q2, if_neg q1]
        simp only [gM0 b2, bN, show (111 : Int32) + Int32.ofNat x = Int32.ofNat (111 + x) from ixa 111 x, show ldI g4 320 (Int32.ofNat (111 + x)) = some (n (111 + x)) from (ldI_at b2 ar_now (by omega)).trans (by rw [v111b]), d1, isO_X d2]
        refine Ok_b (m_counts m1 d2 ev hx) (fun g6 ⟨F6, v6⟩ => Ok_p ⟨rfl, KP_fr K (F5.trans F6), fun q _ => by rw [v6]; rfl⟩)
  · refine Or.inl (Ask_e IA 1 (by decide) (Or.inr ⟨rfl, rfl⟩) ?_ (fun h1 W1 W2 e2 => ?_))
    · unfold fX9_push
      simp only [rq_rangeN (bF hp), then_r]
      exact Ok_p ⟨rfl, Fr_thr (Fr.refl W)⟩
    · unfold fX10_push
      simp only [pI_at W1 fd_thr, m_inF (bF hp), bN, if_true, isO_X W2, m_fails W2]
      exact Ok_p ⟨_, rfl, Fr.refl W2⟩
/-- what is taken back -/
theorem D_undo (W : WF h) (S : SR h 3 n) (Hi : HR h c (Bf h)) (GB : ∀ i, i < c → GD (Bf h i) j) : ∃ v n' c', (c = 0 → n' = n ∧ c' = 0) ∧ (0 < c → n' = Bf h (c - 1) ∧ c' = c - 1) ∧
    Ok (fX9_undo 2 h) (fun o => o.1 = v ∧ Fr CF h o.2 ∧ SR o.2 3 n' ∧ HR o.2 c' (Bf h)) ∧
    ∀ h1, WF h1 → V h1 320 = n → V h1 319 2 = Int32.ofNat c → Bf h1 = Bf h → Ok (fX10_undo 319 h1) (fun o => o.1 = v ∧ Fr KF h1 o.2 ∧ V o.2 319 2 = Int32.ofNat c' ∧ (∀ q, q < 230 → V o.2 320 q = n' q) ∧ Bf o.2 = Bf h1) := by
  have c8 : c ≤ 8 := Hi.2.1
  obtain ⟨r0, r1⟩ := s_restore W (fun i hi => (GB i hi).2.2) Hi
  by_cases z : c = 0
  · refine ⟨-1, n, 0, fun _ => ⟨rfl, rfl⟩, fun y => by omega, ?_, fun h1 W1 e1 hc1 eB => ?_⟩
    · unfold fX9_undo
      simp only [gH1 W, gH0 W, isHi W, bN, r0 z]
      refine Ok_p ⟨rfl, Fr.refl W, S, ?_⟩
      rw [z] at Hi; exact Hi
    · have v2 : V (st h1 319 3 0) 319 2 = 0 := by rw [V_st_eq W1 fd_thr.sl, fup_ne (by omega), hc1, z]; rfl
      unfold fX10_undo
      simp only [pI_at W1 fd_thr, bN, gI_at (W_thr W1 0) fd_chg, v2, if_true]
      refine Ok_p ⟨rfl, (fr0 W1 0).mono (fun b z => by unfold KF; omega), v2, fun q _ => ?_, ?_⟩
      · show V (st _ _ _ _) 320 q = _
        rw [V_st_ne (by omega), e1]
      · funext i k
        show V (st _ _ _ _) 321 _ = V h1 321 _
        rw [V_st_ne (by omega)]
  · refine ⟨Int32.ofNat (c - 1), Bf h (c - 1), c - 1, fun y => absurd y z, fun _ => ⟨rfl, rfl⟩, ?_, fun h1 W1 e1 hc1 eB => ?_⟩
    · unfold fX9_undo
      simp only [gH1 W, gH0 W, isHi W, bN]
      exact Ok_b (r1 (by omega)) (fun o ⟨o1, o2, o3, o4⟩ => Ok_p ⟨o1, o2.mono (fun b z => by unfold CF; omega), o3, o4⟩)
    · have W2 := W_thr W1 0
      have v2 : V (st h1 319 3 0) 319 2 = Int32.ofNat c := by rw [V_st_eq W1 fd_thr.sl, fup_ne (by omega), hc1]
      have nz : ¬ Int32.ofNat c = 0 := fun y => by have := (ofN_eq (b := 0) (show c < 2147483648 by omega) (by omega)).mp y; omega
      have F0 := fr0 W1 0
      have eB0 : V (st h1 319 3 0) 321 = V h1 321 := V_st_ne (by omega)
      unfold fX10_undo
      simp only [pI_at W1 fd_thr, bN, gI_at W2 fd_chg, v2, if_neg nz, ofN_pred (show 1 ≤ c by omega) (show c < 2147483648 by omega)]
      generalize st h1 319 3 0 = g at W2 F0 eB0
      have S2 := fd_chg.sl
      have W3 := WF_st (x := Int32.ofNat (c - 1)) W2 S2
      have v3 : V (st g 319 2 (Int32.ofNat (c - 1))) 319 2 = Int32.ofNat (c - 1) := by rw [V_st_eq W2 S2, fup_eq]
      have F3 : Fr (fun b => b = 319) g (st g 319 2 (Int32.ofNat (c - 1))) := Fr.st W2 S2 rfl
      have eB3 : V (st g 319 2 (Int32.ofNat (c - 1))) 321 = V h1 321 := by rw [V_st_ne (by omega), eB0]
      simp only [pI_at W2 fd_chg, bN, gM1 W3, gI_at W3 fd_chg, v3, gM0 W3]
      generalize st g 319 2 (Int32.ofNat (c - 1)) = g3 at W3 v3 F3 eB3
      rw [show Int32.ofNat (c - 1) * 230 = Int32.ofNat ((c - 1) * 230) from ofN_mul (c - 1) 230]
      obtain ⟨h4, eh, F4, vv⟩ := cpI_at W3 (sp := (c - 1) * 230) (dp := 0) (m := 230) ar_bfr ar_now (by omega) (by omega)
      refine Ok_s (a := h4) eh ?_
      have W4 := F4.1
      have e319 : V h4 319 = V g3 319 := Fr_V F4 (by omega) (by omega)
      simp only [gI_at W4 fd_chg, bN, e319, v3]
      refine Ok_p ⟨rfl, ((F0.trans F3).mono (fun b z => by unfold KF; omega)).trans (F4.mono (fun b z => by unfold KF; omega)), by show V h4 319 2 = _; rw [e319, v3], fun q hq => ?_, ?_⟩
      · show V h4 320 q = Bf h (c - 1) q
        rw [vv q hq, if_pos (by omega), eB3, ← eB]
        show V h1 321 _ = V h1 321 _
        congr 1; omega
      · funext i k
        show V h4 321 _ = V h1 321 _
        rw [Fr_V F4 (by omega) (by omega), eB3]
end
