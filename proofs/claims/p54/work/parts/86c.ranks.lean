/-! THE PURE SIDE, 39: the law's ranking -/
section
variable {h : mxH} {n : Nat → Int32}
/-- all that the law's plain questions stand on -/
def LQ (h : mxH) (n : Nat → Int32) : Prop := LW h n ∧ FR h ∧ MG n ∧ WG n ∧ RG n
theorem LQ.ext {h1 : mxH} {K : Nat} (Q : LQ h n) (x : Ext K h h1) : LQ h1 n := ⟨Q.1.ext x, x.fr Q.2.1, Q.2.2⟩
theorem l_value (Q : LQ h n) (hb : h.2 < 1000000) {t : Nat} (ht : t < 20) : Ok (fL_value 0 (Int32.ofNat t) h) (fun o => o.1 = val n t ∧ Ext 1 h o.2) := lp_value Q.1 Q.2.1 Q.2.2.1 Q.2.2.2.1 Q.2.2.2.2 hb ht
theorem l_limit (Q : LQ h n) (hb : h.2 < 1000000) {d : Nat} (h1 : 1 ≤ d) (h2 : d ≤ 20) : Ok (fL_limit 0 (Int32.ofNat d) h) (fun o => o.1 = lim n d ∧ Ext 1 h o.2) := lp_limit Q.1 Q.2.1 Q.2.2.1 Q.2.2.2.1 Q.2.2.2.2 hb h1 h2
theorem bef_lt {s t : Nat} (h : s < t) : bef (val n) t s = decide (val n s < val n t) := by
  unfold bef
  rw [decide_eq_false (show ¬ t < s by omega), Bool.and_false, Bool.or_false]
theorem ranks_inner (Q : LQ h n) {a m t : Nat} {e : Nat → Nat} {g : Nat → Int32} (ha : 337 ≤ a) (hm : m < 20) (ht : t < 20) (he : ∀ j, j < m → e j < 20) (A : AT h a 20 g) (hg : ∀ j, j < m → g j = Int32.ofNat (e j)) (h0 : mxH) (h0a : h0.2 ≤ a) (h0b : h.2 + 42 ≤ 1000000) {c : Nat} (x0 : Ext c h0 h) :
    Ok (mxLoop (ρ := (Int32 × mxH)) (fun s238 : (Int32 × mxH) => (if s238.1 ≤ 0 then some (Sum.inr (s238.1, s238.2)) else Option.bind (ldI s238.2 a (s238.1 - 1)) (fun v252 => Option.bind (isO s238.2 0 11) (fun u254 => Option.bind (fL_value 0 v252 s238.2) (fun o257 => Option.bind (isO o257.2 0 11) (fun u258 => Option.bind (fL_value 0 (Int32.ofNat t) o257.2) (fun o261 => (if o261.1 ≤ o257.1 then some (Sum.inr (s238.1, o261.2)) else Option.bind (ldI o261.2 a (s238.1 - 1)) (fun v263 => Option.bind (stI o261.2 a s238.1 v263) (fun h265 => some (Sum.inl (s238.1 - 1, h265)))))))))))) 21 (Int32.ofNat m, h))
      (fun r => ∃ p g', p ≤ m ∧ r.1 = Int32.ofNat p ∧ Ext (c + 42) h0 r.2 ∧ LQ r.2 n ∧ AT r.2 a 20 g' ∧ (∀ j, j < p → g' j = Int32.ofNat (e j)) ∧ (∀ j, p < j → j ≤ m → g' j = Int32.ofNat (e (j - 1))) ∧ (∀ j, p ≤ j → j < m → val n (e j) < val n t) ∧ (p = 0 ∨ ¬ val n (e (p - 1)) < val n t)) := by
  refine Ok_loopEF 21 (fun k s => k ≤ m ∧ s.1 = Int32.ofNat (m - k) ∧ Ext (c + 2 * k) h0 s.2 ∧ s.2.2 ≤ h.2 + 2 * k ∧ LQ s.2 n ∧ ∃ g', AT s.2 a 20 g' ∧ (∀ j, j < m - k → g' j = Int32.ofNat (e j)) ∧ (∀ j, m - k < j → j ≤ m → g' j = Int32.ofNat (e (j - 1))) ∧ (∀ j, m - k ≤ j → j < m → val n (e j) < val n t)) m ⟨Nat.zero_le _, rfl, x0.le (by omega), by show h.2 ≤ _; omega, Q, g, A, fun j hj => hg j (by omega), fun j h1 h2 => by omega, fun j h1 h2 => by omega⟩ ?_ (by omega)
  rintro k ⟨s1, hk1⟩ hk ⟨-, e1, x, xs, Q1, g', A1, g1, g2, g3⟩
  obtain rfl := show s1 = _ from e1
  have x : Ext (c + 2 * k) h0 hk1 := x
  have xs : hk1.2 ≤ h.2 + 2 * k := xs
  have Q1 : LQ hk1 n := Q1
  have A1 : AT hk1 a 20 g' := A1
  by_cases z : m - k = 0
  · refine Ok_e (a := .inr (Int32.ofNat (m - k), hk1)) (if_pos (by rw [z]; exact yle)) (Or.inr ⟨_, rfl, 0, g', Nat.zero_le _, by rw [z], x.le (by omega), Q1, A1, fun j hj => by omega, fun j h1 h2 => g2 j (by omega) h2, fun j h1 h2 => g3 j (by omega) h2, Or.inl rfl⟩)
  · simp only [if_neg (show ¬ Int32.ofNat (m - k) ≤ 0 from nle (b := 0) (a := m - k) (by omega) (by omega)), ofN_pred (show 1 ≤ m - k by omega) (show m - k < 2147483648 by omega), A1.ld (show m - k - 1 < 20 by omega), g1 (m - k - 1) (by omega), bN, l_O Q1.1]
    refine Ok_b (l_value Q1 (by omega) (he _ (show m - k - 1 < m by omega))) (fun o ⟨o1, o2⟩ => ?_)
    have Q2 := Q1.ext o2
    simp only [l_O Q2.1, bN]
    have o22 := o2.2.1
    refine Ok_b (l_value Q2 (by omega) ht) (fun u ⟨u1, u2⟩ => ?_)
    have Q3 := Q2.ext u2
    have A3 := (A1.ext o2).ext u2
    have x3 := (x.trans o2).trans u2
    have u22 := u2.2.1
    rw [o1, u1]
    by_cases cc : val n t ≤ val n (e (m - k - 1))
    · rw [if_pos cc]
      exact Ok_p (Or.inr ⟨_, rfl, m - k, g', by omega, rfl, x3.le (by omega), Q3, A3, g1, g2, g3, Or.inr (Int32.not_lt.mpr cc)⟩)
    · rw [if_neg cc]
      obtain ⟨s2, A4⟩ := A3.st (k := m - k) (x := Int32.ofNat (e (m - k - 1))) (by omega) (by omega)
      simp only [A3.ld (show m - k - 1 < 20 by omega), g1 (m - k - 1) (by omega), bN, s2]
      have x0s := x0.1
      refine Ok_p (Or.inl ⟨_, rfl, by omega, by omega, by show Int32.ofNat _ = _; congr 1, ?_, ?_, ?_, _, A4, fun j hj => ?_, fun j h1 h2 => ?_, fun j h1 h2 => ?_⟩)
      · exact (x3.up (by omega) A3.1).le (by omega)
      · show u.2.2 ≤ _; omega
      · refine ⟨Q3.1.keep (Nat.le_refl _) (fun b hb => if_neg (by omega)) ?_, fun b b1 b2 => ?_, Q3.2.2⟩
        · show ((if 1 = a then _ else u.2.1 1 : mxE).1 = 10 ∧ ∃ s, (if 1 = a then _ else u.2.1 1 : mxE).2.2 = _)
          rw [if_neg (by omega)]; exact Q3.1.2.2.1
        · have b1 : u.2.2 ≤ b := b1
          have := A3.1
          show (if b = a then _ else u.2.1 b : mxE).1 = 300
          rw [if_neg (by omega)]; exact Q3.2.1 b b1 b2
      · rw [fup_ne (by omega)]; exact g1 j (by omega)
      · by_cases y : j = m - k
        · rw [y, fup_eq]
        · rw [fup_ne y]; exact g2 j (by omega) h2
      · by_cases y : j = m - k - 1
        · rw [y]; exact Int32.not_le.mp cc
        · exact g3 j (by omega) h2
theorem LQ.up {a : Nat} {e : mxE} (Q : LQ h n) (ha : 337 ≤ a) (h2 : a < h.2) : LQ (mxUp h a e) n := by
  refine ⟨Q.1.keep (Nat.le_refl _) (fun b hb => if_neg (by omega)) ?_, fun b b1 b2 => ?_, Q.2.2⟩
  · show ((if 1 = a then _ else h.1 1 : mxE).1 = 10 ∧ ∃ s, (if 1 = a then _ else h.1 1 : mxE).2.2 = _)
    rw [if_neg (by omega)]; exact Q.1.2.2.1
  · have b1 : h.2 ≤ b := b1
    show (if b = a then _ else h.1 b : mxE).1 = 300
    rw [if_neg (by omega)]; exact Q.2.1 b b1 b2
theorem cnt_step (p : Nat → Bool) (N t : Nat) : ∀ s, s < N → ((p s && decide (s < t)) || (p t && (s == t))) = (p s && decide (s < t + 1)) := fun s _ => by
  by_cases c : s = t
  · subst c
    have : decide (s < s) = false := decide_eq_false (by omega)
    have h2 : decide (s < s + 1) = true := decide_eq_true (by omega)
    rw [this, h2]; simp
  · have : (s == t) = false := by simpa using c
    rw [this, Bool.and_false, Bool.or_false]
    congr 1
    by_cases d : s < t
    · rw [decide_eq_true d, decide_eq_true (by omega)]
    · rw [decide_eq_false d, decide_eq_false (by omega)]
theorem l_ranking (Q : LQ h n) (hb : h.2 + 900 ≤ 1000000) {d : Nat} (hd : d ≤ 20) :
    Ok (fL_ranking 0 (Int32.ofNat d) h) (fun o => Ext 900 h o.2 ∧ h.2 ≤ o.1 ∧ AT o.2 o.1 (rdT n d) (fun q => Int32.ofNat (bst n d q))) := by
  have l1 := Q.1.1
  have S := bef_STO (val n) 20
  unfold fL_ranking
  obtain ⟨e1, A0⟩ := nwV_at Q.2.1 (m := 20) (B := 20) (by omega) (Nat.le_refl _)
  refine Ok_s (show nwV h 20 20 = _ from e1) ?_
  have Q0 : LQ (mxNew h (100, List.replicate 20 0, [])) n := Q.ext Ext.new
  have X0 : Ext 1 h (mxNew h (100, List.replicate 20 0, [])) := Ext.new
  generalize mxNew h (100, List.replicate 20 0, []) = g0 at A0 Q0 X0
  refine Ok_b (P := fun r => ∃ m e g, r.1 = Int32.ofNat m ∧ SE (bef (val n)) (fun s => rdAt n s d) 20 m e ∧ Ext 841 h r.2 ∧ LQ r.2 n ∧ AT r.2 h.2 20 g ∧ ∀ j, j < m → g j = Int32.ofNat (e j)) (Ok_loopF 21 (fun t s => s.2.1 = Int32.ofNat t ∧ ∃ m e g, s.1 = Int32.ofNat m ∧ m ≤ t ∧ SE (bef (val n)) (fun s => rdAt n s d && decide (s < t)) 20 m e ∧ Ext (1 + 42 * t) h s.2.2 ∧ LQ s.2.2 n ∧ AT s.2.2 h.2 20 g ∧ ∀ j, j < m → g j = Int32.ofNat (e j)) 20 ⟨rfl, 0, fun _ => 0, _, rfl, Nat.le_refl _, SE_nil (fun s _ => by simp), X0, Q0, A0, fun j hj => by omega⟩ ?_ ?_) ?_
  · rintro t ⟨s1, s2, hk1⟩ ht ⟨e1, m, e, g, e2, hm, E, x, Q1, A1, hg⟩
    obtain rfl := show s2 = _ from e1
    obtain rfl := show s1 = _ from e2
    have x : Ext (1 + 42 * t) h hk1 := x
    have Q1 : LQ hk1 n := Q1
    have A1 : AT hk1 h.2 20 g := A1
    have xs := x.2.1
    simp only [if_neg (n20 ht), l_O Q1.1, lp_isReadAt Q1.1 Q1.2.2.1 ht (show d < 2147483648 by omega), bN]
    by_cases c : rdAt n t d = true
    · rw [c, bI_t, if_neg (by decide)]
      refine Ok_b (P := fun jp : Int32 × mxH => ∃ m e g, jp.1 = Int32.ofNat m ∧ m ≤ t + 1 ∧ SE (bef (val n)) (fun s => rdAt n s d && decide (s < t + 1)) 20 m e ∧ Ext (1 + 42 * (t + 1)) h jp.2 ∧ LQ jp.2 n ∧ AT jp.2 h.2 20 g ∧ ∀ j, j < m → g j = Int32.ofNat (e j)) ?_ (fun jp H => Ok_p ⟨_, rfl, ofN_succ t, H⟩)
      refine Ok_b (ranks_inner Q1 (by omega) (by omega) ht (fun j hj => (E.1 j hj).1) A1 hg h (Nat.le_refl _) (by omega) x) (fun r ⟨p, g', p1, r1, r2, r3, r4, r5, r6, r7, r8⟩ => ?_)
      obtain ⟨s2, A2⟩ := r4.st (k := p) (x := Int32.ofNat t) (by omega) (by omega)
      rw [r1]
      simp only [s2, bN, ofN_succ]
      refine Ok_p ⟨m + 1, _, _, rfl, by omega, SE_congr (SE_ins S E ht (by simp) p1 (fun j q1 q2 => ?_) ?_) (fun s hs => ?_), (r2.up (Nat.le_refl _) r4.1).le (by omega), r3.up (by omega) r4.1, A2, fun j hj => ?_⟩
      · have := E.1 j q2
        simp only [Bool.and_eq_true, decide_eq_true_eq] at this
        rw [bef_lt this.2.2]
        exact decide_eq_true (r7 j q1 q2)
      · rcases r8 with r8 | r8
        · exact Or.inl r8
        · by_cases z : p = 0
          · exact Or.inl z
          · have := E.1 (p - 1) (by omega)
            simp only [Bool.and_eq_true, decide_eq_true_eq] at this
            right
            rw [bef_lt this.2.2]
            exact decide_eq_false r8
      · have := cnt_step (fun s => rdAt n s d) 20 t s hs
        simp only [c, Bool.true_and] at this
        exact this
      · by_cases q1 : j < p
        · rw [fup_ne (by omega), r5 j q1, if_pos q1]
        · by_cases q2 : j = p
          · rw [q2, fup_eq, if_neg (by omega), if_pos rfl]
          · rw [fup_ne q2, r6 j (by omega) (by omega), if_neg q1, if_neg q2]
    · rw [bF c, bI_f, if_pos rfl]
      simp only [bN, ofN_succ]
      refine Ok_p ⟨_, rfl, rfl, m, e, g, rfl, by omega, SE_congr E (fun s hs => ?_), x.le (by omega), Q1, A1, hg⟩
      have := cnt_step (fun s => rdAt n s d) 20 t s hs
      simp only [bF c, Bool.false_and, Bool.or_false] at this
      exact this
  · rintro ⟨s1, s2, hk1⟩ ⟨e1, m, e, g, e2, hm, E, x, Q1, A1, hg⟩
    obtain rfl := show s2 = _ from e1
    refine Ok_e (a := .inr (s1, hk1)) (if_pos yle) ⟨(s1, hk1), rfl, m, e, g, e2, SE_congr E (fun s hs => by rw [decide_eq_true hs, Bool.and_true]), x, Q1, A1, hg⟩
  · rintro ⟨s1, hk1⟩ ⟨m, e, g, e2, E, x, Q1, A1, hg⟩
    obtain rfl := show s1 = _ from e2
    have x : Ext 841 h hk1 := x
    have Q1 : LQ hk1 n := Q1
    have A1 : AT hk1 h.2 20 g := A1
    have hm : m = rdT n d := SE_cnt S E
    have r20 := rdT_20 n d
    have xs := x.2.1
    obtain ⟨f1, B0⟩ := nwV_at Q1.2.1 (m := m) (B := 20) (by omega) (by omega)
    have A2 : AT (mxNew hk1 (100, List.replicate m 0, [])) h.2 20 g := A1.ext Ext.new
    have X2 : Ext 842 h (mxNew hk1 (100, List.replicate m 0, [])) := x.trans Ext.new
    have xs1 := x.1
    refine Ok_s (show nwV hk1 (Int32.ofNat m) 20 = _ from f1) ?_
    generalize mxNew hk1 (100, List.replicate m 0, []) = g3 at A2 X2 B0
    refine Ok_s (a := mxUp g3 hk1.2 (100, mxCpy (g3.1 h.2).2.1 (g3.1 hk1.2).2.1 0 0 m, (g3.1 hk1.2).2.2)) ?_ ?_
    · show cpI g3 h.2 0 hk1.2 0 (Int32.ofNat m) = _
      unfold cpI
      rw [ofN_clamp (by omega)]
      exact if_pos ⟨⟨Or.inl A2.1, B0.1, by omega⟩, ⟨A2.2.1, B0.2.1⟩, ⟨by decide, by decide, ofN_nn (by omega)⟩, by rw [A2.2.2, tab_len]; show 0 + m ≤ 20; omega, by rw [B0.2.2, tab_len]; show 0 + m ≤ m; omega⟩
    · refine Ok_p ⟨(X2.up (by omega) B0.1).le (by omega), by show h.2 ≤ hk1.2; omega, ?_⟩
      rw [← hm]
      refine ⟨B0.1, ?_, ?_⟩
      · show (if hk1.2 = hk1.2 then _ else _ : mxE).1 = 100
        rw [if_pos rfl]
      · show (if hk1.2 = hk1.2 then _ else _ : mxE).2.1 = _
        rw [if_pos rfl]
        show mxCpy (g3.1 h.2).2.1 (g3.1 hk1.2).2.1 0 0 m = _
        rw [A2.2.2, B0.2.2]
        apply List.ext_getElem?
        intro i
        have hl : (mxCpy (tab 20 g) (tab m fun _ => 0) 0 0 m).length = m := by rw [mxCpy_len (by rw [tab_len]; omega) (by rw [tab_len]; omega), tab_len]
        by_cases hi : i < m
        · have := mxCpy_at (xs := tab 20 g) (ys := tab m fun _ => 0) (sp := 0) (dp := 0) (n := m) (by rw [tab_len]; omega) (by rw [tab_len]; omega) i (by rw [tab_len]; exact hi)
          rw [if_pos (by omega), List.getD_eq_getElem?_getD, List.getD_eq_getElem?_getD, show 0 + (i - 0) = i by omega, tab_get (show i < 20 by omega), List.getElem?_eq_getElem (by rw [hl]; exact hi)] at this
          rw [tab_get hi, List.getElem?_eq_getElem (by rw [hl]; exact hi)]
          have t2 : (mxCpy (tab 20 g) (tab m fun _ => 0) 0 0 m)[i]'(by rw [hl]; exact hi) = g i := this
          rw [t2, hg i hi, SE_nr S E hi]
          rfl
        · rw [List.getElem?_eq_none (by rw [hl]; omega), List.getElem?_eq_none (by rw [tab_len]; omega)]
theorem l_isEnough (Q : LQ h n) (hb : h.2 + 910 ≤ 1000000) {k d : Nat} (k1 : 1 ≤ k) (k2 : k ≤ 20) (h1 : 1 ≤ d) (h2 : d ≤ 20) :
    Ok (fL_isEnough 0 (Int32.ofNat k) (Int32.ofNat d) h) (fun o => Ext 910 h o.2 ∧ o.1 = bI (decide (k ≤ rdT n d) && !decide (val n (bst n d (k - 1)) < lim n d))) := by
  unfold fL_isEnough
  simp only [l_O Q.1, bN]
  refine Ok_b (l_ranking Q (by omega) h2) (fun o ⟨x, o1, A⟩ => ?_)
  have Q1 := Q.ext x
  have r20 := rdT_20 n d
  have xs := x.2.1
  simp only [A.len, bN, ofN_lt (show rdT n d < 2147483648 by omega) (show k < 2147483648 by omega)]
  by_cases c : rdT n d < k
  · rw [if_pos c, decide_eq_false (show ¬ k ≤ rdT n d by omega)]
    simp only [bN]
    exact Ok_p ⟨x.le (by omega), rfl⟩
  · rw [if_neg c, decide_eq_true (show k ≤ rdT n d by omega), Bool.true_and]
    simp only [ofN_pred k1 (show k < 2147483648 by omega), A.ld (show k - 1 < rdT n d by omega) (by omega), bN, l_O Q1.1]
    refine Ok_b (P := fun jp : Int32 × mxH => Ext 910 h jp.2 ∧ jp.1 = bI (!decide (val n (bst n d (k - 1)) < lim n d))) ?_ (fun jp ⟨j1, j2⟩ => by
      rw [j2]
      simp only [z1_bI, bN]
      exact Ok_p ⟨j1, rfl⟩)
    refine Ok_b (l_value Q1 (by omega) (bst_spec (show k - 1 < rdT n d by omega)).1) (fun u ⟨u1, u2⟩ => ?_)
    have Q2 := Q1.ext u2
    have us := u2.2.1
    simp only [l_O Q2.1, bN]
    refine Ok_b (l_limit Q2 (by omega) h1 h2) (fun v ⟨v1, v2⟩ => ?_)
    have X := ((x.trans u2).trans v2).le (show 900 + 1 + 1 ≤ 910 by omega)
    rw [u1, v1]
    by_cases c2 : val n (bst n d (k - 1)) < lim n d
    · rw [if_pos c2, decide_eq_true c2]; exact Ok_p ⟨X, rfl⟩
    · rw [if_neg c2, decide_eq_false c2]; exact Ok_p ⟨X, rfl⟩
end
