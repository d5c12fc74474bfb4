/-! THE PURE SIDE, 42: questions, 8: errors -/
section
variable {h : mxH} {n : Nat → Int32} {j : Nat}
theorem m_sameBest (G : MG n) (H : WG n) (W : WF h) (e : V h 320 = n) {s k : Nat} (hs : s ≤ 20) (v1 : ∀ q, q < rdT n s → V h 323 q = Int32.ofNat (bst n s q)) (v2 : ∀ q, q < rdT n 20 → V h 324 q = Int32.ofNat (bst n 20 q)) (b : Bool) (hk : k ≤ 20) :
    Ok (mxLoop (ρ := (Int32 × mxH)) (fun s37 : (Int32 × Int32 × mxH) => (if Int32.ofNat (min k (rdT n s)) ≤ s37.2.1 then some (Sum.inr (s37.1, s37.2.2)) else (if s37.1 = 0 then some (Sum.inr (s37.1, s37.2.2)) else Option.bind (gR s37.2.2 319 10 5) (fun r47 => Option.bind (ldI s37.2.2 r47 s37.2.1) (fun v49 => Option.bind (isO s37.2.2 319 10) (fun u51 => Option.bind (fX10_valueOf 319 v49 s37.2.2) (fun o54 => Option.bind (gR o54.2 319 10 6) (fun r55 => Option.bind (ldI o54.2 r55 s37.2.1) (fun v57 => Option.bind (isO o54.2 319 10) (fun u59 => Option.bind (fX10_valueOf 319 v57 o54.2) (fun o62 => Option.bind (α := Int32) (if o54.1 = o62.1 then some 1 else some 0) (fun p65' : Int32 => some (Sum.inl (p65', s37.2.1 + 1, o62.2)))))))))))))) mxF (bI b, 0, h)) (fun o => o.1 = bI (b && !orT (fun i => decide (val n (bst n s i) ≠ val n (bst n 20 i))) (min k (rdT n s))) ∧ Fr (fun b => b = 322) h o.2) := by
  have rm := rdT_mono (n := n) hs
  have r20 := rdT_20 n 20
  have fal : ∀ (p : Nat → Bool) i N, i ≤ N → (b && !orT p i) = false → (b && !orT p N) = false := fun p i N hi z => by
    cases b
    · rfl
    · have z : orT p i = true := by simpa using z
      obtain ⟨t, t1, t2⟩ := orT_iff.mp z
      have : orT p N = true := orT_iff.mpr ⟨t, by omega, t2⟩
      rw [this]; rfl
  refine Ok_loopE (fun i t => i ≤ min k (rdT n s) ∧ t.1 = bI (b && !orT (fun i => decide (val n (bst n s i) ≠ val n (bst n 20 i))) i) ∧ t.2.1 = Int32.ofNat i ∧ Fr (fun b => b = 322) h t.2.2) (min k (rdT n s)) ⟨Nat.zero_le _, by show _ = bI (b && !false); rw [Bool.not_false, Bool.and_true], rfl, Fr.refl W⟩ ?_ (by unfold mxF; omega)
  rintro i ⟨t1, t2, h1⟩ hi ⟨-, e1, e2, F⟩
  obtain rfl := show t2 = _ from e2
  have e1 : t1 = bI (b && !orT (fun i => decide (val n (bst n s i) ≠ val n (bst n 20 i))) i) := e1
  have F : Fr (fun b => b = 322) h h1 := F
  have W1 := F.1
  have en := fr_now F (by omega) e
  by_cases c : i = min k (rdT n s)
  · refine Ok_e (a := .inr (t1, h1)) (if_pos (by rw [c]; exact yle)) (Or.inr ⟨(t1, h1), rfl, ?_, F⟩)
    show t1 = _
    rw [e1, c]
  · have hi2 : i < min k (rdT n s) := by omega
    by_cases z : t1 = 0
    · refine Ok_e (a := .inr (t1, h1)) ((if_neg (nle hi2 (by omega))).trans (if_pos z)) (Or.inr ⟨(t1, h1), rfl, ?_, F⟩)
      show t1 = _
      rw [e1, bI_0] at z
      rw [e1, z, fal _ i _ hi z]
    · have hs1 : i < rdT n s := by omega
      have hs2 : i < rdT n 20 := by omega
      have b1 := (bst_spec hs1).1
      have b2 := (bst_spec hs2).1
      have ev1 : V h1 323 i = Int32.ofNat (bst n s i) := by rw [Fr_V F (by omega) (by omega)]; exact v1 i hs1
      simp only [if_neg (nle hi2 (by omega)), if_neg z, gM5 W1, bN, ldI_at W1 ar_f1 (show i < 20 by omega), ev1, isO_X W1]
      refine Ok_b (m_valueOf G H W1 en b1) (fun o54 ⟨o1, o2⟩ => ?_)
      have W2 := o2.1
      have F2 := F.trans o2
      have ev2 : V o54.2 324 i = Int32.ofNat (bst n 20 i) := by rw [Fr_V F2 (by omega) (by omega)]; exact v2 i hs2
      simp only [gM6 W2, bN, ldI_at W2 ar_f2 (show i < 20 by omega), ev2, isO_X W2]
      refine Ok_b (m_valueOf G H W2 (fr_now F2 (by omega) e) b2) (fun o62 ⟨p1, p2⟩ => ?_)
      rw [o1, p1, ofN_succ]
      have zb : (b && !orT (fun i => decide (val n (bst n s i) ≠ val n (bst n 20 i))) i) = true := by
        cases y : (b && !orT (fun i => decide (val n (bst n s i) ≠ val n (bst n 20 i))) i)
        · rw [e1, y] at z; exact absurd rfl z
        · rfl
      have zs : (b && !orT (fun i => decide (val n (bst n s i) ≠ val n (bst n 20 i))) (i + 1)) = decide (val n (bst n s i) = val n (bst n 20 i)) := by
        show (b && !(orT (fun i => decide (val n (bst n s i) ≠ val n (bst n 20 i))) i || decide (val n (bst n s i) ≠ val n (bst n 20 i)))) = _
        rw [Bool.not_or, ← Bool.and_assoc, zb, Bool.true_and]
        by_cases y : val n (bst n s i) = val n (bst n 20 i)
        · simp [y]
        · simp [y]
      by_cases y : val n (bst n s i) = val n (bst n 20 i)
      · rw [if_pos y]
        exact Ok_p (Or.inl ⟨_, rfl, hi2, by omega, by show (1 : Int32) = _; rw [zs, decide_eq_true y]; rfl, rfl, F2.trans p2⟩)
      · rw [if_neg y]
        exact Ok_p (Or.inl ⟨_, rfl, hi2, by omega, by show (0 : Int32) = _; rw [zs, decide_eq_false y]; rfl, rfl, F2.trans p2⟩)
theorem Q_errors (W : WF h) (S : SR h 3 n) (G : GD n j) : Ask0 h n (fX9_errors 2 h) (fX10_errors 319) := by
  have m100 := mcn_100 n
  have D20 := dpt_20 n
  refine Ask0_v (Int32.ofNat (fo (fun s k => s + flt n (k + 1)) 0 20)) ?_ (fun h1 W1 W2 e2 => ?_)
  · unfold fX9_errors
    simp only [gH3 W, gH0 W, gS0 W, isO_K W K289, bN]
    refine Ok_b (c_rankAll W S G) (fun g1 ⟨F1, S1, K1⟩ => ?_)
    have W1 := F1.1
    simp only [gH5 W1, gH0 W1, gS0 W1, gH3 W1, isO_D W1, bN]
    refine Ok_b (s_findStops W1 G.1 G.2.1 K289 R4 S1.1 K1) (fun g2 ⟨F2, v2⟩ => ?_)
    have W2 := F2.1
    have Q2 : Fr QF g1 g2 := F2.mono (fun b z => by unfold QF; omega)
    have S2 := SR_fr S3 S1 Q2 (fun b b1 b2 b3 => by unfold QF; omega)
    have K2 := KR_fr K289 K1 F2 (fun o ho => by omega)
    simp only [gH5 W2, gH0 W2, gS0 W2, isO_D W2, bN]
    refine Ok_b (s_findPlainStops W2 G.1 G.2.1 R4 S2.1) (fun g3 ⟨F3, v3⟩ => ?_)
    have W3 := F3.1
    have Q3 : Fr QF g2 g3 := F3.mono (fun b z => by unfold QF; omega)
    have S3' := SR_fr S3 S2 Q3 (fun b b1 b2 b3 => by unfold QF; omega)
    have K3 := KR_fr K289 K2 F3 (fun o ho => by omega)
    simp only [gH6 W3, gH0 W3, gS0 W3, isO_M W3, bN]
    refine Ok_b (s_mergeAll W3 G.1 R4 S3'.1) (fun g4 ⟨F4, M4⟩ => ?_)
    have W4 := F4.1
    have Q4 : Fr QF g3 g4 := F4.mono (fun b z => by unfold QF; omega)
    have S4 := SR_fr S3 S3' Q4 (fun b b1 b2 b3 => by unfold QF; omega)
    have K4 := KR_fr K289 K3 F4 (fun o ho => by omega)
    have w2 : ∀ k, 1 ≤ k → k ≤ 20 → V g4 298 k = Int32.ofNat (stp n k) := fun k k1 k2 => by
      rw [Fr_V F4 (by omega) (by omega), Fr_V F3 (by omega) (by omega)]; exact v2 k k1 k2
    have w3 : ∀ k, 1 ≤ k → k ≤ 20 → V g4 299 k = Int32.ofNat (pst n k) := fun k k1 k2 => by
      rw [Fr_V F4 (by omega) (by omega)]; exact v3 k k1 k2
    simp only [gH5 W4, gH0 W4, gS0 W4, gH3 W4, gH6 W4, isO_D W4, isO_M W4, bN, s_countFaults W4 K289 R4 S4.1 K4 w2 w3, s_mFaults W4 R4 S4.1 M4, Int32.add_zero]
    exact Ok_p ⟨rfl, ((F1.trans Q2).trans Q3).trans Q4⟩
  · unfold fX10_errors
    simp only [pI_at W1 fd_thr, isO_X W2, bN, m_longest W2 e2]
    generalize st h1 319 3 0 = g at W2 e2
    refine Ok_b (P := fun o : Int32 × mxH => o.1 = Int32.ofNat (fo (fun s k => s + flt n (k + 1)) 0 20) ∧ Fr MF g o.2) (Ok_loop (fun t s => s.1 = Int32.ofNat (fo (fun s k => s + flt n (k + 1)) 0 t) ∧ s.2.1 = Int32.ofNat (1 + t) ∧ Fr MF g s.2.2) 20 ⟨rfl, rfl, Fr.refl W2⟩ ?_ ?_) (fun o ⟨o1, o2⟩ => ?_)
    · rintro t ⟨s1, s2, h2⟩ ht ⟨z1, z2, F⟩
      obtain rfl := show s1 = _ from z1
      obtain rfl := show s2 = _ from z2
      have F : Fr MF g h2 := F
      have W3 := F.1
      have e3 := fr_now F (by unfold MF; omega) e2
      have s20 := stp_20 n (1 + t)
      have p20 := pst_20 n (1 + t)
      have r20 := rdT_20 n (stp n (1 + t))
      have r20b := rdT_20 n 20
      have c1 : ¬ (20 : Int32) < Int32.ofNat (1 + t) := fun q => by have := (ofN_lt (a := 20) (by omega) (by omega)).mp q; omega
      simp only [if_neg c1, isO_X W3, bN]
      refine Ok_b (m_stop G.1 G.2.1 W3 e3 (k := 1 + t) (by omega) (by omega)) (fun o19 ⟨a1, a2⟩ => ?_)
      have W4 := a2.1
      have e4 := fr_now a2 (by omega) e3
      rw [a1]
      simp only [gM5 W4, isO_X W4, bN]
      refine Ok_b (m_ranks G.1 G.2.1 W4 e4 (a := 323) (Or.inl rfl) s20) (fun o25 ⟨b1, b2, b3⟩ => ?_)
      have W5 := b2.1
      have e5 := fr_now b2 (by omega) e4
      rw [b1]
      simp only [gM6 W5, isO_X W5, bN]
      refine Ok_b (show Ok (fX10_ranks 319 324 20 o25.2) _ from m_ranks G.1 G.2.1 W5 e5 (a := 324) (d := 20) (Or.inr rfl) (by omega)) (fun o31 ⟨d1, d2, d3⟩ => ?_)
      have W6 := d2.1
      have e6 := fr_now d2 (by omega) e5
      have v323 : ∀ q, q < rdT n (stp n (1 + t)) → V o31.2 323 q = Int32.ofNat (bst n (stp n (1 + t)) q) := fun q hq => by
        rw [Fr_V d2 (by omega) (by omega)]; exact b3 q hq
      have F6 : Fr MF g o31.2 := ((F.trans (a2.mono (fun b z => mF z))).trans (b2.mono (fun b z => mF z))).trans (d2.mono (fun b z => mF4 z))
      rw [d1]
      have c2 : ¬ Int32.ofNat (dpt n) < Int32.ofNat (stp n (1 + t)) := fun q => by
        have := (ofN_lt (by omega) (by omega)).mp q
        have := stp_le n (1 + t)
        omega
      simp only [mxMin_N (show 1 + t < 2147483648 by omega) (show rdT n (stp n (1 + t)) < 2147483648 by omega), mxMin_N (show 1 + t < 2147483648 by omega) (show rdT n 20 < 2147483648 by omega), ofN_eq (show min (1 + t) (rdT n (stp n (1 + t))) < 2147483648 by omega) (show min (1 + t) (rdT n 20) < 2147483648 by omega), if_neg c2]
      refine Ok_s (a := bI (decide (min (1 + t) (rdT n (stp n (1 + t))) = min (1 + t) (rdT n 20)))) (by
        by_cases c : min (1 + t) (rdT n (stp n (1 + t))) = min (1 + t) (rdT n 20)
        · rw [if_pos c, decide_eq_true c]; rfl
        · rw [if_neg c, decide_eq_false c]; rfl) ?_
      refine Ok_b (m_sameBest G.1 G.2.1 W6 e6 s20 v323 d3 (decide (min (1 + t) (rdT n (stp n (1 + t))) = min (1 + t) (rdT n 20))) (show 1 + t ≤ 20 by omega)) (fun r68 ⟨f1, f2⟩ => ?_)
      have W7 := f2.1
      have e7 := fr_now f2 (by omega) e6
      have ea : (decide (min (1 + t) (rdT n (stp n (1 + t))) = min (1 + t) (rdT n 20)) && !orT (fun i => decide (val n (bst n (stp n (1 + t)) i) ≠ val n (bst n 20 i))) (min (1 + t) (rdT n (stp n (1 + t))))) = ansB n (1 + t) := by
        unfold ansB
        rw [Bool.and_comm]; rfl
      rw [f1, ea]
      refine Ok_s (a := Int32.ofNat (if ansB n (1 + t) then 0 else 1)) (by cases ansB n (1 + t) <;> rfl) ?_
      simp only [isO_X W7, bN]
      refine Ok_b (m_plainStop G.1 G.2.1 W7 e7 (k := 1 + t) (by omega) (by omega)) (fun o76 ⟨q1, q2⟩ => ?_)
      rw [q1]
      refine Ok_s (a := Int32.ofNat (if pst n (1 + t) < stp n (1 + t) then 1 else 0)) (by
        by_cases c : pst n (1 + t) < stp n (1 + t)
        · rw [if_neg (fun z => by have := (ofN_le (by omega) (by omega)).mp z; omega), if_pos c]; rfl
        · rw [if_pos ((ofN_le (by omega) (by omega)).mpr (by omega)), if_neg c]; rfl) ?_
      rw [ofN_add, ofN_add, ofN_succ]
      refine Ok_p ⟨_, rfl, ?_, rfl, (F6.trans (f2.mono (fun b z => m322 z))).trans (q2.mono (fun b z => mFp z))⟩
      show Int32.ofNat _ = Int32.ofNat (fo (fun s k => s + flt n (k + 1)) 0 t + flt n (t + 1))
      unfold flt
      rw [Nat.add_comm t 1, Nat.add_assoc]
    · rintro ⟨s1, s2, h2⟩ ⟨z1, z2, F⟩
      obtain rfl := show s1 = _ from z1
      obtain rfl := show s2 = _ from z2
      have F : Fr MF g h2 := F
      exact Ok_e (a := .inr (Int32.ofNat (fo (fun s k => s + flt n (k + 1)) 0 20), h2)) (if_pos ((ofN_lt (a := 20) (b := 1 + 20) (by omega) (by omega)).mpr (by omega))) ⟨(Int32.ofNat (fo (fun s k => s + flt n (k + 1)) 0 20), h2), rfl, rfl, F⟩
    · have W3 := o2.1
      have e3 := fr_now o2 (by unfold MF; omega) e2
      rw [o1]
      simp only [gM7 W3, isO_X W3, bN]
      refine Ok_b (m_keysAll G.1 W3 e3 (a := 325) (Or.inl rfl)) (fun o91 ⟨k1, k2, k3⟩ => ?_)
      have W4 := k2.1
      rw [k1]
      have k3 : ∀ q, q < mcn n → V o91.2 325 q = ky n (mnr n q) := k3
      generalize Int32.ofNat (fo (fun s k => s + flt n (k + 1)) 0 20) = T
      refine Ok_s (a := T) (mxLoop_up (S := fun x => (T, Int32.ofNat (1 + x))) (N := mcn n - 1) (fun x hx => ?_) ?_ (by unfold mxF; omega)) (Ok_p ⟨rfl, o2.trans (k2.mono (fun b z => mF5 z))⟩)
      · have m1 := mnr_spec (n := n) (p := x) (by omega)
        have m2 := mnr_spec (n := n) (p := 1 + x) (by omega)
        have mb := mnr_lt (n := n) (show x < 1 + x by omega) (show 1 + x < mcn n by omega)
        have hne : mnr n (1 + x) ≠ mnr n x := fun z => by rw [z, bef_irr] at mb; cases mb
        have hc := ky_cmp G.1 (g := mnr n (1 + x)) (x := mnr n x) m2.1 m1.1 m2.2 m1.2 hne
        have lt : ky n (mnr n x) < ky n (mnr n (1 + x)) := by
          refine Int32.not_le.mp (fun z => ?_)
          have := hc.mp z
          rw [mb] at this; cases this
        have ep : Int32.ofNat (1 + x) - 1 = Int32.ofNat x := by
          rw [ofN_pred (by omega) (by omega), show 1 + x - 1 = x by omega]
        simp only [if_neg (nle (show 1 + x < mcn n by omega) (by omega)), gM7 W4, bN, ldI_at W4 ar_kA (show 1 + x < 100 by omega), ep, ldI_at W4 ar_kA (show x < 100 by omega), k3 _ (show 1 + x < mcn n by omega), k3 _ (show x < mcn n by omega), if_pos lt, Int32.add_zero, ofN_succ]
        rfl
      · refine if_pos ((ofN_le (by omega) (by omega)).mpr (by omega))
end
