/-! THE PURE SIDE, 41: questions, 7: holds, errors -/
section
variable {h : mxH} {n : Nat → Int32} {j : Nat}
theorem rdT_mono {d e : Nat} (h : d ≤ e) : rdT n d ≤ rdT n e := cnt_mono (fun t _ q => rdAt_mono h q)
theorem MS_no0 {x c v : Int32} (W : WF h) (hc : c ≠ 0) : MS h c v (x, st h 319 3 c) := by
  refine ⟨Fr.st W fd_thr.sl (Or.inl rfl), ?_, fun z => absurd z hc, ?_⟩
  · show V (st h 319 3 c) 319 = _
    rw [V_st_eq W fd_thr.sl]
  · show V (st h 319 3 c) 320 = _
    rw [V_st_ne (by omega)]
theorem kat_eq {n n' : Nat → Int32} {k : Nat} (hk : k ≤ 20) : (!orT (fun j => decide (kat n j ≠ kat n' j)) k) = (decide (min k (rdT n 20) = min k (rdT n' 20)) && !orT (fun i => decide (bst n 20 i ≠ bst n' 20 i)) (min k (rdT n 20))) := by
  have hb : ∀ (n : Nat → Int32) q, q < rdT n 20 → knr n q < 20 := fun n q hq => (knr_20 hq).1
  have r1 := rdT_20 n 20
  have r2 := rdT_20 n' 20
  cases e : orT (fun j => decide (kat n j ≠ kat n' j)) k
  · have e := orT_false.mp e
    have e : ∀ i, i < k → kat n i = kat n' i := fun i hi => by simpa using e i hi
    have em : min k (rdT n 20) = min k (rdT n' 20) := by
      by_cases c : min k (rdT n 20) = min k (rdT n' 20)
      · exact c
      · exfalso
        by_cases c2 : rdT n 20 < rdT n' 20
        · have z := e (rdT n 20) (by omega)
          unfold kat at z
          rw [if_neg (by omega), if_pos c2] at z
          have := hb n' _ c2
          exact ofN_nm (by omega) z.symm
        · have z := e (rdT n' 20) (by omega)
          unfold kat at z
          rw [if_pos (by omega), if_neg (by omega)] at z
          have := hb n (rdT n' 20) (by omega)
          exact ofN_nm (by omega) z
    have e3 : orT (fun i => decide (bst n 20 i ≠ bst n' 20 i)) (min k (rdT n 20)) = false := orT_false.mpr (fun i hi => by
      have z := e i (by omega)
      unfold kat at z
      rw [if_pos (by omega), if_pos (by omega)] at z
      have b1 := hb n i (by omega)
      have b2 := hb n' i (by omega)
      have : knr n i = knr n' i := ofN_inj (by omega) (by omega) z
      exact decide_eq_false (fun y => y this))
    rw [e3, decide_eq_true em]; rfl
  · obtain ⟨i, h1, h2⟩ := orT_iff.mp e
    have h2 : kat n i ≠ kat n' i := of_decide_eq_true h2
    by_cases em : min k (rdT n 20) = min k (rdT n' 20)
    · have c1 : i < min k (rdT n 20) := by
        by_cases c : i < min k (rdT n 20)
        · exact c
        · exfalso
          apply h2
          unfold kat
          rw [if_neg (by omega), if_neg (by omega)]
      have e3 : orT (fun i => decide (bst n 20 i ≠ bst n' 20 i)) (min k (rdT n 20)) = true := orT_iff.mpr ⟨i, c1, decide_eq_true (fun y => by
        apply h2
        have y : knr n i = knr n' i := y
        unfold kat
        rw [if_pos (by omega), if_pos (by omega), y])⟩
      rw [e3, decide_eq_true em]; rfl
    · rw [decide_eq_false em]; rfl
theorem MG_fup {n : Nat → Int32} {g m : Nat} (G : MG n) (hm : m < 100) : MG (fup n g (Int32.ofNat m)) := fun k hk => by
  unfold fup
  by_cases e : k = g
  · rw [if_pos e]; exact Or.inr ⟨m, hm, rfl⟩
  · rw [if_neg e]; exact G k hk
theorem WG_fup {n : Nat → Int32} {g : Nat} {x : Int32} (H : WG n) (hg : g < 100) : WG (fup n g x) := fun i hi => by
  rw [fup_ne (by omega)]; exact H i hi
theorem Q_holds (W : WF h) (S : SR h 3 n) (G : GD n j) (p q r x : Int32) : Ask (RC2 IX IA) h n (fX9_holds 2 p q r x h) (fX10_holds 319 p q r x) := by
  by_cases hq : inN q 5 = true
  · obtain ⟨a, ha, rfl⟩ := inN_of (by omega) hq
    by_cases hr : inN r 20 = true
    · obtain ⟨b, hb, rfl⟩ := inN_of (by omega) hr
      by_cases hp : inI p 1 20 = true
      · by_cases hx : inI x 0 99 = true
        · obtain ⟨k, k1, k2, rfl⟩ := inK_of hp
          obtain ⟨m, hm, rfl⟩ := in99 hx
          have G' : MG (fup n (20 * a + b) (Int32.ofNat m)) := MG_fup G.1 hm
          have H' : WG (fup n (20 * a + b) (Int32.ofNat m)) := WG_fup G.2.1 (by omega)
          generalize hn' : fup n (20 * a + b) (Int32.ofNat m) = n' at G' H'
          have r1 := rdT_20 n 20
          have r2 := rdT_20 n' 20
          refine ⟨.inl (bI (!orT (fun j => decide (kat n j ≠ kat n' j)) k)), 0, bI (!orT (fun j => decide (kat n j ≠ kat n' j)) k), Or.inl ⟨rfl, rfl⟩, ?_, fun h1 W1 e1 => ?_⟩
          · unfold fX9_holds
            simp only [rq_row ha, rq_thing hb, rq_range hp, rq_range hx, then_l, gH2 W, gH0 W, gS0 W, isO_R W R266, bN]
            refine Ok_b (s_copyRows W R266 R4 (by decide) S.1) (fun g1 ⟨F1, A1⟩ => ?_)
            have W1 := F1.1
            have Q1 : Fr QF h g1 := F1.mono (fun b z => by unfold QF; omega)
            have S1 := SR_fr S3 S Q1 (fun b b1 b2 b3 => by unfold QF; omega)
            simp only [gH2 W1, isO_R W1 R266, bN]
            refine Ok_b (s_setMark W1 R266 A1 ha hb (x := Int32.ofNat m) (by rw [hn']; exact G')) (fun g2 ⟨F2, A2⟩ => ?_)
            rw [hn'] at A2
            have W2 := F2.1
            have Q2 : Fr QF g1 g2 := F2.mono (fun b z => by unfold QF; omega)
            have S2 := SR_fr S3 S1 Q2 (fun b b1 b2 b3 => by unfold QF; omega)
            simp only [gH3 W2, gH0 W2, gS0 W2, isO_K W2 K289, bN]
            refine Ok_b (s_rankAll W2 G.1 G.2.1 K289 R4 S2.1) (fun g3 ⟨F3, B3⟩ => ?_)
            have W3 := F3.1
            have Q3 : Fr QF g2 g3 := F3.mono (fun b z => by unfold QF; omega)
            have A3 := RR_fr R266 A2 F3 (fun o ho => by omega)
            simp only [gH4 W3, gH2 W3, isO_K W3 K293, bN]
            refine Ok_b (s_rankAll W3 G' H' K293 R266 A3) (fun g4 ⟨F4, B4⟩ => ?_)
            have W4 := F4.1
            have Q4 : Fr QF g3 g4 := F4.mono (fun b z => by unfold QF; omega)
            have B5 := KR_fr K289 B3 F4 (fun o ho => by omega)
            simp only [gH3 W4, gH4 W4, isO_K W4 K289, bN, s_hasSameFirst W4 K289 K293 B5 B4 k2, z1_bI]
            exact Ok_p ⟨rfl, ((Q1.trans Q2).trans Q3).trans Q4⟩
          · have W2 := W_thr W1 0
            have e2 := n_thr e1 0
            have v3 : V (st h1 319 3 0) 319 3 = 0 := by rw [V_st_eq W1 fd_thr.sl, fup_eq]
            have F0 := fr0 W1 0
            have v319 : V (st h1 319 3 0) 319 = fup (V h1 319) 3 0 := V_st_eq W1 fd_thr.sl
            unfold fX10_holds
            simp only [m_row ha, m_thing hb, m_kT hp, m_inT hx, bN, e10, if_false, pI_at W1 fd_thr, gI_at W2 fd_thr, v3, show ((0 : Int32) ≤ 0) = True from eq_true (Int32.le_refl _), if_true, gM5 W2, isO_X W2]
            generalize st h1 319 3 0 = g at W2 e2 F0 v319
            refine Ok_b (show Ok (fX10_ranks 319 323 20 g) _ from m_ranks G.1 G.2.1 W2 e2 (a := 323) (d := 20) (Or.inl rfl) (by omega)) (fun o ⟨o1, o2, o3⟩ => ?_)
            have W3 := o2.1
            have e3 := fr_now o2 (by omega) e2
            have Sn := ar_now.sl (show 20 * a + b < 230 by omega)
            rw [o1]
            have lay1 : fX10_lays 319 (Int32.ofNat a) (Int32.ofNat b) (Int32.ofNat m) o.2 = some (st o.2 320 (20 * a + b) (Int32.ofNat m)) := by
              unfold fX10_lays
              simp only [gM0 W3, bN, ix, stI_at W3 ar_now (show 20 * a + b < 230 by omega)]
            have W4 := WF_st W3 (x := Int32.ofNat m) Sn
            have e4 : V (st o.2 320 (20 * a + b) (Int32.ofNat m)) 320 = n' := by rw [V_st_eq W3 Sn, e3, hn']
            have F4 : Fr (fun b => b = 320) o.2 (st o.2 320 (20 * a + b) (Int32.ofNat m)) := Fr.st W3 Sn rfl
            simp only [isO_X W3, bN, m_mark W3 e3 ha hb, lay1]
            generalize st o.2 320 (20 * a + b) (Int32.ofNat m) = g4 at W4 e4 F4
            simp only [gM6 W4, isO_X W4, bN]
            refine Ok_b (show Ok (fX10_ranks 319 324 20 g4) _ from m_ranks G' H' W4 e4 (a := 324) (d := 20) (Or.inr rfl) (by omega)) (fun o5 ⟨p1, p2, p3⟩ => ?_)
            have W5 := p2.1
            have e5 := fr_now p2 (by omega) e4
            have v323 : ∀ q, q < rdT n 20 → V o5.2 323 q = Int32.ofNat (bst n 20 q) := fun q hq => by
              rw [Fr_V p2 (by omega) (by omega), Fr_V F4 (by omega) (by omega)]; exact o3 q hq
            rw [p1]
            simp only [mxMin_N (show k < 2147483648 by omega) (show rdT n 20 < 2147483648 by omega), mxMin_N (show k < 2147483648 by omega) (show rdT n' 20 < 2147483648 by omega), ofN_eq (show min k (rdT n 20) < 2147483648 by omega) (show min k (rdT n' 20) < 2147483648 by omega)]
            have est : (Option.bind (α := Int32) (if min k (rdT n 20) = min k (rdT n' 20) then some 1 else some 0)) = fun (f : Int32 → Option (Int32 × mxH)) => f (bI (decide (min k (rdT n 20) = min k (rdT n' 20)))) := by
              funext f
              by_cases c : min k (rdT n 20) = min k (rdT n' 20)
              · rw [if_pos c, decide_eq_true c]; rfl
              · rw [if_neg c, decide_eq_false c]; rfl
            rw [est]
            show Ok (Option.bind _ _) _
            refine Ok_s (a := bI (decide (min k (rdT n 20) = min k (rdT n' 20)) && !orT (fun i => decide (bst n 20 i ≠ bst n' 20 i)) (min k (rdT n 20)))) ?_ ?_
            · have e00 : (bI (decide (min k (rdT n 20) = min k (rdT n' 20))), (0 : Int32)) = (bI (decide (min k (rdT n 20) = min k (rdT n' 20)) && !orT (fun i => decide (bst n 20 i ≠ bst n' 20 i)) 0), Int32.ofNat 0) := by
                show _ = (bI (_ && !false), _)
                rw [Bool.not_false, Bool.and_true]; rfl
              rw [e00]
              refine mxLoop_up (S := fun i => (bI (decide (min k (rdT n 20) = min k (rdT n' 20)) && !orT (fun i => decide (bst n 20 i ≠ bst n' 20 i)) i), Int32.ofNat i)) (N := min k (rdT n 20)) (fun i hi => ?_) (if_pos yle) (by unfold mxF; omega)
              show _ = some (Sum.inl (bI (decide (min k (rdT n 20) = min k (rdT n' 20)) && !(orT (fun i => decide (bst n 20 i ≠ bst n' 20 i)) i || decide (bst n 20 i ≠ bst n' 20 i))), Int32.ofNat (i + 1)))
              have b1 := (bst_spec (n := n) (d := 20) (q := i) (by omega)).1
              by_cases c : min k (rdT n 20) = min k (rdT n' 20)
              · have b2 := (bst_spec (n := n') (d := 20) (q := i) (by omega)).1
                simp only [if_neg (nle hi (by omega)), bI_0, gM5 W5, gM6 W5, bN, ldI_at W5 ar_f1 (show i < 20 by omega), ldI_at W5 ar_f2 (show i < 20 by omega), v323 i (by omega), p3 i (by omega), ofN_eq (show bst n 20 i < 2147483648 by omega) (show bst n' 20 i < 2147483648 by omega), ofN_succ, decide_eq_true c, Bool.true_and]
                generalize orT (fun i => decide (bst n 20 i ≠ bst n' 20 i)) i = y
                cases y
                · by_cases z : bst n 20 i = bst n' 20 i
                  · simp only [z, Bool.not_false, Bool.true_eq_false, if_false, if_true, bN, ne_eq, not_true_eq_false, decide_false, Bool.or_false]; rfl
                  · simp only [z, Bool.not_false, Bool.true_eq_false, if_false, bN, ne_eq, not_false_eq_true, decide_true, Bool.or_true, Bool.not_true]; rfl
                · simp only [Bool.not_true, if_true, bN, Bool.true_or]; rfl
              · simp only [if_neg (nle hi (by omega)), bI_0, decide_eq_false c, Bool.false_and, if_true, bN, ofN_succ]; rfl
            · have Sn5 := ar_now.sl (show 20 * a + b < 230 by omega)
              have lay2 : fX10_lays 319 (Int32.ofNat a) (Int32.ofNat b) (n (20 * a + b)) o5.2 = some (st o5.2 320 (20 * a + b) (n (20 * a + b))) := by
                unfold fX10_lays
                simp only [gM0 W5, bN, ix, stI_at W5 ar_now (show 20 * a + b < 230 by omega)]
              simp only [isO_X W5, bN, lay2, z1_bI]
              refine Ok_p ⟨?_, ?_, fun _ => ?_, ?_⟩
              · exact (((((F0.mono (fun b z => Or.inl z)).trans (o2.mono (fun b z => Or.inr (Or.inr (mF z))))).trans (F4.mono (fun b z => Or.inr (Or.inl z)))).trans (p2.mono (fun b z => Or.inr (Or.inr (mF4 z))))).trans (Fr.st W5 Sn5 (Or.inr (Or.inl rfl))))
              · show V (st _ _ _ _) 319 = _
                rw [V_st_ne (by omega), Fr_V p2 (by omega) (by omega), Fr_V F4 (by omega) (by omega), Fr_V o2 (by omega) (by omega), v319]
              · show bI _ = bI _
                rw [kat_eq k2]
              · show V (st _ _ _ _) 320 = _
                rw [V_st_eq W5 Sn5, e5, e1, ← hn']
                funext t
                unfold fup
                by_cases z : t = 20 * a + b
                · rw [if_pos z, z]
                · rw [if_neg z, if_neg z]
        · refine ⟨.inr IA, 2, 0, Or.inr (Or.inr ⟨rfl, rfl⟩), ?_, fun h1 W1 e1 => ?_⟩
          · unfold fX9_holds
            simp only [rq_row ha, rq_thing hb, rq_range hp, rq_rangeN (bF hx), then_l, then_r]
            exact Ok_p ⟨rfl, Fr_thr (Fr.refl W)⟩
          · unfold fX10_holds
            have v3 : V (st h1 319 3 2) 319 3 = 2 := by rw [V_st_eq W1 fd_thr.sl, fup_eq]
            simp only [m_row ha, m_thing hb, m_kT hp, m_inF (bF hx), bN, e10, if_false, if_true, pI_at W1 fd_thr, gI_at (W_thr W1 2) fd_thr, v3, show ((2 : Int32) ≤ 0) = False from eq_false (by decide), z1_0]
            exact Ok_p (MS_no0 W1 (by decide))
      · refine ⟨.inr IA, 2, 0, Or.inr (Or.inr ⟨rfl, rfl⟩), ?_, fun h1 W1 e1 => ?_⟩
        · unfold fX9_holds
          simp only [rq_row ha, rq_thing hb, rq_rangeN (bF hp), then_l, then_r]
          exact Ok_p ⟨rfl, Fr_thr (Fr.refl W)⟩
        · unfold fX10_holds
          have v3 : V (st h1 319 3 2) 319 3 = 2 := by rw [V_st_eq W1 fd_thr.sl, fup_eq]
          simp only [m_row ha, m_thing hb, m_kF (bF hp), bN, e10, if_false, if_true, pI_at W1 fd_thr, gI_at (W_thr W1 2) fd_thr, v3, show ((2 : Int32) ≤ 0) = False from eq_false (by decide), z1_0]
          exact Ok_p (MS_no0 W1 (by decide))
    · refine ⟨.inr IX, 1, 0, Or.inr (Or.inl ⟨rfl, rfl⟩), ?_, fun h1 W1 e1 => ?_⟩
      · unfold fX9_holds
        simp only [rq_row ha, rq_thingN (bF hr), then_l, then_r]
        exact Ok_p ⟨rfl, Fr_thr (Fr.refl W)⟩
      · unfold fX10_holds
        have v3 : V (st h1 319 3 1) 319 3 = 1 := by rw [V_st_eq W1 fd_thr.sl, fup_eq]
        simp only [m_row ha, m_thingN (bF hr), bN, e10, if_false, if_true, pI_at W1 fd_thr, gI_at (W_thr W1 1) fd_thr, v3, show ((1 : Int32) ≤ 0) = False from eq_false (by decide), z1_0]
        exact Ok_p (MS_no0 W1 (by decide))
  · refine ⟨.inr IX, 1, 0, Or.inr (Or.inl ⟨rfl, rfl⟩), ?_, fun h1 W1 e1 => ?_⟩
    · unfold fX9_holds
      simp only [rq_rowN (bF hq), then_r]
      exact Ok_p ⟨rfl, Fr_thr (Fr.refl W)⟩
    · unfold fX10_holds
      have v3 : V (st h1 319 3 1) 319 3 = 1 := by rw [V_st_eq W1 fd_thr.sl, fup_eq]
      simp only [m_rowN (bF hq), bN, e10, if_false, if_true, pI_at W1 fd_thr, gI_at (W_thr W1 1) fd_thr, v3, show ((1 : Int32) ≤ 0) = False from eq_false (by decide), z1_0]
      exact Ok_p (MS_no0 W1 (by decide))
end
