/-! THE PURE SIDE, 55: the law asks for votes -/
section
variable {h h1 : mxH} {n m : Nat → Int32} {c j K : Nat} {B : Nat → Nat → Int32}
theorem Ev.up {a k : Nat} {x : Int32} (v : Ev K h h1) (h2 : h.2 ≤ a) : Ev K h (sA h1 a k x) := ⟨v.1, v.2.1, fun b b1 b2 => by rw [sA_ne (by omega)]; exact v.2.2 b b1 b2⟩
theorem k_arr (I : LSt h n m c B j) {a N k : Nat} {f : Nat → Int32} {x : Int32} (ha : 337 ≤ a) (A : AT h a N f) (hk : k < N) (hN : N < 2147483648 := by omega) : stI h a (Int32.ofNat k) x = some (sA h a k x) ∧ LSt (sA h a k x) n m c B j ∧ AT (sA h a k x) a N (fup f k x) := by
  obtain ⟨w1, A2⟩ := A.st (k := k) (x := x) (by omega) hk hN
  exact ⟨w1, I.law (I.1.up ha A.1) (sA_fr I.W (by omega)), A2⟩
theorem AT.sA {a b N k : Nat} {f : Nat → Int32} {x : Int32} (A : AT h a N f) (n : a ≠ b) : AT (sA h b k x) a N f := A.up n
theorem k_winner (I : LSt h n n c B j) (hb : h.2 < 1000000) : Ok (fL_winner 2 h) (fun o => o.1 = (if wnr n < cdC n then Int32.ofNat (cd n (wnr n)) else -1) ∧ LSt o.2 n n c B j ∧ Ev 1 h o.2) := by
  unfold fL_winner
  simp only [I.hO, bN]
  by_cases q : wnr n < cdC n
  · obtain ⟨⟨a, g⟩, e, p1, p2⟩ := q_winner I.W I.S q
    obtain rfl := show a = _ from p1
    rw [e, if_pos q]
    show Ok (some (Int32.ofNat (cd n (wnr n)), g)) _
    exact Ok_p ⟨rfl, I.q p2, (QF_ev p2).le (by omega)⟩
  · have hf : ∀ g, Fr QF h g → ∃ g1, nwX g = some g1 := fun g F => by
      have ev := QF_ev F
      have := ev.2.1
      exact ⟨_, if_pos ((I.q F).FR _ (Nat.le_refl _) (by omega))⟩
    obtain ⟨⟨a, g2⟩, e, p1, g, F, p2⟩ := q_winnerN I.W I.S q hf
    obtain rfl := show a = _ from p1
    rw [e, if_neg q]
    have p2 : nwX g = some g2 := p2
    unfold nwX at p2
    split at p2
    · cases p2
      show Ok (if NS = "java/util/NoSuchElementException" then some ((-1 : Int32), mxNew g (200, [], [])) else none) _
      rw [if_pos (show NS = "java/util/NoSuchElementException" from rfl)]
      exact Ok_p ⟨rfl, (I.q F).ext Ext.new, ((QF_ev F).trans Ext.new.ev).le (by omega)⟩
    · cases p2
theorem k_orderAt (I : LSt h n m c B j) {D : Nat → Nat} (dp : DP m D (2 ^ cdC m)) {q : Nat} (hq : q < cdC m) : Ok (mxOk (fX9_orderAt 2 (Int32.ofNat q) h)) (fun o => o.1 = Int32.ofNat (cd m (sg m D q)) ∧ LSt o.2 n m c B j ∧ Ev 0 h o.2) := by
  obtain ⟨⟨a, g⟩, e, p1, D2, d1, d2⟩ := q_orderAt I.W I.S hq
  refine k_ok I ⟨(a, g), e, ?_, p1⟩
  show a = _
  rw [show a = _ from d2, (mks_eq d1 dp q (by omega)).2]
  rfl
theorem k_swaps (I : LSt h n m c B j) {D : Nat → Nat} (dp : DP m D (2 ^ cdC m)) : Ok (fX9_swaps 2 h) (fun o => o.1 = Int32.ofNat (D (2 ^ cdC m - 1)) ∧ LSt o.2 n m c B j ∧ Ev 0 h o.2) := by
  obtain ⟨⟨a, g⟩, e, p1, D2, d1, d2⟩ := q_swaps I.W I.S
  refine k_q I ⟨(a, g), e, ?_, p1⟩
  show a = _
  have hp : 0 < 2 ^ cdC m := Nat.pow_pos (by omega)
  rw [show a = _ from d2, DP_eq d1 dp _ (by omega)]
theorem PM_sw {e : Nat → Nat} (P : PM n e) {k o : Nat} (hk : k < cdC n) (ho : o < cdC n) : PM n (fun i => e (if i = o then k else if i = k then o else i)) := by
  have w : ∀ i, i < cdC n → (if i = o then k else if i = k then o else i) < cdC n := fun i hi => by
    split
    · exact hk
    · split
      · exact ho
      · exact hi
  refine ⟨fun i hi => P.1 _ (w i hi), fun i l hi hl y => ?_⟩
  have := P.2 _ _ (w i hi) (w l hl) y
  repeat' split at this
  all_goals omega
theorem cd_inj {i k : Nat} (hi : i < cdC n) (hk : k < cdC n) (e : cd n i = cd n k) : i = k := by
  have a := (cd_spec hi).2.2
  have b := (cd_spec hk).2.2
  rw [e] at a; omega
/-- who beats all others -/
def win (n : Nat → Int32) (q : Nat) : Bool := !orT (fun k => !decide (k = q) && !bt n q k) (cdC n)
theorem win_wnr {q : Nat} (hq : q < cdC n) (h : win n q = true) : wnr n = q := by
  have e : (cnt (bt n q) (cdC n) == cdC n - 1) = true := by rw [wnr_eq hq]; exact h
  have f1 : wnr n < cdC n := fst1_found (p := fun i => cnt (bt n i) (cdC n) == cdC n - 1) hq e
  have f2 : win n (wnr n) = true := by
    unfold win
    rw [← wnr_eq f1]
    exact (fst1_spec (fun i => cnt (bt n i) (cdC n) == cdC n - 1) (cdC n)).2 f1
  by_cases z : wnr n = q
  · exact z
  · exfalso
    have g : ∀ a b, a < cdC n → b < cdC n → a ≠ b → win n a = true → bt n a b = true := fun a b ha hb hab w => by
      unfold win at w
      have w : orT (fun k => !decide (k = a) && !bt n a k) (cdC n) = false := by simpa using w
      have := orT_false.mp w b hb
      rw [decide_eq_false (fun y => hab y.symm)] at this
      simpa using this
    have a1 := g _ _ f1 hq z f2
    have a2 := g _ _ hq f1 (fun y => z y.symm) h
    rw [bt_asym a1] at a2; cases a2
theorem wnr_win (h : wnr n < cdC n) : win n (wnr n) = true := by
  unfold win
  rw [← wnr_eq h]
  exact (fst1_spec (fun i => cnt (bt n i) (cdC n) == cdC n - 1) (cdC n)).2 h
end
section
variable {h : mxH} {n : Nat → Int32} {c j : Nat} {B : Nat → Nat → Int32}
theorem w_areVotes (I : LSt h n n c B j) (hb : h.2 + 2000 ≤ 1000000) : Ok (fL_areVotes 0 h) (fun o => o.1 = 1 ∧ LSt o.2 n n c B j ∧ Ev 1000 h o.2) := by
  have l1 := I.L.1
  have C6 := cdC_6 n
  have r20 := rdT_20 n 20
  have c20 : ∀ i, i < cdC n → cd n i < 20 := fun i hi => (cd_spec hi).1
  obtain ⟨_, -, -, D, dp, -⟩ := q_swaps I.W I.S
  have P := sg_PM (n := n) D
  unfold fL_areVotes
  simp only [I.go, I.hO, bN]
  refine Ok_b (k_q I (q_candidates I.W I.S I.G)) (fun o1 ⟨e1, I1, v1⟩ => ?_)
  rw [e1]
  simp only [I1.o, bN]
  have sz1 := v1.2.1
  refine Ok_b (l_ranking I1.1 (by omega) (d := 20) (by omega)) (fun o2 ⟨x2, a2, A2⟩ => ?_)
  have I2 := I1.ext x2
  have V2 := v1.trans x2.ev
  have sz2 := V2.2.1
  have sg2 := V2.1
  simp only [A2.len, bN, show mxMin (Int32.ofNat (rdT n 20)) 6 = Int32.ofNat (min (rdT n 20) 6) from mxMin_N (b := 6) (by omega) (by omega)]
  rw [if_pos (show Int32.ofNat (cdC n) = Int32.ofNat (min (rdT n 20) 6) by rw [Nat.min_comm]; rfl)]
  obtain ⟨w3, A3⟩ := nwV_at I2.FR (m := cdC n) (B := 6) (by omega) C6
  refine Ok_s w3 ?_
  have I3 : LSt (mxNew o2.2 (100, List.replicate (cdC n) 0, [])) n n c B j := I2.ext Ext.new
  have V3 : Ev 901 h (mxNew o2.2 (100, List.replicate (cdC n) 0, [])) := (V2.trans Ext.new.ev).le (by omega)
  have s3 : (mxNew o2.2 (100, List.replicate (cdC n) 0, [])).2 = o2.2.2 + 1 := rfl
  generalize mxNew o2.2 (100, List.replicate (cdC n) 0, []) = g3 at A3 I3 V3 s3
  obtain ⟨w4, A4⟩ := nwV_at I3.FR (m := cdC n) (B := 6) (by omega) C6
  refine Ok_s w4 ?_
  have I4 : LSt (mxNew g3 (100, List.replicate (cdC n) 0, [])) n n c B j := I3.ext Ext.new
  have V4 : Ev 902 h (mxNew g3 (100, List.replicate (cdC n) 0, [])) := V3.trans Ext.new.ev
  have A34 : AT (mxNew g3 (100, List.replicate (cdC n) 0, [])) o2.2.2 (cdC n) (fun _ => 0) := A3.ext Ext.new
  generalize mxNew g3 (100, List.replicate (cdC n) 0, []) = g4 at A4 I4 V4 A34
  rw [s3] at A4 ⊢
  generalize hp : o2.2.2 = p at A34 A4 sg2 sz2
  have p337 : 337 ≤ p := by omega
  refine Ok_b (P := fun g => LSt g n n c B j ∧ Ev 902 h g ∧ AT g p (cdC n) (fun i => Int32.ofNat (cd n (sg n D i))) ∧ AT g (p + 1) (cdC n) (fun _ => 0)) (Ok_loopF 7 (fun k s => s.1 = Int32.ofNat k ∧ LSt s.2 n n c B j ∧ Ev 902 h s.2 ∧ (∃ f, AT s.2 p (cdC n) f ∧ ∀ i, i < k → f i = Int32.ofNat (cd n (sg n D i))) ∧ AT s.2 (p + 1) (cdC n) (fun _ => 0)) (cdC n) ⟨rfl, I4, V4, ⟨_, A34, fun i hi => by omega⟩, A4⟩ ?_ ?_ (by omega)) ?_
  · rintro k ⟨s1, g⟩ hk ⟨e1, Ig, vg, ⟨f, Af, hf⟩, Ad⟩
    obtain rfl := show s1 = _ from e1
    have Ig : LSt g n n c B j := Ig
    have vg : Ev 902 h g := vg
    have Af : AT g p (cdC n) f := Af
    have Ad : AT g (p + 1) (cdC n) (fun _ => 0) := Ad
    simp only [if_neg (nle hk (by omega)), Ig.go, Ig.hO, bN]
    refine Ok_b (k_orderAt Ig dp hk) (fun o ⟨oe, Io, vo⟩ => ?_)
    obtain ⟨w, Iw, Aw⟩ := k_arr (x := o.1) Io p337 (Af.ev p337 vo) hk
    rw [w]
    refine Ok_p ⟨_, rfl, ofN_succ k, Iw, ((vg.trans vo).le (by omega)).up (by omega), ⟨_, Aw, fun i hi => ?_⟩, (Ad.ev (by omega) vo).sA (by omega)⟩
    by_cases z : i = k
    · rw [z, fup_eq, oe]
    · rw [fup_ne z]; exact hf i (by omega)
  · rintro ⟨s1, g⟩ ⟨e1, Ig, vg, ⟨f, Af, hf⟩, Ad⟩
    obtain rfl := show s1 = _ from e1
    exact Ok_e (a := .inr g) (if_pos yle) ⟨g, rfl, Ig, vg, AT.congr Af hf, Ad⟩
  rintro g5 ⟨I5, V5, A5, B5⟩
  refine Ok_b (P := fun r => ∃ g, r = Sum.inr g ∧ LSt g n n c B j ∧ Ev 902 h g ∧ AT g p (cdC n) (fun i => Int32.ofNat (cd n (sg n D i))) ∧ AT g (p + 1) (cdC n) (fun i => Int32.ofNat (cd n i))) (Ok_loopE (fun t s => s.2.1 = Int32.ofNat t ∧ s.1 = Int32.ofNat (cnt (knw n) t) ∧ cnt (knw n) t ≤ cdC n ∧ LSt s.2.2 n n c B j ∧ Ev 902 h s.2.2 ∧ AT s.2.2 p (cdC n) (fun i => Int32.ofNat (cd n (sg n D i))) ∧ ∃ f, AT s.2.2 (p + 1) (cdC n) f ∧ ∀ i, i < cnt (knw n) t → f i = Int32.ofNat (cd n i)) 20 ⟨rfl, rfl, Nat.zero_le _, I5, V5, A5, _, B5, fun i hi => by exact absurd hi (Nat.not_lt_zero _)⟩ ?_ (by decide)) ?_
  · rintro t ⟨s1, s2, g⟩ ht ⟨e1, e2, hc, Ig, vg, Ag, f, Af, hf⟩
    obtain rfl := show s2 = _ from e1
    obtain rfl := show s1 = _ from e2
    have Ig : LSt g n n c B j := Ig
    have vg : Ev 902 h g := vg
    have Ag : AT g p (cdC n) (fun i => Int32.ofNat (cd n (sg n D i))) := Ag
    have Af : AT g (p + 1) (cdC n) f := Af
    by_cases t20 : t = 20
    · subst t20
      have : cnt (knw n) 20 = cdC n := by unfold cdC at hc ⊢; omega
      rw [this] at hf
      exact Ok_e (a := .inr (.inr g)) (if_pos yle) (Or.inr ⟨_, rfl, g, rfl, Ig, vg, Ag, AT.congr Af hf⟩)
    have ht : t < 20 := by omega
    simp only [if_neg (n20 ht)]
    by_cases q : cdC n ≤ cnt (knw n) t
    · have : cnt (knw n) t = cdC n := by omega
      rw [this] at hf
      rw [if_pos ((ofN_le (by omega) (by omega)).mpr q)]
      exact Ok_p (Or.inr ⟨_, rfl, g, rfl, Ig, vg, Ag, AT.congr Af hf⟩)
    · rw [if_neg (fun z => q ((ofN_le (by omega) (by omega)).mp z))]
      simp only [Ig.o, show fL_isReadAt 0 (Int32.ofNat t) 20 g = some (bI (rdAt n t 20)) from lp_isReadAt Ig.L Ig.MG ht (d := 20) (by omega), bN]
      cases hk : rdAt n t 20 with
      | false =>
        have hk : knw n t = false := hk
        rw [bI_f, if_pos rfl]
        exact Ok_p (Or.inl ⟨_, rfl, ht, ofN_succ t, by rw [cnt_f hk], by rw [cnt_f hk]; exact hc, Ig, vg, Ag, f, Af, by rw [cnt_f hk]; exact hf⟩)
      | true =>
        have hk : knw n t = true := hk
        rw [bI_t, if_neg (show ¬ (1 : Int32) = 0 by decide)]
        have ec : cd n (cnt (knw n) t) = t := nth_of ht hk
        obtain ⟨w, Iw, Aw⟩ := k_arr (x := Int32.ofNat t) Ig (by omega) Af (show cnt (knw n) t < cdC n by omega)
        rw [w]
        have Agw : AT (sA g (p + 1) (cnt (knw n) t) (Int32.ofNat t)) p (cdC n) (fun i => Int32.ofNat (cd n (sg n D i))) := Ag.sA (by omega)
        have vw : Ev 902 h (sA g (p + 1) (cnt (knw n) t) (Int32.ofNat t)) := vg.up (by omega)
        generalize sA g (p + 1) (cnt (knw n) t) (Int32.ofNat t) = g2 at Iw Aw Agw vw
        simp only [Agw.len, bN]
        have hon : orT (fun i => decide (cd n (sg n D i) = t)) (cdC n) = true := by
          obtain ⟨i, i1, i2⟩ := PM_on P (show cnt (knw n) t < cdC n by omega)
          exact orT_iff.mpr ⟨i, i1, decide_eq_true (by rw [i2]; exact ec)⟩
        refine Ok_s (mxLoop_up (S := fun i => (bI (orT (fun i => decide (cd n (sg n D i) = t)) i), Int32.ofNat i)) (N := cdC n) (r := bI (orT (fun i => decide (cd n (sg n D i) = t)) (cdC n))) (fun i hi => ?_) (if_pos yle) (by unfold mxF; omega)) ?_
        · have ci := c20 _ (P.1 i hi)
          simp only [if_neg (nle hi (by omega)), Agw.ld hi (by omega), bN, ofN_succ, ofN_eq (show cd n (sg n D i) < 2147483648 by omega) (show t < 2147483648 by omega)]
          show _ = some (Sum.inl (bI (orT (fun i => decide (cd n (sg n D i) = t)) i || decide (cd n (sg n D i) = t)), Int32.ofNat (i + 1)))
          cases orT (fun i => decide (cd n (sg n D i) = t)) i with
          | true => simp [bI, Option.bind]
          | false =>
            by_cases y : cd n (sg n D i) = t
            · simp [bI, Option.bind, y]
            · simp [bI, Option.bind, y]
        rw [hon, bI_t, if_neg (show ¬ (1 : Int32) = 0 by decide)]
        refine Ok_p (Or.inl ⟨_, rfl, ht, ofN_succ t, by rw [cnt_t hk]; exact ofN_succ _, by rw [cnt_t hk]; omega, Iw, vw, Agw, _, Aw, ?_⟩)
        rw [cnt_t hk]
        intro i hi
        by_cases z : i = cnt (knw n) t
        · rw [z, fup_eq, ec]
        · rw [fup_ne z]; exact hf i (by omega)
  rintro r ⟨g6, rfl, I6, V6, A6, B6⟩
  simp only [Sum.elim_inr, B6.len, bN]
  obtain ⟨F, hF⟩ : ∃ F : Nat → Int32, ∀ q, F q = if wnr n < q then Int32.ofNat (cd n (wnr n)) else -1 := ⟨_, fun _ => rfl⟩
  have F0 : F 0 = -1 := by rw [hF, if_neg (Nat.not_lt_zero _)]
  have Fm : F (cdC n) = if wnr n < cdC n then Int32.ofNat (cd n (wnr n)) else -1 := hF _
  have Fs : ∀ q, q < cdC n → F (q + 1) = if win n q then Int32.ofNat (cd n q) else F q := fun q hq => by
    rw [hF, hF]
    by_cases w : win n q = true
    · rw [if_pos w, win_wnr hq w, if_pos (by omega)]
    · rw [if_neg w]
      have : wnr n ≠ q := fun y => w (by rw [← y]; exact wnr_win (by omega))
      by_cases a : wnr n < q
      · rw [if_pos a, if_pos (by omega)]
      · rw [if_neg a, if_neg (by omega)]
  clear hF
  refine Ok_s (mxLoop_upE (S := fun q => (F q, Int32.ofNat q)) (N := cdC n) (r := F (cdC n)) (by rw [F0]; rfl) (fun q hq => ?_) (if_pos yle) (by unfold mxF; omega)) ?_
  · simp only [if_neg (nle hq (by omega)), B6.ld hq (by omega), B6.len, bN]
    refine bs (mxLoop_up (S := fun r => (bI (!orT (fun k => !decide (k = q) && !bt n q k) r), Int32.ofNat r)) (N := cdC n) (r := bI (win n q)) (fun r hr => ?_) (if_pos yle) (by unfold mxF; omega)) ?_
    · simp only [if_neg (nle hr (by omega)), B6.ld hr (by omega), bN, ofN_succ, I6.o, lp_beats I6.L I6.MG (c20 q hq) (c20 r hr), ← bt_prf]
      show _ = some (Sum.inl (bI (!(orT (fun k => !decide (k = q) && !bt n q k) r || (!decide (r = q) && !bt n q r))), Int32.ofNat (r + 1)))
      cases orT (fun k => !decide (k = q) && !bt n q k) r with
      | true => simp [bI, Option.bind]
      | false =>
        by_cases y : r = q
        · subst y; simp [bI, Option.bind]
        · have y2 : ¬ Int32.ofNat (cd n q) = Int32.ofNat (cd n r) := fun z => y (cd_inj hr hq (ofN_inj (by have := c20 q hq; omega) (by have := c20 r hr; omega) z).symm)
          cases bt n q r <;> simp [bI, Option.bind, y, y2]
    · show _ = some (Sum.inl (F (q + 1), Int32.ofNat (q + 1)))
      rw [Fs q hq, ofN_succ]
      cases win n q <;> rfl
  rw [Fm]
  simp only [I6.go, bN]
  have sz6 := V6.2.1
  refine Ok_b (k_winner I6 (by omega)) (fun o7 ⟨e7, I7, v7⟩ => ?_)
  rw [e7, if_pos rfl]
  have V7 := V6.trans v7
  have A7 := A6.ev (by omega) v7
  have B7 := B6.ev (by omega) v7
  simp only [I7.go, I7.hO, bN]
  refine Ok_b (k_swaps I7 dp) (fun o8 ⟨e8, I8, v8⟩ => ?_)
  have V8 := V7.trans v8
  have A8 := A7.ev (by omega) v8
  have B8 := B7.ev (by omega) v8
  simp only [I8.o, lp_swaps I8.L I8.MG A8 C6 (fun i hi => c20 _ (P.1 i hi)), bN]
  rw [e8, if_pos (by rw [ord_eq dp]; rfl)]
  simp only [I8.go, I8.hO, bN]
  refine Ok_b (k_q I8 (q_ring I8.W I8.S I8.G)) (fun o9 ⟨e9, I9, v9⟩ => ?_)
  have V9 := V8.trans v9
  have B9 := B8.ev (by omega) v9
  have sz9 := V9.2.1
  simp only [I9.o, bN]
  refine Ok_b (l_ring I9.1 (by omega) (by omega) B9) (fun o10 ⟨e10', x10⟩ => ?_)
  rw [e9, e10', if_pos rfl]
  have I10 := I9.ext x10
  have V10 := V9.trans x10.ev
  have B10 := B9.ext x10
  refine Ok_b (P := fun r => ∃ g, r = Sum.inr g ∧ LSt g n n c B j ∧ Ev 909 h g) (Ok_loop (fun i s => s.1 = Int32.ofNat i ∧ LSt s.2 n n c B j ∧ Ev 909 h s.2 ∧ ∃ e, PM n e ∧ AT s.2 (p + 1) (cdC n) (fun i => Int32.ofNat (cd n (e i)))) 20 ⟨rfl, I10, V10, fun i => i, ⟨fun i hi => hi, fun i k _ _ y => y⟩, B10⟩ ?_ ?_ (by decide)) ?_
  · rintro i ⟨s1, g⟩ hi ⟨e1, Ig, vg, e, Pe, Ae⟩
    obtain rfl := show s1 = _ from e1
    have Ig : LSt g n n c B j := Ig
    have vg : Ev 909 h g := vg
    have Ae : AT g (p + 1) (cdC n) (fun i => Int32.ofNat (cd n (e i))) := Ae
    simp only [if_neg (n20 hi), Ig.o, lp_swaps Ig.L Ig.MG Ae C6 (fun i hi => c20 _ (Pe.1 i hi)), Ig.go, Ig.hO, bN]
    refine Ok_b (k_swaps Ig dp) (fun o ⟨oe, Io, vo⟩ => ?_)
    have ol := ord_le dp Pe
    have cb := cst_b n e
    have hcs : sumN (fun i => sumN (fun q => prf n (cd n (e (i + 1 + q))) (cd n (e i))) (cdC n - (i + 1))) (cdC n) = cst n e := rfl
    rw [oe, hcs, if_pos ((ofN_le (show D (2 ^ cdC n - 1) < 2147483648 by omega) (show cst n e < 2147483648 by omega)).mpr ol)]
    have Vo := (vg.trans vo).le (show 909 + 0 ≤ 909 by omega)
    have Ao := Ae.ev (by omega) vo
    refine Ok_b (P := fun g => LSt g n n c B j ∧ Ev 909 h g ∧ ∃ e, PM n e ∧ AT g (p + 1) (cdC n) (fun i => Int32.ofNat (cd n (e i)))) ?_ (fun g ⟨q1, q2, q3⟩ => Ok_p ⟨_, rfl, ofN_succ i, q1, q2, q3⟩)
    by_cases z : cdC n = 0
    · refine Ok_loopE (fun k s => s = (-1, o.2)) 0 (by rw [z]; rfl) ?_ (by decide)
      rintro k s - rfl
      exact Ok_e (a := .inr o.2) (if_pos (show (-1 : Int32) ≤ 0 by decide)) (Or.inr ⟨_, rfl, Io, Vo, e, Pe, Ao⟩)
    · rw [ofN_pred (by omega) (by omega)]
      refine Ok_loop (fun k s => s.1 = Int32.ofNat (cdC n - 1 - k) ∧ LSt s.2 n n c B j ∧ Ev 909 h s.2 ∧ ∃ e, PM n e ∧ AT s.2 (p + 1) (cdC n) (fun i => Int32.ofNat (cd n (e i)))) (cdC n - 1) ⟨rfl, Io, Vo, e, Pe, Ao⟩ ?_ ?_ (by unfold mxF; omega)
      · rintro k ⟨s1, g⟩ hk ⟨e1, Ig, vg, e, Pe, Ae⟩
        obtain rfl := show s1 = _ from e1
        have Ig : LSt g n n c B j := Ig
        have vg : Ev 909 h g := vg
        have Ae : AT g (p + 1) (cdC n) (fun i => Int32.ofNat (cd n (e i))) := Ae
        generalize hx : cdC n - 1 - k = x
        have x1 : 1 ≤ x := by omega
        have xm : x < cdC n := by omega
        simp only [if_neg (show ¬ Int32.ofNat x ≤ 0 from nle (b := 0) (by omega) (by omega)), Ig.gd, Ig.d, bN, ofN_succ]
        refine Ok_b (k_next Ig (N := x + 1) (by omega) (by omega)) (fun o ⟨⟨y, hy, ey⟩, Io, vo⟩ => ?_)
        have Ao := Ae.ev (by omega) vo
        have ym : y < cdC n := by omega
        rw [ey]
        simp only [Ao.ld xm (by omega), Ao.ld ym (by omega), bN]
        obtain ⟨w1, J1, B1⟩ := k_arr (x := Int32.ofNat (cd n (e y))) Io (by omega) Ao xm
        rw [w1]
        simp only [bN]
        have v1 : Ev 909 h (sA o.2 (p + 1) x (Int32.ofNat (cd n (e y)))) := ((vg.trans vo).le (show 909 + 0 ≤ 909 by omega)).up (by omega)
        generalize sA o.2 (p + 1) x (Int32.ofNat (cd n (e y))) = g2 at J1 B1 v1
        obtain ⟨w2, J2, B2⟩ := k_arr (x := Int32.ofNat (cd n (e x))) J1 (by omega) B1 ym
        rw [w2]
        refine Ok_p ⟨_, rfl, ?_, J2, v1.up (by omega), _, PM_sw Pe xm ym, AT.congr B2 (fun i hi => ?_)⟩
        · show Int32.ofNat x - 1 = _
          rw [ofN_pred x1 (by omega)]
          congr 1; omega
        · unfold fup
          by_cases a1 : i = y
          · rw [if_pos a1, if_pos a1]
          · rw [if_neg a1, if_neg a1]
            by_cases a2 : i = x
            · rw [if_pos a2, if_pos a2]
            · rw [if_neg a2, if_neg a2]
      · rintro ⟨s1, g⟩ ⟨e1, Ig, vg, e, Pe, Ae⟩
        obtain rfl := show s1 = _ from e1
        exact Ok_e (a := .inr g) (if_pos (by rw [Nat.sub_self]; exact yle)) ⟨_, rfl, Ig, vg, e, Pe, Ae⟩
  · rintro ⟨s1, g⟩ ⟨e1, Ig, vg, -⟩
    obtain rfl := show s1 = _ from e1
    exact Ok_e (a := .inr (.inr g)) (if_pos yle) ⟨_, rfl, g, rfl, Ig, vg⟩
  rintro r ⟨g, rfl, Ig, vg⟩
  simp only [Sum.elim_inr, z1_1, bN]
  exact Ok_p ⟨rfl, Ig, vg.le (by omega)⟩
end
