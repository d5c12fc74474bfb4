/-! THE PURE SIDE, 36: the calls that change the class (begun from the rows of whole) -/
def CF (b : Nat) : Prop := 3 ≤ b ∧ b ≤ 318
theorem NG_congr {n m : Nat → Int32} {j : Nat} (G : NG n j) (e : ∀ k, 108 ≤ k → m k = n k) : NG m j := by
  obtain ⟨g1, g2, g3, g4, g5, g6, g7, g8, g9⟩ := G
  have ec : cm m = cm n := by unfold cm; rw [e 110 (by omega)]
  have ew : wd m = wd n := by unfold wd; rw [e 108 (by omega)]
  have em : mn m = mn n := by unfold mn; rw [e 109 (by omega)]
  have ei : inw m = inw n := by unfold inw; rw [ec, ew]
  refine ⟨by rw [e 110 (by omega), ec]; exact g1, by rw [ec]; exact g2, by rw [e 108 (by omega), ew]; exact g3, by rw [ew]; exact g4, by rw [e 109 (by omega), em]; exact g5, by rw [em]; exact g6, fun k hk => ?_, fun k hk => ?_, fun i k hi hk => ?_⟩
  · rw [e _ (by omega)]; exact g7 k (by rw [← ei]; exact hk)
  · rw [e _ (by omega), e _ (by omega)]; exact g8 k hk
  · rw [e _ (by omega), e _ (by omega)]; exact g9 i k hi hk
theorem XG_congr {n m : Nat → Int32} (X : XG n) (e : ∀ k, 108 ≤ k → m k = n k) : XG m := by
  have em : mn m = mn n := by unfold mn; rw [e 109 (by omega)]
  intro k h1 h2
  rw [e _ (by omega)]; exact X k (by rw [← em]; exact h1) h2
theorem GD_fup {n : Nat → Int32} {j k : Nat} {x : Int32} (G : GD n j) (X : XG n) (hk : k < 108) (hM : MG (fup n k x)) (hW : WG (fup n k x)) : GD (fup n k x) (j + 1) ∧ XG (fup n k x) :=
  ⟨⟨hM, hW, NG_mono (NG_congr G.2.2 (fun q hq => fup_ne (by omega))) (by omega)⟩, XG_congr X (fun q hq => fup_ne (by omega))⟩
section
variable {h : mxH} {n : Nat → Int32} {j c : Nat} {B : Nat → Nat → Int32}
theorem c_save (S : SR h 3 n) (G : GD n j) (W : WF h) {B : Nat → Nat → Int32} (Hi : HR h c B) : Ok (fX0_save 32 3 h) (fun h' => Fr CF h h' ∧ SR h' 3 n ∧ HR h' (min (c + 1) 8) (sav c B n)) :=
  Ok_m (s_save W G.2.2 S Hi) (fun g ⟨F, H⟩ => ⟨F.mono (fun b z => by unfold CF; omega), SR_fr S3 S F (fun b b1 b2 b3 => by omega), H⟩)
theorem SR_row {h' : mxH} {k : Nat} {x : Int32} (S : SR h 3 n) (hk : k < 106) (F : Fr (fun b => 4 ≤ b ∧ b ≤ 25) h h') (A : RR h' 4 (fup n k x)) : SR h' 3 (fup n k x) := by
  obtain ⟨s1, s2, s3, s4⟩ := S
  have e : V h' 3 = V h 3 := Fr_V F (by omega) (by omega)
  refine ⟨A, NR_congr (fun q hq => (fup_ne (by omega)).symm) (NR_fr N27 s2 F (fun o ho => by omega)), ?_, ?_⟩
  · rw [e, fup_ne (by omega)]; exact s3
  · rw [e, fup_ne (by omega)]; exact s4
theorem MG_drop {n : Nat → Int32} {g : Nat} (G : MG n) : MG (fup n g (-1)) := fun k hk => by
  unfold fup
  by_cases e : k = g
  · rw [if_pos e]; exact Or.inl rfl
  · rw [if_neg e]; exact G k hk
theorem HR_low {h' : mxH} {d : Nat} (H : HR h d B) (F : Fr (fun b => 3 ≤ b ∧ b ≤ 31) h h') : HR h' d B := HR_fr H F (fun b b1 b2 => by omega)
theorem bgn_G {n : Nat → Int32} {w m j : Nat} (hw : 1 ≤ w ∧ w ≤ 10) (hm : 1 ≤ m ∧ m ≤ 4) : NG (bgn n (Int32.ofNat w) (Int32.ofNat m)) j ∧ XG (bgn n (Int32.ofNat w) (Int32.ofNat m)) := by
  have v108 : bgn n (Int32.ofNat w) (Int32.ofNat m) 108 = Int32.ofNat w := rfl
  have v109 : bgn n (Int32.ofNat w) (Int32.ofNat m) 109 = Int32.ofNat m := rfl
  have v110 : bgn n (Int32.ofNat w) (Int32.ofNat m) 110 = 0 := by
    unfold bgn
    rw [if_neg (by omega), if_neg (by omega), if_pos (by omega)]
  have v221 : ∀ k, k < 4 → bgn n (Int32.ofNat w) (Int32.ofNat m) (221 + k) = -1 := fun k hk => by
    unfold bgn
    rw [if_neg (by omega), if_neg (by omega), if_neg (by omega), if_pos (by omega)]
  have v225 : ∀ k, k < 4 → bgn n (Int32.ofNat w) (Int32.ofNat m) (225 + k) = 0 := fun k hk => by
    unfold bgn
    rw [if_neg (by omega), if_neg (by omega), if_neg (by omega), if_neg (by omega), if_pos (by omega)]
  have ec : cm (bgn n (Int32.ofNat w) (Int32.ofNat m)) = 0 := by
    unfold cm; rw [v110]; rfl
  have ew : wd (bgn n (Int32.ofNat w) (Int32.ofNat m)) = w := by
    unfold wd; rw [v108, ofN_clamp (by omega)]
  have em : mn (bgn n (Int32.ofNat w) (Int32.ofNat m)) = m := by
    unfold mn; rw [v109, ofN_clamp (by omega)]
  have ei := inw_bgn n (Int32.ofNat w) (Int32.ofNat m)
  refine ⟨⟨by rw [v110, ec]; rfl, by omega, by rw [v108, ew], by rw [ew]; exact hw, by rw [v109, em], by rw [em]; exact hm, fun k hk => by omega, fun k hk _ => v225 k hk, fun i k hi hk _ _ => v221 i hi⟩, fun k _ hk => v221 k hk⟩
theorem tly_cm (n : Nat → Int32) (x : Int32) {k : Nat} (hk : k < 221) (h3 : mn n ≤ 4) : tly n x k = n k := by
  unfold tly
  split
  · rw [fup_ne (by omega)]
  · split
    · rw [fup_ne (by omega), fup_ne (by omega)]
    · unfold lss
      rw [if_neg (by omega), if_neg (by omega), if_neg (by omega)]
theorem lss_221 {n : Nat → Int32} {k : Nat} (hk : k < 4) : lss n (221 + k) = if k < mn n ∧ n (225 + k) - 1 = 0 then -1 else n (221 + k) := by
  unfold lss
  rw [if_neg (by omega), if_neg (by omega), show 221 + k + 4 = 225 + k by omega]
  by_cases c : k < mn n ∧ n (225 + k) - 1 = 0
  · rw [if_pos c, if_pos ⟨by omega, c.2⟩]
  · rw [if_neg c, if_neg (fun z => c ⟨by omega, z.2⟩)]
theorem lss_225 {n : Nat → Int32} {k : Nat} (hk : k < 4) : lss n (225 + k) = if k < mn n then n (225 + k) - 1 else n (225 + k) := by
  unfold lss
  rw [if_neg (by omega)]
  by_cases c : k < mn n
  · rw [if_pos c, if_pos (by omega)]
  · rw [if_neg c, if_neg (by omega), if_neg (by omega)]
theorem tly_G {n : Nat → Int32} {j x : Nat} (G : NG n j) (X : XG n) (hx : x < 100) : NG (tly n (Int32.ofNat x)) j ∧ XG (tly n (Int32.ofNat x)) := by
  obtain ⟨g1, g2, g3, g4, g5, g6, g7, g8, g9⟩ := G
  have lo : ∀ k, k < 221 → tly n (Int32.ofNat x) k = n k := fun k hk => tly_cm n _ hk g6.2
  have ec : cm (tly n (Int32.ofNat x)) = cm n := by unfold cm; rw [lo 110 (by omega)]
  have ew : wd (tly n (Int32.ofNat x)) = wd n := by unfold wd; rw [lo 108 (by omega)]
  have em : mn (tly n (Int32.ofNat x)) = mn n := by unfold mn; rw [lo 109 (by omega)]
  have ei : inw (tly n (Int32.ofNat x)) = inw n := by unfold inw; rw [ec, ew]
  have h10 : inw n ≤ 10 := by unfold inw; omega
  have nm : ¬ Int32.ofNat x = -1 := ofN_nm (by omega)
  have key : (∀ k, k < 4 → tly n (Int32.ofNat x) (221 + k) = -1 → tly n (Int32.ofNat x) (225 + k) = 0) ∧ (∀ i k, i < 4 → k < 4 → i ≠ k → tly n (Int32.ofNat x) (221 + i) = tly n (Int32.ofNat x) (221 + k) → tly n (Int32.ofNat x) (221 + i) = -1) ∧ (∀ k, mn n ≤ k → k < 4 → tly n (Int32.ofNat x) (221 + k) = -1) := by
    unfold tly
    by_cases c1 : ctr n (Int32.ofNat x) < mn n
    · rw [if_pos c1]
      have at1 := ctr_at c1
      generalize ctr n (Int32.ofNat x) = f at c1 at1
      refine ⟨fun k hk z => ?_, fun i k hi hk hik z => ?_, fun k h1 h2 => ?_⟩
      · rw [fup_ne (by omega)] at z
        have hne : k ≠ f := fun y => by rw [y, at1] at z; exact nm z
        rw [fup_ne (by omega)]; exact g8 k hk z
      · rw [fup_ne (by omega), fup_ne (by omega)] at z
        rw [fup_ne (by omega)]; exact g9 i k hi hk hik z
      · rw [fup_ne (by omega)]; exact X k h1 h2
    · rw [if_neg c1]
      have nox : ∀ k, k < 4 → n (221 + k) ≠ Int32.ofNat x := fun k hk z => by
        by_cases c : k < mn n
        · exact c1 (fst1_found (p := fun k => decide (n (221 + k) = Int32.ofNat x)) c (decide_eq_true z))
        · rw [X k (by omega) hk] at z; exact nm z.symm
      by_cases c2 : ctr n (-1) < mn n
      · rw [if_pos c2]
        have at1 := ctr_at c2
        generalize ctr n (-1) = f at c2 at1
        have v221 : ∀ k, k < 4 → fup (fup n (221 + f) (Int32.ofNat x)) (225 + f) (n (225 + f) + 1) (221 + k) = if k = f then Int32.ofNat x else n (221 + k) := fun k hk => by
          rw [fup_ne (by omega)]
          by_cases y : k = f
          · rw [if_pos y, y, fup_eq]
          · rw [if_neg y, fup_ne (by omega)]
        refine ⟨fun k hk z => ?_, fun i k hi hk hik z => ?_, fun k h1 h2 => ?_⟩
        · rw [v221 k hk] at z
          by_cases y : k = f
          · rw [if_pos y] at z; exact absurd z nm
          · rw [if_neg y] at z
            rw [fup_ne (by omega), fup_ne (by omega)]; exact g8 k hk z
        · rw [v221 i hi, v221 k hk] at z
          rw [v221 i hi]
          by_cases y : i = f
          · rw [if_pos y, if_neg (by omega)] at z
            exact absurd z.symm (nox k hk)
          · rw [if_neg y] at z ⊢
            by_cases y2 : k = f
            · rw [if_pos y2] at z
              exact absurd z (nox i hi)
            · rw [if_neg y2] at z
              exact g9 i k hi hk hik z
        · rw [v221 k h2, if_neg (by omega)]; exact X k h1 h2
      · rw [if_neg c2]
        have nom : ∀ k, k < mn n → n (221 + k) ≠ -1 := fun k hk z => c2 (fst1_found (p := fun k => decide (n (221 + k) = -1)) hk (decide_eq_true z))
        refine ⟨fun k hk z => ?_, fun i k hi hk hik z => ?_, fun k h1 h2 => ?_⟩
        · rw [lss_221 hk] at z
          rw [lss_225 hk]
          by_cases y : k < mn n
          · rw [if_pos y]
            by_cases y2 : k < mn n ∧ n (225 + k) - 1 = 0
            · exact y2.2
            · rw [if_neg y2] at z
              exact absurd z (nom k y)
          · rw [if_neg y]
            rw [if_neg (fun q => y q.1)] at z
            exact g8 k hk z
        · rw [lss_221 hi] at z ⊢
          rw [lss_221 hk] at z
          by_cases y : i < mn n ∧ n (225 + i) - 1 = 0
          · rw [if_pos y]
          · rw [if_neg y] at z ⊢
            by_cases y2 : k < mn n ∧ n (225 + k) - 1 = 0
            · rw [if_pos y2] at z; exact z
            · rw [if_neg y2] at z
              exact g9 i k hi hk hik z
        · rw [lss_221 h2, if_neg (fun q => by omega)]; exact X k h1 h2
  refine ⟨⟨by rw [lo 110 (by omega), ec]; exact g1, by rw [ec]; exact g2, by rw [lo 108 (by omega), ew]; exact g3, by rw [ew]; exact g4, by rw [lo 109 (by omega), em]; exact g5, by rw [em]; exact g6, fun k hk => ?_, key.1, key.2.1⟩, fun k h1 h2 => key.2.2 k (by rw [← em]; exact h1) h2⟩
  rw [ei] at hk
  rw [lo _ (by omega)]; exact g7 k hk
theorem psh_GD {n : Nat → Int32} {j x : Nat} (G : GD n j) (X : XG n) (hx : x < 100) (hj : j < 100000) : GD (psh n x) (j + 1) ∧ XG (psh n x) := by
  obtain ⟨m1, m2, m3⟩ := mid_G G.2.2 hx hj
  have em : mn (mid n x) = mn n := by unfold mn; rw [mid_lo (by omega)]
  have X2 : XG (mid n x) := fun k h1 h2 => by rw [mid_hi hx (by omega)]; exact X k (by rw [← em]; exact h1) h2
  have h4 : mn (mid n x) ≤ 4 := m1.2.2.2.2.2.1.2
  obtain ⟨t1, t2⟩ := tly_G m1 X2 hx
  have lo : ∀ k, k < 110 → psh n x k = n k := fun k hk => by
    unfold psh
    rw [tly_cm _ _ (by omega) h4, mid_lo hk]
  exact ⟨⟨fun k hk => by rw [lo k (by omega)]; exact G.1 k hk, fun i hi => by rw [lo _ (by omega)]; exact G.2.1 i hi, t1⟩, t2⟩
theorem d_put (W : WF h) (S : SR h 3 n) (Hi : HR h c B) (G : GD n j) (X : XG n) {a b m : Nat} (ha : a < 5) (hb : b < 20) (hm : m < 100) : (GD (fup n (20 * a + b) (Int32.ofNat m)) (j + 1) ∧ XG (fup n (20 * a + b) (Int32.ofNat m))) ∧ Ok (fX9_put 2 (Int32.ofNat a) (Int32.ofNat b) (Int32.ofNat m) h) (fun x => x.1 = .inl (n (20 * a + b)) ∧ Fr CF h x.2 ∧ SR x.2 3 (fup n (20 * a + b) (Int32.ofNat m)) ∧ HR x.2 (min (c + 1) 8) (sav c B n)) := by
  have hr := in99_mk hm
  have G' : MG (fup n (20 * a + b) (Int32.ofNat m)) := MG_fup G.1 hm
  refine ⟨GD_fup G X (by omega) G' (WG_fup G.2.1 (by omega)), ?_⟩
  unfold fX9_put
  simp only [rq_row ha, rq_thing hb, rq_range hr, then_l, gH1 W, gH0 W, isHi W, bN]
  refine Ok_b (c_save S G W Hi) (fun g ⟨F, Sg, Hg⟩ => ?_)
  have Wg := F.1
  simp only [gH0 Wg, gS0 Wg, isO_R Wg R4, bN, s_markOf Wg R4 ha hb, Sg.1.1 a b ha hb]
  refine Ok_b (s_setMark Wg R4 Sg.1 ha hb G') (fun g2 ⟨F2, A2⟩ => ?_)
  exact Ok_p ⟨rfl, F.trans (F2.mono (fun b z => by unfold CF; omega)), SR_row Sg (by omega) (F2.mono (fun b z => by omega)) A2, HR_low Hg (F2.mono (fun b z => by omega))⟩
theorem d_drop (W : WF h) (S : SR h 3 n) (Hi : HR h c B) (G : GD n j) (X : XG n) {a b : Nat} (ha : a < 5) (hb : b < 20) (hr : hs n a b = true) : (GD (fup n (20 * a + b) (-1)) (j + 1) ∧ XG (fup n (20 * a + b) (-1))) ∧ Ok (fX9_drop 2 (Int32.ofNat a) (Int32.ofNat b) h) (fun x => x.1 = .inl (n (20 * a + b)) ∧ Fr CF h x.2 ∧ SR x.2 3 (fup n (20 * a + b) (-1)) ∧ HR x.2 (min (c + 1) 8) (sav c B n)) := by
  have hr2 : ¬ n (20 * a + b) = -1 := by simpa [hs] using hr
  have G' : MG (fup n (20 * a + b) (-1)) := MG_drop G.1
  refine ⟨GD_fup G X (by omega) G' (WG_fup G.2.1 (by omega)), ?_⟩
  unfold fX9_drop
  simp only [rq_row ha, rq_thing hb, then_l, gH0 W, gS0 W, isO_R W R4, s_markOf W R4 ha hb, S.1.1 a b ha hb, bN, if_neg hr2, rq_found, gH1 W, isHi W]
  refine Ok_b (c_save S G W Hi) (fun g ⟨F, Sg, Hg⟩ => ?_)
  have Wg := F.1
  simp only [gH0 Wg, gS0 Wg, isO_R Wg R4, bN]
  refine Ok_b (s_setMark Wg R4 Sg.1 ha hb G') (fun g2 ⟨F2, A2⟩ => ?_)
  exact Ok_p ⟨rfl, F.trans (F2.mono (fun b z => by unfold CF; omega)), SR_row Sg (by omega) (F2.mono (fun b z => by omega)) A2, HR_low Hg (F2.mono (fun b z => by omega))⟩
theorem d_setWeight (W : WF h) (S : SR h 3 n) (Hi : HR h c B) (G : GD n j) (X : XG n) {a w : Nat} (ha : a < 5) (hw : w < 6) : (GD (fup n (100 + a) (Int32.ofNat w)) (j + 1) ∧ XG (fup n (100 + a) (Int32.ofNat w))) ∧ Ok (fX9_setWeight 2 (Int32.ofNat a) (Int32.ofNat w) h) (fun x => x.1 = .inl (n (100 + a)) ∧ Fr CF h x.2 ∧ SR x.2 3 (fup n (100 + a) (Int32.ofNat w)) ∧ HR x.2 (min (c + 1) 8) (sav c B n)) := by
  have hq : inI (Int32.ofNat w) 0 5 = true := inI_mk (a := 0) (b := 5) (by omega) (by omega) (by omega)
  have M' : MG (fup n (100 + a) (Int32.ofNat w)) := fun k hk => by rw [fup_ne (by omega)]; exact G.1 k hk
  have H' : WG (fup n (100 + a) (Int32.ofNat w)) := fun i hi => by
    unfold fup
    by_cases e : 100 + i = 100 + a
    · rw [if_pos e]; exact ⟨w, by omega, rfl⟩
    · rw [if_neg e]; exact G.2.1 i hi
  refine ⟨GD_fup G X (by omega) M' H', ?_⟩
  unfold fX9_setWeight
  simp only [rq_row ha, rq_range hq, then_l, gH1 W, gH0 W, isHi W, bN]
  refine Ok_b (c_save S G W Hi) (fun g ⟨F, Sg, Hg⟩ => ?_)
  have Wg := F.1
  simp only [gH0 Wg, gS0 Wg, isO_R Wg R4, bN]
  refine Ok_b (s_changeWeight Wg R4 Sg.1 ha) (fun o ⟨o1, F2, A2⟩ => ?_)
  rw [o1]
  exact Ok_p ⟨rfl, F.trans (F2.mono (fun b z => by unfold CF; omega)), SR_row Sg (by omega) (F2.mono (fun b z => by omega)) A2, HR_low Hg (F2.mono (fun b z => by omega))⟩
theorem d_setRule (W : WF h) (S : SR h 3 n) (Hi : HR h c B) (G : GD n j) (X : XG n) {p : Int32} (hp : inI p 0 2 = true) : (GD (fup n 105 p) (j + 1) ∧ XG (fup n 105 p)) ∧ Ok (fX9_setRule 2 p h) (fun x => x.1 = .inl (n 105) ∧ Fr CF h x.2 ∧ SR x.2 3 (fup n 105 p) ∧ HR x.2 (min (c + 1) 8) (sav c B n)) := by
  have M' : MG (fup n 105 p) := fun k hk => by rw [fup_ne (by omega)]; exact G.1 k hk
  have H' : WG (fup n 105 p) := fun i hi => by rw [fup_ne (by omega)]; exact G.2.1 i hi
  refine ⟨GD_fup G X (by omega) M' H', ?_⟩
  unfold fX9_setRule
  simp only [rq_range hp, then_l, gH1 W, gH0 W, isHi W, bN]
  refine Ok_b (c_save S G W Hi) (fun g ⟨F, Sg, Hg⟩ => ?_)
  have Wg := F.1
  have F2 : Fr (fun b => b = 4) g (st g 4 6 p) := Fr.st Wg (fd_rule R4).sl rfl
  simp only [gH0 Wg, gS0 Wg, bN, gI_at Wg (fd_rule R4), Sg.1.2.2.2.2.2.2, pI_at Wg (fd_rule R4)]
  exact Ok_p ⟨rfl, F.trans (F2.mono (fun b z => by unfold CF; omega)), SR_row Sg (by omega) (F2.mono (fun b z => by omega)) (RR_rule Wg R4 Sg.1), HR_low Hg (F2.mono (fun b z => by omega))⟩
theorem d_setWindow (W : WF h) (S : SR h 3 n) (Hi : HR h c B) (G : GD n j) (X : XG n) {w m : Nat} (w1 : 1 ≤ w) (w2 : w ≤ 10) (m1 : 1 ≤ m) (m2 : m ≤ 4) : (GD (bgn n (Int32.ofNat w) (Int32.ofNat m)) (j + 1) ∧ XG (bgn n (Int32.ofNat w) (Int32.ofNat m))) ∧ Ok (fX9_setWindow 2 (Int32.ofNat w) (Int32.ofNat m) h) (fun x => x.1 = .inl (n 110) ∧ Fr CF h x.2 ∧ SR x.2 3 (bgn n (Int32.ofNat w) (Int32.ofNat m)) ∧ HR x.2 (min (c + 1) 8) (sav c B n)) := by
  have hp : inI (Int32.ofNat w) 1 10 = true := inI_mk (a := 1) (b := 10) w1 w2 (by omega)
  have hq : inI (Int32.ofNat m) 1 4 = true := inI_mk (a := 1) (b := 4) m1 m2 (by omega)
  obtain ⟨N', X'⟩ := bgn_G (n := n) (j := j + 1) (w := w) (m := m) ⟨w1, w2⟩ ⟨m1, m2⟩
  have lo : ∀ k, k < 108 → bgn n (Int32.ofNat w) (Int32.ofNat m) k = n k := fun k hk => by
    unfold bgn
    rw [if_neg (by omega), if_neg (by omega), if_neg (by omega), if_neg (by omega), if_neg (by omega)]
  refine ⟨⟨⟨fun k hk => by rw [lo k (by omega)]; exact G.1 k hk, fun i hi => by rw [lo _ (by omega)]; exact G.2.1 i hi, N'⟩, X'⟩, ?_⟩
  unfold fX9_setWindow
  simp only [rq_range hp, rq_range hq, then_l, gH1 W, gH0 W, isHi W, bN]
  refine Ok_b (c_save S G W Hi) (fun g ⟨F, Sg, Hg⟩ => ?_)
  have Wg := F.1
  simp only [gH0 Wg, gS1 Wg, isO_N Wg N27, bN, gI_at Wg (fd_4 N27), show V g 27 4 = n 110 from Sg.2.1.2.2.2.2.1]
  refine Ok_b (s_beginAnew Wg N27 (n := n)) (fun g2 ⟨F2, A2⟩ => ?_)
  have e3 : V g2 3 = V g 3 := Fr_V F2 (by omega) (by omega)
  refine Ok_p ⟨rfl, F.trans (F2.mono (fun b z => by unfold CF; omega)), ⟨?_, A2, ?_, ?_⟩, HR_low Hg (F2.mono (fun b z => by omega))⟩
  · exact RR_congr (fun k hk => (lo k (by omega)).symm) (RR_fr R4 Sg.1 F2 (fun o ho => by omega))
  · show V g2 3 2 = _
    rw [e3, lo 106 (by omega)]; exact Sg.2.2.1
  · show V g2 3 3 = _
    rw [e3, lo 107 (by omega)]; exact Sg.2.2.2
theorem d_push (W : WF h) (S : SR h 3 n) (Hi : HR h c B) (G : GD n j) (X : XG n) {x : Nat} (hx : x < 100) (hj : j < 100000) : (GD (psh n x) (j + 1) ∧ XG (psh n x)) ∧ Ok (fX9_push 2 (Int32.ofNat x) h) (fun o => o.1 = .inl (lve n) ∧ Fr CF h o.2 ∧ SR o.2 3 (psh n x) ∧ HR o.2 (min (c + 1) 8) (sav c B n)) := by
  have hp := in99_mk hx
  obtain ⟨m1, m2, m3⟩ := mid_G G.2.2 hx hj
  have h4 : mn (mid n x) ≤ 4 := m1.2.2.2.2.2.1.2
  have lo : ∀ k, k < 110 → psh n x k = n k := fun k hk => by
    unfold psh
    rw [tly_cm _ _ (by omega) h4, mid_lo hk]
  refine ⟨psh_GD G X hx hj, ?_⟩
  unfold fX9_push
  simp only [rq_range hp, then_l, gH1 W, gH0 W, isHi W, bN]
  refine Ok_b (c_save S G W Hi) (fun g ⟨F, Sg, Hg⟩ => ?_)
  have Wg := F.1
  simp only [gH0 Wg, gS1 Wg, isO_N Wg N27, bN]
  refine Ok_b (s_take Wg N27 G.2.2 Sg.2.1 hx hj) (fun o ⟨o1, F2, A2⟩ => ?_)
  have e3 : V o.2 3 = V g 3 := Fr_V F2 (by omega) (by omega)
  rw [o1]
  refine Ok_p ⟨rfl, F.trans (F2.mono (fun b z => by unfold CF; omega)), ⟨?_, A2, ?_, ?_⟩, HR_low Hg (F2.mono (fun b z => by omega))⟩
  · exact RR_congr (fun k hk => (lo k (by omega)).symm) (RR_fr R4 Sg.1 F2 (fun o ho => by omega))
  · show V o.2 3 2 = _
    rw [e3, lo 106 (by omega)]; exact Sg.2.2.1
  · show V o.2 3 3 = _
    rw [e3, lo 107 (by omega)]; exact Sg.2.2.2
theorem d_undo (W : WF h) (S : SR h 3 n) (Hi : HR h c B) (GB : ∀ i, i < c → GD (B i) j) (hc : 0 < c) : Ok (fX9_undo 2 h) (fun o => o.1 = Int32.ofNat (c - 1) ∧ Fr CF h o.2 ∧ SR o.2 3 (B (c - 1)) ∧ HR o.2 (c - 1) B) := by
  obtain ⟨r0, r1⟩ := s_restore W (fun i hi => (GB i hi).2.2) Hi
  unfold fX9_undo
  simp only [gH1 W, gH0 W, isHi W, bN]
  exact Ok_b (r1 hc) (fun o ⟨o1, o2, o3, o4⟩ => Ok_p ⟨o1, o2.mono (fun b z => by unfold CF; omega), o3, o4⟩)
end
