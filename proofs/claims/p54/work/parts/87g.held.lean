/-! THE PURE SIDE, 49: the law changes its marks; holds -/
theorem kat_eq {n n' : Nat → Int32} {k : Nat} (hk : k ≤ 20) : (!orT (fun j => decide (kat n j ≠ kat n' j)) k) = (decide (min k (rdT n 20) = min k (rdT n' 20)) && !orT (fun i => decide (bst n 20 i ≠ bst n' 20 i)) (min k (rdT n 20))) := by
  have hb : ∀ (n : Nat → Int32) q, q < rdT n 20 → knr n q < 20 := fun n q hq => (knr_20 hq).1
  have r1 := rdT_20 n 20
  have r2 := rdT_20 n' 20
  cases e : orT (fun j => decide (kat n j ≠ kat n' j)) k
  · have e := orT_false.mp e
    have e : ∀ i, i < k → kat n i = kat n' i := fun i hi => by simpa using e i hi
    have em : min k (rdT n 20) = min k (rdT n' 20) := by
      by_cases c : min k (rdT n 20) = min k (rdT n' 20)
      · exact c
      · exfalso
        by_cases c2 : rdT n 20 < rdT n' 20
        · have z := e (rdT n 20) (by omega)
          unfold kat at z
          rw [if_neg (by omega), if_pos c2] at z
          have := hb n' _ c2
          exact ofN_nm (by omega) z.symm
        · have z := e (rdT n' 20) (by omega)
          unfold kat at z
          rw [if_pos (by omega), if_neg (by omega)] at z
          have := hb n (rdT n' 20) (by omega)
          exact ofN_nm (by omega) z
    have e3 : orT (fun i => decide (bst n 20 i ≠ bst n' 20 i)) (min k (rdT n 20)) = false := orT_false.mpr (fun i hi => by
      have z := e i (by omega)
      unfold kat at z
      rw [if_pos (by omega), if_pos (by omega)] at z
      have b1 := hb n i (by omega)
      have b2 := hb n' i (by omega)
      have : knr n i = knr n' i := ofN_inj (by omega) (by omega) z
      exact decide_eq_false (fun y => y this))
    rw [e3, decide_eq_true em]; rfl
  · obtain ⟨i, h1, h2⟩ := orT_iff.mp e
    have h2 : kat n i ≠ kat n' i := of_decide_eq_true h2
    by_cases em : min k (rdT n 20) = min k (rdT n' 20)
    · have c1 : i < min k (rdT n 20) := by
        by_cases c : i < min k (rdT n 20)
        · exact c
        · exfalso
          apply h2
          unfold kat
          rw [if_neg (by omega), if_neg (by omega)]
      have e3 : orT (fun i => decide (bst n 20 i ≠ bst n' 20 i)) (min k (rdT n 20)) = true := orT_iff.mpr ⟨i, c1, decide_eq_true (fun y => by
        apply h2
        have y : knr n i = knr n' i := y
        unfold kat
        rw [if_pos (by omega), if_pos (by omega), y])⟩
      rw [e3, decide_eq_true em]; rfl
    · rw [decide_eq_false em]; rfl
theorem fup_back {n : Nat → Int32} {k : Nat} {x : Int32} : fup (fup n k x) k (n k) = n := by
  funext i
  unfold fup
  by_cases e : i = k
  · rw [if_pos e, e]
  · rw [if_neg e, if_neg e]
section
variable {h h1 : mxH} {n n' m : Nat → Int32} {c j : Nat} {B : Nat → Nat → Int32}
theorem sA_ne {a b k : Nat} {x : Int32} (hb : b ≠ a) : (sA h a k x).1 b = h.1 b := if_neg hb
theorem sA_fr (W : WF h) {a k : Nat} {x : Int32} (ha : 319 ≤ a) : Fr (fun b => 319 ≤ b) h (sA h a k x) := by
  refine ⟨⟨W.1, fun b b1 b2 => by rw [sA_ne (by omega)]; exact W.2 b b1 b2⟩, fun b hb => sA_ne (by have hb : ¬ 319 ≤ b := hb; omega), fun _ => rfl⟩
theorem sA_ev {a k : Nat} {x : Int32} (ha : a < 337) : Ev 0 h (sA h a k x) := ⟨Nat.le_refl _, Nat.le_refl _, fun b b1 _ => sA_ne (by omega)⟩
theorem LSt.law (I : LSt h n m c B j) (Q : LQ h1 n') (F : Fr (fun b => 319 ≤ b) h h1) : LSt h1 n' m c B j := by
  obtain ⟨i1, i2, i3, i4, i5⟩ := I
  exact ⟨Q, F.1, SR_fr S3 i3 F (fun b b1 b2 b3 => by omega), HR_fr i4 F (fun b b1 b2 => by omega), i5⟩
theorem FR_sA (R : FR h) {a k : Nat} {x : Int32} (ha : a < h.2) : FR (sA h a k x) := fun b b1 b2 => by
  have b1 : h.2 ≤ b := b1
  rw [sA_ne (by omega)]; exact R b b1 b2
theorem LW.mark (L : LW h n) {i t : Nat} {x : Int32} (hi : i < 5) (ht : t < 20) : stI h (320 + i) (Int32.ofNat t) x = some (sA h (320 + i) t x) ∧ LW (sA h (320 + i) t x) (fup n (20 * i + t) x) := by
  obtain ⟨w1, A⟩ := (l_AT L hi).st (k := t) (x := x) (by omega) ht (by omega)
  refine ⟨w1, ?_⟩
  obtain ⟨l1, l2, l3, l4, l5, l6⟩ := L
  refine ⟨l1, ?_, ?_, ?_, fun r hr => ?_, ?_⟩
  · rw [sA_ne (by omega), fup_ne (by omega)]; exact l2
  · rw [sA_ne (by omega)]; exact l3
  · rw [sA_ne (by omega)]; exact l4
  · by_cases e : r = i
    · rw [e]
      refine ⟨A.2.1, A.2.2.trans (tab_ext (fun k hk => ?_))⟩
      unfold fup
      by_cases y : k = t
      · rw [if_pos y, if_pos (by omega)]
      · rw [if_neg y, if_neg (by omega)]
    · rw [sA_ne (by omega)]
      refine ⟨(l5 r hr).1, (l5 r hr).2.trans (tab_ext (fun k hk => ?_))⟩
      rw [fup_ne (by omega)]
  · rw [sA_ne (by omega)]
    refine ⟨l6.1, l6.2.trans (tab_ext (fun k hk => ?_))⟩
    rw [fup_ne (by omega)]
theorem LW.weight (L : LW h n) {i : Nat} {x : Int32} (hi : i < 5) : stI h 325 (Int32.ofNat i) x = some (sA h 325 i x) ∧ LW (sA h 325 i x) (fup n (100 + i) x) := by
  obtain ⟨w1, A⟩ := (l_WT L).st (k := i) (x := x) (by omega) hi (by omega)
  refine ⟨w1, ?_⟩
  obtain ⟨l1, l2, l3, l4, l5, l6⟩ := L
  refine ⟨l1, ?_, ?_, ?_, fun r hr => ?_, ?_⟩
  · rw [sA_ne (by omega), fup_ne (by omega)]; exact l2
  · rw [sA_ne (by omega)]; exact l3
  · rw [sA_ne (by omega)]; exact l4
  · rw [sA_ne (by omega)]
    refine ⟨(l5 r hr).1, (l5 r hr).2.trans (tab_ext (fun k hk => ?_))⟩
    rw [fup_ne (by omega)]
  · refine ⟨A.2.1, A.2.2.trans (tab_ext (fun k hk => ?_))⟩
    unfold fup
    by_cases y : k = i
    · rw [if_pos y, if_pos (by omega)]
    · rw [if_neg y, if_neg (by omega)]
theorem RG_fup (R : RG n) {k : Nat} {x : Int32} (hk : k < 105) : RG (fup n k x) := by
  unfold RG
  rw [fup_ne (by omega)]; exact R
theorem k_mark (I : LSt h n m c B j) {i t : Nat} {x : Int32} (hi : i < 5) (ht : t < 20) (G' : MG (fup n (20 * i + t) x)) : stI h (320 + i) (Int32.ofNat t) x = some (sA h (320 + i) t x) ∧ LSt (sA h (320 + i) t x) (fup n (20 * i + t) x) m c B j ∧ Ev 0 h (sA h (320 + i) t x) := by
  obtain ⟨w1, L'⟩ := I.L.mark (x := x) hi ht
  have l1 := I.L.1
  exact ⟨w1, I.law ⟨L', FR_sA I.FR (by omega), G', WG_fup I.WG (by omega), RG_fup I.RG (by omega)⟩ (sA_fr I.W (by omega)), sA_ev (by omega)⟩
theorem k_weight (I : LSt h n m c B j) {i w : Nat} (hi : i < 5) (hw : w < 6) : stI h 325 (Int32.ofNat i) (Int32.ofNat w) = some (sA h 325 i (Int32.ofNat w)) ∧ LSt (sA h 325 i (Int32.ofNat w)) (fup n (100 + i) (Int32.ofNat w)) m c B j ∧ Ev 0 h (sA h 325 i (Int32.ofNat w)) := by
  obtain ⟨w1, L'⟩ := I.L.weight (x := Int32.ofNat w) hi
  have l1 := I.L.1
  refine ⟨w1, I.law ⟨L', FR_sA I.FR (by omega), fun k hk => by rw [fup_ne (by omega)]; exact I.MG k hk, fun r hr => ?_, RG_fup I.RG (by omega)⟩ (sA_fr I.W (by omega)), sA_ev (by omega)⟩
  unfold fup
  by_cases e : 100 + r = 100 + i
  · rw [if_pos e]; exact ⟨w, hw, rfl⟩
  · rw [if_neg e]; exact I.WG r hr
end
section
variable {h : mxH} {n : Nat → Int32} {c j : Nat} {B : Nat → Nat → Int32}
theorem w_areHeld (I : LSt h n n c B j) (hb : h.2 + 3000 ≤ 1000000) : Ok (fL_areHeld 0 h) (fun o => o.1 = 1 ∧ LSt o.2 n n c B j ∧ Ev 2000 h o.2) := by
  have l1 := I.L.1
  unfold fL_areHeld
  simp only [I.gd, I.d, bN]
  refine Ok_b (show Ok (fX10_next 1 6 h) _ from k_next I (N := 6) (by omega) (by omega)) (fun o1 ⟨⟨k, hk, ek⟩, I1, v1⟩ => ?_)
  rw [ek, one_add]
  simp only [I1.gd, I1.d, bN]
  refine Ok_b (show Ok (fX10_next 1 5 o1.2) _ from k_next I1 (N := 5) (by omega) (by omega)) (fun o2 ⟨⟨r, hr, er⟩, I2, v2⟩ => ?_)
  rw [er]
  simp only [I2.gd, I2.d, bN]
  refine Ok_b (show Ok (fX10_next 1 12 o2.2) _ from k_next I2 (N := 12) (by omega) (by omega)) (fun o3 ⟨⟨t, ht, et⟩, I3, v3⟩ => ?_)
  rw [et]
  simp only [I3.gd, I3.d, bN]
  refine Ok_b (show Ok (fX10_next 1 100 o3.2) _ from k_next I3 (N := 100) (by omega) (by omega)) (fun o4 ⟨⟨mm, hmk, em⟩, I4, v4⟩ => ?_)
  rw [em]
  have V4 := ((v1.trans v2).trans v3).trans v4
  have sz4 := V4.2.1
  have t20 : t < 20 := by omega
  simp only [I4.o, bN]
  refine Ok_b (l_ranking I4.1 (by omega) (d := 20) (by omega)) (fun o5 ⟨x5, a5, A5⟩ => ?_)
  have I5 := I4.ext x5
  have V5 := V4.trans x5.ev
  have sz5 := V5.2.1
  have h4 := V4.1
  have h45 := x5.1
  have G' : MG (fup n (20 * r + t) (Int32.ofNat mm)) := MG_fup I.MG hmk
  obtain ⟨w1, I6, v6⟩ := k_mark I5 hr t20 G'
  simp only [I5.gm, l_row I5.L hr, l_mk I5.L hr t20, w1, bN]
  have A6 := A5.ev (by omega) v6
  have V6 := V5.trans v6
  generalize sA o5.2 (320 + r) t (Int32.ofNat mm) = g6 at A6 I6 V6 v6
  have sz6 := V6.2.1
  simp only [I6.o, bN]
  generalize hn' : fup n (20 * r + t) (Int32.ofNat mm) = n' at I6
  refine Ok_b (l_ranking I6.1 (by omega) (d := 20) (by omega)) (fun o7 ⟨x7, a7, A7⟩ => ?_)
  have I7 := I6.ext x7
  have V7 := V6.trans x7.ev
  have h46 := v6.1
  have h47 := x7.1
  have A67 := A6.ext x7
  have eb : fup n' (20 * r + t) (n (20 * r + t)) = n := by rw [← hn']; exact fup_back
  obtain ⟨w2, I8, v8⟩ := k_mark (x := n (20 * r + t)) I7 hr t20 (by rw [eb]; exact I.MG)
  rw [eb] at I8
  simp only [I7.gm, l_row I7.L hr, w2, bN]
  have A8 := A67.ev (by omega) v8
  have B8 := A7.ev (by omega) v8
  have V8 := V7.trans v8
  generalize sA o7.2 (320 + r) t (n (20 * r + t)) = g8 at A8 B8 I8 V8
  have sz8 := V8.2.1
  have r1 := rdT_20 n 20
  have r2 := rdT_20 n' 20
  have kN : k + 1 < 2147483648 := by omega
  simp only [A8.len, B8.len, bN, mxMin_N kN (show rdT n 20 < 2147483648 by omega), mxMin_N kN (show rdT n' 20 < 2147483648 by omega)]
  have KE := kat_eq (n := n) (n' := n') (k := k + 1) (by omega)
  generalize hN : min (k + 1) (rdT n 20) = N at KE
  generalize hM : min (k + 1) (rdT n' 20) = M at KE
  refine Ok_b (P := fun x => x = bI (decide (N = M))) ?_ (fun x e => ?_)
  · by_cases q : N = M
    · rw [if_pos (by rw [q]), decide_eq_true q]; exact Ok_p rfl
    · rw [if_neg (fun z => q (ofN_inj (by omega) (by omega) z)), decide_eq_false q]; exact Ok_p rfl
  obtain rfl := e
  have bb : ∀ (n : Nat → Int32) q, q < rdT n 20 → bst n 20 q < 20 := fun n q hq => (bst_spec hq).1
  refine Ok_b (P := fun x => x = bI (decide (N = M) && !orT (fun i => decide (bst n 20 i ≠ bst n' 20 i)) N)) (Ok_loopE (fun i s => s = (bI (decide (N = M) && !orT (fun i => decide (bst n 20 i ≠ bst n' 20 i)) i), Int32.ofNat i)) N (by show _ = (bI (decide (N = M) && !false), Int32.ofNat 0); rw [Bool.not_false, Bool.and_true]; rfl) ?_ (by unfold mxF; omega)) (fun x e => ?_)
  · rintro i s hi rfl
    by_cases z : i = N
    · subst z
      by_cases q : k + 1 ≤ i
      · exact Ok_e (a := .inr _) (if_pos ((ofN_le kN (by omega)).mpr q)) (Or.inr ⟨_, rfl, rfl⟩)
      · simp only [if_neg (fun y => q ((ofN_le kN (show i < 2147483648 by omega)).mp y) : ¬ Int32.ofNat (k + 1) ≤ Int32.ofNat i), A8.len, bN]
        rw [if_pos ((ofN_le (show rdT n 20 < 2147483648 by omega) (show i < 2147483648 by omega)).mpr (by omega))]
        exact Ok_p (Or.inr ⟨_, rfl, rfl⟩)
    · have hi2 : i < N := by omega
      simp only [if_neg (nle (show i < k + 1 by omega) kN), A8.len, bN, if_neg (nle (show i < rdT n 20 by omega) (show rdT n 20 < 2147483648 by omega))]
      cases hP : (decide (N = M) && !orT (fun i => decide (bst n 20 i ≠ bst n' 20 i)) i) with
      | false =>
        rw [bI_f, if_pos rfl]
        refine Ok_p (Or.inr ⟨_, rfl, ?_⟩)
        have : (decide (N = M) && !orT (fun i => decide (bst n 20 i ≠ bst n' 20 i)) N) = false := by
          by_cases q : N = M
          · rw [decide_eq_true q, Bool.true_and] at hP
            have hP : orT (fun i => decide (bst n 20 i ≠ bst n' 20 i)) i = true := by simpa using hP
            obtain ⟨y, y1, y2⟩ := orT_iff.mp hP
            have : orT (fun i => decide (bst n 20 i ≠ bst n' 20 i)) N = true := orT_iff.mpr ⟨y, by omega, y2⟩
            rw [this]; simp
          · rw [decide_eq_false q]; rfl
        rw [this]; rfl
      | true =>
        have q : N = M := by
          by_cases q : N = M
          · exact q
          · rw [decide_eq_false q] at hP; cases hP
        rw [decide_eq_true q, Bool.true_and] at hP
        have b1 := bb n i (by omega)
        have b2 := bb n' i (by omega)
        rw [bI_t, if_neg (show ¬ (1 : Int32) = 0 by decide)]
        simp only [A8.ld (show i < rdT n 20 by omega) (by omega), B8.ld (show i < rdT n' 20 by omega) (by omega), bN, ofN_succ]
        refine Ok_b (P := fun x => x = bI (decide (N = M) && !orT (fun i => decide (bst n 20 i ≠ bst n' 20 i)) (i + 1))) ?_ (fun x e => Ok_p (Or.inl ⟨_, rfl, hi2, by rw [e]⟩))
        have ho : orT (fun i => decide (bst n 20 i ≠ bst n' 20 i)) i = false := by simpa using hP
        have hs : (decide (N = M) && !orT (fun i => decide (bst n 20 i ≠ bst n' 20 i)) (i + 1)) = decide (bst n 20 i = bst n' 20 i) := by
          show (decide (N = M) && !(orT (fun i => decide (bst n 20 i ≠ bst n' 20 i)) i || decide (bst n 20 i ≠ bst n' 20 i))) = _
          rw [decide_eq_true q, ho]
          by_cases y : bst n 20 i = bst n' 20 i
          · rw [decide_eq_true y, decide_eq_false (fun z => z y)]; rfl
          · rw [decide_eq_false y, decide_eq_true y]; rfl
        rw [hs]
        by_cases y : bst n 20 i = bst n' 20 i
        · rw [if_pos (by rw [y]), decide_eq_true y]; exact Ok_p rfl
        · rw [if_neg (fun z => y (ofN_inj (by omega) (by omega) z)), decide_eq_false y]; exact Ok_p rfl
  · obtain rfl := e
    simp only [I8.go, I8.hO, bN]
    have Q := q_holds I8.W I8.S I8.G (k := k + 1) (a := r) (b := t) (m := mm) (by omega) (by omega) hr t20 hmk
    rw [hn', KE] at Q
    refine Ok_b (k_ok I8 Q) (fun p ⟨p1, Ip, vp⟩ => ?_)
    rw [p1, if_pos rfl]
    have Vp := V8.trans vp
    refine Ok_b (P := fun o => o.1 = 1 ∧ LSt o.2 n n c B j ∧ Ev 2000 h o.2) ?_ (fun jp ⟨j1, j2, j3⟩ => ?_)
    · simp only [Ip.go, Ip.hO, bN]
      refine Ok_b (k_ok Ip (q_value Ip.W Ip.S Ip.G t20)) (fun u ⟨u1, Iu, vu⟩ => ?_)
      have Vu := Vp.trans vu
      have szu := Vu.2.1
      simp only [Iu.o, bN]
      refine Ok_b (l_value Iu.1 (by omega) t20) (fun w ⟨w1, xw⟩ => ?_)
      rw [u1, w1, if_pos rfl]
      exact Ok_p ⟨rfl, Iu.ext xw, (Vu.trans xw.ev).le (by omega)⟩
    · rw [j1]
      simp only [z1_1, bN]
      exact Ok_p ⟨rfl, j2, j3⟩
end
