/-! THE PURE SIDE, 57: keys, compared rows -/
theorem l_compared {h : mxH} {n : Nat → Int32} (G : MG n) {a b : Nat} {Q1 Q2 : Nat → Bool} (A : AT h a (cnt Q1 100) (fun j => ky n (nrL (bef n) Q1 100 j))) (B : AT h b (cnt Q2 100) (fun j => ky n (nrL (bef n) Q2 100 j))) (q1 : ∀ g, g < 100 → Q1 g = true → hsG n g = true) (q2 : ∀ g, g < 100 → Q2 g = true → hsG n g = true) (dj : ∀ g, g < 100 → Q1 g = true → Q2 g = false) :
    fL_compared a b h = some (Int32.ofNat (cmq n Q1 Q2)) := by
  have S := bef_STO n 100
  have b1 : cnt Q1 100 ≤ 100 := cnt_le _ _
  have b2 : cnt Q2 100 ≤ 100 := cnt_le _ _
  have s1 : ∀ j, j < cnt Q1 100 → nrL (bef n) Q1 100 j < 100 ∧ Q1 (nrL (bef n) Q1 100 j) = true := fun j hj => ⟨(nrL_spec S hj).1, (nrL_spec S hj).2.1⟩
  have s2 : ∀ j, j < cnt Q2 100 → nrL (bef n) Q2 100 j < 100 ∧ Q2 (nrL (bef n) Q2 100 j) = true := fun j hj => ⟨(nrL_spec S hj).1, (nrL_spec S hj).2.1⟩
  have l1 : ∀ i j, i < j → j < cnt Q1 100 → bef n (nrL (bef n) Q1 100 i) (nrL (bef n) Q1 100 j) = true := fun i j hij hj => nrL_lt S hij hj
  have l2 : ∀ i j, i < j → j < cnt Q2 100 → bef n (nrL (bef n) Q2 100 i) (nrL (bef n) Q2 100 j) = true := fun i j hij hj => nrL_lt S hij hj
  have E1 := SE_of (P := Q1) S
  have E2 := SE_of (P := Q2) S
  have hne : ∀ i j, i < cnt Q1 100 → j < cnt Q2 100 → nrL (bef n) Q1 100 i ≠ nrL (bef n) Q2 100 j := fun i j hi hj z => by
    have := dj _ (s1 i hi).1 (s1 i hi).2
    rw [z, (s2 j hj).2] at this; cases this
  unfold fL_compared cmq
  simp only [A.len, B.len, bN]
  generalize hc1 : cnt Q1 100 = c1 at *
  generalize hc2 : cnt Q2 100 = c2 at *
  generalize he1 : nrL (bef n) Q1 100 = e1 at *
  generalize he2 : nrL (bef n) Q2 100 = e2 at *
  by_cases z : c1 = 0 ∨ c2 = 0
  · rw [if_pos z]
    refine bs (a := (0, 0)) (mxLoop_find (S := fun _ => ((0 : Int32), (0 : Int32))) (K := 0) (fun k hk => by omega) ?_ (by decide)) rfl
    rcases z with z | z
    · rw [z]; exact if_pos yle
    · rw [z]
      by_cases y : Int32.ofNat c1 ≤ 0
      · exact if_pos y
      · exact (if_neg y).trans (if_pos yle)
  · rw [if_neg z]
    have key : Ok (mxLoop (ρ := (Int32 × Int32)) (fun s1 : (Int32 × Int32) => (if Int32.ofNat c1 ≤ s1.1 then some (Sum.inr (s1.1, s1.2)) else (if Int32.ofNat c2 ≤ s1.2 then some (Sum.inr (s1.1, s1.2)) else Option.bind (ldI h a s1.1) (fun v15 => Option.bind (ldI h b s1.2) (fun v17 => (if v17 ≤ v15 then some (Sum.inl (s1.1, s1.2 + 1)) else some (Sum.inl (s1.1 + 1, s1.2)))))))) mxF (0, 0)) (fun r => ∃ i j, r = (Int32.ofNat i, Int32.ofNat j) ∧ i ≤ c1 ∧ j ≤ c2 ∧ ((i = c1 ∧ j < c2) ∨ (i < c1 ∧ j = c2)) ∧ (∀ j', j' < j → bef n (e2 j') (e1 (min i (c1 - 1))) = true) ∧ (∀ i', i' < i → bef n (e1 i') (e2 (min j (c2 - 1))) = true)) := by
      refine Ok_loopE (fun k s => ∃ i j, k = i + j ∧ s = (Int32.ofNat i, Int32.ofNat j) ∧ i ≤ c1 ∧ j ≤ c2 ∧ (i < c1 ∨ j < c2) ∧ (∀ j', j' < j → bef n (e2 j') (e1 (min i (c1 - 1))) = true) ∧ (∀ i', i' < i → bef n (e1 i') (e2 (min j (c2 - 1))) = true)) (c1 + c2) ⟨0, 0, rfl, rfl, by omega, by omega, by omega, fun _ _ => by omega, fun _ _ => by omega⟩ ?_ (by unfold mxF; omega)
      rintro k ⟨x, y⟩ hk ⟨i, j, hkij, e, hi, hj, hor, a1, a2⟩
      obtain rfl := show x = _ from congrArg Prod.fst e
      obtain rfl := show y = _ from congrArg Prod.snd e
      by_cases x1 : i = c1
      · refine Ok_e (a := .inr (Int32.ofNat i, Int32.ofNat j)) (if_pos (by rw [x1]; exact yle)) (Or.inr ⟨_, rfl, i, j, rfl, hi, hj, by omega, a1, a2⟩)
      · by_cases x2 : j = c2
        · refine Ok_e (a := .inr (Int32.ofNat i, Int32.ofNat j)) ((if_neg (nle (show i < c1 by omega) (by omega))).trans (if_pos (by rw [x2]; exact yle))) (Or.inr ⟨_, rfl, i, j, rfl, hi, hj, by omega, a1, a2⟩)
        · have hi2 : i < c1 := by omega
          have hj2 : j < c2 := by omega
          simp only [if_neg (nle hi2 (by omega)), if_neg (nle hj2 (by omega)), A.ld hi2 (by omega), B.ld hj2 (by omega), bN, ofN_succ]
          have hn := hne i j hi2 hj2
          have hc := ky_cmp G (s2 j hj2).1 (s1 i hi2).1 (q2 _ (s2 j hj2).1 (s2 j hj2).2) (q1 _ (s1 i hi2).1 (s1 i hi2).2) (fun z => hn z.symm)
          rw [show min i (c1 - 1) = i by omega] at a1
          rw [show min j (c2 - 1) = j by omega] at a2
          by_cases c : ky n (e2 j) ≤ ky n (e1 i)
          · rw [if_pos c]
            have hb : bef n (e2 j) (e1 i) = true := (bef_total hn).resolve_left (by rw [hc.mp c]; decide)
            refine Ok_p (Or.inl ⟨_, rfl, by omega, i, j + 1, by omega, rfl, by omega, by omega, by omega, fun j' hj' => ?_, fun i' hi' => ?_⟩)
            · rw [show min i (c1 - 1) = i by omega]
              by_cases y : j' = j
              · rw [y]; exact hb
              · exact a1 j' (by omega)
            · by_cases y : j + 1 ≤ c2 - 1
              · rw [show min (j + 1) (c2 - 1) = j + 1 by omega]
                exact bef_trans (a2 i' hi') (l2 j (j + 1) (by omega) (by omega))
              · rw [show min (j + 1) (c2 - 1) = j by omega]; exact a2 i' hi'
          · rw [if_neg c]
            have hb : bef n (e1 i) (e2 j) = true := by
              cases y : bef n (e1 i) (e2 j)
              · exact absurd (hc.mpr y) c
              · rfl
            refine Ok_p (Or.inl ⟨_, rfl, by omega, i + 1, j, by omega, rfl, by omega, by omega, by omega, fun j' hj' => ?_, fun i' hi' => ?_⟩)
            · by_cases y : i + 1 ≤ c1 - 1
              · rw [show min (i + 1) (c1 - 1) = i + 1 by omega]
                exact bef_trans (a1 j' hj') (l1 i (i + 1) (by omega) (by omega))
              · rw [show min (i + 1) (c1 - 1) = i by omega]; exact a1 j' hj'
            · rw [show min j (c2 - 1) = j by omega]
              by_cases y : i' = i
              · rw [y]; exact hb
              · exact a2 i' (by omega)
    obtain ⟨r, er, i, j, e, hi, hj, hor, a1, a2⟩ := key
    refine bs er ?_
    rw [e]
    show some (Int32.ofNat i + Int32.ofNat j) = _
    rw [ofN_add]
    congr 2
    rcases hor with ⟨x1, x2⟩ | ⟨x1, x2⟩
    · rw [x1, show min c1 (c1 - 1) = c1 - 1 by omega] at a1
      have b3 := a2 (c1 - 1) (by omega)
      rw [show min j (c2 - 1) = j by omega] at b3
      have b4 : ∀ j', j ≤ j' → j' < c2 → bef n (e1 (c1 - 1)) (e2 j') = true := fun j' y1 y2 => by
        by_cases y : j' = j
        · rw [y]; exact b3
        · exact bef_trans b3 (l2 j j' (by omega) y2)
      rw [b4 (c2 - 1) (by omega) (by omega), if_pos rfl, rk_split S E2 hj a1 (fun i' y1 y2 => bef_not (b4 i' y1 y2)), x1]
    · rw [x2, show min c2 (c2 - 1) = c2 - 1 by omega] at a2
      have b3 := a1 (c2 - 1) (by omega)
      rw [show min i (c1 - 1) = i by omega] at b3
      have b4 : ∀ i', i ≤ i' → i' < c1 → bef n (e2 (c2 - 1)) (e1 i') = true := fun i' y1 y2 => by
        by_cases y : i' = i
        · rw [y]; exact b3
        · exact bef_trans b3 (l1 i i' (by omega) y2)
      rw [bef_not (b4 (c1 - 1) (by omega) (by omega)), if_neg (by decide), rk_split S E1 hi a2 (fun i' y1 y2 => bef_not (b4 i' y1 y2)), x2]
      omega
theorem hsG_rt {n : Nat → Int32} {r t : Nat} (ht : t < 20) : hsG n (20 * r + t) = hs n r t := by
  rw [hsG_hs, show (20 * r + t) / 20 = r by omega, show (20 * r + t) % 20 = t by omega]
theorem rdN_mcn (n : Nat → Int32) : rdN n 20 = mcn n := by
  have key : ∀ r, cnt (hsG n) (20 * r) = fo (fun s i => s + min (itm n i) 20) 0 r := by
    intro r
    induction r with
    | zero => rfl
    | succ r ih =>
      show cnt (hsG n) (20 * r + 20) = fo (fun s i => s + min (itm n i) 20) 0 r + min (itm n r) 20
      rw [cnt_add, ih, Nat.min_eq_left (itm_20 n r)]
      congr 1
  exact (key 5).symm
theorem kyN_inj {n : Nat → Int32} {g x : Nat} (hg : g < 100) (hx : x < 100) (e : ky n g = ky n x) : g = x := by
  have k1 := ky_b (n := n) hg
  have k2 := ky_b (n := n) hx
  have := ofN_inj (show kyN n g < 2147483648 by omega) (show kyN n x < 2147483648 by omega) e
  unfold kyN at this
  omega
/-- a sorted row with the keys of Q is the row of Q by its order -/
theorem sorted_keys {n : Nat → Int32} (G : MG n) {Q : Nat → Bool} (hQ : ∀ g, g < 100 → Q g = true → hsG n g = true) {f' : Nat → Int32} (P : Prm (cnt Q 100) (fun j => ky n (nth Q j 100)) f') (S' : Srt (cnt Q 100) f') : ∀ j, j < cnt Q 100 → f' j = ky n (nrL (bef n) Q 100 j) := by
  have S := bef_STO n 100
  have nf : ∀ j, j < cnt Q 100 → nth Q j 100 < 100 ∧ Q (nth Q j 100) = true ∧ cnt Q (nth Q j 100) = j := fun j hj => nth_found hj
  have D := P.dist (fun i k hi hk e => by
    have e : ky n (nth Q i 100) = ky n (nth Q k 100) := e
    have z := kyN_inj (nf i hi).1 (nf k hk).1 e
    have a := (nf i hi).2.2
    have b := (nf k hk).2.2
    rw [z] at a; omega)
  have ex : ∀ j, ∃ x, j < cnt Q 100 → x < 100 ∧ Q x = true ∧ f' j = ky n x := fun j => by
    by_cases hj : j < cnt Q 100
    · obtain ⟨k, k1, k2⟩ := P.mem hj
      exact ⟨nth Q k 100, fun _ => ⟨(nf k k1).1, (nf k k1).2.1, k2.symm⟩⟩
    · exact ⟨0, fun q => absurd q hj⟩
  have ch : ∃ e : Nat → Nat, ∀ j, j < cnt Q 100 → e j < 100 ∧ Q (e j) = true ∧ f' j = ky n (e j) := ⟨fun j => Classical.choose (ex j), fun j => Classical.choose_spec (ex j)⟩
  obtain ⟨e, he⟩ := ch
  have E : SE (bef n) Q 100 (cnt Q 100) e := by
    refine ⟨fun j hj => ⟨(he j hj).1, (he j hj).2.1⟩, fun i k hik hk => ?_, fun s hs qs => ?_⟩
    · obtain ⟨a1, a2, a3⟩ := he i (by omega)
      obtain ⟨b1, b2, b3⟩ := he k hk
      have ne : e i ≠ e k := fun z => by
        have := D i k (by omega) hk (by rw [a3, b3, z])
        omega
      have le : ky n (e i) ≤ ky n (e k) := by
        rw [← a3, ← b3]
        exact Int32.not_lt.mp (S' i k hik hk)
      have := (ky_cmp G a1 b1 (hQ _ a1 a2) (hQ _ b1 b2) ne).mp le
      exact (bef_total ne).resolve_right (by rw [this]; decide)
    · have hc : cnt Q s < cnt Q 100 := cnt_lt_of hs qs
      have hn : nth Q (cnt Q s) 100 = s := nth_of hs qs
      obtain ⟨k, k1, k2⟩ := P.symm.mem hc
      have k2 : f' k = ky n (nth Q (cnt Q s) 100) := k2
      rw [hn] at k2
      refine ⟨k, k1, ?_⟩
      obtain ⟨a1, a2, a3⟩ := he k k1
      exact kyN_inj a1 hs (a3.symm.trans k2)
  intro j hj
  rw [(he j hj).2.2, SE_nr S E hj]
theorem mQ_60 {n : Nat → Int32} (T : TG n) (M : Nat) : cnt (mQ n M) 100 ≤ 60 := by
  have key : ∀ r, r ≤ 5 → cnt (mQ n M) (20 * r) ≤ 12 * r := by
    intro r
    induction r with
    | zero => intro _; exact Nat.le_refl _
    | succ r ih =>
      intro hr
      have h1 := ih (by omega)
      rw [show 20 * (r + 1) = 20 * r + (12 + 8) by omega, cnt_add, cnt_add]
      have h2 := cnt_le (fun i => mQ n M (20 * r + i)) 12
      have h3 : cnt (fun i => mQ n M (20 * r + (12 + i))) 8 = 0 := by
        rw [cnt_congr (q := fun _ => false) (fun i hi => ?_)]
        · rfl
        · have := T.1 r (12 + i) (by omega) (by omega) (by omega)
          unfold mQ hsG
          rw [this]
          simp
      omega
  exact key 5 (Nat.le_refl _)
theorem mQ_cnt {n : Nat → Int32} {M r t : Nat} (ht : t < 20) : mQ n M (20 * r + t) = (hs n r t && M.testBit r) := by
  unfold mQ inM
  rw [hsG_rt ht, show (20 * r + t) / 20 = r by omega]
section
variable {h : mxH} {n : Nat → Int32} {c j : Nat} {B : Nat → Nat → Int32}
theorem lp_key (I : LSt h n n c B j) {r t : Nat} (hr : r < 5) (ht : t < 20) (q : hs n r t = true) : fL_key 0 (Int32.ofNat r) (Int32.ofNat t) h = some (ky n (20 * r + t)) := by
  obtain ⟨m, m1, m2⟩ := MG_nat I.MG hr ht q
  unfold fL_key
  simp only [I.gm, l_row I.L hr, l_mk I.L hr ht, bN]
  unfold ky kyN
  rw [m2, ofN_clamp (by omega), show (99 : Int32) = Int32.ofNat 99 from rfl, sub_N (show m ≤ 99 by omega) (by omega), show (100 : Int32) = Int32.ofNat 100 from rfl, show (20 : Int32) = Int32.ofNat 20 from rfl, ofN_mul, ofN_mul, ofN_add, ofN_add]
  congr 2
  omega
theorem w_keys (I : LSt h n n c B j) (T : TG n) (hb : h.2 + 10 ≤ 1000000) {M : Nat} (hM : M < 32) : Ok (fL_keys 0 (Int32.ofNat M) h) (fun o => LSt o.2 n n c B j ∧ Ev 3 h o.2 ∧ h.2 ≤ o.1 ∧ AT o.2 o.1 (cnt (mQ n M) 100) (fun i => ky n (nrL (bef n) (mQ n M) 100 i))) := by
  have l1 := I.L.1
  have c60 := mQ_60 (n := n) T M
  unfold fL_keys
  obtain ⟨w0, A0⟩ := nwV_at I.FR (m := 100) (B := 100) (by omega) (by omega)
  refine Ok_s (show nwV h 100 100 = _ from w0) ?_
  have I0 : LSt (mxNew h (100, List.replicate 100 0, [])) n n c B j := I.ext Ext.new
  have V0 : Ev 1 h (mxNew h (100, List.replicate 100 0, [])) := Ext.new.ev
  generalize mxNew h (100, List.replicate 100 0, []) = g0 at A0 I0 V0
  refine Ok_b (P := fun r => r.1 = Int32.ofNat (cnt (mQ n M) 100) ∧ LSt r.2 n n c B j ∧ Ev 1 h r.2 ∧ ∃ f, AT r.2 h.2 100 f ∧ ∀ i, i < cnt (mQ n M) 100 → f i = ky n (nth (mQ n M) i 100)) (Ok_loop (fun r s => s.2.1 = Int32.ofNat r ∧ s.1 = Int32.ofNat (cnt (mQ n M) (20 * r)) ∧ LSt s.2.2 n n c B j ∧ Ev 1 h s.2.2 ∧ ∃ f, AT s.2.2 h.2 100 f ∧ ∀ i, i < cnt (mQ n M) (20 * r) → f i = ky n (nth (mQ n M) i 100)) 5 ⟨rfl, rfl, I0, V0, _, A0, fun i hi => absurd hi (Nat.not_lt_zero _)⟩ ?_ ?_ (by decide)) ?_
  · rintro r ⟨s1, s2, g⟩ hr ⟨e1, e2, Ig, vg, f, Af, hf⟩
    obtain rfl := show s2 = _ from e1
    obtain rfl := show s1 = _ from e2
    simp only [if_neg (show ¬ (5 : Int32) ≤ Int32.ofNat r from nle hr)]
    refine Ok_b (P := fun r' => r'.1 = Int32.ofNat (cnt (mQ n M) (20 * (r + 1))) ∧ LSt r'.2 n n c B j ∧ Ev 1 h r'.2 ∧ ∃ f, AT r'.2 h.2 100 f ∧ ∀ i, i < cnt (mQ n M) (20 * (r + 1)) → f i = ky n (nth (mQ n M) i 100)) (Ok_loop (fun t s => s.2.1 = Int32.ofNat t ∧ s.1 = Int32.ofNat (cnt (mQ n M) (20 * r + t)) ∧ LSt s.2.2 n n c B j ∧ Ev 1 h s.2.2 ∧ ∃ f, AT s.2.2 h.2 100 f ∧ ∀ i, i < cnt (mQ n M) (20 * r + t) → f i = ky n (nth (mQ n M) i 100)) 20 ⟨rfl, rfl, Ig, vg, f, Af, hf⟩ ?_ ?_ (by decide)) (fun r' ⟨r1, r2⟩ => Ok_p ⟨_, rfl, ofN_succ r, r1, r2⟩)
    · rintro t ⟨s1, s2, g⟩ ht ⟨e1, e2, Ig, vg, f, Af, hf⟩
      obtain rfl := show s2 = _ from e1
      obtain rfl := show s1 = _ from e2
      have Ig : LSt g n n c B j := Ig
      have vg : Ev 1 h g := vg
      have Af : AT g h.2 100 f := Af
      have hbit := bit_eq M hM r hr
      have hmq := mQ_cnt (n := n) (M := M) (r := r) ht
      have no : mQ n M (20 * r + t) = false → Ok (some (Sum.inl (Int32.ofNat (cnt (mQ n M) (20 * r + t)), Int32.ofNat t + 1, g) : (Int32 × Int32 × mxH) ⊕ (Int32 × mxH))) (fun o => ∃ s', o = Sum.inl s' ∧ s'.2.1 = Int32.ofNat (t + 1) ∧ s'.1 = Int32.ofNat (cnt (mQ n M) (20 * r + (t + 1))) ∧ LSt s'.2.2 n n c B j ∧ Ev 1 h s'.2.2 ∧ ∃ f, AT s'.2.2 h.2 100 f ∧ ∀ i, i < cnt (mQ n M) (20 * r + (t + 1)) → f i = ky n (nth (mQ n M) i 100)) := fun z => by
        have e : cnt (mQ n M) (20 * r + (t + 1)) = cnt (mQ n M) (20 * r + t) := cnt_f z
        rw [e]
        exact Ok_p ⟨_, rfl, ofN_succ t, rfl, Ig, vg, f, Af, hf⟩
      simp only [if_neg (n20 ht)]
      by_cases y : ((Int32.ofNat M >>> (Int32.ofNat r &&& 31)) &&& 1) = 1
      · rw [decide_eq_true y] at hbit
        simp only [if_pos y, Ig.gm, l_row Ig.L hr, l_mk Ig.L hr ht, bN]
        by_cases z : n (20 * r + t) < 0
        · simp only [if_pos z, bN]
          exact no (by rw [hmq, MG_hs0 I.MG hr ht z]; rfl)
        · have q := MG_hs1 I.MG hr ht z
          have mq : mQ n M (20 * r + t) = true := by rw [hmq, q, ← hbit]; rfl
          have hlt : cnt (mQ n M) (20 * r + t) < cnt (mQ n M) 100 := cnt_lt_of (by omega) mq
          obtain ⟨w1, Iw, Aw⟩ := k_arr (x := ky n (20 * r + t)) Ig l1 Af (show cnt (mQ n M) (20 * r + t) < 100 by omega)
          simp only [if_neg z, Ig.o, lp_key Ig hr ht q, w1, bN]
          have e : cnt (mQ n M) (20 * r + (t + 1)) = cnt (mQ n M) (20 * r + t) + 1 := cnt_t mq
          rw [e]
          refine Ok_p ⟨_, rfl, ofN_succ t, ofN_succ _, Iw, vg.up (Nat.le_refl _), _, Aw, fun i hi => ?_⟩
          by_cases y : i = cnt (mQ n M) (20 * r + t)
          · rw [y, fup_eq, nth_of (by omega) mq]
          · rw [fup_ne y]; exact hf i (by omega)
      · rw [decide_eq_false y] at hbit
        simp only [if_neg y, bN]
        exact no (by rw [hmq, ← hbit]; simp)
    · rintro ⟨s1, s2, g⟩ ⟨e1, e2, Ig, vg, f, Af, hf⟩
      obtain rfl := show s2 = _ from e1
      obtain rfl := show s1 = _ from e2
      exact Ok_e (a := .inr (Int32.ofNat (cnt (mQ n M) (20 * r + 20)), g)) (if_pos yle) ⟨(Int32.ofNat (cnt (mQ n M) (20 * r + 20)), g), rfl, rfl, Ig, vg, f, Af, hf⟩
  · rintro ⟨s1, s2, g⟩ ⟨e1, e2, Ig, vg, f, Af, hf⟩
    obtain rfl := show s2 = _ from e1
    obtain rfl := show s1 = _ from e2
    exact Ok_e (a := .inr (Int32.ofNat (cnt (mQ n M) (20 * 5)), g)) (if_pos yle) ⟨(Int32.ofNat (cnt (mQ n M) (20 * 5)), g), rfl, rfl, Ig, vg, f, Af, hf⟩
  rintro ⟨s1, g⟩ ⟨e1, Ig, vg, f, Af, hf⟩
  obtain rfl := show s1 = _ from e1
  have Ig : LSt g n n c B j := Ig
  have vg : Ev 1 h g := vg
  have Af : AT g h.2 100 f := Af
  have szg := vg.2.1
  have sgg := Af.1
  obtain ⟨w2, A2⟩ := nwV_at Ig.FR (m := cnt (mQ n M) 100) (B := 100) (by omega) (by omega)
  refine Ok_s w2 ?_
  have I2 : LSt (mxNew g (100, List.replicate (cnt (mQ n M) 100) 0, [])) n n c B j := Ig.ext Ext.new
  have V2 : Ev 2 h (mxNew g (100, List.replicate (cnt (mQ n M) 100) 0, [])) := vg.trans Ext.new.ev
  have A12 : AT (mxNew g (100, List.replicate (cnt (mQ n M) 100) 0, [])) h.2 100 f := Af.ext Ext.new
  generalize mxNew g (100, List.replicate (cnt (mQ n M) 100) 0, []) = g2 at A2 I2 V2 A12
  have hm : cnt (mQ n M) 100 = cnt (mQ n M) 100 := rfl
  generalize hC : cnt (mQ n M) 100 = C at *
  -- the copy
  have hl : (mxCpy (tab 100 f) (tab C fun _ => 0) 0 0 C).length = C := by rw [mxCpy_len (by rw [tab_len]; omega) (by rw [tab_len]; omega), tab_len]
  have ec : mxCpy (tab 100 f) (tab C fun _ => 0) 0 0 C = tab C f := by
    apply List.ext_getElem?
    intro i
    by_cases hi : i < C
    · have := mxCpy_at (xs := tab 100 f) (ys := tab C fun _ => 0) (sp := 0) (dp := 0) (n := C) (by rw [tab_len]; omega) (by rw [tab_len]; omega) i (by rw [tab_len]; exact hi)
      rw [if_pos (by omega), List.getD_eq_getElem?_getD, List.getD_eq_getElem?_getD, show 0 + (i - 0) = i by omega, tab_get (show i < 100 by omega), List.getElem?_eq_getElem (by rw [hl]; exact hi)] at this
      rw [tab_get hi, List.getElem?_eq_getElem (by rw [hl]; exact hi)]
      exact congrArg some this
    · rw [List.getElem?_eq_none (by rw [hl]; omega), List.getElem?_eq_none (by rw [tab_len]; omega)]
  refine Ok_s (a := mxUp g2 g.2 (100, tab C f, (g2.1 g.2).2.2)) ?_ ?_
  · unfold cpI
    rw [show (0 : Int32) = Int32.ofNat 0 from rfl, ofN_clamp (by omega), ofN_clamp (by omega)]
    rw [if_pos ⟨⟨Or.inl A12.1, A2.1, show 2 ≤ g.2 by omega⟩, ⟨A12.2.1, A2.2.1⟩, ⟨by decide, by decide, ofN_nn (by omega)⟩, by rw [A12.2.2, tab_len]; show 0 + C ≤ 100; omega, by rw [A2.2.2, tab_len]; show 0 + C ≤ C; omega⟩, A12.2.2, A2.2.2, ec]
  have A3 : AT (mxUp g2 g.2 (100, tab C f, (g2.1 g.2).2.2)) g.2 C (fun i => ky n (nth (mQ n M) i 100)) := by
    refine ⟨A2.1, by rw [mxUp_at], ?_⟩
    rw [mxUp_at]
    exact tab_ext hf
  have s3 : (mxUp g2 g.2 (100, tab C f, (g2.1 g.2).2.2)).2 = g2.2 := rfl
  have SX0 : SX g.2 0 g2 (mxUp g2 g.2 (100, tab C f, (g2.1 g.2).2.2)) := ⟨Nat.le_refl _, Nat.le_refl _, fun b b1 b2 => if_neg b2, fun b b1 => if_neg (by have b1 : g2.2 ≤ b := b1; have := A2.1; omega)⟩
  generalize mxUp g2 g.2 (100, tab C f, (g2.1 g.2).2.2) = g3 at A3 s3 SX0
  have I3 := I2.sx SX0 (show 337 ≤ g.2 by omega)
  have V3 := SX0.ev V2 (show h.2 ≤ g.2 by omega)
  have sz3 := V3.2.1
  refine Ok_b (l_sort I3.FR (by omega) (show 337 ≤ g.2 by omega) A3 (Or.inr ⟨by omega, fun i k hi hk e => ?_⟩)) (fun g4 ⟨x4, f', A4, P4, S4⟩ => Ok_p ⟨I3.sx x4 (show 337 ≤ g.2 by omega), x4.ev V3 (show h.2 ≤ g.2 by omega), by show h.2 ≤ g.2; omega, AT.congr A4 (fun i hi => ?_)⟩)
  · have a := nth_found (p := mQ n M) (q := i) (N := 100) (by rw [hC]; exact hi)
    have b := nth_found (p := mQ n M) (q := k) (N := 100) (by rw [hC]; exact hk)
    have z := kyN_inj a.1 b.1 e
    have a3 := a.2.2
    rw [z, b.2.2] at a3; omega
  · exact sorted_keys (Q := mQ n M) I.MG (fun g hg q => by unfold mQ at q; simp only [Bool.and_eq_true] at q; exact q.1) (by rw [hC]; exact P4) (by rw [hC]; exact S4) i (by rw [hC]; exact hi)
end
