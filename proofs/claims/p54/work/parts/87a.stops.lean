/-! THE PURE SIDE, 43: a stop is right: what wasn't read is not above the limit -/
section
variable {n : Nat → Int32}
theorem mulN_le {a b c d : Nat} (h1 : a ≤ b) (h2 : c ≤ d) (h : b * d < 2147483648) : Int32.ofNat a * Int32.ofNat c ≤ Int32.ofNat b * Int32.ofNat d := by
  rw [ofN_mul, ofN_mul]
  have := Nat.mul_le_mul h1 h2
  exact (ofN_le (by omega) h).mpr this
theorem wm_lm (G : MG n) (H : WG n) {i t d : Nat} (hi : i < 5) (ht : t < 20) (hd : 1 ≤ d) (q : rdI n i t d = false) : wm n i t ≤ lm n i d := by
  by_cases c : hs n i t = true
  · have hp : ¬ pla n i t < d := fun z => by
      unfold rdI at q
      rw [c, decide_eq_true z] at q
      cases q
    have hi2 := pla_itm G hi ht c
    obtain ⟨t1, t2, t3⟩ := thi_spec G hi (show d - 1 < itm n i by omega)
    have hb := pla_bef t1 ht (show pla n i (thi n i (d - 1)) < pla n i t by omega)
    unfold lm
    rw [if_pos (by omega)]
    unfold wm
    rw [if_pos c, if_pos t2]
    obtain ⟨w, w1, w2⟩ := H i hi
    have hm : ∀ s, s < 20 → hs n i s = true → ∃ m, m < 100 ∧ n (20 * i + s) = Int32.ofNat m := fun s hs2 z => by
      rcases G (20 * i + s) (by omega) with e | e
      · unfold hs at z
        rw [e] at z
        simp at z
      · exact e
    obtain ⟨a, a1, a2⟩ := hm t ht c
    obtain ⟨b, b1, b2⟩ := hm _ t1 t2
    rw [w2, a2, b2]
    have hab : a ≤ b := by
      rcases bef_iff.mp hb with z | z
      · have z : n (20 * i + t) < n (20 * i + thi n i (d - 1)) := z
        rw [a2, b2, ofN_lt (by omega) (by omega)] at z; omega
      · have z : n (20 * i + thi n i (d - 1)) = n (20 * i + t) := z.1
        rw [a2, b2, ofN_eq (by omega) (by omega)] at z; omega
    have : b * w ≤ 100 * 6 := Nat.mul_le_mul (by omega) (by omega)
    exact mulN_le hab (Nat.le_refl _) (by omega)
  · have e : wm n i t = 0 := if_neg c
    rw [e]; exact lm_0 G H hi hd
theorem rdAt_rdI {t d i : Nat} (hi : i < 5) (q : rdAt n t d = false) : rdI n i t d = false := orT_false.mp q i hi
theorem unread_le (G : MG n) (H : WG n) {t d : Nat} (ht : t < 20) (hd : 1 ≤ d) (q : rdAt n t d = false) : val n t ≤ lim n d :=
  rl_mono (fun _ hi => wm_nat G H hi ht) (fun _ hi => lm_nat G H hi hd) (fun _ hi => wm_lm G H hi ht hd (rdAt_rdI hi q))
theorem low_val (G : MG n) (H : WG n) {t d : Nat} (ht : t < 20) : low n t d ≤ val n t := by
  refine rl_mono (fun i hi => ?_) (fun i hi => wm_nat G H hi ht) (fun i hi => ?_)
  · split
    · exact wm_nat G H hi ht
    · exact ⟨0, by omega, rfl⟩
  · split
    · exact Int32.le_refl _
    · exact wm_0 G H hi ht
theorem rdT_mono {d e : Nat} (h : d ≤ e) : rdT n d ≤ rdT n e := cnt_mono (fun t _ q => rdAt_mono h q)
theorem bnr_spec {d j : Nat} (hj : j < rdT n d) : bnr n d j < 20 ∧ rdAt n (bnr n d j) d = true ∧ rkL (befB n d) (fun t => rdAt n t d) 20 (bnr n d j) = j := nrL_spec (P := fun t => rdAt n t d) (befB_STO n d 20) hj
theorem bnr_low {d i j : Nat} (hij : i ≤ j) (hj : j < rdT n d) : low n (bnr n d j) d ≤ low n (bnr n d i) d := by
  by_cases e : i = j
  · rw [e]; exact Int32.le_refl _
  · have := nrL_lt (P := fun t => rdAt n t d) (befB_STO n d 20) (show i < j by omega) hj
    rcases befB_iff.mp this with z | z
    · rw [i32_le]; rw [i32_lt] at z; exact Int.le_of_lt z
    · have z := z.1
      show low n (nrL (befB n d) (fun t => rdAt n t d) 20 j) d ≤ low n (nrL (befB n d) (fun t => rdAt n t d) 20 i) d
      rw [z]; exact Int32.le_refl _
theorem setl_sur (G : MG n) (H : WG n) {d k : Nat} (d1 : 1 ≤ d) (d2 : d ≤ 20) (k1 : 1 ≤ k) (q : setl n d k = true) : k ≤ sur n d := by
  obtain ⟨a1, a2, -⟩ := setl_iff.mp q
  have := cnt_inj (n := k) (p := fun _ => true) (m := 20) (f := bnr n d) (q := fun t => !decide (bvl n t < lim n d) && rdAt n t d) (fun i hi _ => by
    obtain ⟨b1, b2, -⟩ := bnr_spec (show i < rdT n d by omega)
    refine ⟨b1, ?_⟩
    have kn : knw n (bnr n d i) = true := rd_knw d2 b2
    have e : bvl n (bnr n d i) = val n (bnr n d i) := if_pos kn
    have l1 := bnr_low (n := n) (d := d) (show i ≤ k - 1 by omega) (by omega)
    have l2 := low_val G H (d := d) b1
    rw [e, b2, decide_eq_false]
    · rfl
    · rw [i32_lt] at a2 ⊢
      rw [i32_le] at l1 l2
      omega) (fun i j hi hj _ _ e => by
    have x := (bnr_spec (show i < rdT n d by omega)).2.2
    have y := (bnr_spec (show j < rdT n d by omega)).2.2
    rw [e] at x; omega)
  rw [cnt_all] at this
  exact this
theorem fst1_mono {p q : Nat → Bool} {N : Nat} (h : ∀ k, k < N → q k = true → p k = true) : fst1 p N ≤ fst1 q N := by
  have l1 := fst1_le p N
  have l2 := fst1_le q N
  by_cases c : fst1 q N < N
  · have z := (fst1_spec q N).2 c
    have z2 := h _ c z
    by_cases y : fst1 q N < fst1 p N
    · have := (fst1_spec p N).1 _ y
      rw [z2] at this; cases this
    · omega
  · omega
theorem stp_pst (G : MG n) (H : WG n) {k : Nat} (k1 : 1 ≤ k) : stp n k ≤ pst n k := by
  have d20 := dpt_20 n
  unfold stp pst
  by_cases z : dpt n = 0
  · rw [if_pos z, if_pos z]; exact Nat.le_refl _
  · rw [if_neg z, if_neg z]
    have := fst1_mono (p := fun d => decide (k ≤ sur n (d + 1))) (q := fun d => setl n (d + 1) k) (N := dpt n - 1) (fun d hd q => decide_eq_true (setl_sur G H (by omega) (by omega) k1 q))
    omega
theorem stp_at {k : Nat} (h : stp n k < dpt n) : 1 ≤ stp n k ∧ k ≤ sur n (stp n k) := by
  have d20 := dpt_20 n
  unfold stp at h ⊢
  by_cases z : dpt n = 0
  · rw [if_pos z] at h; omega
  · rw [if_neg z] at h ⊢
    have := (fst1_spec (fun d => decide (k ≤ sur n (d + 1))) (dpt n - 1)).2 (by omega)
    refine ⟨by omega, ?_⟩
    have := of_decide_eq_true this
    rw [Nat.add_comm 1]
    exact this
theorem stp_below {k d : Nat} (h1 : 1 ≤ d) (h : d < stp n k) : ¬ k ≤ sur n d := by
  unfold stp at h
  by_cases z : dpt n = 0
  · rw [if_pos z] at h; omega
  · rw [if_neg z] at h
    have := (fst1_spec (fun d => decide (k ≤ sur n (d + 1))) (dpt n - 1)).1 (d - 1) (by omega)
    have := of_decide_eq_false this
    rw [show d - 1 + 1 = d by omega] at this
    exact this
theorem pst_at {k : Nat} (h : pst n k < dpt n) : 1 ≤ pst n k ∧ setl n (pst n k) k = true := by
  unfold pst at h ⊢
  by_cases z : dpt n = 0
  · rw [if_pos z] at h; omega
  · rw [if_neg z] at h ⊢
    have := (fst1_spec (fun d => setl n (d + 1) k) (dpt n - 1)).2 (by omega)
    exact ⟨by omega, by rw [Nat.add_comm 1]; exact this⟩
theorem pst_below {k d : Nat} (h1 : 1 ≤ d) (h : d < pst n k) : setl n d k = false := by
  unfold pst at h
  by_cases z : dpt n = 0
  · rw [if_pos z] at h; omega
  · rw [if_neg z] at h
    have := (fst1_spec (fun d => setl n (d + 1) k) (dpt n - 1)).1 (d - 1) (by omega)
    rw [show d - 1 + 1 = d by omega] at this
    exact this
theorem itm_dpt {i : Nat} (hi : i < 5) : itm n i ≤ dpt n := by
  unfold dpt
  have : ∀ k, i < k → itm n i ≤ fo (fun s i => max s (itm n i)) 0 k := by
    intro k
    induction k with
    | zero => intro h; omega
    | succ k ih =>
      intro h
      show itm n i ≤ max (fo (fun s i => max s (itm n i)) 0 k) (itm n k)
      by_cases e : i = k
      · rw [e]; exact Nat.le_max_right _ _
      · exact Nat.le_trans (ih (by omega)) (Nat.le_max_left _ _)
  exact this 5 hi
theorem rd_dpt (G : MG n) {t : Nat} (ht : t < 20) : rdAt n t (dpt n) = knw n t := by
  unfold knw rdAt
  refine orT_congr (fun i hi => ?_)
  unfold rdI
  by_cases c : hs n i t = true
  · have h1 := pla_itm G hi ht c
    have h2 := itm_dpt (n := n) hi
    rw [decide_eq_true (show pla n i t < dpt n by omega), decide_eq_true (pla_20 (n := n) (r := i) ht)]
  · rw [show hs n i t = false by simpa using c]; rfl
theorem rk_ge {lt lt' : Nat → Nat → Bool} {P P' : Nat → Bool} {N x i : Nat} (S : STO lt' N) (hi : i < cnt P' N) (h : ∀ j, j ≤ i → P (nrL lt' P' N j) = true ∧ lt (nrL lt' P' N j) x = true) : i + 1 ≤ rkL lt P N x := by
  have := cnt_inj (n := i + 1) (p := fun _ => true) (m := N) (f := nrL lt' P' N) (q := fun s => P s && lt s x) (fun j hj _ => ⟨(nrL_spec S (show j < cnt P' N by omega)).1, by rw [(h j (by omega)).1, (h j (by omega)).2]; rfl⟩) (fun a b ha hb _ _ e => by
    have x := (nrL_spec S (show a < cnt P' N by omega)).2.2
    have y := (nrL_spec S (show b < cnt P' N by omega)).2.2
    rw [e] at x; omega)
  rw [cnt_all] at this
  exact this
theorem bst_val {d i j : Nat} (hij : i ≤ j) (hj : j < rdT n d) : val n (bst n d j) ≤ val n (bst n d i) := by
  by_cases e : i = j
  · rw [e]; exact Int32.le_refl _
  · have := nrL_lt (P := fun t => rdAt n t d) (bef_STO (val n) 20) (show i < j by omega) hj
    rcases bef_iff.mp this with z | z
    · rw [i32_le]; rw [i32_lt] at z; exact Int.le_of_lt z
    · have z := z.1
      show val n (nrL (bef (val n)) (fun t => rdAt n t d) 20 j) ≤ val n (nrL (bef (val n)) (fun t => rdAt n t d) 20 i)
      rw [z]; exact Int32.le_refl _
theorem stop_best (G : MG n) (H : WG n) {k : Nat} (k1 : 1 ≤ k) (k2 : k ≤ 20) : min k (rdT n (stp n k)) = min k (rdT n 20) ∧ ∀ i, i < min k (rdT n 20) → val n (bst n (stp n k) i) = val n (bst n 20 i) := by
  have hle := stp_le n k
  have h20 := stp_20 n k
  by_cases c : stp n k = dpt n
  · have e : ∀ t, t < 20 → rdAt n t (stp n k) = rdAt n t 20 := fun t ht => by rw [c]; exact rd_dpt G ht
    have e1 : rdT n (stp n k) = rdT n 20 := cnt_congr e
    refine ⟨by rw [e1], fun i hi => ?_⟩
    have : bst n (stp n k) i = bst n 20 i := by
      unfold bst nrL
      refine fst1_congr (fun t ht => ?_)
      show (rdAt n t (stp n k) && _) = (rdAt n t 20 && _)
      rw [e t ht, show rkL (bef (val n)) (fun t => rdAt n t (stp n k)) 20 t = rkL (bef (val n)) (fun t => rdAt n t 20) 20 t from rkL_congr (fun s hs => by rw [e s hs])]
    rw [this]
  · obtain ⟨s1, s2⟩ := stp_at (n := n) (k := k) (by omega)
    generalize stp n k = d at s1 s2 h20
    obtain ⟨u1, u2⟩ := (sur_iff h20 k1).mp s2
    have m1 : rdT n d ≤ rdT n 20 := rdT_mono h20
    have e1 : min k (rdT n 20) = k := by omega
    refine ⟨by omega, fun i hi => ?_⟩
    rw [e1] at hi
    obtain ⟨x1, x2, x3⟩ := bst_spec (n := n) (d := d) (q := i) (by omega)
    obtain ⟨y1, y2, y3⟩ := bst_spec (n := n) (d := 20) (q := i) (by omega)
    have g1 : ¬ val n (bst n 20 i) < val n (bst n d i) := fun z => by
      have := rk_ge (lt := bef (val n)) (P := fun t => rdAt n t 20) (P' := fun t => rdAt n t d) (x := bst n 20 i) (i := i) (bef_STO (val n) 20) (show i < rdT n d by omega) (fun j hj => ⟨rdAt_mono h20 (bst_spec (n := n) (d := d) (q := j) (by omega)).2.1, bef_iff.mpr (Or.inl (by
        have := bst_val (n := n) (d := d) hj (by omega)
        have this : val n (bst n d i) ≤ val n (nrL (bef (val n)) (fun t => rdAt n t d) 20 j) := this
        rw [i32_lt] at z ⊢
        rw [i32_le] at this
        omega))⟩)
      omega
    have g2 : ¬ val n (bst n d i) < val n (bst n 20 i) := fun z => by
      have l1 := bst_val (n := n) (d := d) (show i ≤ k - 1 by omega) (by omega)
      have := rk_ge (lt := bef (val n)) (P := fun t => rdAt n t d) (P' := fun t => rdAt n t 20) (x := bst n d i) (i := i) (bef_STO (val n) 20) (show i < rdT n 20 by omega) (fun j hj => by
        have l2 := bst_val (n := n) (d := 20) hj (by omega)
        have l2 : val n (bst n 20 i) ≤ val n (nrL (bef (val n)) (fun t => rdAt n t 20) 20 j) := l2
        have w1 : nrL (bef (val n)) (fun t => rdAt n t 20) 20 j < 20 := (bst_spec (n := n) (d := 20) (q := j) (by omega)).1
        rw [i32_le] at l1 l2
        rw [i32_lt] at z u2
        refine ⟨?_, bef_iff.mpr (Or.inl (by rw [i32_lt]; omega))⟩
        by_cases r : rdAt n (nrL (bef (val n)) (fun t => rdAt n t 20) 20 j) d = true
        · exact r
        · have := unread_le G H w1 s1 (bF r)
          rw [i32_le] at this
          omega)
      omega
    rw [i32_eq]
    rw [i32_lt] at g1 g2
    omega
theorem ans_ok (G : MG n) (H : WG n) {k : Nat} (k1 : 1 ≤ k) (k2 : k ≤ 20) : ansB n k = true := by
  obtain ⟨e1, e2⟩ := stop_best G H k1 k2
  unfold ansB
  rw [decide_eq_true e1, Bool.and_true, Bool.not_eq_true', orT_false]
  intro i hi
  rw [e1] at hi
  exact decide_eq_false (fun z => z (e2 i hi))
theorem no_flt (G : MG n) (H : WG n) : fo (fun s k => s + flt n (k + 1)) 0 20 = 0 := by
  refine fo_ind (fun x => x = 0) rfl (fun x k hk hx => ?_)
  show x + flt n (k + 1) = 0
  unfold flt
  rw [hx, ans_ok G H (by omega) (by omega), if_pos rfl, if_neg (by have := stp_pst G H (k := k + 1) (by omega); omega)]
theorem sure_law (G : MG n) (H : WG n) {d k : Nat} (hd : 1 ≤ d) (hk : 1 ≤ k) : orT (areS n d k (lim n d)) 20 = setl n d k := sure_eq G H hd hk
end
