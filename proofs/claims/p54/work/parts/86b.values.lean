/-! THE PURE SIDE, 38: the law's values, bounds, limits -/
def RG (n : Nat → Int32) : Prop := n 105 = 0 ∨ n 105 = 1 ∨ n 105 = 2
theorem c500 {a : Nat} (h : a < 2500) : Int32.ofNat a ≠ 2147483647 := fun z => by
  have := (ofN_eq (b := 2147483647) (show a < 2147483648 by omega) (by omega)).mp z
  omega
/-- the law's least part, beside the class's -/
theorem least_law {w x : Nat → Int32} (hx : ∀ i, i < 5 → ∃ a, a < 496 ∧ x i = Int32.ofNat a) : ∀ k, k ≤ 5 →
    (fo (fun s i => if 0 < w i ∧ (s = -1 ∨ x i < s) then x i else s) (-1) k = -1 ∧ fo (fun s i => if 0 < w i then mxMin s (x i) else s) 2147483647 k = 2147483647) ∨
    ∃ a, a < 496 ∧ fo (fun s i => if 0 < w i ∧ (s = -1 ∨ x i < s) then x i else s) (-1) k = Int32.ofNat a ∧ fo (fun s i => if 0 < w i then mxMin s (x i) else s) 2147483647 k = Int32.ofNat a := by
  intro k
  induction k with
  | zero => intro _; exact Or.inl ⟨rfl, rfl⟩
  | succ k ih =>
    intro hk
    obtain ⟨a, ha, ea⟩ := hx k (by omega)
    show ((if 0 < w k ∧ (fo (fun s i => if 0 < w i ∧ (s = -1 ∨ x i < s) then x i else s) (-1) k = -1 ∨ x k < _) then x k else _) = -1 ∧ (if 0 < w k then mxMin _ (x k) else _) = 2147483647) ∨ ∃ a, a < 496 ∧ (if 0 < w k ∧ (fo (fun s i => if 0 < w i ∧ (s = -1 ∨ x i < s) then x i else s) (-1) k = -1 ∨ x k < _) then x k else _) = Int32.ofNat a ∧ (if 0 < w k then mxMin _ (x k) else _) = Int32.ofNat a
    rcases ih (by omega) with ⟨e1, e2⟩ | ⟨b, hb, e1, e2⟩
    · rw [e1, e2]
      by_cases c : 0 < w k
      · refine Or.inr ⟨a, ha, by rw [if_pos ⟨c, Or.inl rfl⟩]; exact ea, ?_⟩
        rw [if_pos c, ea, show (2147483647 : Int32) = Int32.ofNat 2147483647 from rfl, mxMin_N (by omega) (by omega), Nat.min_eq_right (by omega)]
      · exact Or.inl ⟨if_neg (fun z => c z.1), if_neg c⟩
    · rw [e1, e2]
      by_cases c : 0 < w k
      · refine Or.inr ⟨min b a, by omega, ?_, by rw [if_pos c, ea, mxMin_N (by omega) (by omega)]⟩
        by_cases q : a < b
        · rw [if_pos ⟨c, Or.inr (by rw [ea]; exact (ofN_lt (by omega) (by omega)).mpr q)⟩, Nat.min_eq_right (by omega)]; exact ea
        · rw [if_neg (fun z => by
            rcases z.2 with z | z
            · exact ofN_nm (by omega) z
            · rw [ea] at z; exact q ((ofN_lt (by omega) (by omega)).mp z)), Nat.min_eq_left (by omega)]
      · exact Or.inr ⟨b, hb, if_neg (fun z => c z.1), if_neg c⟩
section
variable {h : mxH} {n : Nat → Int32}
theorem lp_ruled (L : LW h n) (R : RG n) {a : Nat} {x : Nat → Int32} (A : AT h a 5 x) (hx : ∀ i, i < 5 → ∃ b, b < 496 ∧ x i = Int32.ofNat b) : fL_ruled 0 a h = some (rl n x) := by
  unfold fL_ruled
  refine bs (mxLoop_up (S := fun k => (fo (fun s i => s + x i) 0 k, fo (fun s i => mxMax s (x i)) 0 k, fo (fun s i => if 0 < n (100 + i) then mxMin s (x i) else s) 2147483647 k, Int32.ofNat k)) (N := 5) (r := (sum5 x, max5 x, fo (fun s i => if 0 < n (100 + i) then mxMin s (x i) else s) 2147483647 5)) (fun k hk => ?_) (if_pos yle) (by decide)) ?_
  · simp only [if_neg (n5 hk), A.ld hk, l_gw L, l_wt L hk, bN, ofN_succ]
    by_cases c : 0 < n (100 + k)
    · rw [if_neg (fun z => Int32.not_le.mpr c z)]
      show _ = some (Sum.inl (_, _, (if 0 < n (100 + k) then mxMin _ (x k) else _), _))
      rw [if_pos c]; rfl
    · rw [if_pos (Int32.not_lt.mp c)]
      show _ = some (Sum.inl (_, _, (if 0 < n (100 + k) then mxMin _ (x k) else _), _))
      rw [if_neg c]; rfl
  · simp only [l_gr L, bN]
    unfold rl
    rcases R with e | e | e
    · rw [e, if_pos rfl, if_pos rfl]; rfl
    · rw [e]
      have e10' : ¬ (1 : Int32) = 0 := by decide
      have e12 : ¬ (1 : Int32) = 2 := by decide
      rw [if_neg e10', if_neg e12, if_neg e10', if_pos rfl]
      rcases least_law (w := fun i => n (100 + i)) hx 5 (Nat.le_refl _) with ⟨e1, e2⟩ | ⟨b, hb, e1, e2⟩
      · have e2 : fo (fun s i => if 0 < n (100 + i) then mxMin s (x i) else s) 2147483647 5 = 2147483647 := e2
        have e1 : least5 (fun i => n (100 + i)) x = -1 := e1
        rw [e2, e1, if_pos rfl, show mxMax (-1) 0 = 0 by decide]; rfl
      · have e2 : fo (fun s i => if 0 < n (100 + i) then mxMin s (x i) else s) 2147483647 5 = Int32.ofNat b := e2
        have e1 : least5 (fun i => n (100 + i)) x = Int32.ofNat b := e1
        rw [e2, e1, if_neg (c500 (by omega)), show (0 : Int32) = Int32.ofNat 0 from rfl, mxMax_N (by omega) (by omega), Nat.max_eq_left (by omega)]
        rfl
    · rw [e, if_neg (show ¬ (2 : Int32) = 0 by decide), if_pos rfl, if_neg (show ¬ (2 : Int32) = 0 by decide), if_neg (show ¬ (2 : Int32) = 1 by decide)]; rfl
theorem fo_5 {x : Nat → Int32} (y : Nat → Int32) (e : ∀ i, i < 5 → x i = y i) : rl n x = rl n y := by
  have e1 : sum5 x = sum5 y := fo_congr (fun s k hk => by rw [e k hk])
  have e2 : max5 x = max5 y := fo_congr (fun s k hk => by rw [e k hk])
  have e3 : least5 (fun i => n (100 + i)) x = least5 (fun i => n (100 + i)) y := fo_congr (fun s k hk => by rw [e k hk])
  unfold rl
  rw [e1, e2, e3]
/-- what a bound is made of -/
def bx (n : Nat → Int32) (t d : Nat) (up : Bool) (i : Nat) : Int32 := if rdI n i t d then wm n i t else if up then lm n i d else 0
theorem bx_nat (G : MG n) (H : WG n) {t d i : Nat} {up : Bool} (hi : i < 5) (ht : t < 20) (h1 : 1 ≤ d) : ∃ b, b < 496 ∧ bx n t d up i = Int32.ofNat b := by
  unfold bx
  split
  · exact wm_nat G H hi ht
  · split
    · exact lm_nat G H hi h1
    · exact ⟨0, by omega, rfl⟩
theorem lp_bound (L : LW h n) (F : FR h) (G : MG n) (H : WG n) (R : RG n) (hb : h.2 < 1000000) {t d : Nat} {up : Bool} (ht : t < 20) (h1 : 1 ≤ d) (h2 : d ≤ 20) :
    Ok (fL_bound 0 (Int32.ofNat t) (Int32.ofNat d) (bI up) h) (fun o => o.1 = rl n (bx n t d up) ∧ Ext 1 h o.2) := by
  have l1 := L.1
  unfold fL_bound
  obtain ⟨e1, A0⟩ := nwV_at F (m := 5) (B := 5) hb (Nat.le_refl _)
  refine Ok_s (show nwV h 5 5 = _ from e1) ?_
  refine Ok_b (P := fun h1 => Ext 1 h h1 ∧ AT h1 h.2 5 (bx n t d up)) (Ok_loopF mxF (fun k s => s.1 = Int32.ofNat k ∧ Ext 1 h s.2 ∧ AT s.2 h.2 5 (fun i => if i < k then bx n t d up i else 0)) 5 ⟨rfl, Ext.new, A0.congr (fun k _ => by rw [if_neg (by omega)])⟩ ?_ ?_) (fun h3 ⟨x3, A3⟩ => ?_)
  · rintro k ⟨s1, hk1⟩ hk ⟨e1, x, A⟩
    obtain rfl := show s1 = _ from e1
    have x : Ext 1 h hk1 := x
    have L1 := L.ext x
    have A : AT hk1 h.2 5 _ := A
    obtain ⟨s2, A2⟩ := A.st (x := bx n t d up k) (by omega) hk
    simp only [if_neg (n5 hk), l_O L1, lp_isRead L1 G hk ht (show d < 2147483648 by omega), bN]
    have fin : ∀ v, v = bx n t d up k → Ok (Option.bind (some v) (fun jp18' : Int32 => Option.bind (stI hk1 h.2 (Int32.ofNat k) jp18') (fun h50 => (some (Sum.inl (Int32.ofNat k + 1, h50)) : Option ((Int32 × mxH) ⊕ mxH))))) (fun o => ∃ s', o = .inl s' ∧ s'.1 = Int32.ofNat (k + 1) ∧ Ext 1 h s'.2 ∧ AT s'.2 h.2 5 (fun i => if i < k + 1 then bx n t d up i else 0)) := fun v hv => by
      subst hv
      simp only [bN, s2, ofN_succ]
      refine Ok_p ⟨_, rfl, rfl, x.up (by omega) A.1, A2.congr (fun i hi => ?_)⟩
      unfold fup
      by_cases z : i = k
      · rw [if_pos z, if_pos (by omega), z]
      · rw [if_neg z]
        show (if i < k then _ else _ : Int32) = _
        by_cases y : i < k
        · rw [if_pos y, if_pos (by omega)]
        · rw [if_neg y, if_neg (by omega)]
    by_cases c : rdI n k t d = true
    · have hh : hs n k t = true := by
        unfold rdI at c
        simp only [Bool.and_eq_true] at c
        exact c.1
      rw [c, bI_t, if_neg (by decide)]
      simp only [l_gw L1, l_wt L1 hk, l_gm L1, l_row L1 hk, l_mk L1 hk ht, bN]
      refine fin _ ?_
      unfold bx wm
      rw [if_pos c, if_pos hh, Int32.mul_comm]
    · rw [bF c, bI_f, if_pos rfl]
      cases up with
      | true =>
        rw [bI_t, if_neg (by decide)]
        simp only [bN, lp_last L1 G hk h1 h2]
        refine fin _ ?_
        unfold bx
        rw [if_neg c, if_pos rfl]
      | false =>
        rw [bI_f, if_pos rfl]
        refine fin _ ?_
        unfold bx
        rw [if_neg c, if_neg (by decide)]
  · rintro ⟨s1, hk1⟩ ⟨e1, x, A⟩
    obtain rfl := show s1 = _ from e1
    exact Ok_e (a := .inr hk1) (if_pos yle) ⟨hk1, rfl, x, AT.congr A (fun i hi => if_pos hi)⟩
  · have L3 := L.ext x3
    simp only [l_O L3, bN, lp_ruled L3 R A3 (fun i hi => bx_nat G H hi ht h1)]
    exact Ok_p ⟨rfl, x3⟩
theorem bx_low {t d : Nat} : rl n (bx n t d false) = low n t d := rfl
theorem bx_upp {t d : Nat} : rl n (bx n t d true) = upp n t d := rfl
theorem low_20 {t : Nat} (ht : t < 20) : low n t 20 = val n t := by
  unfold low val
  refine fo_5 _ (fun i hi => ?_)
  unfold rdI
  rw [decide_eq_true (pla_20 ht), Bool.and_true]
  by_cases c : hs n i t = true
  · rw [if_pos c]
  · rw [if_neg c]
    unfold wm
    rw [if_neg c]
theorem lp_lower (L : LW h n) (F : FR h) (G : MG n) (H : WG n) (R : RG n) (hb : h.2 < 1000000) {t d : Nat} (ht : t < 20) (h1 : 1 ≤ d) (h2 : d ≤ 20) :
    Ok (fL_bound 0 (Int32.ofNat t) (Int32.ofNat d) 0 h) (fun o => o.1 = low n t d ∧ Ext 1 h o.2) := lp_bound (up := false) L F G H R hb ht h1 h2
theorem lp_upper (L : LW h n) (F : FR h) (G : MG n) (H : WG n) (R : RG n) (hb : h.2 < 1000000) {t d : Nat} (ht : t < 20) (h1 : 1 ≤ d) (h2 : d ≤ 20) :
    Ok (fL_bound 0 (Int32.ofNat t) (Int32.ofNat d) 1 h) (fun o => o.1 = upp n t d ∧ Ext 1 h o.2) := lp_bound (up := true) L F G H R hb ht h1 h2
theorem lp_value (L : LW h n) (F : FR h) (G : MG n) (H : WG n) (R : RG n) (hb : h.2 < 1000000) {t : Nat} (ht : t < 20) : Ok (fL_value 0 (Int32.ofNat t) h) (fun o => o.1 = val n t ∧ Ext 1 h o.2) := by
  unfold fL_value
  simp only [l_O L, bN]
  exact Ok_b (lp_lower L F G H R hb ht (d := 20) (by omega) (by omega)) (fun o ⟨o1, o2⟩ => Ok_p ⟨o1.trans (low_20 ht), o2⟩)
theorem lp_limit (L : LW h n) (F : FR h) (G : MG n) (H : WG n) (R : RG n) (hb : h.2 < 1000000) {d : Nat} (h1 : 1 ≤ d) (h2 : d ≤ 20) : Ok (fL_limit 0 (Int32.ofNat d) h) (fun o => o.1 = lim n d ∧ Ext 1 h o.2) := by
  have l1 := L.1
  unfold fL_limit
  obtain ⟨e1, A0⟩ := nwV_at F (m := 5) (B := 5) hb (Nat.le_refl _)
  refine Ok_s (show nwV h 5 5 = _ from e1) ?_
  refine Ok_b (P := fun h1 => Ext 1 h h1 ∧ AT h1 h.2 5 (fun i => lm n i d)) (Ok_loopF mxF (fun k s => s.1 = Int32.ofNat k ∧ Ext 1 h s.2 ∧ AT s.2 h.2 5 (fun i => if i < k then lm n i d else 0)) 5 ⟨rfl, Ext.new, A0.congr (fun k _ => by rw [if_neg (by omega)])⟩ ?_ ?_) (fun h3 ⟨x3, A3⟩ => ?_)
  · rintro k ⟨s1, hk1⟩ hk ⟨e1, x, A⟩
    obtain rfl := show s1 = _ from e1
    have x : Ext 1 h hk1 := x
    have L1 := L.ext x
    have A : AT hk1 h.2 5 _ := A
    obtain ⟨s2, A2⟩ := A.st (x := lm n k d) (by omega) hk
    simp only [if_neg (n5 hk), l_O L1, lp_last L1 G hk h1 h2, bN, s2, ofN_succ]
    refine Ok_p ⟨_, rfl, rfl, x.up (by omega) A.1, A2.congr (fun i hi => ?_)⟩
    unfold fup
    by_cases z : i = k
    · rw [if_pos z, if_pos (by omega), z]
    · rw [if_neg z]
      show (if i < k then _ else _ : Int32) = _
      by_cases y : i < k
      · rw [if_pos y, if_pos (by omega)]
      · rw [if_neg y, if_neg (by omega)]
  · rintro ⟨s1, hk1⟩ ⟨e1, x, A⟩
    obtain rfl := show s1 = _ from e1
    exact Ok_e (a := .inr hk1) (if_pos yle) ⟨hk1, rfl, x, AT.congr A (fun i hi => if_pos hi)⟩
  · have L3 := L.ext x3
    simp only [l_O L3, bN, lp_ruled L3 R A3 (fun i hi => lm_nat G H hi h1)]
    exact Ok_p ⟨rfl, x3⟩
theorem lp_longest (L : LW h n) (G : MG n) : fL_longest 0 h = some (Int32.ofNat (dpt n)) := by
  unfold fL_longest
  refine bs (nat_loop (fun s i => max s (itm n i)) 0 5 (fun k hk => ?_) (fun c => if_pos yle)) rfl
  have b : fo (fun s i => max s (itm n i)) 0 k ≤ 20 := fo_ind (fun x => x ≤ 20) (by omega) (fun x j hj hx => by have := itm_20 n j; omega)
  have i20 := itm_20 n k
  simp only [if_neg (n5 hk), l_O L, lp_items L G hk, bN, mxMax_N (show fo (fun s i => max s (itm n i)) 0 k < 2147483648 by omega) (show itm n k < 2147483648 by omega), ofN_succ]
end
