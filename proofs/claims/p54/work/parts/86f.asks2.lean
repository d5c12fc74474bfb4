/-! THE PURE SIDE, 42: more of what the class answers (begun from the rows of whole) -/
section
variable {h : mxH} {n : Nat → Int32} {j : Nat}
theorem q_refute (W : WF h) (S : SR h 3 n) (G : GD n j) {k d : Nat} (k1 : 1 ≤ k) (k2 : k ≤ 20) (d2 : d ≤ 20) (c1 : ¬ stp n k ≤ d) (c2 : lun n d < 20) : Ok (fX9_refute 2 (Int32.ofNat k) (Int32.ofNat d) h) (fun x => x.1 = .inl (Int32.ofNat (lun n d)) ∧ Fr QF h x.2) := by
  have hr := inK_mk k1 k2
  have hq : inI (Int32.ofNat d) 0 20 = true := inI_mk (a := 0) (b := 20) (by omega) d2 (by omega)
  have s20 := stp_20 n k
  unfold fX9_refute
  simp only [rq_range hr, rq_range hq, then_l, isH W, bN]
  refine Ok_b (c_findStop W S G k1 k2) (fun o ⟨o1, o2, o3, o4⟩ => ?_)
  have Wg := o2.1
  rw [o1]
  simp only [if_neg (fun z => c1 ((ofN_le (show stp n k < 2147483648 by omega) (show d < 2147483648 by omega)).mp z) : ¬ Int32.ofNat (stp n k) ≤ Int32.ofNat d), bN, rq_found, then_l, gH0 Wg, gS0 Wg, isO_R Wg R4, s_leastUnread Wg R4 o3.1 d2, if_pos c2, if_neg (ofN_nm (show lun n d < 2147483648 by omega))]
  exact Ok_p ⟨rfl, o2⟩
theorem q_mergedCount (W : WF h) (S : SR h 3 n) : fX9_mergedCount 2 h = some (Int32.ofNat (rdN n 20)) := by
  unfold fX9_mergedCount
  simp only [gH0 W, gS0 W, isO_R W R4, bN, show fX6_itemsRead 4 20 h = some (Int32.ofNat (rdN n 20)) from s_itemsRead W R4 S.1 (d := 20) (by omega)]
theorem q_quantile (W : WF h) (S : SR h 3 n) (G : GD n j) {k : Nat} (hk : k ≤ 1000) (z : ¬ mcn n = 0) : Ok (fX9_quantile 2 (Int32.ofNat k) h) (fun x => x.1 = .inl (n (mnr n ((mcn n - 1) * k / 1000))) ∧ Fr QF h x.2) := by
  have m100 := mcn_100 n
  have hq : inI (Int32.ofNat k) 0 1000 = true := inI_mk (a := 0) (b := 1000) (by omega) hk (by omega)
  have h1000 : (mcn n - 1) * k ≤ (mcn n - 1) * 1000 := Nat.mul_le_mul_left _ hk
  have hx : (mcn n - 1) * k / 1000 < mcn n := by
    have : (mcn n - 1) * k / 1000 ≤ mcn n - 1 := Nat.div_le_of_le_mul (by rw [Nat.mul_comm 1000]; exact h1000)
    omega
  have ex : ((Int32.ofNat (mcn n) - 1) * Int32.ofNat k) / 1000 = Int32.ofNat ((mcn n - 1) * k / 1000) := by
    rw [ofN_pred (by omega) (by omega), ofN_mul]
    exact div_N (b := 1000) (by omega) (by omega) (by omega)
  generalize (mcn n - 1) * k / 1000 = x at hx ex
  obtain ⟨s1, s2⟩ := mnr_spec hx
  have nz : ¬ Int32.ofNat (mcn n) ≤ 0 := nle (b := 0) (by omega) (by omega)
  unfold fX9_quantile
  simp only [rq_range hq, then_l, gH6 W, gH0 W, gS0 W, isO_M W, bN]
  refine Ok_b (c_mergeAll W S G) (fun g ⟨F, Sg, K⟩ => ?_)
  have Wg := F.1
  have r1 : mnr n x / 20 < 5 := by omega
  have t1 : mnr n x % 20 < 20 := by omega
  simp only [gH6 Wg, gH0 Wg, gS0 Wg, bN, gI_at Wg fd_mc, K.1, if_neg nz, rq_found, then_l, isO_M Wg, ex, s_rowOn Wg K hx, s_mThingOn Wg K hx, isO_R Wg R4, s_markOf Wg R4 r1 t1, Sg.1.1 _ _ r1 t1]
  exact Ok_p ⟨by show Sum.inl _ = Sum.inl _; rw [show 20 * (mnr n x / 20) + mnr n x % 20 = mnr n x by omega], F⟩
theorem q_comparisons (W : WF h) (S : SR h 3 n) (G : GD n j) {i k : Nat} (hi : i < 5) (hk : k < 5) (c : i ≠ k) : Ok (fX9_comparisons 2 (Int32.ofNat i) (Int32.ofNat k) h) (fun x => x.1 = .inl (Int32.ofNat (cmpv n (1 <<< i) (1 <<< k))) ∧ Fr QF h x.2) := by
  have ne : ¬ Int32.ofNat i = Int32.ofNat k := fun z => c ((ofN_eq (by omega) (by omega)).mp z)
  unfold fX9_comparisons
  simp only [rq_row hi, rq_row hk, then_l, if_neg ne, gH6 W, gH0 W, gS0 W, isO_M W, bN]
  refine Ok_b (c_mergeAll W S G) (fun g ⟨F, Sg, K⟩ => ?_)
  have Wg := F.1
  have b1 : 1 <<< i < 32 := (show ∀ i, i < 5 → 1 <<< i < 32 by decide) i hi
  have b2 : 1 <<< k < 32 := (show ∀ i, i < 5 → 1 <<< i < 32 by decide) k hk
  rw [(sh6 i (by omega)).1, (sh6 k (by omega)).1]
  simp only [gH6 Wg, isO_M Wg, bN, s_countComparisons Wg K b1 b2 (fun t ht z => by rw [bit5 i hi t ht] at z; rw [bit5 k hk t ht]; simp only [beq_iff_eq] at z; simpa using (show t ≠ k by omega))]
  exact Ok_p ⟨rfl, F⟩
theorem q_winner (W : WF h) (S : SR h 3 n) (c : wnr n < cdC n) : Ok (fX9_winner 2 h) (fun x => x.1 = .inl (Int32.ofNat (cd n (wnr n))) ∧ Fr QF h x.2) := by
  unfold fX9_winner
  simp only [gH7 W, gH0 W, gS0 W, isO_V W, bN]
  refine Ok_b (c_gather W S) (fun g ⟨F, Sg, K⟩ => ?_)
  have Wg := F.1
  have c20 := (cd_spec c).1
  simp only [gH7 Wg, isO_V Wg, bN, s_findWinner Wg K, if_pos c, if_neg (ofN_nm (show cd n (wnr n) < 2147483648 by omega)), rq_found, then_l]
  exact Ok_p ⟨rfl, F⟩
theorem q_winnerN (W : WF h) (S : SR h 3 n) (c : ¬ wnr n < cdC n) (hf : ∀ g, Fr QF h g → ∃ g1, nwX g = some g1) : Ok (fX9_winner 2 h) (fun x => x.1 = .inr NS ∧ ∃ g, Fr QF h g ∧ nwX g = some x.2) := by
  unfold fX9_winner
  simp only [gH7 W, gH0 W, gS0 W, isO_V W, bN]
  refine Ok_b (c_gather W S) (fun g ⟨F, Sg, K⟩ => ?_)
  have Wg := F.1
  obtain ⟨g1, e1⟩ := hf g F
  simp only [gH7 Wg, isO_V Wg, bN, s_findWinner Wg K, if_neg c, if_true, rq_foundN e1, then_r]
  exact Ok_p ⟨rfl, g, F, e1⟩
theorem q_windowSize (W : WF h) (S : SR h 3 n) : fX9_windowSize 2 h = some (Int32.ofNat (inw n)) := by
  unfold fX9_windowSize
  simp only [gH0 W, gS1 W, bN, gI_at W (fd_2 N27), show V h 27 2 = Int32.ofNat (inw n) from S.2.1.2.1]
theorem q_unlike (W : WF h) (S : SR h 3 n) (G : GD n j) : fX9_unlike 2 h = some (Int32.ofNat (unl n)) := by
  unfold fX9_unlike
  simp only [gH0 W, gS1 W, isO_N W N27, bN, s_countUnlike W N27 G.2.2 S.2.1]
theorem q_bound (W : WF h) (S : SR h 3 n) : fX9_bound 2 h = some (n 229) := by
  unfold fX9_bound
  simp only [gH0 W, gS1 W, bN, gI_at W (fd_8 N27), show V h 27 8 = n 229 from S.2.1.2.2.2.2.2.2.2.2]
/-- the pair of the rank k -/
def PA (n : Nat → Int32) (a b k p q : Nat) : Prop := PF n a b (198 - pdn n a b k) (k - cup n a b (pdn n a b k)) p q
theorem c_findPair (W : WF h) (S : SR h 3 n) (G : GD n j) {a b k : Nat} (ha : a < 5) (hb : b < 5) (hk : k < itm n a * itm n b) : Ok (fX9_findPair 2 (Int32.ofNat a) (Int32.ofNat b) (Int32.ofNat k) h) (fun x => x.1 = .inl () ∧ Fr QF h x.2 ∧ V x.2 317 1 = Int32.ofNat (198 - pdn n a b k) ∧ ∃ p q, PF n a b (198 - pdn n a b k) (k - cup n a b (pdn n a b k)) p q ∧ V x.2 317 2 = Int32.ofNat p ∧ V x.2 317 3 = Int32.ofNat q) := by
  have hab : itm n a * itm n b < 2147483648 := Nat.lt_of_le_of_lt (Nat.mul_le_mul (itm_20 n a) (itm_20 n b)) (by omega)
  unfold fX9_findPair
  simp only [rq_row ha, rq_row hb, then_l, gH0 W, gS0 W, isO_R W R4, bN, s_sizeOf W R4 ha, s_sizeOf W R4 hb, S.1.2.2.2.1 a ha, S.1.2.2.2.1 b hb, ofN_mul, rq_place hk hab, gH8 W, isO_P W]
  exact Ok_b (s_find W G.1 R4 S.1 ha hb hk) (fun g ⟨F, v1, v2⟩ => Ok_p ⟨rfl, F.mono (fun b z => by unfold QF; omega), v1, v2⟩)
theorem pq_20 {a b s k p q : Nat} (H : PF n a b s k p q) : p < 20 ∧ q < 20 := by
  have h1 := itm_20 n a
  have h2 := itm_20 n b
  have h3 := H.1
  have h4 := H.2.1
  omega
theorem q_pairSum (W : WF h) (S : SR h 3 n) (G : GD n j) {a b k : Nat} (ha : a < 5) (hb : b < 5) (hk : k < itm n a * itm n b) : Ok (fX9_pairSum 2 (Int32.ofNat a) (Int32.ofNat b) (Int32.ofNat k) h) (fun x => x.1 = .inl (Int32.ofNat (198 - pdn n a b k)) ∧ Fr QF h x.2) := by
  unfold fX9_pairSum
  simp only [isH W, bN]
  obtain ⟨⟨x1, x2⟩, ex, e1, F, v1, -⟩ := c_findPair W S G ha hb hk
  obtain rfl := show x1 = _ from e1
  have F : Fr QF h x2 := F
  have v1 : V x2 317 1 = _ := v1
  rw [ex]
  simp only [then_l, gH8 F.1, bN, gI_at F.1 fd_p1, v1]
  exact Ok_p ⟨rfl, F⟩
theorem q_pairPlace (W : WF h) (S : SR h 3 n) (G : GD n j) {a b k p q : Nat} {x : Int32} (ha : a < 5) (hb : b < 5) (hk : k < itm n a * itm n b) (H : PA n a b k p q) : Ok (fX9_pairPlace 2 (Int32.ofNat a) (Int32.ofNat b) (Int32.ofNat k) x h) (fun o => o.1 = .inl (if x = 0 then Int32.ofNat p else Int32.ofNat q) ∧ Fr QF h o.2) := by
  obtain ⟨⟨x1, x2⟩, ex, e1, F, -, p', q', H', v2, v3⟩ := c_findPair W S G ha hb hk
  obtain ⟨ep, eq⟩ := PF_inj H' H
  subst ep
  subst eq
  obtain rfl := show x1 = _ from e1
  have F : Fr QF h x2 := F
  have v2 : V x2 317 2 = _ := v2
  have v3 : V x2 317 3 = _ := v3
  unfold fX9_pairPlace
  simp only [isH W, bN]
  rw [ex]
  simp only [then_l, gH8 F.1, bN, gI_at F.1 fd_p2, gI_at F.1 fd_p3, v2, v3]
  by_cases c : x = 0
  · simp only [if_pos c, bN]; exact Ok_p ⟨rfl, F⟩
  · simp only [if_neg c, bN]; exact Ok_p ⟨rfl, F⟩
theorem PA_ex (W : WF h) (S : SR h 3 n) (G : GD n j) {a b k : Nat} (ha : a < 5) (hb : b < 5) (hk : k < itm n a * itm n b) : ∃ p q, PA n a b k p q := by
  obtain ⟨x, ex, e1, F, -, p', q', H', v2, v3⟩ := c_findPair W S G ha hb hk
  exact ⟨p', q', H'⟩
end
