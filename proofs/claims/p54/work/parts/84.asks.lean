/-! THE PURE SIDE, 35: what the class answers, question by question (begun from the rows of whole) -/
section
variable {h : mxH} {n : Nat → Int32} {j : Nat}
theorem q26 {b : Nat} (z : b = 4 + 22) : QF b := Or.inl z
theorem c_rankAll (W : WF h) (S : SR h 3 n) (G : GD n j) : Ok (fX4_rankAll 289 4 h) (fun h' => Fr QF h h' ∧ SR h' 3 n ∧ KR h' 289 n) := by
  refine Ok_m (s_rankAll W G.1 G.2.1 K289 R4 S.1) (fun h1 ⟨F, K⟩ => ?_)
  have F2 : Fr QF h h1 := F.mono (fun b z => by unfold QF; omega)
  exact ⟨F2, SR_fr S3 S F2 (fun b b1 b2 b3 => by unfold QF; omega), K⟩
theorem c_findStop (W : WF h) (S : SR h 3 n) (G : GD n j) {k : Nat} (h1 : 1 ≤ k) (h2 : k ≤ 20) : Ok (fX9_findStop 2 (Int32.ofNat k) h) (fun o => o.1 = Int32.ofNat (stp n k) ∧ Fr QF h o.2 ∧ SR o.2 3 n ∧ KR o.2 289 n) := by
  unfold fX9_findStop
  simp only [gH3 W, gH0 W, gS0 W, isO_K W K289, bN]
  refine Ok_b (c_rankAll W S G) (fun g ⟨F, Sg, K⟩ => ?_)
  have Wg := F.1
  simp only [gH5 Wg, gH0 Wg, gS0 Wg, gH3 Wg, isO_D Wg, bN]
  refine Ok_b (s_findStops Wg G.1 G.2.1 K289 R4 Sg.1 K) (fun g2 ⟨F2, v2⟩ => ?_)
  have W2 := F2.1
  have F3 : Fr QF g g2 := F2.mono (fun b z => by unfold QF; omega)
  simp only [gH5 W2, isO_D W2, bN, s_stopOf W2 h1 h2, v2 k h1 h2]
  exact Ok_p ⟨rfl, F.trans F3, SR_fr S3 Sg F3 (fun b b1 b2 b3 => by unfold QF; omega), KR_fr K289 K F2 (fun o ho => by omega)⟩
theorem stp_20 (n : Nat → Int32) (k : Nat) : stp n k ≤ 20 := Nat.le_trans (stp_le n k) (dpt_20 n)
theorem bst_spec {n : Nat → Int32} {d q : Nat} (hq : q < rdT n d) : bst n d q < 20 ∧ rdAt n (bst n d q) d = true ∧ rkL (bef (val n)) (fun t => rdAt n t d) 20 (bst n d q) = q := nrL_spec (P := fun t => rdAt n t d) (bef_STO (val n) 20) hq
theorem krk_spec {n : Nat → Int32} {t : Nat} (ht : t < 20) (h : knw n t = true) : krk n t < rdT n 20 ∧ bst n 20 (krk n t) = t := ⟨rkL_cnt (P := knw n) (bef_STO (val n) 20) ht h, nrL_of (P := knw n) (bef_STO (val n) 20) ht h⟩
theorem c_mergeAll (W : WF h) (S : SR h 3 n) (G : GD n j) : Ok (fX1_mergeAll 302 4 h) (fun h' => Fr QF h h' ∧ SR h' 3 n ∧ MR h' n) := by
  refine Ok_m (s_mergeAll W G.1 R4 S.1) (fun h1 ⟨F, K⟩ => ?_)
  have F2 : Fr QF h h1 := F.mono (fun b z => by unfold QF; omega)
  exact ⟨F2, SR_fr S3 S F2 (fun b b1 b2 b3 => by unfold QF; omega), K⟩
theorem c_gather (W : WF h) (S : SR h 3 n) : Ok (fX8_gather 306 4 h) (fun h' => Fr QF h h' ∧ SR h' 3 n ∧ VR h' n) := by
  refine Ok_m (s_gather W R4 S.1) (fun h1 ⟨F, K⟩ => ?_)
  have F2 : Fr QF h h1 := F.mono (fun b z => by unfold QF; omega)
  exact ⟨F2, SR_fr S3 S F2 (fun b b1 b2 b3 => by unfold QF; omega), K⟩
theorem MG_fup {n : Nat → Int32} {g m : Nat} (G : MG n) (hm : m < 100) : MG (fup n g (Int32.ofNat m)) := fun k hk => by
  unfold fup
  by_cases e : k = g
  · rw [if_pos e]; exact Or.inr ⟨m, hm, rfl⟩
  · rw [if_neg e]; exact G k hk
theorem WG_fup {n : Nat → Int32} {g : Nat} {x : Int32} (H : WG n) (hg : g < 100) : WG (fup n g x) := fun i hi => by
  rw [fup_ne (by omega)]; exact H i hi
theorem q_itemCount (W : WF h) (S : SR h 3 n) (G : GD n j) {k : Nat} (hk : k < 5) : Ok (fX9_itemCount 2 (Int32.ofNat k) h) (fun x => x.1 = .inl (Int32.ofNat (itm n k)) ∧ Fr QF h x.2) := by
  unfold fX9_itemCount
  simp only [rq_row hk, then_l, gH0 W, gS0 W, isO_R W R4, bN, s_sizeOf W R4 hk, S.1.2.2.2.1 k hk]
  exact Ok_p ⟨rfl, Fr.refl W⟩
theorem q_thingAt (W : WF h) (S : SR h 3 n) (G : GD n j) {k t : Nat} (hk : k < 5) (ht : t < itm n k) : Ok (fX9_thingAt 2 (Int32.ofNat k) (Int32.ofNat t) h) (fun x => x.1 = .inl (Int32.ofNat (thi n k t)) ∧ Fr QF h x.2) := by
  have i20 := itm_20 n k
  unfold fX9_thingAt
  simp only [rq_row hk, then_l, gH0 W, gS0 W, isO_R W R4, bN, s_sizeOf W R4 hk, S.1.2.2.2.1 k hk, rq_place ht (show itm n k < 2147483648 by omega), s_thingOn W R4 hk (show t < 20 by omega), S.1.2.2.1 k t hk (by omega), if_pos ht]
  exact Ok_p ⟨rfl, Fr.refl W⟩
theorem q_markAt (W : WF h) (S : SR h 3 n) (G : GD n j) {k t : Nat} (hk : k < 5) (ht : t < itm n k) : Ok (fX9_markAt 2 (Int32.ofNat k) (Int32.ofNat t) h) (fun x => x.1 = .inl (n (20 * k + thi n k t)) ∧ Fr QF h x.2) := by
  have i20 := itm_20 n k
  unfold fX9_markAt
  simp only [rq_row hk, then_l, gH0 W, gS0 W, isO_R W R4, bN, s_sizeOf W R4 hk, S.1.2.2.2.1 k hk, rq_place ht (show itm n k < 2147483648 by omega), s_markOn W G.1 R4 S.1 hk (show t ≤ 20 by omega)]
  refine Ok_p ⟨?_, Fr.refl W⟩
  unfold mkO
  rw [if_pos ht]
theorem q_placeOf (W : WF h) (S : SR h 3 n) (G : GD n j) {k t : Nat} (hk : k < 5) (ht : t < 20) (c : hs n k t = true) : Ok (fX9_placeOf 2 (Int32.ofNat k) (Int32.ofNat t) h) (fun x => x.1 = .inl (Int32.ofNat (pla n k t)) ∧ Fr QF h x.2) := by
  have p20 := pla_20 (n := n) (r := k) ht
  unfold fX9_placeOf
  simp only [rq_row hk, rq_thing ht, then_l, gH0 W, gS0 W, isO_R W R4, bN, s_placeIn W R4 hk ht, S.1.2.1 k t hk ht, c, if_true, if_neg (ofN_nm (show pla n k t < 2147483648 by omega)), rq_found]
  exact Ok_p ⟨rfl, Fr.refl W⟩
theorem q_value (W : WF h) (S : SR h 3 n) (G : GD n j) {t : Nat} (ht : t < 20) : Ok (fX9_value 2 (Int32.ofNat t) h) (fun x => x.1 = .inl (val n t) ∧ Fr QF h x.2) := by
  unfold fX9_value
  simp only [rq_thing ht, then_l, gH0 W, gS0 W, isO_R W R4, bN]
  refine Ok_b (s_valueOf W G.1 G.2.1 R4 S.1 ht) (fun o ⟨o1, o2⟩ => Ok_p ⟨by show Sum.inl _ = _; rw [o1], o2.mono (fun b z => q26 z)⟩)
theorem q_limit (W : WF h) (S : SR h 3 n) (G : GD n j) {d : Nat} (d1 : 1 ≤ d) (d2 : d ≤ 20) : Ok (fX9_limit 2 (Int32.ofNat d) h) (fun x => x.1 = .inl (lim n d) ∧ Fr QF h x.2) := by
  have hr := inK_mk d1 d2
  unfold fX9_limit
  simp only [rq_range hr, then_l, gH0 W, gS0 W, isO_R W R4, bN]
  refine Ok_b (s_limitAt W G.1 G.2.1 R4 S.1 d1 d2) (fun o ⟨o1, o2⟩ => Ok_p ⟨by show Sum.inl _ = _; rw [o1], o2.mono (fun b z => q26 z)⟩)
theorem q_lower (W : WF h) (S : SR h 3 n) (G : GD n j) {t d : Nat} (ht : t < 20) (d1 : 1 ≤ d) (d2 : d ≤ 20) : Ok (fX9_lower 2 (Int32.ofNat t) (Int32.ofNat d) h) (fun x => x.1 = .inl (low n t d) ∧ Fr QF h x.2) := by
  have hq := inK_mk d1 d2
  unfold fX9_lower
  simp only [rq_thing ht, rq_range hq, then_l, gH0 W, gS0 W, isO_R W R4, bN]
  refine Ok_b (s_lowerOf W G.1 G.2.1 R4 S.1 ht d1 d2) (fun o ⟨o1, o2⟩ => Ok_p ⟨by show Sum.inl _ = _; rw [o1], o2.mono (fun b z => q26 z)⟩)
theorem q_upper (W : WF h) (S : SR h 3 n) (G : GD n j) {t d : Nat} (ht : t < 20) (d1 : 1 ≤ d) (d2 : d ≤ 20) : Ok (fX9_upper 2 (Int32.ofNat t) (Int32.ofNat d) h) (fun x => x.1 = .inl (upp n t d) ∧ Fr QF h x.2) := by
  have hq := inK_mk d1 d2
  unfold fX9_upper
  simp only [rq_thing ht, rq_range hq, then_l, gH0 W, gS0 W, isO_R W R4, bN]
  refine Ok_b (s_upperOf W G.1 G.2.1 R4 S.1 ht d1 d2) (fun o ⟨o1, o2⟩ => Ok_p ⟨by show Sum.inl _ = _; rw [o1], o2.mono (fun b z => q26 z)⟩)
theorem q_knownCount (W : WF h) (S : SR h 3 n) (G : GD n j)  : Ok (fX9_knownCount 2 h) (fun x => x.1 = Int32.ofNat (rdT n 20) ∧ Fr QF h x.2) := by
  unfold fX9_knownCount
  simp only [gH3 W, gH0 W, gS0 W, isO_K W K289, bN]
  refine Ok_b (c_rankAll W S G) (fun g ⟨F, Sg, K⟩ => ?_)
  have Wg := F.1
  simp only [gH3 Wg, bN, gI_at Wg (fd_K K289), K.2.2.2]
  exact Ok_p ⟨rfl, F⟩
theorem q_ranked (W : WF h) (S : SR h 3 n) (G : GD n j) {q : Nat} (hq2 : q < rdT n 20) : Ok (fX9_ranked 2 (Int32.ofNat q) h) (fun x => x.1 = .inl (Int32.ofNat (knr n q)) ∧ Fr QF h x.2) := by
  have r20 := rdT_20 n 20
  unfold fX9_ranked
  simp only [gH3 W, gH0 W, gS0 W, isO_K W K289, bN]
  refine Ok_b (c_rankAll W S G) (fun g ⟨F, Sg, K⟩ => ?_)
  have Wg := F.1
  simp only [gH3 Wg, bN, gI_at Wg (fd_K K289), K.2.2.2, rq_place hq2 (show rdT n 20 < 2147483648 by omega), then_l, isO_K Wg K289, s_kThingOn Wg K289 (show q < 20 by omega), K.2.2.1 q (by omega), if_pos hq2]
  exact Ok_p ⟨rfl, F⟩
theorem q_rankOf (W : WF h) (S : SR h 3 n) (G : GD n j) {t : Nat} (ht : t < 20) (c : knw n t = true) : Ok (fX9_rankOf 2 (Int32.ofNat t) h) (fun x => x.1 = .inl (Int32.ofNat (krk n t)) ∧ Fr QF h x.2) := by
  have r20 := rdT_20 n 20
  obtain ⟨k1, k2⟩ := krk_spec ht c
  unfold fX9_rankOf
  simp only [rq_thing ht, then_l, gH3 W, gH0 W, gS0 W, isO_K W K289, bN]
  refine Ok_b (c_rankAll W S G) (fun g ⟨F, Sg, K⟩ => ?_)
  have Wg := F.1
  simp only [gH3 Wg, bN, isO_K Wg K289, s_rankIn Wg K289 ht, K.2.1 t ht, if_pos c, if_neg (ofN_nm (show krk n t < 2147483648 by omega)), rq_found, then_l]
  exact Ok_p ⟨rfl, F⟩
theorem q_stopDepth (W : WF h) (S : SR h 3 n) (G : GD n j) {k : Nat} (k1 : 1 ≤ k) (k2 : k ≤ 20) : Ok (fX9_stopDepth 2 (Int32.ofNat k) h) (fun x => x.1 = .inl (Int32.ofNat (stp n k)) ∧ Fr QF h x.2) := by
  have hr := inK_mk k1 k2
  unfold fX9_stopDepth
  simp only [rq_range hr, then_l, isH W, bN]
  exact Ok_b (c_findStop W S G k1 k2) (fun o ⟨o1, o2, o3, o4⟩ => Ok_p ⟨by show Sum.inl _ = _; rw [o1], o2⟩)
theorem q_cost (W : WF h) (S : SR h 3 n) (G : GD n j) {k : Nat} (k1 : 1 ≤ k) (k2 : k ≤ 20) : Ok (fX9_cost 2 (Int32.ofNat k) h) (fun x => x.1 = .inl ((Int32.ofNat (rdN n (stp n k)) * n 106) + ((4 * Int32.ofNat (rdT n (stp n k))) * n 107)) ∧ Fr QF h x.2) := by
  have hr := inK_mk k1 k2
  have s20 := stp_20 n k
  unfold fX9_cost
  simp only [rq_range hr, then_l, isH W, bN]
  refine Ok_b (c_findStop W S G k1 k2) (fun o ⟨o1, o2, o3, o4⟩ => ?_)
  have Wg := o2.1
  rw [o1]
  simp only [gH0 Wg, gS0 Wg, isO_R Wg R4, bN, s_thingsRead Wg R4 o3.1 s20, s_itemsRead Wg R4 o3.1 s20, gI_at Wg (fd_S2 S3), gI_at Wg (fd_S3 S3), o3.2.2.1, o3.2.2.2]
  exact Ok_p ⟨rfl, o2⟩
theorem q_best (W : WF h) (S : SR h 3 n) (G : GD n j) {k x : Nat} (k1 : 1 ≤ k) (k2 : k ≤ 20) (hx : x < min k (rdT n (stp n k))) : Ok (fX9_best 2 (Int32.ofNat k) (Int32.ofNat x) h) (fun o => o.1 = .inl (Int32.ofNat (bst n (stp n k) x)) ∧ Fr QF h o.2) := by
  have hr := inK_mk k1 k2
  have s20 := stp_20 n k
  have r20 := rdT_20 n (stp n k)
  unfold fX9_best
  simp only [rq_range hr, then_l, isH W, bN]
  refine Ok_b (c_findStop W S G k1 k2) (fun o ⟨o1, o2, o3, o4⟩ => ?_)
  have Wg := o2.1
  rw [o1]
  simp only [gH0 Wg, gS0 Wg, gH3 Wg, isO_R Wg R4, isO_K Wg K289, bN, s_thingsRead Wg R4 o3.1 s20, mxMin_N (show k < 2147483648 by omega) (show rdT n (stp n k) < 2147483648 by omega), rq_place hx (show min k (rdT n (stp n k)) < 2147483648 by omega), then_l, s_readThingOn Wg K289 R4 o3.1 o4 s20 (show x < 20 by omega), if_pos (show x < rdT n (stp n k) by omega)]
  exact Ok_p ⟨rfl, o2⟩
theorem q_plainDepth (W : WF h) (S : SR h 3 n) (G : GD n j) {k : Nat} (k1 : 1 ≤ k) (k2 : k ≤ 20) : Ok (fX9_plainDepth 2 (Int32.ofNat k) h) (fun x => x.1 = .inl (Int32.ofNat (pst n k)) ∧ Fr QF h x.2) := by
  have hr := inK_mk k1 k2
  unfold fX9_plainDepth
  simp only [rq_range hr, then_l, gH5 W, gH0 W, gS0 W, isO_D W, bN]
  refine Ok_b (s_findPlainStops W G.1 G.2.1 R4 S.1) (fun g ⟨F, v⟩ => ?_)
  have Wg := F.1
  simp only [gH5 Wg, isO_D Wg, bN, s_plainStopOf Wg k1 k2, v k k1 k2]
  exact Ok_p ⟨rfl, F.mono (fun b z => by unfold QF; omega)⟩
theorem q_mergedThing (W : WF h) (S : SR h 3 n) (G : GD n j) {q : Nat} (hq2 : q < mcn n) : Ok (fX9_mergedThing 2 (Int32.ofNat q) h) (fun x => x.1 = .inl (Int32.ofNat (mnr n q % 20)) ∧ Fr QF h x.2) := by
  have m100 := mcn_100 n
  unfold fX9_mergedThing
  simp only [gH6 W, gH0 W, gS0 W, isO_M W, bN]
  refine Ok_b (c_mergeAll W S G) (fun g ⟨F, Sg, K⟩ => ?_)
  have Wg := F.1
  simp only [gH6 Wg, bN, gI_at Wg fd_mc, K.1, rq_place hq2 (show mcn n < 2147483648 by omega), then_l, isO_M Wg, s_mThingOn Wg K hq2]
  exact Ok_p ⟨rfl, F⟩
theorem q_mergedRow (W : WF h) (S : SR h 3 n) (G : GD n j) {q : Nat} (hq2 : q < mcn n) : Ok (fX9_mergedRow 2 (Int32.ofNat q) h) (fun x => x.1 = .inl (Int32.ofNat (mnr n q / 20)) ∧ Fr QF h x.2) := by
  have m100 := mcn_100 n
  unfold fX9_mergedRow
  simp only [gH6 W, gH0 W, gS0 W, isO_M W, bN]
  refine Ok_b (c_mergeAll W S G) (fun g ⟨F, Sg, K⟩ => ?_)
  have Wg := F.1
  simp only [gH6 Wg, bN, gI_at Wg fd_mc, K.1, rq_place hq2 (show mcn n < 2147483648 by omega), then_l, isO_M Wg, s_rowOn Wg K hq2]
  exact Ok_p ⟨rfl, F⟩
theorem q_allComparisons (W : WF h) (S : SR h 3 n) (G : GD n j)  : Ok (fX9_allComparisons 2 h) (fun x => x.1 = cmpAll n ∧ Fr QF h x.2) := by
  unfold fX9_allComparisons
  simp only [gH6 W, gH0 W, gS0 W, isO_M W, bN]
  refine Ok_b (c_mergeAll W S G) (fun g ⟨F, Sg, K⟩ => ?_)
  have Wg := F.1
  simp only [gH6 Wg, isO_M Wg, bN, s_countAll Wg K]
  exact Ok_p ⟨rfl, F⟩
theorem q_candidates (W : WF h) (S : SR h 3 n) (G : GD n j)  : Ok (fX9_candidates 2 h) (fun x => x.1 = Int32.ofNat (cdC n) ∧ Fr QF h x.2) := by
  unfold fX9_candidates
  simp only [gH7 W, gH0 W, gS0 W, isO_V W, bN]
  refine Ok_b (c_gather W S) (fun g ⟨F, Sg, K⟩ => ?_)
  have Wg := F.1
  simp only [gH7 Wg, gI_at Wg fd_vc, bN, K.1]
  exact Ok_p ⟨rfl, F⟩
theorem q_ring (W : WF h) (S : SR h 3 n) (G : GD n j)  : Ok (fX9_ring 2 h) (fun x => x.1 = rgI (cdC n) (srg n) ∧ Fr QF h x.2) := by
  unfold fX9_ring
  simp only [gH7 W, gH0 W, gS0 W, isO_V W, bN]
  refine Ok_b (c_gather W S) (fun g ⟨F, Sg, K⟩ => ?_)
  have Wg := F.1
  simp only [gH7 Wg, isO_V Wg, bN, s_shortestRing Wg K]
  exact Ok_p ⟨rfl, F⟩
theorem q_counted (W : WF h) (S : SR h 3 n) (G : GD n j) {p : Int32} (hp : inI p 0 99 = true) : Ok (fX9_counted 2 p h) (fun x => x.1 = .inl (if ctr n p < mn n then n (225 + ctr n p) else 0) ∧ Fr QF h x.2) := by
  unfold fX9_counted
  simp only [rq_range hp, then_l, gH0 W, gS1 W, isO_N W N27, bN, s_countOf W N27 G.2.2 S.2.1]
  exact Ok_p ⟨rfl, Fr.refl W⟩
theorem q_came (W : WF h) (S : SR h 3 n) (G : GD n j) {k : Nat} (hk : k < 100) : Ok (fX9_came 2 (Int32.ofNat k) h) (fun x => x.1 = .inl (n (111 + k)) ∧ Fr QF h x.2) := by
  have hp := in99_mk hk
  unfold fX9_came
  simp only [rq_range hp, then_l, gH0 W, gS1 W, isO_N W N27, bN, s_timesOf W N27 S.2.1 hk]
  exact Ok_p ⟨rfl, Fr.refl W⟩
theorem q_common (W : WF h) (S : SR h 3 n) (G : GD n j) {a b : Nat} (ha : a < 5) (hb : b < 5) : Ok (fX9_common 2 (Int32.ofNat a) (Int32.ofNat b) h) (fun x => x.1 = .inl (Int32.ofNat (cnt (bth n a b) 20)) ∧ Fr QF h x.2) := by
  unfold fX9_common
  simp only [rq_row ha, rq_row hb, then_l, gH0 W, gS0 W, isO_R W R4, bN, s_countCommon W R4 S.1 ha hb]
  exact Ok_p ⟨rfl, Fr.refl W⟩
theorem q_commonAt (W : WF h) (S : SR h 3 n) (G : GD n j) {a b k : Nat} (ha : a < 5) (hb : b < 5) (hk : k < cnt (bth n a b) 20) : Ok (fX9_commonAt 2 (Int32.ofNat a) (Int32.ofNat b) (Int32.ofNat k) h) (fun x => x.1 = .inl (Int32.ofNat (nth (bth n a b) k 20)) ∧ Fr QF h x.2) := by
  have c20 := cnt_le (bth n a b) 20
  obtain ⟨t1, t2, t3⟩ := nth_found hk
  unfold fX9_commonAt
  simp only [rq_row ha, rq_row hb, then_l, gH0 W, gS0 W, isO_R W R4, bN, s_countCommon W R4 S.1 ha hb, rq_place hk (show cnt (bth n a b) 20 < 2147483648 by omega), s_commonOn W R4 S.1 ha hb (show k < 20 by omega), if_pos t1]
  exact Ok_p ⟨rfl, Fr.refl W⟩
theorem q_errors (W : WF h) (S : SR h 3 n) (G : GD n j)  : Ok (fX9_errors 2 h) (fun x => x.1 = Int32.ofNat (fo (fun s k => s + flt n (k + 1)) 0 20) ∧ Fr QF h x.2) := by
  have m100 := mcn_100 n
  have D20 := dpt_20 n
  unfold fX9_errors
  simp only [gH3 W, gH0 W, gS0 W, isO_K W K289, bN]
  refine Ok_b (c_rankAll W S G) (fun g1 ⟨F1, S1, K1⟩ => ?_)
  have W1 := F1.1
  simp only [gH5 W1, gH0 W1, gS0 W1, gH3 W1, isO_D W1, bN]
  refine Ok_b (s_findStops W1 G.1 G.2.1 K289 R4 S1.1 K1) (fun g2 ⟨F2, v2⟩ => ?_)
  have W2 := F2.1
  have Q2 : Fr QF g1 g2 := F2.mono (fun b z => by unfold QF; omega)
  have S2 := SR_fr S3 S1 Q2 (fun b b1 b2 b3 => by unfold QF; omega)
  have K2 := KR_fr K289 K1 F2 (fun o ho => by omega)
  simp only [gH5 W2, gH0 W2, gS0 W2, isO_D W2, bN]
  refine Ok_b (s_findPlainStops W2 G.1 G.2.1 R4 S2.1) (fun g3 ⟨F3, v3⟩ => ?_)
  have W3 := F3.1
  have Q3 : Fr QF g2 g3 := F3.mono (fun b z => by unfold QF; omega)
  have S3' := SR_fr S3 S2 Q3 (fun b b1 b2 b3 => by unfold QF; omega)
  have K3 := KR_fr K289 K2 F3 (fun o ho => by omega)
  simp only [gH6 W3, gH0 W3, gS0 W3, isO_M W3, bN]
  refine Ok_b (s_mergeAll W3 G.1 R4 S3'.1) (fun g4 ⟨F4, M4⟩ => ?_)
  have W4 := F4.1
  have Q4 : Fr QF g3 g4 := F4.mono (fun b z => by unfold QF; omega)
  have S4 := SR_fr S3 S3' Q4 (fun b b1 b2 b3 => by unfold QF; omega)
  have K4 := KR_fr K289 K3 F4 (fun o ho => by omega)
  have w2 : ∀ k, 1 ≤ k → k ≤ 20 → V g4 298 k = Int32.ofNat (stp n k) := fun k k1 k2 => by
    rw [Fr_V F4 (by omega) (by omega), Fr_V F3 (by omega) (by omega)]; exact v2 k k1 k2
  have w3 : ∀ k, 1 ≤ k → k ≤ 20 → V g4 299 k = Int32.ofNat (pst n k) := fun k k1 k2 => by
    rw [Fr_V F4 (by omega) (by omega)]; exact v3 k k1 k2
  simp only [gH5 W4, gH0 W4, gS0 W4, gH3 W4, gH6 W4, isO_D W4, isO_M W4, bN, s_countFaults W4 K289 R4 S4.1 K4 w2 w3, s_mFaults W4 R4 S4.1 M4, Int32.add_zero]
  exact Ok_p ⟨rfl, ((F1.trans Q2).trans Q3).trans Q4⟩
theorem q_windowAt (W : WF h) (S : SR h 3 n) (G : GD n j) {q : Nat} (hq2 : q < inw n) (b1 : bysz n q < inw n) : Ok (fX9_windowAt 2 (Int32.ofNat q) h) (fun x => x.1 = .inl (wv n (bysz n q)) ∧ Fr QF h x.2) := by
  have h10 := inw_10 G.2.2
  unfold fX9_windowAt
  simp only [gH0 W, gS1 W, bN, gI_at W (fd_2 N27), show V h 27 2 = Int32.ofNat (inw n) from S.2.1.2.1, rq_place hq2 (show inw n < 2147483648 by omega), then_l, isO_N W N27, s_bySize W N27 G.2.2 S.2.1 (show q < 10 by omega), if_pos b1]
  exact Ok_p ⟨rfl, Fr.refl W⟩
theorem q_holds (W : WF h) (S : SR h 3 n) (G : GD n j) {k a b m : Nat} (k1 : 1 ≤ k) (k2 : k ≤ 20) (ha : a < 5) (hb : b < 20) (hm : m < 100) : Ok (fX9_holds 2 (Int32.ofNat k) (Int32.ofNat a) (Int32.ofNat b) (Int32.ofNat m) h) (fun x => x.1 = .inl (bI (!orT (fun j => decide (kat n j ≠ kat (fup n (20 * a + b) (Int32.ofNat m)) j)) k)) ∧ Fr QF h x.2) := by
  have hp := inK_mk k1 k2
  have hx := in99_mk hm
  have G' : MG (fup n (20 * a + b) (Int32.ofNat m)) := MG_fup G.1 hm
  have H' : WG (fup n (20 * a + b) (Int32.ofNat m)) := WG_fup G.2.1 (by omega)
  generalize hn' : fup n (20 * a + b) (Int32.ofNat m) = n' at G' H'
  have r1 := rdT_20 n 20
  have r2 := rdT_20 n' 20
  unfold fX9_holds
  simp only [rq_row ha, rq_thing hb, rq_range hp, rq_range hx, then_l, gH2 W, gH0 W, gS0 W, isO_R W R266, bN]
  refine Ok_b (s_copyRows W R266 R4 (by decide) S.1) (fun g1 ⟨F1, A1⟩ => ?_)
  have W1 := F1.1
  have Q1 : Fr QF h g1 := F1.mono (fun b z => by unfold QF; omega)
  have S1 := SR_fr S3 S Q1 (fun b b1 b2 b3 => by unfold QF; omega)
  simp only [gH2 W1, isO_R W1 R266, bN]
  refine Ok_b (s_setMark W1 R266 A1 ha hb (x := Int32.ofNat m) (by rw [hn']; exact G')) (fun g2 ⟨F2, A2⟩ => ?_)
  rw [hn'] at A2
  have W2 := F2.1
  have Q2 : Fr QF g1 g2 := F2.mono (fun b z => by unfold QF; omega)
  have S2 := SR_fr S3 S1 Q2 (fun b b1 b2 b3 => by unfold QF; omega)
  simp only [gH3 W2, gH0 W2, gS0 W2, isO_K W2 K289, bN]
  refine Ok_b (s_rankAll W2 G.1 G.2.1 K289 R4 S2.1) (fun g3 ⟨F3, B3⟩ => ?_)
  have W3 := F3.1
  have Q3 : Fr QF g2 g3 := F3.mono (fun b z => by unfold QF; omega)
  have A3 := RR_fr R266 A2 F3 (fun o ho => by omega)
  simp only [gH4 W3, gH2 W3, isO_K W3 K293, bN]
  refine Ok_b (s_rankAll W3 G' H' K293 R266 A3) (fun g4 ⟨F4, B4⟩ => ?_)
  have W4 := F4.1
  have Q4 : Fr QF g3 g4 := F4.mono (fun b z => by unfold QF; omega)
  have B5 := KR_fr K289 B3 F4 (fun o ho => by omega)
  simp only [gH3 W4, gH4 W4, isO_K W4 K289, bN, s_hasSameFirst W4 K289 K293 B5 B4 k2, z1_bI]
  exact Ok_p ⟨rfl, ((Q1.trans Q2).trans Q3).trans Q4⟩
theorem q_swaps (W : WF h) (S : SR h 3 n)  : Ok (fX9_swaps 2 h) (fun o => Fr QF h o.2 ∧ ∃ D, DP n D (2 ^ cdC n) ∧ o.1 = Int32.ofNat (D (2 ^ cdC n - 1))) := by
  unfold fX9_swaps
  simp only [gH7 W, gH0 W, gS0 W, isO_V W, bN]
  refine Ok_b (c_gather W S) (fun g ⟨F, Sg, K⟩ => ?_)
  have Wg := F.1
  simp only [gH7 Wg, isO_V Wg, bN]
  exact Ok_b (s_arrange Wg K) (fun o ⟨o1, D, d1, d2, d3, d4⟩ => Ok_p ⟨F.trans (o1.mono (fun b z => by unfold QF; omega)), D, d1, d3⟩)
theorem q_orderAt (W : WF h) (S : SR h 3 n) {q : Nat} (hq2 : q < cdC n) : Ok (fX9_orderAt 2 (Int32.ofNat q) h) (fun o => Fr QF h o.2 ∧ ∃ D, DP n D (2 ^ cdC n) ∧ o.1 = .inl (Int32.ofNat (cd n (fof n D (mks n D q))))) := by
  have C6 := cdC_6 n
  unfold fX9_orderAt
  simp only [gH7 W, gH0 W, gS0 W, isO_V W, bN]
  refine Ok_b (c_gather W S) (fun g ⟨F, Sg, K⟩ => ?_)
  have Wg := F.1
  simp only [gH7 Wg, gI_at Wg fd_vc, K.1, bN, rq_place hq2 (show cdC n < 2147483648 by omega), then_l, isO_V Wg]
  refine Ok_b (s_arrange Wg K) (fun o ⟨o1, D, d1, d2, d3, d4⟩ => ?_)
  have W2 := o1.1
  simp only [gH7 W2, isO_V W2, bN, s_vThingOn W2 (show q < 6 by omega), d4 q hq2]
  exact Ok_p ⟨F.trans (o1.mono (fun b z => by unfold QF; omega)), D, d1, rfl⟩
end
