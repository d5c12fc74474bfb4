/-! THE PURE SIDE, 56: a turn, the law -/
section
variable {h : mxH} {n : Nat → Int32} {j c : Nat} {xs : List Int32} {i a1 a2 a3 a4 : Int32}
theorem T_step (hj : j < 100000) (I : Inv h n c j xs) (S : SC h i a1 a2 a3 a4) (m : Int32) : Ok (fL_step 0 2 319 334 m i h) (Post i j xs) := by
  unfold fL_step
  by_cases c0 : m = 0
  · rw [if_pos c0]; exact T_0 hj I S
  rw [if_neg c0]
  by_cases c1 : m = 1
  · rw [if_pos c1]; exact T_1 hj I S
  rw [if_neg c1]
  by_cases c2 : m = 2
  · rw [if_pos c2]; exact T_2 hj I S
  rw [if_neg c2]
  by_cases c3 : m = 3
  · rw [if_pos c3]; exact T_3 hj I S
  rw [if_neg c3]
  by_cases c4 : m = 4
  · rw [if_pos c4]; exact T_4 hj I S
  rw [if_neg c4]
  by_cases c5 : m = 5
  · rw [if_pos c5]; exact T_5 hj I S
  rw [if_neg c5]
  by_cases c6 : m = 6
  · rw [if_pos c6]; exact T_6 hj I S
  rw [if_neg c6]
  by_cases c7 : m = 7
  · rw [if_pos c7]; exact T_7 hj I S
  rw [if_neg c7]
  by_cases c8 : m = 8
  · rw [if_pos c8]; exact T_8 hj I S
  rw [if_neg c8]
  by_cases c9 : m = 9
  · rw [if_pos c9]; exact T_9 hj I S
  rw [if_neg c9]
  by_cases c10 : m = 10
  · rw [if_pos c10]; exact T_10 hj I S
  rw [if_neg c10]
  by_cases c11 : m = 11
  · rw [if_pos c11]; exact T_11 hj I S
  rw [if_neg c11]
  by_cases c12 : m = 12
  · rw [if_pos c12]; exact T_12 hj I S
  rw [if_neg c12]
  by_cases c13 : m = 13
  · rw [if_pos c13]; exact T_13 hj I S
  rw [if_neg c13]
  by_cases c14 : m = 14
  · rw [if_pos c14]; exact T_14 hj I S
  rw [if_neg c14]
  by_cases c15 : m = 15
  · rw [if_pos c15]; exact T_15 hj I S
  rw [if_neg c15]
  by_cases c16 : m = 16
  · rw [if_pos c16]; exact T_16 hj I S
  rw [if_neg c16]
  by_cases c17 : m = 17
  · rw [if_pos c17]; exact T_17 hj I S
  rw [if_neg c17]
  by_cases c18 : m = 18
  · rw [if_pos c18]; exact T_18 hj I S
  rw [if_neg c18]
  by_cases c19 : m = 19
  · rw [if_pos c19]; exact T_19 hj I S
  rw [if_neg c19]
  by_cases c20 : m = 20
  · rw [if_pos c20]; exact T_20 hj I S
  rw [if_neg c20]
  by_cases c21 : m = 21
  · rw [if_pos c21]; exact T_21 hj I S
  rw [if_neg c21]
  by_cases c22 : m = 22
  · rw [if_pos c22]; exact T_22 hj I S
  rw [if_neg c22]
  by_cases c23 : m = 23
  · rw [if_pos c23]; exact T_23 hj I S
  rw [if_neg c23]
  by_cases c24 : m = 24
  · rw [if_pos c24]; exact T_24 hj I S
  rw [if_neg c24]
  by_cases c25 : m = 25
  · rw [if_pos c25]; exact T_25 hj I S
  rw [if_neg c25]
  by_cases c26 : m = 26
  · rw [if_pos c26]; exact T_26 hj I S
  rw [if_neg c26]
  by_cases c27 : m = 27
  · rw [if_pos c27]; exact T_27 hj I S
  rw [if_neg c27]
  by_cases c28 : m = 28
  · rw [if_pos c28]; exact T_28 hj I S
  rw [if_neg c28]
  by_cases c29 : m = 29
  · rw [if_pos c29]; exact T_29 hj I S
  rw [if_neg c29]
  by_cases c30 : m = 30
  · rw [if_pos c30]; exact T_30 hj I S
  rw [if_neg c30]
  by_cases c31 : m = 31
  · rw [if_pos c31]; exact T_31 hj I S
  rw [if_neg c31]
  by_cases c32 : m = 32
  · rw [if_pos c32]; exact T_32 hj I S
  rw [if_neg c32]
  by_cases c33 : m = 33
  · rw [if_pos c33]; exact T_33 hj I S
  rw [if_neg c33]
  by_cases c34 : m = 34
  · rw [if_pos c34]; exact T_34 hj I S
  rw [if_neg c34]
  by_cases c35 : m = 35
  · rw [if_pos c35]; exact T_35 hj I S
  rw [if_neg c35]
  by_cases c36 : m = 36
  · rw [if_pos c36]; exact T_36 hj I S
  rw [if_neg c36]
  by_cases c37 : m = 37
  · rw [if_pos c37]; exact T_37 hj I S
  rw [if_neg c37]
  by_cases c38 : m = 38
  · rw [if_pos c38]; exact T_38 hj I S
  rw [if_neg c38]
  by_cases c39 : m = 39
  · rw [if_pos c39]; exact T_39 hj I S
  rw [if_neg c39]
  by_cases c40 : m = 40
  · rw [if_pos c40]; exact T_40 hj I S
  rw [if_neg c40]
  by_cases c41 : m = 41
  · rw [if_pos c41]; exact T_41 hj I S
  rw [if_neg c41]
  by_cases c42 : m = 42
  · rw [if_pos c42]; exact T_42 hj I S
  rw [if_neg c42]
  by_cases c43 : m = 43
  · rw [if_pos c43]; exact T_43 hj I S
  rw [if_neg c43]
  by_cases c44 : m = 44
  · rw [if_pos c44]; exact T_44 hj I S
  rw [if_neg c44]
  by_cases c45 : m = 45
  · rw [if_pos c45]; exact T_45 hj I S
  rw [if_neg c45]
  by_cases c46 : m = 46
  · rw [if_pos c46]; exact T_46 hj I S
  rw [if_neg c46]
  by_cases c47 : m = 47
  · rw [if_pos c47]; exact T_47 hj I S
  rw [if_neg c47]
  by_cases c48 : m = 48
  · rw [if_pos c48]; exact T_48 hj I S
  rw [if_neg c48]
  by_cases c49 : m = 49
  · rw [if_pos c49]; exact T_49 hj I S
  rw [if_neg c49]
  by_cases c50 : m = 50
  · rw [if_pos c50]; exact T_50 hj I S
  rw [if_neg c50]
  refine Ok_p ⟨rfl, n, c, Inv_fr (P := fun _ => False) I (Fr.refl I.1) (fun b z => z.elim) rfl rfl⟩
end
theorem ld_0 {h : mxH} {xs : List Int32} {k : Nat} (W : WF h) (e : h.1 0 = (100, xs, [])) (hk : k < xs.length) (hx : xs.length ≤ 2560) : ∃ x, ldI h 0 (Int32.ofNat k) = some x := by
  refine ⟨xs[k], ?_⟩
  unfold ldI
  rw [if_pos ⟨by rw [W.1]; omega, by rw [e], ofN_nn (by omega)⟩, e, ofN_clamp (by omega)]
  exact List.getElem?_eq_getElem hk
theorem len_0 {h : mxH} {xs : List Int32} (W : WF h) (e : h.1 0 = (100, xs, [])) : lenA h 0 = some (Int32.ofNat xs.length) := by
  unfold lenA mxCont
  rw [if_pos ⟨by rw [W.1]; omega, by rw [e]; exact (by decide : 100 ≤ 100), by rw [e]; exact (by decide : 100 < 105)⟩, e]
  show some (Int32.ofNat (if (100 : Nat) = 100 ∨ (100 : Nat) = 101 then xs.map Value.int else []).length) = _
  rw [if_pos (Or.inl rfl), List.length_map]
theorem end_cmp {l j : Nat} (hl : l ≤ 2560) (hj : j ≤ 512) : Int32.ofNat l - 5 < Int32.ofNat (5 * j) ↔ l < 5 * j + 5 := by
  have e5 : (5 : Int32).toInt = 5 := by decide
  rw [i32_lt, Int32.toInt_sub, ofN_int (by omega), ofN_int (by omega), e5, Int.bmod_eq_of_le (by omega) (by omega)]
  omega
theorem law_pure (xs : List Int32) (hxs : xs.length ≤ 2560) : ∃ h' : mxH, fL_law (mxH0 xs) = some h' := by
  have key : Ok (fL_law (mxH0 xs)) (fun _ => True) := by
    unfold fL_law
    have F0 : Fresh (mxH0 xs) := fun b hb => by
      have hb : 2 ≤ b := hb
      show (if b = 0 then ((100, xs, []) : mxE) else if b = 1 then (100, mxFI, []) else (300, [], [])).1 = 300
      rw [if_neg (by omega), if_neg (by omega)]
    have e0 : (mxH0 xs).1 0 = (100, xs, []) := rfl
    have e1 : (mxH0 xs).1 1 = (100, mxFI, []) := rfl
    refine Ok_b (PS_0 (r := 2) rfl F0 9 _) (fun h1 P1 => ?_)
    refine Ok_b (show Ok (fX9_init 2 h1) _ from i_house P1 e0 e1) (fun h2 H2 => ?_)
    refine Ok_b (PS_0 (r := 319) H2.1 H2.2.1 10 _) (fun h3 P3 => ?_)
    rw [H2.1]
    refine Ok_b (i_model H2 P3) (fun h4 ⟨t4, ej, H4⟩ => ?_)
    rw [t4]
    obtain ⟨h5, e5⟩ := ej
    obtain ⟨n, I⟩ := H4 h5 e5
    refine Ok_s e5 ?_
    have := mxLoop_run (f := fL_loop 2 319 334) (I := fun k s => ∃ j n c, j + k = 512 ∧ s.1 = Int32.ofNat (5 * j) ∧ Inv s.2 n c j xs) (E := fun _ => True) (fun k s hs => ?_) 600 512 (0, h5) (by omega) ⟨0, n, 0, by omega, rfl, I⟩
    · obtain ⟨r, er, -⟩ := this
      exact ⟨r, er, trivial⟩
    · obtain ⟨q, g⟩ := s
      obtain ⟨j, n, c, hjk, eq, I⟩ := hs
      obtain rfl := show q = _ from eq
      have I : Inv g n c j xs := I
      have W := I.1
      have s0 := I.2.1
      by_cases z : xs.length < 5 * j + 5
      · refine Or.inr ⟨g, ?_, trivial⟩
        unfold fL_loop
        simp only [len_0 W s0, bN]
        rw [if_pos ((end_cmp hxs (by omega)).mpr z)]
      · have hj : j < 512 := by omega
        obtain ⟨w, ew⟩ := ld_0 (k := 5 * j) W s0 (by omega) hxs
        obtain ⟨a1, x1⟩ := ld_0 (k := 5 * j + 1) W s0 (by omega) hxs
        obtain ⟨a2, x2⟩ := ld_0 (k := 5 * j + 2) W s0 (by omega) hxs
        obtain ⟨a3, x3⟩ := ld_0 (k := 5 * j + 3) W s0 (by omega) hxs
        obtain ⟨a4, x4⟩ := ld_0 (k := 5 * j + 4) W s0 (by omega) hxs
        have S : SC g (Int32.ofNat (5 * j)) a1 a2 a3 a4 := ⟨by rw [show Int32.ofNat (5 * j) + 1 = Int32.ofNat (5 * j + 1) from ofN_add _ _]; exact x1, by rw [show Int32.ofNat (5 * j) + 2 = Int32.ofNat (5 * j + 2) from ofN_add _ _]; exact x2, by rw [show Int32.ofNat (5 * j) + 3 = Int32.ofNat (5 * j + 3) from ofN_add _ _]; exact x3, by rw [show Int32.ofNat (5 * j) + 4 = Int32.ofNat (5 * j + 4) from ofN_add _ _]; exact x4⟩
        obtain ⟨o, eo, o1, n', c', I'⟩ := T_step (show j < 100000 by omega) I S (w &&& 63)
        refine Or.inl ⟨o, ?_, by omega, j + 1, n', c', by omega, ?_, I'⟩
        · unfold fL_loop
          simp only [len_0 W s0, bN]
          rw [if_neg (fun y => z ((end_cmp hxs (by omega)).mp y)), ew]
          simp only [bN, eo]
        · rw [o1]
          exact ofN_add _ _
  obtain ⟨h', e, -⟩ := key
  exact ⟨h', e⟩
