/-! printed by wip/gen/emit.py: for each method its function on the mini machine, and that the machine walks as the function says -/
theorem dX10_mergedRow_0 : decode cX10_mergedRow 0 = .ok (.aload_n 0, 1) := by decide +kernel
theorem dX10_mergedRow_1 : decode cX10_mergedRow 1 = .ok (.iconst 0, 1) := by decide +kernel
theorem dX10_mergedRow_2 : decode cX10_mergedRow 2 = .ok (.putfield 61, 3) := by decide +kernel
theorem dX10_mergedRow_5 : decode cX10_mergedRow 5 = .ok (.iload_n 1, 1) := by decide +kernel
theorem dX10_mergedRow_6 : decode cX10_mergedRow 6 = .ok (.iconst 0, 1) := by decide +kernel
theorem dX10_mergedRow_7 : decode cX10_mergedRow 7 = .ok (.aload_n 0, 1) := by decide +kernel
theorem dX10_mergedRow_8 : decode cX10_mergedRow 8 = .ok (.aload_n 0, 1) := by decide +kernel
theorem dX10_mergedRow_9 : decode cX10_mergedRow 9 = .ok (.getfield 25, 3) := by decide +kernel
theorem dX10_mergedRow_12 : decode cX10_mergedRow 12 = .ok (.iconst (-1), 1) := by decide +kernel
theorem dX10_mergedRow_13 : decode cX10_mergedRow 13 = .ok (.invokevirtual 140, 3) := by decide +kernel
theorem dX10_mergedRow_16 : decode cX10_mergedRow 16 = .ok (.iconst 1, 1) := by decide +kernel
theorem dX10_mergedRow_17 : decode cX10_mergedRow 17 = .ok (.isub, 1) := by decide +kernel
theorem dX10_mergedRow_18 : decode cX10_mergedRow 18 = .ok (.invokestatic 65, 3) := by decide +kernel
theorem dX10_mergedRow_21 : decode cX10_mergedRow 21 = .ok (.ifCond .eq 18, 3) := by decide +kernel
theorem dX10_mergedRow_24 : decode cX10_mergedRow 24 = .ok (.aload_n 0, 1) := by decide +kernel
theorem dX10_mergedRow_25 : decode cX10_mergedRow 25 = .ok (.getfield 25, 3) := by decide +kernel
theorem dX10_mergedRow_28 : decode cX10_mergedRow 28 = .ok (.iload_n 1, 1) := by decide +kernel
theorem dX10_mergedRow_29 : decode cX10_mergedRow 29 = .ok (.iaload, 1) := by decide +kernel
theorem dX10_mergedRow_30 : decode cX10_mergedRow 30 = .ok (.bipush 100, 2) := by decide +kernel
theorem dX10_mergedRow_32 : decode cX10_mergedRow 32 = .ok (.irem, 1) := by decide +kernel
theorem dX10_mergedRow_33 : decode cX10_mergedRow 33 = .ok (.bipush 20, 2) := by decide +kernel
theorem dX10_mergedRow_35 : decode cX10_mergedRow 35 = .ok (.idiv, 1) := by decide +kernel
theorem dX10_mergedRow_36 : decode cX10_mergedRow 36 = .ok (.goto 8, 3) := by decide +kernel
theorem dX10_mergedRow_39 : decode cX10_mergedRow 39 = .ok (.aload_n 0, 1) := by decide +kernel
theorem dX10_mergedRow_40 : decode cX10_mergedRow 40 = .ok (.iconst 1, 1) := by decide +kernel
theorem dX10_mergedRow_41 : decode cX10_mergedRow 41 = .ok (.invokevirtual 178, 3) := by decide +kernel
theorem dX10_mergedRow_44 : decode cX10_mergedRow 44 = .ok (.ireturn, 1) := by decide +kernel
def fX10_mergedRow (p0 : Nat) (p1 : Int32) (h : mxH) : Option (Int32 × mxH) := Option.bind (pI h p0 10 3 0) (fun h1 => Option.bind (gR h1 p0 10 7) (fun r3 => Option.bind (isO h1 p0 10) (fun u5 => Option.bind (fX10_keysOf p0 r3 (-1) h1) (fun o8 => Option.bind (fX10_in p1 0 (o8.1 - 1) o8.2) (fun v10 => Option.bind (α := (Int32 × mxH)) (if v10 = 0 then Option.bind (isO o8.2 p0 10) (fun u15 => Option.bind (fX10_fails p0 1 o8.2) (fun o18 => some (o18.1, o18.2))) else Option.bind (gR o8.2 p0 10 7) (fun r19 => Option.bind (ldI o8.2 r19 p1) (fun v21 => some ((v21 - v21 / 100 * 100) / 20, o8.2)))) (fun p13' : (Int32 × mxH) => some (p13'.1, p13'.2)))))))
abbrev rmX10_mergedRow : Room := { frames := 3, cells := 0, slots := 0, locals := 70 }
set_option maxRecDepth 20000 in
theorem tX10_mergedRow {l : Launch} {Z : mxZ} (hl : l.stackTraces = false) {p0 : Nat} {p1 : Int32} {h : mxH} {out : (Int32 × mxH)} (hf : fX10_mergedRow p0 p1 h = some out) : mxMet l Z yX10_mergedRow cX10_mergedRow 2 (some .int) rmX10_mergedRow [.ref p0, .int p1] h (.inl (some (.int out.1))) out.2 := by
  refine mxMet_of (by decide) hl (by simp [Value.category]) (Nat.le_of_ble_eq_true rfl) ?_
  intro X C E hX hin
  unfold fX10_mergedRow at hf
  refine mG_aload_n (pc := 0) C dX10_mergedRow_0 rfl ?_
  refine mG_ic (pc := 1) C dX10_mergedRow_1 kI0 ?_
  obtain ⟨h1, e2, hf⟩ := mx_bind hf
  refine mG_putI (pc := 2) C dX10_mergedRow_2 fl_X10_61 e2 ?_
  refine mG_iload_n (pc := 5) C dX10_mergedRow_5 rfl ?_
  refine mG_ic (pc := 6) C dX10_mergedRow_6 kI0 ?_
  refine mG_aload_n (pc := 7) C dX10_mergedRow_7 rfl ?_
  refine mG_aload_n (pc := 8) C dX10_mergedRow_8 rfl ?_
  obtain ⟨r3, e4, hf⟩ := mx_bind hf
  refine mG_getR (pc := 9) C dX10_mergedRow_9 fl_X10_25 e4 ?_
  refine mG_ic (pc := 12) C dX10_mergedRow_12 kIm1 ?_
  obtain ⟨u5, e6, hf⟩ := mx_bind hf
  obtain ⟨o8, e7, hf⟩ := mx_bind hf
  refine mG_cV (pc := 13) (k' := 0) (n' := 0) 10 [.ref r3, .int (-1)] [.int 0, .int p1] C hX dX10_mergedRow_13 lkV_X10_140 rfl rfl e6 (tX10_keysOf hl e7) rfl rfl rfl rfl ?_
  refine mG_ic (pc := 16) C dX10_mergedRow_16 kI1 ?_
  refine mG_isub (pc := 17) C dX10_mergedRow_17 ?_
  obtain ⟨v10, e9, hf⟩ := mx_bind hf
  refine mG_cS (pc := 18) (k' := 0) (n' := 0) [.int p1, .int 0, .int (o8.1 - 1)] [] C hX dX10_mergedRow_18 lkS_X10_65 rfl (tX10_in hl e9) rfl rfl rfl rfl ?_
  obtain ⟨p13, e14, hf⟩ := mx_bind hf
  have J12 : ∀ p13' : (Int32 × mxH), p13' = p13 → mG l Z X 2 0 0 44 [none, none] [.int p13'.1] p13'.2 := by
    intro p13' q23
    subst q23
    cases hf
    exact mG_ir (pc := 44) C E hX dX10_mergedRow_44 rfl
  refine mG_if_eq (pc := 21) (tgt := 39) C dX10_mergedRow_21 (by decide) (fun q11 => ?_) (fun q11 => ?_)
  · rw [if_pos q11] at e14
    refine mG_aload_n (pc := 39) C dX10_mergedRow_39 rfl ?_
    refine mG_ic (pc := 40) C dX10_mergedRow_40 kI1 ?_
    obtain ⟨u15, e16, e14⟩ := mx_bind e14
    obtain ⟨o18, e17, e14⟩ := mx_bind e14
    refine mG_cV (pc := 41) (k' := 0) (n' := 0) 10 [.int 1] [] C hX dX10_mergedRow_41 lkV_X10_178 rfl rfl e16 (tX10_fails hl e17) rfl rfl rfl rfl ?_
    exact mG_sub (mxLe_n (mxLe_n mxLe_z)) (J12 _ (Option.some.inj e14))
  · rw [if_neg q11] at e14
    refine mG_aload_n (pc := 24) C dX10_mergedRow_24 rfl ?_
    obtain ⟨r19, e20, e14⟩ := mx_bind e14
    refine mG_getR (pc := 25) C dX10_mergedRow_25 fl_X10_25 e20 ?_
    refine mG_iload_n (pc := 28) C dX10_mergedRow_28 rfl ?_
    obtain ⟨v21, e22, e14⟩ := mx_bind e14
    refine mG_iaload (pc := 29) C dX10_mergedRow_29 e22 ?_
    refine mG_bp (pc := 30) C dX10_mergedRow_30 kB100 ?_
    refine mG_irem (pc := 32) C dX10_mergedRow_32 (by decide) ?_
    refine mG_bp (pc := 33) C dX10_mergedRow_33 kB20 ?_
    refine mG_idiv (pc := 35) C dX10_mergedRow_35 (by decide) ?_
    refine mG_goto (tgt := 44) (pc := 36) C dX10_mergedRow_36 (by decide) ?_
    exact mG_sub (mxLe_n (mxLe_n mxLe_z)) (J12 _ (Option.some.inj e14))
theorem dX10_comparisons_0 : decode cX10_comparisons 0 = .ok (.aload_n 0, 1) := by decide +kernel
theorem dX10_comparisons_1 : decode cX10_comparisons 1 = .ok (.iconst 0, 1) := by decide +kernel
theorem dX10_comparisons_2 : decode cX10_comparisons 2 = .ok (.putfield 61, 3) := by decide +kernel
theorem dX10_comparisons_5 : decode cX10_comparisons 5 = .ok (.iload_n 1, 1) := by decide +kernel
theorem dX10_comparisons_6 : decode cX10_comparisons 6 = .ok (.invokestatic 172, 3) := by decide +kernel
theorem dX10_comparisons_9 : decode cX10_comparisons 9 = .ok (.ifCond .eq 10, 3) := by decide +kernel
theorem dX10_comparisons_12 : decode cX10_comparisons 12 = .ok (.iload_n 2, 1) := by decide +kernel
theorem dX10_comparisons_13 : decode cX10_comparisons 13 = .ok (.invokestatic 172, 3) := by decide +kernel
theorem dX10_comparisons_16 : decode cX10_comparisons 16 = .ok (.ifCond .ne 9, 3) := by decide +kernel
theorem dX10_comparisons_19 : decode cX10_comparisons 19 = .ok (.aload_n 0, 1) := by decide +kernel
theorem dX10_comparisons_20 : decode cX10_comparisons 20 = .ok (.iconst 1, 1) := by decide +kernel
theorem dX10_comparisons_21 : decode cX10_comparisons 21 = .ok (.invokevirtual 178, 3) := by decide +kernel
theorem dX10_comparisons_24 : decode cX10_comparisons 24 = .ok (.ireturn, 1) := by decide +kernel
theorem dX10_comparisons_25 : decode cX10_comparisons 25 = .ok (.iload_n 1, 1) := by decide +kernel
theorem dX10_comparisons_26 : decode cX10_comparisons 26 = .ok (.iload_n 2, 1) := by decide +kernel
theorem dX10_comparisons_27 : decode cX10_comparisons 27 = .ok (.if_icmp .eq 12, 3) := by decide +kernel
theorem dX10_comparisons_30 : decode cX10_comparisons 30 = .ok (.aload_n 0, 1) := by decide +kernel
theorem dX10_comparisons_31 : decode cX10_comparisons 31 = .ok (.iload_n 1, 1) := by decide +kernel
theorem dX10_comparisons_32 : decode cX10_comparisons 32 = .ok (.iload_n 2, 1) := by decide +kernel
theorem dX10_comparisons_33 : decode cX10_comparisons 33 = .ok (.invokevirtual 202, 3) := by decide +kernel
theorem dX10_comparisons_36 : decode cX10_comparisons 36 = .ok (.goto 8, 3) := by decide +kernel
theorem dX10_comparisons_39 : decode cX10_comparisons 39 = .ok (.aload_n 0, 1) := by decide +kernel
theorem dX10_comparisons_40 : decode cX10_comparisons 40 = .ok (.iconst 2, 1) := by decide +kernel
theorem dX10_comparisons_41 : decode cX10_comparisons 41 = .ok (.invokevirtual 178, 3) := by decide +kernel
theorem dX10_comparisons_44 : decode cX10_comparisons 44 = .ok (.ireturn, 1) := by decide +kernel
def fX10_comparisons (p0 : Nat) (p1 : Int32) (p2 : Int32) (h : mxH) : Option (Int32 × mxH) := Option.bind (pI h p0 10 3 0) (fun h1 => Option.bind (fX10_isRow p1 h1) (fun v4 => (if v4 = 0 then Option.bind (isO h1 p0 10) (fun u6 => Option.bind (fX10_fails p0 1 h1) (fun o9 => some (o9.1, o9.2))) else Option.bind (fX10_isRow p2 h1) (fun v11 => (if v11 = 0 then Option.bind (isO h1 p0 10) (fun u26 => Option.bind (fX10_fails p0 1 h1) (fun o29 => some (o29.1, o29.2))) else Option.bind (α := (Int32 × mxH)) (if p1 = p2 then Option.bind (isO h1 p0 10) (fun u17 => Option.bind (fX10_fails p0 2 h1) (fun o20 => some (o20.1, o20.2))) else Option.bind (isO h1 p0 10) (fun u21 => Option.bind (fX10_comparedRows p0 p1 p2 h1) (fun o24 => some (o24.1, o24.2)))) (fun p15' : (Int32 × mxH) => some (p15'.1, p15'.2)))))))
abbrev rmX10_comparisons : Room := { frames := 4, cells := 0, slots := 0, locals := 94 }
set_option maxRecDepth 20000 in
theorem tX10_comparisons {l : Launch} {Z : mxZ} (hl : l.stackTraces = false) {p0 : Nat} {p1 : Int32} {p2 : Int32} {h : mxH} {out : (Int32 × mxH)} (hf : fX10_comparisons p0 p1 p2 h = some out) : mxMet l Z yX10_comparisons cX10_comparisons 3 (some .int) rmX10_comparisons [.ref p0, .int p1, .int p2] h (.inl (some (.int out.1))) out.2 := by
  refine mxMet_of (by decide) hl (by simp [Value.category]) (Nat.le_of_ble_eq_true rfl) ?_
  intro X C E hX hin
  unfold fX10_comparisons at hf
  refine mG_aload_n (pc := 0) C dX10_comparisons_0 rfl ?_
  refine mG_ic (pc := 1) C dX10_comparisons_1 kI0 ?_
  obtain ⟨h1, e2, hf⟩ := mx_bind hf
  refine mG_putI (pc := 2) C dX10_comparisons_2 fl_X10_61 e2 ?_
  refine mG_iload_n (pc := 5) C dX10_comparisons_5 rfl ?_
  obtain ⟨v4, e3, hf⟩ := mx_bind hf
  refine mG_cS (pc := 6) (k' := 0) (n' := 0) [.int p1] [] C hX dX10_comparisons_6 lkS_X10_172 rfl (tX10_isRow hl e3) rfl rfl rfl rfl ?_
  refine mG_if_eq (pc := 9) (tgt := 19) C dX10_comparisons_9 (by decide) (fun q5 => ?_) (fun q5 => ?_)
  · rw [if_pos q5] at hf
    refine mG_aload_n (pc := 19) C dX10_comparisons_19 rfl ?_
    refine mG_ic (pc := 20) C dX10_comparisons_20 kI1 ?_
    obtain ⟨u6, e7, hf⟩ := mx_bind hf
    obtain ⟨o9, e8, hf⟩ := mx_bind hf
    refine mG_cV (pc := 21) (k' := 0) (n' := 0) 10 [.int 1] [] C hX dX10_comparisons_21 lkV_X10_178 rfl rfl e7 (tX10_fails hl e8) rfl rfl rfl rfl ?_
    cases hf
    exact mG_ir (pc := 24) C E hX dX10_comparisons_24 rfl
  · rw [if_neg q5] at hf
    refine mG_iload_n (pc := 12) C dX10_comparisons_12 rfl ?_
    obtain ⟨v11, e10, hf⟩ := mx_bind hf
    refine mG_cS (pc := 13) (k' := 0) (n' := 0) [.int p2] [] C hX dX10_comparisons_13 lkS_X10_172 rfl (tX10_isRow hl e10) rfl rfl rfl rfl ?_
    refine mG_if_ne (pc := 16) (tgt := 25) C dX10_comparisons_16 (by decide) (fun q12 => ?_) (fun q12 => ?_)
    · rw [if_neg q12] at hf
      refine mG_iload_n (pc := 25) C dX10_comparisons_25 rfl ?_
      refine mG_iload_n (pc := 26) C dX10_comparisons_26 rfl ?_
      obtain ⟨p15, e16, hf⟩ := mx_bind hf
      have J14 : ∀ p15' : (Int32 × mxH), p15' = p15 → mG l Z X 3 0 0 44 [none, none, none] [.int p15'.1] p15'.2 := by
        intro p15' q25
        subst q25
        cases hf
        exact mG_ir (pc := 44) C E hX dX10_comparisons_44 rfl
      refine mG_icmp_eq (pc := 27) (tgt := 39) C dX10_comparisons_27 (by decide) (fun q13 => ?_) (fun q13 => ?_)
      · rw [if_pos q13] at e16
        refine mG_aload_n (pc := 39) C dX10_comparisons_39 rfl ?_
        refine mG_ic (pc := 40) C dX10_comparisons_40 kI2 ?_
        obtain ⟨u17, e18, e16⟩ := mx_bind e16
        obtain ⟨o20, e19, e16⟩ := mx_bind e16
        refine mG_cV (pc := 41) (k' := 0) (n' := 0) 10 [.int 2] [] C hX dX10_comparisons_41 lkV_X10_178 rfl rfl e18 (tX10_fails hl e19) rfl rfl rfl rfl ?_
        exact mG_sub (mxLe_n (mxLe_n (mxLe_n mxLe_z))) (J14 _ (Option.some.inj e16))
      · rw [if_neg q13] at e16
        refine mG_aload_n (pc := 30) C dX10_comparisons_30 rfl ?_
        refine mG_iload_n (pc := 31) C dX10_comparisons_31 rfl ?_
        refine mG_iload_n (pc := 32) C dX10_comparisons_32 rfl ?_
        obtain ⟨u21, e22, e16⟩ := mx_bind e16
        obtain ⟨o24, e23, e16⟩ := mx_bind e16
        refine mG_cV (pc := 33) (k' := 0) (n' := 0) 10 [.int p1, .int p2] [] C hX dX10_comparisons_33 lkV_X10_202 rfl rfl e22 (tX10_comparedRows hl e23) rfl rfl rfl rfl ?_
        refine mG_goto (tgt := 44) (pc := 36) C dX10_comparisons_36 (by decide) ?_
        exact mG_sub (mxLe_n (mxLe_n (mxLe_n mxLe_z))) (J14 _ (Option.some.inj e16))
    · rw [if_pos q12] at hf
      refine mG_aload_n (pc := 19) C dX10_comparisons_19 rfl ?_
      refine mG_ic (pc := 20) C dX10_comparisons_20 kI1 ?_
      obtain ⟨u26, e27, hf⟩ := mx_bind hf
      obtain ⟨o29, e28, hf⟩ := mx_bind hf
      refine mG_cV (pc := 21) (k' := 0) (n' := 0) 10 [.int 1] [] C hX dX10_comparisons_21 lkV_X10_178 rfl rfl e27 (tX10_fails hl e28) rfl rfl rfl rfl ?_
      cases hf
      exact mG_ir (pc := 24) C E hX dX10_comparisons_24 rfl
theorem dX10_allComparisons_0 : decode cX10_allComparisons 0 = .ok (.aload_n 0, 1) := by decide +kernel
theorem dX10_allComparisons_1 : decode cX10_allComparisons 1 = .ok (.iconst 0, 1) := by decide +kernel
theorem dX10_allComparisons_2 : decode cX10_allComparisons 2 = .ok (.putfield 61, 3) := by decide +kernel
theorem dX10_allComparisons_5 : decode cX10_allComparisons 5 = .ok (.aload_n 0, 1) := by decide +kernel
theorem dX10_allComparisons_6 : decode cX10_allComparisons 6 = .ok (.iconst 0, 1) := by decide +kernel
theorem dX10_allComparisons_7 : decode cX10_allComparisons 7 = .ok (.iconst 1, 1) := by decide +kernel
theorem dX10_allComparisons_8 : decode cX10_allComparisons 8 = .ok (.invokevirtual 202, 3) := by decide +kernel
theorem dX10_allComparisons_11 : decode cX10_allComparisons 11 = .ok (.aload_n 0, 1) := by decide +kernel
theorem dX10_allComparisons_12 : decode cX10_allComparisons 12 = .ok (.iconst 2, 1) := by decide +kernel
theorem dX10_allComparisons_13 : decode cX10_allComparisons 13 = .ok (.iconst 3, 1) := by decide +kernel
theorem dX10_allComparisons_14 : decode cX10_allComparisons 14 = .ok (.invokevirtual 202, 3) := by decide +kernel
theorem dX10_allComparisons_17 : decode cX10_allComparisons 17 = .ok (.iadd, 1) := by decide +kernel
theorem dX10_allComparisons_18 : decode cX10_allComparisons 18 = .ok (.istore_n 1, 1) := by decide +kernel
theorem dX10_allComparisons_19 : decode cX10_allComparisons 19 = .ok (.aload_n 0, 1) := by decide +kernel
theorem dX10_allComparisons_20 : decode cX10_allComparisons 20 = .ok (.aload_n 0, 1) := by decide +kernel
theorem dX10_allComparisons_21 : decode cX10_allComparisons 21 = .ok (.getfield 25, 3) := by decide +kernel
theorem dX10_allComparisons_24 : decode cX10_allComparisons 24 = .ok (.iconst 0, 1) := by decide +kernel
theorem dX10_allComparisons_25 : decode cX10_allComparisons 25 = .ok (.iconst 1, 1) := by decide +kernel
theorem dX10_allComparisons_26 : decode cX10_allComparisons 26 = .ok (.invokevirtual 205, 3) := by decide +kernel
theorem dX10_allComparisons_29 : decode cX10_allComparisons 29 = .ok (.istore_n 2, 1) := by decide +kernel
theorem dX10_allComparisons_30 : decode cX10_allComparisons 30 = .ok (.aload_n 0, 1) := by decide +kernel
theorem dX10_allComparisons_31 : decode cX10_allComparisons 31 = .ok (.aload_n 0, 1) := by decide +kernel
theorem dX10_allComparisons_32 : decode cX10_allComparisons 32 = .ok (.getfield 28, 3) := by decide +kernel
theorem dX10_allComparisons_35 : decode cX10_allComparisons 35 = .ok (.iconst 2, 1) := by decide +kernel
theorem dX10_allComparisons_36 : decode cX10_allComparisons 36 = .ok (.iconst 3, 1) := by decide +kernel
theorem dX10_allComparisons_37 : decode cX10_allComparisons 37 = .ok (.invokevirtual 205, 3) := by decide +kernel
theorem dX10_allComparisons_40 : decode cX10_allComparisons 40 = .ok (.istore_n 3, 1) := by decide +kernel
theorem dX10_allComparisons_41 : decode cX10_allComparisons 41 = .ok (.iload_n 1, 1) := by decide +kernel
theorem dX10_allComparisons_42 : decode cX10_allComparisons 42 = .ok (.aload_n 0, 1) := by decide +kernel
theorem dX10_allComparisons_43 : decode cX10_allComparisons 43 = .ok (.getfield 25, 3) := by decide +kernel
theorem dX10_allComparisons_46 : decode cX10_allComparisons 46 = .ok (.iload_n 2, 1) := by decide +kernel
theorem dX10_allComparisons_47 : decode cX10_allComparisons 47 = .ok (.aload_n 0, 1) := by decide +kernel
theorem dX10_allComparisons_48 : decode cX10_allComparisons 48 = .ok (.getfield 28, 3) := by decide +kernel
theorem dX10_allComparisons_51 : decode cX10_allComparisons 51 = .ok (.iload_n 3, 1) := by decide +kernel
theorem dX10_allComparisons_52 : decode cX10_allComparisons 52 = .ok (.invokestatic 143, 3) := by decide +kernel
theorem dX10_allComparisons_55 : decode cX10_allComparisons 55 = .ok (.iadd, 1) := by decide +kernel
theorem dX10_allComparisons_56 : decode cX10_allComparisons 56 = .ok (.istore_n 1, 1) := by decide +kernel
theorem dX10_allComparisons_57 : decode cX10_allComparisons 57 = .ok (.aload_n 0, 1) := by decide +kernel
theorem dX10_allComparisons_58 : decode cX10_allComparisons 58 = .ok (.aload_n 0, 1) := by decide +kernel
theorem dX10_allComparisons_59 : decode cX10_allComparisons 59 = .ok (.getfield 25, 3) := by decide +kernel
theorem dX10_allComparisons_62 : decode cX10_allComparisons 62 = .ok (.iconst (-1), 1) := by decide +kernel
theorem dX10_allComparisons_63 : decode cX10_allComparisons 63 = .ok (.invokevirtual 140, 3) := by decide +kernel
theorem dX10_allComparisons_66 : decode cX10_allComparisons 66 = .ok (.istore 4, 2) := by decide +kernel
theorem dX10_allComparisons_68 : decode cX10_allComparisons 68 = .ok (.iconst 0, 1) := by decide +kernel
theorem dX10_allComparisons_69 : decode cX10_allComparisons 69 = .ok (.istore 5, 2) := by decide +kernel
theorem dX10_allComparisons_71 : decode cX10_allComparisons 71 = .ok (.iconst 0, 1) := by decide +kernel
theorem dX10_allComparisons_72 : decode cX10_allComparisons 72 = .ok (.istore 6, 2) := by decide +kernel
theorem dX10_allComparisons_74 : decode cX10_allComparisons 74 = .ok (.iload 6, 2) := by decide +kernel
theorem dX10_allComparisons_76 : decode cX10_allComparisons 76 = .ok (.iload 4, 2) := by decide +kernel
theorem dX10_allComparisons_78 : decode cX10_allComparisons 78 = .ok (.if_icmp .ge 46, 3) := by decide +kernel
theorem dX10_allComparisons_81 : decode cX10_allComparisons 81 = .ok (.aload_n 0, 1) := by decide +kernel
theorem dX10_allComparisons_82 : decode cX10_allComparisons 82 = .ok (.getfield 25, 3) := by decide +kernel
theorem dX10_allComparisons_85 : decode cX10_allComparisons 85 = .ok (.iload 6, 2) := by decide +kernel
theorem dX10_allComparisons_87 : decode cX10_allComparisons 87 = .ok (.iaload, 1) := by decide +kernel
theorem dX10_allComparisons_88 : decode cX10_allComparisons 88 = .ok (.bipush 100, 2) := by decide +kernel
theorem dX10_allComparisons_90 : decode cX10_allComparisons 90 = .ok (.irem, 1) := by decide +kernel
theorem dX10_allComparisons_91 : decode cX10_allComparisons 91 = .ok (.bipush 20, 2) := by decide +kernel
theorem dX10_allComparisons_93 : decode cX10_allComparisons 93 = .ok (.idiv, 1) := by decide +kernel
theorem dX10_allComparisons_94 : decode cX10_allComparisons 94 = .ok (.iconst 4, 1) := by decide +kernel
theorem dX10_allComparisons_95 : decode cX10_allComparisons 95 = .ok (.if_icmp .ne 6, 3) := by decide +kernel
theorem dX10_allComparisons_98 : decode cX10_allComparisons 98 = .ok (.goto 20, 3) := by decide +kernel
theorem dX10_allComparisons_101 : decode cX10_allComparisons 101 = .ok (.aload_n 0, 1) := by decide +kernel
theorem dX10_allComparisons_102 : decode cX10_allComparisons 102 = .ok (.getfield 28, 3) := by decide +kernel
theorem dX10_allComparisons_105 : decode cX10_allComparisons 105 = .ok (.iload 5, 2) := by decide +kernel
theorem dX10_allComparisons_107 : decode cX10_allComparisons 107 = .ok (.aload_n 0, 1) := by decide +kernel
theorem dX10_allComparisons_108 : decode cX10_allComparisons 108 = .ok (.getfield 25, 3) := by decide +kernel
theorem dX10_allComparisons_111 : decode cX10_allComparisons 111 = .ok (.iload 6, 2) := by decide +kernel
theorem dX10_allComparisons_113 : decode cX10_allComparisons 113 = .ok (.iaload, 1) := by decide +kernel
theorem dX10_allComparisons_114 : decode cX10_allComparisons 114 = .ok (.iastore, 1) := by decide +kernel
theorem dX10_allComparisons_115 : decode cX10_allComparisons 115 = .ok (.iinc 5 1, 3) := by decide +kernel
theorem dX10_allComparisons_118 : decode cX10_allComparisons 118 = .ok (.iinc 6 1, 3) := by decide +kernel
theorem dX10_allComparisons_121 : decode cX10_allComparisons 121 = .ok (.goto (-47), 3) := by decide +kernel
theorem dX10_allComparisons_124 : decode cX10_allComparisons 124 = .ok (.aload_n 0, 1) := by decide +kernel
theorem dX10_allComparisons_125 : decode cX10_allComparisons 125 = .ok (.aload_n 0, 1) := by decide +kernel
theorem dX10_allComparisons_126 : decode cX10_allComparisons 126 = .ok (.getfield 31, 3) := by decide +kernel
theorem dX10_allComparisons_129 : decode cX10_allComparisons 129 = .ok (.iconst 4, 1) := by decide +kernel
theorem dX10_allComparisons_130 : decode cX10_allComparisons 130 = .ok (.invokevirtual 140, 3) := by decide +kernel
theorem dX10_allComparisons_133 : decode cX10_allComparisons 133 = .ok (.istore 6, 2) := by decide +kernel
theorem dX10_allComparisons_135 : decode cX10_allComparisons 135 = .ok (.iload_n 1, 1) := by decide +kernel
theorem dX10_allComparisons_136 : decode cX10_allComparisons 136 = .ok (.aload_n 0, 1) := by decide +kernel
theorem dX10_allComparisons_137 : decode cX10_allComparisons 137 = .ok (.getfield 28, 3) := by decide +kernel
theorem dX10_allComparisons_140 : decode cX10_allComparisons 140 = .ok (.iload 5, 2) := by decide +kernel
theorem dX10_allComparisons_142 : decode cX10_allComparisons 142 = .ok (.aload_n 0, 1) := by decide +kernel
theorem dX10_allComparisons_143 : decode cX10_allComparisons 143 = .ok (.getfield 31, 3) := by decide +kernel
theorem dX10_allComparisons_146 : decode cX10_allComparisons 146 = .ok (.iload 6, 2) := by decide +kernel
theorem dX10_allComparisons_148 : decode cX10_allComparisons 148 = .ok (.invokestatic 143, 3) := by decide +kernel
theorem dX10_allComparisons_151 : decode cX10_allComparisons 151 = .ok (.iadd, 1) := by decide +kernel
theorem dX10_allComparisons_152 : decode cX10_allComparisons 152 = .ok (.ireturn, 1) := by decide +kernel
def fX10_allComparisons (p0 : Nat) (h : mxH) : Option (Int32 × mxH) := Option.bind (pI h p0 10 3 0) (fun h1 => Option.bind (isO h1 p0 10) (fun u3 => Option.bind (fX10_comparedRows p0 0 1 h1) (fun o6 => Option.bind (isO o6.2 p0 10) (fun u7 => Option.bind (fX10_comparedRows p0 2 3 o6.2) (fun o10 => Option.bind (gR o10.2 p0 10 7) (fun r11 => Option.bind (isO o10.2 p0 10) (fun u13 => Option.bind (fX10_both p0 r11 0 1 o10.2) (fun o16 => Option.bind (gR o16.2 p0 10 8) (fun r17 => Option.bind (isO o16.2 p0 10) (fun u19 => Option.bind (fX10_both p0 r17 2 3 o16.2) (fun o22 => Option.bind (gR o22.2 p0 10 7) (fun r23 => Option.bind (gR o22.2 p0 10 8) (fun r25 => Option.bind (fX10_compared r23 o16.1 r25 o22.1 o22.2) (fun v28 => Option.bind (gR o22.2 p0 10 7) (fun r29 => Option.bind (isO o22.2 p0 10) (fun u31 => Option.bind (fX10_keysOf p0 r29 (-1) o22.2) (fun o34 => Option.bind (mxLoop (ρ := (Int32 × mxH)) (fun s35 : (Int32 × Int32 × mxH) => (if o34.1 ≤ s35.2.1 then some (Sum.inr (s35.1, s35.2.2)) else Option.bind (gR s35.2.2 p0 10 7) (fun r44 => Option.bind (ldI s35.2.2 r44 s35.2.1) (fun v46 => Option.bind (α := (Int32 × mxH)) (if ((v46 - v46 / 100 * 100) / 20) = 4 then some (s35.1, s35.2.2) else Option.bind (gR s35.2.2 p0 10 8) (fun r52 => Option.bind (gR s35.2.2 p0 10 7) (fun r54 => Option.bind (ldI s35.2.2 r54 s35.2.1) (fun v56 => Option.bind (stI s35.2.2 r52 s35.1 v56) (fun h58 => some (s35.1 + 1, h58)))))) (fun p50' : (Int32 × mxH) => some (Sum.inl (p50'.1, s35.2.1 + 1, p50'.2))))))) mxF (0, 0, o34.2)) (fun r61 : (Int32 × mxH) => Option.bind (gR r61.2 p0 10 9) (fun r62 => Option.bind (isO r61.2 p0 10) (fun u64 => Option.bind (fX10_keysOf p0 r62 4 r61.2) (fun o67 => Option.bind (gR o67.2 p0 10 8) (fun r68 => Option.bind (gR o67.2 p0 10 9) (fun r70 => Option.bind (fX10_compared r68 r61.1 r70 o67.1 o67.2) (fun v73 => some (((o6.1 + o10.1) + v28) + v73, o67.2)))))))))))))))))))))))))
abbrev rmX10_allComparisons : Room := { frames := 4, cells := 0, slots := 0, locals := 97 }
set_option maxRecDepth 20000 in
theorem tX10_allComparisons {l : Launch} {Z : mxZ} (hl : l.stackTraces = false) {p0 : Nat} {h : mxH} {out : (Int32 × mxH)} (hf : fX10_allComparisons p0 h = some out) : mxMet l Z yX10_allComparisons cX10_allComparisons 7 (some .int) rmX10_allComparisons [.ref p0] h (.inl (some (.int out.1))) out.2 := by
  refine mxMet_of (by decide) hl (by simp [Value.category]) (Nat.le_of_ble_eq_true rfl) ?_
  intro X C E hX hin
  unfold fX10_allComparisons at hf
  refine mG_aload_n (pc := 0) C dX10_allComparisons_0 rfl ?_
  refine mG_ic (pc := 1) C dX10_allComparisons_1 kI0 ?_
  obtain ⟨h1, e2, hf⟩ := mx_bind hf
  refine mG_putI (pc := 2) C dX10_allComparisons_2 fl_X10_61 e2 ?_
  refine mG_aload_n (pc := 5) C dX10_allComparisons_5 rfl ?_
  refine mG_ic (pc := 6) C dX10_allComparisons_6 kI0 ?_
  refine mG_ic (pc := 7) C dX10_allComparisons_7 kI1 ?_
  obtain ⟨u3, e4, hf⟩ := mx_bind hf
  obtain ⟨o6, e5, hf⟩ := mx_bind hf
  refine mG_cV (pc := 8) (k' := 0) (n' := 0) 10 [.int 0, .int 1] [] C hX dX10_allComparisons_8 lkV_X10_202 rfl rfl e4 (tX10_comparedRows hl e5) rfl rfl rfl rfl ?_
  refine mG_aload_n (pc := 11) C dX10_allComparisons_11 rfl ?_
  refine mG_ic (pc := 12) C dX10_allComparisons_12 kI2 ?_
  refine mG_ic (pc := 13) C dX10_allComparisons_13 kI3 ?_
  obtain ⟨u7, e8, hf⟩ := mx_bind hf
  obtain ⟨o10, e9, hf⟩ := mx_bind hf
  refine mG_cV (pc := 14) (k' := 0) (n' := 0) 10 [.int 2, .int 3] [.int o6.1] C hX dX10_allComparisons_14 lkV_X10_202 rfl rfl e8 (tX10_comparedRows hl e9) rfl rfl rfl rfl ?_
  refine mG_iadd (pc := 17) C dX10_allComparisons_17 ?_
  refine mG_isn (ls' := [some (.ref p0), some (.int (o6.1 + o10.1)), none, none, none, none, none]) (pc := 18) C dX10_allComparisons_18 rfl rfl rfl ?_
  refine mG_aload_n (pc := 19) C dX10_allComparisons_19 rfl ?_
  refine mG_aload_n (pc := 20) C dX10_allComparisons_20 rfl ?_
  obtain ⟨r11, e12, hf⟩ := mx_bind hf
  refine mG_getR (pc := 21) C dX10_allComparisons_21 fl_X10_25 e12 ?_
  refine mG_ic (pc := 24) C dX10_allComparisons_24 kI0 ?_
  refine mG_ic (pc := 25) C dX10_allComparisons_25 kI1 ?_
  obtain ⟨u13, e14, hf⟩ := mx_bind hf
  obtain ⟨o16, e15, hf⟩ := mx_bind hf
  refine mG_cV (pc := 26) (k' := 0) (n' := 0) 10 [.ref r11, .int 0, .int 1] [] C hX dX10_allComparisons_26 lkV_X10_205 rfl rfl e14 (tX10_both hl e15) rfl rfl rfl rfl ?_
  refine mG_isn (ls' := [some (.ref p0), some (.int (o6.1 + o10.1)), some (.int o16.1), none, none, none, none]) (pc := 29) C dX10_allComparisons_29 rfl rfl rfl ?_
  refine mG_aload_n (pc := 30) C dX10_allComparisons_30 rfl ?_
  refine mG_aload_n (pc := 31) C dX10_allComparisons_31 rfl ?_
  obtain ⟨r17, e18, hf⟩ := mx_bind hf
  refine mG_getR (pc := 32) C dX10_allComparisons_32 fl_X10_28 e18 ?_
  refine mG_ic (pc := 35) C dX10_allComparisons_35 kI2 ?_
  refine mG_ic (pc := 36) C dX10_allComparisons_36 kI3 ?_
  obtain ⟨u19, e20, hf⟩ := mx_bind hf
  obtain ⟨o22, e21, hf⟩ := mx_bind hf
  refine mG_cV (pc := 37) (k' := 0) (n' := 0) 10 [.ref r17, .int 2, .int 3] [] C hX dX10_allComparisons_37 lkV_X10_205 rfl rfl e20 (tX10_both hl e21) rfl rfl rfl rfl ?_
  refine mG_isn (ls' := [some (.ref p0), some (.int (o6.1 + o10.1)), some (.int o16.1), some (.int o22.1), none, none, none]) (pc := 40) C dX10_allComparisons_40 rfl rfl rfl ?_
  refine mG_iload_n (pc := 41) C dX10_allComparisons_41 rfl ?_
  refine mG_aload_n (pc := 42) C dX10_allComparisons_42 rfl ?_
  obtain ⟨r23, e24, hf⟩ := mx_bind hf
  refine mG_getR (pc := 43) C dX10_allComparisons_43 fl_X10_25 e24 ?_
  refine mG_iload_n (pc := 46) C dX10_allComparisons_46 rfl ?_
  refine mG_aload_n (pc := 47) C dX10_allComparisons_47 rfl ?_
  obtain ⟨r25, e26, hf⟩ := mx_bind hf
  refine mG_getR (pc := 48) C dX10_allComparisons_48 fl_X10_28 e26 ?_
  refine mG_iload_n (pc := 51) C dX10_allComparisons_51 rfl ?_
  obtain ⟨v28, e27, hf⟩ := mx_bind hf
  refine mG_cS (pc := 52) (k' := 0) (n' := 0) [.ref r23, .int o16.1, .ref r25, .int o22.1] [.int (o6.1 + o10.1)] C hX dX10_allComparisons_52 lkS_X10_143 rfl (tX10_compared hl e27) rfl rfl rfl rfl ?_
  refine mG_iadd (pc := 55) C dX10_allComparisons_55 ?_
  refine mG_isn (ls' := [some (.ref p0), some (.int ((o6.1 + o10.1) + v28)), some (.int o16.1), some (.int o22.1), none, none, none]) (pc := 56) C dX10_allComparisons_56 rfl rfl rfl ?_
  refine mG_aload_n (pc := 57) C dX10_allComparisons_57 rfl ?_
  refine mG_aload_n (pc := 58) C dX10_allComparisons_58 rfl ?_
  obtain ⟨r29, e30, hf⟩ := mx_bind hf
  refine mG_getR (pc := 59) C dX10_allComparisons_59 fl_X10_25 e30 ?_
  refine mG_ic (pc := 62) C dX10_allComparisons_62 kIm1 ?_
  obtain ⟨u31, e32, hf⟩ := mx_bind hf
  obtain ⟨o34, e33, hf⟩ := mx_bind hf
  refine mG_cV (pc := 63) (k' := 0) (n' := 0) 10 [.ref r29, .int (-1)] [] C hX dX10_allComparisons_63 lkV_X10_140 rfl rfl e32 (tX10_keysOf hl e33) rfl rfl rfl rfl ?_
  refine mG_is (ls' := [some (.ref p0), some (.int ((o6.1 + o10.1) + v28)), some (.int o16.1), some (.int o22.1), some (.int o34.1), none, none]) (pc := 66) C dX10_allComparisons_66 rfl rfl rfl ?_
  refine mG_ic (pc := 68) C dX10_allComparisons_68 kI0 ?_
  refine mG_is (ls' := [some (.ref p0), some (.int ((o6.1 + o10.1) + v28)), some (.int o16.1), some (.int o22.1), some (.int o34.1), some (.int 0), none]) (pc := 69) C dX10_allComparisons_69 rfl rfl rfl ?_
  refine mG_ic (pc := 71) C dX10_allComparisons_71 kI0 ?_
  refine mG_is (ls' := [some (.ref p0), some (.int ((o6.1 + o10.1) + v28)), some (.int o16.1), some (.int o22.1), some (.int o34.1), some (.int 0), some (.int 0)]) (pc := 72) C dX10_allComparisons_72 rfl rfl rfl ?_
  obtain ⟨r36, e37, hf⟩ := mx_bind hf
  have J38 : ∀ r61 : (Int32 × mxH), r61 = r36 → mG l Z X 7 0 0 124 [some (.ref p0), some (.int ((o6.1 + o10.1) + v28)), none, none, none, some (.int r61.1), none] [] r61.2 := by
    intro r61 q74
    subst q74
    refine mG_aload_n (pc := 124) C dX10_allComparisons_124 rfl ?_
    refine mG_aload_n (pc := 125) C dX10_allComparisons_125 rfl ?_
    obtain ⟨r62, e63, hf⟩ := mx_bind hf
    refine mG_getR (pc := 126) C dX10_allComparisons_126 fl_X10_31 e63 ?_
    refine mG_ic (pc := 129) C dX10_allComparisons_129 kI4 ?_
    obtain ⟨u64, e65, hf⟩ := mx_bind hf
    obtain ⟨o67, e66, hf⟩ := mx_bind hf
    refine mG_cV (pc := 130) (k' := 0) (n' := 0) 10 [.ref r62, .int 4] [] C hX dX10_allComparisons_130 lkV_X10_140 rfl rfl e65 (tX10_keysOf hl e66) rfl rfl rfl rfl ?_
    refine mG_is (ls' := [some (.ref p0), some (.int ((o6.1 + o10.1) + v28)), none, none, none, some (.int r61.1), some (.int o67.1)]) (pc := 133) C dX10_allComparisons_133 rfl rfl rfl ?_
    refine mG_iload_n (pc := 135) C dX10_allComparisons_135 rfl ?_
    refine mG_aload_n (pc := 136) C dX10_allComparisons_136 rfl ?_
    obtain ⟨r68, e69, hf⟩ := mx_bind hf
    refine mG_getR (pc := 137) C dX10_allComparisons_137 fl_X10_28 e69 ?_
    refine mG_iload (pc := 140) C dX10_allComparisons_140 rfl ?_
    refine mG_aload_n (pc := 142) C dX10_allComparisons_142 rfl ?_
    obtain ⟨r70, e71, hf⟩ := mx_bind hf
    refine mG_getR (pc := 143) C dX10_allComparisons_143 fl_X10_31 e71 ?_
    refine mG_iload (pc := 146) C dX10_allComparisons_146 rfl ?_
    obtain ⟨v73, e72, hf⟩ := mx_bind hf
    refine mG_cS (pc := 148) (k' := 0) (n' := 0) [.ref r68, .int r61.1, .ref r70, .int o67.1] [.int ((o6.1 + o10.1) + v28)] C hX dX10_allComparisons_148 lkS_X10_143 rfl (tX10_compared hl e72) rfl rfl rfl rfl ?_
    refine mG_iadd (pc := 151) C dX10_allComparisons_151 ?_
    cases hf
    exact mG_ir (pc := 152) C E hX dX10_allComparisons_152 rfl
  refine mG_sub (ls' := [some (.ref p0), some (.int ((o6.1 + o10.1) + v28)), none, none, some (.int o34.1), some (.int 0), some (.int 0)]) (mxLe_s (mxLe_s (mxLe_n (mxLe_n (mxLe_s (mxLe_s (mxLe_s mxLe_z))))))) (mxLoop_ind (K := fun s35 : (Int32 × Int32 × mxH) => mG l Z X 7 0 0 74 [some (.ref p0), some (.int ((o6.1 + o10.1) + v28)), none, none, some (.int o34.1), some (.int s35.1), some (.int s35.2.1)] [] s35.2.2) ?_ _ _ e37)
  intro s35 o41 e42 hK39 hx40
  refine mG_iload (pc := 74) C dX10_allComparisons_74 rfl ?_
  refine mG_iload (pc := 76) C dX10_allComparisons_76 rfl ?_
  refine mG_icmp_ge (pc := 78) (tgt := 124) C dX10_allComparisons_78 (by decide) (fun q43 => ?_) (fun q43 => ?_)
  · rw [if_pos q43] at e42
    exact mG_sub (mxLe_s (mxLe_s (mxLe_n (mxLe_n (mxLe_n (mxLe_s (mxLe_n mxLe_z))))))) (J38 _ (hx40 _ (Option.some.inj e42).symm))
  · rw [if_neg q43] at e42
    refine mG_aload_n (pc := 81) C dX10_allComparisons_81 rfl ?_
    obtain ⟨r44, e45, e42⟩ := mx_bind e42
    refine mG_getR (pc := 82) C dX10_allComparisons_82 fl_X10_25 e45 ?_
    refine mG_iload (pc := 85) C dX10_allComparisons_85 rfl ?_
    obtain ⟨v46, e47, e42⟩ := mx_bind e42
    refine mG_iaload (pc := 87) C dX10_allComparisons_87 e47 ?_
    refine mG_bp (pc := 88) C dX10_allComparisons_88 kB100 ?_
    refine mG_irem (pc := 90) C dX10_allComparisons_90 (by decide) ?_
    refine mG_bp (pc := 91) C dX10_allComparisons_91 kB20 ?_
    refine mG_idiv (pc := 93) C dX10_allComparisons_93 (by decide) ?_
    refine mG_ic (pc := 94) C dX10_allComparisons_94 kI4 ?_
    obtain ⟨p50, e51, e42⟩ := mx_bind e42
    have J49 : ∀ p50' : (Int32 × mxH), p50' = p50 → mG l Z X 7 0 0 118 [some (.ref p0), some (.int ((o6.1 + o10.1) + v28)), none, none, some (.int o34.1), some (.int p50'.1), some (.int s35.2.1)] [] p50'.2 := by
      intro p50' q60
      subst q60
      refine mG_ii (ls' := [some (.ref p0), some (.int ((o6.1 + o10.1) + v28)), none, none, some (.int o34.1), some (.int p50'.1), some (.int (s35.2.1 + 1))]) (pc := 118) C dX10_allComparisons_118 rfl (kinc1 _) rfl rfl rfl ?_
      refine mG_goto (tgt := 74) (pc := 121) C dX10_allComparisons_121 (by decide) ?_
      exact mG_sub (mxLe_s (mxLe_s (mxLe_n (mxLe_n (mxLe_s (mxLe_s (mxLe_s mxLe_z))))))) (hK39 _ (Option.some.inj e42).symm)
    refine mG_icmp_ne (pc := 95) (tgt := 101) C dX10_allComparisons_95 (by decide) (fun q48 => ?_) (fun q48 => ?_)
    · rw [if_neg q48] at e51
      refine mG_aload_n (pc := 101) C dX10_allComparisons_101 rfl ?_
      obtain ⟨r52, e53, e51⟩ := mx_bind e51
      refine mG_getR (pc := 102) C dX10_allComparisons_102 fl_X10_28 e53 ?_
      refine mG_iload (pc := 105) C dX10_allComparisons_105 rfl ?_
      refine mG_aload_n (pc := 107) C dX10_allComparisons_107 rfl ?_
      obtain ⟨r54, e55, e51⟩ := mx_bind e51
      refine mG_getR (pc := 108) C dX10_allComparisons_108 fl_X10_25 e55 ?_
      refine mG_iload (pc := 111) C dX10_allComparisons_111 rfl ?_
      obtain ⟨v56, e57, e51⟩ := mx_bind e51
      refine mG_iaload (pc := 113) C dX10_allComparisons_113 e57 ?_
      obtain ⟨h58, e59, e51⟩ := mx_bind e51
      refine mG_iastore (pc := 114) C dX10_allComparisons_114 e59 ?_
      refine mG_ii (ls' := [some (.ref p0), some (.int ((o6.1 + o10.1) + v28)), none, none, some (.int o34.1), some (.int (s35.1 + 1)), some (.int s35.2.1)]) (pc := 115) C dX10_allComparisons_115 rfl (kinc1 _) rfl rfl rfl ?_
      exact mG_sub (mxLe_s (mxLe_s (mxLe_n (mxLe_n (mxLe_s (mxLe_s (mxLe_s mxLe_z))))))) (J49 _ (Option.some.inj e51))
    · rw [if_pos q48] at e51
      refine mG_goto (tgt := 118) (pc := 98) C dX10_allComparisons_98 (by decide) ?_
      exact mG_sub (mxLe_s (mxLe_s (mxLe_n (mxLe_n (mxLe_s (mxLe_s (mxLe_s mxLe_z))))))) (J49 _ (Option.some.inj e51))
theorem dX10_quantile_0 : decode cX10_quantile 0 = .ok (.aload_n 0, 1) := by decide +kernel
theorem dX10_quantile_1 : decode cX10_quantile 1 = .ok (.iconst 0, 1) := by decide +kernel
theorem dX10_quantile_2 : decode cX10_quantile 2 = .ok (.putfield 61, 3) := by decide +kernel
theorem dX10_quantile_5 : decode cX10_quantile 5 = .ok (.iload_n 1, 1) := by decide +kernel
theorem dX10_quantile_6 : decode cX10_quantile 6 = .ok (.iconst 0, 1) := by decide +kernel
theorem dX10_quantile_7 : decode cX10_quantile 7 = .ok (.sipush 1000, 3) := by decide +kernel
theorem dX10_quantile_10 : decode cX10_quantile 10 = .ok (.invokestatic 65, 3) := by decide +kernel
theorem dX10_quantile_13 : decode cX10_quantile 13 = .ok (.ifCond .ne 9, 3) := by decide +kernel
theorem dX10_quantile_16 : decode cX10_quantile 16 = .ok (.aload_n 0, 1) := by decide +kernel
theorem dX10_quantile_17 : decode cX10_quantile 17 = .ok (.iconst 1, 1) := by decide +kernel
theorem dX10_quantile_18 : decode cX10_quantile 18 = .ok (.invokevirtual 178, 3) := by decide +kernel
theorem dX10_quantile_21 : decode cX10_quantile 21 = .ok (.ireturn, 1) := by decide +kernel
theorem dX10_quantile_22 : decode cX10_quantile 22 = .ok (.aload_n 0, 1) := by decide +kernel
theorem dX10_quantile_23 : decode cX10_quantile 23 = .ok (.aload_n 0, 1) := by decide +kernel
theorem dX10_quantile_24 : decode cX10_quantile 24 = .ok (.getfield 25, 3) := by decide +kernel
theorem dX10_quantile_27 : decode cX10_quantile 27 = .ok (.iconst (-1), 1) := by decide +kernel
theorem dX10_quantile_28 : decode cX10_quantile 28 = .ok (.invokevirtual 140, 3) := by decide +kernel
theorem dX10_quantile_31 : decode cX10_quantile 31 = .ok (.istore_n 2, 1) := by decide +kernel
theorem dX10_quantile_32 : decode cX10_quantile 32 = .ok (.iload_n 2, 1) := by decide +kernel
theorem dX10_quantile_33 : decode cX10_quantile 33 = .ok (.ifCond .ne 11, 3) := by decide +kernel
theorem dX10_quantile_36 : decode cX10_quantile 36 = .ok (.aload_n 0, 1) := by decide +kernel
theorem dX10_quantile_37 : decode cX10_quantile 37 = .ok (.iconst 2, 1) := by decide +kernel
theorem dX10_quantile_38 : decode cX10_quantile 38 = .ok (.invokevirtual 178, 3) := by decide +kernel
theorem dX10_quantile_41 : decode cX10_quantile 41 = .ok (.goto 23, 3) := by decide +kernel
theorem dX10_quantile_44 : decode cX10_quantile 44 = .ok (.bipush 99, 2) := by decide +kernel
theorem dX10_quantile_46 : decode cX10_quantile 46 = .ok (.aload_n 0, 1) := by decide +kernel
theorem dX10_quantile_47 : decode cX10_quantile 47 = .ok (.getfield 25, 3) := by decide +kernel
theorem dX10_quantile_50 : decode cX10_quantile 50 = .ok (.iload_n 2, 1) := by decide +kernel
theorem dX10_quantile_51 : decode cX10_quantile 51 = .ok (.iconst 1, 1) := by decide +kernel
theorem dX10_quantile_52 : decode cX10_quantile 52 = .ok (.isub, 1) := by decide +kernel
theorem dX10_quantile_53 : decode cX10_quantile 53 = .ok (.iload_n 1, 1) := by decide +kernel
theorem dX10_quantile_54 : decode cX10_quantile 54 = .ok (.imul, 1) := by decide +kernel
theorem dX10_quantile_55 : decode cX10_quantile 55 = .ok (.sipush 1000, 3) := by decide +kernel
theorem dX10_quantile_58 : decode cX10_quantile 58 = .ok (.idiv, 1) := by decide +kernel
theorem dX10_quantile_59 : decode cX10_quantile 59 = .ok (.iaload, 1) := by decide +kernel
theorem dX10_quantile_60 : decode cX10_quantile 60 = .ok (.bipush 100, 2) := by decide +kernel
theorem dX10_quantile_62 : decode cX10_quantile 62 = .ok (.idiv, 1) := by decide +kernel
theorem dX10_quantile_63 : decode cX10_quantile 63 = .ok (.isub, 1) := by decide +kernel
theorem dX10_quantile_64 : decode cX10_quantile 64 = .ok (.ireturn, 1) := by decide +kernel
def fX10_quantile (p0 : Nat) (p1 : Int32) (h : mxH) : Option (Int32 × mxH) := Option.bind (pI h p0 10 3 0) (fun h1 => Option.bind (fX10_in p1 0 1000 h1) (fun v4 => (if v4 = 0 then Option.bind (isO h1 p0 10) (fun u25 => Option.bind (fX10_fails p0 1 h1) (fun o28 => some (o28.1, o28.2))) else Option.bind (gR h1 p0 10 7) (fun r6 => Option.bind (isO h1 p0 10) (fun u8 => Option.bind (fX10_keysOf p0 r6 (-1) h1) (fun o11 => Option.bind (α := (Int32 × mxH)) (if o11.1 = 0 then Option.bind (isO o11.2 p0 10) (fun u20 => Option.bind (fX10_fails p0 2 o11.2) (fun o23 => some (o23.1, o23.2))) else Option.bind (gR o11.2 p0 10 7) (fun r16 => Option.bind (ldI o11.2 r16 (((o11.1 - 1) * p1) / 1000)) (fun v18 => some (99 - (v18 / 100), o11.2)))) (fun p14' : (Int32 × mxH) => some (p14'.1, p14'.2))))))))
abbrev rmX10_quantile : Room := { frames := 3, cells := 0, slots := 0, locals := 70 }
set_option maxRecDepth 20000 in
theorem tX10_quantile {l : Launch} {Z : mxZ} (hl : l.stackTraces = false) {p0 : Nat} {p1 : Int32} {h : mxH} {out : (Int32 × mxH)} (hf : fX10_quantile p0 p1 h = some out) : mxMet l Z yX10_quantile cX10_quantile 3 (some .int) rmX10_quantile [.ref p0, .int p1] h (.inl (some (.int out.1))) out.2 := by
  refine mxMet_of (by decide) hl (by simp [Value.category]) (Nat.le_of_ble_eq_true rfl) ?_
  intro X C E hX hin
  unfold fX10_quantile at hf
  refine mG_aload_n (pc := 0) C dX10_quantile_0 rfl ?_
  refine mG_ic (pc := 1) C dX10_quantile_1 kI0 ?_
  obtain ⟨h1, e2, hf⟩ := mx_bind hf
  refine mG_putI (pc := 2) C dX10_quantile_2 fl_X10_61 e2 ?_
  refine mG_iload_n (pc := 5) C dX10_quantile_5 rfl ?_
  refine mG_ic (pc := 6) C dX10_quantile_6 kI0 ?_
  refine mG_sp (pc := 7) C dX10_quantile_7 kS1000 ?_
  obtain ⟨v4, e3, hf⟩ := mx_bind hf
  refine mG_cS (pc := 10) (k' := 0) (n' := 0) [.int p1, .int 0, .int 1000] [] C hX dX10_quantile_10 lkS_X10_65 rfl (tX10_in hl e3) rfl rfl rfl rfl ?_
  refine mG_if_ne (pc := 13) (tgt := 22) C dX10_quantile_13 (by decide) (fun q5 => ?_) (fun q5 => ?_)
  · rw [if_neg q5] at hf
    refine mG_aload_n (pc := 22) C dX10_quantile_22 rfl ?_
    refine mG_aload_n (pc := 23) C dX10_quantile_23 rfl ?_
    obtain ⟨r6, e7, hf⟩ := mx_bind hf
    refine mG_getR (pc := 24) C dX10_quantile_24 fl_X10_25 e7 ?_
    refine mG_ic (pc := 27) C dX10_quantile_27 kIm1 ?_
    obtain ⟨u8, e9, hf⟩ := mx_bind hf
    obtain ⟨o11, e10, hf⟩ := mx_bind hf
    refine mG_cV (pc := 28) (k' := 0) (n' := 0) 10 [.ref r6, .int (-1)] [] C hX dX10_quantile_28 lkV_X10_140 rfl rfl e9 (tX10_keysOf hl e10) rfl rfl rfl rfl ?_
    refine mG_isn (ls' := [some (.ref p0), some (.int p1), some (.int o11.1)]) (pc := 31) C dX10_quantile_31 rfl rfl rfl ?_
    refine mG_iload_n (pc := 32) C dX10_quantile_32 rfl ?_
    obtain ⟨p14, e15, hf⟩ := mx_bind hf
    have J13 : ∀ p14' : (Int32 × mxH), p14' = p14 → mG l Z X 3 0 0 64 [none, none, none] [.int p14'.1] p14'.2 := by
      intro p14' q24
      subst q24
      cases hf
      exact mG_ir (pc := 64) C E hX dX10_quantile_64 rfl
    refine mG_if_ne (pc := 33) (tgt := 44) C dX10_quantile_33 (by decide) (fun q12 => ?_) (fun q12 => ?_)
    · rw [if_neg q12] at e15
      refine mG_bp (pc := 44) C dX10_quantile_44 kB99 ?_
      refine mG_aload_n (pc := 46) C dX10_quantile_46 rfl ?_
      obtain ⟨r16, e17, e15⟩ := mx_bind e15
      refine mG_getR (pc := 47) C dX10_quantile_47 fl_X10_25 e17 ?_
      refine mG_iload_n (pc := 50) C dX10_quantile_50 rfl ?_
      refine mG_ic (pc := 51) C dX10_quantile_51 kI1 ?_
      refine mG_isub (pc := 52) C dX10_quantile_52 ?_
      refine mG_iload_n (pc := 53) C dX10_quantile_53 rfl ?_
      refine mG_imul (pc := 54) C dX10_quantile_54 ?_
      refine mG_sp (pc := 55) C dX10_quantile_55 kS1000 ?_
      refine mG_idiv (pc := 58) C dX10_quantile_58 (by decide) ?_
      obtain ⟨v18, e19, e15⟩ := mx_bind e15
      refine mG_iaload (pc := 59) C dX10_quantile_59 e19 ?_
      refine mG_bp (pc := 60) C dX10_quantile_60 kB100 ?_
      refine mG_idiv (pc := 62) C dX10_quantile_62 (by decide) ?_
      refine mG_isub (pc := 63) C dX10_quantile_63 ?_
      exact mG_sub (mxLe_n (mxLe_n (mxLe_n mxLe_z))) (J13 _ (Option.some.inj e15))
    · rw [if_pos q12] at e15
      refine mG_aload_n (pc := 36) C dX10_quantile_36 rfl ?_
      refine mG_ic (pc := 37) C dX10_quantile_37 kI2 ?_
      obtain ⟨u20, e21, e15⟩ := mx_bind e15
      obtain ⟨o23, e22, e15⟩ := mx_bind e15
      refine mG_cV (pc := 38) (k' := 0) (n' := 0) 10 [.int 2] [] C hX dX10_quantile_38 lkV_X10_178 rfl rfl e21 (tX10_fails hl e22) rfl rfl rfl rfl ?_
      refine mG_goto (tgt := 64) (pc := 41) C dX10_quantile_41 (by decide) ?_
      exact mG_sub (mxLe_n (mxLe_n (mxLe_n mxLe_z))) (J13 _ (Option.some.inj e15))
  · rw [if_pos q5] at hf
    refine mG_aload_n (pc := 16) C dX10_quantile_16 rfl ?_
    refine mG_ic (pc := 17) C dX10_quantile_17 kI1 ?_
    obtain ⟨u25, e26, hf⟩ := mx_bind hf
    obtain ⟨o28, e27, hf⟩ := mx_bind hf
    refine mG_cV (pc := 18) (k' := 0) (n' := 0) 10 [.int 1] [] C hX dX10_quantile_18 lkV_X10_178 rfl rfl e26 (tX10_fails hl e27) rfl rfl rfl rfl ?_
    cases hf
    exact mG_ir (pc := 21) C E hX dX10_quantile_21 rfl
theorem dX10_candidates_0 : decode cX10_candidates 0 = .ok (.aload_n 0, 1) := by decide +kernel
theorem dX10_candidates_1 : decode cX10_candidates 1 = .ok (.iconst 0, 1) := by decide +kernel
theorem dX10_candidates_2 : decode cX10_candidates 2 = .ok (.putfield 61, 3) := by decide +kernel
theorem dX10_candidates_5 : decode cX10_candidates 5 = .ok (.aload_n 0, 1) := by decide +kernel
theorem dX10_candidates_6 : decode cX10_candidates 6 = .ok (.invokevirtual 209, 3) := by decide +kernel
theorem dX10_candidates_9 : decode cX10_candidates 9 = .ok (.ireturn, 1) := by decide +kernel
def fX10_candidates (p0 : Nat) (h : mxH) : Option (Int32 × mxH) := Option.bind (pI h p0 10 3 0) (fun h1 => Option.bind (isO h1 p0 10) (fun u3 => Option.bind (fX10_findsCandidates p0 h1) (fun o6 => some (o6.1, o6.2))))
abbrev rmX10_candidates : Room := { frames := 4, cells := 0, slots := 0, locals := 89 }
set_option maxRecDepth 20000 in
theorem tX10_candidates {l : Launch} {Z : mxZ} (hl : l.stackTraces = false) {p0 : Nat} {h : mxH} {out : (Int32 × mxH)} (hf : fX10_candidates p0 h = some out) : mxMet l Z yX10_candidates cX10_candidates 1 (some .int) rmX10_candidates [.ref p0] h (.inl (some (.int out.1))) out.2 := by
  refine mxMet_of (by decide) hl (by simp [Value.category]) (Nat.le_of_ble_eq_true rfl) ?_
  intro X C E hX hin
  unfold fX10_candidates at hf
  refine mG_aload_n (pc := 0) C dX10_candidates_0 rfl ?_
  refine mG_ic (pc := 1) C dX10_candidates_1 kI0 ?_
  obtain ⟨h1, e2, hf⟩ := mx_bind hf
  refine mG_putI (pc := 2) C dX10_candidates_2 fl_X10_61 e2 ?_
  refine mG_aload_n (pc := 5) C dX10_candidates_5 rfl ?_
  obtain ⟨u3, e4, hf⟩ := mx_bind hf
  obtain ⟨o6, e5, hf⟩ := mx_bind hf
  refine mG_cV (pc := 6) (k' := 0) (n' := 0) 10 [] [] C hX dX10_candidates_6 lkV_X10_209 rfl rfl e4 (tX10_findsCandidates hl e5) rfl rfl rfl rfl ?_
  cases hf
  exact mG_ir (pc := 9) C E hX dX10_candidates_9 rfl
theorem dX10_prefer_0 : decode cX10_prefer 0 = .ok (.aload_n 0, 1) := by decide +kernel
theorem dX10_prefer_1 : decode cX10_prefer 1 = .ok (.iconst 0, 1) := by decide +kernel
theorem dX10_prefer_2 : decode cX10_prefer 2 = .ok (.putfield 61, 3) := by decide +kernel
theorem dX10_prefer_5 : decode cX10_prefer 5 = .ok (.iload_n 1, 1) := by decide +kernel
theorem dX10_prefer_6 : decode cX10_prefer 6 = .ok (.invokestatic 175, 3) := by decide +kernel
theorem dX10_prefer_9 : decode cX10_prefer 9 = .ok (.ifCond .eq 19, 3) := by decide +kernel
theorem dX10_prefer_12 : decode cX10_prefer 12 = .ok (.iload_n 2, 1) := by decide +kernel
theorem dX10_prefer_13 : decode cX10_prefer 13 = .ok (.invokestatic 175, 3) := by decide +kernel
theorem dX10_prefer_16 : decode cX10_prefer 16 = .ok (.ifCond .eq 12, 3) := by decide +kernel
theorem dX10_prefer_19 : decode cX10_prefer 19 = .ok (.aload_n 0, 1) := by decide +kernel
theorem dX10_prefer_20 : decode cX10_prefer 20 = .ok (.iload_n 1, 1) := by decide +kernel
theorem dX10_prefer_21 : decode cX10_prefer 21 = .ok (.iload_n 2, 1) := by decide +kernel
theorem dX10_prefer_22 : decode cX10_prefer 22 = .ok (.invokevirtual 151, 3) := by decide +kernel
theorem dX10_prefer_25 : decode cX10_prefer 25 = .ok (.goto 8, 3) := by decide +kernel
theorem dX10_prefer_28 : decode cX10_prefer 28 = .ok (.aload_n 0, 1) := by decide +kernel
theorem dX10_prefer_29 : decode cX10_prefer 29 = .ok (.iconst 1, 1) := by decide +kernel
theorem dX10_prefer_30 : decode cX10_prefer 30 = .ok (.invokevirtual 178, 3) := by decide +kernel
theorem dX10_prefer_33 : decode cX10_prefer 33 = .ok (.ireturn, 1) := by decide +kernel
def fX10_prefer (p0 : Nat) (p1 : Int32) (p2 : Int32) (h : mxH) : Option (Int32 × mxH) := Option.bind (pI h p0 10 3 0) (fun h1 => Option.bind (fX10_isThing p1 h1) (fun v4 => Option.bind (α := (Int32 × mxH)) (if v4 = 0 then Option.bind (isO h1 p0 10) (fun u9 => Option.bind (fX10_fails p0 1 h1) (fun o12 => some (o12.1, o12.2))) else Option.bind (fX10_isThing p2 h1) (fun v14 => (if v14 = 0 then Option.bind (isO h1 p0 10) (fun u16 => Option.bind (fX10_fails p0 1 h1) (fun o19 => some (o19.1, o19.2))) else Option.bind (isO h1 p0 10) (fun u20 => Option.bind (fX10_preferring p0 p1 p2 h1) (fun v23 => some (v23, h1)))))) (fun p7' : (Int32 × mxH) => some (p7'.1, p7'.2))))
abbrev rmX10_prefer : Room := { frames := 3, cells := 0, slots := 0, locals := 70 }
set_option maxRecDepth 20000 in
theorem tX10_prefer {l : Launch} {Z : mxZ} (hl : l.stackTraces = false) {p0 : Nat} {p1 : Int32} {p2 : Int32} {h : mxH} {out : (Int32 × mxH)} (hf : fX10_prefer p0 p1 p2 h = some out) : mxMet l Z yX10_prefer cX10_prefer 3 (some .int) rmX10_prefer [.ref p0, .int p1, .int p2] h (.inl (some (.int out.1))) out.2 := by
  refine mxMet_of (by decide) hl (by simp [Value.category]) (Nat.le_of_ble_eq_true rfl) ?_
  intro X C E hX hin
  unfold fX10_prefer at hf
  refine mG_aload_n (pc := 0) C dX10_prefer_0 rfl ?_
  refine mG_ic (pc := 1) C dX10_prefer_1 kI0 ?_
  obtain ⟨h1, e2, hf⟩ := mx_bind hf
  refine mG_putI (pc := 2) C dX10_prefer_2 fl_X10_61 e2 ?_
  refine mG_iload_n (pc := 5) C dX10_prefer_5 rfl ?_
  obtain ⟨v4, e3, hf⟩ := mx_bind hf
  refine mG_cS (pc := 6) (k' := 0) (n' := 0) [.int p1] [] C hX dX10_prefer_6 lkS_X10_175 rfl (tX10_isThing hl e3) rfl rfl rfl rfl ?_
  obtain ⟨p7, e8, hf⟩ := mx_bind hf
  have J6 : ∀ p7' : (Int32 × mxH), p7' = p7 → mG l Z X 3 0 0 33 [none, none, none] [.int p7'.1] p7'.2 := by
    intro p7' q24
    subst q24
    cases hf
    exact mG_ir (pc := 33) C E hX dX10_prefer_33 rfl
  refine mG_if_eq (pc := 9) (tgt := 28) C dX10_prefer_9 (by decide) (fun q5 => ?_) (fun q5 => ?_)
  · rw [if_pos q5] at e8
    refine mG_aload_n (pc := 28) C dX10_prefer_28 rfl ?_
    refine mG_ic (pc := 29) C dX10_prefer_29 kI1 ?_
    obtain ⟨u9, e10, e8⟩ := mx_bind e8
    obtain ⟨o12, e11, e8⟩ := mx_bind e8
    refine mG_cV (pc := 30) (k' := 0) (n' := 0) 10 [.int 1] [] C hX dX10_prefer_30 lkV_X10_178 rfl rfl e10 (tX10_fails hl e11) rfl rfl rfl rfl ?_
    exact mG_sub (mxLe_n (mxLe_n (mxLe_n mxLe_z))) (J6 _ (Option.some.inj e8))
  · rw [if_neg q5] at e8
    refine mG_iload_n (pc := 12) C dX10_prefer_12 rfl ?_
    obtain ⟨v14, e13, e8⟩ := mx_bind e8
    refine mG_cS (pc := 13) (k' := 0) (n' := 0) [.int p2] [] C hX dX10_prefer_13 lkS_X10_175 rfl (tX10_isThing hl e13) rfl rfl rfl rfl ?_
    refine mG_if_eq (pc := 16) (tgt := 28) C dX10_prefer_16 (by decide) (fun q15 => ?_) (fun q15 => ?_)
    · rw [if_pos q15] at e8
      refine mG_aload_n (pc := 28) C dX10_prefer_28 rfl ?_
      refine mG_ic (pc := 29) C dX10_prefer_29 kI1 ?_
      obtain ⟨u16, e17, e8⟩ := mx_bind e8
      obtain ⟨o19, e18, e8⟩ := mx_bind e8
      refine mG_cV (pc := 30) (k' := 0) (n' := 0) 10 [.int 1] [] C hX dX10_prefer_30 lkV_X10_178 rfl rfl e17 (tX10_fails hl e18) rfl rfl rfl rfl ?_
      exact mG_sub (mxLe_n (mxLe_n (mxLe_n mxLe_z))) (J6 _ (Option.some.inj e8))
    · rw [if_neg q15] at e8
      refine mG_aload_n (pc := 19) C dX10_prefer_19 rfl ?_
      refine mG_iload_n (pc := 20) C dX10_prefer_20 rfl ?_
      refine mG_iload_n (pc := 21) C dX10_prefer_21 rfl ?_
      obtain ⟨u20, e21, e8⟩ := mx_bind e8
      obtain ⟨v23, e22, e8⟩ := mx_bind e8
      refine mG_cV (pc := 22) (k' := 0) (n' := 0) 10 [.int p1, .int p2] [] C hX dX10_prefer_22 lkV_X10_151 rfl rfl e21 (tX10_preferring hl e22) rfl rfl rfl rfl ?_
      refine mG_goto (tgt := 33) (pc := 25) C dX10_prefer_25 (by decide) ?_
      exact mG_sub (mxLe_n (mxLe_n (mxLe_n mxLe_z))) (J6 _ (Option.some.inj e8))
theorem dX10_winner_0 : decode cX10_winner 0 = .ok (.aload_n 0, 1) := by decide +kernel
theorem dX10_winner_1 : decode cX10_winner 1 = .ok (.iconst 0, 1) := by decide +kernel
theorem dX10_winner_2 : decode cX10_winner 2 = .ok (.putfield 61, 3) := by decide +kernel
theorem dX10_winner_5 : decode cX10_winner 5 = .ok (.aload_n 0, 1) := by decide +kernel
theorem dX10_winner_6 : decode cX10_winner 6 = .ok (.invokevirtual 209, 3) := by decide +kernel
theorem dX10_winner_9 : decode cX10_winner 9 = .ok (.istore_n 1, 1) := by decide +kernel
theorem dX10_winner_10 : decode cX10_winner 10 = .ok (.iconst 0, 1) := by decide +kernel
theorem dX10_winner_11 : decode cX10_winner 11 = .ok (.istore_n 2, 1) := by decide +kernel
theorem dX10_winner_12 : decode cX10_winner 12 = .ok (.iload_n 2, 1) := by decide +kernel
theorem dX10_winner_13 : decode cX10_winner 13 = .ok (.iload_n 1, 1) := by decide +kernel
theorem dX10_winner_14 : decode cX10_winner 14 = .ok (.if_icmp .ge 63, 3) := by decide +kernel
theorem dX10_winner_17 : decode cX10_winner 17 = .ok (.iconst 1, 1) := by decide +kernel
theorem dX10_winner_18 : decode cX10_winner 18 = .ok (.istore_n 3, 1) := by decide +kernel
theorem dX10_winner_19 : decode cX10_winner 19 = .ok (.iconst 0, 1) := by decide +kernel
theorem dX10_winner_20 : decode cX10_winner 20 = .ok (.istore 4, 2) := by decide +kernel
theorem dX10_winner_22 : decode cX10_winner 22 = .ok (.iload 4, 2) := by decide +kernel
theorem dX10_winner_24 : decode cX10_winner 24 = .ok (.iload_n 1, 1) := by decide +kernel
theorem dX10_winner_25 : decode cX10_winner 25 = .ok (.if_icmp .ge 35, 3) := by decide +kernel
theorem dX10_winner_28 : decode cX10_winner 28 = .ok (.iload_n 3, 1) := by decide +kernel
theorem dX10_winner_29 : decode cX10_winner 29 = .ok (.ifCond .eq 23, 3) := by decide +kernel
theorem dX10_winner_32 : decode cX10_winner 32 = .ok (.iload 4, 2) := by decide +kernel
theorem dX10_winner_34 : decode cX10_winner 34 = .ok (.iload_n 2, 1) := by decide +kernel
theorem dX10_winner_35 : decode cX10_winner 35 = .ok (.if_icmp .eq 13, 3) := by decide +kernel
theorem dX10_winner_38 : decode cX10_winner 38 = .ok (.aload_n 0, 1) := by decide +kernel
theorem dX10_winner_39 : decode cX10_winner 39 = .ok (.iload_n 2, 1) := by decide +kernel
theorem dX10_winner_40 : decode cX10_winner 40 = .ok (.iload 4, 2) := by decide +kernel
theorem dX10_winner_42 : decode cX10_winner 42 = .ok (.invokevirtual 154, 3) := by decide +kernel
theorem dX10_winner_45 : decode cX10_winner 45 = .ok (.ifCond .eq 7, 3) := by decide +kernel
theorem dX10_winner_48 : decode cX10_winner 48 = .ok (.iconst 1, 1) := by decide +kernel
theorem dX10_winner_49 : decode cX10_winner 49 = .ok (.goto 4, 3) := by decide +kernel
theorem dX10_winner_52 : decode cX10_winner 52 = .ok (.iconst 0, 1) := by decide +kernel
theorem dX10_winner_53 : decode cX10_winner 53 = .ok (.istore_n 3, 1) := by decide +kernel
theorem dX10_winner_54 : decode cX10_winner 54 = .ok (.iinc 4 1, 3) := by decide +kernel
theorem dX10_winner_57 : decode cX10_winner 57 = .ok (.goto (-35), 3) := by decide +kernel
theorem dX10_winner_60 : decode cX10_winner 60 = .ok (.iload_n 3, 1) := by decide +kernel
theorem dX10_winner_61 : decode cX10_winner 61 = .ok (.ifCond .eq 10, 3) := by decide +kernel
theorem dX10_winner_64 : decode cX10_winner 64 = .ok (.aload_n 0, 1) := by decide +kernel
theorem dX10_winner_65 : decode cX10_winner 65 = .ok (.getfield 34, 3) := by decide +kernel
theorem dX10_winner_68 : decode cX10_winner 68 = .ok (.iload_n 2, 1) := by decide +kernel
theorem dX10_winner_69 : decode cX10_winner 69 = .ok (.iaload, 1) := by decide +kernel
theorem dX10_winner_70 : decode cX10_winner 70 = .ok (.ireturn, 1) := by decide +kernel
theorem dX10_winner_71 : decode cX10_winner 71 = .ok (.iinc 2 1, 3) := by decide +kernel
theorem dX10_winner_74 : decode cX10_winner 74 = .ok (.goto (-62), 3) := by decide +kernel
theorem dX10_winner_77 : decode cX10_winner 77 = .ok (.aload_n 0, 1) := by decide +kernel
theorem dX10_winner_78 : decode cX10_winner 78 = .ok (.iconst 1, 1) := by decide +kernel
theorem dX10_winner_79 : decode cX10_winner 79 = .ok (.invokevirtual 178, 3) := by decide +kernel
theorem dX10_winner_82 : decode cX10_winner 82 = .ok (.ireturn, 1) := by decide +kernel
def fX10_winner (p0 : Nat) (h : mxH) : Option (Int32 × mxH) := Option.bind (pI h p0 10 3 0) (fun h1 => Option.bind (isO h1 p0 10) (fun u3 => Option.bind (fX10_findsCandidates p0 h1) (fun o6 => Option.bind (mxLoop (ρ := (Int32 ⊕ Unit)) (fun s7 : Int32 => (if o6.1 ≤ s7 then some (Sum.inr (Sum.inr ())) else Option.bind (mxLoop (ρ := Int32) (fun s17 : (Int32 × Int32) => (if o6.1 ≤ s17.2 then some (Sum.inr s17.1) else Option.bind (α := Int32) (if s17.1 = 0 then some 0 else (if s17.2 = s7 then some 1 else Option.bind (isO o6.2 p0 10) (fun u31 => Option.bind (fX10_beats p0 s7 s17.2 o6.2) (fun v34 => (if v34 = 0 then some 0 else some 1))))) (fun p28' : Int32 => some (Sum.inl (p28', s17.2 + 1))))) mxF (1, 0)) (fun r37 : Int32 => (if r37 = 0 then some (Sum.inl (s7 + 1)) else some (Sum.inr (Sum.inl s7)))))) mxF 0) (Sum.elim (fun r40 : Int32 => Option.bind (gR o6.2 p0 10 10) (fun r41 => Option.bind (ldI o6.2 r41 r40) (fun v43 => some (v43, o6.2)))) (fun r46 : Unit => Option.bind (isO o6.2 p0 10) (fun u47 => Option.bind (fX10_fails p0 1 o6.2) (fun o50 => some (o50.1, o50.2))))))))
abbrev rmX10_winner : Room := { frames := 4, cells := 0, slots := 0, locals := 92 }
set_option maxRecDepth 20000 in
theorem tX10_winner {l : Launch} {Z : mxZ} (hl : l.stackTraces = false) {p0 : Nat} {h : mxH} {out : (Int32 × mxH)} (hf : fX10_winner p0 h = some out) : mxMet l Z yX10_winner cX10_winner 5 (some .int) rmX10_winner [.ref p0] h (.inl (some (.int out.1))) out.2 := by
  refine mxMet_of (by decide) hl (by simp [Value.category]) (Nat.le_of_ble_eq_true rfl) ?_
  intro X C E hX hin
  unfold fX10_winner at hf
  refine mG_aload_n (pc := 0) C dX10_winner_0 rfl ?_
  refine mG_ic (pc := 1) C dX10_winner_1 kI0 ?_
  obtain ⟨h1, e2, hf⟩ := mx_bind hf
  refine mG_putI (pc := 2) C dX10_winner_2 fl_X10_61 e2 ?_
  refine mG_aload_n (pc := 5) C dX10_winner_5 rfl ?_
  obtain ⟨u3, e4, hf⟩ := mx_bind hf
  obtain ⟨o6, e5, hf⟩ := mx_bind hf
  refine mG_cV (pc := 6) (k' := 0) (n' := 0) 10 [] [] C hX dX10_winner_6 lkV_X10_209 rfl rfl e4 (tX10_findsCandidates hl e5) rfl rfl rfl rfl ?_
  refine mG_isn (ls' := [some (.ref p0), some (.int o6.1), none, none, none]) (pc := 9) C dX10_winner_9 rfl rfl rfl ?_
  refine mG_ic (pc := 10) C dX10_winner_10 kI0 ?_
  refine mG_isn (ls' := [some (.ref p0), some (.int o6.1), some (.int 0), none, none]) (pc := 11) C dX10_winner_11 rfl rfl rfl ?_
  obtain ⟨r8, e9, hf⟩ := mx_bind hf
  have J10 : ∀ r40 : Int32, Sum.inl r40 = r8 → mG l Z X 5 0 0 64 [some (.ref p0), none, some (.int r40), none, none] [] o6.2 := by
    intro r40 q45
    subst q45
    rw [Sum.elim_inl] at hf
    refine mG_aload_n (pc := 64) C dX10_winner_64 rfl ?_
    obtain ⟨r41, e42, hf⟩ := mx_bind hf
    refine mG_getR (pc := 65) C dX10_winner_65 fl_X10_34 e42 ?_
    refine mG_iload_n (pc := 68) C dX10_winner_68 rfl ?_
    obtain ⟨v43, e44, hf⟩ := mx_bind hf
    refine mG_iaload (pc := 69) C dX10_winner_69 e44 ?_
    cases hf
    exact mG_ir (pc := 70) C E hX dX10_winner_70 rfl
  have J11 : ∀ r46 : Unit, Sum.inr r46 = r8 → mG l Z X 5 0 0 77 [some (.ref p0), none, none, none, none] [] o6.2 := by
    intro r46 q51
    subst q51
    rw [Sum.elim_inr] at hf
    refine mG_aload_n (pc := 77) C dX10_winner_77 rfl ?_
    refine mG_ic (pc := 78) C dX10_winner_78 kI1 ?_
    obtain ⟨u47, e48, hf⟩ := mx_bind hf
    obtain ⟨o50, e49, hf⟩ := mx_bind hf
    refine mG_cV (pc := 79) (k' := 0) (n' := 0) 10 [.int 1] [] C hX dX10_winner_79 lkV_X10_178 rfl rfl e48 (tX10_fails hl e49) rfl rfl rfl rfl ?_
    cases hf
    exact mG_ir (pc := 82) C E hX dX10_winner_82 rfl
  refine mG_sub (ls' := [some (.ref p0), some (.int o6.1), some (.int 0), none, none]) (mxLe_s (mxLe_s (mxLe_s (mxLe_n (mxLe_n mxLe_z))))) (mxLoop_ind (K := fun s7 : Int32 => mG l Z X 5 0 0 12 [some (.ref p0), some (.int o6.1), some (.int s7), none, none] [] o6.2) ?_ _ _ e9)
  intro s7 o14 e15 hK12 hx13
  refine mG_iload_n (pc := 12) C dX10_winner_12 rfl ?_
  refine mG_iload_n (pc := 13) C dX10_winner_13 rfl ?_
  refine mG_icmp_ge (pc := 14) (tgt := 77) C dX10_winner_14 (by decide) (fun q16 => ?_) (fun q16 => ?_)
  · rw [if_pos q16] at e15
    exact mG_sub (mxLe_s (mxLe_n (mxLe_n (mxLe_n (mxLe_n mxLe_z))))) (J11 _ (hx13 _ (Option.some.inj e15).symm))
  · rw [if_neg q16] at e15
    refine mG_ic (pc := 17) C dX10_winner_17 kI1 ?_
    refine mG_isn (ls' := [some (.ref p0), some (.int o6.1), some (.int s7), some (.int 1), none]) (pc := 18) C dX10_winner_18 rfl rfl rfl ?_
    refine mG_ic (pc := 19) C dX10_winner_19 kI0 ?_
    refine mG_is (ls' := [some (.ref p0), some (.int o6.1), some (.int s7), some (.int 1), some (.int 0)]) (pc := 20) C dX10_winner_20 rfl rfl rfl ?_
    obtain ⟨r18, e19, e15⟩ := mx_bind e15
    have J20 : ∀ r37 : Int32, r37 = r18 → mG l Z X 5 0 0 60 [some (.ref p0), some (.int o6.1), some (.int s7), some (.int r37), none] [] o6.2 := by
      intro r37 q39
      subst q39
      refine mG_iload_n (pc := 60) C dX10_winner_60 rfl ?_
      refine mG_if_eq (pc := 61) (tgt := 71) C dX10_winner_61 (by decide) (fun q38 => ?_) (fun q38 => ?_)
      · rw [if_pos q38] at e15
        refine mG_ii (ls' := [some (.ref p0), some (.int o6.1), some (.int (s7 + 1)), some (.int r37), none]) (pc := 71) C dX10_winner_71 rfl (kinc1 _) rfl rfl rfl ?_
        refine mG_goto (tgt := 12) (pc := 74) C dX10_winner_74 (by decide) ?_
        exact mG_sub (mxLe_s (mxLe_s (mxLe_s (mxLe_n (mxLe_n mxLe_z))))) (hK12 _ (Option.some.inj e15).symm)
      · rw [if_neg q38] at e15
        exact mG_sub (mxLe_s (mxLe_n (mxLe_s (mxLe_n (mxLe_n mxLe_z))))) (J10 _ (hx13 _ (Option.some.inj e15).symm))
    refine mG_sub (ls' := [some (.ref p0), some (.int o6.1), some (.int s7), some (.int 1), some (.int 0)]) (mxLe_s (mxLe_s (mxLe_s (mxLe_s (mxLe_s mxLe_z))))) (mxLoop_ind (K := fun s17 : (Int32 × Int32) => mG l Z X 5 0 0 22 [some (.ref p0), some (.int o6.1), some (.int s7), some (.int s17.1), some (.int s17.2)] [] o6.2) ?_ _ _ e19)
    intro s17 o23 e24 hK21 hx22
    refine mG_iload (pc := 22) C dX10_winner_22 rfl ?_
    refine mG_iload_n (pc := 24) C dX10_winner_24 rfl ?_
    refine mG_icmp_ge (pc := 25) (tgt := 60) C dX10_winner_25 (by decide) (fun q25 => ?_) (fun q25 => ?_)
    · rw [if_pos q25] at e24
      exact mG_sub (mxLe_s (mxLe_s (mxLe_s (mxLe_s (mxLe_n mxLe_z))))) (J20 _ (hx22 _ (Option.some.inj e24).symm))
    · rw [if_neg q25] at e24
      refine mG_iload_n (pc := 28) C dX10_winner_28 rfl ?_
      obtain ⟨p28, e29, e24⟩ := mx_bind e24
      have J27 : ∀ p28' : Int32, p28' = p28 → mG l Z X 5 0 0 53 [some (.ref p0), some (.int o6.1), some (.int s7), none, some (.int s17.2)] [.int p28'] o6.2 := by
        intro p28' q36
        subst q36
        refine mG_isn (ls' := [some (.ref p0), some (.int o6.1), some (.int s7), some (.int p28'), some (.int s17.2)]) (pc := 53) C dX10_winner_53 rfl rfl rfl ?_
        refine mG_ii (ls' := [some (.ref p0), some (.int o6.1), some (.int s7), some (.int p28'), some (.int (s17.2 + 1))]) (pc := 54) C dX10_winner_54 rfl (kinc1 _) rfl rfl rfl ?_
        refine mG_goto (tgt := 22) (pc := 57) C dX10_winner_57 (by decide) ?_
        exact mG_sub (mxLe_s (mxLe_s (mxLe_s (mxLe_s (mxLe_s mxLe_z))))) (hK21 _ (Option.some.inj e24).symm)
      refine mG_if_eq (pc := 29) (tgt := 52) C dX10_winner_29 (by decide) (fun q26 => ?_) (fun q26 => ?_)
      · rw [if_pos q26] at e29
        refine mG_ic (pc := 52) C dX10_winner_52 kI0 ?_
        exact mG_sub (mxLe_s (mxLe_s (mxLe_s (mxLe_n (mxLe_s mxLe_z))))) (J27 _ (Option.some.inj e29))
      · rw [if_neg q26] at e29
        refine mG_iload (pc := 32) C dX10_winner_32 rfl ?_
        refine mG_iload_n (pc := 34) C dX10_winner_34 rfl ?_
        refine mG_icmp_eq (pc := 35) (tgt := 48) C dX10_winner_35 (by decide) (fun q30 => ?_) (fun q30 => ?_)
        · rw [if_pos q30] at e29
          refine mG_ic (pc := 48) C dX10_winner_48 kI1 ?_
          refine mG_goto (tgt := 53) (pc := 49) C dX10_winner_49 (by decide) ?_
          exact mG_sub (mxLe_s (mxLe_s (mxLe_s (mxLe_n (mxLe_s mxLe_z))))) (J27 _ (Option.some.inj e29))
        · rw [if_neg q30] at e29
          refine mG_aload_n (pc := 38) C dX10_winner_38 rfl ?_
          refine mG_iload_n (pc := 39) C dX10_winner_39 rfl ?_
          refine mG_iload (pc := 40) C dX10_winner_40 rfl ?_
          obtain ⟨u31, e32, e29⟩ := mx_bind e29
          obtain ⟨v34, e33, e29⟩ := mx_bind e29
          refine mG_cV (pc := 42) (k' := 0) (n' := 0) 10 [.int s7, .int s17.2] [] C hX dX10_winner_42 lkV_X10_154 rfl rfl e32 (tX10_beats hl e33) rfl rfl rfl rfl ?_
          refine mG_if_eq (pc := 45) (tgt := 52) C dX10_winner_45 (by decide) (fun q35 => ?_) (fun q35 => ?_)
          · rw [if_pos q35] at e29
            refine mG_ic (pc := 52) C dX10_winner_52 kI0 ?_
            exact mG_sub (mxLe_s (mxLe_s (mxLe_s (mxLe_n (mxLe_s mxLe_z))))) (J27 _ (Option.some.inj e29))
          · rw [if_neg q35] at e29
            refine mG_ic (pc := 48) C dX10_winner_48 kI1 ?_
            refine mG_goto (tgt := 53) (pc := 49) C dX10_winner_49 (by decide) ?_
            exact mG_sub (mxLe_s (mxLe_s (mxLe_s (mxLe_n (mxLe_s mxLe_z))))) (J27 _ (Option.some.inj e29))
theorem dX10_ring_0 : decode cX10_ring 0 = .ok (.aload_n 0, 1) := by decide +kernel
theorem dX10_ring_1 : decode cX10_ring 1 = .ok (.iconst 0, 1) := by decide +kernel
theorem dX10_ring_2 : decode cX10_ring 2 = .ok (.putfield 61, 3) := by decide +kernel
theorem dX10_ring_5 : decode cX10_ring 5 = .ok (.aload_n 0, 1) := by decide +kernel
theorem dX10_ring_6 : decode cX10_ring 6 = .ok (.invokevirtual 209, 3) := by decide +kernel
theorem dX10_ring_9 : decode cX10_ring 9 = .ok (.istore_n 1, 1) := by decide +kernel
theorem dX10_ring_10 : decode cX10_ring 10 = .ok (.iconst 3, 1) := by decide +kernel
theorem dX10_ring_11 : decode cX10_ring 11 = .ok (.istore_n 2, 1) := by decide +kernel
theorem dX10_ring_12 : decode cX10_ring 12 = .ok (.iload_n 2, 1) := by decide +kernel
theorem dX10_ring_13 : decode cX10_ring 13 = .ok (.iload_n 1, 1) := by decide +kernel
theorem dX10_ring_14 : decode cX10_ring 14 = .ok (.if_icmp .gt 34, 3) := by decide +kernel
theorem dX10_ring_17 : decode cX10_ring 17 = .ok (.iconst 0, 1) := by decide +kernel
theorem dX10_ring_18 : decode cX10_ring 18 = .ok (.istore_n 3, 1) := by decide +kernel
theorem dX10_ring_19 : decode cX10_ring 19 = .ok (.iload_n 3, 1) := by decide +kernel
theorem dX10_ring_20 : decode cX10_ring 20 = .ok (.iload_n 1, 1) := by decide +kernel
theorem dX10_ring_21 : decode cX10_ring 21 = .ok (.if_icmp .ge 21, 3) := by decide +kernel
theorem dX10_ring_24 : decode cX10_ring 24 = .ok (.aload_n 0, 1) := by decide +kernel
theorem dX10_ring_25 : decode cX10_ring 25 = .ok (.iload_n 3, 1) := by decide +kernel
theorem dX10_ring_26 : decode cX10_ring 26 = .ok (.iload_n 2, 1) := by decide +kernel
theorem dX10_ring_27 : decode cX10_ring 27 = .ok (.iload_n 1, 1) := by decide +kernel
theorem dX10_ring_28 : decode cX10_ring 28 = .ok (.invokevirtual 212, 3) := by decide +kernel
theorem dX10_ring_31 : decode cX10_ring 31 = .ok (.ifCond .eq 5, 3) := by decide +kernel
theorem dX10_ring_34 : decode cX10_ring 34 = .ok (.iload_n 2, 1) := by decide +kernel
theorem dX10_ring_35 : decode cX10_ring 35 = .ok (.ireturn, 1) := by decide +kernel
theorem dX10_ring_36 : decode cX10_ring 36 = .ok (.iinc 3 1, 3) := by decide +kernel
theorem dX10_ring_39 : decode cX10_ring 39 = .ok (.goto (-20), 3) := by decide +kernel
theorem dX10_ring_42 : decode cX10_ring 42 = .ok (.iinc 2 1, 3) := by decide +kernel
theorem dX10_ring_45 : decode cX10_ring 45 = .ok (.goto (-33), 3) := by decide +kernel
theorem dX10_ring_48 : decode cX10_ring 48 = .ok (.iconst (-1), 1) := by decide +kernel
theorem dX10_ring_49 : decode cX10_ring 49 = .ok (.ireturn, 1) := by decide +kernel
def fX10_ring (p0 : Nat) (h : mxH) : Option (Int32 × mxH) := Option.bind (pI h p0 10 3 0) (fun h1 => Option.bind (isO h1 p0 10) (fun u3 => Option.bind (fX10_findsCandidates p0 h1) (fun o6 => Option.bind (mxLoop (ρ := (Int32 ⊕ Unit)) (fun s7 : Int32 => (if o6.1 < s7 then some (Sum.inr (Sum.inr ())) else Option.bind (mxLoop (ρ := (Unit ⊕ Unit)) (fun s17 : Int32 => (if o6.1 ≤ s17 then some (Sum.inr (Sum.inr ())) else Option.bind (isO o6.2 p0 10) (fun u27 => Option.bind (fX10_comesBack p0 s17 s7 o6.1 o6.2) (fun v30 => (if v30 = 0 then some (Sum.inl (s17 + 1)) else some (Sum.inr (Sum.inl ()))))))) mxF 0) (Sum.elim (fun r32 : Unit => some (Sum.inr (Sum.inl s7))) (fun r34 : Unit => some (Sum.inl (s7 + 1)))))) mxF 3) (Sum.elim (fun r36 : Int32 => some (r36, o6.2)) (fun r38 : Unit => some ((-1), o6.2))))))
abbrev rmX10_ring : Room := { frames := 5, cells := 0, slots := 0, locals := 120 }
set_option maxRecDepth 20000 in
theorem tX10_ring {l : Launch} {Z : mxZ} (hl : l.stackTraces = false) {p0 : Nat} {h : mxH} {out : (Int32 × mxH)} (hf : fX10_ring p0 h = some out) : mxMet l Z yX10_ring cX10_ring 4 (some .int) rmX10_ring [.ref p0] h (.inl (some (.int out.1))) out.2 := by
  refine mxMet_of (by decide) hl (by simp [Value.category]) (Nat.le_of_ble_eq_true rfl) ?_
  intro X C E hX hin
  unfold fX10_ring at hf
  refine mG_aload_n (pc := 0) C dX10_ring_0 rfl ?_
  refine mG_ic (pc := 1) C dX10_ring_1 kI0 ?_
  obtain ⟨h1, e2, hf⟩ := mx_bind hf
  refine mG_putI (pc := 2) C dX10_ring_2 fl_X10_61 e2 ?_
  refine mG_aload_n (pc := 5) C dX10_ring_5 rfl ?_
  obtain ⟨u3, e4, hf⟩ := mx_bind hf
  obtain ⟨o6, e5, hf⟩ := mx_bind hf
  refine mG_cV (pc := 6) (k' := 0) (n' := 0) 10 [] [] C hX dX10_ring_6 lkV_X10_209 rfl rfl e4 (tX10_findsCandidates hl e5) rfl rfl rfl rfl ?_
  refine mG_isn (ls' := [some (.ref p0), some (.int o6.1), none, none]) (pc := 9) C dX10_ring_9 rfl rfl rfl ?_
  refine mG_ic (pc := 10) C dX10_ring_10 kI3 ?_
  refine mG_isn (ls' := [some (.ref p0), some (.int o6.1), some (.int 3), none]) (pc := 11) C dX10_ring_11 rfl rfl rfl ?_
  obtain ⟨r8, e9, hf⟩ := mx_bind hf
  have J10 : ∀ r36 : Int32, Sum.inl r36 = r8 → mG l Z X 4 0 0 34 [none, none, some (.int r36), none] [] o6.2 := by
    intro r36 q37
    subst q37
    rw [Sum.elim_inl] at hf
    refine mG_iload_n (pc := 34) C dX10_ring_34 rfl ?_
    cases hf
    exact mG_ir (pc := 35) C E hX dX10_ring_35 rfl
  have J11 : ∀ r38 : Unit, Sum.inr r38 = r8 → mG l Z X 4 0 0 48 [none, none, none, none] [] o6.2 := by
    intro r38 q39
    subst q39
    rw [Sum.elim_inr] at hf
    refine mG_ic (pc := 48) C dX10_ring_48 kIm1 ?_
    cases hf
    exact mG_ir (pc := 49) C E hX dX10_ring_49 rfl
  refine mG_sub (ls' := [some (.ref p0), some (.int o6.1), some (.int 3), none]) (mxLe_s (mxLe_s (mxLe_s (mxLe_n mxLe_z)))) (mxLoop_ind (K := fun s7 : Int32 => mG l Z X 4 0 0 12 [some (.ref p0), some (.int o6.1), some (.int s7), none] [] o6.2) ?_ _ _ e9)
  intro s7 o14 e15 hK12 hx13
  refine mG_iload_n (pc := 12) C dX10_ring_12 rfl ?_
  refine mG_iload_n (pc := 13) C dX10_ring_13 rfl ?_
  refine mG_icmp_gt (pc := 14) (tgt := 48) C dX10_ring_14 (by decide) (fun q16 => ?_) (fun q16 => ?_)
  · rw [if_pos q16] at e15
    exact mG_sub (mxLe_n (mxLe_n (mxLe_n (mxLe_n mxLe_z)))) (J11 _ (hx13 _ (Option.some.inj e15).symm))
  · rw [if_neg q16] at e15
    refine mG_ic (pc := 17) C dX10_ring_17 kI0 ?_
    refine mG_isn (ls' := [some (.ref p0), some (.int o6.1), some (.int s7), some (.int 0)]) (pc := 18) C dX10_ring_18 rfl rfl rfl ?_
    obtain ⟨r18, e19, e15⟩ := mx_bind e15
    have J20 : ∀ r32 : Unit, Sum.inl r32 = r18 → mG l Z X 4 0 0 34 [none, none, some (.int s7), none] [] o6.2 := by
      intro r32 q33
      subst q33
      rw [Sum.elim_inl] at e15
      exact mG_sub (mxLe_n (mxLe_n (mxLe_s (mxLe_n mxLe_z)))) (J10 _ (hx13 _ (Option.some.inj e15).symm))
    have J21 : ∀ r34 : Unit, Sum.inr r34 = r18 → mG l Z X 4 0 0 42 [some (.ref p0), some (.int o6.1), some (.int s7), none] [] o6.2 := by
      intro r34 q35
      subst q35
      rw [Sum.elim_inr] at e15
      refine mG_ii (ls' := [some (.ref p0), some (.int o6.1), some (.int (s7 + 1)), none]) (pc := 42) C dX10_ring_42 rfl (kinc1 _) rfl rfl rfl ?_
      refine mG_goto (tgt := 12) (pc := 45) C dX10_ring_45 (by decide) ?_
      exact mG_sub (mxLe_s (mxLe_s (mxLe_s (mxLe_n mxLe_z)))) (hK12 _ (Option.some.inj e15).symm)
    refine mG_sub (ls' := [some (.ref p0), some (.int o6.1), some (.int s7), some (.int 0)]) (mxLe_s (mxLe_s (mxLe_s (mxLe_s mxLe_z)))) (mxLoop_ind (K := fun s17 : Int32 => mG l Z X 4 0 0 19 [some (.ref p0), some (.int o6.1), some (.int s7), some (.int s17)] [] o6.2) ?_ _ _ e19)
    intro s17 o24 e25 hK22 hx23
    refine mG_iload_n (pc := 19) C dX10_ring_19 rfl ?_
    refine mG_iload_n (pc := 20) C dX10_ring_20 rfl ?_
    refine mG_icmp_ge (pc := 21) (tgt := 42) C dX10_ring_21 (by decide) (fun q26 => ?_) (fun q26 => ?_)
    · rw [if_pos q26] at e25
      exact mG_sub (mxLe_s (mxLe_s (mxLe_s (mxLe_n mxLe_z)))) (J21 _ (hx23 _ (Option.some.inj e25).symm))
    · rw [if_neg q26] at e25
      refine mG_aload_n (pc := 24) C dX10_ring_24 rfl ?_
      refine mG_iload_n (pc := 25) C dX10_ring_25 rfl ?_
      refine mG_iload_n (pc := 26) C dX10_ring_26 rfl ?_
      refine mG_iload_n (pc := 27) C dX10_ring_27 rfl ?_
      obtain ⟨u27, e28, e25⟩ := mx_bind e25
      obtain ⟨v30, e29, e25⟩ := mx_bind e25
      refine mG_cV (pc := 28) (k' := 0) (n' := 0) 10 [.int s17, .int s7, .int o6.1] [] C hX dX10_ring_28 lkV_X10_212 rfl rfl e28 (tX10_comesBack hl e29) rfl rfl rfl rfl ?_
      refine mG_if_eq (pc := 31) (tgt := 36) C dX10_ring_31 (by decide) (fun q31 => ?_) (fun q31 => ?_)
      · rw [if_pos q31] at e25
        refine mG_ii (ls' := [some (.ref p0), some (.int o6.1), some (.int s7), some (.int (s17 + 1))]) (pc := 36) C dX10_ring_36 rfl (kinc1 _) rfl rfl rfl ?_
        refine mG_goto (tgt := 19) (pc := 39) C dX10_ring_39 (by decide) ?_
        exact mG_sub (mxLe_s (mxLe_s (mxLe_s (mxLe_s mxLe_z)))) (hK22 _ (Option.some.inj e25).symm)
      · rw [if_neg q31] at e25
        exact mG_sub (mxLe_n (mxLe_n (mxLe_s (mxLe_n mxLe_z)))) (J20 _ (hx23 _ (Option.some.inj e25).symm))
theorem dX10_swaps_0 : decode cX10_swaps 0 = .ok (.aload_n 0, 1) := by decide +kernel
theorem dX10_swaps_1 : decode cX10_swaps 1 = .ok (.iconst 0, 1) := by decide +kernel
theorem dX10_swaps_2 : decode cX10_swaps 2 = .ok (.putfield 61, 3) := by decide +kernel
theorem dX10_swaps_5 : decode cX10_swaps 5 = .ok (.aload_n 0, 1) := by decide +kernel
theorem dX10_swaps_6 : decode cX10_swaps 6 = .ok (.aload_n 0, 1) := by decide +kernel
theorem dX10_swaps_7 : decode cX10_swaps 7 = .ok (.invokevirtual 209, 3) := by decide +kernel
theorem dX10_swaps_10 : decode cX10_swaps 10 = .ok (.invokevirtual 215, 3) := by decide +kernel
theorem dX10_swaps_13 : decode cX10_swaps 13 = .ok (.ireturn, 1) := by decide +kernel
def fX10_swaps (p0 : Nat) (h : mxH) : Option (Int32 × mxH) := Option.bind (pI h p0 10 3 0) (fun h1 => Option.bind (isO h1 p0 10) (fun u3 => Option.bind (fX10_findsCandidates p0 h1) (fun o6 => Option.bind (isO o6.2 p0 10) (fun u7 => Option.bind (fX10_findsLeast p0 o6.1 o6.2) (fun o10 => some (o10.1, o10.2))))))
abbrev rmX10_swaps : Room := { frames := 5, cells := 0, slots := 0, locals := 120 }
set_option maxRecDepth 20000 in
theorem tX10_swaps {l : Launch} {Z : mxZ} (hl : l.stackTraces = false) {p0 : Nat} {h : mxH} {out : (Int32 × mxH)} (hf : fX10_swaps p0 h = some out) : mxMet l Z yX10_swaps cX10_swaps 1 (some .int) rmX10_swaps [.ref p0] h (.inl (some (.int out.1))) out.2 := by
  refine mxMet_of (by decide) hl (by simp [Value.category]) (Nat.le_of_ble_eq_true rfl) ?_
  intro X C E hX hin
  unfold fX10_swaps at hf
  refine mG_aload_n (pc := 0) C dX10_swaps_0 rfl ?_
  refine mG_ic (pc := 1) C dX10_swaps_1 kI0 ?_
  obtain ⟨h1, e2, hf⟩ := mx_bind hf
  refine mG_putI (pc := 2) C dX10_swaps_2 fl_X10_61 e2 ?_
  refine mG_aload_n (pc := 5) C dX10_swaps_5 rfl ?_
  refine mG_aload_n (pc := 6) C dX10_swaps_6 rfl ?_
  obtain ⟨u3, e4, hf⟩ := mx_bind hf
  obtain ⟨o6, e5, hf⟩ := mx_bind hf
  refine mG_cV (pc := 7) (k' := 0) (n' := 0) 10 [] [.ref p0] C hX dX10_swaps_7 lkV_X10_209 rfl rfl e4 (tX10_findsCandidates hl e5) rfl rfl rfl rfl ?_
  obtain ⟨u7, e8, hf⟩ := mx_bind hf
  obtain ⟨o10, e9, hf⟩ := mx_bind hf
  refine mG_cV (pc := 10) (k' := 0) (n' := 0) 10 [.int o6.1] [] C hX dX10_swaps_10 lkV_X10_215 rfl rfl e8 (tX10_findsLeast hl e9) rfl rfl rfl rfl ?_
  cases hf
  exact mG_ir (pc := 13) C E hX dX10_swaps_13 rfl
theorem dX10_orderAt_0 : decode cX10_orderAt 0 = .ok (.aload_n 0, 1) := by decide +kernel
theorem dX10_orderAt_1 : decode cX10_orderAt 1 = .ok (.iconst 0, 1) := by decide +kernel
theorem dX10_orderAt_2 : decode cX10_orderAt 2 = .ok (.putfield 61, 3) := by decide +kernel
theorem dX10_orderAt_5 : decode cX10_orderAt 5 = .ok (.aload_n 0, 1) := by decide +kernel
theorem dX10_orderAt_6 : decode cX10_orderAt 6 = .ok (.invokevirtual 209, 3) := by decide +kernel
theorem dX10_orderAt_9 : decode cX10_orderAt 9 = .ok (.istore_n 2, 1) := by decide +kernel
theorem dX10_orderAt_10 : decode cX10_orderAt 10 = .ok (.iload_n 1, 1) := by decide +kernel
theorem dX10_orderAt_11 : decode cX10_orderAt 11 = .ok (.iconst 0, 1) := by decide +kernel
theorem dX10_orderAt_12 : decode cX10_orderAt 12 = .ok (.iload_n 2, 1) := by decide +kernel
theorem dX10_orderAt_13 : decode cX10_orderAt 13 = .ok (.iconst 1, 1) := by decide +kernel
theorem dX10_orderAt_14 : decode cX10_orderAt 14 = .ok (.isub, 1) := by decide +kernel
theorem dX10_orderAt_15 : decode cX10_orderAt 15 = .ok (.invokestatic 65, 3) := by decide +kernel
theorem dX10_orderAt_18 : decode cX10_orderAt 18 = .ok (.ifCond .ne 9, 3) := by decide +kernel
theorem dX10_orderAt_21 : decode cX10_orderAt 21 = .ok (.aload_n 0, 1) := by decide +kernel
theorem dX10_orderAt_22 : decode cX10_orderAt 22 = .ok (.iconst 1, 1) := by decide +kernel
theorem dX10_orderAt_23 : decode cX10_orderAt 23 = .ok (.invokevirtual 178, 3) := by decide +kernel
theorem dX10_orderAt_26 : decode cX10_orderAt 26 = .ok (.ireturn, 1) := by decide +kernel
theorem dX10_orderAt_27 : decode cX10_orderAt 27 = .ok (.aload_n 0, 1) := by decide +kernel
theorem dX10_orderAt_28 : decode cX10_orderAt 28 = .ok (.iload_n 2, 1) := by decide +kernel
theorem dX10_orderAt_29 : decode cX10_orderAt 29 = .ok (.invokevirtual 215, 3) := by decide +kernel
theorem dX10_orderAt_32 : decode cX10_orderAt 32 = .ok (.istore_n 3, 1) := by decide +kernel
theorem dX10_orderAt_33 : decode cX10_orderAt 33 = .ok (.aload_n 0, 1) := by decide +kernel
theorem dX10_orderAt_34 : decode cX10_orderAt 34 = .ok (.getfield 40, 3) := by decide +kernel
theorem dX10_orderAt_37 : decode cX10_orderAt 37 = .ok (.iload_n 1, 1) := by decide +kernel
theorem dX10_orderAt_38 : decode cX10_orderAt 38 = .ok (.iaload, 1) := by decide +kernel
theorem dX10_orderAt_39 : decode cX10_orderAt 39 = .ok (.ireturn, 1) := by decide +kernel
def fX10_orderAt (p0 : Nat) (p1 : Int32) (h : mxH) : Option (Int32 × mxH) := Option.bind (pI h p0 10 3 0) (fun h1 => Option.bind (isO h1 p0 10) (fun u3 => Option.bind (fX10_findsCandidates p0 h1) (fun o6 => Option.bind (fX10_in p1 0 (o6.1 - 1) o6.2) (fun v8 => (if v8 = 0 then Option.bind (isO o6.2 p0 10) (fun u18 => Option.bind (fX10_fails p0 1 o6.2) (fun o21 => some (o21.1, o21.2))) else Option.bind (isO o6.2 p0 10) (fun u10 => Option.bind (fX10_findsLeast p0 o6.1 o6.2) (fun o13 => Option.bind (gR o13.2 p0 10 12) (fun r14 => Option.bind (ldI o13.2 r14 p1) (fun v16 => some (v16, o13.2))))))))))
abbrev rmX10_orderAt : Room := { frames := 5, cells := 0, slots := 0, locals := 120 }
set_option maxRecDepth 20000 in
theorem tX10_orderAt {l : Launch} {Z : mxZ} (hl : l.stackTraces = false) {p0 : Nat} {p1 : Int32} {h : mxH} {out : (Int32 × mxH)} (hf : fX10_orderAt p0 p1 h = some out) : mxMet l Z yX10_orderAt cX10_orderAt 4 (some .int) rmX10_orderAt [.ref p0, .int p1] h (.inl (some (.int out.1))) out.2 := by
  refine mxMet_of (by decide) hl (by simp [Value.category]) (Nat.le_of_ble_eq_true rfl) ?_
  intro X C E hX hin
  unfold fX10_orderAt at hf
  refine mG_aload_n (pc := 0) C dX10_orderAt_0 rfl ?_
  refine mG_ic (pc := 1) C dX10_orderAt_1 kI0 ?_
  obtain ⟨h1, e2, hf⟩ := mx_bind hf
  refine mG_putI (pc := 2) C dX10_orderAt_2 fl_X10_61 e2 ?_
  refine mG_aload_n (pc := 5) C dX10_orderAt_5 rfl ?_
  obtain ⟨u3, e4, hf⟩ := mx_bind hf
  obtain ⟨o6, e5, hf⟩ := mx_bind hf
  refine mG_cV (pc := 6) (k' := 0) (n' := 0) 10 [] [] C hX dX10_orderAt_6 lkV_X10_209 rfl rfl e4 (tX10_findsCandidates hl e5) rfl rfl rfl rfl ?_
  refine mG_isn (ls' := [some (.ref p0), some (.int p1), some (.int o6.1), none]) (pc := 9) C dX10_orderAt_9 rfl rfl rfl ?_
  refine mG_iload_n (pc := 10) C dX10_orderAt_10 rfl ?_
  refine mG_ic (pc := 11) C dX10_orderAt_11 kI0 ?_
  refine mG_iload_n (pc := 12) C dX10_orderAt_12 rfl ?_
  refine mG_ic (pc := 13) C dX10_orderAt_13 kI1 ?_
  refine mG_isub (pc := 14) C dX10_orderAt_14 ?_
  obtain ⟨v8, e7, hf⟩ := mx_bind hf
  refine mG_cS (pc := 15) (k' := 0) (n' := 0) [.int p1, .int 0, .int (o6.1 - 1)] [] C hX dX10_orderAt_15 lkS_X10_65 rfl (tX10_in hl e7) rfl rfl rfl rfl ?_
  refine mG_if_ne (pc := 18) (tgt := 27) C dX10_orderAt_18 (by decide) (fun q9 => ?_) (fun q9 => ?_)
  · rw [if_neg q9] at hf
    refine mG_aload_n (pc := 27) C dX10_orderAt_27 rfl ?_
    refine mG_iload_n (pc := 28) C dX10_orderAt_28 rfl ?_
    obtain ⟨u10, e11, hf⟩ := mx_bind hf
    obtain ⟨o13, e12, hf⟩ := mx_bind hf
    refine mG_cV (pc := 29) (k' := 0) (n' := 0) 10 [.int o6.1] [] C hX dX10_orderAt_29 lkV_X10_215 rfl rfl e11 (tX10_findsLeast hl e12) rfl rfl rfl rfl ?_
    refine mG_isn (ls' := [some (.ref p0), some (.int p1), some (.int o6.1), some (.int o13.1)]) (pc := 32) C dX10_orderAt_32 rfl rfl rfl ?_
    refine mG_aload_n (pc := 33) C dX10_orderAt_33 rfl ?_
    obtain ⟨r14, e15, hf⟩ := mx_bind hf
    refine mG_getR (pc := 34) C dX10_orderAt_34 fl_X10_40 e15 ?_
    refine mG_iload_n (pc := 37) C dX10_orderAt_37 rfl ?_
    obtain ⟨v16, e17, hf⟩ := mx_bind hf
    refine mG_iaload (pc := 38) C dX10_orderAt_38 e17 ?_
    cases hf
    exact mG_ir (pc := 39) C E hX dX10_orderAt_39 rfl
  · rw [if_pos q9] at hf
    refine mG_aload_n (pc := 21) C dX10_orderAt_21 rfl ?_
    refine mG_ic (pc := 22) C dX10_orderAt_22 kI1 ?_
    obtain ⟨u18, e19, hf⟩ := mx_bind hf
    obtain ⟨o21, e20, hf⟩ := mx_bind hf
    refine mG_cV (pc := 23) (k' := 0) (n' := 0) 10 [.int 1] [] C hX dX10_orderAt_23 lkV_X10_178 rfl rfl e19 (tX10_fails hl e20) rfl rfl rfl rfl ?_
    cases hf
    exact mG_ir (pc := 26) C E hX dX10_orderAt_26 rfl
theorem dX10_windowSize_0 : decode cX10_windowSize 0 = .ok (.aload_n 0, 1) := by decide +kernel
theorem dX10_windowSize_1 : decode cX10_windowSize 1 = .ok (.iconst 0, 1) := by decide +kernel
theorem dX10_windowSize_2 : decode cX10_windowSize 2 = .ok (.putfield 61, 3) := by decide +kernel
theorem dX10_windowSize_5 : decode cX10_windowSize 5 = .ok (.aload_n 0, 1) := by decide +kernel
theorem dX10_windowSize_6 : decode cX10_windowSize 6 = .ok (.invokevirtual 218, 3) := by decide +kernel
theorem dX10_windowSize_9 : decode cX10_windowSize 9 = .ok (.ireturn, 1) := by decide +kernel
def fX10_windowSize (p0 : Nat) (h : mxH) : Option (Int32 × mxH) := Option.bind (pI h p0 10 3 0) (fun h1 => Option.bind (isO h1 p0 10) (fun u3 => Option.bind (fX10_inWindow p0 h1) (fun v6 => some (v6, h1))))
abbrev rmX10_windowSize : Room := { frames := 2, cells := 0, slots := 0, locals := 41 }
set_option maxRecDepth 20000 in
theorem tX10_windowSize {l : Launch} {Z : mxZ} (hl : l.stackTraces = false) {p0 : Nat} {h : mxH} {out : (Int32 × mxH)} (hf : fX10_windowSize p0 h = some out) : mxMet l Z yX10_windowSize cX10_windowSize 1 (some .int) rmX10_windowSize [.ref p0] h (.inl (some (.int out.1))) out.2 := by
  refine mxMet_of (by decide) hl (by simp [Value.category]) (Nat.le_of_ble_eq_true rfl) ?_
  intro X C E hX hin
  unfold fX10_windowSize at hf
  refine mG_aload_n (pc := 0) C dX10_windowSize_0 rfl ?_
  refine mG_ic (pc := 1) C dX10_windowSize_1 kI0 ?_
  obtain ⟨h1, e2, hf⟩ := mx_bind hf
  refine mG_putI (pc := 2) C dX10_windowSize_2 fl_X10_61 e2 ?_
  refine mG_aload_n (pc := 5) C dX10_windowSize_5 rfl ?_
  obtain ⟨u3, e4, hf⟩ := mx_bind hf
  obtain ⟨v6, e5, hf⟩ := mx_bind hf
  refine mG_cV (pc := 6) (k' := 0) (n' := 0) 10 [] [] C hX dX10_windowSize_6 lkV_X10_218 rfl rfl e4 (tX10_inWindow hl e5) rfl rfl rfl rfl ?_
  cases hf
  exact mG_ir (pc := 9) C E hX dX10_windowSize_9 rfl
theorem dX10_windowAt_0 : decode cX10_windowAt 0 = .ok (.aload_n 0, 1) := by decide +kernel
theorem dX10_windowAt_1 : decode cX10_windowAt 1 = .ok (.iconst 0, 1) := by decide +kernel
theorem dX10_windowAt_2 : decode cX10_windowAt 2 = .ok (.putfield 61, 3) := by decide +kernel
theorem dX10_windowAt_5 : decode cX10_windowAt 5 = .ok (.iload_n 1, 1) := by decide +kernel
theorem dX10_windowAt_6 : decode cX10_windowAt 6 = .ok (.iconst 0, 1) := by decide +kernel
theorem dX10_windowAt_7 : decode cX10_windowAt 7 = .ok (.aload_n 0, 1) := by decide +kernel
theorem dX10_windowAt_8 : decode cX10_windowAt 8 = .ok (.invokevirtual 218, 3) := by decide +kernel
theorem dX10_windowAt_11 : decode cX10_windowAt 11 = .ok (.iconst 1, 1) := by decide +kernel
theorem dX10_windowAt_12 : decode cX10_windowAt 12 = .ok (.isub, 1) := by decide +kernel
theorem dX10_windowAt_13 : decode cX10_windowAt 13 = .ok (.invokestatic 65, 3) := by decide +kernel
theorem dX10_windowAt_16 : decode cX10_windowAt 16 = .ok (.ifCond .ne 9, 3) := by decide +kernel
theorem dX10_windowAt_19 : decode cX10_windowAt 19 = .ok (.aload_n 0, 1) := by decide +kernel
theorem dX10_windowAt_20 : decode cX10_windowAt 20 = .ok (.iconst 1, 1) := by decide +kernel
theorem dX10_windowAt_21 : decode cX10_windowAt 21 = .ok (.invokevirtual 178, 3) := by decide +kernel
theorem dX10_windowAt_24 : decode cX10_windowAt 24 = .ok (.ireturn, 1) := by decide +kernel
theorem dX10_windowAt_25 : decode cX10_windowAt 25 = .ok (.iload_n 1, 1) := by decide +kernel
theorem dX10_windowAt_26 : decode cX10_windowAt 26 = .ok (.istore_n 2, 1) := by decide +kernel
theorem dX10_windowAt_27 : decode cX10_windowAt 27 = .ok (.bipush 99, 2) := by decide +kernel
theorem dX10_windowAt_29 : decode cX10_windowAt 29 = .ok (.istore_n 3, 1) := by decide +kernel
theorem dX10_windowAt_30 : decode cX10_windowAt 30 = .ok (.iload_n 3, 1) := by decide +kernel
theorem dX10_windowAt_31 : decode cX10_windowAt 31 = .ok (.ifCond .le 54, 3) := by decide +kernel
theorem dX10_windowAt_34 : decode cX10_windowAt 34 = .ok (.iconst 0, 1) := by decide +kernel
theorem dX10_windowAt_35 : decode cX10_windowAt 35 = .ok (.istore 4, 2) := by decide +kernel
theorem dX10_windowAt_37 : decode cX10_windowAt 37 = .ok (.iload 4, 2) := by decide +kernel
theorem dX10_windowAt_39 : decode cX10_windowAt 39 = .ok (.aload_n 0, 1) := by decide +kernel
theorem dX10_windowAt_40 : decode cX10_windowAt 40 = .ok (.invokevirtual 218, 3) := by decide +kernel
theorem dX10_windowAt_43 : decode cX10_windowAt 43 = .ok (.if_icmp .ge 36, 3) := by decide +kernel
theorem dX10_windowAt_46 : decode cX10_windowAt 46 = .ok (.aload_n 0, 1) := by decide +kernel
theorem dX10_windowAt_47 : decode cX10_windowAt 47 = .ok (.getfield 9, 3) := by decide +kernel
theorem dX10_windowAt_50 : decode cX10_windowAt 50 = .ok (.sipush 211, 3) := by decide +kernel
theorem dX10_windowAt_53 : decode cX10_windowAt 53 = .ok (.iload 4, 2) := by decide +kernel
theorem dX10_windowAt_55 : decode cX10_windowAt 55 = .ok (.iadd, 1) := by decide +kernel
theorem dX10_windowAt_56 : decode cX10_windowAt 56 = .ok (.iaload, 1) := by decide +kernel
theorem dX10_windowAt_57 : decode cX10_windowAt 57 = .ok (.iload_n 3, 1) := by decide +kernel
theorem dX10_windowAt_58 : decode cX10_windowAt 58 = .ok (.if_icmp .eq 6, 3) := by decide +kernel
theorem dX10_windowAt_61 : decode cX10_windowAt 61 = .ok (.goto 12, 3) := by decide +kernel
theorem dX10_windowAt_64 : decode cX10_windowAt 64 = .ok (.iload_n 2, 1) := by decide +kernel
theorem dX10_windowAt_65 : decode cX10_windowAt 65 = .ok (.ifCond .ne 5, 3) := by decide +kernel
theorem dX10_windowAt_68 : decode cX10_windowAt 68 = .ok (.iload_n 3, 1) := by decide +kernel
theorem dX10_windowAt_69 : decode cX10_windowAt 69 = .ok (.ireturn, 1) := by decide +kernel
theorem dX10_windowAt_70 : decode cX10_windowAt 70 = .ok (.iinc 2 (-1), 3) := by decide +kernel
theorem dX10_windowAt_73 : decode cX10_windowAt 73 = .ok (.iinc 4 1, 3) := by decide +kernel
theorem dX10_windowAt_76 : decode cX10_windowAt 76 = .ok (.goto (-39), 3) := by decide +kernel
theorem dX10_windowAt_79 : decode cX10_windowAt 79 = .ok (.iinc 3 (-1), 3) := by decide +kernel
theorem dX10_windowAt_82 : decode cX10_windowAt 82 = .ok (.goto (-52), 3) := by decide +kernel
theorem dX10_windowAt_85 : decode cX10_windowAt 85 = .ok (.iconst 0, 1) := by decide +kernel
theorem dX10_windowAt_86 : decode cX10_windowAt 86 = .ok (.ireturn, 1) := by decide +kernel
def fX10_windowAt (p0 : Nat) (p1 : Int32) (h : mxH) : Option (Int32 × mxH) := Option.bind (pI h p0 10 3 0) (fun h1 => Option.bind (isO h1 p0 10) (fun u3 => Option.bind (fX10_inWindow p0 h1) (fun v6 => Option.bind (fX10_in p1 0 (v6 - 1) h1) (fun v8 => (if v8 = 0 then Option.bind (isO h1 p0 10) (fun u48 => Option.bind (fX10_fails p0 1 h1) (fun o51 => some (o51.1, o51.2))) else Option.bind (mxLoop (ρ := (Int32 ⊕ Unit)) (fun s10 : (Int32 × Int32) => (if s10.2 ≤ 0 then some (Sum.inr (Sum.inr ())) else Option.bind (mxLoop (ρ := (Unit ⊕ Int32)) (fun s20 : (Int32 × Int32) => Option.bind (isO h1 p0 10) (fun u29 => Option.bind (fX10_inWindow p0 h1) (fun v32 => (if v32 ≤ s20.2 then some (Sum.inr (Sum.inr s20.1)) else Option.bind (gR h1 p0 10 0) (fun r34 => Option.bind (ldI h1 r34 (211 + s20.2)) (fun v36 => (if v36 = s10.2 then (if s20.1 = 0 then some (Sum.inr (Sum.inl ())) else some (Sum.inl (s20.1 - 1, s20.2 + 1))) else some (Sum.inl (s20.1, s20.2 + 1))))))))) mxF (s10.1, 0)) (Sum.elim (fun r40 : Unit => some (Sum.inr (Sum.inl s10.2))) (fun r42 : Int32 => some (Sum.inl (r42, s10.2 - 1)))))) mxF (p1, 99)) (Sum.elim (fun r44 : Int32 => some (r44, h1)) (fun r46 : Unit => some (0, h1))))))))
abbrev rmX10_windowAt : Room := { frames := 2, cells := 0, slots := 0, locals := 41 }
set_option maxRecDepth 20000 in
theorem tX10_windowAt {l : Launch} {Z : mxZ} (hl : l.stackTraces = false) {p0 : Nat} {p1 : Int32} {h : mxH} {out : (Int32 × mxH)} (hf : fX10_windowAt p0 p1 h = some out) : mxMet l Z yX10_windowAt cX10_windowAt 5 (some .int) rmX10_windowAt [.ref p0, .int p1] h (.inl (some (.int out.1))) out.2 := by
  refine mxMet_of (by decide) hl (by simp [Value.category]) (Nat.le_of_ble_eq_true rfl) ?_
  intro X C E hX hin
  unfold fX10_windowAt at hf
  refine mG_aload_n (pc := 0) C dX10_windowAt_0 rfl ?_
  refine mG_ic (pc := 1) C dX10_windowAt_1 kI0 ?_
  obtain ⟨h1, e2, hf⟩ := mx_bind hf
  refine mG_putI (pc := 2) C dX10_windowAt_2 fl_X10_61 e2 ?_
  refine mG_iload_n (pc := 5) C dX10_windowAt_5 rfl ?_
  refine mG_ic (pc := 6) C dX10_windowAt_6 kI0 ?_
  refine mG_aload_n (pc := 7) C dX10_windowAt_7 rfl ?_
  obtain ⟨u3, e4, hf⟩ := mx_bind hf
  obtain ⟨v6, e5, hf⟩ := mx_bind hf
  refine mG_cV (pc := 8) (k' := 0) (n' := 0) 10 [] [.int 0, .int p1] C hX dX10_windowAt_8 lkV_X10_218 rfl rfl e4 (tX10_inWindow hl e5) rfl rfl rfl rfl ?_
  refine mG_ic (pc := 11) C dX10_windowAt_11 kI1 ?_
  refine mG_isub (pc := 12) C dX10_windowAt_12 ?_
  obtain ⟨v8, e7, hf⟩ := mx_bind hf
  refine mG_cS (pc := 13) (k' := 0) (n' := 0) [.int p1, .int 0, .int (v6 - 1)] [] C hX dX10_windowAt_13 lkS_X10_65 rfl (tX10_in hl e7) rfl rfl rfl rfl ?_
  refine mG_if_ne (pc := 16) (tgt := 25) C dX10_windowAt_16 (by decide) (fun q9 => ?_) (fun q9 => ?_)
  · rw [if_neg q9] at hf
    refine mG_iload_n (pc := 25) C dX10_windowAt_25 rfl ?_
    refine mG_isn (ls' := [some (.ref p0), some (.int p1), some (.int p1), none, none]) (pc := 26) C dX10_windowAt_26 rfl rfl rfl ?_
    refine mG_bp (pc := 27) C dX10_windowAt_27 kB99 ?_
    refine mG_isn (ls' := [some (.ref p0), some (.int p1), some (.int p1), some (.int 99), none]) (pc := 29) C dX10_windowAt_29 rfl rfl rfl ?_
    obtain ⟨r11, e12, hf⟩ := mx_bind hf
    have J13 : ∀ r44 : Int32, Sum.inl r44 = r11 → mG l Z X 5 0 0 68 [none, none, none, some (.int r44), none] [] h1 := by
      intro r44 q45
      subst q45
      rw [Sum.elim_inl] at hf
      refine mG_iload_n (pc := 68) C dX10_windowAt_68 rfl ?_
      cases hf
      exact mG_ir (pc := 69) C E hX dX10_windowAt_69 rfl
    have J14 : ∀ r46 : Unit, Sum.inr r46 = r11 → mG l Z X 5 0 0 85 [none, none, none, none, none] [] h1 := by
      intro r46 q47
      subst q47
      rw [Sum.elim_inr] at hf
      refine mG_ic (pc := 85) C dX10_windowAt_85 kI0 ?_
      cases hf
      exact mG_ir (pc := 86) C E hX dX10_windowAt_86 rfl
    refine mG_sub (ls' := [some (.ref p0), none, some (.int p1), some (.int 99), none]) (mxLe_s (mxLe_n (mxLe_s (mxLe_s (mxLe_n mxLe_z))))) (mxLoop_ind (K := fun s10 : (Int32 × Int32) => mG l Z X 5 0 0 30 [some (.ref p0), none, some (.int s10.1), some (.int s10.2), none] [] h1) ?_ _ _ e12)
    intro s10 o17 e18 hK15 hx16
    refine mG_iload_n (pc := 30) C dX10_windowAt_30 rfl ?_
    refine mG_if_le (pc := 31) (tgt := 85) C dX10_windowAt_31 (by decide) (fun q19 => ?_) (fun q19 => ?_)
    · rw [if_pos q19] at e18
      exact mG_sub (mxLe_n (mxLe_n (mxLe_n (mxLe_n (mxLe_n mxLe_z))))) (J14 _ (hx16 _ (Option.some.inj e18).symm))
    · rw [if_neg q19] at e18
      refine mG_ic (pc := 34) C dX10_windowAt_34 kI0 ?_
      refine mG_is (ls' := [some (.ref p0), none, some (.int s10.1), some (.int s10.2), some (.int 0)]) (pc := 35) C dX10_windowAt_35 rfl rfl rfl ?_
      obtain ⟨r21, e22, e18⟩ := mx_bind e18
      have J23 : ∀ r40 : Unit, Sum.inl r40 = r21 → mG l Z X 5 0 0 68 [none, none, none, some (.int s10.2), none] [] h1 := by
        intro r40 q41
        subst q41
        rw [Sum.elim_inl] at e18
        exact mG_sub (mxLe_n (mxLe_n (mxLe_n (mxLe_s (mxLe_n mxLe_z))))) (J13 _ (hx16 _ (Option.some.inj e18).symm))
      have J24 : ∀ r42 : Int32, Sum.inr r42 = r21 → mG l Z X 5 0 0 79 [some (.ref p0), none, some (.int r42), some (.int s10.2), none] [] h1 := by
        intro r42 q43
        subst q43
        rw [Sum.elim_inr] at e18
        refine mG_ii (ls' := [some (.ref p0), none, some (.int r42), some (.int (s10.2 - 1)), none]) (pc := 79) C dX10_windowAt_79 rfl (kincm1 _) rfl rfl rfl ?_
        refine mG_goto (tgt := 30) (pc := 82) C dX10_windowAt_82 (by decide) ?_
        exact mG_sub (mxLe_s (mxLe_n (mxLe_s (mxLe_s (mxLe_n mxLe_z))))) (hK15 _ (Option.some.inj e18).symm)
      refine mG_sub (ls' := [some (.ref p0), none, some (.int s10.1), some (.int s10.2), some (.int 0)]) (mxLe_s (mxLe_n (mxLe_s (mxLe_s (mxLe_s mxLe_z))))) (mxLoop_ind (K := fun s20 : (Int32 × Int32) => mG l Z X 5 0 0 37 [some (.ref p0), none, some (.int s20.1), some (.int s10.2), some (.int s20.2)] [] h1) ?_ _ _ e22)
      intro s20 o27 e28 hK25 hx26
      refine mG_iload (pc := 37) C dX10_windowAt_37 rfl ?_
      refine mG_aload_n (pc := 39) C dX10_windowAt_39 rfl ?_
      obtain ⟨u29, e30, e28⟩ := mx_bind e28
      obtain ⟨v32, e31, e28⟩ := mx_bind e28
      refine mG_cV (pc := 40) (k' := 0) (n' := 0) 10 [] [.int s20.2] C hX dX10_windowAt_40 lkV_X10_218 rfl rfl e30 (tX10_inWindow hl e31) rfl rfl rfl rfl ?_
      refine mG_icmp_ge (pc := 43) (tgt := 79) C dX10_windowAt_43 (by decide) (fun q33 => ?_) (fun q33 => ?_)
      · rw [if_pos q33] at e28
        exact mG_sub (mxLe_s (mxLe_n (mxLe_s (mxLe_s (mxLe_n mxLe_z))))) (J24 _ (hx26 _ (Option.some.inj e28).symm))
      · rw [if_neg q33] at e28
        refine mG_aload_n (pc := 46) C dX10_windowAt_46 rfl ?_
        obtain ⟨r34, e35, e28⟩ := mx_bind e28
        refine mG_getR (pc := 47) C dX10_windowAt_47 fl_X10_9 e35 ?_
        refine mG_sp (pc := 50) C dX10_windowAt_50 kS211 ?_
        refine mG_iload (pc := 53) C dX10_windowAt_53 rfl ?_
        refine mG_iadd (pc := 55) C dX10_windowAt_55 ?_
        obtain ⟨v36, e37, e28⟩ := mx_bind e28
        refine mG_iaload (pc := 56) C dX10_windowAt_56 e37 ?_
        refine mG_iload_n (pc := 57) C dX10_windowAt_57 rfl ?_
        refine mG_icmp_eq (pc := 58) (tgt := 64) C dX10_windowAt_58 (by decide) (fun q38 => ?_) (fun q38 => ?_)
        · rw [if_pos q38] at e28
          refine mG_iload_n (pc := 64) C dX10_windowAt_64 rfl ?_
          refine mG_if_ne (pc := 65) (tgt := 70) C dX10_windowAt_65 (by decide) (fun q39 => ?_) (fun q39 => ?_)
          · rw [if_neg q39] at e28
            refine mG_ii (ls' := [some (.ref p0), none, some (.int (s20.1 - 1)), some (.int s10.2), some (.int s20.2)]) (pc := 70) C dX10_windowAt_70 rfl (kincm1 _) rfl rfl rfl ?_
            refine mG_ii (ls' := [some (.ref p0), none, some (.int (s20.1 - 1)), some (.int s10.2), some (.int (s20.2 + 1))]) (pc := 73) C dX10_windowAt_73 rfl (kinc1 _) rfl rfl rfl ?_
            refine mG_goto (tgt := 37) (pc := 76) C dX10_windowAt_76 (by decide) ?_
            exact mG_sub (mxLe_s (mxLe_n (mxLe_s (mxLe_s (mxLe_s mxLe_z))))) (hK25 _ (Option.some.inj e28).symm)
          · rw [if_pos q39] at e28
            exact mG_sub (mxLe_n (mxLe_n (mxLe_n (mxLe_s (mxLe_n mxLe_z))))) (J23 _ (hx26 _ (Option.some.inj e28).symm))
        · rw [if_neg q38] at e28
          refine mG_goto (tgt := 73) (pc := 61) C dX10_windowAt_61 (by decide) ?_
          refine mG_ii (ls' := [some (.ref p0), none, some (.int s20.1), some (.int s10.2), some (.int (s20.2 + 1))]) (pc := 73) C dX10_windowAt_73 rfl (kinc1 _) rfl rfl rfl ?_
          refine mG_goto (tgt := 37) (pc := 76) C dX10_windowAt_76 (by decide) ?_
          exact mG_sub (mxLe_s (mxLe_n (mxLe_s (mxLe_s (mxLe_s mxLe_z))))) (hK25 _ (Option.some.inj e28).symm)
  · rw [if_pos q9] at hf
    refine mG_aload_n (pc := 19) C dX10_windowAt_19 rfl ?_
    refine mG_ic (pc := 20) C dX10_windowAt_20 kI1 ?_
    obtain ⟨u48, e49, hf⟩ := mx_bind hf
    obtain ⟨o51, e50, hf⟩ := mx_bind hf
    refine mG_cV (pc := 21) (k' := 0) (n' := 0) 10 [.int 1] [] C hX dX10_windowAt_21 lkV_X10_178 rfl rfl e49 (tX10_fails hl e50) rfl rfl rfl rfl ?_
    cases hf
    exact mG_ir (pc := 24) C E hX dX10_windowAt_24 rfl
theorem dX10_unlike_0 : decode cX10_unlike 0 = .ok (.aload_n 0, 1) := by decide +kernel
theorem dX10_unlike_1 : decode cX10_unlike 1 = .ok (.iconst 0, 1) := by decide +kernel
theorem dX10_unlike_2 : decode cX10_unlike 2 = .ok (.putfield 61, 3) := by decide +kernel
theorem dX10_unlike_5 : decode cX10_unlike 5 = .ok (.iconst 0, 1) := by decide +kernel
theorem dX10_unlike_6 : decode cX10_unlike 6 = .ok (.istore_n 1, 1) := by decide +kernel
theorem dX10_unlike_7 : decode cX10_unlike 7 = .ok (.iconst 0, 1) := by decide +kernel
theorem dX10_unlike_8 : decode cX10_unlike 8 = .ok (.istore_n 2, 1) := by decide +kernel
theorem dX10_unlike_9 : decode cX10_unlike 9 = .ok (.iload_n 2, 1) := by decide +kernel
theorem dX10_unlike_10 : decode cX10_unlike 10 = .ok (.aload_n 0, 1) := by decide +kernel
theorem dX10_unlike_11 : decode cX10_unlike 11 = .ok (.invokevirtual 218, 3) := by decide +kernel
theorem dX10_unlike_14 : decode cX10_unlike 14 = .ok (.if_icmp .ge 72, 3) := by decide +kernel
theorem dX10_unlike_17 : decode cX10_unlike 17 = .ok (.iconst 1, 1) := by decide +kernel
theorem dX10_unlike_18 : decode cX10_unlike 18 = .ok (.istore_n 3, 1) := by decide +kernel
theorem dX10_unlike_19 : decode cX10_unlike 19 = .ok (.iconst 0, 1) := by decide +kernel
theorem dX10_unlike_20 : decode cX10_unlike 20 = .ok (.istore 4, 2) := by decide +kernel
theorem dX10_unlike_22 : decode cX10_unlike 22 = .ok (.iload 4, 2) := by decide +kernel
theorem dX10_unlike_24 : decode cX10_unlike 24 = .ok (.iload_n 2, 1) := by decide +kernel
theorem dX10_unlike_25 : decode cX10_unlike 25 = .ok (.if_icmp .ge 43, 3) := by decide +kernel
theorem dX10_unlike_28 : decode cX10_unlike 28 = .ok (.iload_n 3, 1) := by decide +kernel
theorem dX10_unlike_29 : decode cX10_unlike 29 = .ok (.ifCond .eq 31, 3) := by decide +kernel
theorem dX10_unlike_32 : decode cX10_unlike 32 = .ok (.aload_n 0, 1) := by decide +kernel
theorem dX10_unlike_33 : decode cX10_unlike 33 = .ok (.getfield 9, 3) := by decide +kernel
theorem dX10_unlike_36 : decode cX10_unlike 36 = .ok (.sipush 211, 3) := by decide +kernel
theorem dX10_unlike_39 : decode cX10_unlike 39 = .ok (.iload 4, 2) := by decide +kernel
theorem dX10_unlike_41 : decode cX10_unlike 41 = .ok (.iadd, 1) := by decide +kernel
theorem dX10_unlike_42 : decode cX10_unlike 42 = .ok (.iaload, 1) := by decide +kernel
theorem dX10_unlike_43 : decode cX10_unlike 43 = .ok (.aload_n 0, 1) := by decide +kernel
theorem dX10_unlike_44 : decode cX10_unlike 44 = .ok (.getfield 9, 3) := by decide +kernel
theorem dX10_unlike_47 : decode cX10_unlike 47 = .ok (.sipush 211, 3) := by decide +kernel
theorem dX10_unlike_50 : decode cX10_unlike 50 = .ok (.iload_n 2, 1) := by decide +kernel
theorem dX10_unlike_51 : decode cX10_unlike 51 = .ok (.iadd, 1) := by decide +kernel
theorem dX10_unlike_52 : decode cX10_unlike 52 = .ok (.iaload, 1) := by decide +kernel
theorem dX10_unlike_53 : decode cX10_unlike 53 = .ok (.if_icmp .eq 7, 3) := by decide +kernel
theorem dX10_unlike_56 : decode cX10_unlike 56 = .ok (.iconst 1, 1) := by decide +kernel
theorem dX10_unlike_57 : decode cX10_unlike 57 = .ok (.goto 4, 3) := by decide +kernel
theorem dX10_unlike_60 : decode cX10_unlike 60 = .ok (.iconst 0, 1) := by decide +kernel
theorem dX10_unlike_61 : decode cX10_unlike 61 = .ok (.istore_n 3, 1) := by decide +kernel
theorem dX10_unlike_62 : decode cX10_unlike 62 = .ok (.iinc 4 1, 3) := by decide +kernel
theorem dX10_unlike_65 : decode cX10_unlike 65 = .ok (.goto (-43), 3) := by decide +kernel
theorem dX10_unlike_68 : decode cX10_unlike 68 = .ok (.iload_n 1, 1) := by decide +kernel
theorem dX10_unlike_69 : decode cX10_unlike 69 = .ok (.iload_n 3, 1) := by decide +kernel
theorem dX10_unlike_70 : decode cX10_unlike 70 = .ok (.ifCond .eq 7, 3) := by decide +kernel
theorem dX10_unlike_73 : decode cX10_unlike 73 = .ok (.iconst 1, 1) := by decide +kernel
theorem dX10_unlike_74 : decode cX10_unlike 74 = .ok (.goto 4, 3) := by decide +kernel
theorem dX10_unlike_77 : decode cX10_unlike 77 = .ok (.iconst 0, 1) := by decide +kernel
theorem dX10_unlike_78 : decode cX10_unlike 78 = .ok (.iadd, 1) := by decide +kernel
theorem dX10_unlike_79 : decode cX10_unlike 79 = .ok (.istore_n 1, 1) := by decide +kernel
theorem dX10_unlike_80 : decode cX10_unlike 80 = .ok (.iinc 2 1, 3) := by decide +kernel
theorem dX10_unlike_83 : decode cX10_unlike 83 = .ok (.goto (-74), 3) := by decide +kernel
theorem dX10_unlike_86 : decode cX10_unlike 86 = .ok (.iload_n 1, 1) := by decide +kernel
theorem dX10_unlike_87 : decode cX10_unlike 87 = .ok (.ireturn, 1) := by decide +kernel
def fX10_unlike (p0 : Nat) (h : mxH) : Option (Int32 × mxH) := Option.bind (pI h p0 10 3 0) (fun h1 => Option.bind (mxLoop (ρ := Int32) (fun s3 : (Int32 × Int32) => Option.bind (isO h1 p0 10) (fun u11 => Option.bind (fX10_inWindow p0 h1) (fun v14 => (if v14 ≤ s3.2 then some (Sum.inr s3.1) else Option.bind (mxLoop (ρ := Int32) (fun s16 : (Int32 × Int32) => (if s3.2 ≤ s16.2 then some (Sum.inr s16.1) else Option.bind (α := Int32) (if s16.1 = 0 then some 0 else Option.bind (gR h1 p0 10 0) (fun r29 => Option.bind (ldI h1 r29 (211 + s16.2)) (fun v31 => Option.bind (gR h1 p0 10 0) (fun r33 => Option.bind (ldI h1 r33 (211 + s3.2)) (fun v35 => (if v31 = v35 then some 0 else some 1)))))) (fun p27' : Int32 => some (Sum.inl (p27', s16.2 + 1))))) mxF (1, 0)) (fun r39 : Int32 => Option.bind (α := Int32) (if r39 = 0 then some 0 else some 1) (fun p42' : Int32 => some (Sum.inl (s3.1 + p42', s3.2 + 1)))))))) mxF (0, 0)) (fun r46 : Int32 => some (r46, h1)))
abbrev rmX10_unlike : Room := { frames := 2, cells := 0, slots := 0, locals := 41 }
set_option maxRecDepth 20000 in
theorem tX10_unlike {l : Launch} {Z : mxZ} (hl : l.stackTraces = false) {p0 : Nat} {h : mxH} {out : (Int32 × mxH)} (hf : fX10_unlike p0 h = some out) : mxMet l Z yX10_unlike cX10_unlike 5 (some .int) rmX10_unlike [.ref p0] h (.inl (some (.int out.1))) out.2 := by
  refine mxMet_of (by decide) hl (by simp [Value.category]) (Nat.le_of_ble_eq_true rfl) ?_
  intro X C E hX hin
  unfold fX10_unlike at hf
  refine mG_aload_n (pc := 0) C dX10_unlike_0 rfl ?_
  refine mG_ic (pc := 1) C dX10_unlike_1 kI0 ?_
  obtain ⟨h1, e2, hf⟩ := mx_bind hf
  refine mG_putI (pc := 2) C dX10_unlike_2 fl_X10_61 e2 ?_
  refine mG_ic (pc := 5) C dX10_unlike_5 kI0 ?_
  refine mG_isn (ls' := [some (.ref p0), some (.int 0), none, none, none]) (pc := 6) C dX10_unlike_6 rfl rfl rfl ?_
  refine mG_ic (pc := 7) C dX10_unlike_7 kI0 ?_
  refine mG_isn (ls' := [some (.ref p0), some (.int 0), some (.int 0), none, none]) (pc := 8) C dX10_unlike_8 rfl rfl rfl ?_
  obtain ⟨r4, e5, hf⟩ := mx_bind hf
  have J6 : ∀ r46 : Int32, r46 = r4 → mG l Z X 5 0 0 86 [none, some (.int r46), none, none, none] [] h1 := by
    intro r46 q47
    subst q47
    refine mG_iload_n (pc := 86) C dX10_unlike_86 rfl ?_
    cases hf
    exact mG_ir (pc := 87) C E hX dX10_unlike_87 rfl
  refine mG_sub (ls' := [some (.ref p0), some (.int 0), some (.int 0), none, none]) (mxLe_s (mxLe_s (mxLe_s (mxLe_n (mxLe_n mxLe_z))))) (mxLoop_ind (K := fun s3 : (Int32 × Int32) => mG l Z X 5 0 0 9 [some (.ref p0), some (.int s3.1), some (.int s3.2), none, none] [] h1) ?_ _ _ e5)
  intro s3 o9 e10 hK7 hx8
  refine mG_iload_n (pc := 9) C dX10_unlike_9 rfl ?_
  refine mG_aload_n (pc := 10) C dX10_unlike_10 rfl ?_
  obtain ⟨u11, e12, e10⟩ := mx_bind e10
  obtain ⟨v14, e13, e10⟩ := mx_bind e10
  refine mG_cV (pc := 11) (k' := 0) (n' := 0) 10 [] [.int s3.2] C hX dX10_unlike_11 lkV_X10_218 rfl rfl e12 (tX10_inWindow hl e13) rfl rfl rfl rfl ?_
  refine mG_icmp_ge (pc := 14) (tgt := 86) C dX10_unlike_14 (by decide) (fun q15 => ?_) (fun q15 => ?_)
  · rw [if_pos q15] at e10
    exact mG_sub (mxLe_n (mxLe_s (mxLe_n (mxLe_n (mxLe_n mxLe_z))))) (J6 _ (hx8 _ (Option.some.inj e10).symm))
  · rw [if_neg q15] at e10
    refine mG_ic (pc := 17) C dX10_unlike_17 kI1 ?_
    refine mG_isn (ls' := [some (.ref p0), some (.int s3.1), some (.int s3.2), some (.int 1), none]) (pc := 18) C dX10_unlike_18 rfl rfl rfl ?_
    refine mG_ic (pc := 19) C dX10_unlike_19 kI0 ?_
    refine mG_is (ls' := [some (.ref p0), some (.int s3.1), some (.int s3.2), some (.int 1), some (.int 0)]) (pc := 20) C dX10_unlike_20 rfl rfl rfl ?_
    obtain ⟨r17, e18, e10⟩ := mx_bind e10
    have J19 : ∀ r39 : Int32, r39 = r17 → mG l Z X 5 0 0 68 [some (.ref p0), some (.int s3.1), some (.int s3.2), some (.int r39), none] [] h1 := by
      intro r39 q45
      subst q45
      refine mG_iload_n (pc := 68) C dX10_unlike_68 rfl ?_
      refine mG_iload_n (pc := 69) C dX10_unlike_69 rfl ?_
      obtain ⟨p42, e43, e10⟩ := mx_bind e10
      have J41 : ∀ p42' : Int32, p42' = p42 → mG l Z X 5 0 0 78 [some (.ref p0), none, some (.int s3.2), none, none] [.int p42', .int s3.1] h1 := by
        intro p42' q44
        subst q44
        refine mG_iadd (pc := 78) C dX10_unlike_78 ?_
        refine mG_isn (ls' := [some (.ref p0), some (.int (s3.1 + p42')), some (.int s3.2), none, none]) (pc := 79) C dX10_unlike_79 rfl rfl rfl ?_
        refine mG_ii (ls' := [some (.ref p0), some (.int (s3.1 + p42')), some (.int (s3.2 + 1)), none, none]) (pc := 80) C dX10_unlike_80 rfl (kinc1 _) rfl rfl rfl ?_
        refine mG_goto (tgt := 9) (pc := 83) C dX10_unlike_83 (by decide) ?_
        exact mG_sub (mxLe_s (mxLe_s (mxLe_s (mxLe_n (mxLe_n mxLe_z))))) (hK7 _ (Option.some.inj e10).symm)
      refine mG_if_eq (pc := 70) (tgt := 77) C dX10_unlike_70 (by decide) (fun q40 => ?_) (fun q40 => ?_)
      · rw [if_pos q40] at e43
        refine mG_ic (pc := 77) C dX10_unlike_77 kI0 ?_
        exact mG_sub (mxLe_s (mxLe_n (mxLe_s (mxLe_n (mxLe_n mxLe_z))))) (J41 _ (Option.some.inj e43))
      · rw [if_neg q40] at e43
        refine mG_ic (pc := 73) C dX10_unlike_73 kI1 ?_
        refine mG_goto (tgt := 78) (pc := 74) C dX10_unlike_74 (by decide) ?_
        exact mG_sub (mxLe_s (mxLe_n (mxLe_s (mxLe_n (mxLe_n mxLe_z))))) (J41 _ (Option.some.inj e43))
    refine mG_sub (ls' := [some (.ref p0), some (.int s3.1), some (.int s3.2), some (.int 1), some (.int 0)]) (mxLe_s (mxLe_s (mxLe_s (mxLe_s (mxLe_s mxLe_z))))) (mxLoop_ind (K := fun s16 : (Int32 × Int32) => mG l Z X 5 0 0 22 [some (.ref p0), some (.int s3.1), some (.int s3.2), some (.int s16.1), some (.int s16.2)] [] h1) ?_ _ _ e18)
    intro s16 o22 e23 hK20 hx21
    refine mG_iload (pc := 22) C dX10_unlike_22 rfl ?_
    refine mG_iload_n (pc := 24) C dX10_unlike_24 rfl ?_
    refine mG_icmp_ge (pc := 25) (tgt := 68) C dX10_unlike_25 (by decide) (fun q24 => ?_) (fun q24 => ?_)
    · rw [if_pos q24] at e23
      exact mG_sub (mxLe_s (mxLe_s (mxLe_s (mxLe_s (mxLe_n mxLe_z))))) (J19 _ (hx21 _ (Option.some.inj e23).symm))
    · rw [if_neg q24] at e23
      refine mG_iload_n (pc := 28) C dX10_unlike_28 rfl ?_
      obtain ⟨p27, e28, e23⟩ := mx_bind e23
      have J26 : ∀ p27' : Int32, p27' = p27 → mG l Z X 5 0 0 61 [some (.ref p0), some (.int s3.1), some (.int s3.2), none, some (.int s16.2)] [.int p27'] h1 := by
        intro p27' q38
        subst q38
        refine mG_isn (ls' := [some (.ref p0), some (.int s3.1), some (.int s3.2), some (.int p27'), some (.int s16.2)]) (pc := 61) C dX10_unlike_61 rfl rfl rfl ?_
        refine mG_ii (ls' := [some (.ref p0), some (.int s3.1), some (.int s3.2), some (.int p27'), some (.int (s16.2 + 1))]) (pc := 62) C dX10_unlike_62 rfl (kinc1 _) rfl rfl rfl ?_
        refine mG_goto (tgt := 22) (pc := 65) C dX10_unlike_65 (by decide) ?_
        exact mG_sub (mxLe_s (mxLe_s (mxLe_s (mxLe_s (mxLe_s mxLe_z))))) (hK20 _ (Option.some.inj e23).symm)
      refine mG_if_eq (pc := 29) (tgt := 60) C dX10_unlike_29 (by decide) (fun q25 => ?_) (fun q25 => ?_)
      · rw [if_pos q25] at e28
        refine mG_ic (pc := 60) C dX10_unlike_60 kI0 ?_
        exact mG_sub (mxLe_s (mxLe_s (mxLe_s (mxLe_n (mxLe_s mxLe_z))))) (J26 _ (Option.some.inj e28))
      · rw [if_neg q25] at e28
        refine mG_aload_n (pc := 32) C dX10_unlike_32 rfl ?_
        obtain ⟨r29, e30, e28⟩ := mx_bind e28
        refine mG_getR (pc := 33) C dX10_unlike_33 fl_X10_9 e30 ?_
        refine mG_sp (pc := 36) C dX10_unlike_36 kS211 ?_
        refine mG_iload (pc := 39) C dX10_unlike_39 rfl ?_
        refine mG_iadd (pc := 41) C dX10_unlike_41 ?_
        obtain ⟨v31, e32, e28⟩ := mx_bind e28
        refine mG_iaload (pc := 42) C dX10_unlike_42 e32 ?_
        refine mG_aload_n (pc := 43) C dX10_unlike_43 rfl ?_
        obtain ⟨r33, e34, e28⟩ := mx_bind e28
        refine mG_getR (pc := 44) C dX10_unlike_44 fl_X10_9 e34 ?_
        refine mG_sp (pc := 47) C dX10_unlike_47 kS211 ?_
        refine mG_iload_n (pc := 50) C dX10_unlike_50 rfl ?_
        refine mG_iadd (pc := 51) C dX10_unlike_51 ?_
        obtain ⟨v35, e36, e28⟩ := mx_bind e28
        refine mG_iaload (pc := 52) C dX10_unlike_52 e36 ?_
        refine mG_icmp_eq (pc := 53) (tgt := 60) C dX10_unlike_53 (by decide) (fun q37 => ?_) (fun q37 => ?_)
        · rw [if_pos q37] at e28
          refine mG_ic (pc := 60) C dX10_unlike_60 kI0 ?_
          exact mG_sub (mxLe_s (mxLe_s (mxLe_s (mxLe_n (mxLe_s mxLe_z))))) (J26 _ (Option.some.inj e28))
        · rw [if_neg q37] at e28
          refine mG_ic (pc := 56) C dX10_unlike_56 kI1 ?_
          refine mG_goto (tgt := 61) (pc := 57) C dX10_unlike_57 (by decide) ?_
          exact mG_sub (mxLe_s (mxLe_s (mxLe_s (mxLe_n (mxLe_s mxLe_z))))) (J26 _ (Option.some.inj e28))
theorem dX10_counted_0 : decode cX10_counted 0 = .ok (.aload_n 0, 1) := by decide +kernel
theorem dX10_counted_1 : decode cX10_counted 1 = .ok (.iconst 0, 1) := by decide +kernel
theorem dX10_counted_2 : decode cX10_counted 2 = .ok (.putfield 61, 3) := by decide +kernel
theorem dX10_counted_5 : decode cX10_counted 5 = .ok (.iload_n 1, 1) := by decide +kernel
theorem dX10_counted_6 : decode cX10_counted 6 = .ok (.iconst 0, 1) := by decide +kernel
theorem dX10_counted_7 : decode cX10_counted 7 = .ok (.bipush 99, 2) := by decide +kernel
theorem dX10_counted_9 : decode cX10_counted 9 = .ok (.invokestatic 65, 3) := by decide +kernel
theorem dX10_counted_12 : decode cX10_counted 12 = .ok (.ifCond .ne 9, 3) := by decide +kernel
theorem dX10_counted_15 : decode cX10_counted 15 = .ok (.aload_n 0, 1) := by decide +kernel
theorem dX10_counted_16 : decode cX10_counted 16 = .ok (.iconst 1, 1) := by decide +kernel
theorem dX10_counted_17 : decode cX10_counted 17 = .ok (.invokevirtual 178, 3) := by decide +kernel
theorem dX10_counted_20 : decode cX10_counted 20 = .ok (.ireturn, 1) := by decide +kernel
theorem dX10_counted_21 : decode cX10_counted 21 = .ok (.iconst 0, 1) := by decide +kernel
theorem dX10_counted_22 : decode cX10_counted 22 = .ok (.istore_n 2, 1) := by decide +kernel
theorem dX10_counted_23 : decode cX10_counted 23 = .ok (.iload_n 2, 1) := by decide +kernel
theorem dX10_counted_24 : decode cX10_counted 24 = .ok (.aload_n 0, 1) := by decide +kernel
theorem dX10_counted_25 : decode cX10_counted 25 = .ok (.getfield 9, 3) := by decide +kernel
theorem dX10_counted_28 : decode cX10_counted 28 = .ok (.bipush 109, 2) := by decide +kernel
theorem dX10_counted_30 : decode cX10_counted 30 = .ok (.iaload, 1) := by decide +kernel
theorem dX10_counted_31 : decode cX10_counted 31 = .ok (.if_icmp .ge 34, 3) := by decide +kernel
theorem dX10_counted_34 : decode cX10_counted 34 = .ok (.aload_n 0, 1) := by decide +kernel
theorem dX10_counted_35 : decode cX10_counted 35 = .ok (.getfield 9, 3) := by decide +kernel
theorem dX10_counted_38 : decode cX10_counted 38 = .ok (.sipush 221, 3) := by decide +kernel
theorem dX10_counted_41 : decode cX10_counted 41 = .ok (.iload_n 2, 1) := by decide +kernel
theorem dX10_counted_42 : decode cX10_counted 42 = .ok (.iadd, 1) := by decide +kernel
theorem dX10_counted_43 : decode cX10_counted 43 = .ok (.iaload, 1) := by decide +kernel
theorem dX10_counted_44 : decode cX10_counted 44 = .ok (.iload_n 1, 1) := by decide +kernel
theorem dX10_counted_45 : decode cX10_counted 45 = .ok (.if_icmp .ne 14, 3) := by decide +kernel
theorem dX10_counted_48 : decode cX10_counted 48 = .ok (.aload_n 0, 1) := by decide +kernel
theorem dX10_counted_49 : decode cX10_counted 49 = .ok (.getfield 9, 3) := by decide +kernel
theorem dX10_counted_52 : decode cX10_counted 52 = .ok (.sipush 225, 3) := by decide +kernel
theorem dX10_counted_55 : decode cX10_counted 55 = .ok (.iload_n 2, 1) := by decide +kernel
theorem dX10_counted_56 : decode cX10_counted 56 = .ok (.iadd, 1) := by decide +kernel
theorem dX10_counted_57 : decode cX10_counted 57 = .ok (.iaload, 1) := by decide +kernel
theorem dX10_counted_58 : decode cX10_counted 58 = .ok (.ireturn, 1) := by decide +kernel
theorem dX10_counted_59 : decode cX10_counted 59 = .ok (.iinc 2 1, 3) := by decide +kernel
theorem dX10_counted_62 : decode cX10_counted 62 = .ok (.goto (-39), 3) := by decide +kernel
theorem dX10_counted_65 : decode cX10_counted 65 = .ok (.iconst 0, 1) := by decide +kernel
theorem dX10_counted_66 : decode cX10_counted 66 = .ok (.ireturn, 1) := by decide +kernel
def fX10_counted (p0 : Nat) (p1 : Int32) (h : mxH) : Option (Int32 × mxH) := Option.bind (pI h p0 10 3 0) (fun h1 => Option.bind (fX10_in p1 0 99 h1) (fun v4 => (if v4 = 0 then Option.bind (isO h1 p0 10) (fun u33 => Option.bind (fX10_fails p0 1 h1) (fun o36 => some (o36.1, o36.2))) else Option.bind (mxLoop (ρ := (Int32 ⊕ Unit)) (fun s6 : Int32 => Option.bind (gR h1 p0 10 0) (fun r15 => Option.bind (ldI h1 r15 109) (fun v17 => (if v17 ≤ s6 then some (Sum.inr (Sum.inr ())) else Option.bind (gR h1 p0 10 0) (fun r20 => Option.bind (ldI h1 r20 (221 + s6)) (fun v22 => (if v22 = p1 then some (Sum.inr (Sum.inl s6)) else some (Sum.inl (s6 + 1))))))))) mxF 0) (Sum.elim (fun r25 : Int32 => Option.bind (gR h1 p0 10 0) (fun r26 => Option.bind (ldI h1 r26 (225 + r25)) (fun v28 => some (v28, h1)))) (fun r31 : Unit => some (0, h1))))))
abbrev rmX10_counted : Room := { frames := 1, cells := 0, slots := 0, locals := 22 }
set_option maxRecDepth 20000 in
theorem tX10_counted {l : Launch} {Z : mxZ} (hl : l.stackTraces = false) {p0 : Nat} {p1 : Int32} {h : mxH} {out : (Int32 × mxH)} (hf : fX10_counted p0 p1 h = some out) : mxMet l Z yX10_counted cX10_counted 3 (some .int) rmX10_counted [.ref p0, .int p1] h (.inl (some (.int out.1))) out.2 := by
  refine mxMet_of (by decide) hl (by simp [Value.category]) (Nat.le_of_ble_eq_true rfl) ?_
  intro X C E hX hin
  unfold fX10_counted at hf
  refine mG_aload_n (pc := 0) C dX10_counted_0 rfl ?_
  refine mG_ic (pc := 1) C dX10_counted_1 kI0 ?_
  obtain ⟨h1, e2, hf⟩ := mx_bind hf
  refine mG_putI (pc := 2) C dX10_counted_2 fl_X10_61 e2 ?_
  refine mG_iload_n (pc := 5) C dX10_counted_5 rfl ?_
  refine mG_ic (pc := 6) C dX10_counted_6 kI0 ?_
  refine mG_bp (pc := 7) C dX10_counted_7 kB99 ?_
  obtain ⟨v4, e3, hf⟩ := mx_bind hf
  refine mG_cS (pc := 9) (k' := 0) (n' := 0) [.int p1, .int 0, .int 99] [] C hX dX10_counted_9 lkS_X10_65 rfl (tX10_in hl e3) rfl rfl rfl rfl ?_
  refine mG_if_ne (pc := 12) (tgt := 21) C dX10_counted_12 (by decide) (fun q5 => ?_) (fun q5 => ?_)
  · rw [if_neg q5] at hf
    refine mG_ic (pc := 21) C dX10_counted_21 kI0 ?_
    refine mG_isn (ls' := [some (.ref p0), some (.int p1), some (.int 0)]) (pc := 22) C dX10_counted_22 rfl rfl rfl ?_
    obtain ⟨r7, e8, hf⟩ := mx_bind hf
    have J9 : ∀ r25 : Int32, Sum.inl r25 = r7 → mG l Z X 3 0 0 48 [some (.ref p0), none, some (.int r25)] [] h1 := by
      intro r25 q30
      subst q30
      rw [Sum.elim_inl] at hf
      refine mG_aload_n (pc := 48) C dX10_counted_48 rfl ?_
      obtain ⟨r26, e27, hf⟩ := mx_bind hf
      refine mG_getR (pc := 49) C dX10_counted_49 fl_X10_9 e27 ?_
      refine mG_sp (pc := 52) C dX10_counted_52 kS225 ?_
      refine mG_iload_n (pc := 55) C dX10_counted_55 rfl ?_
      refine mG_iadd (pc := 56) C dX10_counted_56 ?_
      obtain ⟨v28, e29, hf⟩ := mx_bind hf
      refine mG_iaload (pc := 57) C dX10_counted_57 e29 ?_
      cases hf
      exact mG_ir (pc := 58) C E hX dX10_counted_58 rfl
    have J10 : ∀ r31 : Unit, Sum.inr r31 = r7 → mG l Z X 3 0 0 65 [none, none, none] [] h1 := by
      intro r31 q32
      subst q32
      rw [Sum.elim_inr] at hf
      refine mG_ic (pc := 65) C dX10_counted_65 kI0 ?_
      cases hf
      exact mG_ir (pc := 66) C E hX dX10_counted_66 rfl
    refine mG_sub (ls' := [some (.ref p0), some (.int p1), some (.int 0)]) (mxLe_s (mxLe_s (mxLe_s mxLe_z))) (mxLoop_ind (K := fun s6 : Int32 => mG l Z X 3 0 0 23 [some (.ref p0), some (.int p1), some (.int s6)] [] h1) ?_ _ _ e8)
    intro s6 o13 e14 hK11 hx12
    refine mG_iload_n (pc := 23) C dX10_counted_23 rfl ?_
    refine mG_aload_n (pc := 24) C dX10_counted_24 rfl ?_
    obtain ⟨r15, e16, e14⟩ := mx_bind e14
    refine mG_getR (pc := 25) C dX10_counted_25 fl_X10_9 e16 ?_
    refine mG_bp (pc := 28) C dX10_counted_28 kB109 ?_
    obtain ⟨v17, e18, e14⟩ := mx_bind e14
    refine mG_iaload (pc := 30) C dX10_counted_30 e18 ?_
    refine mG_icmp_ge (pc := 31) (tgt := 65) C dX10_counted_31 (by decide) (fun q19 => ?_) (fun q19 => ?_)
    · rw [if_pos q19] at e14
      exact mG_sub (mxLe_n (mxLe_n (mxLe_n mxLe_z))) (J10 _ (hx12 _ (Option.some.inj e14).symm))
    · rw [if_neg q19] at e14
      refine mG_aload_n (pc := 34) C dX10_counted_34 rfl ?_
      obtain ⟨r20, e21, e14⟩ := mx_bind e14
      refine mG_getR (pc := 35) C dX10_counted_35 fl_X10_9 e21 ?_
      refine mG_sp (pc := 38) C dX10_counted_38 kS221 ?_
      refine mG_iload_n (pc := 41) C dX10_counted_41 rfl ?_
      refine mG_iadd (pc := 42) C dX10_counted_42 ?_
      obtain ⟨v22, e23, e14⟩ := mx_bind e14
      refine mG_iaload (pc := 43) C dX10_counted_43 e23 ?_
      refine mG_iload_n (pc := 44) C dX10_counted_44 rfl ?_
      refine mG_icmp_ne (pc := 45) (tgt := 59) C dX10_counted_45 (by decide) (fun q24 => ?_) (fun q24 => ?_)
      · rw [if_neg q24] at e14
        refine mG_ii (ls' := [some (.ref p0), some (.int p1), some (.int (s6 + 1))]) (pc := 59) C dX10_counted_59 rfl (kinc1 _) rfl rfl rfl ?_
        refine mG_goto (tgt := 23) (pc := 62) C dX10_counted_62 (by decide) ?_
        exact mG_sub (mxLe_s (mxLe_s (mxLe_s mxLe_z))) (hK11 _ (Option.some.inj e14).symm)
      · rw [if_pos q24] at e14
        exact mG_sub (mxLe_s (mxLe_n (mxLe_s mxLe_z))) (J9 _ (hx12 _ (Option.some.inj e14).symm))
  · rw [if_pos q5] at hf
    refine mG_aload_n (pc := 15) C dX10_counted_15 rfl ?_
    refine mG_ic (pc := 16) C dX10_counted_16 kI1 ?_
    obtain ⟨u33, e34, hf⟩ := mx_bind hf
    obtain ⟨o36, e35, hf⟩ := mx_bind hf
    refine mG_cV (pc := 17) (k' := 0) (n' := 0) 10 [.int 1] [] C hX dX10_counted_17 lkV_X10_178 rfl rfl e34 (tX10_fails hl e35) rfl rfl rfl rfl ?_
    cases hf
    exact mG_ir (pc := 20) C E hX dX10_counted_20 rfl
theorem dX10_came_0 : decode cX10_came 0 = .ok (.aload_n 0, 1) := by decide +kernel
theorem dX10_came_1 : decode cX10_came 1 = .ok (.iconst 0, 1) := by decide +kernel
theorem dX10_came_2 : decode cX10_came 2 = .ok (.putfield 61, 3) := by decide +kernel
theorem dX10_came_5 : decode cX10_came 5 = .ok (.iload_n 1, 1) := by decide +kernel
theorem dX10_came_6 : decode cX10_came 6 = .ok (.iconst 0, 1) := by decide +kernel
theorem dX10_came_7 : decode cX10_came 7 = .ok (.bipush 99, 2) := by decide +kernel
theorem dX10_came_9 : decode cX10_came 9 = .ok (.invokestatic 65, 3) := by decide +kernel
theorem dX10_came_12 : decode cX10_came 12 = .ok (.ifCond .eq 15, 3) := by decide +kernel
theorem dX10_came_15 : decode cX10_came 15 = .ok (.aload_n 0, 1) := by decide +kernel
theorem dX10_came_16 : decode cX10_came 16 = .ok (.getfield 9, 3) := by decide +kernel
theorem dX10_came_19 : decode cX10_came 19 = .ok (.bipush 111, 2) := by decide +kernel
theorem dX10_came_21 : decode cX10_came 21 = .ok (.iload_n 1, 1) := by decide +kernel
theorem dX10_came_22 : decode cX10_came 22 = .ok (.iadd, 1) := by decide +kernel
theorem dX10_came_23 : decode cX10_came 23 = .ok (.iaload, 1) := by decide +kernel
theorem dX10_came_24 : decode cX10_came 24 = .ok (.goto 8, 3) := by decide +kernel
theorem dX10_came_27 : decode cX10_came 27 = .ok (.aload_n 0, 1) := by decide +kernel
theorem dX10_came_28 : decode cX10_came 28 = .ok (.iconst 1, 1) := by decide +kernel
theorem dX10_came_29 : decode cX10_came 29 = .ok (.invokevirtual 178, 3) := by decide +kernel
theorem dX10_came_32 : decode cX10_came 32 = .ok (.ireturn, 1) := by decide +kernel
def fX10_came (p0 : Nat) (p1 : Int32) (h : mxH) : Option (Int32 × mxH) := Option.bind (pI h p0 10 3 0) (fun h1 => Option.bind (fX10_in p1 0 99 h1) (fun v4 => Option.bind (α := (Int32 × mxH)) (if v4 = 0 then Option.bind (isO h1 p0 10) (fun u9 => Option.bind (fX10_fails p0 1 h1) (fun o12 => some (o12.1, o12.2))) else Option.bind (gR h1 p0 10 0) (fun r13 => Option.bind (ldI h1 r13 (111 + p1)) (fun v15 => some (v15, h1)))) (fun p7' : (Int32 × mxH) => some (p7'.1, p7'.2))))
abbrev rmX10_came : Room := { frames := 1, cells := 0, slots := 0, locals := 22 }
set_option maxRecDepth 20000 in
theorem tX10_came {l : Launch} {Z : mxZ} (hl : l.stackTraces = false) {p0 : Nat} {p1 : Int32} {h : mxH} {out : (Int32 × mxH)} (hf : fX10_came p0 p1 h = some out) : mxMet l Z yX10_came cX10_came 2 (some .int) rmX10_came [.ref p0, .int p1] h (.inl (some (.int out.1))) out.2 := by
  refine mxMet_of (by decide) hl (by simp [Value.category]) (Nat.le_of_ble_eq_true rfl) ?_
  intro X C E hX hin
  unfold fX10_came at hf
  refine mG_aload_n (pc := 0) C dX10_came_0 rfl ?_
  refine mG_ic (pc := 1) C dX10_came_1 kI0 ?_
  obtain ⟨h1, e2, hf⟩ := mx_bind hf
  refine mG_putI (pc := 2) C dX10_came_2 fl_X10_61 e2 ?_
  refine mG_iload_n (pc := 5) C dX10_came_5 rfl ?_
  refine mG_ic (pc := 6) C dX10_came_6 kI0 ?_
  refine mG_bp (pc := 7) C dX10_came_7 kB99 ?_
  obtain ⟨v4, e3, hf⟩ := mx_bind hf
  refine mG_cS (pc := 9) (k' := 0) (n' := 0) [.int p1, .int 0, .int 99] [] C hX dX10_came_9 lkS_X10_65 rfl (tX10_in hl e3) rfl rfl rfl rfl ?_
  obtain ⟨p7, e8, hf⟩ := mx_bind hf
  have J6 : ∀ p7' : (Int32 × mxH), p7' = p7 → mG l Z X 2 0 0 32 [none, none] [.int p7'.1] p7'.2 := by
    intro p7' q17
    subst q17
    cases hf
    exact mG_ir (pc := 32) C E hX dX10_came_32 rfl
  refine mG_if_eq (pc := 12) (tgt := 27) C dX10_came_12 (by decide) (fun q5 => ?_) (fun q5 => ?_)
  · rw [if_pos q5] at e8
    refine mG_aload_n (pc := 27) C dX10_came_27 rfl ?_
    refine mG_ic (pc := 28) C dX10_came_28 kI1 ?_
    obtain ⟨u9, e10, e8⟩ := mx_bind e8
    obtain ⟨o12, e11, e8⟩ := mx_bind e8
    refine mG_cV (pc := 29) (k' := 0) (n' := 0) 10 [.int 1] [] C hX dX10_came_29 lkV_X10_178 rfl rfl e10 (tX10_fails hl e11) rfl rfl rfl rfl ?_
    exact mG_sub (mxLe_n (mxLe_n mxLe_z)) (J6 _ (Option.some.inj e8))
  · rw [if_neg q5] at e8
    refine mG_aload_n (pc := 15) C dX10_came_15 rfl ?_
    obtain ⟨r13, e14, e8⟩ := mx_bind e8
    refine mG_getR (pc := 16) C dX10_came_16 fl_X10_9 e14 ?_
    refine mG_bp (pc := 19) C dX10_came_19 kB111 ?_
    refine mG_iload_n (pc := 21) C dX10_came_21 rfl ?_
    refine mG_iadd (pc := 22) C dX10_came_22 ?_
    obtain ⟨v15, e16, e8⟩ := mx_bind e8
    refine mG_iaload (pc := 23) C dX10_came_23 e16 ?_
    refine mG_goto (tgt := 32) (pc := 24) C dX10_came_24 (by decide) ?_
    exact mG_sub (mxLe_n (mxLe_n mxLe_z)) (J6 _ (Option.some.inj e8))
theorem dX10_bound_0 : decode cX10_bound 0 = .ok (.aload_n 0, 1) := by decide +kernel
theorem dX10_bound_1 : decode cX10_bound 1 = .ok (.iconst 0, 1) := by decide +kernel
theorem dX10_bound_2 : decode cX10_bound 2 = .ok (.putfield 61, 3) := by decide +kernel
theorem dX10_bound_5 : decode cX10_bound 5 = .ok (.aload_n 0, 1) := by decide +kernel
theorem dX10_bound_6 : decode cX10_bound 6 = .ok (.getfield 9, 3) := by decide +kernel
theorem dX10_bound_9 : decode cX10_bound 9 = .ok (.sipush 229, 3) := by decide +kernel
theorem dX10_bound_12 : decode cX10_bound 12 = .ok (.iaload, 1) := by decide +kernel
theorem dX10_bound_13 : decode cX10_bound 13 = .ok (.ireturn, 1) := by decide +kernel
def fX10_bound (p0 : Nat) (h : mxH) : Option (Int32 × mxH) := Option.bind (pI h p0 10 3 0) (fun h1 => Option.bind (gR h1 p0 10 0) (fun r3 => Option.bind (ldI h1 r3 229) (fun v5 => some (v5, h1))))
abbrev rmX10_bound : Room := { frames := 0, cells := 0, slots := 0, locals := 0 }
set_option maxRecDepth 20000 in
theorem tX10_bound {l : Launch} {Z : mxZ} (hl : l.stackTraces = false) {p0 : Nat} {h : mxH} {out : (Int32 × mxH)} (hf : fX10_bound p0 h = some out) : mxMet l Z yX10_bound cX10_bound 1 (some .int) rmX10_bound [.ref p0] h (.inl (some (.int out.1))) out.2 := by
  refine mxMet_of (by decide) hl (by simp [Value.category]) (Nat.le_of_ble_eq_true rfl) ?_
  intro X C E hX hin
  unfold fX10_bound at hf
  refine mG_aload_n (pc := 0) C dX10_bound_0 rfl ?_
  refine mG_ic (pc := 1) C dX10_bound_1 kI0 ?_
  obtain ⟨h1, e2, hf⟩ := mx_bind hf
  refine mG_putI (pc := 2) C dX10_bound_2 fl_X10_61 e2 ?_
  refine mG_aload_n (pc := 5) C dX10_bound_5 rfl ?_
  obtain ⟨r3, e4, hf⟩ := mx_bind hf
  refine mG_getR (pc := 6) C dX10_bound_6 fl_X10_9 e4 ?_
  refine mG_sp (pc := 9) C dX10_bound_9 kS229 ?_
  obtain ⟨v5, e6, hf⟩ := mx_bind hf
  refine mG_iaload (pc := 12) C dX10_bound_12 e6 ?_
  cases hf
  exact mG_ir (pc := 13) C E hX dX10_bound_13 rfl
theorem dX10_pair_0 : decode cX10_pair 0 = .ok (.aload_n 0, 1) := by decide +kernel
theorem dX10_pair_1 : decode cX10_pair 1 = .ok (.iload_n 1, 1) := by decide +kernel
theorem dX10_pair_2 : decode cX10_pair 2 = .ok (.invokevirtual 77, 3) := by decide +kernel
theorem dX10_pair_5 : decode cX10_pair 5 = .ok (.istore 4, 2) := by decide +kernel
theorem dX10_pair_7 : decode cX10_pair 7 = .ok (.aload_n 0, 1) := by decide +kernel
theorem dX10_pair_8 : decode cX10_pair 8 = .ok (.iload_n 2, 1) := by decide +kernel
theorem dX10_pair_9 : decode cX10_pair 9 = .ok (.invokevirtual 77, 3) := by decide +kernel
theorem dX10_pair_12 : decode cX10_pair 12 = .ok (.istore 5, 2) := by decide +kernel
theorem dX10_pair_14 : decode cX10_pair 14 = .ok (.iload_n 3, 1) := by decide +kernel
theorem dX10_pair_15 : decode cX10_pair 15 = .ok (.iconst 0, 1) := by decide +kernel
theorem dX10_pair_16 : decode cX10_pair 16 = .ok (.iload 4, 2) := by decide +kernel
theorem dX10_pair_18 : decode cX10_pair 18 = .ok (.iload 5, 2) := by decide +kernel
theorem dX10_pair_20 : decode cX10_pair 20 = .ok (.imul, 1) := by decide +kernel
theorem dX10_pair_21 : decode cX10_pair 21 = .ok (.iconst 1, 1) := by decide +kernel
theorem dX10_pair_22 : decode cX10_pair 22 = .ok (.isub, 1) := by decide +kernel
theorem dX10_pair_23 : decode cX10_pair 23 = .ok (.invokestatic 65, 3) := by decide +kernel
theorem dX10_pair_26 : decode cX10_pair 26 = .ok (.ifCond .ne 5, 3) := by decide +kernel
theorem dX10_pair_29 : decode cX10_pair 29 = .ok (.iconst (-1), 1) := by decide +kernel
theorem dX10_pair_30 : decode cX10_pair 30 = .ok (.ireturn, 1) := by decide +kernel
theorem dX10_pair_31 : decode cX10_pair 31 = .ok (.iload_n 3, 1) := by decide +kernel
theorem dX10_pair_32 : decode cX10_pair 32 = .ok (.istore 6, 2) := by decide +kernel
theorem dX10_pair_34 : decode cX10_pair 34 = .ok (.sipush 198, 3) := by decide +kernel
theorem dX10_pair_37 : decode cX10_pair 37 = .ok (.istore 7, 2) := by decide +kernel
theorem dX10_pair_39 : decode cX10_pair 39 = .ok (.iload 7, 2) := by decide +kernel
theorem dX10_pair_41 : decode cX10_pair 41 = .ok (.ifCond .lt 101, 3) := by decide +kernel
theorem dX10_pair_44 : decode cX10_pair 44 = .ok (.iconst 0, 1) := by decide +kernel
theorem dX10_pair_45 : decode cX10_pair 45 = .ok (.istore 8, 2) := by decide +kernel
theorem dX10_pair_47 : decode cX10_pair 47 = .ok (.iload 8, 2) := by decide +kernel
theorem dX10_pair_49 : decode cX10_pair 49 = .ok (.iload 4, 2) := by decide +kernel
theorem dX10_pair_51 : decode cX10_pair 51 = .ok (.if_icmp .ge 85, 3) := by decide +kernel
theorem dX10_pair_54 : decode cX10_pair 54 = .ok (.aload_n 0, 1) := by decide +kernel
theorem dX10_pair_55 : decode cX10_pair 55 = .ok (.iload_n 1, 1) := by decide +kernel
theorem dX10_pair_56 : decode cX10_pair 56 = .ok (.aload_n 0, 1) := by decide +kernel
theorem dX10_pair_57 : decode cX10_pair 57 = .ok (.iload_n 1, 1) := by decide +kernel
theorem dX10_pair_58 : decode cX10_pair 58 = .ok (.iload 8, 2) := by decide +kernel
theorem dX10_pair_60 : decode cX10_pair 60 = .ok (.invokevirtual 99, 3) := by decide +kernel
theorem dX10_pair_63 : decode cX10_pair 63 = .ok (.invokevirtual 69, 3) := by decide +kernel
theorem dX10_pair_66 : decode cX10_pair 66 = .ok (.istore 9, 2) := by decide +kernel
theorem dX10_pair_68 : decode cX10_pair 68 = .ok (.iconst 0, 1) := by decide +kernel
theorem dX10_pair_69 : decode cX10_pair 69 = .ok (.istore 10, 2) := by decide +kernel
theorem dX10_pair_71 : decode cX10_pair 71 = .ok (.iload 10, 2) := by decide +kernel
theorem dX10_pair_73 : decode cX10_pair 73 = .ok (.iload 5, 2) := by decide +kernel
theorem dX10_pair_75 : decode cX10_pair 75 = .ok (.if_icmp .ge 55, 3) := by decide +kernel
theorem dX10_pair_78 : decode cX10_pair 78 = .ok (.iload 9, 2) := by decide +kernel
theorem dX10_pair_80 : decode cX10_pair 80 = .ok (.aload_n 0, 1) := by decide +kernel
theorem dX10_pair_81 : decode cX10_pair 81 = .ok (.iload_n 2, 1) := by decide +kernel
theorem dX10_pair_82 : decode cX10_pair 82 = .ok (.aload_n 0, 1) := by decide +kernel
theorem dX10_pair_83 : decode cX10_pair 83 = .ok (.iload_n 2, 1) := by decide +kernel
theorem dX10_pair_84 : decode cX10_pair 84 = .ok (.iload 10, 2) := by decide +kernel
theorem dX10_pair_86 : decode cX10_pair 86 = .ok (.invokevirtual 99, 3) := by decide +kernel
theorem dX10_pair_89 : decode cX10_pair 89 = .ok (.invokevirtual 69, 3) := by decide +kernel
theorem dX10_pair_92 : decode cX10_pair 92 = .ok (.iadd, 1) := by decide +kernel
theorem dX10_pair_93 : decode cX10_pair 93 = .ok (.iload 7, 2) := by decide +kernel
theorem dX10_pair_95 : decode cX10_pair 95 = .ok (.if_icmp .eq 6, 3) := by decide +kernel
theorem dX10_pair_98 : decode cX10_pair 98 = .ok (.goto 26, 3) := by decide +kernel
theorem dX10_pair_101 : decode cX10_pair 101 = .ok (.iload 6, 2) := by decide +kernel
theorem dX10_pair_103 : decode cX10_pair 103 = .ok (.ifCond .ne 18, 3) := by decide +kernel
theorem dX10_pair_106 : decode cX10_pair 106 = .ok (.iload 7, 2) := by decide +kernel
theorem dX10_pair_108 : decode cX10_pair 108 = .ok (.bipush 20, 2) := by decide +kernel
theorem dX10_pair_110 : decode cX10_pair 110 = .ok (.imul, 1) := by decide +kernel
theorem dX10_pair_111 : decode cX10_pair 111 = .ok (.iload 8, 2) := by decide +kernel
theorem dX10_pair_113 : decode cX10_pair 113 = .ok (.iadd, 1) := by decide +kernel
theorem dX10_pair_114 : decode cX10_pair 114 = .ok (.bipush 20, 2) := by decide +kernel
theorem dX10_pair_116 : decode cX10_pair 116 = .ok (.imul, 1) := by decide +kernel
theorem dX10_pair_117 : decode cX10_pair 117 = .ok (.iload 10, 2) := by decide +kernel
theorem dX10_pair_119 : decode cX10_pair 119 = .ok (.iadd, 1) := by decide +kernel
theorem dX10_pair_120 : decode cX10_pair 120 = .ok (.ireturn, 1) := by decide +kernel
theorem dX10_pair_121 : decode cX10_pair 121 = .ok (.iinc 6 (-1), 3) := by decide +kernel
theorem dX10_pair_124 : decode cX10_pair 124 = .ok (.iinc 10 1, 3) := by decide +kernel
theorem dX10_pair_127 : decode cX10_pair 127 = .ok (.goto (-56), 3) := by decide +kernel
theorem dX10_pair_130 : decode cX10_pair 130 = .ok (.iinc 8 1, 3) := by decide +kernel
theorem dX10_pair_133 : decode cX10_pair 133 = .ok (.goto (-86), 3) := by decide +kernel
theorem dX10_pair_136 : decode cX10_pair 136 = .ok (.iinc 7 (-1), 3) := by decide +kernel
theorem dX10_pair_139 : decode cX10_pair 139 = .ok (.goto (-100), 3) := by decide +kernel
theorem dX10_pair_142 : decode cX10_pair 142 = .ok (.iconst (-1), 1) := by decide +kernel
theorem dX10_pair_143 : decode cX10_pair 143 = .ok (.ireturn, 1) := by decide +kernel
def fX10_pair (p0 : Nat) (p1 : Int32) (p2 : Int32) (p3 : Int32) (h : mxH) : Option Int32 := Option.bind (isO h p0 10) (fun u1 => Option.bind (fX10_items p0 p1 h) (fun v4 => Option.bind (isO h p0 10) (fun u5 => Option.bind (fX10_items p0 p2 h) (fun v8 => Option.bind (fX10_in p3 0 ((v4 * v8) - 1) h) (fun v10 => (if v10 = 0 then some (-1) else Option.bind (mxLoop (ρ := ((Int32 × Int32 × Int32) ⊕ Unit)) (fun s12 : (Int32 × Int32) => (if s12.2 < 0 then some (Sum.inr (Sum.inr ())) else Option.bind (mxLoop (ρ := ((Int32 × Int32) ⊕ Int32)) (fun s22 : (Int32 × Int32) => (if v4 ≤ s22.2 then some (Sum.inr (Sum.inr s22.1)) else Option.bind (isO h p0 10) (fun u32 => Option.bind (fX10_thingIn p0 p1 s22.2 h) (fun v35 => Option.bind (isO h p0 10) (fun u36 => Option.bind (fX10_mark p0 p1 v35 h) (fun v39 => Option.bind (mxLoop (ρ := (Int32 ⊕ Int32)) (fun s40 : (Int32 × Int32) => (if v8 ≤ s40.2 then some (Sum.inr (Sum.inr s40.1)) else Option.bind (isO h p0 10) (fun u50 => Option.bind (fX10_thingIn p0 p2 s40.2 h) (fun v53 => Option.bind (isO h p0 10) (fun u54 => Option.bind (fX10_mark p0 p2 v53 h) (fun v57 => (if (v39 + v57) = s12.2 then (if s40.1 = 0 then some (Sum.inr (Sum.inl s40.2)) else some (Sum.inl (s40.1 - 1, s40.2 + 1))) else some (Sum.inl (s40.1, s40.2 + 1))))))))) mxF (s22.1, 0)) (Sum.elim (fun r60 : Int32 => some (Sum.inr (Sum.inl (s22.2, r60)))) (fun r62 : Int32 => some (Sum.inl (r62, s22.2 + 1)))))))))) mxF (s12.1, 0)) (Sum.elim (fun r64 : (Int32 × Int32) => some (Sum.inr (Sum.inl (s12.2, r64.1, r64.2)))) (fun r66 : Int32 => some (Sum.inl (r66, s12.2 - 1)))))) mxF (p3, 198)) (Sum.elim (fun r68 : (Int32 × Int32 × Int32) => some ((((r68.1 * 20) + r68.2.1) * 20) + r68.2.2)) (fun r70 : Unit => some (-1)))))))))
abbrev rmX10_pair : Room := { frames := 3, cells := 0, slots := 0, locals := 69 }
set_option maxRecDepth 20000 in
theorem tX10_pair {l : Launch} {Z : mxZ} (hl : l.stackTraces = false) {p0 : Nat} {p1 : Int32} {p2 : Int32} {p3 : Int32} {h : mxH} {out : Int32} (hf : fX10_pair p0 p1 p2 p3 h = some out) : mxMet l Z yX10_pair cX10_pair 11 (some .int) rmX10_pair [.ref p0, .int p1, .int p2, .int p3] h (.inl (some (.int out))) h := by
  refine mxMet_of (by decide) hl (by simp [Value.category]) (Nat.le_of_ble_eq_true rfl) ?_
  intro X C E hX hin
  unfold fX10_pair at hf
  refine mG_aload_n (pc := 0) C dX10_pair_0 rfl ?_
  refine mG_iload_n (pc := 1) C dX10_pair_1 rfl ?_
  obtain ⟨u1, e2, hf⟩ := mx_bind hf
  obtain ⟨v4, e3, hf⟩ := mx_bind hf
  refine mG_cV (pc := 2) (k' := 0) (n' := 0) 10 [.int p1] [] C hX dX10_pair_2 lkV_X10_77 rfl rfl e2 (tX10_items hl e3) rfl rfl rfl rfl ?_
  refine mG_is (ls' := [some (.ref p0), some (.int p1), some (.int p2), some (.int p3), some (.int v4), none, none, none, none, none, none]) (pc := 5) C dX10_pair_5 rfl rfl rfl ?_
  refine mG_aload_n (pc := 7) C dX10_pair_7 rfl ?_
  refine mG_iload_n (pc := 8) C dX10_pair_8 rfl ?_
  obtain ⟨u5, e6, hf⟩ := mx_bind hf
  obtain ⟨v8, e7, hf⟩ := mx_bind hf
  refine mG_cV (pc := 9) (k' := 0) (n' := 0) 10 [.int p2] [] C hX dX10_pair_9 lkV_X10_77 rfl rfl e6 (tX10_items hl e7) rfl rfl rfl rfl ?_
  refine mG_is (ls' := [some (.ref p0), some (.int p1), some (.int p2), some (.int p3), some (.int v4), some (.int v8), none, none, none, none, none]) (pc := 12) C dX10_pair_12 rfl rfl rfl ?_
  refine mG_iload_n (pc := 14) C dX10_pair_14 rfl ?_
  refine mG_ic (pc := 15) C dX10_pair_15 kI0 ?_
  refine mG_iload (pc := 16) C dX10_pair_16 rfl ?_
  refine mG_iload (pc := 18) C dX10_pair_18 rfl ?_
  refine mG_imul (pc := 20) C dX10_pair_20 ?_
  refine mG_ic (pc := 21) C dX10_pair_21 kI1 ?_
  refine mG_isub (pc := 22) C dX10_pair_22 ?_
  obtain ⟨v10, e9, hf⟩ := mx_bind hf
  refine mG_cS (pc := 23) (k' := 0) (n' := 0) [.int p3, .int 0, .int ((v4 * v8) - 1)] [] C hX dX10_pair_23 lkS_X10_65 rfl (tX10_in hl e9) rfl rfl rfl rfl ?_
  refine mG_if_ne (pc := 26) (tgt := 31) C dX10_pair_26 (by decide) (fun q11 => ?_) (fun q11 => ?_)
  · rw [if_neg q11] at hf
    refine mG_iload_n (pc := 31) C dX10_pair_31 rfl ?_
    refine mG_is (ls' := [some (.ref p0), some (.int p1), some (.int p2), some (.int p3), some (.int v4), some (.int v8), some (.int p3), none, none, none, none]) (pc := 32) C dX10_pair_32 rfl rfl rfl ?_
    refine mG_sp (pc := 34) C dX10_pair_34 kS198 ?_
    refine mG_is (ls' := [some (.ref p0), some (.int p1), some (.int p2), some (.int p3), some (.int v4), some (.int v8), some (.int p3), some (.int 198), none, none, none]) (pc := 37) C dX10_pair_37 rfl rfl rfl ?_
    obtain ⟨r13, e14, hf⟩ := mx_bind hf
    have J15 : ∀ r68 : (Int32 × Int32 × Int32), Sum.inl r68 = r13 → mG l Z X 11 0 0 106 [none, none, none, none, none, none, none, some (.int r68.1), some (.int r68.2.1), none, some (.int r68.2.2)] [] h := by
      intro r68 q69
      subst q69
      rw [Sum.elim_inl] at hf
      refine mG_iload (pc := 106) C dX10_pair_106 rfl ?_
      refine mG_bp (pc := 108) C dX10_pair_108 kB20 ?_
      refine mG_imul (pc := 110) C dX10_pair_110 ?_
      refine mG_iload (pc := 111) C dX10_pair_111 rfl ?_
      refine mG_iadd (pc := 113) C dX10_pair_113 ?_
      refine mG_bp (pc := 114) C dX10_pair_114 kB20 ?_
      refine mG_imul (pc := 116) C dX10_pair_116 ?_
      refine mG_iload (pc := 117) C dX10_pair_117 rfl ?_
      refine mG_iadd (pc := 119) C dX10_pair_119 ?_
      cases hf
      exact mG_ir (pc := 120) C E hX dX10_pair_120 rfl
    have J16 : ∀ r70 : Unit, Sum.inr r70 = r13 → mG l Z X 11 0 0 142 [none, none, none, none, none, none, none, none, none, none, none] [] h := by
      intro r70 q71
      subst q71
      rw [Sum.elim_inr] at hf
      refine mG_ic (pc := 142) C dX10_pair_142 kIm1 ?_
      cases hf
      exact mG_ir (pc := 143) C E hX dX10_pair_143 rfl
    refine mG_sub (ls' := [some (.ref p0), some (.int p1), some (.int p2), none, some (.int v4), some (.int v8), some (.int p3), some (.int 198), none, none, none]) (mxLe_s (mxLe_s (mxLe_s (mxLe_n (mxLe_s (mxLe_s (mxLe_s (mxLe_s (mxLe_n (mxLe_n (mxLe_n mxLe_z))))))))))) (mxLoop_ind (K := fun s12 : (Int32 × Int32) => mG l Z X 11 0 0 39 [some (.ref p0), some (.int p1), some (.int p2), none, some (.int v4), some (.int v8), some (.int s12.1), some (.int s12.2), none, none, none] [] h) ?_ _ _ e14)
    intro s12 o19 e20 hK17 hx18
    refine mG_iload (pc := 39) C dX10_pair_39 rfl ?_
    refine mG_if_lt (pc := 41) (tgt := 142) C dX10_pair_41 (by decide) (fun q21 => ?_) (fun q21 => ?_)
    · rw [if_pos q21] at e20
      exact mG_sub (mxLe_n (mxLe_n (mxLe_n (mxLe_n (mxLe_n (mxLe_n (mxLe_n (mxLe_n (mxLe_n (mxLe_n (mxLe_n mxLe_z))))))))))) (J16 _ (hx18 _ (Option.some.inj e20).symm))
    · rw [if_neg q21] at e20
      refine mG_ic (pc := 44) C dX10_pair_44 kI0 ?_
      refine mG_is (ls' := [some (.ref p0), some (.int p1), some (.int p2), none, some (.int v4), some (.int v8), some (.int s12.1), some (.int s12.2), some (.int 0), none, none]) (pc := 45) C dX10_pair_45 rfl rfl rfl ?_
      obtain ⟨r23, e24, e20⟩ := mx_bind e20
      have J25 : ∀ r64 : (Int32 × Int32), Sum.inl r64 = r23 → mG l Z X 11 0 0 106 [none, none, none, none, none, none, none, some (.int s12.2), some (.int r64.1), none, some (.int r64.2)] [] h := by
        intro r64 q65
        subst q65
        rw [Sum.elim_inl] at e20
        exact mG_sub (mxLe_n (mxLe_n (mxLe_n (mxLe_n (mxLe_n (mxLe_n (mxLe_n (mxLe_s (mxLe_s (mxLe_n (mxLe_s mxLe_z))))))))))) (J15 _ (hx18 _ (Option.some.inj e20).symm))
      have J26 : ∀ r66 : Int32, Sum.inr r66 = r23 → mG l Z X 11 0 0 136 [some (.ref p0), some (.int p1), some (.int p2), none, some (.int v4), some (.int v8), some (.int r66), some (.int s12.2), none, none, none] [] h := by
        intro r66 q67
        subst q67
        rw [Sum.elim_inr] at e20
        refine mG_ii (ls' := [some (.ref p0), some (.int p1), some (.int p2), none, some (.int v4), some (.int v8), some (.int r66), some (.int (s12.2 - 1)), none, none, none]) (pc := 136) C dX10_pair_136 rfl (kincm1 _) rfl rfl rfl ?_
        refine mG_goto (tgt := 39) (pc := 139) C dX10_pair_139 (by decide) ?_
        exact mG_sub (mxLe_s (mxLe_s (mxLe_s (mxLe_n (mxLe_s (mxLe_s (mxLe_s (mxLe_s (mxLe_n (mxLe_n (mxLe_n mxLe_z))))))))))) (hK17 _ (Option.some.inj e20).symm)
      refine mG_sub (ls' := [some (.ref p0), some (.int p1), some (.int p2), none, some (.int v4), some (.int v8), some (.int s12.1), some (.int s12.2), some (.int 0), none, none]) (mxLe_s (mxLe_s (mxLe_s (mxLe_n (mxLe_s (mxLe_s (mxLe_s (mxLe_s (mxLe_s (mxLe_n (mxLe_n mxLe_z))))))))))) (mxLoop_ind (K := fun s22 : (Int32 × Int32) => mG l Z X 11 0 0 47 [some (.ref p0), some (.int p1), some (.int p2), none, some (.int v4), some (.int v8), some (.int s22.1), some (.int s12.2), some (.int s22.2), none, none] [] h) ?_ _ _ e24)
      intro s22 o29 e30 hK27 hx28
      refine mG_iload (pc := 47) C dX10_pair_47 rfl ?_
      refine mG_iload (pc := 49) C dX10_pair_49 rfl ?_
      refine mG_icmp_ge (pc := 51) (tgt := 136) C dX10_pair_51 (by decide) (fun q31 => ?_) (fun q31 => ?_)
      · rw [if_pos q31] at e30
        exact mG_sub (mxLe_s (mxLe_s (mxLe_s (mxLe_n (mxLe_s (mxLe_s (mxLe_s (mxLe_s (mxLe_n (mxLe_n (mxLe_n mxLe_z))))))))))) (J26 _ (hx28 _ (Option.some.inj e30).symm))
      · rw [if_neg q31] at e30
        refine mG_aload_n (pc := 54) C dX10_pair_54 rfl ?_
        refine mG_iload_n (pc := 55) C dX10_pair_55 rfl ?_
        refine mG_aload_n (pc := 56) C dX10_pair_56 rfl ?_
        refine mG_iload_n (pc := 57) C dX10_pair_57 rfl ?_
        refine mG_iload (pc := 58) C dX10_pair_58 rfl ?_
        obtain ⟨u32, e33, e30⟩ := mx_bind e30
        obtain ⟨v35, e34, e30⟩ := mx_bind e30
        refine mG_cV (pc := 60) (k' := 0) (n' := 0) 10 [.int p1, .int s22.2] [.int p1, .ref p0] C hX dX10_pair_60 lkV_X10_99 rfl rfl e33 (tX10_thingIn hl e34) rfl rfl rfl rfl ?_
        obtain ⟨u36, e37, e30⟩ := mx_bind e30
        obtain ⟨v39, e38, e30⟩ := mx_bind e30
        refine mG_cV (pc := 63) (k' := 0) (n' := 0) 10 [.int p1, .int v35] [] C hX dX10_pair_63 lkV_X10_69 rfl rfl e37 (tX10_mark hl e38) rfl rfl rfl rfl ?_
        refine mG_is (ls' := [some (.ref p0), some (.int p1), some (.int p2), none, some (.int v4), some (.int v8), some (.int s22.1), some (.int s12.2), some (.int s22.2), some (.int v39), none]) (pc := 66) C dX10_pair_66 rfl rfl rfl ?_
        refine mG_ic (pc := 68) C dX10_pair_68 kI0 ?_
        refine mG_is (ls' := [some (.ref p0), some (.int p1), some (.int p2), none, some (.int v4), some (.int v8), some (.int s22.1), some (.int s12.2), some (.int s22.2), some (.int v39), some (.int 0)]) (pc := 69) C dX10_pair_69 rfl rfl rfl ?_
        obtain ⟨r41, e42, e30⟩ := mx_bind e30
        have J43 : ∀ r60 : Int32, Sum.inl r60 = r41 → mG l Z X 11 0 0 106 [none, none, none, none, none, none, none, some (.int s12.2), some (.int s22.2), none, some (.int r60)] [] h := by
          intro r60 q61
          subst q61
          rw [Sum.elim_inl] at e30
          exact mG_sub (mxLe_n (mxLe_n (mxLe_n (mxLe_n (mxLe_n (mxLe_n (mxLe_n (mxLe_s (mxLe_s (mxLe_n (mxLe_s mxLe_z))))))))))) (J25 _ (hx28 _ (Option.some.inj e30).symm))
        have J44 : ∀ r62 : Int32, Sum.inr r62 = r41 → mG l Z X 11 0 0 130 [some (.ref p0), some (.int p1), some (.int p2), none, some (.int v4), some (.int v8), some (.int r62), some (.int s12.2), some (.int s22.2), none, none] [] h := by
          intro r62 q63
          subst q63
          rw [Sum.elim_inr] at e30
          refine mG_ii (ls' := [some (.ref p0), some (.int p1), some (.int p2), none, some (.int v4), some (.int v8), some (.int r62), some (.int s12.2), some (.int (s22.2 + 1)), none, none]) (pc := 130) C dX10_pair_130 rfl (kinc1 _) rfl rfl rfl ?_
          refine mG_goto (tgt := 47) (pc := 133) C dX10_pair_133 (by decide) ?_
          exact mG_sub (mxLe_s (mxLe_s (mxLe_s (mxLe_n (mxLe_s (mxLe_s (mxLe_s (mxLe_s (mxLe_s (mxLe_n (mxLe_n mxLe_z))))))))))) (hK27 _ (Option.some.inj e30).symm)
        refine mG_sub (ls' := [some (.ref p0), some (.int p1), some (.int p2), none, some (.int v4), some (.int v8), some (.int s22.1), some (.int s12.2), some (.int s22.2), some (.int v39), some (.int 0)]) (mxLe_s (mxLe_s (mxLe_s (mxLe_n (mxLe_s (mxLe_s (mxLe_s (mxLe_s (mxLe_s (mxLe_s (mxLe_s mxLe_z))))))))))) (mxLoop_ind (K := fun s40 : (Int32 × Int32) => mG l Z X 11 0 0 71 [some (.ref p0), some (.int p1), some (.int p2), none, some (.int v4), some (.int v8), some (.int s40.1), some (.int s12.2), some (.int s22.2), some (.int v39), some (.int s40.2)] [] h) ?_ _ _ e42)
        intro s40 o47 e48 hK45 hx46
        refine mG_iload (pc := 71) C dX10_pair_71 rfl ?_
        refine mG_iload (pc := 73) C dX10_pair_73 rfl ?_
        refine mG_icmp_ge (pc := 75) (tgt := 130) C dX10_pair_75 (by decide) (fun q49 => ?_) (fun q49 => ?_)
        · rw [if_pos q49] at e48
          exact mG_sub (mxLe_s (mxLe_s (mxLe_s (mxLe_n (mxLe_s (mxLe_s (mxLe_s (mxLe_s (mxLe_s (mxLe_n (mxLe_n mxLe_z))))))))))) (J44 _ (hx46 _ (Option.some.inj e48).symm))
        · rw [if_neg q49] at e48
          refine mG_iload (pc := 78) C dX10_pair_78 rfl ?_
          refine mG_aload_n (pc := 80) C dX10_pair_80 rfl ?_
          refine mG_iload_n (pc := 81) C dX10_pair_81 rfl ?_
          refine mG_aload_n (pc := 82) C dX10_pair_82 rfl ?_
          refine mG_iload_n (pc := 83) C dX10_pair_83 rfl ?_
          refine mG_iload (pc := 84) C dX10_pair_84 rfl ?_
          obtain ⟨u50, e51, e48⟩ := mx_bind e48
          obtain ⟨v53, e52, e48⟩ := mx_bind e48
          refine mG_cV (pc := 86) (k' := 0) (n' := 0) 10 [.int p2, .int s40.2] [.int p2, .ref p0, .int v39] C hX dX10_pair_86 lkV_X10_99 rfl rfl e51 (tX10_thingIn hl e52) rfl rfl rfl rfl ?_
          obtain ⟨u54, e55, e48⟩ := mx_bind e48
          obtain ⟨v57, e56, e48⟩ := mx_bind e48
          refine mG_cV (pc := 89) (k' := 0) (n' := 0) 10 [.int p2, .int v53] [.int v39] C hX dX10_pair_89 lkV_X10_69 rfl rfl e55 (tX10_mark hl e56) rfl rfl rfl rfl ?_
          refine mG_iadd (pc := 92) C dX10_pair_92 ?_
          refine mG_iload (pc := 93) C dX10_pair_93 rfl ?_
          refine mG_icmp_eq (pc := 95) (tgt := 101) C dX10_pair_95 (by decide) (fun q58 => ?_) (fun q58 => ?_)
          · rw [if_pos q58] at e48
            refine mG_iload (pc := 101) C dX10_pair_101 rfl ?_
            refine mG_if_ne (pc := 103) (tgt := 121) C dX10_pair_103 (by decide) (fun q59 => ?_) (fun q59 => ?_)
            · rw [if_neg q59] at e48
              refine mG_ii (ls' := [some (.ref p0), some (.int p1), some (.int p2), none, some (.int v4), some (.int v8), some (.int (s40.1 - 1)), some (.int s12.2), some (.int s22.2), some (.int v39), some (.int s40.2)]) (pc := 121) C dX10_pair_121 rfl (kincm1 _) rfl rfl rfl ?_
              refine mG_ii (ls' := [some (.ref p0), some (.int p1), some (.int p2), none, some (.int v4), some (.int v8), some (.int (s40.1 - 1)), some (.int s12.2), some (.int s22.2), some (.int v39), some (.int (s40.2 + 1))]) (pc := 124) C dX10_pair_124 rfl (kinc1 _) rfl rfl rfl ?_
              refine mG_goto (tgt := 71) (pc := 127) C dX10_pair_127 (by decide) ?_
              exact mG_sub (mxLe_s (mxLe_s (mxLe_s (mxLe_n (mxLe_s (mxLe_s (mxLe_s (mxLe_s (mxLe_s (mxLe_s (mxLe_s mxLe_z))))))))))) (hK45 _ (Option.some.inj e48).symm)
            · rw [if_pos q59] at e48
              exact mG_sub (mxLe_n (mxLe_n (mxLe_n (mxLe_n (mxLe_n (mxLe_n (mxLe_n (mxLe_s (mxLe_s (mxLe_n (mxLe_s mxLe_z))))))))))) (J43 _ (hx46 _ (Option.some.inj e48).symm))
          · rw [if_neg q58] at e48
            refine mG_goto (tgt := 124) (pc := 98) C dX10_pair_98 (by decide) ?_
            refine mG_ii (ls' := [some (.ref p0), some (.int p1), some (.int p2), none, some (.int v4), some (.int v8), some (.int s40.1), some (.int s12.2), some (.int s22.2), some (.int v39), some (.int (s40.2 + 1))]) (pc := 124) C dX10_pair_124 rfl (kinc1 _) rfl rfl rfl ?_
            refine mG_goto (tgt := 71) (pc := 127) C dX10_pair_127 (by decide) ?_
            exact mG_sub (mxLe_s (mxLe_s (mxLe_s (mxLe_n (mxLe_s (mxLe_s (mxLe_s (mxLe_s (mxLe_s (mxLe_s (mxLe_s mxLe_z))))))))))) (hK45 _ (Option.some.inj e48).symm)
  · rw [if_pos q11] at hf
    refine mG_ic (pc := 29) C dX10_pair_29 kIm1 ?_
    cases hf
    exact mG_ir (pc := 30) C E hX dX10_pair_30 rfl
theorem dX10_pairSum_0 : decode cX10_pairSum 0 = .ok (.aload_n 0, 1) := by decide +kernel
theorem dX10_pairSum_1 : decode cX10_pairSum 1 = .ok (.iconst 0, 1) := by decide +kernel
theorem dX10_pairSum_2 : decode cX10_pairSum 2 = .ok (.putfield 61, 3) := by decide +kernel
theorem dX10_pairSum_5 : decode cX10_pairSum 5 = .ok (.iload_n 1, 1) := by decide +kernel
theorem dX10_pairSum_6 : decode cX10_pairSum 6 = .ok (.invokestatic 172, 3) := by decide +kernel
theorem dX10_pairSum_9 : decode cX10_pairSum 9 = .ok (.ifCond .eq 10, 3) := by decide +kernel
theorem dX10_pairSum_12 : decode cX10_pairSum 12 = .ok (.iload_n 2, 1) := by decide +kernel
theorem dX10_pairSum_13 : decode cX10_pairSum 13 = .ok (.invokestatic 172, 3) := by decide +kernel
theorem dX10_pairSum_16 : decode cX10_pairSum 16 = .ok (.ifCond .ne 9, 3) := by decide +kernel
theorem dX10_pairSum_19 : decode cX10_pairSum 19 = .ok (.aload_n 0, 1) := by decide +kernel
theorem dX10_pairSum_20 : decode cX10_pairSum 20 = .ok (.iconst 1, 1) := by decide +kernel
theorem dX10_pairSum_21 : decode cX10_pairSum 21 = .ok (.invokevirtual 178, 3) := by decide +kernel
theorem dX10_pairSum_24 : decode cX10_pairSum 24 = .ok (.ireturn, 1) := by decide +kernel
theorem dX10_pairSum_25 : decode cX10_pairSum 25 = .ok (.aload_n 0, 1) := by decide +kernel
theorem dX10_pairSum_26 : decode cX10_pairSum 26 = .ok (.iload_n 1, 1) := by decide +kernel
theorem dX10_pairSum_27 : decode cX10_pairSum 27 = .ok (.iload_n 2, 1) := by decide +kernel
theorem dX10_pairSum_28 : decode cX10_pairSum 28 = .ok (.iload_n 3, 1) := by decide +kernel
theorem dX10_pairSum_29 : decode cX10_pairSum 29 = .ok (.invokevirtual 221, 3) := by decide +kernel
theorem dX10_pairSum_32 : decode cX10_pairSum 32 = .ok (.istore 4, 2) := by decide +kernel
theorem dX10_pairSum_34 : decode cX10_pairSum 34 = .ok (.iload 4, 2) := by decide +kernel
theorem dX10_pairSum_36 : decode cX10_pairSum 36 = .ok (.iconst (-1), 1) := by decide +kernel
theorem dX10_pairSum_37 : decode cX10_pairSum 37 = .ok (.if_icmp .ne 11, 3) := by decide +kernel
theorem dX10_pairSum_40 : decode cX10_pairSum 40 = .ok (.aload_n 0, 1) := by decide +kernel
theorem dX10_pairSum_41 : decode cX10_pairSum 41 = .ok (.iconst 1, 1) := by decide +kernel
theorem dX10_pairSum_42 : decode cX10_pairSum 42 = .ok (.invokevirtual 178, 3) := by decide +kernel
theorem dX10_pairSum_45 : decode cX10_pairSum 45 = .ok (.goto 9, 3) := by decide +kernel
theorem dX10_pairSum_48 : decode cX10_pairSum 48 = .ok (.iload 4, 2) := by decide +kernel
theorem dX10_pairSum_50 : decode cX10_pairSum 50 = .ok (.sipush 400, 3) := by decide +kernel
theorem dX10_pairSum_53 : decode cX10_pairSum 53 = .ok (.idiv, 1) := by decide +kernel
theorem dX10_pairSum_54 : decode cX10_pairSum 54 = .ok (.ireturn, 1) := by decide +kernel
def fX10_pairSum (p0 : Nat) (p1 : Int32) (p2 : Int32) (p3 : Int32) (h : mxH) : Option (Int32 × mxH) := Option.bind (pI h p0 10 3 0) (fun h1 => Option.bind (fX10_isRow p1 h1) (fun v4 => (if v4 = 0 then Option.bind (isO h1 p0 10) (fun u6 => Option.bind (fX10_fails p0 1 h1) (fun o9 => some (o9.1, o9.2))) else Option.bind (fX10_isRow p2 h1) (fun v11 => (if v11 = 0 then Option.bind (isO h1 p0 10) (fun u26 => Option.bind (fX10_fails p0 1 h1) (fun o29 => some (o29.1, o29.2))) else Option.bind (isO h1 p0 10) (fun u13 => Option.bind (fX10_pair p0 p1 p2 p3 h1) (fun v16 => Option.bind (α := (Int32 × mxH)) (if v16 = (-1) then Option.bind (isO h1 p0 10) (fun u21 => Option.bind (fX10_fails p0 1 h1) (fun o24 => some (o24.1, o24.2))) else some (v16 / 400, h1)) (fun p19' : (Int32 × mxH) => some (p19'.1, p19'.2)))))))))
abbrev rmX10_pairSum : Room := { frames := 4, cells := 0, slots := 0, locals := 99 }
set_option maxRecDepth 20000 in
theorem tX10_pairSum {l : Launch} {Z : mxZ} (hl : l.stackTraces = false) {p0 : Nat} {p1 : Int32} {p2 : Int32} {p3 : Int32} {h : mxH} {out : (Int32 × mxH)} (hf : fX10_pairSum p0 p1 p2 p3 h = some out) : mxMet l Z yX10_pairSum cX10_pairSum 5 (some .int) rmX10_pairSum [.ref p0, .int p1, .int p2, .int p3] h (.inl (some (.int out.1))) out.2 := by
  refine mxMet_of (by decide) hl (by simp [Value.category]) (Nat.le_of_ble_eq_true rfl) ?_
  intro X C E hX hin
  unfold fX10_pairSum at hf
  refine mG_aload_n (pc := 0) C dX10_pairSum_0 rfl ?_
  refine mG_ic (pc := 1) C dX10_pairSum_1 kI0 ?_
  obtain ⟨h1, e2, hf⟩ := mx_bind hf
  refine mG_putI (pc := 2) C dX10_pairSum_2 fl_X10_61 e2 ?_
  refine mG_iload_n (pc := 5) C dX10_pairSum_5 rfl ?_
  obtain ⟨v4, e3, hf⟩ := mx_bind hf
  refine mG_cS (pc := 6) (k' := 0) (n' := 0) [.int p1] [] C hX dX10_pairSum_6 lkS_X10_172 rfl (tX10_isRow hl e3) rfl rfl rfl rfl ?_
  refine mG_if_eq (pc := 9) (tgt := 19) C dX10_pairSum_9 (by decide) (fun q5 => ?_) (fun q5 => ?_)
  · rw [if_pos q5] at hf
    refine mG_aload_n (pc := 19) C dX10_pairSum_19 rfl ?_
    refine mG_ic (pc := 20) C dX10_pairSum_20 kI1 ?_
    obtain ⟨u6, e7, hf⟩ := mx_bind hf
    obtain ⟨o9, e8, hf⟩ := mx_bind hf
    refine mG_cV (pc := 21) (k' := 0) (n' := 0) 10 [.int 1] [] C hX dX10_pairSum_21 lkV_X10_178 rfl rfl e7 (tX10_fails hl e8) rfl rfl rfl rfl ?_
    cases hf
    exact mG_ir (pc := 24) C E hX dX10_pairSum_24 rfl
  · rw [if_neg q5] at hf
    refine mG_iload_n (pc := 12) C dX10_pairSum_12 rfl ?_
    obtain ⟨v11, e10, hf⟩ := mx_bind hf
    refine mG_cS (pc := 13) (k' := 0) (n' := 0) [.int p2] [] C hX dX10_pairSum_13 lkS_X10_172 rfl (tX10_isRow hl e10) rfl rfl rfl rfl ?_
    refine mG_if_ne (pc := 16) (tgt := 25) C dX10_pairSum_16 (by decide) (fun q12 => ?_) (fun q12 => ?_)
    · rw [if_neg q12] at hf
      refine mG_aload_n (pc := 25) C dX10_pairSum_25 rfl ?_
      refine mG_iload_n (pc := 26) C dX10_pairSum_26 rfl ?_
      refine mG_iload_n (pc := 27) C dX10_pairSum_27 rfl ?_
      refine mG_iload_n (pc := 28) C dX10_pairSum_28 rfl ?_
      obtain ⟨u13, e14, hf⟩ := mx_bind hf
      obtain ⟨v16, e15, hf⟩ := mx_bind hf
      refine mG_cV (pc := 29) (k' := 0) (n' := 0) 10 [.int p1, .int p2, .int p3] [] C hX dX10_pairSum_29 lkV_X10_221 rfl rfl e14 (tX10_pair hl e15) rfl rfl rfl rfl ?_
      refine mG_is (ls' := [some (.ref p0), some (.int p1), some (.int p2), some (.int p3), some (.int v16)]) (pc := 32) C dX10_pairSum_32 rfl rfl rfl ?_
      refine mG_iload (pc := 34) C dX10_pairSum_34 rfl ?_
      refine mG_ic (pc := 36) C dX10_pairSum_36 kIm1 ?_
      obtain ⟨p19, e20, hf⟩ := mx_bind hf
      have J18 : ∀ p19' : (Int32 × mxH), p19' = p19 → mG l Z X 5 0 0 54 [none, none, none, none, none] [.int p19'.1] p19'.2 := by
        intro p19' q25
        subst q25
        cases hf
        exact mG_ir (pc := 54) C E hX dX10_pairSum_54 rfl
      refine mG_icmp_ne (pc := 37) (tgt := 48) C dX10_pairSum_37 (by decide) (fun q17 => ?_) (fun q17 => ?_)
      · rw [if_neg q17] at e20
        refine mG_iload (pc := 48) C dX10_pairSum_48 rfl ?_
        refine mG_sp (pc := 50) C dX10_pairSum_50 kS400 ?_
        refine mG_idiv (pc := 53) C dX10_pairSum_53 (by decide) ?_
        exact mG_sub (mxLe_n (mxLe_n (mxLe_n (mxLe_n (mxLe_n mxLe_z))))) (J18 _ (Option.some.inj e20))
      · rw [if_pos q17] at e20
        refine mG_aload_n (pc := 40) C dX10_pairSum_40 rfl ?_
        refine mG_ic (pc := 41) C dX10_pairSum_41 kI1 ?_
        obtain ⟨u21, e22, e20⟩ := mx_bind e20
        obtain ⟨o24, e23, e20⟩ := mx_bind e20
        refine mG_cV (pc := 42) (k' := 0) (n' := 0) 10 [.int 1] [] C hX dX10_pairSum_42 lkV_X10_178 rfl rfl e22 (tX10_fails hl e23) rfl rfl rfl rfl ?_
        refine mG_goto (tgt := 54) (pc := 45) C dX10_pairSum_45 (by decide) ?_
        exact mG_sub (mxLe_n (mxLe_n (mxLe_n (mxLe_n (mxLe_n mxLe_z))))) (J18 _ (Option.some.inj e20))
    · rw [if_pos q12] at hf
      refine mG_aload_n (pc := 19) C dX10_pairSum_19 rfl ?_
      refine mG_ic (pc := 20) C dX10_pairSum_20 kI1 ?_
      obtain ⟨u26, e27, hf⟩ := mx_bind hf
      obtain ⟨o29, e28, hf⟩ := mx_bind hf
      refine mG_cV (pc := 21) (k' := 0) (n' := 0) 10 [.int 1] [] C hX dX10_pairSum_21 lkV_X10_178 rfl rfl e27 (tX10_fails hl e28) rfl rfl rfl rfl ?_
      cases hf
      exact mG_ir (pc := 24) C E hX dX10_pairSum_24 rfl
theorem dX10_pairPlace_0 : decode cX10_pairPlace 0 = .ok (.aload_n 0, 1) := by decide +kernel
theorem dX10_pairPlace_1 : decode cX10_pairPlace 1 = .ok (.iconst 0, 1) := by decide +kernel
theorem dX10_pairPlace_2 : decode cX10_pairPlace 2 = .ok (.putfield 61, 3) := by decide +kernel
theorem dX10_pairPlace_5 : decode cX10_pairPlace 5 = .ok (.iload_n 1, 1) := by decide +kernel
theorem dX10_pairPlace_6 : decode cX10_pairPlace 6 = .ok (.invokestatic 172, 3) := by decide +kernel
theorem dX10_pairPlace_9 : decode cX10_pairPlace 9 = .ok (.ifCond .eq 10, 3) := by decide +kernel
theorem dX10_pairPlace_12 : decode cX10_pairPlace 12 = .ok (.iload_n 2, 1) := by decide +kernel
theorem dX10_pairPlace_13 : decode cX10_pairPlace 13 = .ok (.invokestatic 172, 3) := by decide +kernel
theorem dX10_pairPlace_16 : decode cX10_pairPlace 16 = .ok (.ifCond .ne 9, 3) := by decide +kernel
theorem dX10_pairPlace_19 : decode cX10_pairPlace 19 = .ok (.aload_n 0, 1) := by decide +kernel
theorem dX10_pairPlace_20 : decode cX10_pairPlace 20 = .ok (.iconst 1, 1) := by decide +kernel
theorem dX10_pairPlace_21 : decode cX10_pairPlace 21 = .ok (.invokevirtual 178, 3) := by decide +kernel
theorem dX10_pairPlace_24 : decode cX10_pairPlace 24 = .ok (.ireturn, 1) := by decide +kernel
theorem dX10_pairPlace_25 : decode cX10_pairPlace 25 = .ok (.aload_n 0, 1) := by decide +kernel
theorem dX10_pairPlace_26 : decode cX10_pairPlace 26 = .ok (.iload_n 1, 1) := by decide +kernel
theorem dX10_pairPlace_27 : decode cX10_pairPlace 27 = .ok (.iload_n 2, 1) := by decide +kernel
theorem dX10_pairPlace_28 : decode cX10_pairPlace 28 = .ok (.iload_n 3, 1) := by decide +kernel
theorem dX10_pairPlace_29 : decode cX10_pairPlace 29 = .ok (.invokevirtual 221, 3) := by decide +kernel
theorem dX10_pairPlace_32 : decode cX10_pairPlace 32 = .ok (.istore 5, 2) := by decide +kernel
theorem dX10_pairPlace_34 : decode cX10_pairPlace 34 = .ok (.iload 5, 2) := by decide +kernel
theorem dX10_pairPlace_36 : decode cX10_pairPlace 36 = .ok (.iconst (-1), 1) := by decide +kernel
theorem dX10_pairPlace_37 : decode cX10_pairPlace 37 = .ok (.if_icmp .ne 11, 3) := by decide +kernel
theorem dX10_pairPlace_40 : decode cX10_pairPlace 40 = .ok (.aload_n 0, 1) := by decide +kernel
theorem dX10_pairPlace_41 : decode cX10_pairPlace 41 = .ok (.iconst 1, 1) := by decide +kernel
theorem dX10_pairPlace_42 : decode cX10_pairPlace 42 = .ok (.invokevirtual 178, 3) := by decide +kernel
theorem dX10_pairPlace_45 : decode cX10_pairPlace 45 = .ok (.goto 24, 3) := by decide +kernel
theorem dX10_pairPlace_48 : decode cX10_pairPlace 48 = .ok (.iload 4, 2) := by decide +kernel
theorem dX10_pairPlace_50 : decode cX10_pairPlace 50 = .ok (.ifCond .eq 11, 3) := by decide +kernel
theorem dX10_pairPlace_53 : decode cX10_pairPlace 53 = .ok (.iload 5, 2) := by decide +kernel
theorem dX10_pairPlace_55 : decode cX10_pairPlace 55 = .ok (.bipush 20, 2) := by decide +kernel
theorem dX10_pairPlace_57 : decode cX10_pairPlace 57 = .ok (.irem, 1) := by decide +kernel
theorem dX10_pairPlace_58 : decode cX10_pairPlace 58 = .ok (.goto 11, 3) := by decide +kernel
theorem dX10_pairPlace_61 : decode cX10_pairPlace 61 = .ok (.iload 5, 2) := by decide +kernel
theorem dX10_pairPlace_63 : decode cX10_pairPlace 63 = .ok (.bipush 20, 2) := by decide +kernel
theorem dX10_pairPlace_65 : decode cX10_pairPlace 65 = .ok (.idiv, 1) := by decide +kernel
theorem dX10_pairPlace_66 : decode cX10_pairPlace 66 = .ok (.bipush 20, 2) := by decide +kernel
theorem dX10_pairPlace_68 : decode cX10_pairPlace 68 = .ok (.irem, 1) := by decide +kernel
theorem dX10_pairPlace_69 : decode cX10_pairPlace 69 = .ok (.ireturn, 1) := by decide +kernel
def fX10_pairPlace (p0 : Nat) (p1 : Int32) (p2 : Int32) (p3 : Int32) (p4 : Int32) (h : mxH) : Option (Int32 × mxH) := Option.bind (pI h p0 10 3 0) (fun h1 => Option.bind (fX10_isRow p1 h1) (fun v4 => (if v4 = 0 then Option.bind (isO h1 p0 10) (fun u6 => Option.bind (fX10_fails p0 1 h1) (fun o9 => some (o9.1, o9.2))) else Option.bind (fX10_isRow p2 h1) (fun v11 => (if v11 = 0 then Option.bind (isO h1 p0 10) (fun u27 => Option.bind (fX10_fails p0 1 h1) (fun o30 => some (o30.1, o30.2))) else Option.bind (isO h1 p0 10) (fun u13 => Option.bind (fX10_pair p0 p1 p2 p3 h1) (fun v16 => Option.bind (α := (Int32 × mxH)) (if v16 = (-1) then Option.bind (isO h1 p0 10) (fun u22 => Option.bind (fX10_fails p0 1 h1) (fun o25 => some (o25.1, o25.2))) else (if p4 = 0 then some ((v16 / 20) - (v16 / 20) / 20 * 20, h1) else some (v16 - v16 / 20 * 20, h1))) (fun p19' : (Int32 × mxH) => some (p19'.1, p19'.2)))))))))
abbrev rmX10_pairPlace : Room := { frames := 4, cells := 0, slots := 0, locals := 99 }
set_option maxRecDepth 20000 in
theorem tX10_pairPlace {l : Launch} {Z : mxZ} (hl : l.stackTraces = false) {p0 : Nat} {p1 : Int32} {p2 : Int32} {p3 : Int32} {p4 : Int32} {h : mxH} {out : (Int32 × mxH)} (hf : fX10_pairPlace p0 p1 p2 p3 p4 h = some out) : mxMet l Z yX10_pairPlace cX10_pairPlace 6 (some .int) rmX10_pairPlace [.ref p0, .int p1, .int p2, .int p3, .int p4] h (.inl (some (.int out.1))) out.2 := by
  refine mxMet_of (by decide) hl (by simp [Value.category]) (Nat.le_of_ble_eq_true rfl) ?_
  intro X C E hX hin
  unfold fX10_pairPlace at hf
  refine mG_aload_n (pc := 0) C dX10_pairPlace_0 rfl ?_
  refine mG_ic (pc := 1) C dX10_pairPlace_1 kI0 ?_
  obtain ⟨h1, e2, hf⟩ := mx_bind hf
  refine mG_putI (pc := 2) C dX10_pairPlace_2 fl_X10_61 e2 ?_
  refine mG_iload_n (pc := 5) C dX10_pairPlace_5 rfl ?_
  obtain ⟨v4, e3, hf⟩ := mx_bind hf
  refine mG_cS (pc := 6) (k' := 0) (n' := 0) [.int p1] [] C hX dX10_pairPlace_6 lkS_X10_172 rfl (tX10_isRow hl e3) rfl rfl rfl rfl ?_
  refine mG_if_eq (pc := 9) (tgt := 19) C dX10_pairPlace_9 (by decide) (fun q5 => ?_) (fun q5 => ?_)
  · rw [if_pos q5] at hf
    refine mG_aload_n (pc := 19) C dX10_pairPlace_19 rfl ?_
    refine mG_ic (pc := 20) C dX10_pairPlace_20 kI1 ?_
    obtain ⟨u6, e7, hf⟩ := mx_bind hf
    obtain ⟨o9, e8, hf⟩ := mx_bind hf
    refine mG_cV (pc := 21) (k' := 0) (n' := 0) 10 [.int 1] [] C hX dX10_pairPlace_21 lkV_X10_178 rfl rfl e7 (tX10_fails hl e8) rfl rfl rfl rfl ?_
    cases hf
    exact mG_ir (pc := 24) C E hX dX10_pairPlace_24 rfl
  · rw [if_neg q5] at hf
    refine mG_iload_n (pc := 12) C dX10_pairPlace_12 rfl ?_
    obtain ⟨v11, e10, hf⟩ := mx_bind hf
    refine mG_cS (pc := 13) (k' := 0) (n' := 0) [.int p2] [] C hX dX10_pairPlace_13 lkS_X10_172 rfl (tX10_isRow hl e10) rfl rfl rfl rfl ?_
    refine mG_if_ne (pc := 16) (tgt := 25) C dX10_pairPlace_16 (by decide) (fun q12 => ?_) (fun q12 => ?_)
    · rw [if_neg q12] at hf
      refine mG_aload_n (pc := 25) C dX10_pairPlace_25 rfl ?_
      refine mG_iload_n (pc := 26) C dX10_pairPlace_26 rfl ?_
      refine mG_iload_n (pc := 27) C dX10_pairPlace_27 rfl ?_
      refine mG_iload_n (pc := 28) C dX10_pairPlace_28 rfl ?_
      obtain ⟨u13, e14, hf⟩ := mx_bind hf
      obtain ⟨v16, e15, hf⟩ := mx_bind hf
      refine mG_cV (pc := 29) (k' := 0) (n' := 0) 10 [.int p1, .int p2, .int p3] [] C hX dX10_pairPlace_29 lkV_X10_221 rfl rfl e14 (tX10_pair hl e15) rfl rfl rfl rfl ?_
      refine mG_is (ls' := [some (.ref p0), some (.int p1), some (.int p2), some (.int p3), some (.int p4), some (.int v16)]) (pc := 32) C dX10_pairPlace_32 rfl rfl rfl ?_
      refine mG_iload (pc := 34) C dX10_pairPlace_34 rfl ?_
      refine mG_ic (pc := 36) C dX10_pairPlace_36 kIm1 ?_
      obtain ⟨p19, e20, hf⟩ := mx_bind hf
      have J18 : ∀ p19' : (Int32 × mxH), p19' = p19 → mG l Z X 6 0 0 69 [none, none, none, none, none, none] [.int p19'.1] p19'.2 := by
        intro p19' q26
        subst q26
        cases hf
        exact mG_ir (pc := 69) C E hX dX10_pairPlace_69 rfl
      refine mG_icmp_ne (pc := 37) (tgt := 48) C dX10_pairPlace_37 (by decide) (fun q17 => ?_) (fun q17 => ?_)
      · rw [if_neg q17] at e20
        refine mG_iload (pc := 48) C dX10_pairPlace_48 rfl ?_
        refine mG_if_eq (pc := 50) (tgt := 61) C dX10_pairPlace_50 (by decide) (fun q21 => ?_) (fun q21 => ?_)
        · rw [if_pos q21] at e20
          refine mG_iload (pc := 61) C dX10_pairPlace_61 rfl ?_
          refine mG_bp (pc := 63) C dX10_pairPlace_63 kB20 ?_
          refine mG_idiv (pc := 65) C dX10_pairPlace_65 (by decide) ?_
          refine mG_bp (pc := 66) C dX10_pairPlace_66 kB20 ?_
          refine mG_irem (pc := 68) C dX10_pairPlace_68 (by decide) ?_
          exact mG_sub (mxLe_n (mxLe_n (mxLe_n (mxLe_n (mxLe_n (mxLe_n mxLe_z)))))) (J18 _ (Option.some.inj e20))
        · rw [if_neg q21] at e20
          refine mG_iload (pc := 53) C dX10_pairPlace_53 rfl ?_
          refine mG_bp (pc := 55) C dX10_pairPlace_55 kB20 ?_
          refine mG_irem (pc := 57) C dX10_pairPlace_57 (by decide) ?_
          refine mG_goto (tgt := 69) (pc := 58) C dX10_pairPlace_58 (by decide) ?_
          exact mG_sub (mxLe_n (mxLe_n (mxLe_n (mxLe_n (mxLe_n (mxLe_n mxLe_z)))))) (J18 _ (Option.some.inj e20))
      · rw [if_pos q17] at e20
        refine mG_aload_n (pc := 40) C dX10_pairPlace_40 rfl ?_
        refine mG_ic (pc := 41) C dX10_pairPlace_41 kI1 ?_
        obtain ⟨u22, e23, e20⟩ := mx_bind e20
        obtain ⟨o25, e24, e20⟩ := mx_bind e20
        refine mG_cV (pc := 42) (k' := 0) (n' := 0) 10 [.int 1] [] C hX dX10_pairPlace_42 lkV_X10_178 rfl rfl e23 (tX10_fails hl e24) rfl rfl rfl rfl ?_
        refine mG_goto (tgt := 69) (pc := 45) C dX10_pairPlace_45 (by decide) ?_
        exact mG_sub (mxLe_n (mxLe_n (mxLe_n (mxLe_n (mxLe_n (mxLe_n mxLe_z)))))) (J18 _ (Option.some.inj e20))
    · rw [if_pos q12] at hf
      refine mG_aload_n (pc := 19) C dX10_pairPlace_19 rfl ?_
      refine mG_ic (pc := 20) C dX10_pairPlace_20 kI1 ?_
      obtain ⟨u27, e28, hf⟩ := mx_bind hf
      obtain ⟨o30, e29, hf⟩ := mx_bind hf
      refine mG_cV (pc := 21) (k' := 0) (n' := 0) 10 [.int 1] [] C hX dX10_pairPlace_21 lkV_X10_178 rfl rfl e28 (tX10_fails hl e29) rfl rfl rfl rfl ?_
      cases hf
      exact mG_ir (pc := 24) C E hX dX10_pairPlace_24 rfl
theorem dX10_commonBefore_0 : decode cX10_commonBefore 0 = .ok (.iconst 0, 1) := by decide +kernel
theorem dX10_commonBefore_1 : decode cX10_commonBefore 1 = .ok (.istore 4, 2) := by decide +kernel
theorem dX10_commonBefore_3 : decode cX10_commonBefore 3 = .ok (.iconst 0, 1) := by decide +kernel
theorem dX10_commonBefore_4 : decode cX10_commonBefore 4 = .ok (.istore 5, 2) := by decide +kernel
theorem dX10_commonBefore_6 : decode cX10_commonBefore 6 = .ok (.iload 5, 2) := by decide +kernel
theorem dX10_commonBefore_8 : decode cX10_commonBefore 8 = .ok (.iload_n 3, 1) := by decide +kernel
theorem dX10_commonBefore_9 : decode cX10_commonBefore 9 = .ok (.if_icmp .ge 39, 3) := by decide +kernel
theorem dX10_commonBefore_12 : decode cX10_commonBefore 12 = .ok (.iload 4, 2) := by decide +kernel
theorem dX10_commonBefore_14 : decode cX10_commonBefore 14 = .ok (.aload_n 0, 1) := by decide +kernel
theorem dX10_commonBefore_15 : decode cX10_commonBefore 15 = .ok (.iload_n 1, 1) := by decide +kernel
theorem dX10_commonBefore_16 : decode cX10_commonBefore 16 = .ok (.iload 5, 2) := by decide +kernel
theorem dX10_commonBefore_18 : decode cX10_commonBefore 18 = .ok (.invokevirtual 73, 3) := by decide +kernel
theorem dX10_commonBefore_21 : decode cX10_commonBefore 21 = .ok (.ifCond .eq 17, 3) := by decide +kernel
theorem dX10_commonBefore_24 : decode cX10_commonBefore 24 = .ok (.aload_n 0, 1) := by decide +kernel
theorem dX10_commonBefore_25 : decode cX10_commonBefore 25 = .ok (.iload_n 2, 1) := by decide +kernel
theorem dX10_commonBefore_26 : decode cX10_commonBefore 26 = .ok (.iload 5, 2) := by decide +kernel
theorem dX10_commonBefore_28 : decode cX10_commonBefore 28 = .ok (.invokevirtual 73, 3) := by decide +kernel
theorem dX10_commonBefore_31 : decode cX10_commonBefore 31 = .ok (.ifCond .eq 7, 3) := by decide +kernel
theorem dX10_commonBefore_34 : decode cX10_commonBefore 34 = .ok (.iconst 1, 1) := by decide +kernel
theorem dX10_commonBefore_35 : decode cX10_commonBefore 35 = .ok (.goto 4, 3) := by decide +kernel
theorem dX10_commonBefore_38 : decode cX10_commonBefore 38 = .ok (.iconst 0, 1) := by decide +kernel
theorem dX10_commonBefore_39 : decode cX10_commonBefore 39 = .ok (.iadd, 1) := by decide +kernel
theorem dX10_commonBefore_40 : decode cX10_commonBefore 40 = .ok (.istore 4, 2) := by decide +kernel
theorem dX10_commonBefore_42 : decode cX10_commonBefore 42 = .ok (.iinc 5 1, 3) := by decide +kernel
theorem dX10_commonBefore_45 : decode cX10_commonBefore 45 = .ok (.goto (-39), 3) := by decide +kernel
theorem dX10_commonBefore_48 : decode cX10_commonBefore 48 = .ok (.iload 4, 2) := by decide +kernel
theorem dX10_commonBefore_50 : decode cX10_commonBefore 50 = .ok (.ireturn, 1) := by decide +kernel
def fX10_commonBefore (p0 : Nat) (p1 : Int32) (p2 : Int32) (p3 : Int32) (h : mxH) : Option Int32 := Option.bind (mxLoop (ρ := Int32) (fun s1 : (Int32 × Int32) => (if p3 ≤ s1.2 then some (Sum.inr s1.1) else Option.bind (isO h p0 10) (fun u10 => Option.bind (fX10_has p0 p1 s1.2 h) (fun v13 => Option.bind (α := Int32) (if v13 = 0 then some 0 else Option.bind (isO h p0 10) (fun u18 => Option.bind (fX10_has p0 p2 s1.2 h) (fun v21 => (if v21 = 0 then some 0 else some 1)))) (fun p16' : Int32 => some (Sum.inl (s1.1 + p16', s1.2 + 1))))))) mxF (0, 0)) (fun r24 : Int32 => some r24)
abbrev rmX10_commonBefore : Room := { frames := 2, cells := 0, slots := 0, locals := 44 }
set_option maxRecDepth 20000 in
theorem tX10_commonBefore {l : Launch} {Z : mxZ} (hl : l.stackTraces = false) {p0 : Nat} {p1 : Int32} {p2 : Int32} {p3 : Int32} {h : mxH} {out : Int32} (hf : fX10_commonBefore p0 p1 p2 p3 h = some out) : mxMet l Z yX10_commonBefore cX10_commonBefore 6 (some .int) rmX10_commonBefore [.ref p0, .int p1, .int p2, .int p3] h (.inl (some (.int out))) h := by
  refine mxMet_of (by decide) hl (by simp [Value.category]) (Nat.le_of_ble_eq_true rfl) ?_
  intro X C E hX hin
  unfold fX10_commonBefore at hf
  refine mG_ic (pc := 0) C dX10_commonBefore_0 kI0 ?_
  refine mG_is (ls' := [some (.ref p0), some (.int p1), some (.int p2), some (.int p3), some (.int 0), none]) (pc := 1) C dX10_commonBefore_1 rfl rfl rfl ?_
  refine mG_ic (pc := 3) C dX10_commonBefore_3 kI0 ?_
  refine mG_is (ls' := [some (.ref p0), some (.int p1), some (.int p2), some (.int p3), some (.int 0), some (.int 0)]) (pc := 4) C dX10_commonBefore_4 rfl rfl rfl ?_
  obtain ⟨r2, e3, hf⟩ := mx_bind hf
  have J4 : ∀ r24 : Int32, r24 = r2 → mG l Z X 6 0 0 48 [none, none, none, none, some (.int r24), none] [] h := by
    intro r24 q25
    subst q25
    refine mG_iload (pc := 48) C dX10_commonBefore_48 rfl ?_
    cases hf
    exact mG_ir (pc := 50) C E hX dX10_commonBefore_50 rfl
  refine mG_sub (ls' := [some (.ref p0), some (.int p1), some (.int p2), some (.int p3), some (.int 0), some (.int 0)]) (mxLe_s (mxLe_s (mxLe_s (mxLe_s (mxLe_s (mxLe_s mxLe_z)))))) (mxLoop_ind (K := fun s1 : (Int32 × Int32) => mG l Z X 6 0 0 6 [some (.ref p0), some (.int p1), some (.int p2), some (.int p3), some (.int s1.1), some (.int s1.2)] [] h) ?_ _ _ e3)
  intro s1 o7 e8 hK5 hx6
  refine mG_iload (pc := 6) C dX10_commonBefore_6 rfl ?_
  refine mG_iload_n (pc := 8) C dX10_commonBefore_8 rfl ?_
  refine mG_icmp_ge (pc := 9) (tgt := 48) C dX10_commonBefore_9 (by decide) (fun q9 => ?_) (fun q9 => ?_)
  · rw [if_pos q9] at e8
    exact mG_sub (mxLe_n (mxLe_n (mxLe_n (mxLe_n (mxLe_s (mxLe_n mxLe_z)))))) (J4 _ (hx6 _ (Option.some.inj e8).symm))
  · rw [if_neg q9] at e8
    refine mG_iload (pc := 12) C dX10_commonBefore_12 rfl ?_
    refine mG_aload_n (pc := 14) C dX10_commonBefore_14 rfl ?_
    refine mG_iload_n (pc := 15) C dX10_commonBefore_15 rfl ?_
    refine mG_iload (pc := 16) C dX10_commonBefore_16 rfl ?_
    obtain ⟨u10, e11, e8⟩ := mx_bind e8
    obtain ⟨v13, e12, e8⟩ := mx_bind e8
    refine mG_cV (pc := 18) (k' := 0) (n' := 0) 10 [.int p1, .int s1.2] [.int s1.1] C hX dX10_commonBefore_18 lkV_X10_73 rfl rfl e11 (tX10_has hl e12) rfl rfl rfl rfl ?_
    obtain ⟨p16, e17, e8⟩ := mx_bind e8
    have J15 : ∀ p16' : Int32, p16' = p16 → mG l Z X 6 0 0 39 [some (.ref p0), some (.int p1), some (.int p2), some (.int p3), none, some (.int s1.2)] [.int p16', .int s1.1] h := by
      intro p16' q23
      subst q23
      refine mG_iadd (pc := 39) C dX10_commonBefore_39 ?_
      refine mG_is (ls' := [some (.ref p0), some (.int p1), some (.int p2), some (.int p3), some (.int (s1.1 + p16')), some (.int s1.2)]) (pc := 40) C dX10_commonBefore_40 rfl rfl rfl ?_
      refine mG_ii (ls' := [some (.ref p0), some (.int p1), some (.int p2), some (.int p3), some (.int (s1.1 + p16')), some (.int (s1.2 + 1))]) (pc := 42) C dX10_commonBefore_42 rfl (kinc1 _) rfl rfl rfl ?_
      refine mG_goto (tgt := 6) (pc := 45) C dX10_commonBefore_45 (by decide) ?_
      exact mG_sub (mxLe_s (mxLe_s (mxLe_s (mxLe_s (mxLe_s (mxLe_s mxLe_z)))))) (hK5 _ (Option.some.inj e8).symm)
    refine mG_if_eq (pc := 21) (tgt := 38) C dX10_commonBefore_21 (by decide) (fun q14 => ?_) (fun q14 => ?_)
    · rw [if_pos q14] at e17
      refine mG_ic (pc := 38) C dX10_commonBefore_38 kI0 ?_
      exact mG_sub (mxLe_s (mxLe_s (mxLe_s (mxLe_s (mxLe_n (mxLe_s mxLe_z)))))) (J15 _ (Option.some.inj e17))
    · rw [if_neg q14] at e17
      refine mG_aload_n (pc := 24) C dX10_commonBefore_24 rfl ?_
      refine mG_iload_n (pc := 25) C dX10_commonBefore_25 rfl ?_
      refine mG_iload (pc := 26) C dX10_commonBefore_26 rfl ?_
      obtain ⟨u18, e19, e17⟩ := mx_bind e17
      obtain ⟨v21, e20, e17⟩ := mx_bind e17
      refine mG_cV (pc := 28) (k' := 0) (n' := 0) 10 [.int p2, .int s1.2] [.int s1.1] C hX dX10_commonBefore_28 lkV_X10_73 rfl rfl e19 (tX10_has hl e20) rfl rfl rfl rfl ?_
      refine mG_if_eq (pc := 31) (tgt := 38) C dX10_commonBefore_31 (by decide) (fun q22 => ?_) (fun q22 => ?_)
      · rw [if_pos q22] at e17
        refine mG_ic (pc := 38) C dX10_commonBefore_38 kI0 ?_
        exact mG_sub (mxLe_s (mxLe_s (mxLe_s (mxLe_s (mxLe_n (mxLe_s mxLe_z)))))) (J15 _ (Option.some.inj e17))
      · rw [if_neg q22] at e17
        refine mG_ic (pc := 34) C dX10_commonBefore_34 kI1 ?_
        refine mG_goto (tgt := 39) (pc := 35) C dX10_commonBefore_35 (by decide) ?_
        exact mG_sub (mxLe_s (mxLe_s (mxLe_s (mxLe_s (mxLe_n (mxLe_s mxLe_z)))))) (J15 _ (Option.some.inj e17))
theorem dX10_common_0 : decode cX10_common 0 = .ok (.aload_n 0, 1) := by decide +kernel
theorem dX10_common_1 : decode cX10_common 1 = .ok (.iconst 0, 1) := by decide +kernel
theorem dX10_common_2 : decode cX10_common 2 = .ok (.putfield 61, 3) := by decide +kernel
theorem dX10_common_5 : decode cX10_common 5 = .ok (.iload_n 1, 1) := by decide +kernel
theorem dX10_common_6 : decode cX10_common 6 = .ok (.invokestatic 172, 3) := by decide +kernel
theorem dX10_common_9 : decode cX10_common 9 = .ok (.ifCond .eq 21, 3) := by decide +kernel
theorem dX10_common_12 : decode cX10_common 12 = .ok (.iload_n 2, 1) := by decide +kernel
theorem dX10_common_13 : decode cX10_common 13 = .ok (.invokestatic 172, 3) := by decide +kernel
theorem dX10_common_16 : decode cX10_common 16 = .ok (.ifCond .eq 14, 3) := by decide +kernel
theorem dX10_common_19 : decode cX10_common 19 = .ok (.aload_n 0, 1) := by decide +kernel
theorem dX10_common_20 : decode cX10_common 20 = .ok (.iload_n 1, 1) := by decide +kernel
theorem dX10_common_21 : decode cX10_common 21 = .ok (.iload_n 2, 1) := by decide +kernel
theorem dX10_common_22 : decode cX10_common 22 = .ok (.bipush 20, 2) := by decide +kernel
theorem dX10_common_24 : decode cX10_common 24 = .ok (.invokevirtual 225, 3) := by decide +kernel
theorem dX10_common_27 : decode cX10_common 27 = .ok (.goto 8, 3) := by decide +kernel
theorem dX10_common_30 : decode cX10_common 30 = .ok (.aload_n 0, 1) := by decide +kernel
theorem dX10_common_31 : decode cX10_common 31 = .ok (.iconst 1, 1) := by decide +kernel
theorem dX10_common_32 : decode cX10_common 32 = .ok (.invokevirtual 178, 3) := by decide +kernel
theorem dX10_common_35 : decode cX10_common 35 = .ok (.ireturn, 1) := by decide +kernel
def fX10_common (p0 : Nat) (p1 : Int32) (p2 : Int32) (h : mxH) : Option (Int32 × mxH) := Option.bind (pI h p0 10 3 0) (fun h1 => Option.bind (fX10_isRow p1 h1) (fun v4 => Option.bind (α := (Int32 × mxH)) (if v4 = 0 then Option.bind (isO h1 p0 10) (fun u9 => Option.bind (fX10_fails p0 1 h1) (fun o12 => some (o12.1, o12.2))) else Option.bind (fX10_isRow p2 h1) (fun v14 => (if v14 = 0 then Option.bind (isO h1 p0 10) (fun u16 => Option.bind (fX10_fails p0 1 h1) (fun o19 => some (o19.1, o19.2))) else Option.bind (isO h1 p0 10) (fun u20 => Option.bind (fX10_commonBefore p0 p1 p2 20 h1) (fun v23 => some (v23, h1)))))) (fun p7' : (Int32 × mxH) => some (p7'.1, p7'.2))))
abbrev rmX10_common : Room := { frames := 3, cells := 0, slots := 0, locals := 69 }
set_option maxRecDepth 20000 in
theorem tX10_common {l : Launch} {Z : mxZ} (hl : l.stackTraces = false) {p0 : Nat} {p1 : Int32} {p2 : Int32} {h : mxH} {out : (Int32 × mxH)} (hf : fX10_common p0 p1 p2 h = some out) : mxMet l Z yX10_common cX10_common 3 (some .int) rmX10_common [.ref p0, .int p1, .int p2] h (.inl (some (.int out.1))) out.2 := by
  refine mxMet_of (by decide) hl (by simp [Value.category]) (Nat.le_of_ble_eq_true rfl) ?_
  intro X C E hX hin
  unfold fX10_common at hf
  refine mG_aload_n (pc := 0) C dX10_common_0 rfl ?_
  refine mG_ic (pc := 1) C dX10_common_1 kI0 ?_
  obtain ⟨h1, e2, hf⟩ := mx_bind hf
  refine mG_putI (pc := 2) C dX10_common_2 fl_X10_61 e2 ?_
  refine mG_iload_n (pc := 5) C dX10_common_5 rfl ?_
  obtain ⟨v4, e3, hf⟩ := mx_bind hf
  refine mG_cS (pc := 6) (k' := 0) (n' := 0) [.int p1] [] C hX dX10_common_6 lkS_X10_172 rfl (tX10_isRow hl e3) rfl rfl rfl rfl ?_
  obtain ⟨p7, e8, hf⟩ := mx_bind hf
  have J6 : ∀ p7' : (Int32 × mxH), p7' = p7 → mG l Z X 3 0 0 35 [none, none, none] [.int p7'.1] p7'.2 := by
    intro p7' q24
    subst q24
    cases hf
    exact mG_ir (pc := 35) C E hX dX10_common_35 rfl
  refine mG_if_eq (pc := 9) (tgt := 30) C dX10_common_9 (by decide) (fun q5 => ?_) (fun q5 => ?_)
  · rw [if_pos q5] at e8
    refine mG_aload_n (pc := 30) C dX10_common_30 rfl ?_
    refine mG_ic (pc := 31) C dX10_common_31 kI1 ?_
    obtain ⟨u9, e10, e8⟩ := mx_bind e8
    obtain ⟨o12, e11, e8⟩ := mx_bind e8
    refine mG_cV (pc := 32) (k' := 0) (n' := 0) 10 [.int 1] [] C hX dX10_common_32 lkV_X10_178 rfl rfl e10 (tX10_fails hl e11) rfl rfl rfl rfl ?_
    exact mG_sub (mxLe_n (mxLe_n (mxLe_n mxLe_z))) (J6 _ (Option.some.inj e8))
  · rw [if_neg q5] at e8
    refine mG_iload_n (pc := 12) C dX10_common_12 rfl ?_
    obtain ⟨v14, e13, e8⟩ := mx_bind e8
    refine mG_cS (pc := 13) (k' := 0) (n' := 0) [.int p2] [] C hX dX10_common_13 lkS_X10_172 rfl (tX10_isRow hl e13) rfl rfl rfl rfl ?_
    refine mG_if_eq (pc := 16) (tgt := 30) C dX10_common_16 (by decide) (fun q15 => ?_) (fun q15 => ?_)
    · rw [if_pos q15] at e8
      refine mG_aload_n (pc := 30) C dX10_common_30 rfl ?_
      refine mG_ic (pc := 31) C dX10_common_31 kI1 ?_
      obtain ⟨u16, e17, e8⟩ := mx_bind e8
      obtain ⟨o19, e18, e8⟩ := mx_bind e8
      refine mG_cV (pc := 32) (k' := 0) (n' := 0) 10 [.int 1] [] C hX dX10_common_32 lkV_X10_178 rfl rfl e17 (tX10_fails hl e18) rfl rfl rfl rfl ?_
      exact mG_sub (mxLe_n (mxLe_n (mxLe_n mxLe_z))) (J6 _ (Option.some.inj e8))
    · rw [if_neg q15] at e8
      refine mG_aload_n (pc := 19) C dX10_common_19 rfl ?_
      refine mG_iload_n (pc := 20) C dX10_common_20 rfl ?_
      refine mG_iload_n (pc := 21) C dX10_common_21 rfl ?_
      refine mG_bp (pc := 22) C dX10_common_22 kB20 ?_
      obtain ⟨u20, e21, e8⟩ := mx_bind e8
      obtain ⟨v23, e22, e8⟩ := mx_bind e8
      refine mG_cV (pc := 24) (k' := 0) (n' := 0) 10 [.int p1, .int p2, .int 20] [] C hX dX10_common_24 lkV_X10_225 rfl rfl e21 (tX10_commonBefore hl e22) rfl rfl rfl rfl ?_
      refine mG_goto (tgt := 35) (pc := 27) C dX10_common_27 (by decide) ?_
      exact mG_sub (mxLe_n (mxLe_n (mxLe_n mxLe_z))) (J6 _ (Option.some.inj e8))
theorem dX10_commonAt_0 : decode cX10_commonAt 0 = .ok (.aload_n 0, 1) := by decide +kernel
theorem dX10_commonAt_1 : decode cX10_commonAt 1 = .ok (.iconst 0, 1) := by decide +kernel
theorem dX10_commonAt_2 : decode cX10_commonAt 2 = .ok (.putfield 61, 3) := by decide +kernel
theorem dX10_commonAt_5 : decode cX10_commonAt 5 = .ok (.iload_n 1, 1) := by decide +kernel
theorem dX10_commonAt_6 : decode cX10_commonAt 6 = .ok (.invokestatic 172, 3) := by decide +kernel
theorem dX10_commonAt_9 : decode cX10_commonAt 9 = .ok (.ifCond .eq 28, 3) := by decide +kernel
theorem dX10_commonAt_12 : decode cX10_commonAt 12 = .ok (.iload_n 2, 1) := by decide +kernel
theorem dX10_commonAt_13 : decode cX10_commonAt 13 = .ok (.invokestatic 172, 3) := by decide +kernel
theorem dX10_commonAt_16 : decode cX10_commonAt 16 = .ok (.ifCond .eq 21, 3) := by decide +kernel
theorem dX10_commonAt_19 : decode cX10_commonAt 19 = .ok (.iload_n 3, 1) := by decide +kernel
theorem dX10_commonAt_20 : decode cX10_commonAt 20 = .ok (.iconst 0, 1) := by decide +kernel
theorem dX10_commonAt_21 : decode cX10_commonAt 21 = .ok (.aload_n 0, 1) := by decide +kernel
theorem dX10_commonAt_22 : decode cX10_commonAt 22 = .ok (.iload_n 1, 1) := by decide +kernel
theorem dX10_commonAt_23 : decode cX10_commonAt 23 = .ok (.iload_n 2, 1) := by decide +kernel
theorem dX10_commonAt_24 : decode cX10_commonAt 24 = .ok (.bipush 20, 2) := by decide +kernel
theorem dX10_commonAt_26 : decode cX10_commonAt 26 = .ok (.invokevirtual 225, 3) := by decide +kernel
theorem dX10_commonAt_29 : decode cX10_commonAt 29 = .ok (.iconst 1, 1) := by decide +kernel
theorem dX10_commonAt_30 : decode cX10_commonAt 30 = .ok (.isub, 1) := by decide +kernel
theorem dX10_commonAt_31 : decode cX10_commonAt 31 = .ok (.invokestatic 65, 3) := by decide +kernel
theorem dX10_commonAt_34 : decode cX10_commonAt 34 = .ok (.ifCond .ne 9, 3) := by decide +kernel
theorem dX10_commonAt_37 : decode cX10_commonAt 37 = .ok (.aload_n 0, 1) := by decide +kernel
theorem dX10_commonAt_38 : decode cX10_commonAt 38 = .ok (.iconst 1, 1) := by decide +kernel
theorem dX10_commonAt_39 : decode cX10_commonAt 39 = .ok (.invokevirtual 178, 3) := by decide +kernel
theorem dX10_commonAt_42 : decode cX10_commonAt 42 = .ok (.ireturn, 1) := by decide +kernel
theorem dX10_commonAt_43 : decode cX10_commonAt 43 = .ok (.iconst 0, 1) := by decide +kernel
theorem dX10_commonAt_44 : decode cX10_commonAt 44 = .ok (.istore 4, 2) := by decide +kernel
theorem dX10_commonAt_46 : decode cX10_commonAt 46 = .ok (.aload_n 0, 1) := by decide +kernel
theorem dX10_commonAt_47 : decode cX10_commonAt 47 = .ok (.iload_n 1, 1) := by decide +kernel
theorem dX10_commonAt_48 : decode cX10_commonAt 48 = .ok (.iload_n 2, 1) := by decide +kernel
theorem dX10_commonAt_49 : decode cX10_commonAt 49 = .ok (.iload 4, 2) := by decide +kernel
theorem dX10_commonAt_51 : decode cX10_commonAt 51 = .ok (.iconst 1, 1) := by decide +kernel
theorem dX10_commonAt_52 : decode cX10_commonAt 52 = .ok (.iadd, 1) := by decide +kernel
theorem dX10_commonAt_53 : decode cX10_commonAt 53 = .ok (.invokevirtual 225, 3) := by decide +kernel
theorem dX10_commonAt_56 : decode cX10_commonAt 56 = .ok (.iload_n 3, 1) := by decide +kernel
theorem dX10_commonAt_57 : decode cX10_commonAt 57 = .ok (.if_icmp .gt 9, 3) := by decide +kernel
theorem dX10_commonAt_60 : decode cX10_commonAt 60 = .ok (.iinc 4 1, 3) := by decide +kernel
theorem dX10_commonAt_63 : decode cX10_commonAt 63 = .ok (.goto (-17), 3) := by decide +kernel
theorem dX10_commonAt_66 : decode cX10_commonAt 66 = .ok (.iload 4, 2) := by decide +kernel
theorem dX10_commonAt_68 : decode cX10_commonAt 68 = .ok (.ireturn, 1) := by decide +kernel
def fX10_commonAt (p0 : Nat) (p1 : Int32) (p2 : Int32) (p3 : Int32) (h : mxH) : Option (Int32 × mxH) := Option.bind (pI h p0 10 3 0) (fun h1 => Option.bind (fX10_isRow p1 h1) (fun v4 => (if v4 = 0 then Option.bind (isO h1 p0 10) (fun u6 => Option.bind (fX10_fails p0 1 h1) (fun o9 => some (o9.1, o9.2))) else Option.bind (fX10_isRow p2 h1) (fun v11 => (if v11 = 0 then Option.bind (isO h1 p0 10) (fun u13 => Option.bind (fX10_fails p0 1 h1) (fun o16 => some (o16.1, o16.2))) else Option.bind (isO h1 p0 10) (fun u17 => Option.bind (fX10_commonBefore p0 p1 p2 20 h1) (fun v20 => Option.bind (fX10_in p3 0 (v20 - 1) h1) (fun v22 => (if v22 = 0 then Option.bind (isO h1 p0 10) (fun u39 => Option.bind (fX10_fails p0 1 h1) (fun o42 => some (o42.1, o42.2))) else Option.bind (mxLoop (ρ := Int32) (fun s24 : Int32 => Option.bind (isO h1 p0 10) (fun u32 => Option.bind (fX10_commonBefore p0 p1 p2 (s24 + 1) h1) (fun v35 => (if p3 < v35 then some (Sum.inr s24) else some (Sum.inl (s24 + 1)))))) mxF 0) (fun r37 : Int32 => some (r37, h1)))))))))))
abbrev rmX10_commonAt : Room := { frames := 3, cells := 0, slots := 0, locals := 69 }
set_option maxRecDepth 20000 in
theorem tX10_commonAt {l : Launch} {Z : mxZ} (hl : l.stackTraces = false) {p0 : Nat} {p1 : Int32} {p2 : Int32} {p3 : Int32} {h : mxH} {out : (Int32 × mxH)} (hf : fX10_commonAt p0 p1 p2 p3 h = some out) : mxMet l Z yX10_commonAt cX10_commonAt 5 (some .int) rmX10_commonAt [.ref p0, .int p1, .int p2, .int p3] h (.inl (some (.int out.1))) out.2 := by
  refine mxMet_of (by decide) hl (by simp [Value.category]) (Nat.le_of_ble_eq_true rfl) ?_
  intro X C E hX hin
  unfold fX10_commonAt at hf
  refine mG_aload_n (pc := 0) C dX10_commonAt_0 rfl ?_
  refine mG_ic (pc := 1) C dX10_commonAt_1 kI0 ?_
  obtain ⟨h1, e2, hf⟩ := mx_bind hf
  refine mG_putI (pc := 2) C dX10_commonAt_2 fl_X10_61 e2 ?_
  refine mG_iload_n (pc := 5) C dX10_commonAt_5 rfl ?_
  obtain ⟨v4, e3, hf⟩ := mx_bind hf
  refine mG_cS (pc := 6) (k' := 0) (n' := 0) [.int p1] [] C hX dX10_commonAt_6 lkS_X10_172 rfl (tX10_isRow hl e3) rfl rfl rfl rfl ?_
  refine mG_if_eq (pc := 9) (tgt := 37) C dX10_commonAt_9 (by decide) (fun q5 => ?_) (fun q5 => ?_)
  · rw [if_pos q5] at hf
    refine mG_aload_n (pc := 37) C dX10_commonAt_37 rfl ?_
    refine mG_ic (pc := 38) C dX10_commonAt_38 kI1 ?_
    obtain ⟨u6, e7, hf⟩ := mx_bind hf
    obtain ⟨o9, e8, hf⟩ := mx_bind hf
    refine mG_cV (pc := 39) (k' := 0) (n' := 0) 10 [.int 1] [] C hX dX10_commonAt_39 lkV_X10_178 rfl rfl e7 (tX10_fails hl e8) rfl rfl rfl rfl ?_
    cases hf
    exact mG_ir (pc := 42) C E hX dX10_commonAt_42 rfl
  · rw [if_neg q5] at hf
    refine mG_iload_n (pc := 12) C dX10_commonAt_12 rfl ?_
    obtain ⟨v11, e10, hf⟩ := mx_bind hf
    refine mG_cS (pc := 13) (k' := 0) (n' := 0) [.int p2] [] C hX dX10_commonAt_13 lkS_X10_172 rfl (tX10_isRow hl e10) rfl rfl rfl rfl ?_
    refine mG_if_eq (pc := 16) (tgt := 37) C dX10_commonAt_16 (by decide) (fun q12 => ?_) (fun q12 => ?_)
    · rw [if_pos q12] at hf
      refine mG_aload_n (pc := 37) C dX10_commonAt_37 rfl ?_
      refine mG_ic (pc := 38) C dX10_commonAt_38 kI1 ?_
      obtain ⟨u13, e14, hf⟩ := mx_bind hf
      obtain ⟨o16, e15, hf⟩ := mx_bind hf
      refine mG_cV (pc := 39) (k' := 0) (n' := 0) 10 [.int 1] [] C hX dX10_commonAt_39 lkV_X10_178 rfl rfl e14 (tX10_fails hl e15) rfl rfl rfl rfl ?_
      cases hf
      exact mG_ir (pc := 42) C E hX dX10_commonAt_42 rfl
    · rw [if_neg q12] at hf
      refine mG_iload_n (pc := 19) C dX10_commonAt_19 rfl ?_
      refine mG_ic (pc := 20) C dX10_commonAt_20 kI0 ?_
      refine mG_aload_n (pc := 21) C dX10_commonAt_21 rfl ?_
      refine mG_iload_n (pc := 22) C dX10_commonAt_22 rfl ?_
      refine mG_iload_n (pc := 23) C dX10_commonAt_23 rfl ?_
      refine mG_bp (pc := 24) C dX10_commonAt_24 kB20 ?_
      obtain ⟨u17, e18, hf⟩ := mx_bind hf
      obtain ⟨v20, e19, hf⟩ := mx_bind hf
      refine mG_cV (pc := 26) (k' := 0) (n' := 0) 10 [.int p1, .int p2, .int 20] [.int 0, .int p3] C hX dX10_commonAt_26 lkV_X10_225 rfl rfl e18 (tX10_commonBefore hl e19) rfl rfl rfl rfl ?_
      refine mG_ic (pc := 29) C dX10_commonAt_29 kI1 ?_
      refine mG_isub (pc := 30) C dX10_commonAt_30 ?_
      obtain ⟨v22, e21, hf⟩ := mx_bind hf
      refine mG_cS (pc := 31) (k' := 0) (n' := 0) [.int p3, .int 0, .int (v20 - 1)] [] C hX dX10_commonAt_31 lkS_X10_65 rfl (tX10_in hl e21) rfl rfl rfl rfl ?_
      refine mG_if_ne (pc := 34) (tgt := 43) C dX10_commonAt_34 (by decide) (fun q23 => ?_) (fun q23 => ?_)
      · rw [if_neg q23] at hf
        refine mG_ic (pc := 43) C dX10_commonAt_43 kI0 ?_
        refine mG_is (ls' := [some (.ref p0), some (.int p1), some (.int p2), some (.int p3), some (.int 0)]) (pc := 44) C dX10_commonAt_44 rfl rfl rfl ?_
        obtain ⟨r25, e26, hf⟩ := mx_bind hf
        have J27 : ∀ r37 : Int32, r37 = r25 → mG l Z X 5 0 0 66 [none, none, none, none, some (.int r37)] [] h1 := by
          intro r37 q38
          subst q38
          refine mG_iload (pc := 66) C dX10_commonAt_66 rfl ?_
          cases hf
          exact mG_ir (pc := 68) C E hX dX10_commonAt_68 rfl
        refine mG_sub (ls' := [some (.ref p0), some (.int p1), some (.int p2), some (.int p3), some (.int 0)]) (mxLe_s (mxLe_s (mxLe_s (mxLe_s (mxLe_s mxLe_z))))) (mxLoop_ind (K := fun s24 : Int32 => mG l Z X 5 0 0 46 [some (.ref p0), some (.int p1), some (.int p2), some (.int p3), some (.int s24)] [] h1) ?_ _ _ e26)
        intro s24 o30 e31 hK28 hx29
        refine mG_aload_n (pc := 46) C dX10_commonAt_46 rfl ?_
        refine mG_iload_n (pc := 47) C dX10_commonAt_47 rfl ?_
        refine mG_iload_n (pc := 48) C dX10_commonAt_48 rfl ?_
        refine mG_iload (pc := 49) C dX10_commonAt_49 rfl ?_
        refine mG_ic (pc := 51) C dX10_commonAt_51 kI1 ?_
        refine mG_iadd (pc := 52) C dX10_commonAt_52 ?_
        obtain ⟨u32, e33, e31⟩ := mx_bind e31
        obtain ⟨v35, e34, e31⟩ := mx_bind e31
        refine mG_cV (pc := 53) (k' := 0) (n' := 0) 10 [.int p1, .int p2, .int (s24 + 1)] [] C hX dX10_commonAt_53 lkV_X10_225 rfl rfl e33 (tX10_commonBefore hl e34) rfl rfl rfl rfl ?_
        refine mG_iload_n (pc := 56) C dX10_commonAt_56 rfl ?_
        refine mG_icmp_gt (pc := 57) (tgt := 66) C dX10_commonAt_57 (by decide) (fun q36 => ?_) (fun q36 => ?_)
        · rw [if_pos q36] at e31
          exact mG_sub (mxLe_n (mxLe_n (mxLe_n (mxLe_n (mxLe_s mxLe_z))))) (J27 _ (hx29 _ (Option.some.inj e31).symm))
        · rw [if_neg q36] at e31
          refine mG_ii (ls' := [some (.ref p0), some (.int p1), some (.int p2), some (.int p3), some (.int (s24 + 1))]) (pc := 60) C dX10_commonAt_60 rfl (kinc1 _) rfl rfl rfl ?_
          refine mG_goto (tgt := 46) (pc := 63) C dX10_commonAt_63 (by decide) ?_
          exact mG_sub (mxLe_s (mxLe_s (mxLe_s (mxLe_s (mxLe_s mxLe_z))))) (hK28 _ (Option.some.inj e31).symm)
      · rw [if_pos q23] at hf
        refine mG_aload_n (pc := 37) C dX10_commonAt_37 rfl ?_
        refine mG_ic (pc := 38) C dX10_commonAt_38 kI1 ?_
        obtain ⟨u39, e40, hf⟩ := mx_bind hf
        obtain ⟨o42, e41, hf⟩ := mx_bind hf
        refine mG_cV (pc := 39) (k' := 0) (n' := 0) 10 [.int 1] [] C hX dX10_commonAt_39 lkV_X10_178 rfl rfl e40 (tX10_fails hl e41) rfl rfl rfl rfl ?_
        cases hf
        exact mG_ir (pc := 42) C E hX dX10_commonAt_42 rfl
theorem dX10_meanMark_0 : decode cX10_meanMark 0 = .ok (.aload_n 0, 1) := by decide +kernel
theorem dX10_meanMark_1 : decode cX10_meanMark 1 = .ok (.iconst 0, 1) := by decide +kernel
theorem dX10_meanMark_2 : decode cX10_meanMark 2 = .ok (.putfield 61, 3) := by decide +kernel
theorem dX10_meanMark_5 : decode cX10_meanMark 5 = .ok (.iconst 0, 1) := by decide +kernel
theorem dX10_meanMark_6 : decode cX10_meanMark 6 = .ok (.istore_n 1, 1) := by decide +kernel
theorem dX10_meanMark_7 : decode cX10_meanMark 7 = .ok (.iconst 0, 1) := by decide +kernel
theorem dX10_meanMark_8 : decode cX10_meanMark 8 = .ok (.istore_n 2, 1) := by decide +kernel
theorem dX10_meanMark_9 : decode cX10_meanMark 9 = .ok (.iload_n 2, 1) := by decide +kernel
theorem dX10_meanMark_10 : decode cX10_meanMark 10 = .ok (.iconst 5, 1) := by decide +kernel
theorem dX10_meanMark_11 : decode cX10_meanMark 11 = .ok (.if_icmp .ge 36, 3) := by decide +kernel
theorem dX10_meanMark_14 : decode cX10_meanMark 14 = .ok (.iconst 0, 1) := by decide +kernel
theorem dX10_meanMark_15 : decode cX10_meanMark 15 = .ok (.istore_n 3, 1) := by decide +kernel
theorem dX10_meanMark_16 : decode cX10_meanMark 16 = .ok (.iload_n 3, 1) := by decide +kernel
theorem dX10_meanMark_17 : decode cX10_meanMark 17 = .ok (.bipush 20, 2) := by decide +kernel
theorem dX10_meanMark_19 : decode cX10_meanMark 19 = .ok (.if_icmp .ge 22, 3) := by decide +kernel
theorem dX10_meanMark_22 : decode cX10_meanMark 22 = .ok (.iload_n 1, 1) := by decide +kernel
theorem dX10_meanMark_23 : decode cX10_meanMark 23 = .ok (.aload_n 0, 1) := by decide +kernel
theorem dX10_meanMark_24 : decode cX10_meanMark 24 = .ok (.iload_n 2, 1) := by decide +kernel
theorem dX10_meanMark_25 : decode cX10_meanMark 25 = .ok (.iload_n 3, 1) := by decide +kernel
theorem dX10_meanMark_26 : decode cX10_meanMark 26 = .ok (.invokevirtual 69, 3) := by decide +kernel
theorem dX10_meanMark_29 : decode cX10_meanMark 29 = .ok (.iconst 0, 1) := by decide +kernel
theorem dX10_meanMark_30 : decode cX10_meanMark 30 = .ok (.invokestatic 81, 3) := by decide +kernel
theorem dX10_meanMark_33 : decode cX10_meanMark 33 = .ok (.iadd, 1) := by decide +kernel
theorem dX10_meanMark_34 : decode cX10_meanMark 34 = .ok (.istore_n 1, 1) := by decide +kernel
theorem dX10_meanMark_35 : decode cX10_meanMark 35 = .ok (.iinc 3 1, 3) := by decide +kernel
theorem dX10_meanMark_38 : decode cX10_meanMark 38 = .ok (.goto (-22), 3) := by decide +kernel
theorem dX10_meanMark_41 : decode cX10_meanMark 41 = .ok (.iinc 2 1, 3) := by decide +kernel
theorem dX10_meanMark_44 : decode cX10_meanMark 44 = .ok (.goto (-35), 3) := by decide +kernel
theorem dX10_meanMark_47 : decode cX10_meanMark 47 = .ok (.aload_n 0, 1) := by decide +kernel
theorem dX10_meanMark_48 : decode cX10_meanMark 48 = .ok (.invokevirtual 199, 3) := by decide +kernel
theorem dX10_meanMark_51 : decode cX10_meanMark 51 = .ok (.ifCond .ne 7, 3) := by decide +kernel
theorem dX10_meanMark_54 : decode cX10_meanMark 54 = .ok (.dconst 0, 1) := by decide +kernel
theorem dX10_meanMark_55 : decode cX10_meanMark 55 = .ok (.goto 11, 3) := by decide +kernel
theorem dX10_meanMark_58 : decode cX10_meanMark 58 = .ok (.iload_n 1, 1) := by decide +kernel
theorem dX10_meanMark_59 : decode cX10_meanMark 59 = .ok (.i2d, 1) := by decide +kernel
theorem dX10_meanMark_60 : decode cX10_meanMark 60 = .ok (.aload_n 0, 1) := by decide +kernel
theorem dX10_meanMark_61 : decode cX10_meanMark 61 = .ok (.invokevirtual 199, 3) := by decide +kernel
theorem dX10_meanMark_64 : decode cX10_meanMark 64 = .ok (.i2d, 1) := by decide +kernel
theorem dX10_meanMark_65 : decode cX10_meanMark 65 = .ok (.ddiv, 1) := by decide +kernel
theorem dX10_meanMark_66 : decode cX10_meanMark 66 = .ok (.dreturn, 1) := by decide +kernel
def fX10_meanMark (p0 : Nat) (h : mxH) : Option (UInt64 × mxH) := Option.bind (pI h p0 10 3 0) (fun h1 => Option.bind (mxLoop (ρ := Int32) (fun s3 : (Int32 × Int32) => (if 5 ≤ s3.2 then some (Sum.inr s3.1) else Option.bind (mxLoop (ρ := Int32) (fun s12 : (Int32 × Int32) => (if 20 ≤ s12.2 then some (Sum.inr s12.1) else Option.bind (isO h1 p0 10) (fun u21 => Option.bind (fX10_mark p0 s3.2 s12.2 h1) (fun v24 => some (Sum.inl (s12.1 + (mxMax v24 0), s12.2 + 1)))))) mxF (s3.1, 0)) (fun r25 : Int32 => some (Sum.inl (r25, s3.2 + 1))))) mxF (0, 0)) (fun r27 : Int32 => Option.bind (isO h1 p0 10) (fun u28 => Option.bind (fX10_allItems p0 h1) (fun v31 => Option.bind (α := UInt64) (if v31 = 0 then some FP.dconst0 else Option.bind (isO h1 p0 10) (fun u36 => Option.bind (fX10_allItems p0 h1) (fun v39 => Option.bind (mxDdiv (FP.i2d r27) (FP.i2d v39)) (fun v40 => some v40)))) (fun p34' : UInt64 => some (p34', h1))))))
abbrev rmX10_meanMark : Room := { frames := 4, cells := 0, slots := 0, locals := 89 }
set_option maxRecDepth 20000 in
theorem tX10_meanMark {l : Launch} {Z : mxZ} (hl : l.stackTraces = false) {p0 : Nat} {h : mxH} {out : (UInt64 × mxH)} (hf : fX10_meanMark p0 h = some out) : mxMet l Z yX10_meanMark cX10_meanMark 4 (some .double) rmX10_meanMark [.ref p0] h (.inl (some (.double out.1))) out.2 := by
  refine mxMet_of (by decide) hl (by simp [Value.category]) (Nat.le_of_ble_eq_true rfl) ?_
  intro X C E hX hin
  unfold fX10_meanMark at hf
  refine mG_aload_n (pc := 0) C dX10_meanMark_0 rfl ?_
  refine mG_ic (pc := 1) C dX10_meanMark_1 kI0 ?_
  obtain ⟨h1, e2, hf⟩ := mx_bind hf
  refine mG_putI (pc := 2) C dX10_meanMark_2 fl_X10_61 e2 ?_
  refine mG_ic (pc := 5) C dX10_meanMark_5 kI0 ?_
  refine mG_isn (ls' := [some (.ref p0), some (.int 0), none, none]) (pc := 6) C dX10_meanMark_6 rfl rfl rfl ?_
  refine mG_ic (pc := 7) C dX10_meanMark_7 kI0 ?_
  refine mG_isn (ls' := [some (.ref p0), some (.int 0), some (.int 0), none]) (pc := 8) C dX10_meanMark_8 rfl rfl rfl ?_
  obtain ⟨r4, e5, hf⟩ := mx_bind hf
  have J6 : ∀ r27 : Int32, r27 = r4 → mG l Z X 4 0 0 47 [some (.ref p0), some (.int r27), none, none] [] h1 := by
    intro r27 q43
    subst q43
    refine mG_aload_n (pc := 47) C dX10_meanMark_47 rfl ?_
    obtain ⟨u28, e29, hf⟩ := mx_bind hf
    obtain ⟨v31, e30, hf⟩ := mx_bind hf
    refine mG_cV (pc := 48) (k' := 0) (n' := 0) 10 [] [] C hX dX10_meanMark_48 lkV_X10_199 rfl rfl e29 (tX10_allItems hl e30) rfl rfl rfl rfl ?_
    obtain ⟨p34, e35, hf⟩ := mx_bind hf
    have J33 : ∀ p34' : UInt64, p34' = p34 → mG l Z X 4 0 0 66 [none, none, none, none] [.double p34'] h1 := by
      intro p34' q42
      subst q42
      cases hf
      exact mG_dr (pc := 66) C E hX dX10_meanMark_66 rfl
    refine mG_if_ne (pc := 51) (tgt := 58) C dX10_meanMark_51 (by decide) (fun q32 => ?_) (fun q32 => ?_)
    · rw [if_neg q32] at e35
      refine mG_iload_n (pc := 58) C dX10_meanMark_58 rfl ?_
      refine mG_i2d (pc := 59) C dX10_meanMark_59 ?_
      refine mG_aload_n (pc := 60) C dX10_meanMark_60 rfl ?_
      obtain ⟨u36, e37, e35⟩ := mx_bind e35
      obtain ⟨v39, e38, e35⟩ := mx_bind e35
      refine mG_cV (pc := 61) (k' := 0) (n' := 0) 10 [] [.double (FP.i2d r27)] C hX dX10_meanMark_61 lkV_X10_199 rfl rfl e37 (tX10_allItems hl e38) rfl rfl rfl rfl ?_
      refine mG_i2d (pc := 64) C dX10_meanMark_64 ?_
      obtain ⟨v40, e41, e35⟩ := mx_bind e35
      refine mG_ddivv (pc := 65) C dX10_meanMark_65 e41 ?_
      exact mG_sub (mxLe_n (mxLe_n (mxLe_n (mxLe_n mxLe_z)))) (J33 _ (Option.some.inj e35))
    · rw [if_pos q32] at e35
      refine mG_dconst0 (pc := 54) C dX10_meanMark_54 ?_
      refine mG_goto (tgt := 66) (pc := 55) C dX10_meanMark_55 (by decide) ?_
      exact mG_sub (mxLe_n (mxLe_n (mxLe_n (mxLe_n mxLe_z)))) (J33 _ (Option.some.inj e35))
  refine mG_sub (ls' := [some (.ref p0), some (.int 0), some (.int 0), none]) (mxLe_s (mxLe_s (mxLe_s (mxLe_n mxLe_z)))) (mxLoop_ind (K := fun s3 : (Int32 × Int32) => mG l Z X 4 0 0 9 [some (.ref p0), some (.int s3.1), some (.int s3.2), none] [] h1) ?_ _ _ e5)
  intro s3 o9 e10 hK7 hx8
  refine mG_iload_n (pc := 9) C dX10_meanMark_9 rfl ?_
  refine mG_ic (pc := 10) C dX10_meanMark_10 kI5 ?_
  refine mG_icmp_ge (pc := 11) (tgt := 47) C dX10_meanMark_11 (by decide) (fun q11 => ?_) (fun q11 => ?_)
  · rw [if_pos q11] at e10
    exact mG_sub (mxLe_s (mxLe_s (mxLe_n (mxLe_n mxLe_z)))) (J6 _ (hx8 _ (Option.some.inj e10).symm))
  · rw [if_neg q11] at e10
    refine mG_ic (pc := 14) C dX10_meanMark_14 kI0 ?_
    refine mG_isn (ls' := [some (.ref p0), some (.int s3.1), some (.int s3.2), some (.int 0)]) (pc := 15) C dX10_meanMark_15 rfl rfl rfl ?_
    obtain ⟨r13, e14, e10⟩ := mx_bind e10
    have J15 : ∀ r25 : Int32, r25 = r13 → mG l Z X 4 0 0 41 [some (.ref p0), some (.int r25), some (.int s3.2), none] [] h1 := by
      intro r25 q26
      subst q26
      refine mG_ii (ls' := [some (.ref p0), some (.int r25), some (.int (s3.2 + 1)), none]) (pc := 41) C dX10_meanMark_41 rfl (kinc1 _) rfl rfl rfl ?_
      refine mG_goto (tgt := 9) (pc := 44) C dX10_meanMark_44 (by decide) ?_
      exact mG_sub (mxLe_s (mxLe_s (mxLe_s (mxLe_n mxLe_z)))) (hK7 _ (Option.some.inj e10).symm)
    refine mG_sub (ls' := [some (.ref p0), some (.int s3.1), some (.int s3.2), some (.int 0)]) (mxLe_s (mxLe_s (mxLe_s (mxLe_s mxLe_z)))) (mxLoop_ind (K := fun s12 : (Int32 × Int32) => mG l Z X 4 0 0 16 [some (.ref p0), some (.int s12.1), some (.int s3.2), some (.int s12.2)] [] h1) ?_ _ _ e14)
    intro s12 o18 e19 hK16 hx17
    refine mG_iload_n (pc := 16) C dX10_meanMark_16 rfl ?_
    refine mG_bp (pc := 17) C dX10_meanMark_17 kB20 ?_
    refine mG_icmp_ge (pc := 19) (tgt := 41) C dX10_meanMark_19 (by decide) (fun q20 => ?_) (fun q20 => ?_)
    · rw [if_pos q20] at e19
      exact mG_sub (mxLe_s (mxLe_s (mxLe_s (mxLe_n mxLe_z)))) (J15 _ (hx17 _ (Option.some.inj e19).symm))
    · rw [if_neg q20] at e19
      refine mG_iload_n (pc := 22) C dX10_meanMark_22 rfl ?_
      refine mG_aload_n (pc := 23) C dX10_meanMark_23 rfl ?_
      refine mG_iload_n (pc := 24) C dX10_meanMark_24 rfl ?_
      refine mG_iload_n (pc := 25) C dX10_meanMark_25 rfl ?_
      obtain ⟨u21, e22, e19⟩ := mx_bind e19
      obtain ⟨v24, e23, e19⟩ := mx_bind e19
      refine mG_cV (pc := 26) (k' := 0) (n' := 0) 10 [.int s3.2, .int s12.2] [.int s12.1] C hX dX10_meanMark_26 lkV_X10_69 rfl rfl e22 (tX10_mark hl e23) rfl rfl rfl rfl ?_
      refine mG_ic (pc := 29) C dX10_meanMark_29 kI0 ?_
      refine mG_mx (pc := 30) C hX dX10_meanMark_30 w1322 wmax rfl rfl ?_
      refine mG_iadd (pc := 33) C dX10_meanMark_33 ?_
      refine mG_isn (ls' := [some (.ref p0), some (.int (s12.1 + (mxMax v24 0))), some (.int s3.2), some (.int s12.2)]) (pc := 34) C dX10_meanMark_34 rfl rfl rfl ?_
      refine mG_ii (ls' := [some (.ref p0), some (.int (s12.1 + (mxMax v24 0))), some (.int s3.2), some (.int (s12.2 + 1))]) (pc := 35) C dX10_meanMark_35 rfl (kinc1 _) rfl rfl rfl ?_
      refine mG_goto (tgt := 16) (pc := 38) C dX10_meanMark_38 (by decide) ?_
      exact mG_sub (mxLe_s (mxLe_s (mxLe_s (mxLe_s mxLe_z)))) (hK16 _ (Option.some.inj e19).symm)
theorem dX10_fill_0 : decode cX10_fill 0 = .ok (.aload_n 0, 1) := by decide +kernel
theorem dX10_fill_1 : decode cX10_fill 1 = .ok (.iconst 0, 1) := by decide +kernel
theorem dX10_fill_2 : decode cX10_fill 2 = .ok (.putfield 61, 3) := by decide +kernel
theorem dX10_fill_5 : decode cX10_fill 5 = .ok (.aload_n 0, 1) := by decide +kernel
theorem dX10_fill_6 : decode cX10_fill 6 = .ok (.invokevirtual 199, 3) := by decide +kernel
theorem dX10_fill_9 : decode cX10_fill 9 = .ok (.i2f, 1) := by decide +kernel
theorem dX10_fill_10 : decode cX10_fill 10 = .ok (.ldc 228, 2) := by decide +kernel
theorem dX10_fill_12 : decode cX10_fill 12 = .ok (.fdiv, 1) := by decide +kernel
theorem dX10_fill_13 : decode cX10_fill 13 = .ok (.freturn, 1) := by decide +kernel
def fX10_fill (p0 : Nat) (h : mxH) : Option (UInt32 × mxH) := Option.bind (pI h p0 10 3 0) (fun h1 => Option.bind (isO h1 p0 10) (fun u3 => Option.bind (fX10_allItems p0 h1) (fun v6 => Option.bind (mxFdiv (FP.i2f v6) (1120403456 : UInt32)) (fun v8 => some (v8, h1)))))
abbrev rmX10_fill : Room := { frames := 4, cells := 0, slots := 0, locals := 89 }
set_option maxRecDepth 20000 in
theorem tX10_fill {l : Launch} {Z : mxZ} (hl : l.stackTraces = false) {p0 : Nat} {h : mxH} {out : (UInt32 × mxH)} (hf : fX10_fill p0 h = some out) : mxMet l Z yX10_fill cX10_fill 1 (some .float) rmX10_fill [.ref p0] h (.inl (some (.float out.1))) out.2 := by
  refine mxMet_of (by decide) hl (by simp [Value.category]) (Nat.le_of_ble_eq_true rfl) ?_
  intro X C E hX hin
  unfold fX10_fill at hf
  refine mG_aload_n (pc := 0) C dX10_fill_0 rfl ?_
  refine mG_ic (pc := 1) C dX10_fill_1 kI0 ?_
  obtain ⟨h1, e2, hf⟩ := mx_bind hf
  refine mG_putI (pc := 2) C dX10_fill_2 fl_X10_61 e2 ?_
  refine mG_aload_n (pc := 5) C dX10_fill_5 rfl ?_
  obtain ⟨u3, e4, hf⟩ := mx_bind hf
  obtain ⟨v6, e5, hf⟩ := mx_bind hf
  refine mG_cV (pc := 6) (k' := 0) (n' := 0) 10 [] [] C hX dX10_fill_6 lkV_X10_199 rfl rfl e4 (tX10_allItems hl e5) rfl rfl rfl rfl ?_
  refine mG_i2f (pc := 9) C dX10_fill_9 ?_
  refine mG_ldcf (pc := 10) C dX10_fill_10 w1594 ?_
  obtain ⟨v8, e9, hf⟩ := mx_bind hf
  refine mG_fdivv (pc := 12) C dX10_fill_12 e9 ?_
  cases hf
  exact mG_fr (pc := 13) C E hX dX10_fill_13 rfl
theorem dX10_errors_0 : decode cX10_errors 0 = .ok (.aload_n 0, 1) := by decide +kernel
theorem dX10_errors_1 : decode cX10_errors 1 = .ok (.iconst 0, 1) := by decide +kernel
theorem dX10_errors_2 : decode cX10_errors 2 = .ok (.putfield 61, 3) := by decide +kernel
theorem dX10_errors_5 : decode cX10_errors 5 = .ok (.iconst 0, 1) := by decide +kernel
theorem dX10_errors_6 : decode cX10_errors 6 = .ok (.istore_n 1, 1) := by decide +kernel
theorem dX10_errors_7 : decode cX10_errors 7 = .ok (.aload_n 0, 1) := by decide +kernel
theorem dX10_errors_8 : decode cX10_errors 8 = .ok (.invokevirtual 111, 3) := by decide +kernel
theorem dX10_errors_11 : decode cX10_errors 11 = .ok (.istore_n 2, 1) := by decide +kernel
theorem dX10_errors_12 : decode cX10_errors 12 = .ok (.iconst 1, 1) := by decide +kernel
theorem dX10_errors_13 : decode cX10_errors 13 = .ok (.istore_n 3, 1) := by decide +kernel
theorem dX10_errors_14 : decode cX10_errors 14 = .ok (.iload_n 3, 1) := by decide +kernel
theorem dX10_errors_15 : decode cX10_errors 15 = .ok (.bipush 20, 2) := by decide +kernel
theorem dX10_errors_17 : decode cX10_errors 17 = .ok (.if_icmp .gt 152, 3) := by decide +kernel
theorem dX10_errors_20 : decode cX10_errors 20 = .ok (.aload_n 0, 1) := by decide +kernel
theorem dX10_errors_21 : decode cX10_errors 21 = .ok (.iload_n 3, 1) := by decide +kernel
theorem dX10_errors_22 : decode cX10_errors 22 = .ok (.invokevirtual 190, 3) := by decide +kernel
theorem dX10_errors_25 : decode cX10_errors 25 = .ok (.istore 4, 2) := by decide +kernel
theorem dX10_errors_27 : decode cX10_errors 27 = .ok (.iload_n 3, 1) := by decide +kernel
theorem dX10_errors_28 : decode cX10_errors 28 = .ok (.aload_n 0, 1) := by decide +kernel
theorem dX10_errors_29 : decode cX10_errors 29 = .ok (.aload_n 0, 1) := by decide +kernel
theorem dX10_errors_30 : decode cX10_errors 30 = .ok (.getfield 19, 3) := by decide +kernel
theorem dX10_errors_33 : decode cX10_errors 33 = .ok (.iload 4, 2) := by decide +kernel
theorem dX10_errors_35 : decode cX10_errors 35 = .ok (.invokevirtual 114, 3) := by decide +kernel
theorem dX10_errors_38 : decode cX10_errors 38 = .ok (.invokestatic 134, 3) := by decide +kernel
theorem dX10_errors_41 : decode cX10_errors 41 = .ok (.istore 5, 2) := by decide +kernel
theorem dX10_errors_43 : decode cX10_errors 43 = .ok (.iload_n 3, 1) := by decide +kernel
theorem dX10_errors_44 : decode cX10_errors 44 = .ok (.aload_n 0, 1) := by decide +kernel
theorem dX10_errors_45 : decode cX10_errors 45 = .ok (.aload_n 0, 1) := by decide +kernel
theorem dX10_errors_46 : decode cX10_errors 46 = .ok (.getfield 22, 3) := by decide +kernel
theorem dX10_errors_49 : decode cX10_errors 49 = .ok (.bipush 20, 2) := by decide +kernel
theorem dX10_errors_51 : decode cX10_errors 51 = .ok (.invokevirtual 114, 3) := by decide +kernel
theorem dX10_errors_54 : decode cX10_errors 54 = .ok (.invokestatic 134, 3) := by decide +kernel
theorem dX10_errors_57 : decode cX10_errors 57 = .ok (.istore 6, 2) := by decide +kernel
theorem dX10_errors_59 : decode cX10_errors 59 = .ok (.iload 5, 2) := by decide +kernel
theorem dX10_errors_61 : decode cX10_errors 61 = .ok (.iload 6, 2) := by decide +kernel
theorem dX10_errors_63 : decode cX10_errors 63 = .ok (.if_icmp .ne 13, 3) := by decide +kernel
theorem dX10_errors_66 : decode cX10_errors 66 = .ok (.iload 4, 2) := by decide +kernel
theorem dX10_errors_68 : decode cX10_errors 68 = .ok (.iload_n 2, 1) := by decide +kernel
theorem dX10_errors_69 : decode cX10_errors 69 = .ok (.if_icmp .gt 7, 3) := by decide +kernel
theorem dX10_errors_72 : decode cX10_errors 72 = .ok (.iconst 1, 1) := by decide +kernel
theorem dX10_errors_73 : decode cX10_errors 73 = .ok (.goto 4, 3) := by decide +kernel
theorem dX10_errors_76 : decode cX10_errors 76 = .ok (.iconst 0, 1) := by decide +kernel
theorem dX10_errors_77 : decode cX10_errors 77 = .ok (.istore 7, 2) := by decide +kernel
theorem dX10_errors_79 : decode cX10_errors 79 = .ok (.iconst 0, 1) := by decide +kernel
theorem dX10_errors_80 : decode cX10_errors 80 = .ok (.istore 8, 2) := by decide +kernel
theorem dX10_errors_82 : decode cX10_errors 82 = .ok (.iload 8, 2) := by decide +kernel
theorem dX10_errors_84 : decode cX10_errors 84 = .ok (.iload 5, 2) := by decide +kernel
theorem dX10_errors_86 : decode cX10_errors 86 = .ok (.if_icmp .ge 46, 3) := by decide +kernel
theorem dX10_errors_89 : decode cX10_errors 89 = .ok (.iload 7, 2) := by decide +kernel
theorem dX10_errors_91 : decode cX10_errors 91 = .ok (.ifCond .eq 41, 3) := by decide +kernel
theorem dX10_errors_94 : decode cX10_errors 94 = .ok (.aload_n 0, 1) := by decide +kernel
theorem dX10_errors_95 : decode cX10_errors 95 = .ok (.aload_n 0, 1) := by decide +kernel
theorem dX10_errors_96 : decode cX10_errors 96 = .ok (.getfield 19, 3) := by decide +kernel
theorem dX10_errors_99 : decode cX10_errors 99 = .ok (.iload 8, 2) := by decide +kernel
theorem dX10_errors_101 : decode cX10_errors 101 = .ok (.iaload, 1) := by decide +kernel
theorem dX10_errors_102 : decode cX10_errors 102 = .ok (.invokevirtual 108, 3) := by decide +kernel
theorem dX10_errors_105 : decode cX10_errors 105 = .ok (.aload_n 0, 1) := by decide +kernel
theorem dX10_errors_106 : decode cX10_errors 106 = .ok (.aload_n 0, 1) := by decide +kernel
theorem dX10_errors_107 : decode cX10_errors 107 = .ok (.getfield 22, 3) := by decide +kernel
theorem dX10_errors_110 : decode cX10_errors 110 = .ok (.iload 8, 2) := by decide +kernel
theorem dX10_errors_112 : decode cX10_errors 112 = .ok (.iaload, 1) := by decide +kernel
theorem dX10_errors_113 : decode cX10_errors 113 = .ok (.invokevirtual 108, 3) := by decide +kernel
theorem dX10_errors_116 : decode cX10_errors 116 = .ok (.if_icmp .ne 7, 3) := by decide +kernel
theorem dX10_errors_119 : decode cX10_errors 119 = .ok (.iconst 1, 1) := by decide +kernel
theorem dX10_errors_120 : decode cX10_errors 120 = .ok (.goto 4, 3) := by decide +kernel
theorem dX10_errors_123 : decode cX10_errors 123 = .ok (.iconst 0, 1) := by decide +kernel
theorem dX10_errors_124 : decode cX10_errors 124 = .ok (.istore 7, 2) := by decide +kernel
theorem dX10_errors_126 : decode cX10_errors 126 = .ok (.iinc 8 1, 3) := by decide +kernel
theorem dX10_errors_129 : decode cX10_errors 129 = .ok (.goto (-47), 3) := by decide +kernel
theorem dX10_errors_132 : decode cX10_errors 132 = .ok (.iload_n 1, 1) := by decide +kernel
theorem dX10_errors_133 : decode cX10_errors 133 = .ok (.iload 7, 2) := by decide +kernel
theorem dX10_errors_135 : decode cX10_errors 135 = .ok (.ifCond .eq 7, 3) := by decide +kernel
theorem dX10_errors_138 : decode cX10_errors 138 = .ok (.iconst 0, 1) := by decide +kernel
theorem dX10_errors_139 : decode cX10_errors 139 = .ok (.goto 4, 3) := by decide +kernel
theorem dX10_errors_142 : decode cX10_errors 142 = .ok (.iconst 1, 1) := by decide +kernel
theorem dX10_errors_143 : decode cX10_errors 143 = .ok (.iadd, 1) := by decide +kernel
theorem dX10_errors_144 : decode cX10_errors 144 = .ok (.istore_n 1, 1) := by decide +kernel
theorem dX10_errors_145 : decode cX10_errors 145 = .ok (.iload_n 1, 1) := by decide +kernel
theorem dX10_errors_146 : decode cX10_errors 146 = .ok (.aload_n 0, 1) := by decide +kernel
theorem dX10_errors_147 : decode cX10_errors 147 = .ok (.iload_n 3, 1) := by decide +kernel
theorem dX10_errors_148 : decode cX10_errors 148 = .ok (.invokevirtual 196, 3) := by decide +kernel
theorem dX10_errors_151 : decode cX10_errors 151 = .ok (.iload 4, 2) := by decide +kernel
theorem dX10_errors_153 : decode cX10_errors 153 = .ok (.if_icmp .ge 7, 3) := by decide +kernel
theorem dX10_errors_156 : decode cX10_errors 156 = .ok (.iconst 1, 1) := by decide +kernel
theorem dX10_errors_157 : decode cX10_errors 157 = .ok (.goto 4, 3) := by decide +kernel
theorem dX10_errors_160 : decode cX10_errors 160 = .ok (.iconst 0, 1) := by decide +kernel
theorem dX10_errors_161 : decode cX10_errors 161 = .ok (.iadd, 1) := by decide +kernel
theorem dX10_errors_162 : decode cX10_errors 162 = .ok (.istore_n 1, 1) := by decide +kernel
theorem dX10_errors_163 : decode cX10_errors 163 = .ok (.iinc 3 1, 3) := by decide +kernel
theorem dX10_errors_166 : decode cX10_errors 166 = .ok (.goto (-152), 3) := by decide +kernel
theorem dX10_errors_169 : decode cX10_errors 169 = .ok (.aload_n 0, 1) := by decide +kernel
theorem dX10_errors_170 : decode cX10_errors 170 = .ok (.aload_n 0, 1) := by decide +kernel
theorem dX10_errors_171 : decode cX10_errors 171 = .ok (.getfield 25, 3) := by decide +kernel
theorem dX10_errors_174 : decode cX10_errors 174 = .ok (.iconst (-1), 1) := by decide +kernel
theorem dX10_errors_175 : decode cX10_errors 175 = .ok (.invokevirtual 140, 3) := by decide +kernel
theorem dX10_errors_178 : decode cX10_errors 178 = .ok (.istore_n 3, 1) := by decide +kernel
theorem dX10_errors_179 : decode cX10_errors 179 = .ok (.iconst 1, 1) := by decide +kernel
theorem dX10_errors_180 : decode cX10_errors 180 = .ok (.istore 4, 2) := by decide +kernel
theorem dX10_errors_182 : decode cX10_errors 182 = .ok (.iload 4, 2) := by decide +kernel
theorem dX10_errors_184 : decode cX10_errors 184 = .ok (.iload_n 3, 1) := by decide +kernel
theorem dX10_errors_185 : decode cX10_errors 185 = .ok (.if_icmp .ge 36, 3) := by decide +kernel
theorem dX10_errors_188 : decode cX10_errors 188 = .ok (.iload_n 1, 1) := by decide +kernel
theorem dX10_errors_189 : decode cX10_errors 189 = .ok (.aload_n 0, 1) := by decide +kernel
theorem dX10_errors_190 : decode cX10_errors 190 = .ok (.getfield 25, 3) := by decide +kernel
theorem dX10_errors_193 : decode cX10_errors 193 = .ok (.iload 4, 2) := by decide +kernel
theorem dX10_errors_195 : decode cX10_errors 195 = .ok (.iaload, 1) := by decide +kernel
theorem dX10_errors_196 : decode cX10_errors 196 = .ok (.aload_n 0, 1) := by decide +kernel
theorem dX10_errors_197 : decode cX10_errors 197 = .ok (.getfield 25, 3) := by decide +kernel
theorem dX10_errors_200 : decode cX10_errors 200 = .ok (.iload 4, 2) := by decide +kernel
theorem dX10_errors_202 : decode cX10_errors 202 = .ok (.iconst 1, 1) := by decide +kernel
theorem dX10_errors_203 : decode cX10_errors 203 = .ok (.isub, 1) := by decide +kernel
theorem dX10_errors_204 : decode cX10_errors 204 = .ok (.iaload, 1) := by decide +kernel
theorem dX10_errors_205 : decode cX10_errors 205 = .ok (.if_icmp .gt 7, 3) := by decide +kernel
theorem dX10_errors_208 : decode cX10_errors 208 = .ok (.iconst 1, 1) := by decide +kernel
theorem dX10_errors_209 : decode cX10_errors 209 = .ok (.goto 4, 3) := by decide +kernel
theorem dX10_errors_212 : decode cX10_errors 212 = .ok (.iconst 0, 1) := by decide +kernel
theorem dX10_errors_213 : decode cX10_errors 213 = .ok (.iadd, 1) := by decide +kernel
theorem dX10_errors_214 : decode cX10_errors 214 = .ok (.istore_n 1, 1) := by decide +kernel
theorem dX10_errors_215 : decode cX10_errors 215 = .ok (.iinc 4 1, 3) := by decide +kernel
theorem dX10_errors_218 : decode cX10_errors 218 = .ok (.goto (-36), 3) := by decide +kernel
theorem dX10_errors_221 : decode cX10_errors 221 = .ok (.iload_n 1, 1) := by decide +kernel
theorem dX10_errors_222 : decode cX10_errors 222 = .ok (.ireturn, 1) := by decide +kernel
def fX10_errors (p0 : Nat) (h : mxH) : Option (Int32 × mxH) := Option.bind (pI h p0 10 3 0) (fun h1 => Option.bind (isO h1 p0 10) (fun u3 => Option.bind (fX10_longest p0 h1) (fun v6 => Option.bind (mxLoop (ρ := (Int32 × mxH)) (fun s7 : (Int32 × Int32 × mxH) => (if 20 < s7.2.1 then some (Sum.inr (s7.1, s7.2.2)) else Option.bind (isO s7.2.2 p0 10) (fun u16 => Option.bind (fX10_stop p0 s7.2.1 s7.2.2) (fun o19 => Option.bind (gR o19.2 p0 10 5) (fun r20 => Option.bind (isO o19.2 p0 10) (fun u22 => Option.bind (fX10_ranks p0 r20 o19.1 o19.2) (fun o25 => Option.bind (gR o25.2 p0 10 6) (fun r26 => Option.bind (isO o25.2 p0 10) (fun u28 => Option.bind (fX10_ranks p0 r26 20 o25.2) (fun o31 => Option.bind (α := Int32) (if (mxMin s7.2.1 o25.1) = (mxMin s7.2.1 o31.1) then (if v6 < o19.1 then some 0 else some 1) else some 0) (fun p34' : Int32 => Option.bind (mxLoop (ρ := (Int32 × mxH)) (fun s37 : (Int32 × Int32 × mxH) => (if (mxMin s7.2.1 o25.1) ≤ s37.2.1 then some (Sum.inr (s37.1, s37.2.2)) else (if s37.1 = 0 then some (Sum.inr (s37.1, s37.2.2)) else Option.bind (gR s37.2.2 p0 10 5) (fun r47 => Option.bind (ldI s37.2.2 r47 s37.2.1) (fun v49 => Option.bind (isO s37.2.2 p0 10) (fun u51 => Option.bind (fX10_valueOf p0 v49 s37.2.2) (fun o54 => Option.bind (gR o54.2 p0 10 6) (fun r55 => Option.bind (ldI o54.2 r55 s37.2.1) (fun v57 => Option.bind (isO o54.2 p0 10) (fun u59 => Option.bind (fX10_valueOf p0 v57 o54.2) (fun o62 => Option.bind (α := Int32) (if o54.1 = o62.1 then some 1 else some 0) (fun p65' : Int32 => some (Sum.inl (p65', s37.2.1 + 1, o62.2)))))))))))))) mxF (p34', 0, o31.2)) (fun r68 : (Int32 × mxH) => Option.bind (α := Int32) (if r68.1 = 0 then some 1 else some 0) (fun p71' : Int32 => Option.bind (isO r68.2 p0 10) (fun u73 => Option.bind (fX10_plainStop p0 s7.2.1 r68.2) (fun o76 => Option.bind (α := Int32) (if o19.1 ≤ o76.1 then some 0 else some 1) (fun p79' : Int32 => some (Sum.inl ((s7.1 + p71') + p79', s7.2.1 + 1, o76.2)))))))))))))))))) mxF (0, 1, h1)) (fun r85 : (Int32 × mxH) => Option.bind (gR r85.2 p0 10 7) (fun r86 => Option.bind (isO r85.2 p0 10) (fun u88 => Option.bind (fX10_keysOf p0 r86 (-1) r85.2) (fun o91 => Option.bind (mxLoop (ρ := Int32) (fun s92 : (Int32 × Int32) => (if o91.1 ≤ s92.2 then some (Sum.inr s92.1) else Option.bind (gR o91.2 p0 10 7) (fun r101 => Option.bind (ldI o91.2 r101 s92.2) (fun v103 => Option.bind (gR o91.2 p0 10 7) (fun r105 => Option.bind (ldI o91.2 r105 (s92.2 - 1)) (fun v107 => Option.bind (α := Int32) (if v107 < v103 then some 0 else some 1) (fun p111' : Int32 => some (Sum.inl (s92.1 + p111', s92.2 + 1))))))))) mxF (r85.1, 1)) (fun r114 : Int32 => some (r114, o91.2)))))))))
abbrev rmX10_errors : Room := { frames := 7, cells := 0, slots := 0, locals := 159 }
set_option maxRecDepth 20000 in
theorem tX10_errors {l : Launch} {Z : mxZ} (hl : l.stackTraces = false) {p0 : Nat} {h : mxH} {out : (Int32 × mxH)} (hf : fX10_errors p0 h = some out) : mxMet l Z yX10_errors cX10_errors 9 (some .int) rmX10_errors [.ref p0] h (.inl (some (.int out.1))) out.2 := by
  refine mxMet_of (by decide) hl (by simp [Value.category]) (Nat.le_of_ble_eq_true rfl) ?_
  intro X C E hX hin
  unfold fX10_errors at hf
  refine mG_aload_n (pc := 0) C dX10_errors_0 rfl ?_
  refine mG_ic (pc := 1) C dX10_errors_1 kI0 ?_
  obtain ⟨h1, e2, hf⟩ := mx_bind hf
  refine mG_putI (pc := 2) C dX10_errors_2 fl_X10_61 e2 ?_
  refine mG_ic (pc := 5) C dX10_errors_5 kI0 ?_
  refine mG_isn (ls' := [some (.ref p0), some (.int 0), none, none, none, none, none, none, none]) (pc := 6) C dX10_errors_6 rfl rfl rfl ?_
  refine mG_aload_n (pc := 7) C dX10_errors_7 rfl ?_
  obtain ⟨u3, e4, hf⟩ := mx_bind hf
  obtain ⟨v6, e5, hf⟩ := mx_bind hf
  refine mG_cV (pc := 8) (k' := 0) (n' := 0) 10 [] [] C hX dX10_errors_8 lkV_X10_111 rfl rfl e4 (tX10_longest hl e5) rfl rfl rfl rfl ?_
  refine mG_isn (ls' := [some (.ref p0), some (.int 0), some (.int v6), none, none, none, none, none, none]) (pc := 11) C dX10_errors_11 rfl rfl rfl ?_
  refine mG_ic (pc := 12) C dX10_errors_12 kI1 ?_
  refine mG_isn (ls' := [some (.ref p0), some (.int 0), some (.int v6), some (.int 1), none, none, none, none, none]) (pc := 13) C dX10_errors_13 rfl rfl rfl ?_
  obtain ⟨r8, e9, hf⟩ := mx_bind hf
  have J10 : ∀ r85 : (Int32 × mxH), r85 = r8 → mG l Z X 9 0 0 169 [some (.ref p0), some (.int r85.1), none, none, none, none, none, none, none] [] r85.2 := by
    intro r85 q116
    subst q116
    refine mG_aload_n (pc := 169) C dX10_errors_169 rfl ?_
    refine mG_aload_n (pc := 170) C dX10_errors_170 rfl ?_
    obtain ⟨r86, e87, hf⟩ := mx_bind hf
    refine mG_getR (pc := 171) C dX10_errors_171 fl_X10_25 e87 ?_
    refine mG_ic (pc := 174) C dX10_errors_174 kIm1 ?_
    obtain ⟨u88, e89, hf⟩ := mx_bind hf
    obtain ⟨o91, e90, hf⟩ := mx_bind hf
    refine mG_cV (pc := 175) (k' := 0) (n' := 0) 10 [.ref r86, .int (-1)] [] C hX dX10_errors_175 lkV_X10_140 rfl rfl e89 (tX10_keysOf hl e90) rfl rfl rfl rfl ?_
    refine mG_isn (ls' := [some (.ref p0), some (.int r85.1), none, some (.int o91.1), none, none, none, none, none]) (pc := 178) C dX10_errors_178 rfl rfl rfl ?_
    refine mG_ic (pc := 179) C dX10_errors_179 kI1 ?_
    refine mG_is (ls' := [some (.ref p0), some (.int r85.1), none, some (.int o91.1), some (.int 1), none, none, none, none]) (pc := 180) C dX10_errors_180 rfl rfl rfl ?_
    obtain ⟨r93, e94, hf⟩ := mx_bind hf
    have J95 : ∀ r114 : Int32, r114 = r93 → mG l Z X 9 0 0 221 [none, some (.int r114), none, none, none, none, none, none, none] [] o91.2 := by
      intro r114 q115
      subst q115
      refine mG_iload_n (pc := 221) C dX10_errors_221 rfl ?_
      cases hf
      exact mG_ir (pc := 222) C E hX dX10_errors_222 rfl
    refine mG_sub (ls' := [some (.ref p0), some (.int r85.1), none, some (.int o91.1), some (.int 1), none, none, none, none]) (mxLe_s (mxLe_s (mxLe_n (mxLe_s (mxLe_s (mxLe_n (mxLe_n (mxLe_n (mxLe_n mxLe_z))))))))) (mxLoop_ind (K := fun s92 : (Int32 × Int32) => mG l Z X 9 0 0 182 [some (.ref p0), some (.int s92.1), none, some (.int o91.1), some (.int s92.2), none, none, none, none] [] o91.2) ?_ _ _ e94)
    intro s92 o98 e99 hK96 hx97
    refine mG_iload (pc := 182) C dX10_errors_182 rfl ?_
    refine mG_iload_n (pc := 184) C dX10_errors_184 rfl ?_
    refine mG_icmp_ge (pc := 185) (tgt := 221) C dX10_errors_185 (by decide) (fun q100 => ?_) (fun q100 => ?_)
    · rw [if_pos q100] at e99
      exact mG_sub (mxLe_n (mxLe_s (mxLe_n (mxLe_n (mxLe_n (mxLe_n (mxLe_n (mxLe_n (mxLe_n mxLe_z))))))))) (J95 _ (hx97 _ (Option.some.inj e99).symm))
    · rw [if_neg q100] at e99
      refine mG_iload_n (pc := 188) C dX10_errors_188 rfl ?_
      refine mG_aload_n (pc := 189) C dX10_errors_189 rfl ?_
      obtain ⟨r101, e102, e99⟩ := mx_bind e99
      refine mG_getR (pc := 190) C dX10_errors_190 fl_X10_25 e102 ?_
      refine mG_iload (pc := 193) C dX10_errors_193 rfl ?_
      obtain ⟨v103, e104, e99⟩ := mx_bind e99
      refine mG_iaload (pc := 195) C dX10_errors_195 e104 ?_
      refine mG_aload_n (pc := 196) C dX10_errors_196 rfl ?_
      obtain ⟨r105, e106, e99⟩ := mx_bind e99
      refine mG_getR (pc := 197) C dX10_errors_197 fl_X10_25 e106 ?_
      refine mG_iload (pc := 200) C dX10_errors_200 rfl ?_
      refine mG_ic (pc := 202) C dX10_errors_202 kI1 ?_
      refine mG_isub (pc := 203) C dX10_errors_203 ?_
      obtain ⟨v107, e108, e99⟩ := mx_bind e99
      refine mG_iaload (pc := 204) C dX10_errors_204 e108 ?_
      obtain ⟨p111, e112, e99⟩ := mx_bind e99
      have J110 : ∀ p111' : Int32, p111' = p111 → mG l Z X 9 0 0 213 [some (.ref p0), none, none, some (.int o91.1), some (.int s92.2), none, none, none, none] [.int p111', .int s92.1] o91.2 := by
        intro p111' q113
        subst q113
        refine mG_iadd (pc := 213) C dX10_errors_213 ?_
        refine mG_isn (ls' := [some (.ref p0), some (.int (s92.1 + p111')), none, some (.int o91.1), some (.int s92.2), none, none, none, none]) (pc := 214) C dX10_errors_214 rfl rfl rfl ?_
        refine mG_ii (ls' := [some (.ref p0), some (.int (s92.1 + p111')), none, some (.int o91.1), some (.int (s92.2 + 1)), none, none, none, none]) (pc := 215) C dX10_errors_215 rfl (kinc1 _) rfl rfl rfl ?_
        refine mG_goto (tgt := 182) (pc := 218) C dX10_errors_218 (by decide) ?_
        exact mG_sub (mxLe_s (mxLe_s (mxLe_n (mxLe_s (mxLe_s (mxLe_n (mxLe_n (mxLe_n (mxLe_n mxLe_z))))))))) (hK96 _ (Option.some.inj e99).symm)
      refine mG_icmp_gt (pc := 205) (tgt := 212) C dX10_errors_205 (by decide) (fun q109 => ?_) (fun q109 => ?_)
      · rw [if_pos q109] at e112
        refine mG_ic (pc := 212) C dX10_errors_212 kI0 ?_
        exact mG_sub (mxLe_s (mxLe_n (mxLe_n (mxLe_s (mxLe_s (mxLe_n (mxLe_n (mxLe_n (mxLe_n mxLe_z))))))))) (J110 _ (Option.some.inj e112))
      · rw [if_neg q109] at e112
        refine mG_ic (pc := 208) C dX10_errors_208 kI1 ?_
        refine mG_goto (tgt := 213) (pc := 209) C dX10_errors_209 (by decide) ?_
        exact mG_sub (mxLe_s (mxLe_n (mxLe_n (mxLe_s (mxLe_s (mxLe_n (mxLe_n (mxLe_n (mxLe_n mxLe_z))))))))) (J110 _ (Option.some.inj e112))
  refine mG_sub (ls' := [some (.ref p0), some (.int 0), some (.int v6), some (.int 1), none, none, none, none, none]) (mxLe_s (mxLe_s (mxLe_s (mxLe_s (mxLe_n (mxLe_n (mxLe_n (mxLe_n (mxLe_n mxLe_z))))))))) (mxLoop_ind (K := fun s7 : (Int32 × Int32 × mxH) => mG l Z X 9 0 0 14 [some (.ref p0), some (.int s7.1), some (.int v6), some (.int s7.2.1), none, none, none, none, none] [] s7.2.2) ?_ _ _ e9)
  intro s7 o13 e14 hK11 hx12
  refine mG_iload_n (pc := 14) C dX10_errors_14 rfl ?_
  refine mG_bp (pc := 15) C dX10_errors_15 kB20 ?_
  refine mG_icmp_gt (pc := 17) (tgt := 169) C dX10_errors_17 (by decide) (fun q15 => ?_) (fun q15 => ?_)
  · rw [if_pos q15] at e14
    exact mG_sub (mxLe_s (mxLe_s (mxLe_n (mxLe_n (mxLe_n (mxLe_n (mxLe_n (mxLe_n (mxLe_n mxLe_z))))))))) (J10 _ (hx12 _ (Option.some.inj e14).symm))
  · rw [if_neg q15] at e14
    refine mG_aload_n (pc := 20) C dX10_errors_20 rfl ?_
    refine mG_iload_n (pc := 21) C dX10_errors_21 rfl ?_
    obtain ⟨u16, e17, e14⟩ := mx_bind e14
    obtain ⟨o19, e18, e14⟩ := mx_bind e14
    refine mG_cV (pc := 22) (k' := 0) (n' := 0) 10 [.int s7.2.1] [] C hX dX10_errors_22 lkV_X10_190 rfl rfl e17 (tX10_stop hl e18) rfl rfl rfl rfl ?_
    refine mG_is (ls' := [some (.ref p0), some (.int s7.1), some (.int v6), some (.int s7.2.1), some (.int o19.1), none, none, none, none]) (pc := 25) C dX10_errors_25 rfl rfl rfl ?_
    refine mG_iload_n (pc := 27) C dX10_errors_27 rfl ?_
    refine mG_aload_n (pc := 28) C dX10_errors_28 rfl ?_
    refine mG_aload_n (pc := 29) C dX10_errors_29 rfl ?_
    obtain ⟨r20, e21, e14⟩ := mx_bind e14
    refine mG_getR (pc := 30) C dX10_errors_30 fl_X10_19 e21 ?_
    refine mG_iload (pc := 33) C dX10_errors_33 rfl ?_
    obtain ⟨u22, e23, e14⟩ := mx_bind e14
    obtain ⟨o25, e24, e14⟩ := mx_bind e14
    refine mG_cV (pc := 35) (k' := 0) (n' := 0) 10 [.ref r20, .int o19.1] [.int s7.2.1] C hX dX10_errors_35 lkV_X10_114 rfl rfl e23 (tX10_ranks hl e24) rfl rfl rfl rfl ?_
    refine mG_mn (pc := 38) C hX dX10_errors_38 w1382 wmin rfl rfl ?_
    refine mG_is (ls' := [some (.ref p0), some (.int s7.1), some (.int v6), some (.int s7.2.1), some (.int o19.1), some (.int (mxMin s7.2.1 o25.1)), none, none, none]) (pc := 41) C dX10_errors_41 rfl rfl rfl ?_
    refine mG_iload_n (pc := 43) C dX10_errors_43 rfl ?_
    refine mG_aload_n (pc := 44) C dX10_errors_44 rfl ?_
    refine mG_aload_n (pc := 45) C dX10_errors_45 rfl ?_
    obtain ⟨r26, e27, e14⟩ := mx_bind e14
    refine mG_getR (pc := 46) C dX10_errors_46 fl_X10_22 e27 ?_
    refine mG_bp (pc := 49) C dX10_errors_49 kB20 ?_
    obtain ⟨u28, e29, e14⟩ := mx_bind e14
    obtain ⟨o31, e30, e14⟩ := mx_bind e14
    refine mG_cV (pc := 51) (k' := 0) (n' := 0) 10 [.ref r26, .int 20] [.int s7.2.1] C hX dX10_errors_51 lkV_X10_114 rfl rfl e29 (tX10_ranks hl e30) rfl rfl rfl rfl ?_
    refine mG_mn (pc := 54) C hX dX10_errors_54 w1382 wmin rfl rfl ?_
    refine mG_is (ls' := [some (.ref p0), some (.int s7.1), some (.int v6), some (.int s7.2.1), some (.int o19.1), some (.int (mxMin s7.2.1 o25.1)), some (.int (mxMin s7.2.1 o31.1)), none, none]) (pc := 57) C dX10_errors_57 rfl rfl rfl ?_
    refine mG_iload (pc := 59) C dX10_errors_59 rfl ?_
    refine mG_iload (pc := 61) C dX10_errors_61 rfl ?_
    obtain ⟨p34, e35, e14⟩ := mx_bind e14
    have J33 : ∀ p34' : Int32, p34' = p34 → mG l Z X 9 0 0 77 [some (.ref p0), some (.int s7.1), some (.int v6), some (.int s7.2.1), some (.int o19.1), some (.int (mxMin s7.2.1 o25.1)), none, none, none] [.int p34'] o31.2 := by
      intro p34' q84
      subst q84
      refine mG_is (ls' := [some (.ref p0), some (.int s7.1), some (.int v6), some (.int s7.2.1), some (.int o19.1), some (.int (mxMin s7.2.1 o25.1)), none, some (.int p34'), none]) (pc := 77) C dX10_errors_77 rfl rfl rfl ?_
      refine mG_ic (pc := 79) C dX10_errors_79 kI0 ?_
      refine mG_is (ls' := [some (.ref p0), some (.int s7.1), some (.int v6), some (.int s7.2.1), some (.int o19.1), some (.int (mxMin s7.2.1 o25.1)), none, some (.int p34'), some (.int 0)]) (pc := 80) C dX10_errors_80 rfl rfl rfl ?_
      obtain ⟨r38, e39, e14⟩ := mx_bind e14
      have J40 : ∀ r68 : (Int32 × mxH), r68 = r38 → mG l Z X 9 0 0 132 [some (.ref p0), some (.int s7.1), some (.int v6), some (.int s7.2.1), some (.int o19.1), none, none, some (.int r68.1), none] [] r68.2 := by
        intro r68 q83
        subst q83
        refine mG_iload_n (pc := 132) C dX10_errors_132 rfl ?_
        refine mG_iload (pc := 133) C dX10_errors_133 rfl ?_
        obtain ⟨p71, e72, e14⟩ := mx_bind e14
        have J70 : ∀ p71' : Int32, p71' = p71 → mG l Z X 9 0 0 143 [some (.ref p0), none, some (.int v6), some (.int s7.2.1), some (.int o19.1), none, none, none, none] [.int p71', .int s7.1] r68.2 := by
          intro p71' q82
          subst q82
          refine mG_iadd (pc := 143) C dX10_errors_143 ?_
          refine mG_isn (ls' := [some (.ref p0), some (.int (s7.1 + p71')), some (.int v6), some (.int s7.2.1), some (.int o19.1), none, none, none, none]) (pc := 144) C dX10_errors_144 rfl rfl rfl ?_
          refine mG_iload_n (pc := 145) C dX10_errors_145 rfl ?_
          refine mG_aload_n (pc := 146) C dX10_errors_146 rfl ?_
          refine mG_iload_n (pc := 147) C dX10_errors_147 rfl ?_
          obtain ⟨u73, e74, e14⟩ := mx_bind e14
          obtain ⟨o76, e75, e14⟩ := mx_bind e14
          refine mG_cV (pc := 148) (k' := 0) (n' := 0) 10 [.int s7.2.1] [.int (s7.1 + p71')] C hX dX10_errors_148 lkV_X10_196 rfl rfl e74 (tX10_plainStop hl e75) rfl rfl rfl rfl ?_
          refine mG_iload (pc := 151) C dX10_errors_151 rfl ?_
          obtain ⟨p79, e80, e14⟩ := mx_bind e14
          have J78 : ∀ p79' : Int32, p79' = p79 → mG l Z X 9 0 0 161 [some (.ref p0), none, some (.int v6), some (.int s7.2.1), none, none, none, none, none] [.int p79', .int (s7.1 + p71')] o76.2 := by
            intro p79' q81
            subst q81
            refine mG_iadd (pc := 161) C dX10_errors_161 ?_
            refine mG_isn (ls' := [some (.ref p0), some (.int ((s7.1 + p71') + p79')), some (.int v6), some (.int s7.2.1), none, none, none, none, none]) (pc := 162) C dX10_errors_162 rfl rfl rfl ?_
            refine mG_ii (ls' := [some (.ref p0), some (.int ((s7.1 + p71') + p79')), some (.int v6), some (.int (s7.2.1 + 1)), none, none, none, none, none]) (pc := 163) C dX10_errors_163 rfl (kinc1 _) rfl rfl rfl ?_
            refine mG_goto (tgt := 14) (pc := 166) C dX10_errors_166 (by decide) ?_
            exact mG_sub (mxLe_s (mxLe_s (mxLe_s (mxLe_s (mxLe_n (mxLe_n (mxLe_n (mxLe_n (mxLe_n mxLe_z))))))))) (hK11 _ (Option.some.inj e14).symm)
          refine mG_icmp_ge (pc := 153) (tgt := 160) C dX10_errors_153 (by decide) (fun q77 => ?_) (fun q77 => ?_)
          · rw [if_pos q77] at e80
            refine mG_ic (pc := 160) C dX10_errors_160 kI0 ?_
            exact mG_sub (mxLe_s (mxLe_n (mxLe_s (mxLe_s (mxLe_n (mxLe_n (mxLe_n (mxLe_n (mxLe_n mxLe_z))))))))) (J78 _ (Option.some.inj e80))
          · rw [if_neg q77] at e80
            refine mG_ic (pc := 156) C dX10_errors_156 kI1 ?_
            refine mG_goto (tgt := 161) (pc := 157) C dX10_errors_157 (by decide) ?_
            exact mG_sub (mxLe_s (mxLe_n (mxLe_s (mxLe_s (mxLe_n (mxLe_n (mxLe_n (mxLe_n (mxLe_n mxLe_z))))))))) (J78 _ (Option.some.inj e80))
        refine mG_if_eq (pc := 135) (tgt := 142) C dX10_errors_135 (by decide) (fun q69 => ?_) (fun q69 => ?_)
        · rw [if_pos q69] at e72
          refine mG_ic (pc := 142) C dX10_errors_142 kI1 ?_
          exact mG_sub (mxLe_s (mxLe_n (mxLe_s (mxLe_s (mxLe_s (mxLe_n (mxLe_n (mxLe_n (mxLe_n mxLe_z))))))))) (J70 _ (Option.some.inj e72))
        · rw [if_neg q69] at e72
          refine mG_ic (pc := 138) C dX10_errors_138 kI0 ?_
          refine mG_goto (tgt := 143) (pc := 139) C dX10_errors_139 (by decide) ?_
          exact mG_sub (mxLe_s (mxLe_n (mxLe_s (mxLe_s (mxLe_s (mxLe_n (mxLe_n (mxLe_n (mxLe_n mxLe_z))))))))) (J70 _ (Option.some.inj e72))
      refine mG_sub (ls' := [some (.ref p0), some (.int s7.1), some (.int v6), some (.int s7.2.1), some (.int o19.1), some (.int (mxMin s7.2.1 o25.1)), none, some (.int p34'), some (.int 0)]) (mxLe_s (mxLe_s (mxLe_s (mxLe_s (mxLe_s (mxLe_s (mxLe_n (mxLe_s (mxLe_s mxLe_z))))))))) (mxLoop_ind (K := fun s37 : (Int32 × Int32 × mxH) => mG l Z X 9 0 0 82 [some (.ref p0), some (.int s7.1), some (.int v6), some (.int s7.2.1), some (.int o19.1), some (.int (mxMin s7.2.1 o25.1)), none, some (.int s37.1), some (.int s37.2.1)] [] s37.2.2) ?_ _ _ e39)
      intro s37 o43 e44 hK41 hx42
      refine mG_iload (pc := 82) C dX10_errors_82 rfl ?_
      refine mG_iload (pc := 84) C dX10_errors_84 rfl ?_
      refine mG_icmp_ge (pc := 86) (tgt := 132) C dX10_errors_86 (by decide) (fun q45 => ?_) (fun q45 => ?_)
      · rw [if_pos q45] at e44
        exact mG_sub (mxLe_s (mxLe_s (mxLe_s (mxLe_s (mxLe_s (mxLe_n (mxLe_n (mxLe_s (mxLe_n mxLe_z))))))))) (J40 _ (hx42 _ (Option.some.inj e44).symm))
      · rw [if_neg q45] at e44
        refine mG_iload (pc := 89) C dX10_errors_89 rfl ?_
        refine mG_if_eq (pc := 91) (tgt := 132) C dX10_errors_91 (by decide) (fun q46 => ?_) (fun q46 => ?_)
        · rw [if_pos q46] at e44
          exact mG_sub (mxLe_s (mxLe_s (mxLe_s (mxLe_s (mxLe_s (mxLe_n (mxLe_n (mxLe_s (mxLe_n mxLe_z))))))))) (J40 _ (hx42 _ (Option.some.inj e44).symm))
        · rw [if_neg q46] at e44
          refine mG_aload_n (pc := 94) C dX10_errors_94 rfl ?_
          refine mG_aload_n (pc := 95) C dX10_errors_95 rfl ?_
          obtain ⟨r47, e48, e44⟩ := mx_bind e44
          refine mG_getR (pc := 96) C dX10_errors_96 fl_X10_19 e48 ?_
          refine mG_iload (pc := 99) C dX10_errors_99 rfl ?_
          obtain ⟨v49, e50, e44⟩ := mx_bind e44
          refine mG_iaload (pc := 101) C dX10_errors_101 e50 ?_
          obtain ⟨u51, e52, e44⟩ := mx_bind e44
          obtain ⟨o54, e53, e44⟩ := mx_bind e44
          refine mG_cV (pc := 102) (k' := 0) (n' := 0) 10 [.int v49] [] C hX dX10_errors_102 lkV_X10_108 rfl rfl e52 (tX10_valueOf hl e53) rfl rfl rfl rfl ?_
          refine mG_aload_n (pc := 105) C dX10_errors_105 rfl ?_
          refine mG_aload_n (pc := 106) C dX10_errors_106 rfl ?_
          obtain ⟨r55, e56, e44⟩ := mx_bind e44
          refine mG_getR (pc := 107) C dX10_errors_107 fl_X10_22 e56 ?_
          refine mG_iload (pc := 110) C dX10_errors_110 rfl ?_
          obtain ⟨v57, e58, e44⟩ := mx_bind e44
          refine mG_iaload (pc := 112) C dX10_errors_112 e58 ?_
          obtain ⟨u59, e60, e44⟩ := mx_bind e44
          obtain ⟨o62, e61, e44⟩ := mx_bind e44
          refine mG_cV (pc := 113) (k' := 0) (n' := 0) 10 [.int v57] [.int o54.1] C hX dX10_errors_113 lkV_X10_108 rfl rfl e60 (tX10_valueOf hl e61) rfl rfl rfl rfl ?_
          obtain ⟨p65, e66, e44⟩ := mx_bind e44
          have J64 : ∀ p65' : Int32, p65' = p65 → mG l Z X 9 0 0 124 [some (.ref p0), some (.int s7.1), some (.int v6), some (.int s7.2.1), some (.int o19.1), some (.int (mxMin s7.2.1 o25.1)), none, none, some (.int s37.2.1)] [.int p65'] o62.2 := by
            intro p65' q67
            subst q67
            refine mG_is (ls' := [some (.ref p0), some (.int s7.1), some (.int v6), some (.int s7.2.1), some (.int o19.1), some (.int (mxMin s7.2.1 o25.1)), none, some (.int p65'), some (.int s37.2.1)]) (pc := 124) C dX10_errors_124 rfl rfl rfl ?_
            refine mG_ii (ls' := [some (.ref p0), some (.int s7.1), some (.int v6), some (.int s7.2.1), some (.int o19.1), some (.int (mxMin s7.2.1 o25.1)), none, some (.int p65'), some (.int (s37.2.1 + 1))]) (pc := 126) C dX10_errors_126 rfl (kinc1 _) rfl rfl rfl ?_
            refine mG_goto (tgt := 82) (pc := 129) C dX10_errors_129 (by decide) ?_
            exact mG_sub (mxLe_s (mxLe_s (mxLe_s (mxLe_s (mxLe_s (mxLe_s (mxLe_n (mxLe_s (mxLe_s mxLe_z))))))))) (hK41 _ (Option.some.inj e44).symm)
          refine mG_icmp_ne (pc := 116) (tgt := 123) C dX10_errors_116 (by decide) (fun q63 => ?_) (fun q63 => ?_)
          · rw [if_neg q63] at e66
            refine mG_ic (pc := 123) C dX10_errors_123 kI0 ?_
            exact mG_sub (mxLe_s (mxLe_s (mxLe_s (mxLe_s (mxLe_s (mxLe_s (mxLe_n (mxLe_n (mxLe_s mxLe_z))))))))) (J64 _ (Option.some.inj e66))
          · rw [if_pos q63] at e66
            refine mG_ic (pc := 119) C dX10_errors_119 kI1 ?_
            refine mG_goto (tgt := 124) (pc := 120) C dX10_errors_120 (by decide) ?_
            exact mG_sub (mxLe_s (mxLe_s (mxLe_s (mxLe_s (mxLe_s (mxLe_s (mxLe_n (mxLe_n (mxLe_s mxLe_z))))))))) (J64 _ (Option.some.inj e66))
    refine mG_icmp_ne (pc := 63) (tgt := 76) C dX10_errors_63 (by decide) (fun q32 => ?_) (fun q32 => ?_)
    · rw [if_neg q32] at e35
      refine mG_ic (pc := 76) C dX10_errors_76 kI0 ?_
      exact mG_sub (mxLe_s (mxLe_s (mxLe_s (mxLe_s (mxLe_s (mxLe_s (mxLe_n (mxLe_n (mxLe_n mxLe_z))))))))) (J33 _ (Option.some.inj e35))
    · rw [if_pos q32] at e35
      refine mG_iload (pc := 66) C dX10_errors_66 rfl ?_
      refine mG_iload_n (pc := 68) C dX10_errors_68 rfl ?_
      refine mG_icmp_gt (pc := 69) (tgt := 76) C dX10_errors_69 (by decide) (fun q36 => ?_) (fun q36 => ?_)
      · rw [if_pos q36] at e35
        refine mG_ic (pc := 76) C dX10_errors_76 kI0 ?_
        exact mG_sub (mxLe_s (mxLe_s (mxLe_s (mxLe_s (mxLe_s (mxLe_s (mxLe_n (mxLe_n (mxLe_n mxLe_z))))))))) (J33 _ (Option.some.inj e35))
      · rw [if_neg q36] at e35
        refine mG_ic (pc := 72) C dX10_errors_72 kI1 ?_
        refine mG_goto (tgt := 77) (pc := 73) C dX10_errors_73 (by decide) ?_
        exact mG_sub (mxLe_s (mxLe_s (mxLe_s (mxLe_s (mxLe_s (mxLe_s (mxLe_n (mxLe_n (mxLe_n mxLe_z))))))))) (J33 _ (Option.some.inj e35))
