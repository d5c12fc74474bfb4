/-! printed by wip/gen/emit.py: for each method its function on the mini machine, and that the machine walks as the function says -/
theorem dX10_setRule_0 : decode cX10_setRule 0 = .ok (.aload_n 0, 1) := by decide +kernel
theorem dX10_setRule_1 : decode cX10_setRule 1 = .ok (.iconst 0, 1) := by decide +kernel
theorem dX10_setRule_2 : decode cX10_setRule 2 = .ok (.putfield 61, 3) := by decide +kernel
theorem dX10_setRule_5 : decode cX10_setRule 5 = .ok (.iload_n 1, 1) := by decide +kernel
theorem dX10_setRule_6 : decode cX10_setRule 6 = .ok (.iconst 0, 1) := by decide +kernel
theorem dX10_setRule_7 : decode cX10_setRule 7 = .ok (.iconst 2, 1) := by decide +kernel
theorem dX10_setRule_8 : decode cX10_setRule 8 = .ok (.invokestatic 65, 3) := by decide +kernel
theorem dX10_setRule_11 : decode cX10_setRule 11 = .ok (.ifCond .ne 9, 3) := by decide +kernel
theorem dX10_setRule_14 : decode cX10_setRule 14 = .ok (.aload_n 0, 1) := by decide +kernel
theorem dX10_setRule_15 : decode cX10_setRule 15 = .ok (.iconst 1, 1) := by decide +kernel
theorem dX10_setRule_16 : decode cX10_setRule 16 = .ok (.invokevirtual 178, 3) := by decide +kernel
theorem dX10_setRule_19 : decode cX10_setRule 19 = .ok (.ireturn, 1) := by decide +kernel
theorem dX10_setRule_20 : decode cX10_setRule 20 = .ok (.aload_n 0, 1) := by decide +kernel
theorem dX10_setRule_21 : decode cX10_setRule 21 = .ok (.invokevirtual 181, 3) := by decide +kernel
theorem dX10_setRule_24 : decode cX10_setRule 24 = .ok (.aload_n 0, 1) := by decide +kernel
theorem dX10_setRule_25 : decode cX10_setRule 25 = .ok (.getfield 9, 3) := by decide +kernel
theorem dX10_setRule_28 : decode cX10_setRule 28 = .ok (.bipush 105, 2) := by decide +kernel
theorem dX10_setRule_30 : decode cX10_setRule 30 = .ok (.iaload, 1) := by decide +kernel
theorem dX10_setRule_31 : decode cX10_setRule 31 = .ok (.istore_n 2, 1) := by decide +kernel
theorem dX10_setRule_32 : decode cX10_setRule 32 = .ok (.aload_n 0, 1) := by decide +kernel
theorem dX10_setRule_33 : decode cX10_setRule 33 = .ok (.getfield 9, 3) := by decide +kernel
theorem dX10_setRule_36 : decode cX10_setRule 36 = .ok (.bipush 105, 2) := by decide +kernel
theorem dX10_setRule_38 : decode cX10_setRule 38 = .ok (.iload_n 1, 1) := by decide +kernel
theorem dX10_setRule_39 : decode cX10_setRule 39 = .ok (.iastore, 1) := by decide +kernel
theorem dX10_setRule_40 : decode cX10_setRule 40 = .ok (.iload_n 2, 1) := by decide +kernel
theorem dX10_setRule_41 : decode cX10_setRule 41 = .ok (.ireturn, 1) := by decide +kernel
def fX10_setRule (p0 : Nat) (p1 : Int32) (h : mxH) : Option (Int32 × mxH) := Option.bind (pI h p0 10 3 0) (fun h1 => Option.bind (fX10_in p1 0 2 h1) (fun v4 => (if v4 = 0 then Option.bind (isO h1 p0 10) (fun u18 => Option.bind (fX10_fails p0 1 h1) (fun o21 => some (o21.1, o21.2))) else Option.bind (isO h1 p0 10) (fun u6 => Option.bind (fX10_keeps p0 h1) (fun o9 => Option.bind (gR o9 p0 10 0) (fun r10 => Option.bind (ldI o9 r10 105) (fun v12 => Option.bind (gR o9 p0 10 0) (fun r14 => Option.bind (stI o9 r14 105 p1) (fun h16 => some (v12, h16))))))))))
abbrev rmX10_setRule : Room := { frames := 2, cells := 0, slots := 0, locals := 61 }
set_option maxRecDepth 20000 in
theorem tX10_setRule {l : Launch} {Z : mxZ} (hl : l.stackTraces = false) {p0 : Nat} {p1 : Int32} {h : mxH} {out : (Int32 × mxH)} (hf : fX10_setRule p0 p1 h = some out) : mxMet l Z yX10_setRule cX10_setRule 3 (some .int) rmX10_setRule [.ref p0, .int p1] h (.inl (some (.int out.1))) out.2 := by
  refine mxMet_of (by decide) hl (by simp [Value.category]) (Nat.le_of_ble_eq_true rfl) ?_
  intro X C E hX hin
  unfold fX10_setRule at hf
  refine mG_aload_n (pc := 0) C dX10_setRule_0 rfl ?_
  refine mG_ic (pc := 1) C dX10_setRule_1 kI0 ?_
  obtain ⟨h1, e2, hf⟩ := mx_bind hf
  refine mG_putI (pc := 2) C dX10_setRule_2 fl_X10_61 e2 ?_
  refine mG_iload_n (pc := 5) C dX10_setRule_5 rfl ?_
  refine mG_ic (pc := 6) C dX10_setRule_6 kI0 ?_
  refine mG_ic (pc := 7) C dX10_setRule_7 kI2 ?_
  obtain ⟨v4, e3, hf⟩ := mx_bind hf
  refine mG_cS (pc := 8) (k' := 0) (n' := 0) [.int p1, .int 0, .int 2] [] C hX dX10_setRule_8 lkS_X10_65 rfl (tX10_in hl e3) rfl rfl rfl rfl ?_
  refine mG_if_ne (pc := 11) (tgt := 20) C dX10_setRule_11 (by decide) (fun q5 => ?_) (fun q5 => ?_)
  · rw [if_neg q5] at hf
    refine mG_aload_n (pc := 20) C dX10_setRule_20 rfl ?_
    obtain ⟨u6, e7, hf⟩ := mx_bind hf
    obtain ⟨o9, e8, hf⟩ := mx_bind hf
    refine mG_cV (pc := 21) (k' := 0) (n' := 0) 10 [] [] C hX dX10_setRule_21 lkV_X10_181 rfl rfl e7 (tX10_keeps hl e8) rfl rfl rfl rfl ?_
    refine mG_aload_n (pc := 24) C dX10_setRule_24 rfl ?_
    obtain ⟨r10, e11, hf⟩ := mx_bind hf
    refine mG_getR (pc := 25) C dX10_setRule_25 fl_X10_9 e11 ?_
    refine mG_bp (pc := 28) C dX10_setRule_28 kB105 ?_
    obtain ⟨v12, e13, hf⟩ := mx_bind hf
    refine mG_iaload (pc := 30) C dX10_setRule_30 e13 ?_
    refine mG_isn (ls' := [some (.ref p0), some (.int p1), some (.int v12)]) (pc := 31) C dX10_setRule_31 rfl rfl rfl ?_
    refine mG_aload_n (pc := 32) C dX10_setRule_32 rfl ?_
    obtain ⟨r14, e15, hf⟩ := mx_bind hf
    refine mG_getR (pc := 33) C dX10_setRule_33 fl_X10_9 e15 ?_
    refine mG_bp (pc := 36) C dX10_setRule_36 kB105 ?_
    refine mG_iload_n (pc := 38) C dX10_setRule_38 rfl ?_
    obtain ⟨h16, e17, hf⟩ := mx_bind hf
    refine mG_iastore (pc := 39) C dX10_setRule_39 e17 ?_
    refine mG_iload_n (pc := 40) C dX10_setRule_40 rfl ?_
    cases hf
    exact mG_ir (pc := 41) C E hX dX10_setRule_41 rfl
  · rw [if_pos q5] at hf
    refine mG_aload_n (pc := 14) C dX10_setRule_14 rfl ?_
    refine mG_ic (pc := 15) C dX10_setRule_15 kI1 ?_
    obtain ⟨u18, e19, hf⟩ := mx_bind hf
    obtain ⟨o21, e20, hf⟩ := mx_bind hf
    refine mG_cV (pc := 16) (k' := 0) (n' := 0) 10 [.int 1] [] C hX dX10_setRule_16 lkV_X10_178 rfl rfl e19 (tX10_fails hl e20) rfl rfl rfl rfl ?_
    cases hf
    exact mG_ir (pc := 19) C E hX dX10_setRule_19 rfl
theorem dX10_setCosts_0 : decode cX10_setCosts 0 = .ok (.aload_n 0, 1) := by decide +kernel
theorem dX10_setCosts_1 : decode cX10_setCosts 1 = .ok (.iconst 0, 1) := by decide +kernel
theorem dX10_setCosts_2 : decode cX10_setCosts 2 = .ok (.putfield 61, 3) := by decide +kernel
theorem dX10_setCosts_5 : decode cX10_setCosts 5 = .ok (.iload_n 1, 1) := by decide +kernel
theorem dX10_setCosts_6 : decode cX10_setCosts 6 = .ok (.iconst 0, 1) := by decide +kernel
theorem dX10_setCosts_7 : decode cX10_setCosts 7 = .ok (.bipush 99, 2) := by decide +kernel
theorem dX10_setCosts_9 : decode cX10_setCosts 9 = .ok (.invokestatic 65, 3) := by decide +kernel
theorem dX10_setCosts_12 : decode cX10_setCosts 12 = .ok (.ifCond .eq 13, 3) := by decide +kernel
theorem dX10_setCosts_15 : decode cX10_setCosts 15 = .ok (.iload_n 2, 1) := by decide +kernel
theorem dX10_setCosts_16 : decode cX10_setCosts 16 = .ok (.iconst 0, 1) := by decide +kernel
theorem dX10_setCosts_17 : decode cX10_setCosts 17 = .ok (.bipush 99, 2) := by decide +kernel
theorem dX10_setCosts_19 : decode cX10_setCosts 19 = .ok (.invokestatic 65, 3) := by decide +kernel
theorem dX10_setCosts_22 : decode cX10_setCosts 22 = .ok (.ifCond .ne 9, 3) := by decide +kernel
theorem dX10_setCosts_25 : decode cX10_setCosts 25 = .ok (.aload_n 0, 1) := by decide +kernel
theorem dX10_setCosts_26 : decode cX10_setCosts 26 = .ok (.iconst 1, 1) := by decide +kernel
theorem dX10_setCosts_27 : decode cX10_setCosts 27 = .ok (.invokevirtual 178, 3) := by decide +kernel
theorem dX10_setCosts_30 : decode cX10_setCosts 30 = .ok (.ireturn, 1) := by decide +kernel
theorem dX10_setCosts_31 : decode cX10_setCosts 31 = .ok (.aload_n 0, 1) := by decide +kernel
theorem dX10_setCosts_32 : decode cX10_setCosts 32 = .ok (.invokevirtual 181, 3) := by decide +kernel
theorem dX10_setCosts_35 : decode cX10_setCosts 35 = .ok (.bipush 100, 2) := by decide +kernel
theorem dX10_setCosts_37 : decode cX10_setCosts 37 = .ok (.aload_n 0, 1) := by decide +kernel
theorem dX10_setCosts_38 : decode cX10_setCosts 38 = .ok (.getfield 9, 3) := by decide +kernel
theorem dX10_setCosts_41 : decode cX10_setCosts 41 = .ok (.bipush 106, 2) := by decide +kernel
theorem dX10_setCosts_43 : decode cX10_setCosts 43 = .ok (.iaload, 1) := by decide +kernel
theorem dX10_setCosts_44 : decode cX10_setCosts 44 = .ok (.imul, 1) := by decide +kernel
theorem dX10_setCosts_45 : decode cX10_setCosts 45 = .ok (.aload_n 0, 1) := by decide +kernel
theorem dX10_setCosts_46 : decode cX10_setCosts 46 = .ok (.getfield 9, 3) := by decide +kernel
theorem dX10_setCosts_49 : decode cX10_setCosts 49 = .ok (.bipush 107, 2) := by decide +kernel
theorem dX10_setCosts_51 : decode cX10_setCosts 51 = .ok (.iaload, 1) := by decide +kernel
theorem dX10_setCosts_52 : decode cX10_setCosts 52 = .ok (.iadd, 1) := by decide +kernel
theorem dX10_setCosts_53 : decode cX10_setCosts 53 = .ok (.istore_n 3, 1) := by decide +kernel
theorem dX10_setCosts_54 : decode cX10_setCosts 54 = .ok (.aload_n 0, 1) := by decide +kernel
theorem dX10_setCosts_55 : decode cX10_setCosts 55 = .ok (.getfield 9, 3) := by decide +kernel
theorem dX10_setCosts_58 : decode cX10_setCosts 58 = .ok (.bipush 106, 2) := by decide +kernel
theorem dX10_setCosts_60 : decode cX10_setCosts 60 = .ok (.iload_n 1, 1) := by decide +kernel
theorem dX10_setCosts_61 : decode cX10_setCosts 61 = .ok (.iastore, 1) := by decide +kernel
theorem dX10_setCosts_62 : decode cX10_setCosts 62 = .ok (.aload_n 0, 1) := by decide +kernel
theorem dX10_setCosts_63 : decode cX10_setCosts 63 = .ok (.getfield 9, 3) := by decide +kernel
theorem dX10_setCosts_66 : decode cX10_setCosts 66 = .ok (.bipush 107, 2) := by decide +kernel
theorem dX10_setCosts_68 : decode cX10_setCosts 68 = .ok (.iload_n 2, 1) := by decide +kernel
theorem dX10_setCosts_69 : decode cX10_setCosts 69 = .ok (.iastore, 1) := by decide +kernel
theorem dX10_setCosts_70 : decode cX10_setCosts 70 = .ok (.iload_n 3, 1) := by decide +kernel
theorem dX10_setCosts_71 : decode cX10_setCosts 71 = .ok (.ireturn, 1) := by decide +kernel
def fX10_setCosts (p0 : Nat) (p1 : Int32) (p2 : Int32) (h : mxH) : Option (Int32 × mxH) := Option.bind (pI h p0 10 3 0) (fun h1 => Option.bind (fX10_in p1 0 99 h1) (fun v4 => (if v4 = 0 then Option.bind (isO h1 p0 10) (fun u6 => Option.bind (fX10_fails p0 1 h1) (fun o9 => some (o9.1, o9.2))) else Option.bind (fX10_in p2 0 99 h1) (fun v11 => (if v11 = 0 then Option.bind (isO h1 p0 10) (fun u33 => Option.bind (fX10_fails p0 1 h1) (fun o36 => some (o36.1, o36.2))) else Option.bind (isO h1 p0 10) (fun u13 => Option.bind (fX10_keeps p0 h1) (fun o16 => Option.bind (gR o16 p0 10 0) (fun r17 => Option.bind (ldI o16 r17 106) (fun v19 => Option.bind (gR o16 p0 10 0) (fun r21 => Option.bind (ldI o16 r21 107) (fun v23 => Option.bind (gR o16 p0 10 0) (fun r25 => Option.bind (stI o16 r25 106 p1) (fun h27 => Option.bind (gR h27 p0 10 0) (fun r29 => Option.bind (stI h27 r29 107 p2) (fun h31 => some ((100 * v19) + v23, h31))))))))))))))))
abbrev rmX10_setCosts : Room := { frames := 2, cells := 0, slots := 0, locals := 61 }
set_option maxRecDepth 20000 in
theorem tX10_setCosts {l : Launch} {Z : mxZ} (hl : l.stackTraces = false) {p0 : Nat} {p1 : Int32} {p2 : Int32} {h : mxH} {out : (Int32 × mxH)} (hf : fX10_setCosts p0 p1 p2 h = some out) : mxMet l Z yX10_setCosts cX10_setCosts 4 (some .int) rmX10_setCosts [.ref p0, .int p1, .int p2] h (.inl (some (.int out.1))) out.2 := by
  refine mxMet_of (by decide) hl (by simp [Value.category]) (Nat.le_of_ble_eq_true rfl) ?_
  intro X C E hX hin
  unfold fX10_setCosts at hf
  refine mG_aload_n (pc := 0) C dX10_setCosts_0 rfl ?_
  refine mG_ic (pc := 1) C dX10_setCosts_1 kI0 ?_
  obtain ⟨h1, e2, hf⟩ := mx_bind hf
  refine mG_putI (pc := 2) C dX10_setCosts_2 fl_X10_61 e2 ?_
  refine mG_iload_n (pc := 5) C dX10_setCosts_5 rfl ?_
  refine mG_ic (pc := 6) C dX10_setCosts_6 kI0 ?_
  refine mG_bp (pc := 7) C dX10_setCosts_7 kB99 ?_
  obtain ⟨v4, e3, hf⟩ := mx_bind hf
  refine mG_cS (pc := 9) (k' := 0) (n' := 0) [.int p1, .int 0, .int 99] [] C hX dX10_setCosts_9 lkS_X10_65 rfl (tX10_in hl e3) rfl rfl rfl rfl ?_
  refine mG_if_eq (pc := 12) (tgt := 25) C dX10_setCosts_12 (by decide) (fun q5 => ?_) (fun q5 => ?_)
  · rw [if_pos q5] at hf
    refine mG_aload_n (pc := 25) C dX10_setCosts_25 rfl ?_
    refine mG_ic (pc := 26) C dX10_setCosts_26 kI1 ?_
    obtain ⟨u6, e7, hf⟩ := mx_bind hf
    obtain ⟨o9, e8, hf⟩ := mx_bind hf
    refine mG_cV (pc := 27) (k' := 0) (n' := 0) 10 [.int 1] [] C hX dX10_setCosts_27 lkV_X10_178 rfl rfl e7 (tX10_fails hl e8) rfl rfl rfl rfl ?_
    cases hf
    exact mG_ir (pc := 30) C E hX dX10_setCosts_30 rfl
  · rw [if_neg q5] at hf
    refine mG_iload_n (pc := 15) C dX10_setCosts_15 rfl ?_
    refine mG_ic (pc := 16) C dX10_setCosts_16 kI0 ?_
    refine mG_bp (pc := 17) C dX10_setCosts_17 kB99 ?_
    obtain ⟨v11, e10, hf⟩ := mx_bind hf
    refine mG_cS (pc := 19) (k' := 0) (n' := 0) [.int p2, .int 0, .int 99] [] C hX dX10_setCosts_19 lkS_X10_65 rfl (tX10_in hl e10) rfl rfl rfl rfl ?_
    refine mG_if_ne (pc := 22) (tgt := 31) C dX10_setCosts_22 (by decide) (fun q12 => ?_) (fun q12 => ?_)
    · rw [if_neg q12] at hf
      refine mG_aload_n (pc := 31) C dX10_setCosts_31 rfl ?_
      obtain ⟨u13, e14, hf⟩ := mx_bind hf
      obtain ⟨o16, e15, hf⟩ := mx_bind hf
      refine mG_cV (pc := 32) (k' := 0) (n' := 0) 10 [] [] C hX dX10_setCosts_32 lkV_X10_181 rfl rfl e14 (tX10_keeps hl e15) rfl rfl rfl rfl ?_
      refine mG_bp (pc := 35) C dX10_setCosts_35 kB100 ?_
      refine mG_aload_n (pc := 37) C dX10_setCosts_37 rfl ?_
      obtain ⟨r17, e18, hf⟩ := mx_bind hf
      refine mG_getR (pc := 38) C dX10_setCosts_38 fl_X10_9 e18 ?_
      refine mG_bp (pc := 41) C dX10_setCosts_41 kB106 ?_
      obtain ⟨v19, e20, hf⟩ := mx_bind hf
      refine mG_iaload (pc := 43) C dX10_setCosts_43 e20 ?_
      refine mG_imul (pc := 44) C dX10_setCosts_44 ?_
      refine mG_aload_n (pc := 45) C dX10_setCosts_45 rfl ?_
      obtain ⟨r21, e22, hf⟩ := mx_bind hf
      refine mG_getR (pc := 46) C dX10_setCosts_46 fl_X10_9 e22 ?_
      refine mG_bp (pc := 49) C dX10_setCosts_49 kB107 ?_
      obtain ⟨v23, e24, hf⟩ := mx_bind hf
      refine mG_iaload (pc := 51) C dX10_setCosts_51 e24 ?_
      refine mG_iadd (pc := 52) C dX10_setCosts_52 ?_
      refine mG_isn (ls' := [some (.ref p0), some (.int p1), some (.int p2), some (.int ((100 * v19) + v23))]) (pc := 53) C dX10_setCosts_53 rfl rfl rfl ?_
      refine mG_aload_n (pc := 54) C dX10_setCosts_54 rfl ?_
      obtain ⟨r25, e26, hf⟩ := mx_bind hf
      refine mG_getR (pc := 55) C dX10_setCosts_55 fl_X10_9 e26 ?_
      refine mG_bp (pc := 58) C dX10_setCosts_58 kB106 ?_
      refine mG_iload_n (pc := 60) C dX10_setCosts_60 rfl ?_
      obtain ⟨h27, e28, hf⟩ := mx_bind hf
      refine mG_iastore (pc := 61) C dX10_setCosts_61 e28 ?_
      refine mG_aload_n (pc := 62) C dX10_setCosts_62 rfl ?_
      obtain ⟨r29, e30, hf⟩ := mx_bind hf
      refine mG_getR (pc := 63) C dX10_setCosts_63 fl_X10_9 e30 ?_
      refine mG_bp (pc := 66) C dX10_setCosts_66 kB107 ?_
      refine mG_iload_n (pc := 68) C dX10_setCosts_68 rfl ?_
      obtain ⟨h31, e32, hf⟩ := mx_bind hf
      refine mG_iastore (pc := 69) C dX10_setCosts_69 e32 ?_
      refine mG_iload_n (pc := 70) C dX10_setCosts_70 rfl ?_
      cases hf
      exact mG_ir (pc := 71) C E hX dX10_setCosts_71 rfl
    · rw [if_pos q12] at hf
      refine mG_aload_n (pc := 25) C dX10_setCosts_25 rfl ?_
      refine mG_ic (pc := 26) C dX10_setCosts_26 kI1 ?_
      obtain ⟨u33, e34, hf⟩ := mx_bind hf
      obtain ⟨o36, e35, hf⟩ := mx_bind hf
      refine mG_cV (pc := 27) (k' := 0) (n' := 0) 10 [.int 1] [] C hX dX10_setCosts_27 lkV_X10_178 rfl rfl e34 (tX10_fails hl e35) rfl rfl rfl rfl ?_
      cases hf
      exact mG_ir (pc := 30) C E hX dX10_setCosts_30 rfl
theorem dX10_setWindow_0 : decode cX10_setWindow 0 = .ok (.aload_n 0, 1) := by decide +kernel
theorem dX10_setWindow_1 : decode cX10_setWindow 1 = .ok (.iconst 0, 1) := by decide +kernel
theorem dX10_setWindow_2 : decode cX10_setWindow 2 = .ok (.putfield 61, 3) := by decide +kernel
theorem dX10_setWindow_5 : decode cX10_setWindow 5 = .ok (.iload_n 1, 1) := by decide +kernel
theorem dX10_setWindow_6 : decode cX10_setWindow 6 = .ok (.iconst 1, 1) := by decide +kernel
theorem dX10_setWindow_7 : decode cX10_setWindow 7 = .ok (.bipush 10, 2) := by decide +kernel
theorem dX10_setWindow_9 : decode cX10_setWindow 9 = .ok (.invokestatic 65, 3) := by decide +kernel
theorem dX10_setWindow_12 : decode cX10_setWindow 12 = .ok (.ifCond .eq 12, 3) := by decide +kernel
theorem dX10_setWindow_15 : decode cX10_setWindow 15 = .ok (.iload_n 2, 1) := by decide +kernel
theorem dX10_setWindow_16 : decode cX10_setWindow 16 = .ok (.iconst 1, 1) := by decide +kernel
theorem dX10_setWindow_17 : decode cX10_setWindow 17 = .ok (.iconst 4, 1) := by decide +kernel
theorem dX10_setWindow_18 : decode cX10_setWindow 18 = .ok (.invokestatic 65, 3) := by decide +kernel
theorem dX10_setWindow_21 : decode cX10_setWindow 21 = .ok (.ifCond .ne 9, 3) := by decide +kernel
theorem dX10_setWindow_24 : decode cX10_setWindow 24 = .ok (.aload_n 0, 1) := by decide +kernel
theorem dX10_setWindow_25 : decode cX10_setWindow 25 = .ok (.iconst 1, 1) := by decide +kernel
theorem dX10_setWindow_26 : decode cX10_setWindow 26 = .ok (.invokevirtual 178, 3) := by decide +kernel
theorem dX10_setWindow_29 : decode cX10_setWindow 29 = .ok (.ireturn, 1) := by decide +kernel
theorem dX10_setWindow_30 : decode cX10_setWindow 30 = .ok (.aload_n 0, 1) := by decide +kernel
theorem dX10_setWindow_31 : decode cX10_setWindow 31 = .ok (.invokevirtual 181, 3) := by decide +kernel
theorem dX10_setWindow_34 : decode cX10_setWindow 34 = .ok (.aload_n 0, 1) := by decide +kernel
theorem dX10_setWindow_35 : decode cX10_setWindow 35 = .ok (.getfield 9, 3) := by decide +kernel
theorem dX10_setWindow_38 : decode cX10_setWindow 38 = .ok (.bipush 110, 2) := by decide +kernel
theorem dX10_setWindow_40 : decode cX10_setWindow 40 = .ok (.iaload, 1) := by decide +kernel
theorem dX10_setWindow_41 : decode cX10_setWindow 41 = .ok (.istore_n 3, 1) := by decide +kernel
theorem dX10_setWindow_42 : decode cX10_setWindow 42 = .ok (.aload_n 0, 1) := by decide +kernel
theorem dX10_setWindow_43 : decode cX10_setWindow 43 = .ok (.iload_n 1, 1) := by decide +kernel
theorem dX10_setWindow_44 : decode cX10_setWindow 44 = .ok (.iload_n 2, 1) := by decide +kernel
theorem dX10_setWindow_45 : decode cX10_setWindow 45 = .ok (.invokevirtual 57, 3) := by decide +kernel
theorem dX10_setWindow_48 : decode cX10_setWindow 48 = .ok (.iload_n 3, 1) := by decide +kernel
theorem dX10_setWindow_49 : decode cX10_setWindow 49 = .ok (.ireturn, 1) := by decide +kernel
def fX10_setWindow (p0 : Nat) (p1 : Int32) (p2 : Int32) (h : mxH) : Option (Int32 × mxH) := Option.bind (pI h p0 10 3 0) (fun h1 => Option.bind (fX10_in p1 1 10 h1) (fun v4 => (if v4 = 0 then Option.bind (isO h1 p0 10) (fun u6 => Option.bind (fX10_fails p0 1 h1) (fun o9 => some (o9.1, o9.2))) else Option.bind (fX10_in p2 1 4 h1) (fun v11 => (if v11 = 0 then Option.bind (isO h1 p0 10) (fun u25 => Option.bind (fX10_fails p0 1 h1) (fun o28 => some (o28.1, o28.2))) else Option.bind (isO h1 p0 10) (fun u13 => Option.bind (fX10_keeps p0 h1) (fun o16 => Option.bind (gR o16 p0 10 0) (fun r17 => Option.bind (ldI o16 r17 110) (fun v19 => Option.bind (isO o16 p0 10) (fun u21 => Option.bind (fX10_begins p0 p1 p2 o16) (fun o24 => some (v19, o24))))))))))))
abbrev rmX10_setWindow : Room := { frames := 2, cells := 0, slots := 0, locals := 61 }
set_option maxRecDepth 20000 in
theorem tX10_setWindow {l : Launch} {Z : mxZ} (hl : l.stackTraces = false) {p0 : Nat} {p1 : Int32} {p2 : Int32} {h : mxH} {out : (Int32 × mxH)} (hf : fX10_setWindow p0 p1 p2 h = some out) : mxMet l Z yX10_setWindow cX10_setWindow 4 (some .int) rmX10_setWindow [.ref p0, .int p1, .int p2] h (.inl (some (.int out.1))) out.2 := by
  refine mxMet_of (by decide) hl (by simp [Value.category]) (Nat.le_of_ble_eq_true rfl) ?_
  intro X C E hX hin
  unfold fX10_setWindow at hf
  refine mG_aload_n (pc := 0) C dX10_setWindow_0 rfl ?_
  refine mG_ic (pc := 1) C dX10_setWindow_1 kI0 ?_
  obtain ⟨h1, e2, hf⟩ := mx_bind hf
  refine mG_putI (pc := 2) C dX10_setWindow_2 fl_X10_61 e2 ?_
  refine mG_iload_n (pc := 5) C dX10_setWindow_5 rfl ?_
  refine mG_ic (pc := 6) C dX10_setWindow_6 kI1 ?_
  refine mG_bp (pc := 7) C dX10_setWindow_7 kB10 ?_
  obtain ⟨v4, e3, hf⟩ := mx_bind hf
  refine mG_cS (pc := 9) (k' := 0) (n' := 0) [.int p1, .int 1, .int 10] [] C hX dX10_setWindow_9 lkS_X10_65 rfl (tX10_in hl e3) rfl rfl rfl rfl ?_
  refine mG_if_eq (pc := 12) (tgt := 24) C dX10_setWindow_12 (by decide) (fun q5 => ?_) (fun q5 => ?_)
  · rw [if_pos q5] at hf
    refine mG_aload_n (pc := 24) C dX10_setWindow_24 rfl ?_
    refine mG_ic (pc := 25) C dX10_setWindow_25 kI1 ?_
    obtain ⟨u6, e7, hf⟩ := mx_bind hf
    obtain ⟨o9, e8, hf⟩ := mx_bind hf
    refine mG_cV (pc := 26) (k' := 0) (n' := 0) 10 [.int 1] [] C hX dX10_setWindow_26 lkV_X10_178 rfl rfl e7 (tX10_fails hl e8) rfl rfl rfl rfl ?_
    cases hf
    exact mG_ir (pc := 29) C E hX dX10_setWindow_29 rfl
  · rw [if_neg q5] at hf
    refine mG_iload_n (pc := 15) C dX10_setWindow_15 rfl ?_
    refine mG_ic (pc := 16) C dX10_setWindow_16 kI1 ?_
    refine mG_ic (pc := 17) C dX10_setWindow_17 kI4 ?_
    obtain ⟨v11, e10, hf⟩ := mx_bind hf
    refine mG_cS (pc := 18) (k' := 0) (n' := 0) [.int p2, .int 1, .int 4] [] C hX dX10_setWindow_18 lkS_X10_65 rfl (tX10_in hl e10) rfl rfl rfl rfl ?_
    refine mG_if_ne (pc := 21) (tgt := 30) C dX10_setWindow_21 (by decide) (fun q12 => ?_) (fun q12 => ?_)
    · rw [if_neg q12] at hf
      refine mG_aload_n (pc := 30) C dX10_setWindow_30 rfl ?_
      obtain ⟨u13, e14, hf⟩ := mx_bind hf
      obtain ⟨o16, e15, hf⟩ := mx_bind hf
      refine mG_cV (pc := 31) (k' := 0) (n' := 0) 10 [] [] C hX dX10_setWindow_31 lkV_X10_181 rfl rfl e14 (tX10_keeps hl e15) rfl rfl rfl rfl ?_
      refine mG_aload_n (pc := 34) C dX10_setWindow_34 rfl ?_
      obtain ⟨r17, e18, hf⟩ := mx_bind hf
      refine mG_getR (pc := 35) C dX10_setWindow_35 fl_X10_9 e18 ?_
      refine mG_bp (pc := 38) C dX10_setWindow_38 kB110 ?_
      obtain ⟨v19, e20, hf⟩ := mx_bind hf
      refine mG_iaload (pc := 40) C dX10_setWindow_40 e20 ?_
      refine mG_isn (ls' := [some (.ref p0), some (.int p1), some (.int p2), some (.int v19)]) (pc := 41) C dX10_setWindow_41 rfl rfl rfl ?_
      refine mG_aload_n (pc := 42) C dX10_setWindow_42 rfl ?_
      refine mG_iload_n (pc := 43) C dX10_setWindow_43 rfl ?_
      refine mG_iload_n (pc := 44) C dX10_setWindow_44 rfl ?_
      obtain ⟨u21, e22, hf⟩ := mx_bind hf
      obtain ⟨o24, e23, hf⟩ := mx_bind hf
      refine mG_cV (pc := 45) (k' := 0) (n' := 0) 10 [.int p1, .int p2] [] C hX dX10_setWindow_45 lkV_X10_57 rfl rfl e22 (tX10_begins hl e23) rfl rfl rfl rfl ?_
      refine mG_iload_n (pc := 48) C dX10_setWindow_48 rfl ?_
      cases hf
      exact mG_ir (pc := 49) C E hX dX10_setWindow_49 rfl
    · rw [if_pos q12] at hf
      refine mG_aload_n (pc := 24) C dX10_setWindow_24 rfl ?_
      refine mG_ic (pc := 25) C dX10_setWindow_25 kI1 ?_
      obtain ⟨u25, e26, hf⟩ := mx_bind hf
      obtain ⟨o28, e27, hf⟩ := mx_bind hf
      refine mG_cV (pc := 26) (k' := 0) (n' := 0) 10 [.int 1] [] C hX dX10_setWindow_26 lkV_X10_178 rfl rfl e26 (tX10_fails hl e27) rfl rfl rfl rfl ?_
      cases hf
      exact mG_ir (pc := 29) C E hX dX10_setWindow_29 rfl
theorem dX10_push_0 : decode cX10_push 0 = .ok (.aload_n 0, 1) := by decide +kernel
theorem dX10_push_1 : decode cX10_push 1 = .ok (.iconst 0, 1) := by decide +kernel
theorem dX10_push_2 : decode cX10_push 2 = .ok (.putfield 61, 3) := by decide +kernel
theorem dX10_push_5 : decode cX10_push 5 = .ok (.iload_n 1, 1) := by decide +kernel
theorem dX10_push_6 : decode cX10_push 6 = .ok (.iconst 0, 1) := by decide +kernel
theorem dX10_push_7 : decode cX10_push 7 = .ok (.bipush 99, 2) := by decide +kernel
theorem dX10_push_9 : decode cX10_push 9 = .ok (.invokestatic 65, 3) := by decide +kernel
theorem dX10_push_12 : decode cX10_push 12 = .ok (.ifCond .ne 9, 3) := by decide +kernel
theorem dX10_push_15 : decode cX10_push 15 = .ok (.aload_n 0, 1) := by decide +kernel
theorem dX10_push_16 : decode cX10_push 16 = .ok (.iconst 1, 1) := by decide +kernel
theorem dX10_push_17 : decode cX10_push 17 = .ok (.invokevirtual 178, 3) := by decide +kernel
theorem dX10_push_20 : decode cX10_push 20 = .ok (.ireturn, 1) := by decide +kernel
theorem dX10_push_21 : decode cX10_push 21 = .ok (.aload_n 0, 1) := by decide +kernel
theorem dX10_push_22 : decode cX10_push 22 = .ok (.invokevirtual 181, 3) := by decide +kernel
theorem dX10_push_25 : decode cX10_push 25 = .ok (.aload_n 0, 1) := by decide +kernel
theorem dX10_push_26 : decode cX10_push 26 = .ok (.getfield 9, 3) := by decide +kernel
theorem dX10_push_29 : decode cX10_push 29 = .ok (.bipush 110, 2) := by decide +kernel
theorem dX10_push_31 : decode cX10_push 31 = .ok (.iaload, 1) := by decide +kernel
theorem dX10_push_32 : decode cX10_push 32 = .ok (.aload_n 0, 1) := by decide +kernel
theorem dX10_push_33 : decode cX10_push 33 = .ok (.getfield 9, 3) := by decide +kernel
theorem dX10_push_36 : decode cX10_push 36 = .ok (.bipush 108, 2) := by decide +kernel
theorem dX10_push_38 : decode cX10_push 38 = .ok (.iaload, 1) := by decide +kernel
theorem dX10_push_39 : decode cX10_push 39 = .ok (.if_icmp .ge 7, 3) := by decide +kernel
theorem dX10_push_42 : decode cX10_push 42 = .ok (.iconst (-1), 1) := by decide +kernel
theorem dX10_push_43 : decode cX10_push 43 = .ok (.goto 21, 3) := by decide +kernel
theorem dX10_push_46 : decode cX10_push 46 = .ok (.aload_n 0, 1) := by decide +kernel
theorem dX10_push_47 : decode cX10_push 47 = .ok (.getfield 9, 3) := by decide +kernel
theorem dX10_push_50 : decode cX10_push 50 = .ok (.sipush 211, 3) := by decide +kernel
theorem dX10_push_53 : decode cX10_push 53 = .ok (.aload_n 0, 1) := by decide +kernel
theorem dX10_push_54 : decode cX10_push 54 = .ok (.getfield 9, 3) := by decide +kernel
theorem dX10_push_57 : decode cX10_push 57 = .ok (.bipush 108, 2) := by decide +kernel
theorem dX10_push_59 : decode cX10_push 59 = .ok (.iaload, 1) := by decide +kernel
theorem dX10_push_60 : decode cX10_push 60 = .ok (.iadd, 1) := by decide +kernel
theorem dX10_push_61 : decode cX10_push 61 = .ok (.iconst 1, 1) := by decide +kernel
theorem dX10_push_62 : decode cX10_push 62 = .ok (.isub, 1) := by decide +kernel
theorem dX10_push_63 : decode cX10_push 63 = .ok (.iaload, 1) := by decide +kernel
theorem dX10_push_64 : decode cX10_push 64 = .ok (.istore_n 2, 1) := by decide +kernel
theorem dX10_push_65 : decode cX10_push 65 = .ok (.bipush 9, 2) := by decide +kernel
theorem dX10_push_67 : decode cX10_push 67 = .ok (.istore_n 3, 1) := by decide +kernel
theorem dX10_push_68 : decode cX10_push 68 = .ok (.iload_n 3, 1) := by decide +kernel
theorem dX10_push_69 : decode cX10_push 69 = .ok (.ifCond .le 31, 3) := by decide +kernel
theorem dX10_push_72 : decode cX10_push 72 = .ok (.aload_n 0, 1) := by decide +kernel
theorem dX10_push_73 : decode cX10_push 73 = .ok (.getfield 9, 3) := by decide +kernel
theorem dX10_push_76 : decode cX10_push 76 = .ok (.sipush 211, 3) := by decide +kernel
theorem dX10_push_79 : decode cX10_push 79 = .ok (.iload_n 3, 1) := by decide +kernel
theorem dX10_push_80 : decode cX10_push 80 = .ok (.iadd, 1) := by decide +kernel
theorem dX10_push_81 : decode cX10_push 81 = .ok (.aload_n 0, 1) := by decide +kernel
theorem dX10_push_82 : decode cX10_push 82 = .ok (.getfield 9, 3) := by decide +kernel
theorem dX10_push_85 : decode cX10_push 85 = .ok (.sipush 211, 3) := by decide +kernel
theorem dX10_push_88 : decode cX10_push 88 = .ok (.iload_n 3, 1) := by decide +kernel
theorem dX10_push_89 : decode cX10_push 89 = .ok (.iadd, 1) := by decide +kernel
theorem dX10_push_90 : decode cX10_push 90 = .ok (.iconst 1, 1) := by decide +kernel
theorem dX10_push_91 : decode cX10_push 91 = .ok (.isub, 1) := by decide +kernel
theorem dX10_push_92 : decode cX10_push 92 = .ok (.iaload, 1) := by decide +kernel
theorem dX10_push_93 : decode cX10_push 93 = .ok (.iastore, 1) := by decide +kernel
theorem dX10_push_94 : decode cX10_push 94 = .ok (.iinc 3 (-1), 3) := by decide +kernel
theorem dX10_push_97 : decode cX10_push 97 = .ok (.goto (-29), 3) := by decide +kernel
theorem dX10_push_100 : decode cX10_push 100 = .ok (.aload_n 0, 1) := by decide +kernel
theorem dX10_push_101 : decode cX10_push 101 = .ok (.getfield 9, 3) := by decide +kernel
theorem dX10_push_104 : decode cX10_push 104 = .ok (.sipush 211, 3) := by decide +kernel
theorem dX10_push_107 : decode cX10_push 107 = .ok (.iload_n 1, 1) := by decide +kernel
theorem dX10_push_108 : decode cX10_push 108 = .ok (.iastore, 1) := by decide +kernel
theorem dX10_push_109 : decode cX10_push 109 = .ok (.aload_n 0, 1) := by decide +kernel
theorem dX10_push_110 : decode cX10_push 110 = .ok (.getfield 9, 3) := by decide +kernel
theorem dX10_push_113 : decode cX10_push 113 = .ok (.bipush 110, 2) := by decide +kernel
theorem dX10_push_115 : decode cX10_push 115 = .ok (.dup2, 1) := by decide +kernel
theorem dX10_push_116 : decode cX10_push 116 = .ok (.iaload, 1) := by decide +kernel
theorem dX10_push_117 : decode cX10_push 117 = .ok (.iconst 1, 1) := by decide +kernel
theorem dX10_push_118 : decode cX10_push 118 = .ok (.iadd, 1) := by decide +kernel
theorem dX10_push_119 : decode cX10_push 119 = .ok (.iastore, 1) := by decide +kernel
theorem dX10_push_120 : decode cX10_push 120 = .ok (.aload_n 0, 1) := by decide +kernel
theorem dX10_push_121 : decode cX10_push 121 = .ok (.getfield 9, 3) := by decide +kernel
theorem dX10_push_124 : decode cX10_push 124 = .ok (.bipush 111, 2) := by decide +kernel
theorem dX10_push_126 : decode cX10_push 126 = .ok (.iload_n 1, 1) := by decide +kernel
theorem dX10_push_127 : decode cX10_push 127 = .ok (.iadd, 1) := by decide +kernel
theorem dX10_push_128 : decode cX10_push 128 = .ok (.dup2, 1) := by decide +kernel
theorem dX10_push_129 : decode cX10_push 129 = .ok (.iaload, 1) := by decide +kernel
theorem dX10_push_130 : decode cX10_push 130 = .ok (.iconst 1, 1) := by decide +kernel
theorem dX10_push_131 : decode cX10_push 131 = .ok (.iadd, 1) := by decide +kernel
theorem dX10_push_132 : decode cX10_push 132 = .ok (.iastore, 1) := by decide +kernel
theorem dX10_push_133 : decode cX10_push 133 = .ok (.aload_n 0, 1) := by decide +kernel
theorem dX10_push_134 : decode cX10_push 134 = .ok (.iload_n 1, 1) := by decide +kernel
theorem dX10_push_135 : decode cX10_push 135 = .ok (.invokevirtual 184, 3) := by decide +kernel
theorem dX10_push_138 : decode cX10_push 138 = .ok (.iload_n 2, 1) := by decide +kernel
theorem dX10_push_139 : decode cX10_push 139 = .ok (.ireturn, 1) := by decide +kernel
def fX10_push (p0 : Nat) (p1 : Int32) (h : mxH) : Option (Int32 × mxH) := Option.bind (pI h p0 10 3 0) (fun h1 => Option.bind (fX10_in p1 0 99 h1) (fun v4 => (if v4 = 0 then Option.bind (isO h1 p0 10) (fun u70 => Option.bind (fX10_fails p0 1 h1) (fun o73 => some (o73.1, o73.2))) else Option.bind (isO h1 p0 10) (fun u6 => Option.bind (fX10_keeps p0 h1) (fun o9 => Option.bind (gR o9 p0 10 0) (fun r10 => Option.bind (ldI o9 r10 110) (fun v12 => Option.bind (gR o9 p0 10 0) (fun r14 => Option.bind (ldI o9 r14 108) (fun v16 => Option.bind (α := Int32) (if v16 ≤ v12 then Option.bind (gR o9 p0 10 0) (fun r22 => Option.bind (gR o9 p0 10 0) (fun r24 => Option.bind (ldI o9 r24 108) (fun v26 => Option.bind (ldI o9 r22 ((211 + v26) - 1)) (fun v28 => some v28)))) else some (-1)) (fun p20' : Int32 => Option.bind (mxLoop (ρ := mxH) (fun s30 : (Int32 × mxH) => (if s30.1 ≤ 0 then some (Sum.inr s30.2) else Option.bind (gR s30.2 p0 10 0) (fun r39 => Option.bind (gR s30.2 p0 10 0) (fun r41 => Option.bind (ldI s30.2 r41 ((211 + s30.1) - 1)) (fun v43 => Option.bind (stI s30.2 r39 (211 + s30.1) v43) (fun h45 => some (Sum.inl (s30.1 - 1, h45)))))))) mxF (9, o9)) (fun r47 : mxH => Option.bind (gR r47 p0 10 0) (fun r48 => Option.bind (stI r47 r48 211 p1) (fun h50 => Option.bind (gR h50 p0 10 0) (fun r52 => Option.bind (ldI h50 r52 110) (fun v54 => Option.bind (stI h50 r52 110 (v54 + 1)) (fun h56 => Option.bind (gR h56 p0 10 0) (fun r58 => Option.bind (ldI h56 r58 (111 + p1)) (fun v60 => Option.bind (stI h56 r58 (111 + p1) (v60 + 1)) (fun h62 => Option.bind (isO h62 p0 10) (fun u64 => Option.bind (fX10_counts p0 p1 h62) (fun o67 => some (p20', o67))))))))))))))))))))))
abbrev rmX10_push : Room := { frames := 2, cells := 0, slots := 0, locals := 61 }
set_option maxRecDepth 20000 in
theorem tX10_push {l : Launch} {Z : mxZ} (hl : l.stackTraces = false) {p0 : Nat} {p1 : Int32} {h : mxH} {out : (Int32 × mxH)} (hf : fX10_push p0 p1 h = some out) : mxMet l Z yX10_push cX10_push 4 (some .int) rmX10_push [.ref p0, .int p1] h (.inl (some (.int out.1))) out.2 := by
  refine mxMet_of (by decide) hl (by simp [Value.category]) (Nat.le_of_ble_eq_true rfl) ?_
  intro X C E hX hin
  unfold fX10_push at hf
  refine mG_aload_n (pc := 0) C dX10_push_0 rfl ?_
  refine mG_ic (pc := 1) C dX10_push_1 kI0 ?_
  obtain ⟨h1, e2, hf⟩ := mx_bind hf
  refine mG_putI (pc := 2) C dX10_push_2 fl_X10_61 e2 ?_
  refine mG_iload_n (pc := 5) C dX10_push_5 rfl ?_
  refine mG_ic (pc := 6) C dX10_push_6 kI0 ?_
  refine mG_bp (pc := 7) C dX10_push_7 kB99 ?_
  obtain ⟨v4, e3, hf⟩ := mx_bind hf
  refine mG_cS (pc := 9) (k' := 0) (n' := 0) [.int p1, .int 0, .int 99] [] C hX dX10_push_9 lkS_X10_65 rfl (tX10_in hl e3) rfl rfl rfl rfl ?_
  refine mG_if_ne (pc := 12) (tgt := 21) C dX10_push_12 (by decide) (fun q5 => ?_) (fun q5 => ?_)
  · rw [if_neg q5] at hf
    refine mG_aload_n (pc := 21) C dX10_push_21 rfl ?_
    obtain ⟨u6, e7, hf⟩ := mx_bind hf
    obtain ⟨o9, e8, hf⟩ := mx_bind hf
    refine mG_cV (pc := 22) (k' := 0) (n' := 0) 10 [] [] C hX dX10_push_22 lkV_X10_181 rfl rfl e7 (tX10_keeps hl e8) rfl rfl rfl rfl ?_
    refine mG_aload_n (pc := 25) C dX10_push_25 rfl ?_
    obtain ⟨r10, e11, hf⟩ := mx_bind hf
    refine mG_getR (pc := 26) C dX10_push_26 fl_X10_9 e11 ?_
    refine mG_bp (pc := 29) C dX10_push_29 kB110 ?_
    obtain ⟨v12, e13, hf⟩ := mx_bind hf
    refine mG_iaload (pc := 31) C dX10_push_31 e13 ?_
    refine mG_aload_n (pc := 32) C dX10_push_32 rfl ?_
    obtain ⟨r14, e15, hf⟩ := mx_bind hf
    refine mG_getR (pc := 33) C dX10_push_33 fl_X10_9 e15 ?_
    refine mG_bp (pc := 36) C dX10_push_36 kB108 ?_
    obtain ⟨v16, e17, hf⟩ := mx_bind hf
    refine mG_iaload (pc := 38) C dX10_push_38 e17 ?_
    obtain ⟨p20, e21, hf⟩ := mx_bind hf
    have J19 : ∀ p20' : Int32, p20' = p20 → mG l Z X 4 0 0 64 [some (.ref p0), some (.int p1), none, none] [.int p20'] o9 := by
      intro p20' q69
      subst q69
      refine mG_isn (ls' := [some (.ref p0), some (.int p1), some (.int p20'), none]) (pc := 64) C dX10_push_64 rfl rfl rfl ?_
      refine mG_bp (pc := 65) C dX10_push_65 kB9 ?_
      refine mG_isn (ls' := [some (.ref p0), some (.int p1), some (.int p20'), some (.int 9)]) (pc := 67) C dX10_push_67 rfl rfl rfl ?_
      obtain ⟨r31, e32, hf⟩ := mx_bind hf
      have J33 : ∀ r47 : mxH, r47 = r31 → mG l Z X 4 0 0 100 [some (.ref p0), some (.int p1), some (.int p20'), none] [] r47 := by
        intro r47 q68
        subst q68
        refine mG_aload_n (pc := 100) C dX10_push_100 rfl ?_
        obtain ⟨r48, e49, hf⟩ := mx_bind hf
        refine mG_getR (pc := 101) C dX10_push_101 fl_X10_9 e49 ?_
        refine mG_sp (pc := 104) C dX10_push_104 kS211 ?_
        refine mG_iload_n (pc := 107) C dX10_push_107 rfl ?_
        obtain ⟨h50, e51, hf⟩ := mx_bind hf
        refine mG_iastore (pc := 108) C dX10_push_108 e51 ?_
        refine mG_aload_n (pc := 109) C dX10_push_109 rfl ?_
        obtain ⟨r52, e53, hf⟩ := mx_bind hf
        refine mG_getR (pc := 110) C dX10_push_110 fl_X10_9 e53 ?_
        refine mG_bp (pc := 113) C dX10_push_113 kB110 ?_
        refine mG_dup2 (pc := 115) C dX10_push_115 rfl rfl ?_
        obtain ⟨v54, e55, hf⟩ := mx_bind hf
        refine mG_iaload (pc := 116) C dX10_push_116 e55 ?_
        refine mG_ic (pc := 117) C dX10_push_117 kI1 ?_
        refine mG_iadd (pc := 118) C dX10_push_118 ?_
        obtain ⟨h56, e57, hf⟩ := mx_bind hf
        refine mG_iastore (pc := 119) C dX10_push_119 e57 ?_
        refine mG_aload_n (pc := 120) C dX10_push_120 rfl ?_
        obtain ⟨r58, e59, hf⟩ := mx_bind hf
        refine mG_getR (pc := 121) C dX10_push_121 fl_X10_9 e59 ?_
        refine mG_bp (pc := 124) C dX10_push_124 kB111 ?_
        refine mG_iload_n (pc := 126) C dX10_push_126 rfl ?_
        refine mG_iadd (pc := 127) C dX10_push_127 ?_
        refine mG_dup2 (pc := 128) C dX10_push_128 rfl rfl ?_
        obtain ⟨v60, e61, hf⟩ := mx_bind hf
        refine mG_iaload (pc := 129) C dX10_push_129 e61 ?_
        refine mG_ic (pc := 130) C dX10_push_130 kI1 ?_
        refine mG_iadd (pc := 131) C dX10_push_131 ?_
        obtain ⟨h62, e63, hf⟩ := mx_bind hf
        refine mG_iastore (pc := 132) C dX10_push_132 e63 ?_
        refine mG_aload_n (pc := 133) C dX10_push_133 rfl ?_
        refine mG_iload_n (pc := 134) C dX10_push_134 rfl ?_
        obtain ⟨u64, e65, hf⟩ := mx_bind hf
        obtain ⟨o67, e66, hf⟩ := mx_bind hf
        refine mG_cV (pc := 135) (k' := 0) (n' := 0) 10 [.int p1] [] C hX dX10_push_135 lkV_X10_184 rfl rfl e65 (tX10_counts hl e66) rfl rfl rfl rfl ?_
        refine mG_iload_n (pc := 138) C dX10_push_138 rfl ?_
        cases hf
        exact mG_ir (pc := 139) C E hX dX10_push_139 rfl
      refine mG_sub (ls' := [some (.ref p0), some (.int p1), some (.int p20'), some (.int 9)]) (mxLe_s (mxLe_s (mxLe_s (mxLe_s mxLe_z)))) (mxLoop_ind (K := fun s30 : (Int32 × mxH) => mG l Z X 4 0 0 68 [some (.ref p0), some (.int p1), some (.int p20'), some (.int s30.1)] [] s30.2) ?_ _ _ e32)
      intro s30 o36 e37 hK34 hx35
      refine mG_iload_n (pc := 68) C dX10_push_68 rfl ?_
      refine mG_if_le (pc := 69) (tgt := 100) C dX10_push_69 (by decide) (fun q38 => ?_) (fun q38 => ?_)
      · rw [if_pos q38] at e37
        exact mG_sub (mxLe_s (mxLe_s (mxLe_s (mxLe_n mxLe_z)))) (J33 _ (hx35 _ (Option.some.inj e37).symm))
      · rw [if_neg q38] at e37
        refine mG_aload_n (pc := 72) C dX10_push_72 rfl ?_
        obtain ⟨r39, e40, e37⟩ := mx_bind e37
        refine mG_getR (pc := 73) C dX10_push_73 fl_X10_9 e40 ?_
        refine mG_sp (pc := 76) C dX10_push_76 kS211 ?_
        refine mG_iload_n (pc := 79) C dX10_push_79 rfl ?_
        refine mG_iadd (pc := 80) C dX10_push_80 ?_
        refine mG_aload_n (pc := 81) C dX10_push_81 rfl ?_
        obtain ⟨r41, e42, e37⟩ := mx_bind e37
        refine mG_getR (pc := 82) C dX10_push_82 fl_X10_9 e42 ?_
        refine mG_sp (pc := 85) C dX10_push_85 kS211 ?_
        refine mG_iload_n (pc := 88) C dX10_push_88 rfl ?_
        refine mG_iadd (pc := 89) C dX10_push_89 ?_
        refine mG_ic (pc := 90) C dX10_push_90 kI1 ?_
        refine mG_isub (pc := 91) C dX10_push_91 ?_
        obtain ⟨v43, e44, e37⟩ := mx_bind e37
        refine mG_iaload (pc := 92) C dX10_push_92 e44 ?_
        obtain ⟨h45, e46, e37⟩ := mx_bind e37
        refine mG_iastore (pc := 93) C dX10_push_93 e46 ?_
        refine mG_ii (ls' := [some (.ref p0), some (.int p1), some (.int p20'), some (.int (s30.1 - 1))]) (pc := 94) C dX10_push_94 rfl (kincm1 _) rfl rfl rfl ?_
        refine mG_goto (tgt := 68) (pc := 97) C dX10_push_97 (by decide) ?_
        exact mG_sub (mxLe_s (mxLe_s (mxLe_s (mxLe_s mxLe_z)))) (hK34 _ (Option.some.inj e37).symm)
    refine mG_icmp_ge (pc := 39) (tgt := 46) C dX10_push_39 (by decide) (fun q18 => ?_) (fun q18 => ?_)
    · rw [if_pos q18] at e21
      refine mG_aload_n (pc := 46) C dX10_push_46 rfl ?_
      obtain ⟨r22, e23, e21⟩ := mx_bind e21
      refine mG_getR (pc := 47) C dX10_push_47 fl_X10_9 e23 ?_
      refine mG_sp (pc := 50) C dX10_push_50 kS211 ?_
      refine mG_aload_n (pc := 53) C dX10_push_53 rfl ?_
      obtain ⟨r24, e25, e21⟩ := mx_bind e21
      refine mG_getR (pc := 54) C dX10_push_54 fl_X10_9 e25 ?_
      refine mG_bp (pc := 57) C dX10_push_57 kB108 ?_
      obtain ⟨v26, e27, e21⟩ := mx_bind e21
      refine mG_iaload (pc := 59) C dX10_push_59 e27 ?_
      refine mG_iadd (pc := 60) C dX10_push_60 ?_
      refine mG_ic (pc := 61) C dX10_push_61 kI1 ?_
      refine mG_isub (pc := 62) C dX10_push_62 ?_
      obtain ⟨v28, e29, e21⟩ := mx_bind e21
      refine mG_iaload (pc := 63) C dX10_push_63 e29 ?_
      exact mG_sub (mxLe_s (mxLe_s (mxLe_n (mxLe_n mxLe_z)))) (J19 _ (Option.some.inj e21))
    · rw [if_neg q18] at e21
      refine mG_ic (pc := 42) C dX10_push_42 kIm1 ?_
      refine mG_goto (tgt := 64) (pc := 43) C dX10_push_43 (by decide) ?_
      exact mG_sub (mxLe_s (mxLe_s (mxLe_n (mxLe_n mxLe_z)))) (J19 _ (Option.some.inj e21))
  · rw [if_pos q5] at hf
    refine mG_aload_n (pc := 15) C dX10_push_15 rfl ?_
    refine mG_ic (pc := 16) C dX10_push_16 kI1 ?_
    obtain ⟨u70, e71, hf⟩ := mx_bind hf
    obtain ⟨o73, e72, hf⟩ := mx_bind hf
    refine mG_cV (pc := 17) (k' := 0) (n' := 0) 10 [.int 1] [] C hX dX10_push_17 lkV_X10_178 rfl rfl e71 (tX10_fails hl e72) rfl rfl rfl rfl ?_
    cases hf
    exact mG_ir (pc := 20) C E hX dX10_push_20 rfl
theorem dX10_undo_0 : decode cX10_undo 0 = .ok (.aload_n 0, 1) := by decide +kernel
theorem dX10_undo_1 : decode cX10_undo 1 = .ok (.iconst 0, 1) := by decide +kernel
theorem dX10_undo_2 : decode cX10_undo 2 = .ok (.putfield 61, 3) := by decide +kernel
theorem dX10_undo_5 : decode cX10_undo 5 = .ok (.aload_n 0, 1) := by decide +kernel
theorem dX10_undo_6 : decode cX10_undo 6 = .ok (.getfield 163, 3) := by decide +kernel
theorem dX10_undo_9 : decode cX10_undo 9 = .ok (.ifCond .ne 5, 3) := by decide +kernel
theorem dX10_undo_12 : decode cX10_undo 12 = .ok (.iconst (-1), 1) := by decide +kernel
theorem dX10_undo_13 : decode cX10_undo 13 = .ok (.ireturn, 1) := by decide +kernel
theorem dX10_undo_14 : decode cX10_undo 14 = .ok (.aload_n 0, 1) := by decide +kernel
theorem dX10_undo_15 : decode cX10_undo 15 = .ok (.dup, 1) := by decide +kernel
theorem dX10_undo_16 : decode cX10_undo 16 = .ok (.getfield 163, 3) := by decide +kernel
theorem dX10_undo_19 : decode cX10_undo 19 = .ok (.iconst 1, 1) := by decide +kernel
theorem dX10_undo_20 : decode cX10_undo 20 = .ok (.isub, 1) := by decide +kernel
theorem dX10_undo_21 : decode cX10_undo 21 = .ok (.putfield 163, 3) := by decide +kernel
theorem dX10_undo_24 : decode cX10_undo 24 = .ok (.aload_n 0, 1) := by decide +kernel
theorem dX10_undo_25 : decode cX10_undo 25 = .ok (.getfield 13, 3) := by decide +kernel
theorem dX10_undo_28 : decode cX10_undo 28 = .ok (.aload_n 0, 1) := by decide +kernel
theorem dX10_undo_29 : decode cX10_undo 29 = .ok (.getfield 163, 3) := by decide +kernel
theorem dX10_undo_32 : decode cX10_undo 32 = .ok (.sipush 230, 3) := by decide +kernel
theorem dX10_undo_35 : decode cX10_undo 35 = .ok (.imul, 1) := by decide +kernel
theorem dX10_undo_36 : decode cX10_undo 36 = .ok (.aload_n 0, 1) := by decide +kernel
theorem dX10_undo_37 : decode cX10_undo 37 = .ok (.getfield 9, 3) := by decide +kernel
theorem dX10_undo_40 : decode cX10_undo 40 = .ok (.iconst 0, 1) := by decide +kernel
theorem dX10_undo_41 : decode cX10_undo 41 = .ok (.sipush 230, 3) := by decide +kernel
theorem dX10_undo_44 : decode cX10_undo 44 = .ok (.invokestatic 166, 3) := by decide +kernel
theorem dX10_undo_47 : decode cX10_undo 47 = .ok (.aload_n 0, 1) := by decide +kernel
theorem dX10_undo_48 : decode cX10_undo 48 = .ok (.getfield 163, 3) := by decide +kernel
theorem dX10_undo_51 : decode cX10_undo 51 = .ok (.ireturn, 1) := by decide +kernel
def fX10_undo (p0 : Nat) (h : mxH) : Option (Int32 × mxH) := Option.bind (pI h p0 10 3 0) (fun h1 => Option.bind (gI h1 p0 10 2) (fun v3 => (if v3 = 0 then some ((-1), h1) else Option.bind (gI h1 p0 10 2) (fun v6 => Option.bind (pI h1 p0 10 2 (v6 - 1)) (fun h8 => Option.bind (gR h8 p0 10 1) (fun r10 => Option.bind (gI h8 p0 10 2) (fun v12 => Option.bind (gR h8 p0 10 0) (fun r14 => Option.bind (cpI h8 r10 (v12 * 230) r14 0 230) (fun h16 => Option.bind (gI h16 p0 10 2) (fun v18 => some (v18, h16)))))))))))
abbrev rmX10_undo : Room := { frames := 1, cells := 0, slots := 0, locals := 41 }
set_option maxRecDepth 20000 in
theorem tX10_undo {l : Launch} {Z : mxZ} (hl : l.stackTraces = false) {p0 : Nat} {h : mxH} {out : (Int32 × mxH)} (hf : fX10_undo p0 h = some out) : mxMet l Z yX10_undo cX10_undo 1 (some .int) rmX10_undo [.ref p0] h (.inl (some (.int out.1))) out.2 := by
  refine mxMet_of (by decide) hl (by simp [Value.category]) (Nat.le_of_ble_eq_true rfl) ?_
  intro X C E hX hin
  unfold fX10_undo at hf
  refine mG_aload_n (pc := 0) C dX10_undo_0 rfl ?_
  refine mG_ic (pc := 1) C dX10_undo_1 kI0 ?_
  obtain ⟨h1, e2, hf⟩ := mx_bind hf
  refine mG_putI (pc := 2) C dX10_undo_2 fl_X10_61 e2 ?_
  refine mG_aload_n (pc := 5) C dX10_undo_5 rfl ?_
  obtain ⟨v3, e4, hf⟩ := mx_bind hf
  refine mG_getI (pc := 6) C dX10_undo_6 fl_X10_163 e4 ?_
  refine mG_if_ne (pc := 9) (tgt := 14) C dX10_undo_9 (by decide) (fun q5 => ?_) (fun q5 => ?_)
  · rw [if_neg q5] at hf
    refine mG_aload_n (pc := 14) C dX10_undo_14 rfl ?_
    refine mG_dup (pc := 15) C dX10_undo_15 rfl ?_
    obtain ⟨v6, e7, hf⟩ := mx_bind hf
    refine mG_getI (pc := 16) C dX10_undo_16 fl_X10_163 e7 ?_
    refine mG_ic (pc := 19) C dX10_undo_19 kI1 ?_
    refine mG_isub (pc := 20) C dX10_undo_20 ?_
    obtain ⟨h8, e9, hf⟩ := mx_bind hf
    refine mG_putI (pc := 21) C dX10_undo_21 fl_X10_163 e9 ?_
    refine mG_aload_n (pc := 24) C dX10_undo_24 rfl ?_
    obtain ⟨r10, e11, hf⟩ := mx_bind hf
    refine mG_getR (pc := 25) C dX10_undo_25 fl_X10_13 e11 ?_
    refine mG_aload_n (pc := 28) C dX10_undo_28 rfl ?_
    obtain ⟨v12, e13, hf⟩ := mx_bind hf
    refine mG_getI (pc := 29) C dX10_undo_29 fl_X10_163 e13 ?_
    refine mG_sp (pc := 32) C dX10_undo_32 kS230 ?_
    refine mG_imul (pc := 35) C dX10_undo_35 ?_
    refine mG_aload_n (pc := 36) C dX10_undo_36 rfl ?_
    obtain ⟨r14, e15, hf⟩ := mx_bind hf
    refine mG_getR (pc := 37) C dX10_undo_37 fl_X10_9 e15 ?_
    refine mG_ic (pc := 40) C dX10_undo_40 kI0 ?_
    refine mG_sp (pc := 41) C dX10_undo_41 kS230 ?_
    obtain ⟨h16, e17, hf⟩ := mx_bind hf
    refine mG_ac (pc := 44) C hX dX10_undo_44 w1237 wac e17 rfl rfl ?_
    refine mG_aload_n (pc := 47) C dX10_undo_47 rfl ?_
    obtain ⟨v18, e19, hf⟩ := mx_bind hf
    refine mG_getI (pc := 48) C dX10_undo_48 fl_X10_163 e19 ?_
    cases hf
    exact mG_ir (pc := 51) C E hX dX10_undo_51 rfl
  · rw [if_pos q5] at hf
    refine mG_ic (pc := 12) C dX10_undo_12 kIm1 ?_
    cases hf
    exact mG_ir (pc := 13) C E hX dX10_undo_13 rfl
theorem dX10_itemCount_0 : decode cX10_itemCount 0 = .ok (.aload_n 0, 1) := by decide +kernel
theorem dX10_itemCount_1 : decode cX10_itemCount 1 = .ok (.iconst 0, 1) := by decide +kernel
theorem dX10_itemCount_2 : decode cX10_itemCount 2 = .ok (.putfield 61, 3) := by decide +kernel
theorem dX10_itemCount_5 : decode cX10_itemCount 5 = .ok (.iload_n 1, 1) := by decide +kernel
theorem dX10_itemCount_6 : decode cX10_itemCount 6 = .ok (.invokestatic 172, 3) := by decide +kernel
theorem dX10_itemCount_9 : decode cX10_itemCount 9 = .ok (.ifCond .eq 11, 3) := by decide +kernel
theorem dX10_itemCount_12 : decode cX10_itemCount 12 = .ok (.aload_n 0, 1) := by decide +kernel
theorem dX10_itemCount_13 : decode cX10_itemCount 13 = .ok (.iload_n 1, 1) := by decide +kernel
theorem dX10_itemCount_14 : decode cX10_itemCount 14 = .ok (.invokevirtual 77, 3) := by decide +kernel
theorem dX10_itemCount_17 : decode cX10_itemCount 17 = .ok (.goto 8, 3) := by decide +kernel
theorem dX10_itemCount_20 : decode cX10_itemCount 20 = .ok (.aload_n 0, 1) := by decide +kernel
theorem dX10_itemCount_21 : decode cX10_itemCount 21 = .ok (.iconst 1, 1) := by decide +kernel
theorem dX10_itemCount_22 : decode cX10_itemCount 22 = .ok (.invokevirtual 178, 3) := by decide +kernel
theorem dX10_itemCount_25 : decode cX10_itemCount 25 = .ok (.ireturn, 1) := by decide +kernel
def fX10_itemCount (p0 : Nat) (p1 : Int32) (h : mxH) : Option (Int32 × mxH) := Option.bind (pI h p0 10 3 0) (fun h1 => Option.bind (fX10_isRow p1 h1) (fun v4 => Option.bind (α := (Int32 × mxH)) (if v4 = 0 then Option.bind (isO h1 p0 10) (fun u9 => Option.bind (fX10_fails p0 1 h1) (fun o12 => some (o12.1, o12.2))) else Option.bind (isO h1 p0 10) (fun u13 => Option.bind (fX10_items p0 p1 h1) (fun v16 => some (v16, h1)))) (fun p7' : (Int32 × mxH) => some (p7'.1, p7'.2))))
abbrev rmX10_itemCount : Room := { frames := 3, cells := 0, slots := 0, locals := 67 }
set_option maxRecDepth 20000 in
theorem tX10_itemCount {l : Launch} {Z : mxZ} (hl : l.stackTraces = false) {p0 : Nat} {p1 : Int32} {h : mxH} {out : (Int32 × mxH)} (hf : fX10_itemCount p0 p1 h = some out) : mxMet l Z yX10_itemCount cX10_itemCount 2 (some .int) rmX10_itemCount [.ref p0, .int p1] h (.inl (some (.int out.1))) out.2 := by
  refine mxMet_of (by decide) hl (by simp [Value.category]) (Nat.le_of_ble_eq_true rfl) ?_
  intro X C E hX hin
  unfold fX10_itemCount at hf
  refine mG_aload_n (pc := 0) C dX10_itemCount_0 rfl ?_
  refine mG_ic (pc := 1) C dX10_itemCount_1 kI0 ?_
  obtain ⟨h1, e2, hf⟩ := mx_bind hf
  refine mG_putI (pc := 2) C dX10_itemCount_2 fl_X10_61 e2 ?_
  refine mG_iload_n (pc := 5) C dX10_itemCount_5 rfl ?_
  obtain ⟨v4, e3, hf⟩ := mx_bind hf
  refine mG_cS (pc := 6) (k' := 0) (n' := 0) [.int p1] [] C hX dX10_itemCount_6 lkS_X10_172 rfl (tX10_isRow hl e3) rfl rfl rfl rfl ?_
  obtain ⟨p7, e8, hf⟩ := mx_bind hf
  have J6 : ∀ p7' : (Int32 × mxH), p7' = p7 → mG l Z X 2 0 0 25 [none, none] [.int p7'.1] p7'.2 := by
    intro p7' q17
    subst q17
    cases hf
    exact mG_ir (pc := 25) C E hX dX10_itemCount_25 rfl
  refine mG_if_eq (pc := 9) (tgt := 20) C dX10_itemCount_9 (by decide) (fun q5 => ?_) (fun q5 => ?_)
  · rw [if_pos q5] at e8
    refine mG_aload_n (pc := 20) C dX10_itemCount_20 rfl ?_
    refine mG_ic (pc := 21) C dX10_itemCount_21 kI1 ?_
    obtain ⟨u9, e10, e8⟩ := mx_bind e8
    obtain ⟨o12, e11, e8⟩ := mx_bind e8
    refine mG_cV (pc := 22) (k' := 0) (n' := 0) 10 [.int 1] [] C hX dX10_itemCount_22 lkV_X10_178 rfl rfl e10 (tX10_fails hl e11) rfl rfl rfl rfl ?_
    exact mG_sub (mxLe_n (mxLe_n mxLe_z)) (J6 _ (Option.some.inj e8))
  · rw [if_neg q5] at e8
    refine mG_aload_n (pc := 12) C dX10_itemCount_12 rfl ?_
    refine mG_iload_n (pc := 13) C dX10_itemCount_13 rfl ?_
    obtain ⟨u13, e14, e8⟩ := mx_bind e8
    obtain ⟨v16, e15, e8⟩ := mx_bind e8
    refine mG_cV (pc := 14) (k' := 0) (n' := 0) 10 [.int p1] [] C hX dX10_itemCount_14 lkV_X10_77 rfl rfl e14 (tX10_items hl e15) rfl rfl rfl rfl ?_
    refine mG_goto (tgt := 25) (pc := 17) C dX10_itemCount_17 (by decide) ?_
    exact mG_sub (mxLe_n (mxLe_n mxLe_z)) (J6 _ (Option.some.inj e8))
theorem dX10_thingAt_0 : decode cX10_thingAt 0 = .ok (.aload_n 0, 1) := by decide +kernel
theorem dX10_thingAt_1 : decode cX10_thingAt 1 = .ok (.iconst 0, 1) := by decide +kernel
theorem dX10_thingAt_2 : decode cX10_thingAt 2 = .ok (.putfield 61, 3) := by decide +kernel
theorem dX10_thingAt_5 : decode cX10_thingAt 5 = .ok (.iload_n 1, 1) := by decide +kernel
theorem dX10_thingAt_6 : decode cX10_thingAt 6 = .ok (.invokestatic 172, 3) := by decide +kernel
theorem dX10_thingAt_9 : decode cX10_thingAt 9 = .ok (.ifCond .eq 27, 3) := by decide +kernel
theorem dX10_thingAt_12 : decode cX10_thingAt 12 = .ok (.iload_n 2, 1) := by decide +kernel
theorem dX10_thingAt_13 : decode cX10_thingAt 13 = .ok (.iconst 0, 1) := by decide +kernel
theorem dX10_thingAt_14 : decode cX10_thingAt 14 = .ok (.aload_n 0, 1) := by decide +kernel
theorem dX10_thingAt_15 : decode cX10_thingAt 15 = .ok (.iload_n 1, 1) := by decide +kernel
theorem dX10_thingAt_16 : decode cX10_thingAt 16 = .ok (.invokevirtual 77, 3) := by decide +kernel
theorem dX10_thingAt_19 : decode cX10_thingAt 19 = .ok (.iconst 1, 1) := by decide +kernel
theorem dX10_thingAt_20 : decode cX10_thingAt 20 = .ok (.isub, 1) := by decide +kernel
theorem dX10_thingAt_21 : decode cX10_thingAt 21 = .ok (.invokestatic 65, 3) := by decide +kernel
theorem dX10_thingAt_24 : decode cX10_thingAt 24 = .ok (.ifCond .eq 12, 3) := by decide +kernel
theorem dX10_thingAt_27 : decode cX10_thingAt 27 = .ok (.aload_n 0, 1) := by decide +kernel
theorem dX10_thingAt_28 : decode cX10_thingAt 28 = .ok (.iload_n 1, 1) := by decide +kernel
theorem dX10_thingAt_29 : decode cX10_thingAt 29 = .ok (.iload_n 2, 1) := by decide +kernel
theorem dX10_thingAt_30 : decode cX10_thingAt 30 = .ok (.invokevirtual 99, 3) := by decide +kernel
theorem dX10_thingAt_33 : decode cX10_thingAt 33 = .ok (.goto 8, 3) := by decide +kernel
theorem dX10_thingAt_36 : decode cX10_thingAt 36 = .ok (.aload_n 0, 1) := by decide +kernel
theorem dX10_thingAt_37 : decode cX10_thingAt 37 = .ok (.iconst 1, 1) := by decide +kernel
theorem dX10_thingAt_38 : decode cX10_thingAt 38 = .ok (.invokevirtual 178, 3) := by decide +kernel
theorem dX10_thingAt_41 : decode cX10_thingAt 41 = .ok (.ireturn, 1) := by decide +kernel
def fX10_thingAt (p0 : Nat) (p1 : Int32) (p2 : Int32) (h : mxH) : Option (Int32 × mxH) := Option.bind (pI h p0 10 3 0) (fun h1 => Option.bind (fX10_isRow p1 h1) (fun v4 => Option.bind (α := (Int32 × mxH)) (if v4 = 0 then Option.bind (isO h1 p0 10) (fun u9 => Option.bind (fX10_fails p0 1 h1) (fun o12 => some (o12.1, o12.2))) else Option.bind (isO h1 p0 10) (fun u13 => Option.bind (fX10_items p0 p1 h1) (fun v16 => Option.bind (fX10_in p2 0 (v16 - 1) h1) (fun v18 => (if v18 = 0 then Option.bind (isO h1 p0 10) (fun u20 => Option.bind (fX10_fails p0 1 h1) (fun o23 => some (o23.1, o23.2))) else Option.bind (isO h1 p0 10) (fun u24 => Option.bind (fX10_thingIn p0 p1 p2 h1) (fun v27 => some (v27, h1)))))))) (fun p7' : (Int32 × mxH) => some (p7'.1, p7'.2))))
abbrev rmX10_thingAt : Room := { frames := 3, cells := 0, slots := 0, locals := 69 }
set_option maxRecDepth 20000 in
theorem tX10_thingAt {l : Launch} {Z : mxZ} (hl : l.stackTraces = false) {p0 : Nat} {p1 : Int32} {p2 : Int32} {h : mxH} {out : (Int32 × mxH)} (hf : fX10_thingAt p0 p1 p2 h = some out) : mxMet l Z yX10_thingAt cX10_thingAt 3 (some .int) rmX10_thingAt [.ref p0, .int p1, .int p2] h (.inl (some (.int out.1))) out.2 := by
  refine mxMet_of (by decide) hl (by simp [Value.category]) (Nat.le_of_ble_eq_true rfl) ?_
  intro X C E hX hin
  unfold fX10_thingAt at hf
  refine mG_aload_n (pc := 0) C dX10_thingAt_0 rfl ?_
  refine mG_ic (pc := 1) C dX10_thingAt_1 kI0 ?_
  obtain ⟨h1, e2, hf⟩ := mx_bind hf
  refine mG_putI (pc := 2) C dX10_thingAt_2 fl_X10_61 e2 ?_
  refine mG_iload_n (pc := 5) C dX10_thingAt_5 rfl ?_
  obtain ⟨v4, e3, hf⟩ := mx_bind hf
  refine mG_cS (pc := 6) (k' := 0) (n' := 0) [.int p1] [] C hX dX10_thingAt_6 lkS_X10_172 rfl (tX10_isRow hl e3) rfl rfl rfl rfl ?_
  obtain ⟨p7, e8, hf⟩ := mx_bind hf
  have J6 : ∀ p7' : (Int32 × mxH), p7' = p7 → mG l Z X 3 0 0 41 [none, none, none] [.int p7'.1] p7'.2 := by
    intro p7' q28
    subst q28
    cases hf
    exact mG_ir (pc := 41) C E hX dX10_thingAt_41 rfl
  refine mG_if_eq (pc := 9) (tgt := 36) C dX10_thingAt_9 (by decide) (fun q5 => ?_) (fun q5 => ?_)
  · rw [if_pos q5] at e8
    refine mG_aload_n (pc := 36) C dX10_thingAt_36 rfl ?_
    refine mG_ic (pc := 37) C dX10_thingAt_37 kI1 ?_
    obtain ⟨u9, e10, e8⟩ := mx_bind e8
    obtain ⟨o12, e11, e8⟩ := mx_bind e8
    refine mG_cV (pc := 38) (k' := 0) (n' := 0) 10 [.int 1] [] C hX dX10_thingAt_38 lkV_X10_178 rfl rfl e10 (tX10_fails hl e11) rfl rfl rfl rfl ?_
    exact mG_sub (mxLe_n (mxLe_n (mxLe_n mxLe_z))) (J6 _ (Option.some.inj e8))
  · rw [if_neg q5] at e8
    refine mG_iload_n (pc := 12) C dX10_thingAt_12 rfl ?_
    refine mG_ic (pc := 13) C dX10_thingAt_13 kI0 ?_
    refine mG_aload_n (pc := 14) C dX10_thingAt_14 rfl ?_
    refine mG_iload_n (pc := 15) C dX10_thingAt_15 rfl ?_
    obtain ⟨u13, e14, e8⟩ := mx_bind e8
    obtain ⟨v16, e15, e8⟩ := mx_bind e8
    refine mG_cV (pc := 16) (k' := 0) (n' := 0) 10 [.int p1] [.int 0, .int p2] C hX dX10_thingAt_16 lkV_X10_77 rfl rfl e14 (tX10_items hl e15) rfl rfl rfl rfl ?_
    refine mG_ic (pc := 19) C dX10_thingAt_19 kI1 ?_
    refine mG_isub (pc := 20) C dX10_thingAt_20 ?_
    obtain ⟨v18, e17, e8⟩ := mx_bind e8
    refine mG_cS (pc := 21) (k' := 0) (n' := 0) [.int p2, .int 0, .int (v16 - 1)] [] C hX dX10_thingAt_21 lkS_X10_65 rfl (tX10_in hl e17) rfl rfl rfl rfl ?_
    refine mG_if_eq (pc := 24) (tgt := 36) C dX10_thingAt_24 (by decide) (fun q19 => ?_) (fun q19 => ?_)
    · rw [if_pos q19] at e8
      refine mG_aload_n (pc := 36) C dX10_thingAt_36 rfl ?_
      refine mG_ic (pc := 37) C dX10_thingAt_37 kI1 ?_
      obtain ⟨u20, e21, e8⟩ := mx_bind e8
      obtain ⟨o23, e22, e8⟩ := mx_bind e8
      refine mG_cV (pc := 38) (k' := 0) (n' := 0) 10 [.int 1] [] C hX dX10_thingAt_38 lkV_X10_178 rfl rfl e21 (tX10_fails hl e22) rfl rfl rfl rfl ?_
      exact mG_sub (mxLe_n (mxLe_n (mxLe_n mxLe_z))) (J6 _ (Option.some.inj e8))
    · rw [if_neg q19] at e8
      refine mG_aload_n (pc := 27) C dX10_thingAt_27 rfl ?_
      refine mG_iload_n (pc := 28) C dX10_thingAt_28 rfl ?_
      refine mG_iload_n (pc := 29) C dX10_thingAt_29 rfl ?_
      obtain ⟨u24, e25, e8⟩ := mx_bind e8
      obtain ⟨v27, e26, e8⟩ := mx_bind e8
      refine mG_cV (pc := 30) (k' := 0) (n' := 0) 10 [.int p1, .int p2] [] C hX dX10_thingAt_30 lkV_X10_99 rfl rfl e25 (tX10_thingIn hl e26) rfl rfl rfl rfl ?_
      refine mG_goto (tgt := 41) (pc := 33) C dX10_thingAt_33 (by decide) ?_
      exact mG_sub (mxLe_n (mxLe_n (mxLe_n mxLe_z))) (J6 _ (Option.some.inj e8))
theorem dX10_markAt_0 : decode cX10_markAt 0 = .ok (.aload_n 0, 1) := by decide +kernel
theorem dX10_markAt_1 : decode cX10_markAt 1 = .ok (.iconst 0, 1) := by decide +kernel
theorem dX10_markAt_2 : decode cX10_markAt 2 = .ok (.putfield 61, 3) := by decide +kernel
theorem dX10_markAt_5 : decode cX10_markAt 5 = .ok (.iload_n 1, 1) := by decide +kernel
theorem dX10_markAt_6 : decode cX10_markAt 6 = .ok (.invokestatic 172, 3) := by decide +kernel
theorem dX10_markAt_9 : decode cX10_markAt 9 = .ok (.ifCond .eq 32, 3) := by decide +kernel
theorem dX10_markAt_12 : decode cX10_markAt 12 = .ok (.iload_n 2, 1) := by decide +kernel
theorem dX10_markAt_13 : decode cX10_markAt 13 = .ok (.iconst 0, 1) := by decide +kernel
theorem dX10_markAt_14 : decode cX10_markAt 14 = .ok (.aload_n 0, 1) := by decide +kernel
theorem dX10_markAt_15 : decode cX10_markAt 15 = .ok (.iload_n 1, 1) := by decide +kernel
theorem dX10_markAt_16 : decode cX10_markAt 16 = .ok (.invokevirtual 77, 3) := by decide +kernel
theorem dX10_markAt_19 : decode cX10_markAt 19 = .ok (.iconst 1, 1) := by decide +kernel
theorem dX10_markAt_20 : decode cX10_markAt 20 = .ok (.isub, 1) := by decide +kernel
theorem dX10_markAt_21 : decode cX10_markAt 21 = .ok (.invokestatic 65, 3) := by decide +kernel
theorem dX10_markAt_24 : decode cX10_markAt 24 = .ok (.ifCond .eq 17, 3) := by decide +kernel
theorem dX10_markAt_27 : decode cX10_markAt 27 = .ok (.aload_n 0, 1) := by decide +kernel
theorem dX10_markAt_28 : decode cX10_markAt 28 = .ok (.iload_n 1, 1) := by decide +kernel
theorem dX10_markAt_29 : decode cX10_markAt 29 = .ok (.aload_n 0, 1) := by decide +kernel
theorem dX10_markAt_30 : decode cX10_markAt 30 = .ok (.iload_n 1, 1) := by decide +kernel
theorem dX10_markAt_31 : decode cX10_markAt 31 = .ok (.iload_n 2, 1) := by decide +kernel
theorem dX10_markAt_32 : decode cX10_markAt 32 = .ok (.invokevirtual 99, 3) := by decide +kernel
theorem dX10_markAt_35 : decode cX10_markAt 35 = .ok (.invokevirtual 69, 3) := by decide +kernel
theorem dX10_markAt_38 : decode cX10_markAt 38 = .ok (.goto 8, 3) := by decide +kernel
theorem dX10_markAt_41 : decode cX10_markAt 41 = .ok (.aload_n 0, 1) := by decide +kernel
theorem dX10_markAt_42 : decode cX10_markAt 42 = .ok (.iconst 1, 1) := by decide +kernel
theorem dX10_markAt_43 : decode cX10_markAt 43 = .ok (.invokevirtual 178, 3) := by decide +kernel
theorem dX10_markAt_46 : decode cX10_markAt 46 = .ok (.ireturn, 1) := by decide +kernel
def fX10_markAt (p0 : Nat) (p1 : Int32) (p2 : Int32) (h : mxH) : Option (Int32 × mxH) := Option.bind (pI h p0 10 3 0) (fun h1 => Option.bind (fX10_isRow p1 h1) (fun v4 => Option.bind (α := (Int32 × mxH)) (if v4 = 0 then Option.bind (isO h1 p0 10) (fun u9 => Option.bind (fX10_fails p0 1 h1) (fun o12 => some (o12.1, o12.2))) else Option.bind (isO h1 p0 10) (fun u13 => Option.bind (fX10_items p0 p1 h1) (fun v16 => Option.bind (fX10_in p2 0 (v16 - 1) h1) (fun v18 => (if v18 = 0 then Option.bind (isO h1 p0 10) (fun u20 => Option.bind (fX10_fails p0 1 h1) (fun o23 => some (o23.1, o23.2))) else Option.bind (isO h1 p0 10) (fun u24 => Option.bind (fX10_thingIn p0 p1 p2 h1) (fun v27 => Option.bind (isO h1 p0 10) (fun u28 => Option.bind (fX10_mark p0 p1 v27 h1) (fun v31 => some (v31, h1)))))))))) (fun p7' : (Int32 × mxH) => some (p7'.1, p7'.2))))
abbrev rmX10_markAt : Room := { frames := 3, cells := 0, slots := 0, locals := 69 }
set_option maxRecDepth 20000 in
theorem tX10_markAt {l : Launch} {Z : mxZ} (hl : l.stackTraces = false) {p0 : Nat} {p1 : Int32} {p2 : Int32} {h : mxH} {out : (Int32 × mxH)} (hf : fX10_markAt p0 p1 p2 h = some out) : mxMet l Z yX10_markAt cX10_markAt 3 (some .int) rmX10_markAt [.ref p0, .int p1, .int p2] h (.inl (some (.int out.1))) out.2 := by
  refine mxMet_of (by decide) hl (by simp [Value.category]) (Nat.le_of_ble_eq_true rfl) ?_
  intro X C E hX hin
  unfold fX10_markAt at hf
  refine mG_aload_n (pc := 0) C dX10_markAt_0 rfl ?_
  refine mG_ic (pc := 1) C dX10_markAt_1 kI0 ?_
  obtain ⟨h1, e2, hf⟩ := mx_bind hf
  refine mG_putI (pc := 2) C dX10_markAt_2 fl_X10_61 e2 ?_
  refine mG_iload_n (pc := 5) C dX10_markAt_5 rfl ?_
  obtain ⟨v4, e3, hf⟩ := mx_bind hf
  refine mG_cS (pc := 6) (k' := 0) (n' := 0) [.int p1] [] C hX dX10_markAt_6 lkS_X10_172 rfl (tX10_isRow hl e3) rfl rfl rfl rfl ?_
  obtain ⟨p7, e8, hf⟩ := mx_bind hf
  have J6 : ∀ p7' : (Int32 × mxH), p7' = p7 → mG l Z X 3 0 0 46 [none, none, none] [.int p7'.1] p7'.2 := by
    intro p7' q32
    subst q32
    cases hf
    exact mG_ir (pc := 46) C E hX dX10_markAt_46 rfl
  refine mG_if_eq (pc := 9) (tgt := 41) C dX10_markAt_9 (by decide) (fun q5 => ?_) (fun q5 => ?_)
  · rw [if_pos q5] at e8
    refine mG_aload_n (pc := 41) C dX10_markAt_41 rfl ?_
    refine mG_ic (pc := 42) C dX10_markAt_42 kI1 ?_
    obtain ⟨u9, e10, e8⟩ := mx_bind e8
    obtain ⟨o12, e11, e8⟩ := mx_bind e8
    refine mG_cV (pc := 43) (k' := 0) (n' := 0) 10 [.int 1] [] C hX dX10_markAt_43 lkV_X10_178 rfl rfl e10 (tX10_fails hl e11) rfl rfl rfl rfl ?_
    exact mG_sub (mxLe_n (mxLe_n (mxLe_n mxLe_z))) (J6 _ (Option.some.inj e8))
  · rw [if_neg q5] at e8
    refine mG_iload_n (pc := 12) C dX10_markAt_12 rfl ?_
    refine mG_ic (pc := 13) C dX10_markAt_13 kI0 ?_
    refine mG_aload_n (pc := 14) C dX10_markAt_14 rfl ?_
    refine mG_iload_n (pc := 15) C dX10_markAt_15 rfl ?_
    obtain ⟨u13, e14, e8⟩ := mx_bind e8
    obtain ⟨v16, e15, e8⟩ := mx_bind e8
    refine mG_cV (pc := 16) (k' := 0) (n' := 0) 10 [.int p1] [.int 0, .int p2] C hX dX10_markAt_16 lkV_X10_77 rfl rfl e14 (tX10_items hl e15) rfl rfl rfl rfl ?_
    refine mG_ic (pc := 19) C dX10_markAt_19 kI1 ?_
    refine mG_isub (pc := 20) C dX10_markAt_20 ?_
    obtain ⟨v18, e17, e8⟩ := mx_bind e8
    refine mG_cS (pc := 21) (k' := 0) (n' := 0) [.int p2, .int 0, .int (v16 - 1)] [] C hX dX10_markAt_21 lkS_X10_65 rfl (tX10_in hl e17) rfl rfl rfl rfl ?_
    refine mG_if_eq (pc := 24) (tgt := 41) C dX10_markAt_24 (by decide) (fun q19 => ?_) (fun q19 => ?_)
    · rw [if_pos q19] at e8
      refine mG_aload_n (pc := 41) C dX10_markAt_41 rfl ?_
      refine mG_ic (pc := 42) C dX10_markAt_42 kI1 ?_
      obtain ⟨u20, e21, e8⟩ := mx_bind e8
      obtain ⟨o23, e22, e8⟩ := mx_bind e8
      refine mG_cV (pc := 43) (k' := 0) (n' := 0) 10 [.int 1] [] C hX dX10_markAt_43 lkV_X10_178 rfl rfl e21 (tX10_fails hl e22) rfl rfl rfl rfl ?_
      exact mG_sub (mxLe_n (mxLe_n (mxLe_n mxLe_z))) (J6 _ (Option.some.inj e8))
    · rw [if_neg q19] at e8
      refine mG_aload_n (pc := 27) C dX10_markAt_27 rfl ?_
      refine mG_iload_n (pc := 28) C dX10_markAt_28 rfl ?_
      refine mG_aload_n (pc := 29) C dX10_markAt_29 rfl ?_
      refine mG_iload_n (pc := 30) C dX10_markAt_30 rfl ?_
      refine mG_iload_n (pc := 31) C dX10_markAt_31 rfl ?_
      obtain ⟨u24, e25, e8⟩ := mx_bind e8
      obtain ⟨v27, e26, e8⟩ := mx_bind e8
      refine mG_cV (pc := 32) (k' := 0) (n' := 0) 10 [.int p1, .int p2] [.int p1, .ref p0] C hX dX10_markAt_32 lkV_X10_99 rfl rfl e25 (tX10_thingIn hl e26) rfl rfl rfl rfl ?_
      obtain ⟨u28, e29, e8⟩ := mx_bind e8
      obtain ⟨v31, e30, e8⟩ := mx_bind e8
      refine mG_cV (pc := 35) (k' := 0) (n' := 0) 10 [.int p1, .int v27] [] C hX dX10_markAt_35 lkV_X10_69 rfl rfl e29 (tX10_mark hl e30) rfl rfl rfl rfl ?_
      refine mG_goto (tgt := 46) (pc := 38) C dX10_markAt_38 (by decide) ?_
      exact mG_sub (mxLe_n (mxLe_n (mxLe_n mxLe_z))) (J6 _ (Option.some.inj e8))
theorem dX10_placeOf_0 : decode cX10_placeOf 0 = .ok (.aload_n 0, 1) := by decide +kernel
theorem dX10_placeOf_1 : decode cX10_placeOf 1 = .ok (.iconst 0, 1) := by decide +kernel
theorem dX10_placeOf_2 : decode cX10_placeOf 2 = .ok (.putfield 61, 3) := by decide +kernel
theorem dX10_placeOf_5 : decode cX10_placeOf 5 = .ok (.iload_n 1, 1) := by decide +kernel
theorem dX10_placeOf_6 : decode cX10_placeOf 6 = .ok (.invokestatic 172, 3) := by decide +kernel
theorem dX10_placeOf_9 : decode cX10_placeOf 9 = .ok (.ifCond .eq 10, 3) := by decide +kernel
theorem dX10_placeOf_12 : decode cX10_placeOf 12 = .ok (.iload_n 2, 1) := by decide +kernel
theorem dX10_placeOf_13 : decode cX10_placeOf 13 = .ok (.invokestatic 175, 3) := by decide +kernel
theorem dX10_placeOf_16 : decode cX10_placeOf 16 = .ok (.ifCond .ne 9, 3) := by decide +kernel
theorem dX10_placeOf_19 : decode cX10_placeOf 19 = .ok (.aload_n 0, 1) := by decide +kernel
theorem dX10_placeOf_20 : decode cX10_placeOf 20 = .ok (.iconst 1, 1) := by decide +kernel
theorem dX10_placeOf_21 : decode cX10_placeOf 21 = .ok (.invokevirtual 178, 3) := by decide +kernel
theorem dX10_placeOf_24 : decode cX10_placeOf 24 = .ok (.ireturn, 1) := by decide +kernel
theorem dX10_placeOf_25 : decode cX10_placeOf 25 = .ok (.aload_n 0, 1) := by decide +kernel
theorem dX10_placeOf_26 : decode cX10_placeOf 26 = .ok (.iload_n 1, 1) := by decide +kernel
theorem dX10_placeOf_27 : decode cX10_placeOf 27 = .ok (.iload_n 2, 1) := by decide +kernel
theorem dX10_placeOf_28 : decode cX10_placeOf 28 = .ok (.invokevirtual 73, 3) := by decide +kernel
theorem dX10_placeOf_31 : decode cX10_placeOf 31 = .ok (.ifCond .eq 12, 3) := by decide +kernel
theorem dX10_placeOf_34 : decode cX10_placeOf 34 = .ok (.aload_n 0, 1) := by decide +kernel
theorem dX10_placeOf_35 : decode cX10_placeOf 35 = .ok (.iload_n 1, 1) := by decide +kernel
theorem dX10_placeOf_36 : decode cX10_placeOf 36 = .ok (.iload_n 2, 1) := by decide +kernel
theorem dX10_placeOf_37 : decode cX10_placeOf 37 = .ok (.invokevirtual 86, 3) := by decide +kernel
theorem dX10_placeOf_40 : decode cX10_placeOf 40 = .ok (.goto 8, 3) := by decide +kernel
theorem dX10_placeOf_43 : decode cX10_placeOf 43 = .ok (.aload_n 0, 1) := by decide +kernel
theorem dX10_placeOf_44 : decode cX10_placeOf 44 = .ok (.iconst 2, 1) := by decide +kernel
theorem dX10_placeOf_45 : decode cX10_placeOf 45 = .ok (.invokevirtual 178, 3) := by decide +kernel
theorem dX10_placeOf_48 : decode cX10_placeOf 48 = .ok (.ireturn, 1) := by decide +kernel
def fX10_placeOf (p0 : Nat) (p1 : Int32) (p2 : Int32) (h : mxH) : Option (Int32 × mxH) := Option.bind (pI h p0 10 3 0) (fun h1 => Option.bind (fX10_isRow p1 h1) (fun v4 => (if v4 = 0 then Option.bind (isO h1 p0 10) (fun u6 => Option.bind (fX10_fails p0 1 h1) (fun o9 => some (o9.1, o9.2))) else Option.bind (fX10_isThing p2 h1) (fun v11 => (if v11 = 0 then Option.bind (isO h1 p0 10) (fun u30 => Option.bind (fX10_fails p0 1 h1) (fun o33 => some (o33.1, o33.2))) else Option.bind (isO h1 p0 10) (fun u13 => Option.bind (fX10_has p0 p1 p2 h1) (fun v16 => Option.bind (α := (Int32 × mxH)) (if v16 = 0 then Option.bind (isO h1 p0 10) (fun u21 => Option.bind (fX10_fails p0 2 h1) (fun o24 => some (o24.1, o24.2))) else Option.bind (isO h1 p0 10) (fun u25 => Option.bind (fX10_place p0 p1 p2 h1) (fun v28 => some (v28, h1)))) (fun p19' : (Int32 × mxH) => some (p19'.1, p19'.2)))))))))
abbrev rmX10_placeOf : Room := { frames := 2, cells := 0, slots := 0, locals := 46 }
set_option maxRecDepth 20000 in
theorem tX10_placeOf {l : Launch} {Z : mxZ} (hl : l.stackTraces = false) {p0 : Nat} {p1 : Int32} {p2 : Int32} {h : mxH} {out : (Int32 × mxH)} (hf : fX10_placeOf p0 p1 p2 h = some out) : mxMet l Z yX10_placeOf cX10_placeOf 3 (some .int) rmX10_placeOf [.ref p0, .int p1, .int p2] h (.inl (some (.int out.1))) out.2 := by
  refine mxMet_of (by decide) hl (by simp [Value.category]) (Nat.le_of_ble_eq_true rfl) ?_
  intro X C E hX hin
  unfold fX10_placeOf at hf
  refine mG_aload_n (pc := 0) C dX10_placeOf_0 rfl ?_
  refine mG_ic (pc := 1) C dX10_placeOf_1 kI0 ?_
  obtain ⟨h1, e2, hf⟩ := mx_bind hf
  refine mG_putI (pc := 2) C dX10_placeOf_2 fl_X10_61 e2 ?_
  refine mG_iload_n (pc := 5) C dX10_placeOf_5 rfl ?_
  obtain ⟨v4, e3, hf⟩ := mx_bind hf
  refine mG_cS (pc := 6) (k' := 0) (n' := 0) [.int p1] [] C hX dX10_placeOf_6 lkS_X10_172 rfl (tX10_isRow hl e3) rfl rfl rfl rfl ?_
  refine mG_if_eq (pc := 9) (tgt := 19) C dX10_placeOf_9 (by decide) (fun q5 => ?_) (fun q5 => ?_)
  · rw [if_pos q5] at hf
    refine mG_aload_n (pc := 19) C dX10_placeOf_19 rfl ?_
    refine mG_ic (pc := 20) C dX10_placeOf_20 kI1 ?_
    obtain ⟨u6, e7, hf⟩ := mx_bind hf
    obtain ⟨o9, e8, hf⟩ := mx_bind hf
    refine mG_cV (pc := 21) (k' := 0) (n' := 0) 10 [.int 1] [] C hX dX10_placeOf_21 lkV_X10_178 rfl rfl e7 (tX10_fails hl e8) rfl rfl rfl rfl ?_
    cases hf
    exact mG_ir (pc := 24) C E hX dX10_placeOf_24 rfl
  · rw [if_neg q5] at hf
    refine mG_iload_n (pc := 12) C dX10_placeOf_12 rfl ?_
    obtain ⟨v11, e10, hf⟩ := mx_bind hf
    refine mG_cS (pc := 13) (k' := 0) (n' := 0) [.int p2] [] C hX dX10_placeOf_13 lkS_X10_175 rfl (tX10_isThing hl e10) rfl rfl rfl rfl ?_
    refine mG_if_ne (pc := 16) (tgt := 25) C dX10_placeOf_16 (by decide) (fun q12 => ?_) (fun q12 => ?_)
    · rw [if_neg q12] at hf
      refine mG_aload_n (pc := 25) C dX10_placeOf_25 rfl ?_
      refine mG_iload_n (pc := 26) C dX10_placeOf_26 rfl ?_
      refine mG_iload_n (pc := 27) C dX10_placeOf_27 rfl ?_
      obtain ⟨u13, e14, hf⟩ := mx_bind hf
      obtain ⟨v16, e15, hf⟩ := mx_bind hf
      refine mG_cV (pc := 28) (k' := 0) (n' := 0) 10 [.int p1, .int p2] [] C hX dX10_placeOf_28 lkV_X10_73 rfl rfl e14 (tX10_has hl e15) rfl rfl rfl rfl ?_
      obtain ⟨p19, e20, hf⟩ := mx_bind hf
      have J18 : ∀ p19' : (Int32 × mxH), p19' = p19 → mG l Z X 3 0 0 48 [none, none, none] [.int p19'.1] p19'.2 := by
        intro p19' q29
        subst q29
        cases hf
        exact mG_ir (pc := 48) C E hX dX10_placeOf_48 rfl
      refine mG_if_eq (pc := 31) (tgt := 43) C dX10_placeOf_31 (by decide) (fun q17 => ?_) (fun q17 => ?_)
      · rw [if_pos q17] at e20
        refine mG_aload_n (pc := 43) C dX10_placeOf_43 rfl ?_
        refine mG_ic (pc := 44) C dX10_placeOf_44 kI2 ?_
        obtain ⟨u21, e22, e20⟩ := mx_bind e20
        obtain ⟨o24, e23, e20⟩ := mx_bind e20
        refine mG_cV (pc := 45) (k' := 0) (n' := 0) 10 [.int 2] [] C hX dX10_placeOf_45 lkV_X10_178 rfl rfl e22 (tX10_fails hl e23) rfl rfl rfl rfl ?_
        exact mG_sub (mxLe_n (mxLe_n (mxLe_n mxLe_z))) (J18 _ (Option.some.inj e20))
      · rw [if_neg q17] at e20
        refine mG_aload_n (pc := 34) C dX10_placeOf_34 rfl ?_
        refine mG_iload_n (pc := 35) C dX10_placeOf_35 rfl ?_
        refine mG_iload_n (pc := 36) C dX10_placeOf_36 rfl ?_
        obtain ⟨u25, e26, e20⟩ := mx_bind e20
        obtain ⟨v28, e27, e20⟩ := mx_bind e20
        refine mG_cV (pc := 37) (k' := 0) (n' := 0) 10 [.int p1, .int p2] [] C hX dX10_placeOf_37 lkV_X10_86 rfl rfl e26 (tX10_place hl e27) rfl rfl rfl rfl ?_
        refine mG_goto (tgt := 48) (pc := 40) C dX10_placeOf_40 (by decide) ?_
        exact mG_sub (mxLe_n (mxLe_n (mxLe_n mxLe_z))) (J18 _ (Option.some.inj e20))
    · rw [if_pos q12] at hf
      refine mG_aload_n (pc := 19) C dX10_placeOf_19 rfl ?_
      refine mG_ic (pc := 20) C dX10_placeOf_20 kI1 ?_
      obtain ⟨u30, e31, hf⟩ := mx_bind hf
      obtain ⟨o33, e32, hf⟩ := mx_bind hf
      refine mG_cV (pc := 21) (k' := 0) (n' := 0) 10 [.int 1] [] C hX dX10_placeOf_21 lkV_X10_178 rfl rfl e31 (tX10_fails hl e32) rfl rfl rfl rfl ?_
      cases hf
      exact mG_ir (pc := 24) C E hX dX10_placeOf_24 rfl
theorem dX10_value_0 : decode cX10_value 0 = .ok (.aload_n 0, 1) := by decide +kernel
theorem dX10_value_1 : decode cX10_value 1 = .ok (.iconst 0, 1) := by decide +kernel
theorem dX10_value_2 : decode cX10_value 2 = .ok (.putfield 61, 3) := by decide +kernel
theorem dX10_value_5 : decode cX10_value 5 = .ok (.iload_n 1, 1) := by decide +kernel
theorem dX10_value_6 : decode cX10_value 6 = .ok (.invokestatic 175, 3) := by decide +kernel
theorem dX10_value_9 : decode cX10_value 9 = .ok (.ifCond .eq 11, 3) := by decide +kernel
theorem dX10_value_12 : decode cX10_value 12 = .ok (.aload_n 0, 1) := by decide +kernel
theorem dX10_value_13 : decode cX10_value 13 = .ok (.iload_n 1, 1) := by decide +kernel
theorem dX10_value_14 : decode cX10_value 14 = .ok (.invokevirtual 108, 3) := by decide +kernel
theorem dX10_value_17 : decode cX10_value 17 = .ok (.goto 8, 3) := by decide +kernel
theorem dX10_value_20 : decode cX10_value 20 = .ok (.aload_n 0, 1) := by decide +kernel
theorem dX10_value_21 : decode cX10_value 21 = .ok (.iconst 1, 1) := by decide +kernel
theorem dX10_value_22 : decode cX10_value 22 = .ok (.invokevirtual 178, 3) := by decide +kernel
theorem dX10_value_25 : decode cX10_value 25 = .ok (.ireturn, 1) := by decide +kernel
def fX10_value (p0 : Nat) (p1 : Int32) (h : mxH) : Option (Int32 × mxH) := Option.bind (pI h p0 10 3 0) (fun h1 => Option.bind (fX10_isThing p1 h1) (fun v4 => Option.bind (α := (Int32 × mxH)) (if v4 = 0 then Option.bind (isO h1 p0 10) (fun u9 => Option.bind (fX10_fails p0 1 h1) (fun o12 => some (o12.1, o12.2))) else Option.bind (isO h1 p0 10) (fun u13 => Option.bind (fX10_valueOf p0 p1 h1) (fun o16 => some (o16.1, o16.2)))) (fun p7' : (Int32 × mxH) => some (p7'.1, p7'.2))))
abbrev rmX10_value : Room := { frames := 4, cells := 0, slots := 0, locals := 88 }
set_option maxRecDepth 20000 in
theorem tX10_value {l : Launch} {Z : mxZ} (hl : l.stackTraces = false) {p0 : Nat} {p1 : Int32} {h : mxH} {out : (Int32 × mxH)} (hf : fX10_value p0 p1 h = some out) : mxMet l Z yX10_value cX10_value 2 (some .int) rmX10_value [.ref p0, .int p1] h (.inl (some (.int out.1))) out.2 := by
  refine mxMet_of (by decide) hl (by simp [Value.category]) (Nat.le_of_ble_eq_true rfl) ?_
  intro X C E hX hin
  unfold fX10_value at hf
  refine mG_aload_n (pc := 0) C dX10_value_0 rfl ?_
  refine mG_ic (pc := 1) C dX10_value_1 kI0 ?_
  obtain ⟨h1, e2, hf⟩ := mx_bind hf
  refine mG_putI (pc := 2) C dX10_value_2 fl_X10_61 e2 ?_
  refine mG_iload_n (pc := 5) C dX10_value_5 rfl ?_
  obtain ⟨v4, e3, hf⟩ := mx_bind hf
  refine mG_cS (pc := 6) (k' := 0) (n' := 0) [.int p1] [] C hX dX10_value_6 lkS_X10_175 rfl (tX10_isThing hl e3) rfl rfl rfl rfl ?_
  obtain ⟨p7, e8, hf⟩ := mx_bind hf
  have J6 : ∀ p7' : (Int32 × mxH), p7' = p7 → mG l Z X 2 0 0 25 [none, none] [.int p7'.1] p7'.2 := by
    intro p7' q17
    subst q17
    cases hf
    exact mG_ir (pc := 25) C E hX dX10_value_25 rfl
  refine mG_if_eq (pc := 9) (tgt := 20) C dX10_value_9 (by decide) (fun q5 => ?_) (fun q5 => ?_)
  · rw [if_pos q5] at e8
    refine mG_aload_n (pc := 20) C dX10_value_20 rfl ?_
    refine mG_ic (pc := 21) C dX10_value_21 kI1 ?_
    obtain ⟨u9, e10, e8⟩ := mx_bind e8
    obtain ⟨o12, e11, e8⟩ := mx_bind e8
    refine mG_cV (pc := 22) (k' := 0) (n' := 0) 10 [.int 1] [] C hX dX10_value_22 lkV_X10_178 rfl rfl e10 (tX10_fails hl e11) rfl rfl rfl rfl ?_
    exact mG_sub (mxLe_n (mxLe_n mxLe_z)) (J6 _ (Option.some.inj e8))
  · rw [if_neg q5] at e8
    refine mG_aload_n (pc := 12) C dX10_value_12 rfl ?_
    refine mG_iload_n (pc := 13) C dX10_value_13 rfl ?_
    obtain ⟨u13, e14, e8⟩ := mx_bind e8
    obtain ⟨o16, e15, e8⟩ := mx_bind e8
    refine mG_cV (pc := 14) (k' := 0) (n' := 0) 10 [.int p1] [] C hX dX10_value_14 lkV_X10_108 rfl rfl e14 (tX10_valueOf hl e15) rfl rfl rfl rfl ?_
    refine mG_goto (tgt := 25) (pc := 17) C dX10_value_17 (by decide) ?_
    exact mG_sub (mxLe_n (mxLe_n mxLe_z)) (J6 _ (Option.some.inj e8))
theorem dX10_knownCount_0 : decode cX10_knownCount 0 = .ok (.aload_n 0, 1) := by decide +kernel
theorem dX10_knownCount_1 : decode cX10_knownCount 1 = .ok (.iconst 0, 1) := by decide +kernel
theorem dX10_knownCount_2 : decode cX10_knownCount 2 = .ok (.putfield 61, 3) := by decide +kernel
theorem dX10_knownCount_5 : decode cX10_knownCount 5 = .ok (.aload_n 0, 1) := by decide +kernel
theorem dX10_knownCount_6 : decode cX10_knownCount 6 = .ok (.aload_n 0, 1) := by decide +kernel
theorem dX10_knownCount_7 : decode cX10_knownCount 7 = .ok (.getfield 19, 3) := by decide +kernel
theorem dX10_knownCount_10 : decode cX10_knownCount 10 = .ok (.bipush 20, 2) := by decide +kernel
theorem dX10_knownCount_12 : decode cX10_knownCount 12 = .ok (.invokevirtual 114, 3) := by decide +kernel
theorem dX10_knownCount_15 : decode cX10_knownCount 15 = .ok (.ireturn, 1) := by decide +kernel
def fX10_knownCount (p0 : Nat) (h : mxH) : Option (Int32 × mxH) := Option.bind (pI h p0 10 3 0) (fun h1 => Option.bind (gR h1 p0 10 5) (fun r3 => Option.bind (isO h1 p0 10) (fun u5 => Option.bind (fX10_ranks p0 r3 20 h1) (fun o8 => some (o8.1, o8.2)))))
abbrev rmX10_knownCount : Room := { frames := 5, cells := 0, slots := 0, locals := 119 }
set_option maxRecDepth 20000 in
theorem tX10_knownCount {l : Launch} {Z : mxZ} (hl : l.stackTraces = false) {p0 : Nat} {h : mxH} {out : (Int32 × mxH)} (hf : fX10_knownCount p0 h = some out) : mxMet l Z yX10_knownCount cX10_knownCount 1 (some .int) rmX10_knownCount [.ref p0] h (.inl (some (.int out.1))) out.2 := by
  refine mxMet_of (by decide) hl (by simp [Value.category]) (Nat.le_of_ble_eq_true rfl) ?_
  intro X C E hX hin
  unfold fX10_knownCount at hf
  refine mG_aload_n (pc := 0) C dX10_knownCount_0 rfl ?_
  refine mG_ic (pc := 1) C dX10_knownCount_1 kI0 ?_
  obtain ⟨h1, e2, hf⟩ := mx_bind hf
  refine mG_putI (pc := 2) C dX10_knownCount_2 fl_X10_61 e2 ?_
  refine mG_aload_n (pc := 5) C dX10_knownCount_5 rfl ?_
  refine mG_aload_n (pc := 6) C dX10_knownCount_6 rfl ?_
  obtain ⟨r3, e4, hf⟩ := mx_bind hf
  refine mG_getR (pc := 7) C dX10_knownCount_7 fl_X10_19 e4 ?_
  refine mG_bp (pc := 10) C dX10_knownCount_10 kB20 ?_
  obtain ⟨u5, e6, hf⟩ := mx_bind hf
  obtain ⟨o8, e7, hf⟩ := mx_bind hf
  refine mG_cV (pc := 12) (k' := 0) (n' := 0) 10 [.ref r3, .int 20] [] C hX dX10_knownCount_12 lkV_X10_114 rfl rfl e6 (tX10_ranks hl e7) rfl rfl rfl rfl ?_
  cases hf
  exact mG_ir (pc := 15) C E hX dX10_knownCount_15 rfl
theorem dX10_ranked_0 : decode cX10_ranked 0 = .ok (.aload_n 0, 1) := by decide +kernel
theorem dX10_ranked_1 : decode cX10_ranked 1 = .ok (.iconst 0, 1) := by decide +kernel
theorem dX10_ranked_2 : decode cX10_ranked 2 = .ok (.putfield 61, 3) := by decide +kernel
theorem dX10_ranked_5 : decode cX10_ranked 5 = .ok (.iload_n 1, 1) := by decide +kernel
theorem dX10_ranked_6 : decode cX10_ranked 6 = .ok (.iconst 0, 1) := by decide +kernel
theorem dX10_ranked_7 : decode cX10_ranked 7 = .ok (.aload_n 0, 1) := by decide +kernel
theorem dX10_ranked_8 : decode cX10_ranked 8 = .ok (.aload_n 0, 1) := by decide +kernel
theorem dX10_ranked_9 : decode cX10_ranked 9 = .ok (.getfield 19, 3) := by decide +kernel
theorem dX10_ranked_12 : decode cX10_ranked 12 = .ok (.bipush 20, 2) := by decide +kernel
theorem dX10_ranked_14 : decode cX10_ranked 14 = .ok (.invokevirtual 114, 3) := by decide +kernel
theorem dX10_ranked_17 : decode cX10_ranked 17 = .ok (.iconst 1, 1) := by decide +kernel
theorem dX10_ranked_18 : decode cX10_ranked 18 = .ok (.isub, 1) := by decide +kernel
theorem dX10_ranked_19 : decode cX10_ranked 19 = .ok (.invokestatic 65, 3) := by decide +kernel
theorem dX10_ranked_22 : decode cX10_ranked 22 = .ok (.ifCond .eq 12, 3) := by decide +kernel
theorem dX10_ranked_25 : decode cX10_ranked 25 = .ok (.aload_n 0, 1) := by decide +kernel
theorem dX10_ranked_26 : decode cX10_ranked 26 = .ok (.getfield 19, 3) := by decide +kernel
theorem dX10_ranked_29 : decode cX10_ranked 29 = .ok (.iload_n 1, 1) := by decide +kernel
theorem dX10_ranked_30 : decode cX10_ranked 30 = .ok (.iaload, 1) := by decide +kernel
theorem dX10_ranked_31 : decode cX10_ranked 31 = .ok (.goto 8, 3) := by decide +kernel
theorem dX10_ranked_34 : decode cX10_ranked 34 = .ok (.aload_n 0, 1) := by decide +kernel
theorem dX10_ranked_35 : decode cX10_ranked 35 = .ok (.iconst 1, 1) := by decide +kernel
theorem dX10_ranked_36 : decode cX10_ranked 36 = .ok (.invokevirtual 178, 3) := by decide +kernel
theorem dX10_ranked_39 : decode cX10_ranked 39 = .ok (.ireturn, 1) := by decide +kernel
def fX10_ranked (p0 : Nat) (p1 : Int32) (h : mxH) : Option (Int32 × mxH) := Option.bind (pI h p0 10 3 0) (fun h1 => Option.bind (gR h1 p0 10 5) (fun r3 => Option.bind (isO h1 p0 10) (fun u5 => Option.bind (fX10_ranks p0 r3 20 h1) (fun o8 => Option.bind (fX10_in p1 0 (o8.1 - 1) o8.2) (fun v10 => Option.bind (α := (Int32 × mxH)) (if v10 = 0 then Option.bind (isO o8.2 p0 10) (fun u15 => Option.bind (fX10_fails p0 1 o8.2) (fun o18 => some (o18.1, o18.2))) else Option.bind (gR o8.2 p0 10 5) (fun r19 => Option.bind (ldI o8.2 r19 p1) (fun v21 => some (v21, o8.2)))) (fun p13' : (Int32 × mxH) => some (p13'.1, p13'.2)))))))
abbrev rmX10_ranked : Room := { frames := 5, cells := 0, slots := 0, locals := 119 }
set_option maxRecDepth 20000 in
theorem tX10_ranked {l : Launch} {Z : mxZ} (hl : l.stackTraces = false) {p0 : Nat} {p1 : Int32} {h : mxH} {out : (Int32 × mxH)} (hf : fX10_ranked p0 p1 h = some out) : mxMet l Z yX10_ranked cX10_ranked 2 (some .int) rmX10_ranked [.ref p0, .int p1] h (.inl (some (.int out.1))) out.2 := by
  refine mxMet_of (by decide) hl (by simp [Value.category]) (Nat.le_of_ble_eq_true rfl) ?_
  intro X C E hX hin
  unfold fX10_ranked at hf
  refine mG_aload_n (pc := 0) C dX10_ranked_0 rfl ?_
  refine mG_ic (pc := 1) C dX10_ranked_1 kI0 ?_
  obtain ⟨h1, e2, hf⟩ := mx_bind hf
  refine mG_putI (pc := 2) C dX10_ranked_2 fl_X10_61 e2 ?_
  refine mG_iload_n (pc := 5) C dX10_ranked_5 rfl ?_
  refine mG_ic (pc := 6) C dX10_ranked_6 kI0 ?_
  refine mG_aload_n (pc := 7) C dX10_ranked_7 rfl ?_
  refine mG_aload_n (pc := 8) C dX10_ranked_8 rfl ?_
  obtain ⟨r3, e4, hf⟩ := mx_bind hf
  refine mG_getR (pc := 9) C dX10_ranked_9 fl_X10_19 e4 ?_
  refine mG_bp (pc := 12) C dX10_ranked_12 kB20 ?_
  obtain ⟨u5, e6, hf⟩ := mx_bind hf
  obtain ⟨o8, e7, hf⟩ := mx_bind hf
  refine mG_cV (pc := 14) (k' := 0) (n' := 0) 10 [.ref r3, .int 20] [.int 0, .int p1] C hX dX10_ranked_14 lkV_X10_114 rfl rfl e6 (tX10_ranks hl e7) rfl rfl rfl rfl ?_
  refine mG_ic (pc := 17) C dX10_ranked_17 kI1 ?_
  refine mG_isub (pc := 18) C dX10_ranked_18 ?_
  obtain ⟨v10, e9, hf⟩ := mx_bind hf
  refine mG_cS (pc := 19) (k' := 0) (n' := 0) [.int p1, .int 0, .int (o8.1 - 1)] [] C hX dX10_ranked_19 lkS_X10_65 rfl (tX10_in hl e9) rfl rfl rfl rfl ?_
  obtain ⟨p13, e14, hf⟩ := mx_bind hf
  have J12 : ∀ p13' : (Int32 × mxH), p13' = p13 → mG l Z X 2 0 0 39 [none, none] [.int p13'.1] p13'.2 := by
    intro p13' q23
    subst q23
    cases hf
    exact mG_ir (pc := 39) C E hX dX10_ranked_39 rfl
  refine mG_if_eq (pc := 22) (tgt := 34) C dX10_ranked_22 (by decide) (fun q11 => ?_) (fun q11 => ?_)
  · rw [if_pos q11] at e14
    refine mG_aload_n (pc := 34) C dX10_ranked_34 rfl ?_
    refine mG_ic (pc := 35) C dX10_ranked_35 kI1 ?_
    obtain ⟨u15, e16, e14⟩ := mx_bind e14
    obtain ⟨o18, e17, e14⟩ := mx_bind e14
    refine mG_cV (pc := 36) (k' := 0) (n' := 0) 10 [.int 1] [] C hX dX10_ranked_36 lkV_X10_178 rfl rfl e16 (tX10_fails hl e17) rfl rfl rfl rfl ?_
    exact mG_sub (mxLe_n (mxLe_n mxLe_z)) (J12 _ (Option.some.inj e14))
  · rw [if_neg q11] at e14
    refine mG_aload_n (pc := 25) C dX10_ranked_25 rfl ?_
    obtain ⟨r19, e20, e14⟩ := mx_bind e14
    refine mG_getR (pc := 26) C dX10_ranked_26 fl_X10_19 e20 ?_
    refine mG_iload_n (pc := 29) C dX10_ranked_29 rfl ?_
    obtain ⟨v21, e22, e14⟩ := mx_bind e14
    refine mG_iaload (pc := 30) C dX10_ranked_30 e22 ?_
    refine mG_goto (tgt := 39) (pc := 31) C dX10_ranked_31 (by decide) ?_
    exact mG_sub (mxLe_n (mxLe_n mxLe_z)) (J12 _ (Option.some.inj e14))
theorem dX10_rankOf_0 : decode cX10_rankOf 0 = .ok (.aload_n 0, 1) := by decide +kernel
theorem dX10_rankOf_1 : decode cX10_rankOf 1 = .ok (.iconst 0, 1) := by decide +kernel
theorem dX10_rankOf_2 : decode cX10_rankOf 2 = .ok (.putfield 61, 3) := by decide +kernel
theorem dX10_rankOf_5 : decode cX10_rankOf 5 = .ok (.iload_n 1, 1) := by decide +kernel
theorem dX10_rankOf_6 : decode cX10_rankOf 6 = .ok (.invokestatic 175, 3) := by decide +kernel
theorem dX10_rankOf_9 : decode cX10_rankOf 9 = .ok (.ifCond .ne 9, 3) := by decide +kernel
theorem dX10_rankOf_12 : decode cX10_rankOf 12 = .ok (.aload_n 0, 1) := by decide +kernel
theorem dX10_rankOf_13 : decode cX10_rankOf 13 = .ok (.iconst 1, 1) := by decide +kernel
theorem dX10_rankOf_14 : decode cX10_rankOf 14 = .ok (.invokevirtual 178, 3) := by decide +kernel
theorem dX10_rankOf_17 : decode cX10_rankOf 17 = .ok (.ireturn, 1) := by decide +kernel
theorem dX10_rankOf_18 : decode cX10_rankOf 18 = .ok (.aload_n 0, 1) := by decide +kernel
theorem dX10_rankOf_19 : decode cX10_rankOf 19 = .ok (.aload_n 0, 1) := by decide +kernel
theorem dX10_rankOf_20 : decode cX10_rankOf 20 = .ok (.getfield 19, 3) := by decide +kernel
theorem dX10_rankOf_23 : decode cX10_rankOf 23 = .ok (.bipush 20, 2) := by decide +kernel
theorem dX10_rankOf_25 : decode cX10_rankOf 25 = .ok (.invokevirtual 114, 3) := by decide +kernel
theorem dX10_rankOf_28 : decode cX10_rankOf 28 = .ok (.istore_n 2, 1) := by decide +kernel
theorem dX10_rankOf_29 : decode cX10_rankOf 29 = .ok (.iconst 0, 1) := by decide +kernel
theorem dX10_rankOf_30 : decode cX10_rankOf 30 = .ok (.istore_n 3, 1) := by decide +kernel
theorem dX10_rankOf_31 : decode cX10_rankOf 31 = .ok (.iload_n 3, 1) := by decide +kernel
theorem dX10_rankOf_32 : decode cX10_rankOf 32 = .ok (.iload_n 2, 1) := by decide +kernel
theorem dX10_rankOf_33 : decode cX10_rankOf 33 = .ok (.if_icmp .ge 21, 3) := by decide +kernel
theorem dX10_rankOf_36 : decode cX10_rankOf 36 = .ok (.aload_n 0, 1) := by decide +kernel
theorem dX10_rankOf_37 : decode cX10_rankOf 37 = .ok (.getfield 19, 3) := by decide +kernel
theorem dX10_rankOf_40 : decode cX10_rankOf 40 = .ok (.iload_n 3, 1) := by decide +kernel
theorem dX10_rankOf_41 : decode cX10_rankOf 41 = .ok (.iaload, 1) := by decide +kernel
theorem dX10_rankOf_42 : decode cX10_rankOf 42 = .ok (.iload_n 1, 1) := by decide +kernel
theorem dX10_rankOf_43 : decode cX10_rankOf 43 = .ok (.if_icmp .ne 5, 3) := by decide +kernel
theorem dX10_rankOf_46 : decode cX10_rankOf 46 = .ok (.iload_n 3, 1) := by decide +kernel
theorem dX10_rankOf_47 : decode cX10_rankOf 47 = .ok (.ireturn, 1) := by decide +kernel
theorem dX10_rankOf_48 : decode cX10_rankOf 48 = .ok (.iinc 3 1, 3) := by decide +kernel
theorem dX10_rankOf_51 : decode cX10_rankOf 51 = .ok (.goto (-20), 3) := by decide +kernel
theorem dX10_rankOf_54 : decode cX10_rankOf 54 = .ok (.aload_n 0, 1) := by decide +kernel
theorem dX10_rankOf_55 : decode cX10_rankOf 55 = .ok (.iconst 2, 1) := by decide +kernel
theorem dX10_rankOf_56 : decode cX10_rankOf 56 = .ok (.invokevirtual 178, 3) := by decide +kernel
theorem dX10_rankOf_59 : decode cX10_rankOf 59 = .ok (.ireturn, 1) := by decide +kernel
def fX10_rankOf (p0 : Nat) (p1 : Int32) (h : mxH) : Option (Int32 × mxH) := Option.bind (pI h p0 10 3 0) (fun h1 => Option.bind (fX10_isThing p1 h1) (fun v4 => (if v4 = 0 then Option.bind (isO h1 p0 10) (fun u35 => Option.bind (fX10_fails p0 1 h1) (fun o38 => some (o38.1, o38.2))) else Option.bind (gR h1 p0 10 5) (fun r6 => Option.bind (isO h1 p0 10) (fun u8 => Option.bind (fX10_ranks p0 r6 20 h1) (fun o11 => Option.bind (mxLoop (ρ := (Int32 ⊕ Unit)) (fun s12 : Int32 => (if o11.1 ≤ s12 then some (Sum.inr (Sum.inr ())) else Option.bind (gR o11.2 p0 10 5) (fun r22 => Option.bind (ldI o11.2 r22 s12) (fun v24 => (if v24 = p1 then some (Sum.inr (Sum.inl s12)) else some (Sum.inl (s12 + 1))))))) mxF 0) (Sum.elim (fun r27 : Int32 => some (r27, o11.2)) (fun r29 : Unit => Option.bind (isO o11.2 p0 10) (fun u30 => Option.bind (fX10_fails p0 2 o11.2) (fun o33 => some (o33.1, o33.2)))))))))))
abbrev rmX10_rankOf : Room := { frames := 5, cells := 0, slots := 0, locals := 119 }
set_option maxRecDepth 20000 in
theorem tX10_rankOf {l : Launch} {Z : mxZ} (hl : l.stackTraces = false) {p0 : Nat} {p1 : Int32} {h : mxH} {out : (Int32 × mxH)} (hf : fX10_rankOf p0 p1 h = some out) : mxMet l Z yX10_rankOf cX10_rankOf 4 (some .int) rmX10_rankOf [.ref p0, .int p1] h (.inl (some (.int out.1))) out.2 := by
  refine mxMet_of (by decide) hl (by simp [Value.category]) (Nat.le_of_ble_eq_true rfl) ?_
  intro X C E hX hin
  unfold fX10_rankOf at hf
  refine mG_aload_n (pc := 0) C dX10_rankOf_0 rfl ?_
  refine mG_ic (pc := 1) C dX10_rankOf_1 kI0 ?_
  obtain ⟨h1, e2, hf⟩ := mx_bind hf
  refine mG_putI (pc := 2) C dX10_rankOf_2 fl_X10_61 e2 ?_
  refine mG_iload_n (pc := 5) C dX10_rankOf_5 rfl ?_
  obtain ⟨v4, e3, hf⟩ := mx_bind hf
  refine mG_cS (pc := 6) (k' := 0) (n' := 0) [.int p1] [] C hX dX10_rankOf_6 lkS_X10_175 rfl (tX10_isThing hl e3) rfl rfl rfl rfl ?_
  refine mG_if_ne (pc := 9) (tgt := 18) C dX10_rankOf_9 (by decide) (fun q5 => ?_) (fun q5 => ?_)
  · rw [if_neg q5] at hf
    refine mG_aload_n (pc := 18) C dX10_rankOf_18 rfl ?_
    refine mG_aload_n (pc := 19) C dX10_rankOf_19 rfl ?_
    obtain ⟨r6, e7, hf⟩ := mx_bind hf
    refine mG_getR (pc := 20) C dX10_rankOf_20 fl_X10_19 e7 ?_
    refine mG_bp (pc := 23) C dX10_rankOf_23 kB20 ?_
    obtain ⟨u8, e9, hf⟩ := mx_bind hf
    obtain ⟨o11, e10, hf⟩ := mx_bind hf
    refine mG_cV (pc := 25) (k' := 0) (n' := 0) 10 [.ref r6, .int 20] [] C hX dX10_rankOf_25 lkV_X10_114 rfl rfl e9 (tX10_ranks hl e10) rfl rfl rfl rfl ?_
    refine mG_isn (ls' := [some (.ref p0), some (.int p1), some (.int o11.1), none]) (pc := 28) C dX10_rankOf_28 rfl rfl rfl ?_
    refine mG_ic (pc := 29) C dX10_rankOf_29 kI0 ?_
    refine mG_isn (ls' := [some (.ref p0), some (.int p1), some (.int o11.1), some (.int 0)]) (pc := 30) C dX10_rankOf_30 rfl rfl rfl ?_
    obtain ⟨r13, e14, hf⟩ := mx_bind hf
    have J15 : ∀ r27 : Int32, Sum.inl r27 = r13 → mG l Z X 4 0 0 46 [none, none, none, some (.int r27)] [] o11.2 := by
      intro r27 q28
      subst q28
      rw [Sum.elim_inl] at hf
      refine mG_iload_n (pc := 46) C dX10_rankOf_46 rfl ?_
      cases hf
      exact mG_ir (pc := 47) C E hX dX10_rankOf_47 rfl
    have J16 : ∀ r29 : Unit, Sum.inr r29 = r13 → mG l Z X 4 0 0 54 [some (.ref p0), none, none, none] [] o11.2 := by
      intro r29 q34
      subst q34
      rw [Sum.elim_inr] at hf
      refine mG_aload_n (pc := 54) C dX10_rankOf_54 rfl ?_
      refine mG_ic (pc := 55) C dX10_rankOf_55 kI2 ?_
      obtain ⟨u30, e31, hf⟩ := mx_bind hf
      obtain ⟨o33, e32, hf⟩ := mx_bind hf
      refine mG_cV (pc := 56) (k' := 0) (n' := 0) 10 [.int 2] [] C hX dX10_rankOf_56 lkV_X10_178 rfl rfl e31 (tX10_fails hl e32) rfl rfl rfl rfl ?_
      cases hf
      exact mG_ir (pc := 59) C E hX dX10_rankOf_59 rfl
    refine mG_sub (ls' := [some (.ref p0), some (.int p1), some (.int o11.1), some (.int 0)]) (mxLe_s (mxLe_s (mxLe_s (mxLe_s mxLe_z)))) (mxLoop_ind (K := fun s12 : Int32 => mG l Z X 4 0 0 31 [some (.ref p0), some (.int p1), some (.int o11.1), some (.int s12)] [] o11.2) ?_ _ _ e14)
    intro s12 o19 e20 hK17 hx18
    refine mG_iload_n (pc := 31) C dX10_rankOf_31 rfl ?_
    refine mG_iload_n (pc := 32) C dX10_rankOf_32 rfl ?_
    refine mG_icmp_ge (pc := 33) (tgt := 54) C dX10_rankOf_33 (by decide) (fun q21 => ?_) (fun q21 => ?_)
    · rw [if_pos q21] at e20
      exact mG_sub (mxLe_s (mxLe_n (mxLe_n (mxLe_n mxLe_z)))) (J16 _ (hx18 _ (Option.some.inj e20).symm))
    · rw [if_neg q21] at e20
      refine mG_aload_n (pc := 36) C dX10_rankOf_36 rfl ?_
      obtain ⟨r22, e23, e20⟩ := mx_bind e20
      refine mG_getR (pc := 37) C dX10_rankOf_37 fl_X10_19 e23 ?_
      refine mG_iload_n (pc := 40) C dX10_rankOf_40 rfl ?_
      obtain ⟨v24, e25, e20⟩ := mx_bind e20
      refine mG_iaload (pc := 41) C dX10_rankOf_41 e25 ?_
      refine mG_iload_n (pc := 42) C dX10_rankOf_42 rfl ?_
      refine mG_icmp_ne (pc := 43) (tgt := 48) C dX10_rankOf_43 (by decide) (fun q26 => ?_) (fun q26 => ?_)
      · rw [if_neg q26] at e20
        refine mG_ii (ls' := [some (.ref p0), some (.int p1), some (.int o11.1), some (.int (s12 + 1))]) (pc := 48) C dX10_rankOf_48 rfl (kinc1 _) rfl rfl rfl ?_
        refine mG_goto (tgt := 31) (pc := 51) C dX10_rankOf_51 (by decide) ?_
        exact mG_sub (mxLe_s (mxLe_s (mxLe_s (mxLe_s mxLe_z)))) (hK17 _ (Option.some.inj e20).symm)
      · rw [if_pos q26] at e20
        exact mG_sub (mxLe_n (mxLe_n (mxLe_n (mxLe_s mxLe_z)))) (J15 _ (hx18 _ (Option.some.inj e20).symm))
  · rw [if_pos q5] at hf
    refine mG_aload_n (pc := 12) C dX10_rankOf_12 rfl ?_
    refine mG_ic (pc := 13) C dX10_rankOf_13 kI1 ?_
    obtain ⟨u35, e36, hf⟩ := mx_bind hf
    obtain ⟨o38, e37, hf⟩ := mx_bind hf
    refine mG_cV (pc := 14) (k' := 0) (n' := 0) 10 [.int 1] [] C hX dX10_rankOf_14 lkV_X10_178 rfl rfl e36 (tX10_fails hl e37) rfl rfl rfl rfl ?_
    cases hf
    exact mG_ir (pc := 17) C E hX dX10_rankOf_17 rfl
theorem dX10_limit_0 : decode cX10_limit 0 = .ok (.aload_n 0, 1) := by decide +kernel
theorem dX10_limit_1 : decode cX10_limit 1 = .ok (.iconst 0, 1) := by decide +kernel
theorem dX10_limit_2 : decode cX10_limit 2 = .ok (.putfield 61, 3) := by decide +kernel
theorem dX10_limit_5 : decode cX10_limit 5 = .ok (.iload_n 1, 1) := by decide +kernel
theorem dX10_limit_6 : decode cX10_limit 6 = .ok (.iconst 1, 1) := by decide +kernel
theorem dX10_limit_7 : decode cX10_limit 7 = .ok (.bipush 20, 2) := by decide +kernel
theorem dX10_limit_9 : decode cX10_limit 9 = .ok (.invokestatic 65, 3) := by decide +kernel
theorem dX10_limit_12 : decode cX10_limit 12 = .ok (.ifCond .eq 11, 3) := by decide +kernel
theorem dX10_limit_15 : decode cX10_limit 15 = .ok (.aload_n 0, 1) := by decide +kernel
theorem dX10_limit_16 : decode cX10_limit 16 = .ok (.iload_n 1, 1) := by decide +kernel
theorem dX10_limit_17 : decode cX10_limit 17 = .ok (.invokevirtual 118, 3) := by decide +kernel
theorem dX10_limit_20 : decode cX10_limit 20 = .ok (.goto 8, 3) := by decide +kernel
theorem dX10_limit_23 : decode cX10_limit 23 = .ok (.aload_n 0, 1) := by decide +kernel
theorem dX10_limit_24 : decode cX10_limit 24 = .ok (.iconst 1, 1) := by decide +kernel
theorem dX10_limit_25 : decode cX10_limit 25 = .ok (.invokevirtual 178, 3) := by decide +kernel
theorem dX10_limit_28 : decode cX10_limit 28 = .ok (.ireturn, 1) := by decide +kernel
def fX10_limit (p0 : Nat) (p1 : Int32) (h : mxH) : Option (Int32 × mxH) := Option.bind (pI h p0 10 3 0) (fun h1 => Option.bind (fX10_in p1 1 20 h1) (fun v4 => Option.bind (α := (Int32 × mxH)) (if v4 = 0 then Option.bind (isO h1 p0 10) (fun u9 => Option.bind (fX10_fails p0 1 h1) (fun o12 => some (o12.1, o12.2))) else Option.bind (isO h1 p0 10) (fun u13 => Option.bind (fX10_limitAt p0 p1 h1) (fun o16 => some (o16.1, o16.2)))) (fun p7' : (Int32 × mxH) => some (p7'.1, p7'.2))))
abbrev rmX10_limit : Room := { frames := 5, cells := 0, slots := 0, locals := 113 }
set_option maxRecDepth 20000 in
theorem tX10_limit {l : Launch} {Z : mxZ} (hl : l.stackTraces = false) {p0 : Nat} {p1 : Int32} {h : mxH} {out : (Int32 × mxH)} (hf : fX10_limit p0 p1 h = some out) : mxMet l Z yX10_limit cX10_limit 2 (some .int) rmX10_limit [.ref p0, .int p1] h (.inl (some (.int out.1))) out.2 := by
  refine mxMet_of (by decide) hl (by simp [Value.category]) (Nat.le_of_ble_eq_true rfl) ?_
  intro X C E hX hin
  unfold fX10_limit at hf
  refine mG_aload_n (pc := 0) C dX10_limit_0 rfl ?_
  refine mG_ic (pc := 1) C dX10_limit_1 kI0 ?_
  obtain ⟨h1, e2, hf⟩ := mx_bind hf
  refine mG_putI (pc := 2) C dX10_limit_2 fl_X10_61 e2 ?_
  refine mG_iload_n (pc := 5) C dX10_limit_5 rfl ?_
  refine mG_ic (pc := 6) C dX10_limit_6 kI1 ?_
  refine mG_bp (pc := 7) C dX10_limit_7 kB20 ?_
  obtain ⟨v4, e3, hf⟩ := mx_bind hf
  refine mG_cS (pc := 9) (k' := 0) (n' := 0) [.int p1, .int 1, .int 20] [] C hX dX10_limit_9 lkS_X10_65 rfl (tX10_in hl e3) rfl rfl rfl rfl ?_
  obtain ⟨p7, e8, hf⟩ := mx_bind hf
  have J6 : ∀ p7' : (Int32 × mxH), p7' = p7 → mG l Z X 2 0 0 28 [none, none] [.int p7'.1] p7'.2 := by
    intro p7' q17
    subst q17
    cases hf
    exact mG_ir (pc := 28) C E hX dX10_limit_28 rfl
  refine mG_if_eq (pc := 12) (tgt := 23) C dX10_limit_12 (by decide) (fun q5 => ?_) (fun q5 => ?_)
  · rw [if_pos q5] at e8
    refine mG_aload_n (pc := 23) C dX10_limit_23 rfl ?_
    refine mG_ic (pc := 24) C dX10_limit_24 kI1 ?_
    obtain ⟨u9, e10, e8⟩ := mx_bind e8
    obtain ⟨o12, e11, e8⟩ := mx_bind e8
    refine mG_cV (pc := 25) (k' := 0) (n' := 0) 10 [.int 1] [] C hX dX10_limit_25 lkV_X10_178 rfl rfl e10 (tX10_fails hl e11) rfl rfl rfl rfl ?_
    exact mG_sub (mxLe_n (mxLe_n mxLe_z)) (J6 _ (Option.some.inj e8))
  · rw [if_neg q5] at e8
    refine mG_aload_n (pc := 15) C dX10_limit_15 rfl ?_
    refine mG_iload_n (pc := 16) C dX10_limit_16 rfl ?_
    obtain ⟨u13, e14, e8⟩ := mx_bind e8
    obtain ⟨o16, e15, e8⟩ := mx_bind e8
    refine mG_cV (pc := 17) (k' := 0) (n' := 0) 10 [.int p1] [] C hX dX10_limit_17 lkV_X10_118 rfl rfl e14 (tX10_limitAt hl e15) rfl rfl rfl rfl ?_
    refine mG_goto (tgt := 28) (pc := 20) C dX10_limit_20 (by decide) ?_
    exact mG_sub (mxLe_n (mxLe_n mxLe_z)) (J6 _ (Option.some.inj e8))
theorem dX10_stopDepth_0 : decode cX10_stopDepth 0 = .ok (.aload_n 0, 1) := by decide +kernel
theorem dX10_stopDepth_1 : decode cX10_stopDepth 1 = .ok (.iconst 0, 1) := by decide +kernel
theorem dX10_stopDepth_2 : decode cX10_stopDepth 2 = .ok (.putfield 61, 3) := by decide +kernel
theorem dX10_stopDepth_5 : decode cX10_stopDepth 5 = .ok (.iload_n 1, 1) := by decide +kernel
theorem dX10_stopDepth_6 : decode cX10_stopDepth 6 = .ok (.invokestatic 187, 3) := by decide +kernel
theorem dX10_stopDepth_9 : decode cX10_stopDepth 9 = .ok (.ifCond .eq 11, 3) := by decide +kernel
theorem dX10_stopDepth_12 : decode cX10_stopDepth 12 = .ok (.aload_n 0, 1) := by decide +kernel
theorem dX10_stopDepth_13 : decode cX10_stopDepth 13 = .ok (.iload_n 1, 1) := by decide +kernel
theorem dX10_stopDepth_14 : decode cX10_stopDepth 14 = .ok (.invokevirtual 190, 3) := by decide +kernel
theorem dX10_stopDepth_17 : decode cX10_stopDepth 17 = .ok (.goto 8, 3) := by decide +kernel
theorem dX10_stopDepth_20 : decode cX10_stopDepth 20 = .ok (.aload_n 0, 1) := by decide +kernel
theorem dX10_stopDepth_21 : decode cX10_stopDepth 21 = .ok (.iconst 1, 1) := by decide +kernel
theorem dX10_stopDepth_22 : decode cX10_stopDepth 22 = .ok (.invokevirtual 178, 3) := by decide +kernel
theorem dX10_stopDepth_25 : decode cX10_stopDepth 25 = .ok (.ireturn, 1) := by decide +kernel
def fX10_stopDepth (p0 : Nat) (p1 : Int32) (h : mxH) : Option (Int32 × mxH) := Option.bind (pI h p0 10 3 0) (fun h1 => Option.bind (fX10_isK p1 h1) (fun v4 => Option.bind (α := (Int32 × mxH)) (if v4 = 0 then Option.bind (isO h1 p0 10) (fun u9 => Option.bind (fX10_fails p0 1 h1) (fun o12 => some (o12.1, o12.2))) else Option.bind (isO h1 p0 10) (fun u13 => Option.bind (fX10_stop p0 p1 h1) (fun o16 => some (o16.1, o16.2)))) (fun p7' : (Int32 × mxH) => some (p7'.1, p7'.2))))
abbrev rmX10_stopDepth : Room := { frames := 6, cells := 0, slots := 0, locals := 143 }
set_option maxRecDepth 20000 in
theorem tX10_stopDepth {l : Launch} {Z : mxZ} (hl : l.stackTraces = false) {p0 : Nat} {p1 : Int32} {h : mxH} {out : (Int32 × mxH)} (hf : fX10_stopDepth p0 p1 h = some out) : mxMet l Z yX10_stopDepth cX10_stopDepth 2 (some .int) rmX10_stopDepth [.ref p0, .int p1] h (.inl (some (.int out.1))) out.2 := by
  refine mxMet_of (by decide) hl (by simp [Value.category]) (Nat.le_of_ble_eq_true rfl) ?_
  intro X C E hX hin
  unfold fX10_stopDepth at hf
  refine mG_aload_n (pc := 0) C dX10_stopDepth_0 rfl ?_
  refine mG_ic (pc := 1) C dX10_stopDepth_1 kI0 ?_
  obtain ⟨h1, e2, hf⟩ := mx_bind hf
  refine mG_putI (pc := 2) C dX10_stopDepth_2 fl_X10_61 e2 ?_
  refine mG_iload_n (pc := 5) C dX10_stopDepth_5 rfl ?_
  obtain ⟨v4, e3, hf⟩ := mx_bind hf
  refine mG_cS (pc := 6) (k' := 0) (n' := 0) [.int p1] [] C hX dX10_stopDepth_6 lkS_X10_187 rfl (tX10_isK hl e3) rfl rfl rfl rfl ?_
  obtain ⟨p7, e8, hf⟩ := mx_bind hf
  have J6 : ∀ p7' : (Int32 × mxH), p7' = p7 → mG l Z X 2 0 0 25 [none, none] [.int p7'.1] p7'.2 := by
    intro p7' q17
    subst q17
    cases hf
    exact mG_ir (pc := 25) C E hX dX10_stopDepth_25 rfl
  refine mG_if_eq (pc := 9) (tgt := 20) C dX10_stopDepth_9 (by decide) (fun q5 => ?_) (fun q5 => ?_)
  · rw [if_pos q5] at e8
    refine mG_aload_n (pc := 20) C dX10_stopDepth_20 rfl ?_
    refine mG_ic (pc := 21) C dX10_stopDepth_21 kI1 ?_
    obtain ⟨u9, e10, e8⟩ := mx_bind e8
    obtain ⟨o12, e11, e8⟩ := mx_bind e8
    refine mG_cV (pc := 22) (k' := 0) (n' := 0) 10 [.int 1] [] C hX dX10_stopDepth_22 lkV_X10_178 rfl rfl e10 (tX10_fails hl e11) rfl rfl rfl rfl ?_
    exact mG_sub (mxLe_n (mxLe_n mxLe_z)) (J6 _ (Option.some.inj e8))
  · rw [if_neg q5] at e8
    refine mG_aload_n (pc := 12) C dX10_stopDepth_12 rfl ?_
    refine mG_iload_n (pc := 13) C dX10_stopDepth_13 rfl ?_
    obtain ⟨u13, e14, e8⟩ := mx_bind e8
    obtain ⟨o16, e15, e8⟩ := mx_bind e8
    refine mG_cV (pc := 14) (k' := 0) (n' := 0) 10 [.int p1] [] C hX dX10_stopDepth_14 lkV_X10_190 rfl rfl e14 (tX10_stop hl e15) rfl rfl rfl rfl ?_
    refine mG_goto (tgt := 25) (pc := 17) C dX10_stopDepth_17 (by decide) ?_
    exact mG_sub (mxLe_n (mxLe_n mxLe_z)) (J6 _ (Option.some.inj e8))
theorem dX10_cost_0 : decode cX10_cost 0 = .ok (.aload_n 0, 1) := by decide +kernel
theorem dX10_cost_1 : decode cX10_cost 1 = .ok (.iconst 0, 1) := by decide +kernel
theorem dX10_cost_2 : decode cX10_cost 2 = .ok (.putfield 61, 3) := by decide +kernel
theorem dX10_cost_5 : decode cX10_cost 5 = .ok (.iload_n 1, 1) := by decide +kernel
theorem dX10_cost_6 : decode cX10_cost 6 = .ok (.invokestatic 187, 3) := by decide +kernel
theorem dX10_cost_9 : decode cX10_cost 9 = .ok (.ifCond .ne 9, 3) := by decide +kernel
theorem dX10_cost_12 : decode cX10_cost 12 = .ok (.aload_n 0, 1) := by decide +kernel
theorem dX10_cost_13 : decode cX10_cost 13 = .ok (.iconst 1, 1) := by decide +kernel
theorem dX10_cost_14 : decode cX10_cost 14 = .ok (.invokevirtual 178, 3) := by decide +kernel
theorem dX10_cost_17 : decode cX10_cost 17 = .ok (.ireturn, 1) := by decide +kernel
theorem dX10_cost_18 : decode cX10_cost 18 = .ok (.aload_n 0, 1) := by decide +kernel
theorem dX10_cost_19 : decode cX10_cost 19 = .ok (.iload_n 1, 1) := by decide +kernel
theorem dX10_cost_20 : decode cX10_cost 20 = .ok (.invokevirtual 190, 3) := by decide +kernel
theorem dX10_cost_23 : decode cX10_cost 23 = .ok (.istore_n 2, 1) := by decide +kernel
theorem dX10_cost_24 : decode cX10_cost 24 = .ok (.aload_n 0, 1) := by decide +kernel
theorem dX10_cost_25 : decode cX10_cost 25 = .ok (.iload_n 2, 1) := by decide +kernel
theorem dX10_cost_26 : decode cX10_cost 26 = .ok (.invokevirtual 193, 3) := by decide +kernel
theorem dX10_cost_29 : decode cX10_cost 29 = .ok (.aload_n 0, 1) := by decide +kernel
theorem dX10_cost_30 : decode cX10_cost 30 = .ok (.getfield 9, 3) := by decide +kernel
theorem dX10_cost_33 : decode cX10_cost 33 = .ok (.bipush 106, 2) := by decide +kernel
theorem dX10_cost_35 : decode cX10_cost 35 = .ok (.iaload, 1) := by decide +kernel
theorem dX10_cost_36 : decode cX10_cost 36 = .ok (.imul, 1) := by decide +kernel
theorem dX10_cost_37 : decode cX10_cost 37 = .ok (.iconst 4, 1) := by decide +kernel
theorem dX10_cost_38 : decode cX10_cost 38 = .ok (.aload_n 0, 1) := by decide +kernel
theorem dX10_cost_39 : decode cX10_cost 39 = .ok (.aload_n 0, 1) := by decide +kernel
theorem dX10_cost_40 : decode cX10_cost 40 = .ok (.getfield 19, 3) := by decide +kernel
theorem dX10_cost_43 : decode cX10_cost 43 = .ok (.iload_n 2, 1) := by decide +kernel
theorem dX10_cost_44 : decode cX10_cost 44 = .ok (.invokevirtual 114, 3) := by decide +kernel
theorem dX10_cost_47 : decode cX10_cost 47 = .ok (.imul, 1) := by decide +kernel
theorem dX10_cost_48 : decode cX10_cost 48 = .ok (.aload_n 0, 1) := by decide +kernel
theorem dX10_cost_49 : decode cX10_cost 49 = .ok (.getfield 9, 3) := by decide +kernel
theorem dX10_cost_52 : decode cX10_cost 52 = .ok (.bipush 107, 2) := by decide +kernel
theorem dX10_cost_54 : decode cX10_cost 54 = .ok (.iaload, 1) := by decide +kernel
theorem dX10_cost_55 : decode cX10_cost 55 = .ok (.imul, 1) := by decide +kernel
theorem dX10_cost_56 : decode cX10_cost 56 = .ok (.iadd, 1) := by decide +kernel
theorem dX10_cost_57 : decode cX10_cost 57 = .ok (.ireturn, 1) := by decide +kernel
def fX10_cost (p0 : Nat) (p1 : Int32) (h : mxH) : Option (Int32 × mxH) := Option.bind (pI h p0 10 3 0) (fun h1 => Option.bind (fX10_isK p1 h1) (fun v4 => (if v4 = 0 then Option.bind (isO h1 p0 10) (fun u28 => Option.bind (fX10_fails p0 1 h1) (fun o31 => some (o31.1, o31.2))) else Option.bind (isO h1 p0 10) (fun u6 => Option.bind (fX10_stop p0 p1 h1) (fun o9 => Option.bind (isO o9.2 p0 10) (fun u10 => Option.bind (fX10_readsAt p0 o9.1 o9.2) (fun v13 => Option.bind (gR o9.2 p0 10 0) (fun r14 => Option.bind (ldI o9.2 r14 106) (fun v16 => Option.bind (gR o9.2 p0 10 5) (fun r18 => Option.bind (isO o9.2 p0 10) (fun u20 => Option.bind (fX10_ranks p0 r18 o9.1 o9.2) (fun o23 => Option.bind (gR o23.2 p0 10 0) (fun r24 => Option.bind (ldI o23.2 r24 107) (fun v26 => some ((v13 * v16) + ((4 * o23.1) * v26), o23.2)))))))))))))))
abbrev rmX10_cost : Room := { frames := 6, cells := 0, slots := 0, locals := 143 }
set_option maxRecDepth 20000 in
theorem tX10_cost {l : Launch} {Z : mxZ} (hl : l.stackTraces = false) {p0 : Nat} {p1 : Int32} {h : mxH} {out : (Int32 × mxH)} (hf : fX10_cost p0 p1 h = some out) : mxMet l Z yX10_cost cX10_cost 3 (some .int) rmX10_cost [.ref p0, .int p1] h (.inl (some (.int out.1))) out.2 := by
  refine mxMet_of (by decide) hl (by simp [Value.category]) (Nat.le_of_ble_eq_true rfl) ?_
  intro X C E hX hin
  unfold fX10_cost at hf
  refine mG_aload_n (pc := 0) C dX10_cost_0 rfl ?_
  refine mG_ic (pc := 1) C dX10_cost_1 kI0 ?_
  obtain ⟨h1, e2, hf⟩ := mx_bind hf
  refine mG_putI (pc := 2) C dX10_cost_2 fl_X10_61 e2 ?_
  refine mG_iload_n (pc := 5) C dX10_cost_5 rfl ?_
  obtain ⟨v4, e3, hf⟩ := mx_bind hf
  refine mG_cS (pc := 6) (k' := 0) (n' := 0) [.int p1] [] C hX dX10_cost_6 lkS_X10_187 rfl (tX10_isK hl e3) rfl rfl rfl rfl ?_
  refine mG_if_ne (pc := 9) (tgt := 18) C dX10_cost_9 (by decide) (fun q5 => ?_) (fun q5 => ?_)
  · rw [if_neg q5] at hf
    refine mG_aload_n (pc := 18) C dX10_cost_18 rfl ?_
    refine mG_iload_n (pc := 19) C dX10_cost_19 rfl ?_
    obtain ⟨u6, e7, hf⟩ := mx_bind hf
    obtain ⟨o9, e8, hf⟩ := mx_bind hf
    refine mG_cV (pc := 20) (k' := 0) (n' := 0) 10 [.int p1] [] C hX dX10_cost_20 lkV_X10_190 rfl rfl e7 (tX10_stop hl e8) rfl rfl rfl rfl ?_
    refine mG_isn (ls' := [some (.ref p0), some (.int p1), some (.int o9.1)]) (pc := 23) C dX10_cost_23 rfl rfl rfl ?_
    refine mG_aload_n (pc := 24) C dX10_cost_24 rfl ?_
    refine mG_iload_n (pc := 25) C dX10_cost_25 rfl ?_
    obtain ⟨u10, e11, hf⟩ := mx_bind hf
    obtain ⟨v13, e12, hf⟩ := mx_bind hf
    refine mG_cV (pc := 26) (k' := 0) (n' := 0) 10 [.int o9.1] [] C hX dX10_cost_26 lkV_X10_193 rfl rfl e11 (tX10_readsAt hl e12) rfl rfl rfl rfl ?_
    refine mG_aload_n (pc := 29) C dX10_cost_29 rfl ?_
    obtain ⟨r14, e15, hf⟩ := mx_bind hf
    refine mG_getR (pc := 30) C dX10_cost_30 fl_X10_9 e15 ?_
    refine mG_bp (pc := 33) C dX10_cost_33 kB106 ?_
    obtain ⟨v16, e17, hf⟩ := mx_bind hf
    refine mG_iaload (pc := 35) C dX10_cost_35 e17 ?_
    refine mG_imul (pc := 36) C dX10_cost_36 ?_
    refine mG_ic (pc := 37) C dX10_cost_37 kI4 ?_
    refine mG_aload_n (pc := 38) C dX10_cost_38 rfl ?_
    refine mG_aload_n (pc := 39) C dX10_cost_39 rfl ?_
    obtain ⟨r18, e19, hf⟩ := mx_bind hf
    refine mG_getR (pc := 40) C dX10_cost_40 fl_X10_19 e19 ?_
    refine mG_iload_n (pc := 43) C dX10_cost_43 rfl ?_
    obtain ⟨u20, e21, hf⟩ := mx_bind hf
    obtain ⟨o23, e22, hf⟩ := mx_bind hf
    refine mG_cV (pc := 44) (k' := 0) (n' := 0) 10 [.ref r18, .int o9.1] [.int 4, .int (v13 * v16)] C hX dX10_cost_44 lkV_X10_114 rfl rfl e21 (tX10_ranks hl e22) rfl rfl rfl rfl ?_
    refine mG_imul (pc := 47) C dX10_cost_47 ?_
    refine mG_aload_n (pc := 48) C dX10_cost_48 rfl ?_
    obtain ⟨r24, e25, hf⟩ := mx_bind hf
    refine mG_getR (pc := 49) C dX10_cost_49 fl_X10_9 e25 ?_
    refine mG_bp (pc := 52) C dX10_cost_52 kB107 ?_
    obtain ⟨v26, e27, hf⟩ := mx_bind hf
    refine mG_iaload (pc := 54) C dX10_cost_54 e27 ?_
    refine mG_imul (pc := 55) C dX10_cost_55 ?_
    refine mG_iadd (pc := 56) C dX10_cost_56 ?_
    cases hf
    exact mG_ir (pc := 57) C E hX dX10_cost_57 rfl
  · rw [if_pos q5] at hf
    refine mG_aload_n (pc := 12) C dX10_cost_12 rfl ?_
    refine mG_ic (pc := 13) C dX10_cost_13 kI1 ?_
    obtain ⟨u28, e29, hf⟩ := mx_bind hf
    obtain ⟨o31, e30, hf⟩ := mx_bind hf
    refine mG_cV (pc := 14) (k' := 0) (n' := 0) 10 [.int 1] [] C hX dX10_cost_14 lkV_X10_178 rfl rfl e29 (tX10_fails hl e30) rfl rfl rfl rfl ?_
    cases hf
    exact mG_ir (pc := 17) C E hX dX10_cost_17 rfl
theorem dX10_best_0 : decode cX10_best 0 = .ok (.aload_n 0, 1) := by decide +kernel
theorem dX10_best_1 : decode cX10_best 1 = .ok (.iconst 0, 1) := by decide +kernel
theorem dX10_best_2 : decode cX10_best 2 = .ok (.putfield 61, 3) := by decide +kernel
theorem dX10_best_5 : decode cX10_best 5 = .ok (.iload_n 1, 1) := by decide +kernel
theorem dX10_best_6 : decode cX10_best 6 = .ok (.invokestatic 187, 3) := by decide +kernel
theorem dX10_best_9 : decode cX10_best 9 = .ok (.ifCond .ne 9, 3) := by decide +kernel
theorem dX10_best_12 : decode cX10_best 12 = .ok (.aload_n 0, 1) := by decide +kernel
theorem dX10_best_13 : decode cX10_best 13 = .ok (.iconst 1, 1) := by decide +kernel
theorem dX10_best_14 : decode cX10_best 14 = .ok (.invokevirtual 178, 3) := by decide +kernel
theorem dX10_best_17 : decode cX10_best 17 = .ok (.ireturn, 1) := by decide +kernel
theorem dX10_best_18 : decode cX10_best 18 = .ok (.aload_n 0, 1) := by decide +kernel
theorem dX10_best_19 : decode cX10_best 19 = .ok (.iload_n 1, 1) := by decide +kernel
theorem dX10_best_20 : decode cX10_best 20 = .ok (.invokevirtual 190, 3) := by decide +kernel
theorem dX10_best_23 : decode cX10_best 23 = .ok (.istore_n 3, 1) := by decide +kernel
theorem dX10_best_24 : decode cX10_best 24 = .ok (.aload_n 0, 1) := by decide +kernel
theorem dX10_best_25 : decode cX10_best 25 = .ok (.aload_n 0, 1) := by decide +kernel
theorem dX10_best_26 : decode cX10_best 26 = .ok (.getfield 19, 3) := by decide +kernel
theorem dX10_best_29 : decode cX10_best 29 = .ok (.iload_n 3, 1) := by decide +kernel
theorem dX10_best_30 : decode cX10_best 30 = .ok (.invokevirtual 114, 3) := by decide +kernel
theorem dX10_best_33 : decode cX10_best 33 = .ok (.istore 4, 2) := by decide +kernel
theorem dX10_best_35 : decode cX10_best 35 = .ok (.iload_n 2, 1) := by decide +kernel
theorem dX10_best_36 : decode cX10_best 36 = .ok (.iconst 0, 1) := by decide +kernel
theorem dX10_best_37 : decode cX10_best 37 = .ok (.iload 4, 2) := by decide +kernel
theorem dX10_best_39 : decode cX10_best 39 = .ok (.iload_n 1, 1) := by decide +kernel
theorem dX10_best_40 : decode cX10_best 40 = .ok (.invokestatic 134, 3) := by decide +kernel
theorem dX10_best_43 : decode cX10_best 43 = .ok (.iconst 1, 1) := by decide +kernel
theorem dX10_best_44 : decode cX10_best 44 = .ok (.isub, 1) := by decide +kernel
theorem dX10_best_45 : decode cX10_best 45 = .ok (.invokestatic 65, 3) := by decide +kernel
theorem dX10_best_48 : decode cX10_best 48 = .ok (.ifCond .eq 12, 3) := by decide +kernel
theorem dX10_best_51 : decode cX10_best 51 = .ok (.aload_n 0, 1) := by decide +kernel
theorem dX10_best_52 : decode cX10_best 52 = .ok (.getfield 19, 3) := by decide +kernel
theorem dX10_best_55 : decode cX10_best 55 = .ok (.iload_n 2, 1) := by decide +kernel
theorem dX10_best_56 : decode cX10_best 56 = .ok (.iaload, 1) := by decide +kernel
theorem dX10_best_57 : decode cX10_best 57 = .ok (.goto 8, 3) := by decide +kernel
theorem dX10_best_60 : decode cX10_best 60 = .ok (.aload_n 0, 1) := by decide +kernel
theorem dX10_best_61 : decode cX10_best 61 = .ok (.iconst 2, 1) := by decide +kernel
theorem dX10_best_62 : decode cX10_best 62 = .ok (.invokevirtual 178, 3) := by decide +kernel
theorem dX10_best_65 : decode cX10_best 65 = .ok (.ireturn, 1) := by decide +kernel
def fX10_best (p0 : Nat) (p1 : Int32) (p2 : Int32) (h : mxH) : Option (Int32 × mxH) := Option.bind (pI h p0 10 3 0) (fun h1 => Option.bind (fX10_isK p1 h1) (fun v4 => (if v4 = 0 then Option.bind (isO h1 p0 10) (fun u31 => Option.bind (fX10_fails p0 1 h1) (fun o34 => some (o34.1, o34.2))) else Option.bind (isO h1 p0 10) (fun u6 => Option.bind (fX10_stop p0 p1 h1) (fun o9 => Option.bind (gR o9.2 p0 10 5) (fun r10 => Option.bind (isO o9.2 p0 10) (fun u12 => Option.bind (fX10_ranks p0 r10 o9.1 o9.2) (fun o15 => Option.bind (fX10_in p2 0 ((mxMin o15.1 p1) - 1) o15.2) (fun v17 => Option.bind (α := (Int32 × mxH)) (if v17 = 0 then Option.bind (isO o15.2 p0 10) (fun u22 => Option.bind (fX10_fails p0 2 o15.2) (fun o25 => some (o25.1, o25.2))) else Option.bind (gR o15.2 p0 10 5) (fun r26 => Option.bind (ldI o15.2 r26 p2) (fun v28 => some (v28, o15.2)))) (fun p20' : (Int32 × mxH) => some (p20'.1, p20'.2)))))))))))
abbrev rmX10_best : Room := { frames := 6, cells := 0, slots := 0, locals := 143 }
set_option maxRecDepth 20000 in
theorem tX10_best {l : Launch} {Z : mxZ} (hl : l.stackTraces = false) {p0 : Nat} {p1 : Int32} {p2 : Int32} {h : mxH} {out : (Int32 × mxH)} (hf : fX10_best p0 p1 p2 h = some out) : mxMet l Z yX10_best cX10_best 5 (some .int) rmX10_best [.ref p0, .int p1, .int p2] h (.inl (some (.int out.1))) out.2 := by
  refine mxMet_of (by decide) hl (by simp [Value.category]) (Nat.le_of_ble_eq_true rfl) ?_
  intro X C E hX hin
  unfold fX10_best at hf
  refine mG_aload_n (pc := 0) C dX10_best_0 rfl ?_
  refine mG_ic (pc := 1) C dX10_best_1 kI0 ?_
  obtain ⟨h1, e2, hf⟩ := mx_bind hf
  refine mG_putI (pc := 2) C dX10_best_2 fl_X10_61 e2 ?_
  refine mG_iload_n (pc := 5) C dX10_best_5 rfl ?_
  obtain ⟨v4, e3, hf⟩ := mx_bind hf
  refine mG_cS (pc := 6) (k' := 0) (n' := 0) [.int p1] [] C hX dX10_best_6 lkS_X10_187 rfl (tX10_isK hl e3) rfl rfl rfl rfl ?_
  refine mG_if_ne (pc := 9) (tgt := 18) C dX10_best_9 (by decide) (fun q5 => ?_) (fun q5 => ?_)
  · rw [if_neg q5] at hf
    refine mG_aload_n (pc := 18) C dX10_best_18 rfl ?_
    refine mG_iload_n (pc := 19) C dX10_best_19 rfl ?_
    obtain ⟨u6, e7, hf⟩ := mx_bind hf
    obtain ⟨o9, e8, hf⟩ := mx_bind hf
    refine mG_cV (pc := 20) (k' := 0) (n' := 0) 10 [.int p1] [] C hX dX10_best_20 lkV_X10_190 rfl rfl e7 (tX10_stop hl e8) rfl rfl rfl rfl ?_
    refine mG_isn (ls' := [some (.ref p0), some (.int p1), some (.int p2), some (.int o9.1), none]) (pc := 23) C dX10_best_23 rfl rfl rfl ?_
    refine mG_aload_n (pc := 24) C dX10_best_24 rfl ?_
    refine mG_aload_n (pc := 25) C dX10_best_25 rfl ?_
    obtain ⟨r10, e11, hf⟩ := mx_bind hf
    refine mG_getR (pc := 26) C dX10_best_26 fl_X10_19 e11 ?_
    refine mG_iload_n (pc := 29) C dX10_best_29 rfl ?_
    obtain ⟨u12, e13, hf⟩ := mx_bind hf
    obtain ⟨o15, e14, hf⟩ := mx_bind hf
    refine mG_cV (pc := 30) (k' := 0) (n' := 0) 10 [.ref r10, .int o9.1] [] C hX dX10_best_30 lkV_X10_114 rfl rfl e13 (tX10_ranks hl e14) rfl rfl rfl rfl ?_
    refine mG_is (ls' := [some (.ref p0), some (.int p1), some (.int p2), some (.int o9.1), some (.int o15.1)]) (pc := 33) C dX10_best_33 rfl rfl rfl ?_
    refine mG_iload_n (pc := 35) C dX10_best_35 rfl ?_
    refine mG_ic (pc := 36) C dX10_best_36 kI0 ?_
    refine mG_iload (pc := 37) C dX10_best_37 rfl ?_
    refine mG_iload_n (pc := 39) C dX10_best_39 rfl ?_
    refine mG_mn (pc := 40) C hX dX10_best_40 w1382 wmin rfl rfl ?_
    refine mG_ic (pc := 43) C dX10_best_43 kI1 ?_
    refine mG_isub (pc := 44) C dX10_best_44 ?_
    obtain ⟨v17, e16, hf⟩ := mx_bind hf
    refine mG_cS (pc := 45) (k' := 0) (n' := 0) [.int p2, .int 0, .int ((mxMin o15.1 p1) - 1)] [] C hX dX10_best_45 lkS_X10_65 rfl (tX10_in hl e16) rfl rfl rfl rfl ?_
    obtain ⟨p20, e21, hf⟩ := mx_bind hf
    have J19 : ∀ p20' : (Int32 × mxH), p20' = p20 → mG l Z X 5 0 0 65 [none, none, none, none, none] [.int p20'.1] p20'.2 := by
      intro p20' q30
      subst q30
      cases hf
      exact mG_ir (pc := 65) C E hX dX10_best_65 rfl
    refine mG_if_eq (pc := 48) (tgt := 60) C dX10_best_48 (by decide) (fun q18 => ?_) (fun q18 => ?_)
    · rw [if_pos q18] at e21
      refine mG_aload_n (pc := 60) C dX10_best_60 rfl ?_
      refine mG_ic (pc := 61) C dX10_best_61 kI2 ?_
      obtain ⟨u22, e23, e21⟩ := mx_bind e21
      obtain ⟨o25, e24, e21⟩ := mx_bind e21
      refine mG_cV (pc := 62) (k' := 0) (n' := 0) 10 [.int 2] [] C hX dX10_best_62 lkV_X10_178 rfl rfl e23 (tX10_fails hl e24) rfl rfl rfl rfl ?_
      exact mG_sub (mxLe_n (mxLe_n (mxLe_n (mxLe_n (mxLe_n mxLe_z))))) (J19 _ (Option.some.inj e21))
    · rw [if_neg q18] at e21
      refine mG_aload_n (pc := 51) C dX10_best_51 rfl ?_
      obtain ⟨r26, e27, e21⟩ := mx_bind e21
      refine mG_getR (pc := 52) C dX10_best_52 fl_X10_19 e27 ?_
      refine mG_iload_n (pc := 55) C dX10_best_55 rfl ?_
      obtain ⟨v28, e29, e21⟩ := mx_bind e21
      refine mG_iaload (pc := 56) C dX10_best_56 e29 ?_
      refine mG_goto (tgt := 65) (pc := 57) C dX10_best_57 (by decide) ?_
      exact mG_sub (mxLe_n (mxLe_n (mxLe_n (mxLe_n (mxLe_n mxLe_z))))) (J19 _ (Option.some.inj e21))
  · rw [if_pos q5] at hf
    refine mG_aload_n (pc := 12) C dX10_best_12 rfl ?_
    refine mG_ic (pc := 13) C dX10_best_13 kI1 ?_
    obtain ⟨u31, e32, hf⟩ := mx_bind hf
    obtain ⟨o34, e33, hf⟩ := mx_bind hf
    refine mG_cV (pc := 14) (k' := 0) (n' := 0) 10 [.int 1] [] C hX dX10_best_14 lkV_X10_178 rfl rfl e32 (tX10_fails hl e33) rfl rfl rfl rfl ?_
    cases hf
    exact mG_ir (pc := 17) C E hX dX10_best_17 rfl
theorem dX10_refute_0 : decode cX10_refute 0 = .ok (.aload_n 0, 1) := by decide +kernel
theorem dX10_refute_1 : decode cX10_refute 1 = .ok (.iconst 0, 1) := by decide +kernel
theorem dX10_refute_2 : decode cX10_refute 2 = .ok (.putfield 61, 3) := by decide +kernel
theorem dX10_refute_5 : decode cX10_refute 5 = .ok (.iload_n 1, 1) := by decide +kernel
theorem dX10_refute_6 : decode cX10_refute 6 = .ok (.invokestatic 187, 3) := by decide +kernel
theorem dX10_refute_9 : decode cX10_refute 9 = .ok (.ifCond .eq 13, 3) := by decide +kernel
theorem dX10_refute_12 : decode cX10_refute 12 = .ok (.iload_n 2, 1) := by decide +kernel
theorem dX10_refute_13 : decode cX10_refute 13 = .ok (.iconst 0, 1) := by decide +kernel
theorem dX10_refute_14 : decode cX10_refute 14 = .ok (.bipush 20, 2) := by decide +kernel
theorem dX10_refute_16 : decode cX10_refute 16 = .ok (.invokestatic 65, 3) := by decide +kernel
theorem dX10_refute_19 : decode cX10_refute 19 = .ok (.ifCond .ne 9, 3) := by decide +kernel
theorem dX10_refute_22 : decode cX10_refute 22 = .ok (.aload_n 0, 1) := by decide +kernel
theorem dX10_refute_23 : decode cX10_refute 23 = .ok (.iconst 1, 1) := by decide +kernel
theorem dX10_refute_24 : decode cX10_refute 24 = .ok (.invokevirtual 178, 3) := by decide +kernel
theorem dX10_refute_27 : decode cX10_refute 27 = .ok (.ireturn, 1) := by decide +kernel
theorem dX10_refute_28 : decode cX10_refute 28 = .ok (.iload_n 2, 1) := by decide +kernel
theorem dX10_refute_29 : decode cX10_refute 29 = .ok (.aload_n 0, 1) := by decide +kernel
theorem dX10_refute_30 : decode cX10_refute 30 = .ok (.iload_n 1, 1) := by decide +kernel
theorem dX10_refute_31 : decode cX10_refute 31 = .ok (.invokevirtual 190, 3) := by decide +kernel
theorem dX10_refute_34 : decode cX10_refute 34 = .ok (.if_icmp .lt 9, 3) := by decide +kernel
theorem dX10_refute_37 : decode cX10_refute 37 = .ok (.aload_n 0, 1) := by decide +kernel
theorem dX10_refute_38 : decode cX10_refute 38 = .ok (.iconst 2, 1) := by decide +kernel
theorem dX10_refute_39 : decode cX10_refute 39 = .ok (.invokevirtual 178, 3) := by decide +kernel
theorem dX10_refute_42 : decode cX10_refute 42 = .ok (.ireturn, 1) := by decide +kernel
theorem dX10_refute_43 : decode cX10_refute 43 = .ok (.iconst 0, 1) := by decide +kernel
theorem dX10_refute_44 : decode cX10_refute 44 = .ok (.istore_n 3, 1) := by decide +kernel
theorem dX10_refute_45 : decode cX10_refute 45 = .ok (.iload_n 3, 1) := by decide +kernel
theorem dX10_refute_46 : decode cX10_refute 46 = .ok (.bipush 20, 2) := by decide +kernel
theorem dX10_refute_48 : decode cX10_refute 48 = .ok (.if_icmp .ge 20, 3) := by decide +kernel
theorem dX10_refute_51 : decode cX10_refute 51 = .ok (.aload_n 0, 1) := by decide +kernel
theorem dX10_refute_52 : decode cX10_refute 52 = .ok (.iload_n 3, 1) := by decide +kernel
theorem dX10_refute_53 : decode cX10_refute 53 = .ok (.iload_n 2, 1) := by decide +kernel
theorem dX10_refute_54 : decode cX10_refute 54 = .ok (.invokevirtual 105, 3) := by decide +kernel
theorem dX10_refute_57 : decode cX10_refute 57 = .ok (.ifCond .ne 5, 3) := by decide +kernel
theorem dX10_refute_60 : decode cX10_refute 60 = .ok (.iload_n 3, 1) := by decide +kernel
theorem dX10_refute_61 : decode cX10_refute 61 = .ok (.ireturn, 1) := by decide +kernel
theorem dX10_refute_62 : decode cX10_refute 62 = .ok (.iinc 3 1, 3) := by decide +kernel
theorem dX10_refute_65 : decode cX10_refute 65 = .ok (.goto (-20), 3) := by decide +kernel
theorem dX10_refute_68 : decode cX10_refute 68 = .ok (.aload_n 0, 1) := by decide +kernel
theorem dX10_refute_69 : decode cX10_refute 69 = .ok (.iconst 2, 1) := by decide +kernel
theorem dX10_refute_70 : decode cX10_refute 70 = .ok (.invokevirtual 178, 3) := by decide +kernel
theorem dX10_refute_73 : decode cX10_refute 73 = .ok (.ireturn, 1) := by decide +kernel
def fX10_refute (p0 : Nat) (p1 : Int32) (p2 : Int32) (h : mxH) : Option (Int32 × mxH) := Option.bind (pI h p0 10 3 0) (fun h1 => Option.bind (fX10_isK p1 h1) (fun v4 => (if v4 = 0 then Option.bind (isO h1 p0 10) (fun u6 => Option.bind (fX10_fails p0 1 h1) (fun o9 => some (o9.1, o9.2))) else Option.bind (fX10_in p2 0 20 h1) (fun v11 => (if v11 = 0 then Option.bind (isO h1 p0 10) (fun u45 => Option.bind (fX10_fails p0 1 h1) (fun o48 => some (o48.1, o48.2))) else Option.bind (isO h1 p0 10) (fun u13 => Option.bind (fX10_stop p0 p1 h1) (fun o16 => (if p2 < o16.1 then Option.bind (mxLoop (ρ := (Int32 ⊕ Unit)) (fun s18 : Int32 => (if 20 ≤ s18 then some (Sum.inr (Sum.inr ())) else Option.bind (isO o16.2 p0 10) (fun u28 => Option.bind (fX10_isReadAt p0 s18 p2 o16.2) (fun v31 => (if v31 = 0 then some (Sum.inr (Sum.inl s18)) else some (Sum.inl (s18 + 1))))))) mxF 0) (Sum.elim (fun r33 : Int32 => some (r33, o16.2)) (fun r35 : Unit => Option.bind (isO o16.2 p0 10) (fun u36 => Option.bind (fX10_fails p0 2 o16.2) (fun o39 => some (o39.1, o39.2))))) else Option.bind (isO o16.2 p0 10) (fun u41 => Option.bind (fX10_fails p0 2 o16.2) (fun o44 => some (o44.1, o44.2)))))))))))
abbrev rmX10_refute : Room := { frames := 6, cells := 0, slots := 0, locals := 143 }
set_option maxRecDepth 20000 in
theorem tX10_refute {l : Launch} {Z : mxZ} (hl : l.stackTraces = false) {p0 : Nat} {p1 : Int32} {p2 : Int32} {h : mxH} {out : (Int32 × mxH)} (hf : fX10_refute p0 p1 p2 h = some out) : mxMet l Z yX10_refute cX10_refute 4 (some .int) rmX10_refute [.ref p0, .int p1, .int p2] h (.inl (some (.int out.1))) out.2 := by
  refine mxMet_of (by decide) hl (by simp [Value.category]) (Nat.le_of_ble_eq_true rfl) ?_
  intro X C E hX hin
  unfold fX10_refute at hf
  refine mG_aload_n (pc := 0) C dX10_refute_0 rfl ?_
  refine mG_ic (pc := 1) C dX10_refute_1 kI0 ?_
  obtain ⟨h1, e2, hf⟩ := mx_bind hf
  refine mG_putI (pc := 2) C dX10_refute_2 fl_X10_61 e2 ?_
  refine mG_iload_n (pc := 5) C dX10_refute_5 rfl ?_
  obtain ⟨v4, e3, hf⟩ := mx_bind hf
  refine mG_cS (pc := 6) (k' := 0) (n' := 0) [.int p1] [] C hX dX10_refute_6 lkS_X10_187 rfl (tX10_isK hl e3) rfl rfl rfl rfl ?_
  refine mG_if_eq (pc := 9) (tgt := 22) C dX10_refute_9 (by decide) (fun q5 => ?_) (fun q5 => ?_)
  · rw [if_pos q5] at hf
    refine mG_aload_n (pc := 22) C dX10_refute_22 rfl ?_
    refine mG_ic (pc := 23) C dX10_refute_23 kI1 ?_
    obtain ⟨u6, e7, hf⟩ := mx_bind hf
    obtain ⟨o9, e8, hf⟩ := mx_bind hf
    refine mG_cV (pc := 24) (k' := 0) (n' := 0) 10 [.int 1] [] C hX dX10_refute_24 lkV_X10_178 rfl rfl e7 (tX10_fails hl e8) rfl rfl rfl rfl ?_
    cases hf
    exact mG_ir (pc := 27) C E hX dX10_refute_27 rfl
  · rw [if_neg q5] at hf
    refine mG_iload_n (pc := 12) C dX10_refute_12 rfl ?_
    refine mG_ic (pc := 13) C dX10_refute_13 kI0 ?_
    refine mG_bp (pc := 14) C dX10_refute_14 kB20 ?_
    obtain ⟨v11, e10, hf⟩ := mx_bind hf
    refine mG_cS (pc := 16) (k' := 0) (n' := 0) [.int p2, .int 0, .int 20] [] C hX dX10_refute_16 lkS_X10_65 rfl (tX10_in hl e10) rfl rfl rfl rfl ?_
    refine mG_if_ne (pc := 19) (tgt := 28) C dX10_refute_19 (by decide) (fun q12 => ?_) (fun q12 => ?_)
    · rw [if_neg q12] at hf
      refine mG_iload_n (pc := 28) C dX10_refute_28 rfl ?_
      refine mG_aload_n (pc := 29) C dX10_refute_29 rfl ?_
      refine mG_iload_n (pc := 30) C dX10_refute_30 rfl ?_
      obtain ⟨u13, e14, hf⟩ := mx_bind hf
      obtain ⟨o16, e15, hf⟩ := mx_bind hf
      refine mG_cV (pc := 31) (k' := 0) (n' := 0) 10 [.int p1] [.int p2] C hX dX10_refute_31 lkV_X10_190 rfl rfl e14 (tX10_stop hl e15) rfl rfl rfl rfl ?_
      refine mG_icmp_lt (pc := 34) (tgt := 43) C dX10_refute_34 (by decide) (fun q17 => ?_) (fun q17 => ?_)
      · rw [if_pos q17] at hf
        refine mG_ic (pc := 43) C dX10_refute_43 kI0 ?_
        refine mG_isn (ls' := [some (.ref p0), some (.int p1), some (.int p2), some (.int 0)]) (pc := 44) C dX10_refute_44 rfl rfl rfl ?_
        obtain ⟨r19, e20, hf⟩ := mx_bind hf
        have J21 : ∀ r33 : Int32, Sum.inl r33 = r19 → mG l Z X 4 0 0 60 [none, none, none, some (.int r33)] [] o16.2 := by
          intro r33 q34
          subst q34
          rw [Sum.elim_inl] at hf
          refine mG_iload_n (pc := 60) C dX10_refute_60 rfl ?_
          cases hf
          exact mG_ir (pc := 61) C E hX dX10_refute_61 rfl
        have J22 : ∀ r35 : Unit, Sum.inr r35 = r19 → mG l Z X 4 0 0 68 [some (.ref p0), none, none, none] [] o16.2 := by
          intro r35 q40
          subst q40
          rw [Sum.elim_inr] at hf
          refine mG_aload_n (pc := 68) C dX10_refute_68 rfl ?_
          refine mG_ic (pc := 69) C dX10_refute_69 kI2 ?_
          obtain ⟨u36, e37, hf⟩ := mx_bind hf
          obtain ⟨o39, e38, hf⟩ := mx_bind hf
          refine mG_cV (pc := 70) (k' := 0) (n' := 0) 10 [.int 2] [] C hX dX10_refute_70 lkV_X10_178 rfl rfl e37 (tX10_fails hl e38) rfl rfl rfl rfl ?_
          cases hf
          exact mG_ir (pc := 73) C E hX dX10_refute_73 rfl
        refine mG_sub (ls' := [some (.ref p0), none, some (.int p2), some (.int 0)]) (mxLe_s (mxLe_n (mxLe_s (mxLe_s mxLe_z)))) (mxLoop_ind (K := fun s18 : Int32 => mG l Z X 4 0 0 45 [some (.ref p0), none, some (.int p2), some (.int s18)] [] o16.2) ?_ _ _ e20)
        intro s18 o25 e26 hK23 hx24
        refine mG_iload_n (pc := 45) C dX10_refute_45 rfl ?_
        refine mG_bp (pc := 46) C dX10_refute_46 kB20 ?_
        refine mG_icmp_ge (pc := 48) (tgt := 68) C dX10_refute_48 (by decide) (fun q27 => ?_) (fun q27 => ?_)
        · rw [if_pos q27] at e26
          exact mG_sub (mxLe_s (mxLe_n (mxLe_n (mxLe_n mxLe_z)))) (J22 _ (hx24 _ (Option.some.inj e26).symm))
        · rw [if_neg q27] at e26
          refine mG_aload_n (pc := 51) C dX10_refute_51 rfl ?_
          refine mG_iload_n (pc := 52) C dX10_refute_52 rfl ?_
          refine mG_iload_n (pc := 53) C dX10_refute_53 rfl ?_
          obtain ⟨u28, e29, e26⟩ := mx_bind e26
          obtain ⟨v31, e30, e26⟩ := mx_bind e26
          refine mG_cV (pc := 54) (k' := 0) (n' := 0) 10 [.int s18, .int p2] [] C hX dX10_refute_54 lkV_X10_105 rfl rfl e29 (tX10_isReadAt hl e30) rfl rfl rfl rfl ?_
          refine mG_if_ne (pc := 57) (tgt := 62) C dX10_refute_57 (by decide) (fun q32 => ?_) (fun q32 => ?_)
          · rw [if_neg q32] at e26
            refine mG_ii (ls' := [some (.ref p0), none, some (.int p2), some (.int (s18 + 1))]) (pc := 62) C dX10_refute_62 rfl (kinc1 _) rfl rfl rfl ?_
            refine mG_goto (tgt := 45) (pc := 65) C dX10_refute_65 (by decide) ?_
            exact mG_sub (mxLe_s (mxLe_n (mxLe_s (mxLe_s mxLe_z)))) (hK23 _ (Option.some.inj e26).symm)
          · rw [if_pos q32] at e26
            exact mG_sub (mxLe_n (mxLe_n (mxLe_n (mxLe_s mxLe_z)))) (J21 _ (hx24 _ (Option.some.inj e26).symm))
      · rw [if_neg q17] at hf
        refine mG_aload_n (pc := 37) C dX10_refute_37 rfl ?_
        refine mG_ic (pc := 38) C dX10_refute_38 kI2 ?_
        obtain ⟨u41, e42, hf⟩ := mx_bind hf
        obtain ⟨o44, e43, hf⟩ := mx_bind hf
        refine mG_cV (pc := 39) (k' := 0) (n' := 0) 10 [.int 2] [] C hX dX10_refute_39 lkV_X10_178 rfl rfl e42 (tX10_fails hl e43) rfl rfl rfl rfl ?_
        cases hf
        exact mG_ir (pc := 42) C E hX dX10_refute_42 rfl
    · rw [if_pos q12] at hf
      refine mG_aload_n (pc := 22) C dX10_refute_22 rfl ?_
      refine mG_ic (pc := 23) C dX10_refute_23 kI1 ?_
      obtain ⟨u45, e46, hf⟩ := mx_bind hf
      obtain ⟨o48, e47, hf⟩ := mx_bind hf
      refine mG_cV (pc := 24) (k' := 0) (n' := 0) 10 [.int 1] [] C hX dX10_refute_24 lkV_X10_178 rfl rfl e46 (tX10_fails hl e47) rfl rfl rfl rfl ?_
      cases hf
      exact mG_ir (pc := 27) C E hX dX10_refute_27 rfl
theorem dX10_lower_0 : decode cX10_lower 0 = .ok (.aload_n 0, 1) := by decide +kernel
theorem dX10_lower_1 : decode cX10_lower 1 = .ok (.iconst 0, 1) := by decide +kernel
theorem dX10_lower_2 : decode cX10_lower 2 = .ok (.putfield 61, 3) := by decide +kernel
theorem dX10_lower_5 : decode cX10_lower 5 = .ok (.iload_n 1, 1) := by decide +kernel
theorem dX10_lower_6 : decode cX10_lower 6 = .ok (.invokestatic 175, 3) := by decide +kernel
theorem dX10_lower_9 : decode cX10_lower 9 = .ok (.ifCond .ne 9, 3) := by decide +kernel
theorem dX10_lower_12 : decode cX10_lower 12 = .ok (.aload_n 0, 1) := by decide +kernel
theorem dX10_lower_13 : decode cX10_lower 13 = .ok (.iconst 1, 1) := by decide +kernel
theorem dX10_lower_14 : decode cX10_lower 14 = .ok (.invokevirtual 178, 3) := by decide +kernel
theorem dX10_lower_17 : decode cX10_lower 17 = .ok (.ireturn, 1) := by decide +kernel
theorem dX10_lower_18 : decode cX10_lower 18 = .ok (.iload_n 2, 1) := by decide +kernel
theorem dX10_lower_19 : decode cX10_lower 19 = .ok (.iconst 1, 1) := by decide +kernel
theorem dX10_lower_20 : decode cX10_lower 20 = .ok (.bipush 20, 2) := by decide +kernel
theorem dX10_lower_22 : decode cX10_lower 22 = .ok (.invokestatic 65, 3) := by decide +kernel
theorem dX10_lower_25 : decode cX10_lower 25 = .ok (.ifCond .eq 12, 3) := by decide +kernel
theorem dX10_lower_28 : decode cX10_lower 28 = .ok (.aload_n 0, 1) := by decide +kernel
theorem dX10_lower_29 : decode cX10_lower 29 = .ok (.iload_n 1, 1) := by decide +kernel
theorem dX10_lower_30 : decode cX10_lower 30 = .ok (.iload_n 2, 1) := by decide +kernel
theorem dX10_lower_31 : decode cX10_lower 31 = .ok (.invokevirtual 121, 3) := by decide +kernel
theorem dX10_lower_34 : decode cX10_lower 34 = .ok (.goto 8, 3) := by decide +kernel
theorem dX10_lower_37 : decode cX10_lower 37 = .ok (.aload_n 0, 1) := by decide +kernel
theorem dX10_lower_38 : decode cX10_lower 38 = .ok (.iconst 2, 1) := by decide +kernel
theorem dX10_lower_39 : decode cX10_lower 39 = .ok (.invokevirtual 178, 3) := by decide +kernel
theorem dX10_lower_42 : decode cX10_lower 42 = .ok (.ireturn, 1) := by decide +kernel
def fX10_lower (p0 : Nat) (p1 : Int32) (p2 : Int32) (h : mxH) : Option (Int32 × mxH) := Option.bind (pI h p0 10 3 0) (fun h1 => Option.bind (fX10_isThing p1 h1) (fun v4 => (if v4 = 0 then Option.bind (isO h1 p0 10) (fun u21 => Option.bind (fX10_fails p0 1 h1) (fun o24 => some (o24.1, o24.2))) else Option.bind (fX10_in p2 1 20 h1) (fun v7 => Option.bind (α := (Int32 × mxH)) (if v7 = 0 then Option.bind (isO h1 p0 10) (fun u12 => Option.bind (fX10_fails p0 2 h1) (fun o15 => some (o15.1, o15.2))) else Option.bind (isO h1 p0 10) (fun u16 => Option.bind (fX10_lowerAt p0 p1 p2 h1) (fun o19 => some (o19.1, o19.2)))) (fun p10' : (Int32 × mxH) => some (p10'.1, p10'.2))))))
abbrev rmX10_lower : Room := { frames := 4, cells := 0, slots := 0, locals := 92 }
set_option maxRecDepth 20000 in
theorem tX10_lower {l : Launch} {Z : mxZ} (hl : l.stackTraces = false) {p0 : Nat} {p1 : Int32} {p2 : Int32} {h : mxH} {out : (Int32 × mxH)} (hf : fX10_lower p0 p1 p2 h = some out) : mxMet l Z yX10_lower cX10_lower 3 (some .int) rmX10_lower [.ref p0, .int p1, .int p2] h (.inl (some (.int out.1))) out.2 := by
  refine mxMet_of (by decide) hl (by simp [Value.category]) (Nat.le_of_ble_eq_true rfl) ?_
  intro X C E hX hin
  unfold fX10_lower at hf
  refine mG_aload_n (pc := 0) C dX10_lower_0 rfl ?_
  refine mG_ic (pc := 1) C dX10_lower_1 kI0 ?_
  obtain ⟨h1, e2, hf⟩ := mx_bind hf
  refine mG_putI (pc := 2) C dX10_lower_2 fl_X10_61 e2 ?_
  refine mG_iload_n (pc := 5) C dX10_lower_5 rfl ?_
  obtain ⟨v4, e3, hf⟩ := mx_bind hf
  refine mG_cS (pc := 6) (k' := 0) (n' := 0) [.int p1] [] C hX dX10_lower_6 lkS_X10_175 rfl (tX10_isThing hl e3) rfl rfl rfl rfl ?_
  refine mG_if_ne (pc := 9) (tgt := 18) C dX10_lower_9 (by decide) (fun q5 => ?_) (fun q5 => ?_)
  · rw [if_neg q5] at hf
    refine mG_iload_n (pc := 18) C dX10_lower_18 rfl ?_
    refine mG_ic (pc := 19) C dX10_lower_19 kI1 ?_
    refine mG_bp (pc := 20) C dX10_lower_20 kB20 ?_
    obtain ⟨v7, e6, hf⟩ := mx_bind hf
    refine mG_cS (pc := 22) (k' := 0) (n' := 0) [.int p2, .int 1, .int 20] [] C hX dX10_lower_22 lkS_X10_65 rfl (tX10_in hl e6) rfl rfl rfl rfl ?_
    obtain ⟨p10, e11, hf⟩ := mx_bind hf
    have J9 : ∀ p10' : (Int32 × mxH), p10' = p10 → mG l Z X 3 0 0 42 [none, none, none] [.int p10'.1] p10'.2 := by
      intro p10' q20
      subst q20
      cases hf
      exact mG_ir (pc := 42) C E hX dX10_lower_42 rfl
    refine mG_if_eq (pc := 25) (tgt := 37) C dX10_lower_25 (by decide) (fun q8 => ?_) (fun q8 => ?_)
    · rw [if_pos q8] at e11
      refine mG_aload_n (pc := 37) C dX10_lower_37 rfl ?_
      refine mG_ic (pc := 38) C dX10_lower_38 kI2 ?_
      obtain ⟨u12, e13, e11⟩ := mx_bind e11
      obtain ⟨o15, e14, e11⟩ := mx_bind e11
      refine mG_cV (pc := 39) (k' := 0) (n' := 0) 10 [.int 2] [] C hX dX10_lower_39 lkV_X10_178 rfl rfl e13 (tX10_fails hl e14) rfl rfl rfl rfl ?_
      exact mG_sub (mxLe_n (mxLe_n (mxLe_n mxLe_z))) (J9 _ (Option.some.inj e11))
    · rw [if_neg q8] at e11
      refine mG_aload_n (pc := 28) C dX10_lower_28 rfl ?_
      refine mG_iload_n (pc := 29) C dX10_lower_29 rfl ?_
      refine mG_iload_n (pc := 30) C dX10_lower_30 rfl ?_
      obtain ⟨u16, e17, e11⟩ := mx_bind e11
      obtain ⟨o19, e18, e11⟩ := mx_bind e11
      refine mG_cV (pc := 31) (k' := 0) (n' := 0) 10 [.int p1, .int p2] [] C hX dX10_lower_31 lkV_X10_121 rfl rfl e17 (tX10_lowerAt hl e18) rfl rfl rfl rfl ?_
      refine mG_goto (tgt := 42) (pc := 34) C dX10_lower_34 (by decide) ?_
      exact mG_sub (mxLe_n (mxLe_n (mxLe_n mxLe_z))) (J9 _ (Option.some.inj e11))
  · rw [if_pos q5] at hf
    refine mG_aload_n (pc := 12) C dX10_lower_12 rfl ?_
    refine mG_ic (pc := 13) C dX10_lower_13 kI1 ?_
    obtain ⟨u21, e22, hf⟩ := mx_bind hf
    obtain ⟨o24, e23, hf⟩ := mx_bind hf
    refine mG_cV (pc := 14) (k' := 0) (n' := 0) 10 [.int 1] [] C hX dX10_lower_14 lkV_X10_178 rfl rfl e22 (tX10_fails hl e23) rfl rfl rfl rfl ?_
    cases hf
    exact mG_ir (pc := 17) C E hX dX10_lower_17 rfl
theorem dX10_upper_0 : decode cX10_upper 0 = .ok (.aload_n 0, 1) := by decide +kernel
theorem dX10_upper_1 : decode cX10_upper 1 = .ok (.iconst 0, 1) := by decide +kernel
theorem dX10_upper_2 : decode cX10_upper 2 = .ok (.putfield 61, 3) := by decide +kernel
theorem dX10_upper_5 : decode cX10_upper 5 = .ok (.iload_n 1, 1) := by decide +kernel
theorem dX10_upper_6 : decode cX10_upper 6 = .ok (.invokestatic 175, 3) := by decide +kernel
theorem dX10_upper_9 : decode cX10_upper 9 = .ok (.ifCond .ne 9, 3) := by decide +kernel
theorem dX10_upper_12 : decode cX10_upper 12 = .ok (.aload_n 0, 1) := by decide +kernel
theorem dX10_upper_13 : decode cX10_upper 13 = .ok (.iconst 1, 1) := by decide +kernel
theorem dX10_upper_14 : decode cX10_upper 14 = .ok (.invokevirtual 178, 3) := by decide +kernel
theorem dX10_upper_17 : decode cX10_upper 17 = .ok (.ireturn, 1) := by decide +kernel
theorem dX10_upper_18 : decode cX10_upper 18 = .ok (.iload_n 2, 1) := by decide +kernel
theorem dX10_upper_19 : decode cX10_upper 19 = .ok (.iconst 1, 1) := by decide +kernel
theorem dX10_upper_20 : decode cX10_upper 20 = .ok (.bipush 20, 2) := by decide +kernel
theorem dX10_upper_22 : decode cX10_upper 22 = .ok (.invokestatic 65, 3) := by decide +kernel
theorem dX10_upper_25 : decode cX10_upper 25 = .ok (.ifCond .eq 12, 3) := by decide +kernel
theorem dX10_upper_28 : decode cX10_upper 28 = .ok (.aload_n 0, 1) := by decide +kernel
theorem dX10_upper_29 : decode cX10_upper 29 = .ok (.iload_n 1, 1) := by decide +kernel
theorem dX10_upper_30 : decode cX10_upper 30 = .ok (.iload_n 2, 1) := by decide +kernel
theorem dX10_upper_31 : decode cX10_upper 31 = .ok (.invokevirtual 124, 3) := by decide +kernel
theorem dX10_upper_34 : decode cX10_upper 34 = .ok (.goto 8, 3) := by decide +kernel
theorem dX10_upper_37 : decode cX10_upper 37 = .ok (.aload_n 0, 1) := by decide +kernel
theorem dX10_upper_38 : decode cX10_upper 38 = .ok (.iconst 2, 1) := by decide +kernel
theorem dX10_upper_39 : decode cX10_upper 39 = .ok (.invokevirtual 178, 3) := by decide +kernel
theorem dX10_upper_42 : decode cX10_upper 42 = .ok (.ireturn, 1) := by decide +kernel
def fX10_upper (p0 : Nat) (p1 : Int32) (p2 : Int32) (h : mxH) : Option (Int32 × mxH) := Option.bind (pI h p0 10 3 0) (fun h1 => Option.bind (fX10_isThing p1 h1) (fun v4 => (if v4 = 0 then Option.bind (isO h1 p0 10) (fun u21 => Option.bind (fX10_fails p0 1 h1) (fun o24 => some (o24.1, o24.2))) else Option.bind (fX10_in p2 1 20 h1) (fun v7 => Option.bind (α := (Int32 × mxH)) (if v7 = 0 then Option.bind (isO h1 p0 10) (fun u12 => Option.bind (fX10_fails p0 2 h1) (fun o15 => some (o15.1, o15.2))) else Option.bind (isO h1 p0 10) (fun u16 => Option.bind (fX10_upperAt p0 p1 p2 h1) (fun o19 => some (o19.1, o19.2)))) (fun p10' : (Int32 × mxH) => some (p10'.1, p10'.2))))))
abbrev rmX10_upper : Room := { frames := 5, cells := 0, slots := 0, locals := 114 }
set_option maxRecDepth 20000 in
theorem tX10_upper {l : Launch} {Z : mxZ} (hl : l.stackTraces = false) {p0 : Nat} {p1 : Int32} {p2 : Int32} {h : mxH} {out : (Int32 × mxH)} (hf : fX10_upper p0 p1 p2 h = some out) : mxMet l Z yX10_upper cX10_upper 3 (some .int) rmX10_upper [.ref p0, .int p1, .int p2] h (.inl (some (.int out.1))) out.2 := by
  refine mxMet_of (by decide) hl (by simp [Value.category]) (Nat.le_of_ble_eq_true rfl) ?_
  intro X C E hX hin
  unfold fX10_upper at hf
  refine mG_aload_n (pc := 0) C dX10_upper_0 rfl ?_
  refine mG_ic (pc := 1) C dX10_upper_1 kI0 ?_
  obtain ⟨h1, e2, hf⟩ := mx_bind hf
  refine mG_putI (pc := 2) C dX10_upper_2 fl_X10_61 e2 ?_
  refine mG_iload_n (pc := 5) C dX10_upper_5 rfl ?_
  obtain ⟨v4, e3, hf⟩ := mx_bind hf
  refine mG_cS (pc := 6) (k' := 0) (n' := 0) [.int p1] [] C hX dX10_upper_6 lkS_X10_175 rfl (tX10_isThing hl e3) rfl rfl rfl rfl ?_
  refine mG_if_ne (pc := 9) (tgt := 18) C dX10_upper_9 (by decide) (fun q5 => ?_) (fun q5 => ?_)
  · rw [if_neg q5] at hf
    refine mG_iload_n (pc := 18) C dX10_upper_18 rfl ?_
    refine mG_ic (pc := 19) C dX10_upper_19 kI1 ?_
    refine mG_bp (pc := 20) C dX10_upper_20 kB20 ?_
    obtain ⟨v7, e6, hf⟩ := mx_bind hf
    refine mG_cS (pc := 22) (k' := 0) (n' := 0) [.int p2, .int 1, .int 20] [] C hX dX10_upper_22 lkS_X10_65 rfl (tX10_in hl e6) rfl rfl rfl rfl ?_
    obtain ⟨p10, e11, hf⟩ := mx_bind hf
    have J9 : ∀ p10' : (Int32 × mxH), p10' = p10 → mG l Z X 3 0 0 42 [none, none, none] [.int p10'.1] p10'.2 := by
      intro p10' q20
      subst q20
      cases hf
      exact mG_ir (pc := 42) C E hX dX10_upper_42 rfl
    refine mG_if_eq (pc := 25) (tgt := 37) C dX10_upper_25 (by decide) (fun q8 => ?_) (fun q8 => ?_)
    · rw [if_pos q8] at e11
      refine mG_aload_n (pc := 37) C dX10_upper_37 rfl ?_
      refine mG_ic (pc := 38) C dX10_upper_38 kI2 ?_
      obtain ⟨u12, e13, e11⟩ := mx_bind e11
      obtain ⟨o15, e14, e11⟩ := mx_bind e11
      refine mG_cV (pc := 39) (k' := 0) (n' := 0) 10 [.int 2] [] C hX dX10_upper_39 lkV_X10_178 rfl rfl e13 (tX10_fails hl e14) rfl rfl rfl rfl ?_
      exact mG_sub (mxLe_n (mxLe_n (mxLe_n mxLe_z))) (J9 _ (Option.some.inj e11))
    · rw [if_neg q8] at e11
      refine mG_aload_n (pc := 28) C dX10_upper_28 rfl ?_
      refine mG_iload_n (pc := 29) C dX10_upper_29 rfl ?_
      refine mG_iload_n (pc := 30) C dX10_upper_30 rfl ?_
      obtain ⟨u16, e17, e11⟩ := mx_bind e11
      obtain ⟨o19, e18, e11⟩ := mx_bind e11
      refine mG_cV (pc := 31) (k' := 0) (n' := 0) 10 [.int p1, .int p2] [] C hX dX10_upper_31 lkV_X10_124 rfl rfl e17 (tX10_upperAt hl e18) rfl rfl rfl rfl ?_
      refine mG_goto (tgt := 42) (pc := 34) C dX10_upper_34 (by decide) ?_
      exact mG_sub (mxLe_n (mxLe_n (mxLe_n mxLe_z))) (J9 _ (Option.some.inj e11))
  · rw [if_pos q5] at hf
    refine mG_aload_n (pc := 12) C dX10_upper_12 rfl ?_
    refine mG_ic (pc := 13) C dX10_upper_13 kI1 ?_
    obtain ⟨u21, e22, hf⟩ := mx_bind hf
    obtain ⟨o24, e23, hf⟩ := mx_bind hf
    refine mG_cV (pc := 14) (k' := 0) (n' := 0) 10 [.int 1] [] C hX dX10_upper_14 lkV_X10_178 rfl rfl e22 (tX10_fails hl e23) rfl rfl rfl rfl ?_
    cases hf
    exact mG_ir (pc := 17) C E hX dX10_upper_17 rfl
theorem dX10_plainDepth_0 : decode cX10_plainDepth 0 = .ok (.aload_n 0, 1) := by decide +kernel
theorem dX10_plainDepth_1 : decode cX10_plainDepth 1 = .ok (.iconst 0, 1) := by decide +kernel
theorem dX10_plainDepth_2 : decode cX10_plainDepth 2 = .ok (.putfield 61, 3) := by decide +kernel
theorem dX10_plainDepth_5 : decode cX10_plainDepth 5 = .ok (.iload_n 1, 1) := by decide +kernel
theorem dX10_plainDepth_6 : decode cX10_plainDepth 6 = .ok (.invokestatic 187, 3) := by decide +kernel
theorem dX10_plainDepth_9 : decode cX10_plainDepth 9 = .ok (.ifCond .eq 11, 3) := by decide +kernel
theorem dX10_plainDepth_12 : decode cX10_plainDepth 12 = .ok (.aload_n 0, 1) := by decide +kernel
theorem dX10_plainDepth_13 : decode cX10_plainDepth 13 = .ok (.iload_n 1, 1) := by decide +kernel
theorem dX10_plainDepth_14 : decode cX10_plainDepth 14 = .ok (.invokevirtual 196, 3) := by decide +kernel
theorem dX10_plainDepth_17 : decode cX10_plainDepth 17 = .ok (.goto 8, 3) := by decide +kernel
theorem dX10_plainDepth_20 : decode cX10_plainDepth 20 = .ok (.aload_n 0, 1) := by decide +kernel
theorem dX10_plainDepth_21 : decode cX10_plainDepth 21 = .ok (.iconst 1, 1) := by decide +kernel
theorem dX10_plainDepth_22 : decode cX10_plainDepth 22 = .ok (.invokevirtual 178, 3) := by decide +kernel
theorem dX10_plainDepth_25 : decode cX10_plainDepth 25 = .ok (.ireturn, 1) := by decide +kernel
def fX10_plainDepth (p0 : Nat) (p1 : Int32) (h : mxH) : Option (Int32 × mxH) := Option.bind (pI h p0 10 3 0) (fun h1 => Option.bind (fX10_isK p1 h1) (fun v4 => Option.bind (α := (Int32 × mxH)) (if v4 = 0 then Option.bind (isO h1 p0 10) (fun u9 => Option.bind (fX10_fails p0 1 h1) (fun o12 => some (o12.1, o12.2))) else Option.bind (isO h1 p0 10) (fun u13 => Option.bind (fX10_plainStop p0 p1 h1) (fun o16 => some (o16.1, o16.2)))) (fun p7' : (Int32 × mxH) => some (p7'.1, p7'.2))))
abbrev rmX10_plainDepth : Room := { frames := 7, cells := 0, slots := 0, locals := 159 }
set_option maxRecDepth 20000 in
theorem tX10_plainDepth {l : Launch} {Z : mxZ} (hl : l.stackTraces = false) {p0 : Nat} {p1 : Int32} {h : mxH} {out : (Int32 × mxH)} (hf : fX10_plainDepth p0 p1 h = some out) : mxMet l Z yX10_plainDepth cX10_plainDepth 2 (some .int) rmX10_plainDepth [.ref p0, .int p1] h (.inl (some (.int out.1))) out.2 := by
  refine mxMet_of (by decide) hl (by simp [Value.category]) (Nat.le_of_ble_eq_true rfl) ?_
  intro X C E hX hin
  unfold fX10_plainDepth at hf
  refine mG_aload_n (pc := 0) C dX10_plainDepth_0 rfl ?_
  refine mG_ic (pc := 1) C dX10_plainDepth_1 kI0 ?_
  obtain ⟨h1, e2, hf⟩ := mx_bind hf
  refine mG_putI (pc := 2) C dX10_plainDepth_2 fl_X10_61 e2 ?_
  refine mG_iload_n (pc := 5) C dX10_plainDepth_5 rfl ?_
  obtain ⟨v4, e3, hf⟩ := mx_bind hf
  refine mG_cS (pc := 6) (k' := 0) (n' := 0) [.int p1] [] C hX dX10_plainDepth_6 lkS_X10_187 rfl (tX10_isK hl e3) rfl rfl rfl rfl ?_
  obtain ⟨p7, e8, hf⟩ := mx_bind hf
  have J6 : ∀ p7' : (Int32 × mxH), p7' = p7 → mG l Z X 2 0 0 25 [none, none] [.int p7'.1] p7'.2 := by
    intro p7' q17
    subst q17
    cases hf
    exact mG_ir (pc := 25) C E hX dX10_plainDepth_25 rfl
  refine mG_if_eq (pc := 9) (tgt := 20) C dX10_plainDepth_9 (by decide) (fun q5 => ?_) (fun q5 => ?_)
  · rw [if_pos q5] at e8
    refine mG_aload_n (pc := 20) C dX10_plainDepth_20 rfl ?_
    refine mG_ic (pc := 21) C dX10_plainDepth_21 kI1 ?_
    obtain ⟨u9, e10, e8⟩ := mx_bind e8
    obtain ⟨o12, e11, e8⟩ := mx_bind e8
    refine mG_cV (pc := 22) (k' := 0) (n' := 0) 10 [.int 1] [] C hX dX10_plainDepth_22 lkV_X10_178 rfl rfl e10 (tX10_fails hl e11) rfl rfl rfl rfl ?_
    exact mG_sub (mxLe_n (mxLe_n mxLe_z)) (J6 _ (Option.some.inj e8))
  · rw [if_neg q5] at e8
    refine mG_aload_n (pc := 12) C dX10_plainDepth_12 rfl ?_
    refine mG_iload_n (pc := 13) C dX10_plainDepth_13 rfl ?_
    obtain ⟨u13, e14, e8⟩ := mx_bind e8
    obtain ⟨o16, e15, e8⟩ := mx_bind e8
    refine mG_cV (pc := 14) (k' := 0) (n' := 0) 10 [.int p1] [] C hX dX10_plainDepth_14 lkV_X10_196 rfl rfl e14 (tX10_plainStop hl e15) rfl rfl rfl rfl ?_
    refine mG_goto (tgt := 25) (pc := 17) C dX10_plainDepth_17 (by decide) ?_
    exact mG_sub (mxLe_n (mxLe_n mxLe_z)) (J6 _ (Option.some.inj e8))
theorem dX10_plainCost_0 : decode cX10_plainCost 0 = .ok (.aload_n 0, 1) := by decide +kernel
theorem dX10_plainCost_1 : decode cX10_plainCost 1 = .ok (.iconst 0, 1) := by decide +kernel
theorem dX10_plainCost_2 : decode cX10_plainCost 2 = .ok (.putfield 61, 3) := by decide +kernel
theorem dX10_plainCost_5 : decode cX10_plainCost 5 = .ok (.iload_n 1, 1) := by decide +kernel
theorem dX10_plainCost_6 : decode cX10_plainCost 6 = .ok (.invokestatic 187, 3) := by decide +kernel
theorem dX10_plainCost_9 : decode cX10_plainCost 9 = .ok (.ifCond .eq 23, 3) := by decide +kernel
theorem dX10_plainCost_12 : decode cX10_plainCost 12 = .ok (.aload_n 0, 1) := by decide +kernel
theorem dX10_plainCost_13 : decode cX10_plainCost 13 = .ok (.aload_n 0, 1) := by decide +kernel
theorem dX10_plainCost_14 : decode cX10_plainCost 14 = .ok (.iload_n 1, 1) := by decide +kernel
theorem dX10_plainCost_15 : decode cX10_plainCost 15 = .ok (.invokevirtual 196, 3) := by decide +kernel
theorem dX10_plainCost_18 : decode cX10_plainCost 18 = .ok (.invokevirtual 193, 3) := by decide +kernel
theorem dX10_plainCost_21 : decode cX10_plainCost 21 = .ok (.aload_n 0, 1) := by decide +kernel
theorem dX10_plainCost_22 : decode cX10_plainCost 22 = .ok (.getfield 9, 3) := by decide +kernel
theorem dX10_plainCost_25 : decode cX10_plainCost 25 = .ok (.bipush 106, 2) := by decide +kernel
theorem dX10_plainCost_27 : decode cX10_plainCost 27 = .ok (.iaload, 1) := by decide +kernel
theorem dX10_plainCost_28 : decode cX10_plainCost 28 = .ok (.imul, 1) := by decide +kernel
theorem dX10_plainCost_29 : decode cX10_plainCost 29 = .ok (.goto 8, 3) := by decide +kernel
theorem dX10_plainCost_32 : decode cX10_plainCost 32 = .ok (.aload_n 0, 1) := by decide +kernel
theorem dX10_plainCost_33 : decode cX10_plainCost 33 = .ok (.iconst 1, 1) := by decide +kernel
theorem dX10_plainCost_34 : decode cX10_plainCost 34 = .ok (.invokevirtual 178, 3) := by decide +kernel
theorem dX10_plainCost_37 : decode cX10_plainCost 37 = .ok (.ireturn, 1) := by decide +kernel
def fX10_plainCost (p0 : Nat) (p1 : Int32) (h : mxH) : Option (Int32 × mxH) := Option.bind (pI h p0 10 3 0) (fun h1 => Option.bind (fX10_isK p1 h1) (fun v4 => Option.bind (α := (Int32 × mxH)) (if v4 = 0 then Option.bind (isO h1 p0 10) (fun u9 => Option.bind (fX10_fails p0 1 h1) (fun o12 => some (o12.1, o12.2))) else Option.bind (isO h1 p0 10) (fun u13 => Option.bind (fX10_plainStop p0 p1 h1) (fun o16 => Option.bind (isO o16.2 p0 10) (fun u17 => Option.bind (fX10_readsAt p0 o16.1 o16.2) (fun v20 => Option.bind (gR o16.2 p0 10 0) (fun r21 => Option.bind (ldI o16.2 r21 106) (fun v23 => some (v20 * v23, o16.2)))))))) (fun p7' : (Int32 × mxH) => some (p7'.1, p7'.2))))
abbrev rmX10_plainCost : Room := { frames := 7, cells := 0, slots := 0, locals := 159 }
set_option maxRecDepth 20000 in
theorem tX10_plainCost {l : Launch} {Z : mxZ} (hl : l.stackTraces = false) {p0 : Nat} {p1 : Int32} {h : mxH} {out : (Int32 × mxH)} (hf : fX10_plainCost p0 p1 h = some out) : mxMet l Z yX10_plainCost cX10_plainCost 2 (some .int) rmX10_plainCost [.ref p0, .int p1] h (.inl (some (.int out.1))) out.2 := by
  refine mxMet_of (by decide) hl (by simp [Value.category]) (Nat.le_of_ble_eq_true rfl) ?_
  intro X C E hX hin
  unfold fX10_plainCost at hf
  refine mG_aload_n (pc := 0) C dX10_plainCost_0 rfl ?_
  refine mG_ic (pc := 1) C dX10_plainCost_1 kI0 ?_
  obtain ⟨h1, e2, hf⟩ := mx_bind hf
  refine mG_putI (pc := 2) C dX10_plainCost_2 fl_X10_61 e2 ?_
  refine mG_iload_n (pc := 5) C dX10_plainCost_5 rfl ?_
  obtain ⟨v4, e3, hf⟩ := mx_bind hf
  refine mG_cS (pc := 6) (k' := 0) (n' := 0) [.int p1] [] C hX dX10_plainCost_6 lkS_X10_187 rfl (tX10_isK hl e3) rfl rfl rfl rfl ?_
  obtain ⟨p7, e8, hf⟩ := mx_bind hf
  have J6 : ∀ p7' : (Int32 × mxH), p7' = p7 → mG l Z X 2 0 0 37 [none, none] [.int p7'.1] p7'.2 := by
    intro p7' q25
    subst q25
    cases hf
    exact mG_ir (pc := 37) C E hX dX10_plainCost_37 rfl
  refine mG_if_eq (pc := 9) (tgt := 32) C dX10_plainCost_9 (by decide) (fun q5 => ?_) (fun q5 => ?_)
  · rw [if_pos q5] at e8
    refine mG_aload_n (pc := 32) C dX10_plainCost_32 rfl ?_
    refine mG_ic (pc := 33) C dX10_plainCost_33 kI1 ?_
    obtain ⟨u9, e10, e8⟩ := mx_bind e8
    obtain ⟨o12, e11, e8⟩ := mx_bind e8
    refine mG_cV (pc := 34) (k' := 0) (n' := 0) 10 [.int 1] [] C hX dX10_plainCost_34 lkV_X10_178 rfl rfl e10 (tX10_fails hl e11) rfl rfl rfl rfl ?_
    exact mG_sub (mxLe_n (mxLe_n mxLe_z)) (J6 _ (Option.some.inj e8))
  · rw [if_neg q5] at e8
    refine mG_aload_n (pc := 12) C dX10_plainCost_12 rfl ?_
    refine mG_aload_n (pc := 13) C dX10_plainCost_13 rfl ?_
    refine mG_iload_n (pc := 14) C dX10_plainCost_14 rfl ?_
    obtain ⟨u13, e14, e8⟩ := mx_bind e8
    obtain ⟨o16, e15, e8⟩ := mx_bind e8
    refine mG_cV (pc := 15) (k' := 0) (n' := 0) 10 [.int p1] [.ref p0] C hX dX10_plainCost_15 lkV_X10_196 rfl rfl e14 (tX10_plainStop hl e15) rfl rfl rfl rfl ?_
    obtain ⟨u17, e18, e8⟩ := mx_bind e8
    obtain ⟨v20, e19, e8⟩ := mx_bind e8
    refine mG_cV (pc := 18) (k' := 0) (n' := 0) 10 [.int o16.1] [] C hX dX10_plainCost_18 lkV_X10_193 rfl rfl e18 (tX10_readsAt hl e19) rfl rfl rfl rfl ?_
    refine mG_aload_n (pc := 21) C dX10_plainCost_21 rfl ?_
    obtain ⟨r21, e22, e8⟩ := mx_bind e8
    refine mG_getR (pc := 22) C dX10_plainCost_22 fl_X10_9 e22 ?_
    refine mG_bp (pc := 25) C dX10_plainCost_25 kB106 ?_
    obtain ⟨v23, e24, e8⟩ := mx_bind e8
    refine mG_iaload (pc := 27) C dX10_plainCost_27 e24 ?_
    refine mG_imul (pc := 28) C dX10_plainCost_28 ?_
    refine mG_goto (tgt := 37) (pc := 29) C dX10_plainCost_29 (by decide) ?_
    exact mG_sub (mxLe_n (mxLe_n mxLe_z)) (J6 _ (Option.some.inj e8))
theorem dX10_holds_0 : decode cX10_holds 0 = .ok (.aload_n 0, 1) := by decide +kernel
theorem dX10_holds_1 : decode cX10_holds 1 = .ok (.iload_n 2, 1) := by decide +kernel
theorem dX10_holds_2 : decode cX10_holds 2 = .ok (.invokestatic 172, 3) := by decide +kernel
theorem dX10_holds_5 : decode cX10_holds 5 = .ok (.ifCond .eq 10, 3) := by decide +kernel
theorem dX10_holds_8 : decode cX10_holds 8 = .ok (.iload_n 3, 1) := by decide +kernel
theorem dX10_holds_9 : decode cX10_holds 9 = .ok (.invokestatic 175, 3) := by decide +kernel
theorem dX10_holds_12 : decode cX10_holds 12 = .ok (.ifCond .ne 7, 3) := by decide +kernel
theorem dX10_holds_15 : decode cX10_holds 15 = .ok (.iconst 1, 1) := by decide +kernel
theorem dX10_holds_16 : decode cX10_holds 16 = .ok (.goto 26, 3) := by decide +kernel
theorem dX10_holds_19 : decode cX10_holds 19 = .ok (.iload_n 1, 1) := by decide +kernel
theorem dX10_holds_20 : decode cX10_holds 20 = .ok (.invokestatic 187, 3) := by decide +kernel
theorem dX10_holds_23 : decode cX10_holds 23 = .ok (.ifCond .eq 14, 3) := by decide +kernel
theorem dX10_holds_26 : decode cX10_holds 26 = .ok (.iload 4, 2) := by decide +kernel
theorem dX10_holds_28 : decode cX10_holds 28 = .ok (.iconst 0, 1) := by decide +kernel
theorem dX10_holds_29 : decode cX10_holds 29 = .ok (.bipush 99, 2) := by decide +kernel
theorem dX10_holds_31 : decode cX10_holds 31 = .ok (.invokestatic 65, 3) := by decide +kernel
theorem dX10_holds_34 : decode cX10_holds 34 = .ok (.ifCond .ne 7, 3) := by decide +kernel
theorem dX10_holds_37 : decode cX10_holds 37 = .ok (.iconst 2, 1) := by decide +kernel
theorem dX10_holds_38 : decode cX10_holds 38 = .ok (.goto 4, 3) := by decide +kernel
theorem dX10_holds_41 : decode cX10_holds 41 = .ok (.iconst 0, 1) := by decide +kernel
theorem dX10_holds_42 : decode cX10_holds 42 = .ok (.putfield 61, 3) := by decide +kernel
theorem dX10_holds_45 : decode cX10_holds 45 = .ok (.aload_n 0, 1) := by decide +kernel
theorem dX10_holds_46 : decode cX10_holds 46 = .ok (.getfield 61, 3) := by decide +kernel
theorem dX10_holds_49 : decode cX10_holds 49 = .ok (.ifCond .le 5, 3) := by decide +kernel
theorem dX10_holds_52 : decode cX10_holds 52 = .ok (.iconst 0, 1) := by decide +kernel
theorem dX10_holds_53 : decode cX10_holds 53 = .ok (.ireturn, 1) := by decide +kernel
theorem dX10_holds_54 : decode cX10_holds 54 = .ok (.iload_n 1, 1) := by decide +kernel
theorem dX10_holds_55 : decode cX10_holds 55 = .ok (.aload_n 0, 1) := by decide +kernel
theorem dX10_holds_56 : decode cX10_holds 56 = .ok (.aload_n 0, 1) := by decide +kernel
theorem dX10_holds_57 : decode cX10_holds 57 = .ok (.getfield 19, 3) := by decide +kernel
theorem dX10_holds_60 : decode cX10_holds 60 = .ok (.bipush 20, 2) := by decide +kernel
theorem dX10_holds_62 : decode cX10_holds 62 = .ok (.invokevirtual 114, 3) := by decide +kernel
theorem dX10_holds_65 : decode cX10_holds 65 = .ok (.invokestatic 134, 3) := by decide +kernel
theorem dX10_holds_68 : decode cX10_holds 68 = .ok (.istore 5, 2) := by decide +kernel
theorem dX10_holds_70 : decode cX10_holds 70 = .ok (.aload_n 0, 1) := by decide +kernel
theorem dX10_holds_71 : decode cX10_holds 71 = .ok (.iload_n 2, 1) := by decide +kernel
theorem dX10_holds_72 : decode cX10_holds 72 = .ok (.iload_n 3, 1) := by decide +kernel
theorem dX10_holds_73 : decode cX10_holds 73 = .ok (.invokevirtual 69, 3) := by decide +kernel
theorem dX10_holds_76 : decode cX10_holds 76 = .ok (.istore 6, 2) := by decide +kernel
theorem dX10_holds_78 : decode cX10_holds 78 = .ok (.aload_n 0, 1) := by decide +kernel
theorem dX10_holds_79 : decode cX10_holds 79 = .ok (.iload_n 2, 1) := by decide +kernel
theorem dX10_holds_80 : decode cX10_holds 80 = .ok (.iload_n 3, 1) := by decide +kernel
theorem dX10_holds_81 : decode cX10_holds 81 = .ok (.iload 4, 2) := by decide +kernel
theorem dX10_holds_83 : decode cX10_holds 83 = .ok (.invokevirtual 53, 3) := by decide +kernel
theorem dX10_holds_86 : decode cX10_holds 86 = .ok (.iload 5, 2) := by decide +kernel
theorem dX10_holds_88 : decode cX10_holds 88 = .ok (.iload_n 1, 1) := by decide +kernel
theorem dX10_holds_89 : decode cX10_holds 89 = .ok (.aload_n 0, 1) := by decide +kernel
theorem dX10_holds_90 : decode cX10_holds 90 = .ok (.aload_n 0, 1) := by decide +kernel
theorem dX10_holds_91 : decode cX10_holds 91 = .ok (.getfield 22, 3) := by decide +kernel
theorem dX10_holds_94 : decode cX10_holds 94 = .ok (.bipush 20, 2) := by decide +kernel
theorem dX10_holds_96 : decode cX10_holds 96 = .ok (.invokevirtual 114, 3) := by decide +kernel
theorem dX10_holds_99 : decode cX10_holds 99 = .ok (.invokestatic 134, 3) := by decide +kernel
theorem dX10_holds_102 : decode cX10_holds 102 = .ok (.if_icmp .ne 7, 3) := by decide +kernel
theorem dX10_holds_105 : decode cX10_holds 105 = .ok (.iconst 1, 1) := by decide +kernel
theorem dX10_holds_106 : decode cX10_holds 106 = .ok (.goto 4, 3) := by decide +kernel
theorem dX10_holds_109 : decode cX10_holds 109 = .ok (.iconst 0, 1) := by decide +kernel
theorem dX10_holds_110 : decode cX10_holds 110 = .ok (.istore 7, 2) := by decide +kernel
theorem dX10_holds_112 : decode cX10_holds 112 = .ok (.iconst 0, 1) := by decide +kernel
theorem dX10_holds_113 : decode cX10_holds 113 = .ok (.istore 8, 2) := by decide +kernel
theorem dX10_holds_115 : decode cX10_holds 115 = .ok (.iload 8, 2) := by decide +kernel
theorem dX10_holds_117 : decode cX10_holds 117 = .ok (.iload 5, 2) := by decide +kernel
theorem dX10_holds_119 : decode cX10_holds 119 = .ok (.if_icmp .ge 38, 3) := by decide +kernel
theorem dX10_holds_122 : decode cX10_holds 122 = .ok (.iload 7, 2) := by decide +kernel
theorem dX10_holds_124 : decode cX10_holds 124 = .ok (.ifCond .eq 24, 3) := by decide +kernel
theorem dX10_holds_127 : decode cX10_holds 127 = .ok (.aload_n 0, 1) := by decide +kernel
theorem dX10_holds_128 : decode cX10_holds 128 = .ok (.getfield 19, 3) := by decide +kernel
theorem dX10_holds_131 : decode cX10_holds 131 = .ok (.iload 8, 2) := by decide +kernel
theorem dX10_holds_133 : decode cX10_holds 133 = .ok (.iaload, 1) := by decide +kernel
theorem dX10_holds_134 : decode cX10_holds 134 = .ok (.aload_n 0, 1) := by decide +kernel
theorem dX10_holds_135 : decode cX10_holds 135 = .ok (.getfield 22, 3) := by decide +kernel
theorem dX10_holds_138 : decode cX10_holds 138 = .ok (.iload 8, 2) := by decide +kernel
theorem dX10_holds_140 : decode cX10_holds 140 = .ok (.iaload, 1) := by decide +kernel
theorem dX10_holds_141 : decode cX10_holds 141 = .ok (.if_icmp .ne 7, 3) := by decide +kernel
theorem dX10_holds_144 : decode cX10_holds 144 = .ok (.iconst 1, 1) := by decide +kernel
theorem dX10_holds_145 : decode cX10_holds 145 = .ok (.goto 4, 3) := by decide +kernel
theorem dX10_holds_148 : decode cX10_holds 148 = .ok (.iconst 0, 1) := by decide +kernel
theorem dX10_holds_149 : decode cX10_holds 149 = .ok (.istore 7, 2) := by decide +kernel
theorem dX10_holds_151 : decode cX10_holds 151 = .ok (.iinc 8 1, 3) := by decide +kernel
theorem dX10_holds_154 : decode cX10_holds 154 = .ok (.goto (-39), 3) := by decide +kernel
theorem dX10_holds_157 : decode cX10_holds 157 = .ok (.aload_n 0, 1) := by decide +kernel
theorem dX10_holds_158 : decode cX10_holds 158 = .ok (.iload_n 2, 1) := by decide +kernel
theorem dX10_holds_159 : decode cX10_holds 159 = .ok (.iload_n 3, 1) := by decide +kernel
theorem dX10_holds_160 : decode cX10_holds 160 = .ok (.iload 6, 2) := by decide +kernel
theorem dX10_holds_162 : decode cX10_holds 162 = .ok (.invokevirtual 53, 3) := by decide +kernel
theorem dX10_holds_165 : decode cX10_holds 165 = .ok (.iload 7, 2) := by decide +kernel
theorem dX10_holds_167 : decode cX10_holds 167 = .ok (.ireturn, 1) := by decide +kernel
def fX10_holds (p0 : Nat) (p1 : Int32) (p2 : Int32) (p3 : Int32) (p4 : Int32) (h : mxH) : Option (Int32 × mxH) := Option.bind (fX10_isRow p2 h) (fun v2 => Option.bind (α := Int32) (if v2 = 0 then some 1 else Option.bind (fX10_isThing p3 h) (fun v8 => (if v8 = 0 then some 1 else Option.bind (fX10_isK p1 h) (fun v11 => (if v11 = 0 then some 2 else Option.bind (fX10_in p4 0 99 h) (fun v14 => (if v14 = 0 then some 2 else some 0))))))) (fun p5' : Int32 => Option.bind (pI h p0 10 3 p5') (fun h16 => Option.bind (gI h16 p0 10 3) (fun v18 => (if v18 ≤ 0 then Option.bind (gR h16 p0 10 5) (fun r21 => Option.bind (isO h16 p0 10) (fun u23 => Option.bind (fX10_ranks p0 r21 20 h16) (fun o26 => Option.bind (isO o26.2 p0 10) (fun u27 => Option.bind (fX10_mark p0 p2 p3 o26.2) (fun v30 => Option.bind (isO o26.2 p0 10) (fun u31 => Option.bind (fX10_lays p0 p2 p3 p4 o26.2) (fun o34 => Option.bind (gR o34 p0 10 6) (fun r35 => Option.bind (isO o34 p0 10) (fun u37 => Option.bind (fX10_ranks p0 r35 20 o34) (fun o40 => Option.bind (α := Int32) (if (mxMin p1 o26.1) = (mxMin p1 o40.1) then some 1 else some 0) (fun p43' : Int32 => Option.bind (mxLoop (ρ := Int32) (fun s45 : (Int32 × Int32) => (if (mxMin p1 o26.1) ≤ s45.2 then some (Sum.inr s45.1) else Option.bind (α := Int32) (if s45.1 = 0 then some 0 else Option.bind (gR o40.2 p0 10 5) (fun r58 => Option.bind (ldI o40.2 r58 s45.2) (fun v60 => Option.bind (gR o40.2 p0 10 6) (fun r62 => Option.bind (ldI o40.2 r62 s45.2) (fun v64 => (if v60 = v64 then some 1 else some 0)))))) (fun p56' : Int32 => some (Sum.inl (p56', s45.2 + 1))))) mxF (p43', 0)) (fun r68 : Int32 => Option.bind (isO o40.2 p0 10) (fun u69 => Option.bind (fX10_lays p0 p2 p3 v30 o40.2) (fun o72 => Option.bind (mxZ1 r68) (fun v73 => some (v73, o72)))))))))))))))) else Option.bind (mxZ1 0) (fun v77 => some (v77, h16)))))))
abbrev rmX10_holds : Room := { frames := 5, cells := 0, slots := 0, locals := 119 }
set_option maxRecDepth 20000 in
theorem tX10_holds {l : Launch} {Z : mxZ} (hl : l.stackTraces = false) {p0 : Nat} {p1 : Int32} {p2 : Int32} {p3 : Int32} {p4 : Int32} {h : mxH} {out : (Int32 × mxH)} (hf : fX10_holds p0 p1 p2 p3 p4 h = some out) : mxMet l Z yX10_holds cX10_holds 9 (some .boolean) rmX10_holds [.ref p0, .int p1, .int p2, .int p3, .int p4] h (.inl (some (.int out.1))) out.2 := by
  refine mxMet_of (by decide) hl (by simp [Value.category]) (Nat.le_of_ble_eq_true rfl) ?_
  intro X C E hX hin
  unfold fX10_holds at hf
  refine mG_aload_n (pc := 0) C dX10_holds_0 rfl ?_
  refine mG_iload_n (pc := 1) C dX10_holds_1 rfl ?_
  obtain ⟨v2, e1, hf⟩ := mx_bind hf
  refine mG_cS (pc := 2) (k' := 0) (n' := 0) [.int p2] [.ref p0] C hX dX10_holds_2 lkS_X10_172 rfl (tX10_isRow hl e1) rfl rfl rfl rfl ?_
  obtain ⟨p5, e6, hf⟩ := mx_bind hf
  have J4 : ∀ p5' : Int32, p5' = p5 → mG l Z X 9 0 0 42 [some (.ref p0), some (.int p1), some (.int p2), some (.int p3), some (.int p4), none, none, none, none] [.int p5', .ref p0] h := by
    intro p5' q79
    subst q79
    obtain ⟨h16, e17, hf⟩ := mx_bind hf
    refine mG_putI (pc := 42) C dX10_holds_42 fl_X10_61 e17 ?_
    refine mG_aload_n (pc := 45) C dX10_holds_45 rfl ?_
    obtain ⟨v18, e19, hf⟩ := mx_bind hf
    refine mG_getI (pc := 46) C dX10_holds_46 fl_X10_61 e19 ?_
    refine mG_if_le (pc := 49) (tgt := 54) C dX10_holds_49 (by decide) (fun q20 => ?_) (fun q20 => ?_)
    · rw [if_pos q20] at hf
      refine mG_iload_n (pc := 54) C dX10_holds_54 rfl ?_
      refine mG_aload_n (pc := 55) C dX10_holds_55 rfl ?_
      refine mG_aload_n (pc := 56) C dX10_holds_56 rfl ?_
      obtain ⟨r21, e22, hf⟩ := mx_bind hf
      refine mG_getR (pc := 57) C dX10_holds_57 fl_X10_19 e22 ?_
      refine mG_bp (pc := 60) C dX10_holds_60 kB20 ?_
      obtain ⟨u23, e24, hf⟩ := mx_bind hf
      obtain ⟨o26, e25, hf⟩ := mx_bind hf
      refine mG_cV (pc := 62) (k' := 0) (n' := 0) 10 [.ref r21, .int 20] [.int p1] C hX dX10_holds_62 lkV_X10_114 rfl rfl e24 (tX10_ranks hl e25) rfl rfl rfl rfl ?_
      refine mG_mn (pc := 65) C hX dX10_holds_65 w1382 wmin rfl rfl ?_
      refine mG_is (ls' := [some (.ref p0), some (.int p1), some (.int p2), some (.int p3), some (.int p4), some (.int (mxMin p1 o26.1)), none, none, none]) (pc := 68) C dX10_holds_68 rfl rfl rfl ?_
      refine mG_aload_n (pc := 70) C dX10_holds_70 rfl ?_
      refine mG_iload_n (pc := 71) C dX10_holds_71 rfl ?_
      refine mG_iload_n (pc := 72) C dX10_holds_72 rfl ?_
      obtain ⟨u27, e28, hf⟩ := mx_bind hf
      obtain ⟨v30, e29, hf⟩ := mx_bind hf
      refine mG_cV (pc := 73) (k' := 0) (n' := 0) 10 [.int p2, .int p3] [] C hX dX10_holds_73 lkV_X10_69 rfl rfl e28 (tX10_mark hl e29) rfl rfl rfl rfl ?_
      refine mG_is (ls' := [some (.ref p0), some (.int p1), some (.int p2), some (.int p3), some (.int p4), some (.int (mxMin p1 o26.1)), some (.int v30), none, none]) (pc := 76) C dX10_holds_76 rfl rfl rfl ?_
      refine mG_aload_n (pc := 78) C dX10_holds_78 rfl ?_
      refine mG_iload_n (pc := 79) C dX10_holds_79 rfl ?_
      refine mG_iload_n (pc := 80) C dX10_holds_80 rfl ?_
      refine mG_iload (pc := 81) C dX10_holds_81 rfl ?_
      obtain ⟨u31, e32, hf⟩ := mx_bind hf
      obtain ⟨o34, e33, hf⟩ := mx_bind hf
      refine mG_cV (pc := 83) (k' := 0) (n' := 0) 10 [.int p2, .int p3, .int p4] [] C hX dX10_holds_83 lkV_X10_53 rfl rfl e32 (tX10_lays hl e33) rfl rfl rfl rfl ?_
      refine mG_iload (pc := 86) C dX10_holds_86 rfl ?_
      refine mG_iload_n (pc := 88) C dX10_holds_88 rfl ?_
      refine mG_aload_n (pc := 89) C dX10_holds_89 rfl ?_
      refine mG_aload_n (pc := 90) C dX10_holds_90 rfl ?_
      obtain ⟨r35, e36, hf⟩ := mx_bind hf
      refine mG_getR (pc := 91) C dX10_holds_91 fl_X10_22 e36 ?_
      refine mG_bp (pc := 94) C dX10_holds_94 kB20 ?_
      obtain ⟨u37, e38, hf⟩ := mx_bind hf
      obtain ⟨o40, e39, hf⟩ := mx_bind hf
      refine mG_cV (pc := 96) (k' := 0) (n' := 0) 10 [.ref r35, .int 20] [.int p1, .int (mxMin p1 o26.1)] C hX dX10_holds_96 lkV_X10_114 rfl rfl e38 (tX10_ranks hl e39) rfl rfl rfl rfl ?_
      refine mG_mn (pc := 99) C hX dX10_holds_99 w1382 wmin rfl rfl ?_
      obtain ⟨p43, e44, hf⟩ := mx_bind hf
      have J42 : ∀ p43' : Int32, p43' = p43 → mG l Z X 9 0 0 110 [some (.ref p0), none, some (.int p2), some (.int p3), none, some (.int (mxMin p1 o26.1)), some (.int v30), none, none] [.int p43'] o40.2 := by
        intro p43' q76
        subst q76
        refine mG_is (ls' := [some (.ref p0), none, some (.int p2), some (.int p3), none, some (.int (mxMin p1 o26.1)), some (.int v30), some (.int p43'), none]) (pc := 110) C dX10_holds_110 rfl rfl rfl ?_
        refine mG_ic (pc := 112) C dX10_holds_112 kI0 ?_
        refine mG_is (ls' := [some (.ref p0), none, some (.int p2), some (.int p3), none, some (.int (mxMin p1 o26.1)), some (.int v30), some (.int p43'), some (.int 0)]) (pc := 113) C dX10_holds_113 rfl rfl rfl ?_
        obtain ⟨r46, e47, hf⟩ := mx_bind hf
        have J48 : ∀ r68 : Int32, r68 = r46 → mG l Z X 9 0 0 157 [some (.ref p0), none, some (.int p2), some (.int p3), none, none, some (.int v30), some (.int r68), none] [] o40.2 := by
          intro r68 q75
          subst q75
          refine mG_aload_n (pc := 157) C dX10_holds_157 rfl ?_
          refine mG_iload_n (pc := 158) C dX10_holds_158 rfl ?_
          refine mG_iload_n (pc := 159) C dX10_holds_159 rfl ?_
          refine mG_iload (pc := 160) C dX10_holds_160 rfl ?_
          obtain ⟨u69, e70, hf⟩ := mx_bind hf
          obtain ⟨o72, e71, hf⟩ := mx_bind hf
          refine mG_cV (pc := 162) (k' := 0) (n' := 0) 10 [.int p2, .int p3, .int v30] [] C hX dX10_holds_162 lkV_X10_53 rfl rfl e70 (tX10_lays hl e71) rfl rfl rfl rfl ?_
          refine mG_iload (pc := 165) C dX10_holds_165 rfl ?_
          obtain ⟨v73, e74, hf⟩ := mx_bind hf
          cases hf
          exact mG_zr (pc := 167) C e74 E hX dX10_holds_167 rfl
        refine mG_sub (ls' := [some (.ref p0), none, some (.int p2), some (.int p3), none, some (.int (mxMin p1 o26.1)), some (.int v30), some (.int p43'), some (.int 0)]) (mxLe_s (mxLe_n (mxLe_s (mxLe_s (mxLe_n (mxLe_s (mxLe_s (mxLe_s (mxLe_s mxLe_z))))))))) (mxLoop_ind (K := fun s45 : (Int32 × Int32) => mG l Z X 9 0 0 115 [some (.ref p0), none, some (.int p2), some (.int p3), none, some (.int (mxMin p1 o26.1)), some (.int v30), some (.int s45.1), some (.int s45.2)] [] o40.2) ?_ _ _ e47)
        intro s45 o51 e52 hK49 hx50
        refine mG_iload (pc := 115) C dX10_holds_115 rfl ?_
        refine mG_iload (pc := 117) C dX10_holds_117 rfl ?_
        refine mG_icmp_ge (pc := 119) (tgt := 157) C dX10_holds_119 (by decide) (fun q53 => ?_) (fun q53 => ?_)
        · rw [if_pos q53] at e52
          exact mG_sub (mxLe_s (mxLe_n (mxLe_s (mxLe_s (mxLe_n (mxLe_n (mxLe_s (mxLe_s (mxLe_n mxLe_z))))))))) (J48 _ (hx50 _ (Option.some.inj e52).symm))
        · rw [if_neg q53] at e52
          refine mG_iload (pc := 122) C dX10_holds_122 rfl ?_
          obtain ⟨p56, e57, e52⟩ := mx_bind e52
          have J55 : ∀ p56' : Int32, p56' = p56 → mG l Z X 9 0 0 149 [some (.ref p0), none, some (.int p2), some (.int p3), none, some (.int (mxMin p1 o26.1)), some (.int v30), none, some (.int s45.2)] [.int p56'] o40.2 := by
            intro p56' q67
            subst q67
            refine mG_is (ls' := [some (.ref p0), none, some (.int p2), some (.int p3), none, some (.int (mxMin p1 o26.1)), some (.int v30), some (.int p56'), some (.int s45.2)]) (pc := 149) C dX10_holds_149 rfl rfl rfl ?_
            refine mG_ii (ls' := [some (.ref p0), none, some (.int p2), some (.int p3), none, some (.int (mxMin p1 o26.1)), some (.int v30), some (.int p56'), some (.int (s45.2 + 1))]) (pc := 151) C dX10_holds_151 rfl (kinc1 _) rfl rfl rfl ?_
            refine mG_goto (tgt := 115) (pc := 154) C dX10_holds_154 (by decide) ?_
            exact mG_sub (mxLe_s (mxLe_n (mxLe_s (mxLe_s (mxLe_n (mxLe_s (mxLe_s (mxLe_s (mxLe_s mxLe_z))))))))) (hK49 _ (Option.some.inj e52).symm)
          refine mG_if_eq (pc := 124) (tgt := 148) C dX10_holds_124 (by decide) (fun q54 => ?_) (fun q54 => ?_)
          · rw [if_pos q54] at e57
            refine mG_ic (pc := 148) C dX10_holds_148 kI0 ?_
            exact mG_sub (mxLe_s (mxLe_n (mxLe_s (mxLe_s (mxLe_n (mxLe_s (mxLe_s (mxLe_n (mxLe_s mxLe_z))))))))) (J55 _ (Option.some.inj e57))
          · rw [if_neg q54] at e57
            refine mG_aload_n (pc := 127) C dX10_holds_127 rfl ?_
            obtain ⟨r58, e59, e57⟩ := mx_bind e57
            refine mG_getR (pc := 128) C dX10_holds_128 fl_X10_19 e59 ?_
            refine mG_iload (pc := 131) C dX10_holds_131 rfl ?_
            obtain ⟨v60, e61, e57⟩ := mx_bind e57
            refine mG_iaload (pc := 133) C dX10_holds_133 e61 ?_
            refine mG_aload_n (pc := 134) C dX10_holds_134 rfl ?_
            obtain ⟨r62, e63, e57⟩ := mx_bind e57
            refine mG_getR (pc := 135) C dX10_holds_135 fl_X10_22 e63 ?_
            refine mG_iload (pc := 138) C dX10_holds_138 rfl ?_
            obtain ⟨v64, e65, e57⟩ := mx_bind e57
            refine mG_iaload (pc := 140) C dX10_holds_140 e65 ?_
            refine mG_icmp_ne (pc := 141) (tgt := 148) C dX10_holds_141 (by decide) (fun q66 => ?_) (fun q66 => ?_)
            · rw [if_neg q66] at e57
              refine mG_ic (pc := 148) C dX10_holds_148 kI0 ?_
              exact mG_sub (mxLe_s (mxLe_n (mxLe_s (mxLe_s (mxLe_n (mxLe_s (mxLe_s (mxLe_n (mxLe_s mxLe_z))))))))) (J55 _ (Option.some.inj e57))
            · rw [if_pos q66] at e57
              refine mG_ic (pc := 144) C dX10_holds_144 kI1 ?_
              refine mG_goto (tgt := 149) (pc := 145) C dX10_holds_145 (by decide) ?_
              exact mG_sub (mxLe_s (mxLe_n (mxLe_s (mxLe_s (mxLe_n (mxLe_s (mxLe_s (mxLe_n (mxLe_s mxLe_z))))))))) (J55 _ (Option.some.inj e57))
      refine mG_icmp_ne (pc := 102) (tgt := 109) C dX10_holds_102 (by decide) (fun q41 => ?_) (fun q41 => ?_)
      · rw [if_neg q41] at e44
        refine mG_ic (pc := 109) C dX10_holds_109 kI0 ?_
        exact mG_sub (mxLe_s (mxLe_n (mxLe_s (mxLe_s (mxLe_n (mxLe_s (mxLe_s (mxLe_n (mxLe_n mxLe_z))))))))) (J42 _ (Option.some.inj e44))
      · rw [if_pos q41] at e44
        refine mG_ic (pc := 105) C dX10_holds_105 kI1 ?_
        refine mG_goto (tgt := 110) (pc := 106) C dX10_holds_106 (by decide) ?_
        exact mG_sub (mxLe_s (mxLe_n (mxLe_s (mxLe_s (mxLe_n (mxLe_s (mxLe_s (mxLe_n (mxLe_n mxLe_z))))))))) (J42 _ (Option.some.inj e44))
    · rw [if_neg q20] at hf
      refine mG_ic (pc := 52) C dX10_holds_52 kI0 ?_
      obtain ⟨v77, e78, hf⟩ := mx_bind hf
      cases hf
      exact mG_zr (pc := 53) C e78 E hX dX10_holds_53 rfl
  refine mG_if_eq (pc := 5) (tgt := 15) C dX10_holds_5 (by decide) (fun q3 => ?_) (fun q3 => ?_)
  · rw [if_pos q3] at e6
    refine mG_ic (pc := 15) C dX10_holds_15 kI1 ?_
    refine mG_goto (tgt := 42) (pc := 16) C dX10_holds_16 (by decide) ?_
    exact mG_sub (mxLe_s (mxLe_s (mxLe_s (mxLe_s (mxLe_s (mxLe_n (mxLe_n (mxLe_n (mxLe_n mxLe_z))))))))) (J4 _ (Option.some.inj e6))
  · rw [if_neg q3] at e6
    refine mG_iload_n (pc := 8) C dX10_holds_8 rfl ?_
    obtain ⟨v8, e7, e6⟩ := mx_bind e6
    refine mG_cS (pc := 9) (k' := 0) (n' := 0) [.int p3] [.ref p0] C hX dX10_holds_9 lkS_X10_175 rfl (tX10_isThing hl e7) rfl rfl rfl rfl ?_
    refine mG_if_ne (pc := 12) (tgt := 19) C dX10_holds_12 (by decide) (fun q9 => ?_) (fun q9 => ?_)
    · rw [if_neg q9] at e6
      refine mG_iload_n (pc := 19) C dX10_holds_19 rfl ?_
      obtain ⟨v11, e10, e6⟩ := mx_bind e6
      refine mG_cS (pc := 20) (k' := 0) (n' := 0) [.int p1] [.ref p0] C hX dX10_holds_20 lkS_X10_187 rfl (tX10_isK hl e10) rfl rfl rfl rfl ?_
      refine mG_if_eq (pc := 23) (tgt := 37) C dX10_holds_23 (by decide) (fun q12 => ?_) (fun q12 => ?_)
      · rw [if_pos q12] at e6
        refine mG_ic (pc := 37) C dX10_holds_37 kI2 ?_
        refine mG_goto (tgt := 42) (pc := 38) C dX10_holds_38 (by decide) ?_
        exact mG_sub (mxLe_s (mxLe_s (mxLe_s (mxLe_s (mxLe_s (mxLe_n (mxLe_n (mxLe_n (mxLe_n mxLe_z))))))))) (J4 _ (Option.some.inj e6))
      · rw [if_neg q12] at e6
        refine mG_iload (pc := 26) C dX10_holds_26 rfl ?_
        refine mG_ic (pc := 28) C dX10_holds_28 kI0 ?_
        refine mG_bp (pc := 29) C dX10_holds_29 kB99 ?_
        obtain ⟨v14, e13, e6⟩ := mx_bind e6
        refine mG_cS (pc := 31) (k' := 0) (n' := 0) [.int p4, .int 0, .int 99] [.ref p0] C hX dX10_holds_31 lkS_X10_65 rfl (tX10_in hl e13) rfl rfl rfl rfl ?_
        refine mG_if_ne (pc := 34) (tgt := 41) C dX10_holds_34 (by decide) (fun q15 => ?_) (fun q15 => ?_)
        · rw [if_neg q15] at e6
          refine mG_ic (pc := 41) C dX10_holds_41 kI0 ?_
          exact mG_sub (mxLe_s (mxLe_s (mxLe_s (mxLe_s (mxLe_s (mxLe_n (mxLe_n (mxLe_n (mxLe_n mxLe_z))))))))) (J4 _ (Option.some.inj e6))
        · rw [if_pos q15] at e6
          refine mG_ic (pc := 37) C dX10_holds_37 kI2 ?_
          refine mG_goto (tgt := 42) (pc := 38) C dX10_holds_38 (by decide) ?_
          exact mG_sub (mxLe_s (mxLe_s (mxLe_s (mxLe_s (mxLe_s (mxLe_n (mxLe_n (mxLe_n (mxLe_n mxLe_z))))))))) (J4 _ (Option.some.inj e6))
    · rw [if_pos q9] at e6
      refine mG_ic (pc := 15) C dX10_holds_15 kI1 ?_
      refine mG_goto (tgt := 42) (pc := 16) C dX10_holds_16 (by decide) ?_
      exact mG_sub (mxLe_s (mxLe_s (mxLe_s (mxLe_s (mxLe_s (mxLe_n (mxLe_n (mxLe_n (mxLe_n mxLe_z))))))))) (J4 _ (Option.some.inj e6))
theorem dX10_mergedCount_0 : decode cX10_mergedCount 0 = .ok (.aload_n 0, 1) := by decide +kernel
theorem dX10_mergedCount_1 : decode cX10_mergedCount 1 = .ok (.iconst 0, 1) := by decide +kernel
theorem dX10_mergedCount_2 : decode cX10_mergedCount 2 = .ok (.putfield 61, 3) := by decide +kernel
theorem dX10_mergedCount_5 : decode cX10_mergedCount 5 = .ok (.aload_n 0, 1) := by decide +kernel
theorem dX10_mergedCount_6 : decode cX10_mergedCount 6 = .ok (.invokevirtual 199, 3) := by decide +kernel
theorem dX10_mergedCount_9 : decode cX10_mergedCount 9 = .ok (.ireturn, 1) := by decide +kernel
def fX10_mergedCount (p0 : Nat) (h : mxH) : Option (Int32 × mxH) := Option.bind (pI h p0 10 3 0) (fun h1 => Option.bind (isO h1 p0 10) (fun u3 => Option.bind (fX10_allItems p0 h1) (fun v6 => some (v6, h1))))
abbrev rmX10_mergedCount : Room := { frames := 4, cells := 0, slots := 0, locals := 89 }
set_option maxRecDepth 20000 in
theorem tX10_mergedCount {l : Launch} {Z : mxZ} (hl : l.stackTraces = false) {p0 : Nat} {h : mxH} {out : (Int32 × mxH)} (hf : fX10_mergedCount p0 h = some out) : mxMet l Z yX10_mergedCount cX10_mergedCount 1 (some .int) rmX10_mergedCount [.ref p0] h (.inl (some (.int out.1))) out.2 := by
  refine mxMet_of (by decide) hl (by simp [Value.category]) (Nat.le_of_ble_eq_true rfl) ?_
  intro X C E hX hin
  unfold fX10_mergedCount at hf
  refine mG_aload_n (pc := 0) C dX10_mergedCount_0 rfl ?_
  refine mG_ic (pc := 1) C dX10_mergedCount_1 kI0 ?_
  obtain ⟨h1, e2, hf⟩ := mx_bind hf
  refine mG_putI (pc := 2) C dX10_mergedCount_2 fl_X10_61 e2 ?_
  refine mG_aload_n (pc := 5) C dX10_mergedCount_5 rfl ?_
  obtain ⟨u3, e4, hf⟩ := mx_bind hf
  obtain ⟨v6, e5, hf⟩ := mx_bind hf
  refine mG_cV (pc := 6) (k' := 0) (n' := 0) 10 [] [] C hX dX10_mergedCount_6 lkV_X10_199 rfl rfl e4 (tX10_allItems hl e5) rfl rfl rfl rfl ?_
  cases hf
  exact mG_ir (pc := 9) C E hX dX10_mergedCount_9 rfl
theorem dX10_mergedThing_0 : decode cX10_mergedThing 0 = .ok (.aload_n 0, 1) := by decide +kernel
theorem dX10_mergedThing_1 : decode cX10_mergedThing 1 = .ok (.iconst 0, 1) := by decide +kernel
theorem dX10_mergedThing_2 : decode cX10_mergedThing 2 = .ok (.putfield 61, 3) := by decide +kernel
theorem dX10_mergedThing_5 : decode cX10_mergedThing 5 = .ok (.iload_n 1, 1) := by decide +kernel
theorem dX10_mergedThing_6 : decode cX10_mergedThing 6 = .ok (.iconst 0, 1) := by decide +kernel
theorem dX10_mergedThing_7 : decode cX10_mergedThing 7 = .ok (.aload_n 0, 1) := by decide +kernel
theorem dX10_mergedThing_8 : decode cX10_mergedThing 8 = .ok (.aload_n 0, 1) := by decide +kernel
theorem dX10_mergedThing_9 : decode cX10_mergedThing 9 = .ok (.getfield 25, 3) := by decide +kernel
theorem dX10_mergedThing_12 : decode cX10_mergedThing 12 = .ok (.iconst (-1), 1) := by decide +kernel
theorem dX10_mergedThing_13 : decode cX10_mergedThing 13 = .ok (.invokevirtual 140, 3) := by decide +kernel
theorem dX10_mergedThing_16 : decode cX10_mergedThing 16 = .ok (.iconst 1, 1) := by decide +kernel
theorem dX10_mergedThing_17 : decode cX10_mergedThing 17 = .ok (.isub, 1) := by decide +kernel
theorem dX10_mergedThing_18 : decode cX10_mergedThing 18 = .ok (.invokestatic 65, 3) := by decide +kernel
theorem dX10_mergedThing_21 : decode cX10_mergedThing 21 = .ok (.ifCond .eq 15, 3) := by decide +kernel
theorem dX10_mergedThing_24 : decode cX10_mergedThing 24 = .ok (.aload_n 0, 1) := by decide +kernel
theorem dX10_mergedThing_25 : decode cX10_mergedThing 25 = .ok (.getfield 25, 3) := by decide +kernel
theorem dX10_mergedThing_28 : decode cX10_mergedThing 28 = .ok (.iload_n 1, 1) := by decide +kernel
theorem dX10_mergedThing_29 : decode cX10_mergedThing 29 = .ok (.iaload, 1) := by decide +kernel
theorem dX10_mergedThing_30 : decode cX10_mergedThing 30 = .ok (.bipush 20, 2) := by decide +kernel
theorem dX10_mergedThing_32 : decode cX10_mergedThing 32 = .ok (.irem, 1) := by decide +kernel
theorem dX10_mergedThing_33 : decode cX10_mergedThing 33 = .ok (.goto 8, 3) := by decide +kernel
theorem dX10_mergedThing_36 : decode cX10_mergedThing 36 = .ok (.aload_n 0, 1) := by decide +kernel
theorem dX10_mergedThing_37 : decode cX10_mergedThing 37 = .ok (.iconst 1, 1) := by decide +kernel
theorem dX10_mergedThing_38 : decode cX10_mergedThing 38 = .ok (.invokevirtual 178, 3) := by decide +kernel
theorem dX10_mergedThing_41 : decode cX10_mergedThing 41 = .ok (.ireturn, 1) := by decide +kernel
def fX10_mergedThing (p0 : Nat) (p1 : Int32) (h : mxH) : Option (Int32 × mxH) := Option.bind (pI h p0 10 3 0) (fun h1 => Option.bind (gR h1 p0 10 7) (fun r3 => Option.bind (isO h1 p0 10) (fun u5 => Option.bind (fX10_keysOf p0 r3 (-1) h1) (fun o8 => Option.bind (fX10_in p1 0 (o8.1 - 1) o8.2) (fun v10 => Option.bind (α := (Int32 × mxH)) (if v10 = 0 then Option.bind (isO o8.2 p0 10) (fun u15 => Option.bind (fX10_fails p0 1 o8.2) (fun o18 => some (o18.1, o18.2))) else Option.bind (gR o8.2 p0 10 7) (fun r19 => Option.bind (ldI o8.2 r19 p1) (fun v21 => some (v21 - v21 / 20 * 20, o8.2)))) (fun p13' : (Int32 × mxH) => some (p13'.1, p13'.2)))))))
abbrev rmX10_mergedThing : Room := { frames := 3, cells := 0, slots := 0, locals := 70 }
set_option maxRecDepth 20000 in
theorem tX10_mergedThing {l : Launch} {Z : mxZ} (hl : l.stackTraces = false) {p0 : Nat} {p1 : Int32} {h : mxH} {out : (Int32 × mxH)} (hf : fX10_mergedThing p0 p1 h = some out) : mxMet l Z yX10_mergedThing cX10_mergedThing 2 (some .int) rmX10_mergedThing [.ref p0, .int p1] h (.inl (some (.int out.1))) out.2 := by
  refine mxMet_of (by decide) hl (by simp [Value.category]) (Nat.le_of_ble_eq_true rfl) ?_
  intro X C E hX hin
  unfold fX10_mergedThing at hf
  refine mG_aload_n (pc := 0) C dX10_mergedThing_0 rfl ?_
  refine mG_ic (pc := 1) C dX10_mergedThing_1 kI0 ?_
  obtain ⟨h1, e2, hf⟩ := mx_bind hf
  refine mG_putI (pc := 2) C dX10_mergedThing_2 fl_X10_61 e2 ?_
  refine mG_iload_n (pc := 5) C dX10_mergedThing_5 rfl ?_
  refine mG_ic (pc := 6) C dX10_mergedThing_6 kI0 ?_
  refine mG_aload_n (pc := 7) C dX10_mergedThing_7 rfl ?_
  refine mG_aload_n (pc := 8) C dX10_mergedThing_8 rfl ?_
  obtain ⟨r3, e4, hf⟩ := mx_bind hf
  refine mG_getR (pc := 9) C dX10_mergedThing_9 fl_X10_25 e4 ?_
  refine mG_ic (pc := 12) C dX10_mergedThing_12 kIm1 ?_
  obtain ⟨u5, e6, hf⟩ := mx_bind hf
  obtain ⟨o8, e7, hf⟩ := mx_bind hf
  refine mG_cV (pc := 13) (k' := 0) (n' := 0) 10 [.ref r3, .int (-1)] [.int 0, .int p1] C hX dX10_mergedThing_13 lkV_X10_140 rfl rfl e6 (tX10_keysOf hl e7) rfl rfl rfl rfl ?_
  refine mG_ic (pc := 16) C dX10_mergedThing_16 kI1 ?_
  refine mG_isub (pc := 17) C dX10_mergedThing_17 ?_
  obtain ⟨v10, e9, hf⟩ := mx_bind hf
  refine mG_cS (pc := 18) (k' := 0) (n' := 0) [.int p1, .int 0, .int (o8.1 - 1)] [] C hX dX10_mergedThing_18 lkS_X10_65 rfl (tX10_in hl e9) rfl rfl rfl rfl ?_
  obtain ⟨p13, e14, hf⟩ := mx_bind hf
  have J12 : ∀ p13' : (Int32 × mxH), p13' = p13 → mG l Z X 2 0 0 41 [none, none] [.int p13'.1] p13'.2 := by
    intro p13' q23
    subst q23
    cases hf
    exact mG_ir (pc := 41) C E hX dX10_mergedThing_41 rfl
  refine mG_if_eq (pc := 21) (tgt := 36) C dX10_mergedThing_21 (by decide) (fun q11 => ?_) (fun q11 => ?_)
  · rw [if_pos q11] at e14
    refine mG_aload_n (pc := 36) C dX10_mergedThing_36 rfl ?_
    refine mG_ic (pc := 37) C dX10_mergedThing_37 kI1 ?_
    obtain ⟨u15, e16, e14⟩ := mx_bind e14
    obtain ⟨o18, e17, e14⟩ := mx_bind e14
    refine mG_cV (pc := 38) (k' := 0) (n' := 0) 10 [.int 1] [] C hX dX10_mergedThing_38 lkV_X10_178 rfl rfl e16 (tX10_fails hl e17) rfl rfl rfl rfl ?_
    exact mG_sub (mxLe_n (mxLe_n mxLe_z)) (J12 _ (Option.some.inj e14))
  · rw [if_neg q11] at e14
    refine mG_aload_n (pc := 24) C dX10_mergedThing_24 rfl ?_
    obtain ⟨r19, e20, e14⟩ := mx_bind e14
    refine mG_getR (pc := 25) C dX10_mergedThing_25 fl_X10_25 e20 ?_
    refine mG_iload_n (pc := 28) C dX10_mergedThing_28 rfl ?_
    obtain ⟨v21, e22, e14⟩ := mx_bind e14
    refine mG_iaload (pc := 29) C dX10_mergedThing_29 e22 ?_
    refine mG_bp (pc := 30) C dX10_mergedThing_30 kB20 ?_
    refine mG_irem (pc := 32) C dX10_mergedThing_32 (by decide) ?_
    refine mG_goto (tgt := 41) (pc := 33) C dX10_mergedThing_33 (by decide) ?_
    exact mG_sub (mxLe_n (mxLe_n mxLe_z)) (J12 _ (Option.some.inj e14))
