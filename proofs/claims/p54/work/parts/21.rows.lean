/-! printed by wip/gen/emit.py: for each method its function on the mini machine, and that the machine walks as the function says -/
theorem dX6_copyFrom_0 : decode cX6_copyFrom 0 = .ok (.iconst 0, 1) := by decide +kernel
theorem dX6_copyFrom_1 : decode cX6_copyFrom 1 = .ok (.istore_n 2, 1) := by decide +kernel
theorem dX6_copyFrom_2 : decode cX6_copyFrom 2 = .ok (.iload_n 2, 1) := by decide +kernel
theorem dX6_copyFrom_3 : decode cX6_copyFrom 3 = .ok (.iconst 5, 1) := by decide +kernel
theorem dX6_copyFrom_4 : decode cX6_copyFrom 4 = .ok (.if_icmp .ge 90, 3) := by decide +kernel
theorem dX6_copyFrom_7 : decode cX6_copyFrom 7 = .ok (.aload_n 1, 1) := by decide +kernel
theorem dX6_copyFrom_8 : decode cX6_copyFrom 8 = .ok (.getfield 11, 3) := by decide +kernel
theorem dX6_copyFrom_11 : decode cX6_copyFrom 11 = .ok (.iload_n 2, 1) := by decide +kernel
theorem dX6_copyFrom_12 : decode cX6_copyFrom 12 = .ok (.aaload, 1) := by decide +kernel
theorem dX6_copyFrom_13 : decode cX6_copyFrom 13 = .ok (.iconst 0, 1) := by decide +kernel
theorem dX6_copyFrom_14 : decode cX6_copyFrom 14 = .ok (.aload_n 0, 1) := by decide +kernel
theorem dX6_copyFrom_15 : decode cX6_copyFrom 15 = .ok (.getfield 11, 3) := by decide +kernel
theorem dX6_copyFrom_18 : decode cX6_copyFrom 18 = .ok (.iload_n 2, 1) := by decide +kernel
theorem dX6_copyFrom_19 : decode cX6_copyFrom 19 = .ok (.aaload, 1) := by decide +kernel
theorem dX6_copyFrom_20 : decode cX6_copyFrom 20 = .ok (.iconst 0, 1) := by decide +kernel
theorem dX6_copyFrom_21 : decode cX6_copyFrom 21 = .ok (.bipush 20, 2) := by decide +kernel
theorem dX6_copyFrom_23 : decode cX6_copyFrom 23 = .ok (.invokestatic 39, 3) := by decide +kernel
theorem dX6_copyFrom_26 : decode cX6_copyFrom 26 = .ok (.aload_n 1, 1) := by decide +kernel
theorem dX6_copyFrom_27 : decode cX6_copyFrom 27 = .ok (.getfield 19, 3) := by decide +kernel
theorem dX6_copyFrom_30 : decode cX6_copyFrom 30 = .ok (.iload_n 2, 1) := by decide +kernel
theorem dX6_copyFrom_31 : decode cX6_copyFrom 31 = .ok (.aaload, 1) := by decide +kernel
theorem dX6_copyFrom_32 : decode cX6_copyFrom 32 = .ok (.iconst 0, 1) := by decide +kernel
theorem dX6_copyFrom_33 : decode cX6_copyFrom 33 = .ok (.aload_n 0, 1) := by decide +kernel
theorem dX6_copyFrom_34 : decode cX6_copyFrom 34 = .ok (.getfield 19, 3) := by decide +kernel
theorem dX6_copyFrom_37 : decode cX6_copyFrom 37 = .ok (.iload_n 2, 1) := by decide +kernel
theorem dX6_copyFrom_38 : decode cX6_copyFrom 38 = .ok (.aaload, 1) := by decide +kernel
theorem dX6_copyFrom_39 : decode cX6_copyFrom 39 = .ok (.iconst 0, 1) := by decide +kernel
theorem dX6_copyFrom_40 : decode cX6_copyFrom 40 = .ok (.bipush 20, 2) := by decide +kernel
theorem dX6_copyFrom_42 : decode cX6_copyFrom 42 = .ok (.invokestatic 39, 3) := by decide +kernel
theorem dX6_copyFrom_45 : decode cX6_copyFrom 45 = .ok (.aload_n 1, 1) := by decide +kernel
theorem dX6_copyFrom_46 : decode cX6_copyFrom 46 = .ok (.getfield 16, 3) := by decide +kernel
theorem dX6_copyFrom_49 : decode cX6_copyFrom 49 = .ok (.iload_n 2, 1) := by decide +kernel
theorem dX6_copyFrom_50 : decode cX6_copyFrom 50 = .ok (.aaload, 1) := by decide +kernel
theorem dX6_copyFrom_51 : decode cX6_copyFrom 51 = .ok (.iconst 0, 1) := by decide +kernel
theorem dX6_copyFrom_52 : decode cX6_copyFrom 52 = .ok (.aload_n 0, 1) := by decide +kernel
theorem dX6_copyFrom_53 : decode cX6_copyFrom 53 = .ok (.getfield 16, 3) := by decide +kernel
theorem dX6_copyFrom_56 : decode cX6_copyFrom 56 = .ok (.iload_n 2, 1) := by decide +kernel
theorem dX6_copyFrom_57 : decode cX6_copyFrom 57 = .ok (.aaload, 1) := by decide +kernel
theorem dX6_copyFrom_58 : decode cX6_copyFrom 58 = .ok (.iconst 0, 1) := by decide +kernel
theorem dX6_copyFrom_59 : decode cX6_copyFrom 59 = .ok (.bipush 20, 2) := by decide +kernel
theorem dX6_copyFrom_61 : decode cX6_copyFrom 61 = .ok (.invokestatic 39, 3) := by decide +kernel
theorem dX6_copyFrom_64 : decode cX6_copyFrom 64 = .ok (.aload_n 0, 1) := by decide +kernel
theorem dX6_copyFrom_65 : decode cX6_copyFrom 65 = .ok (.getfield 22, 3) := by decide +kernel
theorem dX6_copyFrom_68 : decode cX6_copyFrom 68 = .ok (.iload_n 2, 1) := by decide +kernel
theorem dX6_copyFrom_69 : decode cX6_copyFrom 69 = .ok (.aload_n 1, 1) := by decide +kernel
theorem dX6_copyFrom_70 : decode cX6_copyFrom 70 = .ok (.getfield 22, 3) := by decide +kernel
theorem dX6_copyFrom_73 : decode cX6_copyFrom 73 = .ok (.iload_n 2, 1) := by decide +kernel
theorem dX6_copyFrom_74 : decode cX6_copyFrom 74 = .ok (.iaload, 1) := by decide +kernel
theorem dX6_copyFrom_75 : decode cX6_copyFrom 75 = .ok (.iastore, 1) := by decide +kernel
theorem dX6_copyFrom_76 : decode cX6_copyFrom 76 = .ok (.aload_n 0, 1) := by decide +kernel
theorem dX6_copyFrom_77 : decode cX6_copyFrom 77 = .ok (.getfield 26, 3) := by decide +kernel
theorem dX6_copyFrom_80 : decode cX6_copyFrom 80 = .ok (.iload_n 2, 1) := by decide +kernel
theorem dX6_copyFrom_81 : decode cX6_copyFrom 81 = .ok (.aload_n 1, 1) := by decide +kernel
theorem dX6_copyFrom_82 : decode cX6_copyFrom 82 = .ok (.getfield 26, 3) := by decide +kernel
theorem dX6_copyFrom_85 : decode cX6_copyFrom 85 = .ok (.iload_n 2, 1) := by decide +kernel
theorem dX6_copyFrom_86 : decode cX6_copyFrom 86 = .ok (.iaload, 1) := by decide +kernel
theorem dX6_copyFrom_87 : decode cX6_copyFrom 87 = .ok (.iastore, 1) := by decide +kernel
theorem dX6_copyFrom_88 : decode cX6_copyFrom 88 = .ok (.iinc 2 1, 3) := by decide +kernel
theorem dX6_copyFrom_91 : decode cX6_copyFrom 91 = .ok (.goto (-89), 3) := by decide +kernel
theorem dX6_copyFrom_94 : decode cX6_copyFrom 94 = .ok (.aload_n 1, 1) := by decide +kernel
theorem dX6_copyFrom_95 : decode cX6_copyFrom 95 = .ok (.getfield 29, 3) := by decide +kernel
theorem dX6_copyFrom_98 : decode cX6_copyFrom 98 = .ok (.iconst 0, 1) := by decide +kernel
theorem dX6_copyFrom_99 : decode cX6_copyFrom 99 = .ok (.aload_n 0, 1) := by decide +kernel
theorem dX6_copyFrom_100 : decode cX6_copyFrom 100 = .ok (.getfield 29, 3) := by decide +kernel
theorem dX6_copyFrom_103 : decode cX6_copyFrom 103 = .ok (.iconst 0, 1) := by decide +kernel
theorem dX6_copyFrom_104 : decode cX6_copyFrom 104 = .ok (.bipush 20, 2) := by decide +kernel
theorem dX6_copyFrom_106 : decode cX6_copyFrom 106 = .ok (.invokestatic 39, 3) := by decide +kernel
theorem dX6_copyFrom_109 : decode cX6_copyFrom 109 = .ok (.aload_n 0, 1) := by decide +kernel
theorem dX6_copyFrom_110 : decode cX6_copyFrom 110 = .ok (.aload_n 1, 1) := by decide +kernel
theorem dX6_copyFrom_111 : decode cX6_copyFrom 111 = .ok (.getfield 32, 3) := by decide +kernel
theorem dX6_copyFrom_114 : decode cX6_copyFrom 114 = .ok (.putfield 32, 3) := by decide +kernel
theorem dX6_copyFrom_117 : decode cX6_copyFrom 117 = .ok (.return_, 1) := by decide +kernel
def fX6_copyFrom (p0 : Nat) (p1 : Nat) (h : mxH) : Option mxH := Option.bind (mxLoop (ρ := mxH) (fun s1 : (Int32 × mxH) => (if 5 ≤ s1.1 then some (Sum.inr s1.2) else Option.bind (gR s1.2 p1 6 0) (fun r10 => Option.bind (ldR s1.2 r10 s1.1) (fun r12 => Option.bind (gR s1.2 p0 6 0) (fun r14 => Option.bind (ldR s1.2 r14 s1.1) (fun r16 => Option.bind (cpI s1.2 r12 0 r16 0 20) (fun h18 => Option.bind (gR h18 p1 6 2) (fun r20 => Option.bind (ldR h18 r20 s1.1) (fun r22 => Option.bind (gR h18 p0 6 2) (fun r24 => Option.bind (ldR h18 r24 s1.1) (fun r26 => Option.bind (cpI h18 r22 0 r26 0 20) (fun h28 => Option.bind (gR h28 p1 6 1) (fun r30 => Option.bind (ldR h28 r30 s1.1) (fun r32 => Option.bind (gR h28 p0 6 1) (fun r34 => Option.bind (ldR h28 r34 s1.1) (fun r36 => Option.bind (cpI h28 r32 0 r36 0 20) (fun h38 => Option.bind (gR h38 p0 6 3) (fun r40 => Option.bind (gR h38 p1 6 3) (fun r42 => Option.bind (ldI h38 r42 s1.1) (fun v44 => Option.bind (stI h38 r40 s1.1 v44) (fun h46 => Option.bind (gR h46 p0 6 4) (fun r48 => Option.bind (gR h46 p1 6 4) (fun r50 => Option.bind (ldI h46 r50 s1.1) (fun v52 => Option.bind (stI h46 r48 s1.1 v52) (fun h54 => some (Sum.inl (s1.1 + 1, h54))))))))))))))))))))))))))) mxF (0, h)) (fun r56 : mxH => Option.bind (gR r56 p1 6 5) (fun r57 => Option.bind (gR r56 p0 6 5) (fun r59 => Option.bind (cpI r56 r57 0 r59 0 20) (fun h61 => Option.bind (gI h61 p1 6 6) (fun v63 => Option.bind (pI h61 p0 6 6 v63) (fun h65 => some h65))))))
abbrev rmX6_copyFrom : Room := { frames := 1, cells := 0, slots := 0, locals := 41 }
set_option maxRecDepth 20000 in
theorem tX6_copyFrom {l : Launch} {Z : mxZ} (hl : l.stackTraces = false) {p0 : Nat} {p1 : Nat} {h : mxH} {out : mxH} (hf : fX6_copyFrom p0 p1 h = some out) : mxMet l Z yX6_copyFrom cX6_copyFrom 3 (none) rmX6_copyFrom [.ref p0, .ref p1] h (.inl none) out := by
  refine mxMet_of (by decide) hl (by simp [Value.category]) (Nat.le_of_ble_eq_true rfl) ?_
  intro X C E hX hin
  unfold fX6_copyFrom at hf
  refine mG_ic (pc := 0) C dX6_copyFrom_0 kI0 ?_
  refine mG_isn (ls' := [some (.ref p0), some (.ref p1), some (.int 0)]) (pc := 1) C dX6_copyFrom_1 rfl rfl rfl ?_
  obtain ⟨r2, e3, hf⟩ := mx_bind hf
  have J4 : ∀ r56 : mxH, r56 = r2 → mG l Z X 3 0 0 94 [some (.ref p0), some (.ref p1), none] [] r56 := by
    intro r56 q67
    subst q67
    refine mG_aload_n (pc := 94) C dX6_copyFrom_94 rfl ?_
    obtain ⟨r57, e58, hf⟩ := mx_bind hf
    refine mG_getR (pc := 95) C dX6_copyFrom_95 fl_X6_29 e58 ?_
    refine mG_ic (pc := 98) C dX6_copyFrom_98 kI0 ?_
    refine mG_aload_n (pc := 99) C dX6_copyFrom_99 rfl ?_
    obtain ⟨r59, e60, hf⟩ := mx_bind hf
    refine mG_getR (pc := 100) C dX6_copyFrom_100 fl_X6_29 e60 ?_
    refine mG_ic (pc := 103) C dX6_copyFrom_103 kI0 ?_
    refine mG_bp (pc := 104) C dX6_copyFrom_104 kB20 ?_
    obtain ⟨h61, e62, hf⟩ := mx_bind hf
    refine mG_ac (pc := 106) C hX dX6_copyFrom_106 w631 wac e62 rfl rfl ?_
    refine mG_aload_n (pc := 109) C dX6_copyFrom_109 rfl ?_
    refine mG_aload_n (pc := 110) C dX6_copyFrom_110 rfl ?_
    obtain ⟨v63, e64, hf⟩ := mx_bind hf
    refine mG_getI (pc := 111) C dX6_copyFrom_111 fl_X6_32 e64 ?_
    obtain ⟨h65, e66, hf⟩ := mx_bind hf
    refine mG_putI (pc := 114) C dX6_copyFrom_114 fl_X6_32 e66 ?_
    cases hf
    exact mG_vr (pc := 117) C E hX dX6_copyFrom_117 rfl
  refine mG_sub (ls' := [some (.ref p0), some (.ref p1), some (.int 0)]) (mxLe_s (mxLe_s (mxLe_s mxLe_z))) (mxLoop_ind (K := fun s1 : (Int32 × mxH) => mG l Z X 3 0 0 2 [some (.ref p0), some (.ref p1), some (.int s1.1)] [] s1.2) ?_ _ _ e3)
  intro s1 o7 e8 hK5 hx6
  refine mG_iload_n (pc := 2) C dX6_copyFrom_2 rfl ?_
  refine mG_ic (pc := 3) C dX6_copyFrom_3 kI5 ?_
  refine mG_icmp_ge (pc := 4) (tgt := 94) C dX6_copyFrom_4 (by decide) (fun q9 => ?_) (fun q9 => ?_)
  · rw [if_pos q9] at e8
    exact mG_sub (mxLe_s (mxLe_s (mxLe_n mxLe_z))) (J4 _ (hx6 _ (Option.some.inj e8).symm))
  · rw [if_neg q9] at e8
    refine mG_aload_n (pc := 7) C dX6_copyFrom_7 rfl ?_
    obtain ⟨r10, e11, e8⟩ := mx_bind e8
    refine mG_getR (pc := 8) C dX6_copyFrom_8 fl_X6_11 e11 ?_
    refine mG_iload_n (pc := 11) C dX6_copyFrom_11 rfl ?_
    obtain ⟨r12, e13, e8⟩ := mx_bind e8
    refine mG_aaload (pc := 12) C dX6_copyFrom_12 e13 ?_
    refine mG_ic (pc := 13) C dX6_copyFrom_13 kI0 ?_
    refine mG_aload_n (pc := 14) C dX6_copyFrom_14 rfl ?_
    obtain ⟨r14, e15, e8⟩ := mx_bind e8
    refine mG_getR (pc := 15) C dX6_copyFrom_15 fl_X6_11 e15 ?_
    refine mG_iload_n (pc := 18) C dX6_copyFrom_18 rfl ?_
    obtain ⟨r16, e17, e8⟩ := mx_bind e8
    refine mG_aaload (pc := 19) C dX6_copyFrom_19 e17 ?_
    refine mG_ic (pc := 20) C dX6_copyFrom_20 kI0 ?_
    refine mG_bp (pc := 21) C dX6_copyFrom_21 kB20 ?_
    obtain ⟨h18, e19, e8⟩ := mx_bind e8
    refine mG_ac (pc := 23) C hX dX6_copyFrom_23 w631 wac e19 rfl rfl ?_
    refine mG_aload_n (pc := 26) C dX6_copyFrom_26 rfl ?_
    obtain ⟨r20, e21, e8⟩ := mx_bind e8
    refine mG_getR (pc := 27) C dX6_copyFrom_27 fl_X6_19 e21 ?_
    refine mG_iload_n (pc := 30) C dX6_copyFrom_30 rfl ?_
    obtain ⟨r22, e23, e8⟩ := mx_bind e8
    refine mG_aaload (pc := 31) C dX6_copyFrom_31 e23 ?_
    refine mG_ic (pc := 32) C dX6_copyFrom_32 kI0 ?_
    refine mG_aload_n (pc := 33) C dX6_copyFrom_33 rfl ?_
    obtain ⟨r24, e25, e8⟩ := mx_bind e8
    refine mG_getR (pc := 34) C dX6_copyFrom_34 fl_X6_19 e25 ?_
    refine mG_iload_n (pc := 37) C dX6_copyFrom_37 rfl ?_
    obtain ⟨r26, e27, e8⟩ := mx_bind e8
    refine mG_aaload (pc := 38) C dX6_copyFrom_38 e27 ?_
    refine mG_ic (pc := 39) C dX6_copyFrom_39 kI0 ?_
    refine mG_bp (pc := 40) C dX6_copyFrom_40 kB20 ?_
    obtain ⟨h28, e29, e8⟩ := mx_bind e8
    refine mG_ac (pc := 42) C hX dX6_copyFrom_42 w631 wac e29 rfl rfl ?_
    refine mG_aload_n (pc := 45) C dX6_copyFrom_45 rfl ?_
    obtain ⟨r30, e31, e8⟩ := mx_bind e8
    refine mG_getR (pc := 46) C dX6_copyFrom_46 fl_X6_16 e31 ?_
    refine mG_iload_n (pc := 49) C dX6_copyFrom_49 rfl ?_
    obtain ⟨r32, e33, e8⟩ := mx_bind e8
    refine mG_aaload (pc := 50) C dX6_copyFrom_50 e33 ?_
    refine mG_ic (pc := 51) C dX6_copyFrom_51 kI0 ?_
    refine mG_aload_n (pc := 52) C dX6_copyFrom_52 rfl ?_
    obtain ⟨r34, e35, e8⟩ := mx_bind e8
    refine mG_getR (pc := 53) C dX6_copyFrom_53 fl_X6_16 e35 ?_
    refine mG_iload_n (pc := 56) C dX6_copyFrom_56 rfl ?_
    obtain ⟨r36, e37, e8⟩ := mx_bind e8
    refine mG_aaload (pc := 57) C dX6_copyFrom_57 e37 ?_
    refine mG_ic (pc := 58) C dX6_copyFrom_58 kI0 ?_
    refine mG_bp (pc := 59) C dX6_copyFrom_59 kB20 ?_
    obtain ⟨h38, e39, e8⟩ := mx_bind e8
    refine mG_ac (pc := 61) C hX dX6_copyFrom_61 w631 wac e39 rfl rfl ?_
    refine mG_aload_n (pc := 64) C dX6_copyFrom_64 rfl ?_
    obtain ⟨r40, e41, e8⟩ := mx_bind e8
    refine mG_getR (pc := 65) C dX6_copyFrom_65 fl_X6_22 e41 ?_
    refine mG_iload_n (pc := 68) C dX6_copyFrom_68 rfl ?_
    refine mG_aload_n (pc := 69) C dX6_copyFrom_69 rfl ?_
    obtain ⟨r42, e43, e8⟩ := mx_bind e8
    refine mG_getR (pc := 70) C dX6_copyFrom_70 fl_X6_22 e43 ?_
    refine mG_iload_n (pc := 73) C dX6_copyFrom_73 rfl ?_
    obtain ⟨v44, e45, e8⟩ := mx_bind e8
    refine mG_iaload (pc := 74) C dX6_copyFrom_74 e45 ?_
    obtain ⟨h46, e47, e8⟩ := mx_bind e8
    refine mG_iastore (pc := 75) C dX6_copyFrom_75 e47 ?_
    refine mG_aload_n (pc := 76) C dX6_copyFrom_76 rfl ?_
    obtain ⟨r48, e49, e8⟩ := mx_bind e8
    refine mG_getR (pc := 77) C dX6_copyFrom_77 fl_X6_26 e49 ?_
    refine mG_iload_n (pc := 80) C dX6_copyFrom_80 rfl ?_
    refine mG_aload_n (pc := 81) C dX6_copyFrom_81 rfl ?_
    obtain ⟨r50, e51, e8⟩ := mx_bind e8
    refine mG_getR (pc := 82) C dX6_copyFrom_82 fl_X6_26 e51 ?_
    refine mG_iload_n (pc := 85) C dX6_copyFrom_85 rfl ?_
    obtain ⟨v52, e53, e8⟩ := mx_bind e8
    refine mG_iaload (pc := 86) C dX6_copyFrom_86 e53 ?_
    obtain ⟨h54, e55, e8⟩ := mx_bind e8
    refine mG_iastore (pc := 87) C dX6_copyFrom_87 e55 ?_
    refine mG_ii (ls' := [some (.ref p0), some (.ref p1), some (.int (s1.1 + 1))]) (pc := 88) C dX6_copyFrom_88 rfl (kinc1 _) rfl rfl rfl ?_
    refine mG_goto (tgt := 2) (pc := 91) C dX6_copyFrom_91 (by decide) ?_
    exact mG_sub (mxLe_s (mxLe_s (mxLe_s mxLe_z))) (hK5 _ (Option.some.inj e8).symm)
theorem dX6_markOf_0 : decode cX6_markOf 0 = .ok (.iload_n 1, 1) := by decide +kernel
theorem dX6_markOf_1 : decode cX6_markOf 1 = .ok (.invokestatic 45, 3) := by decide +kernel
theorem dX6_markOf_4 : decode cX6_markOf 4 = .ok (.ifCond .eq 21, 3) := by decide +kernel
theorem dX6_markOf_7 : decode cX6_markOf 7 = .ok (.iload_n 2, 1) := by decide +kernel
theorem dX6_markOf_8 : decode cX6_markOf 8 = .ok (.invokestatic 49, 3) := by decide +kernel
theorem dX6_markOf_11 : decode cX6_markOf 11 = .ok (.ifCond .eq 14, 3) := by decide +kernel
theorem dX6_markOf_14 : decode cX6_markOf 14 = .ok (.aload_n 0, 1) := by decide +kernel
theorem dX6_markOf_15 : decode cX6_markOf 15 = .ok (.getfield 11, 3) := by decide +kernel
theorem dX6_markOf_18 : decode cX6_markOf 18 = .ok (.iload_n 1, 1) := by decide +kernel
theorem dX6_markOf_19 : decode cX6_markOf 19 = .ok (.aaload, 1) := by decide +kernel
theorem dX6_markOf_20 : decode cX6_markOf 20 = .ok (.iload_n 2, 1) := by decide +kernel
theorem dX6_markOf_21 : decode cX6_markOf 21 = .ok (.iaload, 1) := by decide +kernel
theorem dX6_markOf_22 : decode cX6_markOf 22 = .ok (.goto 4, 3) := by decide +kernel
theorem dX6_markOf_25 : decode cX6_markOf 25 = .ok (.iconst (-1), 1) := by decide +kernel
theorem dX6_markOf_26 : decode cX6_markOf 26 = .ok (.ireturn, 1) := by decide +kernel
def fX6_markOf (p0 : Nat) (p1 : Int32) (p2 : Int32) (h : mxH) : Option Int32 := Option.bind (fX9_isRow p1 h) (fun v2 => Option.bind (α := Int32) (if v2 = 0 then some (-1) else Option.bind (fX9_isThing p2 h) (fun v8 => (if v8 = 0 then some (-1) else Option.bind (gR h p0 6 0) (fun r10 => Option.bind (ldR h r10 p1) (fun r12 => Option.bind (ldI h r12 p2) (fun v14 => some v14)))))) (fun p5' : Int32 => some p5'))
abbrev rmX6_markOf : Room := { frames := 1, cells := 0, slots := 0, locals := 20 }
set_option maxRecDepth 20000 in
theorem tX6_markOf {l : Launch} {Z : mxZ} (hl : l.stackTraces = false) {p0 : Nat} {p1 : Int32} {p2 : Int32} {h : mxH} {out : Int32} (hf : fX6_markOf p0 p1 p2 h = some out) : mxMet l Z yX6_markOf cX6_markOf 3 (some .int) rmX6_markOf [.ref p0, .int p1, .int p2] h (.inl (some (.int out))) h := by
  refine mxMet_of (by decide) hl (by simp [Value.category]) (Nat.le_of_ble_eq_true rfl) ?_
  intro X C E hX hin
  unfold fX6_markOf at hf
  refine mG_iload_n (pc := 0) C dX6_markOf_0 rfl ?_
  obtain ⟨v2, e1, hf⟩ := mx_bind hf
  refine mG_cS (pc := 1) (k' := 0) (n' := 0) [.int p1] [] C hX dX6_markOf_1 lkS_X6_45 rfl (tX9_isRow hl e1) rfl rfl rfl rfl ?_
  obtain ⟨p5, e6, hf⟩ := mx_bind hf
  have J4 : ∀ p5' : Int32, p5' = p5 → mG l Z X 3 0 0 26 [none, none, none] [.int p5'] h := by
    intro p5' q16
    subst q16
    cases hf
    exact mG_ir (pc := 26) C E hX dX6_markOf_26 rfl
  refine mG_if_eq (pc := 4) (tgt := 25) C dX6_markOf_4 (by decide) (fun q3 => ?_) (fun q3 => ?_)
  · rw [if_pos q3] at e6
    refine mG_ic (pc := 25) C dX6_markOf_25 kIm1 ?_
    exact mG_sub (mxLe_n (mxLe_n (mxLe_n mxLe_z))) (J4 _ (Option.some.inj e6))
  · rw [if_neg q3] at e6
    refine mG_iload_n (pc := 7) C dX6_markOf_7 rfl ?_
    obtain ⟨v8, e7, e6⟩ := mx_bind e6
    refine mG_cS (pc := 8) (k' := 0) (n' := 0) [.int p2] [] C hX dX6_markOf_8 lkS_X6_49 rfl (tX9_isThing hl e7) rfl rfl rfl rfl ?_
    refine mG_if_eq (pc := 11) (tgt := 25) C dX6_markOf_11 (by decide) (fun q9 => ?_) (fun q9 => ?_)
    · rw [if_pos q9] at e6
      refine mG_ic (pc := 25) C dX6_markOf_25 kIm1 ?_
      exact mG_sub (mxLe_n (mxLe_n (mxLe_n mxLe_z))) (J4 _ (Option.some.inj e6))
    · rw [if_neg q9] at e6
      refine mG_aload_n (pc := 14) C dX6_markOf_14 rfl ?_
      obtain ⟨r10, e11, e6⟩ := mx_bind e6
      refine mG_getR (pc := 15) C dX6_markOf_15 fl_X6_11 e11 ?_
      refine mG_iload_n (pc := 18) C dX6_markOf_18 rfl ?_
      obtain ⟨r12, e13, e6⟩ := mx_bind e6
      refine mG_aaload (pc := 19) C dX6_markOf_19 e13 ?_
      refine mG_iload_n (pc := 20) C dX6_markOf_20 rfl ?_
      obtain ⟨v14, e15, e6⟩ := mx_bind e6
      refine mG_iaload (pc := 21) C dX6_markOf_21 e15 ?_
      refine mG_goto (tgt := 26) (pc := 22) C dX6_markOf_22 (by decide) ?_
      exact mG_sub (mxLe_n (mxLe_n (mxLe_n mxLe_z))) (J4 _ (Option.some.inj e6))
theorem dX6_thingOn_0 : decode cX6_thingOn 0 = .ok (.iload_n 1, 1) := by decide +kernel
theorem dX6_thingOn_1 : decode cX6_thingOn 1 = .ok (.invokestatic 45, 3) := by decide +kernel
theorem dX6_thingOn_4 : decode cX6_thingOn 4 = .ok (.ifCond .eq 21, 3) := by decide +kernel
theorem dX6_thingOn_7 : decode cX6_thingOn 7 = .ok (.iload_n 2, 1) := by decide +kernel
theorem dX6_thingOn_8 : decode cX6_thingOn 8 = .ok (.invokestatic 49, 3) := by decide +kernel
theorem dX6_thingOn_11 : decode cX6_thingOn 11 = .ok (.ifCond .eq 14, 3) := by decide +kernel
theorem dX6_thingOn_14 : decode cX6_thingOn 14 = .ok (.aload_n 0, 1) := by decide +kernel
theorem dX6_thingOn_15 : decode cX6_thingOn 15 = .ok (.getfield 19, 3) := by decide +kernel
theorem dX6_thingOn_18 : decode cX6_thingOn 18 = .ok (.iload_n 1, 1) := by decide +kernel
theorem dX6_thingOn_19 : decode cX6_thingOn 19 = .ok (.aaload, 1) := by decide +kernel
theorem dX6_thingOn_20 : decode cX6_thingOn 20 = .ok (.iload_n 2, 1) := by decide +kernel
theorem dX6_thingOn_21 : decode cX6_thingOn 21 = .ok (.iaload, 1) := by decide +kernel
theorem dX6_thingOn_22 : decode cX6_thingOn 22 = .ok (.goto 4, 3) := by decide +kernel
theorem dX6_thingOn_25 : decode cX6_thingOn 25 = .ok (.iconst (-1), 1) := by decide +kernel
theorem dX6_thingOn_26 : decode cX6_thingOn 26 = .ok (.ireturn, 1) := by decide +kernel
def fX6_thingOn (p0 : Nat) (p1 : Int32) (p2 : Int32) (h : mxH) : Option Int32 := Option.bind (fX9_isRow p1 h) (fun v2 => Option.bind (α := Int32) (if v2 = 0 then some (-1) else Option.bind (fX9_isThing p2 h) (fun v8 => (if v8 = 0 then some (-1) else Option.bind (gR h p0 6 2) (fun r10 => Option.bind (ldR h r10 p1) (fun r12 => Option.bind (ldI h r12 p2) (fun v14 => some v14)))))) (fun p5' : Int32 => some p5'))
abbrev rmX6_thingOn : Room := { frames := 1, cells := 0, slots := 0, locals := 20 }
set_option maxRecDepth 20000 in
theorem tX6_thingOn {l : Launch} {Z : mxZ} (hl : l.stackTraces = false) {p0 : Nat} {p1 : Int32} {p2 : Int32} {h : mxH} {out : Int32} (hf : fX6_thingOn p0 p1 p2 h = some out) : mxMet l Z yX6_thingOn cX6_thingOn 3 (some .int) rmX6_thingOn [.ref p0, .int p1, .int p2] h (.inl (some (.int out))) h := by
  refine mxMet_of (by decide) hl (by simp [Value.category]) (Nat.le_of_ble_eq_true rfl) ?_
  intro X C E hX hin
  unfold fX6_thingOn at hf
  refine mG_iload_n (pc := 0) C dX6_thingOn_0 rfl ?_
  obtain ⟨v2, e1, hf⟩ := mx_bind hf
  refine mG_cS (pc := 1) (k' := 0) (n' := 0) [.int p1] [] C hX dX6_thingOn_1 lkS_X6_45 rfl (tX9_isRow hl e1) rfl rfl rfl rfl ?_
  obtain ⟨p5, e6, hf⟩ := mx_bind hf
  have J4 : ∀ p5' : Int32, p5' = p5 → mG l Z X 3 0 0 26 [none, none, none] [.int p5'] h := by
    intro p5' q16
    subst q16
    cases hf
    exact mG_ir (pc := 26) C E hX dX6_thingOn_26 rfl
  refine mG_if_eq (pc := 4) (tgt := 25) C dX6_thingOn_4 (by decide) (fun q3 => ?_) (fun q3 => ?_)
  · rw [if_pos q3] at e6
    refine mG_ic (pc := 25) C dX6_thingOn_25 kIm1 ?_
    exact mG_sub (mxLe_n (mxLe_n (mxLe_n mxLe_z))) (J4 _ (Option.some.inj e6))
  · rw [if_neg q3] at e6
    refine mG_iload_n (pc := 7) C dX6_thingOn_7 rfl ?_
    obtain ⟨v8, e7, e6⟩ := mx_bind e6
    refine mG_cS (pc := 8) (k' := 0) (n' := 0) [.int p2] [] C hX dX6_thingOn_8 lkS_X6_49 rfl (tX9_isThing hl e7) rfl rfl rfl rfl ?_
    refine mG_if_eq (pc := 11) (tgt := 25) C dX6_thingOn_11 (by decide) (fun q9 => ?_) (fun q9 => ?_)
    · rw [if_pos q9] at e6
      refine mG_ic (pc := 25) C dX6_thingOn_25 kIm1 ?_
      exact mG_sub (mxLe_n (mxLe_n (mxLe_n mxLe_z))) (J4 _ (Option.some.inj e6))
    · rw [if_neg q9] at e6
      refine mG_aload_n (pc := 14) C dX6_thingOn_14 rfl ?_
      obtain ⟨r10, e11, e6⟩ := mx_bind e6
      refine mG_getR (pc := 15) C dX6_thingOn_15 fl_X6_19 e11 ?_
      refine mG_iload_n (pc := 18) C dX6_thingOn_18 rfl ?_
      obtain ⟨r12, e13, e6⟩ := mx_bind e6
      refine mG_aaload (pc := 19) C dX6_thingOn_19 e13 ?_
      refine mG_iload_n (pc := 20) C dX6_thingOn_20 rfl ?_
      obtain ⟨v14, e15, e6⟩ := mx_bind e6
      refine mG_iaload (pc := 21) C dX6_thingOn_21 e15 ?_
      refine mG_goto (tgt := 26) (pc := 22) C dX6_thingOn_22 (by decide) ?_
      exact mG_sub (mxLe_n (mxLe_n (mxLe_n mxLe_z))) (J4 _ (Option.some.inj e6))
theorem dX6_markOn_0 : decode cX6_markOn 0 = .ok (.aload_n 0, 1) := by decide +kernel
theorem dX6_markOn_1 : decode cX6_markOn 1 = .ok (.iload_n 1, 1) := by decide +kernel
theorem dX6_markOn_2 : decode cX6_markOn 2 = .ok (.aload_n 0, 1) := by decide +kernel
theorem dX6_markOn_3 : decode cX6_markOn 3 = .ok (.iload_n 1, 1) := by decide +kernel
theorem dX6_markOn_4 : decode cX6_markOn 4 = .ok (.iload_n 2, 1) := by decide +kernel
theorem dX6_markOn_5 : decode cX6_markOn 5 = .ok (.invokevirtual 75, 3) := by decide +kernel
theorem dX6_markOn_8 : decode cX6_markOn 8 = .ok (.invokevirtual 78, 3) := by decide +kernel
theorem dX6_markOn_11 : decode cX6_markOn 11 = .ok (.ireturn, 1) := by decide +kernel
def fX6_markOn (p0 : Nat) (p1 : Int32) (p2 : Int32) (h : mxH) : Option Int32 := Option.bind (isO h p0 6) (fun u1 => Option.bind (fX6_thingOn p0 p1 p2 h) (fun v4 => Option.bind (isO h p0 6) (fun u5 => Option.bind (fX6_markOf p0 p1 v4 h) (fun v8 => some v8))))
abbrev rmX6_markOn : Room := { frames := 2, cells := 0, slots := 0, locals := 42 }
set_option maxRecDepth 20000 in
theorem tX6_markOn {l : Launch} {Z : mxZ} (hl : l.stackTraces = false) {p0 : Nat} {p1 : Int32} {p2 : Int32} {h : mxH} {out : Int32} (hf : fX6_markOn p0 p1 p2 h = some out) : mxMet l Z yX6_markOn cX6_markOn 3 (some .int) rmX6_markOn [.ref p0, .int p1, .int p2] h (.inl (some (.int out))) h := by
  refine mxMet_of (by decide) hl (by simp [Value.category]) (Nat.le_of_ble_eq_true rfl) ?_
  intro X C E hX hin
  unfold fX6_markOn at hf
  refine mG_aload_n (pc := 0) C dX6_markOn_0 rfl ?_
  refine mG_iload_n (pc := 1) C dX6_markOn_1 rfl ?_
  refine mG_aload_n (pc := 2) C dX6_markOn_2 rfl ?_
  refine mG_iload_n (pc := 3) C dX6_markOn_3 rfl ?_
  refine mG_iload_n (pc := 4) C dX6_markOn_4 rfl ?_
  obtain ⟨u1, e2, hf⟩ := mx_bind hf
  obtain ⟨v4, e3, hf⟩ := mx_bind hf
  refine mG_cV (pc := 5) (k' := 0) (n' := 0) 6 [.int p1, .int p2] [.int p1, .ref p0] C hX dX6_markOn_5 lkV_X6_75 rfl rfl e2 (tX6_thingOn hl e3) rfl rfl rfl rfl ?_
  obtain ⟨u5, e6, hf⟩ := mx_bind hf
  obtain ⟨v8, e7, hf⟩ := mx_bind hf
  refine mG_cV (pc := 8) (k' := 0) (n' := 0) 6 [.int p1, .int v4] [] C hX dX6_markOn_8 lkV_X6_78 rfl rfl e6 (tX6_markOf hl e7) rfl rfl rfl rfl ?_
  cases hf
  exact mG_ir (pc := 11) C E hX dX6_markOn_11 rfl
theorem dX6_sizeOf_0 : decode cX6_sizeOf 0 = .ok (.iload_n 1, 1) := by decide +kernel
theorem dX6_sizeOf_1 : decode cX6_sizeOf 1 = .ok (.invokestatic 45, 3) := by decide +kernel
theorem dX6_sizeOf_4 : decode cX6_sizeOf 4 = .ok (.ifCond .eq 12, 3) := by decide +kernel
theorem dX6_sizeOf_7 : decode cX6_sizeOf 7 = .ok (.aload_n 0, 1) := by decide +kernel
theorem dX6_sizeOf_8 : decode cX6_sizeOf 8 = .ok (.getfield 22, 3) := by decide +kernel
theorem dX6_sizeOf_11 : decode cX6_sizeOf 11 = .ok (.iload_n 1, 1) := by decide +kernel
theorem dX6_sizeOf_12 : decode cX6_sizeOf 12 = .ok (.iaload, 1) := by decide +kernel
theorem dX6_sizeOf_13 : decode cX6_sizeOf 13 = .ok (.goto 4, 3) := by decide +kernel
theorem dX6_sizeOf_16 : decode cX6_sizeOf 16 = .ok (.iconst 0, 1) := by decide +kernel
theorem dX6_sizeOf_17 : decode cX6_sizeOf 17 = .ok (.ireturn, 1) := by decide +kernel
def fX6_sizeOf (p0 : Nat) (p1 : Int32) (h : mxH) : Option Int32 := Option.bind (fX9_isRow p1 h) (fun v2 => Option.bind (α := Int32) (if v2 = 0 then some 0 else Option.bind (gR h p0 6 3) (fun r7 => Option.bind (ldI h r7 p1) (fun v9 => some v9))) (fun p5' : Int32 => some p5'))
abbrev rmX6_sizeOf : Room := { frames := 1, cells := 0, slots := 0, locals := 20 }
set_option maxRecDepth 20000 in
theorem tX6_sizeOf {l : Launch} {Z : mxZ} (hl : l.stackTraces = false) {p0 : Nat} {p1 : Int32} {h : mxH} {out : Int32} (hf : fX6_sizeOf p0 p1 h = some out) : mxMet l Z yX6_sizeOf cX6_sizeOf 2 (some .int) rmX6_sizeOf [.ref p0, .int p1] h (.inl (some (.int out))) h := by
  refine mxMet_of (by decide) hl (by simp [Value.category]) (Nat.le_of_ble_eq_true rfl) ?_
  intro X C E hX hin
  unfold fX6_sizeOf at hf
  refine mG_iload_n (pc := 0) C dX6_sizeOf_0 rfl ?_
  obtain ⟨v2, e1, hf⟩ := mx_bind hf
  refine mG_cS (pc := 1) (k' := 0) (n' := 0) [.int p1] [] C hX dX6_sizeOf_1 lkS_X6_45 rfl (tX9_isRow hl e1) rfl rfl rfl rfl ?_
  obtain ⟨p5, e6, hf⟩ := mx_bind hf
  have J4 : ∀ p5' : Int32, p5' = p5 → mG l Z X 2 0 0 17 [none, none] [.int p5'] h := by
    intro p5' q11
    subst q11
    cases hf
    exact mG_ir (pc := 17) C E hX dX6_sizeOf_17 rfl
  refine mG_if_eq (pc := 4) (tgt := 16) C dX6_sizeOf_4 (by decide) (fun q3 => ?_) (fun q3 => ?_)
  · rw [if_pos q3] at e6
    refine mG_ic (pc := 16) C dX6_sizeOf_16 kI0 ?_
    exact mG_sub (mxLe_n (mxLe_n mxLe_z)) (J4 _ (Option.some.inj e6))
  · rw [if_neg q3] at e6
    refine mG_aload_n (pc := 7) C dX6_sizeOf_7 rfl ?_
    obtain ⟨r7, e8, e6⟩ := mx_bind e6
    refine mG_getR (pc := 8) C dX6_sizeOf_8 fl_X6_22 e8 ?_
    refine mG_iload_n (pc := 11) C dX6_sizeOf_11 rfl ?_
    obtain ⟨v9, e10, e6⟩ := mx_bind e6
    refine mG_iaload (pc := 12) C dX6_sizeOf_12 e10 ?_
    refine mG_goto (tgt := 17) (pc := 13) C dX6_sizeOf_13 (by decide) ?_
    exact mG_sub (mxLe_n (mxLe_n mxLe_z)) (J4 _ (Option.some.inj e6))
theorem dX6_isRead_0 : decode cX6_isRead 0 = .ok (.iload_n 1, 1) := by decide +kernel
theorem dX6_isRead_1 : decode cX6_isRead 1 = .ok (.invokestatic 49, 3) := by decide +kernel
theorem dX6_isRead_4 : decode cX6_isRead 4 = .ok (.ifCond .eq 17, 3) := by decide +kernel
theorem dX6_isRead_7 : decode cX6_isRead 7 = .ok (.aload_n 0, 1) := by decide +kernel
theorem dX6_isRead_8 : decode cX6_isRead 8 = .ok (.getfield 29, 3) := by decide +kernel
theorem dX6_isRead_11 : decode cX6_isRead 11 = .ok (.iload_n 1, 1) := by decide +kernel
theorem dX6_isRead_12 : decode cX6_isRead 12 = .ok (.iaload, 1) := by decide +kernel
theorem dX6_isRead_13 : decode cX6_isRead 13 = .ok (.iload_n 2, 1) := by decide +kernel
theorem dX6_isRead_14 : decode cX6_isRead 14 = .ok (.if_icmp .ge 7, 3) := by decide +kernel
theorem dX6_isRead_17 : decode cX6_isRead 17 = .ok (.iconst 1, 1) := by decide +kernel
theorem dX6_isRead_18 : decode cX6_isRead 18 = .ok (.goto 4, 3) := by decide +kernel
theorem dX6_isRead_21 : decode cX6_isRead 21 = .ok (.iconst 0, 1) := by decide +kernel
theorem dX6_isRead_22 : decode cX6_isRead 22 = .ok (.ireturn, 1) := by decide +kernel
def fX6_isRead (p0 : Nat) (p1 : Int32) (p2 : Int32) (h : mxH) : Option Int32 := Option.bind (fX9_isThing p1 h) (fun v2 => Option.bind (α := Int32) (if v2 = 0 then some 0 else Option.bind (gR h p0 6 5) (fun r7 => Option.bind (ldI h r7 p1) (fun v9 => (if p2 ≤ v9 then some 0 else some 1)))) (fun p5' : Int32 => Option.bind (mxZ1 p5') (fun v12 => some v12)))
abbrev rmX6_isRead : Room := { frames := 1, cells := 0, slots := 0, locals := 20 }
set_option maxRecDepth 20000 in
theorem tX6_isRead {l : Launch} {Z : mxZ} (hl : l.stackTraces = false) {p0 : Nat} {p1 : Int32} {p2 : Int32} {h : mxH} {out : Int32} (hf : fX6_isRead p0 p1 p2 h = some out) : mxMet l Z yX6_isRead cX6_isRead 3 (some .boolean) rmX6_isRead [.ref p0, .int p1, .int p2] h (.inl (some (.int out))) h := by
  refine mxMet_of (by decide) hl (by simp [Value.category]) (Nat.le_of_ble_eq_true rfl) ?_
  intro X C E hX hin
  unfold fX6_isRead at hf
  refine mG_iload_n (pc := 0) C dX6_isRead_0 rfl ?_
  obtain ⟨v2, e1, hf⟩ := mx_bind hf
  refine mG_cS (pc := 1) (k' := 0) (n' := 0) [.int p1] [] C hX dX6_isRead_1 lkS_X6_49 rfl (tX9_isThing hl e1) rfl rfl rfl rfl ?_
  obtain ⟨p5, e6, hf⟩ := mx_bind hf
  have J4 : ∀ p5' : Int32, p5' = p5 → mG l Z X 3 0 0 22 [none, none, none] [.int p5'] h := by
    intro p5' q14
    subst q14
    obtain ⟨v12, e13, hf⟩ := mx_bind hf
    cases hf
    exact mG_zr (pc := 22) C e13 E hX dX6_isRead_22 rfl
  refine mG_if_eq (pc := 4) (tgt := 21) C dX6_isRead_4 (by decide) (fun q3 => ?_) (fun q3 => ?_)
  · rw [if_pos q3] at e6
    refine mG_ic (pc := 21) C dX6_isRead_21 kI0 ?_
    exact mG_sub (mxLe_n (mxLe_n (mxLe_n mxLe_z))) (J4 _ (Option.some.inj e6))
  · rw [if_neg q3] at e6
    refine mG_aload_n (pc := 7) C dX6_isRead_7 rfl ?_
    obtain ⟨r7, e8, e6⟩ := mx_bind e6
    refine mG_getR (pc := 8) C dX6_isRead_8 fl_X6_29 e8 ?_
    refine mG_iload_n (pc := 11) C dX6_isRead_11 rfl ?_
    obtain ⟨v9, e10, e6⟩ := mx_bind e6
    refine mG_iaload (pc := 12) C dX6_isRead_12 e10 ?_
    refine mG_iload_n (pc := 13) C dX6_isRead_13 rfl ?_
    refine mG_icmp_ge (pc := 14) (tgt := 21) C dX6_isRead_14 (by decide) (fun q11 => ?_) (fun q11 => ?_)
    · rw [if_pos q11] at e6
      refine mG_ic (pc := 21) C dX6_isRead_21 kI0 ?_
      exact mG_sub (mxLe_n (mxLe_n (mxLe_n mxLe_z))) (J4 _ (Option.some.inj e6))
    · rw [if_neg q11] at e6
      refine mG_ic (pc := 17) C dX6_isRead_17 kI1 ?_
      refine mG_goto (tgt := 22) (pc := 18) C dX6_isRead_18 (by decide) ?_
      exact mG_sub (mxLe_n (mxLe_n (mxLe_n mxLe_z))) (J4 _ (Option.some.inj e6))
theorem dX6_isKnown_0 : decode cX6_isKnown 0 = .ok (.aload_n 0, 1) := by decide +kernel
theorem dX6_isKnown_1 : decode cX6_isKnown 1 = .ok (.iload_n 1, 1) := by decide +kernel
theorem dX6_isKnown_2 : decode cX6_isKnown 2 = .ok (.bipush 20, 2) := by decide +kernel
theorem dX6_isKnown_4 : decode cX6_isKnown 4 = .ok (.invokevirtual 104, 3) := by decide +kernel
theorem dX6_isKnown_7 : decode cX6_isKnown 7 = .ok (.ireturn, 1) := by decide +kernel
def fX6_isKnown (p0 : Nat) (p1 : Int32) (h : mxH) : Option Int32 := Option.bind (isO h p0 6) (fun u1 => Option.bind (fX6_isRead p0 p1 20 h) (fun v4 => Option.bind (mxZ1 v4) (fun v5 => some v5)))
abbrev rmX6_isKnown : Room := { frames := 2, cells := 0, slots := 0, locals := 42 }
set_option maxRecDepth 20000 in
theorem tX6_isKnown {l : Launch} {Z : mxZ} (hl : l.stackTraces = false) {p0 : Nat} {p1 : Int32} {h : mxH} {out : Int32} (hf : fX6_isKnown p0 p1 h = some out) : mxMet l Z yX6_isKnown cX6_isKnown 2 (some .boolean) rmX6_isKnown [.ref p0, .int p1] h (.inl (some (.int out))) h := by
  refine mxMet_of (by decide) hl (by simp [Value.category]) (Nat.le_of_ble_eq_true rfl) ?_
  intro X C E hX hin
  unfold fX6_isKnown at hf
  refine mG_aload_n (pc := 0) C dX6_isKnown_0 rfl ?_
  refine mG_iload_n (pc := 1) C dX6_isKnown_1 rfl ?_
  refine mG_bp (pc := 2) C dX6_isKnown_2 kB20 ?_
  obtain ⟨u1, e2, hf⟩ := mx_bind hf
  obtain ⟨v4, e3, hf⟩ := mx_bind hf
  refine mG_cV (pc := 4) (k' := 0) (n' := 0) 6 [.int p1, .int 20] [] C hX dX6_isKnown_4 lkV_X6_104 rfl rfl e2 (tX6_isRead hl e3) rfl rfl rfl rfl ?_
  obtain ⟨v5, e6, hf⟩ := mx_bind hf
  cases hf
  exact mG_zr (pc := 7) C e6 E hX dX6_isKnown_7 rfl
theorem dX6_leastPart_0 : decode cX6_leastPart 0 = .ok (.iconst (-1), 1) := by decide +kernel
theorem dX6_leastPart_1 : decode cX6_leastPart 1 = .ok (.istore_n 1, 1) := by decide +kernel
theorem dX6_leastPart_2 : decode cX6_leastPart 2 = .ok (.iconst 0, 1) := by decide +kernel
theorem dX6_leastPart_3 : decode cX6_leastPart 3 = .ok (.istore_n 2, 1) := by decide +kernel
theorem dX6_leastPart_4 : decode cX6_leastPart 4 = .ok (.iload_n 2, 1) := by decide +kernel
theorem dX6_leastPart_5 : decode cX6_leastPart 5 = .ok (.iconst 5, 1) := by decide +kernel
theorem dX6_leastPart_6 : decode cX6_leastPart 6 = .ok (.if_icmp .ge 40, 3) := by decide +kernel
theorem dX6_leastPart_9 : decode cX6_leastPart 9 = .ok (.aload_n 0, 1) := by decide +kernel
theorem dX6_leastPart_10 : decode cX6_leastPart 10 = .ok (.getfield 26, 3) := by decide +kernel
theorem dX6_leastPart_13 : decode cX6_leastPart 13 = .ok (.iload_n 2, 1) := by decide +kernel
theorem dX6_leastPart_14 : decode cX6_leastPart 14 = .ok (.iaload, 1) := by decide +kernel
theorem dX6_leastPart_15 : decode cX6_leastPart 15 = .ok (.ifCond .le 25, 3) := by decide +kernel
theorem dX6_leastPart_18 : decode cX6_leastPart 18 = .ok (.iload_n 1, 1) := by decide +kernel
theorem dX6_leastPart_19 : decode cX6_leastPart 19 = .ok (.iconst (-1), 1) := by decide +kernel
theorem dX6_leastPart_20 : decode cX6_leastPart 20 = .ok (.if_icmp .eq 13, 3) := by decide +kernel
theorem dX6_leastPart_23 : decode cX6_leastPart 23 = .ok (.aload_n 0, 1) := by decide +kernel
theorem dX6_leastPart_24 : decode cX6_leastPart 24 = .ok (.getfield 36, 3) := by decide +kernel
theorem dX6_leastPart_27 : decode cX6_leastPart 27 = .ok (.iload_n 2, 1) := by decide +kernel
theorem dX6_leastPart_28 : decode cX6_leastPart 28 = .ok (.iaload, 1) := by decide +kernel
theorem dX6_leastPart_29 : decode cX6_leastPart 29 = .ok (.iload_n 1, 1) := by decide +kernel
theorem dX6_leastPart_30 : decode cX6_leastPart 30 = .ok (.if_icmp .ge 10, 3) := by decide +kernel
theorem dX6_leastPart_33 : decode cX6_leastPart 33 = .ok (.aload_n 0, 1) := by decide +kernel
theorem dX6_leastPart_34 : decode cX6_leastPart 34 = .ok (.getfield 36, 3) := by decide +kernel
theorem dX6_leastPart_37 : decode cX6_leastPart 37 = .ok (.iload_n 2, 1) := by decide +kernel
theorem dX6_leastPart_38 : decode cX6_leastPart 38 = .ok (.iaload, 1) := by decide +kernel
theorem dX6_leastPart_39 : decode cX6_leastPart 39 = .ok (.istore_n 1, 1) := by decide +kernel
theorem dX6_leastPart_40 : decode cX6_leastPart 40 = .ok (.iinc 2 1, 3) := by decide +kernel
theorem dX6_leastPart_43 : decode cX6_leastPart 43 = .ok (.goto (-39), 3) := by decide +kernel
theorem dX6_leastPart_46 : decode cX6_leastPart 46 = .ok (.iload_n 1, 1) := by decide +kernel
theorem dX6_leastPart_47 : decode cX6_leastPart 47 = .ok (.iconst (-1), 1) := by decide +kernel
theorem dX6_leastPart_48 : decode cX6_leastPart 48 = .ok (.if_icmp .ne 7, 3) := by decide +kernel
theorem dX6_leastPart_51 : decode cX6_leastPart 51 = .ok (.iconst 0, 1) := by decide +kernel
theorem dX6_leastPart_52 : decode cX6_leastPart 52 = .ok (.goto 4, 3) := by decide +kernel
theorem dX6_leastPart_55 : decode cX6_leastPart 55 = .ok (.iload_n 1, 1) := by decide +kernel
theorem dX6_leastPart_56 : decode cX6_leastPart 56 = .ok (.ireturn, 1) := by decide +kernel
def fX6_leastPart (p0 : Nat) (h : mxH) : Option Int32 := Option.bind (mxLoop (ρ := Int32) (fun s1 : (Int32 × Int32) => (if 5 ≤ s1.2 then some (Sum.inr s1.1) else Option.bind (gR h p0 6 4) (fun r10 => Option.bind (ldI h r10 s1.2) (fun v12 => Option.bind (α := Int32) (if v12 ≤ 0 then some s1.1 else (if s1.1 = (-1) then Option.bind (gR h p0 6 7) (fun r19 => Option.bind (ldI h r19 s1.2) (fun v21 => some v21)) else Option.bind (gR h p0 6 7) (fun r23 => Option.bind (ldI h r23 s1.2) (fun v25 => (if s1.1 ≤ v25 then some s1.1 else Option.bind (gR h p0 6 7) (fun r28 => Option.bind (ldI h r28 s1.2) (fun v30 => some v30))))))) (fun p16' : Int32 => some (Sum.inl (p16', s1.2 + 1))))))) mxF ((-1), 0)) (fun r33 : Int32 => Option.bind (α := Int32) (if r33 = (-1) then some 0 else some r33) (fun p36' : Int32 => some p36'))
abbrev rmX6_leastPart : Room := { frames := 0, cells := 0, slots := 0, locals := 0 }
set_option maxRecDepth 20000 in
theorem tX6_leastPart {l : Launch} {Z : mxZ} (hl : l.stackTraces = false) {p0 : Nat} {h : mxH} {out : Int32} (hf : fX6_leastPart p0 h = some out) : mxMet l Z yX6_leastPart cX6_leastPart 3 (some .int) rmX6_leastPart [.ref p0] h (.inl (some (.int out))) h := by
  refine mxMet_of (by decide) hl (by simp [Value.category]) (Nat.le_of_ble_eq_true rfl) ?_
  intro X C E hX hin
  unfold fX6_leastPart at hf
  refine mG_ic (pc := 0) C dX6_leastPart_0 kIm1 ?_
  refine mG_isn (ls' := [some (.ref p0), some (.int (-1)), none]) (pc := 1) C dX6_leastPart_1 rfl rfl rfl ?_
  refine mG_ic (pc := 2) C dX6_leastPart_2 kI0 ?_
  refine mG_isn (ls' := [some (.ref p0), some (.int (-1)), some (.int 0)]) (pc := 3) C dX6_leastPart_3 rfl rfl rfl ?_
  obtain ⟨r2, e3, hf⟩ := mx_bind hf
  have J4 : ∀ r33 : Int32, r33 = r2 → mG l Z X 3 0 0 46 [none, some (.int r33), none] [] h := by
    intro r33 q39
    subst q39
    refine mG_iload_n (pc := 46) C dX6_leastPart_46 rfl ?_
    refine mG_ic (pc := 47) C dX6_leastPart_47 kIm1 ?_
    obtain ⟨p36, e37, hf⟩ := mx_bind hf
    have J35 : ∀ p36' : Int32, p36' = p36 → mG l Z X 3 0 0 56 [none, none, none] [.int p36'] h := by
      intro p36' q38
      subst q38
      cases hf
      exact mG_ir (pc := 56) C E hX dX6_leastPart_56 rfl
    refine mG_icmp_ne (pc := 48) (tgt := 55) C dX6_leastPart_48 (by decide) (fun q34 => ?_) (fun q34 => ?_)
    · rw [if_neg q34] at e37
      refine mG_iload_n (pc := 55) C dX6_leastPart_55 rfl ?_
      exact mG_sub (mxLe_n (mxLe_n (mxLe_n mxLe_z))) (J35 _ (Option.some.inj e37))
    · rw [if_pos q34] at e37
      refine mG_ic (pc := 51) C dX6_leastPart_51 kI0 ?_
      refine mG_goto (tgt := 56) (pc := 52) C dX6_leastPart_52 (by decide) ?_
      exact mG_sub (mxLe_n (mxLe_n (mxLe_n mxLe_z))) (J35 _ (Option.some.inj e37))
  refine mG_sub (ls' := [some (.ref p0), some (.int (-1)), some (.int 0)]) (mxLe_s (mxLe_s (mxLe_s mxLe_z))) (mxLoop_ind (K := fun s1 : (Int32 × Int32) => mG l Z X 3 0 0 4 [some (.ref p0), some (.int s1.1), some (.int s1.2)] [] h) ?_ _ _ e3)
  intro s1 o7 e8 hK5 hx6
  refine mG_iload_n (pc := 4) C dX6_leastPart_4 rfl ?_
  refine mG_ic (pc := 5) C dX6_leastPart_5 kI5 ?_
  refine mG_icmp_ge (pc := 6) (tgt := 46) C dX6_leastPart_6 (by decide) (fun q9 => ?_) (fun q9 => ?_)
  · rw [if_pos q9] at e8
    exact mG_sub (mxLe_n (mxLe_s (mxLe_n mxLe_z))) (J4 _ (hx6 _ (Option.some.inj e8).symm))
  · rw [if_neg q9] at e8
    refine mG_aload_n (pc := 9) C dX6_leastPart_9 rfl ?_
    obtain ⟨r10, e11, e8⟩ := mx_bind e8
    refine mG_getR (pc := 10) C dX6_leastPart_10 fl_X6_26 e11 ?_
    refine mG_iload_n (pc := 13) C dX6_leastPart_13 rfl ?_
    obtain ⟨v12, e13, e8⟩ := mx_bind e8
    refine mG_iaload (pc := 14) C dX6_leastPart_14 e13 ?_
    obtain ⟨p16, e17, e8⟩ := mx_bind e8
    have J15 : ∀ p16' : Int32, p16' = p16 → mG l Z X 3 0 0 40 [some (.ref p0), some (.int p16'), some (.int s1.2)] [] h := by
      intro p16' q32
      subst q32
      refine mG_ii (ls' := [some (.ref p0), some (.int p16'), some (.int (s1.2 + 1))]) (pc := 40) C dX6_leastPart_40 rfl (kinc1 _) rfl rfl rfl ?_
      refine mG_goto (tgt := 4) (pc := 43) C dX6_leastPart_43 (by decide) ?_
      exact mG_sub (mxLe_s (mxLe_s (mxLe_s mxLe_z))) (hK5 _ (Option.some.inj e8).symm)
    refine mG_if_le (pc := 15) (tgt := 40) C dX6_leastPart_15 (by decide) (fun q14 => ?_) (fun q14 => ?_)
    · rw [if_pos q14] at e17
      exact mG_sub (mxLe_s (mxLe_s (mxLe_s mxLe_z))) (J15 _ (Option.some.inj e17))
    · rw [if_neg q14] at e17
      refine mG_iload_n (pc := 18) C dX6_leastPart_18 rfl ?_
      refine mG_ic (pc := 19) C dX6_leastPart_19 kIm1 ?_
      refine mG_icmp_eq (pc := 20) (tgt := 33) C dX6_leastPart_20 (by decide) (fun q18 => ?_) (fun q18 => ?_)
      · rw [if_pos q18] at e17
        refine mG_aload_n (pc := 33) C dX6_leastPart_33 rfl ?_
        obtain ⟨r19, e20, e17⟩ := mx_bind e17
        refine mG_getR (pc := 34) C dX6_leastPart_34 fl_X6_36 e20 ?_
        refine mG_iload_n (pc := 37) C dX6_leastPart_37 rfl ?_
        obtain ⟨v21, e22, e17⟩ := mx_bind e17
        refine mG_iaload (pc := 38) C dX6_leastPart_38 e22 ?_
        refine mG_isn (ls' := [some (.ref p0), some (.int v21), some (.int s1.2)]) (pc := 39) C dX6_leastPart_39 rfl rfl rfl ?_
        exact mG_sub (mxLe_s (mxLe_s (mxLe_s mxLe_z))) (J15 _ (Option.some.inj e17))
      · rw [if_neg q18] at e17
        refine mG_aload_n (pc := 23) C dX6_leastPart_23 rfl ?_
        obtain ⟨r23, e24, e17⟩ := mx_bind e17
        refine mG_getR (pc := 24) C dX6_leastPart_24 fl_X6_36 e24 ?_
        refine mG_iload_n (pc := 27) C dX6_leastPart_27 rfl ?_
        obtain ⟨v25, e26, e17⟩ := mx_bind e17
        refine mG_iaload (pc := 28) C dX6_leastPart_28 e26 ?_
        refine mG_iload_n (pc := 29) C dX6_leastPart_29 rfl ?_
        refine mG_icmp_ge (pc := 30) (tgt := 40) C dX6_leastPart_30 (by decide) (fun q27 => ?_) (fun q27 => ?_)
        · rw [if_pos q27] at e17
          exact mG_sub (mxLe_s (mxLe_s (mxLe_s mxLe_z))) (J15 _ (Option.some.inj e17))
        · rw [if_neg q27] at e17
          refine mG_aload_n (pc := 33) C dX6_leastPart_33 rfl ?_
          obtain ⟨r28, e29, e17⟩ := mx_bind e17
          refine mG_getR (pc := 34) C dX6_leastPart_34 fl_X6_36 e29 ?_
          refine mG_iload_n (pc := 37) C dX6_leastPart_37 rfl ?_
          obtain ⟨v30, e31, e17⟩ := mx_bind e17
          refine mG_iaload (pc := 38) C dX6_leastPart_38 e31 ?_
          refine mG_isn (ls' := [some (.ref p0), some (.int v30), some (.int s1.2)]) (pc := 39) C dX6_leastPart_39 rfl rfl rfl ?_
          exact mG_sub (mxLe_s (mxLe_s (mxLe_s mxLe_z))) (J15 _ (Option.some.inj e17))
theorem dX6_applyRule_0 : decode cX6_applyRule 0 = .ok (.aload_n 0, 1) := by decide +kernel
theorem dX6_applyRule_1 : decode cX6_applyRule 1 = .ok (.getfield 32, 3) := by decide +kernel
theorem dX6_applyRule_4 : decode cX6_applyRule 4 = .ok (.iconst 1, 1) := by decide +kernel
theorem dX6_applyRule_5 : decode cX6_applyRule 5 = .ok (.if_icmp .ne 8, 3) := by decide +kernel
theorem dX6_applyRule_8 : decode cX6_applyRule 8 = .ok (.aload_n 0, 1) := by decide +kernel
theorem dX6_applyRule_9 : decode cX6_applyRule 9 = .ok (.invokevirtual 95, 3) := by decide +kernel
theorem dX6_applyRule_12 : decode cX6_applyRule 12 = .ok (.ireturn, 1) := by decide +kernel
theorem dX6_applyRule_13 : decode cX6_applyRule 13 = .ok (.iconst 0, 1) := by decide +kernel
theorem dX6_applyRule_14 : decode cX6_applyRule 14 = .ok (.istore_n 1, 1) := by decide +kernel
theorem dX6_applyRule_15 : decode cX6_applyRule 15 = .ok (.aload_n 0, 1) := by decide +kernel
theorem dX6_applyRule_16 : decode cX6_applyRule 16 = .ok (.getfield 36, 3) := by decide +kernel
theorem dX6_applyRule_19 : decode cX6_applyRule 19 = .ok (.astore_n 2, 1) := by decide +kernel
theorem dX6_applyRule_20 : decode cX6_applyRule 20 = .ok (.aload_n 2, 1) := by decide +kernel
theorem dX6_applyRule_21 : decode cX6_applyRule 21 = .ok (.arraylength, 1) := by decide +kernel
theorem dX6_applyRule_22 : decode cX6_applyRule 22 = .ok (.istore_n 3, 1) := by decide +kernel
theorem dX6_applyRule_23 : decode cX6_applyRule 23 = .ok (.iconst 0, 1) := by decide +kernel
theorem dX6_applyRule_24 : decode cX6_applyRule 24 = .ok (.istore 4, 2) := by decide +kernel
theorem dX6_applyRule_26 : decode cX6_applyRule 26 = .ok (.iload 4, 2) := by decide +kernel
theorem dX6_applyRule_28 : decode cX6_applyRule 28 = .ok (.iload_n 3, 1) := by decide +kernel
theorem dX6_applyRule_29 : decode cX6_applyRule 29 = .ok (.if_icmp .ge 36, 3) := by decide +kernel
theorem dX6_applyRule_32 : decode cX6_applyRule 32 = .ok (.aload_n 2, 1) := by decide +kernel
theorem dX6_applyRule_33 : decode cX6_applyRule 33 = .ok (.iload 4, 2) := by decide +kernel
theorem dX6_applyRule_35 : decode cX6_applyRule 35 = .ok (.iaload, 1) := by decide +kernel
theorem dX6_applyRule_36 : decode cX6_applyRule 36 = .ok (.istore 5, 2) := by decide +kernel
theorem dX6_applyRule_38 : decode cX6_applyRule 38 = .ok (.aload_n 0, 1) := by decide +kernel
theorem dX6_applyRule_39 : decode cX6_applyRule 39 = .ok (.getfield 32, 3) := by decide +kernel
theorem dX6_applyRule_42 : decode cX6_applyRule 42 = .ok (.ifCond .ne 10, 3) := by decide +kernel
theorem dX6_applyRule_45 : decode cX6_applyRule 45 = .ok (.iload_n 1, 1) := by decide +kernel
theorem dX6_applyRule_46 : decode cX6_applyRule 46 = .ok (.iload 5, 2) := by decide +kernel
theorem dX6_applyRule_48 : decode cX6_applyRule 48 = .ok (.iadd, 1) := by decide +kernel
theorem dX6_applyRule_49 : decode cX6_applyRule 49 = .ok (.goto 9, 3) := by decide +kernel
theorem dX6_applyRule_52 : decode cX6_applyRule 52 = .ok (.iload_n 1, 1) := by decide +kernel
theorem dX6_applyRule_53 : decode cX6_applyRule 53 = .ok (.iload 5, 2) := by decide +kernel
theorem dX6_applyRule_55 : decode cX6_applyRule 55 = .ok (.invokestatic 98, 3) := by decide +kernel
theorem dX6_applyRule_58 : decode cX6_applyRule 58 = .ok (.istore_n 1, 1) := by decide +kernel
theorem dX6_applyRule_59 : decode cX6_applyRule 59 = .ok (.iinc 4 1, 3) := by decide +kernel
theorem dX6_applyRule_62 : decode cX6_applyRule 62 = .ok (.goto (-36), 3) := by decide +kernel
theorem dX6_applyRule_65 : decode cX6_applyRule 65 = .ok (.iload_n 1, 1) := by decide +kernel
theorem dX6_applyRule_66 : decode cX6_applyRule 66 = .ok (.ireturn, 1) := by decide +kernel
def fX6_applyRule (p0 : Nat) (h : mxH) : Option Int32 := Option.bind (gI h p0 6 6) (fun v1 => (if v1 = 1 then Option.bind (isO h p0 6) (fun u28 => Option.bind (fX6_leastPart p0 h) (fun v31 => some v31)) else Option.bind (gR h p0 6 7) (fun r4 => Option.bind (lenA h r4) (fun v6 => Option.bind (mxLoop (ρ := Int32) (fun s8 : (Int32 × Int32) => (if v6 ≤ s8.2 then some (Sum.inr s8.1) else Option.bind (ldI h r4 s8.2) (fun v17 => Option.bind (gI h p0 6 6) (fun v19 => Option.bind (α := Int32) (if v19 = 0 then some (s8.1 + v17) else some (mxMax s8.1 v17)) (fun p23' : Int32 => some (Sum.inl (p23', s8.2 + 1))))))) mxF (0, 0)) (fun r26 : Int32 => some r26)))))
abbrev rmX6_applyRule : Room := { frames := 1, cells := 0, slots := 0, locals := 22 }
set_option maxRecDepth 20000 in
theorem tX6_applyRule {l : Launch} {Z : mxZ} (hl : l.stackTraces = false) {p0 : Nat} {h : mxH} {out : Int32} (hf : fX6_applyRule p0 h = some out) : mxMet l Z yX6_applyRule cX6_applyRule 6 (some .int) rmX6_applyRule [.ref p0] h (.inl (some (.int out))) h := by
  refine mxMet_of (by decide) hl (by simp [Value.category]) (Nat.le_of_ble_eq_true rfl) ?_
  intro X C E hX hin
  unfold fX6_applyRule at hf
  refine mG_aload_n (pc := 0) C dX6_applyRule_0 rfl ?_
  obtain ⟨v1, e2, hf⟩ := mx_bind hf
  refine mG_getI (pc := 1) C dX6_applyRule_1 fl_X6_32 e2 ?_
  refine mG_ic (pc := 4) C dX6_applyRule_4 kI1 ?_
  refine mG_icmp_ne (pc := 5) (tgt := 13) C dX6_applyRule_5 (by decide) (fun q3 => ?_) (fun q3 => ?_)
  · rw [if_neg q3] at hf
    refine mG_ic (pc := 13) C dX6_applyRule_13 kI0 ?_
    refine mG_isn (ls' := [some (.ref p0), some (.int 0), none, none, none, none]) (pc := 14) C dX6_applyRule_14 rfl rfl rfl ?_
    refine mG_aload_n (pc := 15) C dX6_applyRule_15 rfl ?_
    obtain ⟨r4, e5, hf⟩ := mx_bind hf
    refine mG_getR (pc := 16) C dX6_applyRule_16 fl_X6_36 e5 ?_
    refine mG_asn (ls' := [some (.ref p0), some (.int 0), some (.ref r4), none, none, none]) (pc := 19) C dX6_applyRule_19 rfl rfl rfl ?_
    refine mG_aload_n (pc := 20) C dX6_applyRule_20 rfl ?_
    obtain ⟨v6, e7, hf⟩ := mx_bind hf
    refine mG_arraylength (pc := 21) C dX6_applyRule_21 e7 ?_
    refine mG_isn (ls' := [some (.ref p0), some (.int 0), some (.ref r4), some (.int v6), none, none]) (pc := 22) C dX6_applyRule_22 rfl rfl rfl ?_
    refine mG_ic (pc := 23) C dX6_applyRule_23 kI0 ?_
    refine mG_is (ls' := [some (.ref p0), some (.int 0), some (.ref r4), some (.int v6), some (.int 0), none]) (pc := 24) C dX6_applyRule_24 rfl rfl rfl ?_
    obtain ⟨r9, e10, hf⟩ := mx_bind hf
    have J11 : ∀ r26 : Int32, r26 = r9 → mG l Z X 6 0 0 65 [none, some (.int r26), none, none, none, none] [] h := by
      intro r26 q27
      subst q27
      refine mG_iload_n (pc := 65) C dX6_applyRule_65 rfl ?_
      cases hf
      exact mG_ir (pc := 66) C E hX dX6_applyRule_66 rfl
    refine mG_sub (ls' := [some (.ref p0), some (.int 0), some (.ref r4), some (.int v6), some (.int 0), none]) (mxLe_s (mxLe_s (mxLe_s (mxLe_s (mxLe_s (mxLe_n mxLe_z)))))) (mxLoop_ind (K := fun s8 : (Int32 × Int32) => mG l Z X 6 0 0 26 [some (.ref p0), some (.int s8.1), some (.ref r4), some (.int v6), some (.int s8.2), none] [] h) ?_ _ _ e10)
    intro s8 o14 e15 hK12 hx13
    refine mG_iload (pc := 26) C dX6_applyRule_26 rfl ?_
    refine mG_iload_n (pc := 28) C dX6_applyRule_28 rfl ?_
    refine mG_icmp_ge (pc := 29) (tgt := 65) C dX6_applyRule_29 (by decide) (fun q16 => ?_) (fun q16 => ?_)
    · rw [if_pos q16] at e15
      exact mG_sub (mxLe_n (mxLe_s (mxLe_n (mxLe_n (mxLe_n (mxLe_n mxLe_z)))))) (J11 _ (hx13 _ (Option.some.inj e15).symm))
    · rw [if_neg q16] at e15
      refine mG_aload_n (pc := 32) C dX6_applyRule_32 rfl ?_
      refine mG_iload (pc := 33) C dX6_applyRule_33 rfl ?_
      obtain ⟨v17, e18, e15⟩ := mx_bind e15
      refine mG_iaload (pc := 35) C dX6_applyRule_35 e18 ?_
      refine mG_is (ls' := [some (.ref p0), some (.int s8.1), some (.ref r4), some (.int v6), some (.int s8.2), some (.int v17)]) (pc := 36) C dX6_applyRule_36 rfl rfl rfl ?_
      refine mG_aload_n (pc := 38) C dX6_applyRule_38 rfl ?_
      obtain ⟨v19, e20, e15⟩ := mx_bind e15
      refine mG_getI (pc := 39) C dX6_applyRule_39 fl_X6_32 e20 ?_
      obtain ⟨p23, e24, e15⟩ := mx_bind e15
      have J22 : ∀ p23' : Int32, p23' = p23 → mG l Z X 6 0 0 58 [some (.ref p0), none, some (.ref r4), some (.int v6), some (.int s8.2), none] [.int p23'] h := by
        intro p23' q25
        subst q25
        refine mG_isn (ls' := [some (.ref p0), some (.int p23'), some (.ref r4), some (.int v6), some (.int s8.2), none]) (pc := 58) C dX6_applyRule_58 rfl rfl rfl ?_
        refine mG_ii (ls' := [some (.ref p0), some (.int p23'), some (.ref r4), some (.int v6), some (.int (s8.2 + 1)), none]) (pc := 59) C dX6_applyRule_59 rfl (kinc1 _) rfl rfl rfl ?_
        refine mG_goto (tgt := 26) (pc := 62) C dX6_applyRule_62 (by decide) ?_
        exact mG_sub (mxLe_s (mxLe_s (mxLe_s (mxLe_s (mxLe_s (mxLe_n mxLe_z)))))) (hK12 _ (Option.some.inj e15).symm)
      refine mG_if_ne (pc := 42) (tgt := 52) C dX6_applyRule_42 (by decide) (fun q21 => ?_) (fun q21 => ?_)
      · rw [if_neg q21] at e24
        refine mG_iload_n (pc := 52) C dX6_applyRule_52 rfl ?_
        refine mG_iload (pc := 53) C dX6_applyRule_53 rfl ?_
        refine mG_mx (pc := 55) C hX dX6_applyRule_55 w62 wmax rfl rfl ?_
        exact mG_sub (mxLe_s (mxLe_n (mxLe_s (mxLe_s (mxLe_s (mxLe_n mxLe_z)))))) (J22 _ (Option.some.inj e24))
      · rw [if_pos q21] at e24
        refine mG_iload_n (pc := 45) C dX6_applyRule_45 rfl ?_
        refine mG_iload (pc := 46) C dX6_applyRule_46 rfl ?_
        refine mG_iadd (pc := 48) C dX6_applyRule_48 ?_
        refine mG_goto (tgt := 58) (pc := 49) C dX6_applyRule_49 (by decide) ?_
        exact mG_sub (mxLe_s (mxLe_n (mxLe_s (mxLe_s (mxLe_s (mxLe_n mxLe_z)))))) (J22 _ (Option.some.inj e24))
  · rw [if_pos q3] at hf
    refine mG_aload_n (pc := 8) C dX6_applyRule_8 rfl ?_
    obtain ⟨u28, e29, hf⟩ := mx_bind hf
    obtain ⟨v31, e30, hf⟩ := mx_bind hf
    refine mG_cV (pc := 9) (k' := 0) (n' := 0) 6 [] [] C hX dX6_applyRule_9 lkV_X6_95 rfl rfl e29 (tX6_leastPart hl e30) rfl rfl rfl rfl ?_
    cases hf
    exact mG_ir (pc := 12) C E hX dX6_applyRule_12 rfl
theorem dX6_weightedMark_0 : decode cX6_weightedMark 0 = .ok (.iload_n 1, 1) := by decide +kernel
theorem dX6_weightedMark_1 : decode cX6_weightedMark 1 = .ok (.invokestatic 45, 3) := by decide +kernel
theorem dX6_weightedMark_4 : decode cX6_weightedMark 4 = .ok (.ifCond .eq 26, 3) := by decide +kernel
theorem dX6_weightedMark_7 : decode cX6_weightedMark 7 = .ok (.iload_n 2, 1) := by decide +kernel
theorem dX6_weightedMark_8 : decode cX6_weightedMark 8 = .ok (.invokestatic 49, 3) := by decide +kernel
theorem dX6_weightedMark_11 : decode cX6_weightedMark 11 = .ok (.ifCond .eq 19, 3) := by decide +kernel
theorem dX6_weightedMark_14 : decode cX6_weightedMark 14 = .ok (.aload_n 0, 1) := by decide +kernel
theorem dX6_weightedMark_15 : decode cX6_weightedMark 15 = .ok (.getfield 11, 3) := by decide +kernel
theorem dX6_weightedMark_18 : decode cX6_weightedMark 18 = .ok (.iload_n 1, 1) := by decide +kernel
theorem dX6_weightedMark_19 : decode cX6_weightedMark 19 = .ok (.aaload, 1) := by decide +kernel
theorem dX6_weightedMark_20 : decode cX6_weightedMark 20 = .ok (.iload_n 2, 1) := by decide +kernel
theorem dX6_weightedMark_21 : decode cX6_weightedMark 21 = .ok (.iaload, 1) := by decide +kernel
theorem dX6_weightedMark_22 : decode cX6_weightedMark 22 = .ok (.iconst (-1), 1) := by decide +kernel
theorem dX6_weightedMark_23 : decode cX6_weightedMark 23 = .ok (.if_icmp .eq 7, 3) := by decide +kernel
theorem dX6_weightedMark_26 : decode cX6_weightedMark 26 = .ok (.iconst 1, 1) := by decide +kernel
theorem dX6_weightedMark_27 : decode cX6_weightedMark 27 = .ok (.goto 4, 3) := by decide +kernel
theorem dX6_weightedMark_30 : decode cX6_weightedMark 30 = .ok (.iconst 0, 1) := by decide +kernel
theorem dX6_weightedMark_31 : decode cX6_weightedMark 31 = .ok (.istore_n 3, 1) := by decide +kernel
theorem dX6_weightedMark_32 : decode cX6_weightedMark 32 = .ok (.iload_n 3, 1) := by decide +kernel
theorem dX6_weightedMark_33 : decode cX6_weightedMark 33 = .ok (.ifCond .eq 21, 3) := by decide +kernel
theorem dX6_weightedMark_36 : decode cX6_weightedMark 36 = .ok (.aload_n 0, 1) := by decide +kernel
theorem dX6_weightedMark_37 : decode cX6_weightedMark 37 = .ok (.getfield 11, 3) := by decide +kernel
theorem dX6_weightedMark_40 : decode cX6_weightedMark 40 = .ok (.iload_n 1, 1) := by decide +kernel
theorem dX6_weightedMark_41 : decode cX6_weightedMark 41 = .ok (.aaload, 1) := by decide +kernel
theorem dX6_weightedMark_42 : decode cX6_weightedMark 42 = .ok (.iload_n 2, 1) := by decide +kernel
theorem dX6_weightedMark_43 : decode cX6_weightedMark 43 = .ok (.iaload, 1) := by decide +kernel
theorem dX6_weightedMark_44 : decode cX6_weightedMark 44 = .ok (.aload_n 0, 1) := by decide +kernel
theorem dX6_weightedMark_45 : decode cX6_weightedMark 45 = .ok (.getfield 26, 3) := by decide +kernel
theorem dX6_weightedMark_48 : decode cX6_weightedMark 48 = .ok (.iload_n 1, 1) := by decide +kernel
theorem dX6_weightedMark_49 : decode cX6_weightedMark 49 = .ok (.iaload, 1) := by decide +kernel
theorem dX6_weightedMark_50 : decode cX6_weightedMark 50 = .ok (.imul, 1) := by decide +kernel
theorem dX6_weightedMark_51 : decode cX6_weightedMark 51 = .ok (.goto 4, 3) := by decide +kernel
theorem dX6_weightedMark_54 : decode cX6_weightedMark 54 = .ok (.iconst 0, 1) := by decide +kernel
theorem dX6_weightedMark_55 : decode cX6_weightedMark 55 = .ok (.ireturn, 1) := by decide +kernel
def fX6_weightedMark (p0 : Nat) (p1 : Int32) (p2 : Int32) (h : mxH) : Option Int32 := Option.bind (fX9_isRow p1 h) (fun v2 => Option.bind (α := Int32) (if v2 = 0 then some 0 else Option.bind (fX9_isThing p2 h) (fun v8 => (if v8 = 0 then some 0 else Option.bind (gR h p0 6 0) (fun r10 => Option.bind (ldR h r10 p1) (fun r12 => Option.bind (ldI h r12 p2) (fun v14 => (if v14 = (-1) then some 0 else some 1))))))) (fun p5' : Int32 => Option.bind (α := Int32) (if p5' = 0 then some 0 else Option.bind (gR h p0 6 0) (fun r21 => Option.bind (ldR h r21 p1) (fun r23 => Option.bind (ldI h r23 p2) (fun v25 => Option.bind (gR h p0 6 4) (fun r27 => Option.bind (ldI h r27 p1) (fun v29 => some (v25 * v29))))))) (fun p19' : Int32 => some p19')))
abbrev rmX6_weightedMark : Room := { frames := 1, cells := 0, slots := 0, locals := 20 }
set_option maxRecDepth 20000 in
theorem tX6_weightedMark {l : Launch} {Z : mxZ} (hl : l.stackTraces = false) {p0 : Nat} {p1 : Int32} {p2 : Int32} {h : mxH} {out : Int32} (hf : fX6_weightedMark p0 p1 p2 h = some out) : mxMet l Z yX6_weightedMark cX6_weightedMark 4 (some .int) rmX6_weightedMark [.ref p0, .int p1, .int p2] h (.inl (some (.int out))) h := by
  refine mxMet_of (by decide) hl (by simp [Value.category]) (Nat.le_of_ble_eq_true rfl) ?_
  intro X C E hX hin
  unfold fX6_weightedMark at hf
  refine mG_iload_n (pc := 0) C dX6_weightedMark_0 rfl ?_
  obtain ⟨v2, e1, hf⟩ := mx_bind hf
  refine mG_cS (pc := 1) (k' := 0) (n' := 0) [.int p1] [] C hX dX6_weightedMark_1 lkS_X6_45 rfl (tX9_isRow hl e1) rfl rfl rfl rfl ?_
  obtain ⟨p5, e6, hf⟩ := mx_bind hf
  have J4 : ∀ p5' : Int32, p5' = p5 → mG l Z X 4 0 0 31 [some (.ref p0), some (.int p1), some (.int p2), none] [.int p5'] h := by
    intro p5' q32
    subst q32
    refine mG_isn (ls' := [some (.ref p0), some (.int p1), some (.int p2), some (.int p5')]) (pc := 31) C dX6_weightedMark_31 rfl rfl rfl ?_
    refine mG_iload_n (pc := 32) C dX6_weightedMark_32 rfl ?_
    obtain ⟨p19, e20, hf⟩ := mx_bind hf
    have J18 : ∀ p19' : Int32, p19' = p19 → mG l Z X 4 0 0 55 [none, none, none, none] [.int p19'] h := by
      intro p19' q31
      subst q31
      cases hf
      exact mG_ir (pc := 55) C E hX dX6_weightedMark_55 rfl
    refine mG_if_eq (pc := 33) (tgt := 54) C dX6_weightedMark_33 (by decide) (fun q17 => ?_) (fun q17 => ?_)
    · rw [if_pos q17] at e20
      refine mG_ic (pc := 54) C dX6_weightedMark_54 kI0 ?_
      exact mG_sub (mxLe_n (mxLe_n (mxLe_n (mxLe_n mxLe_z)))) (J18 _ (Option.some.inj e20))
    · rw [if_neg q17] at e20
      refine mG_aload_n (pc := 36) C dX6_weightedMark_36 rfl ?_
      obtain ⟨r21, e22, e20⟩ := mx_bind e20
      refine mG_getR (pc := 37) C dX6_weightedMark_37 fl_X6_11 e22 ?_
      refine mG_iload_n (pc := 40) C dX6_weightedMark_40 rfl ?_
      obtain ⟨r23, e24, e20⟩ := mx_bind e20
      refine mG_aaload (pc := 41) C dX6_weightedMark_41 e24 ?_
      refine mG_iload_n (pc := 42) C dX6_weightedMark_42 rfl ?_
      obtain ⟨v25, e26, e20⟩ := mx_bind e20
      refine mG_iaload (pc := 43) C dX6_weightedMark_43 e26 ?_
      refine mG_aload_n (pc := 44) C dX6_weightedMark_44 rfl ?_
      obtain ⟨r27, e28, e20⟩ := mx_bind e20
      refine mG_getR (pc := 45) C dX6_weightedMark_45 fl_X6_26 e28 ?_
      refine mG_iload_n (pc := 48) C dX6_weightedMark_48 rfl ?_
      obtain ⟨v29, e30, e20⟩ := mx_bind e20
      refine mG_iaload (pc := 49) C dX6_weightedMark_49 e30 ?_
      refine mG_imul (pc := 50) C dX6_weightedMark_50 ?_
      refine mG_goto (tgt := 55) (pc := 51) C dX6_weightedMark_51 (by decide) ?_
      exact mG_sub (mxLe_n (mxLe_n (mxLe_n (mxLe_n mxLe_z)))) (J18 _ (Option.some.inj e20))
  refine mG_if_eq (pc := 4) (tgt := 30) C dX6_weightedMark_4 (by decide) (fun q3 => ?_) (fun q3 => ?_)
  · rw [if_pos q3] at e6
    refine mG_ic (pc := 30) C dX6_weightedMark_30 kI0 ?_
    exact mG_sub (mxLe_s (mxLe_s (mxLe_s (mxLe_n mxLe_z)))) (J4 _ (Option.some.inj e6))
  · rw [if_neg q3] at e6
    refine mG_iload_n (pc := 7) C dX6_weightedMark_7 rfl ?_
    obtain ⟨v8, e7, e6⟩ := mx_bind e6
    refine mG_cS (pc := 8) (k' := 0) (n' := 0) [.int p2] [] C hX dX6_weightedMark_8 lkS_X6_49 rfl (tX9_isThing hl e7) rfl rfl rfl rfl ?_
    refine mG_if_eq (pc := 11) (tgt := 30) C dX6_weightedMark_11 (by decide) (fun q9 => ?_) (fun q9 => ?_)
    · rw [if_pos q9] at e6
      refine mG_ic (pc := 30) C dX6_weightedMark_30 kI0 ?_
      exact mG_sub (mxLe_s (mxLe_s (mxLe_s (mxLe_n mxLe_z)))) (J4 _ (Option.some.inj e6))
    · rw [if_neg q9] at e6
      refine mG_aload_n (pc := 14) C dX6_weightedMark_14 rfl ?_
      obtain ⟨r10, e11, e6⟩ := mx_bind e6
      refine mG_getR (pc := 15) C dX6_weightedMark_15 fl_X6_11 e11 ?_
      refine mG_iload_n (pc := 18) C dX6_weightedMark_18 rfl ?_
      obtain ⟨r12, e13, e6⟩ := mx_bind e6
      refine mG_aaload (pc := 19) C dX6_weightedMark_19 e13 ?_
      refine mG_iload_n (pc := 20) C dX6_weightedMark_20 rfl ?_
      obtain ⟨v14, e15, e6⟩ := mx_bind e6
      refine mG_iaload (pc := 21) C dX6_weightedMark_21 e15 ?_
      refine mG_ic (pc := 22) C dX6_weightedMark_22 kIm1 ?_
      refine mG_icmp_eq (pc := 23) (tgt := 30) C dX6_weightedMark_23 (by decide) (fun q16 => ?_) (fun q16 => ?_)
      · rw [if_pos q16] at e6
        refine mG_ic (pc := 30) C dX6_weightedMark_30 kI0 ?_
        exact mG_sub (mxLe_s (mxLe_s (mxLe_s (mxLe_n mxLe_z)))) (J4 _ (Option.some.inj e6))
      · rw [if_neg q16] at e6
        refine mG_ic (pc := 26) C dX6_weightedMark_26 kI1 ?_
        refine mG_goto (tgt := 31) (pc := 27) C dX6_weightedMark_27 (by decide) ?_
        exact mG_sub (mxLe_s (mxLe_s (mxLe_s (mxLe_n mxLe_z)))) (J4 _ (Option.some.inj e6))
theorem dX6_valueOf_0 : decode cX6_valueOf 0 = .ok (.iconst 0, 1) := by decide +kernel
theorem dX6_valueOf_1 : decode cX6_valueOf 1 = .ok (.istore_n 2, 1) := by decide +kernel
theorem dX6_valueOf_2 : decode cX6_valueOf 2 = .ok (.iload_n 2, 1) := by decide +kernel
theorem dX6_valueOf_3 : decode cX6_valueOf 3 = .ok (.iconst 5, 1) := by decide +kernel
theorem dX6_valueOf_4 : decode cX6_valueOf 4 = .ok (.if_icmp .ge 21, 3) := by decide +kernel
theorem dX6_valueOf_7 : decode cX6_valueOf 7 = .ok (.aload_n 0, 1) := by decide +kernel
theorem dX6_valueOf_8 : decode cX6_valueOf 8 = .ok (.getfield 36, 3) := by decide +kernel
theorem dX6_valueOf_11 : decode cX6_valueOf 11 = .ok (.iload_n 2, 1) := by decide +kernel
theorem dX6_valueOf_12 : decode cX6_valueOf 12 = .ok (.aload_n 0, 1) := by decide +kernel
theorem dX6_valueOf_13 : decode cX6_valueOf 13 = .ok (.iload_n 2, 1) := by decide +kernel
theorem dX6_valueOf_14 : decode cX6_valueOf 14 = .ok (.iload_n 1, 1) := by decide +kernel
theorem dX6_valueOf_15 : decode cX6_valueOf 15 = .ok (.invokevirtual 81, 3) := by decide +kernel
theorem dX6_valueOf_18 : decode cX6_valueOf 18 = .ok (.iastore, 1) := by decide +kernel
theorem dX6_valueOf_19 : decode cX6_valueOf 19 = .ok (.iinc 2 1, 3) := by decide +kernel
theorem dX6_valueOf_22 : decode cX6_valueOf 22 = .ok (.goto (-20), 3) := by decide +kernel
theorem dX6_valueOf_25 : decode cX6_valueOf 25 = .ok (.aload_n 0, 1) := by decide +kernel
theorem dX6_valueOf_26 : decode cX6_valueOf 26 = .ok (.invokevirtual 84, 3) := by decide +kernel
theorem dX6_valueOf_29 : decode cX6_valueOf 29 = .ok (.ireturn, 1) := by decide +kernel
def fX6_valueOf (p0 : Nat) (p1 : Int32) (h : mxH) : Option (Int32 × mxH) := Option.bind (mxLoop (ρ := mxH) (fun s1 : (Int32 × mxH) => (if 5 ≤ s1.1 then some (Sum.inr s1.2) else Option.bind (gR s1.2 p0 6 7) (fun r10 => Option.bind (isO s1.2 p0 6) (fun u12 => Option.bind (fX6_weightedMark p0 s1.1 p1 s1.2) (fun v15 => Option.bind (stI s1.2 r10 s1.1 v15) (fun h16 => some (Sum.inl (s1.1 + 1, h16)))))))) mxF (0, h)) (fun r18 : mxH => Option.bind (isO r18 p0 6) (fun u19 => Option.bind (fX6_applyRule p0 r18) (fun v22 => some (v22, r18))))
abbrev rmX6_valueOf : Room := { frames := 2, cells := 0, slots := 0, locals := 47 }
set_option maxRecDepth 20000 in
theorem tX6_valueOf {l : Launch} {Z : mxZ} (hl : l.stackTraces = false) {p0 : Nat} {p1 : Int32} {h : mxH} {out : (Int32 × mxH)} (hf : fX6_valueOf p0 p1 h = some out) : mxMet l Z yX6_valueOf cX6_valueOf 3 (some .int) rmX6_valueOf [.ref p0, .int p1] h (.inl (some (.int out.1))) out.2 := by
  refine mxMet_of (by decide) hl (by simp [Value.category]) (Nat.le_of_ble_eq_true rfl) ?_
  intro X C E hX hin
  unfold fX6_valueOf at hf
  refine mG_ic (pc := 0) C dX6_valueOf_0 kI0 ?_
  refine mG_isn (ls' := [some (.ref p0), some (.int p1), some (.int 0)]) (pc := 1) C dX6_valueOf_1 rfl rfl rfl ?_
  obtain ⟨r2, e3, hf⟩ := mx_bind hf
  have J4 : ∀ r18 : mxH, r18 = r2 → mG l Z X 3 0 0 25 [some (.ref p0), none, none] [] r18 := by
    intro r18 q23
    subst q23
    refine mG_aload_n (pc := 25) C dX6_valueOf_25 rfl ?_
    obtain ⟨u19, e20, hf⟩ := mx_bind hf
    obtain ⟨v22, e21, hf⟩ := mx_bind hf
    refine mG_cV (pc := 26) (k' := 0) (n' := 0) 6 [] [] C hX dX6_valueOf_26 lkV_X6_84 rfl rfl e20 (tX6_applyRule hl e21) rfl rfl rfl rfl ?_
    cases hf
    exact mG_ir (pc := 29) C E hX dX6_valueOf_29 rfl
  refine mG_sub (ls' := [some (.ref p0), some (.int p1), some (.int 0)]) (mxLe_s (mxLe_s (mxLe_s mxLe_z))) (mxLoop_ind (K := fun s1 : (Int32 × mxH) => mG l Z X 3 0 0 2 [some (.ref p0), some (.int p1), some (.int s1.1)] [] s1.2) ?_ _ _ e3)
  intro s1 o7 e8 hK5 hx6
  refine mG_iload_n (pc := 2) C dX6_valueOf_2 rfl ?_
  refine mG_ic (pc := 3) C dX6_valueOf_3 kI5 ?_
  refine mG_icmp_ge (pc := 4) (tgt := 25) C dX6_valueOf_4 (by decide) (fun q9 => ?_) (fun q9 => ?_)
  · rw [if_pos q9] at e8
    exact mG_sub (mxLe_s (mxLe_n (mxLe_n mxLe_z))) (J4 _ (hx6 _ (Option.some.inj e8).symm))
  · rw [if_neg q9] at e8
    refine mG_aload_n (pc := 7) C dX6_valueOf_7 rfl ?_
    obtain ⟨r10, e11, e8⟩ := mx_bind e8
    refine mG_getR (pc := 8) C dX6_valueOf_8 fl_X6_36 e11 ?_
    refine mG_iload_n (pc := 11) C dX6_valueOf_11 rfl ?_
    refine mG_aload_n (pc := 12) C dX6_valueOf_12 rfl ?_
    refine mG_iload_n (pc := 13) C dX6_valueOf_13 rfl ?_
    refine mG_iload_n (pc := 14) C dX6_valueOf_14 rfl ?_
    obtain ⟨u12, e13, e8⟩ := mx_bind e8
    obtain ⟨v15, e14, e8⟩ := mx_bind e8
    refine mG_cV (pc := 15) (k' := 0) (n' := 0) 6 [.int s1.1, .int p1] [.int s1.1, .ref r10] C hX dX6_valueOf_15 lkV_X6_81 rfl rfl e13 (tX6_weightedMark hl e14) rfl rfl rfl rfl ?_
    obtain ⟨h16, e17, e8⟩ := mx_bind e8
    refine mG_iastore (pc := 18) C dX6_valueOf_18 e17 ?_
    refine mG_ii (ls' := [some (.ref p0), some (.int p1), some (.int (s1.1 + 1))]) (pc := 19) C dX6_valueOf_19 rfl (kinc1 _) rfl rfl rfl ?_
    refine mG_goto (tgt := 2) (pc := 22) C dX6_valueOf_22 (by decide) ?_
    exact mG_sub (mxLe_s (mxLe_s (mxLe_s mxLe_z))) (hK5 _ (Option.some.inj e8).symm)
theorem dX6_deepest_0 : decode cX6_deepest 0 = .ok (.iconst 0, 1) := by decide +kernel
theorem dX6_deepest_1 : decode cX6_deepest 1 = .ok (.istore_n 1, 1) := by decide +kernel
theorem dX6_deepest_2 : decode cX6_deepest 2 = .ok (.aload_n 0, 1) := by decide +kernel
theorem dX6_deepest_3 : decode cX6_deepest 3 = .ok (.getfield 22, 3) := by decide +kernel
theorem dX6_deepest_6 : decode cX6_deepest 6 = .ok (.astore_n 2, 1) := by decide +kernel
theorem dX6_deepest_7 : decode cX6_deepest 7 = .ok (.aload_n 2, 1) := by decide +kernel
theorem dX6_deepest_8 : decode cX6_deepest 8 = .ok (.arraylength, 1) := by decide +kernel
theorem dX6_deepest_9 : decode cX6_deepest 9 = .ok (.istore_n 3, 1) := by decide +kernel
theorem dX6_deepest_10 : decode cX6_deepest 10 = .ok (.iconst 0, 1) := by decide +kernel
theorem dX6_deepest_11 : decode cX6_deepest 11 = .ok (.istore 4, 2) := by decide +kernel
theorem dX6_deepest_13 : decode cX6_deepest 13 = .ok (.iload 4, 2) := by decide +kernel
theorem dX6_deepest_15 : decode cX6_deepest 15 = .ok (.iload_n 3, 1) := by decide +kernel
theorem dX6_deepest_16 : decode cX6_deepest 16 = .ok (.if_icmp .ge 22, 3) := by decide +kernel
theorem dX6_deepest_19 : decode cX6_deepest 19 = .ok (.aload_n 2, 1) := by decide +kernel
theorem dX6_deepest_20 : decode cX6_deepest 20 = .ok (.iload 4, 2) := by decide +kernel
theorem dX6_deepest_22 : decode cX6_deepest 22 = .ok (.iaload, 1) := by decide +kernel
theorem dX6_deepest_23 : decode cX6_deepest 23 = .ok (.istore 5, 2) := by decide +kernel
theorem dX6_deepest_25 : decode cX6_deepest 25 = .ok (.iload_n 1, 1) := by decide +kernel
theorem dX6_deepest_26 : decode cX6_deepest 26 = .ok (.iload 5, 2) := by decide +kernel
theorem dX6_deepest_28 : decode cX6_deepest 28 = .ok (.invokestatic 98, 3) := by decide +kernel
theorem dX6_deepest_31 : decode cX6_deepest 31 = .ok (.istore_n 1, 1) := by decide +kernel
theorem dX6_deepest_32 : decode cX6_deepest 32 = .ok (.iinc 4 1, 3) := by decide +kernel
theorem dX6_deepest_35 : decode cX6_deepest 35 = .ok (.goto (-22), 3) := by decide +kernel
theorem dX6_deepest_38 : decode cX6_deepest 38 = .ok (.iload_n 1, 1) := by decide +kernel
theorem dX6_deepest_39 : decode cX6_deepest 39 = .ok (.ireturn, 1) := by decide +kernel
def fX6_deepest (p0 : Nat) (h : mxH) : Option Int32 := Option.bind (gR h p0 6 3) (fun r1 => Option.bind (lenA h r1) (fun v3 => Option.bind (mxLoop (ρ := Int32) (fun s5 : (Int32 × Int32) => (if v3 ≤ s5.2 then some (Sum.inr s5.1) else Option.bind (ldI h r1 s5.2) (fun v14 => some (Sum.inl (mxMax s5.1 v14, s5.2 + 1))))) mxF (0, 0)) (fun r16 : Int32 => some r16)))
abbrev rmX6_deepest : Room := { frames := 1, cells := 0, slots := 0, locals := 21 }
set_option maxRecDepth 20000 in
theorem tX6_deepest {l : Launch} {Z : mxZ} (hl : l.stackTraces = false) {p0 : Nat} {h : mxH} {out : Int32} (hf : fX6_deepest p0 h = some out) : mxMet l Z yX6_deepest cX6_deepest 6 (some .int) rmX6_deepest [.ref p0] h (.inl (some (.int out))) h := by
  refine mxMet_of (by decide) hl (by simp [Value.category]) (Nat.le_of_ble_eq_true rfl) ?_
  intro X C E hX hin
  unfold fX6_deepest at hf
  refine mG_ic (pc := 0) C dX6_deepest_0 kI0 ?_
  refine mG_isn (ls' := [some (.ref p0), some (.int 0), none, none, none, none]) (pc := 1) C dX6_deepest_1 rfl rfl rfl ?_
  refine mG_aload_n (pc := 2) C dX6_deepest_2 rfl ?_
  obtain ⟨r1, e2, hf⟩ := mx_bind hf
  refine mG_getR (pc := 3) C dX6_deepest_3 fl_X6_22 e2 ?_
  refine mG_asn (ls' := [some (.ref p0), some (.int 0), some (.ref r1), none, none, none]) (pc := 6) C dX6_deepest_6 rfl rfl rfl ?_
  refine mG_aload_n (pc := 7) C dX6_deepest_7 rfl ?_
  obtain ⟨v3, e4, hf⟩ := mx_bind hf
  refine mG_arraylength (pc := 8) C dX6_deepest_8 e4 ?_
  refine mG_isn (ls' := [some (.ref p0), some (.int 0), some (.ref r1), some (.int v3), none, none]) (pc := 9) C dX6_deepest_9 rfl rfl rfl ?_
  refine mG_ic (pc := 10) C dX6_deepest_10 kI0 ?_
  refine mG_is (ls' := [some (.ref p0), some (.int 0), some (.ref r1), some (.int v3), some (.int 0), none]) (pc := 11) C dX6_deepest_11 rfl rfl rfl ?_
  obtain ⟨r6, e7, hf⟩ := mx_bind hf
  have J8 : ∀ r16 : Int32, r16 = r6 → mG l Z X 6 0 0 38 [none, some (.int r16), none, none, none, none] [] h := by
    intro r16 q17
    subst q17
    refine mG_iload_n (pc := 38) C dX6_deepest_38 rfl ?_
    cases hf
    exact mG_ir (pc := 39) C E hX dX6_deepest_39 rfl
  refine mG_sub (ls' := [none, some (.int 0), some (.ref r1), some (.int v3), some (.int 0), none]) (mxLe_n (mxLe_s (mxLe_s (mxLe_s (mxLe_s (mxLe_n mxLe_z)))))) (mxLoop_ind (K := fun s5 : (Int32 × Int32) => mG l Z X 6 0 0 13 [none, some (.int s5.1), some (.ref r1), some (.int v3), some (.int s5.2), none] [] h) ?_ _ _ e7)
  intro s5 o11 e12 hK9 hx10
  refine mG_iload (pc := 13) C dX6_deepest_13 rfl ?_
  refine mG_iload_n (pc := 15) C dX6_deepest_15 rfl ?_
  refine mG_icmp_ge (pc := 16) (tgt := 38) C dX6_deepest_16 (by decide) (fun q13 => ?_) (fun q13 => ?_)
  · rw [if_pos q13] at e12
    exact mG_sub (mxLe_n (mxLe_s (mxLe_n (mxLe_n (mxLe_n (mxLe_n mxLe_z)))))) (J8 _ (hx10 _ (Option.some.inj e12).symm))
  · rw [if_neg q13] at e12
    refine mG_aload_n (pc := 19) C dX6_deepest_19 rfl ?_
    refine mG_iload (pc := 20) C dX6_deepest_20 rfl ?_
    obtain ⟨v14, e15, e12⟩ := mx_bind e12
    refine mG_iaload (pc := 22) C dX6_deepest_22 e15 ?_
    refine mG_is (ls' := [none, some (.int s5.1), some (.ref r1), some (.int v3), some (.int s5.2), some (.int v14)]) (pc := 23) C dX6_deepest_23 rfl rfl rfl ?_
    refine mG_iload_n (pc := 25) C dX6_deepest_25 rfl ?_
    refine mG_iload (pc := 26) C dX6_deepest_26 rfl ?_
    refine mG_mx (pc := 28) C hX dX6_deepest_28 w62 wmax rfl rfl ?_
    refine mG_isn (ls' := [none, some (.int (mxMax s5.1 v14)), some (.ref r1), some (.int v3), some (.int s5.2), some (.int v14)]) (pc := 31) C dX6_deepest_31 rfl rfl rfl ?_
    refine mG_ii (ls' := [none, some (.int (mxMax s5.1 v14)), some (.ref r1), some (.int v3), some (.int (s5.2 + 1)), some (.int v14)]) (pc := 32) C dX6_deepest_32 rfl (kinc1 _) rfl rfl rfl ?_
    refine mG_goto (tgt := 13) (pc := 35) C dX6_deepest_35 (by decide) ?_
    exact mG_sub (mxLe_n (mxLe_s (mxLe_s (mxLe_s (mxLe_s (mxLe_n mxLe_z)))))) (hK9 _ (Option.some.inj e12).symm)
theorem dX6_lastMark_0 : decode cX6_lastMark 0 = .ok (.aload_n 0, 1) := by decide +kernel
theorem dX6_lastMark_1 : decode cX6_lastMark 1 = .ok (.iload_n 1, 1) := by decide +kernel
theorem dX6_lastMark_2 : decode cX6_lastMark 2 = .ok (.aload_n 0, 1) := by decide +kernel
theorem dX6_lastMark_3 : decode cX6_lastMark 3 = .ok (.iload_n 1, 1) := by decide +kernel
theorem dX6_lastMark_4 : decode cX6_lastMark 4 = .ok (.iload_n 2, 1) := by decide +kernel
theorem dX6_lastMark_5 : decode cX6_lastMark 5 = .ok (.iconst 1, 1) := by decide +kernel
theorem dX6_lastMark_6 : decode cX6_lastMark 6 = .ok (.isub, 1) := by decide +kernel
theorem dX6_lastMark_7 : decode cX6_lastMark 7 = .ok (.invokevirtual 75, 3) := by decide +kernel
theorem dX6_lastMark_10 : decode cX6_lastMark 10 = .ok (.invokevirtual 81, 3) := by decide +kernel
theorem dX6_lastMark_13 : decode cX6_lastMark 13 = .ok (.ireturn, 1) := by decide +kernel
def fX6_lastMark (p0 : Nat) (p1 : Int32) (p2 : Int32) (h : mxH) : Option Int32 := Option.bind (isO h p0 6) (fun u1 => Option.bind (fX6_thingOn p0 p1 (p2 - 1) h) (fun v4 => Option.bind (isO h p0 6) (fun u5 => Option.bind (fX6_weightedMark p0 p1 v4 h) (fun v8 => some v8))))
abbrev rmX6_lastMark : Room := { frames := 2, cells := 0, slots := 0, locals := 43 }
set_option maxRecDepth 20000 in
theorem tX6_lastMark {l : Launch} {Z : mxZ} (hl : l.stackTraces = false) {p0 : Nat} {p1 : Int32} {p2 : Int32} {h : mxH} {out : Int32} (hf : fX6_lastMark p0 p1 p2 h = some out) : mxMet l Z yX6_lastMark cX6_lastMark 3 (some .int) rmX6_lastMark [.ref p0, .int p1, .int p2] h (.inl (some (.int out))) h := by
  refine mxMet_of (by decide) hl (by simp [Value.category]) (Nat.le_of_ble_eq_true rfl) ?_
  intro X C E hX hin
  unfold fX6_lastMark at hf
  refine mG_aload_n (pc := 0) C dX6_lastMark_0 rfl ?_
  refine mG_iload_n (pc := 1) C dX6_lastMark_1 rfl ?_
  refine mG_aload_n (pc := 2) C dX6_lastMark_2 rfl ?_
  refine mG_iload_n (pc := 3) C dX6_lastMark_3 rfl ?_
  refine mG_iload_n (pc := 4) C dX6_lastMark_4 rfl ?_
  refine mG_ic (pc := 5) C dX6_lastMark_5 kI1 ?_
  refine mG_isub (pc := 6) C dX6_lastMark_6 ?_
  obtain ⟨u1, e2, hf⟩ := mx_bind hf
  obtain ⟨v4, e3, hf⟩ := mx_bind hf
  refine mG_cV (pc := 7) (k' := 0) (n' := 0) 6 [.int p1, .int (p2 - 1)] [.int p1, .ref p0] C hX dX6_lastMark_7 lkV_X6_75 rfl rfl e2 (tX6_thingOn hl e3) rfl rfl rfl rfl ?_
  obtain ⟨u5, e6, hf⟩ := mx_bind hf
  obtain ⟨v8, e7, hf⟩ := mx_bind hf
  refine mG_cV (pc := 10) (k' := 0) (n' := 0) 6 [.int p1, .int v4] [] C hX dX6_lastMark_10 lkV_X6_81 rfl rfl e6 (tX6_weightedMark hl e7) rfl rfl rfl rfl ?_
  cases hf
  exact mG_ir (pc := 13) C E hX dX6_lastMark_13 rfl
theorem dX6_limitAt_0 : decode cX6_limitAt 0 = .ok (.iconst 0, 1) := by decide +kernel
theorem dX6_limitAt_1 : decode cX6_limitAt 1 = .ok (.istore_n 2, 1) := by decide +kernel
theorem dX6_limitAt_2 : decode cX6_limitAt 2 = .ok (.iload_n 2, 1) := by decide +kernel
theorem dX6_limitAt_3 : decode cX6_limitAt 3 = .ok (.iconst 5, 1) := by decide +kernel
theorem dX6_limitAt_4 : decode cX6_limitAt 4 = .ok (.if_icmp .ge 21, 3) := by decide +kernel
theorem dX6_limitAt_7 : decode cX6_limitAt 7 = .ok (.aload_n 0, 1) := by decide +kernel
theorem dX6_limitAt_8 : decode cX6_limitAt 8 = .ok (.getfield 36, 3) := by decide +kernel
theorem dX6_limitAt_11 : decode cX6_limitAt 11 = .ok (.iload_n 2, 1) := by decide +kernel
theorem dX6_limitAt_12 : decode cX6_limitAt 12 = .ok (.aload_n 0, 1) := by decide +kernel
theorem dX6_limitAt_13 : decode cX6_limitAt 13 = .ok (.iload_n 2, 1) := by decide +kernel
theorem dX6_limitAt_14 : decode cX6_limitAt 14 = .ok (.iload_n 1, 1) := by decide +kernel
theorem dX6_limitAt_15 : decode cX6_limitAt 15 = .ok (.invokevirtual 88, 3) := by decide +kernel
theorem dX6_limitAt_18 : decode cX6_limitAt 18 = .ok (.iastore, 1) := by decide +kernel
theorem dX6_limitAt_19 : decode cX6_limitAt 19 = .ok (.iinc 2 1, 3) := by decide +kernel
theorem dX6_limitAt_22 : decode cX6_limitAt 22 = .ok (.goto (-20), 3) := by decide +kernel
theorem dX6_limitAt_25 : decode cX6_limitAt 25 = .ok (.aload_n 0, 1) := by decide +kernel
theorem dX6_limitAt_26 : decode cX6_limitAt 26 = .ok (.invokevirtual 84, 3) := by decide +kernel
theorem dX6_limitAt_29 : decode cX6_limitAt 29 = .ok (.ireturn, 1) := by decide +kernel
def fX6_limitAt (p0 : Nat) (p1 : Int32) (h : mxH) : Option (Int32 × mxH) := Option.bind (mxLoop (ρ := mxH) (fun s1 : (Int32 × mxH) => (if 5 ≤ s1.1 then some (Sum.inr s1.2) else Option.bind (gR s1.2 p0 6 7) (fun r10 => Option.bind (isO s1.2 p0 6) (fun u12 => Option.bind (fX6_lastMark p0 s1.1 p1 s1.2) (fun v15 => Option.bind (stI s1.2 r10 s1.1 v15) (fun h16 => some (Sum.inl (s1.1 + 1, h16)))))))) mxF (0, h)) (fun r18 : mxH => Option.bind (isO r18 p0 6) (fun u19 => Option.bind (fX6_applyRule p0 r18) (fun v22 => some (v22, r18))))
abbrev rmX6_limitAt : Room := { frames := 3, cells := 0, slots := 0, locals := 65 }
set_option maxRecDepth 20000 in
theorem tX6_limitAt {l : Launch} {Z : mxZ} (hl : l.stackTraces = false) {p0 : Nat} {p1 : Int32} {h : mxH} {out : (Int32 × mxH)} (hf : fX6_limitAt p0 p1 h = some out) : mxMet l Z yX6_limitAt cX6_limitAt 3 (some .int) rmX6_limitAt [.ref p0, .int p1] h (.inl (some (.int out.1))) out.2 := by
  refine mxMet_of (by decide) hl (by simp [Value.category]) (Nat.le_of_ble_eq_true rfl) ?_
  intro X C E hX hin
  unfold fX6_limitAt at hf
  refine mG_ic (pc := 0) C dX6_limitAt_0 kI0 ?_
  refine mG_isn (ls' := [some (.ref p0), some (.int p1), some (.int 0)]) (pc := 1) C dX6_limitAt_1 rfl rfl rfl ?_
  obtain ⟨r2, e3, hf⟩ := mx_bind hf
  have J4 : ∀ r18 : mxH, r18 = r2 → mG l Z X 3 0 0 25 [some (.ref p0), none, none] [] r18 := by
    intro r18 q23
    subst q23
    refine mG_aload_n (pc := 25) C dX6_limitAt_25 rfl ?_
    obtain ⟨u19, e20, hf⟩ := mx_bind hf
    obtain ⟨v22, e21, hf⟩ := mx_bind hf
    refine mG_cV (pc := 26) (k' := 0) (n' := 0) 6 [] [] C hX dX6_limitAt_26 lkV_X6_84 rfl rfl e20 (tX6_applyRule hl e21) rfl rfl rfl rfl ?_
    cases hf
    exact mG_ir (pc := 29) C E hX dX6_limitAt_29 rfl
  refine mG_sub (ls' := [some (.ref p0), some (.int p1), some (.int 0)]) (mxLe_s (mxLe_s (mxLe_s mxLe_z))) (mxLoop_ind (K := fun s1 : (Int32 × mxH) => mG l Z X 3 0 0 2 [some (.ref p0), some (.int p1), some (.int s1.1)] [] s1.2) ?_ _ _ e3)
  intro s1 o7 e8 hK5 hx6
  refine mG_iload_n (pc := 2) C dX6_limitAt_2 rfl ?_
  refine mG_ic (pc := 3) C dX6_limitAt_3 kI5 ?_
  refine mG_icmp_ge (pc := 4) (tgt := 25) C dX6_limitAt_4 (by decide) (fun q9 => ?_) (fun q9 => ?_)
  · rw [if_pos q9] at e8
    exact mG_sub (mxLe_s (mxLe_n (mxLe_n mxLe_z))) (J4 _ (hx6 _ (Option.some.inj e8).symm))
  · rw [if_neg q9] at e8
    refine mG_aload_n (pc := 7) C dX6_limitAt_7 rfl ?_
    obtain ⟨r10, e11, e8⟩ := mx_bind e8
    refine mG_getR (pc := 8) C dX6_limitAt_8 fl_X6_36 e11 ?_
    refine mG_iload_n (pc := 11) C dX6_limitAt_11 rfl ?_
    refine mG_aload_n (pc := 12) C dX6_limitAt_12 rfl ?_
    refine mG_iload_n (pc := 13) C dX6_limitAt_13 rfl ?_
    refine mG_iload_n (pc := 14) C dX6_limitAt_14 rfl ?_
    obtain ⟨u12, e13, e8⟩ := mx_bind e8
    obtain ⟨v15, e14, e8⟩ := mx_bind e8
    refine mG_cV (pc := 15) (k' := 0) (n' := 0) 6 [.int s1.1, .int p1] [.int s1.1, .ref r10] C hX dX6_limitAt_15 lkV_X6_88 rfl rfl e13 (tX6_lastMark hl e14) rfl rfl rfl rfl ?_
    obtain ⟨h16, e17, e8⟩ := mx_bind e8
    refine mG_iastore (pc := 18) C dX6_limitAt_18 e17 ?_
    refine mG_ii (ls' := [some (.ref p0), some (.int p1), some (.int (s1.1 + 1))]) (pc := 19) C dX6_limitAt_19 rfl (kinc1 _) rfl rfl rfl ?_
    refine mG_goto (tgt := 2) (pc := 22) C dX6_limitAt_22 (by decide) ?_
    exact mG_sub (mxLe_s (mxLe_s (mxLe_s mxLe_z))) (hK5 _ (Option.some.inj e8).symm)
theorem dX6_placeIn_0 : decode cX6_placeIn 0 = .ok (.iload_n 1, 1) := by decide +kernel
theorem dX6_placeIn_1 : decode cX6_placeIn 1 = .ok (.invokestatic 45, 3) := by decide +kernel
theorem dX6_placeIn_4 : decode cX6_placeIn 4 = .ok (.ifCond .eq 21, 3) := by decide +kernel
theorem dX6_placeIn_7 : decode cX6_placeIn 7 = .ok (.iload_n 2, 1) := by decide +kernel
theorem dX6_placeIn_8 : decode cX6_placeIn 8 = .ok (.invokestatic 49, 3) := by decide +kernel
theorem dX6_placeIn_11 : decode cX6_placeIn 11 = .ok (.ifCond .eq 14, 3) := by decide +kernel
theorem dX6_placeIn_14 : decode cX6_placeIn 14 = .ok (.aload_n 0, 1) := by decide +kernel
theorem dX6_placeIn_15 : decode cX6_placeIn 15 = .ok (.getfield 16, 3) := by decide +kernel
theorem dX6_placeIn_18 : decode cX6_placeIn 18 = .ok (.iload_n 1, 1) := by decide +kernel
theorem dX6_placeIn_19 : decode cX6_placeIn 19 = .ok (.aaload, 1) := by decide +kernel
theorem dX6_placeIn_20 : decode cX6_placeIn 20 = .ok (.iload_n 2, 1) := by decide +kernel
theorem dX6_placeIn_21 : decode cX6_placeIn 21 = .ok (.iaload, 1) := by decide +kernel
theorem dX6_placeIn_22 : decode cX6_placeIn 22 = .ok (.goto 4, 3) := by decide +kernel
theorem dX6_placeIn_25 : decode cX6_placeIn 25 = .ok (.iconst (-1), 1) := by decide +kernel
theorem dX6_placeIn_26 : decode cX6_placeIn 26 = .ok (.ireturn, 1) := by decide +kernel
def fX6_placeIn (p0 : Nat) (p1 : Int32) (p2 : Int32) (h : mxH) : Option Int32 := Option.bind (fX9_isRow p1 h) (fun v2 => Option.bind (α := Int32) (if v2 = 0 then some (-1) else Option.bind (fX9_isThing p2 h) (fun v8 => (if v8 = 0 then some (-1) else Option.bind (gR h p0 6 1) (fun r10 => Option.bind (ldR h r10 p1) (fun r12 => Option.bind (ldI h r12 p2) (fun v14 => some v14)))))) (fun p5' : Int32 => some p5'))
abbrev rmX6_placeIn : Room := { frames := 1, cells := 0, slots := 0, locals := 20 }
set_option maxRecDepth 20000 in
theorem tX6_placeIn {l : Launch} {Z : mxZ} (hl : l.stackTraces = false) {p0 : Nat} {p1 : Int32} {p2 : Int32} {h : mxH} {out : Int32} (hf : fX6_placeIn p0 p1 p2 h = some out) : mxMet l Z yX6_placeIn cX6_placeIn 3 (some .int) rmX6_placeIn [.ref p0, .int p1, .int p2] h (.inl (some (.int out))) h := by
  refine mxMet_of (by decide) hl (by simp [Value.category]) (Nat.le_of_ble_eq_true rfl) ?_
  intro X C E hX hin
  unfold fX6_placeIn at hf
  refine mG_iload_n (pc := 0) C dX6_placeIn_0 rfl ?_
  obtain ⟨v2, e1, hf⟩ := mx_bind hf
  refine mG_cS (pc := 1) (k' := 0) (n' := 0) [.int p1] [] C hX dX6_placeIn_1 lkS_X6_45 rfl (tX9_isRow hl e1) rfl rfl rfl rfl ?_
  obtain ⟨p5, e6, hf⟩ := mx_bind hf
  have J4 : ∀ p5' : Int32, p5' = p5 → mG l Z X 3 0 0 26 [none, none, none] [.int p5'] h := by
    intro p5' q16
    subst q16
    cases hf
    exact mG_ir (pc := 26) C E hX dX6_placeIn_26 rfl
  refine mG_if_eq (pc := 4) (tgt := 25) C dX6_placeIn_4 (by decide) (fun q3 => ?_) (fun q3 => ?_)
  · rw [if_pos q3] at e6
    refine mG_ic (pc := 25) C dX6_placeIn_25 kIm1 ?_
    exact mG_sub (mxLe_n (mxLe_n (mxLe_n mxLe_z))) (J4 _ (Option.some.inj e6))
  · rw [if_neg q3] at e6
    refine mG_iload_n (pc := 7) C dX6_placeIn_7 rfl ?_
    obtain ⟨v8, e7, e6⟩ := mx_bind e6
    refine mG_cS (pc := 8) (k' := 0) (n' := 0) [.int p2] [] C hX dX6_placeIn_8 lkS_X6_49 rfl (tX9_isThing hl e7) rfl rfl rfl rfl ?_
    refine mG_if_eq (pc := 11) (tgt := 25) C dX6_placeIn_11 (by decide) (fun q9 => ?_) (fun q9 => ?_)
    · rw [if_pos q9] at e6
      refine mG_ic (pc := 25) C dX6_placeIn_25 kIm1 ?_
      exact mG_sub (mxLe_n (mxLe_n (mxLe_n mxLe_z))) (J4 _ (Option.some.inj e6))
    · rw [if_neg q9] at e6
      refine mG_aload_n (pc := 14) C dX6_placeIn_14 rfl ?_
      obtain ⟨r10, e11, e6⟩ := mx_bind e6
      refine mG_getR (pc := 15) C dX6_placeIn_15 fl_X6_16 e11 ?_
      refine mG_iload_n (pc := 18) C dX6_placeIn_18 rfl ?_
      obtain ⟨r12, e13, e6⟩ := mx_bind e6
      refine mG_aaload (pc := 19) C dX6_placeIn_19 e13 ?_
      refine mG_iload_n (pc := 20) C dX6_placeIn_20 rfl ?_
      obtain ⟨v14, e15, e6⟩ := mx_bind e6
      refine mG_iaload (pc := 21) C dX6_placeIn_21 e15 ?_
      refine mG_goto (tgt := 26) (pc := 22) C dX6_placeIn_22 (by decide) ?_
      exact mG_sub (mxLe_n (mxLe_n (mxLe_n mxLe_z))) (J4 _ (Option.some.inj e6))
theorem dX6_isReadIn_0 : decode cX6_isReadIn 0 = .ok (.aload_n 0, 1) := by decide +kernel
theorem dX6_isReadIn_1 : decode cX6_isReadIn 1 = .ok (.iload_n 1, 1) := by decide +kernel
theorem dX6_isReadIn_2 : decode cX6_isReadIn 2 = .ok (.iload_n 2, 1) := by decide +kernel
theorem dX6_isReadIn_3 : decode cX6_isReadIn 3 = .ok (.invokevirtual 101, 3) := by decide +kernel
theorem dX6_isReadIn_6 : decode cX6_isReadIn 6 = .ok (.istore 4, 2) := by decide +kernel
theorem dX6_isReadIn_8 : decode cX6_isReadIn 8 = .ok (.iload 4, 2) := by decide +kernel
theorem dX6_isReadIn_10 : decode cX6_isReadIn 10 = .ok (.iconst (-1), 1) := by decide +kernel
theorem dX6_isReadIn_11 : decode cX6_isReadIn 11 = .ok (.if_icmp .eq 13, 3) := by decide +kernel
theorem dX6_isReadIn_14 : decode cX6_isReadIn 14 = .ok (.iload 4, 2) := by decide +kernel
theorem dX6_isReadIn_16 : decode cX6_isReadIn 16 = .ok (.iload_n 3, 1) := by decide +kernel
theorem dX6_isReadIn_17 : decode cX6_isReadIn 17 = .ok (.if_icmp .ge 7, 3) := by decide +kernel
theorem dX6_isReadIn_20 : decode cX6_isReadIn 20 = .ok (.iconst 1, 1) := by decide +kernel
theorem dX6_isReadIn_21 : decode cX6_isReadIn 21 = .ok (.goto 4, 3) := by decide +kernel
theorem dX6_isReadIn_24 : decode cX6_isReadIn 24 = .ok (.iconst 0, 1) := by decide +kernel
theorem dX6_isReadIn_25 : decode cX6_isReadIn 25 = .ok (.ireturn, 1) := by decide +kernel
def fX6_isReadIn (p0 : Nat) (p1 : Int32) (p2 : Int32) (p3 : Int32) (h : mxH) : Option Int32 := Option.bind (isO h p0 6) (fun u1 => Option.bind (fX6_placeIn p0 p1 p2 h) (fun v4 => Option.bind (α := Int32) (if v4 = (-1) then some 0 else (if p3 ≤ v4 then some 0 else some 1)) (fun p7' : Int32 => Option.bind (mxZ1 p7') (fun v10 => some v10))))
abbrev rmX6_isReadIn : Room := { frames := 2, cells := 0, slots := 0, locals := 42 }
set_option maxRecDepth 20000 in
theorem tX6_isReadIn {l : Launch} {Z : mxZ} (hl : l.stackTraces = false) {p0 : Nat} {p1 : Int32} {p2 : Int32} {p3 : Int32} {h : mxH} {out : Int32} (hf : fX6_isReadIn p0 p1 p2 p3 h = some out) : mxMet l Z yX6_isReadIn cX6_isReadIn 5 (some .boolean) rmX6_isReadIn [.ref p0, .int p1, .int p2, .int p3] h (.inl (some (.int out))) h := by
  refine mxMet_of (by decide) hl (by simp [Value.category]) (Nat.le_of_ble_eq_true rfl) ?_
  intro X C E hX hin
  unfold fX6_isReadIn at hf
  refine mG_aload_n (pc := 0) C dX6_isReadIn_0 rfl ?_
  refine mG_iload_n (pc := 1) C dX6_isReadIn_1 rfl ?_
  refine mG_iload_n (pc := 2) C dX6_isReadIn_2 rfl ?_
  obtain ⟨u1, e2, hf⟩ := mx_bind hf
  obtain ⟨v4, e3, hf⟩ := mx_bind hf
  refine mG_cV (pc := 3) (k' := 0) (n' := 0) 6 [.int p1, .int p2] [] C hX dX6_isReadIn_3 lkV_X6_101 rfl rfl e2 (tX6_placeIn hl e3) rfl rfl rfl rfl ?_
  refine mG_is (ls' := [some (.ref p0), some (.int p1), some (.int p2), some (.int p3), some (.int v4)]) (pc := 6) C dX6_isReadIn_6 rfl rfl rfl ?_
  refine mG_iload (pc := 8) C dX6_isReadIn_8 rfl ?_
  refine mG_ic (pc := 10) C dX6_isReadIn_10 kIm1 ?_
  obtain ⟨p7, e8, hf⟩ := mx_bind hf
  have J6 : ∀ p7' : Int32, p7' = p7 → mG l Z X 5 0 0 25 [none, none, none, none, none] [.int p7'] h := by
    intro p7' q12
    subst q12
    obtain ⟨v10, e11, hf⟩ := mx_bind hf
    cases hf
    exact mG_zr (pc := 25) C e11 E hX dX6_isReadIn_25 rfl
  refine mG_icmp_eq (pc := 11) (tgt := 24) C dX6_isReadIn_11 (by decide) (fun q5 => ?_) (fun q5 => ?_)
  · rw [if_pos q5] at e8
    refine mG_ic (pc := 24) C dX6_isReadIn_24 kI0 ?_
    exact mG_sub (mxLe_n (mxLe_n (mxLe_n (mxLe_n (mxLe_n mxLe_z))))) (J6 _ (Option.some.inj e8))
  · rw [if_neg q5] at e8
    refine mG_iload (pc := 14) C dX6_isReadIn_14 rfl ?_
    refine mG_iload_n (pc := 16) C dX6_isReadIn_16 rfl ?_
    refine mG_icmp_ge (pc := 17) (tgt := 24) C dX6_isReadIn_17 (by decide) (fun q9 => ?_) (fun q9 => ?_)
    · rw [if_pos q9] at e8
      refine mG_ic (pc := 24) C dX6_isReadIn_24 kI0 ?_
      exact mG_sub (mxLe_n (mxLe_n (mxLe_n (mxLe_n (mxLe_n mxLe_z))))) (J6 _ (Option.some.inj e8))
    · rw [if_neg q9] at e8
      refine mG_ic (pc := 20) C dX6_isReadIn_20 kI1 ?_
      refine mG_goto (tgt := 25) (pc := 21) C dX6_isReadIn_21 (by decide) ?_
      exact mG_sub (mxLe_n (mxLe_n (mxLe_n (mxLe_n (mxLe_n mxLe_z))))) (J6 _ (Option.some.inj e8))
theorem dX6_lowerOf_0 : decode cX6_lowerOf 0 = .ok (.iconst 0, 1) := by decide +kernel
theorem dX6_lowerOf_1 : decode cX6_lowerOf 1 = .ok (.istore_n 3, 1) := by decide +kernel
theorem dX6_lowerOf_2 : decode cX6_lowerOf 2 = .ok (.iload_n 3, 1) := by decide +kernel
theorem dX6_lowerOf_3 : decode cX6_lowerOf 3 = .ok (.iconst 5, 1) := by decide +kernel
theorem dX6_lowerOf_4 : decode cX6_lowerOf 4 = .ok (.if_icmp .ge 35, 3) := by decide +kernel
theorem dX6_lowerOf_7 : decode cX6_lowerOf 7 = .ok (.aload_n 0, 1) := by decide +kernel
theorem dX6_lowerOf_8 : decode cX6_lowerOf 8 = .ok (.getfield 36, 3) := by decide +kernel
theorem dX6_lowerOf_11 : decode cX6_lowerOf 11 = .ok (.iload_n 3, 1) := by decide +kernel
theorem dX6_lowerOf_12 : decode cX6_lowerOf 12 = .ok (.aload_n 0, 1) := by decide +kernel
theorem dX6_lowerOf_13 : decode cX6_lowerOf 13 = .ok (.iload_n 3, 1) := by decide +kernel
theorem dX6_lowerOf_14 : decode cX6_lowerOf 14 = .ok (.iload_n 1, 1) := by decide +kernel
theorem dX6_lowerOf_15 : decode cX6_lowerOf 15 = .ok (.iload_n 2, 1) := by decide +kernel
theorem dX6_lowerOf_16 : decode cX6_lowerOf 16 = .ok (.invokevirtual 91, 3) := by decide +kernel
theorem dX6_lowerOf_19 : decode cX6_lowerOf 19 = .ok (.ifCond .eq 12, 3) := by decide +kernel
theorem dX6_lowerOf_22 : decode cX6_lowerOf 22 = .ok (.aload_n 0, 1) := by decide +kernel
theorem dX6_lowerOf_23 : decode cX6_lowerOf 23 = .ok (.iload_n 3, 1) := by decide +kernel
theorem dX6_lowerOf_24 : decode cX6_lowerOf 24 = .ok (.iload_n 1, 1) := by decide +kernel
theorem dX6_lowerOf_25 : decode cX6_lowerOf 25 = .ok (.invokevirtual 81, 3) := by decide +kernel
theorem dX6_lowerOf_28 : decode cX6_lowerOf 28 = .ok (.goto 4, 3) := by decide +kernel
theorem dX6_lowerOf_31 : decode cX6_lowerOf 31 = .ok (.iconst 0, 1) := by decide +kernel
theorem dX6_lowerOf_32 : decode cX6_lowerOf 32 = .ok (.iastore, 1) := by decide +kernel
theorem dX6_lowerOf_33 : decode cX6_lowerOf 33 = .ok (.iinc 3 1, 3) := by decide +kernel
theorem dX6_lowerOf_36 : decode cX6_lowerOf 36 = .ok (.goto (-34), 3) := by decide +kernel
theorem dX6_lowerOf_39 : decode cX6_lowerOf 39 = .ok (.aload_n 0, 1) := by decide +kernel
theorem dX6_lowerOf_40 : decode cX6_lowerOf 40 = .ok (.invokevirtual 84, 3) := by decide +kernel
theorem dX6_lowerOf_43 : decode cX6_lowerOf 43 = .ok (.ireturn, 1) := by decide +kernel
def fX6_lowerOf (p0 : Nat) (p1 : Int32) (p2 : Int32) (h : mxH) : Option (Int32 × mxH) := Option.bind (mxLoop (ρ := mxH) (fun s1 : (Int32 × mxH) => (if 5 ≤ s1.1 then some (Sum.inr s1.2) else Option.bind (gR s1.2 p0 6 7) (fun r10 => Option.bind (isO s1.2 p0 6) (fun u12 => Option.bind (fX6_isReadIn p0 s1.1 p1 p2 s1.2) (fun v15 => Option.bind (α := Int32) (if v15 = 0 then some 0 else Option.bind (isO s1.2 p0 6) (fun u20 => Option.bind (fX6_weightedMark p0 s1.1 p1 s1.2) (fun v23 => some v23))) (fun p18' : Int32 => Option.bind (stI s1.2 r10 s1.1 p18') (fun h24 => some (Sum.inl (s1.1 + 1, h24))))))))) mxF (0, h)) (fun r27 : mxH => Option.bind (isO r27 p0 6) (fun u28 => Option.bind (fX6_applyRule p0 r27) (fun v31 => some (v31, r27))))
abbrev rmX6_lowerOf : Room := { frames := 3, cells := 0, slots := 0, locals := 66 }
set_option maxRecDepth 20000 in
theorem tX6_lowerOf {l : Launch} {Z : mxZ} (hl : l.stackTraces = false) {p0 : Nat} {p1 : Int32} {p2 : Int32} {h : mxH} {out : (Int32 × mxH)} (hf : fX6_lowerOf p0 p1 p2 h = some out) : mxMet l Z yX6_lowerOf cX6_lowerOf 4 (some .int) rmX6_lowerOf [.ref p0, .int p1, .int p2] h (.inl (some (.int out.1))) out.2 := by
  refine mxMet_of (by decide) hl (by simp [Value.category]) (Nat.le_of_ble_eq_true rfl) ?_
  intro X C E hX hin
  unfold fX6_lowerOf at hf
  refine mG_ic (pc := 0) C dX6_lowerOf_0 kI0 ?_
  refine mG_isn (ls' := [some (.ref p0), some (.int p1), some (.int p2), some (.int 0)]) (pc := 1) C dX6_lowerOf_1 rfl rfl rfl ?_
  obtain ⟨r2, e3, hf⟩ := mx_bind hf
  have J4 : ∀ r27 : mxH, r27 = r2 → mG l Z X 4 0 0 39 [some (.ref p0), none, none, none] [] r27 := by
    intro r27 q32
    subst q32
    refine mG_aload_n (pc := 39) C dX6_lowerOf_39 rfl ?_
    obtain ⟨u28, e29, hf⟩ := mx_bind hf
    obtain ⟨v31, e30, hf⟩ := mx_bind hf
    refine mG_cV (pc := 40) (k' := 0) (n' := 0) 6 [] [] C hX dX6_lowerOf_40 lkV_X6_84 rfl rfl e29 (tX6_applyRule hl e30) rfl rfl rfl rfl ?_
    cases hf
    exact mG_ir (pc := 43) C E hX dX6_lowerOf_43 rfl
  refine mG_sub (ls' := [some (.ref p0), some (.int p1), some (.int p2), some (.int 0)]) (mxLe_s (mxLe_s (mxLe_s (mxLe_s mxLe_z)))) (mxLoop_ind (K := fun s1 : (Int32 × mxH) => mG l Z X 4 0 0 2 [some (.ref p0), some (.int p1), some (.int p2), some (.int s1.1)] [] s1.2) ?_ _ _ e3)
  intro s1 o7 e8 hK5 hx6
  refine mG_iload_n (pc := 2) C dX6_lowerOf_2 rfl ?_
  refine mG_ic (pc := 3) C dX6_lowerOf_3 kI5 ?_
  refine mG_icmp_ge (pc := 4) (tgt := 39) C dX6_lowerOf_4 (by decide) (fun q9 => ?_) (fun q9 => ?_)
  · rw [if_pos q9] at e8
    exact mG_sub (mxLe_s (mxLe_n (mxLe_n (mxLe_n mxLe_z)))) (J4 _ (hx6 _ (Option.some.inj e8).symm))
  · rw [if_neg q9] at e8
    refine mG_aload_n (pc := 7) C dX6_lowerOf_7 rfl ?_
    obtain ⟨r10, e11, e8⟩ := mx_bind e8
    refine mG_getR (pc := 8) C dX6_lowerOf_8 fl_X6_36 e11 ?_
    refine mG_iload_n (pc := 11) C dX6_lowerOf_11 rfl ?_
    refine mG_aload_n (pc := 12) C dX6_lowerOf_12 rfl ?_
    refine mG_iload_n (pc := 13) C dX6_lowerOf_13 rfl ?_
    refine mG_iload_n (pc := 14) C dX6_lowerOf_14 rfl ?_
    refine mG_iload_n (pc := 15) C dX6_lowerOf_15 rfl ?_
    obtain ⟨u12, e13, e8⟩ := mx_bind e8
    obtain ⟨v15, e14, e8⟩ := mx_bind e8
    refine mG_cV (pc := 16) (k' := 0) (n' := 0) 6 [.int s1.1, .int p1, .int p2] [.int s1.1, .ref r10] C hX dX6_lowerOf_16 lkV_X6_91 rfl rfl e13 (tX6_isReadIn hl e14) rfl rfl rfl rfl ?_
    obtain ⟨p18, e19, e8⟩ := mx_bind e8
    have J17 : ∀ p18' : Int32, p18' = p18 → mG l Z X 4 0 0 32 [some (.ref p0), some (.int p1), some (.int p2), some (.int s1.1)] [.int p18', .int s1.1, .ref r10] s1.2 := by
      intro p18' q26
      subst q26
      obtain ⟨h24, e25, e8⟩ := mx_bind e8
      refine mG_iastore (pc := 32) C dX6_lowerOf_32 e25 ?_
      refine mG_ii (ls' := [some (.ref p0), some (.int p1), some (.int p2), some (.int (s1.1 + 1))]) (pc := 33) C dX6_lowerOf_33 rfl (kinc1 _) rfl rfl rfl ?_
      refine mG_goto (tgt := 2) (pc := 36) C dX6_lowerOf_36 (by decide) ?_
      exact mG_sub (mxLe_s (mxLe_s (mxLe_s (mxLe_s mxLe_z)))) (hK5 _ (Option.some.inj e8).symm)
    refine mG_if_eq (pc := 19) (tgt := 31) C dX6_lowerOf_19 (by decide) (fun q16 => ?_) (fun q16 => ?_)
    · rw [if_pos q16] at e19
      refine mG_ic (pc := 31) C dX6_lowerOf_31 kI0 ?_
      exact mG_sub (mxLe_s (mxLe_s (mxLe_s (mxLe_s mxLe_z)))) (J17 _ (Option.some.inj e19))
    · rw [if_neg q16] at e19
      refine mG_aload_n (pc := 22) C dX6_lowerOf_22 rfl ?_
      refine mG_iload_n (pc := 23) C dX6_lowerOf_23 rfl ?_
      refine mG_iload_n (pc := 24) C dX6_lowerOf_24 rfl ?_
      obtain ⟨u20, e21, e19⟩ := mx_bind e19
      obtain ⟨v23, e22, e19⟩ := mx_bind e19
      refine mG_cV (pc := 25) (k' := 0) (n' := 0) 6 [.int s1.1, .int p1] [.int s1.1, .ref r10] C hX dX6_lowerOf_25 lkV_X6_81 rfl rfl e21 (tX6_weightedMark hl e22) rfl rfl rfl rfl ?_
      refine mG_goto (tgt := 32) (pc := 28) C dX6_lowerOf_28 (by decide) ?_
      exact mG_sub (mxLe_s (mxLe_s (mxLe_s (mxLe_s mxLe_z)))) (J17 _ (Option.some.inj e19))
theorem dX6_upperOf_0 : decode cX6_upperOf 0 = .ok (.iconst 0, 1) := by decide +kernel
theorem dX6_upperOf_1 : decode cX6_upperOf 1 = .ok (.istore_n 3, 1) := by decide +kernel
theorem dX6_upperOf_2 : decode cX6_upperOf 2 = .ok (.iload_n 3, 1) := by decide +kernel
theorem dX6_upperOf_3 : decode cX6_upperOf 3 = .ok (.iconst 5, 1) := by decide +kernel
theorem dX6_upperOf_4 : decode cX6_upperOf 4 = .ok (.if_icmp .ge 40, 3) := by decide +kernel
theorem dX6_upperOf_7 : decode cX6_upperOf 7 = .ok (.aload_n 0, 1) := by decide +kernel
theorem dX6_upperOf_8 : decode cX6_upperOf 8 = .ok (.getfield 36, 3) := by decide +kernel
theorem dX6_upperOf_11 : decode cX6_upperOf 11 = .ok (.iload_n 3, 1) := by decide +kernel
theorem dX6_upperOf_12 : decode cX6_upperOf 12 = .ok (.aload_n 0, 1) := by decide +kernel
theorem dX6_upperOf_13 : decode cX6_upperOf 13 = .ok (.iload_n 3, 1) := by decide +kernel
theorem dX6_upperOf_14 : decode cX6_upperOf 14 = .ok (.iload_n 1, 1) := by decide +kernel
theorem dX6_upperOf_15 : decode cX6_upperOf 15 = .ok (.iload_n 2, 1) := by decide +kernel
theorem dX6_upperOf_16 : decode cX6_upperOf 16 = .ok (.invokevirtual 91, 3) := by decide +kernel
theorem dX6_upperOf_19 : decode cX6_upperOf 19 = .ok (.ifCond .eq 12, 3) := by decide +kernel
theorem dX6_upperOf_22 : decode cX6_upperOf 22 = .ok (.aload_n 0, 1) := by decide +kernel
theorem dX6_upperOf_23 : decode cX6_upperOf 23 = .ok (.iload_n 3, 1) := by decide +kernel
theorem dX6_upperOf_24 : decode cX6_upperOf 24 = .ok (.iload_n 1, 1) := by decide +kernel
theorem dX6_upperOf_25 : decode cX6_upperOf 25 = .ok (.invokevirtual 81, 3) := by decide +kernel
theorem dX6_upperOf_28 : decode cX6_upperOf 28 = .ok (.goto 9, 3) := by decide +kernel
theorem dX6_upperOf_31 : decode cX6_upperOf 31 = .ok (.aload_n 0, 1) := by decide +kernel
theorem dX6_upperOf_32 : decode cX6_upperOf 32 = .ok (.iload_n 3, 1) := by decide +kernel
theorem dX6_upperOf_33 : decode cX6_upperOf 33 = .ok (.iload_n 2, 1) := by decide +kernel
theorem dX6_upperOf_34 : decode cX6_upperOf 34 = .ok (.invokevirtual 88, 3) := by decide +kernel
theorem dX6_upperOf_37 : decode cX6_upperOf 37 = .ok (.iastore, 1) := by decide +kernel
theorem dX6_upperOf_38 : decode cX6_upperOf 38 = .ok (.iinc 3 1, 3) := by decide +kernel
theorem dX6_upperOf_41 : decode cX6_upperOf 41 = .ok (.goto (-39), 3) := by decide +kernel
theorem dX6_upperOf_44 : decode cX6_upperOf 44 = .ok (.aload_n 0, 1) := by decide +kernel
theorem dX6_upperOf_45 : decode cX6_upperOf 45 = .ok (.invokevirtual 84, 3) := by decide +kernel
theorem dX6_upperOf_48 : decode cX6_upperOf 48 = .ok (.ireturn, 1) := by decide +kernel
def fX6_upperOf (p0 : Nat) (p1 : Int32) (p2 : Int32) (h : mxH) : Option (Int32 × mxH) := Option.bind (mxLoop (ρ := mxH) (fun s1 : (Int32 × mxH) => (if 5 ≤ s1.1 then some (Sum.inr s1.2) else Option.bind (gR s1.2 p0 6 7) (fun r10 => Option.bind (isO s1.2 p0 6) (fun u12 => Option.bind (fX6_isReadIn p0 s1.1 p1 p2 s1.2) (fun v15 => Option.bind (α := Int32) (if v15 = 0 then Option.bind (isO s1.2 p0 6) (fun u20 => Option.bind (fX6_lastMark p0 s1.1 p2 s1.2) (fun v23 => some v23)) else Option.bind (isO s1.2 p0 6) (fun u24 => Option.bind (fX6_weightedMark p0 s1.1 p1 s1.2) (fun v27 => some v27))) (fun p18' : Int32 => Option.bind (stI s1.2 r10 s1.1 p18') (fun h28 => some (Sum.inl (s1.1 + 1, h28))))))))) mxF (0, h)) (fun r31 : mxH => Option.bind (isO r31 p0 6) (fun u32 => Option.bind (fX6_applyRule p0 r31) (fun v35 => some (v35, r31))))
abbrev rmX6_upperOf : Room := { frames := 3, cells := 0, slots := 0, locals := 66 }
set_option maxRecDepth 20000 in
theorem tX6_upperOf {l : Launch} {Z : mxZ} (hl : l.stackTraces = false) {p0 : Nat} {p1 : Int32} {p2 : Int32} {h : mxH} {out : (Int32 × mxH)} (hf : fX6_upperOf p0 p1 p2 h = some out) : mxMet l Z yX6_upperOf cX6_upperOf 4 (some .int) rmX6_upperOf [.ref p0, .int p1, .int p2] h (.inl (some (.int out.1))) out.2 := by
  refine mxMet_of (by decide) hl (by simp [Value.category]) (Nat.le_of_ble_eq_true rfl) ?_
  intro X C E hX hin
  unfold fX6_upperOf at hf
  refine mG_ic (pc := 0) C dX6_upperOf_0 kI0 ?_
  refine mG_isn (ls' := [some (.ref p0), some (.int p1), some (.int p2), some (.int 0)]) (pc := 1) C dX6_upperOf_1 rfl rfl rfl ?_
  obtain ⟨r2, e3, hf⟩ := mx_bind hf
  have J4 : ∀ r31 : mxH, r31 = r2 → mG l Z X 4 0 0 44 [some (.ref p0), none, none, none] [] r31 := by
    intro r31 q36
    subst q36
    refine mG_aload_n (pc := 44) C dX6_upperOf_44 rfl ?_
    obtain ⟨u32, e33, hf⟩ := mx_bind hf
    obtain ⟨v35, e34, hf⟩ := mx_bind hf
    refine mG_cV (pc := 45) (k' := 0) (n' := 0) 6 [] [] C hX dX6_upperOf_45 lkV_X6_84 rfl rfl e33 (tX6_applyRule hl e34) rfl rfl rfl rfl ?_
    cases hf
    exact mG_ir (pc := 48) C E hX dX6_upperOf_48 rfl
  refine mG_sub (ls' := [some (.ref p0), some (.int p1), some (.int p2), some (.int 0)]) (mxLe_s (mxLe_s (mxLe_s (mxLe_s mxLe_z)))) (mxLoop_ind (K := fun s1 : (Int32 × mxH) => mG l Z X 4 0 0 2 [some (.ref p0), some (.int p1), some (.int p2), some (.int s1.1)] [] s1.2) ?_ _ _ e3)
  intro s1 o7 e8 hK5 hx6
  refine mG_iload_n (pc := 2) C dX6_upperOf_2 rfl ?_
  refine mG_ic (pc := 3) C dX6_upperOf_3 kI5 ?_
  refine mG_icmp_ge (pc := 4) (tgt := 44) C dX6_upperOf_4 (by decide) (fun q9 => ?_) (fun q9 => ?_)
  · rw [if_pos q9] at e8
    exact mG_sub (mxLe_s (mxLe_n (mxLe_n (mxLe_n mxLe_z)))) (J4 _ (hx6 _ (Option.some.inj e8).symm))
  · rw [if_neg q9] at e8
    refine mG_aload_n (pc := 7) C dX6_upperOf_7 rfl ?_
    obtain ⟨r10, e11, e8⟩ := mx_bind e8
    refine mG_getR (pc := 8) C dX6_upperOf_8 fl_X6_36 e11 ?_
    refine mG_iload_n (pc := 11) C dX6_upperOf_11 rfl ?_
    refine mG_aload_n (pc := 12) C dX6_upperOf_12 rfl ?_
    refine mG_iload_n (pc := 13) C dX6_upperOf_13 rfl ?_
    refine mG_iload_n (pc := 14) C dX6_upperOf_14 rfl ?_
    refine mG_iload_n (pc := 15) C dX6_upperOf_15 rfl ?_
    obtain ⟨u12, e13, e8⟩ := mx_bind e8
    obtain ⟨v15, e14, e8⟩ := mx_bind e8
    refine mG_cV (pc := 16) (k' := 0) (n' := 0) 6 [.int s1.1, .int p1, .int p2] [.int s1.1, .ref r10] C hX dX6_upperOf_16 lkV_X6_91 rfl rfl e13 (tX6_isReadIn hl e14) rfl rfl rfl rfl ?_
    obtain ⟨p18, e19, e8⟩ := mx_bind e8
    have J17 : ∀ p18' : Int32, p18' = p18 → mG l Z X 4 0 0 37 [some (.ref p0), some (.int p1), some (.int p2), some (.int s1.1)] [.int p18', .int s1.1, .ref r10] s1.2 := by
      intro p18' q30
      subst q30
      obtain ⟨h28, e29, e8⟩ := mx_bind e8
      refine mG_iastore (pc := 37) C dX6_upperOf_37 e29 ?_
      refine mG_ii (ls' := [some (.ref p0), some (.int p1), some (.int p2), some (.int (s1.1 + 1))]) (pc := 38) C dX6_upperOf_38 rfl (kinc1 _) rfl rfl rfl ?_
      refine mG_goto (tgt := 2) (pc := 41) C dX6_upperOf_41 (by decide) ?_
      exact mG_sub (mxLe_s (mxLe_s (mxLe_s (mxLe_s mxLe_z)))) (hK5 _ (Option.some.inj e8).symm)
    refine mG_if_eq (pc := 19) (tgt := 31) C dX6_upperOf_19 (by decide) (fun q16 => ?_) (fun q16 => ?_)
    · rw [if_pos q16] at e19
      refine mG_aload_n (pc := 31) C dX6_upperOf_31 rfl ?_
      refine mG_iload_n (pc := 32) C dX6_upperOf_32 rfl ?_
      refine mG_iload_n (pc := 33) C dX6_upperOf_33 rfl ?_
      obtain ⟨u20, e21, e19⟩ := mx_bind e19
      obtain ⟨v23, e22, e19⟩ := mx_bind e19
      refine mG_cV (pc := 34) (k' := 0) (n' := 0) 6 [.int s1.1, .int p2] [.int s1.1, .ref r10] C hX dX6_upperOf_34 lkV_X6_88 rfl rfl e21 (tX6_lastMark hl e22) rfl rfl rfl rfl ?_
      exact mG_sub (mxLe_s (mxLe_s (mxLe_s (mxLe_s mxLe_z)))) (J17 _ (Option.some.inj e19))
    · rw [if_neg q16] at e19
      refine mG_aload_n (pc := 22) C dX6_upperOf_22 rfl ?_
      refine mG_iload_n (pc := 23) C dX6_upperOf_23 rfl ?_
      refine mG_iload_n (pc := 24) C dX6_upperOf_24 rfl ?_
      obtain ⟨u24, e25, e19⟩ := mx_bind e19
      obtain ⟨v27, e26, e19⟩ := mx_bind e19
      refine mG_cV (pc := 25) (k' := 0) (n' := 0) 6 [.int s1.1, .int p1] [.int s1.1, .ref r10] C hX dX6_upperOf_25 lkV_X6_81 rfl rfl e25 (tX6_weightedMark hl e26) rfl rfl rfl rfl ?_
      refine mG_goto (tgt := 37) (pc := 28) C dX6_upperOf_28 (by decide) ?_
      exact mG_sub (mxLe_s (mxLe_s (mxLe_s (mxLe_s mxLe_z)))) (J17 _ (Option.some.inj e19))
theorem dX6_findFirstPlaces_0 : decode cX6_findFirstPlaces 0 = .ok (.iconst 0, 1) := by decide +kernel
theorem dX6_findFirstPlaces_1 : decode cX6_findFirstPlaces 1 = .ok (.istore_n 1, 1) := by decide +kernel
theorem dX6_findFirstPlaces_2 : decode cX6_findFirstPlaces 2 = .ok (.iload_n 1, 1) := by decide +kernel
theorem dX6_findFirstPlaces_3 : decode cX6_findFirstPlaces 3 = .ok (.bipush 20, 2) := by decide +kernel
theorem dX6_findFirstPlaces_5 : decode cX6_findFirstPlaces 5 = .ok (.if_icmp .ge 59, 3) := by decide +kernel
theorem dX6_findFirstPlaces_8 : decode cX6_findFirstPlaces 8 = .ok (.bipush 20, 2) := by decide +kernel
theorem dX6_findFirstPlaces_10 : decode cX6_findFirstPlaces 10 = .ok (.istore_n 2, 1) := by decide +kernel
theorem dX6_findFirstPlaces_11 : decode cX6_findFirstPlaces 11 = .ok (.iconst 0, 1) := by decide +kernel
theorem dX6_findFirstPlaces_12 : decode cX6_findFirstPlaces 12 = .ok (.istore_n 3, 1) := by decide +kernel
theorem dX6_findFirstPlaces_13 : decode cX6_findFirstPlaces 13 = .ok (.iload_n 3, 1) := by decide +kernel
theorem dX6_findFirstPlaces_14 : decode cX6_findFirstPlaces 14 = .ok (.iconst 5, 1) := by decide +kernel
theorem dX6_findFirstPlaces_15 : decode cX6_findFirstPlaces 15 = .ok (.if_icmp .ge 36, 3) := by decide +kernel
theorem dX6_findFirstPlaces_18 : decode cX6_findFirstPlaces 18 = .ok (.aload_n 0, 1) := by decide +kernel
theorem dX6_findFirstPlaces_19 : decode cX6_findFirstPlaces 19 = .ok (.getfield 16, 3) := by decide +kernel
theorem dX6_findFirstPlaces_22 : decode cX6_findFirstPlaces 22 = .ok (.iload_n 3, 1) := by decide +kernel
theorem dX6_findFirstPlaces_23 : decode cX6_findFirstPlaces 23 = .ok (.aaload, 1) := by decide +kernel
theorem dX6_findFirstPlaces_24 : decode cX6_findFirstPlaces 24 = .ok (.iload_n 1, 1) := by decide +kernel
theorem dX6_findFirstPlaces_25 : decode cX6_findFirstPlaces 25 = .ok (.iaload, 1) := by decide +kernel
theorem dX6_findFirstPlaces_26 : decode cX6_findFirstPlaces 26 = .ok (.istore 4, 2) := by decide +kernel
theorem dX6_findFirstPlaces_28 : decode cX6_findFirstPlaces 28 = .ok (.iload 4, 2) := by decide +kernel
theorem dX6_findFirstPlaces_30 : decode cX6_findFirstPlaces 30 = .ok (.iconst (-1), 1) := by decide +kernel
theorem dX6_findFirstPlaces_31 : decode cX6_findFirstPlaces 31 = .ok (.if_icmp .ne 7, 3) := by decide +kernel
theorem dX6_findFirstPlaces_34 : decode cX6_findFirstPlaces 34 = .ok (.iload_n 2, 1) := by decide +kernel
theorem dX6_findFirstPlaces_35 : decode cX6_findFirstPlaces 35 = .ok (.goto 9, 3) := by decide +kernel
theorem dX6_findFirstPlaces_38 : decode cX6_findFirstPlaces 38 = .ok (.iload_n 2, 1) := by decide +kernel
theorem dX6_findFirstPlaces_39 : decode cX6_findFirstPlaces 39 = .ok (.iload 4, 2) := by decide +kernel
theorem dX6_findFirstPlaces_41 : decode cX6_findFirstPlaces 41 = .ok (.invokestatic 69, 3) := by decide +kernel
theorem dX6_findFirstPlaces_44 : decode cX6_findFirstPlaces 44 = .ok (.istore_n 2, 1) := by decide +kernel
theorem dX6_findFirstPlaces_45 : decode cX6_findFirstPlaces 45 = .ok (.iinc 3 1, 3) := by decide +kernel
theorem dX6_findFirstPlaces_48 : decode cX6_findFirstPlaces 48 = .ok (.goto (-35), 3) := by decide +kernel
theorem dX6_findFirstPlaces_51 : decode cX6_findFirstPlaces 51 = .ok (.aload_n 0, 1) := by decide +kernel
theorem dX6_findFirstPlaces_52 : decode cX6_findFirstPlaces 52 = .ok (.getfield 29, 3) := by decide +kernel
theorem dX6_findFirstPlaces_55 : decode cX6_findFirstPlaces 55 = .ok (.iload_n 1, 1) := by decide +kernel
theorem dX6_findFirstPlaces_56 : decode cX6_findFirstPlaces 56 = .ok (.iload_n 2, 1) := by decide +kernel
theorem dX6_findFirstPlaces_57 : decode cX6_findFirstPlaces 57 = .ok (.iastore, 1) := by decide +kernel
theorem dX6_findFirstPlaces_58 : decode cX6_findFirstPlaces 58 = .ok (.iinc 1 1, 3) := by decide +kernel
theorem dX6_findFirstPlaces_61 : decode cX6_findFirstPlaces 61 = .ok (.goto (-59), 3) := by decide +kernel
theorem dX6_findFirstPlaces_64 : decode cX6_findFirstPlaces 64 = .ok (.return_, 1) := by decide +kernel
def fX6_findFirstPlaces (p0 : Nat) (h : mxH) : Option mxH := Option.bind (mxLoop (ρ := mxH) (fun s1 : (Int32 × mxH) => (if 20 ≤ s1.1 then some (Sum.inr s1.2) else Option.bind (mxLoop (ρ := Int32) (fun s10 : (Int32 × Int32) => (if 5 ≤ s10.2 then some (Sum.inr s10.1) else Option.bind (gR s1.2 p0 6 1) (fun r19 => Option.bind (ldR s1.2 r19 s10.2) (fun r21 => Option.bind (ldI s1.2 r21 s1.1) (fun v23 => Option.bind (α := Int32) (if v23 = (-1) then some s10.1 else some (mxMin s10.1 v23)) (fun p27' : Int32 => some (Sum.inl (p27', s10.2 + 1)))))))) mxF (20, 0)) (fun r30 : Int32 => Option.bind (gR s1.2 p0 6 5) (fun r31 => Option.bind (stI s1.2 r31 s1.1 r30) (fun h33 => some (Sum.inl (s1.1 + 1, h33))))))) mxF (0, h)) (fun r36 : mxH => some r36)
abbrev rmX6_findFirstPlaces : Room := { frames := 1, cells := 0, slots := 0, locals := 21 }
set_option maxRecDepth 20000 in
theorem tX6_findFirstPlaces {l : Launch} {Z : mxZ} (hl : l.stackTraces = false) {p0 : Nat} {h : mxH} {out : mxH} (hf : fX6_findFirstPlaces p0 h = some out) : mxMet l Z yX6_findFirstPlaces cX6_findFirstPlaces 5 (none) rmX6_findFirstPlaces [.ref p0] h (.inl none) out := by
  refine mxMet_of (by decide) hl (by simp [Value.category]) (Nat.le_of_ble_eq_true rfl) ?_
  intro X C E hX hin
  unfold fX6_findFirstPlaces at hf
  refine mG_ic (pc := 0) C dX6_findFirstPlaces_0 kI0 ?_
  refine mG_isn (ls' := [some (.ref p0), some (.int 0), none, none, none]) (pc := 1) C dX6_findFirstPlaces_1 rfl rfl rfl ?_
  obtain ⟨r2, e3, hf⟩ := mx_bind hf
  have J4 : ∀ r36 : mxH, r36 = r2 → mG l Z X 5 0 0 64 [none, none, none, none, none] [] r36 := by
    intro r36 q37
    subst q37
    cases hf
    exact mG_vr (pc := 64) C E hX dX6_findFirstPlaces_64 rfl
  refine mG_sub (ls' := [some (.ref p0), some (.int 0), none, none, none]) (mxLe_s (mxLe_s (mxLe_n (mxLe_n (mxLe_n mxLe_z))))) (mxLoop_ind (K := fun s1 : (Int32 × mxH) => mG l Z X 5 0 0 2 [some (.ref p0), some (.int s1.1), none, none, none] [] s1.2) ?_ _ _ e3)
  intro s1 o7 e8 hK5 hx6
  refine mG_iload_n (pc := 2) C dX6_findFirstPlaces_2 rfl ?_
  refine mG_bp (pc := 3) C dX6_findFirstPlaces_3 kB20 ?_
  refine mG_icmp_ge (pc := 5) (tgt := 64) C dX6_findFirstPlaces_5 (by decide) (fun q9 => ?_) (fun q9 => ?_)
  · rw [if_pos q9] at e8
    exact mG_sub (mxLe_n (mxLe_n (mxLe_n (mxLe_n (mxLe_n mxLe_z))))) (J4 _ (hx6 _ (Option.some.inj e8).symm))
  · rw [if_neg q9] at e8
    refine mG_bp (pc := 8) C dX6_findFirstPlaces_8 kB20 ?_
    refine mG_isn (ls' := [some (.ref p0), some (.int s1.1), some (.int 20), none, none]) (pc := 10) C dX6_findFirstPlaces_10 rfl rfl rfl ?_
    refine mG_ic (pc := 11) C dX6_findFirstPlaces_11 kI0 ?_
    refine mG_isn (ls' := [some (.ref p0), some (.int s1.1), some (.int 20), some (.int 0), none]) (pc := 12) C dX6_findFirstPlaces_12 rfl rfl rfl ?_
    obtain ⟨r11, e12, e8⟩ := mx_bind e8
    have J13 : ∀ r30 : Int32, r30 = r11 → mG l Z X 5 0 0 51 [some (.ref p0), some (.int s1.1), some (.int r30), none, none] [] s1.2 := by
      intro r30 q35
      subst q35
      refine mG_aload_n (pc := 51) C dX6_findFirstPlaces_51 rfl ?_
      obtain ⟨r31, e32, e8⟩ := mx_bind e8
      refine mG_getR (pc := 52) C dX6_findFirstPlaces_52 fl_X6_29 e32 ?_
      refine mG_iload_n (pc := 55) C dX6_findFirstPlaces_55 rfl ?_
      refine mG_iload_n (pc := 56) C dX6_findFirstPlaces_56 rfl ?_
      obtain ⟨h33, e34, e8⟩ := mx_bind e8
      refine mG_iastore (pc := 57) C dX6_findFirstPlaces_57 e34 ?_
      refine mG_ii (ls' := [some (.ref p0), some (.int (s1.1 + 1)), some (.int r30), none, none]) (pc := 58) C dX6_findFirstPlaces_58 rfl (kinc1 _) rfl rfl rfl ?_
      refine mG_goto (tgt := 2) (pc := 61) C dX6_findFirstPlaces_61 (by decide) ?_
      exact mG_sub (mxLe_s (mxLe_s (mxLe_n (mxLe_n (mxLe_n mxLe_z))))) (hK5 _ (Option.some.inj e8).symm)
    refine mG_sub (ls' := [some (.ref p0), some (.int s1.1), some (.int 20), some (.int 0), none]) (mxLe_s (mxLe_s (mxLe_s (mxLe_s (mxLe_n mxLe_z))))) (mxLoop_ind (K := fun s10 : (Int32 × Int32) => mG l Z X 5 0 0 13 [some (.ref p0), some (.int s1.1), some (.int s10.1), some (.int s10.2), none] [] s1.2) ?_ _ _ e12)
    intro s10 o16 e17 hK14 hx15
    refine mG_iload_n (pc := 13) C dX6_findFirstPlaces_13 rfl ?_
    refine mG_ic (pc := 14) C dX6_findFirstPlaces_14 kI5 ?_
    refine mG_icmp_ge (pc := 15) (tgt := 51) C dX6_findFirstPlaces_15 (by decide) (fun q18 => ?_) (fun q18 => ?_)
    · rw [if_pos q18] at e17
      exact mG_sub (mxLe_s (mxLe_s (mxLe_s (mxLe_n (mxLe_n mxLe_z))))) (J13 _ (hx15 _ (Option.some.inj e17).symm))
    · rw [if_neg q18] at e17
      refine mG_aload_n (pc := 18) C dX6_findFirstPlaces_18 rfl ?_
      obtain ⟨r19, e20, e17⟩ := mx_bind e17
      refine mG_getR (pc := 19) C dX6_findFirstPlaces_19 fl_X6_16 e20 ?_
      refine mG_iload_n (pc := 22) C dX6_findFirstPlaces_22 rfl ?_
      obtain ⟨r21, e22, e17⟩ := mx_bind e17
      refine mG_aaload (pc := 23) C dX6_findFirstPlaces_23 e22 ?_
      refine mG_iload_n (pc := 24) C dX6_findFirstPlaces_24 rfl ?_
      obtain ⟨v23, e24, e17⟩ := mx_bind e17
      refine mG_iaload (pc := 25) C dX6_findFirstPlaces_25 e24 ?_
      refine mG_is (ls' := [some (.ref p0), some (.int s1.1), some (.int s10.1), some (.int s10.2), some (.int v23)]) (pc := 26) C dX6_findFirstPlaces_26 rfl rfl rfl ?_
      refine mG_iload (pc := 28) C dX6_findFirstPlaces_28 rfl ?_
      refine mG_ic (pc := 30) C dX6_findFirstPlaces_30 kIm1 ?_
      obtain ⟨p27, e28, e17⟩ := mx_bind e17
      have J26 : ∀ p27' : Int32, p27' = p27 → mG l Z X 5 0 0 44 [some (.ref p0), some (.int s1.1), none, some (.int s10.2), none] [.int p27'] s1.2 := by
        intro p27' q29
        subst q29
        refine mG_isn (ls' := [some (.ref p0), some (.int s1.1), some (.int p27'), some (.int s10.2), none]) (pc := 44) C dX6_findFirstPlaces_44 rfl rfl rfl ?_
        refine mG_ii (ls' := [some (.ref p0), some (.int s1.1), some (.int p27'), some (.int (s10.2 + 1)), none]) (pc := 45) C dX6_findFirstPlaces_45 rfl (kinc1 _) rfl rfl rfl ?_
        refine mG_goto (tgt := 13) (pc := 48) C dX6_findFirstPlaces_48 (by decide) ?_
        exact mG_sub (mxLe_s (mxLe_s (mxLe_s (mxLe_s (mxLe_n mxLe_z))))) (hK14 _ (Option.some.inj e17).symm)
      refine mG_icmp_ne (pc := 31) (tgt := 38) C dX6_findFirstPlaces_31 (by decide) (fun q25 => ?_) (fun q25 => ?_)
      · rw [if_neg q25] at e28
        refine mG_iload_n (pc := 38) C dX6_findFirstPlaces_38 rfl ?_
        refine mG_iload (pc := 39) C dX6_findFirstPlaces_39 rfl ?_
        refine mG_mn (pc := 41) C hX dX6_findFirstPlaces_41 w468 wmin rfl rfl ?_
        exact mG_sub (mxLe_s (mxLe_s (mxLe_n (mxLe_s (mxLe_n mxLe_z))))) (J26 _ (Option.some.inj e28))
      · rw [if_pos q25] at e28
        refine mG_iload_n (pc := 34) C dX6_findFirstPlaces_34 rfl ?_
        refine mG_goto (tgt := 44) (pc := 35) C dX6_findFirstPlaces_35 (by decide) ?_
        exact mG_sub (mxLe_s (mxLe_s (mxLe_n (mxLe_s (mxLe_n mxLe_z))))) (J26 _ (Option.some.inj e28))
theorem dX6_countAhead_0 : decode cX6_countAhead 0 = .ok (.iload_n 1, 1) := by decide +kernel
theorem dX6_countAhead_1 : decode cX6_countAhead 1 = .ok (.invokestatic 49, 3) := by decide +kernel
theorem dX6_countAhead_4 : decode cX6_countAhead 4 = .ok (.ifCond .eq 9, 3) := by decide +kernel
theorem dX6_countAhead_7 : decode cX6_countAhead 7 = .ok (.aload_n 0, 1) := by decide +kernel
theorem dX6_countAhead_8 : decode cX6_countAhead 8 = .ok (.iload_n 1, 1) := by decide +kernel
theorem dX6_countAhead_9 : decode cX6_countAhead 9 = .ok (.iaload, 1) := by decide +kernel
theorem dX6_countAhead_10 : decode cX6_countAhead 10 = .ok (.goto 4, 3) := by decide +kernel
theorem dX6_countAhead_13 : decode cX6_countAhead 13 = .ok (.iconst (-1), 1) := by decide +kernel
theorem dX6_countAhead_14 : decode cX6_countAhead 14 = .ok (.istore_n 2, 1) := by decide +kernel
theorem dX6_countAhead_15 : decode cX6_countAhead 15 = .ok (.iconst 0, 1) := by decide +kernel
theorem dX6_countAhead_16 : decode cX6_countAhead 16 = .ok (.istore_n 3, 1) := by decide +kernel
theorem dX6_countAhead_17 : decode cX6_countAhead 17 = .ok (.iconst 0, 1) := by decide +kernel
theorem dX6_countAhead_18 : decode cX6_countAhead 18 = .ok (.istore 4, 2) := by decide +kernel
theorem dX6_countAhead_20 : decode cX6_countAhead 20 = .ok (.iload 4, 2) := by decide +kernel
theorem dX6_countAhead_22 : decode cX6_countAhead 22 = .ok (.bipush 20, 2) := by decide +kernel
theorem dX6_countAhead_24 : decode cX6_countAhead 24 = .ok (.if_icmp .ge 34, 3) := by decide +kernel
theorem dX6_countAhead_27 : decode cX6_countAhead 27 = .ok (.aload_n 0, 1) := by decide +kernel
theorem dX6_countAhead_28 : decode cX6_countAhead 28 = .ok (.iload 4, 2) := by decide +kernel
theorem dX6_countAhead_30 : decode cX6_countAhead 30 = .ok (.iaload, 1) := by decide +kernel
theorem dX6_countAhead_31 : decode cX6_countAhead 31 = .ok (.iload_n 2, 1) := by decide +kernel
theorem dX6_countAhead_32 : decode cX6_countAhead 32 = .ok (.if_icmp .gt 17, 3) := by decide +kernel
theorem dX6_countAhead_35 : decode cX6_countAhead 35 = .ok (.aload_n 0, 1) := by decide +kernel
theorem dX6_countAhead_36 : decode cX6_countAhead 36 = .ok (.iload 4, 2) := by decide +kernel
theorem dX6_countAhead_38 : decode cX6_countAhead 38 = .ok (.iaload, 1) := by decide +kernel
theorem dX6_countAhead_39 : decode cX6_countAhead 39 = .ok (.iload_n 2, 1) := by decide +kernel
theorem dX6_countAhead_40 : decode cX6_countAhead 40 = .ok (.if_icmp .ne 12, 3) := by decide +kernel
theorem dX6_countAhead_43 : decode cX6_countAhead 43 = .ok (.iload 4, 2) := by decide +kernel
theorem dX6_countAhead_45 : decode cX6_countAhead 45 = .ok (.iload_n 1, 1) := by decide +kernel
theorem dX6_countAhead_46 : decode cX6_countAhead 46 = .ok (.if_icmp .ge 6, 3) := by decide +kernel
theorem dX6_countAhead_49 : decode cX6_countAhead 49 = .ok (.iinc 3 1, 3) := by decide +kernel
theorem dX6_countAhead_52 : decode cX6_countAhead 52 = .ok (.iinc 4 1, 3) := by decide +kernel
theorem dX6_countAhead_55 : decode cX6_countAhead 55 = .ok (.goto (-35), 3) := by decide +kernel
theorem dX6_countAhead_58 : decode cX6_countAhead 58 = .ok (.iload_n 3, 1) := by decide +kernel
theorem dX6_countAhead_59 : decode cX6_countAhead 59 = .ok (.ireturn, 1) := by decide +kernel
def fX6_countAhead (p0 : Nat) (p1 : Int32) (h : mxH) : Option Int32 := Option.bind (fX9_isThing p1 h) (fun v2 => Option.bind (α := Int32) (if v2 = 0 then some (-1) else Option.bind (ldI h p0 p1) (fun v7 => some v7)) (fun p5' : Int32 => Option.bind (mxLoop (ρ := Int32) (fun s9 : (Int32 × Int32) => (if 20 ≤ s9.2 then some (Sum.inr s9.1) else Option.bind (ldI h p0 s9.2) (fun v18 => Option.bind (α := Int32) (if p5' < v18 then some (s9.1 + 1) else Option.bind (ldI h p0 s9.2) (fun v24 => (if v24 = p5' then (if p1 ≤ s9.2 then some s9.1 else some (s9.1 + 1)) else some s9.1))) (fun p22' : Int32 => some (Sum.inl (p22', s9.2 + 1)))))) mxF (0, 0)) (fun r29 : Int32 => some r29)))
abbrev rmX6_countAhead : Room := { frames := 1, cells := 0, slots := 0, locals := 20 }
set_option maxRecDepth 20000 in
theorem tX6_countAhead {l : Launch} {Z : mxZ} (hl : l.stackTraces = false) {p0 : Nat} {p1 : Int32} {h : mxH} {out : Int32} (hf : fX6_countAhead p0 p1 h = some out) : mxMet l Z yX6_countAhead cX6_countAhead 5 (some .int) rmX6_countAhead [.ref p0, .int p1] h (.inl (some (.int out))) h := by
  refine mxMet_of (by decide) hl (by simp [Value.category]) (Nat.le_of_ble_eq_true rfl) ?_
  intro X C E hX hin
  unfold fX6_countAhead at hf
  refine mG_iload_n (pc := 0) C dX6_countAhead_0 rfl ?_
  obtain ⟨v2, e1, hf⟩ := mx_bind hf
  refine mG_cS (pc := 1) (k' := 0) (n' := 0) [.int p1] [] C hX dX6_countAhead_1 lkS_X6_49 rfl (tX9_isThing hl e1) rfl rfl rfl rfl ?_
  obtain ⟨p5, e6, hf⟩ := mx_bind hf
  have J4 : ∀ p5' : Int32, p5' = p5 → mG l Z X 5 0 0 14 [some (.ref p0), some (.int p1), none, none, none] [.int p5'] h := by
    intro p5' q31
    subst q31
    refine mG_isn (ls' := [some (.ref p0), some (.int p1), some (.int p5'), none, none]) (pc := 14) C dX6_countAhead_14 rfl rfl rfl ?_
    refine mG_ic (pc := 15) C dX6_countAhead_15 kI0 ?_
    refine mG_isn (ls' := [some (.ref p0), some (.int p1), some (.int p5'), some (.int 0), none]) (pc := 16) C dX6_countAhead_16 rfl rfl rfl ?_
    refine mG_ic (pc := 17) C dX6_countAhead_17 kI0 ?_
    refine mG_is (ls' := [some (.ref p0), some (.int p1), some (.int p5'), some (.int 0), some (.int 0)]) (pc := 18) C dX6_countAhead_18 rfl rfl rfl ?_
    obtain ⟨r10, e11, hf⟩ := mx_bind hf
    have J12 : ∀ r29 : Int32, r29 = r10 → mG l Z X 5 0 0 58 [none, none, none, some (.int r29), none] [] h := by
      intro r29 q30
      subst q30
      refine mG_iload_n (pc := 58) C dX6_countAhead_58 rfl ?_
      cases hf
      exact mG_ir (pc := 59) C E hX dX6_countAhead_59 rfl
    refine mG_sub (ls' := [some (.ref p0), some (.int p1), some (.int p5'), some (.int 0), some (.int 0)]) (mxLe_s (mxLe_s (mxLe_s (mxLe_s (mxLe_s mxLe_z))))) (mxLoop_ind (K := fun s9 : (Int32 × Int32) => mG l Z X 5 0 0 20 [some (.ref p0), some (.int p1), some (.int p5'), some (.int s9.1), some (.int s9.2)] [] h) ?_ _ _ e11)
    intro s9 o15 e16 hK13 hx14
    refine mG_iload (pc := 20) C dX6_countAhead_20 rfl ?_
    refine mG_bp (pc := 22) C dX6_countAhead_22 kB20 ?_
    refine mG_icmp_ge (pc := 24) (tgt := 58) C dX6_countAhead_24 (by decide) (fun q17 => ?_) (fun q17 => ?_)
    · rw [if_pos q17] at e16
      exact mG_sub (mxLe_n (mxLe_n (mxLe_n (mxLe_s (mxLe_n mxLe_z))))) (J12 _ (hx14 _ (Option.some.inj e16).symm))
    · rw [if_neg q17] at e16
      refine mG_aload_n (pc := 27) C dX6_countAhead_27 rfl ?_
      refine mG_iload (pc := 28) C dX6_countAhead_28 rfl ?_
      obtain ⟨v18, e19, e16⟩ := mx_bind e16
      refine mG_iaload (pc := 30) C dX6_countAhead_30 e19 ?_
      refine mG_iload_n (pc := 31) C dX6_countAhead_31 rfl ?_
      obtain ⟨p22, e23, e16⟩ := mx_bind e16
      have J21 : ∀ p22' : Int32, p22' = p22 → mG l Z X 5 0 0 52 [some (.ref p0), some (.int p1), some (.int p5'), some (.int p22'), some (.int s9.2)] [] h := by
        intro p22' q28
        subst q28
        refine mG_ii (ls' := [some (.ref p0), some (.int p1), some (.int p5'), some (.int p22'), some (.int (s9.2 + 1))]) (pc := 52) C dX6_countAhead_52 rfl (kinc1 _) rfl rfl rfl ?_
        refine mG_goto (tgt := 20) (pc := 55) C dX6_countAhead_55 (by decide) ?_
        exact mG_sub (mxLe_s (mxLe_s (mxLe_s (mxLe_s (mxLe_s mxLe_z))))) (hK13 _ (Option.some.inj e16).symm)
      refine mG_icmp_gt (pc := 32) (tgt := 49) C dX6_countAhead_32 (by decide) (fun q20 => ?_) (fun q20 => ?_)
      · rw [if_pos q20] at e23
        refine mG_ii (ls' := [some (.ref p0), some (.int p1), some (.int p5'), some (.int (s9.1 + 1)), some (.int s9.2)]) (pc := 49) C dX6_countAhead_49 rfl (kinc1 _) rfl rfl rfl ?_
        exact mG_sub (mxLe_s (mxLe_s (mxLe_s (mxLe_s (mxLe_s mxLe_z))))) (J21 _ (Option.some.inj e23))
      · rw [if_neg q20] at e23
        refine mG_aload_n (pc := 35) C dX6_countAhead_35 rfl ?_
        refine mG_iload (pc := 36) C dX6_countAhead_36 rfl ?_
        obtain ⟨v24, e25, e23⟩ := mx_bind e23
        refine mG_iaload (pc := 38) C dX6_countAhead_38 e25 ?_
        refine mG_iload_n (pc := 39) C dX6_countAhead_39 rfl ?_
        refine mG_icmp_ne (pc := 40) (tgt := 52) C dX6_countAhead_40 (by decide) (fun q26 => ?_) (fun q26 => ?_)
        · rw [if_neg q26] at e23
          exact mG_sub (mxLe_s (mxLe_s (mxLe_s (mxLe_s (mxLe_s mxLe_z))))) (J21 _ (Option.some.inj e23))
        · rw [if_pos q26] at e23
          refine mG_iload (pc := 43) C dX6_countAhead_43 rfl ?_
          refine mG_iload_n (pc := 45) C dX6_countAhead_45 rfl ?_
          refine mG_icmp_ge (pc := 46) (tgt := 52) C dX6_countAhead_46 (by decide) (fun q27 => ?_) (fun q27 => ?_)
          · rw [if_pos q27] at e23
            exact mG_sub (mxLe_s (mxLe_s (mxLe_s (mxLe_s (mxLe_s mxLe_z))))) (J21 _ (Option.some.inj e23))
          · rw [if_neg q27] at e23
            refine mG_ii (ls' := [some (.ref p0), some (.int p1), some (.int p5'), some (.int (s9.1 + 1)), some (.int s9.2)]) (pc := 49) C dX6_countAhead_49 rfl (kinc1 _) rfl rfl rfl ?_
            exact mG_sub (mxLe_s (mxLe_s (mxLe_s (mxLe_s (mxLe_s mxLe_z))))) (J21 _ (Option.some.inj e23))
  refine mG_if_eq (pc := 4) (tgt := 13) C dX6_countAhead_4 (by decide) (fun q3 => ?_) (fun q3 => ?_)
  · rw [if_pos q3] at e6
    refine mG_ic (pc := 13) C dX6_countAhead_13 kIm1 ?_
    exact mG_sub (mxLe_s (mxLe_s (mxLe_n (mxLe_n (mxLe_n mxLe_z))))) (J4 _ (Option.some.inj e6))
  · rw [if_neg q3] at e6
    refine mG_aload_n (pc := 7) C dX6_countAhead_7 rfl ?_
    refine mG_iload_n (pc := 8) C dX6_countAhead_8 rfl ?_
    obtain ⟨v7, e8, e6⟩ := mx_bind e6
    refine mG_iaload (pc := 9) C dX6_countAhead_9 e8 ?_
    refine mG_goto (tgt := 14) (pc := 10) C dX6_countAhead_10 (by decide) ?_
    exact mG_sub (mxLe_s (mxLe_s (mxLe_n (mxLe_n (mxLe_n mxLe_z))))) (J4 _ (Option.some.inj e6))
theorem dX6_sort_0 : decode cX6_sort 0 = .ok (.aload_n 1, 1) := by decide +kernel
theorem dX6_sort_1 : decode cX6_sort 1 = .ok (.iconst (-1), 1) := by decide +kernel
theorem dX6_sort_2 : decode cX6_sort 2 = .ok (.invokestatic 59, 3) := by decide +kernel
theorem dX6_sort_5 : decode cX6_sort 5 = .ok (.aload_n 2, 1) := by decide +kernel
theorem dX6_sort_6 : decode cX6_sort 6 = .ok (.iconst (-1), 1) := by decide +kernel
theorem dX6_sort_7 : decode cX6_sort 7 = .ok (.invokestatic 59, 3) := by decide +kernel
theorem dX6_sort_10 : decode cX6_sort 10 = .ok (.iconst 0, 1) := by decide +kernel
theorem dX6_sort_11 : decode cX6_sort 11 = .ok (.istore_n 3, 1) := by decide +kernel
theorem dX6_sort_12 : decode cX6_sort 12 = .ok (.iconst 0, 1) := by decide +kernel
theorem dX6_sort_13 : decode cX6_sort 13 = .ok (.istore 4, 2) := by decide +kernel
theorem dX6_sort_15 : decode cX6_sort 15 = .ok (.iload 4, 2) := by decide +kernel
theorem dX6_sort_17 : decode cX6_sort 17 = .ok (.bipush 20, 2) := by decide +kernel
theorem dX6_sort_19 : decode cX6_sort 19 = .ok (.if_icmp .ge 52, 3) := by decide +kernel
theorem dX6_sort_22 : decode cX6_sort 22 = .ok (.aload_n 0, 1) := by decide +kernel
theorem dX6_sort_23 : decode cX6_sort 23 = .ok (.iload 4, 2) := by decide +kernel
theorem dX6_sort_25 : decode cX6_sort 25 = .ok (.iaload, 1) := by decide +kernel
theorem dX6_sort_26 : decode cX6_sort 26 = .ok (.iconst (-1), 1) := by decide +kernel
theorem dX6_sort_27 : decode cX6_sort 27 = .ok (.if_icmp .ne 7, 3) := by decide +kernel
theorem dX6_sort_30 : decode cX6_sort 30 = .ok (.iconst (-1), 1) := by decide +kernel
theorem dX6_sort_31 : decode cX6_sort 31 = .ok (.goto 9, 3) := by decide +kernel
theorem dX6_sort_34 : decode cX6_sort 34 = .ok (.aload_n 0, 1) := by decide +kernel
theorem dX6_sort_35 : decode cX6_sort 35 = .ok (.iload 4, 2) := by decide +kernel
theorem dX6_sort_37 : decode cX6_sort 37 = .ok (.invokestatic 65, 3) := by decide +kernel
theorem dX6_sort_40 : decode cX6_sort 40 = .ok (.istore 5, 2) := by decide +kernel
theorem dX6_sort_42 : decode cX6_sort 42 = .ok (.iload 5, 2) := by decide +kernel
theorem dX6_sort_44 : decode cX6_sort 44 = .ok (.invokestatic 49, 3) := by decide +kernel
theorem dX6_sort_47 : decode cX6_sort 47 = .ok (.ifCond .eq 18, 3) := by decide +kernel
theorem dX6_sort_50 : decode cX6_sort 50 = .ok (.aload_n 1, 1) := by decide +kernel
theorem dX6_sort_51 : decode cX6_sort 51 = .ok (.iload 5, 2) := by decide +kernel
theorem dX6_sort_53 : decode cX6_sort 53 = .ok (.iload 4, 2) := by decide +kernel
theorem dX6_sort_55 : decode cX6_sort 55 = .ok (.iastore, 1) := by decide +kernel
theorem dX6_sort_56 : decode cX6_sort 56 = .ok (.aload_n 2, 1) := by decide +kernel
theorem dX6_sort_57 : decode cX6_sort 57 = .ok (.iload 4, 2) := by decide +kernel
theorem dX6_sort_59 : decode cX6_sort 59 = .ok (.iload 5, 2) := by decide +kernel
theorem dX6_sort_61 : decode cX6_sort 61 = .ok (.iastore, 1) := by decide +kernel
theorem dX6_sort_62 : decode cX6_sort 62 = .ok (.iinc 3 1, 3) := by decide +kernel
theorem dX6_sort_65 : decode cX6_sort 65 = .ok (.iinc 4 1, 3) := by decide +kernel
theorem dX6_sort_68 : decode cX6_sort 68 = .ok (.goto (-53), 3) := by decide +kernel
theorem dX6_sort_71 : decode cX6_sort 71 = .ok (.iload_n 3, 1) := by decide +kernel
theorem dX6_sort_72 : decode cX6_sort 72 = .ok (.ireturn, 1) := by decide +kernel
def fX6_sort (p0 : Nat) (p1 : Nat) (p2 : Nat) (h : mxH) : Option (Int32 × mxH) := Option.bind (fJ7_fill_53178 p1 (-1) h) (fun o2 => Option.bind (fJ7_fill_53178 p2 (-1) o2) (fun o4 => Option.bind (mxLoop (ρ := (Int32 × mxH)) (fun s5 : (Int32 × Int32 × mxH) => (if 20 ≤ s5.2.1 then some (Sum.inr (s5.1, s5.2.2)) else Option.bind (ldI s5.2.2 p0 s5.2.1) (fun v14 => Option.bind (α := Int32) (if v14 = (-1) then some (-1) else Option.bind (fX6_countAhead p0 s5.2.1 s5.2.2) (fun v21 => some v21)) (fun p18' : Int32 => Option.bind (fX9_isThing p18' s5.2.2) (fun v23 => Option.bind (α := (Int32 × mxH)) (if v23 = 0 then some (s5.1, s5.2.2) else Option.bind (stI s5.2.2 p1 p18' s5.2.1) (fun h28 => Option.bind (stI h28 p2 s5.2.1 p18') (fun h30 => some (s5.1 + 1, h30)))) (fun p26' : (Int32 × mxH) => some (Sum.inl (p26'.1, s5.2.1 + 1, p26'.2)))))))) mxF (0, 0, o4)) (fun r34 : (Int32 × mxH) => some (r34.1, r34.2))))
abbrev rmX6_sort : Room := { frames := 2, cells := 0, slots := 0, locals := 44 }
set_option maxRecDepth 20000 in
theorem tX6_sort {l : Launch} {Z : mxZ} (hl : l.stackTraces = false) {p0 : Nat} {p1 : Nat} {p2 : Nat} {h : mxH} {out : (Int32 × mxH)} (hf : fX6_sort p0 p1 p2 h = some out) : mxMet l Z yX6_sort cX6_sort 6 (some .int) rmX6_sort [.ref p0, .ref p1, .ref p2] h (.inl (some (.int out.1))) out.2 := by
  refine mxMet_of (by decide) hl (by simp [Value.category]) (Nat.le_of_ble_eq_true rfl) ?_
  intro X C E hX hin
  unfold fX6_sort at hf
  refine mG_aload_n (pc := 0) C dX6_sort_0 rfl ?_
  refine mG_ic (pc := 1) C dX6_sort_1 kIm1 ?_
  obtain ⟨o2, e1, hf⟩ := mx_bind hf
  refine mG_cS (pc := 2) (k' := 0) (n' := 0) [.ref p1, .int (-1)] [] C hX dX6_sort_2 lkS_X6_59 rfl (tJ7_fill_53178 hl e1) rfl rfl rfl rfl ?_
  refine mG_aload_n (pc := 5) C dX6_sort_5 rfl ?_
  refine mG_ic (pc := 6) C dX6_sort_6 kIm1 ?_
  obtain ⟨o4, e3, hf⟩ := mx_bind hf
  refine mG_cS (pc := 7) (k' := 0) (n' := 0) [.ref p2, .int (-1)] [] C hX dX6_sort_7 lkS_X6_59 rfl (tJ7_fill_53178 hl e3) rfl rfl rfl rfl ?_
  refine mG_ic (pc := 10) C dX6_sort_10 kI0 ?_
  refine mG_isn (ls' := [some (.ref p0), some (.ref p1), some (.ref p2), some (.int 0), none, none]) (pc := 11) C dX6_sort_11 rfl rfl rfl ?_
  refine mG_ic (pc := 12) C dX6_sort_12 kI0 ?_
  refine mG_is (ls' := [some (.ref p0), some (.ref p1), some (.ref p2), some (.int 0), some (.int 0), none]) (pc := 13) C dX6_sort_13 rfl rfl rfl ?_
  obtain ⟨r6, e7, hf⟩ := mx_bind hf
  have J8 : ∀ r34 : (Int32 × mxH), r34 = r6 → mG l Z X 6 0 0 71 [none, none, none, some (.int r34.1), none, none] [] r34.2 := by
    intro r34 q35
    subst q35
    refine mG_iload_n (pc := 71) C dX6_sort_71 rfl ?_
    cases hf
    exact mG_ir (pc := 72) C E hX dX6_sort_72 rfl
  refine mG_sub (ls' := [some (.ref p0), some (.ref p1), some (.ref p2), some (.int 0), some (.int 0), none]) (mxLe_s (mxLe_s (mxLe_s (mxLe_s (mxLe_s (mxLe_n mxLe_z)))))) (mxLoop_ind (K := fun s5 : (Int32 × Int32 × mxH) => mG l Z X 6 0 0 15 [some (.ref p0), some (.ref p1), some (.ref p2), some (.int s5.1), some (.int s5.2.1), none] [] s5.2.2) ?_ _ _ e7)
  intro s5 o11 e12 hK9 hx10
  refine mG_iload (pc := 15) C dX6_sort_15 rfl ?_
  refine mG_bp (pc := 17) C dX6_sort_17 kB20 ?_
  refine mG_icmp_ge (pc := 19) (tgt := 71) C dX6_sort_19 (by decide) (fun q13 => ?_) (fun q13 => ?_)
  · rw [if_pos q13] at e12
    exact mG_sub (mxLe_n (mxLe_n (mxLe_n (mxLe_s (mxLe_n (mxLe_n mxLe_z)))))) (J8 _ (hx10 _ (Option.some.inj e12).symm))
  · rw [if_neg q13] at e12
    refine mG_aload_n (pc := 22) C dX6_sort_22 rfl ?_
    refine mG_iload (pc := 23) C dX6_sort_23 rfl ?_
    obtain ⟨v14, e15, e12⟩ := mx_bind e12
    refine mG_iaload (pc := 25) C dX6_sort_25 e15 ?_
    refine mG_ic (pc := 26) C dX6_sort_26 kIm1 ?_
    obtain ⟨p18, e19, e12⟩ := mx_bind e12
    have J17 : ∀ p18' : Int32, p18' = p18 → mG l Z X 6 0 0 40 [some (.ref p0), some (.ref p1), some (.ref p2), some (.int s5.1), some (.int s5.2.1), none] [.int p18'] s5.2.2 := by
      intro p18' q33
      subst q33
      refine mG_is (ls' := [some (.ref p0), some (.ref p1), some (.ref p2), some (.int s5.1), some (.int s5.2.1), some (.int p18')]) (pc := 40) C dX6_sort_40 rfl rfl rfl ?_
      refine mG_iload (pc := 42) C dX6_sort_42 rfl ?_
      obtain ⟨v23, e22, e12⟩ := mx_bind e12
      refine mG_cS (pc := 44) (k' := 0) (n' := 0) [.int p18'] [] C hX dX6_sort_44 lkS_X6_49 rfl (tX9_isThing hl e22) rfl rfl rfl rfl ?_
      obtain ⟨p26, e27, e12⟩ := mx_bind e12
      have J25 : ∀ p26' : (Int32 × mxH), p26' = p26 → mG l Z X 6 0 0 65 [some (.ref p0), some (.ref p1), some (.ref p2), some (.int p26'.1), some (.int s5.2.1), none] [] p26'.2 := by
        intro p26' q32
        subst q32
        refine mG_ii (ls' := [some (.ref p0), some (.ref p1), some (.ref p2), some (.int p26'.1), some (.int (s5.2.1 + 1)), none]) (pc := 65) C dX6_sort_65 rfl (kinc1 _) rfl rfl rfl ?_
        refine mG_goto (tgt := 15) (pc := 68) C dX6_sort_68 (by decide) ?_
        exact mG_sub (mxLe_s (mxLe_s (mxLe_s (mxLe_s (mxLe_s (mxLe_n mxLe_z)))))) (hK9 _ (Option.some.inj e12).symm)
      refine mG_if_eq (pc := 47) (tgt := 65) C dX6_sort_47 (by decide) (fun q24 => ?_) (fun q24 => ?_)
      · rw [if_pos q24] at e27
        exact mG_sub (mxLe_s (mxLe_s (mxLe_s (mxLe_s (mxLe_s (mxLe_n mxLe_z)))))) (J25 _ (Option.some.inj e27))
      · rw [if_neg q24] at e27
        refine mG_aload_n (pc := 50) C dX6_sort_50 rfl ?_
        refine mG_iload (pc := 51) C dX6_sort_51 rfl ?_
        refine mG_iload (pc := 53) C dX6_sort_53 rfl ?_
        obtain ⟨h28, e29, e27⟩ := mx_bind e27
        refine mG_iastore (pc := 55) C dX6_sort_55 e29 ?_
        refine mG_aload_n (pc := 56) C dX6_sort_56 rfl ?_
        refine mG_iload (pc := 57) C dX6_sort_57 rfl ?_
        refine mG_iload (pc := 59) C dX6_sort_59 rfl ?_
        obtain ⟨h30, e31, e27⟩ := mx_bind e27
        refine mG_iastore (pc := 61) C dX6_sort_61 e31 ?_
        refine mG_ii (ls' := [some (.ref p0), some (.ref p1), some (.ref p2), some (.int (s5.1 + 1)), some (.int s5.2.1), some (.int p18')]) (pc := 62) C dX6_sort_62 rfl (kinc1 _) rfl rfl rfl ?_
        exact mG_sub (mxLe_s (mxLe_s (mxLe_s (mxLe_s (mxLe_s (mxLe_n mxLe_z)))))) (J25 _ (Option.some.inj e27))
    refine mG_icmp_ne (pc := 27) (tgt := 34) C dX6_sort_27 (by decide) (fun q16 => ?_) (fun q16 => ?_)
    · rw [if_neg q16] at e19
      refine mG_aload_n (pc := 34) C dX6_sort_34 rfl ?_
      refine mG_iload (pc := 35) C dX6_sort_35 rfl ?_
      obtain ⟨v21, e20, e19⟩ := mx_bind e19
      refine mG_cS (pc := 37) (k' := 0) (n' := 0) [.ref p0, .int s5.2.1] [] C hX dX6_sort_37 lkS_X6_65 rfl (tX6_countAhead hl e20) rfl rfl rfl rfl ?_
      exact mG_sub (mxLe_s (mxLe_s (mxLe_s (mxLe_s (mxLe_s (mxLe_n mxLe_z)))))) (J17 _ (Option.some.inj e19))
    · rw [if_pos q16] at e19
      refine mG_ic (pc := 30) C dX6_sort_30 kIm1 ?_
      refine mG_goto (tgt := 40) (pc := 31) C dX6_sort_31 (by decide) ?_
      exact mG_sub (mxLe_s (mxLe_s (mxLe_s (mxLe_s (mxLe_s (mxLe_n mxLe_z)))))) (J17 _ (Option.some.inj e19))
theorem dX6_setMark_0 : decode cX6_setMark 0 = .ok (.iload_n 1, 1) := by decide +kernel
theorem dX6_setMark_1 : decode cX6_setMark 1 = .ok (.invokestatic 45, 3) := by decide +kernel
theorem dX6_setMark_4 : decode cX6_setMark 4 = .ok (.ifCond .eq 50, 3) := by decide +kernel
theorem dX6_setMark_7 : decode cX6_setMark 7 = .ok (.iload_n 2, 1) := by decide +kernel
theorem dX6_setMark_8 : decode cX6_setMark 8 = .ok (.invokestatic 49, 3) := by decide +kernel
theorem dX6_setMark_11 : decode cX6_setMark 11 = .ok (.ifCond .eq 43, 3) := by decide +kernel
theorem dX6_setMark_14 : decode cX6_setMark 14 = .ok (.aload_n 0, 1) := by decide +kernel
theorem dX6_setMark_15 : decode cX6_setMark 15 = .ok (.getfield 11, 3) := by decide +kernel
theorem dX6_setMark_18 : decode cX6_setMark 18 = .ok (.iload_n 1, 1) := by decide +kernel
theorem dX6_setMark_19 : decode cX6_setMark 19 = .ok (.aaload, 1) := by decide +kernel
theorem dX6_setMark_20 : decode cX6_setMark 20 = .ok (.iload_n 2, 1) := by decide +kernel
theorem dX6_setMark_21 : decode cX6_setMark 21 = .ok (.iload_n 3, 1) := by decide +kernel
theorem dX6_setMark_22 : decode cX6_setMark 22 = .ok (.iastore, 1) := by decide +kernel
theorem dX6_setMark_23 : decode cX6_setMark 23 = .ok (.aload_n 0, 1) := by decide +kernel
theorem dX6_setMark_24 : decode cX6_setMark 24 = .ok (.getfield 22, 3) := by decide +kernel
theorem dX6_setMark_27 : decode cX6_setMark 27 = .ok (.iload_n 1, 1) := by decide +kernel
theorem dX6_setMark_28 : decode cX6_setMark 28 = .ok (.aload_n 0, 1) := by decide +kernel
theorem dX6_setMark_29 : decode cX6_setMark 29 = .ok (.getfield 11, 3) := by decide +kernel
theorem dX6_setMark_32 : decode cX6_setMark 32 = .ok (.iload_n 1, 1) := by decide +kernel
theorem dX6_setMark_33 : decode cX6_setMark 33 = .ok (.aaload, 1) := by decide +kernel
theorem dX6_setMark_34 : decode cX6_setMark 34 = .ok (.aload_n 0, 1) := by decide +kernel
theorem dX6_setMark_35 : decode cX6_setMark 35 = .ok (.getfield 19, 3) := by decide +kernel
theorem dX6_setMark_38 : decode cX6_setMark 38 = .ok (.iload_n 1, 1) := by decide +kernel
theorem dX6_setMark_39 : decode cX6_setMark 39 = .ok (.aaload, 1) := by decide +kernel
theorem dX6_setMark_40 : decode cX6_setMark 40 = .ok (.aload_n 0, 1) := by decide +kernel
theorem dX6_setMark_41 : decode cX6_setMark 41 = .ok (.getfield 16, 3) := by decide +kernel
theorem dX6_setMark_44 : decode cX6_setMark 44 = .ok (.iload_n 1, 1) := by decide +kernel
theorem dX6_setMark_45 : decode cX6_setMark 45 = .ok (.aaload, 1) := by decide +kernel
theorem dX6_setMark_46 : decode cX6_setMark 46 = .ok (.invokestatic 52, 3) := by decide +kernel
theorem dX6_setMark_49 : decode cX6_setMark 49 = .ok (.iastore, 1) := by decide +kernel
theorem dX6_setMark_50 : decode cX6_setMark 50 = .ok (.aload_n 0, 1) := by decide +kernel
theorem dX6_setMark_51 : decode cX6_setMark 51 = .ok (.invokevirtual 56, 3) := by decide +kernel
theorem dX6_setMark_54 : decode cX6_setMark 54 = .ok (.return_, 1) := by decide +kernel
def fX6_setMark (p0 : Nat) (p1 : Int32) (p2 : Int32) (p3 : Int32) (h : mxH) : Option mxH := Option.bind (fX9_isRow p1 h) (fun v2 => Option.bind (α := mxH) (if v2 = 0 then some h else Option.bind (fX9_isThing p2 h) (fun v8 => (if v8 = 0 then some h else Option.bind (gR h p0 6 0) (fun r10 => Option.bind (ldR h r10 p1) (fun r12 => Option.bind (stI h r12 p2 p3) (fun h14 => Option.bind (gR h14 p0 6 3) (fun r16 => Option.bind (gR h14 p0 6 0) (fun r18 => Option.bind (ldR h14 r18 p1) (fun r20 => Option.bind (gR h14 p0 6 2) (fun r22 => Option.bind (ldR h14 r22 p1) (fun r24 => Option.bind (gR h14 p0 6 1) (fun r26 => Option.bind (ldR h14 r26 p1) (fun r28 => Option.bind (fX6_sort r20 r24 r28 h14) (fun o31 => Option.bind (stI o31.2 r16 p1 o31.1) (fun h32 => Option.bind (isO h32 p0 6) (fun u34 => Option.bind (fX6_findFirstPlaces p0 h32) (fun o37 => some o37))))))))))))))))) (fun p5' : mxH => some p5'))
abbrev rmX6_setMark : Room := { frames := 3, cells := 0, slots := 0, locals := 69 }
set_option maxRecDepth 20000 in
theorem tX6_setMark {l : Launch} {Z : mxZ} (hl : l.stackTraces = false) {p0 : Nat} {p1 : Int32} {p2 : Int32} {p3 : Int32} {h : mxH} {out : mxH} (hf : fX6_setMark p0 p1 p2 p3 h = some out) : mxMet l Z yX6_setMark cX6_setMark 4 (none) rmX6_setMark [.ref p0, .int p1, .int p2, .int p3] h (.inl none) out := by
  refine mxMet_of (by decide) hl (by simp [Value.category]) (Nat.le_of_ble_eq_true rfl) ?_
  intro X C E hX hin
  unfold fX6_setMark at hf
  refine mG_iload_n (pc := 0) C dX6_setMark_0 rfl ?_
  obtain ⟨v2, e1, hf⟩ := mx_bind hf
  refine mG_cS (pc := 1) (k' := 0) (n' := 0) [.int p1] [] C hX dX6_setMark_1 lkS_X6_45 rfl (tX9_isRow hl e1) rfl rfl rfl rfl ?_
  obtain ⟨p5, e6, hf⟩ := mx_bind hf
  have J4 : ∀ p5' : mxH, p5' = p5 → mG l Z X 4 0 0 54 [none, none, none, none] [] p5' := by
    intro p5' q38
    subst q38
    cases hf
    exact mG_vr (pc := 54) C E hX dX6_setMark_54 rfl
  refine mG_if_eq (pc := 4) (tgt := 54) C dX6_setMark_4 (by decide) (fun q3 => ?_) (fun q3 => ?_)
  · rw [if_pos q3] at e6
    exact mG_sub (mxLe_n (mxLe_n (mxLe_n (mxLe_n mxLe_z)))) (J4 _ (Option.some.inj e6))
  · rw [if_neg q3] at e6
    refine mG_iload_n (pc := 7) C dX6_setMark_7 rfl ?_
    obtain ⟨v8, e7, e6⟩ := mx_bind e6
    refine mG_cS (pc := 8) (k' := 0) (n' := 0) [.int p2] [] C hX dX6_setMark_8 lkS_X6_49 rfl (tX9_isThing hl e7) rfl rfl rfl rfl ?_
    refine mG_if_eq (pc := 11) (tgt := 54) C dX6_setMark_11 (by decide) (fun q9 => ?_) (fun q9 => ?_)
    · rw [if_pos q9] at e6
      exact mG_sub (mxLe_n (mxLe_n (mxLe_n (mxLe_n mxLe_z)))) (J4 _ (Option.some.inj e6))
    · rw [if_neg q9] at e6
      refine mG_aload_n (pc := 14) C dX6_setMark_14 rfl ?_
      obtain ⟨r10, e11, e6⟩ := mx_bind e6
      refine mG_getR (pc := 15) C dX6_setMark_15 fl_X6_11 e11 ?_
      refine mG_iload_n (pc := 18) C dX6_setMark_18 rfl ?_
      obtain ⟨r12, e13, e6⟩ := mx_bind e6
      refine mG_aaload (pc := 19) C dX6_setMark_19 e13 ?_
      refine mG_iload_n (pc := 20) C dX6_setMark_20 rfl ?_
      refine mG_iload_n (pc := 21) C dX6_setMark_21 rfl ?_
      obtain ⟨h14, e15, e6⟩ := mx_bind e6
      refine mG_iastore (pc := 22) C dX6_setMark_22 e15 ?_
      refine mG_aload_n (pc := 23) C dX6_setMark_23 rfl ?_
      obtain ⟨r16, e17, e6⟩ := mx_bind e6
      refine mG_getR (pc := 24) C dX6_setMark_24 fl_X6_22 e17 ?_
      refine mG_iload_n (pc := 27) C dX6_setMark_27 rfl ?_
      refine mG_aload_n (pc := 28) C dX6_setMark_28 rfl ?_
      obtain ⟨r18, e19, e6⟩ := mx_bind e6
      refine mG_getR (pc := 29) C dX6_setMark_29 fl_X6_11 e19 ?_
      refine mG_iload_n (pc := 32) C dX6_setMark_32 rfl ?_
      obtain ⟨r20, e21, e6⟩ := mx_bind e6
      refine mG_aaload (pc := 33) C dX6_setMark_33 e21 ?_
      refine mG_aload_n (pc := 34) C dX6_setMark_34 rfl ?_
      obtain ⟨r22, e23, e6⟩ := mx_bind e6
      refine mG_getR (pc := 35) C dX6_setMark_35 fl_X6_19 e23 ?_
      refine mG_iload_n (pc := 38) C dX6_setMark_38 rfl ?_
      obtain ⟨r24, e25, e6⟩ := mx_bind e6
      refine mG_aaload (pc := 39) C dX6_setMark_39 e25 ?_
      refine mG_aload_n (pc := 40) C dX6_setMark_40 rfl ?_
      obtain ⟨r26, e27, e6⟩ := mx_bind e6
      refine mG_getR (pc := 41) C dX6_setMark_41 fl_X6_16 e27 ?_
      refine mG_iload_n (pc := 44) C dX6_setMark_44 rfl ?_
      obtain ⟨r28, e29, e6⟩ := mx_bind e6
      refine mG_aaload (pc := 45) C dX6_setMark_45 e29 ?_
      obtain ⟨o31, e30, e6⟩ := mx_bind e6
      refine mG_cS (pc := 46) (k' := 0) (n' := 0) [.ref r20, .ref r24, .ref r28] [.int p1, .ref r16] C hX dX6_setMark_46 lkS_X6_52 rfl (tX6_sort hl e30) rfl rfl rfl rfl ?_
      obtain ⟨h32, e33, e6⟩ := mx_bind e6
      refine mG_iastore (pc := 49) C dX6_setMark_49 e33 ?_
      refine mG_aload_n (pc := 50) C dX6_setMark_50 rfl ?_
      obtain ⟨u34, e35, e6⟩ := mx_bind e6
      obtain ⟨o37, e36, e6⟩ := mx_bind e6
      refine mG_cV (pc := 51) (k' := 0) (n' := 0) 6 [] [] C hX dX6_setMark_51 lkV_X6_56 rfl rfl e35 (tX6_findFirstPlaces hl e36) rfl rfl rfl rfl ?_
      exact mG_sub (mxLe_n (mxLe_n (mxLe_n (mxLe_n mxLe_z)))) (J4 _ (Option.some.inj e6))
theorem dX6_changeWeight_0 : decode cX6_changeWeight 0 = .ok (.iconst (-1), 1) := by decide +kernel
theorem dX6_changeWeight_1 : decode cX6_changeWeight 1 = .ok (.istore_n 3, 1) := by decide +kernel
theorem dX6_changeWeight_2 : decode cX6_changeWeight 2 = .ok (.iload_n 1, 1) := by decide +kernel
theorem dX6_changeWeight_3 : decode cX6_changeWeight 3 = .ok (.invokestatic 45, 3) := by decide +kernel
theorem dX6_changeWeight_6 : decode cX6_changeWeight 6 = .ok (.ifCond .eq 17, 3) := by decide +kernel
theorem dX6_changeWeight_9 : decode cX6_changeWeight 9 = .ok (.aload_n 0, 1) := by decide +kernel
theorem dX6_changeWeight_10 : decode cX6_changeWeight 10 = .ok (.getfield 26, 3) := by decide +kernel
theorem dX6_changeWeight_13 : decode cX6_changeWeight 13 = .ok (.iload_n 1, 1) := by decide +kernel
theorem dX6_changeWeight_14 : decode cX6_changeWeight 14 = .ok (.iaload, 1) := by decide +kernel
theorem dX6_changeWeight_15 : decode cX6_changeWeight 15 = .ok (.istore_n 3, 1) := by decide +kernel
theorem dX6_changeWeight_16 : decode cX6_changeWeight 16 = .ok (.aload_n 0, 1) := by decide +kernel
theorem dX6_changeWeight_17 : decode cX6_changeWeight 17 = .ok (.getfield 26, 3) := by decide +kernel
theorem dX6_changeWeight_20 : decode cX6_changeWeight 20 = .ok (.iload_n 1, 1) := by decide +kernel
theorem dX6_changeWeight_21 : decode cX6_changeWeight 21 = .ok (.iload_n 2, 1) := by decide +kernel
theorem dX6_changeWeight_22 : decode cX6_changeWeight 22 = .ok (.iastore, 1) := by decide +kernel
theorem dX6_changeWeight_23 : decode cX6_changeWeight 23 = .ok (.iload_n 3, 1) := by decide +kernel
theorem dX6_changeWeight_24 : decode cX6_changeWeight 24 = .ok (.ireturn, 1) := by decide +kernel
def fX6_changeWeight (p0 : Nat) (p1 : Int32) (p2 : Int32) (h : mxH) : Option (Int32 × mxH) := Option.bind (fX9_isRow p1 h) (fun v2 => Option.bind (α := (Int32 × mxH)) (if v2 = 0 then some ((-1), h) else Option.bind (gR h p0 6 4) (fun r7 => Option.bind (ldI h r7 p1) (fun v9 => Option.bind (gR h p0 6 4) (fun r11 => Option.bind (stI h r11 p1 p2) (fun h13 => some (v9, h13)))))) (fun p5' : (Int32 × mxH) => some (p5'.1, p5'.2)))
abbrev rmX6_changeWeight : Room := { frames := 1, cells := 0, slots := 0, locals := 20 }
set_option maxRecDepth 20000 in
theorem tX6_changeWeight {l : Launch} {Z : mxZ} (hl : l.stackTraces = false) {p0 : Nat} {p1 : Int32} {p2 : Int32} {h : mxH} {out : (Int32 × mxH)} (hf : fX6_changeWeight p0 p1 p2 h = some out) : mxMet l Z yX6_changeWeight cX6_changeWeight 4 (some .int) rmX6_changeWeight [.ref p0, .int p1, .int p2] h (.inl (some (.int out.1))) out.2 := by
  refine mxMet_of (by decide) hl (by simp [Value.category]) (Nat.le_of_ble_eq_true rfl) ?_
  intro X C E hX hin
  unfold fX6_changeWeight at hf
  refine mG_ic (pc := 0) C dX6_changeWeight_0 kIm1 ?_
  refine mG_isn (ls' := [some (.ref p0), some (.int p1), some (.int p2), some (.int (-1))]) (pc := 1) C dX6_changeWeight_1 rfl rfl rfl ?_
  refine mG_iload_n (pc := 2) C dX6_changeWeight_2 rfl ?_
  obtain ⟨v2, e1, hf⟩ := mx_bind hf
  refine mG_cS (pc := 3) (k' := 0) (n' := 0) [.int p1] [] C hX dX6_changeWeight_3 lkS_X6_45 rfl (tX9_isRow hl e1) rfl rfl rfl rfl ?_
  obtain ⟨p5, e6, hf⟩ := mx_bind hf
  have J4 : ∀ p5' : (Int32 × mxH), p5' = p5 → mG l Z X 4 0 0 23 [none, none, none, some (.int p5'.1)] [] p5'.2 := by
    intro p5' q15
    subst q15
    refine mG_iload_n (pc := 23) C dX6_changeWeight_23 rfl ?_
    cases hf
    exact mG_ir (pc := 24) C E hX dX6_changeWeight_24 rfl
  refine mG_if_eq (pc := 6) (tgt := 23) C dX6_changeWeight_6 (by decide) (fun q3 => ?_) (fun q3 => ?_)
  · rw [if_pos q3] at e6
    exact mG_sub (mxLe_n (mxLe_n (mxLe_n (mxLe_s mxLe_z)))) (J4 _ (Option.some.inj e6))
  · rw [if_neg q3] at e6
    refine mG_aload_n (pc := 9) C dX6_changeWeight_9 rfl ?_
    obtain ⟨r7, e8, e6⟩ := mx_bind e6
    refine mG_getR (pc := 10) C dX6_changeWeight_10 fl_X6_26 e8 ?_
    refine mG_iload_n (pc := 13) C dX6_changeWeight_13 rfl ?_
    obtain ⟨v9, e10, e6⟩ := mx_bind e6
    refine mG_iaload (pc := 14) C dX6_changeWeight_14 e10 ?_
    refine mG_isn (ls' := [some (.ref p0), some (.int p1), some (.int p2), some (.int v9)]) (pc := 15) C dX6_changeWeight_15 rfl rfl rfl ?_
    refine mG_aload_n (pc := 16) C dX6_changeWeight_16 rfl ?_
    obtain ⟨r11, e12, e6⟩ := mx_bind e6
    refine mG_getR (pc := 17) C dX6_changeWeight_17 fl_X6_26 e12 ?_
    refine mG_iload_n (pc := 20) C dX6_changeWeight_20 rfl ?_
    refine mG_iload_n (pc := 21) C dX6_changeWeight_21 rfl ?_
    obtain ⟨h13, e14, e6⟩ := mx_bind e6
    refine mG_iastore (pc := 22) C dX6_changeWeight_22 e14 ?_
    exact mG_sub (mxLe_n (mxLe_n (mxLe_n (mxLe_s mxLe_z)))) (J4 _ (Option.some.inj e6))
theorem dX6_itemsRead_0 : decode cX6_itemsRead 0 = .ok (.iconst 0, 1) := by decide +kernel
theorem dX6_itemsRead_1 : decode cX6_itemsRead 1 = .ok (.istore_n 2, 1) := by decide +kernel
theorem dX6_itemsRead_2 : decode cX6_itemsRead 2 = .ok (.aload_n 0, 1) := by decide +kernel
theorem dX6_itemsRead_3 : decode cX6_itemsRead 3 = .ok (.getfield 22, 3) := by decide +kernel
theorem dX6_itemsRead_6 : decode cX6_itemsRead 6 = .ok (.astore_n 3, 1) := by decide +kernel
theorem dX6_itemsRead_7 : decode cX6_itemsRead 7 = .ok (.aload_n 3, 1) := by decide +kernel
theorem dX6_itemsRead_8 : decode cX6_itemsRead 8 = .ok (.arraylength, 1) := by decide +kernel
theorem dX6_itemsRead_9 : decode cX6_itemsRead 9 = .ok (.istore 4, 2) := by decide +kernel
theorem dX6_itemsRead_11 : decode cX6_itemsRead 11 = .ok (.iconst 0, 1) := by decide +kernel
theorem dX6_itemsRead_12 : decode cX6_itemsRead 12 = .ok (.istore 5, 2) := by decide +kernel
theorem dX6_itemsRead_14 : decode cX6_itemsRead 14 = .ok (.iload 5, 2) := by decide +kernel
theorem dX6_itemsRead_16 : decode cX6_itemsRead 16 = .ok (.iload 4, 2) := by decide +kernel
theorem dX6_itemsRead_18 : decode cX6_itemsRead 18 = .ok (.if_icmp .ge 24, 3) := by decide +kernel
theorem dX6_itemsRead_21 : decode cX6_itemsRead 21 = .ok (.aload_n 3, 1) := by decide +kernel
theorem dX6_itemsRead_22 : decode cX6_itemsRead 22 = .ok (.iload 5, 2) := by decide +kernel
theorem dX6_itemsRead_24 : decode cX6_itemsRead 24 = .ok (.iaload, 1) := by decide +kernel
theorem dX6_itemsRead_25 : decode cX6_itemsRead 25 = .ok (.istore 6, 2) := by decide +kernel
theorem dX6_itemsRead_27 : decode cX6_itemsRead 27 = .ok (.iload_n 2, 1) := by decide +kernel
theorem dX6_itemsRead_28 : decode cX6_itemsRead 28 = .ok (.iload 6, 2) := by decide +kernel
theorem dX6_itemsRead_30 : decode cX6_itemsRead 30 = .ok (.iload_n 1, 1) := by decide +kernel
theorem dX6_itemsRead_31 : decode cX6_itemsRead 31 = .ok (.invokestatic 69, 3) := by decide +kernel
theorem dX6_itemsRead_34 : decode cX6_itemsRead 34 = .ok (.iadd, 1) := by decide +kernel
theorem dX6_itemsRead_35 : decode cX6_itemsRead 35 = .ok (.istore_n 2, 1) := by decide +kernel
theorem dX6_itemsRead_36 : decode cX6_itemsRead 36 = .ok (.iinc 5 1, 3) := by decide +kernel
theorem dX6_itemsRead_39 : decode cX6_itemsRead 39 = .ok (.goto (-25), 3) := by decide +kernel
theorem dX6_itemsRead_42 : decode cX6_itemsRead 42 = .ok (.iload_n 2, 1) := by decide +kernel
theorem dX6_itemsRead_43 : decode cX6_itemsRead 43 = .ok (.ireturn, 1) := by decide +kernel
def fX6_itemsRead (p0 : Nat) (p1 : Int32) (h : mxH) : Option Int32 := Option.bind (gR h p0 6 3) (fun r1 => Option.bind (lenA h r1) (fun v3 => Option.bind (mxLoop (ρ := Int32) (fun s5 : (Int32 × Int32) => (if v3 ≤ s5.2 then some (Sum.inr s5.1) else Option.bind (ldI h r1 s5.2) (fun v14 => some (Sum.inl (s5.1 + (mxMin v14 p1), s5.2 + 1))))) mxF (0, 0)) (fun r16 : Int32 => some r16)))
abbrev rmX6_itemsRead : Room := { frames := 1, cells := 0, slots := 0, locals := 21 }
set_option maxRecDepth 20000 in
theorem tX6_itemsRead {l : Launch} {Z : mxZ} (hl : l.stackTraces = false) {p0 : Nat} {p1 : Int32} {h : mxH} {out : Int32} (hf : fX6_itemsRead p0 p1 h = some out) : mxMet l Z yX6_itemsRead cX6_itemsRead 7 (some .int) rmX6_itemsRead [.ref p0, .int p1] h (.inl (some (.int out))) h := by
  refine mxMet_of (by decide) hl (by simp [Value.category]) (Nat.le_of_ble_eq_true rfl) ?_
  intro X C E hX hin
  unfold fX6_itemsRead at hf
  refine mG_ic (pc := 0) C dX6_itemsRead_0 kI0 ?_
  refine mG_isn (ls' := [some (.ref p0), some (.int p1), some (.int 0), none, none, none, none]) (pc := 1) C dX6_itemsRead_1 rfl rfl rfl ?_
  refine mG_aload_n (pc := 2) C dX6_itemsRead_2 rfl ?_
  obtain ⟨r1, e2, hf⟩ := mx_bind hf
  refine mG_getR (pc := 3) C dX6_itemsRead_3 fl_X6_22 e2 ?_
  refine mG_asn (ls' := [some (.ref p0), some (.int p1), some (.int 0), some (.ref r1), none, none, none]) (pc := 6) C dX6_itemsRead_6 rfl rfl rfl ?_
  refine mG_aload_n (pc := 7) C dX6_itemsRead_7 rfl ?_
  obtain ⟨v3, e4, hf⟩ := mx_bind hf
  refine mG_arraylength (pc := 8) C dX6_itemsRead_8 e4 ?_
  refine mG_is (ls' := [some (.ref p0), some (.int p1), some (.int 0), some (.ref r1), some (.int v3), none, none]) (pc := 9) C dX6_itemsRead_9 rfl rfl rfl ?_
  refine mG_ic (pc := 11) C dX6_itemsRead_11 kI0 ?_
  refine mG_is (ls' := [some (.ref p0), some (.int p1), some (.int 0), some (.ref r1), some (.int v3), some (.int 0), none]) (pc := 12) C dX6_itemsRead_12 rfl rfl rfl ?_
  obtain ⟨r6, e7, hf⟩ := mx_bind hf
  have J8 : ∀ r16 : Int32, r16 = r6 → mG l Z X 7 0 0 42 [none, none, some (.int r16), none, none, none, none] [] h := by
    intro r16 q17
    subst q17
    refine mG_iload_n (pc := 42) C dX6_itemsRead_42 rfl ?_
    cases hf
    exact mG_ir (pc := 43) C E hX dX6_itemsRead_43 rfl
  refine mG_sub (ls' := [none, some (.int p1), some (.int 0), some (.ref r1), some (.int v3), some (.int 0), none]) (mxLe_n (mxLe_s (mxLe_s (mxLe_s (mxLe_s (mxLe_s (mxLe_n mxLe_z))))))) (mxLoop_ind (K := fun s5 : (Int32 × Int32) => mG l Z X 7 0 0 14 [none, some (.int p1), some (.int s5.1), some (.ref r1), some (.int v3), some (.int s5.2), none] [] h) ?_ _ _ e7)
  intro s5 o11 e12 hK9 hx10
  refine mG_iload (pc := 14) C dX6_itemsRead_14 rfl ?_
  refine mG_iload (pc := 16) C dX6_itemsRead_16 rfl ?_
  refine mG_icmp_ge (pc := 18) (tgt := 42) C dX6_itemsRead_18 (by decide) (fun q13 => ?_) (fun q13 => ?_)
  · rw [if_pos q13] at e12
    exact mG_sub (mxLe_n (mxLe_n (mxLe_s (mxLe_n (mxLe_n (mxLe_n (mxLe_n mxLe_z))))))) (J8 _ (hx10 _ (Option.some.inj e12).symm))
  · rw [if_neg q13] at e12
    refine mG_aload_n (pc := 21) C dX6_itemsRead_21 rfl ?_
    refine mG_iload (pc := 22) C dX6_itemsRead_22 rfl ?_
    obtain ⟨v14, e15, e12⟩ := mx_bind e12
    refine mG_iaload (pc := 24) C dX6_itemsRead_24 e15 ?_
    refine mG_is (ls' := [none, some (.int p1), some (.int s5.1), some (.ref r1), some (.int v3), some (.int s5.2), some (.int v14)]) (pc := 25) C dX6_itemsRead_25 rfl rfl rfl ?_
    refine mG_iload_n (pc := 27) C dX6_itemsRead_27 rfl ?_
    refine mG_iload (pc := 28) C dX6_itemsRead_28 rfl ?_
    refine mG_iload_n (pc := 30) C dX6_itemsRead_30 rfl ?_
    refine mG_mn (pc := 31) C hX dX6_itemsRead_31 w468 wmin rfl rfl ?_
    refine mG_iadd (pc := 34) C dX6_itemsRead_34 ?_
    refine mG_isn (ls' := [none, some (.int p1), some (.int (s5.1 + (mxMin v14 p1))), some (.ref r1), some (.int v3), some (.int s5.2), some (.int v14)]) (pc := 35) C dX6_itemsRead_35 rfl rfl rfl ?_
    refine mG_ii (ls' := [none, some (.int p1), some (.int (s5.1 + (mxMin v14 p1))), some (.ref r1), some (.int v3), some (.int (s5.2 + 1)), some (.int v14)]) (pc := 36) C dX6_itemsRead_36 rfl (kinc1 _) rfl rfl rfl ?_
    refine mG_goto (tgt := 14) (pc := 39) C dX6_itemsRead_39 (by decide) ?_
    exact mG_sub (mxLe_n (mxLe_s (mxLe_s (mxLe_s (mxLe_s (mxLe_s (mxLe_n mxLe_z))))))) (hK9 _ (Option.some.inj e12).symm)
theorem dX6_thingsRead_0 : decode cX6_thingsRead 0 = .ok (.iconst 0, 1) := by decide +kernel
theorem dX6_thingsRead_1 : decode cX6_thingsRead 1 = .ok (.istore_n 2, 1) := by decide +kernel
theorem dX6_thingsRead_2 : decode cX6_thingsRead 2 = .ok (.iconst 0, 1) := by decide +kernel
theorem dX6_thingsRead_3 : decode cX6_thingsRead 3 = .ok (.istore_n 3, 1) := by decide +kernel
theorem dX6_thingsRead_4 : decode cX6_thingsRead 4 = .ok (.iload_n 3, 1) := by decide +kernel
theorem dX6_thingsRead_5 : decode cX6_thingsRead 5 = .ok (.bipush 20, 2) := by decide +kernel
theorem dX6_thingsRead_7 : decode cX6_thingsRead 7 = .ok (.if_icmp .ge 21, 3) := by decide +kernel
theorem dX6_thingsRead_10 : decode cX6_thingsRead 10 = .ok (.aload_n 0, 1) := by decide +kernel
theorem dX6_thingsRead_11 : decode cX6_thingsRead 11 = .ok (.iload_n 3, 1) := by decide +kernel
theorem dX6_thingsRead_12 : decode cX6_thingsRead 12 = .ok (.iload_n 1, 1) := by decide +kernel
theorem dX6_thingsRead_13 : decode cX6_thingsRead 13 = .ok (.invokevirtual 104, 3) := by decide +kernel
theorem dX6_thingsRead_16 : decode cX6_thingsRead 16 = .ok (.ifCond .eq 6, 3) := by decide +kernel
theorem dX6_thingsRead_19 : decode cX6_thingsRead 19 = .ok (.iinc 2 1, 3) := by decide +kernel
theorem dX6_thingsRead_22 : decode cX6_thingsRead 22 = .ok (.iinc 3 1, 3) := by decide +kernel
theorem dX6_thingsRead_25 : decode cX6_thingsRead 25 = .ok (.goto (-21), 3) := by decide +kernel
theorem dX6_thingsRead_28 : decode cX6_thingsRead 28 = .ok (.iload_n 2, 1) := by decide +kernel
theorem dX6_thingsRead_29 : decode cX6_thingsRead 29 = .ok (.ireturn, 1) := by decide +kernel
def fX6_thingsRead (p0 : Nat) (p1 : Int32) (h : mxH) : Option Int32 := Option.bind (mxLoop (ρ := Int32) (fun s1 : (Int32 × Int32) => (if 20 ≤ s1.2 then some (Sum.inr s1.1) else Option.bind (isO h p0 6) (fun u10 => Option.bind (fX6_isRead p0 s1.2 p1 h) (fun v13 => Option.bind (α := Int32) (if v13 = 0 then some s1.1 else some (s1.1 + 1)) (fun p16' : Int32 => some (Sum.inl (p16', s1.2 + 1))))))) mxF (0, 0)) (fun r19 : Int32 => some r19)
abbrev rmX6_thingsRead : Room := { frames := 2, cells := 0, slots := 0, locals := 42 }
set_option maxRecDepth 20000 in
theorem tX6_thingsRead {l : Launch} {Z : mxZ} (hl : l.stackTraces = false) {p0 : Nat} {p1 : Int32} {h : mxH} {out : Int32} (hf : fX6_thingsRead p0 p1 h = some out) : mxMet l Z yX6_thingsRead cX6_thingsRead 4 (some .int) rmX6_thingsRead [.ref p0, .int p1] h (.inl (some (.int out))) h := by
  refine mxMet_of (by decide) hl (by simp [Value.category]) (Nat.le_of_ble_eq_true rfl) ?_
  intro X C E hX hin
  unfold fX6_thingsRead at hf
  refine mG_ic (pc := 0) C dX6_thingsRead_0 kI0 ?_
  refine mG_isn (ls' := [some (.ref p0), some (.int p1), some (.int 0), none]) (pc := 1) C dX6_thingsRead_1 rfl rfl rfl ?_
  refine mG_ic (pc := 2) C dX6_thingsRead_2 kI0 ?_
  refine mG_isn (ls' := [some (.ref p0), some (.int p1), some (.int 0), some (.int 0)]) (pc := 3) C dX6_thingsRead_3 rfl rfl rfl ?_
  obtain ⟨r2, e3, hf⟩ := mx_bind hf
  have J4 : ∀ r19 : Int32, r19 = r2 → mG l Z X 4 0 0 28 [none, none, some (.int r19), none] [] h := by
    intro r19 q20
    subst q20
    refine mG_iload_n (pc := 28) C dX6_thingsRead_28 rfl ?_
    cases hf
    exact mG_ir (pc := 29) C E hX dX6_thingsRead_29 rfl
  refine mG_sub (ls' := [some (.ref p0), some (.int p1), some (.int 0), some (.int 0)]) (mxLe_s (mxLe_s (mxLe_s (mxLe_s mxLe_z)))) (mxLoop_ind (K := fun s1 : (Int32 × Int32) => mG l Z X 4 0 0 4 [some (.ref p0), some (.int p1), some (.int s1.1), some (.int s1.2)] [] h) ?_ _ _ e3)
  intro s1 o7 e8 hK5 hx6
  refine mG_iload_n (pc := 4) C dX6_thingsRead_4 rfl ?_
  refine mG_bp (pc := 5) C dX6_thingsRead_5 kB20 ?_
  refine mG_icmp_ge (pc := 7) (tgt := 28) C dX6_thingsRead_7 (by decide) (fun q9 => ?_) (fun q9 => ?_)
  · rw [if_pos q9] at e8
    exact mG_sub (mxLe_n (mxLe_n (mxLe_s (mxLe_n mxLe_z)))) (J4 _ (hx6 _ (Option.some.inj e8).symm))
  · rw [if_neg q9] at e8
    refine mG_aload_n (pc := 10) C dX6_thingsRead_10 rfl ?_
    refine mG_iload_n (pc := 11) C dX6_thingsRead_11 rfl ?_
    refine mG_iload_n (pc := 12) C dX6_thingsRead_12 rfl ?_
    obtain ⟨u10, e11, e8⟩ := mx_bind e8
    obtain ⟨v13, e12, e8⟩ := mx_bind e8
    refine mG_cV (pc := 13) (k' := 0) (n' := 0) 6 [.int s1.2, .int p1] [] C hX dX6_thingsRead_13 lkV_X6_104 rfl rfl e11 (tX6_isRead hl e12) rfl rfl rfl rfl ?_
    obtain ⟨p16, e17, e8⟩ := mx_bind e8
    have J15 : ∀ p16' : Int32, p16' = p16 → mG l Z X 4 0 0 22 [some (.ref p0), some (.int p1), some (.int p16'), some (.int s1.2)] [] h := by
      intro p16' q18
      subst q18
      refine mG_ii (ls' := [some (.ref p0), some (.int p1), some (.int p16'), some (.int (s1.2 + 1))]) (pc := 22) C dX6_thingsRead_22 rfl (kinc1 _) rfl rfl rfl ?_
      refine mG_goto (tgt := 4) (pc := 25) C dX6_thingsRead_25 (by decide) ?_
      exact mG_sub (mxLe_s (mxLe_s (mxLe_s (mxLe_s mxLe_z)))) (hK5 _ (Option.some.inj e8).symm)
    refine mG_if_eq (pc := 16) (tgt := 22) C dX6_thingsRead_16 (by decide) (fun q14 => ?_) (fun q14 => ?_)
    · rw [if_pos q14] at e17
      exact mG_sub (mxLe_s (mxLe_s (mxLe_s (mxLe_s mxLe_z)))) (J15 _ (Option.some.inj e17))
    · rw [if_neg q14] at e17
      refine mG_ii (ls' := [some (.ref p0), some (.int p1), some (.int (s1.1 + 1)), some (.int s1.2)]) (pc := 19) C dX6_thingsRead_19 rfl (kinc1 _) rfl rfl rfl ?_
      exact mG_sub (mxLe_s (mxLe_s (mxLe_s (mxLe_s mxLe_z)))) (J15 _ (Option.some.inj e17))
theorem dX6_leastUnread_0 : decode cX6_leastUnread 0 = .ok (.iconst 0, 1) := by decide +kernel
theorem dX6_leastUnread_1 : decode cX6_leastUnread 1 = .ok (.istore_n 2, 1) := by decide +kernel
theorem dX6_leastUnread_2 : decode cX6_leastUnread 2 = .ok (.iload_n 2, 1) := by decide +kernel
theorem dX6_leastUnread_3 : decode cX6_leastUnread 3 = .ok (.bipush 20, 2) := by decide +kernel
theorem dX6_leastUnread_5 : decode cX6_leastUnread 5 = .ok (.if_icmp .ge 20, 3) := by decide +kernel
theorem dX6_leastUnread_8 : decode cX6_leastUnread 8 = .ok (.aload_n 0, 1) := by decide +kernel
theorem dX6_leastUnread_9 : decode cX6_leastUnread 9 = .ok (.iload_n 2, 1) := by decide +kernel
theorem dX6_leastUnread_10 : decode cX6_leastUnread 10 = .ok (.iload_n 1, 1) := by decide +kernel
theorem dX6_leastUnread_11 : decode cX6_leastUnread 11 = .ok (.invokevirtual 104, 3) := by decide +kernel
theorem dX6_leastUnread_14 : decode cX6_leastUnread 14 = .ok (.ifCond .ne 5, 3) := by decide +kernel
theorem dX6_leastUnread_17 : decode cX6_leastUnread 17 = .ok (.iload_n 2, 1) := by decide +kernel
theorem dX6_leastUnread_18 : decode cX6_leastUnread 18 = .ok (.ireturn, 1) := by decide +kernel
theorem dX6_leastUnread_19 : decode cX6_leastUnread 19 = .ok (.iinc 2 1, 3) := by decide +kernel
theorem dX6_leastUnread_22 : decode cX6_leastUnread 22 = .ok (.goto (-20), 3) := by decide +kernel
theorem dX6_leastUnread_25 : decode cX6_leastUnread 25 = .ok (.iconst (-1), 1) := by decide +kernel
theorem dX6_leastUnread_26 : decode cX6_leastUnread 26 = .ok (.ireturn, 1) := by decide +kernel
def fX6_leastUnread (p0 : Nat) (p1 : Int32) (h : mxH) : Option Int32 := Option.bind (mxLoop (ρ := (Int32 ⊕ Unit)) (fun s1 : Int32 => (if 20 ≤ s1 then some (Sum.inr (Sum.inr ())) else Option.bind (isO h p0 6) (fun u11 => Option.bind (fX6_isRead p0 s1 p1 h) (fun v14 => (if v14 = 0 then some (Sum.inr (Sum.inl s1)) else some (Sum.inl (s1 + 1))))))) mxF 0) (Sum.elim (fun r16 : Int32 => some r16) (fun r18 : Unit => some (-1)))
abbrev rmX6_leastUnread : Room := { frames := 2, cells := 0, slots := 0, locals := 42 }
set_option maxRecDepth 20000 in
theorem tX6_leastUnread {l : Launch} {Z : mxZ} (hl : l.stackTraces = false) {p0 : Nat} {p1 : Int32} {h : mxH} {out : Int32} (hf : fX6_leastUnread p0 p1 h = some out) : mxMet l Z yX6_leastUnread cX6_leastUnread 3 (some .int) rmX6_leastUnread [.ref p0, .int p1] h (.inl (some (.int out))) h := by
  refine mxMet_of (by decide) hl (by simp [Value.category]) (Nat.le_of_ble_eq_true rfl) ?_
  intro X C E hX hin
  unfold fX6_leastUnread at hf
  refine mG_ic (pc := 0) C dX6_leastUnread_0 kI0 ?_
  refine mG_isn (ls' := [some (.ref p0), some (.int p1), some (.int 0)]) (pc := 1) C dX6_leastUnread_1 rfl rfl rfl ?_
  obtain ⟨r2, e3, hf⟩ := mx_bind hf
  have J4 : ∀ r16 : Int32, Sum.inl r16 = r2 → mG l Z X 3 0 0 17 [none, none, some (.int r16)] [] h := by
    intro r16 q17
    subst q17
    rw [Sum.elim_inl] at hf
    refine mG_iload_n (pc := 17) C dX6_leastUnread_17 rfl ?_
    cases hf
    exact mG_ir (pc := 18) C E hX dX6_leastUnread_18 rfl
  have J5 : ∀ r18 : Unit, Sum.inr r18 = r2 → mG l Z X 3 0 0 25 [none, none, none] [] h := by
    intro r18 q19
    subst q19
    rw [Sum.elim_inr] at hf
    refine mG_ic (pc := 25) C dX6_leastUnread_25 kIm1 ?_
    cases hf
    exact mG_ir (pc := 26) C E hX dX6_leastUnread_26 rfl
  refine mG_sub (ls' := [some (.ref p0), some (.int p1), some (.int 0)]) (mxLe_s (mxLe_s (mxLe_s mxLe_z))) (mxLoop_ind (K := fun s1 : Int32 => mG l Z X 3 0 0 2 [some (.ref p0), some (.int p1), some (.int s1)] [] h) ?_ _ _ e3)
  intro s1 o8 e9 hK6 hx7
  refine mG_iload_n (pc := 2) C dX6_leastUnread_2 rfl ?_
  refine mG_bp (pc := 3) C dX6_leastUnread_3 kB20 ?_
  refine mG_icmp_ge (pc := 5) (tgt := 25) C dX6_leastUnread_5 (by decide) (fun q10 => ?_) (fun q10 => ?_)
  · rw [if_pos q10] at e9
    exact mG_sub (mxLe_n (mxLe_n (mxLe_n mxLe_z))) (J5 _ (hx7 _ (Option.some.inj e9).symm))
  · rw [if_neg q10] at e9
    refine mG_aload_n (pc := 8) C dX6_leastUnread_8 rfl ?_
    refine mG_iload_n (pc := 9) C dX6_leastUnread_9 rfl ?_
    refine mG_iload_n (pc := 10) C dX6_leastUnread_10 rfl ?_
    obtain ⟨u11, e12, e9⟩ := mx_bind e9
    obtain ⟨v14, e13, e9⟩ := mx_bind e9
    refine mG_cV (pc := 11) (k' := 0) (n' := 0) 6 [.int s1, .int p1] [] C hX dX6_leastUnread_11 lkV_X6_104 rfl rfl e12 (tX6_isRead hl e13) rfl rfl rfl rfl ?_
    refine mG_if_ne (pc := 14) (tgt := 19) C dX6_leastUnread_14 (by decide) (fun q15 => ?_) (fun q15 => ?_)
    · rw [if_neg q15] at e9
      refine mG_ii (ls' := [some (.ref p0), some (.int p1), some (.int (s1 + 1))]) (pc := 19) C dX6_leastUnread_19 rfl (kinc1 _) rfl rfl rfl ?_
      refine mG_goto (tgt := 2) (pc := 22) C dX6_leastUnread_22 (by decide) ?_
      exact mG_sub (mxLe_s (mxLe_s (mxLe_s mxLe_z))) (hK6 _ (Option.some.inj e9).symm)
    · rw [if_pos q15] at e9
      exact mG_sub (mxLe_n (mxLe_n (mxLe_s mxLe_z))) (J4 _ (hx7 _ (Option.some.inj e9).symm))
theorem dX6_countPreferring_0 : decode cX6_countPreferring 0 = .ok (.iconst 0, 1) := by decide +kernel
theorem dX6_countPreferring_1 : decode cX6_countPreferring 1 = .ok (.istore_n 3, 1) := by decide +kernel
theorem dX6_countPreferring_2 : decode cX6_countPreferring 2 = .ok (.iconst 0, 1) := by decide +kernel
theorem dX6_countPreferring_3 : decode cX6_countPreferring 3 = .ok (.istore 4, 2) := by decide +kernel
theorem dX6_countPreferring_5 : decode cX6_countPreferring 5 = .ok (.iload 4, 2) := by decide +kernel
theorem dX6_countPreferring_7 : decode cX6_countPreferring 7 = .ok (.iconst 5, 1) := by decide +kernel
theorem dX6_countPreferring_8 : decode cX6_countPreferring 8 = .ok (.if_icmp .ge 49, 3) := by decide +kernel
theorem dX6_countPreferring_11 : decode cX6_countPreferring 11 = .ok (.aload_n 0, 1) := by decide +kernel
theorem dX6_countPreferring_12 : decode cX6_countPreferring 12 = .ok (.iload 4, 2) := by decide +kernel
theorem dX6_countPreferring_14 : decode cX6_countPreferring 14 = .ok (.iload_n 1, 1) := by decide +kernel
theorem dX6_countPreferring_15 : decode cX6_countPreferring 15 = .ok (.invokevirtual 101, 3) := by decide +kernel
theorem dX6_countPreferring_18 : decode cX6_countPreferring 18 = .ok (.istore 5, 2) := by decide +kernel
theorem dX6_countPreferring_20 : decode cX6_countPreferring 20 = .ok (.aload_n 0, 1) := by decide +kernel
theorem dX6_countPreferring_21 : decode cX6_countPreferring 21 = .ok (.iload 4, 2) := by decide +kernel
theorem dX6_countPreferring_23 : decode cX6_countPreferring 23 = .ok (.iload_n 2, 1) := by decide +kernel
theorem dX6_countPreferring_24 : decode cX6_countPreferring 24 = .ok (.invokevirtual 101, 3) := by decide +kernel
theorem dX6_countPreferring_27 : decode cX6_countPreferring 27 = .ok (.istore 6, 2) := by decide +kernel
theorem dX6_countPreferring_29 : decode cX6_countPreferring 29 = .ok (.iload 5, 2) := by decide +kernel
theorem dX6_countPreferring_31 : decode cX6_countPreferring 31 = .ok (.iconst (-1), 1) := by decide +kernel
theorem dX6_countPreferring_32 : decode cX6_countPreferring 32 = .ok (.if_icmp .eq 19, 3) := by decide +kernel
theorem dX6_countPreferring_35 : decode cX6_countPreferring 35 = .ok (.iload 6, 2) := by decide +kernel
theorem dX6_countPreferring_37 : decode cX6_countPreferring 37 = .ok (.iconst (-1), 1) := by decide +kernel
theorem dX6_countPreferring_38 : decode cX6_countPreferring 38 = .ok (.if_icmp .eq 10, 3) := by decide +kernel
theorem dX6_countPreferring_41 : decode cX6_countPreferring 41 = .ok (.iload 5, 2) := by decide +kernel
theorem dX6_countPreferring_43 : decode cX6_countPreferring 43 = .ok (.iload 6, 2) := by decide +kernel
theorem dX6_countPreferring_45 : decode cX6_countPreferring 45 = .ok (.if_icmp .ge 6, 3) := by decide +kernel
theorem dX6_countPreferring_48 : decode cX6_countPreferring 48 = .ok (.iinc 3 1, 3) := by decide +kernel
theorem dX6_countPreferring_51 : decode cX6_countPreferring 51 = .ok (.iinc 4 1, 3) := by decide +kernel
theorem dX6_countPreferring_54 : decode cX6_countPreferring 54 = .ok (.goto (-49), 3) := by decide +kernel
theorem dX6_countPreferring_57 : decode cX6_countPreferring 57 = .ok (.iload_n 3, 1) := by decide +kernel
theorem dX6_countPreferring_58 : decode cX6_countPreferring 58 = .ok (.ireturn, 1) := by decide +kernel
def fX6_countPreferring (p0 : Nat) (p1 : Int32) (p2 : Int32) (h : mxH) : Option Int32 := Option.bind (mxLoop (ρ := Int32) (fun s1 : (Int32 × Int32) => (if 5 ≤ s1.2 then some (Sum.inr s1.1) else Option.bind (isO h p0 6) (fun u10 => Option.bind (fX6_placeIn p0 s1.2 p1 h) (fun v13 => Option.bind (isO h p0 6) (fun u14 => Option.bind (fX6_placeIn p0 s1.2 p2 h) (fun v17 => Option.bind (α := Int32) (if v13 = (-1) then some s1.1 else (if v17 = (-1) then some (s1.1 + 1) else (if v17 ≤ v13 then some s1.1 else some (s1.1 + 1)))) (fun p20' : Int32 => some (Sum.inl (p20', s1.2 + 1))))))))) mxF (0, 0)) (fun r25 : Int32 => some r25)
abbrev rmX6_countPreferring : Room := { frames := 2, cells := 0, slots := 0, locals := 42 }
set_option maxRecDepth 20000 in
theorem tX6_countPreferring {l : Launch} {Z : mxZ} (hl : l.stackTraces = false) {p0 : Nat} {p1 : Int32} {p2 : Int32} {h : mxH} {out : Int32} (hf : fX6_countPreferring p0 p1 p2 h = some out) : mxMet l Z yX6_countPreferring cX6_countPreferring 7 (some .int) rmX6_countPreferring [.ref p0, .int p1, .int p2] h (.inl (some (.int out))) h := by
  refine mxMet_of (by decide) hl (by simp [Value.category]) (Nat.le_of_ble_eq_true rfl) ?_
  intro X C E hX hin
  unfold fX6_countPreferring at hf
  refine mG_ic (pc := 0) C dX6_countPreferring_0 kI0 ?_
  refine mG_isn (ls' := [some (.ref p0), some (.int p1), some (.int p2), some (.int 0), none, none, none]) (pc := 1) C dX6_countPreferring_1 rfl rfl rfl ?_
  refine mG_ic (pc := 2) C dX6_countPreferring_2 kI0 ?_
  refine mG_is (ls' := [some (.ref p0), some (.int p1), some (.int p2), some (.int 0), some (.int 0), none, none]) (pc := 3) C dX6_countPreferring_3 rfl rfl rfl ?_
  obtain ⟨r2, e3, hf⟩ := mx_bind hf
  have J4 : ∀ r25 : Int32, r25 = r2 → mG l Z X 7 0 0 57 [none, none, none, some (.int r25), none, none, none] [] h := by
    intro r25 q26
    subst q26
    refine mG_iload_n (pc := 57) C dX6_countPreferring_57 rfl ?_
    cases hf
    exact mG_ir (pc := 58) C E hX dX6_countPreferring_58 rfl
  refine mG_sub (ls' := [some (.ref p0), some (.int p1), some (.int p2), some (.int 0), some (.int 0), none, none]) (mxLe_s (mxLe_s (mxLe_s (mxLe_s (mxLe_s (mxLe_n (mxLe_n mxLe_z))))))) (mxLoop_ind (K := fun s1 : (Int32 × Int32) => mG l Z X 7 0 0 5 [some (.ref p0), some (.int p1), some (.int p2), some (.int s1.1), some (.int s1.2), none, none] [] h) ?_ _ _ e3)
  intro s1 o7 e8 hK5 hx6
  refine mG_iload (pc := 5) C dX6_countPreferring_5 rfl ?_
  refine mG_ic (pc := 7) C dX6_countPreferring_7 kI5 ?_
  refine mG_icmp_ge (pc := 8) (tgt := 57) C dX6_countPreferring_8 (by decide) (fun q9 => ?_) (fun q9 => ?_)
  · rw [if_pos q9] at e8
    exact mG_sub (mxLe_n (mxLe_n (mxLe_n (mxLe_s (mxLe_n (mxLe_n (mxLe_n mxLe_z))))))) (J4 _ (hx6 _ (Option.some.inj e8).symm))
  · rw [if_neg q9] at e8
    refine mG_aload_n (pc := 11) C dX6_countPreferring_11 rfl ?_
    refine mG_iload (pc := 12) C dX6_countPreferring_12 rfl ?_
    refine mG_iload_n (pc := 14) C dX6_countPreferring_14 rfl ?_
    obtain ⟨u10, e11, e8⟩ := mx_bind e8
    obtain ⟨v13, e12, e8⟩ := mx_bind e8
    refine mG_cV (pc := 15) (k' := 0) (n' := 0) 6 [.int s1.2, .int p1] [] C hX dX6_countPreferring_15 lkV_X6_101 rfl rfl e11 (tX6_placeIn hl e12) rfl rfl rfl rfl ?_
    refine mG_is (ls' := [some (.ref p0), some (.int p1), some (.int p2), some (.int s1.1), some (.int s1.2), some (.int v13), none]) (pc := 18) C dX6_countPreferring_18 rfl rfl rfl ?_
    refine mG_aload_n (pc := 20) C dX6_countPreferring_20 rfl ?_
    refine mG_iload (pc := 21) C dX6_countPreferring_21 rfl ?_
    refine mG_iload_n (pc := 23) C dX6_countPreferring_23 rfl ?_
    obtain ⟨u14, e15, e8⟩ := mx_bind e8
    obtain ⟨v17, e16, e8⟩ := mx_bind e8
    refine mG_cV (pc := 24) (k' := 0) (n' := 0) 6 [.int s1.2, .int p2] [] C hX dX6_countPreferring_24 lkV_X6_101 rfl rfl e15 (tX6_placeIn hl e16) rfl rfl rfl rfl ?_
    refine mG_is (ls' := [some (.ref p0), some (.int p1), some (.int p2), some (.int s1.1), some (.int s1.2), some (.int v13), some (.int v17)]) (pc := 27) C dX6_countPreferring_27 rfl rfl rfl ?_
    refine mG_iload (pc := 29) C dX6_countPreferring_29 rfl ?_
    refine mG_ic (pc := 31) C dX6_countPreferring_31 kIm1 ?_
    obtain ⟨p20, e21, e8⟩ := mx_bind e8
    have J19 : ∀ p20' : Int32, p20' = p20 → mG l Z X 7 0 0 51 [some (.ref p0), some (.int p1), some (.int p2), some (.int p20'), some (.int s1.2), none, none] [] h := by
      intro p20' q24
      subst q24
      refine mG_ii (ls' := [some (.ref p0), some (.int p1), some (.int p2), some (.int p20'), some (.int (s1.2 + 1)), none, none]) (pc := 51) C dX6_countPreferring_51 rfl (kinc1 _) rfl rfl rfl ?_
      refine mG_goto (tgt := 5) (pc := 54) C dX6_countPreferring_54 (by decide) ?_
      exact mG_sub (mxLe_s (mxLe_s (mxLe_s (mxLe_s (mxLe_s (mxLe_n (mxLe_n mxLe_z))))))) (hK5 _ (Option.some.inj e8).symm)
    refine mG_icmp_eq (pc := 32) (tgt := 51) C dX6_countPreferring_32 (by decide) (fun q18 => ?_) (fun q18 => ?_)
    · rw [if_pos q18] at e21
      exact mG_sub (mxLe_s (mxLe_s (mxLe_s (mxLe_s (mxLe_s (mxLe_n (mxLe_n mxLe_z))))))) (J19 _ (Option.some.inj e21))
    · rw [if_neg q18] at e21
      refine mG_iload (pc := 35) C dX6_countPreferring_35 rfl ?_
      refine mG_ic (pc := 37) C dX6_countPreferring_37 kIm1 ?_
      refine mG_icmp_eq (pc := 38) (tgt := 48) C dX6_countPreferring_38 (by decide) (fun q22 => ?_) (fun q22 => ?_)
      · rw [if_pos q22] at e21
        refine mG_ii (ls' := [some (.ref p0), some (.int p1), some (.int p2), some (.int (s1.1 + 1)), some (.int s1.2), some (.int v13), some (.int v17)]) (pc := 48) C dX6_countPreferring_48 rfl (kinc1 _) rfl rfl rfl ?_
        exact mG_sub (mxLe_s (mxLe_s (mxLe_s (mxLe_s (mxLe_s (mxLe_n (mxLe_n mxLe_z))))))) (J19 _ (Option.some.inj e21))
      · rw [if_neg q22] at e21
        refine mG_iload (pc := 41) C dX6_countPreferring_41 rfl ?_
        refine mG_iload (pc := 43) C dX6_countPreferring_43 rfl ?_
        refine mG_icmp_ge (pc := 45) (tgt := 51) C dX6_countPreferring_45 (by decide) (fun q23 => ?_) (fun q23 => ?_)
        · rw [if_pos q23] at e21
          exact mG_sub (mxLe_s (mxLe_s (mxLe_s (mxLe_s (mxLe_s (mxLe_n (mxLe_n mxLe_z))))))) (J19 _ (Option.some.inj e21))
        · rw [if_neg q23] at e21
          refine mG_ii (ls' := [some (.ref p0), some (.int p1), some (.int p2), some (.int (s1.1 + 1)), some (.int s1.2), some (.int v13), some (.int v17)]) (pc := 48) C dX6_countPreferring_48 rfl (kinc1 _) rfl rfl rfl ?_
          exact mG_sub (mxLe_s (mxLe_s (mxLe_s (mxLe_s (mxLe_s (mxLe_n (mxLe_n mxLe_z))))))) (J19 _ (Option.some.inj e21))
theorem dX6_isInBoth_0 : decode cX6_isInBoth 0 = .ok (.aload_n 0, 1) := by decide +kernel
theorem dX6_isInBoth_1 : decode cX6_isInBoth 1 = .ok (.iload_n 1, 1) := by decide +kernel
theorem dX6_isInBoth_2 : decode cX6_isInBoth 2 = .ok (.iload_n 3, 1) := by decide +kernel
theorem dX6_isInBoth_3 : decode cX6_isInBoth 3 = .ok (.invokevirtual 78, 3) := by decide +kernel
theorem dX6_isInBoth_6 : decode cX6_isInBoth 6 = .ok (.iconst (-1), 1) := by decide +kernel
theorem dX6_isInBoth_7 : decode cX6_isInBoth 7 = .ok (.if_icmp .eq 17, 3) := by decide +kernel
theorem dX6_isInBoth_10 : decode cX6_isInBoth 10 = .ok (.aload_n 0, 1) := by decide +kernel
theorem dX6_isInBoth_11 : decode cX6_isInBoth 11 = .ok (.iload_n 2, 1) := by decide +kernel
theorem dX6_isInBoth_12 : decode cX6_isInBoth 12 = .ok (.iload_n 3, 1) := by decide +kernel
theorem dX6_isInBoth_13 : decode cX6_isInBoth 13 = .ok (.invokevirtual 78, 3) := by decide +kernel
theorem dX6_isInBoth_16 : decode cX6_isInBoth 16 = .ok (.iconst (-1), 1) := by decide +kernel
theorem dX6_isInBoth_17 : decode cX6_isInBoth 17 = .ok (.if_icmp .eq 7, 3) := by decide +kernel
theorem dX6_isInBoth_20 : decode cX6_isInBoth 20 = .ok (.iconst 1, 1) := by decide +kernel
theorem dX6_isInBoth_21 : decode cX6_isInBoth 21 = .ok (.goto 4, 3) := by decide +kernel
theorem dX6_isInBoth_24 : decode cX6_isInBoth 24 = .ok (.iconst 0, 1) := by decide +kernel
theorem dX6_isInBoth_25 : decode cX6_isInBoth 25 = .ok (.ireturn, 1) := by decide +kernel
def fX6_isInBoth (p0 : Nat) (p1 : Int32) (p2 : Int32) (p3 : Int32) (h : mxH) : Option Int32 := Option.bind (isO h p0 6) (fun u1 => Option.bind (fX6_markOf p0 p1 p3 h) (fun v4 => Option.bind (α := Int32) (if v4 = (-1) then some 0 else Option.bind (isO h p0 6) (fun u9 => Option.bind (fX6_markOf p0 p2 p3 h) (fun v12 => (if v12 = (-1) then some 0 else some 1)))) (fun p7' : Int32 => Option.bind (mxZ1 p7') (fun v14 => some v14))))
abbrev rmX6_isInBoth : Room := { frames := 2, cells := 0, slots := 0, locals := 42 }
set_option maxRecDepth 20000 in
theorem tX6_isInBoth {l : Launch} {Z : mxZ} (hl : l.stackTraces = false) {p0 : Nat} {p1 : Int32} {p2 : Int32} {p3 : Int32} {h : mxH} {out : Int32} (hf : fX6_isInBoth p0 p1 p2 p3 h = some out) : mxMet l Z yX6_isInBoth cX6_isInBoth 4 (some .boolean) rmX6_isInBoth [.ref p0, .int p1, .int p2, .int p3] h (.inl (some (.int out))) h := by
  refine mxMet_of (by decide) hl (by simp [Value.category]) (Nat.le_of_ble_eq_true rfl) ?_
  intro X C E hX hin
  unfold fX6_isInBoth at hf
  refine mG_aload_n (pc := 0) C dX6_isInBoth_0 rfl ?_
  refine mG_iload_n (pc := 1) C dX6_isInBoth_1 rfl ?_
  refine mG_iload_n (pc := 2) C dX6_isInBoth_2 rfl ?_
  obtain ⟨u1, e2, hf⟩ := mx_bind hf
  obtain ⟨v4, e3, hf⟩ := mx_bind hf
  refine mG_cV (pc := 3) (k' := 0) (n' := 0) 6 [.int p1, .int p3] [] C hX dX6_isInBoth_3 lkV_X6_78 rfl rfl e2 (tX6_markOf hl e3) rfl rfl rfl rfl ?_
  refine mG_ic (pc := 6) C dX6_isInBoth_6 kIm1 ?_
  obtain ⟨p7, e8, hf⟩ := mx_bind hf
  have J6 : ∀ p7' : Int32, p7' = p7 → mG l Z X 4 0 0 25 [none, none, none, none] [.int p7'] h := by
    intro p7' q16
    subst q16
    obtain ⟨v14, e15, hf⟩ := mx_bind hf
    cases hf
    exact mG_zr (pc := 25) C e15 E hX dX6_isInBoth_25 rfl
  refine mG_icmp_eq (pc := 7) (tgt := 24) C dX6_isInBoth_7 (by decide) (fun q5 => ?_) (fun q5 => ?_)
  · rw [if_pos q5] at e8
    refine mG_ic (pc := 24) C dX6_isInBoth_24 kI0 ?_
    exact mG_sub (mxLe_n (mxLe_n (mxLe_n (mxLe_n mxLe_z)))) (J6 _ (Option.some.inj e8))
  · rw [if_neg q5] at e8
    refine mG_aload_n (pc := 10) C dX6_isInBoth_10 rfl ?_
    refine mG_iload_n (pc := 11) C dX6_isInBoth_11 rfl ?_
    refine mG_iload_n (pc := 12) C dX6_isInBoth_12 rfl ?_
    obtain ⟨u9, e10, e8⟩ := mx_bind e8
    obtain ⟨v12, e11, e8⟩ := mx_bind e8
    refine mG_cV (pc := 13) (k' := 0) (n' := 0) 6 [.int p2, .int p3] [] C hX dX6_isInBoth_13 lkV_X6_78 rfl rfl e10 (tX6_markOf hl e11) rfl rfl rfl rfl ?_
    refine mG_ic (pc := 16) C dX6_isInBoth_16 kIm1 ?_
    refine mG_icmp_eq (pc := 17) (tgt := 24) C dX6_isInBoth_17 (by decide) (fun q13 => ?_) (fun q13 => ?_)
    · rw [if_pos q13] at e8
      refine mG_ic (pc := 24) C dX6_isInBoth_24 kI0 ?_
      exact mG_sub (mxLe_n (mxLe_n (mxLe_n (mxLe_n mxLe_z)))) (J6 _ (Option.some.inj e8))
    · rw [if_neg q13] at e8
      refine mG_ic (pc := 20) C dX6_isInBoth_20 kI1 ?_
      refine mG_goto (tgt := 25) (pc := 21) C dX6_isInBoth_21 (by decide) ?_
      exact mG_sub (mxLe_n (mxLe_n (mxLe_n (mxLe_n mxLe_z)))) (J6 _ (Option.some.inj e8))
theorem dX6_countCommon_0 : decode cX6_countCommon 0 = .ok (.iconst 0, 1) := by decide +kernel
theorem dX6_countCommon_1 : decode cX6_countCommon 1 = .ok (.istore_n 3, 1) := by decide +kernel
theorem dX6_countCommon_2 : decode cX6_countCommon 2 = .ok (.iconst 0, 1) := by decide +kernel
theorem dX6_countCommon_3 : decode cX6_countCommon 3 = .ok (.istore 4, 2) := by decide +kernel
theorem dX6_countCommon_5 : decode cX6_countCommon 5 = .ok (.iload 4, 2) := by decide +kernel
theorem dX6_countCommon_7 : decode cX6_countCommon 7 = .ok (.bipush 20, 2) := by decide +kernel
theorem dX6_countCommon_9 : decode cX6_countCommon 9 = .ok (.if_icmp .ge 23, 3) := by decide +kernel
theorem dX6_countCommon_12 : decode cX6_countCommon 12 = .ok (.aload_n 0, 1) := by decide +kernel
theorem dX6_countCommon_13 : decode cX6_countCommon 13 = .ok (.iload_n 1, 1) := by decide +kernel
theorem dX6_countCommon_14 : decode cX6_countCommon 14 = .ok (.iload_n 2, 1) := by decide +kernel
theorem dX6_countCommon_15 : decode cX6_countCommon 15 = .ok (.iload 4, 2) := by decide +kernel
theorem dX6_countCommon_17 : decode cX6_countCommon 17 = .ok (.invokevirtual 108, 3) := by decide +kernel
theorem dX6_countCommon_20 : decode cX6_countCommon 20 = .ok (.ifCond .eq 6, 3) := by decide +kernel
theorem dX6_countCommon_23 : decode cX6_countCommon 23 = .ok (.iinc 3 1, 3) := by decide +kernel
theorem dX6_countCommon_26 : decode cX6_countCommon 26 = .ok (.iinc 4 1, 3) := by decide +kernel
theorem dX6_countCommon_29 : decode cX6_countCommon 29 = .ok (.goto (-24), 3) := by decide +kernel
theorem dX6_countCommon_32 : decode cX6_countCommon 32 = .ok (.iload_n 3, 1) := by decide +kernel
theorem dX6_countCommon_33 : decode cX6_countCommon 33 = .ok (.ireturn, 1) := by decide +kernel
def fX6_countCommon (p0 : Nat) (p1 : Int32) (p2 : Int32) (h : mxH) : Option Int32 := Option.bind (mxLoop (ρ := Int32) (fun s1 : (Int32 × Int32) => (if 20 ≤ s1.2 then some (Sum.inr s1.1) else Option.bind (isO h p0 6) (fun u10 => Option.bind (fX6_isInBoth p0 p1 p2 s1.2 h) (fun v13 => Option.bind (α := Int32) (if v13 = 0 then some s1.1 else some (s1.1 + 1)) (fun p16' : Int32 => some (Sum.inl (p16', s1.2 + 1))))))) mxF (0, 0)) (fun r19 : Int32 => some r19)
abbrev rmX6_countCommon : Room := { frames := 3, cells := 0, slots := 0, locals := 65 }
set_option maxRecDepth 20000 in
theorem tX6_countCommon {l : Launch} {Z : mxZ} (hl : l.stackTraces = false) {p0 : Nat} {p1 : Int32} {p2 : Int32} {h : mxH} {out : Int32} (hf : fX6_countCommon p0 p1 p2 h = some out) : mxMet l Z yX6_countCommon cX6_countCommon 5 (some .int) rmX6_countCommon [.ref p0, .int p1, .int p2] h (.inl (some (.int out))) h := by
  refine mxMet_of (by decide) hl (by simp [Value.category]) (Nat.le_of_ble_eq_true rfl) ?_
  intro X C E hX hin
  unfold fX6_countCommon at hf
  refine mG_ic (pc := 0) C dX6_countCommon_0 kI0 ?_
  refine mG_isn (ls' := [some (.ref p0), some (.int p1), some (.int p2), some (.int 0), none]) (pc := 1) C dX6_countCommon_1 rfl rfl rfl ?_
  refine mG_ic (pc := 2) C dX6_countCommon_2 kI0 ?_
  refine mG_is (ls' := [some (.ref p0), some (.int p1), some (.int p2), some (.int 0), some (.int 0)]) (pc := 3) C dX6_countCommon_3 rfl rfl rfl ?_
  obtain ⟨r2, e3, hf⟩ := mx_bind hf
  have J4 : ∀ r19 : Int32, r19 = r2 → mG l Z X 5 0 0 32 [none, none, none, some (.int r19), none] [] h := by
    intro r19 q20
    subst q20
    refine mG_iload_n (pc := 32) C dX6_countCommon_32 rfl ?_
    cases hf
    exact mG_ir (pc := 33) C E hX dX6_countCommon_33 rfl
  refine mG_sub (ls' := [some (.ref p0), some (.int p1), some (.int p2), some (.int 0), some (.int 0)]) (mxLe_s (mxLe_s (mxLe_s (mxLe_s (mxLe_s mxLe_z))))) (mxLoop_ind (K := fun s1 : (Int32 × Int32) => mG l Z X 5 0 0 5 [some (.ref p0), some (.int p1), some (.int p2), some (.int s1.1), some (.int s1.2)] [] h) ?_ _ _ e3)
  intro s1 o7 e8 hK5 hx6
  refine mG_iload (pc := 5) C dX6_countCommon_5 rfl ?_
  refine mG_bp (pc := 7) C dX6_countCommon_7 kB20 ?_
  refine mG_icmp_ge (pc := 9) (tgt := 32) C dX6_countCommon_9 (by decide) (fun q9 => ?_) (fun q9 => ?_)
  · rw [if_pos q9] at e8
    exact mG_sub (mxLe_n (mxLe_n (mxLe_n (mxLe_s (mxLe_n mxLe_z))))) (J4 _ (hx6 _ (Option.some.inj e8).symm))
  · rw [if_neg q9] at e8
    refine mG_aload_n (pc := 12) C dX6_countCommon_12 rfl ?_
    refine mG_iload_n (pc := 13) C dX6_countCommon_13 rfl ?_
    refine mG_iload_n (pc := 14) C dX6_countCommon_14 rfl ?_
    refine mG_iload (pc := 15) C dX6_countCommon_15 rfl ?_
    obtain ⟨u10, e11, e8⟩ := mx_bind e8
    obtain ⟨v13, e12, e8⟩ := mx_bind e8
    refine mG_cV (pc := 17) (k' := 0) (n' := 0) 6 [.int p1, .int p2, .int s1.2] [] C hX dX6_countCommon_17 lkV_X6_108 rfl rfl e11 (tX6_isInBoth hl e12) rfl rfl rfl rfl ?_
    obtain ⟨p16, e17, e8⟩ := mx_bind e8
    have J15 : ∀ p16' : Int32, p16' = p16 → mG l Z X 5 0 0 26 [some (.ref p0), some (.int p1), some (.int p2), some (.int p16'), some (.int s1.2)] [] h := by
      intro p16' q18
      subst q18
      refine mG_ii (ls' := [some (.ref p0), some (.int p1), some (.int p2), some (.int p16'), some (.int (s1.2 + 1))]) (pc := 26) C dX6_countCommon_26 rfl (kinc1 _) rfl rfl rfl ?_
      refine mG_goto (tgt := 5) (pc := 29) C dX6_countCommon_29 (by decide) ?_
      exact mG_sub (mxLe_s (mxLe_s (mxLe_s (mxLe_s (mxLe_s mxLe_z))))) (hK5 _ (Option.some.inj e8).symm)
    refine mG_if_eq (pc := 20) (tgt := 26) C dX6_countCommon_20 (by decide) (fun q14 => ?_) (fun q14 => ?_)
    · rw [if_pos q14] at e17
      exact mG_sub (mxLe_s (mxLe_s (mxLe_s (mxLe_s (mxLe_s mxLe_z))))) (J15 _ (Option.some.inj e17))
    · rw [if_neg q14] at e17
      refine mG_ii (ls' := [some (.ref p0), some (.int p1), some (.int p2), some (.int (s1.1 + 1)), some (.int s1.2)]) (pc := 23) C dX6_countCommon_23 rfl (kinc1 _) rfl rfl rfl ?_
      exact mG_sub (mxLe_s (mxLe_s (mxLe_s (mxLe_s (mxLe_s mxLe_z))))) (J15 _ (Option.some.inj e17))
theorem dX6_commonOn_0 : decode cX6_commonOn 0 = .ok (.iconst 0, 1) := by decide +kernel
theorem dX6_commonOn_1 : decode cX6_commonOn 1 = .ok (.istore 4, 2) := by decide +kernel
theorem dX6_commonOn_3 : decode cX6_commonOn 3 = .ok (.iconst 0, 1) := by decide +kernel
theorem dX6_commonOn_4 : decode cX6_commonOn 4 = .ok (.istore 5, 2) := by decide +kernel
theorem dX6_commonOn_6 : decode cX6_commonOn 6 = .ok (.iload 5, 2) := by decide +kernel
theorem dX6_commonOn_8 : decode cX6_commonOn 8 = .ok (.bipush 20, 2) := by decide +kernel
theorem dX6_commonOn_10 : decode cX6_commonOn 10 = .ok (.if_icmp .ge 32, 3) := by decide +kernel
theorem dX6_commonOn_13 : decode cX6_commonOn 13 = .ok (.aload_n 0, 1) := by decide +kernel
theorem dX6_commonOn_14 : decode cX6_commonOn 14 = .ok (.iload_n 1, 1) := by decide +kernel
theorem dX6_commonOn_15 : decode cX6_commonOn 15 = .ok (.iload_n 2, 1) := by decide +kernel
theorem dX6_commonOn_16 : decode cX6_commonOn 16 = .ok (.iload 5, 2) := by decide +kernel
theorem dX6_commonOn_18 : decode cX6_commonOn 18 = .ok (.invokevirtual 108, 3) := by decide +kernel
theorem dX6_commonOn_21 : decode cX6_commonOn 21 = .ok (.ifCond .eq 15, 3) := by decide +kernel
theorem dX6_commonOn_24 : decode cX6_commonOn 24 = .ok (.iload 4, 2) := by decide +kernel
theorem dX6_commonOn_26 : decode cX6_commonOn 26 = .ok (.iload_n 3, 1) := by decide +kernel
theorem dX6_commonOn_27 : decode cX6_commonOn 27 = .ok (.if_icmp .ne 6, 3) := by decide +kernel
theorem dX6_commonOn_30 : decode cX6_commonOn 30 = .ok (.iload 5, 2) := by decide +kernel
theorem dX6_commonOn_32 : decode cX6_commonOn 32 = .ok (.ireturn, 1) := by decide +kernel
theorem dX6_commonOn_33 : decode cX6_commonOn 33 = .ok (.iinc 4 1, 3) := by decide +kernel
theorem dX6_commonOn_36 : decode cX6_commonOn 36 = .ok (.iinc 5 1, 3) := by decide +kernel
theorem dX6_commonOn_39 : decode cX6_commonOn 39 = .ok (.goto (-33), 3) := by decide +kernel
theorem dX6_commonOn_42 : decode cX6_commonOn 42 = .ok (.iconst (-1), 1) := by decide +kernel
theorem dX6_commonOn_43 : decode cX6_commonOn 43 = .ok (.ireturn, 1) := by decide +kernel
def fX6_commonOn (p0 : Nat) (p1 : Int32) (p2 : Int32) (p3 : Int32) (h : mxH) : Option Int32 := Option.bind (mxLoop (ρ := (Int32 ⊕ Unit)) (fun s1 : (Int32 × Int32) => (if 20 ≤ s1.2 then some (Sum.inr (Sum.inr ())) else Option.bind (isO h p0 6) (fun u11 => Option.bind (fX6_isInBoth p0 p1 p2 s1.2 h) (fun v14 => (if v14 = 0 then some (Sum.inl (s1.1, s1.2 + 1)) else (if s1.1 = p3 then some (Sum.inr (Sum.inl s1.2)) else some (Sum.inl (s1.1 + 1, s1.2 + 1)))))))) mxF (0, 0)) (Sum.elim (fun r17 : Int32 => some r17) (fun r19 : Unit => some (-1)))
abbrev rmX6_commonOn : Room := { frames := 3, cells := 0, slots := 0, locals := 65 }
set_option maxRecDepth 20000 in
theorem tX6_commonOn {l : Launch} {Z : mxZ} (hl : l.stackTraces = false) {p0 : Nat} {p1 : Int32} {p2 : Int32} {p3 : Int32} {h : mxH} {out : Int32} (hf : fX6_commonOn p0 p1 p2 p3 h = some out) : mxMet l Z yX6_commonOn cX6_commonOn 6 (some .int) rmX6_commonOn [.ref p0, .int p1, .int p2, .int p3] h (.inl (some (.int out))) h := by
  refine mxMet_of (by decide) hl (by simp [Value.category]) (Nat.le_of_ble_eq_true rfl) ?_
  intro X C E hX hin
  unfold fX6_commonOn at hf
  refine mG_ic (pc := 0) C dX6_commonOn_0 kI0 ?_
  refine mG_is (ls' := [some (.ref p0), some (.int p1), some (.int p2), some (.int p3), some (.int 0), none]) (pc := 1) C dX6_commonOn_1 rfl rfl rfl ?_
  refine mG_ic (pc := 3) C dX6_commonOn_3 kI0 ?_
  refine mG_is (ls' := [some (.ref p0), some (.int p1), some (.int p2), some (.int p3), some (.int 0), some (.int 0)]) (pc := 4) C dX6_commonOn_4 rfl rfl rfl ?_
  obtain ⟨r2, e3, hf⟩ := mx_bind hf
  have J4 : ∀ r17 : Int32, Sum.inl r17 = r2 → mG l Z X 6 0 0 30 [none, none, none, none, none, some (.int r17)] [] h := by
    intro r17 q18
    subst q18
    rw [Sum.elim_inl] at hf
    refine mG_iload (pc := 30) C dX6_commonOn_30 rfl ?_
    cases hf
    exact mG_ir (pc := 32) C E hX dX6_commonOn_32 rfl
  have J5 : ∀ r19 : Unit, Sum.inr r19 = r2 → mG l Z X 6 0 0 42 [none, none, none, none, none, none] [] h := by
    intro r19 q20
    subst q20
    rw [Sum.elim_inr] at hf
    refine mG_ic (pc := 42) C dX6_commonOn_42 kIm1 ?_
    cases hf
    exact mG_ir (pc := 43) C E hX dX6_commonOn_43 rfl
  refine mG_sub (ls' := [some (.ref p0), some (.int p1), some (.int p2), some (.int p3), some (.int 0), some (.int 0)]) (mxLe_s (mxLe_s (mxLe_s (mxLe_s (mxLe_s (mxLe_s mxLe_z)))))) (mxLoop_ind (K := fun s1 : (Int32 × Int32) => mG l Z X 6 0 0 6 [some (.ref p0), some (.int p1), some (.int p2), some (.int p3), some (.int s1.1), some (.int s1.2)] [] h) ?_ _ _ e3)
  intro s1 o8 e9 hK6 hx7
  refine mG_iload (pc := 6) C dX6_commonOn_6 rfl ?_
  refine mG_bp (pc := 8) C dX6_commonOn_8 kB20 ?_
  refine mG_icmp_ge (pc := 10) (tgt := 42) C dX6_commonOn_10 (by decide) (fun q10 => ?_) (fun q10 => ?_)
  · rw [if_pos q10] at e9
    exact mG_sub (mxLe_n (mxLe_n (mxLe_n (mxLe_n (mxLe_n (mxLe_n mxLe_z)))))) (J5 _ (hx7 _ (Option.some.inj e9).symm))
  · rw [if_neg q10] at e9
    refine mG_aload_n (pc := 13) C dX6_commonOn_13 rfl ?_
    refine mG_iload_n (pc := 14) C dX6_commonOn_14 rfl ?_
    refine mG_iload_n (pc := 15) C dX6_commonOn_15 rfl ?_
    refine mG_iload (pc := 16) C dX6_commonOn_16 rfl ?_
    obtain ⟨u11, e12, e9⟩ := mx_bind e9
    obtain ⟨v14, e13, e9⟩ := mx_bind e9
    refine mG_cV (pc := 18) (k' := 0) (n' := 0) 6 [.int p1, .int p2, .int s1.2] [] C hX dX6_commonOn_18 lkV_X6_108 rfl rfl e12 (tX6_isInBoth hl e13) rfl rfl rfl rfl ?_
    refine mG_if_eq (pc := 21) (tgt := 36) C dX6_commonOn_21 (by decide) (fun q15 => ?_) (fun q15 => ?_)
    · rw [if_pos q15] at e9
      refine mG_ii (ls' := [some (.ref p0), some (.int p1), some (.int p2), some (.int p3), some (.int s1.1), some (.int (s1.2 + 1))]) (pc := 36) C dX6_commonOn_36 rfl (kinc1 _) rfl rfl rfl ?_
      refine mG_goto (tgt := 6) (pc := 39) C dX6_commonOn_39 (by decide) ?_
      exact mG_sub (mxLe_s (mxLe_s (mxLe_s (mxLe_s (mxLe_s (mxLe_s mxLe_z)))))) (hK6 _ (Option.some.inj e9).symm)
    · rw [if_neg q15] at e9
      refine mG_iload (pc := 24) C dX6_commonOn_24 rfl ?_
      refine mG_iload_n (pc := 26) C dX6_commonOn_26 rfl ?_
      refine mG_icmp_ne (pc := 27) (tgt := 33) C dX6_commonOn_27 (by decide) (fun q16 => ?_) (fun q16 => ?_)
      · rw [if_neg q16] at e9
        refine mG_ii (ls' := [some (.ref p0), some (.int p1), some (.int p2), some (.int p3), some (.int (s1.1 + 1)), some (.int s1.2)]) (pc := 33) C dX6_commonOn_33 rfl (kinc1 _) rfl rfl rfl ?_
        refine mG_ii (ls' := [some (.ref p0), some (.int p1), some (.int p2), some (.int p3), some (.int (s1.1 + 1)), some (.int (s1.2 + 1))]) (pc := 36) C dX6_commonOn_36 rfl (kinc1 _) rfl rfl rfl ?_
        refine mG_goto (tgt := 6) (pc := 39) C dX6_commonOn_39 (by decide) ?_
        exact mG_sub (mxLe_s (mxLe_s (mxLe_s (mxLe_s (mxLe_s (mxLe_s mxLe_z)))))) (hK6 _ (Option.some.inj e9).symm)
      · rw [if_pos q16] at e9
        exact mG_sub (mxLe_n (mxLe_n (mxLe_n (mxLe_n (mxLe_n (mxLe_s mxLe_z)))))) (J4 _ (hx7 _ (Option.some.inj e9).symm))
