/-! printed by wip/gen/emit.py: for each method its function on the mini machine, and that the machine walks as the function says -/
theorem dX2_init_0 : decode cX2_init 0 = .ok (.aload_n 0, 1) := by decide +kernel
theorem dX2_init_1 : decode cX2_init 1 = .ok (.invokespecial 3, 3) := by decide +kernel
theorem dX2_init_4 : decode cX2_init 4 = .ok (.aload_n 0, 1) := by decide +kernel
theorem dX2_init_5 : decode cX2_init 5 = .ok (.bipush 10, 2) := by decide +kernel
theorem dX2_init_7 : decode cX2_init 7 = .ok (.newarray .int, 2) := by decide +kernel
theorem dX2_init_9 : decode cX2_init 9 = .ok (.putfield 9, 3) := by decide +kernel
theorem dX2_init_12 : decode cX2_init 12 = .ok (.aload_n 0, 1) := by decide +kernel
theorem dX2_init_13 : decode cX2_init 13 = .ok (.iconst 5, 1) := by decide +kernel
theorem dX2_init_14 : decode cX2_init 14 = .ok (.putfield 15, 3) := by decide +kernel
theorem dX2_init_17 : decode cX2_init 17 = .ok (.aload_n 0, 1) := by decide +kernel
theorem dX2_init_18 : decode cX2_init 18 = .ok (.iconst 0, 1) := by decide +kernel
theorem dX2_init_19 : decode cX2_init 19 = .ok (.putfield 19, 3) := by decide +kernel
theorem dX2_init_22 : decode cX2_init 22 = .ok (.aload_n 0, 1) := by decide +kernel
theorem dX2_init_23 : decode cX2_init 23 = .ok (.bipush 100, 2) := by decide +kernel
theorem dX2_init_25 : decode cX2_init 25 = .ok (.newarray .int, 2) := by decide +kernel
theorem dX2_init_27 : decode cX2_init 27 = .ok (.putfield 22, 3) := by decide +kernel
theorem dX2_init_30 : decode cX2_init 30 = .ok (.aload_n 0, 1) := by decide +kernel
theorem dX2_init_31 : decode cX2_init 31 = .ok (.iconst 0, 1) := by decide +kernel
theorem dX2_init_32 : decode cX2_init 32 = .ok (.putfield 25, 3) := by decide +kernel
theorem dX2_init_35 : decode cX2_init 35 = .ok (.aload_n 0, 1) := by decide +kernel
theorem dX2_init_36 : decode cX2_init 36 = .ok (.iconst 2, 1) := by decide +kernel
theorem dX2_init_37 : decode cX2_init 37 = .ok (.putfield 28, 3) := by decide +kernel
theorem dX2_init_40 : decode cX2_init 40 = .ok (.aload_n 0, 1) := by decide +kernel
theorem dX2_init_41 : decode cX2_init 41 = .ok (.iconst 4, 1) := by decide +kernel
theorem dX2_init_42 : decode cX2_init 42 = .ok (.newarray .int, 2) := by decide +kernel
theorem dX2_init_44 : decode cX2_init 44 = .ok (.putfield 31, 3) := by decide +kernel
theorem dX2_init_47 : decode cX2_init 47 = .ok (.aload_n 0, 1) := by decide +kernel
theorem dX2_init_48 : decode cX2_init 48 = .ok (.iconst 4, 1) := by decide +kernel
theorem dX2_init_49 : decode cX2_init 49 = .ok (.newarray .int, 2) := by decide +kernel
theorem dX2_init_51 : decode cX2_init 51 = .ok (.putfield 34, 3) := by decide +kernel
theorem dX2_init_54 : decode cX2_init 54 = .ok (.aload_n 0, 1) := by decide +kernel
theorem dX2_init_55 : decode cX2_init 55 = .ok (.iconst 0, 1) := by decide +kernel
theorem dX2_init_56 : decode cX2_init 56 = .ok (.putfield 37, 3) := by decide +kernel
theorem dX2_init_59 : decode cX2_init 59 = .ok (.iconst 0, 1) := by decide +kernel
theorem dX2_init_60 : decode cX2_init 60 = .ok (.istore_n 1, 1) := by decide +kernel
theorem dX2_init_61 : decode cX2_init 61 = .ok (.iload_n 1, 1) := by decide +kernel
theorem dX2_init_62 : decode cX2_init 62 = .ok (.iconst 4, 1) := by decide +kernel
theorem dX2_init_63 : decode cX2_init 63 = .ok (.if_icmp .ge 16, 3) := by decide +kernel
theorem dX2_init_66 : decode cX2_init 66 = .ok (.aload_n 0, 1) := by decide +kernel
theorem dX2_init_67 : decode cX2_init 67 = .ok (.getfield 31, 3) := by decide +kernel
theorem dX2_init_70 : decode cX2_init 70 = .ok (.iload_n 1, 1) := by decide +kernel
theorem dX2_init_71 : decode cX2_init 71 = .ok (.iconst (-1), 1) := by decide +kernel
theorem dX2_init_72 : decode cX2_init 72 = .ok (.iastore, 1) := by decide +kernel
theorem dX2_init_73 : decode cX2_init 73 = .ok (.iinc 1 1, 3) := by decide +kernel
theorem dX2_init_76 : decode cX2_init 76 = .ok (.goto (-15), 3) := by decide +kernel
theorem dX2_init_79 : decode cX2_init 79 = .ok (.return_, 1) := by decide +kernel
def fX2_init (p0 : Nat) (h : mxH) : Option mxH := Option.bind (nwI h 10) (fun h1 => Option.bind (pR h1 p0 2 0 h.2) (fun h3 => Option.bind (pI h3 p0 2 1 5) (fun h5 => Option.bind (pI h5 p0 2 2 0) (fun h7 => Option.bind (nwI h7 100) (fun h9 => Option.bind (pR h9 p0 2 3 h7.2) (fun h11 => Option.bind (pI h11 p0 2 4 0) (fun h13 => Option.bind (pI h13 p0 2 5 2) (fun h15 => Option.bind (nwI h15 4) (fun h17 => Option.bind (pR h17 p0 2 6 h15.2) (fun h19 => Option.bind (nwI h19 4) (fun h21 => Option.bind (pR h21 p0 2 7 h19.2) (fun h23 => Option.bind (pI h23 p0 2 8 0) (fun h25 => Option.bind (mxLoop (ρ := mxH) (fun s27 : (Int32 × mxH) => (if 4 ≤ s27.1 then some (Sum.inr s27.2) else Option.bind (gR s27.2 p0 2 6) (fun r36 => Option.bind (stI s27.2 r36 s27.1 (-1)) (fun h38 => some (Sum.inl (s27.1 + 1, h38)))))) mxF (0, h25)) (fun r40 : mxH => some r40))))))))))))))
abbrev rmX2_init : Room := { frames := 1, cells := 4, slots := 118, locals := 21 }
set_option maxRecDepth 20000 in
theorem tX2_init {l : Launch} {Z : mxZ} (hl : l.stackTraces = false) {p0 : Nat} {h : mxH} {out : mxH} (hf : fX2_init p0 h = some out) : mxMet l Z yX2_init cX2_init 2 (none) rmX2_init [.ref p0] h (.inl none) out := by
  refine mxMet_of (by decide) hl (by simp [Value.category]) (Nat.le_of_ble_eq_true rfl) ?_
  intro X C E hX hin
  unfold fX2_init at hf
  refine mG_aload_n (pc := 0) C dX2_init_0 rfl ?_
  refine mG_oI (pc := 1) C hX dX2_init_1 oi_X2_3 rfl rfl ?_
  refine mG_aload_n (pc := 4) C dX2_init_4 rfl ?_
  refine mG_bp (pc := 5) C dX2_init_5 kB10 ?_
  obtain ⟨h1, e2, hf⟩ := mx_bind hf
  refine mG_nwI (N := 10) (pc := 7) (k' := 1) (n' := 10) C hX dX2_init_7 w272 (by decide) (by decide) rfl e2 rfl rfl rfl ?_
  obtain ⟨h3, e4, hf⟩ := mx_bind hf
  refine mG_putR (pc := 9) C dX2_init_9 fl_X2_9 rfl (hin rfl) ⟨_, _, rfl, w279⟩ (fun _ => rfl) (fun _ => rfl) e4 ?_
  refine mG_aload_n (pc := 12) C dX2_init_12 rfl ?_
  refine mG_ic (pc := 13) C dX2_init_13 kI5 ?_
  obtain ⟨h5, e6, hf⟩ := mx_bind hf
  refine mG_putI (pc := 14) C dX2_init_14 fl_X2_15 e6 ?_
  refine mG_aload_n (pc := 17) C dX2_init_17 rfl ?_
  refine mG_ic (pc := 18) C dX2_init_18 kI0 ?_
  obtain ⟨h7, e8, hf⟩ := mx_bind hf
  refine mG_putI (pc := 19) C dX2_init_19 fl_X2_19 e8 ?_
  refine mG_aload_n (pc := 22) C dX2_init_22 rfl ?_
  refine mG_bp (pc := 23) C dX2_init_23 kB100 ?_
  obtain ⟨h9, e10, hf⟩ := mx_bind hf
  refine mG_nwI (N := 100) (pc := 25) (k' := 2) (n' := 110) C hX dX2_init_25 w272 (by decide) (by decide) rfl e10 rfl rfl rfl ?_
  obtain ⟨h11, e12, hf⟩ := mx_bind hf
  refine mG_putR (pc := 27) C dX2_init_27 fl_X2_22 rfl (hin rfl) ⟨_, _, rfl, w283⟩ (fun _ => rfl) (fun _ => rfl) e12 ?_
  refine mG_aload_n (pc := 30) C dX2_init_30 rfl ?_
  refine mG_ic (pc := 31) C dX2_init_31 kI0 ?_
  obtain ⟨h13, e14, hf⟩ := mx_bind hf
  refine mG_putI (pc := 32) C dX2_init_32 fl_X2_25 e14 ?_
  refine mG_aload_n (pc := 35) C dX2_init_35 rfl ?_
  refine mG_ic (pc := 36) C dX2_init_36 kI2 ?_
  obtain ⟨h15, e16, hf⟩ := mx_bind hf
  refine mG_putI (pc := 37) C dX2_init_37 fl_X2_28 e16 ?_
  refine mG_aload_n (pc := 40) C dX2_init_40 rfl ?_
  refine mG_ic (pc := 41) C dX2_init_41 kI4 ?_
  obtain ⟨h17, e18, hf⟩ := mx_bind hf
  refine mG_nwI (N := 4) (pc := 42) (k' := 3) (n' := 114) C hX dX2_init_42 w272 (by decide) (by decide) rfl e18 rfl rfl rfl ?_
  obtain ⟨h19, e20, hf⟩ := mx_bind hf
  refine mG_putR (pc := 44) C dX2_init_44 fl_X2_31 rfl (hin rfl) ⟨_, _, rfl, w287⟩ (fun _ => rfl) (fun _ => rfl) e20 ?_
  refine mG_aload_n (pc := 47) C dX2_init_47 rfl ?_
  refine mG_ic (pc := 48) C dX2_init_48 kI4 ?_
  obtain ⟨h21, e22, hf⟩ := mx_bind hf
  refine mG_nwI (N := 4) (pc := 49) (k' := 4) (n' := 118) C hX dX2_init_49 w272 (by decide) (by decide) rfl e22 rfl rfl rfl ?_
  obtain ⟨h23, e24, hf⟩ := mx_bind hf
  refine mG_putR (pc := 51) C dX2_init_51 fl_X2_34 rfl (hin rfl) ⟨_, _, rfl, w288⟩ (fun _ => rfl) (fun _ => rfl) e24 ?_
  refine mG_aload_n (pc := 54) C dX2_init_54 rfl ?_
  refine mG_ic (pc := 55) C dX2_init_55 kI0 ?_
  obtain ⟨h25, e26, hf⟩ := mx_bind hf
  refine mG_putI (pc := 56) C dX2_init_56 fl_X2_37 e26 ?_
  refine mG_ic (pc := 59) C dX2_init_59 kI0 ?_
  refine mG_isn (ls' := [some (.ref p0), some (.int 0)]) (pc := 60) C dX2_init_60 rfl rfl rfl ?_
  obtain ⟨r28, e29, hf⟩ := mx_bind hf
  have J30 : ∀ r40 : mxH, r40 = r28 → mG l Z X 2 4 118 79 [none, none] [] r40 := by
    intro r40 q41
    subst q41
    cases hf
    exact mG_vr (pc := 79) C E hX dX2_init_79 rfl
  refine mG_sub (ls' := [some (.ref p0), some (.int 0)]) (mxLe_s (mxLe_s mxLe_z)) (mxLoop_ind (K := fun s27 : (Int32 × mxH) => mG l Z X 2 4 118 61 [some (.ref p0), some (.int s27.1)] [] s27.2) ?_ _ _ e29)
  intro s27 o33 e34 hK31 hx32
  refine mG_iload_n (pc := 61) C dX2_init_61 rfl ?_
  refine mG_ic (pc := 62) C dX2_init_62 kI4 ?_
  refine mG_icmp_ge (pc := 63) (tgt := 79) C dX2_init_63 (by decide) (fun q35 => ?_) (fun q35 => ?_)
  · rw [if_pos q35] at e34
    exact mG_sub (mxLe_n (mxLe_n mxLe_z)) (J30 _ (hx32 _ (Option.some.inj e34).symm))
  · rw [if_neg q35] at e34
    refine mG_aload_n (pc := 66) C dX2_init_66 rfl ?_
    obtain ⟨r36, e37, e34⟩ := mx_bind e34
    refine mG_getR (pc := 67) C dX2_init_67 fl_X2_31 e37 ?_
    refine mG_iload_n (pc := 70) C dX2_init_70 rfl ?_
    refine mG_ic (pc := 71) C dX2_init_71 kIm1 ?_
    obtain ⟨h38, e39, e34⟩ := mx_bind e34
    refine mG_iastore (pc := 72) C dX2_init_72 e39 ?_
    refine mG_ii (ls' := [some (.ref p0), some (.int (s27.1 + 1))]) (pc := 73) C dX2_init_73 rfl (kinc1 _) rfl rfl rfl ?_
    refine mG_goto (tgt := 61) (pc := 76) C dX2_init_76 (by decide) ?_
    exact mG_sub (mxLe_s (mxLe_s mxLe_z)) (hK31 _ (Option.some.inj e34).symm)
theorem dX6_init_0 : decode cX6_init 0 = .ok (.aload_n 0, 1) := by decide +kernel
theorem dX6_init_1 : decode cX6_init 1 = .ok (.invokespecial 3, 3) := by decide +kernel
theorem dX6_init_4 : decode cX6_init 4 = .ok (.aload_n 0, 1) := by decide +kernel
theorem dX6_init_5 : decode cX6_init 5 = .ok (.iconst 5, 1) := by decide +kernel
theorem dX6_init_6 : decode cX6_init 6 = .ok (.bipush 20, 2) := by decide +kernel
theorem dX6_init_8 : decode cX6_init 8 = .ok (.multianewarray 9 2, 4) := by decide +kernel
theorem dX6_init_12 : decode cX6_init 12 = .ok (.putfield 11, 3) := by decide +kernel
theorem dX6_init_15 : decode cX6_init 15 = .ok (.aload_n 0, 1) := by decide +kernel
theorem dX6_init_16 : decode cX6_init 16 = .ok (.iconst 5, 1) := by decide +kernel
theorem dX6_init_17 : decode cX6_init 17 = .ok (.bipush 20, 2) := by decide +kernel
theorem dX6_init_19 : decode cX6_init 19 = .ok (.multianewarray 9 2, 4) := by decide +kernel
theorem dX6_init_23 : decode cX6_init 23 = .ok (.putfield 16, 3) := by decide +kernel
theorem dX6_init_26 : decode cX6_init 26 = .ok (.aload_n 0, 1) := by decide +kernel
theorem dX6_init_27 : decode cX6_init 27 = .ok (.iconst 5, 1) := by decide +kernel
theorem dX6_init_28 : decode cX6_init 28 = .ok (.bipush 20, 2) := by decide +kernel
theorem dX6_init_30 : decode cX6_init 30 = .ok (.multianewarray 9 2, 4) := by decide +kernel
theorem dX6_init_34 : decode cX6_init 34 = .ok (.putfield 19, 3) := by decide +kernel
theorem dX6_init_37 : decode cX6_init 37 = .ok (.aload_n 0, 1) := by decide +kernel
theorem dX6_init_38 : decode cX6_init 38 = .ok (.iconst 5, 1) := by decide +kernel
theorem dX6_init_39 : decode cX6_init 39 = .ok (.newarray .int, 2) := by decide +kernel
theorem dX6_init_41 : decode cX6_init 41 = .ok (.putfield 22, 3) := by decide +kernel
theorem dX6_init_44 : decode cX6_init 44 = .ok (.aload_n 0, 1) := by decide +kernel
theorem dX6_init_45 : decode cX6_init 45 = .ok (.iconst 5, 1) := by decide +kernel
theorem dX6_init_46 : decode cX6_init 46 = .ok (.newarray .int, 2) := by decide +kernel
theorem dX6_init_48 : decode cX6_init 48 = .ok (.putfield 26, 3) := by decide +kernel
theorem dX6_init_51 : decode cX6_init 51 = .ok (.aload_n 0, 1) := by decide +kernel
theorem dX6_init_52 : decode cX6_init 52 = .ok (.bipush 20, 2) := by decide +kernel
theorem dX6_init_54 : decode cX6_init 54 = .ok (.newarray .int, 2) := by decide +kernel
theorem dX6_init_56 : decode cX6_init 56 = .ok (.putfield 29, 3) := by decide +kernel
theorem dX6_init_59 : decode cX6_init 59 = .ok (.aload_n 0, 1) := by decide +kernel
theorem dX6_init_60 : decode cX6_init 60 = .ok (.iconst 0, 1) := by decide +kernel
theorem dX6_init_61 : decode cX6_init 61 = .ok (.putfield 32, 3) := by decide +kernel
theorem dX6_init_64 : decode cX6_init 64 = .ok (.aload_n 0, 1) := by decide +kernel
theorem dX6_init_65 : decode cX6_init 65 = .ok (.iconst 5, 1) := by decide +kernel
theorem dX6_init_66 : decode cX6_init 66 = .ok (.newarray .int, 2) := by decide +kernel
theorem dX6_init_68 : decode cX6_init 68 = .ok (.putfield 36, 3) := by decide +kernel
theorem dX6_init_71 : decode cX6_init 71 = .ok (.iconst 0, 1) := by decide +kernel
theorem dX6_init_72 : decode cX6_init 72 = .ok (.istore_n 1, 1) := by decide +kernel
theorem dX6_init_73 : decode cX6_init 73 = .ok (.iload_n 1, 1) := by decide +kernel
theorem dX6_init_74 : decode cX6_init 74 = .ok (.iconst 5, 1) := by decide +kernel
theorem dX6_init_75 : decode cX6_init 75 = .ok (.if_icmp .ge 65, 3) := by decide +kernel
theorem dX6_init_78 : decode cX6_init 78 = .ok (.iconst 0, 1) := by decide +kernel
theorem dX6_init_79 : decode cX6_init 79 = .ok (.istore_n 2, 1) := by decide +kernel
theorem dX6_init_80 : decode cX6_init 80 = .ok (.iload_n 2, 1) := by decide +kernel
theorem dX6_init_81 : decode cX6_init 81 = .ok (.bipush 20, 2) := by decide +kernel
theorem dX6_init_83 : decode cX6_init 83 = .ok (.if_icmp .ge 44, 3) := by decide +kernel
theorem dX6_init_86 : decode cX6_init 86 = .ok (.aload_n 0, 1) := by decide +kernel
theorem dX6_init_87 : decode cX6_init 87 = .ok (.getfield 11, 3) := by decide +kernel
theorem dX6_init_90 : decode cX6_init 90 = .ok (.iload_n 1, 1) := by decide +kernel
theorem dX6_init_91 : decode cX6_init 91 = .ok (.aaload, 1) := by decide +kernel
theorem dX6_init_92 : decode cX6_init 92 = .ok (.iload_n 2, 1) := by decide +kernel
theorem dX6_init_93 : decode cX6_init 93 = .ok (.iconst (-1), 1) := by decide +kernel
theorem dX6_init_94 : decode cX6_init 94 = .ok (.iastore, 1) := by decide +kernel
theorem dX6_init_95 : decode cX6_init 95 = .ok (.aload_n 0, 1) := by decide +kernel
theorem dX6_init_96 : decode cX6_init 96 = .ok (.getfield 19, 3) := by decide +kernel
theorem dX6_init_99 : decode cX6_init 99 = .ok (.iload_n 1, 1) := by decide +kernel
theorem dX6_init_100 : decode cX6_init 100 = .ok (.aaload, 1) := by decide +kernel
theorem dX6_init_101 : decode cX6_init 101 = .ok (.iload_n 2, 1) := by decide +kernel
theorem dX6_init_102 : decode cX6_init 102 = .ok (.iconst (-1), 1) := by decide +kernel
theorem dX6_init_103 : decode cX6_init 103 = .ok (.iastore, 1) := by decide +kernel
theorem dX6_init_104 : decode cX6_init 104 = .ok (.aload_n 0, 1) := by decide +kernel
theorem dX6_init_105 : decode cX6_init 105 = .ok (.getfield 16, 3) := by decide +kernel
theorem dX6_init_108 : decode cX6_init 108 = .ok (.iload_n 1, 1) := by decide +kernel
theorem dX6_init_109 : decode cX6_init 109 = .ok (.aaload, 1) := by decide +kernel
theorem dX6_init_110 : decode cX6_init 110 = .ok (.iload_n 2, 1) := by decide +kernel
theorem dX6_init_111 : decode cX6_init 111 = .ok (.iconst (-1), 1) := by decide +kernel
theorem dX6_init_112 : decode cX6_init 112 = .ok (.iastore, 1) := by decide +kernel
theorem dX6_init_113 : decode cX6_init 113 = .ok (.aload_n 0, 1) := by decide +kernel
theorem dX6_init_114 : decode cX6_init 114 = .ok (.getfield 29, 3) := by decide +kernel
theorem dX6_init_117 : decode cX6_init 117 = .ok (.iload_n 2, 1) := by decide +kernel
theorem dX6_init_118 : decode cX6_init 118 = .ok (.bipush 20, 2) := by decide +kernel
theorem dX6_init_120 : decode cX6_init 120 = .ok (.iastore, 1) := by decide +kernel
theorem dX6_init_121 : decode cX6_init 121 = .ok (.iinc 2 1, 3) := by decide +kernel
theorem dX6_init_124 : decode cX6_init 124 = .ok (.goto (-44), 3) := by decide +kernel
theorem dX6_init_127 : decode cX6_init 127 = .ok (.aload_n 0, 1) := by decide +kernel
theorem dX6_init_128 : decode cX6_init 128 = .ok (.getfield 26, 3) := by decide +kernel
theorem dX6_init_131 : decode cX6_init 131 = .ok (.iload_n 1, 1) := by decide +kernel
theorem dX6_init_132 : decode cX6_init 132 = .ok (.iconst 1, 1) := by decide +kernel
theorem dX6_init_133 : decode cX6_init 133 = .ok (.iastore, 1) := by decide +kernel
theorem dX6_init_134 : decode cX6_init 134 = .ok (.iinc 1 1, 3) := by decide +kernel
theorem dX6_init_137 : decode cX6_init 137 = .ok (.goto (-64), 3) := by decide +kernel
theorem dX6_init_140 : decode cX6_init 140 = .ok (.return_, 1) := by decide +kernel
def fX6_init (p0 : Nat) (h : mxH) : Option mxH := Option.bind (nwG h 5 20) (fun h1 => Option.bind (pR h1 p0 6 0 h.2) (fun h3 => Option.bind (nwG h3 5 20) (fun h5 => Option.bind (pR h5 p0 6 1 h3.2) (fun h7 => Option.bind (nwG h7 5 20) (fun h9 => Option.bind (pR h9 p0 6 2 h7.2) (fun h11 => Option.bind (nwI h11 5) (fun h13 => Option.bind (pR h13 p0 6 3 h11.2) (fun h15 => Option.bind (nwI h15 5) (fun h17 => Option.bind (pR h17 p0 6 4 h15.2) (fun h19 => Option.bind (nwI h19 20) (fun h21 => Option.bind (pR h21 p0 6 5 h19.2) (fun h23 => Option.bind (pI h23 p0 6 6 0) (fun h25 => Option.bind (nwI h25 5) (fun h27 => Option.bind (pR h27 p0 6 7 h25.2) (fun h29 => Option.bind (mxLoop (ρ := mxH) (fun s31 : (Int32 × mxH) => (if 5 ≤ s31.1 then some (Sum.inr s31.2) else Option.bind (mxLoop (ρ := mxH) (fun s40 : (Int32 × mxH) => (if 20 ≤ s40.1 then some (Sum.inr s40.2) else Option.bind (gR s40.2 p0 6 0) (fun r49 => Option.bind (ldR s40.2 r49 s31.1) (fun r51 => Option.bind (stI s40.2 r51 s40.1 (-1)) (fun h53 => Option.bind (gR h53 p0 6 2) (fun r55 => Option.bind (ldR h53 r55 s31.1) (fun r57 => Option.bind (stI h53 r57 s40.1 (-1)) (fun h59 => Option.bind (gR h59 p0 6 1) (fun r61 => Option.bind (ldR h59 r61 s31.1) (fun r63 => Option.bind (stI h59 r63 s40.1 (-1)) (fun h65 => Option.bind (gR h65 p0 6 5) (fun r67 => Option.bind (stI h65 r67 s40.1 20) (fun h69 => some (Sum.inl (s40.1 + 1, h69))))))))))))))) mxF (0, s31.2)) (fun r71 : mxH => Option.bind (gR r71 p0 6 4) (fun r72 => Option.bind (stI r71 r72 s31.1 1) (fun h74 => some (Sum.inl (s31.1 + 1, h74))))))) mxF (0, h29)) (fun r77 : mxH => some r77))))))))))))))))
abbrev rmX6_init : Room := { frames := 1, cells := 22, slots := 350, locals := 21 }
set_option maxRecDepth 20000 in
theorem tX6_init {l : Launch} {Z : mxZ} (hl : l.stackTraces = false) {p0 : Nat} {h : mxH} {out : mxH} (hf : fX6_init p0 h = some out) : mxMet l Z yX6_init cX6_init 3 (none) rmX6_init [.ref p0] h (.inl none) out := by
  refine mxMet_of (by decide) hl (by simp [Value.category]) (Nat.le_of_ble_eq_true rfl) ?_
  intro X C E hX hin
  unfold fX6_init at hf
  refine mG_aload_n (pc := 0) C dX6_init_0 rfl ?_
  refine mG_oI (pc := 1) C hX dX6_init_1 oi_X6_3 rfl rfl ?_
  refine mG_aload_n (pc := 4) C dX6_init_4 rfl ?_
  refine mG_ic (pc := 5) C dX6_init_5 kI5 ?_
  refine mG_bp (pc := 6) C dX6_init_6 kB20 ?_
  obtain ⟨h1, e2, hf⟩ := mx_bind hf
  refine mG_nwG (N := 5) (K := 20) (pc := 8) (k' := 6) (n' := 105) C hX dX6_init_8 w244 w272 (by decide) (by decide) (by decide) (by decide) rfl rfl e2 rfl rfl rfl ?_
  obtain ⟨h3, e4, hf⟩ := mx_bind hf
  refine mG_putR (pc := 12) C dX6_init_12 fl_X6_11 rfl (hin rfl) ⟨_, _, rfl, w246⟩ (fun _ => rfl) (fun _ => rfl) e4 ?_
  refine mG_aload_n (pc := 15) C dX6_init_15 rfl ?_
  refine mG_ic (pc := 16) C dX6_init_16 kI5 ?_
  refine mG_bp (pc := 17) C dX6_init_17 kB20 ?_
  obtain ⟨h5, e6, hf⟩ := mx_bind hf
  refine mG_nwG (N := 5) (K := 20) (pc := 19) (k' := 12) (n' := 210) C hX dX6_init_19 w244 w272 (by decide) (by decide) (by decide) (by decide) rfl rfl e6 rfl rfl rfl ?_
  obtain ⟨h7, e8, hf⟩ := mx_bind hf
  refine mG_putR (pc := 23) C dX6_init_23 fl_X6_16 rfl (hin rfl) ⟨_, _, rfl, w247⟩ (fun _ => rfl) (fun _ => rfl) e8 ?_
  refine mG_aload_n (pc := 26) C dX6_init_26 rfl ?_
  refine mG_ic (pc := 27) C dX6_init_27 kI5 ?_
  refine mG_bp (pc := 28) C dX6_init_28 kB20 ?_
  obtain ⟨h9, e10, hf⟩ := mx_bind hf
  refine mG_nwG (N := 5) (K := 20) (pc := 30) (k' := 18) (n' := 315) C hX dX6_init_30 w244 w272 (by decide) (by decide) (by decide) (by decide) rfl rfl e10 rfl rfl rfl ?_
  obtain ⟨h11, e12, hf⟩ := mx_bind hf
  refine mG_putR (pc := 34) C dX6_init_34 fl_X6_19 rfl (hin rfl) ⟨_, _, rfl, w248⟩ (fun _ => rfl) (fun _ => rfl) e12 ?_
  refine mG_aload_n (pc := 37) C dX6_init_37 rfl ?_
  refine mG_ic (pc := 38) C dX6_init_38 kI5 ?_
  obtain ⟨h13, e14, hf⟩ := mx_bind hf
  refine mG_nwI (N := 5) (pc := 39) (k' := 19) (n' := 320) C hX dX6_init_39 w272 (by decide) (by decide) rfl e14 rfl rfl rfl ?_
  obtain ⟨h15, e16, hf⟩ := mx_bind hf
  refine mG_putR (pc := 41) C dX6_init_41 fl_X6_22 rfl (hin rfl) ⟨_, _, rfl, w249⟩ (fun _ => rfl) (fun _ => rfl) e16 ?_
  refine mG_aload_n (pc := 44) C dX6_init_44 rfl ?_
  refine mG_ic (pc := 45) C dX6_init_45 kI5 ?_
  obtain ⟨h17, e18, hf⟩ := mx_bind hf
  refine mG_nwI (N := 5) (pc := 46) (k' := 20) (n' := 325) C hX dX6_init_46 w272 (by decide) (by decide) rfl e18 rfl rfl rfl ?_
  obtain ⟨h19, e20, hf⟩ := mx_bind hf
  refine mG_putR (pc := 48) C dX6_init_48 fl_X6_26 rfl (hin rfl) ⟨_, _, rfl, w250⟩ (fun _ => rfl) (fun _ => rfl) e20 ?_
  refine mG_aload_n (pc := 51) C dX6_init_51 rfl ?_
  refine mG_bp (pc := 52) C dX6_init_52 kB20 ?_
  obtain ⟨h21, e22, hf⟩ := mx_bind hf
  refine mG_nwI (N := 20) (pc := 54) (k' := 21) (n' := 345) C hX dX6_init_54 w272 (by decide) (by decide) rfl e22 rfl rfl rfl ?_
  obtain ⟨h23, e24, hf⟩ := mx_bind hf
  refine mG_putR (pc := 56) C dX6_init_56 fl_X6_29 rfl (hin rfl) ⟨_, _, rfl, w251⟩ (fun _ => rfl) (fun _ => rfl) e24 ?_
  refine mG_aload_n (pc := 59) C dX6_init_59 rfl ?_
  refine mG_ic (pc := 60) C dX6_init_60 kI0 ?_
  obtain ⟨h25, e26, hf⟩ := mx_bind hf
  refine mG_putI (pc := 61) C dX6_init_61 fl_X6_32 e26 ?_
  refine mG_aload_n (pc := 64) C dX6_init_64 rfl ?_
  refine mG_ic (pc := 65) C dX6_init_65 kI5 ?_
  obtain ⟨h27, e28, hf⟩ := mx_bind hf
  refine mG_nwI (N := 5) (pc := 66) (k' := 22) (n' := 350) C hX dX6_init_66 w272 (by decide) (by decide) rfl e28 rfl rfl rfl ?_
  obtain ⟨h29, e30, hf⟩ := mx_bind hf
  refine mG_putR (pc := 68) C dX6_init_68 fl_X6_36 rfl (hin rfl) ⟨_, _, rfl, w254⟩ (fun _ => rfl) (fun _ => rfl) e30 ?_
  refine mG_ic (pc := 71) C dX6_init_71 kI0 ?_
  refine mG_isn (ls' := [some (.ref p0), some (.int 0), none]) (pc := 72) C dX6_init_72 rfl rfl rfl ?_
  obtain ⟨r32, e33, hf⟩ := mx_bind hf
  have J34 : ∀ r77 : mxH, r77 = r32 → mG l Z X 3 22 350 140 [none, none, none] [] r77 := by
    intro r77 q78
    subst q78
    cases hf
    exact mG_vr (pc := 140) C E hX dX6_init_140 rfl
  refine mG_sub (ls' := [some (.ref p0), some (.int 0), none]) (mxLe_s (mxLe_s (mxLe_n mxLe_z))) (mxLoop_ind (K := fun s31 : (Int32 × mxH) => mG l Z X 3 22 350 73 [some (.ref p0), some (.int s31.1), none] [] s31.2) ?_ _ _ e33)
  intro s31 o37 e38 hK35 hx36
  refine mG_iload_n (pc := 73) C dX6_init_73 rfl ?_
  refine mG_ic (pc := 74) C dX6_init_74 kI5 ?_
  refine mG_icmp_ge (pc := 75) (tgt := 140) C dX6_init_75 (by decide) (fun q39 => ?_) (fun q39 => ?_)
  · rw [if_pos q39] at e38
    exact mG_sub (mxLe_n (mxLe_n (mxLe_n mxLe_z))) (J34 _ (hx36 _ (Option.some.inj e38).symm))
  · rw [if_neg q39] at e38
    refine mG_ic (pc := 78) C dX6_init_78 kI0 ?_
    refine mG_isn (ls' := [some (.ref p0), some (.int s31.1), some (.int 0)]) (pc := 79) C dX6_init_79 rfl rfl rfl ?_
    obtain ⟨r41, e42, e38⟩ := mx_bind e38
    have J43 : ∀ r71 : mxH, r71 = r41 → mG l Z X 3 22 350 127 [some (.ref p0), some (.int s31.1), none] [] r71 := by
      intro r71 q76
      subst q76
      refine mG_aload_n (pc := 127) C dX6_init_127 rfl ?_
      obtain ⟨r72, e73, e38⟩ := mx_bind e38
      refine mG_getR (pc := 128) C dX6_init_128 fl_X6_26 e73 ?_
      refine mG_iload_n (pc := 131) C dX6_init_131 rfl ?_
      refine mG_ic (pc := 132) C dX6_init_132 kI1 ?_
      obtain ⟨h74, e75, e38⟩ := mx_bind e38
      refine mG_iastore (pc := 133) C dX6_init_133 e75 ?_
      refine mG_ii (ls' := [some (.ref p0), some (.int (s31.1 + 1)), none]) (pc := 134) C dX6_init_134 rfl (kinc1 _) rfl rfl rfl ?_
      refine mG_goto (tgt := 73) (pc := 137) C dX6_init_137 (by decide) ?_
      exact mG_sub (mxLe_s (mxLe_s (mxLe_n mxLe_z))) (hK35 _ (Option.some.inj e38).symm)
    refine mG_sub (ls' := [some (.ref p0), some (.int s31.1), some (.int 0)]) (mxLe_s (mxLe_s (mxLe_s mxLe_z))) (mxLoop_ind (K := fun s40 : (Int32 × mxH) => mG l Z X 3 22 350 80 [some (.ref p0), some (.int s31.1), some (.int s40.1)] [] s40.2) ?_ _ _ e42)
    intro s40 o46 e47 hK44 hx45
    refine mG_iload_n (pc := 80) C dX6_init_80 rfl ?_
    refine mG_bp (pc := 81) C dX6_init_81 kB20 ?_
    refine mG_icmp_ge (pc := 83) (tgt := 127) C dX6_init_83 (by decide) (fun q48 => ?_) (fun q48 => ?_)
    · rw [if_pos q48] at e47
      exact mG_sub (mxLe_s (mxLe_s (mxLe_n mxLe_z))) (J43 _ (hx45 _ (Option.some.inj e47).symm))
    · rw [if_neg q48] at e47
      refine mG_aload_n (pc := 86) C dX6_init_86 rfl ?_
      obtain ⟨r49, e50, e47⟩ := mx_bind e47
      refine mG_getR (pc := 87) C dX6_init_87 fl_X6_11 e50 ?_
      refine mG_iload_n (pc := 90) C dX6_init_90 rfl ?_
      obtain ⟨r51, e52, e47⟩ := mx_bind e47
      refine mG_aaload (pc := 91) C dX6_init_91 e52 ?_
      refine mG_iload_n (pc := 92) C dX6_init_92 rfl ?_
      refine mG_ic (pc := 93) C dX6_init_93 kIm1 ?_
      obtain ⟨h53, e54, e47⟩ := mx_bind e47
      refine mG_iastore (pc := 94) C dX6_init_94 e54 ?_
      refine mG_aload_n (pc := 95) C dX6_init_95 rfl ?_
      obtain ⟨r55, e56, e47⟩ := mx_bind e47
      refine mG_getR (pc := 96) C dX6_init_96 fl_X6_19 e56 ?_
      refine mG_iload_n (pc := 99) C dX6_init_99 rfl ?_
      obtain ⟨r57, e58, e47⟩ := mx_bind e47
      refine mG_aaload (pc := 100) C dX6_init_100 e58 ?_
      refine mG_iload_n (pc := 101) C dX6_init_101 rfl ?_
      refine mG_ic (pc := 102) C dX6_init_102 kIm1 ?_
      obtain ⟨h59, e60, e47⟩ := mx_bind e47
      refine mG_iastore (pc := 103) C dX6_init_103 e60 ?_
      refine mG_aload_n (pc := 104) C dX6_init_104 rfl ?_
      obtain ⟨r61, e62, e47⟩ := mx_bind e47
      refine mG_getR (pc := 105) C dX6_init_105 fl_X6_16 e62 ?_
      refine mG_iload_n (pc := 108) C dX6_init_108 rfl ?_
      obtain ⟨r63, e64, e47⟩ := mx_bind e47
      refine mG_aaload (pc := 109) C dX6_init_109 e64 ?_
      refine mG_iload_n (pc := 110) C dX6_init_110 rfl ?_
      refine mG_ic (pc := 111) C dX6_init_111 kIm1 ?_
      obtain ⟨h65, e66, e47⟩ := mx_bind e47
      refine mG_iastore (pc := 112) C dX6_init_112 e66 ?_
      refine mG_aload_n (pc := 113) C dX6_init_113 rfl ?_
      obtain ⟨r67, e68, e47⟩ := mx_bind e47
      refine mG_getR (pc := 114) C dX6_init_114 fl_X6_29 e68 ?_
      refine mG_iload_n (pc := 117) C dX6_init_117 rfl ?_
      refine mG_bp (pc := 118) C dX6_init_118 kB20 ?_
      obtain ⟨h69, e70, e47⟩ := mx_bind e47
      refine mG_iastore (pc := 120) C dX6_init_120 e70 ?_
      refine mG_ii (ls' := [some (.ref p0), some (.int s31.1), some (.int (s40.1 + 1))]) (pc := 121) C dX6_init_121 rfl (kinc1 _) rfl rfl rfl ?_
      refine mG_goto (tgt := 80) (pc := 124) C dX6_init_124 (by decide) ?_
      exact mG_sub (mxLe_s (mxLe_s (mxLe_s mxLe_z))) (hK44 _ (Option.some.inj e47).symm)
theorem dX7_init_0 : decode cX7_init 0 = .ok (.aload_n 0, 1) := by decide +kernel
theorem dX7_init_1 : decode cX7_init 1 = .ok (.invokespecial 1, 3) := by decide +kernel
theorem dX7_init_4 : decode cX7_init 4 = .ok (.aload_n 0, 1) := by decide +kernel
theorem dX7_init_5 : decode cX7_init 5 = .ok (.new 7, 3) := by decide +kernel
theorem dX7_init_8 : decode cX7_init 8 = .ok (.dup, 1) := by decide +kernel
theorem dX7_init_9 : decode cX7_init 9 = .ok (.invokespecial 9, 3) := by decide +kernel
theorem dX7_init_12 : decode cX7_init 12 = .ok (.putfield 10, 3) := by decide +kernel
theorem dX7_init_15 : decode cX7_init 15 = .ok (.aload_n 0, 1) := by decide +kernel
theorem dX7_init_16 : decode cX7_init 16 = .ok (.new 16, 3) := by decide +kernel
theorem dX7_init_19 : decode cX7_init 19 = .ok (.dup, 1) := by decide +kernel
theorem dX7_init_20 : decode cX7_init 20 = .ok (.invokespecial 18, 3) := by decide +kernel
theorem dX7_init_23 : decode cX7_init 23 = .ok (.putfield 19, 3) := by decide +kernel
theorem dX7_init_26 : decode cX7_init 26 = .ok (.aload_n 0, 1) := by decide +kernel
theorem dX7_init_27 : decode cX7_init 27 = .ok (.iconst 1, 1) := by decide +kernel
theorem dX7_init_28 : decode cX7_init 28 = .ok (.putfield 23, 3) := by decide +kernel
theorem dX7_init_31 : decode cX7_init 31 = .ok (.aload_n 0, 1) := by decide +kernel
theorem dX7_init_32 : decode cX7_init 32 = .ok (.iconst 1, 1) := by decide +kernel
theorem dX7_init_33 : decode cX7_init 33 = .ok (.putfield 27, 3) := by decide +kernel
theorem dX7_init_36 : decode cX7_init 36 = .ok (.return_, 1) := by decide +kernel
def fX7_init (p0 : Nat) (h : mxH) : Option mxH := Option.bind (nwO h 6 [.null, .null, .null, .null, .null, .null, .int 0, .null]) (fun h1 => Option.bind (fX6_init h.2 h1) (fun o4 => Option.bind (pR o4 p0 7 0 h.2) (fun h5 => Option.bind (nwO h5 2 [.null, .int 0, .int 0, .null, .int 0, .int 0, .null, .null, .int 0]) (fun h7 => Option.bind (fX2_init h5.2 h7) (fun o10 => Option.bind (pR o10 p0 7 1 h5.2) (fun h11 => Option.bind (pI h11 p0 7 2 1) (fun h13 => Option.bind (pI h13 p0 7 3 1) (fun h15 => some h15))))))))
abbrev rmX7_init : Room := { frames := 2, cells := 28, slots := 485, locals := 43 }
set_option maxRecDepth 20000 in
theorem tX7_init {l : Launch} {Z : mxZ} (hl : l.stackTraces = false) {p0 : Nat} {h : mxH} {out : mxH} (hf : fX7_init p0 h = some out) : mxMet l Z yX7_init cX7_init 1 (none) rmX7_init [.ref p0] h (.inl none) out := by
  refine mxMet_of (by decide) hl (by simp [Value.category]) (Nat.le_of_ble_eq_true rfl) ?_
  intro X C E hX hin
  unfold fX7_init at hf
  refine mG_aload_n (pc := 0) C dX7_init_0 rfl ?_
  refine mG_oI (pc := 1) C hX dX7_init_1 oi_X7_1 rfl rfl ?_
  refine mG_aload_n (pc := 4) C dX7_init_4 rfl ?_
  obtain ⟨h1, e2, hf⟩ := mx_bind hf
  refine mG_nwO (pc := 5) (k' := 1) (n' := 8) C hX dX7_init_5 mk_X7_7 e2 rfl rfl rfl ?_
  refine mG_dup (pc := 8) C dX7_init_8 rfl ?_
  obtain ⟨o4, e3, hf⟩ := mx_bind hf
  refine mG_cI (pc := 9) (k' := 23) (n' := 358) [] [.ref h.2, .ref p0] C hX dX7_init_9 lkI_X7_9 rfl (tX6_init hl e3) rfl rfl rfl rfl ?_
  obtain ⟨h5, e6, hf⟩ := mx_bind hf
  refine mG_putR (pc := 12) C dX7_init_12 fl_X7_10 rfl (hin rfl) ⟨_, _, rfl, w310⟩ (fun _ => rfl) (fun _ => rfl) e6 ?_
  refine mG_aload_n (pc := 15) C dX7_init_15 rfl ?_
  obtain ⟨h7, e8, hf⟩ := mx_bind hf
  refine mG_nwO (pc := 16) (k' := 24) (n' := 367) C hX dX7_init_16 mk_X7_16 e8 rfl rfl rfl ?_
  refine mG_dup (pc := 19) C dX7_init_19 rfl ?_
  obtain ⟨o10, e9, hf⟩ := mx_bind hf
  refine mG_cI (pc := 20) (k' := 28) (n' := 485) [] [.ref h5.2, .ref p0] C hX dX7_init_20 lkI_X7_18 rfl (tX2_init hl e9) rfl rfl rfl rfl ?_
  obtain ⟨h11, e12, hf⟩ := mx_bind hf
  refine mG_putR (pc := 23) C dX7_init_23 fl_X7_19 rfl (hin rfl) ⟨_, _, rfl, w312⟩ (fun _ => rfl) (fun _ => rfl) e12 ?_
  refine mG_aload_n (pc := 26) C dX7_init_26 rfl ?_
  refine mG_ic (pc := 27) C dX7_init_27 kI1 ?_
  obtain ⟨h13, e14, hf⟩ := mx_bind hf
  refine mG_putI (pc := 28) C dX7_init_28 fl_X7_23 e14 ?_
  refine mG_aload_n (pc := 31) C dX7_init_31 rfl ?_
  refine mG_ic (pc := 32) C dX7_init_32 kI1 ?_
  obtain ⟨h15, e16, hf⟩ := mx_bind hf
  refine mG_putI (pc := 33) C dX7_init_33 fl_X7_27 e16 ?_
  cases hf
  exact mG_vr (pc := 36) C E hX dX7_init_36 rfl
theorem dX0_init_0 : decode cX0_init 0 = .ok (.aload_n 0, 1) := by decide +kernel
theorem dX0_init_1 : decode cX0_init 1 = .ok (.invokespecial 3, 3) := by decide +kernel
theorem dX0_init_4 : decode cX0_init 4 = .ok (.aload_n 0, 1) := by decide +kernel
theorem dX0_init_5 : decode cX0_init 5 = .ok (.bipush 8, 2) := by decide +kernel
theorem dX0_init_7 : decode cX0_init 7 = .ok (.anewarray 9, 3) := by decide +kernel
theorem dX0_init_10 : decode cX0_init 10 = .ok (.putfield 11, 3) := by decide +kernel
theorem dX0_init_13 : decode cX0_init 13 = .ok (.aload_n 0, 1) := by decide +kernel
theorem dX0_init_14 : decode cX0_init 14 = .ok (.iconst 0, 1) := by decide +kernel
theorem dX0_init_15 : decode cX0_init 15 = .ok (.putfield 17, 3) := by decide +kernel
theorem dX0_init_18 : decode cX0_init 18 = .ok (.iconst 0, 1) := by decide +kernel
theorem dX0_init_19 : decode cX0_init 19 = .ok (.istore_n 1, 1) := by decide +kernel
theorem dX0_init_20 : decode cX0_init 20 = .ok (.iload_n 1, 1) := by decide +kernel
theorem dX0_init_21 : decode cX0_init 21 = .ok (.bipush 8, 2) := by decide +kernel
theorem dX0_init_23 : decode cX0_init 23 = .ok (.if_icmp .ge 22, 3) := by decide +kernel
theorem dX0_init_26 : decode cX0_init 26 = .ok (.aload_n 0, 1) := by decide +kernel
theorem dX0_init_27 : decode cX0_init 27 = .ok (.getfield 11, 3) := by decide +kernel
theorem dX0_init_30 : decode cX0_init 30 = .ok (.iload_n 1, 1) := by decide +kernel
theorem dX0_init_31 : decode cX0_init 31 = .ok (.new 9, 3) := by decide +kernel
theorem dX0_init_34 : decode cX0_init 34 = .ok (.dup, 1) := by decide +kernel
theorem dX0_init_35 : decode cX0_init 35 = .ok (.invokespecial 21, 3) := by decide +kernel
theorem dX0_init_38 : decode cX0_init 38 = .ok (.aastore, 1) := by decide +kernel
theorem dX0_init_39 : decode cX0_init 39 = .ok (.iinc 1 1, 3) := by decide +kernel
theorem dX0_init_42 : decode cX0_init 42 = .ok (.goto (-22), 3) := by decide +kernel
theorem dX0_init_45 : decode cX0_init 45 = .ok (.return_, 1) := by decide +kernel
def fX0_init (p0 : Nat) (h : mxH) : Option mxH := Option.bind (nwS h 8) (fun h1 => Option.bind (pR h1 p0 0 0 h.2) (fun h3 => Option.bind (pI h3 p0 0 1 0) (fun h5 => Option.bind (gR h5 p0 0 0) (fun r7 => Option.bind (nwO h5 7 [.null, .null, .int 0, .int 0]) (fun h9 => Option.bind (fX7_init h5.2 h9) (fun o12 => Option.bind (stR o12 r7 0 h5.2) (fun h13 => Option.bind (gR h13 p0 0 0) (fun r15 => Option.bind (nwO h13 7 [.null, .null, .int 0, .int 0]) (fun h17 => Option.bind (fX7_init h13.2 h17) (fun o20 => Option.bind (stR o20 r15 1 h13.2) (fun h21 => Option.bind (gR h21 p0 0 0) (fun r23 => Option.bind (nwO h21 7 [.null, .null, .int 0, .int 0]) (fun h25 => Option.bind (fX7_init h21.2 h25) (fun o28 => Option.bind (stR o28 r23 2 h21.2) (fun h29 => Option.bind (gR h29 p0 0 0) (fun r31 => Option.bind (nwO h29 7 [.null, .null, .int 0, .int 0]) (fun h33 => Option.bind (fX7_init h29.2 h33) (fun o36 => Option.bind (stR o36 r31 3 h29.2) (fun h37 => Option.bind (gR h37 p0 0 0) (fun r39 => Option.bind (nwO h37 7 [.null, .null, .int 0, .int 0]) (fun h41 => Option.bind (fX7_init h37.2 h41) (fun o44 => Option.bind (stR o44 r39 4 h37.2) (fun h45 => Option.bind (gR h45 p0 0 0) (fun r47 => Option.bind (nwO h45 7 [.null, .null, .int 0, .int 0]) (fun h49 => Option.bind (fX7_init h45.2 h49) (fun o52 => Option.bind (stR o52 r47 5 h45.2) (fun h53 => Option.bind (gR h53 p0 0 0) (fun r55 => Option.bind (nwO h53 7 [.null, .null, .int 0, .int 0]) (fun h57 => Option.bind (fX7_init h53.2 h57) (fun o60 => Option.bind (stR o60 r55 6 h53.2) (fun h61 => Option.bind (gR h61 p0 0 0) (fun r63 => Option.bind (nwO h61 7 [.null, .null, .int 0, .int 0]) (fun h65 => Option.bind (fX7_init h61.2 h65) (fun o68 => Option.bind (stR o68 r63 7 h61.2) (fun h69 => some h69)))))))))))))))))))))))))))))))))))
abbrev rmX0_init : Room := { frames := 3, cells := 233, slots := 3920, locals := 63 }
set_option maxRecDepth 20000 in
theorem tX0_init {l : Launch} {Z : mxZ} (hl : l.stackTraces = false) {p0 : Nat} {h : mxH} {out : mxH} (hf : fX0_init p0 h = some out) : mxMet l Z yX0_init cX0_init 2 (none) rmX0_init [.ref p0] h (.inl none) out := by
  refine mxMet_of (by decide) hl (by simp [Value.category]) (Nat.le_of_ble_eq_true rfl) ?_
  intro X C E hX hin
  unfold fX0_init at hf
  refine mG_aload_n (pc := 0) C dX0_init_0 rfl ?_
  refine mG_oI (pc := 1) C hX dX0_init_1 oi_X0_3 rfl rfl ?_
  refine mG_aload_n (pc := 4) C dX0_init_4 rfl ?_
  refine mG_bp (pc := 5) C dX0_init_5 kB8 ?_
  obtain ⟨h1, e2, hf⟩ := mx_bind hf
  refine mG_nwS (N := 8) (pc := 7) (k' := 1) (n' := 8) C hX dX0_init_7 w333 (by decide) (by decide) rfl e2 rfl rfl rfl ?_
  obtain ⟨h3, e4, hf⟩ := mx_bind hf
  refine mG_putR (pc := 10) C dX0_init_10 fl_X0_11 rfl (hin rfl) ⟨_, _, rfl, w336⟩ (fun _ => rfl) (fun _ => rfl) e4 ?_
  refine mG_aload_n (pc := 13) C dX0_init_13 rfl ?_
  refine mG_ic (pc := 14) C dX0_init_14 kI0 ?_
  obtain ⟨h5, e6, hf⟩ := mx_bind hf
  refine mG_putI (pc := 15) C dX0_init_15 fl_X0_17 e6 ?_
  refine mG_ic (pc := 18) C dX0_init_18 kI0 ?_
  refine mG_isn (ls' := [some (.ref p0), some (.int 0)]) (pc := 19) C dX0_init_19 rfl rfl rfl ?_
  refine mG_iload_n (pc := 20) C dX0_init_20 rfl ?_
  refine mG_bp (pc := 21) C dX0_init_21 kB8 ?_
  refine mG_icmp_ge (pc := 23) (tgt := 45) C dX0_init_23 (by decide) (fun q => absurd q (by decide)) (fun _ => ?_)
  refine mG_aload_n (pc := 26) C dX0_init_26 rfl ?_
  obtain ⟨r7, e8, hf⟩ := mx_bind hf
  refine mG_getR (pc := 27) C dX0_init_27 fl_X0_11 e8 ?_
  refine mG_iload_n (pc := 30) C dX0_init_30 rfl ?_
  obtain ⟨h9, e10, hf⟩ := mx_bind hf
  refine mG_nwO (pc := 31) (k' := 2) (n' := 12) C hX dX0_init_31 mk_X0_9 e10 rfl rfl rfl ?_
  refine mG_dup (pc := 34) C dX0_init_34 rfl ?_
  obtain ⟨o12, e11, hf⟩ := mx_bind hf
  refine mG_cI (pc := 35) (k' := 30) (n' := 497) [] [.ref h5.2, .int 0, .ref r7] C hX dX0_init_35 lkI_X0_21 rfl (tX7_init hl e11) rfl rfl rfl rfl ?_
  obtain ⟨h13, e14, hf⟩ := mx_bind hf
  refine mG_aastore (pc := 38) C dX0_init_38 e14 ?_
  refine mG_ii (ls' := [some (.ref p0), some (.int 1)]) (pc := 39) C dX0_init_39 rfl (by decide) rfl rfl rfl ?_
  refine mG_goto (tgt := 20) (pc := 42) C dX0_init_42 (by decide) ?_
  refine mG_iload_n (pc := 20) C dX0_init_20 rfl ?_
  refine mG_bp (pc := 21) C dX0_init_21 kB8 ?_
  refine mG_icmp_ge (pc := 23) (tgt := 45) C dX0_init_23 (by decide) (fun q => absurd q (by decide)) (fun _ => ?_)
  refine mG_aload_n (pc := 26) C dX0_init_26 rfl ?_
  obtain ⟨r15, e16, hf⟩ := mx_bind hf
  refine mG_getR (pc := 27) C dX0_init_27 fl_X0_11 e16 ?_
  refine mG_iload_n (pc := 30) C dX0_init_30 rfl ?_
  obtain ⟨h17, e18, hf⟩ := mx_bind hf
  refine mG_nwO (pc := 31) (k' := 31) (n' := 501) C hX dX0_init_31 mk_X0_9 e18 rfl rfl rfl ?_
  refine mG_dup (pc := 34) C dX0_init_34 rfl ?_
  obtain ⟨o20, e19, hf⟩ := mx_bind hf
  refine mG_cI (pc := 35) (k' := 59) (n' := 986) [] [.ref h13.2, .int 1, .ref r15] C hX dX0_init_35 lkI_X0_21 rfl (tX7_init hl e19) rfl rfl rfl rfl ?_
  obtain ⟨h21, e22, hf⟩ := mx_bind hf
  refine mG_aastore (pc := 38) C dX0_init_38 e22 ?_
  refine mG_ii (ls' := [some (.ref p0), some (.int 2)]) (pc := 39) C dX0_init_39 rfl (by decide) rfl rfl rfl ?_
  refine mG_goto (tgt := 20) (pc := 42) C dX0_init_42 (by decide) ?_
  refine mG_iload_n (pc := 20) C dX0_init_20 rfl ?_
  refine mG_bp (pc := 21) C dX0_init_21 kB8 ?_
  refine mG_icmp_ge (pc := 23) (tgt := 45) C dX0_init_23 (by decide) (fun q => absurd q (by decide)) (fun _ => ?_)
  refine mG_aload_n (pc := 26) C dX0_init_26 rfl ?_
  obtain ⟨r23, e24, hf⟩ := mx_bind hf
  refine mG_getR (pc := 27) C dX0_init_27 fl_X0_11 e24 ?_
  refine mG_iload_n (pc := 30) C dX0_init_30 rfl ?_
  obtain ⟨h25, e26, hf⟩ := mx_bind hf
  refine mG_nwO (pc := 31) (k' := 60) (n' := 990) C hX dX0_init_31 mk_X0_9 e26 rfl rfl rfl ?_
  refine mG_dup (pc := 34) C dX0_init_34 rfl ?_
  obtain ⟨o28, e27, hf⟩ := mx_bind hf
  refine mG_cI (pc := 35) (k' := 88) (n' := 1475) [] [.ref h21.2, .int 2, .ref r23] C hX dX0_init_35 lkI_X0_21 rfl (tX7_init hl e27) rfl rfl rfl rfl ?_
  obtain ⟨h29, e30, hf⟩ := mx_bind hf
  refine mG_aastore (pc := 38) C dX0_init_38 e30 ?_
  refine mG_ii (ls' := [some (.ref p0), some (.int 3)]) (pc := 39) C dX0_init_39 rfl (by decide) rfl rfl rfl ?_
  refine mG_goto (tgt := 20) (pc := 42) C dX0_init_42 (by decide) ?_
  refine mG_iload_n (pc := 20) C dX0_init_20 rfl ?_
  refine mG_bp (pc := 21) C dX0_init_21 kB8 ?_
  refine mG_icmp_ge (pc := 23) (tgt := 45) C dX0_init_23 (by decide) (fun q => absurd q (by decide)) (fun _ => ?_)
  refine mG_aload_n (pc := 26) C dX0_init_26 rfl ?_
  obtain ⟨r31, e32, hf⟩ := mx_bind hf
  refine mG_getR (pc := 27) C dX0_init_27 fl_X0_11 e32 ?_
  refine mG_iload_n (pc := 30) C dX0_init_30 rfl ?_
  obtain ⟨h33, e34, hf⟩ := mx_bind hf
  refine mG_nwO (pc := 31) (k' := 89) (n' := 1479) C hX dX0_init_31 mk_X0_9 e34 rfl rfl rfl ?_
  refine mG_dup (pc := 34) C dX0_init_34 rfl ?_
  obtain ⟨o36, e35, hf⟩ := mx_bind hf
  refine mG_cI (pc := 35) (k' := 117) (n' := 1964) [] [.ref h29.2, .int 3, .ref r31] C hX dX0_init_35 lkI_X0_21 rfl (tX7_init hl e35) rfl rfl rfl rfl ?_
  obtain ⟨h37, e38, hf⟩ := mx_bind hf
  refine mG_aastore (pc := 38) C dX0_init_38 e38 ?_
  refine mG_ii (ls' := [some (.ref p0), some (.int 4)]) (pc := 39) C dX0_init_39 rfl (by decide) rfl rfl rfl ?_
  refine mG_goto (tgt := 20) (pc := 42) C dX0_init_42 (by decide) ?_
  refine mG_iload_n (pc := 20) C dX0_init_20 rfl ?_
  refine mG_bp (pc := 21) C dX0_init_21 kB8 ?_
  refine mG_icmp_ge (pc := 23) (tgt := 45) C dX0_init_23 (by decide) (fun q => absurd q (by decide)) (fun _ => ?_)
  refine mG_aload_n (pc := 26) C dX0_init_26 rfl ?_
  obtain ⟨r39, e40, hf⟩ := mx_bind hf
  refine mG_getR (pc := 27) C dX0_init_27 fl_X0_11 e40 ?_
  refine mG_iload_n (pc := 30) C dX0_init_30 rfl ?_
  obtain ⟨h41, e42, hf⟩ := mx_bind hf
  refine mG_nwO (pc := 31) (k' := 118) (n' := 1968) C hX dX0_init_31 mk_X0_9 e42 rfl rfl rfl ?_
  refine mG_dup (pc := 34) C dX0_init_34 rfl ?_
  obtain ⟨o44, e43, hf⟩ := mx_bind hf
  refine mG_cI (pc := 35) (k' := 146) (n' := 2453) [] [.ref h37.2, .int 4, .ref r39] C hX dX0_init_35 lkI_X0_21 rfl (tX7_init hl e43) rfl rfl rfl rfl ?_
  obtain ⟨h45, e46, hf⟩ := mx_bind hf
  refine mG_aastore (pc := 38) C dX0_init_38 e46 ?_
  refine mG_ii (ls' := [some (.ref p0), some (.int 5)]) (pc := 39) C dX0_init_39 rfl (by decide) rfl rfl rfl ?_
  refine mG_goto (tgt := 20) (pc := 42) C dX0_init_42 (by decide) ?_
  refine mG_iload_n (pc := 20) C dX0_init_20 rfl ?_
  refine mG_bp (pc := 21) C dX0_init_21 kB8 ?_
  refine mG_icmp_ge (pc := 23) (tgt := 45) C dX0_init_23 (by decide) (fun q => absurd q (by decide)) (fun _ => ?_)
  refine mG_aload_n (pc := 26) C dX0_init_26 rfl ?_
  obtain ⟨r47, e48, hf⟩ := mx_bind hf
  refine mG_getR (pc := 27) C dX0_init_27 fl_X0_11 e48 ?_
  refine mG_iload_n (pc := 30) C dX0_init_30 rfl ?_
  obtain ⟨h49, e50, hf⟩ := mx_bind hf
  refine mG_nwO (pc := 31) (k' := 147) (n' := 2457) C hX dX0_init_31 mk_X0_9 e50 rfl rfl rfl ?_
  refine mG_dup (pc := 34) C dX0_init_34 rfl ?_
  obtain ⟨o52, e51, hf⟩ := mx_bind hf
  refine mG_cI (pc := 35) (k' := 175) (n' := 2942) [] [.ref h45.2, .int 5, .ref r47] C hX dX0_init_35 lkI_X0_21 rfl (tX7_init hl e51) rfl rfl rfl rfl ?_
  obtain ⟨h53, e54, hf⟩ := mx_bind hf
  refine mG_aastore (pc := 38) C dX0_init_38 e54 ?_
  refine mG_ii (ls' := [some (.ref p0), some (.int 6)]) (pc := 39) C dX0_init_39 rfl (by decide) rfl rfl rfl ?_
  refine mG_goto (tgt := 20) (pc := 42) C dX0_init_42 (by decide) ?_
  refine mG_iload_n (pc := 20) C dX0_init_20 rfl ?_
  refine mG_bp (pc := 21) C dX0_init_21 kB8 ?_
  refine mG_icmp_ge (pc := 23) (tgt := 45) C dX0_init_23 (by decide) (fun q => absurd q (by decide)) (fun _ => ?_)
  refine mG_aload_n (pc := 26) C dX0_init_26 rfl ?_
  obtain ⟨r55, e56, hf⟩ := mx_bind hf
  refine mG_getR (pc := 27) C dX0_init_27 fl_X0_11 e56 ?_
  refine mG_iload_n (pc := 30) C dX0_init_30 rfl ?_
  obtain ⟨h57, e58, hf⟩ := mx_bind hf
  refine mG_nwO (pc := 31) (k' := 176) (n' := 2946) C hX dX0_init_31 mk_X0_9 e58 rfl rfl rfl ?_
  refine mG_dup (pc := 34) C dX0_init_34 rfl ?_
  obtain ⟨o60, e59, hf⟩ := mx_bind hf
  refine mG_cI (pc := 35) (k' := 204) (n' := 3431) [] [.ref h53.2, .int 6, .ref r55] C hX dX0_init_35 lkI_X0_21 rfl (tX7_init hl e59) rfl rfl rfl rfl ?_
  obtain ⟨h61, e62, hf⟩ := mx_bind hf
  refine mG_aastore (pc := 38) C dX0_init_38 e62 ?_
  refine mG_ii (ls' := [some (.ref p0), some (.int 7)]) (pc := 39) C dX0_init_39 rfl (by decide) rfl rfl rfl ?_
  refine mG_goto (tgt := 20) (pc := 42) C dX0_init_42 (by decide) ?_
  refine mG_iload_n (pc := 20) C dX0_init_20 rfl ?_
  refine mG_bp (pc := 21) C dX0_init_21 kB8 ?_
  refine mG_icmp_ge (pc := 23) (tgt := 45) C dX0_init_23 (by decide) (fun q => absurd q (by decide)) (fun _ => ?_)
  refine mG_aload_n (pc := 26) C dX0_init_26 rfl ?_
  obtain ⟨r63, e64, hf⟩ := mx_bind hf
  refine mG_getR (pc := 27) C dX0_init_27 fl_X0_11 e64 ?_
  refine mG_iload_n (pc := 30) C dX0_init_30 rfl ?_
  obtain ⟨h65, e66, hf⟩ := mx_bind hf
  refine mG_nwO (pc := 31) (k' := 205) (n' := 3435) C hX dX0_init_31 mk_X0_9 e66 rfl rfl rfl ?_
  refine mG_dup (pc := 34) C dX0_init_34 rfl ?_
  obtain ⟨o68, e67, hf⟩ := mx_bind hf
  refine mG_cI (pc := 35) (k' := 233) (n' := 3920) [] [.ref h61.2, .int 7, .ref r63] C hX dX0_init_35 lkI_X0_21 rfl (tX7_init hl e67) rfl rfl rfl rfl ?_
  obtain ⟨h69, e70, hf⟩ := mx_bind hf
  refine mG_aastore (pc := 38) C dX0_init_38 e70 ?_
  refine mG_ii (ls' := [some (.ref p0), some (.int 8)]) (pc := 39) C dX0_init_39 rfl (by decide) rfl rfl rfl ?_
  refine mG_goto (tgt := 20) (pc := 42) C dX0_init_42 (by decide) ?_
  refine mG_iload_n (pc := 20) C dX0_init_20 rfl ?_
  refine mG_bp (pc := 21) C dX0_init_21 kB8 ?_
  refine mG_icmp_ge (pc := 23) (tgt := 45) C dX0_init_23 (by decide) (fun _ => ?_) (fun q => absurd (by decide) q)
  cases hf
  exact mG_vr (pc := 45) C E hX dX0_init_45 rfl
theorem dX1_init_0 : decode cX1_init 0 = .ok (.aload_n 0, 1) := by decide +kernel
theorem dX1_init_1 : decode cX1_init 1 = .ok (.invokespecial 3, 3) := by decide +kernel
theorem dX1_init_4 : decode cX1_init 4 = .ok (.aload_n 0, 1) := by decide +kernel
theorem dX1_init_5 : decode cX1_init 5 = .ok (.bipush 100, 2) := by decide +kernel
theorem dX1_init_7 : decode cX1_init 7 = .ok (.newarray .int, 2) := by decide +kernel
theorem dX1_init_9 : decode cX1_init 9 = .ok (.putfield 9, 3) := by decide +kernel
theorem dX1_init_12 : decode cX1_init 12 = .ok (.aload_n 0, 1) := by decide +kernel
theorem dX1_init_13 : decode cX1_init 13 = .ok (.bipush 100, 2) := by decide +kernel
theorem dX1_init_15 : decode cX1_init 15 = .ok (.newarray .int, 2) := by decide +kernel
theorem dX1_init_17 : decode cX1_init 17 = .ok (.putfield 15, 3) := by decide +kernel
theorem dX1_init_20 : decode cX1_init 20 = .ok (.aload_n 0, 1) := by decide +kernel
theorem dX1_init_21 : decode cX1_init 21 = .ok (.iconst 0, 1) := by decide +kernel
theorem dX1_init_22 : decode cX1_init 22 = .ok (.putfield 18, 3) := by decide +kernel
theorem dX1_init_25 : decode cX1_init 25 = .ok (.aload_n 0, 1) := by decide +kernel
theorem dX1_init_26 : decode cX1_init 26 = .ok (.iconst 5, 1) := by decide +kernel
theorem dX1_init_27 : decode cX1_init 27 = .ok (.newarray .int, 2) := by decide +kernel
theorem dX1_init_29 : decode cX1_init 29 = .ok (.putfield 22, 3) := by decide +kernel
theorem dX1_init_32 : decode cX1_init 32 = .ok (.return_, 1) := by decide +kernel
def fX1_init (p0 : Nat) (h : mxH) : Option mxH := Option.bind (nwI h 100) (fun h1 => Option.bind (pR h1 p0 1 0 h.2) (fun h3 => Option.bind (nwI h3 100) (fun h5 => Option.bind (pR h5 p0 1 1 h3.2) (fun h7 => Option.bind (pI h7 p0 1 2 0) (fun h9 => Option.bind (nwI h9 5) (fun h11 => Option.bind (pR h11 p0 1 3 h9.2) (fun h13 => some h13)))))))
abbrev rmX1_init : Room := { frames := 1, cells := 3, slots := 205, locals := 21 }
set_option maxRecDepth 20000 in
theorem tX1_init {l : Launch} {Z : mxZ} (hl : l.stackTraces = false) {p0 : Nat} {h : mxH} {out : mxH} (hf : fX1_init p0 h = some out) : mxMet l Z yX1_init cX1_init 1 (none) rmX1_init [.ref p0] h (.inl none) out := by
  refine mxMet_of (by decide) hl (by simp [Value.category]) (Nat.le_of_ble_eq_true rfl) ?_
  intro X C E hX hin
  unfold fX1_init at hf
  refine mG_aload_n (pc := 0) C dX1_init_0 rfl ?_
  refine mG_oI (pc := 1) C hX dX1_init_1 oi_X1_3 rfl rfl ?_
  refine mG_aload_n (pc := 4) C dX1_init_4 rfl ?_
  refine mG_bp (pc := 5) C dX1_init_5 kB100 ?_
  obtain ⟨h1, e2, hf⟩ := mx_bind hf
  refine mG_nwI (N := 100) (pc := 7) (k' := 1) (n' := 100) C hX dX1_init_7 w272 (by decide) (by decide) rfl e2 rfl rfl rfl ?_
  obtain ⟨h3, e4, hf⟩ := mx_bind hf
  refine mG_putR (pc := 9) C dX1_init_9 fl_X1_9 rfl (hin rfl) ⟨_, _, rfl, w391⟩ (fun _ => rfl) (fun _ => rfl) e4 ?_
  refine mG_aload_n (pc := 12) C dX1_init_12 rfl ?_
  refine mG_bp (pc := 13) C dX1_init_13 kB100 ?_
  obtain ⟨h5, e6, hf⟩ := mx_bind hf
  refine mG_nwI (N := 100) (pc := 15) (k' := 2) (n' := 200) C hX dX1_init_15 w272 (by decide) (by decide) rfl e6 rfl rfl rfl ?_
  obtain ⟨h7, e8, hf⟩ := mx_bind hf
  refine mG_putR (pc := 17) C dX1_init_17 fl_X1_15 rfl (hin rfl) ⟨_, _, rfl, w392⟩ (fun _ => rfl) (fun _ => rfl) e8 ?_
  refine mG_aload_n (pc := 20) C dX1_init_20 rfl ?_
  refine mG_ic (pc := 21) C dX1_init_21 kI0 ?_
  obtain ⟨h9, e10, hf⟩ := mx_bind hf
  refine mG_putI (pc := 22) C dX1_init_22 fl_X1_18 e10 ?_
  refine mG_aload_n (pc := 25) C dX1_init_25 rfl ?_
  refine mG_ic (pc := 26) C dX1_init_26 kI5 ?_
  obtain ⟨h11, e12, hf⟩ := mx_bind hf
  refine mG_nwI (N := 5) (pc := 27) (k' := 3) (n' := 205) C hX dX1_init_27 w272 (by decide) (by decide) rfl e12 rfl rfl rfl ?_
  obtain ⟨h13, e14, hf⟩ := mx_bind hf
  refine mG_putR (pc := 29) C dX1_init_29 fl_X1_22 rfl (hin rfl) ⟨_, _, rfl, w395⟩ (fun _ => rfl) (fun _ => rfl) e14 ?_
  cases hf
  exact mG_vr (pc := 32) C E hX dX1_init_32 rfl
theorem dX3_init_0 : decode cX3_init 0 = .ok (.aload_n 0, 1) := by decide +kernel
theorem dX3_init_1 : decode cX3_init 1 = .ok (.invokespecial 3, 3) := by decide +kernel
theorem dX3_init_4 : decode cX3_init 4 = .ok (.aload_n 0, 1) := by decide +kernel
theorem dX3_init_5 : decode cX3_init 5 = .ok (.sipush 199, 3) := by decide +kernel
theorem dX3_init_8 : decode cX3_init 8 = .ok (.newarray .int, 2) := by decide +kernel
theorem dX3_init_10 : decode cX3_init 10 = .ok (.putfield 9, 3) := by decide +kernel
theorem dX3_init_13 : decode cX3_init 13 = .ok (.aload_n 0, 1) := by decide +kernel
theorem dX3_init_14 : decode cX3_init 14 = .ok (.iconst 0, 1) := by decide +kernel
theorem dX3_init_15 : decode cX3_init 15 = .ok (.putfield 15, 3) := by decide +kernel
theorem dX3_init_18 : decode cX3_init 18 = .ok (.aload_n 0, 1) := by decide +kernel
theorem dX3_init_19 : decode cX3_init 19 = .ok (.iconst 0, 1) := by decide +kernel
theorem dX3_init_20 : decode cX3_init 20 = .ok (.putfield 19, 3) := by decide +kernel
theorem dX3_init_23 : decode cX3_init 23 = .ok (.aload_n 0, 1) := by decide +kernel
theorem dX3_init_24 : decode cX3_init 24 = .ok (.iconst 0, 1) := by decide +kernel
theorem dX3_init_25 : decode cX3_init 25 = .ok (.putfield 22, 3) := by decide +kernel
theorem dX3_init_28 : decode cX3_init 28 = .ok (.return_, 1) := by decide +kernel
def fX3_init (p0 : Nat) (h : mxH) : Option mxH := Option.bind (nwI h 199) (fun h1 => Option.bind (pR h1 p0 3 0 h.2) (fun h3 => Option.bind (pI h3 p0 3 1 0) (fun h5 => Option.bind (pI h5 p0 3 2 0) (fun h7 => Option.bind (pI h7 p0 3 3 0) (fun h9 => some h9)))))
abbrev rmX3_init : Room := { frames := 1, cells := 1, slots := 199, locals := 21 }
set_option maxRecDepth 20000 in
theorem tX3_init {l : Launch} {Z : mxZ} (hl : l.stackTraces = false) {p0 : Nat} {h : mxH} {out : mxH} (hf : fX3_init p0 h = some out) : mxMet l Z yX3_init cX3_init 1 (none) rmX3_init [.ref p0] h (.inl none) out := by
  refine mxMet_of (by decide) hl (by simp [Value.category]) (Nat.le_of_ble_eq_true rfl) ?_
  intro X C E hX hin
  unfold fX3_init at hf
  refine mG_aload_n (pc := 0) C dX3_init_0 rfl ?_
  refine mG_oI (pc := 1) C hX dX3_init_1 oi_X3_3 rfl rfl ?_
  refine mG_aload_n (pc := 4) C dX3_init_4 rfl ?_
  refine mG_sp (pc := 5) C dX3_init_5 kS199 ?_
  obtain ⟨h1, e2, hf⟩ := mx_bind hf
  refine mG_nwI (N := 199) (pc := 8) (k' := 1) (n' := 199) C hX dX3_init_8 w272 (by decide) (by decide) rfl e2 rfl rfl rfl ?_
  obtain ⟨h3, e4, hf⟩ := mx_bind hf
  refine mG_putR (pc := 10) C dX3_init_10 fl_X3_9 rfl (hin rfl) ⟨_, _, rfl, w435⟩ (fun _ => rfl) (fun _ => rfl) e4 ?_
  refine mG_aload_n (pc := 13) C dX3_init_13 rfl ?_
  refine mG_ic (pc := 14) C dX3_init_14 kI0 ?_
  obtain ⟨h5, e6, hf⟩ := mx_bind hf
  refine mG_putI (pc := 15) C dX3_init_15 fl_X3_15 e6 ?_
  refine mG_aload_n (pc := 18) C dX3_init_18 rfl ?_
  refine mG_ic (pc := 19) C dX3_init_19 kI0 ?_
  obtain ⟨h7, e8, hf⟩ := mx_bind hf
  refine mG_putI (pc := 20) C dX3_init_20 fl_X3_19 e8 ?_
  refine mG_aload_n (pc := 23) C dX3_init_23 rfl ?_
  refine mG_ic (pc := 24) C dX3_init_24 kI0 ?_
  obtain ⟨h9, e10, hf⟩ := mx_bind hf
  refine mG_putI (pc := 25) C dX3_init_25 fl_X3_22 e10 ?_
  cases hf
  exact mG_vr (pc := 28) C E hX dX3_init_28 rfl
theorem dX4_init_0 : decode cX4_init 0 = .ok (.aload_n 0, 1) := by decide +kernel
theorem dX4_init_1 : decode cX4_init 1 = .ok (.invokespecial 3, 3) := by decide +kernel
theorem dX4_init_4 : decode cX4_init 4 = .ok (.aload_n 0, 1) := by decide +kernel
theorem dX4_init_5 : decode cX4_init 5 = .ok (.bipush 20, 2) := by decide +kernel
theorem dX4_init_7 : decode cX4_init 7 = .ok (.newarray .int, 2) := by decide +kernel
theorem dX4_init_9 : decode cX4_init 9 = .ok (.putfield 9, 3) := by decide +kernel
theorem dX4_init_12 : decode cX4_init 12 = .ok (.aload_n 0, 1) := by decide +kernel
theorem dX4_init_13 : decode cX4_init 13 = .ok (.bipush 20, 2) := by decide +kernel
theorem dX4_init_15 : decode cX4_init 15 = .ok (.newarray .int, 2) := by decide +kernel
theorem dX4_init_17 : decode cX4_init 17 = .ok (.putfield 15, 3) := by decide +kernel
theorem dX4_init_20 : decode cX4_init 20 = .ok (.aload_n 0, 1) := by decide +kernel
theorem dX4_init_21 : decode cX4_init 21 = .ok (.bipush 20, 2) := by decide +kernel
theorem dX4_init_23 : decode cX4_init 23 = .ok (.newarray .int, 2) := by decide +kernel
theorem dX4_init_25 : decode cX4_init 25 = .ok (.putfield 18, 3) := by decide +kernel
theorem dX4_init_28 : decode cX4_init 28 = .ok (.aload_n 0, 1) := by decide +kernel
theorem dX4_init_29 : decode cX4_init 29 = .ok (.iconst 0, 1) := by decide +kernel
theorem dX4_init_30 : decode cX4_init 30 = .ok (.putfield 21, 3) := by decide +kernel
theorem dX4_init_33 : decode cX4_init 33 = .ok (.return_, 1) := by decide +kernel
def fX4_init (p0 : Nat) (h : mxH) : Option mxH := Option.bind (nwI h 20) (fun h1 => Option.bind (pR h1 p0 4 0 h.2) (fun h3 => Option.bind (nwI h3 20) (fun h5 => Option.bind (pR h5 p0 4 1 h3.2) (fun h7 => Option.bind (nwI h7 20) (fun h9 => Option.bind (pR h9 p0 4 2 h7.2) (fun h11 => Option.bind (pI h11 p0 4 3 0) (fun h13 => some h13)))))))
abbrev rmX4_init : Room := { frames := 1, cells := 3, slots := 60, locals := 21 }
set_option maxRecDepth 20000 in
theorem tX4_init {l : Launch} {Z : mxZ} (hl : l.stackTraces = false) {p0 : Nat} {h : mxH} {out : mxH} (hf : fX4_init p0 h = some out) : mxMet l Z yX4_init cX4_init 1 (none) rmX4_init [.ref p0] h (.inl none) out := by
  refine mxMet_of (by decide) hl (by simp [Value.category]) (Nat.le_of_ble_eq_true rfl) ?_
  intro X C E hX hin
  unfold fX4_init at hf
  refine mG_aload_n (pc := 0) C dX4_init_0 rfl ?_
  refine mG_oI (pc := 1) C hX dX4_init_1 oi_X4_3 rfl rfl ?_
  refine mG_aload_n (pc := 4) C dX4_init_4 rfl ?_
  refine mG_bp (pc := 5) C dX4_init_5 kB20 ?_
  obtain ⟨h1, e2, hf⟩ := mx_bind hf
  refine mG_nwI (N := 20) (pc := 7) (k' := 1) (n' := 20) C hX dX4_init_7 w272 (by decide) (by decide) rfl e2 rfl rfl rfl ?_
  obtain ⟨h3, e4, hf⟩ := mx_bind hf
  refine mG_putR (pc := 9) C dX4_init_9 fl_X4_9 rfl (hin rfl) ⟨_, _, rfl, w350⟩ (fun _ => rfl) (fun _ => rfl) e4 ?_
  refine mG_aload_n (pc := 12) C dX4_init_12 rfl ?_
  refine mG_bp (pc := 13) C dX4_init_13 kB20 ?_
  obtain ⟨h5, e6, hf⟩ := mx_bind hf
  refine mG_nwI (N := 20) (pc := 15) (k' := 2) (n' := 40) C hX dX4_init_15 w272 (by decide) (by decide) rfl e6 rfl rfl rfl ?_
  obtain ⟨h7, e8, hf⟩ := mx_bind hf
  refine mG_putR (pc := 17) C dX4_init_17 fl_X4_15 rfl (hin rfl) ⟨_, _, rfl, w351⟩ (fun _ => rfl) (fun _ => rfl) e8 ?_
  refine mG_aload_n (pc := 20) C dX4_init_20 rfl ?_
  refine mG_bp (pc := 21) C dX4_init_21 kB20 ?_
  obtain ⟨h9, e10, hf⟩ := mx_bind hf
  refine mG_nwI (N := 20) (pc := 23) (k' := 3) (n' := 60) C hX dX4_init_23 w272 (by decide) (by decide) rfl e10 rfl rfl rfl ?_
  obtain ⟨h11, e12, hf⟩ := mx_bind hf
  refine mG_putR (pc := 25) C dX4_init_25 fl_X4_18 rfl (hin rfl) ⟨_, _, rfl, w352⟩ (fun _ => rfl) (fun _ => rfl) e12 ?_
  refine mG_aload_n (pc := 28) C dX4_init_28 rfl ?_
  refine mG_ic (pc := 29) C dX4_init_29 kI0 ?_
  obtain ⟨h13, e14, hf⟩ := mx_bind hf
  refine mG_putI (pc := 30) C dX4_init_30 fl_X4_21 e14 ?_
  cases hf
  exact mG_vr (pc := 33) C E hX dX4_init_33 rfl
theorem dX5_init_0 : decode cX5_init 0 = .ok (.aload_n 0, 1) := by decide +kernel
theorem dX5_init_1 : decode cX5_init 1 = .ok (.invokespecial 3, 3) := by decide +kernel
theorem dX5_init_4 : decode cX5_init 4 = .ok (.aload_n 0, 1) := by decide +kernel
theorem dX5_init_5 : decode cX5_init 5 = .ok (.bipush 21, 2) := by decide +kernel
theorem dX5_init_7 : decode cX5_init 7 = .ok (.newarray .int, 2) := by decide +kernel
theorem dX5_init_9 : decode cX5_init 9 = .ok (.putfield 9, 3) := by decide +kernel
theorem dX5_init_12 : decode cX5_init 12 = .ok (.aload_n 0, 1) := by decide +kernel
theorem dX5_init_13 : decode cX5_init 13 = .ok (.bipush 21, 2) := by decide +kernel
theorem dX5_init_15 : decode cX5_init 15 = .ok (.newarray .int, 2) := by decide +kernel
theorem dX5_init_17 : decode cX5_init 17 = .ok (.putfield 15, 3) := by decide +kernel
theorem dX5_init_20 : decode cX5_init 20 = .ok (.aload_n 0, 1) := by decide +kernel
theorem dX5_init_21 : decode cX5_init 21 = .ok (.bipush 20, 2) := by decide +kernel
theorem dX5_init_23 : decode cX5_init 23 = .ok (.newarray .int, 2) := by decide +kernel
theorem dX5_init_25 : decode cX5_init 25 = .ok (.putfield 18, 3) := by decide +kernel
theorem dX5_init_28 : decode cX5_init 28 = .ok (.aload_n 0, 1) := by decide +kernel
theorem dX5_init_29 : decode cX5_init 29 = .ok (.bipush 20, 2) := by decide +kernel
theorem dX5_init_31 : decode cX5_init 31 = .ok (.newarray .int, 2) := by decide +kernel
theorem dX5_init_33 : decode cX5_init 33 = .ok (.putfield 21, 3) := by decide +kernel
theorem dX5_init_36 : decode cX5_init 36 = .ok (.aload_n 0, 1) := by decide +kernel
theorem dX5_init_37 : decode cX5_init 37 = .ok (.iconst 0, 1) := by decide +kernel
theorem dX5_init_38 : decode cX5_init 38 = .ok (.putfield 24, 3) := by decide +kernel
theorem dX5_init_41 : decode cX5_init 41 = .ok (.return_, 1) := by decide +kernel
def fX5_init (p0 : Nat) (h : mxH) : Option mxH := Option.bind (nwI h 21) (fun h1 => Option.bind (pR h1 p0 5 0 h.2) (fun h3 => Option.bind (nwI h3 21) (fun h5 => Option.bind (pR h5 p0 5 1 h3.2) (fun h7 => Option.bind (nwI h7 20) (fun h9 => Option.bind (pR h9 p0 5 2 h7.2) (fun h11 => Option.bind (nwI h11 20) (fun h13 => Option.bind (pR h13 p0 5 3 h11.2) (fun h15 => Option.bind (pI h15 p0 5 4 0) (fun h17 => some h17)))))))))
abbrev rmX5_init : Room := { frames := 1, cells := 4, slots := 82, locals := 21 }
set_option maxRecDepth 20000 in
theorem tX5_init {l : Launch} {Z : mxZ} (hl : l.stackTraces = false) {p0 : Nat} {h : mxH} {out : mxH} (hf : fX5_init p0 h = some out) : mxMet l Z yX5_init cX5_init 1 (none) rmX5_init [.ref p0] h (.inl none) out := by
  refine mxMet_of (by decide) hl (by simp [Value.category]) (Nat.le_of_ble_eq_true rfl) ?_
  intro X C E hX hin
  unfold fX5_init at hf
  refine mG_aload_n (pc := 0) C dX5_init_0 rfl ?_
  refine mG_oI (pc := 1) C hX dX5_init_1 oi_X5_3 rfl rfl ?_
  refine mG_aload_n (pc := 4) C dX5_init_4 rfl ?_
  refine mG_bp (pc := 5) C dX5_init_5 kB21 ?_
  obtain ⟨h1, e2, hf⟩ := mx_bind hf
  refine mG_nwI (N := 21) (pc := 7) (k' := 1) (n' := 21) C hX dX5_init_7 w272 (by decide) (by decide) rfl e2 rfl rfl rfl ?_
  obtain ⟨h3, e4, hf⟩ := mx_bind hf
  refine mG_putR (pc := 9) C dX5_init_9 fl_X5_9 rfl (hin rfl) ⟨_, _, rfl, w370⟩ (fun _ => rfl) (fun _ => rfl) e4 ?_
  refine mG_aload_n (pc := 12) C dX5_init_12 rfl ?_
  refine mG_bp (pc := 13) C dX5_init_13 kB21 ?_
  obtain ⟨h5, e6, hf⟩ := mx_bind hf
  refine mG_nwI (N := 21) (pc := 15) (k' := 2) (n' := 42) C hX dX5_init_15 w272 (by decide) (by decide) rfl e6 rfl rfl rfl ?_
  obtain ⟨h7, e8, hf⟩ := mx_bind hf
  refine mG_putR (pc := 17) C dX5_init_17 fl_X5_15 rfl (hin rfl) ⟨_, _, rfl, w371⟩ (fun _ => rfl) (fun _ => rfl) e8 ?_
  refine mG_aload_n (pc := 20) C dX5_init_20 rfl ?_
  refine mG_bp (pc := 21) C dX5_init_21 kB20 ?_
  obtain ⟨h9, e10, hf⟩ := mx_bind hf
  refine mG_nwI (N := 20) (pc := 23) (k' := 3) (n' := 62) C hX dX5_init_23 w272 (by decide) (by decide) rfl e10 rfl rfl rfl ?_
  obtain ⟨h11, e12, hf⟩ := mx_bind hf
  refine mG_putR (pc := 25) C dX5_init_25 fl_X5_18 rfl (hin rfl) ⟨_, _, rfl, w372⟩ (fun _ => rfl) (fun _ => rfl) e12 ?_
  refine mG_aload_n (pc := 28) C dX5_init_28 rfl ?_
  refine mG_bp (pc := 29) C dX5_init_29 kB20 ?_
  obtain ⟨h13, e14, hf⟩ := mx_bind hf
  refine mG_nwI (N := 20) (pc := 31) (k' := 4) (n' := 82) C hX dX5_init_31 w272 (by decide) (by decide) rfl e14 rfl rfl rfl ?_
  obtain ⟨h15, e16, hf⟩ := mx_bind hf
  refine mG_putR (pc := 33) C dX5_init_33 fl_X5_21 rfl (hin rfl) ⟨_, _, rfl, w373⟩ (fun _ => rfl) (fun _ => rfl) e16 ?_
  refine mG_aload_n (pc := 36) C dX5_init_36 rfl ?_
  refine mG_ic (pc := 37) C dX5_init_37 kI0 ?_
  obtain ⟨h17, e18, hf⟩ := mx_bind hf
  refine mG_putI (pc := 38) C dX5_init_38 fl_X5_24 e18 ?_
  cases hf
  exact mG_vr (pc := 41) C E hX dX5_init_41 rfl
theorem dX8_init_0 : decode cX8_init 0 = .ok (.aload_n 0, 1) := by decide +kernel
theorem dX8_init_1 : decode cX8_init 1 = .ok (.invokespecial 3, 3) := by decide +kernel
theorem dX8_init_4 : decode cX8_init 4 = .ok (.aload_n 0, 1) := by decide +kernel
theorem dX8_init_5 : decode cX8_init 5 = .ok (.bipush 6, 2) := by decide +kernel
theorem dX8_init_7 : decode cX8_init 7 = .ok (.newarray .int, 2) := by decide +kernel
theorem dX8_init_9 : decode cX8_init 9 = .ok (.putfield 9, 3) := by decide +kernel
theorem dX8_init_12 : decode cX8_init 12 = .ok (.aload_n 0, 1) := by decide +kernel
theorem dX8_init_13 : decode cX8_init 13 = .ok (.iconst 0, 1) := by decide +kernel
theorem dX8_init_14 : decode cX8_init 14 = .ok (.putfield 15, 3) := by decide +kernel
theorem dX8_init_17 : decode cX8_init 17 = .ok (.aload_n 0, 1) := by decide +kernel
theorem dX8_init_18 : decode cX8_init 18 = .ok (.bipush 6, 2) := by decide +kernel
theorem dX8_init_20 : decode cX8_init 20 = .ok (.bipush 6, 2) := by decide +kernel
theorem dX8_init_22 : decode cX8_init 22 = .ok (.multianewarray 19 2, 4) := by decide +kernel
theorem dX8_init_26 : decode cX8_init 26 = .ok (.putfield 21, 3) := by decide +kernel
theorem dX8_init_29 : decode cX8_init 29 = .ok (.aload_n 0, 1) := by decide +kernel
theorem dX8_init_30 : decode cX8_init 30 = .ok (.bipush 64, 2) := by decide +kernel
theorem dX8_init_32 : decode cX8_init 32 = .ok (.newarray .int, 2) := by decide +kernel
theorem dX8_init_34 : decode cX8_init 34 = .ok (.putfield 24, 3) := by decide +kernel
theorem dX8_init_37 : decode cX8_init 37 = .ok (.aload_n 0, 1) := by decide +kernel
theorem dX8_init_38 : decode cX8_init 38 = .ok (.bipush 6, 2) := by decide +kernel
theorem dX8_init_40 : decode cX8_init 40 = .ok (.newarray .int, 2) := by decide +kernel
theorem dX8_init_42 : decode cX8_init 42 = .ok (.putfield 27, 3) := by decide +kernel
theorem dX8_init_45 : decode cX8_init 45 = .ok (.return_, 1) := by decide +kernel
def fX8_init (p0 : Nat) (h : mxH) : Option mxH := Option.bind (nwI h 6) (fun h1 => Option.bind (pR h1 p0 8 0 h.2) (fun h3 => Option.bind (pI h3 p0 8 1 0) (fun h5 => Option.bind (nwG h5 6 6) (fun h7 => Option.bind (pR h7 p0 8 2 h5.2) (fun h9 => Option.bind (nwI h9 64) (fun h11 => Option.bind (pR h11 p0 8 3 h9.2) (fun h13 => Option.bind (nwI h13 6) (fun h15 => Option.bind (pR h15 p0 8 4 h13.2) (fun h17 => some h17)))))))))
abbrev rmX8_init : Room := { frames := 1, cells := 10, slots := 118, locals := 21 }
set_option maxRecDepth 20000 in
theorem tX8_init {l : Launch} {Z : mxZ} (hl : l.stackTraces = false) {p0 : Nat} {h : mxH} {out : mxH} (hf : fX8_init p0 h = some out) : mxMet l Z yX8_init cX8_init 1 (none) rmX8_init [.ref p0] h (.inl none) out := by
  refine mxMet_of (by decide) hl (by simp [Value.category]) (Nat.le_of_ble_eq_true rfl) ?_
  intro X C E hX hin
  unfold fX8_init at hf
  refine mG_aload_n (pc := 0) C dX8_init_0 rfl ?_
  refine mG_oI (pc := 1) C hX dX8_init_1 oi_X8_3 rfl rfl ?_
  refine mG_aload_n (pc := 4) C dX8_init_4 rfl ?_
  refine mG_bp (pc := 5) C dX8_init_5 kB6 ?_
  obtain ⟨h1, e2, hf⟩ := mx_bind hf
  refine mG_nwI (N := 6) (pc := 7) (k' := 1) (n' := 6) C hX dX8_init_7 w272 (by decide) (by decide) rfl e2 rfl rfl rfl ?_
  obtain ⟨h3, e4, hf⟩ := mx_bind hf
  refine mG_putR (pc := 9) C dX8_init_9 fl_X8_9 rfl (hin rfl) ⟨_, _, rfl, w412⟩ (fun _ => rfl) (fun _ => rfl) e4 ?_
  refine mG_aload_n (pc := 12) C dX8_init_12 rfl ?_
  refine mG_ic (pc := 13) C dX8_init_13 kI0 ?_
  obtain ⟨h5, e6, hf⟩ := mx_bind hf
  refine mG_putI (pc := 14) C dX8_init_14 fl_X8_15 e6 ?_
  refine mG_aload_n (pc := 17) C dX8_init_17 rfl ?_
  refine mG_bp (pc := 18) C dX8_init_18 kB6 ?_
  refine mG_bp (pc := 20) C dX8_init_20 kB6 ?_
  obtain ⟨h7, e8, hf⟩ := mx_bind hf
  refine mG_nwG (N := 6) (K := 6) (pc := 22) (k' := 8) (n' := 48) C hX dX8_init_22 w411 w272 (by decide) (by decide) (by decide) (by decide) rfl rfl e8 rfl rfl rfl ?_
  obtain ⟨h9, e10, hf⟩ := mx_bind hf
  refine mG_putR (pc := 26) C dX8_init_26 fl_X8_21 rfl (hin rfl) ⟨_, _, rfl, w415⟩ (fun _ => rfl) (fun _ => rfl) e10 ?_
  refine mG_aload_n (pc := 29) C dX8_init_29 rfl ?_
  refine mG_bp (pc := 30) C dX8_init_30 kB64 ?_
  obtain ⟨h11, e12, hf⟩ := mx_bind hf
  refine mG_nwI (N := 64) (pc := 32) (k' := 9) (n' := 112) C hX dX8_init_32 w272 (by decide) (by decide) rfl e12 rfl rfl rfl ?_
  obtain ⟨h13, e14, hf⟩ := mx_bind hf
  refine mG_putR (pc := 34) C dX8_init_34 fl_X8_24 rfl (hin rfl) ⟨_, _, rfl, w416⟩ (fun _ => rfl) (fun _ => rfl) e14 ?_
  refine mG_aload_n (pc := 37) C dX8_init_37 rfl ?_
  refine mG_bp (pc := 38) C dX8_init_38 kB6 ?_
  obtain ⟨h15, e16, hf⟩ := mx_bind hf
  refine mG_nwI (N := 6) (pc := 40) (k' := 10) (n' := 118) C hX dX8_init_40 w272 (by decide) (by decide) rfl e16 rfl rfl rfl ?_
  obtain ⟨h17, e18, hf⟩ := mx_bind hf
  refine mG_putR (pc := 42) C dX8_init_42 fl_X8_27 rfl (hin rfl) ⟨_, _, rfl, w417⟩ (fun _ => rfl) (fun _ => rfl) e18 ?_
  cases hf
  exact mG_vr (pc := 45) C E hX dX8_init_45 rfl
theorem dX9_init_0 : decode cX9_init 0 = .ok (.aload_n 0, 1) := by decide +kernel
theorem dX9_init_1 : decode cX9_init 1 = .ok (.invokespecial 3, 3) := by decide +kernel
theorem dX9_init_4 : decode cX9_init 4 = .ok (.aload_n 0, 1) := by decide +kernel
theorem dX9_init_5 : decode cX9_init 5 = .ok (.new 9, 3) := by decide +kernel
theorem dX9_init_8 : decode cX9_init 8 = .ok (.dup, 1) := by decide +kernel
theorem dX9_init_9 : decode cX9_init 9 = .ok (.invokespecial 11, 3) := by decide +kernel
theorem dX9_init_12 : decode cX9_init 12 = .ok (.putfield 12, 3) := by decide +kernel
theorem dX9_init_15 : decode cX9_init 15 = .ok (.aload_n 0, 1) := by decide +kernel
theorem dX9_init_16 : decode cX9_init 16 = .ok (.new 16, 3) := by decide +kernel
theorem dX9_init_19 : decode cX9_init 19 = .ok (.dup, 1) := by decide +kernel
theorem dX9_init_20 : decode cX9_init 20 = .ok (.invokespecial 18, 3) := by decide +kernel
theorem dX9_init_23 : decode cX9_init 23 = .ok (.putfield 19, 3) := by decide +kernel
theorem dX9_init_26 : decode cX9_init 26 = .ok (.aload_n 0, 1) := by decide +kernel
theorem dX9_init_27 : decode cX9_init 27 = .ok (.new 23, 3) := by decide +kernel
theorem dX9_init_30 : decode cX9_init 30 = .ok (.dup, 1) := by decide +kernel
theorem dX9_init_31 : decode cX9_init 31 = .ok (.invokespecial 25, 3) := by decide +kernel
theorem dX9_init_34 : decode cX9_init 34 = .ok (.putfield 26, 3) := by decide +kernel
theorem dX9_init_37 : decode cX9_init 37 = .ok (.aload_n 0, 1) := by decide +kernel
theorem dX9_init_38 : decode cX9_init 38 = .ok (.new 30, 3) := by decide +kernel
theorem dX9_init_41 : decode cX9_init 41 = .ok (.dup, 1) := by decide +kernel
theorem dX9_init_42 : decode cX9_init 42 = .ok (.invokespecial 32, 3) := by decide +kernel
theorem dX9_init_45 : decode cX9_init 45 = .ok (.putfield 33, 3) := by decide +kernel
theorem dX9_init_48 : decode cX9_init 48 = .ok (.aload_n 0, 1) := by decide +kernel
theorem dX9_init_49 : decode cX9_init 49 = .ok (.new 30, 3) := by decide +kernel
theorem dX9_init_52 : decode cX9_init 52 = .ok (.dup, 1) := by decide +kernel
theorem dX9_init_53 : decode cX9_init 53 = .ok (.invokespecial 32, 3) := by decide +kernel
theorem dX9_init_56 : decode cX9_init 56 = .ok (.putfield 37, 3) := by decide +kernel
theorem dX9_init_59 : decode cX9_init 59 = .ok (.aload_n 0, 1) := by decide +kernel
theorem dX9_init_60 : decode cX9_init 60 = .ok (.new 40, 3) := by decide +kernel
theorem dX9_init_63 : decode cX9_init 63 = .ok (.dup, 1) := by decide +kernel
theorem dX9_init_64 : decode cX9_init 64 = .ok (.invokespecial 42, 3) := by decide +kernel
theorem dX9_init_67 : decode cX9_init 67 = .ok (.putfield 43, 3) := by decide +kernel
theorem dX9_init_70 : decode cX9_init 70 = .ok (.aload_n 0, 1) := by decide +kernel
theorem dX9_init_71 : decode cX9_init 71 = .ok (.new 47, 3) := by decide +kernel
theorem dX9_init_74 : decode cX9_init 74 = .ok (.dup, 1) := by decide +kernel
theorem dX9_init_75 : decode cX9_init 75 = .ok (.invokespecial 49, 3) := by decide +kernel
theorem dX9_init_78 : decode cX9_init 78 = .ok (.putfield 50, 3) := by decide +kernel
theorem dX9_init_81 : decode cX9_init 81 = .ok (.aload_n 0, 1) := by decide +kernel
theorem dX9_init_82 : decode cX9_init 82 = .ok (.new 54, 3) := by decide +kernel
theorem dX9_init_85 : decode cX9_init 85 = .ok (.dup, 1) := by decide +kernel
theorem dX9_init_86 : decode cX9_init 86 = .ok (.invokespecial 56, 3) := by decide +kernel
theorem dX9_init_89 : decode cX9_init 89 = .ok (.putfield 57, 3) := by decide +kernel
theorem dX9_init_92 : decode cX9_init 92 = .ok (.aload_n 0, 1) := by decide +kernel
theorem dX9_init_93 : decode cX9_init 93 = .ok (.new 61, 3) := by decide +kernel
theorem dX9_init_96 : decode cX9_init 96 = .ok (.dup, 1) := by decide +kernel
theorem dX9_init_97 : decode cX9_init 97 = .ok (.invokespecial 63, 3) := by decide +kernel
theorem dX9_init_100 : decode cX9_init 100 = .ok (.putfield 64, 3) := by decide +kernel
theorem dX9_init_103 : decode cX9_init 103 = .ok (.iconst 0, 1) := by decide +kernel
theorem dX9_init_104 : decode cX9_init 104 = .ok (.istore_n 1, 1) := by decide +kernel
theorem dX9_init_105 : decode cX9_init 105 = .ok (.iload_n 1, 1) := by decide +kernel
theorem dX9_init_106 : decode cX9_init 106 = .ok (.iconst 2, 1) := by decide +kernel
theorem dX9_init_107 : decode cX9_init 107 = .ok (.iadd, 1) := by decide +kernel
theorem dX9_init_108 : decode cX9_init 108 = .ok (.getstatic 68, 3) := by decide +kernel
theorem dX9_init_111 : decode cX9_init 111 = .ok (.arraylength, 1) := by decide +kernel
theorem dX9_init_112 : decode cX9_init 112 = .ok (.if_icmp .ge 38, 3) := by decide +kernel
theorem dX9_init_115 : decode cX9_init 115 = .ok (.aload_n 0, 1) := by decide +kernel
theorem dX9_init_116 : decode cX9_init 116 = .ok (.getfield 12, 3) := by decide +kernel
theorem dX9_init_119 : decode cX9_init 119 = .ok (.getfield 72, 3) := by decide +kernel
theorem dX9_init_122 : decode cX9_init 122 = .ok (.getstatic 68, 3) := by decide +kernel
theorem dX9_init_125 : decode cX9_init 125 = .ok (.iload_n 1, 1) := by decide +kernel
theorem dX9_init_126 : decode cX9_init 126 = .ok (.iaload, 1) := by decide +kernel
theorem dX9_init_127 : decode cX9_init 127 = .ok (.getstatic 68, 3) := by decide +kernel
theorem dX9_init_130 : decode cX9_init 130 = .ok (.iload_n 1, 1) := by decide +kernel
theorem dX9_init_131 : decode cX9_init 131 = .ok (.iconst 1, 1) := by decide +kernel
theorem dX9_init_132 : decode cX9_init 132 = .ok (.iadd, 1) := by decide +kernel
theorem dX9_init_133 : decode cX9_init 133 = .ok (.iaload, 1) := by decide +kernel
theorem dX9_init_134 : decode cX9_init 134 = .ok (.getstatic 68, 3) := by decide +kernel
theorem dX9_init_137 : decode cX9_init 137 = .ok (.iload_n 1, 1) := by decide +kernel
theorem dX9_init_138 : decode cX9_init 138 = .ok (.iconst 2, 1) := by decide +kernel
theorem dX9_init_139 : decode cX9_init 139 = .ok (.iadd, 1) := by decide +kernel
theorem dX9_init_140 : decode cX9_init 140 = .ok (.iaload, 1) := by decide +kernel
theorem dX9_init_141 : decode cX9_init 141 = .ok (.invokevirtual 75, 3) := by decide +kernel
theorem dX9_init_144 : decode cX9_init 144 = .ok (.iinc 1 3, 3) := by decide +kernel
theorem dX9_init_147 : decode cX9_init 147 = .ok (.goto (-42), 3) := by decide +kernel
theorem dX9_init_150 : decode cX9_init 150 = .ok (.return_, 1) := by decide +kernel
def fX9_init (p0 : Nat) (h : mxH) : Option mxH := Option.bind (nwO h 7 [.null, .null, .int 0, .int 0]) (fun h1 => Option.bind (fX7_init h.2 h1) (fun o4 => Option.bind (pR o4 p0 9 0 h.2) (fun h5 => Option.bind (nwO h5 0 [.null, .int 0]) (fun h7 => Option.bind (fX0_init h5.2 h7) (fun o10 => Option.bind (pR o10 p0 9 1 h5.2) (fun h11 => Option.bind (nwO h11 6 [.null, .null, .null, .null, .null, .null, .int 0, .null]) (fun h13 => Option.bind (fX6_init h11.2 h13) (fun o16 => Option.bind (pR o16 p0 9 2 h11.2) (fun h17 => Option.bind (nwO h17 4 [.null, .null, .null, .int 0]) (fun h19 => Option.bind (fX4_init h17.2 h19) (fun o22 => Option.bind (pR o22 p0 9 3 h17.2) (fun h23 => Option.bind (nwO h23 4 [.null, .null, .null, .int 0]) (fun h25 => Option.bind (fX4_init h23.2 h25) (fun o28 => Option.bind (pR o28 p0 9 4 h23.2) (fun h29 => Option.bind (nwO h29 5 [.null, .null, .null, .null, .int 0]) (fun h31 => Option.bind (fX5_init h29.2 h31) (fun o34 => Option.bind (pR o34 p0 9 5 h29.2) (fun h35 => Option.bind (nwO h35 1 [.null, .null, .int 0, .null]) (fun h37 => Option.bind (fX1_init h35.2 h37) (fun o40 => Option.bind (pR o40 p0 9 6 h35.2) (fun h41 => Option.bind (nwO h41 8 [.null, .int 0, .null, .null, .null]) (fun h43 => Option.bind (fX8_init h41.2 h43) (fun o46 => Option.bind (pR o46 p0 9 7 h41.2) (fun h47 => Option.bind (nwO h47 3 [.null, .int 0, .int 0, .int 0]) (fun h49 => Option.bind (fX3_init h47.2 h49) (fun o52 => Option.bind (pR o52 p0 9 8 h47.2) (fun h53 => Option.bind (mxLoop (ρ := mxH) (fun s55 : (Int32 × mxH) => Option.bind (lenA s55.2 1000001) (fun v63 => (if v63 ≤ (s55.1 + 2) then some (Sum.inr s55.2) else Option.bind (gR s55.2 p0 9 0) (fun r66 => Option.bind (gR s55.2 r66 7 0) (fun r68 => Option.bind (ldI s55.2 1000001 s55.1) (fun v70 => Option.bind (ldI s55.2 1000001 (s55.1 + 1)) (fun v72 => Option.bind (ldI s55.2 1000001 (s55.1 + 2)) (fun v74 => Option.bind (isO s55.2 r68 6) (fun u76 => Option.bind (fX6_setMark r68 v70 v72 v74 s55.2) (fun o79 => some (Sum.inl (s55.1 + 3, o79)))))))))))) mxF (0, h53)) (fun r80 : mxH => some r80))))))))))))))))))))))))))))
abbrev rmX9_init : Room := { frames := 4, cells := 316, slots := 5519, locals := 92 }
set_option maxRecDepth 20000 in
theorem tX9_init {l : Launch} {Z : mxZ} (hl : l.stackTraces = false) {p0 : Nat} {h : mxH} {out : mxH} (hf : fX9_init p0 h = some out) : mxMet l Z yX9_init cX9_init 2 (none) rmX9_init [.ref p0] h (.inl none) out := by
  refine mxMet_of (by decide) hl (by simp [Value.category]) (Nat.le_of_ble_eq_true rfl) ?_
  intro X C E hX hin
  unfold fX9_init at hf
  refine mG_aload_n (pc := 0) C dX9_init_0 rfl ?_
  refine mG_oI (pc := 1) C hX dX9_init_1 oi_X9_3 rfl rfl ?_
  refine mG_aload_n (pc := 4) C dX9_init_4 rfl ?_
  obtain ⟨h1, e2, hf⟩ := mx_bind hf
  refine mG_nwO (pc := 5) (k' := 1) (n' := 4) C hX dX9_init_5 mk_X9_9 e2 rfl rfl rfl ?_
  refine mG_dup (pc := 8) C dX9_init_8 rfl ?_
  obtain ⟨o4, e3, hf⟩ := mx_bind hf
  refine mG_cI (pc := 9) (k' := 29) (n' := 489) [] [.ref h.2, .ref p0] C hX dX9_init_9 lkI_X9_11 rfl (tX7_init hl e3) rfl rfl rfl rfl ?_
  obtain ⟨h5, e6, hf⟩ := mx_bind hf
  refine mG_putR (pc := 12) C dX9_init_12 fl_X9_12 rfl (hin rfl) ⟨_, _, rfl, w469⟩ (fun _ => rfl) (fun _ => rfl) e6 ?_
  refine mG_aload_n (pc := 15) C dX9_init_15 rfl ?_
  obtain ⟨h7, e8, hf⟩ := mx_bind hf
  refine mG_nwO (pc := 16) (k' := 30) (n' := 491) C hX dX9_init_16 mk_X9_16 e8 rfl rfl rfl ?_
  refine mG_dup (pc := 19) C dX9_init_19 rfl ?_
  obtain ⟨o10, e9, hf⟩ := mx_bind hf
  refine mG_cI (pc := 20) (k' := 263) (n' := 4411) [] [.ref h5.2, .ref p0] C hX dX9_init_20 lkI_X9_18 rfl (tX0_init hl e9) rfl rfl rfl rfl ?_
  obtain ⟨h11, e12, hf⟩ := mx_bind hf
  refine mG_putR (pc := 23) C dX9_init_23 fl_X9_19 rfl (hin rfl) ⟨_, _, rfl, w470⟩ (fun _ => rfl) (fun _ => rfl) e12 ?_
  refine mG_aload_n (pc := 26) C dX9_init_26 rfl ?_
  obtain ⟨h13, e14, hf⟩ := mx_bind hf
  refine mG_nwO (pc := 27) (k' := 264) (n' := 4419) C hX dX9_init_27 mk_X9_23 e14 rfl rfl rfl ?_
  refine mG_dup (pc := 30) C dX9_init_30 rfl ?_
  obtain ⟨o16, e15, hf⟩ := mx_bind hf
  refine mG_cI (pc := 31) (k' := 286) (n' := 4769) [] [.ref h11.2, .ref p0] C hX dX9_init_31 lkI_X9_25 rfl (tX6_init hl e15) rfl rfl rfl rfl ?_
  obtain ⟨h17, e18, hf⟩ := mx_bind hf
  refine mG_putR (pc := 34) C dX9_init_34 fl_X9_26 rfl (hin rfl) ⟨_, _, rfl, w471⟩ (fun _ => rfl) (fun _ => rfl) e18 ?_
  refine mG_aload_n (pc := 37) C dX9_init_37 rfl ?_
  obtain ⟨h19, e20, hf⟩ := mx_bind hf
  refine mG_nwO (pc := 38) (k' := 287) (n' := 4773) C hX dX9_init_38 mk_X9_30 e20 rfl rfl rfl ?_
  refine mG_dup (pc := 41) C dX9_init_41 rfl ?_
  obtain ⟨o22, e21, hf⟩ := mx_bind hf
  refine mG_cI (pc := 42) (k' := 290) (n' := 4833) [] [.ref h17.2, .ref p0] C hX dX9_init_42 lkI_X9_32 rfl (tX4_init hl e21) rfl rfl rfl rfl ?_
  obtain ⟨h23, e24, hf⟩ := mx_bind hf
  refine mG_putR (pc := 45) C dX9_init_45 fl_X9_33 rfl (hin rfl) ⟨_, _, rfl, w472⟩ (fun _ => rfl) (fun _ => rfl) e24 ?_
  refine mG_aload_n (pc := 48) C dX9_init_48 rfl ?_
  obtain ⟨h25, e26, hf⟩ := mx_bind hf
  refine mG_nwO (pc := 49) (k' := 291) (n' := 4837) C hX dX9_init_49 mk_X9_30 e26 rfl rfl rfl ?_
  refine mG_dup (pc := 52) C dX9_init_52 rfl ?_
  obtain ⟨o28, e27, hf⟩ := mx_bind hf
  refine mG_cI (pc := 53) (k' := 294) (n' := 4897) [] [.ref h23.2, .ref p0] C hX dX9_init_53 lkI_X9_32 rfl (tX4_init hl e27) rfl rfl rfl rfl ?_
  obtain ⟨h29, e30, hf⟩ := mx_bind hf
  refine mG_putR (pc := 56) C dX9_init_56 fl_X9_37 rfl (hin rfl) ⟨_, _, rfl, w473⟩ (fun _ => rfl) (fun _ => rfl) e30 ?_
  refine mG_aload_n (pc := 59) C dX9_init_59 rfl ?_
  obtain ⟨h31, e32, hf⟩ := mx_bind hf
  refine mG_nwO (pc := 60) (k' := 295) (n' := 4902) C hX dX9_init_60 mk_X9_40 e32 rfl rfl rfl ?_
  refine mG_dup (pc := 63) C dX9_init_63 rfl ?_
  obtain ⟨o34, e33, hf⟩ := mx_bind hf
  refine mG_cI (pc := 64) (k' := 299) (n' := 4984) [] [.ref h29.2, .ref p0] C hX dX9_init_64 lkI_X9_42 rfl (tX5_init hl e33) rfl rfl rfl rfl ?_
  obtain ⟨h35, e36, hf⟩ := mx_bind hf
  refine mG_putR (pc := 67) C dX9_init_67 fl_X9_43 rfl (hin rfl) ⟨_, _, rfl, w474⟩ (fun _ => rfl) (fun _ => rfl) e36 ?_
  refine mG_aload_n (pc := 70) C dX9_init_70 rfl ?_
  obtain ⟨h37, e38, hf⟩ := mx_bind hf
  refine mG_nwO (pc := 71) (k' := 300) (n' := 4988) C hX dX9_init_71 mk_X9_47 e38 rfl rfl rfl ?_
  refine mG_dup (pc := 74) C dX9_init_74 rfl ?_
  obtain ⟨o40, e39, hf⟩ := mx_bind hf
  refine mG_cI (pc := 75) (k' := 303) (n' := 5193) [] [.ref h35.2, .ref p0] C hX dX9_init_75 lkI_X9_49 rfl (tX1_init hl e39) rfl rfl rfl rfl ?_
  obtain ⟨h41, e42, hf⟩ := mx_bind hf
  refine mG_putR (pc := 78) C dX9_init_78 fl_X9_50 rfl (hin rfl) ⟨_, _, rfl, w475⟩ (fun _ => rfl) (fun _ => rfl) e42 ?_
  refine mG_aload_n (pc := 81) C dX9_init_81 rfl ?_
  obtain ⟨h43, e44, hf⟩ := mx_bind hf
  refine mG_nwO (pc := 82) (k' := 304) (n' := 5198) C hX dX9_init_82 mk_X9_54 e44 rfl rfl rfl ?_
  refine mG_dup (pc := 85) C dX9_init_85 rfl ?_
  obtain ⟨o46, e45, hf⟩ := mx_bind hf
  refine mG_cI (pc := 86) (k' := 314) (n' := 5316) [] [.ref h41.2, .ref p0] C hX dX9_init_86 lkI_X9_56 rfl (tX8_init hl e45) rfl rfl rfl rfl ?_
  obtain ⟨h47, e48, hf⟩ := mx_bind hf
  refine mG_putR (pc := 89) C dX9_init_89 fl_X9_57 rfl (hin rfl) ⟨_, _, rfl, w476⟩ (fun _ => rfl) (fun _ => rfl) e48 ?_
  refine mG_aload_n (pc := 92) C dX9_init_92 rfl ?_
  obtain ⟨h49, e50, hf⟩ := mx_bind hf
  refine mG_nwO (pc := 93) (k' := 315) (n' := 5320) C hX dX9_init_93 mk_X9_61 e50 rfl rfl rfl ?_
  refine mG_dup (pc := 96) C dX9_init_96 rfl ?_
  obtain ⟨o52, e51, hf⟩ := mx_bind hf
  refine mG_cI (pc := 97) (k' := 316) (n' := 5519) [] [.ref h47.2, .ref p0] C hX dX9_init_97 lkI_X9_63 rfl (tX3_init hl e51) rfl rfl rfl rfl ?_
  obtain ⟨h53, e54, hf⟩ := mx_bind hf
  refine mG_putR (pc := 100) C dX9_init_100 fl_X9_64 rfl (hin rfl) ⟨_, _, rfl, w477⟩ (fun _ => rfl) (fun _ => rfl) e54 ?_
  refine mG_ic (pc := 103) C dX9_init_103 kI0 ?_
  refine mG_isn (ls' := [some (.ref p0), some (.int 0)]) (pc := 104) C dX9_init_104 rfl rfl rfl ?_
  obtain ⟨r56, e57, hf⟩ := mx_bind hf
  have J58 : ∀ r80 : mxH, r80 = r56 → mG l Z X 2 316 5519 150 [none, none] [] r80 := by
    intro r80 q81
    subst q81
    cases hf
    exact mG_vr (pc := 150) C E hX dX9_init_150 rfl
  refine mG_sub (ls' := [some (.ref p0), some (.int 0)]) (mxLe_s (mxLe_s mxLe_z)) (mxLoop_ind (K := fun s55 : (Int32 × mxH) => mG l Z X 2 316 5519 105 [some (.ref p0), some (.int s55.1)] [] s55.2) ?_ _ _ e57)
  intro s55 o61 e62 hK59 hx60
  refine mG_iload_n (pc := 105) C dX9_init_105 rfl ?_
  refine mG_ic (pc := 106) C dX9_init_106 kI2 ?_
  refine mG_iadd (pc := 107) C dX9_init_107 ?_
  refine mG_fst (pc := 108) C dX9_init_108 w451 ?_
  obtain ⟨v63, e64, e62⟩ := mx_bind e62
  refine mG_arraylength (pc := 111) C dX9_init_111 e64 ?_
  refine mG_icmp_ge (pc := 112) (tgt := 150) C dX9_init_112 (by decide) (fun q65 => ?_) (fun q65 => ?_)
  · rw [if_pos q65] at e62
    exact mG_sub (mxLe_n (mxLe_n mxLe_z)) (J58 _ (hx60 _ (Option.some.inj e62).symm))
  · rw [if_neg q65] at e62
    refine mG_aload_n (pc := 115) C dX9_init_115 rfl ?_
    obtain ⟨r66, e67, e62⟩ := mx_bind e62
    refine mG_getR (pc := 116) C dX9_init_116 fl_X9_12 e67 ?_
    obtain ⟨r68, e69, e62⟩ := mx_bind e62
    refine mG_getR (pc := 119) C dX9_init_119 fl_X9_72 e69 ?_
    refine mG_fst (pc := 122) C dX9_init_122 w451 ?_
    refine mG_iload_n (pc := 125) C dX9_init_125 rfl ?_
    obtain ⟨v70, e71, e62⟩ := mx_bind e62
    refine mG_iaload (pc := 126) C dX9_init_126 e71 ?_
    refine mG_fst (pc := 127) C dX9_init_127 w451 ?_
    refine mG_iload_n (pc := 130) C dX9_init_130 rfl ?_
    refine mG_ic (pc := 131) C dX9_init_131 kI1 ?_
    refine mG_iadd (pc := 132) C dX9_init_132 ?_
    obtain ⟨v72, e73, e62⟩ := mx_bind e62
    refine mG_iaload (pc := 133) C dX9_init_133 e73 ?_
    refine mG_fst (pc := 134) C dX9_init_134 w451 ?_
    refine mG_iload_n (pc := 137) C dX9_init_137 rfl ?_
    refine mG_ic (pc := 138) C dX9_init_138 kI2 ?_
    refine mG_iadd (pc := 139) C dX9_init_139 ?_
    obtain ⟨v74, e75, e62⟩ := mx_bind e62
    refine mG_iaload (pc := 140) C dX9_init_140 e75 ?_
    obtain ⟨u76, e77, e62⟩ := mx_bind e62
    obtain ⟨o79, e78, e62⟩ := mx_bind e62
    refine mG_cV (pc := 141) (k' := 316) (n' := 5519) 6 [.int v70, .int v72, .int v74] [] C hX dX9_init_141 lkV_X9_75 rfl rfl e77 (tX6_setMark hl e78) rfl rfl rfl rfl ?_
    refine mG_ii (ls' := [some (.ref p0), some (.int (s55.1 + 3))]) (pc := 144) C dX9_init_144 rfl (kinc3 _) rfl rfl rfl ?_
    refine mG_goto (tgt := 105) (pc := 147) C dX9_init_147 (by decide) ?_
    exact mG_sub (mxLe_s (mxLe_s mxLe_z)) (hK59 _ (Option.some.inj e62).symm)
