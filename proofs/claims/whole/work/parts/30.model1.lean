/-! printed by wip/gen/emit.py: for each method its function on the mini machine, and that the machine walks as the function says -/
theorem dX10_begins_0 : decode cX10_begins 0 = .ok (.aload_n 0, 1) := by decide +kernel
theorem dX10_begins_1 : decode cX10_begins 1 = .ok (.getfield 9, 3) := by decide +kernel
theorem dX10_begins_4 : decode cX10_begins 4 = .ok (.bipush 108, 2) := by decide +kernel
theorem dX10_begins_6 : decode cX10_begins 6 = .ok (.iload_n 1, 1) := by decide +kernel
theorem dX10_begins_7 : decode cX10_begins 7 = .ok (.iastore, 1) := by decide +kernel
theorem dX10_begins_8 : decode cX10_begins 8 = .ok (.aload_n 0, 1) := by decide +kernel
theorem dX10_begins_9 : decode cX10_begins 9 = .ok (.getfield 9, 3) := by decide +kernel
theorem dX10_begins_12 : decode cX10_begins 12 = .ok (.bipush 109, 2) := by decide +kernel
theorem dX10_begins_14 : decode cX10_begins 14 = .ok (.iload_n 2, 1) := by decide +kernel
theorem dX10_begins_15 : decode cX10_begins 15 = .ok (.iastore, 1) := by decide +kernel
theorem dX10_begins_16 : decode cX10_begins 16 = .ok (.aload_n 0, 1) := by decide +kernel
theorem dX10_begins_17 : decode cX10_begins 17 = .ok (.getfield 9, 3) := by decide +kernel
theorem dX10_begins_20 : decode cX10_begins 20 = .ok (.bipush 110, 2) := by decide +kernel
theorem dX10_begins_22 : decode cX10_begins 22 = .ok (.iconst 0, 1) := by decide +kernel
theorem dX10_begins_23 : decode cX10_begins 23 = .ok (.iastore, 1) := by decide +kernel
theorem dX10_begins_24 : decode cX10_begins 24 = .ok (.iconst 0, 1) := by decide +kernel
theorem dX10_begins_25 : decode cX10_begins 25 = .ok (.istore_n 3, 1) := by decide +kernel
theorem dX10_begins_26 : decode cX10_begins 26 = .ok (.iload_n 3, 1) := by decide +kernel
theorem dX10_begins_27 : decode cX10_begins 27 = .ok (.bipush 100, 2) := by decide +kernel
theorem dX10_begins_29 : decode cX10_begins 29 = .ok (.if_icmp .ge 19, 3) := by decide +kernel
theorem dX10_begins_32 : decode cX10_begins 32 = .ok (.aload_n 0, 1) := by decide +kernel
theorem dX10_begins_33 : decode cX10_begins 33 = .ok (.getfield 9, 3) := by decide +kernel
theorem dX10_begins_36 : decode cX10_begins 36 = .ok (.bipush 111, 2) := by decide +kernel
theorem dX10_begins_38 : decode cX10_begins 38 = .ok (.iload_n 3, 1) := by decide +kernel
theorem dX10_begins_39 : decode cX10_begins 39 = .ok (.iadd, 1) := by decide +kernel
theorem dX10_begins_40 : decode cX10_begins 40 = .ok (.iconst 0, 1) := by decide +kernel
theorem dX10_begins_41 : decode cX10_begins 41 = .ok (.iastore, 1) := by decide +kernel
theorem dX10_begins_42 : decode cX10_begins 42 = .ok (.iinc 3 1, 3) := by decide +kernel
theorem dX10_begins_45 : decode cX10_begins 45 = .ok (.goto (-19), 3) := by decide +kernel
theorem dX10_begins_48 : decode cX10_begins 48 = .ok (.iconst 0, 1) := by decide +kernel
theorem dX10_begins_49 : decode cX10_begins 49 = .ok (.istore_n 3, 1) := by decide +kernel
theorem dX10_begins_50 : decode cX10_begins 50 = .ok (.iload_n 3, 1) := by decide +kernel
theorem dX10_begins_51 : decode cX10_begins 51 = .ok (.iconst 4, 1) := by decide +kernel
theorem dX10_begins_52 : decode cX10_begins 52 = .ok (.if_icmp .ge 31, 3) := by decide +kernel
theorem dX10_begins_55 : decode cX10_begins 55 = .ok (.aload_n 0, 1) := by decide +kernel
theorem dX10_begins_56 : decode cX10_begins 56 = .ok (.getfield 9, 3) := by decide +kernel
theorem dX10_begins_59 : decode cX10_begins 59 = .ok (.sipush 221, 3) := by decide +kernel
theorem dX10_begins_62 : decode cX10_begins 62 = .ok (.iload_n 3, 1) := by decide +kernel
theorem dX10_begins_63 : decode cX10_begins 63 = .ok (.iadd, 1) := by decide +kernel
theorem dX10_begins_64 : decode cX10_begins 64 = .ok (.iconst (-1), 1) := by decide +kernel
theorem dX10_begins_65 : decode cX10_begins 65 = .ok (.iastore, 1) := by decide +kernel
theorem dX10_begins_66 : decode cX10_begins 66 = .ok (.aload_n 0, 1) := by decide +kernel
theorem dX10_begins_67 : decode cX10_begins 67 = .ok (.getfield 9, 3) := by decide +kernel
theorem dX10_begins_70 : decode cX10_begins 70 = .ok (.sipush 225, 3) := by decide +kernel
theorem dX10_begins_73 : decode cX10_begins 73 = .ok (.iload_n 3, 1) := by decide +kernel
theorem dX10_begins_74 : decode cX10_begins 74 = .ok (.iadd, 1) := by decide +kernel
theorem dX10_begins_75 : decode cX10_begins 75 = .ok (.iconst 0, 1) := by decide +kernel
theorem dX10_begins_76 : decode cX10_begins 76 = .ok (.iastore, 1) := by decide +kernel
theorem dX10_begins_77 : decode cX10_begins 77 = .ok (.iinc 3 1, 3) := by decide +kernel
theorem dX10_begins_80 : decode cX10_begins 80 = .ok (.goto (-30), 3) := by decide +kernel
theorem dX10_begins_83 : decode cX10_begins 83 = .ok (.aload_n 0, 1) := by decide +kernel
theorem dX10_begins_84 : decode cX10_begins 84 = .ok (.getfield 9, 3) := by decide +kernel
theorem dX10_begins_87 : decode cX10_begins 87 = .ok (.sipush 229, 3) := by decide +kernel
theorem dX10_begins_90 : decode cX10_begins 90 = .ok (.iconst 0, 1) := by decide +kernel
theorem dX10_begins_91 : decode cX10_begins 91 = .ok (.iastore, 1) := by decide +kernel
theorem dX10_begins_92 : decode cX10_begins 92 = .ok (.return_, 1) := by decide +kernel
def fX10_begins (p0 : Nat) (p1 : Int32) (p2 : Int32) (h : mxH) : Option mxH := Option.bind (gR h p0 10 0) (fun r1 => Option.bind (stI h r1 108 p1) (fun h3 => Option.bind (gR h3 p0 10 0) (fun r5 => Option.bind (stI h3 r5 109 p2) (fun h7 => Option.bind (gR h7 p0 10 0) (fun r9 => Option.bind (stI h7 r9 110 0) (fun h11 => Option.bind (mxLoop (ρ := mxH) (fun s13 : (Int32 × mxH) => (if 100 ≤ s13.1 then some (Sum.inr s13.2) else Option.bind (gR s13.2 p0 10 0) (fun r22 => Option.bind (stI s13.2 r22 (111 + s13.1) 0) (fun h24 => some (Sum.inl (s13.1 + 1, h24)))))) mxF (0, h11)) (fun r26 : mxH => Option.bind (mxLoop (ρ := mxH) (fun s27 : (Int32 × mxH) => (if 4 ≤ s27.1 then some (Sum.inr s27.2) else Option.bind (gR s27.2 p0 10 0) (fun r36 => Option.bind (stI s27.2 r36 (221 + s27.1) (-1)) (fun h38 => Option.bind (gR h38 p0 10 0) (fun r40 => Option.bind (stI h38 r40 (225 + s27.1) 0) (fun h42 => some (Sum.inl (s27.1 + 1, h42)))))))) mxF (0, r26)) (fun r44 : mxH => Option.bind (gR r44 p0 10 0) (fun r45 => Option.bind (stI r44 r45 229 0) (fun h47 => some h47))))))))))
abbrev rmX10_begins : Room := { frames := 0, cells := 0, slots := 0, locals := 0 }
set_option maxRecDepth 20000 in
theorem tX10_begins {l : Launch} {Z : mxZ} (hl : l.stackTraces = false) {p0 : Nat} {p1 : Int32} {p2 : Int32} {h : mxH} {out : mxH} (hf : fX10_begins p0 p1 p2 h = some out) : mxMet l Z yX10_begins cX10_begins 4 (none) rmX10_begins [.ref p0, .int p1, .int p2] h (.inl none) out := by
  refine mxMet_of (by decide) hl (by simp [Value.category]) (Nat.le_of_ble_eq_true rfl) ?_
  intro X C E hX hin
  unfold fX10_begins at hf
  refine mG_aload_n (pc := 0) C dX10_begins_0 rfl ?_
  obtain ⟨r1, e2, hf⟩ := mx_bind hf
  refine mG_getR (pc := 1) C dX10_begins_1 fl_X10_9 e2 ?_
  refine mG_bp (pc := 4) C dX10_begins_4 kB108 ?_
  refine mG_iload_n (pc := 6) C dX10_begins_6 rfl ?_
  obtain ⟨h3, e4, hf⟩ := mx_bind hf
  refine mG_iastore (pc := 7) C dX10_begins_7 e4 ?_
  refine mG_aload_n (pc := 8) C dX10_begins_8 rfl ?_
  obtain ⟨r5, e6, hf⟩ := mx_bind hf
  refine mG_getR (pc := 9) C dX10_begins_9 fl_X10_9 e6 ?_
  refine mG_bp (pc := 12) C dX10_begins_12 kB109 ?_
  refine mG_iload_n (pc := 14) C dX10_begins_14 rfl ?_
  obtain ⟨h7, e8, hf⟩ := mx_bind hf
  refine mG_iastore (pc := 15) C dX10_begins_15 e8 ?_
  refine mG_aload_n (pc := 16) C dX10_begins_16 rfl ?_
  obtain ⟨r9, e10, hf⟩ := mx_bind hf
  refine mG_getR (pc := 17) C dX10_begins_17 fl_X10_9 e10 ?_
  refine mG_bp (pc := 20) C dX10_begins_20 kB110 ?_
  refine mG_ic (pc := 22) C dX10_begins_22 kI0 ?_
  obtain ⟨h11, e12, hf⟩ := mx_bind hf
  refine mG_iastore (pc := 23) C dX10_begins_23 e12 ?_
  refine mG_ic (pc := 24) C dX10_begins_24 kI0 ?_
  refine mG_isn (ls' := [some (.ref p0), some (.int p1), some (.int p2), some (.int 0)]) (pc := 25) C dX10_begins_25 rfl rfl rfl ?_
  obtain ⟨r14, e15, hf⟩ := mx_bind hf
  have J16 : ∀ r26 : mxH, r26 = r14 → mG l Z X 4 0 0 48 [some (.ref p0), none, none, none] [] r26 := by
    intro r26 q50
    subst q50
    refine mG_ic (pc := 48) C dX10_begins_48 kI0 ?_
    refine mG_isn (ls' := [some (.ref p0), none, none, some (.int 0)]) (pc := 49) C dX10_begins_49 rfl rfl rfl ?_
    obtain ⟨r28, e29, hf⟩ := mx_bind hf
    have J30 : ∀ r44 : mxH, r44 = r28 → mG l Z X 4 0 0 83 [some (.ref p0), none, none, none] [] r44 := by
      intro r44 q49
      subst q49
      refine mG_aload_n (pc := 83) C dX10_begins_83 rfl ?_
      obtain ⟨r45, e46, hf⟩ := mx_bind hf
      refine mG_getR (pc := 84) C dX10_begins_84 fl_X10_9 e46 ?_
      refine mG_sp (pc := 87) C dX10_begins_87 kS229 ?_
      refine mG_ic (pc := 90) C dX10_begins_90 kI0 ?_
      obtain ⟨h47, e48, hf⟩ := mx_bind hf
      refine mG_iastore (pc := 91) C dX10_begins_91 e48 ?_
      cases hf
      exact mG_vr (pc := 92) C E hX dX10_begins_92 rfl
    refine mG_sub (ls' := [some (.ref p0), none, none, some (.int 0)]) (mxLe_s (mxLe_n (mxLe_n (mxLe_s mxLe_z)))) (mxLoop_ind (K := fun s27 : (Int32 × mxH) => mG l Z X 4 0 0 50 [some (.ref p0), none, none, some (.int s27.1)] [] s27.2) ?_ _ _ e29)
    intro s27 o33 e34 hK31 hx32
    refine mG_iload_n (pc := 50) C dX10_begins_50 rfl ?_
    refine mG_ic (pc := 51) C dX10_begins_51 kI4 ?_
    refine mG_icmp_ge (pc := 52) (tgt := 83) C dX10_begins_52 (by decide) (fun q35 => ?_) (fun q35 => ?_)
    · rw [if_pos q35] at e34
      exact mG_sub (mxLe_s (mxLe_n (mxLe_n (mxLe_n mxLe_z)))) (J30 _ (hx32 _ (Option.some.inj e34).symm))
    · rw [if_neg q35] at e34
      refine mG_aload_n (pc := 55) C dX10_begins_55 rfl ?_
      obtain ⟨r36, e37, e34⟩ := mx_bind e34
      refine mG_getR (pc := 56) C dX10_begins_56 fl_X10_9 e37 ?_
      refine mG_sp (pc := 59) C dX10_begins_59 kS221 ?_
      refine mG_iload_n (pc := 62) C dX10_begins_62 rfl ?_
      refine mG_iadd (pc := 63) C dX10_begins_63 ?_
      refine mG_ic (pc := 64) C dX10_begins_64 kIm1 ?_
      obtain ⟨h38, e39, e34⟩ := mx_bind e34
      refine mG_iastore (pc := 65) C dX10_begins_65 e39 ?_
      refine mG_aload_n (pc := 66) C dX10_begins_66 rfl ?_
      obtain ⟨r40, e41, e34⟩ := mx_bind e34
      refine mG_getR (pc := 67) C dX10_begins_67 fl_X10_9 e41 ?_
      refine mG_sp (pc := 70) C dX10_begins_70 kS225 ?_
      refine mG_iload_n (pc := 73) C dX10_begins_73 rfl ?_
      refine mG_iadd (pc := 74) C dX10_begins_74 ?_
      refine mG_ic (pc := 75) C dX10_begins_75 kI0 ?_
      obtain ⟨h42, e43, e34⟩ := mx_bind e34
      refine mG_iastore (pc := 76) C dX10_begins_76 e43 ?_
      refine mG_ii (ls' := [some (.ref p0), none, none, some (.int (s27.1 + 1))]) (pc := 77) C dX10_begins_77 rfl (kinc1 _) rfl rfl rfl ?_
      refine mG_goto (tgt := 50) (pc := 80) C dX10_begins_80 (by decide) ?_
      exact mG_sub (mxLe_s (mxLe_n (mxLe_n (mxLe_s mxLe_z)))) (hK31 _ (Option.some.inj e34).symm)
  refine mG_sub (ls' := [some (.ref p0), none, none, some (.int 0)]) (mxLe_s (mxLe_n (mxLe_n (mxLe_s mxLe_z)))) (mxLoop_ind (K := fun s13 : (Int32 × mxH) => mG l Z X 4 0 0 26 [some (.ref p0), none, none, some (.int s13.1)] [] s13.2) ?_ _ _ e15)
  intro s13 o19 e20 hK17 hx18
  refine mG_iload_n (pc := 26) C dX10_begins_26 rfl ?_
  refine mG_bp (pc := 27) C dX10_begins_27 kB100 ?_
  refine mG_icmp_ge (pc := 29) (tgt := 48) C dX10_begins_29 (by decide) (fun q21 => ?_) (fun q21 => ?_)
  · rw [if_pos q21] at e20
    exact mG_sub (mxLe_s (mxLe_n (mxLe_n (mxLe_n mxLe_z)))) (J16 _ (hx18 _ (Option.some.inj e20).symm))
  · rw [if_neg q21] at e20
    refine mG_aload_n (pc := 32) C dX10_begins_32 rfl ?_
    obtain ⟨r22, e23, e20⟩ := mx_bind e20
    refine mG_getR (pc := 33) C dX10_begins_33 fl_X10_9 e23 ?_
    refine mG_bp (pc := 36) C dX10_begins_36 kB111 ?_
    refine mG_iload_n (pc := 38) C dX10_begins_38 rfl ?_
    refine mG_iadd (pc := 39) C dX10_begins_39 ?_
    refine mG_ic (pc := 40) C dX10_begins_40 kI0 ?_
    obtain ⟨h24, e25, e20⟩ := mx_bind e20
    refine mG_iastore (pc := 41) C dX10_begins_41 e25 ?_
    refine mG_ii (ls' := [some (.ref p0), none, none, some (.int (s13.1 + 1))]) (pc := 42) C dX10_begins_42 rfl (kinc1 _) rfl rfl rfl ?_
    refine mG_goto (tgt := 26) (pc := 45) C dX10_begins_45 (by decide) ?_
    exact mG_sub (mxLe_s (mxLe_n (mxLe_n (mxLe_s mxLe_z)))) (hK17 _ (Option.some.inj e20).symm)
theorem dX10_lays_0 : decode cX10_lays 0 = .ok (.aload_n 0, 1) := by decide +kernel
theorem dX10_lays_1 : decode cX10_lays 1 = .ok (.getfield 9, 3) := by decide +kernel
theorem dX10_lays_4 : decode cX10_lays 4 = .ok (.iconst 0, 1) := by decide +kernel
theorem dX10_lays_5 : decode cX10_lays 5 = .ok (.bipush 20, 2) := by decide +kernel
theorem dX10_lays_7 : decode cX10_lays 7 = .ok (.iload_n 1, 1) := by decide +kernel
theorem dX10_lays_8 : decode cX10_lays 8 = .ok (.imul, 1) := by decide +kernel
theorem dX10_lays_9 : decode cX10_lays 9 = .ok (.iadd, 1) := by decide +kernel
theorem dX10_lays_10 : decode cX10_lays 10 = .ok (.iload_n 2, 1) := by decide +kernel
theorem dX10_lays_11 : decode cX10_lays 11 = .ok (.iadd, 1) := by decide +kernel
theorem dX10_lays_12 : decode cX10_lays 12 = .ok (.iload_n 3, 1) := by decide +kernel
theorem dX10_lays_13 : decode cX10_lays 13 = .ok (.iastore, 1) := by decide +kernel
theorem dX10_lays_14 : decode cX10_lays 14 = .ok (.return_, 1) := by decide +kernel
def fX10_lays (p0 : Nat) (p1 : Int32) (p2 : Int32) (p3 : Int32) (h : mxH) : Option mxH := Option.bind (gR h p0 10 0) (fun r1 => Option.bind (stI h r1 ((0 + (20 * p1)) + p2) p3) (fun h3 => some h3))
abbrev rmX10_lays : Room := { frames := 0, cells := 0, slots := 0, locals := 0 }
set_option maxRecDepth 20000 in
theorem tX10_lays {l : Launch} {Z : mxZ} (hl : l.stackTraces = false) {p0 : Nat} {p1 : Int32} {p2 : Int32} {p3 : Int32} {h : mxH} {out : mxH} (hf : fX10_lays p0 p1 p2 p3 h = some out) : mxMet l Z yX10_lays cX10_lays 4 (none) rmX10_lays [.ref p0, .int p1, .int p2, .int p3] h (.inl none) out := by
  refine mxMet_of (by decide) hl (by simp [Value.category]) (Nat.le_of_ble_eq_true rfl) ?_
  intro X C E hX hin
  unfold fX10_lays at hf
  refine mG_aload_n (pc := 0) C dX10_lays_0 rfl ?_
  obtain ⟨r1, e2, hf⟩ := mx_bind hf
  refine mG_getR (pc := 1) C dX10_lays_1 fl_X10_9 e2 ?_
  refine mG_ic (pc := 4) C dX10_lays_4 kI0 ?_
  refine mG_bp (pc := 5) C dX10_lays_5 kB20 ?_
  refine mG_iload_n (pc := 7) C dX10_lays_7 rfl ?_
  refine mG_imul (pc := 8) C dX10_lays_8 ?_
  refine mG_iadd (pc := 9) C dX10_lays_9 ?_
  refine mG_iload_n (pc := 10) C dX10_lays_10 rfl ?_
  refine mG_iadd (pc := 11) C dX10_lays_11 ?_
  refine mG_iload_n (pc := 12) C dX10_lays_12 rfl ?_
  obtain ⟨h3, e4, hf⟩ := mx_bind hf
  refine mG_iastore (pc := 13) C dX10_lays_13 e4 ?_
  cases hf
  exact mG_vr (pc := 14) C E hX dX10_lays_14 rfl
theorem dX10_thrown_0 : decode cX10_thrown 0 = .ok (.aload_n 0, 1) := by decide +kernel
theorem dX10_thrown_1 : decode cX10_thrown 1 = .ok (.getfield 61, 3) := by decide +kernel
theorem dX10_thrown_4 : decode cX10_thrown 4 = .ok (.ireturn, 1) := by decide +kernel
def fX10_thrown (p0 : Nat) (h : mxH) : Option Int32 := Option.bind (gI h p0 10 3) (fun v1 => some v1)
abbrev rmX10_thrown : Room := { frames := 0, cells := 0, slots := 0, locals := 0 }
set_option maxRecDepth 20000 in
theorem tX10_thrown {l : Launch} {Z : mxZ} (hl : l.stackTraces = false) {p0 : Nat} {h : mxH} {out : Int32} (hf : fX10_thrown p0 h = some out) : mxMet l Z yX10_thrown cX10_thrown 1 (some .int) rmX10_thrown [.ref p0] h (.inl (some (.int out))) h := by
  refine mxMet_of (by decide) hl (by simp [Value.category]) (Nat.le_of_ble_eq_true rfl) ?_
  intro X C E hX hin
  unfold fX10_thrown at hf
  refine mG_aload_n (pc := 0) C dX10_thrown_0 rfl ?_
  obtain ⟨v1, e2, hf⟩ := mx_bind hf
  refine mG_getI (pc := 1) C dX10_thrown_1 fl_X10_61 e2 ?_
  cases hf
  exact mG_ir (pc := 4) C E hX dX10_thrown_4 rfl
theorem dX10_fails_0 : decode cX10_fails 0 = .ok (.aload_n 0, 1) := by decide +kernel
theorem dX10_fails_1 : decode cX10_fails 1 = .ok (.iload_n 1, 1) := by decide +kernel
theorem dX10_fails_2 : decode cX10_fails 2 = .ok (.putfield 61, 3) := by decide +kernel
theorem dX10_fails_5 : decode cX10_fails 5 = .ok (.iconst 0, 1) := by decide +kernel
theorem dX10_fails_6 : decode cX10_fails 6 = .ok (.ireturn, 1) := by decide +kernel
def fX10_fails (p0 : Nat) (p1 : Int32) (h : mxH) : Option (Int32 × mxH) := Option.bind (pI h p0 10 3 p1) (fun h1 => some (0, h1))
abbrev rmX10_fails : Room := { frames := 0, cells := 0, slots := 0, locals := 0 }
set_option maxRecDepth 20000 in
theorem tX10_fails {l : Launch} {Z : mxZ} (hl : l.stackTraces = false) {p0 : Nat} {p1 : Int32} {h : mxH} {out : (Int32 × mxH)} (hf : fX10_fails p0 p1 h = some out) : mxMet l Z yX10_fails cX10_fails 2 (some .int) rmX10_fails [.ref p0, .int p1] h (.inl (some (.int out.1))) out.2 := by
  refine mxMet_of (by decide) hl (by simp [Value.category]) (Nat.le_of_ble_eq_true rfl) ?_
  intro X C E hX hin
  unfold fX10_fails at hf
  refine mG_aload_n (pc := 0) C dX10_fails_0 rfl ?_
  refine mG_iload_n (pc := 1) C dX10_fails_1 rfl ?_
  obtain ⟨h1, e2, hf⟩ := mx_bind hf
  refine mG_putI (pc := 2) C dX10_fails_2 fl_X10_61 e2 ?_
  refine mG_ic (pc := 5) C dX10_fails_5 kI0 ?_
  cases hf
  exact mG_ir (pc := 6) C E hX dX10_fails_6 rfl
theorem dX10_in_0 : decode cX10_in 0 = .ok (.iload_n 0, 1) := by decide +kernel
theorem dX10_in_1 : decode cX10_in 1 = .ok (.iload_n 1, 1) := by decide +kernel
theorem dX10_in_2 : decode cX10_in 2 = .ok (.if_icmp .lt 12, 3) := by decide +kernel
theorem dX10_in_5 : decode cX10_in 5 = .ok (.iload_n 0, 1) := by decide +kernel
theorem dX10_in_6 : decode cX10_in 6 = .ok (.iload_n 2, 1) := by decide +kernel
theorem dX10_in_7 : decode cX10_in 7 = .ok (.if_icmp .gt 7, 3) := by decide +kernel
theorem dX10_in_10 : decode cX10_in 10 = .ok (.iconst 1, 1) := by decide +kernel
theorem dX10_in_11 : decode cX10_in 11 = .ok (.goto 4, 3) := by decide +kernel
theorem dX10_in_14 : decode cX10_in 14 = .ok (.iconst 0, 1) := by decide +kernel
theorem dX10_in_15 : decode cX10_in 15 = .ok (.ireturn, 1) := by decide +kernel
def fX10_in (p0 : Int32) (p1 : Int32) (p2 : Int32) (h : mxH) : Option Int32 := Option.bind (α := Int32) (if p0 < p1 then some 0 else (if p2 < p0 then some 0 else some 1)) (fun p3' : Int32 => Option.bind (mxZ1 p3') (fun v6 => some v6))
abbrev rmX10_in : Room := { frames := 0, cells := 0, slots := 0, locals := 0 }
set_option maxRecDepth 20000 in
theorem tX10_in {l : Launch} {Z : mxZ} (hl : l.stackTraces = false) {p0 : Int32} {p1 : Int32} {p2 : Int32} {h : mxH} {out : Int32} (hf : fX10_in p0 p1 p2 h = some out) : mxMet l Z yX10_in cX10_in 3 (some .boolean) rmX10_in [.int p0, .int p1, .int p2] h (.inl (some (.int out))) h := by
  refine mxMet_of (by decide) hl (by simp [Value.category]) (Nat.le_of_ble_eq_true rfl) ?_
  intro X C E hX hin
  unfold fX10_in at hf
  refine mG_iload_n (pc := 0) C dX10_in_0 rfl ?_
  refine mG_iload_n (pc := 1) C dX10_in_1 rfl ?_
  obtain ⟨p3, e4, hf⟩ := mx_bind hf
  have J2 : ∀ p3' : Int32, p3' = p3 → mG l Z X 3 0 0 15 [none, none, none] [.int p3'] h := by
    intro p3' q8
    subst q8
    obtain ⟨v6, e7, hf⟩ := mx_bind hf
    cases hf
    exact mG_zr (pc := 15) C e7 E hX dX10_in_15 rfl
  refine mG_icmp_lt (pc := 2) (tgt := 14) C dX10_in_2 (by decide) (fun q1 => ?_) (fun q1 => ?_)
  · rw [if_pos q1] at e4
    refine mG_ic (pc := 14) C dX10_in_14 kI0 ?_
    exact mG_sub (mxLe_n (mxLe_n (mxLe_n mxLe_z))) (J2 _ (Option.some.inj e4))
  · rw [if_neg q1] at e4
    refine mG_iload_n (pc := 5) C dX10_in_5 rfl ?_
    refine mG_iload_n (pc := 6) C dX10_in_6 rfl ?_
    refine mG_icmp_gt (pc := 7) (tgt := 14) C dX10_in_7 (by decide) (fun q5 => ?_) (fun q5 => ?_)
    · rw [if_pos q5] at e4
      refine mG_ic (pc := 14) C dX10_in_14 kI0 ?_
      exact mG_sub (mxLe_n (mxLe_n (mxLe_n mxLe_z))) (J2 _ (Option.some.inj e4))
    · rw [if_neg q5] at e4
      refine mG_ic (pc := 10) C dX10_in_10 kI1 ?_
      refine mG_goto (tgt := 15) (pc := 11) C dX10_in_11 (by decide) ?_
      exact mG_sub (mxLe_n (mxLe_n (mxLe_n mxLe_z))) (J2 _ (Option.some.inj e4))
theorem dX10_isRow_0 : decode cX10_isRow 0 = .ok (.iload_n 0, 1) := by decide +kernel
theorem dX10_isRow_1 : decode cX10_isRow 1 = .ok (.iconst 0, 1) := by decide +kernel
theorem dX10_isRow_2 : decode cX10_isRow 2 = .ok (.iconst 4, 1) := by decide +kernel
theorem dX10_isRow_3 : decode cX10_isRow 3 = .ok (.invokestatic 65, 3) := by decide +kernel
theorem dX10_isRow_6 : decode cX10_isRow 6 = .ok (.ireturn, 1) := by decide +kernel
def fX10_isRow (p0 : Int32) (h : mxH) : Option Int32 := Option.bind (fX10_in p0 0 4 h) (fun v2 => Option.bind (mxZ1 v2) (fun v3 => some v3))
abbrev rmX10_isRow : Room := { frames := 1, cells := 0, slots := 0, locals := 22 }
set_option maxRecDepth 20000 in
theorem tX10_isRow {l : Launch} {Z : mxZ} (hl : l.stackTraces = false) {p0 : Int32} {h : mxH} {out : Int32} (hf : fX10_isRow p0 h = some out) : mxMet l Z yX10_isRow cX10_isRow 1 (some .boolean) rmX10_isRow [.int p0] h (.inl (some (.int out))) h := by
  refine mxMet_of (by decide) hl (by simp [Value.category]) (Nat.le_of_ble_eq_true rfl) ?_
  intro X C E hX hin
  unfold fX10_isRow at hf
  refine mG_iload_n (pc := 0) C dX10_isRow_0 rfl ?_
  refine mG_ic (pc := 1) C dX10_isRow_1 kI0 ?_
  refine mG_ic (pc := 2) C dX10_isRow_2 kI4 ?_
  obtain ⟨v2, e1, hf⟩ := mx_bind hf
  refine mG_cS (pc := 3) (k' := 0) (n' := 0) [.int p0, .int 0, .int 4] [] C hX dX10_isRow_3 lkS_X10_65 rfl (tX10_in hl e1) rfl rfl rfl rfl ?_
  obtain ⟨v3, e4, hf⟩ := mx_bind hf
  cases hf
  exact mG_zr (pc := 6) C e4 E hX dX10_isRow_6 rfl
theorem dX10_isThing_0 : decode cX10_isThing 0 = .ok (.iload_n 0, 1) := by decide +kernel
theorem dX10_isThing_1 : decode cX10_isThing 1 = .ok (.iconst 0, 1) := by decide +kernel
theorem dX10_isThing_2 : decode cX10_isThing 2 = .ok (.bipush 19, 2) := by decide +kernel
theorem dX10_isThing_4 : decode cX10_isThing 4 = .ok (.invokestatic 65, 3) := by decide +kernel
theorem dX10_isThing_7 : decode cX10_isThing 7 = .ok (.ireturn, 1) := by decide +kernel
def fX10_isThing (p0 : Int32) (h : mxH) : Option Int32 := Option.bind (fX10_in p0 0 19 h) (fun v2 => Option.bind (mxZ1 v2) (fun v3 => some v3))
abbrev rmX10_isThing : Room := { frames := 1, cells := 0, slots := 0, locals := 22 }
set_option maxRecDepth 20000 in
theorem tX10_isThing {l : Launch} {Z : mxZ} (hl : l.stackTraces = false) {p0 : Int32} {h : mxH} {out : Int32} (hf : fX10_isThing p0 h = some out) : mxMet l Z yX10_isThing cX10_isThing 1 (some .boolean) rmX10_isThing [.int p0] h (.inl (some (.int out))) h := by
  refine mxMet_of (by decide) hl (by simp [Value.category]) (Nat.le_of_ble_eq_true rfl) ?_
  intro X C E hX hin
  unfold fX10_isThing at hf
  refine mG_iload_n (pc := 0) C dX10_isThing_0 rfl ?_
  refine mG_ic (pc := 1) C dX10_isThing_1 kI0 ?_
  refine mG_bp (pc := 2) C dX10_isThing_2 kB19 ?_
  obtain ⟨v2, e1, hf⟩ := mx_bind hf
  refine mG_cS (pc := 4) (k' := 0) (n' := 0) [.int p0, .int 0, .int 19] [] C hX dX10_isThing_4 lkS_X10_65 rfl (tX10_in hl e1) rfl rfl rfl rfl ?_
  obtain ⟨v3, e4, hf⟩ := mx_bind hf
  cases hf
  exact mG_zr (pc := 7) C e4 E hX dX10_isThing_7 rfl
theorem dX10_isK_0 : decode cX10_isK 0 = .ok (.iload_n 0, 1) := by decide +kernel
theorem dX10_isK_1 : decode cX10_isK 1 = .ok (.iconst 1, 1) := by decide +kernel
theorem dX10_isK_2 : decode cX10_isK 2 = .ok (.bipush 20, 2) := by decide +kernel
theorem dX10_isK_4 : decode cX10_isK 4 = .ok (.invokestatic 65, 3) := by decide +kernel
theorem dX10_isK_7 : decode cX10_isK 7 = .ok (.ireturn, 1) := by decide +kernel
def fX10_isK (p0 : Int32) (h : mxH) : Option Int32 := Option.bind (fX10_in p0 1 20 h) (fun v2 => Option.bind (mxZ1 v2) (fun v3 => some v3))
abbrev rmX10_isK : Room := { frames := 1, cells := 0, slots := 0, locals := 22 }
set_option maxRecDepth 20000 in
theorem tX10_isK {l : Launch} {Z : mxZ} (hl : l.stackTraces = false) {p0 : Int32} {h : mxH} {out : Int32} (hf : fX10_isK p0 h = some out) : mxMet l Z yX10_isK cX10_isK 1 (some .boolean) rmX10_isK [.int p0] h (.inl (some (.int out))) h := by
  refine mxMet_of (by decide) hl (by simp [Value.category]) (Nat.le_of_ble_eq_true rfl) ?_
  intro X C E hX hin
  unfold fX10_isK at hf
  refine mG_iload_n (pc := 0) C dX10_isK_0 rfl ?_
  refine mG_ic (pc := 1) C dX10_isK_1 kI1 ?_
  refine mG_bp (pc := 2) C dX10_isK_2 kB20 ?_
  obtain ⟨v2, e1, hf⟩ := mx_bind hf
  refine mG_cS (pc := 4) (k' := 0) (n' := 0) [.int p0, .int 1, .int 20] [] C hX dX10_isK_4 lkS_X10_65 rfl (tX10_in hl e1) rfl rfl rfl rfl ?_
  obtain ⟨v3, e4, hf⟩ := mx_bind hf
  cases hf
  exact mG_zr (pc := 7) C e4 E hX dX10_isK_7 rfl
theorem dX10_mark_0 : decode cX10_mark 0 = .ok (.aload_n 0, 1) := by decide +kernel
theorem dX10_mark_1 : decode cX10_mark 1 = .ok (.getfield 9, 3) := by decide +kernel
theorem dX10_mark_4 : decode cX10_mark 4 = .ok (.iconst 0, 1) := by decide +kernel
theorem dX10_mark_5 : decode cX10_mark 5 = .ok (.bipush 20, 2) := by decide +kernel
theorem dX10_mark_7 : decode cX10_mark 7 = .ok (.iload_n 1, 1) := by decide +kernel
theorem dX10_mark_8 : decode cX10_mark 8 = .ok (.imul, 1) := by decide +kernel
theorem dX10_mark_9 : decode cX10_mark 9 = .ok (.iadd, 1) := by decide +kernel
theorem dX10_mark_10 : decode cX10_mark 10 = .ok (.iload_n 2, 1) := by decide +kernel
theorem dX10_mark_11 : decode cX10_mark 11 = .ok (.iadd, 1) := by decide +kernel
theorem dX10_mark_12 : decode cX10_mark 12 = .ok (.iaload, 1) := by decide +kernel
theorem dX10_mark_13 : decode cX10_mark 13 = .ok (.ireturn, 1) := by decide +kernel
def fX10_mark (p0 : Nat) (p1 : Int32) (p2 : Int32) (h : mxH) : Option Int32 := Option.bind (gR h p0 10 0) (fun r1 => Option.bind (ldI h r1 ((0 + (20 * p1)) + p2)) (fun v3 => some v3))
abbrev rmX10_mark : Room := { frames := 0, cells := 0, slots := 0, locals := 0 }
set_option maxRecDepth 20000 in
theorem tX10_mark {l : Launch} {Z : mxZ} (hl : l.stackTraces = false) {p0 : Nat} {p1 : Int32} {p2 : Int32} {h : mxH} {out : Int32} (hf : fX10_mark p0 p1 p2 h = some out) : mxMet l Z yX10_mark cX10_mark 3 (some .int) rmX10_mark [.ref p0, .int p1, .int p2] h (.inl (some (.int out))) h := by
  refine mxMet_of (by decide) hl (by simp [Value.category]) (Nat.le_of_ble_eq_true rfl) ?_
  intro X C E hX hin
  unfold fX10_mark at hf
  refine mG_aload_n (pc := 0) C dX10_mark_0 rfl ?_
  obtain ⟨r1, e2, hf⟩ := mx_bind hf
  refine mG_getR (pc := 1) C dX10_mark_1 fl_X10_9 e2 ?_
  refine mG_ic (pc := 4) C dX10_mark_4 kI0 ?_
  refine mG_bp (pc := 5) C dX10_mark_5 kB20 ?_
  refine mG_iload_n (pc := 7) C dX10_mark_7 rfl ?_
  refine mG_imul (pc := 8) C dX10_mark_8 ?_
  refine mG_iadd (pc := 9) C dX10_mark_9 ?_
  refine mG_iload_n (pc := 10) C dX10_mark_10 rfl ?_
  refine mG_iadd (pc := 11) C dX10_mark_11 ?_
  obtain ⟨v3, e4, hf⟩ := mx_bind hf
  refine mG_iaload (pc := 12) C dX10_mark_12 e4 ?_
  cases hf
  exact mG_ir (pc := 13) C E hX dX10_mark_13 rfl
theorem dX10_has_0 : decode cX10_has 0 = .ok (.aload_n 0, 1) := by decide +kernel
theorem dX10_has_1 : decode cX10_has 1 = .ok (.iload_n 1, 1) := by decide +kernel
theorem dX10_has_2 : decode cX10_has 2 = .ok (.iload_n 2, 1) := by decide +kernel
theorem dX10_has_3 : decode cX10_has 3 = .ok (.invokevirtual 69, 3) := by decide +kernel
theorem dX10_has_6 : decode cX10_has 6 = .ok (.iconst (-1), 1) := by decide +kernel
theorem dX10_has_7 : decode cX10_has 7 = .ok (.if_icmp .eq 7, 3) := by decide +kernel
theorem dX10_has_10 : decode cX10_has 10 = .ok (.iconst 1, 1) := by decide +kernel
theorem dX10_has_11 : decode cX10_has 11 = .ok (.goto 4, 3) := by decide +kernel
theorem dX10_has_14 : decode cX10_has 14 = .ok (.iconst 0, 1) := by decide +kernel
theorem dX10_has_15 : decode cX10_has 15 = .ok (.ireturn, 1) := by decide +kernel
def fX10_has (p0 : Nat) (p1 : Int32) (p2 : Int32) (h : mxH) : Option Int32 := Option.bind (isO h p0 10) (fun u1 => Option.bind (fX10_mark p0 p1 p2 h) (fun v4 => Option.bind (α := Int32) (if v4 = (-1) then some 0 else some 1) (fun p7' : Int32 => Option.bind (mxZ1 p7') (fun v9 => some v9))))
abbrev rmX10_has : Room := { frames := 1, cells := 0, slots := 0, locals := 22 }
set_option maxRecDepth 20000 in
theorem tX10_has {l : Launch} {Z : mxZ} (hl : l.stackTraces = false) {p0 : Nat} {p1 : Int32} {p2 : Int32} {h : mxH} {out : Int32} (hf : fX10_has p0 p1 p2 h = some out) : mxMet l Z yX10_has cX10_has 3 (some .boolean) rmX10_has [.ref p0, .int p1, .int p2] h (.inl (some (.int out))) h := by
  refine mxMet_of (by decide) hl (by simp [Value.category]) (Nat.le_of_ble_eq_true rfl) ?_
  intro X C E hX hin
  unfold fX10_has at hf
  refine mG_aload_n (pc := 0) C dX10_has_0 rfl ?_
  refine mG_iload_n (pc := 1) C dX10_has_1 rfl ?_
  refine mG_iload_n (pc := 2) C dX10_has_2 rfl ?_
  obtain ⟨u1, e2, hf⟩ := mx_bind hf
  obtain ⟨v4, e3, hf⟩ := mx_bind hf
  refine mG_cV (pc := 3) (k' := 0) (n' := 0) 10 [.int p1, .int p2] [] C hX dX10_has_3 lkV_X10_69 rfl rfl e2 (tX10_mark hl e3) rfl rfl rfl rfl ?_
  refine mG_ic (pc := 6) C dX10_has_6 kIm1 ?_
  obtain ⟨p7, e8, hf⟩ := mx_bind hf
  have J6 : ∀ p7' : Int32, p7' = p7 → mG l Z X 3 0 0 15 [none, none, none] [.int p7'] h := by
    intro p7' q11
    subst q11
    obtain ⟨v9, e10, hf⟩ := mx_bind hf
    cases hf
    exact mG_zr (pc := 15) C e10 E hX dX10_has_15 rfl
  refine mG_icmp_eq (pc := 7) (tgt := 14) C dX10_has_7 (by decide) (fun q5 => ?_) (fun q5 => ?_)
  · rw [if_pos q5] at e8
    refine mG_ic (pc := 14) C dX10_has_14 kI0 ?_
    exact mG_sub (mxLe_n (mxLe_n (mxLe_n mxLe_z))) (J6 _ (Option.some.inj e8))
  · rw [if_neg q5] at e8
    refine mG_ic (pc := 10) C dX10_has_10 kI1 ?_
    refine mG_goto (tgt := 15) (pc := 11) C dX10_has_11 (by decide) ?_
    exact mG_sub (mxLe_n (mxLe_n (mxLe_n mxLe_z))) (J6 _ (Option.some.inj e8))
theorem dX10_items_0 : decode cX10_items 0 = .ok (.iconst 0, 1) := by decide +kernel
theorem dX10_items_1 : decode cX10_items 1 = .ok (.istore_n 2, 1) := by decide +kernel
theorem dX10_items_2 : decode cX10_items 2 = .ok (.iconst 0, 1) := by decide +kernel
theorem dX10_items_3 : decode cX10_items 3 = .ok (.istore_n 3, 1) := by decide +kernel
theorem dX10_items_4 : decode cX10_items 4 = .ok (.iload_n 3, 1) := by decide +kernel
theorem dX10_items_5 : decode cX10_items 5 = .ok (.bipush 20, 2) := by decide +kernel
theorem dX10_items_7 : decode cX10_items 7 = .ok (.if_icmp .ge 26, 3) := by decide +kernel
theorem dX10_items_10 : decode cX10_items 10 = .ok (.iload_n 2, 1) := by decide +kernel
theorem dX10_items_11 : decode cX10_items 11 = .ok (.aload_n 0, 1) := by decide +kernel
theorem dX10_items_12 : decode cX10_items 12 = .ok (.iload_n 1, 1) := by decide +kernel
theorem dX10_items_13 : decode cX10_items 13 = .ok (.iload_n 3, 1) := by decide +kernel
theorem dX10_items_14 : decode cX10_items 14 = .ok (.invokevirtual 73, 3) := by decide +kernel
theorem dX10_items_17 : decode cX10_items 17 = .ok (.ifCond .eq 7, 3) := by decide +kernel
theorem dX10_items_20 : decode cX10_items 20 = .ok (.iconst 1, 1) := by decide +kernel
theorem dX10_items_21 : decode cX10_items 21 = .ok (.goto 4, 3) := by decide +kernel
theorem dX10_items_24 : decode cX10_items 24 = .ok (.iconst 0, 1) := by decide +kernel
theorem dX10_items_25 : decode cX10_items 25 = .ok (.iadd, 1) := by decide +kernel
theorem dX10_items_26 : decode cX10_items 26 = .ok (.istore_n 2, 1) := by decide +kernel
theorem dX10_items_27 : decode cX10_items 27 = .ok (.iinc 3 1, 3) := by decide +kernel
theorem dX10_items_30 : decode cX10_items 30 = .ok (.goto (-26), 3) := by decide +kernel
theorem dX10_items_33 : decode cX10_items 33 = .ok (.iload_n 2, 1) := by decide +kernel
theorem dX10_items_34 : decode cX10_items 34 = .ok (.ireturn, 1) := by decide +kernel
def fX10_items (p0 : Nat) (p1 : Int32) (h : mxH) : Option Int32 := Option.bind (mxLoop (ρ := Int32) (fun s1 : (Int32 × Int32) => (if 20 ≤ s1.2 then some (Sum.inr s1.1) else Option.bind (isO h p0 10) (fun u10 => Option.bind (fX10_has p0 p1 s1.2 h) (fun v13 => Option.bind (α := Int32) (if v13 = 0 then some 0 else some 1) (fun p16' : Int32 => some (Sum.inl (s1.1 + p16', s1.2 + 1))))))) mxF (0, 0)) (fun r19 : Int32 => some r19)
abbrev rmX10_items : Room := { frames := 2, cells := 0, slots := 0, locals := 44 }
set_option maxRecDepth 20000 in
theorem tX10_items {l : Launch} {Z : mxZ} (hl : l.stackTraces = false) {p0 : Nat} {p1 : Int32} {h : mxH} {out : Int32} (hf : fX10_items p0 p1 h = some out) : mxMet l Z yX10_items cX10_items 4 (some .int) rmX10_items [.ref p0, .int p1] h (.inl (some (.int out))) h := by
  refine mxMet_of (by decide) hl (by simp [Value.category]) (Nat.le_of_ble_eq_true rfl) ?_
  intro X C E hX hin
  unfold fX10_items at hf
  refine mG_ic (pc := 0) C dX10_items_0 kI0 ?_
  refine mG_isn (ls' := [some (.ref p0), some (.int p1), some (.int 0), none]) (pc := 1) C dX10_items_1 rfl rfl rfl ?_
  refine mG_ic (pc := 2) C dX10_items_2 kI0 ?_
  refine mG_isn (ls' := [some (.ref p0), some (.int p1), some (.int 0), some (.int 0)]) (pc := 3) C dX10_items_3 rfl rfl rfl ?_
  obtain ⟨r2, e3, hf⟩ := mx_bind hf
  have J4 : ∀ r19 : Int32, r19 = r2 → mG l Z X 4 0 0 33 [none, none, some (.int r19), none] [] h := by
    intro r19 q20
    subst q20
    refine mG_iload_n (pc := 33) C dX10_items_33 rfl ?_
    cases hf
    exact mG_ir (pc := 34) C E hX dX10_items_34 rfl
  refine mG_sub (ls' := [some (.ref p0), some (.int p1), some (.int 0), some (.int 0)]) (mxLe_s (mxLe_s (mxLe_s (mxLe_s mxLe_z)))) (mxLoop_ind (K := fun s1 : (Int32 × Int32) => mG l Z X 4 0 0 4 [some (.ref p0), some (.int p1), some (.int s1.1), some (.int s1.2)] [] h) ?_ _ _ e3)
  intro s1 o7 e8 hK5 hx6
  refine mG_iload_n (pc := 4) C dX10_items_4 rfl ?_
  refine mG_bp (pc := 5) C dX10_items_5 kB20 ?_
  refine mG_icmp_ge (pc := 7) (tgt := 33) C dX10_items_7 (by decide) (fun q9 => ?_) (fun q9 => ?_)
  · rw [if_pos q9] at e8
    exact mG_sub (mxLe_n (mxLe_n (mxLe_s (mxLe_n mxLe_z)))) (J4 _ (hx6 _ (Option.some.inj e8).symm))
  · rw [if_neg q9] at e8
    refine mG_iload_n (pc := 10) C dX10_items_10 rfl ?_
    refine mG_aload_n (pc := 11) C dX10_items_11 rfl ?_
    refine mG_iload_n (pc := 12) C dX10_items_12 rfl ?_
    refine mG_iload_n (pc := 13) C dX10_items_13 rfl ?_
    obtain ⟨u10, e11, e8⟩ := mx_bind e8
    obtain ⟨v13, e12, e8⟩ := mx_bind e8
    refine mG_cV (pc := 14) (k' := 0) (n' := 0) 10 [.int p1, .int s1.2] [.int s1.1] C hX dX10_items_14 lkV_X10_73 rfl rfl e11 (tX10_has hl e12) rfl rfl rfl rfl ?_
    obtain ⟨p16, e17, e8⟩ := mx_bind e8
    have J15 : ∀ p16' : Int32, p16' = p16 → mG l Z X 4 0 0 25 [some (.ref p0), some (.int p1), none, some (.int s1.2)] [.int p16', .int s1.1] h := by
      intro p16' q18
      subst q18
      refine mG_iadd (pc := 25) C dX10_items_25 ?_
      refine mG_isn (ls' := [some (.ref p0), some (.int p1), some (.int (s1.1 + p16')), some (.int s1.2)]) (pc := 26) C dX10_items_26 rfl rfl rfl ?_
      refine mG_ii (ls' := [some (.ref p0), some (.int p1), some (.int (s1.1 + p16')), some (.int (s1.2 + 1))]) (pc := 27) C dX10_items_27 rfl (kinc1 _) rfl rfl rfl ?_
      refine mG_goto (tgt := 4) (pc := 30) C dX10_items_30 (by decide) ?_
      exact mG_sub (mxLe_s (mxLe_s (mxLe_s (mxLe_s mxLe_z)))) (hK5 _ (Option.some.inj e8).symm)
    refine mG_if_eq (pc := 17) (tgt := 24) C dX10_items_17 (by decide) (fun q14 => ?_) (fun q14 => ?_)
    · rw [if_pos q14] at e17
      refine mG_ic (pc := 24) C dX10_items_24 kI0 ?_
      exact mG_sub (mxLe_s (mxLe_s (mxLe_n (mxLe_s mxLe_z)))) (J15 _ (Option.some.inj e17))
    · rw [if_neg q14] at e17
      refine mG_ic (pc := 20) C dX10_items_20 kI1 ?_
      refine mG_goto (tgt := 25) (pc := 21) C dX10_items_21 (by decide) ?_
      exact mG_sub (mxLe_s (mxLe_s (mxLe_n (mxLe_s mxLe_z)))) (J15 _ (Option.some.inj e17))
theorem dX10_allItems_0 : decode cX10_allItems 0 = .ok (.iconst 0, 1) := by decide +kernel
theorem dX10_allItems_1 : decode cX10_allItems 1 = .ok (.istore_n 1, 1) := by decide +kernel
theorem dX10_allItems_2 : decode cX10_allItems 2 = .ok (.iconst 0, 1) := by decide +kernel
theorem dX10_allItems_3 : decode cX10_allItems 3 = .ok (.istore_n 2, 1) := by decide +kernel
theorem dX10_allItems_4 : decode cX10_allItems 4 = .ok (.iload_n 2, 1) := by decide +kernel
theorem dX10_allItems_5 : decode cX10_allItems 5 = .ok (.iconst 5, 1) := by decide +kernel
theorem dX10_allItems_6 : decode cX10_allItems 6 = .ok (.if_icmp .ge 17, 3) := by decide +kernel
theorem dX10_allItems_9 : decode cX10_allItems 9 = .ok (.iload_n 1, 1) := by decide +kernel
theorem dX10_allItems_10 : decode cX10_allItems 10 = .ok (.aload_n 0, 1) := by decide +kernel
theorem dX10_allItems_11 : decode cX10_allItems 11 = .ok (.iload_n 2, 1) := by decide +kernel
theorem dX10_allItems_12 : decode cX10_allItems 12 = .ok (.invokevirtual 77, 3) := by decide +kernel
theorem dX10_allItems_15 : decode cX10_allItems 15 = .ok (.iadd, 1) := by decide +kernel
theorem dX10_allItems_16 : decode cX10_allItems 16 = .ok (.istore_n 1, 1) := by decide +kernel
theorem dX10_allItems_17 : decode cX10_allItems 17 = .ok (.iinc 2 1, 3) := by decide +kernel
theorem dX10_allItems_20 : decode cX10_allItems 20 = .ok (.goto (-16), 3) := by decide +kernel
theorem dX10_allItems_23 : decode cX10_allItems 23 = .ok (.iload_n 1, 1) := by decide +kernel
theorem dX10_allItems_24 : decode cX10_allItems 24 = .ok (.ireturn, 1) := by decide +kernel
def fX10_allItems (p0 : Nat) (h : mxH) : Option Int32 := Option.bind (mxLoop (ρ := Int32) (fun s1 : (Int32 × Int32) => (if 5 ≤ s1.2 then some (Sum.inr s1.1) else Option.bind (isO h p0 10) (fun u10 => Option.bind (fX10_items p0 s1.2 h) (fun v13 => some (Sum.inl (s1.1 + v13, s1.2 + 1)))))) mxF (0, 0)) (fun r14 : Int32 => some r14)
abbrev rmX10_allItems : Room := { frames := 3, cells := 0, slots := 0, locals := 67 }
set_option maxRecDepth 20000 in
theorem tX10_allItems {l : Launch} {Z : mxZ} (hl : l.stackTraces = false) {p0 : Nat} {h : mxH} {out : Int32} (hf : fX10_allItems p0 h = some out) : mxMet l Z yX10_allItems cX10_allItems 3 (some .int) rmX10_allItems [.ref p0] h (.inl (some (.int out))) h := by
  refine mxMet_of (by decide) hl (by simp [Value.category]) (Nat.le_of_ble_eq_true rfl) ?_
  intro X C E hX hin
  unfold fX10_allItems at hf
  refine mG_ic (pc := 0) C dX10_allItems_0 kI0 ?_
  refine mG_isn (ls' := [some (.ref p0), some (.int 0), none]) (pc := 1) C dX10_allItems_1 rfl rfl rfl ?_
  refine mG_ic (pc := 2) C dX10_allItems_2 kI0 ?_
  refine mG_isn (ls' := [some (.ref p0), some (.int 0), some (.int 0)]) (pc := 3) C dX10_allItems_3 rfl rfl rfl ?_
  obtain ⟨r2, e3, hf⟩ := mx_bind hf
  have J4 : ∀ r14 : Int32, r14 = r2 → mG l Z X 3 0 0 23 [none, some (.int r14), none] [] h := by
    intro r14 q15
    subst q15
    refine mG_iload_n (pc := 23) C dX10_allItems_23 rfl ?_
    cases hf
    exact mG_ir (pc := 24) C E hX dX10_allItems_24 rfl
  refine mG_sub (ls' := [some (.ref p0), some (.int 0), some (.int 0)]) (mxLe_s (mxLe_s (mxLe_s mxLe_z))) (mxLoop_ind (K := fun s1 : (Int32 × Int32) => mG l Z X 3 0 0 4 [some (.ref p0), some (.int s1.1), some (.int s1.2)] [] h) ?_ _ _ e3)
  intro s1 o7 e8 hK5 hx6
  refine mG_iload_n (pc := 4) C dX10_allItems_4 rfl ?_
  refine mG_ic (pc := 5) C dX10_allItems_5 kI5 ?_
  refine mG_icmp_ge (pc := 6) (tgt := 23) C dX10_allItems_6 (by decide) (fun q9 => ?_) (fun q9 => ?_)
  · rw [if_pos q9] at e8
    exact mG_sub (mxLe_n (mxLe_s (mxLe_n mxLe_z))) (J4 _ (hx6 _ (Option.some.inj e8).symm))
  · rw [if_neg q9] at e8
    refine mG_iload_n (pc := 9) C dX10_allItems_9 rfl ?_
    refine mG_aload_n (pc := 10) C dX10_allItems_10 rfl ?_
    refine mG_iload_n (pc := 11) C dX10_allItems_11 rfl ?_
    obtain ⟨u10, e11, e8⟩ := mx_bind e8
    obtain ⟨v13, e12, e8⟩ := mx_bind e8
    refine mG_cV (pc := 12) (k' := 0) (n' := 0) 10 [.int s1.2] [.int s1.1] C hX dX10_allItems_12 lkV_X10_77 rfl rfl e11 (tX10_items hl e12) rfl rfl rfl rfl ?_
    refine mG_iadd (pc := 15) C dX10_allItems_15 ?_
    refine mG_isn (ls' := [some (.ref p0), some (.int (s1.1 + v13)), some (.int s1.2)]) (pc := 16) C dX10_allItems_16 rfl rfl rfl ?_
    refine mG_ii (ls' := [some (.ref p0), some (.int (s1.1 + v13)), some (.int (s1.2 + 1))]) (pc := 17) C dX10_allItems_17 rfl (kinc1 _) rfl rfl rfl ?_
    refine mG_goto (tgt := 4) (pc := 20) C dX10_allItems_20 (by decide) ?_
    exact mG_sub (mxLe_s (mxLe_s (mxLe_s mxLe_z))) (hK5 _ (Option.some.inj e8).symm)
theorem dX10_longest_0 : decode cX10_longest 0 = .ok (.iconst 0, 1) := by decide +kernel
theorem dX10_longest_1 : decode cX10_longest 1 = .ok (.istore_n 1, 1) := by decide +kernel
theorem dX10_longest_2 : decode cX10_longest 2 = .ok (.iconst 0, 1) := by decide +kernel
theorem dX10_longest_3 : decode cX10_longest 3 = .ok (.istore_n 2, 1) := by decide +kernel
theorem dX10_longest_4 : decode cX10_longest 4 = .ok (.iload_n 2, 1) := by decide +kernel
theorem dX10_longest_5 : decode cX10_longest 5 = .ok (.iconst 5, 1) := by decide +kernel
theorem dX10_longest_6 : decode cX10_longest 6 = .ok (.if_icmp .ge 19, 3) := by decide +kernel
theorem dX10_longest_9 : decode cX10_longest 9 = .ok (.iload_n 1, 1) := by decide +kernel
theorem dX10_longest_10 : decode cX10_longest 10 = .ok (.aload_n 0, 1) := by decide +kernel
theorem dX10_longest_11 : decode cX10_longest 11 = .ok (.iload_n 2, 1) := by decide +kernel
theorem dX10_longest_12 : decode cX10_longest 12 = .ok (.invokevirtual 77, 3) := by decide +kernel
theorem dX10_longest_15 : decode cX10_longest 15 = .ok (.invokestatic 81, 3) := by decide +kernel
theorem dX10_longest_18 : decode cX10_longest 18 = .ok (.istore_n 1, 1) := by decide +kernel
theorem dX10_longest_19 : decode cX10_longest 19 = .ok (.iinc 2 1, 3) := by decide +kernel
theorem dX10_longest_22 : decode cX10_longest 22 = .ok (.goto (-18), 3) := by decide +kernel
theorem dX10_longest_25 : decode cX10_longest 25 = .ok (.iload_n 1, 1) := by decide +kernel
theorem dX10_longest_26 : decode cX10_longest 26 = .ok (.ireturn, 1) := by decide +kernel
def fX10_longest (p0 : Nat) (h : mxH) : Option Int32 := Option.bind (mxLoop (ρ := Int32) (fun s1 : (Int32 × Int32) => (if 5 ≤ s1.2 then some (Sum.inr s1.1) else Option.bind (isO h p0 10) (fun u10 => Option.bind (fX10_items p0 s1.2 h) (fun v13 => some (Sum.inl (mxMax s1.1 v13, s1.2 + 1)))))) mxF (0, 0)) (fun r14 : Int32 => some r14)
abbrev rmX10_longest : Room := { frames := 3, cells := 0, slots := 0, locals := 67 }
set_option maxRecDepth 20000 in
theorem tX10_longest {l : Launch} {Z : mxZ} (hl : l.stackTraces = false) {p0 : Nat} {h : mxH} {out : Int32} (hf : fX10_longest p0 h = some out) : mxMet l Z yX10_longest cX10_longest 3 (some .int) rmX10_longest [.ref p0] h (.inl (some (.int out))) h := by
  refine mxMet_of (by decide) hl (by simp [Value.category]) (Nat.le_of_ble_eq_true rfl) ?_
  intro X C E hX hin
  unfold fX10_longest at hf
  refine mG_ic (pc := 0) C dX10_longest_0 kI0 ?_
  refine mG_isn (ls' := [some (.ref p0), some (.int 0), none]) (pc := 1) C dX10_longest_1 rfl rfl rfl ?_
  refine mG_ic (pc := 2) C dX10_longest_2 kI0 ?_
  refine mG_isn (ls' := [some (.ref p0), some (.int 0), some (.int 0)]) (pc := 3) C dX10_longest_3 rfl rfl rfl ?_
  obtain ⟨r2, e3, hf⟩ := mx_bind hf
  have J4 : ∀ r14 : Int32, r14 = r2 → mG l Z X 3 0 0 25 [none, some (.int r14), none] [] h := by
    intro r14 q15
    subst q15
    refine mG_iload_n (pc := 25) C dX10_longest_25 rfl ?_
    cases hf
    exact mG_ir (pc := 26) C E hX dX10_longest_26 rfl
  refine mG_sub (ls' := [some (.ref p0), some (.int 0), some (.int 0)]) (mxLe_s (mxLe_s (mxLe_s mxLe_z))) (mxLoop_ind (K := fun s1 : (Int32 × Int32) => mG l Z X 3 0 0 4 [some (.ref p0), some (.int s1.1), some (.int s1.2)] [] h) ?_ _ _ e3)
  intro s1 o7 e8 hK5 hx6
  refine mG_iload_n (pc := 4) C dX10_longest_4 rfl ?_
  refine mG_ic (pc := 5) C dX10_longest_5 kI5 ?_
  refine mG_icmp_ge (pc := 6) (tgt := 25) C dX10_longest_6 (by decide) (fun q9 => ?_) (fun q9 => ?_)
  · rw [if_pos q9] at e8
    exact mG_sub (mxLe_n (mxLe_s (mxLe_n mxLe_z))) (J4 _ (hx6 _ (Option.some.inj e8).symm))
  · rw [if_neg q9] at e8
    refine mG_iload_n (pc := 9) C dX10_longest_9 rfl ?_
    refine mG_aload_n (pc := 10) C dX10_longest_10 rfl ?_
    refine mG_iload_n (pc := 11) C dX10_longest_11 rfl ?_
    obtain ⟨u10, e11, e8⟩ := mx_bind e8
    obtain ⟨v13, e12, e8⟩ := mx_bind e8
    refine mG_cV (pc := 12) (k' := 0) (n' := 0) 10 [.int s1.2] [.int s1.1] C hX dX10_longest_12 lkV_X10_77 rfl rfl e11 (tX10_items hl e12) rfl rfl rfl rfl ?_
    refine mG_mx (pc := 15) C hX dX10_longest_15 w1322 wmax rfl rfl ?_
    refine mG_isn (ls' := [some (.ref p0), some (.int (mxMax s1.1 v13)), some (.int s1.2)]) (pc := 18) C dX10_longest_18 rfl rfl rfl ?_
    refine mG_ii (ls' := [some (.ref p0), some (.int (mxMax s1.1 v13)), some (.int (s1.2 + 1))]) (pc := 19) C dX10_longest_19 rfl (kinc1 _) rfl rfl rfl ?_
    refine mG_goto (tgt := 4) (pc := 22) C dX10_longest_22 (by decide) ?_
    exact mG_sub (mxLe_s (mxLe_s (mxLe_s mxLe_z))) (hK5 _ (Option.some.inj e8).symm)
theorem dX10_place_0 : decode cX10_place 0 = .ok (.iconst 0, 1) := by decide +kernel
theorem dX10_place_1 : decode cX10_place 1 = .ok (.istore_n 3, 1) := by decide +kernel
theorem dX10_place_2 : decode cX10_place 2 = .ok (.iconst 0, 1) := by decide +kernel
theorem dX10_place_3 : decode cX10_place 3 = .ok (.istore 4, 2) := by decide +kernel
theorem dX10_place_5 : decode cX10_place 5 = .ok (.iload 4, 2) := by decide +kernel
theorem dX10_place_7 : decode cX10_place 7 = .ok (.bipush 20, 2) := by decide +kernel
theorem dX10_place_9 : decode cX10_place 9 = .ok (.if_icmp .ge 50, 3) := by decide +kernel
theorem dX10_place_12 : decode cX10_place 12 = .ok (.aload_n 0, 1) := by decide +kernel
theorem dX10_place_13 : decode cX10_place 13 = .ok (.iload_n 1, 1) := by decide +kernel
theorem dX10_place_14 : decode cX10_place 14 = .ok (.iload 4, 2) := by decide +kernel
theorem dX10_place_16 : decode cX10_place 16 = .ok (.invokevirtual 69, 3) := by decide +kernel
theorem dX10_place_19 : decode cX10_place 19 = .ok (.aload_n 0, 1) := by decide +kernel
theorem dX10_place_20 : decode cX10_place 20 = .ok (.iload_n 1, 1) := by decide +kernel
theorem dX10_place_21 : decode cX10_place 21 = .ok (.iload_n 2, 1) := by decide +kernel
theorem dX10_place_22 : decode cX10_place 22 = .ok (.invokevirtual 69, 3) := by decide +kernel
theorem dX10_place_25 : decode cX10_place 25 = .ok (.if_icmp .gt 25, 3) := by decide +kernel
theorem dX10_place_28 : decode cX10_place 28 = .ok (.aload_n 0, 1) := by decide +kernel
theorem dX10_place_29 : decode cX10_place 29 = .ok (.iload_n 1, 1) := by decide +kernel
theorem dX10_place_30 : decode cX10_place 30 = .ok (.iload 4, 2) := by decide +kernel
theorem dX10_place_32 : decode cX10_place 32 = .ok (.invokevirtual 69, 3) := by decide +kernel
theorem dX10_place_35 : decode cX10_place 35 = .ok (.aload_n 0, 1) := by decide +kernel
theorem dX10_place_36 : decode cX10_place 36 = .ok (.iload_n 1, 1) := by decide +kernel
theorem dX10_place_37 : decode cX10_place 37 = .ok (.iload_n 2, 1) := by decide +kernel
theorem dX10_place_38 : decode cX10_place 38 = .ok (.invokevirtual 69, 3) := by decide +kernel
theorem dX10_place_41 : decode cX10_place 41 = .ok (.if_icmp .ne 12, 3) := by decide +kernel
theorem dX10_place_44 : decode cX10_place 44 = .ok (.iload 4, 2) := by decide +kernel
theorem dX10_place_46 : decode cX10_place 46 = .ok (.iload_n 2, 1) := by decide +kernel
theorem dX10_place_47 : decode cX10_place 47 = .ok (.if_icmp .ge 6, 3) := by decide +kernel
theorem dX10_place_50 : decode cX10_place 50 = .ok (.iinc 3 1, 3) := by decide +kernel
theorem dX10_place_53 : decode cX10_place 53 = .ok (.iinc 4 1, 3) := by decide +kernel
theorem dX10_place_56 : decode cX10_place 56 = .ok (.goto (-51), 3) := by decide +kernel
theorem dX10_place_59 : decode cX10_place 59 = .ok (.iload_n 3, 1) := by decide +kernel
theorem dX10_place_60 : decode cX10_place 60 = .ok (.ireturn, 1) := by decide +kernel
def fX10_place (p0 : Nat) (p1 : Int32) (p2 : Int32) (h : mxH) : Option Int32 := Option.bind (mxLoop (ρ := Int32) (fun s1 : (Int32 × Int32) => (if 20 ≤ s1.2 then some (Sum.inr s1.1) else Option.bind (isO h p0 10) (fun u10 => Option.bind (fX10_mark p0 p1 s1.2 h) (fun v13 => Option.bind (isO h p0 10) (fun u14 => Option.bind (fX10_mark p0 p1 p2 h) (fun v17 => Option.bind (α := Int32) (if v17 < v13 then some (s1.1 + 1) else Option.bind (isO h p0 10) (fun u22 => Option.bind (fX10_mark p0 p1 s1.2 h) (fun v25 => Option.bind (isO h p0 10) (fun u26 => Option.bind (fX10_mark p0 p1 p2 h) (fun v29 => (if v25 = v29 then (if p2 ≤ s1.2 then some s1.1 else some (s1.1 + 1)) else some s1.1)))))) (fun p20' : Int32 => some (Sum.inl (p20', s1.2 + 1))))))))) mxF (0, 0)) (fun r33 : Int32 => some r33)
abbrev rmX10_place : Room := { frames := 1, cells := 0, slots := 0, locals := 22 }
set_option maxRecDepth 20000 in
theorem tX10_place {l : Launch} {Z : mxZ} (hl : l.stackTraces = false) {p0 : Nat} {p1 : Int32} {p2 : Int32} {h : mxH} {out : Int32} (hf : fX10_place p0 p1 p2 h = some out) : mxMet l Z yX10_place cX10_place 5 (some .int) rmX10_place [.ref p0, .int p1, .int p2] h (.inl (some (.int out))) h := by
  refine mxMet_of (by decide) hl (by simp [Value.category]) (Nat.le_of_ble_eq_true rfl) ?_
  intro X C E hX hin
  unfold fX10_place at hf
  refine mG_ic (pc := 0) C dX10_place_0 kI0 ?_
  refine mG_isn (ls' := [some (.ref p0), some (.int p1), some (.int p2), some (.int 0), none]) (pc := 1) C dX10_place_1 rfl rfl rfl ?_
  refine mG_ic (pc := 2) C dX10_place_2 kI0 ?_
  refine mG_is (ls' := [some (.ref p0), some (.int p1), some (.int p2), some (.int 0), some (.int 0)]) (pc := 3) C dX10_place_3 rfl rfl rfl ?_
  obtain ⟨r2, e3, hf⟩ := mx_bind hf
  have J4 : ∀ r33 : Int32, r33 = r2 → mG l Z X 5 0 0 59 [none, none, none, some (.int r33), none] [] h := by
    intro r33 q34
    subst q34
    refine mG_iload_n (pc := 59) C dX10_place_59 rfl ?_
    cases hf
    exact mG_ir (pc := 60) C E hX dX10_place_60 rfl
  refine mG_sub (ls' := [some (.ref p0), some (.int p1), some (.int p2), some (.int 0), some (.int 0)]) (mxLe_s (mxLe_s (mxLe_s (mxLe_s (mxLe_s mxLe_z))))) (mxLoop_ind (K := fun s1 : (Int32 × Int32) => mG l Z X 5 0 0 5 [some (.ref p0), some (.int p1), some (.int p2), some (.int s1.1), some (.int s1.2)] [] h) ?_ _ _ e3)
  intro s1 o7 e8 hK5 hx6
  refine mG_iload (pc := 5) C dX10_place_5 rfl ?_
  refine mG_bp (pc := 7) C dX10_place_7 kB20 ?_
  refine mG_icmp_ge (pc := 9) (tgt := 59) C dX10_place_9 (by decide) (fun q9 => ?_) (fun q9 => ?_)
  · rw [if_pos q9] at e8
    exact mG_sub (mxLe_n (mxLe_n (mxLe_n (mxLe_s (mxLe_n mxLe_z))))) (J4 _ (hx6 _ (Option.some.inj e8).symm))
  · rw [if_neg q9] at e8
    refine mG_aload_n (pc := 12) C dX10_place_12 rfl ?_
    refine mG_iload_n (pc := 13) C dX10_place_13 rfl ?_
    refine mG_iload (pc := 14) C dX10_place_14 rfl ?_
    obtain ⟨u10, e11, e8⟩ := mx_bind e8
    obtain ⟨v13, e12, e8⟩ := mx_bind e8
    refine mG_cV (pc := 16) (k' := 0) (n' := 0) 10 [.int p1, .int s1.2] [] C hX dX10_place_16 lkV_X10_69 rfl rfl e11 (tX10_mark hl e12) rfl rfl rfl rfl ?_
    refine mG_aload_n (pc := 19) C dX10_place_19 rfl ?_
    refine mG_iload_n (pc := 20) C dX10_place_20 rfl ?_
    refine mG_iload_n (pc := 21) C dX10_place_21 rfl ?_
    obtain ⟨u14, e15, e8⟩ := mx_bind e8
    obtain ⟨v17, e16, e8⟩ := mx_bind e8
    refine mG_cV (pc := 22) (k' := 0) (n' := 0) 10 [.int p1, .int p2] [.int v13] C hX dX10_place_22 lkV_X10_69 rfl rfl e15 (tX10_mark hl e16) rfl rfl rfl rfl ?_
    obtain ⟨p20, e21, e8⟩ := mx_bind e8
    have J19 : ∀ p20' : Int32, p20' = p20 → mG l Z X 5 0 0 53 [some (.ref p0), some (.int p1), some (.int p2), some (.int p20'), some (.int s1.2)] [] h := by
      intro p20' q32
      subst q32
      refine mG_ii (ls' := [some (.ref p0), some (.int p1), some (.int p2), some (.int p20'), some (.int (s1.2 + 1))]) (pc := 53) C dX10_place_53 rfl (kinc1 _) rfl rfl rfl ?_
      refine mG_goto (tgt := 5) (pc := 56) C dX10_place_56 (by decide) ?_
      exact mG_sub (mxLe_s (mxLe_s (mxLe_s (mxLe_s (mxLe_s mxLe_z))))) (hK5 _ (Option.some.inj e8).symm)
    refine mG_icmp_gt (pc := 25) (tgt := 50) C dX10_place_25 (by decide) (fun q18 => ?_) (fun q18 => ?_)
    · rw [if_pos q18] at e21
      refine mG_ii (ls' := [some (.ref p0), some (.int p1), some (.int p2), some (.int (s1.1 + 1)), some (.int s1.2)]) (pc := 50) C dX10_place_50 rfl (kinc1 _) rfl rfl rfl ?_
      exact mG_sub (mxLe_s (mxLe_s (mxLe_s (mxLe_s (mxLe_s mxLe_z))))) (J19 _ (Option.some.inj e21))
    · rw [if_neg q18] at e21
      refine mG_aload_n (pc := 28) C dX10_place_28 rfl ?_
      refine mG_iload_n (pc := 29) C dX10_place_29 rfl ?_
      refine mG_iload (pc := 30) C dX10_place_30 rfl ?_
      obtain ⟨u22, e23, e21⟩ := mx_bind e21
      obtain ⟨v25, e24, e21⟩ := mx_bind e21
      refine mG_cV (pc := 32) (k' := 0) (n' := 0) 10 [.int p1, .int s1.2] [] C hX dX10_place_32 lkV_X10_69 rfl rfl e23 (tX10_mark hl e24) rfl rfl rfl rfl ?_
      refine mG_aload_n (pc := 35) C dX10_place_35 rfl ?_
      refine mG_iload_n (pc := 36) C dX10_place_36 rfl ?_
      refine mG_iload_n (pc := 37) C dX10_place_37 rfl ?_
      obtain ⟨u26, e27, e21⟩ := mx_bind e21
      obtain ⟨v29, e28, e21⟩ := mx_bind e21
      refine mG_cV (pc := 38) (k' := 0) (n' := 0) 10 [.int p1, .int p2] [.int v25] C hX dX10_place_38 lkV_X10_69 rfl rfl e27 (tX10_mark hl e28) rfl rfl rfl rfl ?_
      refine mG_icmp_ne (pc := 41) (tgt := 53) C dX10_place_41 (by decide) (fun q30 => ?_) (fun q30 => ?_)
      · rw [if_neg q30] at e21
        exact mG_sub (mxLe_s (mxLe_s (mxLe_s (mxLe_s (mxLe_s mxLe_z))))) (J19 _ (Option.some.inj e21))
      · rw [if_pos q30] at e21
        refine mG_iload (pc := 44) C dX10_place_44 rfl ?_
        refine mG_iload_n (pc := 46) C dX10_place_46 rfl ?_
        refine mG_icmp_ge (pc := 47) (tgt := 53) C dX10_place_47 (by decide) (fun q31 => ?_) (fun q31 => ?_)
        · rw [if_pos q31] at e21
          exact mG_sub (mxLe_s (mxLe_s (mxLe_s (mxLe_s (mxLe_s mxLe_z))))) (J19 _ (Option.some.inj e21))
        · rw [if_neg q31] at e21
          refine mG_ii (ls' := [some (.ref p0), some (.int p1), some (.int p2), some (.int (s1.1 + 1)), some (.int s1.2)]) (pc := 50) C dX10_place_50 rfl (kinc1 _) rfl rfl rfl ?_
          exact mG_sub (mxLe_s (mxLe_s (mxLe_s (mxLe_s (mxLe_s mxLe_z))))) (J19 _ (Option.some.inj e21))
theorem dX10_thingIn_0 : decode cX10_thingIn 0 = .ok (.iconst 0, 1) := by decide +kernel
theorem dX10_thingIn_1 : decode cX10_thingIn 1 = .ok (.istore_n 3, 1) := by decide +kernel
theorem dX10_thingIn_2 : decode cX10_thingIn 2 = .ok (.aload_n 0, 1) := by decide +kernel
theorem dX10_thingIn_3 : decode cX10_thingIn 3 = .ok (.iload_n 1, 1) := by decide +kernel
theorem dX10_thingIn_4 : decode cX10_thingIn 4 = .ok (.iload_n 3, 1) := by decide +kernel
theorem dX10_thingIn_5 : decode cX10_thingIn 5 = .ok (.invokevirtual 73, 3) := by decide +kernel
theorem dX10_thingIn_8 : decode cX10_thingIn 8 = .ok (.ifCond .eq 13, 3) := by decide +kernel
theorem dX10_thingIn_11 : decode cX10_thingIn 11 = .ok (.aload_n 0, 1) := by decide +kernel
theorem dX10_thingIn_12 : decode cX10_thingIn 12 = .ok (.iload_n 1, 1) := by decide +kernel
theorem dX10_thingIn_13 : decode cX10_thingIn 13 = .ok (.iload_n 3, 1) := by decide +kernel
theorem dX10_thingIn_14 : decode cX10_thingIn 14 = .ok (.invokevirtual 86, 3) := by decide +kernel
theorem dX10_thingIn_17 : decode cX10_thingIn 17 = .ok (.iload_n 2, 1) := by decide +kernel
theorem dX10_thingIn_18 : decode cX10_thingIn 18 = .ok (.if_icmp .eq 9, 3) := by decide +kernel
theorem dX10_thingIn_21 : decode cX10_thingIn 21 = .ok (.iinc 3 1, 3) := by decide +kernel
theorem dX10_thingIn_24 : decode cX10_thingIn 24 = .ok (.goto (-22), 3) := by decide +kernel
theorem dX10_thingIn_27 : decode cX10_thingIn 27 = .ok (.iload_n 3, 1) := by decide +kernel
theorem dX10_thingIn_28 : decode cX10_thingIn 28 = .ok (.ireturn, 1) := by decide +kernel
def fX10_thingIn (p0 : Nat) (p1 : Int32) (p2 : Int32) (h : mxH) : Option Int32 := Option.bind (mxLoop (ρ := Int32) (fun s1 : Int32 => Option.bind (isO h p0 10) (fun u9 => Option.bind (fX10_has p0 p1 s1 h) (fun v12 => (if v12 = 0 then some (Sum.inl (s1 + 1)) else Option.bind (isO h p0 10) (fun u14 => Option.bind (fX10_place p0 p1 s1 h) (fun v17 => (if v17 = p2 then some (Sum.inr s1) else some (Sum.inl (s1 + 1))))))))) mxF 0) (fun r19 : Int32 => some r19)
abbrev rmX10_thingIn : Room := { frames := 2, cells := 0, slots := 0, locals := 46 }
set_option maxRecDepth 20000 in
theorem tX10_thingIn {l : Launch} {Z : mxZ} (hl : l.stackTraces = false) {p0 : Nat} {p1 : Int32} {p2 : Int32} {h : mxH} {out : Int32} (hf : fX10_thingIn p0 p1 p2 h = some out) : mxMet l Z yX10_thingIn cX10_thingIn 4 (some .int) rmX10_thingIn [.ref p0, .int p1, .int p2] h (.inl (some (.int out))) h := by
  refine mxMet_of (by decide) hl (by simp [Value.category]) (Nat.le_of_ble_eq_true rfl) ?_
  intro X C E hX hin
  unfold fX10_thingIn at hf
  refine mG_ic (pc := 0) C dX10_thingIn_0 kI0 ?_
  refine mG_isn (ls' := [some (.ref p0), some (.int p1), some (.int p2), some (.int 0)]) (pc := 1) C dX10_thingIn_1 rfl rfl rfl ?_
  obtain ⟨r2, e3, hf⟩ := mx_bind hf
  have J4 : ∀ r19 : Int32, r19 = r2 → mG l Z X 4 0 0 27 [none, none, none, some (.int r19)] [] h := by
    intro r19 q20
    subst q20
    refine mG_iload_n (pc := 27) C dX10_thingIn_27 rfl ?_
    cases hf
    exact mG_ir (pc := 28) C E hX dX10_thingIn_28 rfl
  refine mG_sub (ls' := [some (.ref p0), some (.int p1), some (.int p2), some (.int 0)]) (mxLe_s (mxLe_s (mxLe_s (mxLe_s mxLe_z)))) (mxLoop_ind (K := fun s1 : Int32 => mG l Z X 4 0 0 2 [some (.ref p0), some (.int p1), some (.int p2), some (.int s1)] [] h) ?_ _ _ e3)
  intro s1 o7 e8 hK5 hx6
  refine mG_aload_n (pc := 2) C dX10_thingIn_2 rfl ?_
  refine mG_iload_n (pc := 3) C dX10_thingIn_3 rfl ?_
  refine mG_iload_n (pc := 4) C dX10_thingIn_4 rfl ?_
  obtain ⟨u9, e10, e8⟩ := mx_bind e8
  obtain ⟨v12, e11, e8⟩ := mx_bind e8
  refine mG_cV (pc := 5) (k' := 0) (n' := 0) 10 [.int p1, .int s1] [] C hX dX10_thingIn_5 lkV_X10_73 rfl rfl e10 (tX10_has hl e11) rfl rfl rfl rfl ?_
  refine mG_if_eq (pc := 8) (tgt := 21) C dX10_thingIn_8 (by decide) (fun q13 => ?_) (fun q13 => ?_)
  · rw [if_pos q13] at e8
    refine mG_ii (ls' := [some (.ref p0), some (.int p1), some (.int p2), some (.int (s1 + 1))]) (pc := 21) C dX10_thingIn_21 rfl (kinc1 _) rfl rfl rfl ?_
    refine mG_goto (tgt := 2) (pc := 24) C dX10_thingIn_24 (by decide) ?_
    exact mG_sub (mxLe_s (mxLe_s (mxLe_s (mxLe_s mxLe_z)))) (hK5 _ (Option.some.inj e8).symm)
  · rw [if_neg q13] at e8
    refine mG_aload_n (pc := 11) C dX10_thingIn_11 rfl ?_
    refine mG_iload_n (pc := 12) C dX10_thingIn_12 rfl ?_
    refine mG_iload_n (pc := 13) C dX10_thingIn_13 rfl ?_
    obtain ⟨u14, e15, e8⟩ := mx_bind e8
    obtain ⟨v17, e16, e8⟩ := mx_bind e8
    refine mG_cV (pc := 14) (k' := 0) (n' := 0) 10 [.int p1, .int s1] [] C hX dX10_thingIn_14 lkV_X10_86 rfl rfl e15 (tX10_place hl e16) rfl rfl rfl rfl ?_
    refine mG_iload_n (pc := 17) C dX10_thingIn_17 rfl ?_
    refine mG_icmp_eq (pc := 18) (tgt := 27) C dX10_thingIn_18 (by decide) (fun q18 => ?_) (fun q18 => ?_)
    · rw [if_pos q18] at e8
      exact mG_sub (mxLe_n (mxLe_n (mxLe_n (mxLe_s mxLe_z)))) (J4 _ (hx6 _ (Option.some.inj e8).symm))
    · rw [if_neg q18] at e8
      refine mG_ii (ls' := [some (.ref p0), some (.int p1), some (.int p2), some (.int (s1 + 1))]) (pc := 21) C dX10_thingIn_21 rfl (kinc1 _) rfl rfl rfl ?_
      refine mG_goto (tgt := 2) (pc := 24) C dX10_thingIn_24 (by decide) ?_
      exact mG_sub (mxLe_s (mxLe_s (mxLe_s (mxLe_s mxLe_z)))) (hK5 _ (Option.some.inj e8).symm)
theorem dX10_isKnown_0 : decode cX10_isKnown 0 = .ok (.iconst 0, 1) := by decide +kernel
theorem dX10_isKnown_1 : decode cX10_isKnown 1 = .ok (.istore_n 2, 1) := by decide +kernel
theorem dX10_isKnown_2 : decode cX10_isKnown 2 = .ok (.iconst 0, 1) := by decide +kernel
theorem dX10_isKnown_3 : decode cX10_isKnown 3 = .ok (.istore_n 3, 1) := by decide +kernel
theorem dX10_isKnown_4 : decode cX10_isKnown 4 = .ok (.iload_n 3, 1) := by decide +kernel
theorem dX10_isKnown_5 : decode cX10_isKnown 5 = .ok (.iconst 5, 1) := by decide +kernel
theorem dX10_isKnown_6 : decode cX10_isKnown 6 = .ok (.if_icmp .ge 28, 3) := by decide +kernel
theorem dX10_isKnown_9 : decode cX10_isKnown 9 = .ok (.iload_n 2, 1) := by decide +kernel
theorem dX10_isKnown_10 : decode cX10_isKnown 10 = .ok (.ifCond .ne 12, 3) := by decide +kernel
theorem dX10_isKnown_13 : decode cX10_isKnown 13 = .ok (.aload_n 0, 1) := by decide +kernel
theorem dX10_isKnown_14 : decode cX10_isKnown 14 = .ok (.iload_n 3, 1) := by decide +kernel
theorem dX10_isKnown_15 : decode cX10_isKnown 15 = .ok (.iload_n 1, 1) := by decide +kernel
theorem dX10_isKnown_16 : decode cX10_isKnown 16 = .ok (.invokevirtual 73, 3) := by decide +kernel
theorem dX10_isKnown_19 : decode cX10_isKnown 19 = .ok (.ifCond .eq 7, 3) := by decide +kernel
theorem dX10_isKnown_22 : decode cX10_isKnown 22 = .ok (.iconst 1, 1) := by decide +kernel
theorem dX10_isKnown_23 : decode cX10_isKnown 23 = .ok (.goto 4, 3) := by decide +kernel
theorem dX10_isKnown_26 : decode cX10_isKnown 26 = .ok (.iconst 0, 1) := by decide +kernel
theorem dX10_isKnown_27 : decode cX10_isKnown 27 = .ok (.istore_n 2, 1) := by decide +kernel
theorem dX10_isKnown_28 : decode cX10_isKnown 28 = .ok (.iinc 3 1, 3) := by decide +kernel
theorem dX10_isKnown_31 : decode cX10_isKnown 31 = .ok (.goto (-27), 3) := by decide +kernel
theorem dX10_isKnown_34 : decode cX10_isKnown 34 = .ok (.iload_n 2, 1) := by decide +kernel
theorem dX10_isKnown_35 : decode cX10_isKnown 35 = .ok (.ireturn, 1) := by decide +kernel
def fX10_isKnown (p0 : Nat) (p1 : Int32) (h : mxH) : Option Int32 := Option.bind (mxLoop (ρ := Int32) (fun s1 : (Int32 × Int32) => (if 5 ≤ s1.2 then some (Sum.inr s1.1) else Option.bind (α := Int32) (if s1.1 = 0 then Option.bind (isO h p0 10) (fun u14 => Option.bind (fX10_has p0 s1.2 p1 h) (fun v17 => (if v17 = 0 then some 0 else some 1))) else some 1) (fun p12' : Int32 => some (Sum.inl (p12', s1.2 + 1))))) mxF (0, 0)) (fun r20 : Int32 => Option.bind (mxZ1 r20) (fun v21 => some v21))
abbrev rmX10_isKnown : Room := { frames := 2, cells := 0, slots := 0, locals := 44 }
set_option maxRecDepth 20000 in
theorem tX10_isKnown {l : Launch} {Z : mxZ} (hl : l.stackTraces = false) {p0 : Nat} {p1 : Int32} {h : mxH} {out : Int32} (hf : fX10_isKnown p0 p1 h = some out) : mxMet l Z yX10_isKnown cX10_isKnown 4 (some .boolean) rmX10_isKnown [.ref p0, .int p1] h (.inl (some (.int out))) h := by
  refine mxMet_of (by decide) hl (by simp [Value.category]) (Nat.le_of_ble_eq_true rfl) ?_
  intro X C E hX hin
  unfold fX10_isKnown at hf
  refine mG_ic (pc := 0) C dX10_isKnown_0 kI0 ?_
  refine mG_isn (ls' := [some (.ref p0), some (.int p1), some (.int 0), none]) (pc := 1) C dX10_isKnown_1 rfl rfl rfl ?_
  refine mG_ic (pc := 2) C dX10_isKnown_2 kI0 ?_
  refine mG_isn (ls' := [some (.ref p0), some (.int p1), some (.int 0), some (.int 0)]) (pc := 3) C dX10_isKnown_3 rfl rfl rfl ?_
  obtain ⟨r2, e3, hf⟩ := mx_bind hf
  have J4 : ∀ r20 : Int32, r20 = r2 → mG l Z X 4 0 0 34 [none, none, some (.int r20), none] [] h := by
    intro r20 q23
    subst q23
    refine mG_iload_n (pc := 34) C dX10_isKnown_34 rfl ?_
    obtain ⟨v21, e22, hf⟩ := mx_bind hf
    cases hf
    exact mG_zr (pc := 35) C e22 E hX dX10_isKnown_35 rfl
  refine mG_sub (ls' := [some (.ref p0), some (.int p1), some (.int 0), some (.int 0)]) (mxLe_s (mxLe_s (mxLe_s (mxLe_s mxLe_z)))) (mxLoop_ind (K := fun s1 : (Int32 × Int32) => mG l Z X 4 0 0 4 [some (.ref p0), some (.int p1), some (.int s1.1), some (.int s1.2)] [] h) ?_ _ _ e3)
  intro s1 o7 e8 hK5 hx6
  refine mG_iload_n (pc := 4) C dX10_isKnown_4 rfl ?_
  refine mG_ic (pc := 5) C dX10_isKnown_5 kI5 ?_
  refine mG_icmp_ge (pc := 6) (tgt := 34) C dX10_isKnown_6 (by decide) (fun q9 => ?_) (fun q9 => ?_)
  · rw [if_pos q9] at e8
    exact mG_sub (mxLe_n (mxLe_n (mxLe_s (mxLe_n mxLe_z)))) (J4 _ (hx6 _ (Option.some.inj e8).symm))
  · rw [if_neg q9] at e8
    refine mG_iload_n (pc := 9) C dX10_isKnown_9 rfl ?_
    obtain ⟨p12, e13, e8⟩ := mx_bind e8
    have J11 : ∀ p12' : Int32, p12' = p12 → mG l Z X 4 0 0 27 [some (.ref p0), some (.int p1), none, some (.int s1.2)] [.int p12'] h := by
      intro p12' q19
      subst q19
      refine mG_isn (ls' := [some (.ref p0), some (.int p1), some (.int p12'), some (.int s1.2)]) (pc := 27) C dX10_isKnown_27 rfl rfl rfl ?_
      refine mG_ii (ls' := [some (.ref p0), some (.int p1), some (.int p12'), some (.int (s1.2 + 1))]) (pc := 28) C dX10_isKnown_28 rfl (kinc1 _) rfl rfl rfl ?_
      refine mG_goto (tgt := 4) (pc := 31) C dX10_isKnown_31 (by decide) ?_
      exact mG_sub (mxLe_s (mxLe_s (mxLe_s (mxLe_s mxLe_z)))) (hK5 _ (Option.some.inj e8).symm)
    refine mG_if_ne (pc := 10) (tgt := 22) C dX10_isKnown_10 (by decide) (fun q10 => ?_) (fun q10 => ?_)
    · rw [if_neg q10] at e13
      refine mG_ic (pc := 22) C dX10_isKnown_22 kI1 ?_
      refine mG_goto (tgt := 27) (pc := 23) C dX10_isKnown_23 (by decide) ?_
      exact mG_sub (mxLe_s (mxLe_s (mxLe_n (mxLe_s mxLe_z)))) (J11 _ (Option.some.inj e13))
    · rw [if_pos q10] at e13
      refine mG_aload_n (pc := 13) C dX10_isKnown_13 rfl ?_
      refine mG_iload_n (pc := 14) C dX10_isKnown_14 rfl ?_
      refine mG_iload_n (pc := 15) C dX10_isKnown_15 rfl ?_
      obtain ⟨u14, e15, e13⟩ := mx_bind e13
      obtain ⟨v17, e16, e13⟩ := mx_bind e13
      refine mG_cV (pc := 16) (k' := 0) (n' := 0) 10 [.int s1.2, .int p1] [] C hX dX10_isKnown_16 lkV_X10_73 rfl rfl e15 (tX10_has hl e16) rfl rfl rfl rfl ?_
      refine mG_if_eq (pc := 19) (tgt := 26) C dX10_isKnown_19 (by decide) (fun q18 => ?_) (fun q18 => ?_)
      · rw [if_pos q18] at e13
        refine mG_ic (pc := 26) C dX10_isKnown_26 kI0 ?_
        exact mG_sub (mxLe_s (mxLe_s (mxLe_n (mxLe_s mxLe_z)))) (J11 _ (Option.some.inj e13))
      · rw [if_neg q18] at e13
        refine mG_ic (pc := 22) C dX10_isKnown_22 kI1 ?_
        refine mG_goto (tgt := 27) (pc := 23) C dX10_isKnown_23 (by decide) ?_
        exact mG_sub (mxLe_s (mxLe_s (mxLe_n (mxLe_s mxLe_z)))) (J11 _ (Option.some.inj e13))
theorem dX10_ruled_0 : decode cX10_ruled 0 = .ok (.iconst 0, 1) := by decide +kernel
theorem dX10_ruled_1 : decode cX10_ruled 1 = .ok (.istore_n 1, 1) := by decide +kernel
theorem dX10_ruled_2 : decode cX10_ruled 2 = .ok (.iconst 0, 1) := by decide +kernel
theorem dX10_ruled_3 : decode cX10_ruled 3 = .ok (.istore_n 2, 1) := by decide +kernel
theorem dX10_ruled_4 : decode cX10_ruled 4 = .ok (.iconst (-1), 1) := by decide +kernel
theorem dX10_ruled_5 : decode cX10_ruled 5 = .ok (.istore_n 3, 1) := by decide +kernel
theorem dX10_ruled_6 : decode cX10_ruled 6 = .ok (.iconst 0, 1) := by decide +kernel
theorem dX10_ruled_7 : decode cX10_ruled 7 = .ok (.istore 4, 2) := by decide +kernel
theorem dX10_ruled_9 : decode cX10_ruled 9 = .ok (.iload 4, 2) := by decide +kernel
theorem dX10_ruled_11 : decode cX10_ruled 11 = .ok (.iconst 5, 1) := by decide +kernel
theorem dX10_ruled_12 : decode cX10_ruled 12 = .ok (.if_icmp .ge 68, 3) := by decide +kernel
theorem dX10_ruled_15 : decode cX10_ruled 15 = .ok (.iload_n 1, 1) := by decide +kernel
theorem dX10_ruled_16 : decode cX10_ruled 16 = .ok (.aload_n 0, 1) := by decide +kernel
theorem dX10_ruled_17 : decode cX10_ruled 17 = .ok (.getfield 16, 3) := by decide +kernel
theorem dX10_ruled_20 : decode cX10_ruled 20 = .ok (.iload 4, 2) := by decide +kernel
theorem dX10_ruled_22 : decode cX10_ruled 22 = .ok (.iaload, 1) := by decide +kernel
theorem dX10_ruled_23 : decode cX10_ruled 23 = .ok (.iadd, 1) := by decide +kernel
theorem dX10_ruled_24 : decode cX10_ruled 24 = .ok (.istore_n 1, 1) := by decide +kernel
theorem dX10_ruled_25 : decode cX10_ruled 25 = .ok (.iload_n 2, 1) := by decide +kernel
theorem dX10_ruled_26 : decode cX10_ruled 26 = .ok (.aload_n 0, 1) := by decide +kernel
theorem dX10_ruled_27 : decode cX10_ruled 27 = .ok (.getfield 16, 3) := by decide +kernel
theorem dX10_ruled_30 : decode cX10_ruled 30 = .ok (.iload 4, 2) := by decide +kernel
theorem dX10_ruled_32 : decode cX10_ruled 32 = .ok (.iaload, 1) := by decide +kernel
theorem dX10_ruled_33 : decode cX10_ruled 33 = .ok (.invokestatic 81, 3) := by decide +kernel
theorem dX10_ruled_36 : decode cX10_ruled 36 = .ok (.istore_n 2, 1) := by decide +kernel
theorem dX10_ruled_37 : decode cX10_ruled 37 = .ok (.aload_n 0, 1) := by decide +kernel
theorem dX10_ruled_38 : decode cX10_ruled 38 = .ok (.getfield 9, 3) := by decide +kernel
theorem dX10_ruled_41 : decode cX10_ruled 41 = .ok (.bipush 100, 2) := by decide +kernel
theorem dX10_ruled_43 : decode cX10_ruled 43 = .ok (.iload 4, 2) := by decide +kernel
theorem dX10_ruled_45 : decode cX10_ruled 45 = .ok (.iadd, 1) := by decide +kernel
theorem dX10_ruled_46 : decode cX10_ruled 46 = .ok (.iaload, 1) := by decide +kernel
theorem dX10_ruled_47 : decode cX10_ruled 47 = .ok (.ifCond .le 27, 3) := by decide +kernel
theorem dX10_ruled_50 : decode cX10_ruled 50 = .ok (.iload_n 3, 1) := by decide +kernel
theorem dX10_ruled_51 : decode cX10_ruled 51 = .ok (.iconst (-1), 1) := by decide +kernel
theorem dX10_ruled_52 : decode cX10_ruled 52 = .ok (.if_icmp .eq 14, 3) := by decide +kernel
theorem dX10_ruled_55 : decode cX10_ruled 55 = .ok (.aload_n 0, 1) := by decide +kernel
theorem dX10_ruled_56 : decode cX10_ruled 56 = .ok (.getfield 16, 3) := by decide +kernel
theorem dX10_ruled_59 : decode cX10_ruled 59 = .ok (.iload 4, 2) := by decide +kernel
theorem dX10_ruled_61 : decode cX10_ruled 61 = .ok (.iaload, 1) := by decide +kernel
theorem dX10_ruled_62 : decode cX10_ruled 62 = .ok (.iload_n 3, 1) := by decide +kernel
theorem dX10_ruled_63 : decode cX10_ruled 63 = .ok (.if_icmp .ge 11, 3) := by decide +kernel
theorem dX10_ruled_66 : decode cX10_ruled 66 = .ok (.aload_n 0, 1) := by decide +kernel
theorem dX10_ruled_67 : decode cX10_ruled 67 = .ok (.getfield 16, 3) := by decide +kernel
theorem dX10_ruled_70 : decode cX10_ruled 70 = .ok (.iload 4, 2) := by decide +kernel
theorem dX10_ruled_72 : decode cX10_ruled 72 = .ok (.iaload, 1) := by decide +kernel
theorem dX10_ruled_73 : decode cX10_ruled 73 = .ok (.istore_n 3, 1) := by decide +kernel
theorem dX10_ruled_74 : decode cX10_ruled 74 = .ok (.iinc 4 1, 3) := by decide +kernel
theorem dX10_ruled_77 : decode cX10_ruled 77 = .ok (.goto (-68), 3) := by decide +kernel
theorem dX10_ruled_80 : decode cX10_ruled 80 = .ok (.aload_n 0, 1) := by decide +kernel
theorem dX10_ruled_81 : decode cX10_ruled 81 = .ok (.getfield 9, 3) := by decide +kernel
theorem dX10_ruled_84 : decode cX10_ruled 84 = .ok (.bipush 105, 2) := by decide +kernel
theorem dX10_ruled_86 : decode cX10_ruled 86 = .ok (.iaload, 1) := by decide +kernel
theorem dX10_ruled_87 : decode cX10_ruled 87 = .ok (.ifCond .ne 7, 3) := by decide +kernel
theorem dX10_ruled_90 : decode cX10_ruled 90 = .ok (.iload_n 1, 1) := by decide +kernel
theorem dX10_ruled_91 : decode cX10_ruled 91 = .ok (.goto 23, 3) := by decide +kernel
theorem dX10_ruled_94 : decode cX10_ruled 94 = .ok (.aload_n 0, 1) := by decide +kernel
theorem dX10_ruled_95 : decode cX10_ruled 95 = .ok (.getfield 9, 3) := by decide +kernel
theorem dX10_ruled_98 : decode cX10_ruled 98 = .ok (.bipush 105, 2) := by decide +kernel
theorem dX10_ruled_100 : decode cX10_ruled 100 = .ok (.iaload, 1) := by decide +kernel
theorem dX10_ruled_101 : decode cX10_ruled 101 = .ok (.iconst 1, 1) := by decide +kernel
theorem dX10_ruled_102 : decode cX10_ruled 102 = .ok (.if_icmp .ne 11, 3) := by decide +kernel
theorem dX10_ruled_105 : decode cX10_ruled 105 = .ok (.iload_n 3, 1) := by decide +kernel
theorem dX10_ruled_106 : decode cX10_ruled 106 = .ok (.iconst 0, 1) := by decide +kernel
theorem dX10_ruled_107 : decode cX10_ruled 107 = .ok (.invokestatic 81, 3) := by decide +kernel
theorem dX10_ruled_110 : decode cX10_ruled 110 = .ok (.goto 4, 3) := by decide +kernel
theorem dX10_ruled_113 : decode cX10_ruled 113 = .ok (.iload_n 2, 1) := by decide +kernel
theorem dX10_ruled_114 : decode cX10_ruled 114 = .ok (.ireturn, 1) := by decide +kernel
def fX10_ruled (p0 : Nat) (h : mxH) : Option Int32 := Option.bind (mxLoop (ρ := (Int32 × Int32 × Int32)) (fun s1 : (Int32 × Int32 × Int32 × Int32) => (if 5 ≤ s1.2.2.2 then some (Sum.inr (s1.1, s1.2.1, s1.2.2.1)) else Option.bind (gR h p0 10 4) (fun r10 => Option.bind (ldI h r10 s1.2.2.2) (fun v12 => Option.bind (gR h p0 10 4) (fun r14 => Option.bind (ldI h r14 s1.2.2.2) (fun v16 => Option.bind (gR h p0 10 0) (fun r18 => Option.bind (ldI h r18 (100 + s1.2.2.2)) (fun v20 => Option.bind (α := Int32) (if v20 ≤ 0 then some s1.2.2.1 else (if s1.2.2.1 = (-1) then Option.bind (gR h p0 10 4) (fun r27 => Option.bind (ldI h r27 s1.2.2.2) (fun v29 => some v29)) else Option.bind (gR h p0 10 4) (fun r31 => Option.bind (ldI h r31 s1.2.2.2) (fun v33 => (if s1.2.2.1 ≤ v33 then some s1.2.2.1 else Option.bind (gR h p0 10 4) (fun r36 => Option.bind (ldI h r36 s1.2.2.2) (fun v38 => some v38))))))) (fun p24' : Int32 => some (Sum.inl (s1.1 + v12, mxMax s1.2.1 v16, p24', s1.2.2.2 + 1))))))))))) mxF (0, 0, (-1), 0)) (fun r41 : (Int32 × Int32 × Int32) => Option.bind (gR h p0 10 0) (fun r42 => Option.bind (ldI h r42 105) (fun v44 => Option.bind (α := Int32) (if v44 = 0 then some r41.1 else Option.bind (gR h p0 10 0) (fun r50 => Option.bind (ldI h r50 105) (fun v52 => (if v52 = 1 then some (mxMax r41.2.2 0) else some r41.2.1)))) (fun p48' : Int32 => some p48'))))
abbrev rmX10_ruled : Room := { frames := 1, cells := 0, slots := 0, locals := 21 }
set_option maxRecDepth 20000 in
theorem tX10_ruled {l : Launch} {Z : mxZ} (hl : l.stackTraces = false) {p0 : Nat} {h : mxH} {out : Int32} (hf : fX10_ruled p0 h = some out) : mxMet l Z yX10_ruled cX10_ruled 5 (some .int) rmX10_ruled [.ref p0] h (.inl (some (.int out))) h := by
  refine mxMet_of (by decide) hl (by simp [Value.category]) (Nat.le_of_ble_eq_true rfl) ?_
  intro X C E hX hin
  unfold fX10_ruled at hf
  refine mG_ic (pc := 0) C dX10_ruled_0 kI0 ?_
  refine mG_isn (ls' := [some (.ref p0), some (.int 0), none, none, none]) (pc := 1) C dX10_ruled_1 rfl rfl rfl ?_
  refine mG_ic (pc := 2) C dX10_ruled_2 kI0 ?_
  refine mG_isn (ls' := [some (.ref p0), some (.int 0), some (.int 0), none, none]) (pc := 3) C dX10_ruled_3 rfl rfl rfl ?_
  refine mG_ic (pc := 4) C dX10_ruled_4 kIm1 ?_
  refine mG_isn (ls' := [some (.ref p0), some (.int 0), some (.int 0), some (.int (-1)), none]) (pc := 5) C dX10_ruled_5 rfl rfl rfl ?_
  refine mG_ic (pc := 6) C dX10_ruled_6 kI0 ?_
  refine mG_is (ls' := [some (.ref p0), some (.int 0), some (.int 0), some (.int (-1)), some (.int 0)]) (pc := 7) C dX10_ruled_7 rfl rfl rfl ?_
  obtain ⟨r2, e3, hf⟩ := mx_bind hf
  have J4 : ∀ r41 : (Int32 × Int32 × Int32), r41 = r2 → mG l Z X 5 0 0 80 [some (.ref p0), some (.int r41.1), some (.int r41.2.1), some (.int r41.2.2), none] [] h := by
    intro r41 q56
    subst q56
    refine mG_aload_n (pc := 80) C dX10_ruled_80 rfl ?_
    obtain ⟨r42, e43, hf⟩ := mx_bind hf
    refine mG_getR (pc := 81) C dX10_ruled_81 fl_X10_9 e43 ?_
    refine mG_bp (pc := 84) C dX10_ruled_84 kB105 ?_
    obtain ⟨v44, e45, hf⟩ := mx_bind hf
    refine mG_iaload (pc := 86) C dX10_ruled_86 e45 ?_
    obtain ⟨p48, e49, hf⟩ := mx_bind hf
    have J47 : ∀ p48' : Int32, p48' = p48 → mG l Z X 5 0 0 114 [none, none, none, none, none] [.int p48'] h := by
      intro p48' q55
      subst q55
      cases hf
      exact mG_ir (pc := 114) C E hX dX10_ruled_114 rfl
    refine mG_if_ne (pc := 87) (tgt := 94) C dX10_ruled_87 (by decide) (fun q46 => ?_) (fun q46 => ?_)
    · rw [if_neg q46] at e49
      refine mG_aload_n (pc := 94) C dX10_ruled_94 rfl ?_
      obtain ⟨r50, e51, e49⟩ := mx_bind e49
      refine mG_getR (pc := 95) C dX10_ruled_95 fl_X10_9 e51 ?_
      refine mG_bp (pc := 98) C dX10_ruled_98 kB105 ?_
      obtain ⟨v52, e53, e49⟩ := mx_bind e49
      refine mG_iaload (pc := 100) C dX10_ruled_100 e53 ?_
      refine mG_ic (pc := 101) C dX10_ruled_101 kI1 ?_
      refine mG_icmp_ne (pc := 102) (tgt := 113) C dX10_ruled_102 (by decide) (fun q54 => ?_) (fun q54 => ?_)
      · rw [if_neg q54] at e49
        refine mG_iload_n (pc := 113) C dX10_ruled_113 rfl ?_
        exact mG_sub (mxLe_n (mxLe_n (mxLe_n (mxLe_n (mxLe_n mxLe_z))))) (J47 _ (Option.some.inj e49))
      · rw [if_pos q54] at e49
        refine mG_iload_n (pc := 105) C dX10_ruled_105 rfl ?_
        refine mG_ic (pc := 106) C dX10_ruled_106 kI0 ?_
        refine mG_mx (pc := 107) C hX dX10_ruled_107 w1322 wmax rfl rfl ?_
        refine mG_goto (tgt := 114) (pc := 110) C dX10_ruled_110 (by decide) ?_
        exact mG_sub (mxLe_n (mxLe_n (mxLe_n (mxLe_n (mxLe_n mxLe_z))))) (J47 _ (Option.some.inj e49))
    · rw [if_pos q46] at e49
      refine mG_iload_n (pc := 90) C dX10_ruled_90 rfl ?_
      refine mG_goto (tgt := 114) (pc := 91) C dX10_ruled_91 (by decide) ?_
      exact mG_sub (mxLe_n (mxLe_n (mxLe_n (mxLe_n (mxLe_n mxLe_z))))) (J47 _ (Option.some.inj e49))
  refine mG_sub (ls' := [some (.ref p0), some (.int 0), some (.int 0), some (.int (-1)), some (.int 0)]) (mxLe_s (mxLe_s (mxLe_s (mxLe_s (mxLe_s mxLe_z))))) (mxLoop_ind (K := fun s1 : (Int32 × Int32 × Int32 × Int32) => mG l Z X 5 0 0 9 [some (.ref p0), some (.int s1.1), some (.int s1.2.1), some (.int s1.2.2.1), some (.int s1.2.2.2)] [] h) ?_ _ _ e3)
  intro s1 o7 e8 hK5 hx6
  refine mG_iload (pc := 9) C dX10_ruled_9 rfl ?_
  refine mG_ic (pc := 11) C dX10_ruled_11 kI5 ?_
  refine mG_icmp_ge (pc := 12) (tgt := 80) C dX10_ruled_12 (by decide) (fun q9 => ?_) (fun q9 => ?_)
  · rw [if_pos q9] at e8
    exact mG_sub (mxLe_s (mxLe_s (mxLe_s (mxLe_s (mxLe_n mxLe_z))))) (J4 _ (hx6 _ (Option.some.inj e8).symm))
  · rw [if_neg q9] at e8
    refine mG_iload_n (pc := 15) C dX10_ruled_15 rfl ?_
    refine mG_aload_n (pc := 16) C dX10_ruled_16 rfl ?_
    obtain ⟨r10, e11, e8⟩ := mx_bind e8
    refine mG_getR (pc := 17) C dX10_ruled_17 fl_X10_16 e11 ?_
    refine mG_iload (pc := 20) C dX10_ruled_20 rfl ?_
    obtain ⟨v12, e13, e8⟩ := mx_bind e8
    refine mG_iaload (pc := 22) C dX10_ruled_22 e13 ?_
    refine mG_iadd (pc := 23) C dX10_ruled_23 ?_
    refine mG_isn (ls' := [some (.ref p0), some (.int (s1.1 + v12)), some (.int s1.2.1), some (.int s1.2.2.1), some (.int s1.2.2.2)]) (pc := 24) C dX10_ruled_24 rfl rfl rfl ?_
    refine mG_iload_n (pc := 25) C dX10_ruled_25 rfl ?_
    refine mG_aload_n (pc := 26) C dX10_ruled_26 rfl ?_
    obtain ⟨r14, e15, e8⟩ := mx_bind e8
    refine mG_getR (pc := 27) C dX10_ruled_27 fl_X10_16 e15 ?_
    refine mG_iload (pc := 30) C dX10_ruled_30 rfl ?_
    obtain ⟨v16, e17, e8⟩ := mx_bind e8
    refine mG_iaload (pc := 32) C dX10_ruled_32 e17 ?_
    refine mG_mx (pc := 33) C hX dX10_ruled_33 w1322 wmax rfl rfl ?_
    refine mG_isn (ls' := [some (.ref p0), some (.int (s1.1 + v12)), some (.int (mxMax s1.2.1 v16)), some (.int s1.2.2.1), some (.int s1.2.2.2)]) (pc := 36) C dX10_ruled_36 rfl rfl rfl ?_
    refine mG_aload_n (pc := 37) C dX10_ruled_37 rfl ?_
    obtain ⟨r18, e19, e8⟩ := mx_bind e8
    refine mG_getR (pc := 38) C dX10_ruled_38 fl_X10_9 e19 ?_
    refine mG_bp (pc := 41) C dX10_ruled_41 kB100 ?_
    refine mG_iload (pc := 43) C dX10_ruled_43 rfl ?_
    refine mG_iadd (pc := 45) C dX10_ruled_45 ?_
    obtain ⟨v20, e21, e8⟩ := mx_bind e8
    refine mG_iaload (pc := 46) C dX10_ruled_46 e21 ?_
    obtain ⟨p24, e25, e8⟩ := mx_bind e8
    have J23 : ∀ p24' : Int32, p24' = p24 → mG l Z X 5 0 0 74 [some (.ref p0), some (.int (s1.1 + v12)), some (.int (mxMax s1.2.1 v16)), some (.int p24'), some (.int s1.2.2.2)] [] h := by
      intro p24' q40
      subst q40
      refine mG_ii (ls' := [some (.ref p0), some (.int (s1.1 + v12)), some (.int (mxMax s1.2.1 v16)), some (.int p24'), some (.int (s1.2.2.2 + 1))]) (pc := 74) C dX10_ruled_74 rfl (kinc1 _) rfl rfl rfl ?_
      refine mG_goto (tgt := 9) (pc := 77) C dX10_ruled_77 (by decide) ?_
      exact mG_sub (mxLe_s (mxLe_s (mxLe_s (mxLe_s (mxLe_s mxLe_z))))) (hK5 _ (Option.some.inj e8).symm)
    refine mG_if_le (pc := 47) (tgt := 74) C dX10_ruled_47 (by decide) (fun q22 => ?_) (fun q22 => ?_)
    · rw [if_pos q22] at e25
      exact mG_sub (mxLe_s (mxLe_s (mxLe_s (mxLe_s (mxLe_s mxLe_z))))) (J23 _ (Option.some.inj e25))
    · rw [if_neg q22] at e25
      refine mG_iload_n (pc := 50) C dX10_ruled_50 rfl ?_
      refine mG_ic (pc := 51) C dX10_ruled_51 kIm1 ?_
      refine mG_icmp_eq (pc := 52) (tgt := 66) C dX10_ruled_52 (by decide) (fun q26 => ?_) (fun q26 => ?_)
      · rw [if_pos q26] at e25
        refine mG_aload_n (pc := 66) C dX10_ruled_66 rfl ?_
        obtain ⟨r27, e28, e25⟩ := mx_bind e25
        refine mG_getR (pc := 67) C dX10_ruled_67 fl_X10_16 e28 ?_
        refine mG_iload (pc := 70) C dX10_ruled_70 rfl ?_
        obtain ⟨v29, e30, e25⟩ := mx_bind e25
        refine mG_iaload (pc := 72) C dX10_ruled_72 e30 ?_
        refine mG_isn (ls' := [some (.ref p0), some (.int (s1.1 + v12)), some (.int (mxMax s1.2.1 v16)), some (.int v29), some (.int s1.2.2.2)]) (pc := 73) C dX10_ruled_73 rfl rfl rfl ?_
        exact mG_sub (mxLe_s (mxLe_s (mxLe_s (mxLe_s (mxLe_s mxLe_z))))) (J23 _ (Option.some.inj e25))
      · rw [if_neg q26] at e25
        refine mG_aload_n (pc := 55) C dX10_ruled_55 rfl ?_
        obtain ⟨r31, e32, e25⟩ := mx_bind e25
        refine mG_getR (pc := 56) C dX10_ruled_56 fl_X10_16 e32 ?_
        refine mG_iload (pc := 59) C dX10_ruled_59 rfl ?_
        obtain ⟨v33, e34, e25⟩ := mx_bind e25
        refine mG_iaload (pc := 61) C dX10_ruled_61 e34 ?_
        refine mG_iload_n (pc := 62) C dX10_ruled_62 rfl ?_
        refine mG_icmp_ge (pc := 63) (tgt := 74) C dX10_ruled_63 (by decide) (fun q35 => ?_) (fun q35 => ?_)
        · rw [if_pos q35] at e25
          exact mG_sub (mxLe_s (mxLe_s (mxLe_s (mxLe_s (mxLe_s mxLe_z))))) (J23 _ (Option.some.inj e25))
        · rw [if_neg q35] at e25
          refine mG_aload_n (pc := 66) C dX10_ruled_66 rfl ?_
          obtain ⟨r36, e37, e25⟩ := mx_bind e25
          refine mG_getR (pc := 67) C dX10_ruled_67 fl_X10_16 e37 ?_
          refine mG_iload (pc := 70) C dX10_ruled_70 rfl ?_
          obtain ⟨v38, e39, e25⟩ := mx_bind e25
          refine mG_iaload (pc := 72) C dX10_ruled_72 e39 ?_
          refine mG_isn (ls' := [some (.ref p0), some (.int (s1.1 + v12)), some (.int (mxMax s1.2.1 v16)), some (.int v38), some (.int s1.2.2.2)]) (pc := 73) C dX10_ruled_73 rfl rfl rfl ?_
          exact mG_sub (mxLe_s (mxLe_s (mxLe_s (mxLe_s (mxLe_s mxLe_z))))) (J23 _ (Option.some.inj e25))
theorem dX10_weighted_0 : decode cX10_weighted 0 = .ok (.aload_n 0, 1) := by decide +kernel
theorem dX10_weighted_1 : decode cX10_weighted 1 = .ok (.iload_n 1, 1) := by decide +kernel
theorem dX10_weighted_2 : decode cX10_weighted 2 = .ok (.iload_n 2, 1) := by decide +kernel
theorem dX10_weighted_3 : decode cX10_weighted 3 = .ok (.invokevirtual 73, 3) := by decide +kernel
theorem dX10_weighted_6 : decode cX10_weighted 6 = .ok (.ifCond .eq 22, 3) := by decide +kernel
theorem dX10_weighted_9 : decode cX10_weighted 9 = .ok (.aload_n 0, 1) := by decide +kernel
theorem dX10_weighted_10 : decode cX10_weighted 10 = .ok (.getfield 9, 3) := by decide +kernel
theorem dX10_weighted_13 : decode cX10_weighted 13 = .ok (.bipush 100, 2) := by decide +kernel
theorem dX10_weighted_15 : decode cX10_weighted 15 = .ok (.iload_n 1, 1) := by decide +kernel
theorem dX10_weighted_16 : decode cX10_weighted 16 = .ok (.iadd, 1) := by decide +kernel
theorem dX10_weighted_17 : decode cX10_weighted 17 = .ok (.iaload, 1) := by decide +kernel
theorem dX10_weighted_18 : decode cX10_weighted 18 = .ok (.aload_n 0, 1) := by decide +kernel
theorem dX10_weighted_19 : decode cX10_weighted 19 = .ok (.iload_n 1, 1) := by decide +kernel
theorem dX10_weighted_20 : decode cX10_weighted 20 = .ok (.iload_n 2, 1) := by decide +kernel
theorem dX10_weighted_21 : decode cX10_weighted 21 = .ok (.invokevirtual 69, 3) := by decide +kernel
theorem dX10_weighted_24 : decode cX10_weighted 24 = .ok (.imul, 1) := by decide +kernel
theorem dX10_weighted_25 : decode cX10_weighted 25 = .ok (.goto 4, 3) := by decide +kernel
theorem dX10_weighted_28 : decode cX10_weighted 28 = .ok (.iconst 0, 1) := by decide +kernel
theorem dX10_weighted_29 : decode cX10_weighted 29 = .ok (.ireturn, 1) := by decide +kernel
def fX10_weighted (p0 : Nat) (p1 : Int32) (p2 : Int32) (h : mxH) : Option Int32 := Option.bind (isO h p0 10) (fun u1 => Option.bind (fX10_has p0 p1 p2 h) (fun v4 => Option.bind (α := Int32) (if v4 = 0 then some 0 else Option.bind (gR h p0 10 0) (fun r9 => Option.bind (ldI h r9 (100 + p1)) (fun v11 => Option.bind (isO h p0 10) (fun u13 => Option.bind (fX10_mark p0 p1 p2 h) (fun v16 => some (v11 * v16)))))) (fun p7' : Int32 => some p7')))
abbrev rmX10_weighted : Room := { frames := 2, cells := 0, slots := 0, locals := 44 }
set_option maxRecDepth 20000 in
theorem tX10_weighted {l : Launch} {Z : mxZ} (hl : l.stackTraces = false) {p0 : Nat} {p1 : Int32} {p2 : Int32} {h : mxH} {out : Int32} (hf : fX10_weighted p0 p1 p2 h = some out) : mxMet l Z yX10_weighted cX10_weighted 3 (some .int) rmX10_weighted [.ref p0, .int p1, .int p2] h (.inl (some (.int out))) h := by
  refine mxMet_of (by decide) hl (by simp [Value.category]) (Nat.le_of_ble_eq_true rfl) ?_
  intro X C E hX hin
  unfold fX10_weighted at hf
  refine mG_aload_n (pc := 0) C dX10_weighted_0 rfl ?_
  refine mG_iload_n (pc := 1) C dX10_weighted_1 rfl ?_
  refine mG_iload_n (pc := 2) C dX10_weighted_2 rfl ?_
  obtain ⟨u1, e2, hf⟩ := mx_bind hf
  obtain ⟨v4, e3, hf⟩ := mx_bind hf
  refine mG_cV (pc := 3) (k' := 0) (n' := 0) 10 [.int p1, .int p2] [] C hX dX10_weighted_3 lkV_X10_73 rfl rfl e2 (tX10_has hl e3) rfl rfl rfl rfl ?_
  obtain ⟨p7, e8, hf⟩ := mx_bind hf
  have J6 : ∀ p7' : Int32, p7' = p7 → mG l Z X 3 0 0 29 [none, none, none] [.int p7'] h := by
    intro p7' q17
    subst q17
    cases hf
    exact mG_ir (pc := 29) C E hX dX10_weighted_29 rfl
  refine mG_if_eq (pc := 6) (tgt := 28) C dX10_weighted_6 (by decide) (fun q5 => ?_) (fun q5 => ?_)
  · rw [if_pos q5] at e8
    refine mG_ic (pc := 28) C dX10_weighted_28 kI0 ?_
    exact mG_sub (mxLe_n (mxLe_n (mxLe_n mxLe_z))) (J6 _ (Option.some.inj e8))
  · rw [if_neg q5] at e8
    refine mG_aload_n (pc := 9) C dX10_weighted_9 rfl ?_
    obtain ⟨r9, e10, e8⟩ := mx_bind e8
    refine mG_getR (pc := 10) C dX10_weighted_10 fl_X10_9 e10 ?_
    refine mG_bp (pc := 13) C dX10_weighted_13 kB100 ?_
    refine mG_iload_n (pc := 15) C dX10_weighted_15 rfl ?_
    refine mG_iadd (pc := 16) C dX10_weighted_16 ?_
    obtain ⟨v11, e12, e8⟩ := mx_bind e8
    refine mG_iaload (pc := 17) C dX10_weighted_17 e12 ?_
    refine mG_aload_n (pc := 18) C dX10_weighted_18 rfl ?_
    refine mG_iload_n (pc := 19) C dX10_weighted_19 rfl ?_
    refine mG_iload_n (pc := 20) C dX10_weighted_20 rfl ?_
    obtain ⟨u13, e14, e8⟩ := mx_bind e8
    obtain ⟨v16, e15, e8⟩ := mx_bind e8
    refine mG_cV (pc := 21) (k' := 0) (n' := 0) 10 [.int p1, .int p2] [.int v11] C hX dX10_weighted_21 lkV_X10_69 rfl rfl e14 (tX10_mark hl e15) rfl rfl rfl rfl ?_
    refine mG_imul (pc := 24) C dX10_weighted_24 ?_
    refine mG_goto (tgt := 29) (pc := 25) C dX10_weighted_25 (by decide) ?_
    exact mG_sub (mxLe_n (mxLe_n (mxLe_n mxLe_z))) (J6 _ (Option.some.inj e8))
theorem dX10_valueOf_0 : decode cX10_valueOf 0 = .ok (.iconst 0, 1) := by decide +kernel
theorem dX10_valueOf_1 : decode cX10_valueOf 1 = .ok (.istore_n 2, 1) := by decide +kernel
theorem dX10_valueOf_2 : decode cX10_valueOf 2 = .ok (.iload_n 2, 1) := by decide +kernel
theorem dX10_valueOf_3 : decode cX10_valueOf 3 = .ok (.iconst 5, 1) := by decide +kernel
theorem dX10_valueOf_4 : decode cX10_valueOf 4 = .ok (.if_icmp .ge 21, 3) := by decide +kernel
theorem dX10_valueOf_7 : decode cX10_valueOf 7 = .ok (.aload_n 0, 1) := by decide +kernel
theorem dX10_valueOf_8 : decode cX10_valueOf 8 = .ok (.getfield 16, 3) := by decide +kernel
theorem dX10_valueOf_11 : decode cX10_valueOf 11 = .ok (.iload_n 2, 1) := by decide +kernel
theorem dX10_valueOf_12 : decode cX10_valueOf 12 = .ok (.aload_n 0, 1) := by decide +kernel
theorem dX10_valueOf_13 : decode cX10_valueOf 13 = .ok (.iload_n 2, 1) := by decide +kernel
theorem dX10_valueOf_14 : decode cX10_valueOf 14 = .ok (.iload_n 1, 1) := by decide +kernel
theorem dX10_valueOf_15 : decode cX10_valueOf 15 = .ok (.invokevirtual 89, 3) := by decide +kernel
theorem dX10_valueOf_18 : decode cX10_valueOf 18 = .ok (.iastore, 1) := by decide +kernel
theorem dX10_valueOf_19 : decode cX10_valueOf 19 = .ok (.iinc 2 1, 3) := by decide +kernel
theorem dX10_valueOf_22 : decode cX10_valueOf 22 = .ok (.goto (-20), 3) := by decide +kernel
theorem dX10_valueOf_25 : decode cX10_valueOf 25 = .ok (.aload_n 0, 1) := by decide +kernel
theorem dX10_valueOf_26 : decode cX10_valueOf 26 = .ok (.invokevirtual 92, 3) := by decide +kernel
theorem dX10_valueOf_29 : decode cX10_valueOf 29 = .ok (.ireturn, 1) := by decide +kernel
def fX10_valueOf (p0 : Nat) (p1 : Int32) (h : mxH) : Option (Int32 × mxH) := Option.bind (mxLoop (ρ := mxH) (fun s1 : (Int32 × mxH) => (if 5 ≤ s1.1 then some (Sum.inr s1.2) else Option.bind (gR s1.2 p0 10 4) (fun r10 => Option.bind (isO s1.2 p0 10) (fun u12 => Option.bind (fX10_weighted p0 s1.1 p1 s1.2) (fun v15 => Option.bind (stI s1.2 r10 s1.1 v15) (fun h16 => some (Sum.inl (s1.1 + 1, h16)))))))) mxF (0, h)) (fun r18 : mxH => Option.bind (isO r18 p0 10) (fun u19 => Option.bind (fX10_ruled p0 r18) (fun v22 => some (v22, r18))))
abbrev rmX10_valueOf : Room := { frames := 3, cells := 0, slots := 0, locals := 66 }
set_option maxRecDepth 20000 in
theorem tX10_valueOf {l : Launch} {Z : mxZ} (hl : l.stackTraces = false) {p0 : Nat} {p1 : Int32} {h : mxH} {out : (Int32 × mxH)} (hf : fX10_valueOf p0 p1 h = some out) : mxMet l Z yX10_valueOf cX10_valueOf 3 (some .int) rmX10_valueOf [.ref p0, .int p1] h (.inl (some (.int out.1))) out.2 := by
  refine mxMet_of (by decide) hl (by simp [Value.category]) (Nat.le_of_ble_eq_true rfl) ?_
  intro X C E hX hin
  unfold fX10_valueOf at hf
  refine mG_ic (pc := 0) C dX10_valueOf_0 kI0 ?_
  refine mG_isn (ls' := [some (.ref p0), some (.int p1), some (.int 0)]) (pc := 1) C dX10_valueOf_1 rfl rfl rfl ?_
  obtain ⟨r2, e3, hf⟩ := mx_bind hf
  have J4 : ∀ r18 : mxH, r18 = r2 → mG l Z X 3 0 0 25 [some (.ref p0), none, none] [] r18 := by
    intro r18 q23
    subst q23
    refine mG_aload_n (pc := 25) C dX10_valueOf_25 rfl ?_
    obtain ⟨u19, e20, hf⟩ := mx_bind hf
    obtain ⟨v22, e21, hf⟩ := mx_bind hf
    refine mG_cV (pc := 26) (k' := 0) (n' := 0) 10 [] [] C hX dX10_valueOf_26 lkV_X10_92 rfl rfl e20 (tX10_ruled hl e21) rfl rfl rfl rfl ?_
    cases hf
    exact mG_ir (pc := 29) C E hX dX10_valueOf_29 rfl
  refine mG_sub (ls' := [some (.ref p0), some (.int p1), some (.int 0)]) (mxLe_s (mxLe_s (mxLe_s mxLe_z))) (mxLoop_ind (K := fun s1 : (Int32 × mxH) => mG l Z X 3 0 0 2 [some (.ref p0), some (.int p1), some (.int s1.1)] [] s1.2) ?_ _ _ e3)
  intro s1 o7 e8 hK5 hx6
  refine mG_iload_n (pc := 2) C dX10_valueOf_2 rfl ?_
  refine mG_ic (pc := 3) C dX10_valueOf_3 kI5 ?_
  refine mG_icmp_ge (pc := 4) (tgt := 25) C dX10_valueOf_4 (by decide) (fun q9 => ?_) (fun q9 => ?_)
  · rw [if_pos q9] at e8
    exact mG_sub (mxLe_s (mxLe_n (mxLe_n mxLe_z))) (J4 _ (hx6 _ (Option.some.inj e8).symm))
  · rw [if_neg q9] at e8
    refine mG_aload_n (pc := 7) C dX10_valueOf_7 rfl ?_
    obtain ⟨r10, e11, e8⟩ := mx_bind e8
    refine mG_getR (pc := 8) C dX10_valueOf_8 fl_X10_16 e11 ?_
    refine mG_iload_n (pc := 11) C dX10_valueOf_11 rfl ?_
    refine mG_aload_n (pc := 12) C dX10_valueOf_12 rfl ?_
    refine mG_iload_n (pc := 13) C dX10_valueOf_13 rfl ?_
    refine mG_iload_n (pc := 14) C dX10_valueOf_14 rfl ?_
    obtain ⟨u12, e13, e8⟩ := mx_bind e8
    obtain ⟨v15, e14, e8⟩ := mx_bind e8
    refine mG_cV (pc := 15) (k' := 0) (n' := 0) 10 [.int s1.1, .int p1] [.int s1.1, .ref r10] C hX dX10_valueOf_15 lkV_X10_89 rfl rfl e13 (tX10_weighted hl e14) rfl rfl rfl rfl ?_
    obtain ⟨h16, e17, e8⟩ := mx_bind e8
    refine mG_iastore (pc := 18) C dX10_valueOf_18 e17 ?_
    refine mG_ii (ls' := [some (.ref p0), some (.int p1), some (.int (s1.1 + 1))]) (pc := 19) C dX10_valueOf_19 rfl (kinc1 _) rfl rfl rfl ?_
    refine mG_goto (tgt := 2) (pc := 22) C dX10_valueOf_22 (by decide) ?_
    exact mG_sub (mxLe_s (mxLe_s (mxLe_s mxLe_z))) (hK5 _ (Option.some.inj e8).symm)
theorem dX10_isRead_0 : decode cX10_isRead 0 = .ok (.aload_n 0, 1) := by decide +kernel
theorem dX10_isRead_1 : decode cX10_isRead 1 = .ok (.iload_n 1, 1) := by decide +kernel
theorem dX10_isRead_2 : decode cX10_isRead 2 = .ok (.iload_n 2, 1) := by decide +kernel
theorem dX10_isRead_3 : decode cX10_isRead 3 = .ok (.invokevirtual 73, 3) := by decide +kernel
theorem dX10_isRead_6 : decode cX10_isRead 6 = .ok (.ifCond .eq 17, 3) := by decide +kernel
theorem dX10_isRead_9 : decode cX10_isRead 9 = .ok (.aload_n 0, 1) := by decide +kernel
theorem dX10_isRead_10 : decode cX10_isRead 10 = .ok (.iload_n 1, 1) := by decide +kernel
theorem dX10_isRead_11 : decode cX10_isRead 11 = .ok (.iload_n 2, 1) := by decide +kernel
theorem dX10_isRead_12 : decode cX10_isRead 12 = .ok (.invokevirtual 86, 3) := by decide +kernel
theorem dX10_isRead_15 : decode cX10_isRead 15 = .ok (.iload_n 3, 1) := by decide +kernel
theorem dX10_isRead_16 : decode cX10_isRead 16 = .ok (.if_icmp .ge 7, 3) := by decide +kernel
theorem dX10_isRead_19 : decode cX10_isRead 19 = .ok (.iconst 1, 1) := by decide +kernel
theorem dX10_isRead_20 : decode cX10_isRead 20 = .ok (.goto 4, 3) := by decide +kernel
theorem dX10_isRead_23 : decode cX10_isRead 23 = .ok (.iconst 0, 1) := by decide +kernel
theorem dX10_isRead_24 : decode cX10_isRead 24 = .ok (.ireturn, 1) := by decide +kernel
def fX10_isRead (p0 : Nat) (p1 : Int32) (p2 : Int32) (p3 : Int32) (h : mxH) : Option Int32 := Option.bind (isO h p0 10) (fun u1 => Option.bind (fX10_has p0 p1 p2 h) (fun v4 => Option.bind (α := Int32) (if v4 = 0 then some 0 else Option.bind (isO h p0 10) (fun u9 => Option.bind (fX10_place p0 p1 p2 h) (fun v12 => (if p3 ≤ v12 then some 0 else some 1)))) (fun p7' : Int32 => Option.bind (mxZ1 p7') (fun v14 => some v14))))
abbrev rmX10_isRead : Room := { frames := 2, cells := 0, slots := 0, locals := 46 }
set_option maxRecDepth 20000 in
theorem tX10_isRead {l : Launch} {Z : mxZ} (hl : l.stackTraces = false) {p0 : Nat} {p1 : Int32} {p2 : Int32} {p3 : Int32} {h : mxH} {out : Int32} (hf : fX10_isRead p0 p1 p2 p3 h = some out) : mxMet l Z yX10_isRead cX10_isRead 4 (some .boolean) rmX10_isRead [.ref p0, .int p1, .int p2, .int p3] h (.inl (some (.int out))) h := by
  refine mxMet_of (by decide) hl (by simp [Value.category]) (Nat.le_of_ble_eq_true rfl) ?_
  intro X C E hX hin
  unfold fX10_isRead at hf
  refine mG_aload_n (pc := 0) C dX10_isRead_0 rfl ?_
  refine mG_iload_n (pc := 1) C dX10_isRead_1 rfl ?_
  refine mG_iload_n (pc := 2) C dX10_isRead_2 rfl ?_
  obtain ⟨u1, e2, hf⟩ := mx_bind hf
  obtain ⟨v4, e3, hf⟩ := mx_bind hf
  refine mG_cV (pc := 3) (k' := 0) (n' := 0) 10 [.int p1, .int p2] [] C hX dX10_isRead_3 lkV_X10_73 rfl rfl e2 (tX10_has hl e3) rfl rfl rfl rfl ?_
  obtain ⟨p7, e8, hf⟩ := mx_bind hf
  have J6 : ∀ p7' : Int32, p7' = p7 → mG l Z X 4 0 0 24 [none, none, none, none] [.int p7'] h := by
    intro p7' q16
    subst q16
    obtain ⟨v14, e15, hf⟩ := mx_bind hf
    cases hf
    exact mG_zr (pc := 24) C e15 E hX dX10_isRead_24 rfl
  refine mG_if_eq (pc := 6) (tgt := 23) C dX10_isRead_6 (by decide) (fun q5 => ?_) (fun q5 => ?_)
  · rw [if_pos q5] at e8
    refine mG_ic (pc := 23) C dX10_isRead_23 kI0 ?_
    exact mG_sub (mxLe_n (mxLe_n (mxLe_n (mxLe_n mxLe_z)))) (J6 _ (Option.some.inj e8))
  · rw [if_neg q5] at e8
    refine mG_aload_n (pc := 9) C dX10_isRead_9 rfl ?_
    refine mG_iload_n (pc := 10) C dX10_isRead_10 rfl ?_
    refine mG_iload_n (pc := 11) C dX10_isRead_11 rfl ?_
    obtain ⟨u9, e10, e8⟩ := mx_bind e8
    obtain ⟨v12, e11, e8⟩ := mx_bind e8
    refine mG_cV (pc := 12) (k' := 0) (n' := 0) 10 [.int p1, .int p2] [] C hX dX10_isRead_12 lkV_X10_86 rfl rfl e10 (tX10_place hl e11) rfl rfl rfl rfl ?_
    refine mG_iload_n (pc := 15) C dX10_isRead_15 rfl ?_
    refine mG_icmp_ge (pc := 16) (tgt := 23) C dX10_isRead_16 (by decide) (fun q13 => ?_) (fun q13 => ?_)
    · rw [if_pos q13] at e8
      refine mG_ic (pc := 23) C dX10_isRead_23 kI0 ?_
      exact mG_sub (mxLe_n (mxLe_n (mxLe_n (mxLe_n mxLe_z)))) (J6 _ (Option.some.inj e8))
    · rw [if_neg q13] at e8
      refine mG_ic (pc := 19) C dX10_isRead_19 kI1 ?_
      refine mG_goto (tgt := 24) (pc := 20) C dX10_isRead_20 (by decide) ?_
      exact mG_sub (mxLe_n (mxLe_n (mxLe_n (mxLe_n mxLe_z)))) (J6 _ (Option.some.inj e8))
theorem dX10_isReadAt_0 : decode cX10_isReadAt 0 = .ok (.iconst 0, 1) := by decide +kernel
theorem dX10_isReadAt_1 : decode cX10_isReadAt 1 = .ok (.istore_n 3, 1) := by decide +kernel
theorem dX10_isReadAt_2 : decode cX10_isReadAt 2 = .ok (.iconst 0, 1) := by decide +kernel
theorem dX10_isReadAt_3 : decode cX10_isReadAt 3 = .ok (.istore 4, 2) := by decide +kernel
theorem dX10_isReadAt_5 : decode cX10_isReadAt 5 = .ok (.iload 4, 2) := by decide +kernel
theorem dX10_isReadAt_7 : decode cX10_isReadAt 7 = .ok (.iconst 5, 1) := by decide +kernel
theorem dX10_isReadAt_8 : decode cX10_isReadAt 8 = .ok (.if_icmp .ge 30, 3) := by decide +kernel
theorem dX10_isReadAt_11 : decode cX10_isReadAt 11 = .ok (.iload_n 3, 1) := by decide +kernel
theorem dX10_isReadAt_12 : decode cX10_isReadAt 12 = .ok (.ifCond .ne 14, 3) := by decide +kernel
theorem dX10_isReadAt_15 : decode cX10_isReadAt 15 = .ok (.aload_n 0, 1) := by decide +kernel
theorem dX10_isReadAt_16 : decode cX10_isReadAt 16 = .ok (.iload 4, 2) := by decide +kernel
theorem dX10_isReadAt_18 : decode cX10_isReadAt 18 = .ok (.iload_n 1, 1) := by decide +kernel
theorem dX10_isReadAt_19 : decode cX10_isReadAt 19 = .ok (.iload_n 2, 1) := by decide +kernel
theorem dX10_isReadAt_20 : decode cX10_isReadAt 20 = .ok (.invokevirtual 96, 3) := by decide +kernel
theorem dX10_isReadAt_23 : decode cX10_isReadAt 23 = .ok (.ifCond .eq 7, 3) := by decide +kernel
theorem dX10_isReadAt_26 : decode cX10_isReadAt 26 = .ok (.iconst 1, 1) := by decide +kernel
theorem dX10_isReadAt_27 : decode cX10_isReadAt 27 = .ok (.goto 4, 3) := by decide +kernel
theorem dX10_isReadAt_30 : decode cX10_isReadAt 30 = .ok (.iconst 0, 1) := by decide +kernel
theorem dX10_isReadAt_31 : decode cX10_isReadAt 31 = .ok (.istore_n 3, 1) := by decide +kernel
theorem dX10_isReadAt_32 : decode cX10_isReadAt 32 = .ok (.iinc 4 1, 3) := by decide +kernel
theorem dX10_isReadAt_35 : decode cX10_isReadAt 35 = .ok (.goto (-30), 3) := by decide +kernel
theorem dX10_isReadAt_38 : decode cX10_isReadAt 38 = .ok (.iload_n 3, 1) := by decide +kernel
theorem dX10_isReadAt_39 : decode cX10_isReadAt 39 = .ok (.ireturn, 1) := by decide +kernel
def fX10_isReadAt (p0 : Nat) (p1 : Int32) (p2 : Int32) (h : mxH) : Option Int32 := Option.bind (mxLoop (ρ := Int32) (fun s1 : (Int32 × Int32) => (if 5 ≤ s1.2 then some (Sum.inr s1.1) else Option.bind (α := Int32) (if s1.1 = 0 then Option.bind (isO h p0 10) (fun u14 => Option.bind (fX10_isRead p0 s1.2 p1 p2 h) (fun v17 => (if v17 = 0 then some 0 else some 1))) else some 1) (fun p12' : Int32 => some (Sum.inl (p12', s1.2 + 1))))) mxF (0, 0)) (fun r20 : Int32 => Option.bind (mxZ1 r20) (fun v21 => some v21))
abbrev rmX10_isReadAt : Room := { frames := 3, cells := 0, slots := 0, locals := 69 }
set_option maxRecDepth 20000 in
theorem tX10_isReadAt {l : Launch} {Z : mxZ} (hl : l.stackTraces = false) {p0 : Nat} {p1 : Int32} {p2 : Int32} {h : mxH} {out : Int32} (hf : fX10_isReadAt p0 p1 p2 h = some out) : mxMet l Z yX10_isReadAt cX10_isReadAt 5 (some .boolean) rmX10_isReadAt [.ref p0, .int p1, .int p2] h (.inl (some (.int out))) h := by
  refine mxMet_of (by decide) hl (by simp [Value.category]) (Nat.le_of_ble_eq_true rfl) ?_
  intro X C E hX hin
  unfold fX10_isReadAt at hf
  refine mG_ic (pc := 0) C dX10_isReadAt_0 kI0 ?_
  refine mG_isn (ls' := [some (.ref p0), some (.int p1), some (.int p2), some (.int 0), none]) (pc := 1) C dX10_isReadAt_1 rfl rfl rfl ?_
  refine mG_ic (pc := 2) C dX10_isReadAt_2 kI0 ?_
  refine mG_is (ls' := [some (.ref p0), some (.int p1), some (.int p2), some (.int 0), some (.int 0)]) (pc := 3) C dX10_isReadAt_3 rfl rfl rfl ?_
  obtain ⟨r2, e3, hf⟩ := mx_bind hf
  have J4 : ∀ r20 : Int32, r20 = r2 → mG l Z X 5 0 0 38 [none, none, none, some (.int r20), none] [] h := by
    intro r20 q23
    subst q23
    refine mG_iload_n (pc := 38) C dX10_isReadAt_38 rfl ?_
    obtain ⟨v21, e22, hf⟩ := mx_bind hf
    cases hf
    exact mG_zr (pc := 39) C e22 E hX dX10_isReadAt_39 rfl
  refine mG_sub (ls' := [some (.ref p0), some (.int p1), some (.int p2), some (.int 0), some (.int 0)]) (mxLe_s (mxLe_s (mxLe_s (mxLe_s (mxLe_s mxLe_z))))) (mxLoop_ind (K := fun s1 : (Int32 × Int32) => mG l Z X 5 0 0 5 [some (.ref p0), some (.int p1), some (.int p2), some (.int s1.1), some (.int s1.2)] [] h) ?_ _ _ e3)
  intro s1 o7 e8 hK5 hx6
  refine mG_iload (pc := 5) C dX10_isReadAt_5 rfl ?_
  refine mG_ic (pc := 7) C dX10_isReadAt_7 kI5 ?_
  refine mG_icmp_ge (pc := 8) (tgt := 38) C dX10_isReadAt_8 (by decide) (fun q9 => ?_) (fun q9 => ?_)
  · rw [if_pos q9] at e8
    exact mG_sub (mxLe_n (mxLe_n (mxLe_n (mxLe_s (mxLe_n mxLe_z))))) (J4 _ (hx6 _ (Option.some.inj e8).symm))
  · rw [if_neg q9] at e8
    refine mG_iload_n (pc := 11) C dX10_isReadAt_11 rfl ?_
    obtain ⟨p12, e13, e8⟩ := mx_bind e8
    have J11 : ∀ p12' : Int32, p12' = p12 → mG l Z X 5 0 0 31 [some (.ref p0), some (.int p1), some (.int p2), none, some (.int s1.2)] [.int p12'] h := by
      intro p12' q19
      subst q19
      refine mG_isn (ls' := [some (.ref p0), some (.int p1), some (.int p2), some (.int p12'), some (.int s1.2)]) (pc := 31) C dX10_isReadAt_31 rfl rfl rfl ?_
      refine mG_ii (ls' := [some (.ref p0), some (.int p1), some (.int p2), some (.int p12'), some (.int (s1.2 + 1))]) (pc := 32) C dX10_isReadAt_32 rfl (kinc1 _) rfl rfl rfl ?_
      refine mG_goto (tgt := 5) (pc := 35) C dX10_isReadAt_35 (by decide) ?_
      exact mG_sub (mxLe_s (mxLe_s (mxLe_s (mxLe_s (mxLe_s mxLe_z))))) (hK5 _ (Option.some.inj e8).symm)
    refine mG_if_ne (pc := 12) (tgt := 26) C dX10_isReadAt_12 (by decide) (fun q10 => ?_) (fun q10 => ?_)
    · rw [if_neg q10] at e13
      refine mG_ic (pc := 26) C dX10_isReadAt_26 kI1 ?_
      refine mG_goto (tgt := 31) (pc := 27) C dX10_isReadAt_27 (by decide) ?_
      exact mG_sub (mxLe_s (mxLe_s (mxLe_s (mxLe_n (mxLe_s mxLe_z))))) (J11 _ (Option.some.inj e13))
    · rw [if_pos q10] at e13
      refine mG_aload_n (pc := 15) C dX10_isReadAt_15 rfl ?_
      refine mG_iload (pc := 16) C dX10_isReadAt_16 rfl ?_
      refine mG_iload_n (pc := 18) C dX10_isReadAt_18 rfl ?_
      refine mG_iload_n (pc := 19) C dX10_isReadAt_19 rfl ?_
      obtain ⟨u14, e15, e13⟩ := mx_bind e13
      obtain ⟨v17, e16, e13⟩ := mx_bind e13
      refine mG_cV (pc := 20) (k' := 0) (n' := 0) 10 [.int s1.2, .int p1, .int p2] [] C hX dX10_isReadAt_20 lkV_X10_96 rfl rfl e15 (tX10_isRead hl e16) rfl rfl rfl rfl ?_
      refine mG_if_eq (pc := 23) (tgt := 30) C dX10_isReadAt_23 (by decide) (fun q18 => ?_) (fun q18 => ?_)
      · rw [if_pos q18] at e13
        refine mG_ic (pc := 30) C dX10_isReadAt_30 kI0 ?_
        exact mG_sub (mxLe_s (mxLe_s (mxLe_s (mxLe_n (mxLe_s mxLe_z))))) (J11 _ (Option.some.inj e13))
      · rw [if_neg q18] at e13
        refine mG_ic (pc := 26) C dX10_isReadAt_26 kI1 ?_
        refine mG_goto (tgt := 31) (pc := 27) C dX10_isReadAt_27 (by decide) ?_
        exact mG_sub (mxLe_s (mxLe_s (mxLe_s (mxLe_n (mxLe_s mxLe_z))))) (J11 _ (Option.some.inj e13))
theorem dX10_lastMark_0 : decode cX10_lastMark 0 = .ok (.iload_n 2, 1) := by decide +kernel
theorem dX10_lastMark_1 : decode cX10_lastMark 1 = .ok (.aload_n 0, 1) := by decide +kernel
theorem dX10_lastMark_2 : decode cX10_lastMark 2 = .ok (.iload_n 1, 1) := by decide +kernel
theorem dX10_lastMark_3 : decode cX10_lastMark 3 = .ok (.invokevirtual 77, 3) := by decide +kernel
theorem dX10_lastMark_6 : decode cX10_lastMark 6 = .ok (.if_icmp .le 7, 3) := by decide +kernel
theorem dX10_lastMark_9 : decode cX10_lastMark 9 = .ok (.iconst 0, 1) := by decide +kernel
theorem dX10_lastMark_10 : decode cX10_lastMark 10 = .ok (.goto 16, 3) := by decide +kernel
theorem dX10_lastMark_13 : decode cX10_lastMark 13 = .ok (.aload_n 0, 1) := by decide +kernel
theorem dX10_lastMark_14 : decode cX10_lastMark 14 = .ok (.iload_n 1, 1) := by decide +kernel
theorem dX10_lastMark_15 : decode cX10_lastMark 15 = .ok (.aload_n 0, 1) := by decide +kernel
theorem dX10_lastMark_16 : decode cX10_lastMark 16 = .ok (.iload_n 1, 1) := by decide +kernel
theorem dX10_lastMark_17 : decode cX10_lastMark 17 = .ok (.iload_n 2, 1) := by decide +kernel
theorem dX10_lastMark_18 : decode cX10_lastMark 18 = .ok (.iconst 1, 1) := by decide +kernel
theorem dX10_lastMark_19 : decode cX10_lastMark 19 = .ok (.isub, 1) := by decide +kernel
theorem dX10_lastMark_20 : decode cX10_lastMark 20 = .ok (.invokevirtual 99, 3) := by decide +kernel
theorem dX10_lastMark_23 : decode cX10_lastMark 23 = .ok (.invokevirtual 89, 3) := by decide +kernel
theorem dX10_lastMark_26 : decode cX10_lastMark 26 = .ok (.ireturn, 1) := by decide +kernel
def fX10_lastMark (p0 : Nat) (p1 : Int32) (p2 : Int32) (h : mxH) : Option Int32 := Option.bind (isO h p0 10) (fun u1 => Option.bind (fX10_items p0 p1 h) (fun v4 => Option.bind (α := Int32) (if p2 ≤ v4 then Option.bind (isO h p0 10) (fun u9 => Option.bind (fX10_thingIn p0 p1 (p2 - 1) h) (fun v12 => Option.bind (isO h p0 10) (fun u13 => Option.bind (fX10_weighted p0 p1 v12 h) (fun v16 => some v16)))) else some 0) (fun p7' : Int32 => some p7')))
abbrev rmX10_lastMark : Room := { frames := 3, cells := 0, slots := 0, locals := 69 }
set_option maxRecDepth 20000 in
theorem tX10_lastMark {l : Launch} {Z : mxZ} (hl : l.stackTraces = false) {p0 : Nat} {p1 : Int32} {p2 : Int32} {h : mxH} {out : Int32} (hf : fX10_lastMark p0 p1 p2 h = some out) : mxMet l Z yX10_lastMark cX10_lastMark 3 (some .int) rmX10_lastMark [.ref p0, .int p1, .int p2] h (.inl (some (.int out))) h := by
  refine mxMet_of (by decide) hl (by simp [Value.category]) (Nat.le_of_ble_eq_true rfl) ?_
  intro X C E hX hin
  unfold fX10_lastMark at hf
  refine mG_iload_n (pc := 0) C dX10_lastMark_0 rfl ?_
  refine mG_aload_n (pc := 1) C dX10_lastMark_1 rfl ?_
  refine mG_iload_n (pc := 2) C dX10_lastMark_2 rfl ?_
  obtain ⟨u1, e2, hf⟩ := mx_bind hf
  obtain ⟨v4, e3, hf⟩ := mx_bind hf
  refine mG_cV (pc := 3) (k' := 0) (n' := 0) 10 [.int p1] [.int p2] C hX dX10_lastMark_3 lkV_X10_77 rfl rfl e2 (tX10_items hl e3) rfl rfl rfl rfl ?_
  obtain ⟨p7, e8, hf⟩ := mx_bind hf
  have J6 : ∀ p7' : Int32, p7' = p7 → mG l Z X 3 0 0 26 [none, none, none] [.int p7'] h := by
    intro p7' q17
    subst q17
    cases hf
    exact mG_ir (pc := 26) C E hX dX10_lastMark_26 rfl
  refine mG_icmp_le (pc := 6) (tgt := 13) C dX10_lastMark_6 (by decide) (fun q5 => ?_) (fun q5 => ?_)
  · rw [if_pos q5] at e8
    refine mG_aload_n (pc := 13) C dX10_lastMark_13 rfl ?_
    refine mG_iload_n (pc := 14) C dX10_lastMark_14 rfl ?_
    refine mG_aload_n (pc := 15) C dX10_lastMark_15 rfl ?_
    refine mG_iload_n (pc := 16) C dX10_lastMark_16 rfl ?_
    refine mG_iload_n (pc := 17) C dX10_lastMark_17 rfl ?_
    refine mG_ic (pc := 18) C dX10_lastMark_18 kI1 ?_
    refine mG_isub (pc := 19) C dX10_lastMark_19 ?_
    obtain ⟨u9, e10, e8⟩ := mx_bind e8
    obtain ⟨v12, e11, e8⟩ := mx_bind e8
    refine mG_cV (pc := 20) (k' := 0) (n' := 0) 10 [.int p1, .int (p2 - 1)] [.int p1, .ref p0] C hX dX10_lastMark_20 lkV_X10_99 rfl rfl e10 (tX10_thingIn hl e11) rfl rfl rfl rfl ?_
    obtain ⟨u13, e14, e8⟩ := mx_bind e8
    obtain ⟨v16, e15, e8⟩ := mx_bind e8
    refine mG_cV (pc := 23) (k' := 0) (n' := 0) 10 [.int p1, .int v12] [] C hX dX10_lastMark_23 lkV_X10_89 rfl rfl e14 (tX10_weighted hl e15) rfl rfl rfl rfl ?_
    exact mG_sub (mxLe_n (mxLe_n (mxLe_n mxLe_z))) (J6 _ (Option.some.inj e8))
  · rw [if_neg q5] at e8
    refine mG_ic (pc := 9) C dX10_lastMark_9 kI0 ?_
    refine mG_goto (tgt := 26) (pc := 10) C dX10_lastMark_10 (by decide) ?_
    exact mG_sub (mxLe_n (mxLe_n (mxLe_n mxLe_z))) (J6 _ (Option.some.inj e8))
theorem dX10_limitAt_0 : decode cX10_limitAt 0 = .ok (.iconst 0, 1) := by decide +kernel
theorem dX10_limitAt_1 : decode cX10_limitAt 1 = .ok (.istore_n 2, 1) := by decide +kernel
theorem dX10_limitAt_2 : decode cX10_limitAt 2 = .ok (.iload_n 2, 1) := by decide +kernel
theorem dX10_limitAt_3 : decode cX10_limitAt 3 = .ok (.iconst 5, 1) := by decide +kernel
theorem dX10_limitAt_4 : decode cX10_limitAt 4 = .ok (.if_icmp .ge 21, 3) := by decide +kernel
theorem dX10_limitAt_7 : decode cX10_limitAt 7 = .ok (.aload_n 0, 1) := by decide +kernel
theorem dX10_limitAt_8 : decode cX10_limitAt 8 = .ok (.getfield 16, 3) := by decide +kernel
theorem dX10_limitAt_11 : decode cX10_limitAt 11 = .ok (.iload_n 2, 1) := by decide +kernel
theorem dX10_limitAt_12 : decode cX10_limitAt 12 = .ok (.aload_n 0, 1) := by decide +kernel
theorem dX10_limitAt_13 : decode cX10_limitAt 13 = .ok (.iload_n 2, 1) := by decide +kernel
theorem dX10_limitAt_14 : decode cX10_limitAt 14 = .ok (.iload_n 1, 1) := by decide +kernel
theorem dX10_limitAt_15 : decode cX10_limitAt 15 = .ok (.invokevirtual 102, 3) := by decide +kernel
theorem dX10_limitAt_18 : decode cX10_limitAt 18 = .ok (.iastore, 1) := by decide +kernel
theorem dX10_limitAt_19 : decode cX10_limitAt 19 = .ok (.iinc 2 1, 3) := by decide +kernel
theorem dX10_limitAt_22 : decode cX10_limitAt 22 = .ok (.goto (-20), 3) := by decide +kernel
theorem dX10_limitAt_25 : decode cX10_limitAt 25 = .ok (.aload_n 0, 1) := by decide +kernel
theorem dX10_limitAt_26 : decode cX10_limitAt 26 = .ok (.invokevirtual 92, 3) := by decide +kernel
theorem dX10_limitAt_29 : decode cX10_limitAt 29 = .ok (.ireturn, 1) := by decide +kernel
def fX10_limitAt (p0 : Nat) (p1 : Int32) (h : mxH) : Option (Int32 × mxH) := Option.bind (mxLoop (ρ := mxH) (fun s1 : (Int32 × mxH) => (if 5 ≤ s1.1 then some (Sum.inr s1.2) else Option.bind (gR s1.2 p0 10 4) (fun r10 => Option.bind (isO s1.2 p0 10) (fun u12 => Option.bind (fX10_lastMark p0 s1.1 p1 s1.2) (fun v15 => Option.bind (stI s1.2 r10 s1.1 v15) (fun h16 => some (Sum.inl (s1.1 + 1, h16)))))))) mxF (0, h)) (fun r18 : mxH => Option.bind (isO r18 p0 10) (fun u19 => Option.bind (fX10_ruled p0 r18) (fun v22 => some (v22, r18))))
abbrev rmX10_limitAt : Room := { frames := 4, cells := 0, slots := 0, locals := 91 }
set_option maxRecDepth 20000 in
theorem tX10_limitAt {l : Launch} {Z : mxZ} (hl : l.stackTraces = false) {p0 : Nat} {p1 : Int32} {h : mxH} {out : (Int32 × mxH)} (hf : fX10_limitAt p0 p1 h = some out) : mxMet l Z yX10_limitAt cX10_limitAt 3 (some .int) rmX10_limitAt [.ref p0, .int p1] h (.inl (some (.int out.1))) out.2 := by
  refine mxMet_of (by decide) hl (by simp [Value.category]) (Nat.le_of_ble_eq_true rfl) ?_
  intro X C E hX hin
  unfold fX10_limitAt at hf
  refine mG_ic (pc := 0) C dX10_limitAt_0 kI0 ?_
  refine mG_isn (ls' := [some (.ref p0), some (.int p1), some (.int 0)]) (pc := 1) C dX10_limitAt_1 rfl rfl rfl ?_
  obtain ⟨r2, e3, hf⟩ := mx_bind hf
  have J4 : ∀ r18 : mxH, r18 = r2 → mG l Z X 3 0 0 25 [some (.ref p0), none, none] [] r18 := by
    intro r18 q23
    subst q23
    refine mG_aload_n (pc := 25) C dX10_limitAt_25 rfl ?_
    obtain ⟨u19, e20, hf⟩ := mx_bind hf
    obtain ⟨v22, e21, hf⟩ := mx_bind hf
    refine mG_cV (pc := 26) (k' := 0) (n' := 0) 10 [] [] C hX dX10_limitAt_26 lkV_X10_92 rfl rfl e20 (tX10_ruled hl e21) rfl rfl rfl rfl ?_
    cases hf
    exact mG_ir (pc := 29) C E hX dX10_limitAt_29 rfl
  refine mG_sub (ls' := [some (.ref p0), some (.int p1), some (.int 0)]) (mxLe_s (mxLe_s (mxLe_s mxLe_z))) (mxLoop_ind (K := fun s1 : (Int32 × mxH) => mG l Z X 3 0 0 2 [some (.ref p0), some (.int p1), some (.int s1.1)] [] s1.2) ?_ _ _ e3)
  intro s1 o7 e8 hK5 hx6
  refine mG_iload_n (pc := 2) C dX10_limitAt_2 rfl ?_
  refine mG_ic (pc := 3) C dX10_limitAt_3 kI5 ?_
  refine mG_icmp_ge (pc := 4) (tgt := 25) C dX10_limitAt_4 (by decide) (fun q9 => ?_) (fun q9 => ?_)
  · rw [if_pos q9] at e8
    exact mG_sub (mxLe_s (mxLe_n (mxLe_n mxLe_z))) (J4 _ (hx6 _ (Option.some.inj e8).symm))
  · rw [if_neg q9] at e8
    refine mG_aload_n (pc := 7) C dX10_limitAt_7 rfl ?_
    obtain ⟨r10, e11, e8⟩ := mx_bind e8
    refine mG_getR (pc := 8) C dX10_limitAt_8 fl_X10_16 e11 ?_
    refine mG_iload_n (pc := 11) C dX10_limitAt_11 rfl ?_
    refine mG_aload_n (pc := 12) C dX10_limitAt_12 rfl ?_
    refine mG_iload_n (pc := 13) C dX10_limitAt_13 rfl ?_
    refine mG_iload_n (pc := 14) C dX10_limitAt_14 rfl ?_
    obtain ⟨u12, e13, e8⟩ := mx_bind e8
    obtain ⟨v15, e14, e8⟩ := mx_bind e8
    refine mG_cV (pc := 15) (k' := 0) (n' := 0) 10 [.int s1.1, .int p1] [.int s1.1, .ref r10] C hX dX10_limitAt_15 lkV_X10_102 rfl rfl e13 (tX10_lastMark hl e14) rfl rfl rfl rfl ?_
    obtain ⟨h16, e17, e8⟩ := mx_bind e8
    refine mG_iastore (pc := 18) C dX10_limitAt_18 e17 ?_
    refine mG_ii (ls' := [some (.ref p0), some (.int p1), some (.int (s1.1 + 1))]) (pc := 19) C dX10_limitAt_19 rfl (kinc1 _) rfl rfl rfl ?_
    refine mG_goto (tgt := 2) (pc := 22) C dX10_limitAt_22 (by decide) ?_
    exact mG_sub (mxLe_s (mxLe_s (mxLe_s mxLe_z))) (hK5 _ (Option.some.inj e8).symm)
theorem dX10_lowerAt_0 : decode cX10_lowerAt 0 = .ok (.iconst 0, 1) := by decide +kernel
theorem dX10_lowerAt_1 : decode cX10_lowerAt 1 = .ok (.istore_n 3, 1) := by decide +kernel
theorem dX10_lowerAt_2 : decode cX10_lowerAt 2 = .ok (.iload_n 3, 1) := by decide +kernel
theorem dX10_lowerAt_3 : decode cX10_lowerAt 3 = .ok (.iconst 5, 1) := by decide +kernel
theorem dX10_lowerAt_4 : decode cX10_lowerAt 4 = .ok (.if_icmp .ge 35, 3) := by decide +kernel
theorem dX10_lowerAt_7 : decode cX10_lowerAt 7 = .ok (.aload_n 0, 1) := by decide +kernel
theorem dX10_lowerAt_8 : decode cX10_lowerAt 8 = .ok (.getfield 16, 3) := by decide +kernel
theorem dX10_lowerAt_11 : decode cX10_lowerAt 11 = .ok (.iload_n 3, 1) := by decide +kernel
theorem dX10_lowerAt_12 : decode cX10_lowerAt 12 = .ok (.aload_n 0, 1) := by decide +kernel
theorem dX10_lowerAt_13 : decode cX10_lowerAt 13 = .ok (.iload_n 3, 1) := by decide +kernel
theorem dX10_lowerAt_14 : decode cX10_lowerAt 14 = .ok (.iload_n 1, 1) := by decide +kernel
theorem dX10_lowerAt_15 : decode cX10_lowerAt 15 = .ok (.iload_n 2, 1) := by decide +kernel
theorem dX10_lowerAt_16 : decode cX10_lowerAt 16 = .ok (.invokevirtual 96, 3) := by decide +kernel
theorem dX10_lowerAt_19 : decode cX10_lowerAt 19 = .ok (.ifCond .eq 12, 3) := by decide +kernel
theorem dX10_lowerAt_22 : decode cX10_lowerAt 22 = .ok (.aload_n 0, 1) := by decide +kernel
theorem dX10_lowerAt_23 : decode cX10_lowerAt 23 = .ok (.iload_n 3, 1) := by decide +kernel
theorem dX10_lowerAt_24 : decode cX10_lowerAt 24 = .ok (.iload_n 1, 1) := by decide +kernel
theorem dX10_lowerAt_25 : decode cX10_lowerAt 25 = .ok (.invokevirtual 89, 3) := by decide +kernel
theorem dX10_lowerAt_28 : decode cX10_lowerAt 28 = .ok (.goto 4, 3) := by decide +kernel
theorem dX10_lowerAt_31 : decode cX10_lowerAt 31 = .ok (.iconst 0, 1) := by decide +kernel
theorem dX10_lowerAt_32 : decode cX10_lowerAt 32 = .ok (.iastore, 1) := by decide +kernel
theorem dX10_lowerAt_33 : decode cX10_lowerAt 33 = .ok (.iinc 3 1, 3) := by decide +kernel
theorem dX10_lowerAt_36 : decode cX10_lowerAt 36 = .ok (.goto (-34), 3) := by decide +kernel
theorem dX10_lowerAt_39 : decode cX10_lowerAt 39 = .ok (.aload_n 0, 1) := by decide +kernel
theorem dX10_lowerAt_40 : decode cX10_lowerAt 40 = .ok (.invokevirtual 92, 3) := by decide +kernel
theorem dX10_lowerAt_43 : decode cX10_lowerAt 43 = .ok (.ireturn, 1) := by decide +kernel
def fX10_lowerAt (p0 : Nat) (p1 : Int32) (p2 : Int32) (h : mxH) : Option (Int32 × mxH) := Option.bind (mxLoop (ρ := mxH) (fun s1 : (Int32 × mxH) => (if 5 ≤ s1.1 then some (Sum.inr s1.2) else Option.bind (gR s1.2 p0 10 4) (fun r10 => Option.bind (isO s1.2 p0 10) (fun u12 => Option.bind (fX10_isRead p0 s1.1 p1 p2 s1.2) (fun v15 => Option.bind (α := Int32) (if v15 = 0 then some 0 else Option.bind (isO s1.2 p0 10) (fun u20 => Option.bind (fX10_weighted p0 s1.1 p1 s1.2) (fun v23 => some v23))) (fun p18' : Int32 => Option.bind (stI s1.2 r10 s1.1 p18') (fun h24 => some (Sum.inl (s1.1 + 1, h24))))))))) mxF (0, h)) (fun r27 : mxH => Option.bind (isO r27 p0 10) (fun u28 => Option.bind (fX10_ruled p0 r27) (fun v31 => some (v31, r27))))
abbrev rmX10_lowerAt : Room := { frames := 3, cells := 0, slots := 0, locals := 69 }
set_option maxRecDepth 20000 in
theorem tX10_lowerAt {l : Launch} {Z : mxZ} (hl : l.stackTraces = false) {p0 : Nat} {p1 : Int32} {p2 : Int32} {h : mxH} {out : (Int32 × mxH)} (hf : fX10_lowerAt p0 p1 p2 h = some out) : mxMet l Z yX10_lowerAt cX10_lowerAt 4 (some .int) rmX10_lowerAt [.ref p0, .int p1, .int p2] h (.inl (some (.int out.1))) out.2 := by
  refine mxMet_of (by decide) hl (by simp [Value.category]) (Nat.le_of_ble_eq_true rfl) ?_
  intro X C E hX hin
  unfold fX10_lowerAt at hf
  refine mG_ic (pc := 0) C dX10_lowerAt_0 kI0 ?_
  refine mG_isn (ls' := [some (.ref p0), some (.int p1), some (.int p2), some (.int 0)]) (pc := 1) C dX10_lowerAt_1 rfl rfl rfl ?_
  obtain ⟨r2, e3, hf⟩ := mx_bind hf
  have J4 : ∀ r27 : mxH, r27 = r2 → mG l Z X 4 0 0 39 [some (.ref p0), none, none, none] [] r27 := by
    intro r27 q32
    subst q32
    refine mG_aload_n (pc := 39) C dX10_lowerAt_39 rfl ?_
    obtain ⟨u28, e29, hf⟩ := mx_bind hf
    obtain ⟨v31, e30, hf⟩ := mx_bind hf
    refine mG_cV (pc := 40) (k' := 0) (n' := 0) 10 [] [] C hX dX10_lowerAt_40 lkV_X10_92 rfl rfl e29 (tX10_ruled hl e30) rfl rfl rfl rfl ?_
    cases hf
    exact mG_ir (pc := 43) C E hX dX10_lowerAt_43 rfl
  refine mG_sub (ls' := [some (.ref p0), some (.int p1), some (.int p2), some (.int 0)]) (mxLe_s (mxLe_s (mxLe_s (mxLe_s mxLe_z)))) (mxLoop_ind (K := fun s1 : (Int32 × mxH) => mG l Z X 4 0 0 2 [some (.ref p0), some (.int p1), some (.int p2), some (.int s1.1)] [] s1.2) ?_ _ _ e3)
  intro s1 o7 e8 hK5 hx6
  refine mG_iload_n (pc := 2) C dX10_lowerAt_2 rfl ?_
  refine mG_ic (pc := 3) C dX10_lowerAt_3 kI5 ?_
  refine mG_icmp_ge (pc := 4) (tgt := 39) C dX10_lowerAt_4 (by decide) (fun q9 => ?_) (fun q9 => ?_)
  · rw [if_pos q9] at e8
    exact mG_sub (mxLe_s (mxLe_n (mxLe_n (mxLe_n mxLe_z)))) (J4 _ (hx6 _ (Option.some.inj e8).symm))
  · rw [if_neg q9] at e8
    refine mG_aload_n (pc := 7) C dX10_lowerAt_7 rfl ?_
    obtain ⟨r10, e11, e8⟩ := mx_bind e8
    refine mG_getR (pc := 8) C dX10_lowerAt_8 fl_X10_16 e11 ?_
    refine mG_iload_n (pc := 11) C dX10_lowerAt_11 rfl ?_
    refine mG_aload_n (pc := 12) C dX10_lowerAt_12 rfl ?_
    refine mG_iload_n (pc := 13) C dX10_lowerAt_13 rfl ?_
    refine mG_iload_n (pc := 14) C dX10_lowerAt_14 rfl ?_
    refine mG_iload_n (pc := 15) C dX10_lowerAt_15 rfl ?_
    obtain ⟨u12, e13, e8⟩ := mx_bind e8
    obtain ⟨v15, e14, e8⟩ := mx_bind e8
    refine mG_cV (pc := 16) (k' := 0) (n' := 0) 10 [.int s1.1, .int p1, .int p2] [.int s1.1, .ref r10] C hX dX10_lowerAt_16 lkV_X10_96 rfl rfl e13 (tX10_isRead hl e14) rfl rfl rfl rfl ?_
    obtain ⟨p18, e19, e8⟩ := mx_bind e8
    have J17 : ∀ p18' : Int32, p18' = p18 → mG l Z X 4 0 0 32 [some (.ref p0), some (.int p1), some (.int p2), some (.int s1.1)] [.int p18', .int s1.1, .ref r10] s1.2 := by
      intro p18' q26
      subst q26
      obtain ⟨h24, e25, e8⟩ := mx_bind e8
      refine mG_iastore (pc := 32) C dX10_lowerAt_32 e25 ?_
      refine mG_ii (ls' := [some (.ref p0), some (.int p1), some (.int p2), some (.int (s1.1 + 1))]) (pc := 33) C dX10_lowerAt_33 rfl (kinc1 _) rfl rfl rfl ?_
      refine mG_goto (tgt := 2) (pc := 36) C dX10_lowerAt_36 (by decide) ?_
      exact mG_sub (mxLe_s (mxLe_s (mxLe_s (mxLe_s mxLe_z)))) (hK5 _ (Option.some.inj e8).symm)
    refine mG_if_eq (pc := 19) (tgt := 31) C dX10_lowerAt_19 (by decide) (fun q16 => ?_) (fun q16 => ?_)
    · rw [if_pos q16] at e19
      refine mG_ic (pc := 31) C dX10_lowerAt_31 kI0 ?_
      exact mG_sub (mxLe_s (mxLe_s (mxLe_s (mxLe_s mxLe_z)))) (J17 _ (Option.some.inj e19))
    · rw [if_neg q16] at e19
      refine mG_aload_n (pc := 22) C dX10_lowerAt_22 rfl ?_
      refine mG_iload_n (pc := 23) C dX10_lowerAt_23 rfl ?_
      refine mG_iload_n (pc := 24) C dX10_lowerAt_24 rfl ?_
      obtain ⟨u20, e21, e19⟩ := mx_bind e19
      obtain ⟨v23, e22, e19⟩ := mx_bind e19
      refine mG_cV (pc := 25) (k' := 0) (n' := 0) 10 [.int s1.1, .int p1] [.int s1.1, .ref r10] C hX dX10_lowerAt_25 lkV_X10_89 rfl rfl e21 (tX10_weighted hl e22) rfl rfl rfl rfl ?_
      refine mG_goto (tgt := 32) (pc := 28) C dX10_lowerAt_28 (by decide) ?_
      exact mG_sub (mxLe_s (mxLe_s (mxLe_s (mxLe_s mxLe_z)))) (J17 _ (Option.some.inj e19))
