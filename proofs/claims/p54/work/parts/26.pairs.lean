/-! printed by wip/gen/emit.py: for each method its function on the mini machine, and that the machine walks as the function says -/
theorem dX7_copyFrom_0 : decode cX7_copyFrom 0 = .ok (.aload_n 0, 1) := by decide +kernel
theorem dX7_copyFrom_1 : decode cX7_copyFrom 1 = .ok (.getfield 10, 3) := by decide +kernel
theorem dX7_copyFrom_4 : decode cX7_copyFrom 4 = .ok (.aload_n 1, 1) := by decide +kernel
theorem dX7_copyFrom_5 : decode cX7_copyFrom 5 = .ok (.getfield 10, 3) := by decide +kernel
theorem dX7_copyFrom_8 : decode cX7_copyFrom 8 = .ok (.invokevirtual 30, 3) := by decide +kernel
theorem dX7_copyFrom_11 : decode cX7_copyFrom 11 = .ok (.aload_n 0, 1) := by decide +kernel
theorem dX7_copyFrom_12 : decode cX7_copyFrom 12 = .ok (.getfield 19, 3) := by decide +kernel
theorem dX7_copyFrom_15 : decode cX7_copyFrom 15 = .ok (.aload_n 1, 1) := by decide +kernel
theorem dX7_copyFrom_16 : decode cX7_copyFrom 16 = .ok (.getfield 19, 3) := by decide +kernel
theorem dX7_copyFrom_19 : decode cX7_copyFrom 19 = .ok (.invokevirtual 34, 3) := by decide +kernel
theorem dX7_copyFrom_22 : decode cX7_copyFrom 22 = .ok (.aload_n 0, 1) := by decide +kernel
theorem dX7_copyFrom_23 : decode cX7_copyFrom 23 = .ok (.aload_n 1, 1) := by decide +kernel
theorem dX7_copyFrom_24 : decode cX7_copyFrom 24 = .ok (.getfield 23, 3) := by decide +kernel
theorem dX7_copyFrom_27 : decode cX7_copyFrom 27 = .ok (.putfield 23, 3) := by decide +kernel
theorem dX7_copyFrom_30 : decode cX7_copyFrom 30 = .ok (.aload_n 0, 1) := by decide +kernel
theorem dX7_copyFrom_31 : decode cX7_copyFrom 31 = .ok (.aload_n 1, 1) := by decide +kernel
theorem dX7_copyFrom_32 : decode cX7_copyFrom 32 = .ok (.getfield 27, 3) := by decide +kernel
theorem dX7_copyFrom_35 : decode cX7_copyFrom 35 = .ok (.putfield 27, 3) := by decide +kernel
theorem dX7_copyFrom_38 : decode cX7_copyFrom 38 = .ok (.return_, 1) := by decide +kernel
def fX7_copyFrom (p0 : Nat) (p1 : Nat) (h : mxH) : Option mxH := Option.bind (gR h p0 7 0) (fun r1 => Option.bind (gR h p1 7 0) (fun r3 => Option.bind (isO h r1 6) (fun u5 => Option.bind (fX6_copyFrom r1 r3 h) (fun o8 => Option.bind (gR o8 p0 7 1) (fun r9 => Option.bind (gR o8 p1 7 1) (fun r11 => Option.bind (isO o8 r9 2) (fun u13 => Option.bind (fX2_copyFrom r9 r11 o8) (fun o16 => Option.bind (gI o16 p1 7 2) (fun v17 => Option.bind (pI o16 p0 7 2 v17) (fun h19 => Option.bind (gI h19 p1 7 3) (fun v21 => Option.bind (pI h19 p0 7 3 v21) (fun h23 => some h23))))))))))))
abbrev rmX7_copyFrom : Room := { frames := 2, cells := 0, slots := 0, locals := 63 }
set_option maxRecDepth 20000 in
theorem tX7_copyFrom {l : Launch} {Z : mxZ} (hl : l.stackTraces = false) {p0 : Nat} {p1 : Nat} {h : mxH} {out : mxH} (hf : fX7_copyFrom p0 p1 h = some out) : mxMet l Z yX7_copyFrom cX7_copyFrom 2 (none) rmX7_copyFrom [.ref p0, .ref p1] h (.inl none) out := by
  refine mxMet_of (by decide) hl (by simp [Value.category]) (Nat.le_of_ble_eq_true rfl) ?_
  intro X C E hX hin
  unfold fX7_copyFrom at hf
  refine mG_aload_n (pc := 0) C dX7_copyFrom_0 rfl ?_
  obtain ⟨r1, e2, hf⟩ := mx_bind hf
  refine mG_getR (pc := 1) C dX7_copyFrom_1 fl_X7_10 e2 ?_
  refine mG_aload_n (pc := 4) C dX7_copyFrom_4 rfl ?_
  obtain ⟨r3, e4, hf⟩ := mx_bind hf
  refine mG_getR (pc := 5) C dX7_copyFrom_5 fl_X7_10 e4 ?_
  obtain ⟨u5, e6, hf⟩ := mx_bind hf
  obtain ⟨o8, e7, hf⟩ := mx_bind hf
  refine mG_cV (pc := 8) (k' := 0) (n' := 0) 6 [.ref r3] [] C hX dX7_copyFrom_8 lkV_X7_30 rfl rfl e6 (tX6_copyFrom hl e7) rfl rfl rfl rfl ?_
  refine mG_aload_n (pc := 11) C dX7_copyFrom_11 rfl ?_
  obtain ⟨r9, e10, hf⟩ := mx_bind hf
  refine mG_getR (pc := 12) C dX7_copyFrom_12 fl_X7_19 e10 ?_
  refine mG_aload_n (pc := 15) C dX7_copyFrom_15 rfl ?_
  obtain ⟨r11, e12, hf⟩ := mx_bind hf
  refine mG_getR (pc := 16) C dX7_copyFrom_16 fl_X7_19 e12 ?_
  obtain ⟨u13, e14, hf⟩ := mx_bind hf
  obtain ⟨o16, e15, hf⟩ := mx_bind hf
  refine mG_cV (pc := 19) (k' := 0) (n' := 0) 2 [.ref r11] [] C hX dX7_copyFrom_19 lkV_X7_34 rfl rfl e14 (tX2_copyFrom hl e15) rfl rfl rfl rfl ?_
  refine mG_aload_n (pc := 22) C dX7_copyFrom_22 rfl ?_
  refine mG_aload_n (pc := 23) C dX7_copyFrom_23 rfl ?_
  obtain ⟨v17, e18, hf⟩ := mx_bind hf
  refine mG_getI (pc := 24) C dX7_copyFrom_24 fl_X7_23 e18 ?_
  obtain ⟨h19, e20, hf⟩ := mx_bind hf
  refine mG_putI (pc := 27) C dX7_copyFrom_27 fl_X7_23 e20 ?_
  refine mG_aload_n (pc := 30) C dX7_copyFrom_30 rfl ?_
  refine mG_aload_n (pc := 31) C dX7_copyFrom_31 rfl ?_
  obtain ⟨v21, e22, hf⟩ := mx_bind hf
  refine mG_getI (pc := 32) C dX7_copyFrom_32 fl_X7_27 e22 ?_
  obtain ⟨h23, e24, hf⟩ := mx_bind hf
  refine mG_putI (pc := 35) C dX7_copyFrom_35 fl_X7_27 e24 ?_
  cases hf
  exact mG_vr (pc := 38) C E hX dX7_copyFrom_38 rfl
theorem dX0_save_0 : decode cX0_save 0 = .ok (.aload_n 0, 1) := by decide +kernel
theorem dX0_save_1 : decode cX0_save 1 = .ok (.getfield 11, 3) := by decide +kernel
theorem dX0_save_4 : decode cX0_save 4 = .ok (.bipush 7, 2) := by decide +kernel
theorem dX0_save_6 : decode cX0_save 6 = .ok (.aaload, 1) := by decide +kernel
theorem dX0_save_7 : decode cX0_save 7 = .ok (.astore_n 2, 1) := by decide +kernel
theorem dX0_save_8 : decode cX0_save 8 = .ok (.bipush 7, 2) := by decide +kernel
theorem dX0_save_10 : decode cX0_save 10 = .ok (.istore_n 3, 1) := by decide +kernel
theorem dX0_save_11 : decode cX0_save 11 = .ok (.iload_n 3, 1) := by decide +kernel
theorem dX0_save_12 : decode cX0_save 12 = .ok (.ifCond .le 23, 3) := by decide +kernel
theorem dX0_save_15 : decode cX0_save 15 = .ok (.aload_n 0, 1) := by decide +kernel
theorem dX0_save_16 : decode cX0_save 16 = .ok (.getfield 11, 3) := by decide +kernel
theorem dX0_save_19 : decode cX0_save 19 = .ok (.iload_n 3, 1) := by decide +kernel
theorem dX0_save_20 : decode cX0_save 20 = .ok (.aload_n 0, 1) := by decide +kernel
theorem dX0_save_21 : decode cX0_save 21 = .ok (.getfield 11, 3) := by decide +kernel
theorem dX0_save_24 : decode cX0_save 24 = .ok (.iload_n 3, 1) := by decide +kernel
theorem dX0_save_25 : decode cX0_save 25 = .ok (.iconst 1, 1) := by decide +kernel
theorem dX0_save_26 : decode cX0_save 26 = .ok (.isub, 1) := by decide +kernel
theorem dX0_save_27 : decode cX0_save 27 = .ok (.aaload, 1) := by decide +kernel
theorem dX0_save_28 : decode cX0_save 28 = .ok (.aastore, 1) := by decide +kernel
theorem dX0_save_29 : decode cX0_save 29 = .ok (.iinc 3 (-1), 3) := by decide +kernel
theorem dX0_save_32 : decode cX0_save 32 = .ok (.goto (-21), 3) := by decide +kernel
theorem dX0_save_35 : decode cX0_save 35 = .ok (.aload_n 0, 1) := by decide +kernel
theorem dX0_save_36 : decode cX0_save 36 = .ok (.getfield 11, 3) := by decide +kernel
theorem dX0_save_39 : decode cX0_save 39 = .ok (.iconst 0, 1) := by decide +kernel
theorem dX0_save_40 : decode cX0_save 40 = .ok (.aload_n 2, 1) := by decide +kernel
theorem dX0_save_41 : decode cX0_save 41 = .ok (.aastore, 1) := by decide +kernel
theorem dX0_save_42 : decode cX0_save 42 = .ok (.aload_n 2, 1) := by decide +kernel
theorem dX0_save_43 : decode cX0_save 43 = .ok (.ifnull 8, 3) := by decide +kernel
theorem dX0_save_46 : decode cX0_save 46 = .ok (.aload_n 2, 1) := by decide +kernel
theorem dX0_save_47 : decode cX0_save 47 = .ok (.aload_n 1, 1) := by decide +kernel
theorem dX0_save_48 : decode cX0_save 48 = .ok (.invokevirtual 22, 3) := by decide +kernel
theorem dX0_save_51 : decode cX0_save 51 = .ok (.aload_n 0, 1) := by decide +kernel
theorem dX0_save_52 : decode cX0_save 52 = .ok (.aload_n 0, 1) := by decide +kernel
theorem dX0_save_53 : decode cX0_save 53 = .ok (.getfield 17, 3) := by decide +kernel
theorem dX0_save_56 : decode cX0_save 56 = .ok (.iconst 1, 1) := by decide +kernel
theorem dX0_save_57 : decode cX0_save 57 = .ok (.iadd, 1) := by decide +kernel
theorem dX0_save_58 : decode cX0_save 58 = .ok (.bipush 8, 2) := by decide +kernel
theorem dX0_save_60 : decode cX0_save 60 = .ok (.invokestatic 26, 3) := by decide +kernel
theorem dX0_save_63 : decode cX0_save 63 = .ok (.putfield 17, 3) := by decide +kernel
theorem dX0_save_66 : decode cX0_save 66 = .ok (.return_, 1) := by decide +kernel
def fX0_save (p0 : Nat) (p1 : Nat) (h : mxH) : Option mxH := Option.bind (gR h p0 0 0) (fun r1 => Option.bind (ldR h r1 7) (fun r3 => Option.bind (mxLoop (ρ := mxH) (fun s5 : (Int32 × mxH) => (if s5.1 ≤ 0 then some (Sum.inr s5.2) else Option.bind (gR s5.2 p0 0 0) (fun r14 => Option.bind (gR s5.2 p0 0 0) (fun r16 => Option.bind (ldR s5.2 r16 (s5.1 - 1)) (fun r18 => Option.bind (stR s5.2 r14 s5.1 r18) (fun h20 => some (Sum.inl (s5.1 - 1, h20)))))))) mxF (7, h)) (fun r22 : mxH => Option.bind (gR r22 p0 0 0) (fun r23 => Option.bind (stR r22 r23 0 r3) (fun h25 => Option.bind (isO h25 r3 7) (fun u27 => Option.bind (fX7_copyFrom r3 p1 h25) (fun o30 => Option.bind (gI o30 p0 0 1) (fun v31 => Option.bind (pI o30 p0 0 1 (mxMin (v31 + 1) 8)) (fun h33 => some h33)))))))))
abbrev rmX0_save : Room := { frames := 3, cells := 0, slots := 0, locals := 84 }
set_option maxRecDepth 20000 in
theorem tX0_save {l : Launch} {Z : mxZ} (hl : l.stackTraces = false) {p0 : Nat} {p1 : Nat} {h : mxH} {out : mxH} (hf : fX0_save p0 p1 h = some out) : mxMet l Z yX0_save cX0_save 4 (none) rmX0_save [.ref p0, .ref p1] h (.inl none) out := by
  refine mxMet_of (by decide) hl (by simp [Value.category]) (Nat.le_of_ble_eq_true rfl) ?_
  intro X C E hX hin
  unfold fX0_save at hf
  refine mG_aload_n (pc := 0) C dX0_save_0 rfl ?_
  obtain ⟨r1, e2, hf⟩ := mx_bind hf
  refine mG_getR (pc := 1) C dX0_save_1 fl_X0_11 e2 ?_
  refine mG_bp (pc := 4) C dX0_save_4 kB7 ?_
  obtain ⟨r3, e4, hf⟩ := mx_bind hf
  refine mG_aaload (pc := 6) C dX0_save_6 e4 ?_
  refine mG_asn (ls' := [some (.ref p0), some (.ref p1), some (.ref r3), none]) (pc := 7) C dX0_save_7 rfl rfl rfl ?_
  refine mG_bp (pc := 8) C dX0_save_8 kB7 ?_
  refine mG_isn (ls' := [some (.ref p0), some (.ref p1), some (.ref r3), some (.int 7)]) (pc := 10) C dX0_save_10 rfl rfl rfl ?_
  obtain ⟨r6, e7, hf⟩ := mx_bind hf
  have J8 : ∀ r22 : mxH, r22 = r6 → mG l Z X 4 0 0 35 [some (.ref p0), some (.ref p1), some (.ref r3), none] [] r22 := by
    intro r22 q35
    subst q35
    refine mG_aload_n (pc := 35) C dX0_save_35 rfl ?_
    obtain ⟨r23, e24, hf⟩ := mx_bind hf
    refine mG_getR (pc := 36) C dX0_save_36 fl_X0_11 e24 ?_
    refine mG_ic (pc := 39) C dX0_save_39 kI0 ?_
    refine mG_aload_n (pc := 40) C dX0_save_40 rfl ?_
    obtain ⟨h25, e26, hf⟩ := mx_bind hf
    refine mG_aastore (pc := 41) C dX0_save_41 e26 ?_
    refine mG_aload_n (pc := 42) C dX0_save_42 rfl ?_
    refine mG_ifnull (pc := 43) C dX0_save_43 ?_
    refine mG_aload_n (pc := 46) C dX0_save_46 rfl ?_
    refine mG_aload_n (pc := 47) C dX0_save_47 rfl ?_
    obtain ⟨u27, e28, hf⟩ := mx_bind hf
    obtain ⟨o30, e29, hf⟩ := mx_bind hf
    refine mG_cV (pc := 48) (k' := 0) (n' := 0) 7 [.ref p1] [] C hX dX0_save_48 lkV_X0_22 rfl rfl e28 (tX7_copyFrom hl e29) rfl rfl rfl rfl ?_
    refine mG_aload_n (pc := 51) C dX0_save_51 rfl ?_
    refine mG_aload_n (pc := 52) C dX0_save_52 rfl ?_
    obtain ⟨v31, e32, hf⟩ := mx_bind hf
    refine mG_getI (pc := 53) C dX0_save_53 fl_X0_17 e32 ?_
    refine mG_ic (pc := 56) C dX0_save_56 kI1 ?_
    refine mG_iadd (pc := 57) C dX0_save_57 ?_
    refine mG_bp (pc := 58) C dX0_save_58 kB8 ?_
    refine mG_mn (pc := 60) C hX dX0_save_60 w639 wmin rfl rfl ?_
    obtain ⟨h33, e34, hf⟩ := mx_bind hf
    refine mG_putI (pc := 63) C dX0_save_63 fl_X0_17 e34 ?_
    cases hf
    exact mG_vr (pc := 66) C E hX dX0_save_66 rfl
  refine mG_sub (ls' := [some (.ref p0), some (.ref p1), some (.ref r3), some (.int 7)]) (mxLe_s (mxLe_s (mxLe_s (mxLe_s mxLe_z)))) (mxLoop_ind (K := fun s5 : (Int32 × mxH) => mG l Z X 4 0 0 11 [some (.ref p0), some (.ref p1), some (.ref r3), some (.int s5.1)] [] s5.2) ?_ _ _ e7)
  intro s5 o11 e12 hK9 hx10
  refine mG_iload_n (pc := 11) C dX0_save_11 rfl ?_
  refine mG_if_le (pc := 12) (tgt := 35) C dX0_save_12 (by decide) (fun q13 => ?_) (fun q13 => ?_)
  · rw [if_pos q13] at e12
    exact mG_sub (mxLe_s (mxLe_s (mxLe_s (mxLe_n mxLe_z)))) (J8 _ (hx10 _ (Option.some.inj e12).symm))
  · rw [if_neg q13] at e12
    refine mG_aload_n (pc := 15) C dX0_save_15 rfl ?_
    obtain ⟨r14, e15, e12⟩ := mx_bind e12
    refine mG_getR (pc := 16) C dX0_save_16 fl_X0_11 e15 ?_
    refine mG_iload_n (pc := 19) C dX0_save_19 rfl ?_
    refine mG_aload_n (pc := 20) C dX0_save_20 rfl ?_
    obtain ⟨r16, e17, e12⟩ := mx_bind e12
    refine mG_getR (pc := 21) C dX0_save_21 fl_X0_11 e17 ?_
    refine mG_iload_n (pc := 24) C dX0_save_24 rfl ?_
    refine mG_ic (pc := 25) C dX0_save_25 kI1 ?_
    refine mG_isub (pc := 26) C dX0_save_26 ?_
    obtain ⟨r18, e19, e12⟩ := mx_bind e12
    refine mG_aaload (pc := 27) C dX0_save_27 e19 ?_
    obtain ⟨h20, e21, e12⟩ := mx_bind e12
    refine mG_aastore (pc := 28) C dX0_save_28 e21 ?_
    refine mG_ii (ls' := [some (.ref p0), some (.ref p1), some (.ref r3), some (.int (s5.1 - 1))]) (pc := 29) C dX0_save_29 rfl (kincm1 _) rfl rfl rfl ?_
    refine mG_goto (tgt := 11) (pc := 32) C dX0_save_32 (by decide) ?_
    exact mG_sub (mxLe_s (mxLe_s (mxLe_s (mxLe_s mxLe_z)))) (hK9 _ (Option.some.inj e12).symm)
theorem dX0_restore_0 : decode cX0_restore 0 = .ok (.aload_n 0, 1) := by decide +kernel
theorem dX0_restore_1 : decode cX0_restore 1 = .ok (.getfield 11, 3) := by decide +kernel
theorem dX0_restore_4 : decode cX0_restore 4 = .ok (.iconst 0, 1) := by decide +kernel
theorem dX0_restore_5 : decode cX0_restore 5 = .ok (.aaload, 1) := by decide +kernel
theorem dX0_restore_6 : decode cX0_restore 6 = .ok (.astore_n 2, 1) := by decide +kernel
theorem dX0_restore_7 : decode cX0_restore 7 = .ok (.aload_n 0, 1) := by decide +kernel
theorem dX0_restore_8 : decode cX0_restore 8 = .ok (.getfield 17, 3) := by decide +kernel
theorem dX0_restore_11 : decode cX0_restore 11 = .ok (.ifCond .eq 7, 3) := by decide +kernel
theorem dX0_restore_14 : decode cX0_restore 14 = .ok (.aload_n 2, 1) := by decide +kernel
theorem dX0_restore_15 : decode cX0_restore 15 = .ok (.ifnonnull 5, 3) := by decide +kernel
theorem dX0_restore_18 : decode cX0_restore 18 = .ok (.iconst (-1), 1) := by decide +kernel
theorem dX0_restore_19 : decode cX0_restore 19 = .ok (.ireturn, 1) := by decide +kernel
theorem dX0_restore_20 : decode cX0_restore 20 = .ok (.aload_n 1, 1) := by decide +kernel
theorem dX0_restore_21 : decode cX0_restore 21 = .ok (.aload_n 2, 1) := by decide +kernel
theorem dX0_restore_22 : decode cX0_restore 22 = .ok (.invokevirtual 22, 3) := by decide +kernel
theorem dX0_restore_25 : decode cX0_restore 25 = .ok (.iconst 0, 1) := by decide +kernel
theorem dX0_restore_26 : decode cX0_restore 26 = .ok (.istore_n 3, 1) := by decide +kernel
theorem dX0_restore_27 : decode cX0_restore 27 = .ok (.iload_n 3, 1) := by decide +kernel
theorem dX0_restore_28 : decode cX0_restore 28 = .ok (.iconst 1, 1) := by decide +kernel
theorem dX0_restore_29 : decode cX0_restore 29 = .ok (.iadd, 1) := by decide +kernel
theorem dX0_restore_30 : decode cX0_restore 30 = .ok (.bipush 8, 2) := by decide +kernel
theorem dX0_restore_32 : decode cX0_restore 32 = .ok (.if_icmp .ge 23, 3) := by decide +kernel
theorem dX0_restore_35 : decode cX0_restore 35 = .ok (.aload_n 0, 1) := by decide +kernel
theorem dX0_restore_36 : decode cX0_restore 36 = .ok (.getfield 11, 3) := by decide +kernel
theorem dX0_restore_39 : decode cX0_restore 39 = .ok (.iload_n 3, 1) := by decide +kernel
theorem dX0_restore_40 : decode cX0_restore 40 = .ok (.aload_n 0, 1) := by decide +kernel
theorem dX0_restore_41 : decode cX0_restore 41 = .ok (.getfield 11, 3) := by decide +kernel
theorem dX0_restore_44 : decode cX0_restore 44 = .ok (.iload_n 3, 1) := by decide +kernel
theorem dX0_restore_45 : decode cX0_restore 45 = .ok (.iconst 1, 1) := by decide +kernel
theorem dX0_restore_46 : decode cX0_restore 46 = .ok (.iadd, 1) := by decide +kernel
theorem dX0_restore_47 : decode cX0_restore 47 = .ok (.aaload, 1) := by decide +kernel
theorem dX0_restore_48 : decode cX0_restore 48 = .ok (.aastore, 1) := by decide +kernel
theorem dX0_restore_49 : decode cX0_restore 49 = .ok (.iinc 3 1, 3) := by decide +kernel
theorem dX0_restore_52 : decode cX0_restore 52 = .ok (.goto (-25), 3) := by decide +kernel
theorem dX0_restore_55 : decode cX0_restore 55 = .ok (.aload_n 0, 1) := by decide +kernel
theorem dX0_restore_56 : decode cX0_restore 56 = .ok (.getfield 11, 3) := by decide +kernel
theorem dX0_restore_59 : decode cX0_restore 59 = .ok (.bipush 7, 2) := by decide +kernel
theorem dX0_restore_61 : decode cX0_restore 61 = .ok (.aload_n 2, 1) := by decide +kernel
theorem dX0_restore_62 : decode cX0_restore 62 = .ok (.aastore, 1) := by decide +kernel
theorem dX0_restore_63 : decode cX0_restore 63 = .ok (.aload_n 0, 1) := by decide +kernel
theorem dX0_restore_64 : decode cX0_restore 64 = .ok (.dup, 1) := by decide +kernel
theorem dX0_restore_65 : decode cX0_restore 65 = .ok (.getfield 17, 3) := by decide +kernel
theorem dX0_restore_68 : decode cX0_restore 68 = .ok (.iconst 1, 1) := by decide +kernel
theorem dX0_restore_69 : decode cX0_restore 69 = .ok (.isub, 1) := by decide +kernel
theorem dX0_restore_70 : decode cX0_restore 70 = .ok (.putfield 17, 3) := by decide +kernel
theorem dX0_restore_73 : decode cX0_restore 73 = .ok (.aload_n 0, 1) := by decide +kernel
theorem dX0_restore_74 : decode cX0_restore 74 = .ok (.getfield 17, 3) := by decide +kernel
theorem dX0_restore_77 : decode cX0_restore 77 = .ok (.ireturn, 1) := by decide +kernel
def fX0_restore (p0 : Nat) (p1 : Nat) (h : mxH) : Option (Int32 × mxH) := Option.bind (gR h p0 0 0) (fun r1 => Option.bind (ldR h r1 0) (fun r3 => Option.bind (gI h p0 0 1) (fun v5 => (if v5 = 0 then some ((-1), h) else Option.bind (isO h p1 7) (fun u8 => Option.bind (fX7_copyFrom p1 r3 h) (fun o11 => Option.bind (mxLoop (ρ := mxH) (fun s12 : (Int32 × mxH) => (if 8 ≤ (s12.1 + 1) then some (Sum.inr s12.2) else Option.bind (gR s12.2 p0 0 0) (fun r21 => Option.bind (gR s12.2 p0 0 0) (fun r23 => Option.bind (ldR s12.2 r23 (s12.1 + 1)) (fun r25 => Option.bind (stR s12.2 r21 s12.1 r25) (fun h27 => some (Sum.inl (s12.1 + 1, h27)))))))) mxF (0, o11)) (fun r29 : mxH => Option.bind (gR r29 p0 0 0) (fun r30 => Option.bind (stR r29 r30 7 r3) (fun h32 => Option.bind (gI h32 p0 0 1) (fun v34 => Option.bind (pI h32 p0 0 1 (v34 - 1)) (fun h36 => Option.bind (gI h36 p0 0 1) (fun v38 => some (v38, h36)))))))))))))
abbrev rmX0_restore : Room := { frames := 3, cells := 0, slots := 0, locals := 84 }
set_option maxRecDepth 20000 in
theorem tX0_restore {l : Launch} {Z : mxZ} (hl : l.stackTraces = false) {p0 : Nat} {p1 : Nat} {h : mxH} {out : (Int32 × mxH)} (hf : fX0_restore p0 p1 h = some out) : mxMet l Z yX0_restore cX0_restore 4 (some .int) rmX0_restore [.ref p0, .ref p1] h (.inl (some (.int out.1))) out.2 := by
  refine mxMet_of (by decide) hl (by simp [Value.category]) (Nat.le_of_ble_eq_true rfl) ?_
  intro X C E hX hin
  unfold fX0_restore at hf
  refine mG_aload_n (pc := 0) C dX0_restore_0 rfl ?_
  obtain ⟨r1, e2, hf⟩ := mx_bind hf
  refine mG_getR (pc := 1) C dX0_restore_1 fl_X0_11 e2 ?_
  refine mG_ic (pc := 4) C dX0_restore_4 kI0 ?_
  obtain ⟨r3, e4, hf⟩ := mx_bind hf
  refine mG_aaload (pc := 5) C dX0_restore_5 e4 ?_
  refine mG_asn (ls' := [some (.ref p0), some (.ref p1), some (.ref r3), none]) (pc := 6) C dX0_restore_6 rfl rfl rfl ?_
  refine mG_aload_n (pc := 7) C dX0_restore_7 rfl ?_
  obtain ⟨v5, e6, hf⟩ := mx_bind hf
  refine mG_getI (pc := 8) C dX0_restore_8 fl_X0_17 e6 ?_
  refine mG_if_eq (pc := 11) (tgt := 18) C dX0_restore_11 (by decide) (fun q7 => ?_) (fun q7 => ?_)
  · rw [if_pos q7] at hf
    refine mG_ic (pc := 18) C dX0_restore_18 kIm1 ?_
    cases hf
    exact mG_ir (pc := 19) C E hX dX0_restore_19 rfl
  · rw [if_neg q7] at hf
    refine mG_aload_n (pc := 14) C dX0_restore_14 rfl ?_
    refine mG_ifnonnull (tgt := 20) (pc := 15) C dX0_restore_15 (by decide) ?_
    refine mG_aload_n (pc := 20) C dX0_restore_20 rfl ?_
    refine mG_aload_n (pc := 21) C dX0_restore_21 rfl ?_
    obtain ⟨u8, e9, hf⟩ := mx_bind hf
    obtain ⟨o11, e10, hf⟩ := mx_bind hf
    refine mG_cV (pc := 22) (k' := 0) (n' := 0) 7 [.ref r3] [] C hX dX0_restore_22 lkV_X0_22 rfl rfl e9 (tX7_copyFrom hl e10) rfl rfl rfl rfl ?_
    refine mG_ic (pc := 25) C dX0_restore_25 kI0 ?_
    refine mG_isn (ls' := [some (.ref p0), some (.ref p1), some (.ref r3), some (.int 0)]) (pc := 26) C dX0_restore_26 rfl rfl rfl ?_
    obtain ⟨r13, e14, hf⟩ := mx_bind hf
    have J15 : ∀ r29 : mxH, r29 = r13 → mG l Z X 4 0 0 55 [some (.ref p0), none, some (.ref r3), none] [] r29 := by
      intro r29 q40
      subst q40
      refine mG_aload_n (pc := 55) C dX0_restore_55 rfl ?_
      obtain ⟨r30, e31, hf⟩ := mx_bind hf
      refine mG_getR (pc := 56) C dX0_restore_56 fl_X0_11 e31 ?_
      refine mG_bp (pc := 59) C dX0_restore_59 kB7 ?_
      refine mG_aload_n (pc := 61) C dX0_restore_61 rfl ?_
      obtain ⟨h32, e33, hf⟩ := mx_bind hf
      refine mG_aastore (pc := 62) C dX0_restore_62 e33 ?_
      refine mG_aload_n (pc := 63) C dX0_restore_63 rfl ?_
      refine mG_dup (pc := 64) C dX0_restore_64 rfl ?_
      obtain ⟨v34, e35, hf⟩ := mx_bind hf
      refine mG_getI (pc := 65) C dX0_restore_65 fl_X0_17 e35 ?_
      refine mG_ic (pc := 68) C dX0_restore_68 kI1 ?_
      refine mG_isub (pc := 69) C dX0_restore_69 ?_
      obtain ⟨h36, e37, hf⟩ := mx_bind hf
      refine mG_putI (pc := 70) C dX0_restore_70 fl_X0_17 e37 ?_
      refine mG_aload_n (pc := 73) C dX0_restore_73 rfl ?_
      obtain ⟨v38, e39, hf⟩ := mx_bind hf
      refine mG_getI (pc := 74) C dX0_restore_74 fl_X0_17 e39 ?_
      cases hf
      exact mG_ir (pc := 77) C E hX dX0_restore_77 rfl
    refine mG_sub (ls' := [some (.ref p0), none, some (.ref r3), some (.int 0)]) (mxLe_s (mxLe_n (mxLe_s (mxLe_s mxLe_z)))) (mxLoop_ind (K := fun s12 : (Int32 × mxH) => mG l Z X 4 0 0 27 [some (.ref p0), none, some (.ref r3), some (.int s12.1)] [] s12.2) ?_ _ _ e14)
    intro s12 o18 e19 hK16 hx17
    refine mG_iload_n (pc := 27) C dX0_restore_27 rfl ?_
    refine mG_ic (pc := 28) C dX0_restore_28 kI1 ?_
    refine mG_iadd (pc := 29) C dX0_restore_29 ?_
    refine mG_bp (pc := 30) C dX0_restore_30 kB8 ?_
    refine mG_icmp_ge (pc := 32) (tgt := 55) C dX0_restore_32 (by decide) (fun q20 => ?_) (fun q20 => ?_)
    · rw [if_pos q20] at e19
      exact mG_sub (mxLe_s (mxLe_n (mxLe_s (mxLe_n mxLe_z)))) (J15 _ (hx17 _ (Option.some.inj e19).symm))
    · rw [if_neg q20] at e19
      refine mG_aload_n (pc := 35) C dX0_restore_35 rfl ?_
      obtain ⟨r21, e22, e19⟩ := mx_bind e19
      refine mG_getR (pc := 36) C dX0_restore_36 fl_X0_11 e22 ?_
      refine mG_iload_n (pc := 39) C dX0_restore_39 rfl ?_
      refine mG_aload_n (pc := 40) C dX0_restore_40 rfl ?_
      obtain ⟨r23, e24, e19⟩ := mx_bind e19
      refine mG_getR (pc := 41) C dX0_restore_41 fl_X0_11 e24 ?_
      refine mG_iload_n (pc := 44) C dX0_restore_44 rfl ?_
      refine mG_ic (pc := 45) C dX0_restore_45 kI1 ?_
      refine mG_iadd (pc := 46) C dX0_restore_46 ?_
      obtain ⟨r25, e26, e19⟩ := mx_bind e19
      refine mG_aaload (pc := 47) C dX0_restore_47 e26 ?_
      obtain ⟨h27, e28, e19⟩ := mx_bind e19
      refine mG_aastore (pc := 48) C dX0_restore_48 e28 ?_
      refine mG_ii (ls' := [some (.ref p0), none, some (.ref r3), some (.int (s12.1 + 1))]) (pc := 49) C dX0_restore_49 rfl (kinc1 _) rfl rfl rfl ?_
      refine mG_goto (tgt := 27) (pc := 52) C dX0_restore_52 (by decide) ?_
      exact mG_sub (mxLe_s (mxLe_n (mxLe_s (mxLe_s mxLe_z)))) (hK16 _ (Option.some.inj e19).symm)
theorem dX3_countSums_0 : decode cX3_countSums 0 = .ok (.aload_n 0, 1) := by decide +kernel
theorem dX3_countSums_1 : decode cX3_countSums 1 = .ok (.getfield 9, 3) := by decide +kernel
theorem dX3_countSums_4 : decode cX3_countSums 4 = .ok (.iconst 0, 1) := by decide +kernel
theorem dX3_countSums_5 : decode cX3_countSums 5 = .ok (.invokestatic 33, 3) := by decide +kernel
theorem dX3_countSums_8 : decode cX3_countSums 8 = .ok (.iconst 0, 1) := by decide +kernel
theorem dX3_countSums_9 : decode cX3_countSums 9 = .ok (.istore 4, 2) := by decide +kernel
theorem dX3_countSums_11 : decode cX3_countSums 11 = .ok (.iload 4, 2) := by decide +kernel
theorem dX3_countSums_13 : decode cX3_countSums 13 = .ok (.aload_n 1, 1) := by decide +kernel
theorem dX3_countSums_14 : decode cX3_countSums 14 = .ok (.iload_n 2, 1) := by decide +kernel
theorem dX3_countSums_15 : decode cX3_countSums 15 = .ok (.invokevirtual 39, 3) := by decide +kernel
theorem dX3_countSums_18 : decode cX3_countSums 18 = .ok (.if_icmp .ge 71, 3) := by decide +kernel
theorem dX3_countSums_21 : decode cX3_countSums 21 = .ok (.iconst 0, 1) := by decide +kernel
theorem dX3_countSums_22 : decode cX3_countSums 22 = .ok (.istore 5, 2) := by decide +kernel
theorem dX3_countSums_24 : decode cX3_countSums 24 = .ok (.iload 5, 2) := by decide +kernel
theorem dX3_countSums_26 : decode cX3_countSums 26 = .ok (.aload_n 1, 1) := by decide +kernel
theorem dX3_countSums_27 : decode cX3_countSums 27 = .ok (.iload_n 3, 1) := by decide +kernel
theorem dX3_countSums_28 : decode cX3_countSums 28 = .ok (.invokevirtual 39, 3) := by decide +kernel
theorem dX3_countSums_31 : decode cX3_countSums 31 = .ok (.if_icmp .ge 52, 3) := by decide +kernel
theorem dX3_countSums_34 : decode cX3_countSums 34 = .ok (.aload_n 1, 1) := by decide +kernel
theorem dX3_countSums_35 : decode cX3_countSums 35 = .ok (.iload_n 2, 1) := by decide +kernel
theorem dX3_countSums_36 : decode cX3_countSums 36 = .ok (.iload 4, 2) := by decide +kernel
theorem dX3_countSums_38 : decode cX3_countSums 38 = .ok (.invokevirtual 45, 3) := by decide +kernel
theorem dX3_countSums_41 : decode cX3_countSums 41 = .ok (.aload_n 1, 1) := by decide +kernel
theorem dX3_countSums_42 : decode cX3_countSums 42 = .ok (.iload_n 3, 1) := by decide +kernel
theorem dX3_countSums_43 : decode cX3_countSums 43 = .ok (.iload 5, 2) := by decide +kernel
theorem dX3_countSums_45 : decode cX3_countSums 45 = .ok (.invokevirtual 45, 3) := by decide +kernel
theorem dX3_countSums_48 : decode cX3_countSums 48 = .ok (.iadd, 1) := by decide +kernel
theorem dX3_countSums_49 : decode cX3_countSums 49 = .ok (.istore 6, 2) := by decide +kernel
theorem dX3_countSums_51 : decode cX3_countSums 51 = .ok (.iload 6, 2) := by decide +kernel
theorem dX3_countSums_53 : decode cX3_countSums 53 = .ok (.ifCond .lt 24, 3) := by decide +kernel
theorem dX3_countSums_56 : decode cX3_countSums 56 = .ok (.iload 6, 2) := by decide +kernel
theorem dX3_countSums_58 : decode cX3_countSums 58 = .ok (.aload_n 0, 1) := by decide +kernel
theorem dX3_countSums_59 : decode cX3_countSums 59 = .ok (.getfield 9, 3) := by decide +kernel
theorem dX3_countSums_62 : decode cX3_countSums 62 = .ok (.arraylength, 1) := by decide +kernel
theorem dX3_countSums_63 : decode cX3_countSums 63 = .ok (.if_icmp .ge 14, 3) := by decide +kernel
theorem dX3_countSums_66 : decode cX3_countSums 66 = .ok (.aload_n 0, 1) := by decide +kernel
theorem dX3_countSums_67 : decode cX3_countSums 67 = .ok (.getfield 9, 3) := by decide +kernel
theorem dX3_countSums_70 : decode cX3_countSums 70 = .ok (.iload 6, 2) := by decide +kernel
theorem dX3_countSums_72 : decode cX3_countSums 72 = .ok (.dup2, 1) := by decide +kernel
theorem dX3_countSums_73 : decode cX3_countSums 73 = .ok (.iaload, 1) := by decide +kernel
theorem dX3_countSums_74 : decode cX3_countSums 74 = .ok (.iconst 1, 1) := by decide +kernel
theorem dX3_countSums_75 : decode cX3_countSums 75 = .ok (.iadd, 1) := by decide +kernel
theorem dX3_countSums_76 : decode cX3_countSums 76 = .ok (.iastore, 1) := by decide +kernel
theorem dX3_countSums_77 : decode cX3_countSums 77 = .ok (.iinc 5 1, 3) := by decide +kernel
theorem dX3_countSums_80 : decode cX3_countSums 80 = .ok (.goto (-56), 3) := by decide +kernel
theorem dX3_countSums_83 : decode cX3_countSums 83 = .ok (.iinc 4 1, 3) := by decide +kernel
theorem dX3_countSums_86 : decode cX3_countSums 86 = .ok (.goto (-75), 3) := by decide +kernel
theorem dX3_countSums_89 : decode cX3_countSums 89 = .ok (.return_, 1) := by decide +kernel
def fX3_countSums (p0 : Nat) (p1 : Nat) (p2 : Int32) (p3 : Int32) (h : mxH) : Option mxH := Option.bind (gR h p0 3 0) (fun r1 => Option.bind (fJ7_fill_53178 r1 0 h) (fun o4 => Option.bind (mxLoop (ρ := mxH) (fun s5 : (Int32 × mxH) => Option.bind (isO s5.2 p1 6) (fun u13 => Option.bind (fX6_sizeOf p1 p2 s5.2) (fun v16 => (if v16 ≤ s5.1 then some (Sum.inr s5.2) else Option.bind (mxLoop (ρ := mxH) (fun s18 : (Int32 × mxH) => Option.bind (isO s18.2 p1 6) (fun u26 => Option.bind (fX6_sizeOf p1 p3 s18.2) (fun v29 => (if v29 ≤ s18.1 then some (Sum.inr s18.2) else Option.bind (isO s18.2 p1 6) (fun u31 => Option.bind (fX6_markOn p1 p2 s5.1 s18.2) (fun v34 => Option.bind (isO s18.2 p1 6) (fun u35 => Option.bind (fX6_markOn p1 p3 s18.1 s18.2) (fun v38 => Option.bind (α := mxH) (if (v34 + v38) < 0 then some s18.2 else Option.bind (gR s18.2 p0 3 0) (fun r43 => Option.bind (lenA s18.2 r43) (fun v45 => (if v45 ≤ (v34 + v38) then some s18.2 else Option.bind (gR s18.2 p0 3 0) (fun r48 => Option.bind (ldI s18.2 r48 (v34 + v38)) (fun v50 => Option.bind (stI s18.2 r48 (v34 + v38) (v50 + 1)) (fun h52 => some h52))))))) (fun p41' : mxH => some (Sum.inl (s18.1 + 1, p41'))))))))))) mxF (0, s5.2)) (fun r55 : mxH => some (Sum.inl (s5.1 + 1, r55))))))) mxF (0, o4)) (fun r57 : mxH => some r57)))
abbrev rmX3_countSums : Room := { frames := 3, cells := 0, slots := 0, locals := 64 }
set_option maxRecDepth 20000 in
theorem tX3_countSums {l : Launch} {Z : mxZ} (hl : l.stackTraces = false) {p0 : Nat} {p1 : Nat} {p2 : Int32} {p3 : Int32} {h : mxH} {out : mxH} (hf : fX3_countSums p0 p1 p2 p3 h = some out) : mxMet l Z yX3_countSums cX3_countSums 7 (none) rmX3_countSums [.ref p0, .ref p1, .int p2, .int p3] h (.inl none) out := by
  refine mxMet_of (by decide) hl (by simp [Value.category]) (Nat.le_of_ble_eq_true rfl) ?_
  intro X C E hX hin
  unfold fX3_countSums at hf
  refine mG_aload_n (pc := 0) C dX3_countSums_0 rfl ?_
  obtain ⟨r1, e2, hf⟩ := mx_bind hf
  refine mG_getR (pc := 1) C dX3_countSums_1 fl_X3_9 e2 ?_
  refine mG_ic (pc := 4) C dX3_countSums_4 kI0 ?_
  obtain ⟨o4, e3, hf⟩ := mx_bind hf
  refine mG_cS (pc := 5) (k' := 0) (n' := 0) [.ref r1, .int 0] [] C hX dX3_countSums_5 lkS_X3_33 rfl (tJ7_fill_53178 hl e3) rfl rfl rfl rfl ?_
  refine mG_ic (pc := 8) C dX3_countSums_8 kI0 ?_
  refine mG_is (ls' := [some (.ref p0), some (.ref p1), some (.int p2), some (.int p3), some (.int 0), none, none]) (pc := 9) C dX3_countSums_9 rfl rfl rfl ?_
  obtain ⟨r6, e7, hf⟩ := mx_bind hf
  have J8 : ∀ r57 : mxH, r57 = r6 → mG l Z X 7 0 0 89 [none, none, none, none, none, none, none] [] r57 := by
    intro r57 q58
    subst q58
    cases hf
    exact mG_vr (pc := 89) C E hX dX3_countSums_89 rfl
  refine mG_sub (ls' := [some (.ref p0), some (.ref p1), some (.int p2), some (.int p3), some (.int 0), none, none]) (mxLe_s (mxLe_s (mxLe_s (mxLe_s (mxLe_s (mxLe_n (mxLe_n mxLe_z))))))) (mxLoop_ind (K := fun s5 : (Int32 × mxH) => mG l Z X 7 0 0 11 [some (.ref p0), some (.ref p1), some (.int p2), some (.int p3), some (.int s5.1), none, none] [] s5.2) ?_ _ _ e7)
  intro s5 o11 e12 hK9 hx10
  refine mG_iload (pc := 11) C dX3_countSums_11 rfl ?_
  refine mG_aload_n (pc := 13) C dX3_countSums_13 rfl ?_
  refine mG_iload_n (pc := 14) C dX3_countSums_14 rfl ?_
  obtain ⟨u13, e14, e12⟩ := mx_bind e12
  obtain ⟨v16, e15, e12⟩ := mx_bind e12
  refine mG_cV (pc := 15) (k' := 0) (n' := 0) 6 [.int p2] [.int s5.1] C hX dX3_countSums_15 lkV_X3_39 rfl rfl e14 (tX6_sizeOf hl e15) rfl rfl rfl rfl ?_
  refine mG_icmp_ge (pc := 18) (tgt := 89) C dX3_countSums_18 (by decide) (fun q17 => ?_) (fun q17 => ?_)
  · rw [if_pos q17] at e12
    exact mG_sub (mxLe_n (mxLe_n (mxLe_n (mxLe_n (mxLe_n (mxLe_n (mxLe_n mxLe_z))))))) (J8 _ (hx10 _ (Option.some.inj e12).symm))
  · rw [if_neg q17] at e12
    refine mG_ic (pc := 21) C dX3_countSums_21 kI0 ?_
    refine mG_is (ls' := [some (.ref p0), some (.ref p1), some (.int p2), some (.int p3), some (.int s5.1), some (.int 0), none]) (pc := 22) C dX3_countSums_22 rfl rfl rfl ?_
    obtain ⟨r19, e20, e12⟩ := mx_bind e12
    have J21 : ∀ r55 : mxH, r55 = r19 → mG l Z X 7 0 0 83 [some (.ref p0), some (.ref p1), some (.int p2), some (.int p3), some (.int s5.1), none, none] [] r55 := by
      intro r55 q56
      subst q56
      refine mG_ii (ls' := [some (.ref p0), some (.ref p1), some (.int p2), some (.int p3), some (.int (s5.1 + 1)), none, none]) (pc := 83) C dX3_countSums_83 rfl (kinc1 _) rfl rfl rfl ?_
      refine mG_goto (tgt := 11) (pc := 86) C dX3_countSums_86 (by decide) ?_
      exact mG_sub (mxLe_s (mxLe_s (mxLe_s (mxLe_s (mxLe_s (mxLe_n (mxLe_n mxLe_z))))))) (hK9 _ (Option.some.inj e12).symm)
    refine mG_sub (ls' := [some (.ref p0), some (.ref p1), some (.int p2), some (.int p3), some (.int s5.1), some (.int 0), none]) (mxLe_s (mxLe_s (mxLe_s (mxLe_s (mxLe_s (mxLe_s (mxLe_n mxLe_z))))))) (mxLoop_ind (K := fun s18 : (Int32 × mxH) => mG l Z X 7 0 0 24 [some (.ref p0), some (.ref p1), some (.int p2), some (.int p3), some (.int s5.1), some (.int s18.1), none] [] s18.2) ?_ _ _ e20)
    intro s18 o24 e25 hK22 hx23
    refine mG_iload (pc := 24) C dX3_countSums_24 rfl ?_
    refine mG_aload_n (pc := 26) C dX3_countSums_26 rfl ?_
    refine mG_iload_n (pc := 27) C dX3_countSums_27 rfl ?_
    obtain ⟨u26, e27, e25⟩ := mx_bind e25
    obtain ⟨v29, e28, e25⟩ := mx_bind e25
    refine mG_cV (pc := 28) (k' := 0) (n' := 0) 6 [.int p3] [.int s18.1] C hX dX3_countSums_28 lkV_X3_39 rfl rfl e27 (tX6_sizeOf hl e28) rfl rfl rfl rfl ?_
    refine mG_icmp_ge (pc := 31) (tgt := 83) C dX3_countSums_31 (by decide) (fun q30 => ?_) (fun q30 => ?_)
    · rw [if_pos q30] at e25
      exact mG_sub (mxLe_s (mxLe_s (mxLe_s (mxLe_s (mxLe_s (mxLe_n (mxLe_n mxLe_z))))))) (J21 _ (hx23 _ (Option.some.inj e25).symm))
    · rw [if_neg q30] at e25
      refine mG_aload_n (pc := 34) C dX3_countSums_34 rfl ?_
      refine mG_iload_n (pc := 35) C dX3_countSums_35 rfl ?_
      refine mG_iload (pc := 36) C dX3_countSums_36 rfl ?_
      obtain ⟨u31, e32, e25⟩ := mx_bind e25
      obtain ⟨v34, e33, e25⟩ := mx_bind e25
      refine mG_cV (pc := 38) (k' := 0) (n' := 0) 6 [.int p2, .int s5.1] [] C hX dX3_countSums_38 lkV_X3_45 rfl rfl e32 (tX6_markOn hl e33) rfl rfl rfl rfl ?_
      refine mG_aload_n (pc := 41) C dX3_countSums_41 rfl ?_
      refine mG_iload_n (pc := 42) C dX3_countSums_42 rfl ?_
      refine mG_iload (pc := 43) C dX3_countSums_43 rfl ?_
      obtain ⟨u35, e36, e25⟩ := mx_bind e25
      obtain ⟨v38, e37, e25⟩ := mx_bind e25
      refine mG_cV (pc := 45) (k' := 0) (n' := 0) 6 [.int p3, .int s18.1] [.int v34] C hX dX3_countSums_45 lkV_X3_45 rfl rfl e36 (tX6_markOn hl e37) rfl rfl rfl rfl ?_
      refine mG_iadd (pc := 48) C dX3_countSums_48 ?_
      refine mG_is (ls' := [some (.ref p0), some (.ref p1), some (.int p2), some (.int p3), some (.int s5.1), some (.int s18.1), some (.int (v34 + v38))]) (pc := 49) C dX3_countSums_49 rfl rfl rfl ?_
      refine mG_iload (pc := 51) C dX3_countSums_51 rfl ?_
      obtain ⟨p41, e42, e25⟩ := mx_bind e25
      have J40 : ∀ p41' : mxH, p41' = p41 → mG l Z X 7 0 0 77 [some (.ref p0), some (.ref p1), some (.int p2), some (.int p3), some (.int s5.1), some (.int s18.1), none] [] p41' := by
        intro p41' q54
        subst q54
        refine mG_ii (ls' := [some (.ref p0), some (.ref p1), some (.int p2), some (.int p3), some (.int s5.1), some (.int (s18.1 + 1)), none]) (pc := 77) C dX3_countSums_77 rfl (kinc1 _) rfl rfl rfl ?_
        refine mG_goto (tgt := 24) (pc := 80) C dX3_countSums_80 (by decide) ?_
        exact mG_sub (mxLe_s (mxLe_s (mxLe_s (mxLe_s (mxLe_s (mxLe_s (mxLe_n mxLe_z))))))) (hK22 _ (Option.some.inj e25).symm)
      refine mG_if_lt (pc := 53) (tgt := 77) C dX3_countSums_53 (by decide) (fun q39 => ?_) (fun q39 => ?_)
      · rw [if_pos q39] at e42
        exact mG_sub (mxLe_s (mxLe_s (mxLe_s (mxLe_s (mxLe_s (mxLe_s (mxLe_n mxLe_z))))))) (J40 _ (Option.some.inj e42))
      · rw [if_neg q39] at e42
        refine mG_iload (pc := 56) C dX3_countSums_56 rfl ?_
        refine mG_aload_n (pc := 58) C dX3_countSums_58 rfl ?_
        obtain ⟨r43, e44, e42⟩ := mx_bind e42
        refine mG_getR (pc := 59) C dX3_countSums_59 fl_X3_9 e44 ?_
        obtain ⟨v45, e46, e42⟩ := mx_bind e42
        refine mG_arraylength (pc := 62) C dX3_countSums_62 e46 ?_
        refine mG_icmp_ge (pc := 63) (tgt := 77) C dX3_countSums_63 (by decide) (fun q47 => ?_) (fun q47 => ?_)
        · rw [if_pos q47] at e42
          exact mG_sub (mxLe_s (mxLe_s (mxLe_s (mxLe_s (mxLe_s (mxLe_s (mxLe_n mxLe_z))))))) (J40 _ (Option.some.inj e42))
        · rw [if_neg q47] at e42
          refine mG_aload_n (pc := 66) C dX3_countSums_66 rfl ?_
          obtain ⟨r48, e49, e42⟩ := mx_bind e42
          refine mG_getR (pc := 67) C dX3_countSums_67 fl_X3_9 e49 ?_
          refine mG_iload (pc := 70) C dX3_countSums_70 rfl ?_
          refine mG_dup2 (pc := 72) C dX3_countSums_72 rfl rfl ?_
          obtain ⟨v50, e51, e42⟩ := mx_bind e42
          refine mG_iaload (pc := 73) C dX3_countSums_73 e51 ?_
          refine mG_ic (pc := 74) C dX3_countSums_74 kI1 ?_
          refine mG_iadd (pc := 75) C dX3_countSums_75 ?_
          obtain ⟨h52, e53, e42⟩ := mx_bind e42
          refine mG_iastore (pc := 76) C dX3_countSums_76 e53 ?_
          exact mG_sub (mxLe_s (mxLe_s (mxLe_s (mxLe_s (mxLe_s (mxLe_s (mxLe_n mxLe_z))))))) (J40 _ (Option.some.inj e42))
theorem dX3_findOfSum_0 : decode cX3_findOfSum 0 = .ok (.iconst 0, 1) := by decide +kernel
theorem dX3_findOfSum_1 : decode cX3_findOfSum 1 = .ok (.istore 5, 2) := by decide +kernel
theorem dX3_findOfSum_3 : decode cX3_findOfSum 3 = .ok (.iconst 0, 1) := by decide +kernel
theorem dX3_findOfSum_4 : decode cX3_findOfSum 4 = .ok (.istore 6, 2) := by decide +kernel
theorem dX3_findOfSum_6 : decode cX3_findOfSum 6 = .ok (.iload 6, 2) := by decide +kernel
theorem dX3_findOfSum_8 : decode cX3_findOfSum 8 = .ok (.aload_n 1, 1) := by decide +kernel
theorem dX3_findOfSum_9 : decode cX3_findOfSum 9 = .ok (.iload_n 2, 1) := by decide +kernel
theorem dX3_findOfSum_10 : decode cX3_findOfSum 10 = .ok (.invokevirtual 39, 3) := by decide +kernel
theorem dX3_findOfSum_13 : decode cX3_findOfSum 13 = .ok (.if_icmp .ge 73, 3) := by decide +kernel
theorem dX3_findOfSum_16 : decode cX3_findOfSum 16 = .ok (.iconst 0, 1) := by decide +kernel
theorem dX3_findOfSum_17 : decode cX3_findOfSum 17 = .ok (.istore 7, 2) := by decide +kernel
theorem dX3_findOfSum_19 : decode cX3_findOfSum 19 = .ok (.iload 7, 2) := by decide +kernel
theorem dX3_findOfSum_21 : decode cX3_findOfSum 21 = .ok (.aload_n 1, 1) := by decide +kernel
theorem dX3_findOfSum_22 : decode cX3_findOfSum 22 = .ok (.iload_n 3, 1) := by decide +kernel
theorem dX3_findOfSum_23 : decode cX3_findOfSum 23 = .ok (.invokevirtual 39, 3) := by decide +kernel
theorem dX3_findOfSum_26 : decode cX3_findOfSum 26 = .ok (.if_icmp .ge 54, 3) := by decide +kernel
theorem dX3_findOfSum_29 : decode cX3_findOfSum 29 = .ok (.aload_n 1, 1) := by decide +kernel
theorem dX3_findOfSum_30 : decode cX3_findOfSum 30 = .ok (.iload_n 2, 1) := by decide +kernel
theorem dX3_findOfSum_31 : decode cX3_findOfSum 31 = .ok (.iload 6, 2) := by decide +kernel
theorem dX3_findOfSum_33 : decode cX3_findOfSum 33 = .ok (.invokevirtual 45, 3) := by decide +kernel
theorem dX3_findOfSum_36 : decode cX3_findOfSum 36 = .ok (.aload_n 1, 1) := by decide +kernel
theorem dX3_findOfSum_37 : decode cX3_findOfSum 37 = .ok (.iload_n 3, 1) := by decide +kernel
theorem dX3_findOfSum_38 : decode cX3_findOfSum 38 = .ok (.iload 7, 2) := by decide +kernel
theorem dX3_findOfSum_40 : decode cX3_findOfSum 40 = .ok (.invokevirtual 45, 3) := by decide +kernel
theorem dX3_findOfSum_43 : decode cX3_findOfSum 43 = .ok (.iadd, 1) := by decide +kernel
theorem dX3_findOfSum_44 : decode cX3_findOfSum 44 = .ok (.aload_n 0, 1) := by decide +kernel
theorem dX3_findOfSum_45 : decode cX3_findOfSum 45 = .ok (.getfield 15, 3) := by decide +kernel
theorem dX3_findOfSum_48 : decode cX3_findOfSum 48 = .ok (.if_icmp .ne 26, 3) := by decide +kernel
theorem dX3_findOfSum_51 : decode cX3_findOfSum 51 = .ok (.iload 5, 2) := by decide +kernel
theorem dX3_findOfSum_53 : decode cX3_findOfSum 53 = .ok (.iload 4, 2) := by decide +kernel
theorem dX3_findOfSum_55 : decode cX3_findOfSum 55 = .ok (.if_icmp .ne 16, 3) := by decide +kernel
theorem dX3_findOfSum_58 : decode cX3_findOfSum 58 = .ok (.aload_n 0, 1) := by decide +kernel
theorem dX3_findOfSum_59 : decode cX3_findOfSum 59 = .ok (.iload 6, 2) := by decide +kernel
theorem dX3_findOfSum_61 : decode cX3_findOfSum 61 = .ok (.putfield 19, 3) := by decide +kernel
theorem dX3_findOfSum_64 : decode cX3_findOfSum 64 = .ok (.aload_n 0, 1) := by decide +kernel
theorem dX3_findOfSum_65 : decode cX3_findOfSum 65 = .ok (.iload 7, 2) := by decide +kernel
theorem dX3_findOfSum_67 : decode cX3_findOfSum 67 = .ok (.putfield 22, 3) := by decide +kernel
theorem dX3_findOfSum_70 : decode cX3_findOfSum 70 = .ok (.return_, 1) := by decide +kernel
theorem dX3_findOfSum_71 : decode cX3_findOfSum 71 = .ok (.iinc 5 1, 3) := by decide +kernel
theorem dX3_findOfSum_74 : decode cX3_findOfSum 74 = .ok (.iinc 7 1, 3) := by decide +kernel
theorem dX3_findOfSum_77 : decode cX3_findOfSum 77 = .ok (.goto (-58), 3) := by decide +kernel
theorem dX3_findOfSum_80 : decode cX3_findOfSum 80 = .ok (.iinc 6 1, 3) := by decide +kernel
theorem dX3_findOfSum_83 : decode cX3_findOfSum 83 = .ok (.goto (-77), 3) := by decide +kernel
theorem dX3_findOfSum_86 : decode cX3_findOfSum 86 = .ok (.return_, 1) := by decide +kernel
def fX3_findOfSum (p0 : Nat) (p1 : Nat) (p2 : Int32) (p3 : Int32) (p4 : Int32) (h : mxH) : Option mxH := Option.bind (mxLoop (ρ := ((Int32 × Int32) ⊕ Unit)) (fun s1 : (Int32 × Int32) => Option.bind (isO h p1 6) (fun u10 => Option.bind (fX6_sizeOf p1 p2 h) (fun v13 => (if v13 ≤ s1.2 then some (Sum.inr (Sum.inr ())) else Option.bind (mxLoop (ρ := (Int32 ⊕ Int32)) (fun s15 : (Int32 × Int32) => Option.bind (isO h p1 6) (fun u24 => Option.bind (fX6_sizeOf p1 p3 h) (fun v27 => (if v27 ≤ s15.2 then some (Sum.inr (Sum.inr s15.1)) else Option.bind (isO h p1 6) (fun u29 => Option.bind (fX6_markOn p1 p2 s1.2 h) (fun v32 => Option.bind (isO h p1 6) (fun u33 => Option.bind (fX6_markOn p1 p3 s15.2 h) (fun v36 => Option.bind (gI h p0 3 1) (fun v37 => (if (v32 + v36) = v37 then (if s15.1 = p4 then some (Sum.inr (Sum.inl s15.2)) else some (Sum.inl (s15.1 + 1, s15.2 + 1))) else some (Sum.inl (s15.1, s15.2 + 1)))))))))))) mxF (s1.1, 0)) (Sum.elim (fun r41 : Int32 => some (Sum.inr (Sum.inl (s1.2, r41)))) (fun r43 : Int32 => some (Sum.inl (r43, s1.2 + 1)))))))) mxF (0, 0)) (Sum.elim (fun r45 : (Int32 × Int32) => Option.bind (pI h p0 3 2 r45.1) (fun h46 => Option.bind (pI h46 p0 3 3 r45.2) (fun h48 => some h48))) (fun r51 : Unit => some h))
abbrev rmX3_findOfSum : Room := { frames := 3, cells := 0, slots := 0, locals := 64 }
set_option maxRecDepth 20000 in
theorem tX3_findOfSum {l : Launch} {Z : mxZ} (hl : l.stackTraces = false) {p0 : Nat} {p1 : Nat} {p2 : Int32} {p3 : Int32} {p4 : Int32} {h : mxH} {out : mxH} (hf : fX3_findOfSum p0 p1 p2 p3 p4 h = some out) : mxMet l Z yX3_findOfSum cX3_findOfSum 8 (none) rmX3_findOfSum [.ref p0, .ref p1, .int p2, .int p3, .int p4] h (.inl none) out := by
  refine mxMet_of (by decide) hl (by simp [Value.category]) (Nat.le_of_ble_eq_true rfl) ?_
  intro X C E hX hin
  unfold fX3_findOfSum at hf
  refine mG_ic (pc := 0) C dX3_findOfSum_0 kI0 ?_
  refine mG_is (ls' := [some (.ref p0), some (.ref p1), some (.int p2), some (.int p3), some (.int p4), some (.int 0), none, none]) (pc := 1) C dX3_findOfSum_1 rfl rfl rfl ?_
  refine mG_ic (pc := 3) C dX3_findOfSum_3 kI0 ?_
  refine mG_is (ls' := [some (.ref p0), some (.ref p1), some (.int p2), some (.int p3), some (.int p4), some (.int 0), some (.int 0), none]) (pc := 4) C dX3_findOfSum_4 rfl rfl rfl ?_
  obtain ⟨r2, e3, hf⟩ := mx_bind hf
  have J4 : ∀ r45 : (Int32 × Int32), Sum.inl r45 = r2 → mG l Z X 8 0 0 58 [some (.ref p0), none, none, none, none, none, some (.int r45.1), some (.int r45.2)] [] h := by
    intro r45 q50
    subst q50
    rw [Sum.elim_inl] at hf
    refine mG_aload_n (pc := 58) C dX3_findOfSum_58 rfl ?_
    refine mG_iload (pc := 59) C dX3_findOfSum_59 rfl ?_
    obtain ⟨h46, e47, hf⟩ := mx_bind hf
    refine mG_putI (pc := 61) C dX3_findOfSum_61 fl_X3_19 e47 ?_
    refine mG_aload_n (pc := 64) C dX3_findOfSum_64 rfl ?_
    refine mG_iload (pc := 65) C dX3_findOfSum_65 rfl ?_
    obtain ⟨h48, e49, hf⟩ := mx_bind hf
    refine mG_putI (pc := 67) C dX3_findOfSum_67 fl_X3_22 e49 ?_
    cases hf
    exact mG_vr (pc := 70) C E hX dX3_findOfSum_70 rfl
  have J5 : ∀ r51 : Unit, Sum.inr r51 = r2 → mG l Z X 8 0 0 86 [none, none, none, none, none, none, none, none] [] h := by
    intro r51 q52
    subst q52
    rw [Sum.elim_inr] at hf
    cases hf
    exact mG_vr (pc := 86) C E hX dX3_findOfSum_86 rfl
  refine mG_sub (ls' := [some (.ref p0), some (.ref p1), some (.int p2), some (.int p3), some (.int p4), some (.int 0), some (.int 0), none]) (mxLe_s (mxLe_s (mxLe_s (mxLe_s (mxLe_s (mxLe_s (mxLe_s (mxLe_n mxLe_z)))))))) (mxLoop_ind (K := fun s1 : (Int32 × Int32) => mG l Z X 8 0 0 6 [some (.ref p0), some (.ref p1), some (.int p2), some (.int p3), some (.int p4), some (.int s1.1), some (.int s1.2), none] [] h) ?_ _ _ e3)
  intro s1 o8 e9 hK6 hx7
  refine mG_iload (pc := 6) C dX3_findOfSum_6 rfl ?_
  refine mG_aload_n (pc := 8) C dX3_findOfSum_8 rfl ?_
  refine mG_iload_n (pc := 9) C dX3_findOfSum_9 rfl ?_
  obtain ⟨u10, e11, e9⟩ := mx_bind e9
  obtain ⟨v13, e12, e9⟩ := mx_bind e9
  refine mG_cV (pc := 10) (k' := 0) (n' := 0) 6 [.int p2] [.int s1.2] C hX dX3_findOfSum_10 lkV_X3_39 rfl rfl e11 (tX6_sizeOf hl e12) rfl rfl rfl rfl ?_
  refine mG_icmp_ge (pc := 13) (tgt := 86) C dX3_findOfSum_13 (by decide) (fun q14 => ?_) (fun q14 => ?_)
  · rw [if_pos q14] at e9
    exact mG_sub (mxLe_n (mxLe_n (mxLe_n (mxLe_n (mxLe_n (mxLe_n (mxLe_n (mxLe_n mxLe_z)))))))) (J5 _ (hx7 _ (Option.some.inj e9).symm))
  · rw [if_neg q14] at e9
    refine mG_ic (pc := 16) C dX3_findOfSum_16 kI0 ?_
    refine mG_is (ls' := [some (.ref p0), some (.ref p1), some (.int p2), some (.int p3), some (.int p4), some (.int s1.1), some (.int s1.2), some (.int 0)]) (pc := 17) C dX3_findOfSum_17 rfl rfl rfl ?_
    obtain ⟨r16, e17, e9⟩ := mx_bind e9
    have J18 : ∀ r41 : Int32, Sum.inl r41 = r16 → mG l Z X 8 0 0 58 [some (.ref p0), none, none, none, none, none, some (.int s1.2), some (.int r41)] [] h := by
      intro r41 q42
      subst q42
      rw [Sum.elim_inl] at e9
      exact mG_sub (mxLe_s (mxLe_n (mxLe_n (mxLe_n (mxLe_n (mxLe_n (mxLe_s (mxLe_s mxLe_z)))))))) (J4 _ (hx7 _ (Option.some.inj e9).symm))
    have J19 : ∀ r43 : Int32, Sum.inr r43 = r16 → mG l Z X 8 0 0 80 [some (.ref p0), some (.ref p1), some (.int p2), some (.int p3), some (.int p4), some (.int r43), some (.int s1.2), none] [] h := by
      intro r43 q44
      subst q44
      rw [Sum.elim_inr] at e9
      refine mG_ii (ls' := [some (.ref p0), some (.ref p1), some (.int p2), some (.int p3), some (.int p4), some (.int r43), some (.int (s1.2 + 1)), none]) (pc := 80) C dX3_findOfSum_80 rfl (kinc1 _) rfl rfl rfl ?_
      refine mG_goto (tgt := 6) (pc := 83) C dX3_findOfSum_83 (by decide) ?_
      exact mG_sub (mxLe_s (mxLe_s (mxLe_s (mxLe_s (mxLe_s (mxLe_s (mxLe_s (mxLe_n mxLe_z)))))))) (hK6 _ (Option.some.inj e9).symm)
    refine mG_sub (ls' := [some (.ref p0), some (.ref p1), some (.int p2), some (.int p3), some (.int p4), some (.int s1.1), some (.int s1.2), some (.int 0)]) (mxLe_s (mxLe_s (mxLe_s (mxLe_s (mxLe_s (mxLe_s (mxLe_s (mxLe_s mxLe_z)))))))) (mxLoop_ind (K := fun s15 : (Int32 × Int32) => mG l Z X 8 0 0 19 [some (.ref p0), some (.ref p1), some (.int p2), some (.int p3), some (.int p4), some (.int s15.1), some (.int s1.2), some (.int s15.2)] [] h) ?_ _ _ e17)
    intro s15 o22 e23 hK20 hx21
    refine mG_iload (pc := 19) C dX3_findOfSum_19 rfl ?_
    refine mG_aload_n (pc := 21) C dX3_findOfSum_21 rfl ?_
    refine mG_iload_n (pc := 22) C dX3_findOfSum_22 rfl ?_
    obtain ⟨u24, e25, e23⟩ := mx_bind e23
    obtain ⟨v27, e26, e23⟩ := mx_bind e23
    refine mG_cV (pc := 23) (k' := 0) (n' := 0) 6 [.int p3] [.int s15.2] C hX dX3_findOfSum_23 lkV_X3_39 rfl rfl e25 (tX6_sizeOf hl e26) rfl rfl rfl rfl ?_
    refine mG_icmp_ge (pc := 26) (tgt := 80) C dX3_findOfSum_26 (by decide) (fun q28 => ?_) (fun q28 => ?_)
    · rw [if_pos q28] at e23
      exact mG_sub (mxLe_s (mxLe_s (mxLe_s (mxLe_s (mxLe_s (mxLe_s (mxLe_s (mxLe_n mxLe_z)))))))) (J19 _ (hx21 _ (Option.some.inj e23).symm))
    · rw [if_neg q28] at e23
      refine mG_aload_n (pc := 29) C dX3_findOfSum_29 rfl ?_
      refine mG_iload_n (pc := 30) C dX3_findOfSum_30 rfl ?_
      refine mG_iload (pc := 31) C dX3_findOfSum_31 rfl ?_
      obtain ⟨u29, e30, e23⟩ := mx_bind e23
      obtain ⟨v32, e31, e23⟩ := mx_bind e23
      refine mG_cV (pc := 33) (k' := 0) (n' := 0) 6 [.int p2, .int s1.2] [] C hX dX3_findOfSum_33 lkV_X3_45 rfl rfl e30 (tX6_markOn hl e31) rfl rfl rfl rfl ?_
      refine mG_aload_n (pc := 36) C dX3_findOfSum_36 rfl ?_
      refine mG_iload_n (pc := 37) C dX3_findOfSum_37 rfl ?_
      refine mG_iload (pc := 38) C dX3_findOfSum_38 rfl ?_
      obtain ⟨u33, e34, e23⟩ := mx_bind e23
      obtain ⟨v36, e35, e23⟩ := mx_bind e23
      refine mG_cV (pc := 40) (k' := 0) (n' := 0) 6 [.int p3, .int s15.2] [.int v32] C hX dX3_findOfSum_40 lkV_X3_45 rfl rfl e34 (tX6_markOn hl e35) rfl rfl rfl rfl ?_
      refine mG_iadd (pc := 43) C dX3_findOfSum_43 ?_
      refine mG_aload_n (pc := 44) C dX3_findOfSum_44 rfl ?_
      obtain ⟨v37, e38, e23⟩ := mx_bind e23
      refine mG_getI (pc := 45) C dX3_findOfSum_45 fl_X3_15 e38 ?_
      refine mG_icmp_ne (pc := 48) (tgt := 74) C dX3_findOfSum_48 (by decide) (fun q39 => ?_) (fun q39 => ?_)
      · rw [if_neg q39] at e23
        refine mG_ii (ls' := [some (.ref p0), some (.ref p1), some (.int p2), some (.int p3), some (.int p4), some (.int s15.1), some (.int s1.2), some (.int (s15.2 + 1))]) (pc := 74) C dX3_findOfSum_74 rfl (kinc1 _) rfl rfl rfl ?_
        refine mG_goto (tgt := 19) (pc := 77) C dX3_findOfSum_77 (by decide) ?_
        exact mG_sub (mxLe_s (mxLe_s (mxLe_s (mxLe_s (mxLe_s (mxLe_s (mxLe_s (mxLe_s mxLe_z)))))))) (hK20 _ (Option.some.inj e23).symm)
      · rw [if_pos q39] at e23
        refine mG_iload (pc := 51) C dX3_findOfSum_51 rfl ?_
        refine mG_iload (pc := 53) C dX3_findOfSum_53 rfl ?_
        refine mG_icmp_ne (pc := 55) (tgt := 71) C dX3_findOfSum_55 (by decide) (fun q40 => ?_) (fun q40 => ?_)
        · rw [if_neg q40] at e23
          refine mG_ii (ls' := [some (.ref p0), some (.ref p1), some (.int p2), some (.int p3), some (.int p4), some (.int (s15.1 + 1)), some (.int s1.2), some (.int s15.2)]) (pc := 71) C dX3_findOfSum_71 rfl (kinc1 _) rfl rfl rfl ?_
          refine mG_ii (ls' := [some (.ref p0), some (.ref p1), some (.int p2), some (.int p3), some (.int p4), some (.int (s15.1 + 1)), some (.int s1.2), some (.int (s15.2 + 1))]) (pc := 74) C dX3_findOfSum_74 rfl (kinc1 _) rfl rfl rfl ?_
          refine mG_goto (tgt := 19) (pc := 77) C dX3_findOfSum_77 (by decide) ?_
          exact mG_sub (mxLe_s (mxLe_s (mxLe_s (mxLe_s (mxLe_s (mxLe_s (mxLe_s (mxLe_s mxLe_z)))))))) (hK20 _ (Option.some.inj e23).symm)
        · rw [if_pos q40] at e23
          exact mG_sub (mxLe_s (mxLe_n (mxLe_n (mxLe_n (mxLe_n (mxLe_n (mxLe_s (mxLe_s mxLe_z)))))))) (J18 _ (hx21 _ (Option.some.inj e23).symm))
theorem dX3_find_0 : decode cX3_find 0 = .ok (.aload_n 0, 1) := by decide +kernel
theorem dX3_find_1 : decode cX3_find 1 = .ok (.aload_n 1, 1) := by decide +kernel
theorem dX3_find_2 : decode cX3_find 2 = .ok (.iload_n 2, 1) := by decide +kernel
theorem dX3_find_3 : decode cX3_find 3 = .ok (.iload_n 3, 1) := by decide +kernel
theorem dX3_find_4 : decode cX3_find 4 = .ok (.invokevirtual 25, 3) := by decide +kernel
theorem dX3_find_7 : decode cX3_find 7 = .ok (.iconst 0, 1) := by decide +kernel
theorem dX3_find_8 : decode cX3_find 8 = .ok (.istore 5, 2) := by decide +kernel
theorem dX3_find_10 : decode cX3_find 10 = .ok (.sipush 198, 3) := by decide +kernel
theorem dX3_find_13 : decode cX3_find 13 = .ok (.istore 6, 2) := by decide +kernel
theorem dX3_find_15 : decode cX3_find 15 = .ok (.iload 6, 2) := by decide +kernel
theorem dX3_find_17 : decode cX3_find 17 = .ok (.ifCond .lt 55, 3) := by decide +kernel
theorem dX3_find_20 : decode cX3_find 20 = .ok (.iload 4, 2) := by decide +kernel
theorem dX3_find_22 : decode cX3_find 22 = .ok (.iload 5, 2) := by decide +kernel
theorem dX3_find_24 : decode cX3_find 24 = .ok (.aload_n 0, 1) := by decide +kernel
theorem dX3_find_25 : decode cX3_find 25 = .ok (.getfield 9, 3) := by decide +kernel
theorem dX3_find_28 : decode cX3_find 28 = .ok (.iload 6, 2) := by decide +kernel
theorem dX3_find_30 : decode cX3_find 30 = .ok (.iaload, 1) := by decide +kernel
theorem dX3_find_31 : decode cX3_find 31 = .ok (.iadd, 1) := by decide +kernel
theorem dX3_find_32 : decode cX3_find 32 = .ok (.if_icmp .ge 22, 3) := by decide +kernel
theorem dX3_find_35 : decode cX3_find 35 = .ok (.aload_n 0, 1) := by decide +kernel
theorem dX3_find_36 : decode cX3_find 36 = .ok (.iload 6, 2) := by decide +kernel
theorem dX3_find_38 : decode cX3_find 38 = .ok (.putfield 15, 3) := by decide +kernel
theorem dX3_find_41 : decode cX3_find 41 = .ok (.aload_n 0, 1) := by decide +kernel
theorem dX3_find_42 : decode cX3_find 42 = .ok (.aload_n 1, 1) := by decide +kernel
theorem dX3_find_43 : decode cX3_find 43 = .ok (.iload_n 2, 1) := by decide +kernel
theorem dX3_find_44 : decode cX3_find 44 = .ok (.iload_n 3, 1) := by decide +kernel
theorem dX3_find_45 : decode cX3_find 45 = .ok (.iload 4, 2) := by decide +kernel
theorem dX3_find_47 : decode cX3_find 47 = .ok (.iload 5, 2) := by decide +kernel
theorem dX3_find_49 : decode cX3_find 49 = .ok (.isub, 1) := by decide +kernel
theorem dX3_find_50 : decode cX3_find 50 = .ok (.invokevirtual 29, 3) := by decide +kernel
theorem dX3_find_53 : decode cX3_find 53 = .ok (.return_, 1) := by decide +kernel
theorem dX3_find_54 : decode cX3_find 54 = .ok (.iload 5, 2) := by decide +kernel
theorem dX3_find_56 : decode cX3_find 56 = .ok (.aload_n 0, 1) := by decide +kernel
theorem dX3_find_57 : decode cX3_find 57 = .ok (.getfield 9, 3) := by decide +kernel
theorem dX3_find_60 : decode cX3_find 60 = .ok (.iload 6, 2) := by decide +kernel
theorem dX3_find_62 : decode cX3_find 62 = .ok (.iaload, 1) := by decide +kernel
theorem dX3_find_63 : decode cX3_find 63 = .ok (.iadd, 1) := by decide +kernel
theorem dX3_find_64 : decode cX3_find 64 = .ok (.istore 5, 2) := by decide +kernel
theorem dX3_find_66 : decode cX3_find 66 = .ok (.iinc 6 (-1), 3) := by decide +kernel
theorem dX3_find_69 : decode cX3_find 69 = .ok (.goto (-54), 3) := by decide +kernel
theorem dX3_find_72 : decode cX3_find 72 = .ok (.return_, 1) := by decide +kernel
def fX3_find (p0 : Nat) (p1 : Nat) (p2 : Int32) (p3 : Int32) (p4 : Int32) (h : mxH) : Option mxH := Option.bind (isO h p0 3) (fun u1 => Option.bind (fX3_countSums p0 p1 p2 p3 h) (fun o4 => Option.bind (mxLoop (ρ := ((Int32 × Int32) ⊕ Unit)) (fun s5 : (Int32 × Int32) => (if s5.2 < 0 then some (Sum.inr (Sum.inr ())) else Option.bind (gR o4 p0 3 0) (fun r15 => Option.bind (ldI o4 r15 s5.2) (fun v17 => (if (s5.1 + v17) ≤ p4 then Option.bind (gR o4 p0 3 0) (fun r20 => Option.bind (ldI o4 r20 s5.2) (fun v22 => some (Sum.inl (s5.1 + v22, s5.2 - 1)))) else some (Sum.inr (Sum.inl (s5.1, s5.2)))))))) mxF (0, 198)) (Sum.elim (fun r24 : (Int32 × Int32) => Option.bind (pI o4 p0 3 1 r24.2) (fun h25 => Option.bind (isO h25 p0 3) (fun u27 => Option.bind (fX3_findOfSum p0 p1 p2 p3 (p4 - r24.1) h25) (fun o30 => some o30)))) (fun r32 : Unit => some o4))))
abbrev rmX3_find : Room := { frames := 4, cells := 0, slots := 0, locals := 91 }
set_option maxRecDepth 20000 in
theorem tX3_find {l : Launch} {Z : mxZ} (hl : l.stackTraces = false) {p0 : Nat} {p1 : Nat} {p2 : Int32} {p3 : Int32} {p4 : Int32} {h : mxH} {out : mxH} (hf : fX3_find p0 p1 p2 p3 p4 h = some out) : mxMet l Z yX3_find cX3_find 7 (none) rmX3_find [.ref p0, .ref p1, .int p2, .int p3, .int p4] h (.inl none) out := by
  refine mxMet_of (by decide) hl (by simp [Value.category]) (Nat.le_of_ble_eq_true rfl) ?_
  intro X C E hX hin
  unfold fX3_find at hf
  refine mG_aload_n (pc := 0) C dX3_find_0 rfl ?_
  refine mG_aload_n (pc := 1) C dX3_find_1 rfl ?_
  refine mG_iload_n (pc := 2) C dX3_find_2 rfl ?_
  refine mG_iload_n (pc := 3) C dX3_find_3 rfl ?_
  obtain ⟨u1, e2, hf⟩ := mx_bind hf
  obtain ⟨o4, e3, hf⟩ := mx_bind hf
  refine mG_cV (pc := 4) (k' := 0) (n' := 0) 3 [.ref p1, .int p2, .int p3] [] C hX dX3_find_4 lkV_X3_25 rfl rfl e2 (tX3_countSums hl e3) rfl rfl rfl rfl ?_
  refine mG_ic (pc := 7) C dX3_find_7 kI0 ?_
  refine mG_is (ls' := [some (.ref p0), some (.ref p1), some (.int p2), some (.int p3), some (.int p4), some (.int 0), none]) (pc := 8) C dX3_find_8 rfl rfl rfl ?_
  refine mG_sp (pc := 10) C dX3_find_10 kS198 ?_
  refine mG_is (ls' := [some (.ref p0), some (.ref p1), some (.int p2), some (.int p3), some (.int p4), some (.int 0), some (.int 198)]) (pc := 13) C dX3_find_13 rfl rfl rfl ?_
  obtain ⟨r6, e7, hf⟩ := mx_bind hf
  have J8 : ∀ r24 : (Int32 × Int32), Sum.inl r24 = r6 → mG l Z X 7 0 0 35 [some (.ref p0), some (.ref p1), some (.int p2), some (.int p3), some (.int p4), some (.int r24.1), some (.int r24.2)] [] o4 := by
    intro r24 q31
    subst q31
    rw [Sum.elim_inl] at hf
    refine mG_aload_n (pc := 35) C dX3_find_35 rfl ?_
    refine mG_iload (pc := 36) C dX3_find_36 rfl ?_
    obtain ⟨h25, e26, hf⟩ := mx_bind hf
    refine mG_putI (pc := 38) C dX3_find_38 fl_X3_15 e26 ?_
    refine mG_aload_n (pc := 41) C dX3_find_41 rfl ?_
    refine mG_aload_n (pc := 42) C dX3_find_42 rfl ?_
    refine mG_iload_n (pc := 43) C dX3_find_43 rfl ?_
    refine mG_iload_n (pc := 44) C dX3_find_44 rfl ?_
    refine mG_iload (pc := 45) C dX3_find_45 rfl ?_
    refine mG_iload (pc := 47) C dX3_find_47 rfl ?_
    refine mG_isub (pc := 49) C dX3_find_49 ?_
    obtain ⟨u27, e28, hf⟩ := mx_bind hf
    obtain ⟨o30, e29, hf⟩ := mx_bind hf
    refine mG_cV (pc := 50) (k' := 0) (n' := 0) 3 [.ref p1, .int p2, .int p3, .int (p4 - r24.1)] [] C hX dX3_find_50 lkV_X3_29 rfl rfl e28 (tX3_findOfSum hl e29) rfl rfl rfl rfl ?_
    cases hf
    exact mG_vr (pc := 53) C E hX dX3_find_53 rfl
  have J9 : ∀ r32 : Unit, Sum.inr r32 = r6 → mG l Z X 7 0 0 72 [none, none, none, none, none, none, none] [] o4 := by
    intro r32 q33
    subst q33
    rw [Sum.elim_inr] at hf
    cases hf
    exact mG_vr (pc := 72) C E hX dX3_find_72 rfl
  refine mG_sub (ls' := [some (.ref p0), some (.ref p1), some (.int p2), some (.int p3), some (.int p4), some (.int 0), some (.int 198)]) (mxLe_s (mxLe_s (mxLe_s (mxLe_s (mxLe_s (mxLe_s (mxLe_s mxLe_z))))))) (mxLoop_ind (K := fun s5 : (Int32 × Int32) => mG l Z X 7 0 0 15 [some (.ref p0), some (.ref p1), some (.int p2), some (.int p3), some (.int p4), some (.int s5.1), some (.int s5.2)] [] o4) ?_ _ _ e7)
  intro s5 o12 e13 hK10 hx11
  refine mG_iload (pc := 15) C dX3_find_15 rfl ?_
  refine mG_if_lt (pc := 17) (tgt := 72) C dX3_find_17 (by decide) (fun q14 => ?_) (fun q14 => ?_)
  · rw [if_pos q14] at e13
    exact mG_sub (mxLe_n (mxLe_n (mxLe_n (mxLe_n (mxLe_n (mxLe_n (mxLe_n mxLe_z))))))) (J9 _ (hx11 _ (Option.some.inj e13).symm))
  · rw [if_neg q14] at e13
    refine mG_iload (pc := 20) C dX3_find_20 rfl ?_
    refine mG_iload (pc := 22) C dX3_find_22 rfl ?_
    refine mG_aload_n (pc := 24) C dX3_find_24 rfl ?_
    obtain ⟨r15, e16, e13⟩ := mx_bind e13
    refine mG_getR (pc := 25) C dX3_find_25 fl_X3_9 e16 ?_
    refine mG_iload (pc := 28) C dX3_find_28 rfl ?_
    obtain ⟨v17, e18, e13⟩ := mx_bind e13
    refine mG_iaload (pc := 30) C dX3_find_30 e18 ?_
    refine mG_iadd (pc := 31) C dX3_find_31 ?_
    refine mG_icmp_ge (pc := 32) (tgt := 54) C dX3_find_32 (by decide) (fun q19 => ?_) (fun q19 => ?_)
    · rw [if_pos q19] at e13
      refine mG_iload (pc := 54) C dX3_find_54 rfl ?_
      refine mG_aload_n (pc := 56) C dX3_find_56 rfl ?_
      obtain ⟨r20, e21, e13⟩ := mx_bind e13
      refine mG_getR (pc := 57) C dX3_find_57 fl_X3_9 e21 ?_
      refine mG_iload (pc := 60) C dX3_find_60 rfl ?_
      obtain ⟨v22, e23, e13⟩ := mx_bind e13
      refine mG_iaload (pc := 62) C dX3_find_62 e23 ?_
      refine mG_iadd (pc := 63) C dX3_find_63 ?_
      refine mG_is (ls' := [some (.ref p0), some (.ref p1), some (.int p2), some (.int p3), some (.int p4), some (.int (s5.1 + v22)), some (.int s5.2)]) (pc := 64) C dX3_find_64 rfl rfl rfl ?_
      refine mG_ii (ls' := [some (.ref p0), some (.ref p1), some (.int p2), some (.int p3), some (.int p4), some (.int (s5.1 + v22)), some (.int (s5.2 - 1))]) (pc := 66) C dX3_find_66 rfl (kincm1 _) rfl rfl rfl ?_
      refine mG_goto (tgt := 15) (pc := 69) C dX3_find_69 (by decide) ?_
      exact mG_sub (mxLe_s (mxLe_s (mxLe_s (mxLe_s (mxLe_s (mxLe_s (mxLe_s mxLe_z))))))) (hK10 _ (Option.some.inj e13).symm)
    · rw [if_neg q19] at e13
      exact mG_sub (mxLe_s (mxLe_s (mxLe_s (mxLe_s (mxLe_s (mxLe_s (mxLe_s mxLe_z))))))) (J8 _ (hx11 _ (Option.some.inj e13).symm))
