/-! printed by wip/gen/emit.py: for each method its function on the mini machine, and that the machine walks as the function says -/
theorem dX2_copyFrom_0 : decode cX2_copyFrom 0 = .ok (.aload_n 1, 1) := by decide +kernel
theorem dX2_copyFrom_1 : decode cX2_copyFrom 1 = .ok (.getfield 9, 3) := by decide +kernel
theorem dX2_copyFrom_4 : decode cX2_copyFrom 4 = .ok (.iconst 0, 1) := by decide +kernel
theorem dX2_copyFrom_5 : decode cX2_copyFrom 5 = .ok (.aload_n 0, 1) := by decide +kernel
theorem dX2_copyFrom_6 : decode cX2_copyFrom 6 = .ok (.getfield 9, 3) := by decide +kernel
theorem dX2_copyFrom_9 : decode cX2_copyFrom 9 = .ok (.iconst 0, 1) := by decide +kernel
theorem dX2_copyFrom_10 : decode cX2_copyFrom 10 = .ok (.bipush 10, 2) := by decide +kernel
theorem dX2_copyFrom_12 : decode cX2_copyFrom 12 = .ok (.invokestatic 40, 3) := by decide +kernel
theorem dX2_copyFrom_15 : decode cX2_copyFrom 15 = .ok (.aload_n 0, 1) := by decide +kernel
theorem dX2_copyFrom_16 : decode cX2_copyFrom 16 = .ok (.aload_n 1, 1) := by decide +kernel
theorem dX2_copyFrom_17 : decode cX2_copyFrom 17 = .ok (.getfield 15, 3) := by decide +kernel
theorem dX2_copyFrom_20 : decode cX2_copyFrom 20 = .ok (.putfield 15, 3) := by decide +kernel
theorem dX2_copyFrom_23 : decode cX2_copyFrom 23 = .ok (.aload_n 0, 1) := by decide +kernel
theorem dX2_copyFrom_24 : decode cX2_copyFrom 24 = .ok (.aload_n 1, 1) := by decide +kernel
theorem dX2_copyFrom_25 : decode cX2_copyFrom 25 = .ok (.getfield 19, 3) := by decide +kernel
theorem dX2_copyFrom_28 : decode cX2_copyFrom 28 = .ok (.putfield 19, 3) := by decide +kernel
theorem dX2_copyFrom_31 : decode cX2_copyFrom 31 = .ok (.aload_n 1, 1) := by decide +kernel
theorem dX2_copyFrom_32 : decode cX2_copyFrom 32 = .ok (.getfield 22, 3) := by decide +kernel
theorem dX2_copyFrom_35 : decode cX2_copyFrom 35 = .ok (.iconst 0, 1) := by decide +kernel
theorem dX2_copyFrom_36 : decode cX2_copyFrom 36 = .ok (.aload_n 0, 1) := by decide +kernel
theorem dX2_copyFrom_37 : decode cX2_copyFrom 37 = .ok (.getfield 22, 3) := by decide +kernel
theorem dX2_copyFrom_40 : decode cX2_copyFrom 40 = .ok (.iconst 0, 1) := by decide +kernel
theorem dX2_copyFrom_41 : decode cX2_copyFrom 41 = .ok (.bipush 100, 2) := by decide +kernel
theorem dX2_copyFrom_43 : decode cX2_copyFrom 43 = .ok (.invokestatic 40, 3) := by decide +kernel
theorem dX2_copyFrom_46 : decode cX2_copyFrom 46 = .ok (.aload_n 0, 1) := by decide +kernel
theorem dX2_copyFrom_47 : decode cX2_copyFrom 47 = .ok (.aload_n 1, 1) := by decide +kernel
theorem dX2_copyFrom_48 : decode cX2_copyFrom 48 = .ok (.getfield 25, 3) := by decide +kernel
theorem dX2_copyFrom_51 : decode cX2_copyFrom 51 = .ok (.putfield 25, 3) := by decide +kernel
theorem dX2_copyFrom_54 : decode cX2_copyFrom 54 = .ok (.aload_n 0, 1) := by decide +kernel
theorem dX2_copyFrom_55 : decode cX2_copyFrom 55 = .ok (.aload_n 1, 1) := by decide +kernel
theorem dX2_copyFrom_56 : decode cX2_copyFrom 56 = .ok (.getfield 28, 3) := by decide +kernel
theorem dX2_copyFrom_59 : decode cX2_copyFrom 59 = .ok (.putfield 28, 3) := by decide +kernel
theorem dX2_copyFrom_62 : decode cX2_copyFrom 62 = .ok (.aload_n 1, 1) := by decide +kernel
theorem dX2_copyFrom_63 : decode cX2_copyFrom 63 = .ok (.getfield 31, 3) := by decide +kernel
theorem dX2_copyFrom_66 : decode cX2_copyFrom 66 = .ok (.iconst 0, 1) := by decide +kernel
theorem dX2_copyFrom_67 : decode cX2_copyFrom 67 = .ok (.aload_n 0, 1) := by decide +kernel
theorem dX2_copyFrom_68 : decode cX2_copyFrom 68 = .ok (.getfield 31, 3) := by decide +kernel
theorem dX2_copyFrom_71 : decode cX2_copyFrom 71 = .ok (.iconst 0, 1) := by decide +kernel
theorem dX2_copyFrom_72 : decode cX2_copyFrom 72 = .ok (.iconst 4, 1) := by decide +kernel
theorem dX2_copyFrom_73 : decode cX2_copyFrom 73 = .ok (.invokestatic 40, 3) := by decide +kernel
theorem dX2_copyFrom_76 : decode cX2_copyFrom 76 = .ok (.aload_n 1, 1) := by decide +kernel
theorem dX2_copyFrom_77 : decode cX2_copyFrom 77 = .ok (.getfield 34, 3) := by decide +kernel
theorem dX2_copyFrom_80 : decode cX2_copyFrom 80 = .ok (.iconst 0, 1) := by decide +kernel
theorem dX2_copyFrom_81 : decode cX2_copyFrom 81 = .ok (.aload_n 0, 1) := by decide +kernel
theorem dX2_copyFrom_82 : decode cX2_copyFrom 82 = .ok (.getfield 34, 3) := by decide +kernel
theorem dX2_copyFrom_85 : decode cX2_copyFrom 85 = .ok (.iconst 0, 1) := by decide +kernel
theorem dX2_copyFrom_86 : decode cX2_copyFrom 86 = .ok (.iconst 4, 1) := by decide +kernel
theorem dX2_copyFrom_87 : decode cX2_copyFrom 87 = .ok (.invokestatic 40, 3) := by decide +kernel
theorem dX2_copyFrom_90 : decode cX2_copyFrom 90 = .ok (.aload_n 0, 1) := by decide +kernel
theorem dX2_copyFrom_91 : decode cX2_copyFrom 91 = .ok (.aload_n 1, 1) := by decide +kernel
theorem dX2_copyFrom_92 : decode cX2_copyFrom 92 = .ok (.getfield 37, 3) := by decide +kernel
theorem dX2_copyFrom_95 : decode cX2_copyFrom 95 = .ok (.putfield 37, 3) := by decide +kernel
theorem dX2_copyFrom_98 : decode cX2_copyFrom 98 = .ok (.return_, 1) := by decide +kernel
def fX2_copyFrom (p0 : Nat) (p1 : Nat) (h : mxH) : Option mxH := Option.bind (gR h p1 2 0) (fun r1 => Option.bind (gR h p0 2 0) (fun r3 => Option.bind (cpI h r1 0 r3 0 10) (fun h5 => Option.bind (gI h5 p1 2 1) (fun v7 => Option.bind (pI h5 p0 2 1 v7) (fun h9 => Option.bind (gI h9 p1 2 2) (fun v11 => Option.bind (pI h9 p0 2 2 v11) (fun h13 => Option.bind (gR h13 p1 2 3) (fun r15 => Option.bind (gR h13 p0 2 3) (fun r17 => Option.bind (cpI h13 r15 0 r17 0 100) (fun h19 => Option.bind (gI h19 p1 2 4) (fun v21 => Option.bind (pI h19 p0 2 4 v21) (fun h23 => Option.bind (gI h23 p1 2 5) (fun v25 => Option.bind (pI h23 p0 2 5 v25) (fun h27 => Option.bind (gR h27 p1 2 6) (fun r29 => Option.bind (gR h27 p0 2 6) (fun r31 => Option.bind (cpI h27 r29 0 r31 0 4) (fun h33 => Option.bind (gR h33 p1 2 7) (fun r35 => Option.bind (gR h33 p0 2 7) (fun r37 => Option.bind (cpI h33 r35 0 r37 0 4) (fun h39 => Option.bind (gI h39 p1 2 8) (fun v41 => Option.bind (pI h39 p0 2 8 v41) (fun h43 => some h43))))))))))))))))))))))
abbrev rmX2_copyFrom : Room := { frames := 1, cells := 0, slots := 0, locals := 41 }
set_option maxRecDepth 20000 in
theorem tX2_copyFrom {l : Launch} {Z : mxZ} (hl : l.stackTraces = false) {p0 : Nat} {p1 : Nat} {h : mxH} {out : mxH} (hf : fX2_copyFrom p0 p1 h = some out) : mxMet l Z yX2_copyFrom cX2_copyFrom 2 (none) rmX2_copyFrom [.ref p0, .ref p1] h (.inl none) out := by
  refine mxMet_of (by decide) hl (by simp [Value.category]) (Nat.le_of_ble_eq_true rfl) ?_
  intro X C E hX hin
  unfold fX2_copyFrom at hf
  refine mG_aload_n (pc := 0) C dX2_copyFrom_0 rfl ?_
  obtain ⟨r1, e2, hf⟩ := mx_bind hf
  refine mG_getR (pc := 1) C dX2_copyFrom_1 fl_X2_9 e2 ?_
  refine mG_ic (pc := 4) C dX2_copyFrom_4 kI0 ?_
  refine mG_aload_n (pc := 5) C dX2_copyFrom_5 rfl ?_
  obtain ⟨r3, e4, hf⟩ := mx_bind hf
  refine mG_getR (pc := 6) C dX2_copyFrom_6 fl_X2_9 e4 ?_
  refine mG_ic (pc := 9) C dX2_copyFrom_9 kI0 ?_
  refine mG_bp (pc := 10) C dX2_copyFrom_10 kB10 ?_
  obtain ⟨h5, e6, hf⟩ := mx_bind hf
  refine mG_ac (pc := 12) C hX dX2_copyFrom_12 w638 wac e6 rfl rfl ?_
  refine mG_aload_n (pc := 15) C dX2_copyFrom_15 rfl ?_
  refine mG_aload_n (pc := 16) C dX2_copyFrom_16 rfl ?_
  obtain ⟨v7, e8, hf⟩ := mx_bind hf
  refine mG_getI (pc := 17) C dX2_copyFrom_17 fl_X2_15 e8 ?_
  obtain ⟨h9, e10, hf⟩ := mx_bind hf
  refine mG_putI (pc := 20) C dX2_copyFrom_20 fl_X2_15 e10 ?_
  refine mG_aload_n (pc := 23) C dX2_copyFrom_23 rfl ?_
  refine mG_aload_n (pc := 24) C dX2_copyFrom_24 rfl ?_
  obtain ⟨v11, e12, hf⟩ := mx_bind hf
  refine mG_getI (pc := 25) C dX2_copyFrom_25 fl_X2_19 e12 ?_
  obtain ⟨h13, e14, hf⟩ := mx_bind hf
  refine mG_putI (pc := 28) C dX2_copyFrom_28 fl_X2_19 e14 ?_
  refine mG_aload_n (pc := 31) C dX2_copyFrom_31 rfl ?_
  obtain ⟨r15, e16, hf⟩ := mx_bind hf
  refine mG_getR (pc := 32) C dX2_copyFrom_32 fl_X2_22 e16 ?_
  refine mG_ic (pc := 35) C dX2_copyFrom_35 kI0 ?_
  refine mG_aload_n (pc := 36) C dX2_copyFrom_36 rfl ?_
  obtain ⟨r17, e18, hf⟩ := mx_bind hf
  refine mG_getR (pc := 37) C dX2_copyFrom_37 fl_X2_22 e18 ?_
  refine mG_ic (pc := 40) C dX2_copyFrom_40 kI0 ?_
  refine mG_bp (pc := 41) C dX2_copyFrom_41 kB100 ?_
  obtain ⟨h19, e20, hf⟩ := mx_bind hf
  refine mG_ac (pc := 43) C hX dX2_copyFrom_43 w638 wac e20 rfl rfl ?_
  refine mG_aload_n (pc := 46) C dX2_copyFrom_46 rfl ?_
  refine mG_aload_n (pc := 47) C dX2_copyFrom_47 rfl ?_
  obtain ⟨v21, e22, hf⟩ := mx_bind hf
  refine mG_getI (pc := 48) C dX2_copyFrom_48 fl_X2_25 e22 ?_
  obtain ⟨h23, e24, hf⟩ := mx_bind hf
  refine mG_putI (pc := 51) C dX2_copyFrom_51 fl_X2_25 e24 ?_
  refine mG_aload_n (pc := 54) C dX2_copyFrom_54 rfl ?_
  refine mG_aload_n (pc := 55) C dX2_copyFrom_55 rfl ?_
  obtain ⟨v25, e26, hf⟩ := mx_bind hf
  refine mG_getI (pc := 56) C dX2_copyFrom_56 fl_X2_28 e26 ?_
  obtain ⟨h27, e28, hf⟩ := mx_bind hf
  refine mG_putI (pc := 59) C dX2_copyFrom_59 fl_X2_28 e28 ?_
  refine mG_aload_n (pc := 62) C dX2_copyFrom_62 rfl ?_
  obtain ⟨r29, e30, hf⟩ := mx_bind hf
  refine mG_getR (pc := 63) C dX2_copyFrom_63 fl_X2_31 e30 ?_
  refine mG_ic (pc := 66) C dX2_copyFrom_66 kI0 ?_
  refine mG_aload_n (pc := 67) C dX2_copyFrom_67 rfl ?_
  obtain ⟨r31, e32, hf⟩ := mx_bind hf
  refine mG_getR (pc := 68) C dX2_copyFrom_68 fl_X2_31 e32 ?_
  refine mG_ic (pc := 71) C dX2_copyFrom_71 kI0 ?_
  refine mG_ic (pc := 72) C dX2_copyFrom_72 kI4 ?_
  obtain ⟨h33, e34, hf⟩ := mx_bind hf
  refine mG_ac (pc := 73) C hX dX2_copyFrom_73 w638 wac e34 rfl rfl ?_
  refine mG_aload_n (pc := 76) C dX2_copyFrom_76 rfl ?_
  obtain ⟨r35, e36, hf⟩ := mx_bind hf
  refine mG_getR (pc := 77) C dX2_copyFrom_77 fl_X2_34 e36 ?_
  refine mG_ic (pc := 80) C dX2_copyFrom_80 kI0 ?_
  refine mG_aload_n (pc := 81) C dX2_copyFrom_81 rfl ?_
  obtain ⟨r37, e38, hf⟩ := mx_bind hf
  refine mG_getR (pc := 82) C dX2_copyFrom_82 fl_X2_34 e38 ?_
  refine mG_ic (pc := 85) C dX2_copyFrom_85 kI0 ?_
  refine mG_ic (pc := 86) C dX2_copyFrom_86 kI4 ?_
  obtain ⟨h39, e40, hf⟩ := mx_bind hf
  refine mG_ac (pc := 87) C hX dX2_copyFrom_87 w638 wac e40 rfl rfl ?_
  refine mG_aload_n (pc := 90) C dX2_copyFrom_90 rfl ?_
  refine mG_aload_n (pc := 91) C dX2_copyFrom_91 rfl ?_
  obtain ⟨v41, e42, hf⟩ := mx_bind hf
  refine mG_getI (pc := 92) C dX2_copyFrom_92 fl_X2_37 e42 ?_
  obtain ⟨h43, e44, hf⟩ := mx_bind hf
  refine mG_putI (pc := 95) C dX2_copyFrom_95 fl_X2_37 e44 ?_
  cases hf
  exact mG_vr (pc := 98) C E hX dX2_copyFrom_98 rfl
theorem dJ7_fill_53178_0 : decode cJ7_fill_53178 0 = .ok (.iconst 0, 1) := by decide +kernel
theorem dJ7_fill_53178_1 : decode cJ7_fill_53178 1 = .ok (.istore_n 2, 1) := by decide +kernel
theorem dJ7_fill_53178_2 : decode cJ7_fill_53178 2 = .ok (.aload_n 0, 1) := by decide +kernel
theorem dJ7_fill_53178_3 : decode cJ7_fill_53178 3 = .ok (.arraylength, 1) := by decide +kernel
theorem dJ7_fill_53178_4 : decode cJ7_fill_53178 4 = .ok (.istore_n 3, 1) := by decide +kernel
theorem dJ7_fill_53178_5 : decode cJ7_fill_53178 5 = .ok (.iload_n 2, 1) := by decide +kernel
theorem dJ7_fill_53178_6 : decode cJ7_fill_53178 6 = .ok (.iload_n 3, 1) := by decide +kernel
theorem dJ7_fill_53178_7 : decode cJ7_fill_53178 7 = .ok (.if_icmp .ge 13, 3) := by decide +kernel
theorem dJ7_fill_53178_10 : decode cJ7_fill_53178 10 = .ok (.aload_n 0, 1) := by decide +kernel
theorem dJ7_fill_53178_11 : decode cJ7_fill_53178 11 = .ok (.iload_n 2, 1) := by decide +kernel
theorem dJ7_fill_53178_12 : decode cJ7_fill_53178 12 = .ok (.iload_n 1, 1) := by decide +kernel
theorem dJ7_fill_53178_13 : decode cJ7_fill_53178 13 = .ok (.iastore, 1) := by decide +kernel
theorem dJ7_fill_53178_14 : decode cJ7_fill_53178 14 = .ok (.iinc 2 1, 3) := by decide +kernel
theorem dJ7_fill_53178_17 : decode cJ7_fill_53178 17 = .ok (.goto (-12), 3) := by decide +kernel
theorem dJ7_fill_53178_20 : decode cJ7_fill_53178 20 = .ok (.return_, 1) := by decide +kernel
def fJ7_fill_53178 (p0 : Nat) (p1 : Int32) (h : mxH) : Option mxH := Option.bind (lenA h p0) (fun v1 => Option.bind (mxLoop (ρ := mxH) (fun s3 : (Int32 × mxH) => (if v1 ≤ s3.1 then some (Sum.inr s3.2) else Option.bind (stI s3.2 p0 s3.1 p1) (fun h12 => some (Sum.inl (s3.1 + 1, h12))))) mxF (0, h)) (fun r14 : mxH => some r14))
abbrev rmJ7_fill_53178 : Room := { frames := 0, cells := 0, slots := 0, locals := 0 }
set_option maxRecDepth 20000 in
theorem tJ7_fill_53178 {l : Launch} {Z : mxZ} (hl : l.stackTraces = false) {p0 : Nat} {p1 : Int32} {h : mxH} {out : mxH} (hf : fJ7_fill_53178 p0 p1 h = some out) : mxMet l Z yJ7_fill_53178 cJ7_fill_53178 4 (none) rmJ7_fill_53178 [.ref p0, .int p1] h (.inl none) out := by
  refine mxMet_of (by decide) hl (by simp [Value.category]) (Nat.le_of_ble_eq_true rfl) ?_
  intro X C E hX hin
  unfold fJ7_fill_53178 at hf
  refine mG_ic (pc := 0) C dJ7_fill_53178_0 kI0 ?_
  refine mG_isn (ls' := [some (.ref p0), some (.int p1), some (.int 0), none]) (pc := 1) C dJ7_fill_53178_1 rfl rfl rfl ?_
  refine mG_aload_n (pc := 2) C dJ7_fill_53178_2 rfl ?_
  obtain ⟨v1, e2, hf⟩ := mx_bind hf
  refine mG_arraylength (pc := 3) C dJ7_fill_53178_3 e2 ?_
  refine mG_isn (ls' := [some (.ref p0), some (.int p1), some (.int 0), some (.int v1)]) (pc := 4) C dJ7_fill_53178_4 rfl rfl rfl ?_
  obtain ⟨r4, e5, hf⟩ := mx_bind hf
  have J6 : ∀ r14 : mxH, r14 = r4 → mG l Z X 4 0 0 20 [none, none, none, none] [] r14 := by
    intro r14 q15
    subst q15
    cases hf
    exact mG_vr (pc := 20) C E hX dJ7_fill_53178_20 rfl
  refine mG_sub (ls' := [some (.ref p0), some (.int p1), some (.int 0), some (.int v1)]) (mxLe_s (mxLe_s (mxLe_s (mxLe_s mxLe_z)))) (mxLoop_ind (K := fun s3 : (Int32 × mxH) => mG l Z X 4 0 0 5 [some (.ref p0), some (.int p1), some (.int s3.1), some (.int v1)] [] s3.2) ?_ _ _ e5)
  intro s3 o9 e10 hK7 hx8
  refine mG_iload_n (pc := 5) C dJ7_fill_53178_5 rfl ?_
  refine mG_iload_n (pc := 6) C dJ7_fill_53178_6 rfl ?_
  refine mG_icmp_ge (pc := 7) (tgt := 20) C dJ7_fill_53178_7 (by decide) (fun q11 => ?_) (fun q11 => ?_)
  · rw [if_pos q11] at e10
    exact mG_sub (mxLe_n (mxLe_n (mxLe_n (mxLe_n mxLe_z)))) (J6 _ (hx8 _ (Option.some.inj e10).symm))
  · rw [if_neg q11] at e10
    refine mG_aload_n (pc := 10) C dJ7_fill_53178_10 rfl ?_
    refine mG_iload_n (pc := 11) C dJ7_fill_53178_11 rfl ?_
    refine mG_iload_n (pc := 12) C dJ7_fill_53178_12 rfl ?_
    obtain ⟨h12, e13, e10⟩ := mx_bind e10
    refine mG_iastore (pc := 13) C dJ7_fill_53178_13 e13 ?_
    refine mG_ii (ls' := [some (.ref p0), some (.int p1), some (.int (s3.1 + 1)), some (.int v1)]) (pc := 14) C dJ7_fill_53178_14 rfl (kinc1 _) rfl rfl rfl ?_
    refine mG_goto (tgt := 5) (pc := 17) C dJ7_fill_53178_17 (by decide) ?_
    exact mG_sub (mxLe_s (mxLe_s (mxLe_s (mxLe_s mxLe_z)))) (hK7 _ (Option.some.inj e10).symm)
theorem dX9_isRow_0 : decode cX9_isRow 0 = .ok (.iload_n 0, 1) := by decide +kernel
theorem dX9_isRow_1 : decode cX9_isRow 1 = .ok (.ifCond .lt 12, 3) := by decide +kernel
theorem dX9_isRow_4 : decode cX9_isRow 4 = .ok (.iload_n 0, 1) := by decide +kernel
theorem dX9_isRow_5 : decode cX9_isRow 5 = .ok (.iconst 5, 1) := by decide +kernel
theorem dX9_isRow_6 : decode cX9_isRow 6 = .ok (.if_icmp .ge 7, 3) := by decide +kernel
theorem dX9_isRow_9 : decode cX9_isRow 9 = .ok (.iconst 1, 1) := by decide +kernel
theorem dX9_isRow_10 : decode cX9_isRow 10 = .ok (.goto 4, 3) := by decide +kernel
theorem dX9_isRow_13 : decode cX9_isRow 13 = .ok (.iconst 0, 1) := by decide +kernel
theorem dX9_isRow_14 : decode cX9_isRow 14 = .ok (.ireturn, 1) := by decide +kernel
def fX9_isRow (p0 : Int32) (h : mxH) : Option Int32 := Option.bind (α := Int32) (if p0 < 0 then some 0 else (if 5 ≤ p0 then some 0 else some 1)) (fun p3' : Int32 => Option.bind (mxZ1 p3') (fun v6 => some v6))
abbrev rmX9_isRow : Room := { frames := 0, cells := 0, slots := 0, locals := 0 }
set_option maxRecDepth 20000 in
theorem tX9_isRow {l : Launch} {Z : mxZ} (hl : l.stackTraces = false) {p0 : Int32} {h : mxH} {out : Int32} (hf : fX9_isRow p0 h = some out) : mxMet l Z yX9_isRow cX9_isRow 1 (some .boolean) rmX9_isRow [.int p0] h (.inl (some (.int out))) h := by
  refine mxMet_of (by decide) hl (by simp [Value.category]) (Nat.le_of_ble_eq_true rfl) ?_
  intro X C E hX hin
  unfold fX9_isRow at hf
  refine mG_iload_n (pc := 0) C dX9_isRow_0 rfl ?_
  obtain ⟨p3, e4, hf⟩ := mx_bind hf
  have J2 : ∀ p3' : Int32, p3' = p3 → mG l Z X 1 0 0 14 [none] [.int p3'] h := by
    intro p3' q8
    subst q8
    obtain ⟨v6, e7, hf⟩ := mx_bind hf
    cases hf
    exact mG_zr (pc := 14) C e7 E hX dX9_isRow_14 rfl
  refine mG_if_lt (pc := 1) (tgt := 13) C dX9_isRow_1 (by decide) (fun q1 => ?_) (fun q1 => ?_)
  · rw [if_pos q1] at e4
    refine mG_ic (pc := 13) C dX9_isRow_13 kI0 ?_
    exact mG_sub (mxLe_n mxLe_z) (J2 _ (Option.some.inj e4))
  · rw [if_neg q1] at e4
    refine mG_iload_n (pc := 4) C dX9_isRow_4 rfl ?_
    refine mG_ic (pc := 5) C dX9_isRow_5 kI5 ?_
    refine mG_icmp_ge (pc := 6) (tgt := 13) C dX9_isRow_6 (by decide) (fun q5 => ?_) (fun q5 => ?_)
    · rw [if_pos q5] at e4
      refine mG_ic (pc := 13) C dX9_isRow_13 kI0 ?_
      exact mG_sub (mxLe_n mxLe_z) (J2 _ (Option.some.inj e4))
    · rw [if_neg q5] at e4
      refine mG_ic (pc := 9) C dX9_isRow_9 kI1 ?_
      refine mG_goto (tgt := 14) (pc := 10) C dX9_isRow_10 (by decide) ?_
      exact mG_sub (mxLe_n mxLe_z) (J2 _ (Option.some.inj e4))
theorem dX9_isThing_0 : decode cX9_isThing 0 = .ok (.iload_n 0, 1) := by decide +kernel
theorem dX9_isThing_1 : decode cX9_isThing 1 = .ok (.ifCond .lt 13, 3) := by decide +kernel
theorem dX9_isThing_4 : decode cX9_isThing 4 = .ok (.iload_n 0, 1) := by decide +kernel
theorem dX9_isThing_5 : decode cX9_isThing 5 = .ok (.bipush 20, 2) := by decide +kernel
theorem dX9_isThing_7 : decode cX9_isThing 7 = .ok (.if_icmp .ge 7, 3) := by decide +kernel
theorem dX9_isThing_10 : decode cX9_isThing 10 = .ok (.iconst 1, 1) := by decide +kernel
theorem dX9_isThing_11 : decode cX9_isThing 11 = .ok (.goto 4, 3) := by decide +kernel
theorem dX9_isThing_14 : decode cX9_isThing 14 = .ok (.iconst 0, 1) := by decide +kernel
theorem dX9_isThing_15 : decode cX9_isThing 15 = .ok (.ireturn, 1) := by decide +kernel
def fX9_isThing (p0 : Int32) (h : mxH) : Option Int32 := Option.bind (α := Int32) (if p0 < 0 then some 0 else (if 20 ≤ p0 then some 0 else some 1)) (fun p3' : Int32 => Option.bind (mxZ1 p3') (fun v6 => some v6))
abbrev rmX9_isThing : Room := { frames := 0, cells := 0, slots := 0, locals := 0 }
set_option maxRecDepth 20000 in
theorem tX9_isThing {l : Launch} {Z : mxZ} (hl : l.stackTraces = false) {p0 : Int32} {h : mxH} {out : Int32} (hf : fX9_isThing p0 h = some out) : mxMet l Z yX9_isThing cX9_isThing 1 (some .boolean) rmX9_isThing [.int p0] h (.inl (some (.int out))) h := by
  refine mxMet_of (by decide) hl (by simp [Value.category]) (Nat.le_of_ble_eq_true rfl) ?_
  intro X C E hX hin
  unfold fX9_isThing at hf
  refine mG_iload_n (pc := 0) C dX9_isThing_0 rfl ?_
  obtain ⟨p3, e4, hf⟩ := mx_bind hf
  have J2 : ∀ p3' : Int32, p3' = p3 → mG l Z X 1 0 0 15 [none] [.int p3'] h := by
    intro p3' q8
    subst q8
    obtain ⟨v6, e7, hf⟩ := mx_bind hf
    cases hf
    exact mG_zr (pc := 15) C e7 E hX dX9_isThing_15 rfl
  refine mG_if_lt (pc := 1) (tgt := 14) C dX9_isThing_1 (by decide) (fun q1 => ?_) (fun q1 => ?_)
  · rw [if_pos q1] at e4
    refine mG_ic (pc := 14) C dX9_isThing_14 kI0 ?_
    exact mG_sub (mxLe_n mxLe_z) (J2 _ (Option.some.inj e4))
  · rw [if_neg q1] at e4
    refine mG_iload_n (pc := 4) C dX9_isThing_4 rfl ?_
    refine mG_bp (pc := 5) C dX9_isThing_5 kB20 ?_
    refine mG_icmp_ge (pc := 7) (tgt := 14) C dX9_isThing_7 (by decide) (fun q5 => ?_) (fun q5 => ?_)
    · rw [if_pos q5] at e4
      refine mG_ic (pc := 14) C dX9_isThing_14 kI0 ?_
      exact mG_sub (mxLe_n mxLe_z) (J2 _ (Option.some.inj e4))
    · rw [if_neg q5] at e4
      refine mG_ic (pc := 10) C dX9_isThing_10 kI1 ?_
      refine mG_goto (tgt := 15) (pc := 11) C dX9_isThing_11 (by decide) ?_
      exact mG_sub (mxLe_n mxLe_z) (J2 _ (Option.some.inj e4))
theorem dX2_beginAnew_0 : decode cX2_beginAnew 0 = .ok (.aload_n 0, 1) := by decide +kernel
theorem dX2_beginAnew_1 : decode cX2_beginAnew 1 = .ok (.iload_n 1, 1) := by decide +kernel
theorem dX2_beginAnew_2 : decode cX2_beginAnew 2 = .ok (.putfield 15, 3) := by decide +kernel
theorem dX2_beginAnew_5 : decode cX2_beginAnew 5 = .ok (.aload_n 0, 1) := by decide +kernel
theorem dX2_beginAnew_6 : decode cX2_beginAnew 6 = .ok (.iconst 0, 1) := by decide +kernel
theorem dX2_beginAnew_7 : decode cX2_beginAnew 7 = .ok (.putfield 19, 3) := by decide +kernel
theorem dX2_beginAnew_10 : decode cX2_beginAnew 10 = .ok (.aload_n 0, 1) := by decide +kernel
theorem dX2_beginAnew_11 : decode cX2_beginAnew 11 = .ok (.getfield 22, 3) := by decide +kernel
theorem dX2_beginAnew_14 : decode cX2_beginAnew 14 = .ok (.iconst 0, 1) := by decide +kernel
theorem dX2_beginAnew_15 : decode cX2_beginAnew 15 = .ok (.invokestatic 46, 3) := by decide +kernel
theorem dX2_beginAnew_18 : decode cX2_beginAnew 18 = .ok (.aload_n 0, 1) := by decide +kernel
theorem dX2_beginAnew_19 : decode cX2_beginAnew 19 = .ok (.iconst 0, 1) := by decide +kernel
theorem dX2_beginAnew_20 : decode cX2_beginAnew 20 = .ok (.putfield 25, 3) := by decide +kernel
theorem dX2_beginAnew_23 : decode cX2_beginAnew 23 = .ok (.aload_n 0, 1) := by decide +kernel
theorem dX2_beginAnew_24 : decode cX2_beginAnew 24 = .ok (.iload_n 2, 1) := by decide +kernel
theorem dX2_beginAnew_25 : decode cX2_beginAnew 25 = .ok (.putfield 28, 3) := by decide +kernel
theorem dX2_beginAnew_28 : decode cX2_beginAnew 28 = .ok (.aload_n 0, 1) := by decide +kernel
theorem dX2_beginAnew_29 : decode cX2_beginAnew 29 = .ok (.getfield 31, 3) := by decide +kernel
theorem dX2_beginAnew_32 : decode cX2_beginAnew 32 = .ok (.iconst (-1), 1) := by decide +kernel
theorem dX2_beginAnew_33 : decode cX2_beginAnew 33 = .ok (.invokestatic 46, 3) := by decide +kernel
theorem dX2_beginAnew_36 : decode cX2_beginAnew 36 = .ok (.aload_n 0, 1) := by decide +kernel
theorem dX2_beginAnew_37 : decode cX2_beginAnew 37 = .ok (.getfield 34, 3) := by decide +kernel
theorem dX2_beginAnew_40 : decode cX2_beginAnew 40 = .ok (.iconst 0, 1) := by decide +kernel
theorem dX2_beginAnew_41 : decode cX2_beginAnew 41 = .ok (.invokestatic 46, 3) := by decide +kernel
theorem dX2_beginAnew_44 : decode cX2_beginAnew 44 = .ok (.aload_n 0, 1) := by decide +kernel
theorem dX2_beginAnew_45 : decode cX2_beginAnew 45 = .ok (.iconst 0, 1) := by decide +kernel
theorem dX2_beginAnew_46 : decode cX2_beginAnew 46 = .ok (.putfield 37, 3) := by decide +kernel
theorem dX2_beginAnew_49 : decode cX2_beginAnew 49 = .ok (.return_, 1) := by decide +kernel
def fX2_beginAnew (p0 : Nat) (p1 : Int32) (p2 : Int32) (h : mxH) : Option mxH := Option.bind (pI h p0 2 1 p1) (fun h1 => Option.bind (pI h1 p0 2 2 0) (fun h3 => Option.bind (gR h3 p0 2 3) (fun r5 => Option.bind (fJ7_fill_53178 r5 0 h3) (fun o8 => Option.bind (pI o8 p0 2 4 0) (fun h9 => Option.bind (pI h9 p0 2 5 p2) (fun h11 => Option.bind (gR h11 p0 2 6) (fun r13 => Option.bind (fJ7_fill_53178 r13 (-1) h11) (fun o16 => Option.bind (gR o16 p0 2 7) (fun r17 => Option.bind (fJ7_fill_53178 r17 0 o16) (fun o20 => Option.bind (pI o20 p0 2 8 0) (fun h21 => some h21)))))))))))
abbrev rmX2_beginAnew : Room := { frames := 1, cells := 0, slots := 0, locals := 23 }
set_option maxRecDepth 20000 in
theorem tX2_beginAnew {l : Launch} {Z : mxZ} (hl : l.stackTraces = false) {p0 : Nat} {p1 : Int32} {p2 : Int32} {h : mxH} {out : mxH} (hf : fX2_beginAnew p0 p1 p2 h = some out) : mxMet l Z yX2_beginAnew cX2_beginAnew 3 (none) rmX2_beginAnew [.ref p0, .int p1, .int p2] h (.inl none) out := by
  refine mxMet_of (by decide) hl (by simp [Value.category]) (Nat.le_of_ble_eq_true rfl) ?_
  intro X C E hX hin
  unfold fX2_beginAnew at hf
  refine mG_aload_n (pc := 0) C dX2_beginAnew_0 rfl ?_
  refine mG_iload_n (pc := 1) C dX2_beginAnew_1 rfl ?_
  obtain ⟨h1, e2, hf⟩ := mx_bind hf
  refine mG_putI (pc := 2) C dX2_beginAnew_2 fl_X2_15 e2 ?_
  refine mG_aload_n (pc := 5) C dX2_beginAnew_5 rfl ?_
  refine mG_ic (pc := 6) C dX2_beginAnew_6 kI0 ?_
  obtain ⟨h3, e4, hf⟩ := mx_bind hf
  refine mG_putI (pc := 7) C dX2_beginAnew_7 fl_X2_19 e4 ?_
  refine mG_aload_n (pc := 10) C dX2_beginAnew_10 rfl ?_
  obtain ⟨r5, e6, hf⟩ := mx_bind hf
  refine mG_getR (pc := 11) C dX2_beginAnew_11 fl_X2_22 e6 ?_
  refine mG_ic (pc := 14) C dX2_beginAnew_14 kI0 ?_
  obtain ⟨o8, e7, hf⟩ := mx_bind hf
  refine mG_cS (pc := 15) (k' := 0) (n' := 0) [.ref r5, .int 0] [] C hX dX2_beginAnew_15 lkS_X2_46 rfl (tJ7_fill_53178 hl e7) rfl rfl rfl rfl ?_
  refine mG_aload_n (pc := 18) C dX2_beginAnew_18 rfl ?_
  refine mG_ic (pc := 19) C dX2_beginAnew_19 kI0 ?_
  obtain ⟨h9, e10, hf⟩ := mx_bind hf
  refine mG_putI (pc := 20) C dX2_beginAnew_20 fl_X2_25 e10 ?_
  refine mG_aload_n (pc := 23) C dX2_beginAnew_23 rfl ?_
  refine mG_iload_n (pc := 24) C dX2_beginAnew_24 rfl ?_
  obtain ⟨h11, e12, hf⟩ := mx_bind hf
  refine mG_putI (pc := 25) C dX2_beginAnew_25 fl_X2_28 e12 ?_
  refine mG_aload_n (pc := 28) C dX2_beginAnew_28 rfl ?_
  obtain ⟨r13, e14, hf⟩ := mx_bind hf
  refine mG_getR (pc := 29) C dX2_beginAnew_29 fl_X2_31 e14 ?_
  refine mG_ic (pc := 32) C dX2_beginAnew_32 kIm1 ?_
  obtain ⟨o16, e15, hf⟩ := mx_bind hf
  refine mG_cS (pc := 33) (k' := 0) (n' := 0) [.ref r13, .int (-1)] [] C hX dX2_beginAnew_33 lkS_X2_46 rfl (tJ7_fill_53178 hl e15) rfl rfl rfl rfl ?_
  refine mG_aload_n (pc := 36) C dX2_beginAnew_36 rfl ?_
  obtain ⟨r17, e18, hf⟩ := mx_bind hf
  refine mG_getR (pc := 37) C dX2_beginAnew_37 fl_X2_34 e18 ?_
  refine mG_ic (pc := 40) C dX2_beginAnew_40 kI0 ?_
  obtain ⟨o20, e19, hf⟩ := mx_bind hf
  refine mG_cS (pc := 41) (k' := 0) (n' := 0) [.ref r17, .int 0] [] C hX dX2_beginAnew_41 lkS_X2_46 rfl (tJ7_fill_53178 hl e19) rfl rfl rfl rfl ?_
  refine mG_aload_n (pc := 44) C dX2_beginAnew_44 rfl ?_
  refine mG_ic (pc := 45) C dX2_beginAnew_45 kI0 ?_
  obtain ⟨h21, e22, hf⟩ := mx_bind hf
  refine mG_putI (pc := 46) C dX2_beginAnew_46 fl_X2_37 e22 ?_
  cases hf
  exact mG_vr (pc := 49) C E hX dX2_beginAnew_49 rfl
theorem dX2_dropOldest_0 : decode cX2_dropOldest 0 = .ok (.aload_n 0, 1) := by decide +kernel
theorem dX2_dropOldest_1 : decode cX2_dropOldest 1 = .ok (.getfield 9, 3) := by decide +kernel
theorem dX2_dropOldest_4 : decode cX2_dropOldest 4 = .ok (.iconst 0, 1) := by decide +kernel
theorem dX2_dropOldest_5 : decode cX2_dropOldest 5 = .ok (.iaload, 1) := by decide +kernel
theorem dX2_dropOldest_6 : decode cX2_dropOldest 6 = .ok (.istore_n 1, 1) := by decide +kernel
theorem dX2_dropOldest_7 : decode cX2_dropOldest 7 = .ok (.iconst 0, 1) := by decide +kernel
theorem dX2_dropOldest_8 : decode cX2_dropOldest 8 = .ok (.istore_n 2, 1) := by decide +kernel
theorem dX2_dropOldest_9 : decode cX2_dropOldest 9 = .ok (.iload_n 2, 1) := by decide +kernel
theorem dX2_dropOldest_10 : decode cX2_dropOldest 10 = .ok (.iconst 1, 1) := by decide +kernel
theorem dX2_dropOldest_11 : decode cX2_dropOldest 11 = .ok (.iadd, 1) := by decide +kernel
theorem dX2_dropOldest_12 : decode cX2_dropOldest 12 = .ok (.bipush 10, 2) := by decide +kernel
theorem dX2_dropOldest_14 : decode cX2_dropOldest 14 = .ok (.if_icmp .ge 23, 3) := by decide +kernel
theorem dX2_dropOldest_17 : decode cX2_dropOldest 17 = .ok (.aload_n 0, 1) := by decide +kernel
theorem dX2_dropOldest_18 : decode cX2_dropOldest 18 = .ok (.getfield 9, 3) := by decide +kernel
theorem dX2_dropOldest_21 : decode cX2_dropOldest 21 = .ok (.iload_n 2, 1) := by decide +kernel
theorem dX2_dropOldest_22 : decode cX2_dropOldest 22 = .ok (.aload_n 0, 1) := by decide +kernel
theorem dX2_dropOldest_23 : decode cX2_dropOldest 23 = .ok (.getfield 9, 3) := by decide +kernel
theorem dX2_dropOldest_26 : decode cX2_dropOldest 26 = .ok (.iload_n 2, 1) := by decide +kernel
theorem dX2_dropOldest_27 : decode cX2_dropOldest 27 = .ok (.iconst 1, 1) := by decide +kernel
theorem dX2_dropOldest_28 : decode cX2_dropOldest 28 = .ok (.iadd, 1) := by decide +kernel
theorem dX2_dropOldest_29 : decode cX2_dropOldest 29 = .ok (.iaload, 1) := by decide +kernel
theorem dX2_dropOldest_30 : decode cX2_dropOldest 30 = .ok (.iastore, 1) := by decide +kernel
theorem dX2_dropOldest_31 : decode cX2_dropOldest 31 = .ok (.iinc 2 1, 3) := by decide +kernel
theorem dX2_dropOldest_34 : decode cX2_dropOldest 34 = .ok (.goto (-25), 3) := by decide +kernel
theorem dX2_dropOldest_37 : decode cX2_dropOldest 37 = .ok (.aload_n 0, 1) := by decide +kernel
theorem dX2_dropOldest_38 : decode cX2_dropOldest 38 = .ok (.dup, 1) := by decide +kernel
theorem dX2_dropOldest_39 : decode cX2_dropOldest 39 = .ok (.getfield 19, 3) := by decide +kernel
theorem dX2_dropOldest_42 : decode cX2_dropOldest 42 = .ok (.iconst 1, 1) := by decide +kernel
theorem dX2_dropOldest_43 : decode cX2_dropOldest 43 = .ok (.isub, 1) := by decide +kernel
theorem dX2_dropOldest_44 : decode cX2_dropOldest 44 = .ok (.putfield 19, 3) := by decide +kernel
theorem dX2_dropOldest_47 : decode cX2_dropOldest 47 = .ok (.iload_n 1, 1) := by decide +kernel
theorem dX2_dropOldest_48 : decode cX2_dropOldest 48 = .ok (.ireturn, 1) := by decide +kernel
def fX2_dropOldest (p0 : Nat) (h : mxH) : Option (Int32 × mxH) := Option.bind (gR h p0 2 0) (fun r1 => Option.bind (ldI h r1 0) (fun v3 => Option.bind (mxLoop (ρ := mxH) (fun s5 : (Int32 × mxH) => (if 10 ≤ (s5.1 + 1) then some (Sum.inr s5.2) else Option.bind (gR s5.2 p0 2 0) (fun r14 => Option.bind (gR s5.2 p0 2 0) (fun r16 => Option.bind (ldI s5.2 r16 (s5.1 + 1)) (fun v18 => Option.bind (stI s5.2 r14 s5.1 v18) (fun h20 => some (Sum.inl (s5.1 + 1, h20)))))))) mxF (0, h)) (fun r22 : mxH => Option.bind (gI r22 p0 2 2) (fun v23 => Option.bind (pI r22 p0 2 2 (v23 - 1)) (fun h25 => some (v3, h25))))))
abbrev rmX2_dropOldest : Room := { frames := 0, cells := 0, slots := 0, locals := 0 }
set_option maxRecDepth 20000 in
theorem tX2_dropOldest {l : Launch} {Z : mxZ} (hl : l.stackTraces = false) {p0 : Nat} {h : mxH} {out : (Int32 × mxH)} (hf : fX2_dropOldest p0 h = some out) : mxMet l Z yX2_dropOldest cX2_dropOldest 3 (some .int) rmX2_dropOldest [.ref p0] h (.inl (some (.int out.1))) out.2 := by
  refine mxMet_of (by decide) hl (by simp [Value.category]) (Nat.le_of_ble_eq_true rfl) ?_
  intro X C E hX hin
  unfold fX2_dropOldest at hf
  refine mG_aload_n (pc := 0) C dX2_dropOldest_0 rfl ?_
  obtain ⟨r1, e2, hf⟩ := mx_bind hf
  refine mG_getR (pc := 1) C dX2_dropOldest_1 fl_X2_9 e2 ?_
  refine mG_ic (pc := 4) C dX2_dropOldest_4 kI0 ?_
  obtain ⟨v3, e4, hf⟩ := mx_bind hf
  refine mG_iaload (pc := 5) C dX2_dropOldest_5 e4 ?_
  refine mG_isn (ls' := [some (.ref p0), some (.int v3), none]) (pc := 6) C dX2_dropOldest_6 rfl rfl rfl ?_
  refine mG_ic (pc := 7) C dX2_dropOldest_7 kI0 ?_
  refine mG_isn (ls' := [some (.ref p0), some (.int v3), some (.int 0)]) (pc := 8) C dX2_dropOldest_8 rfl rfl rfl ?_
  obtain ⟨r6, e7, hf⟩ := mx_bind hf
  have J8 : ∀ r22 : mxH, r22 = r6 → mG l Z X 3 0 0 37 [some (.ref p0), some (.int v3), none] [] r22 := by
    intro r22 q27
    subst q27
    refine mG_aload_n (pc := 37) C dX2_dropOldest_37 rfl ?_
    refine mG_dup (pc := 38) C dX2_dropOldest_38 rfl ?_
    obtain ⟨v23, e24, hf⟩ := mx_bind hf
    refine mG_getI (pc := 39) C dX2_dropOldest_39 fl_X2_19 e24 ?_
    refine mG_ic (pc := 42) C dX2_dropOldest_42 kI1 ?_
    refine mG_isub (pc := 43) C dX2_dropOldest_43 ?_
    obtain ⟨h25, e26, hf⟩ := mx_bind hf
    refine mG_putI (pc := 44) C dX2_dropOldest_44 fl_X2_19 e26 ?_
    refine mG_iload_n (pc := 47) C dX2_dropOldest_47 rfl ?_
    cases hf
    exact mG_ir (pc := 48) C E hX dX2_dropOldest_48 rfl
  refine mG_sub (ls' := [some (.ref p0), some (.int v3), some (.int 0)]) (mxLe_s (mxLe_s (mxLe_s mxLe_z))) (mxLoop_ind (K := fun s5 : (Int32 × mxH) => mG l Z X 3 0 0 9 [some (.ref p0), some (.int v3), some (.int s5.1)] [] s5.2) ?_ _ _ e7)
  intro s5 o11 e12 hK9 hx10
  refine mG_iload_n (pc := 9) C dX2_dropOldest_9 rfl ?_
  refine mG_ic (pc := 10) C dX2_dropOldest_10 kI1 ?_
  refine mG_iadd (pc := 11) C dX2_dropOldest_11 ?_
  refine mG_bp (pc := 12) C dX2_dropOldest_12 kB10 ?_
  refine mG_icmp_ge (pc := 14) (tgt := 37) C dX2_dropOldest_14 (by decide) (fun q13 => ?_) (fun q13 => ?_)
  · rw [if_pos q13] at e12
    exact mG_sub (mxLe_s (mxLe_s (mxLe_n mxLe_z))) (J8 _ (hx10 _ (Option.some.inj e12).symm))
  · rw [if_neg q13] at e12
    refine mG_aload_n (pc := 17) C dX2_dropOldest_17 rfl ?_
    obtain ⟨r14, e15, e12⟩ := mx_bind e12
    refine mG_getR (pc := 18) C dX2_dropOldest_18 fl_X2_9 e15 ?_
    refine mG_iload_n (pc := 21) C dX2_dropOldest_21 rfl ?_
    refine mG_aload_n (pc := 22) C dX2_dropOldest_22 rfl ?_
    obtain ⟨r16, e17, e12⟩ := mx_bind e12
    refine mG_getR (pc := 23) C dX2_dropOldest_23 fl_X2_9 e17 ?_
    refine mG_iload_n (pc := 26) C dX2_dropOldest_26 rfl ?_
    refine mG_ic (pc := 27) C dX2_dropOldest_27 kI1 ?_
    refine mG_iadd (pc := 28) C dX2_dropOldest_28 ?_
    obtain ⟨v18, e19, e12⟩ := mx_bind e12
    refine mG_iaload (pc := 29) C dX2_dropOldest_29 e19 ?_
    obtain ⟨h20, e21, e12⟩ := mx_bind e12
    refine mG_iastore (pc := 30) C dX2_dropOldest_30 e21 ?_
    refine mG_ii (ls' := [some (.ref p0), some (.int v3), some (.int (s5.1 + 1))]) (pc := 31) C dX2_dropOldest_31 rfl (kinc1 _) rfl rfl rfl ?_
    refine mG_goto (tgt := 9) (pc := 34) C dX2_dropOldest_34 (by decide) ?_
    exact mG_sub (mxLe_s (mxLe_s (mxLe_s mxLe_z))) (hK9 _ (Option.some.inj e12).symm)
theorem dX2_isNumber_0 : decode cX2_isNumber 0 = .ok (.iload_n 0, 1) := by decide +kernel
theorem dX2_isNumber_1 : decode cX2_isNumber 1 = .ok (.ifCond .lt 13, 3) := by decide +kernel
theorem dX2_isNumber_4 : decode cX2_isNumber 4 = .ok (.iload_n 0, 1) := by decide +kernel
theorem dX2_isNumber_5 : decode cX2_isNumber 5 = .ok (.bipush 99, 2) := by decide +kernel
theorem dX2_isNumber_7 : decode cX2_isNumber 7 = .ok (.if_icmp .gt 7, 3) := by decide +kernel
theorem dX2_isNumber_10 : decode cX2_isNumber 10 = .ok (.iconst 1, 1) := by decide +kernel
theorem dX2_isNumber_11 : decode cX2_isNumber 11 = .ok (.goto 4, 3) := by decide +kernel
theorem dX2_isNumber_14 : decode cX2_isNumber 14 = .ok (.iconst 0, 1) := by decide +kernel
theorem dX2_isNumber_15 : decode cX2_isNumber 15 = .ok (.ireturn, 1) := by decide +kernel
def fX2_isNumber (p0 : Int32) (h : mxH) : Option Int32 := Option.bind (α := Int32) (if p0 < 0 then some 0 else (if 99 < p0 then some 0 else some 1)) (fun p3' : Int32 => Option.bind (mxZ1 p3') (fun v6 => some v6))
abbrev rmX2_isNumber : Room := { frames := 0, cells := 0, slots := 0, locals := 0 }
set_option maxRecDepth 20000 in
theorem tX2_isNumber {l : Launch} {Z : mxZ} (hl : l.stackTraces = false) {p0 : Int32} {h : mxH} {out : Int32} (hf : fX2_isNumber p0 h = some out) : mxMet l Z yX2_isNumber cX2_isNumber 1 (some .boolean) rmX2_isNumber [.int p0] h (.inl (some (.int out))) h := by
  refine mxMet_of (by decide) hl (by simp [Value.category]) (Nat.le_of_ble_eq_true rfl) ?_
  intro X C E hX hin
  unfold fX2_isNumber at hf
  refine mG_iload_n (pc := 0) C dX2_isNumber_0 rfl ?_
  obtain ⟨p3, e4, hf⟩ := mx_bind hf
  have J2 : ∀ p3' : Int32, p3' = p3 → mG l Z X 1 0 0 15 [none] [.int p3'] h := by
    intro p3' q8
    subst q8
    obtain ⟨v6, e7, hf⟩ := mx_bind hf
    cases hf
    exact mG_zr (pc := 15) C e7 E hX dX2_isNumber_15 rfl
  refine mG_if_lt (pc := 1) (tgt := 14) C dX2_isNumber_1 (by decide) (fun q1 => ?_) (fun q1 => ?_)
  · rw [if_pos q1] at e4
    refine mG_ic (pc := 14) C dX2_isNumber_14 kI0 ?_
    exact mG_sub (mxLe_n mxLe_z) (J2 _ (Option.some.inj e4))
  · rw [if_neg q1] at e4
    refine mG_iload_n (pc := 4) C dX2_isNumber_4 rfl ?_
    refine mG_bp (pc := 5) C dX2_isNumber_5 kB99 ?_
    refine mG_icmp_gt (pc := 7) (tgt := 14) C dX2_isNumber_7 (by decide) (fun q5 => ?_) (fun q5 => ?_)
    · rw [if_pos q5] at e4
      refine mG_ic (pc := 14) C dX2_isNumber_14 kI0 ?_
      exact mG_sub (mxLe_n mxLe_z) (J2 _ (Option.some.inj e4))
    · rw [if_neg q5] at e4
      refine mG_ic (pc := 10) C dX2_isNumber_10 kI1 ?_
      refine mG_goto (tgt := 15) (pc := 11) C dX2_isNumber_11 (by decide) ?_
      exact mG_sub (mxLe_n mxLe_z) (J2 _ (Option.some.inj e4))
theorem dX2_countAllLess_0 : decode cX2_countAllLess 0 = .ok (.iconst 0, 1) := by decide +kernel
theorem dX2_countAllLess_1 : decode cX2_countAllLess 1 = .ok (.istore_n 1, 1) := by decide +kernel
theorem dX2_countAllLess_2 : decode cX2_countAllLess 2 = .ok (.iload_n 1, 1) := by decide +kernel
theorem dX2_countAllLess_3 : decode cX2_countAllLess 3 = .ok (.aload_n 0, 1) := by decide +kernel
theorem dX2_countAllLess_4 : decode cX2_countAllLess 4 = .ok (.getfield 28, 3) := by decide +kernel
theorem dX2_countAllLess_7 : decode cX2_countAllLess 7 = .ok (.if_icmp .ge 40, 3) := by decide +kernel
theorem dX2_countAllLess_10 : decode cX2_countAllLess 10 = .ok (.iload_n 1, 1) := by decide +kernel
theorem dX2_countAllLess_11 : decode cX2_countAllLess 11 = .ok (.iconst 4, 1) := by decide +kernel
theorem dX2_countAllLess_12 : decode cX2_countAllLess 12 = .ok (.if_icmp .ge 35, 3) := by decide +kernel
theorem dX2_countAllLess_15 : decode cX2_countAllLess 15 = .ok (.aload_n 0, 1) := by decide +kernel
theorem dX2_countAllLess_16 : decode cX2_countAllLess 16 = .ok (.getfield 34, 3) := by decide +kernel
theorem dX2_countAllLess_19 : decode cX2_countAllLess 19 = .ok (.iload_n 1, 1) := by decide +kernel
theorem dX2_countAllLess_20 : decode cX2_countAllLess 20 = .ok (.dup2, 1) := by decide +kernel
theorem dX2_countAllLess_21 : decode cX2_countAllLess 21 = .ok (.iaload, 1) := by decide +kernel
theorem dX2_countAllLess_22 : decode cX2_countAllLess 22 = .ok (.iconst 1, 1) := by decide +kernel
theorem dX2_countAllLess_23 : decode cX2_countAllLess 23 = .ok (.isub, 1) := by decide +kernel
theorem dX2_countAllLess_24 : decode cX2_countAllLess 24 = .ok (.iastore, 1) := by decide +kernel
theorem dX2_countAllLess_25 : decode cX2_countAllLess 25 = .ok (.aload_n 0, 1) := by decide +kernel
theorem dX2_countAllLess_26 : decode cX2_countAllLess 26 = .ok (.getfield 34, 3) := by decide +kernel
theorem dX2_countAllLess_29 : decode cX2_countAllLess 29 = .ok (.iload_n 1, 1) := by decide +kernel
theorem dX2_countAllLess_30 : decode cX2_countAllLess 30 = .ok (.iaload, 1) := by decide +kernel
theorem dX2_countAllLess_31 : decode cX2_countAllLess 31 = .ok (.ifCond .ne 10, 3) := by decide +kernel
theorem dX2_countAllLess_34 : decode cX2_countAllLess 34 = .ok (.aload_n 0, 1) := by decide +kernel
theorem dX2_countAllLess_35 : decode cX2_countAllLess 35 = .ok (.getfield 31, 3) := by decide +kernel
theorem dX2_countAllLess_38 : decode cX2_countAllLess 38 = .ok (.iload_n 1, 1) := by decide +kernel
theorem dX2_countAllLess_39 : decode cX2_countAllLess 39 = .ok (.iconst (-1), 1) := by decide +kernel
theorem dX2_countAllLess_40 : decode cX2_countAllLess 40 = .ok (.iastore, 1) := by decide +kernel
theorem dX2_countAllLess_41 : decode cX2_countAllLess 41 = .ok (.iinc 1 1, 3) := by decide +kernel
theorem dX2_countAllLess_44 : decode cX2_countAllLess 44 = .ok (.goto (-42), 3) := by decide +kernel
theorem dX2_countAllLess_47 : decode cX2_countAllLess 47 = .ok (.aload_n 0, 1) := by decide +kernel
theorem dX2_countAllLess_48 : decode cX2_countAllLess 48 = .ok (.dup, 1) := by decide +kernel
theorem dX2_countAllLess_49 : decode cX2_countAllLess 49 = .ok (.getfield 37, 3) := by decide +kernel
theorem dX2_countAllLess_52 : decode cX2_countAllLess 52 = .ok (.iconst 1, 1) := by decide +kernel
theorem dX2_countAllLess_53 : decode cX2_countAllLess 53 = .ok (.iadd, 1) := by decide +kernel
theorem dX2_countAllLess_54 : decode cX2_countAllLess 54 = .ok (.putfield 37, 3) := by decide +kernel
theorem dX2_countAllLess_57 : decode cX2_countAllLess 57 = .ok (.return_, 1) := by decide +kernel
def fX2_countAllLess (p0 : Nat) (h : mxH) : Option mxH := Option.bind (mxLoop (ρ := mxH) (fun s1 : (Int32 × mxH) => Option.bind (gI s1.2 p0 2 5) (fun v9 => (if v9 ≤ s1.1 then some (Sum.inr s1.2) else (if 4 ≤ s1.1 then some (Sum.inr s1.2) else Option.bind (gR s1.2 p0 2 7) (fun r13 => Option.bind (ldI s1.2 r13 s1.1) (fun v15 => Option.bind (stI s1.2 r13 s1.1 (v15 - 1)) (fun h17 => Option.bind (gR h17 p0 2 7) (fun r19 => Option.bind (ldI h17 r19 s1.1) (fun v21 => Option.bind (α := mxH) (if v21 = 0 then Option.bind (gR h17 p0 2 6) (fun r27 => Option.bind (stI h17 r27 s1.1 (-1)) (fun h29 => some h29)) else some h17) (fun p25' : mxH => some (Sum.inl (s1.1 + 1, p25')))))))))))) mxF (0, h)) (fun r32 : mxH => Option.bind (gI r32 p0 2 8) (fun v33 => Option.bind (pI r32 p0 2 8 (v33 + 1)) (fun h35 => some h35)))
abbrev rmX2_countAllLess : Room := { frames := 0, cells := 0, slots := 0, locals := 0 }
set_option maxRecDepth 20000 in
theorem tX2_countAllLess {l : Launch} {Z : mxZ} (hl : l.stackTraces = false) {p0 : Nat} {h : mxH} {out : mxH} (hf : fX2_countAllLess p0 h = some out) : mxMet l Z yX2_countAllLess cX2_countAllLess 2 (none) rmX2_countAllLess [.ref p0] h (.inl none) out := by
  refine mxMet_of (by decide) hl (by simp [Value.category]) (Nat.le_of_ble_eq_true rfl) ?_
  intro X C E hX hin
  unfold fX2_countAllLess at hf
  refine mG_ic (pc := 0) C dX2_countAllLess_0 kI0 ?_
  refine mG_isn (ls' := [some (.ref p0), some (.int 0)]) (pc := 1) C dX2_countAllLess_1 rfl rfl rfl ?_
  obtain ⟨r2, e3, hf⟩ := mx_bind hf
  have J4 : ∀ r32 : mxH, r32 = r2 → mG l Z X 2 0 0 47 [some (.ref p0), none] [] r32 := by
    intro r32 q37
    subst q37
    refine mG_aload_n (pc := 47) C dX2_countAllLess_47 rfl ?_
    refine mG_dup (pc := 48) C dX2_countAllLess_48 rfl ?_
    obtain ⟨v33, e34, hf⟩ := mx_bind hf
    refine mG_getI (pc := 49) C dX2_countAllLess_49 fl_X2_37 e34 ?_
    refine mG_ic (pc := 52) C dX2_countAllLess_52 kI1 ?_
    refine mG_iadd (pc := 53) C dX2_countAllLess_53 ?_
    obtain ⟨h35, e36, hf⟩ := mx_bind hf
    refine mG_putI (pc := 54) C dX2_countAllLess_54 fl_X2_37 e36 ?_
    cases hf
    exact mG_vr (pc := 57) C E hX dX2_countAllLess_57 rfl
  refine mG_sub (ls' := [some (.ref p0), some (.int 0)]) (mxLe_s (mxLe_s mxLe_z)) (mxLoop_ind (K := fun s1 : (Int32 × mxH) => mG l Z X 2 0 0 2 [some (.ref p0), some (.int s1.1)] [] s1.2) ?_ _ _ e3)
  intro s1 o7 e8 hK5 hx6
  refine mG_iload_n (pc := 2) C dX2_countAllLess_2 rfl ?_
  refine mG_aload_n (pc := 3) C dX2_countAllLess_3 rfl ?_
  obtain ⟨v9, e10, e8⟩ := mx_bind e8
  refine mG_getI (pc := 4) C dX2_countAllLess_4 fl_X2_28 e10 ?_
  refine mG_icmp_ge (pc := 7) (tgt := 47) C dX2_countAllLess_7 (by decide) (fun q11 => ?_) (fun q11 => ?_)
  · rw [if_pos q11] at e8
    exact mG_sub (mxLe_s (mxLe_n mxLe_z)) (J4 _ (hx6 _ (Option.some.inj e8).symm))
  · rw [if_neg q11] at e8
    refine mG_iload_n (pc := 10) C dX2_countAllLess_10 rfl ?_
    refine mG_ic (pc := 11) C dX2_countAllLess_11 kI4 ?_
    refine mG_icmp_ge (pc := 12) (tgt := 47) C dX2_countAllLess_12 (by decide) (fun q12 => ?_) (fun q12 => ?_)
    · rw [if_pos q12] at e8
      exact mG_sub (mxLe_s (mxLe_n mxLe_z)) (J4 _ (hx6 _ (Option.some.inj e8).symm))
    · rw [if_neg q12] at e8
      refine mG_aload_n (pc := 15) C dX2_countAllLess_15 rfl ?_
      obtain ⟨r13, e14, e8⟩ := mx_bind e8
      refine mG_getR (pc := 16) C dX2_countAllLess_16 fl_X2_34 e14 ?_
      refine mG_iload_n (pc := 19) C dX2_countAllLess_19 rfl ?_
      refine mG_dup2 (pc := 20) C dX2_countAllLess_20 rfl rfl ?_
      obtain ⟨v15, e16, e8⟩ := mx_bind e8
      refine mG_iaload (pc := 21) C dX2_countAllLess_21 e16 ?_
      refine mG_ic (pc := 22) C dX2_countAllLess_22 kI1 ?_
      refine mG_isub (pc := 23) C dX2_countAllLess_23 ?_
      obtain ⟨h17, e18, e8⟩ := mx_bind e8
      refine mG_iastore (pc := 24) C dX2_countAllLess_24 e18 ?_
      refine mG_aload_n (pc := 25) C dX2_countAllLess_25 rfl ?_
      obtain ⟨r19, e20, e8⟩ := mx_bind e8
      refine mG_getR (pc := 26) C dX2_countAllLess_26 fl_X2_34 e20 ?_
      refine mG_iload_n (pc := 29) C dX2_countAllLess_29 rfl ?_
      obtain ⟨v21, e22, e8⟩ := mx_bind e8
      refine mG_iaload (pc := 30) C dX2_countAllLess_30 e22 ?_
      obtain ⟨p25, e26, e8⟩ := mx_bind e8
      have J24 : ∀ p25' : mxH, p25' = p25 → mG l Z X 2 0 0 41 [some (.ref p0), some (.int s1.1)] [] p25' := by
        intro p25' q31
        subst q31
        refine mG_ii (ls' := [some (.ref p0), some (.int (s1.1 + 1))]) (pc := 41) C dX2_countAllLess_41 rfl (kinc1 _) rfl rfl rfl ?_
        refine mG_goto (tgt := 2) (pc := 44) C dX2_countAllLess_44 (by decide) ?_
        exact mG_sub (mxLe_s (mxLe_s mxLe_z)) (hK5 _ (Option.some.inj e8).symm)
      refine mG_if_ne (pc := 31) (tgt := 41) C dX2_countAllLess_31 (by decide) (fun q23 => ?_) (fun q23 => ?_)
      · rw [if_neg q23] at e26
        exact mG_sub (mxLe_s (mxLe_s mxLe_z)) (J24 _ (Option.some.inj e26))
      · rw [if_pos q23] at e26
        refine mG_aload_n (pc := 34) C dX2_countAllLess_34 rfl ?_
        obtain ⟨r27, e28, e26⟩ := mx_bind e26
        refine mG_getR (pc := 35) C dX2_countAllLess_35 fl_X2_31 e28 ?_
        refine mG_iload_n (pc := 38) C dX2_countAllLess_38 rfl ?_
        refine mG_ic (pc := 39) C dX2_countAllLess_39 kIm1 ?_
        obtain ⟨h29, e30, e26⟩ := mx_bind e26
        refine mG_iastore (pc := 40) C dX2_countAllLess_40 e30 ?_
        exact mG_sub (mxLe_s (mxLe_s mxLe_z)) (J24 _ (Option.some.inj e26))
theorem dX2_counterOf_0 : decode cX2_counterOf 0 = .ok (.iconst 0, 1) := by decide +kernel
theorem dX2_counterOf_1 : decode cX2_counterOf 1 = .ok (.istore_n 2, 1) := by decide +kernel
theorem dX2_counterOf_2 : decode cX2_counterOf 2 = .ok (.iload_n 2, 1) := by decide +kernel
theorem dX2_counterOf_3 : decode cX2_counterOf 3 = .ok (.aload_n 0, 1) := by decide +kernel
theorem dX2_counterOf_4 : decode cX2_counterOf 4 = .ok (.getfield 28, 3) := by decide +kernel
theorem dX2_counterOf_7 : decode cX2_counterOf 7 = .ok (.if_icmp .ge 26, 3) := by decide +kernel
theorem dX2_counterOf_10 : decode cX2_counterOf 10 = .ok (.iload_n 2, 1) := by decide +kernel
theorem dX2_counterOf_11 : decode cX2_counterOf 11 = .ok (.iconst 4, 1) := by decide +kernel
theorem dX2_counterOf_12 : decode cX2_counterOf 12 = .ok (.if_icmp .ge 21, 3) := by decide +kernel
theorem dX2_counterOf_15 : decode cX2_counterOf 15 = .ok (.aload_n 0, 1) := by decide +kernel
theorem dX2_counterOf_16 : decode cX2_counterOf 16 = .ok (.getfield 31, 3) := by decide +kernel
theorem dX2_counterOf_19 : decode cX2_counterOf 19 = .ok (.iload_n 2, 1) := by decide +kernel
theorem dX2_counterOf_20 : decode cX2_counterOf 20 = .ok (.iaload, 1) := by decide +kernel
theorem dX2_counterOf_21 : decode cX2_counterOf 21 = .ok (.iload_n 1, 1) := by decide +kernel
theorem dX2_counterOf_22 : decode cX2_counterOf 22 = .ok (.if_icmp .ne 5, 3) := by decide +kernel
theorem dX2_counterOf_25 : decode cX2_counterOf 25 = .ok (.iload_n 2, 1) := by decide +kernel
theorem dX2_counterOf_26 : decode cX2_counterOf 26 = .ok (.ireturn, 1) := by decide +kernel
theorem dX2_counterOf_27 : decode cX2_counterOf 27 = .ok (.iinc 2 1, 3) := by decide +kernel
theorem dX2_counterOf_30 : decode cX2_counterOf 30 = .ok (.goto (-28), 3) := by decide +kernel
theorem dX2_counterOf_33 : decode cX2_counterOf 33 = .ok (.iconst (-1), 1) := by decide +kernel
theorem dX2_counterOf_34 : decode cX2_counterOf 34 = .ok (.ireturn, 1) := by decide +kernel
def fX2_counterOf (p0 : Nat) (p1 : Int32) (h : mxH) : Option Int32 := Option.bind (mxLoop (ρ := (Int32 ⊕ Unit)) (fun s1 : Int32 => Option.bind (gI h p0 2 5) (fun v10 => (if v10 ≤ s1 then some (Sum.inr (Sum.inr ())) else (if 4 ≤ s1 then some (Sum.inr (Sum.inr ())) else Option.bind (gR h p0 2 6) (fun r14 => Option.bind (ldI h r14 s1) (fun v16 => (if v16 = p1 then some (Sum.inr (Sum.inl s1)) else some (Sum.inl (s1 + 1))))))))) mxF 0) (Sum.elim (fun r19 : Int32 => some r19) (fun r21 : Unit => some (-1)))
abbrev rmX2_counterOf : Room := { frames := 0, cells := 0, slots := 0, locals := 0 }
set_option maxRecDepth 20000 in
theorem tX2_counterOf {l : Launch} {Z : mxZ} (hl : l.stackTraces = false) {p0 : Nat} {p1 : Int32} {h : mxH} {out : Int32} (hf : fX2_counterOf p0 p1 h = some out) : mxMet l Z yX2_counterOf cX2_counterOf 3 (some .int) rmX2_counterOf [.ref p0, .int p1] h (.inl (some (.int out))) h := by
  refine mxMet_of (by decide) hl (by simp [Value.category]) (Nat.le_of_ble_eq_true rfl) ?_
  intro X C E hX hin
  unfold fX2_counterOf at hf
  refine mG_ic (pc := 0) C dX2_counterOf_0 kI0 ?_
  refine mG_isn (ls' := [some (.ref p0), some (.int p1), some (.int 0)]) (pc := 1) C dX2_counterOf_1 rfl rfl rfl ?_
  obtain ⟨r2, e3, hf⟩ := mx_bind hf
  have J4 : ∀ r19 : Int32, Sum.inl r19 = r2 → mG l Z X 3 0 0 25 [none, none, some (.int r19)] [] h := by
    intro r19 q20
    subst q20
    rw [Sum.elim_inl] at hf
    refine mG_iload_n (pc := 25) C dX2_counterOf_25 rfl ?_
    cases hf
    exact mG_ir (pc := 26) C E hX dX2_counterOf_26 rfl
  have J5 : ∀ r21 : Unit, Sum.inr r21 = r2 → mG l Z X 3 0 0 33 [none, none, none] [] h := by
    intro r21 q22
    subst q22
    rw [Sum.elim_inr] at hf
    refine mG_ic (pc := 33) C dX2_counterOf_33 kIm1 ?_
    cases hf
    exact mG_ir (pc := 34) C E hX dX2_counterOf_34 rfl
  refine mG_sub (ls' := [some (.ref p0), some (.int p1), some (.int 0)]) (mxLe_s (mxLe_s (mxLe_s mxLe_z))) (mxLoop_ind (K := fun s1 : Int32 => mG l Z X 3 0 0 2 [some (.ref p0), some (.int p1), some (.int s1)] [] h) ?_ _ _ e3)
  intro s1 o8 e9 hK6 hx7
  refine mG_iload_n (pc := 2) C dX2_counterOf_2 rfl ?_
  refine mG_aload_n (pc := 3) C dX2_counterOf_3 rfl ?_
  obtain ⟨v10, e11, e9⟩ := mx_bind e9
  refine mG_getI (pc := 4) C dX2_counterOf_4 fl_X2_28 e11 ?_
  refine mG_icmp_ge (pc := 7) (tgt := 33) C dX2_counterOf_7 (by decide) (fun q12 => ?_) (fun q12 => ?_)
  · rw [if_pos q12] at e9
    exact mG_sub (mxLe_n (mxLe_n (mxLe_n mxLe_z))) (J5 _ (hx7 _ (Option.some.inj e9).symm))
  · rw [if_neg q12] at e9
    refine mG_iload_n (pc := 10) C dX2_counterOf_10 rfl ?_
    refine mG_ic (pc := 11) C dX2_counterOf_11 kI4 ?_
    refine mG_icmp_ge (pc := 12) (tgt := 33) C dX2_counterOf_12 (by decide) (fun q13 => ?_) (fun q13 => ?_)
    · rw [if_pos q13] at e9
      exact mG_sub (mxLe_n (mxLe_n (mxLe_n mxLe_z))) (J5 _ (hx7 _ (Option.some.inj e9).symm))
    · rw [if_neg q13] at e9
      refine mG_aload_n (pc := 15) C dX2_counterOf_15 rfl ?_
      obtain ⟨r14, e15, e9⟩ := mx_bind e9
      refine mG_getR (pc := 16) C dX2_counterOf_16 fl_X2_31 e15 ?_
      refine mG_iload_n (pc := 19) C dX2_counterOf_19 rfl ?_
      obtain ⟨v16, e17, e9⟩ := mx_bind e9
      refine mG_iaload (pc := 20) C dX2_counterOf_20 e17 ?_
      refine mG_iload_n (pc := 21) C dX2_counterOf_21 rfl ?_
      refine mG_icmp_ne (pc := 22) (tgt := 27) C dX2_counterOf_22 (by decide) (fun q18 => ?_) (fun q18 => ?_)
      · rw [if_neg q18] at e9
        refine mG_ii (ls' := [some (.ref p0), some (.int p1), some (.int (s1 + 1))]) (pc := 27) C dX2_counterOf_27 rfl (kinc1 _) rfl rfl rfl ?_
        refine mG_goto (tgt := 2) (pc := 30) C dX2_counterOf_30 (by decide) ?_
        exact mG_sub (mxLe_s (mxLe_s (mxLe_s mxLe_z))) (hK6 _ (Option.some.inj e9).symm)
      · rw [if_pos q18] at e9
        exact mG_sub (mxLe_n (mxLe_n (mxLe_s mxLe_z))) (J4 _ (hx7 _ (Option.some.inj e9).symm))
theorem dX2_tally_0 : decode cX2_tally 0 = .ok (.aload_n 0, 1) := by decide +kernel
theorem dX2_tally_1 : decode cX2_tally 1 = .ok (.iload_n 1, 1) := by decide +kernel
theorem dX2_tally_2 : decode cX2_tally 2 = .ok (.invokevirtual 64, 3) := by decide +kernel
theorem dX2_tally_5 : decode cX2_tally 5 = .ok (.istore_n 2, 1) := by decide +kernel
theorem dX2_tally_6 : decode cX2_tally 6 = .ok (.iload_n 2, 1) := by decide +kernel
theorem dX2_tally_7 : decode cX2_tally 7 = .ok (.iconst (-1), 1) := by decide +kernel
theorem dX2_tally_8 : decode cX2_tally 8 = .ok (.if_icmp .ne 9, 3) := by decide +kernel
theorem dX2_tally_11 : decode cX2_tally 11 = .ok (.aload_n 0, 1) := by decide +kernel
theorem dX2_tally_12 : decode cX2_tally 12 = .ok (.iconst (-1), 1) := by decide +kernel
theorem dX2_tally_13 : decode cX2_tally 13 = .ok (.invokevirtual 64, 3) := by decide +kernel
theorem dX2_tally_16 : decode cX2_tally 16 = .ok (.istore_n 2, 1) := by decide +kernel
theorem dX2_tally_17 : decode cX2_tally 17 = .ok (.iload_n 2, 1) := by decide +kernel
theorem dX2_tally_18 : decode cX2_tally 18 = .ok (.ifCond .lt 28, 3) := by decide +kernel
theorem dX2_tally_21 : decode cX2_tally 21 = .ok (.iload_n 2, 1) := by decide +kernel
theorem dX2_tally_22 : decode cX2_tally 22 = .ok (.iconst 4, 1) := by decide +kernel
theorem dX2_tally_23 : decode cX2_tally 23 = .ok (.if_icmp .ge 23, 3) := by decide +kernel
theorem dX2_tally_26 : decode cX2_tally 26 = .ok (.aload_n 0, 1) := by decide +kernel
theorem dX2_tally_27 : decode cX2_tally 27 = .ok (.getfield 31, 3) := by decide +kernel
theorem dX2_tally_30 : decode cX2_tally 30 = .ok (.iload_n 2, 1) := by decide +kernel
theorem dX2_tally_31 : decode cX2_tally 31 = .ok (.iload_n 1, 1) := by decide +kernel
theorem dX2_tally_32 : decode cX2_tally 32 = .ok (.iastore, 1) := by decide +kernel
theorem dX2_tally_33 : decode cX2_tally 33 = .ok (.aload_n 0, 1) := by decide +kernel
theorem dX2_tally_34 : decode cX2_tally 34 = .ok (.getfield 34, 3) := by decide +kernel
theorem dX2_tally_37 : decode cX2_tally 37 = .ok (.iload_n 2, 1) := by decide +kernel
theorem dX2_tally_38 : decode cX2_tally 38 = .ok (.dup2, 1) := by decide +kernel
theorem dX2_tally_39 : decode cX2_tally 39 = .ok (.iaload, 1) := by decide +kernel
theorem dX2_tally_40 : decode cX2_tally 40 = .ok (.iconst 1, 1) := by decide +kernel
theorem dX2_tally_41 : decode cX2_tally 41 = .ok (.iadd, 1) := by decide +kernel
theorem dX2_tally_42 : decode cX2_tally 42 = .ok (.iastore, 1) := by decide +kernel
theorem dX2_tally_43 : decode cX2_tally 43 = .ok (.goto 7, 3) := by decide +kernel
theorem dX2_tally_46 : decode cX2_tally 46 = .ok (.aload_n 0, 1) := by decide +kernel
theorem dX2_tally_47 : decode cX2_tally 47 = .ok (.invokevirtual 68, 3) := by decide +kernel
theorem dX2_tally_50 : decode cX2_tally 50 = .ok (.return_, 1) := by decide +kernel
def fX2_tally (p0 : Nat) (p1 : Int32) (h : mxH) : Option mxH := Option.bind (isO h p0 2) (fun u1 => Option.bind (fX2_counterOf p0 p1 h) (fun v4 => Option.bind (α := Int32) (if v4 = (-1) then Option.bind (isO h p0 2) (fun u9 => Option.bind (fX2_counterOf p0 (-1) h) (fun v12 => some v12)) else some v4) (fun p7' : Int32 => Option.bind (α := mxH) (if p7' < 0 then Option.bind (isO h p0 2) (fun u17 => Option.bind (fX2_countAllLess p0 h) (fun o20 => some o20)) else (if 4 ≤ p7' then Option.bind (isO h p0 2) (fun u22 => Option.bind (fX2_countAllLess p0 h) (fun o25 => some o25)) else Option.bind (gR h p0 2 6) (fun r26 => Option.bind (stI h r26 p7' p1) (fun h28 => Option.bind (gR h28 p0 2 7) (fun r30 => Option.bind (ldI h28 r30 p7') (fun v32 => Option.bind (stI h28 r30 p7' (v32 + 1)) (fun h34 => some h34))))))) (fun p15' : mxH => some p15'))))
abbrev rmX2_tally : Room := { frames := 1, cells := 0, slots := 0, locals := 22 }
set_option maxRecDepth 20000 in
theorem tX2_tally {l : Launch} {Z : mxZ} (hl : l.stackTraces = false) {p0 : Nat} {p1 : Int32} {h : mxH} {out : mxH} (hf : fX2_tally p0 p1 h = some out) : mxMet l Z yX2_tally cX2_tally 3 (none) rmX2_tally [.ref p0, .int p1] h (.inl none) out := by
  refine mxMet_of (by decide) hl (by simp [Value.category]) (Nat.le_of_ble_eq_true rfl) ?_
  intro X C E hX hin
  unfold fX2_tally at hf
  refine mG_aload_n (pc := 0) C dX2_tally_0 rfl ?_
  refine mG_iload_n (pc := 1) C dX2_tally_1 rfl ?_
  obtain ⟨u1, e2, hf⟩ := mx_bind hf
  obtain ⟨v4, e3, hf⟩ := mx_bind hf
  refine mG_cV (pc := 2) (k' := 0) (n' := 0) 2 [.int p1] [] C hX dX2_tally_2 lkV_X2_64 rfl rfl e2 (tX2_counterOf hl e3) rfl rfl rfl rfl ?_
  refine mG_isn (ls' := [some (.ref p0), some (.int p1), some (.int v4)]) (pc := 5) C dX2_tally_5 rfl rfl rfl ?_
  refine mG_iload_n (pc := 6) C dX2_tally_6 rfl ?_
  refine mG_ic (pc := 7) C dX2_tally_7 kIm1 ?_
  obtain ⟨p7, e8, hf⟩ := mx_bind hf
  have J6 : ∀ p7' : Int32, p7' = p7 → mG l Z X 3 0 0 17 [some (.ref p0), some (.int p1), some (.int p7')] [] h := by
    intro p7' q37
    subst q37
    refine mG_iload_n (pc := 17) C dX2_tally_17 rfl ?_
    obtain ⟨p15, e16, hf⟩ := mx_bind hf
    have J14 : ∀ p15' : mxH, p15' = p15 → mG l Z X 3 0 0 50 [none, none, none] [] p15' := by
      intro p15' q36
      subst q36
      cases hf
      exact mG_vr (pc := 50) C E hX dX2_tally_50 rfl
    refine mG_if_lt (pc := 18) (tgt := 46) C dX2_tally_18 (by decide) (fun q13 => ?_) (fun q13 => ?_)
    · rw [if_pos q13] at e16
      refine mG_aload_n (pc := 46) C dX2_tally_46 rfl ?_
      obtain ⟨u17, e18, e16⟩ := mx_bind e16
      obtain ⟨o20, e19, e16⟩ := mx_bind e16
      refine mG_cV (pc := 47) (k' := 0) (n' := 0) 2 [] [] C hX dX2_tally_47 lkV_X2_68 rfl rfl e18 (tX2_countAllLess hl e19) rfl rfl rfl rfl ?_
      exact mG_sub (mxLe_n (mxLe_n (mxLe_n mxLe_z))) (J14 _ (Option.some.inj e16))
    · rw [if_neg q13] at e16
      refine mG_iload_n (pc := 21) C dX2_tally_21 rfl ?_
      refine mG_ic (pc := 22) C dX2_tally_22 kI4 ?_
      refine mG_icmp_ge (pc := 23) (tgt := 46) C dX2_tally_23 (by decide) (fun q21 => ?_) (fun q21 => ?_)
      · rw [if_pos q21] at e16
        refine mG_aload_n (pc := 46) C dX2_tally_46 rfl ?_
        obtain ⟨u22, e23, e16⟩ := mx_bind e16
        obtain ⟨o25, e24, e16⟩ := mx_bind e16
        refine mG_cV (pc := 47) (k' := 0) (n' := 0) 2 [] [] C hX dX2_tally_47 lkV_X2_68 rfl rfl e23 (tX2_countAllLess hl e24) rfl rfl rfl rfl ?_
        exact mG_sub (mxLe_n (mxLe_n (mxLe_n mxLe_z))) (J14 _ (Option.some.inj e16))
      · rw [if_neg q21] at e16
        refine mG_aload_n (pc := 26) C dX2_tally_26 rfl ?_
        obtain ⟨r26, e27, e16⟩ := mx_bind e16
        refine mG_getR (pc := 27) C dX2_tally_27 fl_X2_31 e27 ?_
        refine mG_iload_n (pc := 30) C dX2_tally_30 rfl ?_
        refine mG_iload_n (pc := 31) C dX2_tally_31 rfl ?_
        obtain ⟨h28, e29, e16⟩ := mx_bind e16
        refine mG_iastore (pc := 32) C dX2_tally_32 e29 ?_
        refine mG_aload_n (pc := 33) C dX2_tally_33 rfl ?_
        obtain ⟨r30, e31, e16⟩ := mx_bind e16
        refine mG_getR (pc := 34) C dX2_tally_34 fl_X2_34 e31 ?_
        refine mG_iload_n (pc := 37) C dX2_tally_37 rfl ?_
        refine mG_dup2 (pc := 38) C dX2_tally_38 rfl rfl ?_
        obtain ⟨v32, e33, e16⟩ := mx_bind e16
        refine mG_iaload (pc := 39) C dX2_tally_39 e33 ?_
        refine mG_ic (pc := 40) C dX2_tally_40 kI1 ?_
        refine mG_iadd (pc := 41) C dX2_tally_41 ?_
        obtain ⟨h34, e35, e16⟩ := mx_bind e16
        refine mG_iastore (pc := 42) C dX2_tally_42 e35 ?_
        refine mG_goto (tgt := 50) (pc := 43) C dX2_tally_43 (by decide) ?_
        exact mG_sub (mxLe_n (mxLe_n (mxLe_n mxLe_z))) (J14 _ (Option.some.inj e16))
  refine mG_icmp_ne (pc := 8) (tgt := 17) C dX2_tally_8 (by decide) (fun q5 => ?_) (fun q5 => ?_)
  · rw [if_neg q5] at e8
    exact mG_sub (mxLe_s (mxLe_s (mxLe_s mxLe_z))) (J6 _ (Option.some.inj e8))
  · rw [if_pos q5] at e8
    refine mG_aload_n (pc := 11) C dX2_tally_11 rfl ?_
    refine mG_ic (pc := 12) C dX2_tally_12 kIm1 ?_
    obtain ⟨u9, e10, e8⟩ := mx_bind e8
    obtain ⟨v12, e11, e8⟩ := mx_bind e8
    refine mG_cV (pc := 13) (k' := 0) (n' := 0) 2 [.int (-1)] [] C hX dX2_tally_13 lkV_X2_64 rfl rfl e10 (tX2_counterOf hl e11) rfl rfl rfl rfl ?_
    refine mG_isn (ls' := [some (.ref p0), some (.int p1), some (.int v12)]) (pc := 16) C dX2_tally_16 rfl rfl rfl ?_
    exact mG_sub (mxLe_s (mxLe_s (mxLe_s mxLe_z))) (J6 _ (Option.some.inj e8))
theorem dX2_take_0 : decode cX2_take 0 = .ok (.aload_n 0, 1) := by decide +kernel
theorem dX2_take_1 : decode cX2_take 1 = .ok (.getfield 19, 3) := by decide +kernel
theorem dX2_take_4 : decode cX2_take 4 = .ok (.aload_n 0, 1) := by decide +kernel
theorem dX2_take_5 : decode cX2_take 5 = .ok (.getfield 15, 3) := by decide +kernel
theorem dX2_take_8 : decode cX2_take 8 = .ok (.if_icmp .lt 10, 3) := by decide +kernel
theorem dX2_take_11 : decode cX2_take 11 = .ok (.aload_n 0, 1) := by decide +kernel
theorem dX2_take_12 : decode cX2_take 12 = .ok (.invokevirtual 52, 3) := by decide +kernel
theorem dX2_take_15 : decode cX2_take 15 = .ok (.goto 4, 3) := by decide +kernel
theorem dX2_take_18 : decode cX2_take 18 = .ok (.iconst (-1), 1) := by decide +kernel
theorem dX2_take_19 : decode cX2_take 19 = .ok (.istore_n 2, 1) := by decide +kernel
theorem dX2_take_20 : decode cX2_take 20 = .ok (.aload_n 0, 1) := by decide +kernel
theorem dX2_take_21 : decode cX2_take 21 = .ok (.getfield 19, 3) := by decide +kernel
theorem dX2_take_24 : decode cX2_take 24 = .ok (.ifCond .lt 32, 3) := by decide +kernel
theorem dX2_take_27 : decode cX2_take 27 = .ok (.aload_n 0, 1) := by decide +kernel
theorem dX2_take_28 : decode cX2_take 28 = .ok (.getfield 19, 3) := by decide +kernel
theorem dX2_take_31 : decode cX2_take 31 = .ok (.bipush 10, 2) := by decide +kernel
theorem dX2_take_33 : decode cX2_take 33 = .ok (.if_icmp .ge 23, 3) := by decide +kernel
theorem dX2_take_36 : decode cX2_take 36 = .ok (.aload_n 0, 1) := by decide +kernel
theorem dX2_take_37 : decode cX2_take 37 = .ok (.getfield 9, 3) := by decide +kernel
theorem dX2_take_40 : decode cX2_take 40 = .ok (.aload_n 0, 1) := by decide +kernel
theorem dX2_take_41 : decode cX2_take 41 = .ok (.getfield 19, 3) := by decide +kernel
theorem dX2_take_44 : decode cX2_take 44 = .ok (.iload_n 1, 1) := by decide +kernel
theorem dX2_take_45 : decode cX2_take 45 = .ok (.iastore, 1) := by decide +kernel
theorem dX2_take_46 : decode cX2_take 46 = .ok (.aload_n 0, 1) := by decide +kernel
theorem dX2_take_47 : decode cX2_take 47 = .ok (.dup, 1) := by decide +kernel
theorem dX2_take_48 : decode cX2_take 48 = .ok (.getfield 19, 3) := by decide +kernel
theorem dX2_take_51 : decode cX2_take 51 = .ok (.iconst 1, 1) := by decide +kernel
theorem dX2_take_52 : decode cX2_take 52 = .ok (.iadd, 1) := by decide +kernel
theorem dX2_take_53 : decode cX2_take 53 = .ok (.putfield 19, 3) := by decide +kernel
theorem dX2_take_56 : decode cX2_take 56 = .ok (.iload_n 1, 1) := by decide +kernel
theorem dX2_take_57 : decode cX2_take 57 = .ok (.invokestatic 56, 3) := by decide +kernel
theorem dX2_take_60 : decode cX2_take 60 = .ok (.ifCond .eq 13, 3) := by decide +kernel
theorem dX2_take_63 : decode cX2_take 63 = .ok (.aload_n 0, 1) := by decide +kernel
theorem dX2_take_64 : decode cX2_take 64 = .ok (.getfield 22, 3) := by decide +kernel
theorem dX2_take_67 : decode cX2_take 67 = .ok (.iload_n 1, 1) := by decide +kernel
theorem dX2_take_68 : decode cX2_take 68 = .ok (.dup2, 1) := by decide +kernel
theorem dX2_take_69 : decode cX2_take 69 = .ok (.iaload, 1) := by decide +kernel
theorem dX2_take_70 : decode cX2_take 70 = .ok (.iconst 1, 1) := by decide +kernel
theorem dX2_take_71 : decode cX2_take 71 = .ok (.iadd, 1) := by decide +kernel
theorem dX2_take_72 : decode cX2_take 72 = .ok (.iastore, 1) := by decide +kernel
theorem dX2_take_73 : decode cX2_take 73 = .ok (.aload_n 0, 1) := by decide +kernel
theorem dX2_take_74 : decode cX2_take 74 = .ok (.dup, 1) := by decide +kernel
theorem dX2_take_75 : decode cX2_take 75 = .ok (.getfield 25, 3) := by decide +kernel
theorem dX2_take_78 : decode cX2_take 78 = .ok (.iconst 1, 1) := by decide +kernel
theorem dX2_take_79 : decode cX2_take 79 = .ok (.iadd, 1) := by decide +kernel
theorem dX2_take_80 : decode cX2_take 80 = .ok (.putfield 25, 3) := by decide +kernel
theorem dX2_take_83 : decode cX2_take 83 = .ok (.aload_n 0, 1) := by decide +kernel
theorem dX2_take_84 : decode cX2_take 84 = .ok (.iload_n 1, 1) := by decide +kernel
theorem dX2_take_85 : decode cX2_take 85 = .ok (.invokevirtual 60, 3) := by decide +kernel
theorem dX2_take_88 : decode cX2_take 88 = .ok (.iload_n 2, 1) := by decide +kernel
theorem dX2_take_89 : decode cX2_take 89 = .ok (.ireturn, 1) := by decide +kernel
def fX2_take (p0 : Nat) (p1 : Int32) (h : mxH) : Option (Int32 × mxH) := Option.bind (gI h p0 2 2) (fun v1 => Option.bind (gI h p0 2 1) (fun v3 => Option.bind (α := (Int32 × mxH)) (if v1 < v3 then some ((-1), h) else Option.bind (isO h p0 2) (fun u9 => Option.bind (fX2_dropOldest p0 h) (fun o12 => some (o12.1, o12.2)))) (fun p7' : (Int32 × mxH) => Option.bind (gI p7'.2 p0 2 2) (fun v13 => Option.bind (α := mxH) (if v13 < 0 then some p7'.2 else Option.bind (gI p7'.2 p0 2 2) (fun v19 => (if 10 ≤ v19 then some p7'.2 else Option.bind (gR p7'.2 p0 2 0) (fun r22 => Option.bind (gI p7'.2 p0 2 2) (fun v24 => Option.bind (stI p7'.2 r22 v24 p1) (fun h26 => Option.bind (gI h26 p0 2 2) (fun v28 => Option.bind (pI h26 p0 2 2 (v28 + 1)) (fun h30 => some h30)))))))) (fun p17' : mxH => Option.bind (fX2_isNumber p1 p17') (fun v33 => Option.bind (α := mxH) (if v33 = 0 then some p17' else Option.bind (gR p17' p0 2 3) (fun r38 => Option.bind (ldI p17' r38 p1) (fun v40 => Option.bind (stI p17' r38 p1 (v40 + 1)) (fun h42 => some h42)))) (fun p36' : mxH => Option.bind (gI p36' p0 2 4) (fun v44 => Option.bind (pI p36' p0 2 4 (v44 + 1)) (fun h46 => Option.bind (isO h46 p0 2) (fun u48 => Option.bind (fX2_tally p0 p1 h46) (fun o51 => some (p7'.1, o51))))))))))))
abbrev rmX2_take : Room := { frames := 2, cells := 0, slots := 0, locals := 44 }
set_option maxRecDepth 20000 in
theorem tX2_take {l : Launch} {Z : mxZ} (hl : l.stackTraces = false) {p0 : Nat} {p1 : Int32} {h : mxH} {out : (Int32 × mxH)} (hf : fX2_take p0 p1 h = some out) : mxMet l Z yX2_take cX2_take 3 (some .int) rmX2_take [.ref p0, .int p1] h (.inl (some (.int out.1))) out.2 := by
  refine mxMet_of (by decide) hl (by simp [Value.category]) (Nat.le_of_ble_eq_true rfl) ?_
  intro X C E hX hin
  unfold fX2_take at hf
  refine mG_aload_n (pc := 0) C dX2_take_0 rfl ?_
  obtain ⟨v1, e2, hf⟩ := mx_bind hf
  refine mG_getI (pc := 1) C dX2_take_1 fl_X2_19 e2 ?_
  refine mG_aload_n (pc := 4) C dX2_take_4 rfl ?_
  obtain ⟨v3, e4, hf⟩ := mx_bind hf
  refine mG_getI (pc := 5) C dX2_take_5 fl_X2_15 e4 ?_
  obtain ⟨p7, e8, hf⟩ := mx_bind hf
  have J6 : ∀ p7' : (Int32 × mxH), p7' = p7 → mG l Z X 3 0 0 19 [some (.ref p0), some (.int p1), none] [.int p7'.1] p7'.2 := by
    intro p7' q54
    subst q54
    refine mG_isn (ls' := [some (.ref p0), some (.int p1), some (.int p7'.1)]) (pc := 19) C dX2_take_19 rfl rfl rfl ?_
    refine mG_aload_n (pc := 20) C dX2_take_20 rfl ?_
    obtain ⟨v13, e14, hf⟩ := mx_bind hf
    refine mG_getI (pc := 21) C dX2_take_21 fl_X2_19 e14 ?_
    obtain ⟨p17, e18, hf⟩ := mx_bind hf
    have J16 : ∀ p17' : mxH, p17' = p17 → mG l Z X 3 0 0 56 [some (.ref p0), some (.int p1), some (.int p7'.1)] [] p17' := by
      intro p17' q53
      subst q53
      refine mG_iload_n (pc := 56) C dX2_take_56 rfl ?_
      obtain ⟨v33, e32, hf⟩ := mx_bind hf
      refine mG_cS (pc := 57) (k' := 0) (n' := 0) [.int p1] [] C hX dX2_take_57 lkS_X2_56 rfl (tX2_isNumber hl e32) rfl rfl rfl rfl ?_
      obtain ⟨p36, e37, hf⟩ := mx_bind hf
      have J35 : ∀ p36' : mxH, p36' = p36 → mG l Z X 3 0 0 73 [some (.ref p0), some (.int p1), some (.int p7'.1)] [] p36' := by
        intro p36' q52
        subst q52
        refine mG_aload_n (pc := 73) C dX2_take_73 rfl ?_
        refine mG_dup (pc := 74) C dX2_take_74 rfl ?_
        obtain ⟨v44, e45, hf⟩ := mx_bind hf
        refine mG_getI (pc := 75) C dX2_take_75 fl_X2_25 e45 ?_
        refine mG_ic (pc := 78) C dX2_take_78 kI1 ?_
        refine mG_iadd (pc := 79) C dX2_take_79 ?_
        obtain ⟨h46, e47, hf⟩ := mx_bind hf
        refine mG_putI (pc := 80) C dX2_take_80 fl_X2_25 e47 ?_
        refine mG_aload_n (pc := 83) C dX2_take_83 rfl ?_
        refine mG_iload_n (pc := 84) C dX2_take_84 rfl ?_
        obtain ⟨u48, e49, hf⟩ := mx_bind hf
        obtain ⟨o51, e50, hf⟩ := mx_bind hf
        refine mG_cV (pc := 85) (k' := 0) (n' := 0) 2 [.int p1] [] C hX dX2_take_85 lkV_X2_60 rfl rfl e49 (tX2_tally hl e50) rfl rfl rfl rfl ?_
        refine mG_iload_n (pc := 88) C dX2_take_88 rfl ?_
        cases hf
        exact mG_ir (pc := 89) C E hX dX2_take_89 rfl
      refine mG_if_eq (pc := 60) (tgt := 73) C dX2_take_60 (by decide) (fun q34 => ?_) (fun q34 => ?_)
      · rw [if_pos q34] at e37
        exact mG_sub (mxLe_s (mxLe_s (mxLe_s mxLe_z))) (J35 _ (Option.some.inj e37))
      · rw [if_neg q34] at e37
        refine mG_aload_n (pc := 63) C dX2_take_63 rfl ?_
        obtain ⟨r38, e39, e37⟩ := mx_bind e37
        refine mG_getR (pc := 64) C dX2_take_64 fl_X2_22 e39 ?_
        refine mG_iload_n (pc := 67) C dX2_take_67 rfl ?_
        refine mG_dup2 (pc := 68) C dX2_take_68 rfl rfl ?_
        obtain ⟨v40, e41, e37⟩ := mx_bind e37
        refine mG_iaload (pc := 69) C dX2_take_69 e41 ?_
        refine mG_ic (pc := 70) C dX2_take_70 kI1 ?_
        refine mG_iadd (pc := 71) C dX2_take_71 ?_
        obtain ⟨h42, e43, e37⟩ := mx_bind e37
        refine mG_iastore (pc := 72) C dX2_take_72 e43 ?_
        exact mG_sub (mxLe_s (mxLe_s (mxLe_s mxLe_z))) (J35 _ (Option.some.inj e37))
    refine mG_if_lt (pc := 24) (tgt := 56) C dX2_take_24 (by decide) (fun q15 => ?_) (fun q15 => ?_)
    · rw [if_pos q15] at e18
      exact mG_sub (mxLe_s (mxLe_s (mxLe_s mxLe_z))) (J16 _ (Option.some.inj e18))
    · rw [if_neg q15] at e18
      refine mG_aload_n (pc := 27) C dX2_take_27 rfl ?_
      obtain ⟨v19, e20, e18⟩ := mx_bind e18
      refine mG_getI (pc := 28) C dX2_take_28 fl_X2_19 e20 ?_
      refine mG_bp (pc := 31) C dX2_take_31 kB10 ?_
      refine mG_icmp_ge (pc := 33) (tgt := 56) C dX2_take_33 (by decide) (fun q21 => ?_) (fun q21 => ?_)
      · rw [if_pos q21] at e18
        exact mG_sub (mxLe_s (mxLe_s (mxLe_s mxLe_z))) (J16 _ (Option.some.inj e18))
      · rw [if_neg q21] at e18
        refine mG_aload_n (pc := 36) C dX2_take_36 rfl ?_
        obtain ⟨r22, e23, e18⟩ := mx_bind e18
        refine mG_getR (pc := 37) C dX2_take_37 fl_X2_9 e23 ?_
        refine mG_aload_n (pc := 40) C dX2_take_40 rfl ?_
        obtain ⟨v24, e25, e18⟩ := mx_bind e18
        refine mG_getI (pc := 41) C dX2_take_41 fl_X2_19 e25 ?_
        refine mG_iload_n (pc := 44) C dX2_take_44 rfl ?_
        obtain ⟨h26, e27, e18⟩ := mx_bind e18
        refine mG_iastore (pc := 45) C dX2_take_45 e27 ?_
        refine mG_aload_n (pc := 46) C dX2_take_46 rfl ?_
        refine mG_dup (pc := 47) C dX2_take_47 rfl ?_
        obtain ⟨v28, e29, e18⟩ := mx_bind e18
        refine mG_getI (pc := 48) C dX2_take_48 fl_X2_19 e29 ?_
        refine mG_ic (pc := 51) C dX2_take_51 kI1 ?_
        refine mG_iadd (pc := 52) C dX2_take_52 ?_
        obtain ⟨h30, e31, e18⟩ := mx_bind e18
        refine mG_putI (pc := 53) C dX2_take_53 fl_X2_19 e31 ?_
        exact mG_sub (mxLe_s (mxLe_s (mxLe_s mxLe_z))) (J16 _ (Option.some.inj e18))
  refine mG_icmp_lt (pc := 8) (tgt := 18) C dX2_take_8 (by decide) (fun q5 => ?_) (fun q5 => ?_)
  · rw [if_pos q5] at e8
    refine mG_ic (pc := 18) C dX2_take_18 kIm1 ?_
    exact mG_sub (mxLe_s (mxLe_s (mxLe_n mxLe_z))) (J6 _ (Option.some.inj e8))
  · rw [if_neg q5] at e8
    refine mG_aload_n (pc := 11) C dX2_take_11 rfl ?_
    obtain ⟨u9, e10, e8⟩ := mx_bind e8
    obtain ⟨o12, e11, e8⟩ := mx_bind e8
    refine mG_cV (pc := 12) (k' := 0) (n' := 0) 2 [] [] C hX dX2_take_12 lkV_X2_52 rfl rfl e10 (tX2_dropOldest hl e11) rfl rfl rfl rfl ?_
    refine mG_goto (tgt := 19) (pc := 15) C dX2_take_15 (by decide) ?_
    exact mG_sub (mxLe_s (mxLe_s (mxLe_n mxLe_z))) (J6 _ (Option.some.inj e8))
theorem dX2_countOf_0 : decode cX2_countOf 0 = .ok (.aload_n 0, 1) := by decide +kernel
theorem dX2_countOf_1 : decode cX2_countOf 1 = .ok (.iload_n 1, 1) := by decide +kernel
theorem dX2_countOf_2 : decode cX2_countOf 2 = .ok (.invokevirtual 64, 3) := by decide +kernel
theorem dX2_countOf_5 : decode cX2_countOf 5 = .ok (.istore_n 2, 1) := by decide +kernel
theorem dX2_countOf_6 : decode cX2_countOf 6 = .ok (.iload_n 2, 1) := by decide +kernel
theorem dX2_countOf_7 : decode cX2_countOf 7 = .ok (.ifCond .lt 17, 3) := by decide +kernel
theorem dX2_countOf_10 : decode cX2_countOf 10 = .ok (.iload_n 2, 1) := by decide +kernel
theorem dX2_countOf_11 : decode cX2_countOf 11 = .ok (.iconst 4, 1) := by decide +kernel
theorem dX2_countOf_12 : decode cX2_countOf 12 = .ok (.if_icmp .ge 12, 3) := by decide +kernel
theorem dX2_countOf_15 : decode cX2_countOf 15 = .ok (.aload_n 0, 1) := by decide +kernel
theorem dX2_countOf_16 : decode cX2_countOf 16 = .ok (.getfield 34, 3) := by decide +kernel
theorem dX2_countOf_19 : decode cX2_countOf 19 = .ok (.iload_n 2, 1) := by decide +kernel
theorem dX2_countOf_20 : decode cX2_countOf 20 = .ok (.iaload, 1) := by decide +kernel
theorem dX2_countOf_21 : decode cX2_countOf 21 = .ok (.goto 4, 3) := by decide +kernel
theorem dX2_countOf_24 : decode cX2_countOf 24 = .ok (.iconst 0, 1) := by decide +kernel
theorem dX2_countOf_25 : decode cX2_countOf 25 = .ok (.ireturn, 1) := by decide +kernel
def fX2_countOf (p0 : Nat) (p1 : Int32) (h : mxH) : Option Int32 := Option.bind (isO h p0 2) (fun u1 => Option.bind (fX2_counterOf p0 p1 h) (fun v4 => Option.bind (α := Int32) (if v4 < 0 then some 0 else (if 4 ≤ v4 then some 0 else Option.bind (gR h p0 2 7) (fun r10 => Option.bind (ldI h r10 v4) (fun v12 => some v12)))) (fun p7' : Int32 => some p7')))
abbrev rmX2_countOf : Room := { frames := 1, cells := 0, slots := 0, locals := 22 }
set_option maxRecDepth 20000 in
theorem tX2_countOf {l : Launch} {Z : mxZ} (hl : l.stackTraces = false) {p0 : Nat} {p1 : Int32} {h : mxH} {out : Int32} (hf : fX2_countOf p0 p1 h = some out) : mxMet l Z yX2_countOf cX2_countOf 3 (some .int) rmX2_countOf [.ref p0, .int p1] h (.inl (some (.int out))) h := by
  refine mxMet_of (by decide) hl (by simp [Value.category]) (Nat.le_of_ble_eq_true rfl) ?_
  intro X C E hX hin
  unfold fX2_countOf at hf
  refine mG_aload_n (pc := 0) C dX2_countOf_0 rfl ?_
  refine mG_iload_n (pc := 1) C dX2_countOf_1 rfl ?_
  obtain ⟨u1, e2, hf⟩ := mx_bind hf
  obtain ⟨v4, e3, hf⟩ := mx_bind hf
  refine mG_cV (pc := 2) (k' := 0) (n' := 0) 2 [.int p1] [] C hX dX2_countOf_2 lkV_X2_64 rfl rfl e2 (tX2_counterOf hl e3) rfl rfl rfl rfl ?_
  refine mG_isn (ls' := [some (.ref p0), some (.int p1), some (.int v4)]) (pc := 5) C dX2_countOf_5 rfl rfl rfl ?_
  refine mG_iload_n (pc := 6) C dX2_countOf_6 rfl ?_
  obtain ⟨p7, e8, hf⟩ := mx_bind hf
  have J6 : ∀ p7' : Int32, p7' = p7 → mG l Z X 3 0 0 25 [none, none, none] [.int p7'] h := by
    intro p7' q14
    subst q14
    cases hf
    exact mG_ir (pc := 25) C E hX dX2_countOf_25 rfl
  refine mG_if_lt (pc := 7) (tgt := 24) C dX2_countOf_7 (by decide) (fun q5 => ?_) (fun q5 => ?_)
  · rw [if_pos q5] at e8
    refine mG_ic (pc := 24) C dX2_countOf_24 kI0 ?_
    exact mG_sub (mxLe_n (mxLe_n (mxLe_n mxLe_z))) (J6 _ (Option.some.inj e8))
  · rw [if_neg q5] at e8
    refine mG_iload_n (pc := 10) C dX2_countOf_10 rfl ?_
    refine mG_ic (pc := 11) C dX2_countOf_11 kI4 ?_
    refine mG_icmp_ge (pc := 12) (tgt := 24) C dX2_countOf_12 (by decide) (fun q9 => ?_) (fun q9 => ?_)
    · rw [if_pos q9] at e8
      refine mG_ic (pc := 24) C dX2_countOf_24 kI0 ?_
      exact mG_sub (mxLe_n (mxLe_n (mxLe_n mxLe_z))) (J6 _ (Option.some.inj e8))
    · rw [if_neg q9] at e8
      refine mG_aload_n (pc := 15) C dX2_countOf_15 rfl ?_
      obtain ⟨r10, e11, e8⟩ := mx_bind e8
      refine mG_getR (pc := 16) C dX2_countOf_16 fl_X2_34 e11 ?_
      refine mG_iload_n (pc := 19) C dX2_countOf_19 rfl ?_
      obtain ⟨v12, e13, e8⟩ := mx_bind e8
      refine mG_iaload (pc := 20) C dX2_countOf_20 e13 ?_
      refine mG_goto (tgt := 25) (pc := 21) C dX2_countOf_21 (by decide) ?_
      exact mG_sub (mxLe_n (mxLe_n (mxLe_n mxLe_z))) (J6 _ (Option.some.inj e8))
theorem dX2_timesOf_0 : decode cX2_timesOf 0 = .ok (.iload_n 1, 1) := by decide +kernel
theorem dX2_timesOf_1 : decode cX2_timesOf 1 = .ok (.invokestatic 56, 3) := by decide +kernel
theorem dX2_timesOf_4 : decode cX2_timesOf 4 = .ok (.ifCond .eq 12, 3) := by decide +kernel
theorem dX2_timesOf_7 : decode cX2_timesOf 7 = .ok (.aload_n 0, 1) := by decide +kernel
theorem dX2_timesOf_8 : decode cX2_timesOf 8 = .ok (.getfield 22, 3) := by decide +kernel
theorem dX2_timesOf_11 : decode cX2_timesOf 11 = .ok (.iload_n 1, 1) := by decide +kernel
theorem dX2_timesOf_12 : decode cX2_timesOf 12 = .ok (.iaload, 1) := by decide +kernel
theorem dX2_timesOf_13 : decode cX2_timesOf 13 = .ok (.goto 4, 3) := by decide +kernel
theorem dX2_timesOf_16 : decode cX2_timesOf 16 = .ok (.iconst 0, 1) := by decide +kernel
theorem dX2_timesOf_17 : decode cX2_timesOf 17 = .ok (.ireturn, 1) := by decide +kernel
def fX2_timesOf (p0 : Nat) (p1 : Int32) (h : mxH) : Option Int32 := Option.bind (fX2_isNumber p1 h) (fun v2 => Option.bind (α := Int32) (if v2 = 0 then some 0 else Option.bind (gR h p0 2 3) (fun r7 => Option.bind (ldI h r7 p1) (fun v9 => some v9))) (fun p5' : Int32 => some p5'))
abbrev rmX2_timesOf : Room := { frames := 1, cells := 0, slots := 0, locals := 20 }
set_option maxRecDepth 20000 in
theorem tX2_timesOf {l : Launch} {Z : mxZ} (hl : l.stackTraces = false) {p0 : Nat} {p1 : Int32} {h : mxH} {out : Int32} (hf : fX2_timesOf p0 p1 h = some out) : mxMet l Z yX2_timesOf cX2_timesOf 2 (some .int) rmX2_timesOf [.ref p0, .int p1] h (.inl (some (.int out))) h := by
  refine mxMet_of (by decide) hl (by simp [Value.category]) (Nat.le_of_ble_eq_true rfl) ?_
  intro X C E hX hin
  unfold fX2_timesOf at hf
  refine mG_iload_n (pc := 0) C dX2_timesOf_0 rfl ?_
  obtain ⟨v2, e1, hf⟩ := mx_bind hf
  refine mG_cS (pc := 1) (k' := 0) (n' := 0) [.int p1] [] C hX dX2_timesOf_1 lkS_X2_56 rfl (tX2_isNumber hl e1) rfl rfl rfl rfl ?_
  obtain ⟨p5, e6, hf⟩ := mx_bind hf
  have J4 : ∀ p5' : Int32, p5' = p5 → mG l Z X 2 0 0 17 [none, none] [.int p5'] h := by
    intro p5' q11
    subst q11
    cases hf
    exact mG_ir (pc := 17) C E hX dX2_timesOf_17 rfl
  refine mG_if_eq (pc := 4) (tgt := 16) C dX2_timesOf_4 (by decide) (fun q3 => ?_) (fun q3 => ?_)
  · rw [if_pos q3] at e6
    refine mG_ic (pc := 16) C dX2_timesOf_16 kI0 ?_
    exact mG_sub (mxLe_n (mxLe_n mxLe_z)) (J4 _ (Option.some.inj e6))
  · rw [if_neg q3] at e6
    refine mG_aload_n (pc := 7) C dX2_timesOf_7 rfl ?_
    obtain ⟨r7, e8, e6⟩ := mx_bind e6
    refine mG_getR (pc := 8) C dX2_timesOf_8 fl_X2_22 e8 ?_
    refine mG_iload_n (pc := 11) C dX2_timesOf_11 rfl ?_
    obtain ⟨v9, e10, e6⟩ := mx_bind e6
    refine mG_iaload (pc := 12) C dX2_timesOf_12 e10 ?_
    refine mG_goto (tgt := 17) (pc := 13) C dX2_timesOf_13 (by decide) ?_
    exact mG_sub (mxLe_n (mxLe_n mxLe_z)) (J4 _ (Option.some.inj e6))
theorem dX2_rankInWindow_0 : decode cX2_rankInWindow 0 = .ok (.iconst 0, 1) := by decide +kernel
theorem dX2_rankInWindow_1 : decode cX2_rankInWindow 1 = .ok (.istore_n 2, 1) := by decide +kernel
theorem dX2_rankInWindow_2 : decode cX2_rankInWindow 2 = .ok (.iconst 0, 1) := by decide +kernel
theorem dX2_rankInWindow_3 : decode cX2_rankInWindow 3 = .ok (.istore_n 3, 1) := by decide +kernel
theorem dX2_rankInWindow_4 : decode cX2_rankInWindow 4 = .ok (.iload_n 3, 1) := by decide +kernel
theorem dX2_rankInWindow_5 : decode cX2_rankInWindow 5 = .ok (.aload_n 0, 1) := by decide +kernel
theorem dX2_rankInWindow_6 : decode cX2_rankInWindow 6 = .ok (.getfield 19, 3) := by decide +kernel
theorem dX2_rankInWindow_9 : decode cX2_rankInWindow 9 = .ok (.if_icmp .ge 63, 3) := by decide +kernel
theorem dX2_rankInWindow_12 : decode cX2_rankInWindow 12 = .ok (.iload_n 3, 1) := by decide +kernel
theorem dX2_rankInWindow_13 : decode cX2_rankInWindow 13 = .ok (.bipush 10, 2) := by decide +kernel
theorem dX2_rankInWindow_15 : decode cX2_rankInWindow 15 = .ok (.if_icmp .ge 57, 3) := by decide +kernel
theorem dX2_rankInWindow_18 : decode cX2_rankInWindow 18 = .ok (.iload_n 1, 1) := by decide +kernel
theorem dX2_rankInWindow_19 : decode cX2_rankInWindow 19 = .ok (.ifCond .lt 53, 3) := by decide +kernel
theorem dX2_rankInWindow_22 : decode cX2_rankInWindow 22 = .ok (.iload_n 1, 1) := by decide +kernel
theorem dX2_rankInWindow_23 : decode cX2_rankInWindow 23 = .ok (.bipush 10, 2) := by decide +kernel
theorem dX2_rankInWindow_25 : decode cX2_rankInWindow 25 = .ok (.if_icmp .ge 47, 3) := by decide +kernel
theorem dX2_rankInWindow_28 : decode cX2_rankInWindow 28 = .ok (.aload_n 0, 1) := by decide +kernel
theorem dX2_rankInWindow_29 : decode cX2_rankInWindow 29 = .ok (.getfield 9, 3) := by decide +kernel
theorem dX2_rankInWindow_32 : decode cX2_rankInWindow 32 = .ok (.iload_n 3, 1) := by decide +kernel
theorem dX2_rankInWindow_33 : decode cX2_rankInWindow 33 = .ok (.iaload, 1) := by decide +kernel
theorem dX2_rankInWindow_34 : decode cX2_rankInWindow 34 = .ok (.aload_n 0, 1) := by decide +kernel
theorem dX2_rankInWindow_35 : decode cX2_rankInWindow 35 = .ok (.getfield 9, 3) := by decide +kernel
theorem dX2_rankInWindow_38 : decode cX2_rankInWindow 38 = .ok (.iload_n 1, 1) := by decide +kernel
theorem dX2_rankInWindow_39 : decode cX2_rankInWindow 39 = .ok (.iaload, 1) := by decide +kernel
theorem dX2_rankInWindow_40 : decode cX2_rankInWindow 40 = .ok (.if_icmp .gt 23, 3) := by decide +kernel
theorem dX2_rankInWindow_43 : decode cX2_rankInWindow 43 = .ok (.aload_n 0, 1) := by decide +kernel
theorem dX2_rankInWindow_44 : decode cX2_rankInWindow 44 = .ok (.getfield 9, 3) := by decide +kernel
theorem dX2_rankInWindow_47 : decode cX2_rankInWindow 47 = .ok (.iload_n 3, 1) := by decide +kernel
theorem dX2_rankInWindow_48 : decode cX2_rankInWindow 48 = .ok (.iaload, 1) := by decide +kernel
theorem dX2_rankInWindow_49 : decode cX2_rankInWindow 49 = .ok (.aload_n 0, 1) := by decide +kernel
theorem dX2_rankInWindow_50 : decode cX2_rankInWindow 50 = .ok (.getfield 9, 3) := by decide +kernel
theorem dX2_rankInWindow_53 : decode cX2_rankInWindow 53 = .ok (.iload_n 1, 1) := by decide +kernel
theorem dX2_rankInWindow_54 : decode cX2_rankInWindow 54 = .ok (.iaload, 1) := by decide +kernel
theorem dX2_rankInWindow_55 : decode cX2_rankInWindow 55 = .ok (.if_icmp .ne 11, 3) := by decide +kernel
theorem dX2_rankInWindow_58 : decode cX2_rankInWindow 58 = .ok (.iload_n 3, 1) := by decide +kernel
theorem dX2_rankInWindow_59 : decode cX2_rankInWindow 59 = .ok (.iload_n 1, 1) := by decide +kernel
theorem dX2_rankInWindow_60 : decode cX2_rankInWindow 60 = .ok (.if_icmp .ge 6, 3) := by decide +kernel
theorem dX2_rankInWindow_63 : decode cX2_rankInWindow 63 = .ok (.iinc 2 1, 3) := by decide +kernel
theorem dX2_rankInWindow_66 : decode cX2_rankInWindow 66 = .ok (.iinc 3 1, 3) := by decide +kernel
theorem dX2_rankInWindow_69 : decode cX2_rankInWindow 69 = .ok (.goto (-65), 3) := by decide +kernel
theorem dX2_rankInWindow_72 : decode cX2_rankInWindow 72 = .ok (.iload_n 2, 1) := by decide +kernel
theorem dX2_rankInWindow_73 : decode cX2_rankInWindow 73 = .ok (.ireturn, 1) := by decide +kernel
def fX2_rankInWindow (p0 : Nat) (p1 : Int32) (h : mxH) : Option Int32 := Option.bind (mxLoop (ρ := Int32) (fun s1 : (Int32 × Int32) => Option.bind (gI h p0 2 2) (fun v9 => (if v9 ≤ s1.2 then some (Sum.inr s1.1) else (if 10 ≤ s1.2 then some (Sum.inr s1.1) else (if p1 < 0 then some (Sum.inr s1.1) else (if 10 ≤ p1 then some (Sum.inr s1.1) else Option.bind (gR h p0 2 0) (fun r15 => Option.bind (ldI h r15 s1.2) (fun v17 => Option.bind (gR h p0 2 0) (fun r19 => Option.bind (ldI h r19 p1) (fun v21 => Option.bind (α := Int32) (if v21 < v17 then some (s1.1 + 1) else Option.bind (gR h p0 2 0) (fun r27 => Option.bind (ldI h r27 s1.2) (fun v29 => Option.bind (gR h p0 2 0) (fun r31 => Option.bind (ldI h r31 p1) (fun v33 => (if v29 = v33 then (if p1 ≤ s1.2 then some s1.1 else some (s1.1 + 1)) else some s1.1)))))) (fun p25' : Int32 => some (Sum.inl (p25', s1.2 + 1))))))))))))) mxF (0, 0)) (fun r38 : Int32 => some r38)
abbrev rmX2_rankInWindow : Room := { frames := 0, cells := 0, slots := 0, locals := 0 }
set_option maxRecDepth 20000 in
theorem tX2_rankInWindow {l : Launch} {Z : mxZ} (hl : l.stackTraces = false) {p0 : Nat} {p1 : Int32} {h : mxH} {out : Int32} (hf : fX2_rankInWindow p0 p1 h = some out) : mxMet l Z yX2_rankInWindow cX2_rankInWindow 4 (some .int) rmX2_rankInWindow [.ref p0, .int p1] h (.inl (some (.int out))) h := by
  refine mxMet_of (by decide) hl (by simp [Value.category]) (Nat.le_of_ble_eq_true rfl) ?_
  intro X C E hX hin
  unfold fX2_rankInWindow at hf
  refine mG_ic (pc := 0) C dX2_rankInWindow_0 kI0 ?_
  refine mG_isn (ls' := [some (.ref p0), some (.int p1), some (.int 0), none]) (pc := 1) C dX2_rankInWindow_1 rfl rfl rfl ?_
  refine mG_ic (pc := 2) C dX2_rankInWindow_2 kI0 ?_
  refine mG_isn (ls' := [some (.ref p0), some (.int p1), some (.int 0), some (.int 0)]) (pc := 3) C dX2_rankInWindow_3 rfl rfl rfl ?_
  obtain ⟨r2, e3, hf⟩ := mx_bind hf
  have J4 : ∀ r38 : Int32, r38 = r2 → mG l Z X 4 0 0 72 [none, none, some (.int r38), none] [] h := by
    intro r38 q39
    subst q39
    refine mG_iload_n (pc := 72) C dX2_rankInWindow_72 rfl ?_
    cases hf
    exact mG_ir (pc := 73) C E hX dX2_rankInWindow_73 rfl
  refine mG_sub (ls' := [some (.ref p0), some (.int p1), some (.int 0), some (.int 0)]) (mxLe_s (mxLe_s (mxLe_s (mxLe_s mxLe_z)))) (mxLoop_ind (K := fun s1 : (Int32 × Int32) => mG l Z X 4 0 0 4 [some (.ref p0), some (.int p1), some (.int s1.1), some (.int s1.2)] [] h) ?_ _ _ e3)
  intro s1 o7 e8 hK5 hx6
  refine mG_iload_n (pc := 4) C dX2_rankInWindow_4 rfl ?_
  refine mG_aload_n (pc := 5) C dX2_rankInWindow_5 rfl ?_
  obtain ⟨v9, e10, e8⟩ := mx_bind e8
  refine mG_getI (pc := 6) C dX2_rankInWindow_6 fl_X2_19 e10 ?_
  refine mG_icmp_ge (pc := 9) (tgt := 72) C dX2_rankInWindow_9 (by decide) (fun q11 => ?_) (fun q11 => ?_)
  · rw [if_pos q11] at e8
    exact mG_sub (mxLe_n (mxLe_n (mxLe_s (mxLe_n mxLe_z)))) (J4 _ (hx6 _ (Option.some.inj e8).symm))
  · rw [if_neg q11] at e8
    refine mG_iload_n (pc := 12) C dX2_rankInWindow_12 rfl ?_
    refine mG_bp (pc := 13) C dX2_rankInWindow_13 kB10 ?_
    refine mG_icmp_ge (pc := 15) (tgt := 72) C dX2_rankInWindow_15 (by decide) (fun q12 => ?_) (fun q12 => ?_)
    · rw [if_pos q12] at e8
      exact mG_sub (mxLe_n (mxLe_n (mxLe_s (mxLe_n mxLe_z)))) (J4 _ (hx6 _ (Option.some.inj e8).symm))
    · rw [if_neg q12] at e8
      refine mG_iload_n (pc := 18) C dX2_rankInWindow_18 rfl ?_
      refine mG_if_lt (pc := 19) (tgt := 72) C dX2_rankInWindow_19 (by decide) (fun q13 => ?_) (fun q13 => ?_)
      · rw [if_pos q13] at e8
        exact mG_sub (mxLe_n (mxLe_n (mxLe_s (mxLe_n mxLe_z)))) (J4 _ (hx6 _ (Option.some.inj e8).symm))
      · rw [if_neg q13] at e8
        refine mG_iload_n (pc := 22) C dX2_rankInWindow_22 rfl ?_
        refine mG_bp (pc := 23) C dX2_rankInWindow_23 kB10 ?_
        refine mG_icmp_ge (pc := 25) (tgt := 72) C dX2_rankInWindow_25 (by decide) (fun q14 => ?_) (fun q14 => ?_)
        · rw [if_pos q14] at e8
          exact mG_sub (mxLe_n (mxLe_n (mxLe_s (mxLe_n mxLe_z)))) (J4 _ (hx6 _ (Option.some.inj e8).symm))
        · rw [if_neg q14] at e8
          refine mG_aload_n (pc := 28) C dX2_rankInWindow_28 rfl ?_
          obtain ⟨r15, e16, e8⟩ := mx_bind e8
          refine mG_getR (pc := 29) C dX2_rankInWindow_29 fl_X2_9 e16 ?_
          refine mG_iload_n (pc := 32) C dX2_rankInWindow_32 rfl ?_
          obtain ⟨v17, e18, e8⟩ := mx_bind e8
          refine mG_iaload (pc := 33) C dX2_rankInWindow_33 e18 ?_
          refine mG_aload_n (pc := 34) C dX2_rankInWindow_34 rfl ?_
          obtain ⟨r19, e20, e8⟩ := mx_bind e8
          refine mG_getR (pc := 35) C dX2_rankInWindow_35 fl_X2_9 e20 ?_
          refine mG_iload_n (pc := 38) C dX2_rankInWindow_38 rfl ?_
          obtain ⟨v21, e22, e8⟩ := mx_bind e8
          refine mG_iaload (pc := 39) C dX2_rankInWindow_39 e22 ?_
          obtain ⟨p25, e26, e8⟩ := mx_bind e8
          have J24 : ∀ p25' : Int32, p25' = p25 → mG l Z X 4 0 0 66 [some (.ref p0), some (.int p1), some (.int p25'), some (.int s1.2)] [] h := by
            intro p25' q37
            subst q37
            refine mG_ii (ls' := [some (.ref p0), some (.int p1), some (.int p25'), some (.int (s1.2 + 1))]) (pc := 66) C dX2_rankInWindow_66 rfl (kinc1 _) rfl rfl rfl ?_
            refine mG_goto (tgt := 4) (pc := 69) C dX2_rankInWindow_69 (by decide) ?_
            exact mG_sub (mxLe_s (mxLe_s (mxLe_s (mxLe_s mxLe_z)))) (hK5 _ (Option.some.inj e8).symm)
          refine mG_icmp_gt (pc := 40) (tgt := 63) C dX2_rankInWindow_40 (by decide) (fun q23 => ?_) (fun q23 => ?_)
          · rw [if_pos q23] at e26
            refine mG_ii (ls' := [some (.ref p0), some (.int p1), some (.int (s1.1 + 1)), some (.int s1.2)]) (pc := 63) C dX2_rankInWindow_63 rfl (kinc1 _) rfl rfl rfl ?_
            exact mG_sub (mxLe_s (mxLe_s (mxLe_s (mxLe_s mxLe_z)))) (J24 _ (Option.some.inj e26))
          · rw [if_neg q23] at e26
            refine mG_aload_n (pc := 43) C dX2_rankInWindow_43 rfl ?_
            obtain ⟨r27, e28, e26⟩ := mx_bind e26
            refine mG_getR (pc := 44) C dX2_rankInWindow_44 fl_X2_9 e28 ?_
            refine mG_iload_n (pc := 47) C dX2_rankInWindow_47 rfl ?_
            obtain ⟨v29, e30, e26⟩ := mx_bind e26
            refine mG_iaload (pc := 48) C dX2_rankInWindow_48 e30 ?_
            refine mG_aload_n (pc := 49) C dX2_rankInWindow_49 rfl ?_
            obtain ⟨r31, e32, e26⟩ := mx_bind e26
            refine mG_getR (pc := 50) C dX2_rankInWindow_50 fl_X2_9 e32 ?_
            refine mG_iload_n (pc := 53) C dX2_rankInWindow_53 rfl ?_
            obtain ⟨v33, e34, e26⟩ := mx_bind e26
            refine mG_iaload (pc := 54) C dX2_rankInWindow_54 e34 ?_
            refine mG_icmp_ne (pc := 55) (tgt := 66) C dX2_rankInWindow_55 (by decide) (fun q35 => ?_) (fun q35 => ?_)
            · rw [if_neg q35] at e26
              exact mG_sub (mxLe_s (mxLe_s (mxLe_s (mxLe_s mxLe_z)))) (J24 _ (Option.some.inj e26))
            · rw [if_pos q35] at e26
              refine mG_iload_n (pc := 58) C dX2_rankInWindow_58 rfl ?_
              refine mG_iload_n (pc := 59) C dX2_rankInWindow_59 rfl ?_
              refine mG_icmp_ge (pc := 60) (tgt := 66) C dX2_rankInWindow_60 (by decide) (fun q36 => ?_) (fun q36 => ?_)
              · rw [if_pos q36] at e26
                exact mG_sub (mxLe_s (mxLe_s (mxLe_s (mxLe_s mxLe_z)))) (J24 _ (Option.some.inj e26))
              · rw [if_neg q36] at e26
                refine mG_ii (ls' := [some (.ref p0), some (.int p1), some (.int (s1.1 + 1)), some (.int s1.2)]) (pc := 63) C dX2_rankInWindow_63 rfl (kinc1 _) rfl rfl rfl ?_
                exact mG_sub (mxLe_s (mxLe_s (mxLe_s (mxLe_s mxLe_z)))) (J24 _ (Option.some.inj e26))
theorem dX2_bySize_0 : decode cX2_bySize 0 = .ok (.iconst 0, 1) := by decide +kernel
theorem dX2_bySize_1 : decode cX2_bySize 1 = .ok (.istore_n 2, 1) := by decide +kernel
theorem dX2_bySize_2 : decode cX2_bySize 2 = .ok (.iload_n 2, 1) := by decide +kernel
theorem dX2_bySize_3 : decode cX2_bySize 3 = .ok (.aload_n 0, 1) := by decide +kernel
theorem dX2_bySize_4 : decode cX2_bySize 4 = .ok (.getfield 19, 3) := by decide +kernel
theorem dX2_bySize_7 : decode cX2_bySize 7 = .ok (.if_icmp .ge 31, 3) := by decide +kernel
theorem dX2_bySize_10 : decode cX2_bySize 10 = .ok (.iload_n 2, 1) := by decide +kernel
theorem dX2_bySize_11 : decode cX2_bySize 11 = .ok (.bipush 10, 2) := by decide +kernel
theorem dX2_bySize_13 : decode cX2_bySize 13 = .ok (.if_icmp .ge 25, 3) := by decide +kernel
theorem dX2_bySize_16 : decode cX2_bySize 16 = .ok (.aload_n 0, 1) := by decide +kernel
theorem dX2_bySize_17 : decode cX2_bySize 17 = .ok (.iload_n 2, 1) := by decide +kernel
theorem dX2_bySize_18 : decode cX2_bySize 18 = .ok (.invokevirtual 71, 3) := by decide +kernel
theorem dX2_bySize_21 : decode cX2_bySize 21 = .ok (.iload_n 1, 1) := by decide +kernel
theorem dX2_bySize_22 : decode cX2_bySize 22 = .ok (.if_icmp .ne 10, 3) := by decide +kernel
theorem dX2_bySize_25 : decode cX2_bySize 25 = .ok (.aload_n 0, 1) := by decide +kernel
theorem dX2_bySize_26 : decode cX2_bySize 26 = .ok (.getfield 9, 3) := by decide +kernel
theorem dX2_bySize_29 : decode cX2_bySize 29 = .ok (.iload_n 2, 1) := by decide +kernel
theorem dX2_bySize_30 : decode cX2_bySize 30 = .ok (.iaload, 1) := by decide +kernel
theorem dX2_bySize_31 : decode cX2_bySize 31 = .ok (.ireturn, 1) := by decide +kernel
theorem dX2_bySize_32 : decode cX2_bySize 32 = .ok (.iinc 2 1, 3) := by decide +kernel
theorem dX2_bySize_35 : decode cX2_bySize 35 = .ok (.goto (-33), 3) := by decide +kernel
theorem dX2_bySize_38 : decode cX2_bySize 38 = .ok (.iconst (-1), 1) := by decide +kernel
theorem dX2_bySize_39 : decode cX2_bySize 39 = .ok (.ireturn, 1) := by decide +kernel
def fX2_bySize (p0 : Nat) (p1 : Int32) (h : mxH) : Option Int32 := Option.bind (mxLoop (ρ := (Int32 ⊕ Unit)) (fun s1 : Int32 => Option.bind (gI h p0 2 2) (fun v10 => (if v10 ≤ s1 then some (Sum.inr (Sum.inr ())) else (if 10 ≤ s1 then some (Sum.inr (Sum.inr ())) else Option.bind (isO h p0 2) (fun u14 => Option.bind (fX2_rankInWindow p0 s1 h) (fun v17 => (if v17 = p1 then some (Sum.inr (Sum.inl s1)) else some (Sum.inl (s1 + 1))))))))) mxF 0) (Sum.elim (fun r19 : Int32 => Option.bind (gR h p0 2 0) (fun r20 => Option.bind (ldI h r20 r19) (fun v22 => some v22))) (fun r25 : Unit => some (-1)))
abbrev rmX2_bySize : Room := { frames := 1, cells := 0, slots := 0, locals := 23 }
set_option maxRecDepth 20000 in
theorem tX2_bySize {l : Launch} {Z : mxZ} (hl : l.stackTraces = false) {p0 : Nat} {p1 : Int32} {h : mxH} {out : Int32} (hf : fX2_bySize p0 p1 h = some out) : mxMet l Z yX2_bySize cX2_bySize 3 (some .int) rmX2_bySize [.ref p0, .int p1] h (.inl (some (.int out))) h := by
  refine mxMet_of (by decide) hl (by simp [Value.category]) (Nat.le_of_ble_eq_true rfl) ?_
  intro X C E hX hin
  unfold fX2_bySize at hf
  refine mG_ic (pc := 0) C dX2_bySize_0 kI0 ?_
  refine mG_isn (ls' := [some (.ref p0), some (.int p1), some (.int 0)]) (pc := 1) C dX2_bySize_1 rfl rfl rfl ?_
  obtain ⟨r2, e3, hf⟩ := mx_bind hf
  have J4 : ∀ r19 : Int32, Sum.inl r19 = r2 → mG l Z X 3 0 0 25 [some (.ref p0), none, some (.int r19)] [] h := by
    intro r19 q24
    subst q24
    rw [Sum.elim_inl] at hf
    refine mG_aload_n (pc := 25) C dX2_bySize_25 rfl ?_
    obtain ⟨r20, e21, hf⟩ := mx_bind hf
    refine mG_getR (pc := 26) C dX2_bySize_26 fl_X2_9 e21 ?_
    refine mG_iload_n (pc := 29) C dX2_bySize_29 rfl ?_
    obtain ⟨v22, e23, hf⟩ := mx_bind hf
    refine mG_iaload (pc := 30) C dX2_bySize_30 e23 ?_
    cases hf
    exact mG_ir (pc := 31) C E hX dX2_bySize_31 rfl
  have J5 : ∀ r25 : Unit, Sum.inr r25 = r2 → mG l Z X 3 0 0 38 [none, none, none] [] h := by
    intro r25 q26
    subst q26
    rw [Sum.elim_inr] at hf
    refine mG_ic (pc := 38) C dX2_bySize_38 kIm1 ?_
    cases hf
    exact mG_ir (pc := 39) C E hX dX2_bySize_39 rfl
  refine mG_sub (ls' := [some (.ref p0), some (.int p1), some (.int 0)]) (mxLe_s (mxLe_s (mxLe_s mxLe_z))) (mxLoop_ind (K := fun s1 : Int32 => mG l Z X 3 0 0 2 [some (.ref p0), some (.int p1), some (.int s1)] [] h) ?_ _ _ e3)
  intro s1 o8 e9 hK6 hx7
  refine mG_iload_n (pc := 2) C dX2_bySize_2 rfl ?_
  refine mG_aload_n (pc := 3) C dX2_bySize_3 rfl ?_
  obtain ⟨v10, e11, e9⟩ := mx_bind e9
  refine mG_getI (pc := 4) C dX2_bySize_4 fl_X2_19 e11 ?_
  refine mG_icmp_ge (pc := 7) (tgt := 38) C dX2_bySize_7 (by decide) (fun q12 => ?_) (fun q12 => ?_)
  · rw [if_pos q12] at e9
    exact mG_sub (mxLe_n (mxLe_n (mxLe_n mxLe_z))) (J5 _ (hx7 _ (Option.some.inj e9).symm))
  · rw [if_neg q12] at e9
    refine mG_iload_n (pc := 10) C dX2_bySize_10 rfl ?_
    refine mG_bp (pc := 11) C dX2_bySize_11 kB10 ?_
    refine mG_icmp_ge (pc := 13) (tgt := 38) C dX2_bySize_13 (by decide) (fun q13 => ?_) (fun q13 => ?_)
    · rw [if_pos q13] at e9
      exact mG_sub (mxLe_n (mxLe_n (mxLe_n mxLe_z))) (J5 _ (hx7 _ (Option.some.inj e9).symm))
    · rw [if_neg q13] at e9
      refine mG_aload_n (pc := 16) C dX2_bySize_16 rfl ?_
      refine mG_iload_n (pc := 17) C dX2_bySize_17 rfl ?_
      obtain ⟨u14, e15, e9⟩ := mx_bind e9
      obtain ⟨v17, e16, e9⟩ := mx_bind e9
      refine mG_cV (pc := 18) (k' := 0) (n' := 0) 2 [.int s1] [] C hX dX2_bySize_18 lkV_X2_71 rfl rfl e15 (tX2_rankInWindow hl e16) rfl rfl rfl rfl ?_
      refine mG_iload_n (pc := 21) C dX2_bySize_21 rfl ?_
      refine mG_icmp_ne (pc := 22) (tgt := 32) C dX2_bySize_22 (by decide) (fun q18 => ?_) (fun q18 => ?_)
      · rw [if_neg q18] at e9
        refine mG_ii (ls' := [some (.ref p0), some (.int p1), some (.int (s1 + 1))]) (pc := 32) C dX2_bySize_32 rfl (kinc1 _) rfl rfl rfl ?_
        refine mG_goto (tgt := 2) (pc := 35) C dX2_bySize_35 (by decide) ?_
        exact mG_sub (mxLe_s (mxLe_s (mxLe_s mxLe_z))) (hK6 _ (Option.some.inj e9).symm)
      · rw [if_pos q18] at e9
        exact mG_sub (mxLe_s (mxLe_n (mxLe_s mxLe_z))) (J4 _ (hx7 _ (Option.some.inj e9).symm))
theorem dX2_isFirstOfItsKind_0 : decode cX2_isFirstOfItsKind 0 = .ok (.iconst 0, 1) := by decide +kernel
theorem dX2_isFirstOfItsKind_1 : decode cX2_isFirstOfItsKind 1 = .ok (.istore_n 2, 1) := by decide +kernel
theorem dX2_isFirstOfItsKind_2 : decode cX2_isFirstOfItsKind 2 = .ok (.iload_n 2, 1) := by decide +kernel
theorem dX2_isFirstOfItsKind_3 : decode cX2_isFirstOfItsKind 3 = .ok (.iload_n 1, 1) := by decide +kernel
theorem dX2_isFirstOfItsKind_4 : decode cX2_isFirstOfItsKind 4 = .ok (.if_icmp .ge 32, 3) := by decide +kernel
theorem dX2_isFirstOfItsKind_7 : decode cX2_isFirstOfItsKind 7 = .ok (.iload_n 1, 1) := by decide +kernel
theorem dX2_isFirstOfItsKind_8 : decode cX2_isFirstOfItsKind 8 = .ok (.bipush 10, 2) := by decide +kernel
theorem dX2_isFirstOfItsKind_10 : decode cX2_isFirstOfItsKind 10 = .ok (.if_icmp .ge 26, 3) := by decide +kernel
theorem dX2_isFirstOfItsKind_13 : decode cX2_isFirstOfItsKind 13 = .ok (.aload_n 0, 1) := by decide +kernel
theorem dX2_isFirstOfItsKind_14 : decode cX2_isFirstOfItsKind 14 = .ok (.getfield 9, 3) := by decide +kernel
theorem dX2_isFirstOfItsKind_17 : decode cX2_isFirstOfItsKind 17 = .ok (.iload_n 2, 1) := by decide +kernel
theorem dX2_isFirstOfItsKind_18 : decode cX2_isFirstOfItsKind 18 = .ok (.iaload, 1) := by decide +kernel
theorem dX2_isFirstOfItsKind_19 : decode cX2_isFirstOfItsKind 19 = .ok (.aload_n 0, 1) := by decide +kernel
theorem dX2_isFirstOfItsKind_20 : decode cX2_isFirstOfItsKind 20 = .ok (.getfield 9, 3) := by decide +kernel
theorem dX2_isFirstOfItsKind_23 : decode cX2_isFirstOfItsKind 23 = .ok (.iload_n 1, 1) := by decide +kernel
theorem dX2_isFirstOfItsKind_24 : decode cX2_isFirstOfItsKind 24 = .ok (.iaload, 1) := by decide +kernel
theorem dX2_isFirstOfItsKind_25 : decode cX2_isFirstOfItsKind 25 = .ok (.if_icmp .ne 5, 3) := by decide +kernel
theorem dX2_isFirstOfItsKind_28 : decode cX2_isFirstOfItsKind 28 = .ok (.iconst 0, 1) := by decide +kernel
theorem dX2_isFirstOfItsKind_29 : decode cX2_isFirstOfItsKind 29 = .ok (.ireturn, 1) := by decide +kernel
theorem dX2_isFirstOfItsKind_30 : decode cX2_isFirstOfItsKind 30 = .ok (.iinc 2 1, 3) := by decide +kernel
theorem dX2_isFirstOfItsKind_33 : decode cX2_isFirstOfItsKind 33 = .ok (.goto (-31), 3) := by decide +kernel
theorem dX2_isFirstOfItsKind_36 : decode cX2_isFirstOfItsKind 36 = .ok (.iconst 1, 1) := by decide +kernel
theorem dX2_isFirstOfItsKind_37 : decode cX2_isFirstOfItsKind 37 = .ok (.ireturn, 1) := by decide +kernel
def fX2_isFirstOfItsKind (p0 : Nat) (p1 : Int32) (h : mxH) : Option Int32 := Option.bind (mxLoop (ρ := (Unit ⊕ Unit)) (fun s1 : Int32 => (if p1 ≤ s1 then some (Sum.inr (Sum.inr ())) else (if 10 ≤ p1 then some (Sum.inr (Sum.inr ())) else Option.bind (gR h p0 2 0) (fun r12 => Option.bind (ldI h r12 s1) (fun v14 => Option.bind (gR h p0 2 0) (fun r16 => Option.bind (ldI h r16 p1) (fun v18 => (if v14 = v18 then some (Sum.inr (Sum.inl ())) else some (Sum.inl (s1 + 1)))))))))) mxF 0) (Sum.elim (fun r21 : Unit => Option.bind (mxZ1 0) (fun v22 => some v22)) (fun r25 : Unit => Option.bind (mxZ1 1) (fun v26 => some v26)))
abbrev rmX2_isFirstOfItsKind : Room := { frames := 0, cells := 0, slots := 0, locals := 0 }
set_option maxRecDepth 20000 in
theorem tX2_isFirstOfItsKind {l : Launch} {Z : mxZ} (hl : l.stackTraces = false) {p0 : Nat} {p1 : Int32} {h : mxH} {out : Int32} (hf : fX2_isFirstOfItsKind p0 p1 h = some out) : mxMet l Z yX2_isFirstOfItsKind cX2_isFirstOfItsKind 3 (some .boolean) rmX2_isFirstOfItsKind [.ref p0, .int p1] h (.inl (some (.int out))) h := by
  refine mxMet_of (by decide) hl (by simp [Value.category]) (Nat.le_of_ble_eq_true rfl) ?_
  intro X C E hX hin
  unfold fX2_isFirstOfItsKind at hf
  refine mG_ic (pc := 0) C dX2_isFirstOfItsKind_0 kI0 ?_
  refine mG_isn (ls' := [some (.ref p0), some (.int p1), some (.int 0)]) (pc := 1) C dX2_isFirstOfItsKind_1 rfl rfl rfl ?_
  obtain ⟨r2, e3, hf⟩ := mx_bind hf
  have J4 : ∀ r21 : Unit, Sum.inl r21 = r2 → mG l Z X 3 0 0 28 [none, none, none] [] h := by
    intro r21 q24
    subst q24
    rw [Sum.elim_inl] at hf
    refine mG_ic (pc := 28) C dX2_isFirstOfItsKind_28 kI0 ?_
    obtain ⟨v22, e23, hf⟩ := mx_bind hf
    cases hf
    exact mG_zr (pc := 29) C e23 E hX dX2_isFirstOfItsKind_29 rfl
  have J5 : ∀ r25 : Unit, Sum.inr r25 = r2 → mG l Z X 3 0 0 36 [none, none, none] [] h := by
    intro r25 q28
    subst q28
    rw [Sum.elim_inr] at hf
    refine mG_ic (pc := 36) C dX2_isFirstOfItsKind_36 kI1 ?_
    obtain ⟨v26, e27, hf⟩ := mx_bind hf
    cases hf
    exact mG_zr (pc := 37) C e27 E hX dX2_isFirstOfItsKind_37 rfl
  refine mG_sub (ls' := [some (.ref p0), some (.int p1), some (.int 0)]) (mxLe_s (mxLe_s (mxLe_s mxLe_z))) (mxLoop_ind (K := fun s1 : Int32 => mG l Z X 3 0 0 2 [some (.ref p0), some (.int p1), some (.int s1)] [] h) ?_ _ _ e3)
  intro s1 o8 e9 hK6 hx7
  refine mG_iload_n (pc := 2) C dX2_isFirstOfItsKind_2 rfl ?_
  refine mG_iload_n (pc := 3) C dX2_isFirstOfItsKind_3 rfl ?_
  refine mG_icmp_ge (pc := 4) (tgt := 36) C dX2_isFirstOfItsKind_4 (by decide) (fun q10 => ?_) (fun q10 => ?_)
  · rw [if_pos q10] at e9
    exact mG_sub (mxLe_n (mxLe_n (mxLe_n mxLe_z))) (J5 _ (hx7 _ (Option.some.inj e9).symm))
  · rw [if_neg q10] at e9
    refine mG_iload_n (pc := 7) C dX2_isFirstOfItsKind_7 rfl ?_
    refine mG_bp (pc := 8) C dX2_isFirstOfItsKind_8 kB10 ?_
    refine mG_icmp_ge (pc := 10) (tgt := 36) C dX2_isFirstOfItsKind_10 (by decide) (fun q11 => ?_) (fun q11 => ?_)
    · rw [if_pos q11] at e9
      exact mG_sub (mxLe_n (mxLe_n (mxLe_n mxLe_z))) (J5 _ (hx7 _ (Option.some.inj e9).symm))
    · rw [if_neg q11] at e9
      refine mG_aload_n (pc := 13) C dX2_isFirstOfItsKind_13 rfl ?_
      obtain ⟨r12, e13, e9⟩ := mx_bind e9
      refine mG_getR (pc := 14) C dX2_isFirstOfItsKind_14 fl_X2_9 e13 ?_
      refine mG_iload_n (pc := 17) C dX2_isFirstOfItsKind_17 rfl ?_
      obtain ⟨v14, e15, e9⟩ := mx_bind e9
      refine mG_iaload (pc := 18) C dX2_isFirstOfItsKind_18 e15 ?_
      refine mG_aload_n (pc := 19) C dX2_isFirstOfItsKind_19 rfl ?_
      obtain ⟨r16, e17, e9⟩ := mx_bind e9
      refine mG_getR (pc := 20) C dX2_isFirstOfItsKind_20 fl_X2_9 e17 ?_
      refine mG_iload_n (pc := 23) C dX2_isFirstOfItsKind_23 rfl ?_
      obtain ⟨v18, e19, e9⟩ := mx_bind e9
      refine mG_iaload (pc := 24) C dX2_isFirstOfItsKind_24 e19 ?_
      refine mG_icmp_ne (pc := 25) (tgt := 30) C dX2_isFirstOfItsKind_25 (by decide) (fun q20 => ?_) (fun q20 => ?_)
      · rw [if_neg q20] at e9
        refine mG_ii (ls' := [some (.ref p0), some (.int p1), some (.int (s1 + 1))]) (pc := 30) C dX2_isFirstOfItsKind_30 rfl (kinc1 _) rfl rfl rfl ?_
        refine mG_goto (tgt := 2) (pc := 33) C dX2_isFirstOfItsKind_33 (by decide) ?_
        exact mG_sub (mxLe_s (mxLe_s (mxLe_s mxLe_z))) (hK6 _ (Option.some.inj e9).symm)
      · rw [if_pos q20] at e9
        exact mG_sub (mxLe_n (mxLe_n (mxLe_n mxLe_z))) (J4 _ (hx7 _ (Option.some.inj e9).symm))
theorem dX2_countUnlike_0 : decode cX2_countUnlike 0 = .ok (.iconst 0, 1) := by decide +kernel
theorem dX2_countUnlike_1 : decode cX2_countUnlike 1 = .ok (.istore_n 1, 1) := by decide +kernel
theorem dX2_countUnlike_2 : decode cX2_countUnlike 2 = .ok (.iconst 0, 1) := by decide +kernel
theorem dX2_countUnlike_3 : decode cX2_countUnlike 3 = .ok (.istore_n 2, 1) := by decide +kernel
theorem dX2_countUnlike_4 : decode cX2_countUnlike 4 = .ok (.iload_n 2, 1) := by decide +kernel
theorem dX2_countUnlike_5 : decode cX2_countUnlike 5 = .ok (.aload_n 0, 1) := by decide +kernel
theorem dX2_countUnlike_6 : decode cX2_countUnlike 6 = .ok (.getfield 19, 3) := by decide +kernel
theorem dX2_countUnlike_9 : decode cX2_countUnlike 9 = .ok (.if_icmp .ge 31, 3) := by decide +kernel
theorem dX2_countUnlike_12 : decode cX2_countUnlike 12 = .ok (.iload_n 2, 1) := by decide +kernel
theorem dX2_countUnlike_13 : decode cX2_countUnlike 13 = .ok (.bipush 10, 2) := by decide +kernel
theorem dX2_countUnlike_15 : decode cX2_countUnlike 15 = .ok (.if_icmp .ge 25, 3) := by decide +kernel
theorem dX2_countUnlike_18 : decode cX2_countUnlike 18 = .ok (.iload_n 1, 1) := by decide +kernel
theorem dX2_countUnlike_19 : decode cX2_countUnlike 19 = .ok (.aload_n 0, 1) := by decide +kernel
theorem dX2_countUnlike_20 : decode cX2_countUnlike 20 = .ok (.iload_n 2, 1) := by decide +kernel
theorem dX2_countUnlike_21 : decode cX2_countUnlike 21 = .ok (.invokevirtual 74, 3) := by decide +kernel
theorem dX2_countUnlike_24 : decode cX2_countUnlike 24 = .ok (.ifCond .eq 7, 3) := by decide +kernel
theorem dX2_countUnlike_27 : decode cX2_countUnlike 27 = .ok (.iconst 1, 1) := by decide +kernel
theorem dX2_countUnlike_28 : decode cX2_countUnlike 28 = .ok (.goto 4, 3) := by decide +kernel
theorem dX2_countUnlike_31 : decode cX2_countUnlike 31 = .ok (.iconst 0, 1) := by decide +kernel
theorem dX2_countUnlike_32 : decode cX2_countUnlike 32 = .ok (.iadd, 1) := by decide +kernel
theorem dX2_countUnlike_33 : decode cX2_countUnlike 33 = .ok (.istore_n 1, 1) := by decide +kernel
theorem dX2_countUnlike_34 : decode cX2_countUnlike 34 = .ok (.iinc 2 1, 3) := by decide +kernel
theorem dX2_countUnlike_37 : decode cX2_countUnlike 37 = .ok (.goto (-33), 3) := by decide +kernel
theorem dX2_countUnlike_40 : decode cX2_countUnlike 40 = .ok (.iload_n 1, 1) := by decide +kernel
theorem dX2_countUnlike_41 : decode cX2_countUnlike 41 = .ok (.ireturn, 1) := by decide +kernel
def fX2_countUnlike (p0 : Nat) (h : mxH) : Option Int32 := Option.bind (mxLoop (ρ := Int32) (fun s1 : (Int32 × Int32) => Option.bind (gI h p0 2 2) (fun v9 => (if v9 ≤ s1.2 then some (Sum.inr s1.1) else (if 10 ≤ s1.2 then some (Sum.inr s1.1) else Option.bind (isO h p0 2) (fun u13 => Option.bind (fX2_isFirstOfItsKind p0 s1.2 h) (fun v16 => Option.bind (α := Int32) (if v16 = 0 then some 0 else some 1) (fun p19' : Int32 => some (Sum.inl (s1.1 + p19', s1.2 + 1))))))))) mxF (0, 0)) (fun r22 : Int32 => some r22)
abbrev rmX2_countUnlike : Room := { frames := 1, cells := 0, slots := 0, locals := 22 }
set_option maxRecDepth 20000 in
theorem tX2_countUnlike {l : Launch} {Z : mxZ} (hl : l.stackTraces = false) {p0 : Nat} {h : mxH} {out : Int32} (hf : fX2_countUnlike p0 h = some out) : mxMet l Z yX2_countUnlike cX2_countUnlike 3 (some .int) rmX2_countUnlike [.ref p0] h (.inl (some (.int out))) h := by
  refine mxMet_of (by decide) hl (by simp [Value.category]) (Nat.le_of_ble_eq_true rfl) ?_
  intro X C E hX hin
  unfold fX2_countUnlike at hf
  refine mG_ic (pc := 0) C dX2_countUnlike_0 kI0 ?_
  refine mG_isn (ls' := [some (.ref p0), some (.int 0), none]) (pc := 1) C dX2_countUnlike_1 rfl rfl rfl ?_
  refine mG_ic (pc := 2) C dX2_countUnlike_2 kI0 ?_
  refine mG_isn (ls' := [some (.ref p0), some (.int 0), some (.int 0)]) (pc := 3) C dX2_countUnlike_3 rfl rfl rfl ?_
  obtain ⟨r2, e3, hf⟩ := mx_bind hf
  have J4 : ∀ r22 : Int32, r22 = r2 → mG l Z X 3 0 0 40 [none, some (.int r22), none] [] h := by
    intro r22 q23
    subst q23
    refine mG_iload_n (pc := 40) C dX2_countUnlike_40 rfl ?_
    cases hf
    exact mG_ir (pc := 41) C E hX dX2_countUnlike_41 rfl
  refine mG_sub (ls' := [some (.ref p0), some (.int 0), some (.int 0)]) (mxLe_s (mxLe_s (mxLe_s mxLe_z))) (mxLoop_ind (K := fun s1 : (Int32 × Int32) => mG l Z X 3 0 0 4 [some (.ref p0), some (.int s1.1), some (.int s1.2)] [] h) ?_ _ _ e3)
  intro s1 o7 e8 hK5 hx6
  refine mG_iload_n (pc := 4) C dX2_countUnlike_4 rfl ?_
  refine mG_aload_n (pc := 5) C dX2_countUnlike_5 rfl ?_
  obtain ⟨v9, e10, e8⟩ := mx_bind e8
  refine mG_getI (pc := 6) C dX2_countUnlike_6 fl_X2_19 e10 ?_
  refine mG_icmp_ge (pc := 9) (tgt := 40) C dX2_countUnlike_9 (by decide) (fun q11 => ?_) (fun q11 => ?_)
  · rw [if_pos q11] at e8
    exact mG_sub (mxLe_n (mxLe_s (mxLe_n mxLe_z))) (J4 _ (hx6 _ (Option.some.inj e8).symm))
  · rw [if_neg q11] at e8
    refine mG_iload_n (pc := 12) C dX2_countUnlike_12 rfl ?_
    refine mG_bp (pc := 13) C dX2_countUnlike_13 kB10 ?_
    refine mG_icmp_ge (pc := 15) (tgt := 40) C dX2_countUnlike_15 (by decide) (fun q12 => ?_) (fun q12 => ?_)
    · rw [if_pos q12] at e8
      exact mG_sub (mxLe_n (mxLe_s (mxLe_n mxLe_z))) (J4 _ (hx6 _ (Option.some.inj e8).symm))
    · rw [if_neg q12] at e8
      refine mG_iload_n (pc := 18) C dX2_countUnlike_18 rfl ?_
      refine mG_aload_n (pc := 19) C dX2_countUnlike_19 rfl ?_
      refine mG_iload_n (pc := 20) C dX2_countUnlike_20 rfl ?_
      obtain ⟨u13, e14, e8⟩ := mx_bind e8
      obtain ⟨v16, e15, e8⟩ := mx_bind e8
      refine mG_cV (pc := 21) (k' := 0) (n' := 0) 2 [.int s1.2] [.int s1.1] C hX dX2_countUnlike_21 lkV_X2_74 rfl rfl e14 (tX2_isFirstOfItsKind hl e15) rfl rfl rfl rfl ?_
      obtain ⟨p19, e20, e8⟩ := mx_bind e8
      have J18 : ∀ p19' : Int32, p19' = p19 → mG l Z X 3 0 0 32 [some (.ref p0), none, some (.int s1.2)] [.int p19', .int s1.1] h := by
        intro p19' q21
        subst q21
        refine mG_iadd (pc := 32) C dX2_countUnlike_32 ?_
        refine mG_isn (ls' := [some (.ref p0), some (.int (s1.1 + p19')), some (.int s1.2)]) (pc := 33) C dX2_countUnlike_33 rfl rfl rfl ?_
        refine mG_ii (ls' := [some (.ref p0), some (.int (s1.1 + p19')), some (.int (s1.2 + 1))]) (pc := 34) C dX2_countUnlike_34 rfl (kinc1 _) rfl rfl rfl ?_
        refine mG_goto (tgt := 4) (pc := 37) C dX2_countUnlike_37 (by decide) ?_
        exact mG_sub (mxLe_s (mxLe_s (mxLe_s mxLe_z))) (hK5 _ (Option.some.inj e8).symm)
      refine mG_if_eq (pc := 24) (tgt := 31) C dX2_countUnlike_24 (by decide) (fun q17 => ?_) (fun q17 => ?_)
      · rw [if_pos q17] at e20
        refine mG_ic (pc := 31) C dX2_countUnlike_31 kI0 ?_
        exact mG_sub (mxLe_s (mxLe_n (mxLe_s mxLe_z))) (J18 _ (Option.some.inj e20))
      · rw [if_neg q17] at e20
        refine mG_ic (pc := 27) C dX2_countUnlike_27 kI1 ?_
        refine mG_goto (tgt := 32) (pc := 28) C dX2_countUnlike_28 (by decide) ?_
        exact mG_sub (mxLe_s (mxLe_n (mxLe_s mxLe_z))) (J18 _ (Option.some.inj e20))
