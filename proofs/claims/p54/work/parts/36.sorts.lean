/-! printed by wip/gen54/emit2.py: for each method its function on the mini machine, and that the machine walks as the function says -/
theorem dX10_init_0 : decode cX10_init 0 = .ok (.aload_n 0, 1) := by decide +kernel
theorem dX10_init_1 : decode cX10_init 1 = .ok (.invokespecial 1, 3) := by decide +kernel
theorem dX10_init_4 : decode cX10_init 4 = .ok (.aload_n 0, 1) := by decide +kernel
theorem dX10_init_5 : decode cX10_init 5 = .ok (.ldc2_w 7, 3) := by decide +kernel
theorem dX10_init_8 : decode cX10_init 8 = .ok (.putfield 9, 3) := by decide +kernel
theorem dX10_init_11 : decode cX10_init 11 = .ok (.aload_n 1, 1) := by decide +kernel
theorem dX10_init_12 : decode cX10_init 12 = .ok (.astore_n 2, 1) := by decide +kernel
theorem dX10_init_13 : decode cX10_init 13 = .ok (.aload_n 2, 1) := by decide +kernel
theorem dX10_init_14 : decode cX10_init 14 = .ok (.arraylength, 1) := by decide +kernel
theorem dX10_init_15 : decode cX10_init 15 = .ok (.istore_n 3, 1) := by decide +kernel
theorem dX10_init_16 : decode cX10_init 16 = .ok (.iconst 0, 1) := by decide +kernel
theorem dX10_init_17 : decode cX10_init 17 = .ok (.istore 4, 2) := by decide +kernel
theorem dX10_init_19 : decode cX10_init 19 = .ok (.iload 4, 2) := by decide +kernel
theorem dX10_init_21 : decode cX10_init 21 = .ok (.iload_n 3, 1) := by decide +kernel
theorem dX10_init_22 : decode cX10_init 22 = .ok (.if_icmp .ge 33, 3) := by decide +kernel
theorem dX10_init_25 : decode cX10_init 25 = .ok (.aload_n 2, 1) := by decide +kernel
theorem dX10_init_26 : decode cX10_init 26 = .ok (.iload 4, 2) := by decide +kernel
theorem dX10_init_28 : decode cX10_init 28 = .ok (.iaload, 1) := by decide +kernel
theorem dX10_init_29 : decode cX10_init 29 = .ok (.istore 5, 2) := by decide +kernel
theorem dX10_init_31 : decode cX10_init 31 = .ok (.aload_n 0, 1) := by decide +kernel
theorem dX10_init_32 : decode cX10_init 32 = .ok (.aload_n 0, 1) := by decide +kernel
theorem dX10_init_33 : decode cX10_init 33 = .ok (.getfield 9, 3) := by decide +kernel
theorem dX10_init_36 : decode cX10_init 36 = .ok (.iload 5, 2) := by decide +kernel
theorem dX10_init_38 : decode cX10_init 38 = .ok (.i2l, 1) := by decide +kernel
theorem dX10_init_39 : decode cX10_init 39 = .ok (.lxor, 1) := by decide +kernel
theorem dX10_init_40 : decode cX10_init 40 = .ok (.ldc2_w 15, 3) := by decide +kernel
theorem dX10_init_43 : decode cX10_init 43 = .ok (.lmul, 1) := by decide +kernel
theorem dX10_init_44 : decode cX10_init 44 = .ok (.lconst 1, 1) := by decide +kernel
theorem dX10_init_45 : decode cX10_init 45 = .ok (.ladd, 1) := by decide +kernel
theorem dX10_init_46 : decode cX10_init 46 = .ok (.putfield 9, 3) := by decide +kernel
theorem dX10_init_49 : decode cX10_init 49 = .ok (.iinc 4 1, 3) := by decide +kernel
theorem dX10_init_52 : decode cX10_init 52 = .ok (.goto (-33), 3) := by decide +kernel
theorem dX10_init_55 : decode cX10_init 55 = .ok (.return_, 1) := by decide +kernel
def fX10_init (p0 : Nat) (p1 : Nat) (h : mxH) : Option mxH := Option.bind (pJ h p0 10 0 (41 : Int64)) (fun h1 => Option.bind (lenA h1 p1) (fun v3 => Option.bind (mxLoop (ρ := mxH) (fun s5 : (Int32 × mxH) => (if v3 ≤ s5.1 then some (Sum.inr s5.2) else Option.bind (ldI s5.2 p1 s5.1) (fun v14 => Option.bind (gJ s5.2 p0 10 0) (fun v16 => Option.bind (pJ s5.2 p0 10 0 (((v16 ^^^ v14.toInt64) * (1099511628211 : Int64)) + 1)) (fun h18 => some (Sum.inl (s5.1 + 1, h18))))))) mxF (0, h1)) (fun r20 : mxH => some r20)))
abbrev rmX10_init : Room := { frames := 1, cells := 0, slots := 0, locals := 21 }
set_option maxRecDepth 20000 in
set_option maxHeartbeats 1000000 in
theorem tX10_init {l : Launch} {Z : mxZ} (hl : l.stackTraces = false) {p0 : Nat} {p1 : Nat} {h : mxH} {out : mxH} (hf : fX10_init p0 p1 h = some out) : mxMet l Z yX10_init cX10_init 6 (none) rmX10_init [.ref p0, .ref p1] h (.inl none) out := by
  refine mxMet_of (by decide) hl (by simp [Value.category]) (Nat.le_of_ble_eq_true rfl) ?_
  intro X C E hX hin
  unfold fX10_init at hf
  refine mG_aload_n (pc := 0) C dX10_init_0 rfl ?_
  refine mG_oI2 (pc := 1) C hX dX10_init_1 oi_X10_1 rfl rfl ?_
  refine mG_aload_n (pc := 4) C dX10_init_4 rfl ?_
  refine mG_ldc2 (pc := 5) C dX10_init_5 w209 ?_
  obtain ⟨h1, e2, hf⟩ := mx_bind hf
  refine mG_putJ (pc := 8) C dX10_init_8 fl_X10_9 e2 ?_
  refine mG_aload_n (pc := 11) C dX10_init_11 rfl ?_
  refine mG_asn (ls' := [some (.ref p0), some (.ref p1), some (.ref p1), none, none, none]) (pc := 12) C dX10_init_12 rfl rfl rfl ?_
  refine mG_aload_n (pc := 13) C dX10_init_13 rfl ?_
  obtain ⟨v3, e4, hf⟩ := mx_bind hf
  refine mG_arraylength (pc := 14) C dX10_init_14 e4 ?_
  refine mG_isn (ls' := [some (.ref p0), some (.ref p1), some (.ref p1), some (.int v3), none, none]) (pc := 15) C dX10_init_15 rfl rfl rfl ?_
  refine mG_ic (pc := 16) C dX10_init_16 kI0 ?_
  refine mG_is (ls' := [some (.ref p0), some (.ref p1), some (.ref p1), some (.int v3), some (.int 0), none]) (pc := 17) C dX10_init_17 rfl rfl rfl ?_
  obtain ⟨r6, e7, hf⟩ := mx_bind hf
  have J8 : ∀ r20 : mxH, r20 = r6 → mG l Z X 6 0 0 55 [none, none, none, none, none, none] [] r20 := by
    intro r20 q21
    subst q21
    cases hf
    exact mG_vr2 (pc := 55) C E hX dX10_init_55 ⟨Nat.le_of_ble_eq_true rfl, Nat.le_of_ble_eq_true rfl⟩
  refine mG_sub (ls' := [some (.ref p0), none, some (.ref p1), some (.int v3), some (.int 0), none]) (mxLe_s (mxLe_n (mxLe_s (mxLe_s (mxLe_s (mxLe_n mxLe_z)))))) (mxLoop_ind (K := fun s5 : (Int32 × mxH) => mG l Z X 6 0 0 19 [some (.ref p0), none, some (.ref p1), some (.int v3), some (.int s5.1), none] [] s5.2) ?_ _ _ e7)
  intro s5 o11 e12 hK9 hx10
  refine mG_iload (pc := 19) C dX10_init_19 rfl ?_
  refine mG_iload_n (pc := 21) C dX10_init_21 rfl ?_
  refine mG_icmp_ge (pc := 22) (tgt := 55) C dX10_init_22 (by decide) (fun q13 => ?_) (fun q13 => ?_)
  · rw [if_pos q13] at e12
    exact mG_sub (mxLe_n (mxLe_n (mxLe_n (mxLe_n (mxLe_n (mxLe_n mxLe_z)))))) (J8 _ (hx10 _ (Option.some.inj e12).symm))
  · rw [if_neg q13] at e12
    refine mG_aload_n (pc := 25) C dX10_init_25 rfl ?_
    refine mG_iload (pc := 26) C dX10_init_26 rfl ?_
    obtain ⟨v14, e15, e12⟩ := mx_bind e12
    refine mG_iaload (pc := 28) C dX10_init_28 e15 ?_
    refine mG_is (ls' := [some (.ref p0), none, some (.ref p1), some (.int v3), some (.int s5.1), some (.int v14)]) (pc := 29) C dX10_init_29 rfl rfl rfl ?_
    refine mG_aload_n (pc := 31) C dX10_init_31 rfl ?_
    refine mG_aload_n (pc := 32) C dX10_init_32 rfl ?_
    obtain ⟨v16, e17, e12⟩ := mx_bind e12
    refine mG_getJ (pc := 33) C dX10_init_33 fl_X10_9 e17 ?_
    refine mG_iload (pc := 36) C dX10_init_36 rfl ?_
    refine mG_i2l (pc := 38) C dX10_init_38 ?_
    refine mG_lxor (pc := 39) C dX10_init_39 ?_
    refine mG_ldc2 (pc := 40) C dX10_init_40 w210 ?_
    refine mG_lmul (pc := 43) C dX10_init_43 ?_
    refine mG_lc (pc := 44) C dX10_init_44 klc1 ?_
    refine mG_ladd (pc := 45) C dX10_init_45 ?_
    obtain ⟨h18, e19, e12⟩ := mx_bind e12
    refine mG_putJ (pc := 46) C dX10_init_46 fl_X10_9 e19 ?_
    refine mG_ii (ls' := [some (.ref p0), none, some (.ref p1), some (.int v3), some (.int (s5.1 + 1)), some (.int v14)]) (pc := 49) C dX10_init_49 rfl (kinc1 _) rfl rfl rfl ?_
    refine mG_goto (tgt := 19) (pc := 52) C dX10_init_52 (by decide) ?_
    exact mG_sub (mxLe_s (mxLe_n (mxLe_s (mxLe_s (mxLe_s (mxLe_n mxLe_z)))))) (hK9 _ (Option.some.inj e12).symm)
theorem dX10_next_0 : decode cX10_next 0 = .ok (.aload_n 0, 1) := by decide +kernel
theorem dX10_next_1 : decode cX10_next 1 = .ok (.aload_n 0, 1) := by decide +kernel
theorem dX10_next_2 : decode cX10_next 2 = .ok (.getfield 9, 3) := by decide +kernel
theorem dX10_next_5 : decode cX10_next 5 = .ok (.ldc2_w 17, 3) := by decide +kernel
theorem dX10_next_8 : decode cX10_next 8 = .ok (.lmul, 1) := by decide +kernel
theorem dX10_next_9 : decode cX10_next 9 = .ok (.ldc2_w 19, 3) := by decide +kernel
theorem dX10_next_12 : decode cX10_next 12 = .ok (.ladd, 1) := by decide +kernel
theorem dX10_next_13 : decode cX10_next 13 = .ok (.putfield 9, 3) := by decide +kernel
theorem dX10_next_16 : decode cX10_next 16 = .ok (.aload_n 0, 1) := by decide +kernel
theorem dX10_next_17 : decode cX10_next 17 = .ok (.getfield 9, 3) := by decide +kernel
theorem dX10_next_20 : decode cX10_next 20 = .ok (.bipush 33, 2) := by decide +kernel
theorem dX10_next_22 : decode cX10_next 22 = .ok (.lushr, 1) := by decide +kernel
theorem dX10_next_23 : decode cX10_next 23 = .ok (.iload_n 1, 1) := by decide +kernel
theorem dX10_next_24 : decode cX10_next 24 = .ok (.i2l, 1) := by decide +kernel
theorem dX10_next_25 : decode cX10_next 25 = .ok (.lrem, 1) := by decide +kernel
theorem dX10_next_26 : decode cX10_next 26 = .ok (.l2i, 1) := by decide +kernel
theorem dX10_next_27 : decode cX10_next 27 = .ok (.ireturn, 1) := by decide +kernel
def fX10_next (p0 : Nat) (p1 : Int32) (h : mxH) : Option (Int32 × mxH) := Option.bind (gJ h p0 10 0) (fun v1 => Option.bind (pJ h p0 10 0 ((v1 * (6364136223846793005 : Int64)) + (1442695040888963407 : Int64))) (fun h3 => Option.bind (gJ h3 p0 10 0) (fun v5 => Option.bind (mxNzL p1.toInt64) (fun u7 => some (((mxLshr v5 33) - (mxLshr v5 33) / p1.toInt64 * p1.toInt64).toInt32, h3)))))
abbrev rmX10_next : Room := { frames := 0, cells := 0, slots := 0, locals := 0 }
set_option maxRecDepth 20000 in
set_option maxHeartbeats 1000000 in
theorem tX10_next {l : Launch} {Z : mxZ} (hl : l.stackTraces = false) {p0 : Nat} {p1 : Int32} {h : mxH} {out : (Int32 × mxH)} (hf : fX10_next p0 p1 h = some out) : mxMet l Z yX10_next cX10_next 2 (some .int) rmX10_next [.ref p0, .int p1] h (.inl (some (.int out.1))) out.2 := by
  refine mxMet_of (by decide) hl (by simp [Value.category]) (Nat.le_of_ble_eq_true rfl) ?_
  intro X C E hX hin
  unfold fX10_next at hf
  refine mG_aload_n (pc := 0) C dX10_next_0 rfl ?_
  refine mG_aload_n (pc := 1) C dX10_next_1 rfl ?_
  obtain ⟨v1, e2, hf⟩ := mx_bind hf
  refine mG_getJ (pc := 2) C dX10_next_2 fl_X10_9 e2 ?_
  refine mG_ldc2 (pc := 5) C dX10_next_5 w219 ?_
  refine mG_lmul (pc := 8) C dX10_next_8 ?_
  refine mG_ldc2 (pc := 9) C dX10_next_9 w220 ?_
  refine mG_ladd (pc := 12) C dX10_next_12 ?_
  obtain ⟨h3, e4, hf⟩ := mx_bind hf
  refine mG_putJ (pc := 13) C dX10_next_13 fl_X10_9 e4 ?_
  refine mG_aload_n (pc := 16) C dX10_next_16 rfl ?_
  obtain ⟨v5, e6, hf⟩ := mx_bind hf
  refine mG_getJ (pc := 17) C dX10_next_17 fl_X10_9 e6 ?_
  refine mG_bp (pc := 20) C dX10_next_20 kB33 ?_
  refine mG_lushr (pc := 22) C dX10_next_22 ?_
  refine mG_iload_n (pc := 23) C dX10_next_23 rfl ?_
  refine mG_i2l (pc := 24) C dX10_next_24 ?_
  obtain ⟨u7, e8, hf⟩ := mx_bind hf
  refine mG_lrem (pc := 25) C dX10_next_25 (mxNzL_some e8) ?_
  refine mG_l2i (pc := 26) C dX10_next_26 ?_
  cases hf
  exact mG_ir2 (pc := 27) C E hX dX10_next_27 ⟨Nat.le_of_ble_eq_true rfl, Nat.le_of_ble_eq_true rfl⟩
theorem dX12_insertionSort_0 : decode cX12_insertionSort 0 = .ok (.iload_n 1, 1) := by decide +kernel
theorem dX12_insertionSort_1 : decode cX12_insertionSort 1 = .ok (.istore 4, 2) := by decide +kernel
theorem dX12_insertionSort_3 : decode cX12_insertionSort 3 = .ok (.iinc 4 1, 3) := by decide +kernel
theorem dX12_insertionSort_6 : decode cX12_insertionSort 6 = .ok (.iload 4, 2) := by decide +kernel
theorem dX12_insertionSort_8 : decode cX12_insertionSort 8 = .ok (.iload_n 2, 1) := by decide +kernel
theorem dX12_insertionSort_9 : decode cX12_insertionSort 9 = .ok (.if_icmp .ge 58, 3) := by decide +kernel
theorem dX12_insertionSort_12 : decode cX12_insertionSort 12 = .ok (.aload_n 0, 1) := by decide +kernel
theorem dX12_insertionSort_13 : decode cX12_insertionSort 13 = .ok (.iload 4, 2) := by decide +kernel
theorem dX12_insertionSort_15 : decode cX12_insertionSort 15 = .ok (.dup, 1) := by decide +kernel
theorem dX12_insertionSort_16 : decode cX12_insertionSort 16 = .ok (.istore_n 3, 1) := by decide +kernel
theorem dX12_insertionSort_17 : decode cX12_insertionSort 17 = .ok (.iaload, 1) := by decide +kernel
theorem dX12_insertionSort_18 : decode cX12_insertionSort 18 = .ok (.istore 5, 2) := by decide +kernel
theorem dX12_insertionSort_20 : decode cX12_insertionSort 20 = .ok (.iload 5, 2) := by decide +kernel
theorem dX12_insertionSort_22 : decode cX12_insertionSort 22 = .ok (.aload_n 0, 1) := by decide +kernel
theorem dX12_insertionSort_23 : decode cX12_insertionSort 23 = .ok (.iload_n 3, 1) := by decide +kernel
theorem dX12_insertionSort_24 : decode cX12_insertionSort 24 = .ok (.iconst 1, 1) := by decide +kernel
theorem dX12_insertionSort_25 : decode cX12_insertionSort 25 = .ok (.isub, 1) := by decide +kernel
theorem dX12_insertionSort_26 : decode cX12_insertionSort 26 = .ok (.iaload, 1) := by decide +kernel
theorem dX12_insertionSort_27 : decode cX12_insertionSort 27 = .ok (.if_icmp .ge 37, 3) := by decide +kernel
theorem dX12_insertionSort_30 : decode cX12_insertionSort 30 = .ok (.iinc 3 (-1), 3) := by decide +kernel
theorem dX12_insertionSort_33 : decode cX12_insertionSort 33 = .ok (.iload_n 3, 1) := by decide +kernel
theorem dX12_insertionSort_34 : decode cX12_insertionSort 34 = .ok (.iload_n 1, 1) := by decide +kernel
theorem dX12_insertionSort_35 : decode cX12_insertionSort 35 = .ok (.if_icmp .lt 22, 3) := by decide +kernel
theorem dX12_insertionSort_38 : decode cX12_insertionSort 38 = .ok (.iload 5, 2) := by decide +kernel
theorem dX12_insertionSort_40 : decode cX12_insertionSort 40 = .ok (.aload_n 0, 1) := by decide +kernel
theorem dX12_insertionSort_41 : decode cX12_insertionSort 41 = .ok (.iload_n 3, 1) := by decide +kernel
theorem dX12_insertionSort_42 : decode cX12_insertionSort 42 = .ok (.iaload, 1) := by decide +kernel
theorem dX12_insertionSort_43 : decode cX12_insertionSort 43 = .ok (.if_icmp .ge 14, 3) := by decide +kernel
theorem dX12_insertionSort_46 : decode cX12_insertionSort 46 = .ok (.aload_n 0, 1) := by decide +kernel
theorem dX12_insertionSort_47 : decode cX12_insertionSort 47 = .ok (.iload_n 3, 1) := by decide +kernel
theorem dX12_insertionSort_48 : decode cX12_insertionSort 48 = .ok (.iconst 1, 1) := by decide +kernel
theorem dX12_insertionSort_49 : decode cX12_insertionSort 49 = .ok (.iadd, 1) := by decide +kernel
theorem dX12_insertionSort_50 : decode cX12_insertionSort 50 = .ok (.aload_n 0, 1) := by decide +kernel
theorem dX12_insertionSort_51 : decode cX12_insertionSort 51 = .ok (.iload_n 3, 1) := by decide +kernel
theorem dX12_insertionSort_52 : decode cX12_insertionSort 52 = .ok (.iaload, 1) := by decide +kernel
theorem dX12_insertionSort_53 : decode cX12_insertionSort 53 = .ok (.iastore, 1) := by decide +kernel
theorem dX12_insertionSort_54 : decode cX12_insertionSort 54 = .ok (.goto (-24), 3) := by decide +kernel
theorem dX12_insertionSort_57 : decode cX12_insertionSort 57 = .ok (.aload_n 0, 1) := by decide +kernel
theorem dX12_insertionSort_58 : decode cX12_insertionSort 58 = .ok (.iload_n 3, 1) := by decide +kernel
theorem dX12_insertionSort_59 : decode cX12_insertionSort 59 = .ok (.iconst 1, 1) := by decide +kernel
theorem dX12_insertionSort_60 : decode cX12_insertionSort 60 = .ok (.iadd, 1) := by decide +kernel
theorem dX12_insertionSort_61 : decode cX12_insertionSort 61 = .ok (.iload 5, 2) := by decide +kernel
theorem dX12_insertionSort_63 : decode cX12_insertionSort 63 = .ok (.iastore, 1) := by decide +kernel
theorem dX12_insertionSort_64 : decode cX12_insertionSort 64 = .ok (.goto (-61), 3) := by decide +kernel
theorem dX12_insertionSort_67 : decode cX12_insertionSort 67 = .ok (.return_, 1) := by decide +kernel
def fX12_insertionSort (p0 : Nat) (p1 : Int32) (p2 : Int32) (h : mxH) : Option mxH := Option.bind (mxLoop (ρ := mxH) (fun s1 : (Int32 × mxH) => (if p2 ≤ (s1.1 + 1) then some (Sum.inr s1.2) else Option.bind (ldI s1.2 p0 (s1.1 + 1)) (fun v10 => Option.bind (ldI s1.2 p0 ((s1.1 + 1) - 1)) (fun v12 => Option.bind (α := mxH) (if v12 ≤ v10 then some s1.2 else Option.bind (mxLoop (ρ := (Int32 × mxH)) (fun s38 : (Int32 × mxH) => (if (s38.1 - 1) < p1 then some (Sum.inr (s38.1 - 1, s38.2)) else Option.bind (ldI s38.2 p0 (s38.1 - 1)) (fun v47 => (if v47 ≤ v10 then some (Sum.inr (s38.1 - 1, s38.2)) else Option.bind (ldI s38.2 p0 (s38.1 - 1)) (fun v50 => Option.bind (stI s38.2 p0 ((s38.1 - 1) + 1) v50) (fun h52 => some (Sum.inl (s38.1 - 1, h52)))))))) mxF (s1.1 + 1, s1.2)) (fun r54 : (Int32 × mxH) => Option.bind (stI r54.2 p0 (r54.1 + 1) v10) (fun h55 => some h55))) (fun jp16' : mxH => some (Sum.inl (s1.1 + 1, jp16'))))))) mxF (p1, h)) (fun r59 : mxH => some r59)
abbrev rmX12_insertionSort : Room := { frames := 0, cells := 0, slots := 0, locals := 0 }
set_option maxRecDepth 20000 in
set_option maxHeartbeats 1000000 in
theorem tX12_insertionSort {l : Launch} {Z : mxZ} (hl : l.stackTraces = false) {p0 : Nat} {p1 : Int32} {p2 : Int32} {h : mxH} {out : mxH} (hf : fX12_insertionSort p0 p1 p2 h = some out) : mxMet l Z yX12_insertionSort cX12_insertionSort 6 (none) rmX12_insertionSort [.ref p0, .int p1, .int p2] h (.inl none) out := by
  refine mxMet_of (by decide) hl (by simp [Value.category]) (Nat.le_of_ble_eq_true rfl) ?_
  intro X C E hX hin
  unfold fX12_insertionSort at hf
  refine mG_iload_n (pc := 0) C dX12_insertionSort_0 rfl ?_
  refine mG_is (ls' := [some (.ref p0), some (.int p1), some (.int p2), none, some (.int p1), none]) (pc := 1) C dX12_insertionSort_1 rfl rfl rfl ?_
  obtain ⟨r2, e3, hf⟩ := mx_bind hf
  have J4 : ∀ r59 : mxH, r59 = r2 → mG l Z X 6 0 0 67 [none, none, none, none, none, none] [] r59 := by
    intro r59 q60
    subst q60
    cases hf
    exact mG_vr2 (pc := 67) C E hX dX12_insertionSort_67 ⟨Nat.le_of_ble_eq_true rfl, Nat.le_of_ble_eq_true rfl⟩
  refine mG_sub (ls' := [some (.ref p0), some (.int p1), some (.int p2), none, some (.int p1), none]) (mxLe_s (mxLe_s (mxLe_s (mxLe_n (mxLe_s (mxLe_n mxLe_z)))))) (mxLoop_ind (K := fun s1 : (Int32 × mxH) => mG l Z X 6 0 0 3 [some (.ref p0), some (.int p1), some (.int p2), none, some (.int s1.1), none] [] s1.2) ?_ _ _ e3)
  intro s1 o7 e8 hK5 hx6
  refine mG_ii (ls' := [some (.ref p0), some (.int p1), some (.int p2), none, some (.int (s1.1 + 1)), none]) (pc := 3) C dX12_insertionSort_3 rfl (kinc1 _) rfl rfl rfl ?_
  refine mG_iload (pc := 6) C dX12_insertionSort_6 rfl ?_
  refine mG_iload_n (pc := 8) C dX12_insertionSort_8 rfl ?_
  refine mG_icmp_ge (pc := 9) (tgt := 67) C dX12_insertionSort_9 (by decide) (fun q9 => ?_) (fun q9 => ?_)
  · rw [if_pos q9] at e8
    exact mG_sub (mxLe_n (mxLe_n (mxLe_n (mxLe_n (mxLe_n (mxLe_n mxLe_z)))))) (J4 _ (hx6 _ (Option.some.inj e8).symm))
  · rw [if_neg q9] at e8
    refine mG_aload_n (pc := 12) C dX12_insertionSort_12 rfl ?_
    refine mG_iload (pc := 13) C dX12_insertionSort_13 rfl ?_
    refine mG_dup (pc := 15) C dX12_insertionSort_15 rfl ?_
    refine mG_isn (ls' := [some (.ref p0), some (.int p1), some (.int p2), some (.int (s1.1 + 1)), some (.int (s1.1 + 1)), none]) (pc := 16) C dX12_insertionSort_16 rfl rfl rfl ?_
    obtain ⟨v10, e11, e8⟩ := mx_bind e8
    refine mG_iaload (pc := 17) C dX12_insertionSort_17 e11 ?_
    refine mG_is (ls' := [some (.ref p0), some (.int p1), some (.int p2), some (.int (s1.1 + 1)), some (.int (s1.1 + 1)), some (.int v10)]) (pc := 18) C dX12_insertionSort_18 rfl rfl rfl ?_
    refine mG_iload (pc := 20) C dX12_insertionSort_20 rfl ?_
    refine mG_aload_n (pc := 22) C dX12_insertionSort_22 rfl ?_
    refine mG_iload_n (pc := 23) C dX12_insertionSort_23 rfl ?_
    refine mG_ic (pc := 24) C dX12_insertionSort_24 kI1 ?_
    refine mG_isub (pc := 25) C dX12_insertionSort_25 ?_
    obtain ⟨v12, e13, e8⟩ := mx_bind e8
    refine mG_iaload (pc := 26) C dX12_insertionSort_26 e13 ?_
    obtain ⟨jp16, e17, e8⟩ := mx_bind e8
    have J15 : ∀ jp16' : mxH, jp16' = jp16 → mG l Z X 6 0 0 64 [some (.ref p0), some (.int p1), some (.int p2), none, some (.int (s1.1 + 1)), none] [] jp16' := by
      intro jp16' q58
      subst q58
      refine mG_goto (tgt := 3) (pc := 64) C dX12_insertionSort_64 (by decide) ?_
      exact mG_sub (mxLe_s (mxLe_s (mxLe_s (mxLe_n (mxLe_s (mxLe_n mxLe_z)))))) (hK5 _ (Option.some.inj e8).symm)
    refine mG_icmp_ge (pc := 27) (tgt := 64) C dX12_insertionSort_27 (by decide) (fun q14 => ?_) (fun q14 => ?_)
    · rw [if_pos q14] at e17
      exact mG_sub (mxLe_s (mxLe_s (mxLe_s (mxLe_n (mxLe_s (mxLe_n mxLe_z)))))) (J15 _ (Option.some.inj e17))
    · rw [if_neg q14] at e17
      obtain ⟨r39, e40, e17⟩ := mx_bind e17
      have J41 : ∀ r54 : (Int32 × mxH), r54 = r39 → mG l Z X 6 0 0 57 [some (.ref p0), some (.int p1), some (.int p2), some (.int r54.1), some (.int (s1.1 + 1)), some (.int v10)] [] r54.2 := by
        intro r54 q57
        subst q57
        refine mG_aload_n (pc := 57) C dX12_insertionSort_57 rfl ?_
        refine mG_iload_n (pc := 58) C dX12_insertionSort_58 rfl ?_
        refine mG_ic (pc := 59) C dX12_insertionSort_59 kI1 ?_
        refine mG_iadd (pc := 60) C dX12_insertionSort_60 ?_
        refine mG_iload (pc := 61) C dX12_insertionSort_61 rfl ?_
        obtain ⟨h55, e56, e17⟩ := mx_bind e17
        refine mG_iastore (pc := 63) C dX12_insertionSort_63 e56 ?_
        exact mG_sub (mxLe_s (mxLe_s (mxLe_s (mxLe_n (mxLe_s (mxLe_n mxLe_z)))))) (J15 _ (Option.some.inj e17))
      refine mG_sub (ls' := [some (.ref p0), some (.int p1), some (.int p2), some (.int (s1.1 + 1)), some (.int (s1.1 + 1)), some (.int v10)]) (mxLe_s (mxLe_s (mxLe_s (mxLe_s (mxLe_s (mxLe_s mxLe_z)))))) (mxLoop_ind (K := fun s38 : (Int32 × mxH) => mG l Z X 6 0 0 30 [some (.ref p0), some (.int p1), some (.int p2), some (.int s38.1), some (.int (s1.1 + 1)), some (.int v10)] [] s38.2) ?_ _ _ e40)
      intro s38 o44 e45 hK42 hx43
      refine mG_ii (ls' := [some (.ref p0), some (.int p1), some (.int p2), some (.int (s38.1 - 1)), some (.int (s1.1 + 1)), some (.int v10)]) (pc := 30) C dX12_insertionSort_30 rfl (kincm1 _) rfl rfl rfl ?_
      refine mG_iload_n (pc := 33) C dX12_insertionSort_33 rfl ?_
      refine mG_iload_n (pc := 34) C dX12_insertionSort_34 rfl ?_
      refine mG_icmp_lt (pc := 35) (tgt := 57) C dX12_insertionSort_35 (by decide) (fun q46 => ?_) (fun q46 => ?_)
      · rw [if_pos q46] at e45
        exact mG_sub (mxLe_s (mxLe_s (mxLe_s (mxLe_s (mxLe_s (mxLe_s mxLe_z)))))) (J41 _ (hx43 _ (Option.some.inj e45).symm))
      · rw [if_neg q46] at e45
        refine mG_iload (pc := 38) C dX12_insertionSort_38 rfl ?_
        refine mG_aload_n (pc := 40) C dX12_insertionSort_40 rfl ?_
        refine mG_iload_n (pc := 41) C dX12_insertionSort_41 rfl ?_
        obtain ⟨v47, e48, e45⟩ := mx_bind e45
        refine mG_iaload (pc := 42) C dX12_insertionSort_42 e48 ?_
        refine mG_icmp_ge (pc := 43) (tgt := 57) C dX12_insertionSort_43 (by decide) (fun q49 => ?_) (fun q49 => ?_)
        · rw [if_pos q49] at e45
          exact mG_sub (mxLe_s (mxLe_s (mxLe_s (mxLe_s (mxLe_s (mxLe_s mxLe_z)))))) (J41 _ (hx43 _ (Option.some.inj e45).symm))
        · rw [if_neg q49] at e45
          refine mG_aload_n (pc := 46) C dX12_insertionSort_46 rfl ?_
          refine mG_iload_n (pc := 47) C dX12_insertionSort_47 rfl ?_
          refine mG_ic (pc := 48) C dX12_insertionSort_48 kI1 ?_
          refine mG_iadd (pc := 49) C dX12_insertionSort_49 ?_
          refine mG_aload_n (pc := 50) C dX12_insertionSort_50 rfl ?_
          refine mG_iload_n (pc := 51) C dX12_insertionSort_51 rfl ?_
          obtain ⟨v50, e51, e45⟩ := mx_bind e45
          refine mG_iaload (pc := 52) C dX12_insertionSort_52 e51 ?_
          obtain ⟨h52, e53, e45⟩ := mx_bind e45
          refine mG_iastore (pc := 53) C dX12_insertionSort_53 e53 ?_
          refine mG_goto (tgt := 30) (pc := 54) C dX12_insertionSort_54 (by decide) ?_
          exact mG_sub (mxLe_s (mxLe_s (mxLe_s (mxLe_s (mxLe_s (mxLe_s mxLe_z)))))) (hK42 _ (Option.some.inj e45).symm)
theorem dX12_mixedInsertionSort_0 : decode cX12_mixedInsertionSort 0 = .ok (.iload_n 2, 1) := by decide +kernel
theorem dX12_mixedInsertionSort_1 : decode cX12_mixedInsertionSort 1 = .ok (.iload_n 3, 1) := by decide +kernel
theorem dX12_mixedInsertionSort_2 : decode cX12_mixedInsertionSort 2 = .ok (.if_icmp .ne 58, 3) := by decide +kernel
theorem dX12_mixedInsertionSort_5 : decode cX12_mixedInsertionSort 5 = .ok (.iinc 1 1, 3) := by decide +kernel
theorem dX12_mixedInsertionSort_8 : decode cX12_mixedInsertionSort 8 = .ok (.iload_n 1, 1) := by decide +kernel
theorem dX12_mixedInsertionSort_9 : decode cX12_mixedInsertionSort 9 = .ok (.iload_n 2, 1) := by decide +kernel
theorem dX12_mixedInsertionSort_10 : decode cX12_mixedInsertionSort 10 = .ok (.if_icmp .ge 47, 3) := by decide +kernel
theorem dX12_mixedInsertionSort_13 : decode cX12_mixedInsertionSort 13 = .ok (.aload_n 0, 1) := by decide +kernel
theorem dX12_mixedInsertionSort_14 : decode cX12_mixedInsertionSort 14 = .ok (.iload_n 1, 1) := by decide +kernel
theorem dX12_mixedInsertionSort_15 : decode cX12_mixedInsertionSort 15 = .ok (.dup, 1) := by decide +kernel
theorem dX12_mixedInsertionSort_16 : decode cX12_mixedInsertionSort 16 = .ok (.istore 4, 2) := by decide +kernel
theorem dX12_mixedInsertionSort_18 : decode cX12_mixedInsertionSort 18 = .ok (.iaload, 1) := by decide +kernel
theorem dX12_mixedInsertionSort_19 : decode cX12_mixedInsertionSort 19 = .ok (.istore 5, 2) := by decide +kernel
theorem dX12_mixedInsertionSort_21 : decode cX12_mixedInsertionSort 21 = .ok (.iload 5, 2) := by decide +kernel
theorem dX12_mixedInsertionSort_23 : decode cX12_mixedInsertionSort 23 = .ok (.aload_n 0, 1) := by decide +kernel
theorem dX12_mixedInsertionSort_24 : decode cX12_mixedInsertionSort 24 = .ok (.iinc 4 (-1), 3) := by decide +kernel
theorem dX12_mixedInsertionSort_27 : decode cX12_mixedInsertionSort 27 = .ok (.iload 4, 2) := by decide +kernel
theorem dX12_mixedInsertionSort_29 : decode cX12_mixedInsertionSort 29 = .ok (.iaload, 1) := by decide +kernel
theorem dX12_mixedInsertionSort_30 : decode cX12_mixedInsertionSort 30 = .ok (.if_icmp .ge 16, 3) := by decide +kernel
theorem dX12_mixedInsertionSort_33 : decode cX12_mixedInsertionSort 33 = .ok (.aload_n 0, 1) := by decide +kernel
theorem dX12_mixedInsertionSort_34 : decode cX12_mixedInsertionSort 34 = .ok (.iload 4, 2) := by decide +kernel
theorem dX12_mixedInsertionSort_36 : decode cX12_mixedInsertionSort 36 = .ok (.iconst 1, 1) := by decide +kernel
theorem dX12_mixedInsertionSort_37 : decode cX12_mixedInsertionSort 37 = .ok (.iadd, 1) := by decide +kernel
theorem dX12_mixedInsertionSort_38 : decode cX12_mixedInsertionSort 38 = .ok (.aload_n 0, 1) := by decide +kernel
theorem dX12_mixedInsertionSort_39 : decode cX12_mixedInsertionSort 39 = .ok (.iload 4, 2) := by decide +kernel
theorem dX12_mixedInsertionSort_41 : decode cX12_mixedInsertionSort 41 = .ok (.iaload, 1) := by decide +kernel
theorem dX12_mixedInsertionSort_42 : decode cX12_mixedInsertionSort 42 = .ok (.iastore, 1) := by decide +kernel
theorem dX12_mixedInsertionSort_43 : decode cX12_mixedInsertionSort 43 = .ok (.goto (-22), 3) := by decide +kernel
theorem dX12_mixedInsertionSort_46 : decode cX12_mixedInsertionSort 46 = .ok (.aload_n 0, 1) := by decide +kernel
theorem dX12_mixedInsertionSort_47 : decode cX12_mixedInsertionSort 47 = .ok (.iload 4, 2) := by decide +kernel
theorem dX12_mixedInsertionSort_49 : decode cX12_mixedInsertionSort 49 = .ok (.iconst 1, 1) := by decide +kernel
theorem dX12_mixedInsertionSort_50 : decode cX12_mixedInsertionSort 50 = .ok (.iadd, 1) := by decide +kernel
theorem dX12_mixedInsertionSort_51 : decode cX12_mixedInsertionSort 51 = .ok (.iload 5, 2) := by decide +kernel
theorem dX12_mixedInsertionSort_53 : decode cX12_mixedInsertionSort 53 = .ok (.iastore, 1) := by decide +kernel
theorem dX12_mixedInsertionSort_54 : decode cX12_mixedInsertionSort 54 = .ok (.goto (-49), 3) := by decide +kernel
theorem dX12_mixedInsertionSort_57 : decode cX12_mixedInsertionSort 57 = .ok (.goto 357, 3) := by decide +kernel
theorem dX12_mixedInsertionSort_60 : decode cX12_mixedInsertionSort 60 = .ok (.aload_n 0, 1) := by decide +kernel
theorem dX12_mixedInsertionSort_61 : decode cX12_mixedInsertionSort 61 = .ok (.iload_n 2, 1) := by decide +kernel
theorem dX12_mixedInsertionSort_62 : decode cX12_mixedInsertionSort 62 = .ok (.iaload, 1) := by decide +kernel
theorem dX12_mixedInsertionSort_63 : decode cX12_mixedInsertionSort 63 = .ok (.istore 4, 2) := by decide +kernel
theorem dX12_mixedInsertionSort_65 : decode cX12_mixedInsertionSort 65 = .ok (.iload_n 3, 1) := by decide +kernel
theorem dX12_mixedInsertionSort_66 : decode cX12_mixedInsertionSort 66 = .ok (.istore 6, 2) := by decide +kernel
theorem dX12_mixedInsertionSort_68 : decode cX12_mixedInsertionSort 68 = .ok (.iinc 1 1, 3) := by decide +kernel
theorem dX12_mixedInsertionSort_71 : decode cX12_mixedInsertionSort 71 = .ok (.iload_n 1, 1) := by decide +kernel
theorem dX12_mixedInsertionSort_72 : decode cX12_mixedInsertionSort 72 = .ok (.iload_n 2, 1) := by decide +kernel
theorem dX12_mixedInsertionSort_73 : decode cX12_mixedInsertionSort 73 = .ok (.if_icmp .ge 155, 3) := by decide +kernel
theorem dX12_mixedInsertionSort_76 : decode cX12_mixedInsertionSort 76 = .ok (.aload_n 0, 1) := by decide +kernel
theorem dX12_mixedInsertionSort_77 : decode cX12_mixedInsertionSort 77 = .ok (.iload_n 1, 1) := by decide +kernel
theorem dX12_mixedInsertionSort_78 : decode cX12_mixedInsertionSort 78 = .ok (.dup, 1) := by decide +kernel
theorem dX12_mixedInsertionSort_79 : decode cX12_mixedInsertionSort 79 = .ok (.istore 5, 2) := by decide +kernel
theorem dX12_mixedInsertionSort_81 : decode cX12_mixedInsertionSort 81 = .ok (.iaload, 1) := by decide +kernel
theorem dX12_mixedInsertionSort_82 : decode cX12_mixedInsertionSort 82 = .ok (.istore 7, 2) := by decide +kernel
theorem dX12_mixedInsertionSort_84 : decode cX12_mixedInsertionSort 84 = .ok (.iload 7, 2) := by decide +kernel
theorem dX12_mixedInsertionSort_86 : decode cX12_mixedInsertionSort 86 = .ok (.aload_n 0, 1) := by decide +kernel
theorem dX12_mixedInsertionSort_87 : decode cX12_mixedInsertionSort 87 = .ok (.iload 5, 2) := by decide +kernel
theorem dX12_mixedInsertionSort_89 : decode cX12_mixedInsertionSort 89 = .ok (.iconst 1, 1) := by decide +kernel
theorem dX12_mixedInsertionSort_90 : decode cX12_mixedInsertionSort 90 = .ok (.isub, 1) := by decide +kernel
theorem dX12_mixedInsertionSort_91 : decode cX12_mixedInsertionSort 91 = .ok (.iaload, 1) := by decide +kernel
theorem dX12_mixedInsertionSort_92 : decode cX12_mixedInsertionSort 92 = .ok (.if_icmp .ge 50, 3) := by decide +kernel
theorem dX12_mixedInsertionSort_95 : decode cX12_mixedInsertionSort 95 = .ok (.aload_n 0, 1) := by decide +kernel
theorem dX12_mixedInsertionSort_96 : decode cX12_mixedInsertionSort 96 = .ok (.iload 5, 2) := by decide +kernel
theorem dX12_mixedInsertionSort_98 : decode cX12_mixedInsertionSort 98 = .ok (.aload_n 0, 1) := by decide +kernel
theorem dX12_mixedInsertionSort_99 : decode cX12_mixedInsertionSort 99 = .ok (.iinc 5 (-1), 3) := by decide +kernel
theorem dX12_mixedInsertionSort_102 : decode cX12_mixedInsertionSort 102 = .ok (.iload 5, 2) := by decide +kernel
theorem dX12_mixedInsertionSort_104 : decode cX12_mixedInsertionSort 104 = .ok (.iaload, 1) := by decide +kernel
theorem dX12_mixedInsertionSort_105 : decode cX12_mixedInsertionSort 105 = .ok (.iastore, 1) := by decide +kernel
theorem dX12_mixedInsertionSort_106 : decode cX12_mixedInsertionSort 106 = .ok (.iload 7, 2) := by decide +kernel
theorem dX12_mixedInsertionSort_108 : decode cX12_mixedInsertionSort 108 = .ok (.aload_n 0, 1) := by decide +kernel
theorem dX12_mixedInsertionSort_109 : decode cX12_mixedInsertionSort 109 = .ok (.iinc 5 (-1), 3) := by decide +kernel
theorem dX12_mixedInsertionSort_112 : decode cX12_mixedInsertionSort 112 = .ok (.iload 5, 2) := by decide +kernel
theorem dX12_mixedInsertionSort_114 : decode cX12_mixedInsertionSort 114 = .ok (.iaload, 1) := by decide +kernel
theorem dX12_mixedInsertionSort_115 : decode cX12_mixedInsertionSort 115 = .ok (.if_icmp .ge 16, 3) := by decide +kernel
theorem dX12_mixedInsertionSort_118 : decode cX12_mixedInsertionSort 118 = .ok (.aload_n 0, 1) := by decide +kernel
theorem dX12_mixedInsertionSort_119 : decode cX12_mixedInsertionSort 119 = .ok (.iload 5, 2) := by decide +kernel
theorem dX12_mixedInsertionSort_121 : decode cX12_mixedInsertionSort 121 = .ok (.iconst 1, 1) := by decide +kernel
theorem dX12_mixedInsertionSort_122 : decode cX12_mixedInsertionSort 122 = .ok (.iadd, 1) := by decide +kernel
theorem dX12_mixedInsertionSort_123 : decode cX12_mixedInsertionSort 123 = .ok (.aload_n 0, 1) := by decide +kernel
theorem dX12_mixedInsertionSort_124 : decode cX12_mixedInsertionSort 124 = .ok (.iload 5, 2) := by decide +kernel
theorem dX12_mixedInsertionSort_126 : decode cX12_mixedInsertionSort 126 = .ok (.iaload, 1) := by decide +kernel
theorem dX12_mixedInsertionSort_127 : decode cX12_mixedInsertionSort 127 = .ok (.iastore, 1) := by decide +kernel
theorem dX12_mixedInsertionSort_128 : decode cX12_mixedInsertionSort 128 = .ok (.goto (-22), 3) := by decide +kernel
theorem dX12_mixedInsertionSort_131 : decode cX12_mixedInsertionSort 131 = .ok (.aload_n 0, 1) := by decide +kernel
theorem dX12_mixedInsertionSort_132 : decode cX12_mixedInsertionSort 132 = .ok (.iload 5, 2) := by decide +kernel
theorem dX12_mixedInsertionSort_134 : decode cX12_mixedInsertionSort 134 = .ok (.iconst 1, 1) := by decide +kernel
theorem dX12_mixedInsertionSort_135 : decode cX12_mixedInsertionSort 135 = .ok (.iadd, 1) := by decide +kernel
theorem dX12_mixedInsertionSort_136 : decode cX12_mixedInsertionSort 136 = .ok (.iload 7, 2) := by decide +kernel
theorem dX12_mixedInsertionSort_138 : decode cX12_mixedInsertionSort 138 = .ok (.iastore, 1) := by decide +kernel
theorem dX12_mixedInsertionSort_139 : decode cX12_mixedInsertionSort 139 = .ok (.goto 86, 3) := by decide +kernel
theorem dX12_mixedInsertionSort_142 : decode cX12_mixedInsertionSort 142 = .ok (.iload 6, 2) := by decide +kernel
theorem dX12_mixedInsertionSort_144 : decode cX12_mixedInsertionSort 144 = .ok (.iload 5, 2) := by decide +kernel
theorem dX12_mixedInsertionSort_146 : decode cX12_mixedInsertionSort 146 = .ok (.if_icmp .le 79, 3) := by decide +kernel
theorem dX12_mixedInsertionSort_149 : decode cX12_mixedInsertionSort 149 = .ok (.iload 7, 2) := by decide +kernel
theorem dX12_mixedInsertionSort_151 : decode cX12_mixedInsertionSort 151 = .ok (.iload 4, 2) := by decide +kernel
theorem dX12_mixedInsertionSort_153 : decode cX12_mixedInsertionSort 153 = .ok (.if_icmp .le 72, 3) := by decide +kernel
theorem dX12_mixedInsertionSort_156 : decode cX12_mixedInsertionSort 156 = .ok (.aload_n 0, 1) := by decide +kernel
theorem dX12_mixedInsertionSort_157 : decode cX12_mixedInsertionSort 157 = .ok (.iinc 6 (-1), 3) := by decide +kernel
theorem dX12_mixedInsertionSort_160 : decode cX12_mixedInsertionSort 160 = .ok (.iload 6, 2) := by decide +kernel
theorem dX12_mixedInsertionSort_162 : decode cX12_mixedInsertionSort 162 = .ok (.iaload, 1) := by decide +kernel
theorem dX12_mixedInsertionSort_163 : decode cX12_mixedInsertionSort 163 = .ok (.iload 4, 2) := by decide +kernel
theorem dX12_mixedInsertionSort_165 : decode cX12_mixedInsertionSort 165 = .ok (.if_icmp .le 6, 3) := by decide +kernel
theorem dX12_mixedInsertionSort_168 : decode cX12_mixedInsertionSort 168 = .ok (.goto (-12), 3) := by decide +kernel
theorem dX12_mixedInsertionSort_171 : decode cX12_mixedInsertionSort 171 = .ok (.iload 6, 2) := by decide +kernel
theorem dX12_mixedInsertionSort_173 : decode cX12_mixedInsertionSort 173 = .ok (.iload 5, 2) := by decide +kernel
theorem dX12_mixedInsertionSort_175 : decode cX12_mixedInsertionSort 175 = .ok (.if_icmp .le 17, 3) := by decide +kernel
theorem dX12_mixedInsertionSort_178 : decode cX12_mixedInsertionSort 178 = .ok (.aload_n 0, 1) := by decide +kernel
theorem dX12_mixedInsertionSort_179 : decode cX12_mixedInsertionSort 179 = .ok (.iload 6, 2) := by decide +kernel
theorem dX12_mixedInsertionSort_181 : decode cX12_mixedInsertionSort 181 = .ok (.iaload, 1) := by decide +kernel
theorem dX12_mixedInsertionSort_182 : decode cX12_mixedInsertionSort 182 = .ok (.istore 7, 2) := by decide +kernel
theorem dX12_mixedInsertionSort_184 : decode cX12_mixedInsertionSort 184 = .ok (.aload_n 0, 1) := by decide +kernel
theorem dX12_mixedInsertionSort_185 : decode cX12_mixedInsertionSort 185 = .ok (.iload 6, 2) := by decide +kernel
theorem dX12_mixedInsertionSort_187 : decode cX12_mixedInsertionSort 187 = .ok (.aload_n 0, 1) := by decide +kernel
theorem dX12_mixedInsertionSort_188 : decode cX12_mixedInsertionSort 188 = .ok (.iload 5, 2) := by decide +kernel
theorem dX12_mixedInsertionSort_190 : decode cX12_mixedInsertionSort 190 = .ok (.iaload, 1) := by decide +kernel
theorem dX12_mixedInsertionSort_191 : decode cX12_mixedInsertionSort 191 = .ok (.iastore, 1) := by decide +kernel
theorem dX12_mixedInsertionSort_192 : decode cX12_mixedInsertionSort 192 = .ok (.iload 7, 2) := by decide +kernel
theorem dX12_mixedInsertionSort_194 : decode cX12_mixedInsertionSort 194 = .ok (.aload_n 0, 1) := by decide +kernel
theorem dX12_mixedInsertionSort_195 : decode cX12_mixedInsertionSort 195 = .ok (.iinc 5 (-1), 3) := by decide +kernel
theorem dX12_mixedInsertionSort_198 : decode cX12_mixedInsertionSort 198 = .ok (.iload 5, 2) := by decide +kernel
theorem dX12_mixedInsertionSort_200 : decode cX12_mixedInsertionSort 200 = .ok (.iaload, 1) := by decide +kernel
theorem dX12_mixedInsertionSort_201 : decode cX12_mixedInsertionSort 201 = .ok (.if_icmp .ge 16, 3) := by decide +kernel
theorem dX12_mixedInsertionSort_204 : decode cX12_mixedInsertionSort 204 = .ok (.aload_n 0, 1) := by decide +kernel
theorem dX12_mixedInsertionSort_205 : decode cX12_mixedInsertionSort 205 = .ok (.iload 5, 2) := by decide +kernel
theorem dX12_mixedInsertionSort_207 : decode cX12_mixedInsertionSort 207 = .ok (.iconst 1, 1) := by decide +kernel
theorem dX12_mixedInsertionSort_208 : decode cX12_mixedInsertionSort 208 = .ok (.iadd, 1) := by decide +kernel
theorem dX12_mixedInsertionSort_209 : decode cX12_mixedInsertionSort 209 = .ok (.aload_n 0, 1) := by decide +kernel
theorem dX12_mixedInsertionSort_210 : decode cX12_mixedInsertionSort 210 = .ok (.iload 5, 2) := by decide +kernel
theorem dX12_mixedInsertionSort_212 : decode cX12_mixedInsertionSort 212 = .ok (.iaload, 1) := by decide +kernel
theorem dX12_mixedInsertionSort_213 : decode cX12_mixedInsertionSort 213 = .ok (.iastore, 1) := by decide +kernel
theorem dX12_mixedInsertionSort_214 : decode cX12_mixedInsertionSort 214 = .ok (.goto (-22), 3) := by decide +kernel
theorem dX12_mixedInsertionSort_217 : decode cX12_mixedInsertionSort 217 = .ok (.aload_n 0, 1) := by decide +kernel
theorem dX12_mixedInsertionSort_218 : decode cX12_mixedInsertionSort 218 = .ok (.iload 5, 2) := by decide +kernel
theorem dX12_mixedInsertionSort_220 : decode cX12_mixedInsertionSort 220 = .ok (.iconst 1, 1) := by decide +kernel
theorem dX12_mixedInsertionSort_221 : decode cX12_mixedInsertionSort 221 = .ok (.iadd, 1) := by decide +kernel
theorem dX12_mixedInsertionSort_222 : decode cX12_mixedInsertionSort 222 = .ok (.iload 7, 2) := by decide +kernel
theorem dX12_mixedInsertionSort_224 : decode cX12_mixedInsertionSort 224 = .ok (.iastore, 1) := by decide +kernel
theorem dX12_mixedInsertionSort_225 : decode cX12_mixedInsertionSort 225 = .ok (.goto (-157), 3) := by decide +kernel
theorem dX12_mixedInsertionSort_228 : decode cX12_mixedInsertionSort 228 = .ok (.iload_n 1, 1) := by decide +kernel
theorem dX12_mixedInsertionSort_229 : decode cX12_mixedInsertionSort 229 = .ok (.iload_n 3, 1) := by decide +kernel
theorem dX12_mixedInsertionSort_230 : decode cX12_mixedInsertionSort 230 = .ok (.if_icmp .ge 184, 3) := by decide +kernel
theorem dX12_mixedInsertionSort_233 : decode cX12_mixedInsertionSort 233 = .ok (.aload_n 0, 1) := by decide +kernel
theorem dX12_mixedInsertionSort_234 : decode cX12_mixedInsertionSort 234 = .ok (.iload_n 1, 1) := by decide +kernel
theorem dX12_mixedInsertionSort_235 : decode cX12_mixedInsertionSort 235 = .ok (.dup, 1) := by decide +kernel
theorem dX12_mixedInsertionSort_236 : decode cX12_mixedInsertionSort 236 = .ok (.istore 5, 2) := by decide +kernel
theorem dX12_mixedInsertionSort_238 : decode cX12_mixedInsertionSort 238 = .ok (.iaload, 1) := by decide +kernel
theorem dX12_mixedInsertionSort_239 : decode cX12_mixedInsertionSort 239 = .ok (.istore 6, 2) := by decide +kernel
theorem dX12_mixedInsertionSort_241 : decode cX12_mixedInsertionSort 241 = .ok (.aload_n 0, 1) := by decide +kernel
theorem dX12_mixedInsertionSort_242 : decode cX12_mixedInsertionSort 242 = .ok (.iinc 1 1, 3) := by decide +kernel
theorem dX12_mixedInsertionSort_245 : decode cX12_mixedInsertionSort 245 = .ok (.iload_n 1, 1) := by decide +kernel
theorem dX12_mixedInsertionSort_246 : decode cX12_mixedInsertionSort 246 = .ok (.iaload, 1) := by decide +kernel
theorem dX12_mixedInsertionSort_247 : decode cX12_mixedInsertionSort 247 = .ok (.istore 7, 2) := by decide +kernel
theorem dX12_mixedInsertionSort_249 : decode cX12_mixedInsertionSort 249 = .ok (.iload 6, 2) := by decide +kernel
theorem dX12_mixedInsertionSort_251 : decode cX12_mixedInsertionSort 251 = .ok (.iload 7, 2) := by decide +kernel
theorem dX12_mixedInsertionSort_253 : decode cX12_mixedInsertionSort 253 = .ok (.if_icmp .le 75, 3) := by decide +kernel
theorem dX12_mixedInsertionSort_256 : decode cX12_mixedInsertionSort 256 = .ok (.iload 6, 2) := by decide +kernel
theorem dX12_mixedInsertionSort_258 : decode cX12_mixedInsertionSort 258 = .ok (.aload_n 0, 1) := by decide +kernel
theorem dX12_mixedInsertionSort_259 : decode cX12_mixedInsertionSort 259 = .ok (.iinc 5 (-1), 3) := by decide +kernel
theorem dX12_mixedInsertionSort_262 : decode cX12_mixedInsertionSort 262 = .ok (.iload 5, 2) := by decide +kernel
theorem dX12_mixedInsertionSort_264 : decode cX12_mixedInsertionSort 264 = .ok (.iaload, 1) := by decide +kernel
theorem dX12_mixedInsertionSort_265 : decode cX12_mixedInsertionSort 265 = .ok (.if_icmp .ge 16, 3) := by decide +kernel
theorem dX12_mixedInsertionSort_268 : decode cX12_mixedInsertionSort 268 = .ok (.aload_n 0, 1) := by decide +kernel
theorem dX12_mixedInsertionSort_269 : decode cX12_mixedInsertionSort 269 = .ok (.iload 5, 2) := by decide +kernel
theorem dX12_mixedInsertionSort_271 : decode cX12_mixedInsertionSort 271 = .ok (.iconst 2, 1) := by decide +kernel
theorem dX12_mixedInsertionSort_272 : decode cX12_mixedInsertionSort 272 = .ok (.iadd, 1) := by decide +kernel
theorem dX12_mixedInsertionSort_273 : decode cX12_mixedInsertionSort 273 = .ok (.aload_n 0, 1) := by decide +kernel
theorem dX12_mixedInsertionSort_274 : decode cX12_mixedInsertionSort 274 = .ok (.iload 5, 2) := by decide +kernel
theorem dX12_mixedInsertionSort_276 : decode cX12_mixedInsertionSort 276 = .ok (.iaload, 1) := by decide +kernel
theorem dX12_mixedInsertionSort_277 : decode cX12_mixedInsertionSort 277 = .ok (.iastore, 1) := by decide +kernel
theorem dX12_mixedInsertionSort_278 : decode cX12_mixedInsertionSort 278 = .ok (.goto (-22), 3) := by decide +kernel
theorem dX12_mixedInsertionSort_281 : decode cX12_mixedInsertionSort 281 = .ok (.aload_n 0, 1) := by decide +kernel
theorem dX12_mixedInsertionSort_282 : decode cX12_mixedInsertionSort 282 = .ok (.iinc 5 1, 3) := by decide +kernel
theorem dX12_mixedInsertionSort_285 : decode cX12_mixedInsertionSort 285 = .ok (.iload 5, 2) := by decide +kernel
theorem dX12_mixedInsertionSort_287 : decode cX12_mixedInsertionSort 287 = .ok (.iconst 1, 1) := by decide +kernel
theorem dX12_mixedInsertionSort_288 : decode cX12_mixedInsertionSort 288 = .ok (.iadd, 1) := by decide +kernel
theorem dX12_mixedInsertionSort_289 : decode cX12_mixedInsertionSort 289 = .ok (.iload 6, 2) := by decide +kernel
theorem dX12_mixedInsertionSort_291 : decode cX12_mixedInsertionSort 291 = .ok (.iastore, 1) := by decide +kernel
theorem dX12_mixedInsertionSort_292 : decode cX12_mixedInsertionSort 292 = .ok (.iload 7, 2) := by decide +kernel
theorem dX12_mixedInsertionSort_294 : decode cX12_mixedInsertionSort 294 = .ok (.aload_n 0, 1) := by decide +kernel
theorem dX12_mixedInsertionSort_295 : decode cX12_mixedInsertionSort 295 = .ok (.iinc 5 (-1), 3) := by decide +kernel
theorem dX12_mixedInsertionSort_298 : decode cX12_mixedInsertionSort 298 = .ok (.iload 5, 2) := by decide +kernel
theorem dX12_mixedInsertionSort_300 : decode cX12_mixedInsertionSort 300 = .ok (.iaload, 1) := by decide +kernel
theorem dX12_mixedInsertionSort_301 : decode cX12_mixedInsertionSort 301 = .ok (.if_icmp .ge 16, 3) := by decide +kernel
theorem dX12_mixedInsertionSort_304 : decode cX12_mixedInsertionSort 304 = .ok (.aload_n 0, 1) := by decide +kernel
theorem dX12_mixedInsertionSort_305 : decode cX12_mixedInsertionSort 305 = .ok (.iload 5, 2) := by decide +kernel
theorem dX12_mixedInsertionSort_307 : decode cX12_mixedInsertionSort 307 = .ok (.iconst 1, 1) := by decide +kernel
theorem dX12_mixedInsertionSort_308 : decode cX12_mixedInsertionSort 308 = .ok (.iadd, 1) := by decide +kernel
theorem dX12_mixedInsertionSort_309 : decode cX12_mixedInsertionSort 309 = .ok (.aload_n 0, 1) := by decide +kernel
theorem dX12_mixedInsertionSort_310 : decode cX12_mixedInsertionSort 310 = .ok (.iload 5, 2) := by decide +kernel
theorem dX12_mixedInsertionSort_312 : decode cX12_mixedInsertionSort 312 = .ok (.iaload, 1) := by decide +kernel
theorem dX12_mixedInsertionSort_313 : decode cX12_mixedInsertionSort 313 = .ok (.iastore, 1) := by decide +kernel
theorem dX12_mixedInsertionSort_314 : decode cX12_mixedInsertionSort 314 = .ok (.goto (-22), 3) := by decide +kernel
theorem dX12_mixedInsertionSort_317 : decode cX12_mixedInsertionSort 317 = .ok (.aload_n 0, 1) := by decide +kernel
theorem dX12_mixedInsertionSort_318 : decode cX12_mixedInsertionSort 318 = .ok (.iload 5, 2) := by decide +kernel
theorem dX12_mixedInsertionSort_320 : decode cX12_mixedInsertionSort 320 = .ok (.iconst 1, 1) := by decide +kernel
theorem dX12_mixedInsertionSort_321 : decode cX12_mixedInsertionSort 321 = .ok (.iadd, 1) := by decide +kernel
theorem dX12_mixedInsertionSort_322 : decode cX12_mixedInsertionSort 322 = .ok (.iload 7, 2) := by decide +kernel
theorem dX12_mixedInsertionSort_324 : decode cX12_mixedInsertionSort 324 = .ok (.iastore, 1) := by decide +kernel
theorem dX12_mixedInsertionSort_325 : decode cX12_mixedInsertionSort 325 = .ok (.goto 83, 3) := by decide +kernel
theorem dX12_mixedInsertionSort_328 : decode cX12_mixedInsertionSort 328 = .ok (.iload 6, 2) := by decide +kernel
theorem dX12_mixedInsertionSort_330 : decode cX12_mixedInsertionSort 330 = .ok (.aload_n 0, 1) := by decide +kernel
theorem dX12_mixedInsertionSort_331 : decode cX12_mixedInsertionSort 331 = .ok (.iload 5, 2) := by decide +kernel
theorem dX12_mixedInsertionSort_333 : decode cX12_mixedInsertionSort 333 = .ok (.iconst 1, 1) := by decide +kernel
theorem dX12_mixedInsertionSort_334 : decode cX12_mixedInsertionSort 334 = .ok (.isub, 1) := by decide +kernel
theorem dX12_mixedInsertionSort_335 : decode cX12_mixedInsertionSort 335 = .ok (.iaload, 1) := by decide +kernel
theorem dX12_mixedInsertionSort_336 : decode cX12_mixedInsertionSort 336 = .ok (.if_icmp .ge 72, 3) := by decide +kernel
theorem dX12_mixedInsertionSort_339 : decode cX12_mixedInsertionSort 339 = .ok (.iload 7, 2) := by decide +kernel
theorem dX12_mixedInsertionSort_341 : decode cX12_mixedInsertionSort 341 = .ok (.aload_n 0, 1) := by decide +kernel
theorem dX12_mixedInsertionSort_342 : decode cX12_mixedInsertionSort 342 = .ok (.iinc 5 (-1), 3) := by decide +kernel
theorem dX12_mixedInsertionSort_345 : decode cX12_mixedInsertionSort 345 = .ok (.iload 5, 2) := by decide +kernel
theorem dX12_mixedInsertionSort_347 : decode cX12_mixedInsertionSort 347 = .ok (.iaload, 1) := by decide +kernel
theorem dX12_mixedInsertionSort_348 : decode cX12_mixedInsertionSort 348 = .ok (.if_icmp .ge 16, 3) := by decide +kernel
theorem dX12_mixedInsertionSort_351 : decode cX12_mixedInsertionSort 351 = .ok (.aload_n 0, 1) := by decide +kernel
theorem dX12_mixedInsertionSort_352 : decode cX12_mixedInsertionSort 352 = .ok (.iload 5, 2) := by decide +kernel
theorem dX12_mixedInsertionSort_354 : decode cX12_mixedInsertionSort 354 = .ok (.iconst 2, 1) := by decide +kernel
theorem dX12_mixedInsertionSort_355 : decode cX12_mixedInsertionSort 355 = .ok (.iadd, 1) := by decide +kernel
theorem dX12_mixedInsertionSort_356 : decode cX12_mixedInsertionSort 356 = .ok (.aload_n 0, 1) := by decide +kernel
theorem dX12_mixedInsertionSort_357 : decode cX12_mixedInsertionSort 357 = .ok (.iload 5, 2) := by decide +kernel
theorem dX12_mixedInsertionSort_359 : decode cX12_mixedInsertionSort 359 = .ok (.iaload, 1) := by decide +kernel
theorem dX12_mixedInsertionSort_360 : decode cX12_mixedInsertionSort 360 = .ok (.iastore, 1) := by decide +kernel
theorem dX12_mixedInsertionSort_361 : decode cX12_mixedInsertionSort 361 = .ok (.goto (-22), 3) := by decide +kernel
theorem dX12_mixedInsertionSort_364 : decode cX12_mixedInsertionSort 364 = .ok (.aload_n 0, 1) := by decide +kernel
theorem dX12_mixedInsertionSort_365 : decode cX12_mixedInsertionSort 365 = .ok (.iinc 5 1, 3) := by decide +kernel
theorem dX12_mixedInsertionSort_368 : decode cX12_mixedInsertionSort 368 = .ok (.iload 5, 2) := by decide +kernel
theorem dX12_mixedInsertionSort_370 : decode cX12_mixedInsertionSort 370 = .ok (.iconst 1, 1) := by decide +kernel
theorem dX12_mixedInsertionSort_371 : decode cX12_mixedInsertionSort 371 = .ok (.iadd, 1) := by decide +kernel
theorem dX12_mixedInsertionSort_372 : decode cX12_mixedInsertionSort 372 = .ok (.iload 7, 2) := by decide +kernel
theorem dX12_mixedInsertionSort_374 : decode cX12_mixedInsertionSort 374 = .ok (.iastore, 1) := by decide +kernel
theorem dX12_mixedInsertionSort_375 : decode cX12_mixedInsertionSort 375 = .ok (.iload 6, 2) := by decide +kernel
theorem dX12_mixedInsertionSort_377 : decode cX12_mixedInsertionSort 377 = .ok (.aload_n 0, 1) := by decide +kernel
theorem dX12_mixedInsertionSort_378 : decode cX12_mixedInsertionSort 378 = .ok (.iinc 5 (-1), 3) := by decide +kernel
theorem dX12_mixedInsertionSort_381 : decode cX12_mixedInsertionSort 381 = .ok (.iload 5, 2) := by decide +kernel
theorem dX12_mixedInsertionSort_383 : decode cX12_mixedInsertionSort 383 = .ok (.iaload, 1) := by decide +kernel
theorem dX12_mixedInsertionSort_384 : decode cX12_mixedInsertionSort 384 = .ok (.if_icmp .ge 16, 3) := by decide +kernel
theorem dX12_mixedInsertionSort_387 : decode cX12_mixedInsertionSort 387 = .ok (.aload_n 0, 1) := by decide +kernel
theorem dX12_mixedInsertionSort_388 : decode cX12_mixedInsertionSort 388 = .ok (.iload 5, 2) := by decide +kernel
theorem dX12_mixedInsertionSort_390 : decode cX12_mixedInsertionSort 390 = .ok (.iconst 1, 1) := by decide +kernel
theorem dX12_mixedInsertionSort_391 : decode cX12_mixedInsertionSort 391 = .ok (.iadd, 1) := by decide +kernel
theorem dX12_mixedInsertionSort_392 : decode cX12_mixedInsertionSort 392 = .ok (.aload_n 0, 1) := by decide +kernel
theorem dX12_mixedInsertionSort_393 : decode cX12_mixedInsertionSort 393 = .ok (.iload 5, 2) := by decide +kernel
theorem dX12_mixedInsertionSort_395 : decode cX12_mixedInsertionSort 395 = .ok (.iaload, 1) := by decide +kernel
theorem dX12_mixedInsertionSort_396 : decode cX12_mixedInsertionSort 396 = .ok (.iastore, 1) := by decide +kernel
theorem dX12_mixedInsertionSort_397 : decode cX12_mixedInsertionSort 397 = .ok (.goto (-22), 3) := by decide +kernel
theorem dX12_mixedInsertionSort_400 : decode cX12_mixedInsertionSort 400 = .ok (.aload_n 0, 1) := by decide +kernel
theorem dX12_mixedInsertionSort_401 : decode cX12_mixedInsertionSort 401 = .ok (.iload 5, 2) := by decide +kernel
theorem dX12_mixedInsertionSort_403 : decode cX12_mixedInsertionSort 403 = .ok (.iconst 1, 1) := by decide +kernel
theorem dX12_mixedInsertionSort_404 : decode cX12_mixedInsertionSort 404 = .ok (.iadd, 1) := by decide +kernel
theorem dX12_mixedInsertionSort_405 : decode cX12_mixedInsertionSort 405 = .ok (.iload 6, 2) := by decide +kernel
theorem dX12_mixedInsertionSort_407 : decode cX12_mixedInsertionSort 407 = .ok (.iastore, 1) := by decide +kernel
theorem dX12_mixedInsertionSort_408 : decode cX12_mixedInsertionSort 408 = .ok (.iinc 1 1, 3) := by decide +kernel
theorem dX12_mixedInsertionSort_411 : decode cX12_mixedInsertionSort 411 = .ok (.goto (-183), 3) := by decide +kernel
theorem dX12_mixedInsertionSort_414 : decode cX12_mixedInsertionSort 414 = .ok (.return_, 1) := by decide +kernel
def fX12_mixedInsertionSort (p0 : Nat) (p1 : Int32) (p2 : Int32) (p3 : Int32) (h : mxH) : Option mxH := Option.bind (α := mxH) (if p2 = p3 then Option.bind (mxLoop (ρ := mxH) (fun s733 : (Int32 × mxH) => (if p2 ≤ (s733.1 + 1) then some (Sum.inr s733.2) else Option.bind (ldI s733.2 p0 (s733.1 + 1)) (fun v742 => Option.bind (mxLoop (ρ := (Int32 × mxH)) (fun s744 : (Int32 × mxH) => Option.bind (ldI s744.2 p0 (s744.1 - 1)) (fun v752 => (if v752 ≤ v742 then some (Sum.inr (s744.1 - 1, s744.2)) else Option.bind (ldI s744.2 p0 (s744.1 - 1)) (fun v755 => Option.bind (stI s744.2 p0 ((s744.1 - 1) + 1) v755) (fun h757 => some (Sum.inl (s744.1 - 1, h757))))))) mxF (s733.1 + 1, s733.2)) (fun r759 : (Int32 × mxH) => Option.bind (stI r759.2 p0 (r759.1 + 1) v742) (fun h760 => some (Sum.inl (s733.1 + 1, h760))))))) mxF (p1, h)) (fun r763 : mxH => some r763) else Option.bind (ldI h p0 p2) (fun v385 => Option.bind (mxLoop (ρ := (Int32 × mxH)) (fun s387 : (Int32 × Int32 × mxH) => (if p2 ≤ (s387.1 + 1) then some (Sum.inr (s387.1 + 1, s387.2.2)) else Option.bind (ldI s387.2.2 p0 (s387.1 + 1)) (fun v396 => Option.bind (ldI s387.2.2 p0 ((s387.1 + 1) - 1)) (fun v398 => Option.bind (α := (Int32 × mxH)) (if v398 ≤ v396 then (if s387.2.1 ≤ (s387.1 + 1) then some (s387.2.1, s387.2.2) else (if v396 ≤ v385 then some (s387.2.1, s387.2.2) else Option.bind (mxLoop (ρ := Int32) (fun s480 : Int32 => Option.bind (ldI s387.2.2 p0 (s480 - 1)) (fun v488 => (if v488 ≤ v385 then some (Sum.inr (s480 - 1)) else some (Sum.inl (s480 - 1))))) mxF s387.2.1) (fun r491 : Int32 => Option.bind (α := (Int32 × mxH)) (if r491 ≤ (s387.1 + 1) then some (v396, s387.2.2) else Option.bind (ldI s387.2.2 p0 r491) (fun v502 => Option.bind (ldI s387.2.2 p0 (s387.1 + 1)) (fun v504 => Option.bind (stI s387.2.2 p0 r491 v504) (fun h506 => some (v502, h506))))) (fun jp494' : (Int32 × mxH) => Option.bind (mxLoop (ρ := (Int32 × mxH)) (fun s508 : (Int32 × mxH) => Option.bind (ldI s508.2 p0 (s508.1 - 1)) (fun v516 => (if v516 ≤ jp494'.1 then some (Sum.inr (s508.1 - 1, s508.2)) else Option.bind (ldI s508.2 p0 (s508.1 - 1)) (fun v519 => Option.bind (stI s508.2 p0 ((s508.1 - 1) + 1) v519) (fun h521 => some (Sum.inl (s508.1 - 1, h521))))))) mxF (s387.1 + 1, jp494'.2)) (fun r523 : (Int32 × mxH) => Option.bind (stI r523.2 p0 (r523.1 + 1) jp494'.1) (fun h524 => some (r491, h524))))))) else Option.bind (ldI s387.2.2 p0 ((s387.1 + 1) - 1)) (fun v529 => Option.bind (stI s387.2.2 p0 (s387.1 + 1) v529) (fun h531 => Option.bind (mxLoop (ρ := (Int32 × mxH)) (fun s533 : (Int32 × mxH) => Option.bind (ldI s533.2 p0 (s533.1 - 1)) (fun v541 => (if v541 ≤ v396 then some (Sum.inr (s533.1 - 1, s533.2)) else Option.bind (ldI s533.2 p0 (s533.1 - 1)) (fun v544 => Option.bind (stI s533.2 p0 ((s533.1 - 1) + 1) v544) (fun h546 => some (Sum.inl (s533.1 - 1, h546))))))) mxF ((s387.1 + 1) - 1, h531)) (fun r548 : (Int32 × mxH) => Option.bind (stI r548.2 p0 (r548.1 + 1) v396) (fun h549 => some (s387.2.1, h549)))))) (fun jp402' : (Int32 × mxH) => some (Sum.inl (s387.1 + 1, jp402'.1, jp402'.2))))))) mxF (p1, p3, h)) (fun r553 : (Int32 × mxH) => Option.bind (mxLoop (ρ := mxH) (fun s554 : (Int32 × mxH) => (if p3 ≤ s554.1 then some (Sum.inr s554.2) else Option.bind (ldI s554.2 p0 s554.1) (fun v563 => Option.bind (ldI s554.2 p0 (s554.1 + 1)) (fun v565 => Option.bind (α := mxH) (if v563 ≤ v565 then Option.bind (ldI s554.2 p0 (s554.1 - 1)) (fun v650 => (if v650 ≤ v563 then some s554.2 else Option.bind (mxLoop (ρ := (Int32 × mxH)) (fun s653 : (Int32 × mxH) => Option.bind (ldI s653.2 p0 (s653.1 - 1)) (fun v661 => (if v661 ≤ v565 then some (Sum.inr (s653.1 - 1, s653.2)) else Option.bind (ldI s653.2 p0 (s653.1 - 1)) (fun v664 => Option.bind (stI s653.2 p0 ((s653.1 - 1) + 2) v664) (fun h666 => some (Sum.inl (s653.1 - 1, h666))))))) mxF (s554.1, s554.2)) (fun r668 : (Int32 × mxH) => Option.bind (stI r668.2 p0 ((r668.1 + 1) + 1) v565) (fun h669 => Option.bind (mxLoop (ρ := (Int32 × mxH)) (fun s671 : (Int32 × mxH) => Option.bind (ldI s671.2 p0 (s671.1 - 1)) (fun v679 => (if v679 ≤ v563 then some (Sum.inr (s671.1 - 1, s671.2)) else Option.bind (ldI s671.2 p0 (s671.1 - 1)) (fun v682 => Option.bind (stI s671.2 p0 ((s671.1 - 1) + 1) v682) (fun h684 => some (Sum.inl (s671.1 - 1, h684))))))) mxF (r668.1 + 1, h669)) (fun r686 : (Int32 × mxH) => Option.bind (stI r686.2 p0 (r686.1 + 1) v563) (fun h687 => some h687)))))) else Option.bind (mxLoop (ρ := (Int32 × mxH)) (fun s691 : (Int32 × mxH) => Option.bind (ldI s691.2 p0 (s691.1 - 1)) (fun v699 => (if v699 ≤ v563 then some (Sum.inr (s691.1 - 1, s691.2)) else Option.bind (ldI s691.2 p0 (s691.1 - 1)) (fun v702 => Option.bind (stI s691.2 p0 ((s691.1 - 1) + 2) v702) (fun h704 => some (Sum.inl (s691.1 - 1, h704))))))) mxF (s554.1, s554.2)) (fun r706 : (Int32 × mxH) => Option.bind (stI r706.2 p0 ((r706.1 + 1) + 1) v563) (fun h707 => Option.bind (mxLoop (ρ := (Int32 × mxH)) (fun s709 : (Int32 × mxH) => Option.bind (ldI s709.2 p0 (s709.1 - 1)) (fun v717 => (if v717 ≤ v565 then some (Sum.inr (s709.1 - 1, s709.2)) else Option.bind (ldI s709.2 p0 (s709.1 - 1)) (fun v720 => Option.bind (stI s709.2 p0 ((s709.1 - 1) + 1) v720) (fun h722 => some (Sum.inl (s709.1 - 1, h722))))))) mxF (r706.1 + 1, h707)) (fun r724 : (Int32 × mxH) => Option.bind (stI r724.2 p0 (r724.1 + 1) v565) (fun h725 => some h725))))) (fun jp569' : mxH => some (Sum.inl ((s554.1 + 1) + 1, jp569'))))))) mxF (r553.1, r553.2)) (fun r730 : mxH => some r730)))) (fun jp3' : mxH => some jp3')
abbrev rmX12_mixedInsertionSort : Room := { frames := 0, cells := 0, slots := 0, locals := 0 }
set_option maxRecDepth 20000 in
set_option maxHeartbeats 1000000 in
theorem tX12_mixedInsertionSort {l : Launch} {Z : mxZ} (hl : l.stackTraces = false) {p0 : Nat} {p1 : Int32} {p2 : Int32} {p3 : Int32} {h : mxH} {out : mxH} (hf : fX12_mixedInsertionSort p0 p1 p2 p3 h = some out) : mxMet l Z yX12_mixedInsertionSort cX12_mixedInsertionSort 8 (none) rmX12_mixedInsertionSort [.ref p0, .int p1, .int p2, .int p3] h (.inl none) out := by
  refine mxMet_of (by decide) hl (by simp [Value.category]) (Nat.le_of_ble_eq_true rfl) ?_
  intro X C E hX hin
  unfold fX12_mixedInsertionSort at hf
  refine mG_iload_n (pc := 0) C dX12_mixedInsertionSort_0 rfl ?_
  refine mG_iload_n (pc := 1) C dX12_mixedInsertionSort_1 rfl ?_
  obtain ⟨jp3, e4, hf⟩ := mx_bind hf
  have J2 : ∀ jp3' : mxH, jp3' = jp3 → mG l Z X 8 0 0 414 [none, none, none, none, none, none, none, none] [] jp3' := by
    intro jp3' q765
    subst q765
    cases hf
    exact mG_vr2 (pc := 414) C E hX dX12_mixedInsertionSort_414 ⟨Nat.le_of_ble_eq_true rfl, Nat.le_of_ble_eq_true rfl⟩
  refine mG_icmp_ne (pc := 2) (tgt := 60) C dX12_mixedInsertionSort_2 (by decide) (fun q1 => ?_) (fun q1 => ?_)
  · rw [if_neg q1] at e4
    refine mG_aload_n (pc := 60) C dX12_mixedInsertionSort_60 rfl ?_
    refine mG_iload_n (pc := 61) C dX12_mixedInsertionSort_61 rfl ?_
    obtain ⟨v385, e386, e4⟩ := mx_bind e4
    refine mG_iaload (pc := 62) C dX12_mixedInsertionSort_62 e386 ?_
    refine mG_is (ls' := [some (.ref p0), some (.int p1), some (.int p2), some (.int p3), some (.int v385), none, none, none]) (pc := 63) C dX12_mixedInsertionSort_63 rfl rfl rfl ?_
    refine mG_iload_n (pc := 65) C dX12_mixedInsertionSort_65 rfl ?_
    refine mG_is (ls' := [some (.ref p0), some (.int p1), some (.int p2), some (.int p3), some (.int v385), none, some (.int p3), none]) (pc := 66) C dX12_mixedInsertionSort_66 rfl rfl rfl ?_
    obtain ⟨r388, e389, e4⟩ := mx_bind e4
    have J390 : ∀ r553 : (Int32 × mxH), r553 = r388 → mG l Z X 8 0 0 228 [some (.ref p0), some (.int r553.1), none, some (.int p3), none, none, none, none] [] r553.2 := by
      intro r553 q732
      subst q732
      obtain ⟨r555, e556, e4⟩ := mx_bind e4
      have J557 : ∀ r730 : mxH, r730 = r555 → mG l Z X 8 0 0 414 [none, none, none, none, none, none, none, none] [] r730 := by
        intro r730 q731
        subst q731
        exact mG_sub (mxLe_n (mxLe_n (mxLe_n (mxLe_n (mxLe_n (mxLe_n (mxLe_n (mxLe_n mxLe_z)))))))) (J2 _ (Option.some.inj e4))
      refine mG_sub (ls' := [some (.ref p0), some (.int r553.1), none, some (.int p3), none, none, none, none]) (mxLe_s (mxLe_s (mxLe_n (mxLe_s (mxLe_n (mxLe_n (mxLe_n (mxLe_n mxLe_z)))))))) (mxLoop_ind (K := fun s554 : (Int32 × mxH) => mG l Z X 8 0 0 228 [some (.ref p0), some (.int s554.1), none, some (.int p3), none, none, none, none] [] s554.2) ?_ _ _ e556)
      intro s554 o560 e561 hK558 hx559
      refine mG_iload_n (pc := 228) C dX12_mixedInsertionSort_228 rfl ?_
      refine mG_iload_n (pc := 229) C dX12_mixedInsertionSort_229 rfl ?_
      refine mG_icmp_ge (pc := 230) (tgt := 414) C dX12_mixedInsertionSort_230 (by decide) (fun q562 => ?_) (fun q562 => ?_)
      · rw [if_pos q562] at e561
        exact mG_sub (mxLe_n (mxLe_n (mxLe_n (mxLe_n (mxLe_n (mxLe_n (mxLe_n (mxLe_n mxLe_z)))))))) (J557 _ (hx559 _ (Option.some.inj e561).symm))
      · rw [if_neg q562] at e561
        refine mG_aload_n (pc := 233) C dX12_mixedInsertionSort_233 rfl ?_
        refine mG_iload_n (pc := 234) C dX12_mixedInsertionSort_234 rfl ?_
        refine mG_dup (pc := 235) C dX12_mixedInsertionSort_235 rfl ?_
        refine mG_is (ls' := [some (.ref p0), some (.int s554.1), none, some (.int p3), none, some (.int s554.1), none, none]) (pc := 236) C dX12_mixedInsertionSort_236 rfl rfl rfl ?_
        obtain ⟨v563, e564, e561⟩ := mx_bind e561
        refine mG_iaload (pc := 238) C dX12_mixedInsertionSort_238 e564 ?_
        refine mG_is (ls' := [some (.ref p0), some (.int s554.1), none, some (.int p3), none, some (.int s554.1), some (.int v563), none]) (pc := 239) C dX12_mixedInsertionSort_239 rfl rfl rfl ?_
        refine mG_aload_n (pc := 241) C dX12_mixedInsertionSort_241 rfl ?_
        refine mG_ii (ls' := [some (.ref p0), some (.int (s554.1 + 1)), none, some (.int p3), none, some (.int s554.1), some (.int v563), none]) (pc := 242) C dX12_mixedInsertionSort_242 rfl (kinc1 _) rfl rfl rfl ?_
        refine mG_iload_n (pc := 245) C dX12_mixedInsertionSort_245 rfl ?_
        obtain ⟨v565, e566, e561⟩ := mx_bind e561
        refine mG_iaload (pc := 246) C dX12_mixedInsertionSort_246 e566 ?_
        refine mG_is (ls' := [some (.ref p0), some (.int (s554.1 + 1)), none, some (.int p3), none, some (.int s554.1), some (.int v563), some (.int v565)]) (pc := 247) C dX12_mixedInsertionSort_247 rfl rfl rfl ?_
        refine mG_iload (pc := 249) C dX12_mixedInsertionSort_249 rfl ?_
        refine mG_iload (pc := 251) C dX12_mixedInsertionSort_251 rfl ?_
        obtain ⟨jp569, e570, e561⟩ := mx_bind e561
        have J568 : ∀ jp569' : mxH, jp569' = jp569 → mG l Z X 8 0 0 408 [some (.ref p0), some (.int (s554.1 + 1)), none, some (.int p3), none, none, none, none] [] jp569' := by
          intro jp569' q729
          subst q729
          refine mG_ii (ls' := [some (.ref p0), some (.int ((s554.1 + 1) + 1)), none, some (.int p3), none, none, none, none]) (pc := 408) C dX12_mixedInsertionSort_408 rfl (kinc1 _) rfl rfl rfl ?_
          refine mG_goto (tgt := 228) (pc := 411) C dX12_mixedInsertionSort_411 (by decide) ?_
          exact mG_sub (mxLe_s (mxLe_s (mxLe_n (mxLe_s (mxLe_n (mxLe_n (mxLe_n (mxLe_n mxLe_z)))))))) (hK558 _ (Option.some.inj e561).symm)
        refine mG_icmp_le (pc := 253) (tgt := 328) C dX12_mixedInsertionSort_253 (by decide) (fun q567 => ?_) (fun q567 => ?_)
        · rw [if_pos q567] at e570
          refine mG_iload (pc := 328) C dX12_mixedInsertionSort_328 rfl ?_
          refine mG_aload_n (pc := 330) C dX12_mixedInsertionSort_330 rfl ?_
          refine mG_iload (pc := 331) C dX12_mixedInsertionSort_331 rfl ?_
          refine mG_ic (pc := 333) C dX12_mixedInsertionSort_333 kI1 ?_
          refine mG_isub (pc := 334) C dX12_mixedInsertionSort_334 ?_
          obtain ⟨v650, e651, e570⟩ := mx_bind e570
          refine mG_iaload (pc := 335) C dX12_mixedInsertionSort_335 e651 ?_
          refine mG_icmp_ge (pc := 336) (tgt := 408) C dX12_mixedInsertionSort_336 (by decide) (fun q652 => ?_) (fun q652 => ?_)
          · rw [if_pos q652] at e570
            exact mG_sub (mxLe_s (mxLe_s (mxLe_n (mxLe_s (mxLe_n (mxLe_n (mxLe_n (mxLe_n mxLe_z)))))))) (J568 _ (Option.some.inj e570))
          · rw [if_neg q652] at e570
            obtain ⟨r654, e655, e570⟩ := mx_bind e570
            have J656 : ∀ r668 : (Int32 × mxH), r668 = r654 → mG l Z X 8 0 0 364 [some (.ref p0), some (.int (s554.1 + 1)), none, some (.int p3), none, some (.int r668.1), some (.int v563), some (.int v565)] [] r668.2 := by
              intro r668 q690
              subst q690
              refine mG_aload_n (pc := 364) C dX12_mixedInsertionSort_364 rfl ?_
              refine mG_ii (ls' := [some (.ref p0), some (.int (s554.1 + 1)), none, some (.int p3), none, some (.int (r668.1 + 1)), some (.int v563), some (.int v565)]) (pc := 365) C dX12_mixedInsertionSort_365 rfl (kinc1 _) rfl rfl rfl ?_
              refine mG_iload (pc := 368) C dX12_mixedInsertionSort_368 rfl ?_
              refine mG_ic (pc := 370) C dX12_mixedInsertionSort_370 kI1 ?_
              refine mG_iadd (pc := 371) C dX12_mixedInsertionSort_371 ?_
              refine mG_iload (pc := 372) C dX12_mixedInsertionSort_372 rfl ?_
              obtain ⟨h669, e670, e570⟩ := mx_bind e570
              refine mG_iastore (pc := 374) C dX12_mixedInsertionSort_374 e670 ?_
              obtain ⟨r672, e673, e570⟩ := mx_bind e570
              have J674 : ∀ r686 : (Int32 × mxH), r686 = r672 → mG l Z X 8 0 0 400 [some (.ref p0), some (.int (s554.1 + 1)), none, some (.int p3), none, some (.int r686.1), some (.int v563), none] [] r686.2 := by
                intro r686 q689
                subst q689
                refine mG_aload_n (pc := 400) C dX12_mixedInsertionSort_400 rfl ?_
                refine mG_iload (pc := 401) C dX12_mixedInsertionSort_401 rfl ?_
                refine mG_ic (pc := 403) C dX12_mixedInsertionSort_403 kI1 ?_
                refine mG_iadd (pc := 404) C dX12_mixedInsertionSort_404 ?_
                refine mG_iload (pc := 405) C dX12_mixedInsertionSort_405 rfl ?_
                obtain ⟨h687, e688, e570⟩ := mx_bind e570
                refine mG_iastore (pc := 407) C dX12_mixedInsertionSort_407 e688 ?_
                exact mG_sub (mxLe_s (mxLe_s (mxLe_n (mxLe_s (mxLe_n (mxLe_n (mxLe_n (mxLe_n mxLe_z)))))))) (J568 _ (Option.some.inj e570))
              refine mG_sub (ls' := [some (.ref p0), some (.int (s554.1 + 1)), none, some (.int p3), none, some (.int (r668.1 + 1)), some (.int v563), none]) (mxLe_s (mxLe_s (mxLe_n (mxLe_s (mxLe_n (mxLe_s (mxLe_s (mxLe_n mxLe_z)))))))) (mxLoop_ind (K := fun s671 : (Int32 × mxH) => mG l Z X 8 0 0 375 [some (.ref p0), some (.int (s554.1 + 1)), none, some (.int p3), none, some (.int s671.1), some (.int v563), none] [] s671.2) ?_ _ _ e673)
              intro s671 o677 e678 hK675 hx676
              refine mG_iload (pc := 375) C dX12_mixedInsertionSort_375 rfl ?_
              refine mG_aload_n (pc := 377) C dX12_mixedInsertionSort_377 rfl ?_
              refine mG_ii (ls' := [some (.ref p0), some (.int (s554.1 + 1)), none, some (.int p3), none, some (.int (s671.1 - 1)), some (.int v563), none]) (pc := 378) C dX12_mixedInsertionSort_378 rfl (kincm1 _) rfl rfl rfl ?_
              refine mG_iload (pc := 381) C dX12_mixedInsertionSort_381 rfl ?_
              obtain ⟨v679, e680, e678⟩ := mx_bind e678
              refine mG_iaload (pc := 383) C dX12_mixedInsertionSort_383 e680 ?_
              refine mG_icmp_ge (pc := 384) (tgt := 400) C dX12_mixedInsertionSort_384 (by decide) (fun q681 => ?_) (fun q681 => ?_)
              · rw [if_pos q681] at e678
                exact mG_sub (mxLe_s (mxLe_s (mxLe_n (mxLe_s (mxLe_n (mxLe_s (mxLe_s (mxLe_n mxLe_z)))))))) (J674 _ (hx676 _ (Option.some.inj e678).symm))
              · rw [if_neg q681] at e678
                refine mG_aload_n (pc := 387) C dX12_mixedInsertionSort_387 rfl ?_
                refine mG_iload (pc := 388) C dX12_mixedInsertionSort_388 rfl ?_
                refine mG_ic (pc := 390) C dX12_mixedInsertionSort_390 kI1 ?_
                refine mG_iadd (pc := 391) C dX12_mixedInsertionSort_391 ?_
                refine mG_aload_n (pc := 392) C dX12_mixedInsertionSort_392 rfl ?_
                refine mG_iload (pc := 393) C dX12_mixedInsertionSort_393 rfl ?_
                obtain ⟨v682, e683, e678⟩ := mx_bind e678
                refine mG_iaload (pc := 395) C dX12_mixedInsertionSort_395 e683 ?_
                obtain ⟨h684, e685, e678⟩ := mx_bind e678
                refine mG_iastore (pc := 396) C dX12_mixedInsertionSort_396 e685 ?_
                refine mG_goto (tgt := 375) (pc := 397) C dX12_mixedInsertionSort_397 (by decide) ?_
                exact mG_sub (mxLe_s (mxLe_s (mxLe_n (mxLe_s (mxLe_n (mxLe_s (mxLe_s (mxLe_n mxLe_z)))))))) (hK675 _ (Option.some.inj e678).symm)
            refine mG_sub (ls' := [some (.ref p0), some (.int (s554.1 + 1)), none, some (.int p3), none, some (.int s554.1), some (.int v563), some (.int v565)]) (mxLe_s (mxLe_s (mxLe_n (mxLe_s (mxLe_n (mxLe_s (mxLe_s (mxLe_s mxLe_z)))))))) (mxLoop_ind (K := fun s653 : (Int32 × mxH) => mG l Z X 8 0 0 339 [some (.ref p0), some (.int (s554.1 + 1)), none, some (.int p3), none, some (.int s653.1), some (.int v563), some (.int v565)] [] s653.2) ?_ _ _ e655)
            intro s653 o659 e660 hK657 hx658
            refine mG_iload (pc := 339) C dX12_mixedInsertionSort_339 rfl ?_
            refine mG_aload_n (pc := 341) C dX12_mixedInsertionSort_341 rfl ?_
            refine mG_ii (ls' := [some (.ref p0), some (.int (s554.1 + 1)), none, some (.int p3), none, some (.int (s653.1 - 1)), some (.int v563), some (.int v565)]) (pc := 342) C dX12_mixedInsertionSort_342 rfl (kincm1 _) rfl rfl rfl ?_
            refine mG_iload (pc := 345) C dX12_mixedInsertionSort_345 rfl ?_
            obtain ⟨v661, e662, e660⟩ := mx_bind e660
            refine mG_iaload (pc := 347) C dX12_mixedInsertionSort_347 e662 ?_
            refine mG_icmp_ge (pc := 348) (tgt := 364) C dX12_mixedInsertionSort_348 (by decide) (fun q663 => ?_) (fun q663 => ?_)
            · rw [if_pos q663] at e660
              exact mG_sub (mxLe_s (mxLe_s (mxLe_n (mxLe_s (mxLe_n (mxLe_s (mxLe_s (mxLe_s mxLe_z)))))))) (J656 _ (hx658 _ (Option.some.inj e660).symm))
            · rw [if_neg q663] at e660
              refine mG_aload_n (pc := 351) C dX12_mixedInsertionSort_351 rfl ?_
              refine mG_iload (pc := 352) C dX12_mixedInsertionSort_352 rfl ?_
              refine mG_ic (pc := 354) C dX12_mixedInsertionSort_354 kI2 ?_
              refine mG_iadd (pc := 355) C dX12_mixedInsertionSort_355 ?_
              refine mG_aload_n (pc := 356) C dX12_mixedInsertionSort_356 rfl ?_
              refine mG_iload (pc := 357) C dX12_mixedInsertionSort_357 rfl ?_
              obtain ⟨v664, e665, e660⟩ := mx_bind e660
              refine mG_iaload (pc := 359) C dX12_mixedInsertionSort_359 e665 ?_
              obtain ⟨h666, e667, e660⟩ := mx_bind e660
              refine mG_iastore (pc := 360) C dX12_mixedInsertionSort_360 e667 ?_
              refine mG_goto (tgt := 339) (pc := 361) C dX12_mixedInsertionSort_361 (by decide) ?_
              exact mG_sub (mxLe_s (mxLe_s (mxLe_n (mxLe_s (mxLe_n (mxLe_s (mxLe_s (mxLe_s mxLe_z)))))))) (hK657 _ (Option.some.inj e660).symm)
        · rw [if_neg q567] at e570
          obtain ⟨r692, e693, e570⟩ := mx_bind e570
          have J694 : ∀ r706 : (Int32 × mxH), r706 = r692 → mG l Z X 8 0 0 281 [some (.ref p0), some (.int (s554.1 + 1)), none, some (.int p3), none, some (.int r706.1), some (.int v563), some (.int v565)] [] r706.2 := by
            intro r706 q728
            subst q728
            refine mG_aload_n (pc := 281) C dX12_mixedInsertionSort_281 rfl ?_
            refine mG_ii (ls' := [some (.ref p0), some (.int (s554.1 + 1)), none, some (.int p3), none, some (.int (r706.1 + 1)), some (.int v563), some (.int v565)]) (pc := 282) C dX12_mixedInsertionSort_282 rfl (kinc1 _) rfl rfl rfl ?_
            refine mG_iload (pc := 285) C dX12_mixedInsertionSort_285 rfl ?_
            refine mG_ic (pc := 287) C dX12_mixedInsertionSort_287 kI1 ?_
            refine mG_iadd (pc := 288) C dX12_mixedInsertionSort_288 ?_
            refine mG_iload (pc := 289) C dX12_mixedInsertionSort_289 rfl ?_
            obtain ⟨h707, e708, e570⟩ := mx_bind e570
            refine mG_iastore (pc := 291) C dX12_mixedInsertionSort_291 e708 ?_
            obtain ⟨r710, e711, e570⟩ := mx_bind e570
            have J712 : ∀ r724 : (Int32 × mxH), r724 = r710 → mG l Z X 8 0 0 317 [some (.ref p0), some (.int (s554.1 + 1)), none, some (.int p3), none, some (.int r724.1), none, some (.int v565)] [] r724.2 := by
              intro r724 q727
              subst q727
              refine mG_aload_n (pc := 317) C dX12_mixedInsertionSort_317 rfl ?_
              refine mG_iload (pc := 318) C dX12_mixedInsertionSort_318 rfl ?_
              refine mG_ic (pc := 320) C dX12_mixedInsertionSort_320 kI1 ?_
              refine mG_iadd (pc := 321) C dX12_mixedInsertionSort_321 ?_
              refine mG_iload (pc := 322) C dX12_mixedInsertionSort_322 rfl ?_
              obtain ⟨h725, e726, e570⟩ := mx_bind e570
              refine mG_iastore (pc := 324) C dX12_mixedInsertionSort_324 e726 ?_
              refine mG_goto (tgt := 408) (pc := 325) C dX12_mixedInsertionSort_325 (by decide) ?_
              exact mG_sub (mxLe_s (mxLe_s (mxLe_n (mxLe_s (mxLe_n (mxLe_n (mxLe_n (mxLe_n mxLe_z)))))))) (J568 _ (Option.some.inj e570))
            refine mG_sub (ls' := [some (.ref p0), some (.int (s554.1 + 1)), none, some (.int p3), none, some (.int (r706.1 + 1)), none, some (.int v565)]) (mxLe_s (mxLe_s (mxLe_n (mxLe_s (mxLe_n (mxLe_s (mxLe_n (mxLe_s mxLe_z)))))))) (mxLoop_ind (K := fun s709 : (Int32 × mxH) => mG l Z X 8 0 0 292 [some (.ref p0), some (.int (s554.1 + 1)), none, some (.int p3), none, some (.int s709.1), none, some (.int v565)] [] s709.2) ?_ _ _ e711)
            intro s709 o715 e716 hK713 hx714
            refine mG_iload (pc := 292) C dX12_mixedInsertionSort_292 rfl ?_
            refine mG_aload_n (pc := 294) C dX12_mixedInsertionSort_294 rfl ?_
            refine mG_ii (ls' := [some (.ref p0), some (.int (s554.1 + 1)), none, some (.int p3), none, some (.int (s709.1 - 1)), none, some (.int v565)]) (pc := 295) C dX12_mixedInsertionSort_295 rfl (kincm1 _) rfl rfl rfl ?_
            refine mG_iload (pc := 298) C dX12_mixedInsertionSort_298 rfl ?_
            obtain ⟨v717, e718, e716⟩ := mx_bind e716
            refine mG_iaload (pc := 300) C dX12_mixedInsertionSort_300 e718 ?_
            refine mG_icmp_ge (pc := 301) (tgt := 317) C dX12_mixedInsertionSort_301 (by decide) (fun q719 => ?_) (fun q719 => ?_)
            · rw [if_pos q719] at e716
              exact mG_sub (mxLe_s (mxLe_s (mxLe_n (mxLe_s (mxLe_n (mxLe_s (mxLe_n (mxLe_s mxLe_z)))))))) (J712 _ (hx714 _ (Option.some.inj e716).symm))
            · rw [if_neg q719] at e716
              refine mG_aload_n (pc := 304) C dX12_mixedInsertionSort_304 rfl ?_
              refine mG_iload (pc := 305) C dX12_mixedInsertionSort_305 rfl ?_
              refine mG_ic (pc := 307) C dX12_mixedInsertionSort_307 kI1 ?_
              refine mG_iadd (pc := 308) C dX12_mixedInsertionSort_308 ?_
              refine mG_aload_n (pc := 309) C dX12_mixedInsertionSort_309 rfl ?_
              refine mG_iload (pc := 310) C dX12_mixedInsertionSort_310 rfl ?_
              obtain ⟨v720, e721, e716⟩ := mx_bind e716
              refine mG_iaload (pc := 312) C dX12_mixedInsertionSort_312 e721 ?_
              obtain ⟨h722, e723, e716⟩ := mx_bind e716
              refine mG_iastore (pc := 313) C dX12_mixedInsertionSort_313 e723 ?_
              refine mG_goto (tgt := 292) (pc := 314) C dX12_mixedInsertionSort_314 (by decide) ?_
              exact mG_sub (mxLe_s (mxLe_s (mxLe_n (mxLe_s (mxLe_n (mxLe_s (mxLe_n (mxLe_s mxLe_z)))))))) (hK713 _ (Option.some.inj e716).symm)
          refine mG_sub (ls' := [some (.ref p0), some (.int (s554.1 + 1)), none, some (.int p3), none, some (.int s554.1), some (.int v563), some (.int v565)]) (mxLe_s (mxLe_s (mxLe_n (mxLe_s (mxLe_n (mxLe_s (mxLe_s (mxLe_s mxLe_z)))))))) (mxLoop_ind (K := fun s691 : (Int32 × mxH) => mG l Z X 8 0 0 256 [some (.ref p0), some (.int (s554.1 + 1)), none, some (.int p3), none, some (.int s691.1), some (.int v563), some (.int v565)] [] s691.2) ?_ _ _ e693)
          intro s691 o697 e698 hK695 hx696
          refine mG_iload (pc := 256) C dX12_mixedInsertionSort_256 rfl ?_
          refine mG_aload_n (pc := 258) C dX12_mixedInsertionSort_258 rfl ?_
          refine mG_ii (ls' := [some (.ref p0), some (.int (s554.1 + 1)), none, some (.int p3), none, some (.int (s691.1 - 1)), some (.int v563), some (.int v565)]) (pc := 259) C dX12_mixedInsertionSort_259 rfl (kincm1 _) rfl rfl rfl ?_
          refine mG_iload (pc := 262) C dX12_mixedInsertionSort_262 rfl ?_
          obtain ⟨v699, e700, e698⟩ := mx_bind e698
          refine mG_iaload (pc := 264) C dX12_mixedInsertionSort_264 e700 ?_
          refine mG_icmp_ge (pc := 265) (tgt := 281) C dX12_mixedInsertionSort_265 (by decide) (fun q701 => ?_) (fun q701 => ?_)
          · rw [if_pos q701] at e698
            exact mG_sub (mxLe_s (mxLe_s (mxLe_n (mxLe_s (mxLe_n (mxLe_s (mxLe_s (mxLe_s mxLe_z)))))))) (J694 _ (hx696 _ (Option.some.inj e698).symm))
          · rw [if_neg q701] at e698
            refine mG_aload_n (pc := 268) C dX12_mixedInsertionSort_268 rfl ?_
            refine mG_iload (pc := 269) C dX12_mixedInsertionSort_269 rfl ?_
            refine mG_ic (pc := 271) C dX12_mixedInsertionSort_271 kI2 ?_
            refine mG_iadd (pc := 272) C dX12_mixedInsertionSort_272 ?_
            refine mG_aload_n (pc := 273) C dX12_mixedInsertionSort_273 rfl ?_
            refine mG_iload (pc := 274) C dX12_mixedInsertionSort_274 rfl ?_
            obtain ⟨v702, e703, e698⟩ := mx_bind e698
            refine mG_iaload (pc := 276) C dX12_mixedInsertionSort_276 e703 ?_
            obtain ⟨h704, e705, e698⟩ := mx_bind e698
            refine mG_iastore (pc := 277) C dX12_mixedInsertionSort_277 e705 ?_
            refine mG_goto (tgt := 256) (pc := 278) C dX12_mixedInsertionSort_278 (by decide) ?_
            exact mG_sub (mxLe_s (mxLe_s (mxLe_n (mxLe_s (mxLe_n (mxLe_s (mxLe_s (mxLe_s mxLe_z)))))))) (hK695 _ (Option.some.inj e698).symm)
    refine mG_sub (ls' := [some (.ref p0), some (.int p1), some (.int p2), some (.int p3), some (.int v385), none, some (.int p3), none]) (mxLe_s (mxLe_s (mxLe_s (mxLe_s (mxLe_s (mxLe_n (mxLe_s (mxLe_n mxLe_z)))))))) (mxLoop_ind (K := fun s387 : (Int32 × Int32 × mxH) => mG l Z X 8 0 0 68 [some (.ref p0), some (.int s387.1), some (.int p2), some (.int p3), some (.int v385), none, some (.int s387.2.1), none] [] s387.2.2) ?_ _ _ e389)
    intro s387 o393 e394 hK391 hx392
    refine mG_ii (ls' := [some (.ref p0), some (.int (s387.1 + 1)), some (.int p2), some (.int p3), some (.int v385), none, some (.int s387.2.1), none]) (pc := 68) C dX12_mixedInsertionSort_68 rfl (kinc1 _) rfl rfl rfl ?_
    refine mG_iload_n (pc := 71) C dX12_mixedInsertionSort_71 rfl ?_
    refine mG_iload_n (pc := 72) C dX12_mixedInsertionSort_72 rfl ?_
    refine mG_icmp_ge (pc := 73) (tgt := 228) C dX12_mixedInsertionSort_73 (by decide) (fun q395 => ?_) (fun q395 => ?_)
    · rw [if_pos q395] at e394
      exact mG_sub (mxLe_s (mxLe_s (mxLe_n (mxLe_s (mxLe_n (mxLe_n (mxLe_n (mxLe_n mxLe_z)))))))) (J390 _ (hx392 _ (Option.some.inj e394).symm))
    · rw [if_neg q395] at e394
      refine mG_aload_n (pc := 76) C dX12_mixedInsertionSort_76 rfl ?_
      refine mG_iload_n (pc := 77) C dX12_mixedInsertionSort_77 rfl ?_
      refine mG_dup (pc := 78) C dX12_mixedInsertionSort_78 rfl ?_
      refine mG_is (ls' := [some (.ref p0), some (.int (s387.1 + 1)), some (.int p2), some (.int p3), some (.int v385), some (.int (s387.1 + 1)), some (.int s387.2.1), none]) (pc := 79) C dX12_mixedInsertionSort_79 rfl rfl rfl ?_
      obtain ⟨v396, e397, e394⟩ := mx_bind e394
      refine mG_iaload (pc := 81) C dX12_mixedInsertionSort_81 e397 ?_
      refine mG_is (ls' := [some (.ref p0), some (.int (s387.1 + 1)), some (.int p2), some (.int p3), some (.int v385), some (.int (s387.1 + 1)), some (.int s387.2.1), some (.int v396)]) (pc := 82) C dX12_mixedInsertionSort_82 rfl rfl rfl ?_
      refine mG_iload (pc := 84) C dX12_mixedInsertionSort_84 rfl ?_
      refine mG_aload_n (pc := 86) C dX12_mixedInsertionSort_86 rfl ?_
      refine mG_iload (pc := 87) C dX12_mixedInsertionSort_87 rfl ?_
      refine mG_ic (pc := 89) C dX12_mixedInsertionSort_89 kI1 ?_
      refine mG_isub (pc := 90) C dX12_mixedInsertionSort_90 ?_
      obtain ⟨v398, e399, e394⟩ := mx_bind e394
      refine mG_iaload (pc := 91) C dX12_mixedInsertionSort_91 e399 ?_
      obtain ⟨jp402, e403, e394⟩ := mx_bind e394
      have J401 : ∀ jp402' : (Int32 × mxH), jp402' = jp402 → mG l Z X 8 0 0 225 [some (.ref p0), some (.int (s387.1 + 1)), some (.int p2), some (.int p3), some (.int v385), none, some (.int jp402'.1), none] [] jp402'.2 := by
        intro jp402' q552
        subst q552
        refine mG_goto (tgt := 68) (pc := 225) C dX12_mixedInsertionSort_225 (by decide) ?_
        exact mG_sub (mxLe_s (mxLe_s (mxLe_s (mxLe_s (mxLe_s (mxLe_n (mxLe_s (mxLe_n mxLe_z)))))))) (hK391 _ (Option.some.inj e394).symm)
      refine mG_icmp_ge (pc := 92) (tgt := 142) C dX12_mixedInsertionSort_92 (by decide) (fun q400 => ?_) (fun q400 => ?_)
      · rw [if_pos q400] at e403
        refine mG_iload (pc := 142) C dX12_mixedInsertionSort_142 rfl ?_
        refine mG_iload (pc := 144) C dX12_mixedInsertionSort_144 rfl ?_
        refine mG_icmp_le (pc := 146) (tgt := 225) C dX12_mixedInsertionSort_146 (by decide) (fun q478 => ?_) (fun q478 => ?_)
        · rw [if_pos q478] at e403
          exact mG_sub (mxLe_s (mxLe_s (mxLe_s (mxLe_s (mxLe_s (mxLe_n (mxLe_s (mxLe_n mxLe_z)))))))) (J401 _ (Option.some.inj e403))
        · rw [if_neg q478] at e403
          refine mG_iload (pc := 149) C dX12_mixedInsertionSort_149 rfl ?_
          refine mG_iload (pc := 151) C dX12_mixedInsertionSort_151 rfl ?_
          refine mG_icmp_le (pc := 153) (tgt := 225) C dX12_mixedInsertionSort_153 (by decide) (fun q479 => ?_) (fun q479 => ?_)
          · rw [if_pos q479] at e403
            exact mG_sub (mxLe_s (mxLe_s (mxLe_s (mxLe_s (mxLe_s (mxLe_n (mxLe_s (mxLe_n mxLe_z)))))))) (J401 _ (Option.some.inj e403))
          · rw [if_neg q479] at e403
            obtain ⟨r481, e482, e403⟩ := mx_bind e403
            have J483 : ∀ r491 : Int32, r491 = r481 → mG l Z X 8 0 0 171 [some (.ref p0), some (.int (s387.1 + 1)), some (.int p2), some (.int p3), some (.int v385), some (.int (s387.1 + 1)), some (.int r491), some (.int v396)] [] s387.2.2 := by
              intro r491 q528
              subst q528
              refine mG_iload (pc := 171) C dX12_mixedInsertionSort_171 rfl ?_
              refine mG_iload (pc := 173) C dX12_mixedInsertionSort_173 rfl ?_
              obtain ⟨jp494, e495, e403⟩ := mx_bind e403
              have J493 : ∀ jp494' : (Int32 × mxH), jp494' = jp494 → mG l Z X 8 0 0 192 [some (.ref p0), some (.int (s387.1 + 1)), some (.int p2), some (.int p3), some (.int v385), some (.int (s387.1 + 1)), some (.int r491), some (.int jp494'.1)] [] jp494'.2 := by
                intro jp494' q527
                subst q527
                obtain ⟨r509, e510, e403⟩ := mx_bind e403
                have J511 : ∀ r523 : (Int32 × mxH), r523 = r509 → mG l Z X 8 0 0 217 [some (.ref p0), some (.int (s387.1 + 1)), some (.int p2), some (.int p3), some (.int v385), some (.int r523.1), some (.int r491), some (.int jp494'.1)] [] r523.2 := by
                  intro r523 q526
                  subst q526
                  refine mG_aload_n (pc := 217) C dX12_mixedInsertionSort_217 rfl ?_
                  refine mG_iload (pc := 218) C dX12_mixedInsertionSort_218 rfl ?_
                  refine mG_ic (pc := 220) C dX12_mixedInsertionSort_220 kI1 ?_
                  refine mG_iadd (pc := 221) C dX12_mixedInsertionSort_221 ?_
                  refine mG_iload (pc := 222) C dX12_mixedInsertionSort_222 rfl ?_
                  obtain ⟨h524, e525, e403⟩ := mx_bind e403
                  refine mG_iastore (pc := 224) C dX12_mixedInsertionSort_224 e525 ?_
                  exact mG_sub (mxLe_s (mxLe_s (mxLe_s (mxLe_s (mxLe_s (mxLe_n (mxLe_s (mxLe_n mxLe_z)))))))) (J401 _ (Option.some.inj e403))
                refine mG_sub (ls' := [some (.ref p0), some (.int (s387.1 + 1)), some (.int p2), some (.int p3), some (.int v385), some (.int (s387.1 + 1)), some (.int r491), some (.int jp494'.1)]) (mxLe_s (mxLe_s (mxLe_s (mxLe_s (mxLe_s (mxLe_s (mxLe_s (mxLe_s mxLe_z)))))))) (mxLoop_ind (K := fun s508 : (Int32 × mxH) => mG l Z X 8 0 0 192 [some (.ref p0), some (.int (s387.1 + 1)), some (.int p2), some (.int p3), some (.int v385), some (.int s508.1), some (.int r491), some (.int jp494'.1)] [] s508.2) ?_ _ _ e510)
                intro s508 o514 e515 hK512 hx513
                refine mG_iload (pc := 192) C dX12_mixedInsertionSort_192 rfl ?_
                refine mG_aload_n (pc := 194) C dX12_mixedInsertionSort_194 rfl ?_
                refine mG_ii (ls' := [some (.ref p0), some (.int (s387.1 + 1)), some (.int p2), some (.int p3), some (.int v385), some (.int (s508.1 - 1)), some (.int r491), some (.int jp494'.1)]) (pc := 195) C dX12_mixedInsertionSort_195 rfl (kincm1 _) rfl rfl rfl ?_
                refine mG_iload (pc := 198) C dX12_mixedInsertionSort_198 rfl ?_
                obtain ⟨v516, e517, e515⟩ := mx_bind e515
                refine mG_iaload (pc := 200) C dX12_mixedInsertionSort_200 e517 ?_
                refine mG_icmp_ge (pc := 201) (tgt := 217) C dX12_mixedInsertionSort_201 (by decide) (fun q518 => ?_) (fun q518 => ?_)
                · rw [if_pos q518] at e515
                  exact mG_sub (mxLe_s (mxLe_s (mxLe_s (mxLe_s (mxLe_s (mxLe_s (mxLe_s (mxLe_s mxLe_z)))))))) (J511 _ (hx513 _ (Option.some.inj e515).symm))
                · rw [if_neg q518] at e515
                  refine mG_aload_n (pc := 204) C dX12_mixedInsertionSort_204 rfl ?_
                  refine mG_iload (pc := 205) C dX12_mixedInsertionSort_205 rfl ?_
                  refine mG_ic (pc := 207) C dX12_mixedInsertionSort_207 kI1 ?_
                  refine mG_iadd (pc := 208) C dX12_mixedInsertionSort_208 ?_
                  refine mG_aload_n (pc := 209) C dX12_mixedInsertionSort_209 rfl ?_
                  refine mG_iload (pc := 210) C dX12_mixedInsertionSort_210 rfl ?_
                  obtain ⟨v519, e520, e515⟩ := mx_bind e515
                  refine mG_iaload (pc := 212) C dX12_mixedInsertionSort_212 e520 ?_
                  obtain ⟨h521, e522, e515⟩ := mx_bind e515
                  refine mG_iastore (pc := 213) C dX12_mixedInsertionSort_213 e522 ?_
                  refine mG_goto (tgt := 192) (pc := 214) C dX12_mixedInsertionSort_214 (by decide) ?_
                  exact mG_sub (mxLe_s (mxLe_s (mxLe_s (mxLe_s (mxLe_s (mxLe_s (mxLe_s (mxLe_s mxLe_z)))))))) (hK512 _ (Option.some.inj e515).symm)
              refine mG_icmp_le (pc := 175) (tgt := 192) C dX12_mixedInsertionSort_175 (by decide) (fun q492 => ?_) (fun q492 => ?_)
              · rw [if_pos q492] at e495
                exact mG_sub (mxLe_s (mxLe_s (mxLe_s (mxLe_s (mxLe_s (mxLe_s (mxLe_s (mxLe_s mxLe_z)))))))) (J493 _ (Option.some.inj e495))
              · rw [if_neg q492] at e495
                refine mG_aload_n (pc := 178) C dX12_mixedInsertionSort_178 rfl ?_
                refine mG_iload (pc := 179) C dX12_mixedInsertionSort_179 rfl ?_
                obtain ⟨v502, e503, e495⟩ := mx_bind e495
                refine mG_iaload (pc := 181) C dX12_mixedInsertionSort_181 e503 ?_
                refine mG_is (ls' := [some (.ref p0), some (.int (s387.1 + 1)), some (.int p2), some (.int p3), some (.int v385), some (.int (s387.1 + 1)), some (.int r491), some (.int v502)]) (pc := 182) C dX12_mixedInsertionSort_182 rfl rfl rfl ?_
                refine mG_aload_n (pc := 184) C dX12_mixedInsertionSort_184 rfl ?_
                refine mG_iload (pc := 185) C dX12_mixedInsertionSort_185 rfl ?_
                refine mG_aload_n (pc := 187) C dX12_mixedInsertionSort_187 rfl ?_
                refine mG_iload (pc := 188) C dX12_mixedInsertionSort_188 rfl ?_
                obtain ⟨v504, e505, e495⟩ := mx_bind e495
                refine mG_iaload (pc := 190) C dX12_mixedInsertionSort_190 e505 ?_
                obtain ⟨h506, e507, e495⟩ := mx_bind e495
                refine mG_iastore (pc := 191) C dX12_mixedInsertionSort_191 e507 ?_
                exact mG_sub (mxLe_s (mxLe_s (mxLe_s (mxLe_s (mxLe_s (mxLe_s (mxLe_s (mxLe_s mxLe_z)))))))) (J493 _ (Option.some.inj e495))
            refine mG_sub (ls' := [some (.ref p0), some (.int (s387.1 + 1)), some (.int p2), some (.int p3), some (.int v385), some (.int (s387.1 + 1)), some (.int s387.2.1), some (.int v396)]) (mxLe_s (mxLe_s (mxLe_s (mxLe_s (mxLe_s (mxLe_s (mxLe_s (mxLe_s mxLe_z)))))))) (mxLoop_ind (K := fun s480 : Int32 => mG l Z X 8 0 0 156 [some (.ref p0), some (.int (s387.1 + 1)), some (.int p2), some (.int p3), some (.int v385), some (.int (s387.1 + 1)), some (.int s480), some (.int v396)] [] s387.2.2) ?_ _ _ e482)
            intro s480 o486 e487 hK484 hx485
            refine mG_aload_n (pc := 156) C dX12_mixedInsertionSort_156 rfl ?_
            refine mG_ii (ls' := [some (.ref p0), some (.int (s387.1 + 1)), some (.int p2), some (.int p3), some (.int v385), some (.int (s387.1 + 1)), some (.int (s480 - 1)), some (.int v396)]) (pc := 157) C dX12_mixedInsertionSort_157 rfl (kincm1 _) rfl rfl rfl ?_
            refine mG_iload (pc := 160) C dX12_mixedInsertionSort_160 rfl ?_
            obtain ⟨v488, e489, e487⟩ := mx_bind e487
            refine mG_iaload (pc := 162) C dX12_mixedInsertionSort_162 e489 ?_
            refine mG_iload (pc := 163) C dX12_mixedInsertionSort_163 rfl ?_
            refine mG_icmp_le (pc := 165) (tgt := 171) C dX12_mixedInsertionSort_165 (by decide) (fun q490 => ?_) (fun q490 => ?_)
            · rw [if_pos q490] at e487
              exact mG_sub (mxLe_s (mxLe_s (mxLe_s (mxLe_s (mxLe_s (mxLe_s (mxLe_s (mxLe_s mxLe_z)))))))) (J483 _ (hx485 _ (Option.some.inj e487).symm))
            · rw [if_neg q490] at e487
              refine mG_goto (tgt := 156) (pc := 168) C dX12_mixedInsertionSort_168 (by decide) ?_
              exact mG_sub (mxLe_s (mxLe_s (mxLe_s (mxLe_s (mxLe_s (mxLe_s (mxLe_s (mxLe_s mxLe_z)))))))) (hK484 _ (Option.some.inj e487).symm)
      · rw [if_neg q400] at e403
        refine mG_aload_n (pc := 95) C dX12_mixedInsertionSort_95 rfl ?_
        refine mG_iload (pc := 96) C dX12_mixedInsertionSort_96 rfl ?_
        refine mG_aload_n (pc := 98) C dX12_mixedInsertionSort_98 rfl ?_
        refine mG_ii (ls' := [some (.ref p0), some (.int (s387.1 + 1)), some (.int p2), some (.int p3), some (.int v385), some (.int ((s387.1 + 1) - 1)), some (.int s387.2.1), some (.int v396)]) (pc := 99) C dX12_mixedInsertionSort_99 rfl (kincm1 _) rfl rfl rfl ?_
        refine mG_iload (pc := 102) C dX12_mixedInsertionSort_102 rfl ?_
        obtain ⟨v529, e530, e403⟩ := mx_bind e403
        refine mG_iaload (pc := 104) C dX12_mixedInsertionSort_104 e530 ?_
        obtain ⟨h531, e532, e403⟩ := mx_bind e403
        refine mG_iastore (pc := 105) C dX12_mixedInsertionSort_105 e532 ?_
        obtain ⟨r534, e535, e403⟩ := mx_bind e403
        have J536 : ∀ r548 : (Int32 × mxH), r548 = r534 → mG l Z X 8 0 0 131 [some (.ref p0), some (.int (s387.1 + 1)), some (.int p2), some (.int p3), some (.int v385), some (.int r548.1), some (.int s387.2.1), some (.int v396)] [] r548.2 := by
          intro r548 q551
          subst q551
          refine mG_aload_n (pc := 131) C dX12_mixedInsertionSort_131 rfl ?_
          refine mG_iload (pc := 132) C dX12_mixedInsertionSort_132 rfl ?_
          refine mG_ic (pc := 134) C dX12_mixedInsertionSort_134 kI1 ?_
          refine mG_iadd (pc := 135) C dX12_mixedInsertionSort_135 ?_
          refine mG_iload (pc := 136) C dX12_mixedInsertionSort_136 rfl ?_
          obtain ⟨h549, e550, e403⟩ := mx_bind e403
          refine mG_iastore (pc := 138) C dX12_mixedInsertionSort_138 e550 ?_
          refine mG_goto (tgt := 225) (pc := 139) C dX12_mixedInsertionSort_139 (by decide) ?_
          exact mG_sub (mxLe_s (mxLe_s (mxLe_s (mxLe_s (mxLe_s (mxLe_n (mxLe_s (mxLe_n mxLe_z)))))))) (J401 _ (Option.some.inj e403))
        refine mG_sub (ls' := [some (.ref p0), some (.int (s387.1 + 1)), some (.int p2), some (.int p3), some (.int v385), some (.int ((s387.1 + 1) - 1)), some (.int s387.2.1), some (.int v396)]) (mxLe_s (mxLe_s (mxLe_s (mxLe_s (mxLe_s (mxLe_s (mxLe_s (mxLe_s mxLe_z)))))))) (mxLoop_ind (K := fun s533 : (Int32 × mxH) => mG l Z X 8 0 0 106 [some (.ref p0), some (.int (s387.1 + 1)), some (.int p2), some (.int p3), some (.int v385), some (.int s533.1), some (.int s387.2.1), some (.int v396)] [] s533.2) ?_ _ _ e535)
        intro s533 o539 e540 hK537 hx538
        refine mG_iload (pc := 106) C dX12_mixedInsertionSort_106 rfl ?_
        refine mG_aload_n (pc := 108) C dX12_mixedInsertionSort_108 rfl ?_
        refine mG_ii (ls' := [some (.ref p0), some (.int (s387.1 + 1)), some (.int p2), some (.int p3), some (.int v385), some (.int (s533.1 - 1)), some (.int s387.2.1), some (.int v396)]) (pc := 109) C dX12_mixedInsertionSort_109 rfl (kincm1 _) rfl rfl rfl ?_
        refine mG_iload (pc := 112) C dX12_mixedInsertionSort_112 rfl ?_
        obtain ⟨v541, e542, e540⟩ := mx_bind e540
        refine mG_iaload (pc := 114) C dX12_mixedInsertionSort_114 e542 ?_
        refine mG_icmp_ge (pc := 115) (tgt := 131) C dX12_mixedInsertionSort_115 (by decide) (fun q543 => ?_) (fun q543 => ?_)
        · rw [if_pos q543] at e540
          exact mG_sub (mxLe_s (mxLe_s (mxLe_s (mxLe_s (mxLe_s (mxLe_s (mxLe_s (mxLe_s mxLe_z)))))))) (J536 _ (hx538 _ (Option.some.inj e540).symm))
        · rw [if_neg q543] at e540
          refine mG_aload_n (pc := 118) C dX12_mixedInsertionSort_118 rfl ?_
          refine mG_iload (pc := 119) C dX12_mixedInsertionSort_119 rfl ?_
          refine mG_ic (pc := 121) C dX12_mixedInsertionSort_121 kI1 ?_
          refine mG_iadd (pc := 122) C dX12_mixedInsertionSort_122 ?_
          refine mG_aload_n (pc := 123) C dX12_mixedInsertionSort_123 rfl ?_
          refine mG_iload (pc := 124) C dX12_mixedInsertionSort_124 rfl ?_
          obtain ⟨v544, e545, e540⟩ := mx_bind e540
          refine mG_iaload (pc := 126) C dX12_mixedInsertionSort_126 e545 ?_
          obtain ⟨h546, e547, e540⟩ := mx_bind e540
          refine mG_iastore (pc := 127) C dX12_mixedInsertionSort_127 e547 ?_
          refine mG_goto (tgt := 106) (pc := 128) C dX12_mixedInsertionSort_128 (by decide) ?_
          exact mG_sub (mxLe_s (mxLe_s (mxLe_s (mxLe_s (mxLe_s (mxLe_s (mxLe_s (mxLe_s mxLe_z)))))))) (hK537 _ (Option.some.inj e540).symm)
  · rw [if_pos q1] at e4
    obtain ⟨r734, e735, e4⟩ := mx_bind e4
    have J736 : ∀ r763 : mxH, r763 = r734 → mG l Z X 8 0 0 57 [none, none, none, none, none, none, none, none] [] r763 := by
      intro r763 q764
      subst q764
      refine mG_goto (tgt := 414) (pc := 57) C dX12_mixedInsertionSort_57 (by decide) ?_
      exact mG_sub (mxLe_n (mxLe_n (mxLe_n (mxLe_n (mxLe_n (mxLe_n (mxLe_n (mxLe_n mxLe_z)))))))) (J2 _ (Option.some.inj e4))
    refine mG_sub (ls' := [some (.ref p0), some (.int p1), some (.int p2), none, none, none, none, none]) (mxLe_s (mxLe_s (mxLe_s (mxLe_n (mxLe_n (mxLe_n (mxLe_n (mxLe_n mxLe_z)))))))) (mxLoop_ind (K := fun s733 : (Int32 × mxH) => mG l Z X 8 0 0 5 [some (.ref p0), some (.int s733.1), some (.int p2), none, none, none, none, none] [] s733.2) ?_ _ _ e735)
    intro s733 o739 e740 hK737 hx738
    refine mG_ii (ls' := [some (.ref p0), some (.int (s733.1 + 1)), some (.int p2), none, none, none, none, none]) (pc := 5) C dX12_mixedInsertionSort_5 rfl (kinc1 _) rfl rfl rfl ?_
    refine mG_iload_n (pc := 8) C dX12_mixedInsertionSort_8 rfl ?_
    refine mG_iload_n (pc := 9) C dX12_mixedInsertionSort_9 rfl ?_
    refine mG_icmp_ge (pc := 10) (tgt := 57) C dX12_mixedInsertionSort_10 (by decide) (fun q741 => ?_) (fun q741 => ?_)
    · rw [if_pos q741] at e740
      exact mG_sub (mxLe_n (mxLe_n (mxLe_n (mxLe_n (mxLe_n (mxLe_n (mxLe_n (mxLe_n mxLe_z)))))))) (J736 _ (hx738 _ (Option.some.inj e740).symm))
    · rw [if_neg q741] at e740
      refine mG_aload_n (pc := 13) C dX12_mixedInsertionSort_13 rfl ?_
      refine mG_iload_n (pc := 14) C dX12_mixedInsertionSort_14 rfl ?_
      refine mG_dup (pc := 15) C dX12_mixedInsertionSort_15 rfl ?_
      refine mG_is (ls' := [some (.ref p0), some (.int (s733.1 + 1)), some (.int p2), none, some (.int (s733.1 + 1)), none, none, none]) (pc := 16) C dX12_mixedInsertionSort_16 rfl rfl rfl ?_
      obtain ⟨v742, e743, e740⟩ := mx_bind e740
      refine mG_iaload (pc := 18) C dX12_mixedInsertionSort_18 e743 ?_
      refine mG_is (ls' := [some (.ref p0), some (.int (s733.1 + 1)), some (.int p2), none, some (.int (s733.1 + 1)), some (.int v742), none, none]) (pc := 19) C dX12_mixedInsertionSort_19 rfl rfl rfl ?_
      obtain ⟨r745, e746, e740⟩ := mx_bind e740
      have J747 : ∀ r759 : (Int32 × mxH), r759 = r745 → mG l Z X 8 0 0 46 [some (.ref p0), some (.int (s733.1 + 1)), some (.int p2), none, some (.int r759.1), some (.int v742), none, none] [] r759.2 := by
        intro r759 q762
        subst q762
        refine mG_aload_n (pc := 46) C dX12_mixedInsertionSort_46 rfl ?_
        refine mG_iload (pc := 47) C dX12_mixedInsertionSort_47 rfl ?_
        refine mG_ic (pc := 49) C dX12_mixedInsertionSort_49 kI1 ?_
        refine mG_iadd (pc := 50) C dX12_mixedInsertionSort_50 ?_
        refine mG_iload (pc := 51) C dX12_mixedInsertionSort_51 rfl ?_
        obtain ⟨h760, e761, e740⟩ := mx_bind e740
        refine mG_iastore (pc := 53) C dX12_mixedInsertionSort_53 e761 ?_
        refine mG_goto (tgt := 5) (pc := 54) C dX12_mixedInsertionSort_54 (by decide) ?_
        exact mG_sub (mxLe_s (mxLe_s (mxLe_s (mxLe_n (mxLe_n (mxLe_n (mxLe_n (mxLe_n mxLe_z)))))))) (hK737 _ (Option.some.inj e740).symm)
      refine mG_sub (ls' := [some (.ref p0), some (.int (s733.1 + 1)), some (.int p2), none, some (.int (s733.1 + 1)), some (.int v742), none, none]) (mxLe_s (mxLe_s (mxLe_s (mxLe_n (mxLe_s (mxLe_s (mxLe_n (mxLe_n mxLe_z)))))))) (mxLoop_ind (K := fun s744 : (Int32 × mxH) => mG l Z X 8 0 0 21 [some (.ref p0), some (.int (s733.1 + 1)), some (.int p2), none, some (.int s744.1), some (.int v742), none, none] [] s744.2) ?_ _ _ e746)
      intro s744 o750 e751 hK748 hx749
      refine mG_iload (pc := 21) C dX12_mixedInsertionSort_21 rfl ?_
      refine mG_aload_n (pc := 23) C dX12_mixedInsertionSort_23 rfl ?_
      refine mG_ii (ls' := [some (.ref p0), some (.int (s733.1 + 1)), some (.int p2), none, some (.int (s744.1 - 1)), some (.int v742), none, none]) (pc := 24) C dX12_mixedInsertionSort_24 rfl (kincm1 _) rfl rfl rfl ?_
      refine mG_iload (pc := 27) C dX12_mixedInsertionSort_27 rfl ?_
      obtain ⟨v752, e753, e751⟩ := mx_bind e751
      refine mG_iaload (pc := 29) C dX12_mixedInsertionSort_29 e753 ?_
      refine mG_icmp_ge (pc := 30) (tgt := 46) C dX12_mixedInsertionSort_30 (by decide) (fun q754 => ?_) (fun q754 => ?_)
      · rw [if_pos q754] at e751
        exact mG_sub (mxLe_s (mxLe_s (mxLe_s (mxLe_n (mxLe_s (mxLe_s (mxLe_n (mxLe_n mxLe_z)))))))) (J747 _ (hx749 _ (Option.some.inj e751).symm))
      · rw [if_neg q754] at e751
        refine mG_aload_n (pc := 33) C dX12_mixedInsertionSort_33 rfl ?_
        refine mG_iload (pc := 34) C dX12_mixedInsertionSort_34 rfl ?_
        refine mG_ic (pc := 36) C dX12_mixedInsertionSort_36 kI1 ?_
        refine mG_iadd (pc := 37) C dX12_mixedInsertionSort_37 ?_
        refine mG_aload_n (pc := 38) C dX12_mixedInsertionSort_38 rfl ?_
        refine mG_iload (pc := 39) C dX12_mixedInsertionSort_39 rfl ?_
        obtain ⟨v755, e756, e751⟩ := mx_bind e751
        refine mG_iaload (pc := 41) C dX12_mixedInsertionSort_41 e756 ?_
        obtain ⟨h757, e758, e751⟩ := mx_bind e751
        refine mG_iastore (pc := 42) C dX12_mixedInsertionSort_42 e758 ?_
        refine mG_goto (tgt := 21) (pc := 43) C dX12_mixedInsertionSort_43 (by decide) ?_
        exact mG_sub (mxLe_s (mxLe_s (mxLe_s (mxLe_n (mxLe_s (mxLe_s (mxLe_n (mxLe_n mxLe_z)))))))) (hK748 _ (Option.some.inj e751).symm)
theorem dX12_tryMergeRuns_0 : decode cX12_tryMergeRuns 0 = .ok (.aconst_null, 1) := by decide +kernel
theorem dX12_tryMergeRuns_1 : decode cX12_tryMergeRuns 1 = .ok (.astore 4, 2) := by decide +kernel
theorem dX12_tryMergeRuns_3 : decode cX12_tryMergeRuns 3 = .ok (.iload_n 2, 1) := by decide +kernel
theorem dX12_tryMergeRuns_4 : decode cX12_tryMergeRuns 4 = .ok (.iload_n 3, 1) := by decide +kernel
theorem dX12_tryMergeRuns_5 : decode cX12_tryMergeRuns 5 = .ok (.iadd, 1) := by decide +kernel
theorem dX12_tryMergeRuns_6 : decode cX12_tryMergeRuns 6 = .ok (.istore 5, 2) := by decide +kernel
theorem dX12_tryMergeRuns_8 : decode cX12_tryMergeRuns 8 = .ok (.iconst 1, 1) := by decide +kernel
theorem dX12_tryMergeRuns_9 : decode cX12_tryMergeRuns 9 = .ok (.istore 6, 2) := by decide +kernel
theorem dX12_tryMergeRuns_11 : decode cX12_tryMergeRuns 11 = .ok (.iload_n 2, 1) := by decide +kernel
theorem dX12_tryMergeRuns_12 : decode cX12_tryMergeRuns 12 = .ok (.istore 7, 2) := by decide +kernel
theorem dX12_tryMergeRuns_14 : decode cX12_tryMergeRuns 14 = .ok (.iload_n 2, 1) := by decide +kernel
theorem dX12_tryMergeRuns_15 : decode cX12_tryMergeRuns 15 = .ok (.iconst 1, 1) := by decide +kernel
theorem dX12_tryMergeRuns_16 : decode cX12_tryMergeRuns 16 = .ok (.iadd, 1) := by decide +kernel
theorem dX12_tryMergeRuns_17 : decode cX12_tryMergeRuns 17 = .ok (.istore 8, 2) := by decide +kernel
theorem dX12_tryMergeRuns_19 : decode cX12_tryMergeRuns 19 = .ok (.iload 8, 2) := by decide +kernel
theorem dX12_tryMergeRuns_21 : decode cX12_tryMergeRuns 21 = .ok (.iload 5, 2) := by decide +kernel
theorem dX12_tryMergeRuns_23 : decode cX12_tryMergeRuns 23 = .ok (.if_icmp .ge 299, 3) := by decide +kernel
theorem dX12_tryMergeRuns_26 : decode cX12_tryMergeRuns 26 = .ok (.aload_n 1, 1) := by decide +kernel
theorem dX12_tryMergeRuns_27 : decode cX12_tryMergeRuns 27 = .ok (.iload 8, 2) := by decide +kernel
theorem dX12_tryMergeRuns_29 : decode cX12_tryMergeRuns 29 = .ok (.iconst 1, 1) := by decide +kernel
theorem dX12_tryMergeRuns_30 : decode cX12_tryMergeRuns 30 = .ok (.isub, 1) := by decide +kernel
theorem dX12_tryMergeRuns_31 : decode cX12_tryMergeRuns 31 = .ok (.iaload, 1) := by decide +kernel
theorem dX12_tryMergeRuns_32 : decode cX12_tryMergeRuns 32 = .ok (.aload_n 1, 1) := by decide +kernel
theorem dX12_tryMergeRuns_33 : decode cX12_tryMergeRuns 33 = .ok (.iload 8, 2) := by decide +kernel
theorem dX12_tryMergeRuns_35 : decode cX12_tryMergeRuns 35 = .ok (.iaload, 1) := by decide +kernel
theorem dX12_tryMergeRuns_36 : decode cX12_tryMergeRuns 36 = .ok (.if_icmp .ge 29, 3) := by decide +kernel
theorem dX12_tryMergeRuns_39 : decode cX12_tryMergeRuns 39 = .ok (.iinc 8 1, 3) := by decide +kernel
theorem dX12_tryMergeRuns_42 : decode cX12_tryMergeRuns 42 = .ok (.iload 8, 2) := by decide +kernel
theorem dX12_tryMergeRuns_44 : decode cX12_tryMergeRuns 44 = .ok (.iload 5, 2) := by decide +kernel
theorem dX12_tryMergeRuns_46 : decode cX12_tryMergeRuns 46 = .ok (.if_icmp .ge 156, 3) := by decide +kernel
theorem dX12_tryMergeRuns_49 : decode cX12_tryMergeRuns 49 = .ok (.aload_n 1, 1) := by decide +kernel
theorem dX12_tryMergeRuns_50 : decode cX12_tryMergeRuns 50 = .ok (.iload 8, 2) := by decide +kernel
theorem dX12_tryMergeRuns_52 : decode cX12_tryMergeRuns 52 = .ok (.iconst 1, 1) := by decide +kernel
theorem dX12_tryMergeRuns_53 : decode cX12_tryMergeRuns 53 = .ok (.isub, 1) := by decide +kernel
theorem dX12_tryMergeRuns_54 : decode cX12_tryMergeRuns 54 = .ok (.iaload, 1) := by decide +kernel
theorem dX12_tryMergeRuns_55 : decode cX12_tryMergeRuns 55 = .ok (.aload_n 1, 1) := by decide +kernel
theorem dX12_tryMergeRuns_56 : decode cX12_tryMergeRuns 56 = .ok (.iload 8, 2) := by decide +kernel
theorem dX12_tryMergeRuns_58 : decode cX12_tryMergeRuns 58 = .ok (.iaload, 1) := by decide +kernel
theorem dX12_tryMergeRuns_59 : decode cX12_tryMergeRuns 59 = .ok (.if_icmp .gt 143, 3) := by decide +kernel
theorem dX12_tryMergeRuns_62 : decode cX12_tryMergeRuns 62 = .ok (.goto (-23), 3) := by decide +kernel
theorem dX12_tryMergeRuns_65 : decode cX12_tryMergeRuns 65 = .ok (.aload_n 1, 1) := by decide +kernel
theorem dX12_tryMergeRuns_66 : decode cX12_tryMergeRuns 66 = .ok (.iload 8, 2) := by decide +kernel
theorem dX12_tryMergeRuns_68 : decode cX12_tryMergeRuns 68 = .ok (.iconst 1, 1) := by decide +kernel
theorem dX12_tryMergeRuns_69 : decode cX12_tryMergeRuns 69 = .ok (.isub, 1) := by decide +kernel
theorem dX12_tryMergeRuns_70 : decode cX12_tryMergeRuns 70 = .ok (.iaload, 1) := by decide +kernel
theorem dX12_tryMergeRuns_71 : decode cX12_tryMergeRuns 71 = .ok (.aload_n 1, 1) := by decide +kernel
theorem dX12_tryMergeRuns_72 : decode cX12_tryMergeRuns 72 = .ok (.iload 8, 2) := by decide +kernel
theorem dX12_tryMergeRuns_74 : decode cX12_tryMergeRuns 74 = .ok (.iaload, 1) := by decide +kernel
theorem dX12_tryMergeRuns_75 : decode cX12_tryMergeRuns 75 = .ok (.if_icmp .le 89, 3) := by decide +kernel
theorem dX12_tryMergeRuns_78 : decode cX12_tryMergeRuns 78 = .ok (.iinc 8 1, 3) := by decide +kernel
theorem dX12_tryMergeRuns_81 : decode cX12_tryMergeRuns 81 = .ok (.iload 8, 2) := by decide +kernel
theorem dX12_tryMergeRuns_83 : decode cX12_tryMergeRuns 83 = .ok (.iload 5, 2) := by decide +kernel
theorem dX12_tryMergeRuns_85 : decode cX12_tryMergeRuns 85 = .ok (.if_icmp .ge 19, 3) := by decide +kernel
theorem dX12_tryMergeRuns_88 : decode cX12_tryMergeRuns 88 = .ok (.aload_n 1, 1) := by decide +kernel
theorem dX12_tryMergeRuns_89 : decode cX12_tryMergeRuns 89 = .ok (.iload 8, 2) := by decide +kernel
theorem dX12_tryMergeRuns_91 : decode cX12_tryMergeRuns 91 = .ok (.iconst 1, 1) := by decide +kernel
theorem dX12_tryMergeRuns_92 : decode cX12_tryMergeRuns 92 = .ok (.isub, 1) := by decide +kernel
theorem dX12_tryMergeRuns_93 : decode cX12_tryMergeRuns 93 = .ok (.iaload, 1) := by decide +kernel
theorem dX12_tryMergeRuns_94 : decode cX12_tryMergeRuns 94 = .ok (.aload_n 1, 1) := by decide +kernel
theorem dX12_tryMergeRuns_95 : decode cX12_tryMergeRuns 95 = .ok (.iload 8, 2) := by decide +kernel
theorem dX12_tryMergeRuns_97 : decode cX12_tryMergeRuns 97 = .ok (.iaload, 1) := by decide +kernel
theorem dX12_tryMergeRuns_98 : decode cX12_tryMergeRuns 98 = .ok (.if_icmp .lt 6, 3) := by decide +kernel
theorem dX12_tryMergeRuns_101 : decode cX12_tryMergeRuns 101 = .ok (.goto (-23), 3) := by decide +kernel
theorem dX12_tryMergeRuns_104 : decode cX12_tryMergeRuns 104 = .ok (.iload 7, 2) := by decide +kernel
theorem dX12_tryMergeRuns_106 : decode cX12_tryMergeRuns 106 = .ok (.iconst 1, 1) := by decide +kernel
theorem dX12_tryMergeRuns_107 : decode cX12_tryMergeRuns 107 = .ok (.isub, 1) := by decide +kernel
theorem dX12_tryMergeRuns_108 : decode cX12_tryMergeRuns 108 = .ok (.istore 9, 2) := by decide +kernel
theorem dX12_tryMergeRuns_110 : decode cX12_tryMergeRuns 110 = .ok (.iload 8, 2) := by decide +kernel
theorem dX12_tryMergeRuns_112 : decode cX12_tryMergeRuns 112 = .ok (.istore 10, 2) := by decide +kernel
theorem dX12_tryMergeRuns_114 : decode cX12_tryMergeRuns 114 = .ok (.iinc 9 1, 3) := by decide +kernel
theorem dX12_tryMergeRuns_117 : decode cX12_tryMergeRuns 117 = .ok (.iload 9, 2) := by decide +kernel
theorem dX12_tryMergeRuns_119 : decode cX12_tryMergeRuns 119 = .ok (.iinc 10 (-1), 3) := by decide +kernel
theorem dX12_tryMergeRuns_122 : decode cX12_tryMergeRuns 122 = .ok (.iload 10, 2) := by decide +kernel
theorem dX12_tryMergeRuns_124 : decode cX12_tryMergeRuns 124 = .ok (.if_icmp .ge 37, 3) := by decide +kernel
theorem dX12_tryMergeRuns_127 : decode cX12_tryMergeRuns 127 = .ok (.aload_n 1, 1) := by decide +kernel
theorem dX12_tryMergeRuns_128 : decode cX12_tryMergeRuns 128 = .ok (.iload 9, 2) := by decide +kernel
theorem dX12_tryMergeRuns_130 : decode cX12_tryMergeRuns 130 = .ok (.iaload, 1) := by decide +kernel
theorem dX12_tryMergeRuns_131 : decode cX12_tryMergeRuns 131 = .ok (.aload_n 1, 1) := by decide +kernel
theorem dX12_tryMergeRuns_132 : decode cX12_tryMergeRuns 132 = .ok (.iload 10, 2) := by decide +kernel
theorem dX12_tryMergeRuns_134 : decode cX12_tryMergeRuns 134 = .ok (.iaload, 1) := by decide +kernel
theorem dX12_tryMergeRuns_135 : decode cX12_tryMergeRuns 135 = .ok (.if_icmp .le 26, 3) := by decide +kernel
theorem dX12_tryMergeRuns_138 : decode cX12_tryMergeRuns 138 = .ok (.aload_n 1, 1) := by decide +kernel
theorem dX12_tryMergeRuns_139 : decode cX12_tryMergeRuns 139 = .ok (.iload 9, 2) := by decide +kernel
theorem dX12_tryMergeRuns_141 : decode cX12_tryMergeRuns 141 = .ok (.iaload, 1) := by decide +kernel
theorem dX12_tryMergeRuns_142 : decode cX12_tryMergeRuns 142 = .ok (.istore 11, 2) := by decide +kernel
theorem dX12_tryMergeRuns_144 : decode cX12_tryMergeRuns 144 = .ok (.aload_n 1, 1) := by decide +kernel
theorem dX12_tryMergeRuns_145 : decode cX12_tryMergeRuns 145 = .ok (.iload 9, 2) := by decide +kernel
theorem dX12_tryMergeRuns_147 : decode cX12_tryMergeRuns 147 = .ok (.aload_n 1, 1) := by decide +kernel
theorem dX12_tryMergeRuns_148 : decode cX12_tryMergeRuns 148 = .ok (.iload 10, 2) := by decide +kernel
theorem dX12_tryMergeRuns_150 : decode cX12_tryMergeRuns 150 = .ok (.iaload, 1) := by decide +kernel
theorem dX12_tryMergeRuns_151 : decode cX12_tryMergeRuns 151 = .ok (.iastore, 1) := by decide +kernel
theorem dX12_tryMergeRuns_152 : decode cX12_tryMergeRuns 152 = .ok (.aload_n 1, 1) := by decide +kernel
theorem dX12_tryMergeRuns_153 : decode cX12_tryMergeRuns 153 = .ok (.iload 10, 2) := by decide +kernel
theorem dX12_tryMergeRuns_155 : decode cX12_tryMergeRuns 155 = .ok (.iload 11, 2) := by decide +kernel
theorem dX12_tryMergeRuns_157 : decode cX12_tryMergeRuns 157 = .ok (.iastore, 1) := by decide +kernel
theorem dX12_tryMergeRuns_158 : decode cX12_tryMergeRuns 158 = .ok (.goto (-44), 3) := by decide +kernel
theorem dX12_tryMergeRuns_161 : decode cX12_tryMergeRuns 161 = .ok (.goto 41, 3) := by decide +kernel
theorem dX12_tryMergeRuns_202 : decode cX12_tryMergeRuns 202 = .ok (.aload 4, 2) := by decide +kernel
theorem dX12_tryMergeRuns_204 : decode cX12_tryMergeRuns 204 = .ok (.ifnonnull 46, 3) := by decide +kernel
theorem dX12_tryMergeRuns_207 : decode cX12_tryMergeRuns 207 = .ok (.iload 8, 2) := by decide +kernel
theorem dX12_tryMergeRuns_209 : decode cX12_tryMergeRuns 209 = .ok (.iload 5, 2) := by decide +kernel
theorem dX12_tryMergeRuns_211 : decode cX12_tryMergeRuns 211 = .ok (.if_icmp .ne 5, 3) := by decide +kernel
theorem dX12_tryMergeRuns_214 : decode cX12_tryMergeRuns 214 = .ok (.iconst 1, 1) := by decide +kernel
theorem dX12_tryMergeRuns_215 : decode cX12_tryMergeRuns 215 = .ok (.ireturn, 1) := by decide +kernel
theorem dX12_tryMergeRuns_216 : decode cX12_tryMergeRuns 216 = .ok (.iload 8, 2) := by decide +kernel
theorem dX12_tryMergeRuns_218 : decode cX12_tryMergeRuns 218 = .ok (.iload_n 2, 1) := by decide +kernel
theorem dX12_tryMergeRuns_219 : decode cX12_tryMergeRuns 219 = .ok (.isub, 1) := by decide +kernel
theorem dX12_tryMergeRuns_220 : decode cX12_tryMergeRuns 220 = .ok (.bipush 16, 2) := by decide +kernel
theorem dX12_tryMergeRuns_222 : decode cX12_tryMergeRuns 222 = .ok (.if_icmp .ge 5, 3) := by decide +kernel
theorem dX12_tryMergeRuns_225 : decode cX12_tryMergeRuns 225 = .ok (.iconst 0, 1) := by decide +kernel
theorem dX12_tryMergeRuns_226 : decode cX12_tryMergeRuns 226 = .ok (.ireturn, 1) := by decide +kernel
theorem dX12_tryMergeRuns_227 : decode cX12_tryMergeRuns 227 = .ok (.iload_n 3, 1) := by decide +kernel
theorem dX12_tryMergeRuns_228 : decode cX12_tryMergeRuns 228 = .ok (.bipush 10, 2) := by decide +kernel
theorem dX12_tryMergeRuns_230 : decode cX12_tryMergeRuns 230 = .ok (.ishr, 1) := by decide +kernel
theorem dX12_tryMergeRuns_231 : decode cX12_tryMergeRuns 231 = .ok (.bipush 127, 2) := by decide +kernel
theorem dX12_tryMergeRuns_233 : decode cX12_tryMergeRuns 233 = .ok (.ior, 1) := by decide +kernel
theorem dX12_tryMergeRuns_234 : decode cX12_tryMergeRuns 234 = .ok (.sipush 1023, 3) := by decide +kernel
theorem dX12_tryMergeRuns_237 : decode cX12_tryMergeRuns 237 = .ok (.iand, 1) := by decide +kernel
theorem dX12_tryMergeRuns_238 : decode cX12_tryMergeRuns 238 = .ok (.newarray .int, 2) := by decide +kernel
theorem dX12_tryMergeRuns_240 : decode cX12_tryMergeRuns 240 = .ok (.astore 4, 2) := by decide +kernel
theorem dX12_tryMergeRuns_242 : decode cX12_tryMergeRuns 242 = .ok (.aload 4, 2) := by decide +kernel
theorem dX12_tryMergeRuns_244 : decode cX12_tryMergeRuns 244 = .ok (.iconst 0, 1) := by decide +kernel
theorem dX12_tryMergeRuns_245 : decode cX12_tryMergeRuns 245 = .ok (.iload_n 2, 1) := by decide +kernel
theorem dX12_tryMergeRuns_246 : decode cX12_tryMergeRuns 246 = .ok (.iastore, 1) := by decide +kernel
theorem dX12_tryMergeRuns_247 : decode cX12_tryMergeRuns 247 = .ok (.goto 62, 3) := by decide +kernel
theorem dX12_tryMergeRuns_250 : decode cX12_tryMergeRuns 250 = .ok (.aload_n 1, 1) := by decide +kernel
theorem dX12_tryMergeRuns_251 : decode cX12_tryMergeRuns 251 = .ok (.iload 7, 2) := by decide +kernel
theorem dX12_tryMergeRuns_253 : decode cX12_tryMergeRuns 253 = .ok (.iconst 1, 1) := by decide +kernel
theorem dX12_tryMergeRuns_254 : decode cX12_tryMergeRuns 254 = .ok (.isub, 1) := by decide +kernel
theorem dX12_tryMergeRuns_255 : decode cX12_tryMergeRuns 255 = .ok (.iaload, 1) := by decide +kernel
theorem dX12_tryMergeRuns_256 : decode cX12_tryMergeRuns 256 = .ok (.aload_n 1, 1) := by decide +kernel
theorem dX12_tryMergeRuns_257 : decode cX12_tryMergeRuns 257 = .ok (.iload 7, 2) := by decide +kernel
theorem dX12_tryMergeRuns_259 : decode cX12_tryMergeRuns 259 = .ok (.iaload, 1) := by decide +kernel
theorem dX12_tryMergeRuns_260 : decode cX12_tryMergeRuns 260 = .ok (.if_icmp .le 49, 3) := by decide +kernel
theorem dX12_tryMergeRuns_263 : decode cX12_tryMergeRuns 263 = .ok (.iload 6, 2) := by decide +kernel
theorem dX12_tryMergeRuns_265 : decode cX12_tryMergeRuns 265 = .ok (.iload 8, 2) := by decide +kernel
theorem dX12_tryMergeRuns_267 : decode cX12_tryMergeRuns 267 = .ok (.iload_n 2, 1) := by decide +kernel
theorem dX12_tryMergeRuns_268 : decode cX12_tryMergeRuns 268 = .ok (.isub, 1) := by decide +kernel
theorem dX12_tryMergeRuns_269 : decode cX12_tryMergeRuns 269 = .ok (.bipush 7, 2) := by decide +kernel
theorem dX12_tryMergeRuns_271 : decode cX12_tryMergeRuns 271 = .ok (.ishr, 1) := by decide +kernel
theorem dX12_tryMergeRuns_272 : decode cX12_tryMergeRuns 272 = .ok (.if_icmp .le 5, 3) := by decide +kernel
theorem dX12_tryMergeRuns_275 : decode cX12_tryMergeRuns 275 = .ok (.iconst 0, 1) := by decide +kernel
theorem dX12_tryMergeRuns_276 : decode cX12_tryMergeRuns 276 = .ok (.ireturn, 1) := by decide +kernel
theorem dX12_tryMergeRuns_309 : decode cX12_tryMergeRuns 309 = .ok (.aload 4, 2) := by decide +kernel
theorem dX12_tryMergeRuns_311 : decode cX12_tryMergeRuns 311 = .ok (.iload 6, 2) := by decide +kernel
theorem dX12_tryMergeRuns_313 : decode cX12_tryMergeRuns 313 = .ok (.iload 8, 2) := by decide +kernel
theorem dX12_tryMergeRuns_315 : decode cX12_tryMergeRuns 315 = .ok (.dup, 1) := by decide +kernel
theorem dX12_tryMergeRuns_316 : decode cX12_tryMergeRuns 316 = .ok (.istore 7, 2) := by decide +kernel
theorem dX12_tryMergeRuns_318 : decode cX12_tryMergeRuns 318 = .ok (.iastore, 1) := by decide +kernel
theorem dX12_tryMergeRuns_319 : decode cX12_tryMergeRuns 319 = .ok (.goto (-300), 3) := by decide +kernel
theorem dX12_tryMergeRuns_322 : decode cX12_tryMergeRuns 322 = .ok (.iload 6, 2) := by decide +kernel
theorem dX12_tryMergeRuns_324 : decode cX12_tryMergeRuns 324 = .ok (.iconst 1, 1) := by decide +kernel
theorem dX12_tryMergeRuns_325 : decode cX12_tryMergeRuns 325 = .ok (.if_icmp .le 61, 3) := by decide +kernel
theorem dX12_tryMergeRuns_386 : decode cX12_tryMergeRuns 386 = .ok (.iconst 1, 1) := by decide +kernel
theorem dX12_tryMergeRuns_387 : decode cX12_tryMergeRuns 387 = .ok (.ireturn, 1) := by decide +kernel
def fX12_tryMergeRuns (p1 : Nat) (p2 : Int32) (p3 : Int32) (h : mxH) : Option (Int32 × mxH) := (if (p2 + p3) ≤ (p2 + 1) then (if (1 : Int32) ≤ 1 then Option.bind (mxZ1 1) (fun v3 => some (v3, h)) else none) else Option.bind (ldI h p1 ((p2 + 1) - 1)) (fun v5 => Option.bind (ldI h p1 (p2 + 1)) (fun v7 => (if v7 ≤ v5 then Option.bind (ldI h p1 ((p2 + 1) - 1)) (fun v10 => Option.bind (ldI h p1 (p2 + 1)) (fun v12 => (if v10 ≤ v12 then none else Option.bind (mxLoop (ρ := Int32) (fun s15 : Int32 => (if (p2 + p3) ≤ (s15 + 1) then some (Sum.inr (s15 + 1)) else Option.bind (ldI h p1 ((s15 + 1) - 1)) (fun v24 => Option.bind (ldI h p1 (s15 + 1)) (fun v26 => (if v24 < v26 then some (Sum.inr (s15 + 1)) else some (Sum.inl (s15 + 1))))))) mxF (p2 + 1)) (fun r29 : Int32 => Option.bind (mxLoop (ρ := mxH) (fun s30 : (Int32 × Int32 × mxH) => (if (s30.2.1 - 1) ≤ (s30.1 + 1) then some (Sum.inr s30.2.2) else Option.bind (ldI s30.2.2 p1 (s30.1 + 1)) (fun v39 => Option.bind (ldI s30.2.2 p1 (s30.2.1 - 1)) (fun v41 => (if v39 ≤ v41 then some (Sum.inr s30.2.2) else Option.bind (ldI s30.2.2 p1 (s30.1 + 1)) (fun v44 => Option.bind (ldI s30.2.2 p1 (s30.2.1 - 1)) (fun v46 => Option.bind (stI s30.2.2 p1 (s30.1 + 1) v46) (fun h48 => Option.bind (stI h48 p1 (s30.2.1 - 1) v44) (fun h50 => some (Sum.inl (s30.1 + 1, s30.2.1 - 1, h50))))))))))) mxF (p2 - 1, r29, h)) (fun r52 : mxH => (if r29 = (p2 + p3) then Option.bind (mxZ1 1) (fun v176 => some (v176, r52)) else (if 16 ≤ (r29 - p2) then Option.bind (nwV r52 (((p3 >>> ((10 : Int32) &&& 31)) ||| 127) &&& 1023) 127) (fun h55 => Option.bind (stI h55 r52.2 0 p2) (fun h57 => Option.bind (stI h57 r52.2 1 r29) (fun h59 => Option.bind (mxLoop (ρ := (mxH ⊕ (mxH ⊕ (mxH ⊕ ((Int32 × mxH) ⊕ mxH))))) (fun s61 : (Nat × Int32 × Int32 × mxH) => (if (p2 + p3) ≤ s61.2.2.1 then some (Sum.inr (Sum.inr (Sum.inr (Sum.inr (Sum.inr s61.2.2.2))))) else Option.bind (ldI s61.2.2.2 p1 (s61.2.2.1 - 1)) (fun v74 => Option.bind (ldI s61.2.2.2 p1 s61.2.2.1) (fun v76 => (if v76 ≤ v74 then Option.bind (ldI s61.2.2.2 p1 (s61.2.2.1 - 1)) (fun v79 => Option.bind (ldI s61.2.2.2 p1 s61.2.2.1) (fun v81 => (if v79 ≤ v81 then some (Sum.inr (Sum.inl s61.2.2.2)) else Option.bind (mxLoop (ρ := Int32) (fun s84 : Int32 => (if (p2 + p3) ≤ (s84 + 1) then some (Sum.inr (s84 + 1)) else Option.bind (ldI s61.2.2.2 p1 ((s84 + 1) - 1)) (fun v93 => Option.bind (ldI s61.2.2.2 p1 (s84 + 1)) (fun v95 => (if v93 < v95 then some (Sum.inr (s84 + 1)) else some (Sum.inl (s84 + 1))))))) mxF s61.2.2.1) (fun r98 : Int32 => Option.bind (mxLoop (ρ := mxH) (fun s99 : (Int32 × Int32 × mxH) => (if (s99.2.1 - 1) ≤ (s99.1 + 1) then some (Sum.inr s99.2.2) else Option.bind (ldI s99.2.2 p1 (s99.1 + 1)) (fun v108 => Option.bind (ldI s99.2.2 p1 (s99.2.1 - 1)) (fun v110 => (if v108 ≤ v110 then some (Sum.inr s99.2.2) else Option.bind (ldI s99.2.2 p1 (s99.1 + 1)) (fun v113 => Option.bind (ldI s99.2.2 p1 (s99.2.1 - 1)) (fun v115 => Option.bind (stI s99.2.2 p1 (s99.1 + 1) v115) (fun h117 => Option.bind (stI h117 p1 (s99.2.1 - 1) v113) (fun h119 => some (Sum.inl (s99.1 + 1, s99.2.1 - 1, h119))))))))))) mxF (s61.2.1 - 1, r98, s61.2.2.2)) (fun r121 : mxH => Option.bind (ldI r121 p1 (s61.2.1 - 1)) (fun v122 => Option.bind (ldI r121 p1 s61.2.1) (fun v124 => (if v122 ≤ v124 then Option.bind (stI r121 s61.1 1 r98) (fun h127 => some (Sum.inl (s61.1, r98, r98, h127))) else some (Sum.inr (Sum.inr (Sum.inr (Sum.inr (Sum.inl (r98, r121)))))))))))))) else Option.bind (mxLoop (ρ := Int32) (fun s131 : Int32 => (if (p2 + p3) ≤ (s131 + 1) then some (Sum.inr (s131 + 1)) else Option.bind (ldI s61.2.2.2 p1 ((s131 + 1) - 1)) (fun v140 => Option.bind (ldI s61.2.2.2 p1 (s131 + 1)) (fun v142 => (if v142 < v140 then some (Sum.inr (s131 + 1)) else some (Sum.inl (s131 + 1))))))) mxF s61.2.2.1) (fun r145 : Int32 => Option.bind (ldI s61.2.2.2 p1 (s61.2.1 - 1)) (fun v146 => Option.bind (ldI s61.2.2.2 p1 s61.2.1) (fun v148 => (if v146 ≤ v148 then Option.bind (stI s61.2.2.2 s61.1 1 r145) (fun h151 => some (Sum.inl (s61.1, r145, r145, h151))) else some (Sum.inr (Sum.inr (Sum.inr (Sum.inr (Sum.inl (r145, s61.2.2.2))))))))))))))) mxF (r52.2, r29, r29, h59)) (Sum.elim (fun r154 : mxH => none) (Sum.elim (fun r156 : mxH => Option.bind (mxZ1 1) (fun v157 => some (v157, r156))) (Sum.elim (fun r160 : mxH => Option.bind (mxZ1 0) (fun v161 => some (v161, r160))) (Sum.elim (fun r164 : (Int32 × mxH) => (if (1 : Int32) ≤ ((r164.1 - p2) >>> ((7 : Int32) &&& 31)) then none else Option.bind (mxZ1 0) (fun v166 => some (v166, r164.2)))) (fun r169 : mxH => (if (1 : Int32) ≤ 1 then Option.bind (mxZ1 1) (fun v171 => some (v171, r169)) else none))))))))) else Option.bind (mxZ1 0) (fun v174 => some (v174, r52))))))))) else Option.bind (mxLoop (ρ := Int32) (fun s180 : Int32 => (if (p2 + p3) ≤ (s180 + 1) then some (Sum.inr (s180 + 1)) else Option.bind (ldI h p1 ((s180 + 1) - 1)) (fun v189 => Option.bind (ldI h p1 (s180 + 1)) (fun v191 => (if v191 < v189 then some (Sum.inr (s180 + 1)) else some (Sum.inl (s180 + 1))))))) mxF (p2 + 1)) (fun r194 : Int32 => (if r194 = (p2 + p3) then Option.bind (mxZ1 1) (fun v318 => some (v318, h)) else (if 16 ≤ (r194 - p2) then Option.bind (nwV h (((p3 >>> ((10 : Int32) &&& 31)) ||| 127) &&& 1023) 127) (fun h197 => Option.bind (stI h197 h.2 0 p2) (fun h199 => Option.bind (stI h199 h.2 1 r194) (fun h201 => Option.bind (mxLoop (ρ := (mxH ⊕ (mxH ⊕ (mxH ⊕ ((Int32 × mxH) ⊕ mxH))))) (fun s203 : (Nat × Int32 × Int32 × mxH) => (if (p2 + p3) ≤ s203.2.2.1 then some (Sum.inr (Sum.inr (Sum.inr (Sum.inr (Sum.inr s203.2.2.2))))) else Option.bind (ldI s203.2.2.2 p1 (s203.2.2.1 - 1)) (fun v216 => Option.bind (ldI s203.2.2.2 p1 s203.2.2.1) (fun v218 => (if v218 ≤ v216 then Option.bind (ldI s203.2.2.2 p1 (s203.2.2.1 - 1)) (fun v221 => Option.bind (ldI s203.2.2.2 p1 s203.2.2.1) (fun v223 => (if v221 ≤ v223 then some (Sum.inr (Sum.inl s203.2.2.2)) else Option.bind (mxLoop (ρ := Int32) (fun s226 : Int32 => (if (p2 + p3) ≤ (s226 + 1) then some (Sum.inr (s226 + 1)) else Option.bind (ldI s203.2.2.2 p1 ((s226 + 1) - 1)) (fun v235 => Option.bind (ldI s203.2.2.2 p1 (s226 + 1)) (fun v237 => (if v235 < v237 then some (Sum.inr (s226 + 1)) else some (Sum.inl (s226 + 1))))))) mxF s203.2.2.1) (fun r240 : Int32 => Option.bind (mxLoop (ρ := mxH) (fun s241 : (Int32 × Int32 × mxH) => (if (s241.2.1 - 1) ≤ (s241.1 + 1) then some (Sum.inr s241.2.2) else Option.bind (ldI s241.2.2 p1 (s241.1 + 1)) (fun v250 => Option.bind (ldI s241.2.2 p1 (s241.2.1 - 1)) (fun v252 => (if v250 ≤ v252 then some (Sum.inr s241.2.2) else Option.bind (ldI s241.2.2 p1 (s241.1 + 1)) (fun v255 => Option.bind (ldI s241.2.2 p1 (s241.2.1 - 1)) (fun v257 => Option.bind (stI s241.2.2 p1 (s241.1 + 1) v257) (fun h259 => Option.bind (stI h259 p1 (s241.2.1 - 1) v255) (fun h261 => some (Sum.inl (s241.1 + 1, s241.2.1 - 1, h261))))))))))) mxF (s203.2.1 - 1, r240, s203.2.2.2)) (fun r263 : mxH => Option.bind (ldI r263 p1 (s203.2.1 - 1)) (fun v264 => Option.bind (ldI r263 p1 s203.2.1) (fun v266 => (if v264 ≤ v266 then Option.bind (stI r263 s203.1 1 r240) (fun h269 => some (Sum.inl (s203.1, r240, r240, h269))) else some (Sum.inr (Sum.inr (Sum.inr (Sum.inr (Sum.inl (r240, r263)))))))))))))) else Option.bind (mxLoop (ρ := Int32) (fun s273 : Int32 => (if (p2 + p3) ≤ (s273 + 1) then some (Sum.inr (s273 + 1)) else Option.bind (ldI s203.2.2.2 p1 ((s273 + 1) - 1)) (fun v282 => Option.bind (ldI s203.2.2.2 p1 (s273 + 1)) (fun v284 => (if v284 < v282 then some (Sum.inr (s273 + 1)) else some (Sum.inl (s273 + 1))))))) mxF s203.2.2.1) (fun r287 : Int32 => Option.bind (ldI s203.2.2.2 p1 (s203.2.1 - 1)) (fun v288 => Option.bind (ldI s203.2.2.2 p1 s203.2.1) (fun v290 => (if v288 ≤ v290 then Option.bind (stI s203.2.2.2 s203.1 1 r287) (fun h293 => some (Sum.inl (s203.1, r287, r287, h293))) else some (Sum.inr (Sum.inr (Sum.inr (Sum.inr (Sum.inl (r287, s203.2.2.2))))))))))))))) mxF (h.2, r194, r194, h201)) (Sum.elim (fun r296 : mxH => none) (Sum.elim (fun r298 : mxH => Option.bind (mxZ1 1) (fun v299 => some (v299, r298))) (Sum.elim (fun r302 : mxH => Option.bind (mxZ1 0) (fun v303 => some (v303, r302))) (Sum.elim (fun r306 : (Int32 × mxH) => (if (1 : Int32) ≤ ((r306.1 - p2) >>> ((7 : Int32) &&& 31)) then none else Option.bind (mxZ1 0) (fun v308 => some (v308, r306.2)))) (fun r311 : mxH => (if (1 : Int32) ≤ 1 then Option.bind (mxZ1 1) (fun v313 => some (v313, r311)) else none))))))))) else Option.bind (mxZ1 0) (fun v316 => some (v316, h)))))))))
abbrev rmX12_tryMergeRuns : Room := { frames := 0, cells := 1, slots := 127, locals := 0 }
set_option maxRecDepth 20000 in
set_option maxHeartbeats 1000000 in
theorem tX12_tryMergeRuns {l : Launch} {Z : mxZ} (hl : l.stackTraces = false) {p1 : Nat} {p2 : Int32} {p3 : Int32} {h : mxH} {out : (Int32 × mxH)} (hf : fX12_tryMergeRuns p1 p2 p3 h = some out) : mxMet l Z yX12_tryMergeRuns cX12_tryMergeRuns 12 (some .boolean) rmX12_tryMergeRuns [.null, .ref p1, .int p2, .int p3] h (.inl (some (.int out.1))) out.2 := by
  refine mxMet_of (by decide) hl (by simp [Value.category]) (Nat.le_of_ble_eq_true rfl) ?_
  intro X C E hX hin
  unfold fX12_tryMergeRuns at hf
  refine mG_null (pc := 0) C dX12_tryMergeRuns_0 ?_
  refine mG_asN (ls' := [some (.null), some (.ref p1), some (.int p2), some (.int p3), some (.null), none, none, none, none, none, none, none]) (pc := 1) C dX12_tryMergeRuns_1 rfl rfl rfl ?_
  refine mG_iload_n (pc := 3) C dX12_tryMergeRuns_3 rfl ?_
  refine mG_iload_n (pc := 4) C dX12_tryMergeRuns_4 rfl ?_
  refine mG_iadd (pc := 5) C dX12_tryMergeRuns_5 ?_
  refine mG_is (ls' := [some (.null), some (.ref p1), some (.int p2), some (.int p3), some (.null), some (.int (p2 + p3)), none, none, none, none, none, none]) (pc := 6) C dX12_tryMergeRuns_6 rfl rfl rfl ?_
  refine mG_ic (pc := 8) C dX12_tryMergeRuns_8 kI1 ?_
  refine mG_is (ls' := [some (.null), some (.ref p1), some (.int p2), some (.int p3), some (.null), some (.int (p2 + p3)), some (.int 1), none, none, none, none, none]) (pc := 9) C dX12_tryMergeRuns_9 rfl rfl rfl ?_
  refine mG_iload_n (pc := 11) C dX12_tryMergeRuns_11 rfl ?_
  refine mG_is (ls' := [some (.null), some (.ref p1), some (.int p2), some (.int p3), some (.null), some (.int (p2 + p3)), some (.int 1), some (.int p2), none, none, none, none]) (pc := 12) C dX12_tryMergeRuns_12 rfl rfl rfl ?_
  refine mG_iload_n (pc := 14) C dX12_tryMergeRuns_14 rfl ?_
  refine mG_ic (pc := 15) C dX12_tryMergeRuns_15 kI1 ?_
  refine mG_iadd (pc := 16) C dX12_tryMergeRuns_16 ?_
  refine mG_is (ls' := [some (.null), some (.ref p1), some (.int p2), some (.int p3), some (.null), some (.int (p2 + p3)), some (.int 1), some (.int p2), some (.int (p2 + 1)), none, none, none]) (pc := 17) C dX12_tryMergeRuns_17 rfl rfl rfl ?_
  refine mG_iload (pc := 19) C dX12_tryMergeRuns_19 rfl ?_
  refine mG_iload (pc := 21) C dX12_tryMergeRuns_21 rfl ?_
  refine mG_icmp_ge (pc := 23) (tgt := 322) C dX12_tryMergeRuns_23 (by decide) (fun q1 => ?_) (fun q1 => ?_)
  · rw [if_pos q1] at hf
    refine mG_iload (pc := 322) C dX12_tryMergeRuns_322 rfl ?_
    refine mG_ic (pc := 324) C dX12_tryMergeRuns_324 kI1 ?_
    refine mG_icmp_le (pc := 325) (tgt := 386) C dX12_tryMergeRuns_325 (by decide) (fun q2 => ?_) (fun q2 => ?_)
    · rw [if_pos q2] at hf
      refine mG_ic (pc := 386) C dX12_tryMergeRuns_386 kI1 ?_
      obtain ⟨v3, e4, hf⟩ := mx_bind hf
      cases hf
      exact mG_zr2 (pc := 387) C e4 E hX dX12_tryMergeRuns_387 ⟨Nat.le_of_ble_eq_true rfl, Nat.le_of_ble_eq_true rfl⟩
    · rw [if_neg q2] at hf
      cases hf
  · rw [if_neg q1] at hf
    refine mG_aload_n (pc := 26) C dX12_tryMergeRuns_26 rfl ?_
    refine mG_iload (pc := 27) C dX12_tryMergeRuns_27 rfl ?_
    refine mG_ic (pc := 29) C dX12_tryMergeRuns_29 kI1 ?_
    refine mG_isub (pc := 30) C dX12_tryMergeRuns_30 ?_
    obtain ⟨v5, e6, hf⟩ := mx_bind hf
    refine mG_iaload (pc := 31) C dX12_tryMergeRuns_31 e6 ?_
    refine mG_aload_n (pc := 32) C dX12_tryMergeRuns_32 rfl ?_
    refine mG_iload (pc := 33) C dX12_tryMergeRuns_33 rfl ?_
    obtain ⟨v7, e8, hf⟩ := mx_bind hf
    refine mG_iaload (pc := 35) C dX12_tryMergeRuns_35 e8 ?_
    refine mG_icmp_ge (pc := 36) (tgt := 65) C dX12_tryMergeRuns_36 (by decide) (fun q9 => ?_) (fun q9 => ?_)
    · rw [if_pos q9] at hf
      refine mG_aload_n (pc := 65) C dX12_tryMergeRuns_65 rfl ?_
      refine mG_iload (pc := 66) C dX12_tryMergeRuns_66 rfl ?_
      refine mG_ic (pc := 68) C dX12_tryMergeRuns_68 kI1 ?_
      refine mG_isub (pc := 69) C dX12_tryMergeRuns_69 ?_
      obtain ⟨v10, e11, hf⟩ := mx_bind hf
      refine mG_iaload (pc := 70) C dX12_tryMergeRuns_70 e11 ?_
      refine mG_aload_n (pc := 71) C dX12_tryMergeRuns_71 rfl ?_
      refine mG_iload (pc := 72) C dX12_tryMergeRuns_72 rfl ?_
      obtain ⟨v12, e13, hf⟩ := mx_bind hf
      refine mG_iaload (pc := 74) C dX12_tryMergeRuns_74 e13 ?_
      refine mG_icmp_le (pc := 75) (tgt := 164) C dX12_tryMergeRuns_75 (by decide) (fun q14 => ?_) (fun q14 => ?_)
      · rw [if_pos q14] at hf
        cases hf
      · rw [if_neg q14] at hf
        obtain ⟨r16, e17, hf⟩ := mx_bind hf
        have J18 : ∀ r29 : Int32, r29 = r16 → mG l Z X 12 0 0 104 [none, some (.ref p1), some (.int p2), some (.int p3), some (.null), some (.int (p2 + p3)), some (.int 1), some (.int p2), some (.int r29), none, none, none] [] h := by
          intro r29 q179
          subst q179
          refine mG_iload (pc := 104) C dX12_tryMergeRuns_104 rfl ?_
          refine mG_ic (pc := 106) C dX12_tryMergeRuns_106 kI1 ?_
          refine mG_isub (pc := 107) C dX12_tryMergeRuns_107 ?_
          refine mG_is (ls' := [none, some (.ref p1), some (.int p2), some (.int p3), some (.null), some (.int (p2 + p3)), some (.int 1), some (.int p2), some (.int r29), some (.int (p2 - 1)), none, none]) (pc := 108) C dX12_tryMergeRuns_108 rfl rfl rfl ?_
          refine mG_iload (pc := 110) C dX12_tryMergeRuns_110 rfl ?_
          refine mG_is (ls' := [none, some (.ref p1), some (.int p2), some (.int p3), some (.null), some (.int (p2 + p3)), some (.int 1), some (.int p2), some (.int r29), some (.int (p2 - 1)), some (.int r29), none]) (pc := 112) C dX12_tryMergeRuns_112 rfl rfl rfl ?_
          obtain ⟨r31, e32, hf⟩ := mx_bind hf
          have J33 : ∀ r52 : mxH, r52 = r31 → mG l Z X 12 0 0 161 [none, some (.ref p1), some (.int p2), some (.int p3), some (.null), some (.int (p2 + p3)), some (.int 1), some (.int p2), some (.int r29), none, none, none] [] r52 := by
            intro r52 q178
            subst q178
            refine mG_goto (tgt := 202) (pc := 161) C dX12_tryMergeRuns_161 (by decide) ?_
            refine mG_aloadN (pc := 202) C dX12_tryMergeRuns_202 rfl ?_
            refine mG_ifnonnullN (pc := 204) C dX12_tryMergeRuns_204 ?_
            refine mG_iload (pc := 207) C dX12_tryMergeRuns_207 rfl ?_
            refine mG_iload (pc := 209) C dX12_tryMergeRuns_209 rfl ?_
            refine mG_icmp_ne (pc := 211) (tgt := 216) C dX12_tryMergeRuns_211 (by decide) (fun q53 => ?_) (fun q53 => ?_)
            · rw [if_neg q53] at hf
              refine mG_iload (pc := 216) C dX12_tryMergeRuns_216 rfl ?_
              refine mG_iload_n (pc := 218) C dX12_tryMergeRuns_218 rfl ?_
              refine mG_isub (pc := 219) C dX12_tryMergeRuns_219 ?_
              refine mG_bp (pc := 220) C dX12_tryMergeRuns_220 kB16 ?_
              refine mG_icmp_ge (pc := 222) (tgt := 227) C dX12_tryMergeRuns_222 (by decide) (fun q54 => ?_) (fun q54 => ?_)
              · rw [if_pos q54] at hf
                refine mG_iload_n (pc := 227) C dX12_tryMergeRuns_227 rfl ?_
                refine mG_bp (pc := 228) C dX12_tryMergeRuns_228 kB10 ?_
                refine mG_ishr (pc := 230) C dX12_tryMergeRuns_230 ?_
                refine mG_bp (pc := 231) C dX12_tryMergeRuns_231 kB127 ?_
                refine mG_ior (pc := 233) C dX12_tryMergeRuns_233 ?_
                refine mG_sp (pc := 234) C dX12_tryMergeRuns_234 kS1023 ?_
                refine mG_iand (pc := 237) C dX12_tryMergeRuns_237 ?_
                obtain ⟨h55, e56, hf⟩ := mx_bind hf
                refine mG_nwV (B := 127) (pc := 238) (k' := 1) (n' := 127) C hX dX12_tryMergeRuns_238 w272 rfl e56 rfl rfl ⟨Nat.le_of_ble_eq_true rfl, Nat.le_of_ble_eq_true rfl⟩ ?_
                refine mG_as (ls' := [none, some (.ref p1), some (.int p2), some (.int p3), some (.ref r52.2), some (.int (p2 + p3)), some (.int 1), some (.int p2), some (.int r29), none, none, none]) (pc := 240) C dX12_tryMergeRuns_240 rfl rfl rfl ?_
                refine mG_aload (pc := 242) C dX12_tryMergeRuns_242 rfl ?_
                refine mG_ic (pc := 244) C dX12_tryMergeRuns_244 kI0 ?_
                refine mG_iload_n (pc := 245) C dX12_tryMergeRuns_245 rfl ?_
                obtain ⟨h57, e58, hf⟩ := mx_bind hf
                refine mG_iastore (pc := 246) C dX12_tryMergeRuns_246 e58 ?_
                refine mG_goto (tgt := 309) (pc := 247) C dX12_tryMergeRuns_247 (by decide) ?_
                refine mG_aload (pc := 309) C dX12_tryMergeRuns_309 rfl ?_
                refine mG_iload (pc := 311) C dX12_tryMergeRuns_311 rfl ?_
                refine mG_iload (pc := 313) C dX12_tryMergeRuns_313 rfl ?_
                refine mG_dup (pc := 315) C dX12_tryMergeRuns_315 rfl ?_
                refine mG_is (ls' := [none, some (.ref p1), some (.int p2), some (.int p3), some (.ref r52.2), some (.int (p2 + p3)), some (.int 1), some (.int r29), some (.int r29), none, none, none]) (pc := 316) C dX12_tryMergeRuns_316 rfl rfl rfl ?_
                obtain ⟨h59, e60, hf⟩ := mx_bind hf
                refine mG_iastore (pc := 318) C dX12_tryMergeRuns_318 e60 ?_
                refine mG_goto (tgt := 19) (pc := 319) C dX12_tryMergeRuns_319 (by decide) ?_
                obtain ⟨r62, e63, hf⟩ := mx_bind hf
                have J64 : ∀ r154 : mxH, Sum.inl r154 = r62 → mG l Z X 12 1 127 164 [none, some (.ref p1), none, none, none, none, none, none, none, none, none, none] [] r154 := by
                  intro r154 q155
                  subst q155
                  rw [Sum.elim_inl] at hf
                  cases hf
                have J65 : ∀ r156 : mxH, Sum.inr (Sum.inl r156) = r62 → mG l Z X 12 1 127 214 [none, none, none, none, none, none, none, none, none, none, none, none] [] r156 := by
                  intro r156 q159
                  subst q159
                  rw [Sum.elim_inr, Sum.elim_inl] at hf
                  refine mG_ic (pc := 214) C dX12_tryMergeRuns_214 kI1 ?_
                  obtain ⟨v157, e158, hf⟩ := mx_bind hf
                  cases hf
                  exact mG_zr2 (pc := 215) C e158 E hX dX12_tryMergeRuns_215 ⟨Nat.le_of_ble_eq_true rfl, Nat.le_of_ble_eq_true rfl⟩
                have J66 : ∀ r160 : mxH, Sum.inr (Sum.inr (Sum.inl r160)) = r62 → mG l Z X 12 1 127 225 [none, none, none, none, none, none, none, none, none, none, none, none] [] r160 := by
                  intro r160 q163
                  subst q163
                  rw [Sum.elim_inr, Sum.elim_inr, Sum.elim_inl] at hf
                  refine mG_ic (pc := 225) C dX12_tryMergeRuns_225 kI0 ?_
                  obtain ⟨v161, e162, hf⟩ := mx_bind hf
                  cases hf
                  exact mG_zr2 (pc := 226) C e162 E hX dX12_tryMergeRuns_226 ⟨Nat.le_of_ble_eq_true rfl, Nat.le_of_ble_eq_true rfl⟩
                have J67 : ∀ r164 : (Int32 × mxH), Sum.inr (Sum.inr (Sum.inr (Sum.inl r164))) = r62 → mG l Z X 12 1 127 263 [none, none, some (.int p2), none, none, none, some (.int 1), none, some (.int r164.1), none, none, none] [] r164.2 := by
                  intro r164 q168
                  subst q168
                  rw [Sum.elim_inr, Sum.elim_inr, Sum.elim_inr, Sum.elim_inl] at hf
                  refine mG_iload (pc := 263) C dX12_tryMergeRuns_263 rfl ?_
                  refine mG_iload (pc := 265) C dX12_tryMergeRuns_265 rfl ?_
                  refine mG_iload_n (pc := 267) C dX12_tryMergeRuns_267 rfl ?_
                  refine mG_isub (pc := 268) C dX12_tryMergeRuns_268 ?_
                  refine mG_bp (pc := 269) C dX12_tryMergeRuns_269 kB7 ?_
                  refine mG_ishr (pc := 271) C dX12_tryMergeRuns_271 ?_
                  refine mG_icmp_le (pc := 272) (tgt := 277) C dX12_tryMergeRuns_272 (by decide) (fun q165 => ?_) (fun q165 => ?_)
                  · rw [if_pos q165] at hf
                    cases hf
                  · rw [if_neg q165] at hf
                    refine mG_ic (pc := 275) C dX12_tryMergeRuns_275 kI0 ?_
                    obtain ⟨v166, e167, hf⟩ := mx_bind hf
                    cases hf
                    exact mG_zr2 (pc := 276) C e167 E hX dX12_tryMergeRuns_276 ⟨Nat.le_of_ble_eq_true rfl, Nat.le_of_ble_eq_true rfl⟩
                have J68 : ∀ r169 : mxH, Sum.inr (Sum.inr (Sum.inr (Sum.inr r169))) = r62 → mG l Z X 12 1 127 322 [none, none, some (.int p2), none, none, none, some (.int 1), none, none, none, none, none] [] r169 := by
                  intro r169 q173
                  subst q173
                  rw [Sum.elim_inr, Sum.elim_inr, Sum.elim_inr, Sum.elim_inr] at hf
                  refine mG_iload (pc := 322) C dX12_tryMergeRuns_322 rfl ?_
                  refine mG_ic (pc := 324) C dX12_tryMergeRuns_324 kI1 ?_
                  refine mG_icmp_le (pc := 325) (tgt := 386) C dX12_tryMergeRuns_325 (by decide) (fun q170 => ?_) (fun q170 => ?_)
                  · rw [if_pos q170] at hf
                    refine mG_ic (pc := 386) C dX12_tryMergeRuns_386 kI1 ?_
                    obtain ⟨v171, e172, hf⟩ := mx_bind hf
                    cases hf
                    exact mG_zr2 (pc := 387) C e172 E hX dX12_tryMergeRuns_387 ⟨Nat.le_of_ble_eq_true rfl, Nat.le_of_ble_eq_true rfl⟩
                  · rw [if_neg q170] at hf
                    cases hf
                refine mG_sub (ls' := [none, some (.ref p1), some (.int p2), some (.int p3), some (.ref r52.2), some (.int (p2 + p3)), some (.int 1), some (.int r29), some (.int r29), none, none, none]) (mxLe_n (mxLe_s (mxLe_s (mxLe_s (mxLe_s (mxLe_s (mxLe_s (mxLe_s (mxLe_s (mxLe_n (mxLe_n (mxLe_n mxLe_z)))))))))))) (mxLoop_ind (K := fun s61 : (Nat × Int32 × Int32 × mxH) => mG l Z X 12 1 127 19 [none, some (.ref p1), some (.int p2), some (.int p3), some (.ref s61.1), some (.int (p2 + p3)), some (.int 1), some (.int s61.2.1), some (.int s61.2.2.1), none, none, none] [] s61.2.2.2) ?_ _ _ e63)
                intro s61 o71 e72 hK69 hx70
                refine mG_iload (pc := 19) C dX12_tryMergeRuns_19 rfl ?_
                refine mG_iload (pc := 21) C dX12_tryMergeRuns_21 rfl ?_
                refine mG_icmp_ge (pc := 23) (tgt := 322) C dX12_tryMergeRuns_23 (by decide) (fun q73 => ?_) (fun q73 => ?_)
                · rw [if_pos q73] at e72
                  exact mG_sub (mxLe_n (mxLe_n (mxLe_s (mxLe_n (mxLe_n (mxLe_n (mxLe_s (mxLe_n (mxLe_n (mxLe_n (mxLe_n (mxLe_n mxLe_z)))))))))))) (J68 _ (hx70 _ (Option.some.inj e72).symm))
                · rw [if_neg q73] at e72
                  refine mG_aload_n (pc := 26) C dX12_tryMergeRuns_26 rfl ?_
                  refine mG_iload (pc := 27) C dX12_tryMergeRuns_27 rfl ?_
                  refine mG_ic (pc := 29) C dX12_tryMergeRuns_29 kI1 ?_
                  refine mG_isub (pc := 30) C dX12_tryMergeRuns_30 ?_
                  obtain ⟨v74, e75, e72⟩ := mx_bind e72
                  refine mG_iaload (pc := 31) C dX12_tryMergeRuns_31 e75 ?_
                  refine mG_aload_n (pc := 32) C dX12_tryMergeRuns_32 rfl ?_
                  refine mG_iload (pc := 33) C dX12_tryMergeRuns_33 rfl ?_
                  obtain ⟨v76, e77, e72⟩ := mx_bind e72
                  refine mG_iaload (pc := 35) C dX12_tryMergeRuns_35 e77 ?_
                  refine mG_icmp_ge (pc := 36) (tgt := 65) C dX12_tryMergeRuns_36 (by decide) (fun q78 => ?_) (fun q78 => ?_)
                  · rw [if_pos q78] at e72
                    refine mG_aload_n (pc := 65) C dX12_tryMergeRuns_65 rfl ?_
                    refine mG_iload (pc := 66) C dX12_tryMergeRuns_66 rfl ?_
                    refine mG_ic (pc := 68) C dX12_tryMergeRuns_68 kI1 ?_
                    refine mG_isub (pc := 69) C dX12_tryMergeRuns_69 ?_
                    obtain ⟨v79, e80, e72⟩ := mx_bind e72
                    refine mG_iaload (pc := 70) C dX12_tryMergeRuns_70 e80 ?_
                    refine mG_aload_n (pc := 71) C dX12_tryMergeRuns_71 rfl ?_
                    refine mG_iload (pc := 72) C dX12_tryMergeRuns_72 rfl ?_
                    obtain ⟨v81, e82, e72⟩ := mx_bind e72
                    refine mG_iaload (pc := 74) C dX12_tryMergeRuns_74 e82 ?_
                    refine mG_icmp_le (pc := 75) (tgt := 164) C dX12_tryMergeRuns_75 (by decide) (fun q83 => ?_) (fun q83 => ?_)
                    · rw [if_pos q83] at e72
                      exact mG_sub (mxLe_n (mxLe_s (mxLe_n (mxLe_n (mxLe_n (mxLe_n (mxLe_n (mxLe_n (mxLe_n (mxLe_n (mxLe_n (mxLe_n mxLe_z)))))))))))) (J64 _ (hx70 _ (Option.some.inj e72).symm))
                    · rw [if_neg q83] at e72
                      obtain ⟨r85, e86, e72⟩ := mx_bind e72
                      have J87 : ∀ r98 : Int32, r98 = r85 → mG l Z X 12 1 127 104 [none, some (.ref p1), some (.int p2), some (.int p3), some (.ref s61.1), some (.int (p2 + p3)), some (.int 1), some (.int s61.2.1), some (.int r98), none, none, none] [] s61.2.2.2 := by
                        intro r98 q130
                        subst q130
                        refine mG_iload (pc := 104) C dX12_tryMergeRuns_104 rfl ?_
                        refine mG_ic (pc := 106) C dX12_tryMergeRuns_106 kI1 ?_
                        refine mG_isub (pc := 107) C dX12_tryMergeRuns_107 ?_
                        refine mG_is (ls' := [none, some (.ref p1), some (.int p2), some (.int p3), some (.ref s61.1), some (.int (p2 + p3)), some (.int 1), some (.int s61.2.1), some (.int r98), some (.int (s61.2.1 - 1)), none, none]) (pc := 108) C dX12_tryMergeRuns_108 rfl rfl rfl ?_
                        refine mG_iload (pc := 110) C dX12_tryMergeRuns_110 rfl ?_
                        refine mG_is (ls' := [none, some (.ref p1), some (.int p2), some (.int p3), some (.ref s61.1), some (.int (p2 + p3)), some (.int 1), some (.int s61.2.1), some (.int r98), some (.int (s61.2.1 - 1)), some (.int r98), none]) (pc := 112) C dX12_tryMergeRuns_112 rfl rfl rfl ?_
                        obtain ⟨r100, e101, e72⟩ := mx_bind e72
                        have J102 : ∀ r121 : mxH, r121 = r100 → mG l Z X 12 1 127 161 [none, some (.ref p1), some (.int p2), some (.int p3), some (.ref s61.1), some (.int (p2 + p3)), some (.int 1), some (.int s61.2.1), some (.int r98), none, none, none] [] r121 := by
                          intro r121 q129
                          subst q129
                          refine mG_goto (tgt := 202) (pc := 161) C dX12_tryMergeRuns_161 (by decide) ?_
                          refine mG_aload (pc := 202) C dX12_tryMergeRuns_202 rfl ?_
                          refine mG_ifnonnull (tgt := 250) (pc := 204) C dX12_tryMergeRuns_204 (by decide) ?_
                          refine mG_aload_n (pc := 250) C dX12_tryMergeRuns_250 rfl ?_
                          refine mG_iload (pc := 251) C dX12_tryMergeRuns_251 rfl ?_
                          refine mG_ic (pc := 253) C dX12_tryMergeRuns_253 kI1 ?_
                          refine mG_isub (pc := 254) C dX12_tryMergeRuns_254 ?_
                          obtain ⟨v122, e123, e72⟩ := mx_bind e72
                          refine mG_iaload (pc := 255) C dX12_tryMergeRuns_255 e123 ?_
                          refine mG_aload_n (pc := 256) C dX12_tryMergeRuns_256 rfl ?_
                          refine mG_iload (pc := 257) C dX12_tryMergeRuns_257 rfl ?_
                          obtain ⟨v124, e125, e72⟩ := mx_bind e72
                          refine mG_iaload (pc := 259) C dX12_tryMergeRuns_259 e125 ?_
                          refine mG_icmp_le (pc := 260) (tgt := 309) C dX12_tryMergeRuns_260 (by decide) (fun q126 => ?_) (fun q126 => ?_)
                          · rw [if_pos q126] at e72
                            refine mG_aload (pc := 309) C dX12_tryMergeRuns_309 rfl ?_
                            refine mG_iload (pc := 311) C dX12_tryMergeRuns_311 rfl ?_
                            refine mG_iload (pc := 313) C dX12_tryMergeRuns_313 rfl ?_
                            refine mG_dup (pc := 315) C dX12_tryMergeRuns_315 rfl ?_
                            refine mG_is (ls' := [none, some (.ref p1), some (.int p2), some (.int p3), some (.ref s61.1), some (.int (p2 + p3)), some (.int 1), some (.int r98), some (.int r98), none, none, none]) (pc := 316) C dX12_tryMergeRuns_316 rfl rfl rfl ?_
                            obtain ⟨h127, e128, e72⟩ := mx_bind e72
                            refine mG_iastore (pc := 318) C dX12_tryMergeRuns_318 e128 ?_
                            refine mG_goto (tgt := 19) (pc := 319) C dX12_tryMergeRuns_319 (by decide) ?_
                            exact mG_sub (mxLe_n (mxLe_s (mxLe_s (mxLe_s (mxLe_s (mxLe_s (mxLe_s (mxLe_s (mxLe_s (mxLe_n (mxLe_n (mxLe_n mxLe_z)))))))))))) (hK69 _ (Option.some.inj e72).symm)
                          · rw [if_neg q126] at e72
                            exact mG_sub (mxLe_n (mxLe_n (mxLe_s (mxLe_n (mxLe_n (mxLe_n (mxLe_s (mxLe_n (mxLe_s (mxLe_n (mxLe_n (mxLe_n mxLe_z)))))))))))) (J67 _ (hx70 _ (Option.some.inj e72).symm))
                        refine mG_sub (ls' := [none, some (.ref p1), some (.int p2), some (.int p3), some (.ref s61.1), some (.int (p2 + p3)), some (.int 1), some (.int s61.2.1), some (.int r98), some (.int (s61.2.1 - 1)), some (.int r98), none]) (mxLe_n (mxLe_s (mxLe_s (mxLe_s (mxLe_s (mxLe_s (mxLe_s (mxLe_s (mxLe_s (mxLe_s (mxLe_s (mxLe_n mxLe_z)))))))))))) (mxLoop_ind (K := fun s99 : (Int32 × Int32 × mxH) => mG l Z X 12 1 127 114 [none, some (.ref p1), some (.int p2), some (.int p3), some (.ref s61.1), some (.int (p2 + p3)), some (.int 1), some (.int s61.2.1), some (.int r98), some (.int s99.1), some (.int s99.2.1), none] [] s99.2.2) ?_ _ _ e101)
                        intro s99 o105 e106 hK103 hx104
                        refine mG_ii (ls' := [none, some (.ref p1), some (.int p2), some (.int p3), some (.ref s61.1), some (.int (p2 + p3)), some (.int 1), some (.int s61.2.1), some (.int r98), some (.int (s99.1 + 1)), some (.int s99.2.1), none]) (pc := 114) C dX12_tryMergeRuns_114 rfl (kinc1 _) rfl rfl rfl ?_
                        refine mG_iload (pc := 117) C dX12_tryMergeRuns_117 rfl ?_
                        refine mG_ii (ls' := [none, some (.ref p1), some (.int p2), some (.int p3), some (.ref s61.1), some (.int (p2 + p3)), some (.int 1), some (.int s61.2.1), some (.int r98), some (.int (s99.1 + 1)), some (.int (s99.2.1 - 1)), none]) (pc := 119) C dX12_tryMergeRuns_119 rfl (kincm1 _) rfl rfl rfl ?_
                        refine mG_iload (pc := 122) C dX12_tryMergeRuns_122 rfl ?_
                        refine mG_icmp_ge (pc := 124) (tgt := 161) C dX12_tryMergeRuns_124 (by decide) (fun q107 => ?_) (fun q107 => ?_)
                        · rw [if_pos q107] at e106
                          exact mG_sub (mxLe_n (mxLe_s (mxLe_s (mxLe_s (mxLe_s (mxLe_s (mxLe_s (mxLe_s (mxLe_s (mxLe_n (mxLe_n (mxLe_n mxLe_z)))))))))))) (J102 _ (hx104 _ (Option.some.inj e106).symm))
                        · rw [if_neg q107] at e106
                          refine mG_aload_n (pc := 127) C dX12_tryMergeRuns_127 rfl ?_
                          refine mG_iload (pc := 128) C dX12_tryMergeRuns_128 rfl ?_
                          obtain ⟨v108, e109, e106⟩ := mx_bind e106
                          refine mG_iaload (pc := 130) C dX12_tryMergeRuns_130 e109 ?_
                          refine mG_aload_n (pc := 131) C dX12_tryMergeRuns_131 rfl ?_
                          refine mG_iload (pc := 132) C dX12_tryMergeRuns_132 rfl ?_
                          obtain ⟨v110, e111, e106⟩ := mx_bind e106
                          refine mG_iaload (pc := 134) C dX12_tryMergeRuns_134 e111 ?_
                          refine mG_icmp_le (pc := 135) (tgt := 161) C dX12_tryMergeRuns_135 (by decide) (fun q112 => ?_) (fun q112 => ?_)
                          · rw [if_pos q112] at e106
                            exact mG_sub (mxLe_n (mxLe_s (mxLe_s (mxLe_s (mxLe_s (mxLe_s (mxLe_s (mxLe_s (mxLe_s (mxLe_n (mxLe_n (mxLe_n mxLe_z)))))))))))) (J102 _ (hx104 _ (Option.some.inj e106).symm))
                          · rw [if_neg q112] at e106
                            refine mG_aload_n (pc := 138) C dX12_tryMergeRuns_138 rfl ?_
                            refine mG_iload (pc := 139) C dX12_tryMergeRuns_139 rfl ?_
                            obtain ⟨v113, e114, e106⟩ := mx_bind e106
                            refine mG_iaload (pc := 141) C dX12_tryMergeRuns_141 e114 ?_
                            refine mG_is (ls' := [none, some (.ref p1), some (.int p2), some (.int p3), some (.ref s61.1), some (.int (p2 + p3)), some (.int 1), some (.int s61.2.1), some (.int r98), some (.int (s99.1 + 1)), some (.int (s99.2.1 - 1)), some (.int v113)]) (pc := 142) C dX12_tryMergeRuns_142 rfl rfl rfl ?_
                            refine mG_aload_n (pc := 144) C dX12_tryMergeRuns_144 rfl ?_
                            refine mG_iload (pc := 145) C dX12_tryMergeRuns_145 rfl ?_
                            refine mG_aload_n (pc := 147) C dX12_tryMergeRuns_147 rfl ?_
                            refine mG_iload (pc := 148) C dX12_tryMergeRuns_148 rfl ?_
                            obtain ⟨v115, e116, e106⟩ := mx_bind e106
                            refine mG_iaload (pc := 150) C dX12_tryMergeRuns_150 e116 ?_
                            obtain ⟨h117, e118, e106⟩ := mx_bind e106
                            refine mG_iastore (pc := 151) C dX12_tryMergeRuns_151 e118 ?_
                            refine mG_aload_n (pc := 152) C dX12_tryMergeRuns_152 rfl ?_
                            refine mG_iload (pc := 153) C dX12_tryMergeRuns_153 rfl ?_
                            refine mG_iload (pc := 155) C dX12_tryMergeRuns_155 rfl ?_
                            obtain ⟨h119, e120, e106⟩ := mx_bind e106
                            refine mG_iastore (pc := 157) C dX12_tryMergeRuns_157 e120 ?_
                            refine mG_goto (tgt := 114) (pc := 158) C dX12_tryMergeRuns_158 (by decide) ?_
                            exact mG_sub (mxLe_n (mxLe_s (mxLe_s (mxLe_s (mxLe_s (mxLe_s (mxLe_s (mxLe_s (mxLe_s (mxLe_s (mxLe_s (mxLe_n mxLe_z)))))))))))) (hK103 _ (Option.some.inj e106).symm)
                      refine mG_sub (ls' := [none, some (.ref p1), some (.int p2), some (.int p3), some (.ref s61.1), some (.int (p2 + p3)), some (.int 1), some (.int s61.2.1), some (.int s61.2.2.1), none, none, none]) (mxLe_n (mxLe_s (mxLe_s (mxLe_s (mxLe_s (mxLe_s (mxLe_s (mxLe_s (mxLe_s (mxLe_n (mxLe_n (mxLe_n mxLe_z)))))))))))) (mxLoop_ind (K := fun s84 : Int32 => mG l Z X 12 1 127 78 [none, some (.ref p1), some (.int p2), some (.int p3), some (.ref s61.1), some (.int (p2 + p3)), some (.int 1), some (.int s61.2.1), some (.int s84), none, none, none] [] s61.2.2.2) ?_ _ _ e86)
                      intro s84 o90 e91 hK88 hx89
                      refine mG_ii (ls' := [none, some (.ref p1), some (.int p2), some (.int p3), some (.ref s61.1), some (.int (p2 + p3)), some (.int 1), some (.int s61.2.1), some (.int (s84 + 1)), none, none, none]) (pc := 78) C dX12_tryMergeRuns_78 rfl (kinc1 _) rfl rfl rfl ?_
                      refine mG_iload (pc := 81) C dX12_tryMergeRuns_81 rfl ?_
                      refine mG_iload (pc := 83) C dX12_tryMergeRuns_83 rfl ?_
                      refine mG_icmp_ge (pc := 85) (tgt := 104) C dX12_tryMergeRuns_85 (by decide) (fun q92 => ?_) (fun q92 => ?_)
                      · rw [if_pos q92] at e91
                        exact mG_sub (mxLe_n (mxLe_s (mxLe_s (mxLe_s (mxLe_s (mxLe_s (mxLe_s (mxLe_s (mxLe_s (mxLe_n (mxLe_n (mxLe_n mxLe_z)))))))))))) (J87 _ (hx89 _ (Option.some.inj e91).symm))
                      · rw [if_neg q92] at e91
                        refine mG_aload_n (pc := 88) C dX12_tryMergeRuns_88 rfl ?_
                        refine mG_iload (pc := 89) C dX12_tryMergeRuns_89 rfl ?_
                        refine mG_ic (pc := 91) C dX12_tryMergeRuns_91 kI1 ?_
                        refine mG_isub (pc := 92) C dX12_tryMergeRuns_92 ?_
                        obtain ⟨v93, e94, e91⟩ := mx_bind e91
                        refine mG_iaload (pc := 93) C dX12_tryMergeRuns_93 e94 ?_
                        refine mG_aload_n (pc := 94) C dX12_tryMergeRuns_94 rfl ?_
                        refine mG_iload (pc := 95) C dX12_tryMergeRuns_95 rfl ?_
                        obtain ⟨v95, e96, e91⟩ := mx_bind e91
                        refine mG_iaload (pc := 97) C dX12_tryMergeRuns_97 e96 ?_
                        refine mG_icmp_lt (pc := 98) (tgt := 104) C dX12_tryMergeRuns_98 (by decide) (fun q97 => ?_) (fun q97 => ?_)
                        · rw [if_pos q97] at e91
                          exact mG_sub (mxLe_n (mxLe_s (mxLe_s (mxLe_s (mxLe_s (mxLe_s (mxLe_s (mxLe_s (mxLe_s (mxLe_n (mxLe_n (mxLe_n mxLe_z)))))))))))) (J87 _ (hx89 _ (Option.some.inj e91).symm))
                        · rw [if_neg q97] at e91
                          refine mG_goto (tgt := 78) (pc := 101) C dX12_tryMergeRuns_101 (by decide) ?_
                          exact mG_sub (mxLe_n (mxLe_s (mxLe_s (mxLe_s (mxLe_s (mxLe_s (mxLe_s (mxLe_s (mxLe_s (mxLe_n (mxLe_n (mxLe_n mxLe_z)))))))))))) (hK88 _ (Option.some.inj e91).symm)
                  · rw [if_neg q78] at e72
                    obtain ⟨r132, e133, e72⟩ := mx_bind e72
                    have J134 : ∀ r145 : Int32, r145 = r132 → mG l Z X 12 1 127 202 [none, some (.ref p1), some (.int p2), some (.int p3), some (.ref s61.1), some (.int (p2 + p3)), some (.int 1), some (.int s61.2.1), some (.int r145), none, none, none] [] s61.2.2.2 := by
                      intro r145 q153
                      subst q153
                      refine mG_aload (pc := 202) C dX12_tryMergeRuns_202 rfl ?_
                      refine mG_ifnonnull (tgt := 250) (pc := 204) C dX12_tryMergeRuns_204 (by decide) ?_
                      refine mG_aload_n (pc := 250) C dX12_tryMergeRuns_250 rfl ?_
                      refine mG_iload (pc := 251) C dX12_tryMergeRuns_251 rfl ?_
                      refine mG_ic (pc := 253) C dX12_tryMergeRuns_253 kI1 ?_
                      refine mG_isub (pc := 254) C dX12_tryMergeRuns_254 ?_
                      obtain ⟨v146, e147, e72⟩ := mx_bind e72
                      refine mG_iaload (pc := 255) C dX12_tryMergeRuns_255 e147 ?_
                      refine mG_aload_n (pc := 256) C dX12_tryMergeRuns_256 rfl ?_
                      refine mG_iload (pc := 257) C dX12_tryMergeRuns_257 rfl ?_
                      obtain ⟨v148, e149, e72⟩ := mx_bind e72
                      refine mG_iaload (pc := 259) C dX12_tryMergeRuns_259 e149 ?_
                      refine mG_icmp_le (pc := 260) (tgt := 309) C dX12_tryMergeRuns_260 (by decide) (fun q150 => ?_) (fun q150 => ?_)
                      · rw [if_pos q150] at e72
                        refine mG_aload (pc := 309) C dX12_tryMergeRuns_309 rfl ?_
                        refine mG_iload (pc := 311) C dX12_tryMergeRuns_311 rfl ?_
                        refine mG_iload (pc := 313) C dX12_tryMergeRuns_313 rfl ?_
                        refine mG_dup (pc := 315) C dX12_tryMergeRuns_315 rfl ?_
                        refine mG_is (ls' := [none, some (.ref p1), some (.int p2), some (.int p3), some (.ref s61.1), some (.int (p2 + p3)), some (.int 1), some (.int r145), some (.int r145), none, none, none]) (pc := 316) C dX12_tryMergeRuns_316 rfl rfl rfl ?_
                        obtain ⟨h151, e152, e72⟩ := mx_bind e72
                        refine mG_iastore (pc := 318) C dX12_tryMergeRuns_318 e152 ?_
                        refine mG_goto (tgt := 19) (pc := 319) C dX12_tryMergeRuns_319 (by decide) ?_
                        exact mG_sub (mxLe_n (mxLe_s (mxLe_s (mxLe_s (mxLe_s (mxLe_s (mxLe_s (mxLe_s (mxLe_s (mxLe_n (mxLe_n (mxLe_n mxLe_z)))))))))))) (hK69 _ (Option.some.inj e72).symm)
                      · rw [if_neg q150] at e72
                        exact mG_sub (mxLe_n (mxLe_n (mxLe_s (mxLe_n (mxLe_n (mxLe_n (mxLe_s (mxLe_n (mxLe_s (mxLe_n (mxLe_n (mxLe_n mxLe_z)))))))))))) (J67 _ (hx70 _ (Option.some.inj e72).symm))
                    refine mG_sub (ls' := [none, some (.ref p1), some (.int p2), some (.int p3), some (.ref s61.1), some (.int (p2 + p3)), some (.int 1), some (.int s61.2.1), some (.int s61.2.2.1), none, none, none]) (mxLe_n (mxLe_s (mxLe_s (mxLe_s (mxLe_s (mxLe_s (mxLe_s (mxLe_s (mxLe_s (mxLe_n (mxLe_n (mxLe_n mxLe_z)))))))))))) (mxLoop_ind (K := fun s131 : Int32 => mG l Z X 12 1 127 39 [none, some (.ref p1), some (.int p2), some (.int p3), some (.ref s61.1), some (.int (p2 + p3)), some (.int 1), some (.int s61.2.1), some (.int s131), none, none, none] [] s61.2.2.2) ?_ _ _ e133)
                    intro s131 o137 e138 hK135 hx136
                    refine mG_ii (ls' := [none, some (.ref p1), some (.int p2), some (.int p3), some (.ref s61.1), some (.int (p2 + p3)), some (.int 1), some (.int s61.2.1), some (.int (s131 + 1)), none, none, none]) (pc := 39) C dX12_tryMergeRuns_39 rfl (kinc1 _) rfl rfl rfl ?_
                    refine mG_iload (pc := 42) C dX12_tryMergeRuns_42 rfl ?_
                    refine mG_iload (pc := 44) C dX12_tryMergeRuns_44 rfl ?_
                    refine mG_icmp_ge (pc := 46) (tgt := 202) C dX12_tryMergeRuns_46 (by decide) (fun q139 => ?_) (fun q139 => ?_)
                    · rw [if_pos q139] at e138
                      exact mG_sub (mxLe_n (mxLe_s (mxLe_s (mxLe_s (mxLe_s (mxLe_s (mxLe_s (mxLe_s (mxLe_s (mxLe_n (mxLe_n (mxLe_n mxLe_z)))))))))))) (J134 _ (hx136 _ (Option.some.inj e138).symm))
                    · rw [if_neg q139] at e138
                      refine mG_aload_n (pc := 49) C dX12_tryMergeRuns_49 rfl ?_
                      refine mG_iload (pc := 50) C dX12_tryMergeRuns_50 rfl ?_
                      refine mG_ic (pc := 52) C dX12_tryMergeRuns_52 kI1 ?_
                      refine mG_isub (pc := 53) C dX12_tryMergeRuns_53 ?_
                      obtain ⟨v140, e141, e138⟩ := mx_bind e138
                      refine mG_iaload (pc := 54) C dX12_tryMergeRuns_54 e141 ?_
                      refine mG_aload_n (pc := 55) C dX12_tryMergeRuns_55 rfl ?_
                      refine mG_iload (pc := 56) C dX12_tryMergeRuns_56 rfl ?_
                      obtain ⟨v142, e143, e138⟩ := mx_bind e138
                      refine mG_iaload (pc := 58) C dX12_tryMergeRuns_58 e143 ?_
                      refine mG_icmp_gt (pc := 59) (tgt := 202) C dX12_tryMergeRuns_59 (by decide) (fun q144 => ?_) (fun q144 => ?_)
                      · rw [if_pos q144] at e138
                        exact mG_sub (mxLe_n (mxLe_s (mxLe_s (mxLe_s (mxLe_s (mxLe_s (mxLe_s (mxLe_s (mxLe_s (mxLe_n (mxLe_n (mxLe_n mxLe_z)))))))))))) (J134 _ (hx136 _ (Option.some.inj e138).symm))
                      · rw [if_neg q144] at e138
                        refine mG_goto (tgt := 39) (pc := 62) C dX12_tryMergeRuns_62 (by decide) ?_
                        exact mG_sub (mxLe_n (mxLe_s (mxLe_s (mxLe_s (mxLe_s (mxLe_s (mxLe_s (mxLe_s (mxLe_s (mxLe_n (mxLe_n (mxLe_n mxLe_z)))))))))))) (hK135 _ (Option.some.inj e138).symm)
              · rw [if_neg q54] at hf
                refine mG_ic (pc := 225) C dX12_tryMergeRuns_225 kI0 ?_
                obtain ⟨v174, e175, hf⟩ := mx_bind hf
                cases hf
                exact mG_zr2 (pc := 226) C e175 E hX dX12_tryMergeRuns_226 ⟨Nat.le_of_ble_eq_true rfl, Nat.le_of_ble_eq_true rfl⟩
            · rw [if_pos q53] at hf
              refine mG_ic (pc := 214) C dX12_tryMergeRuns_214 kI1 ?_
              obtain ⟨v176, e177, hf⟩ := mx_bind hf
              cases hf
              exact mG_zr2 (pc := 215) C e177 E hX dX12_tryMergeRuns_215 ⟨Nat.le_of_ble_eq_true rfl, Nat.le_of_ble_eq_true rfl⟩
          refine mG_sub (ls' := [none, some (.ref p1), some (.int p2), some (.int p3), some (.null), some (.int (p2 + p3)), some (.int 1), some (.int p2), some (.int r29), some (.int (p2 - 1)), some (.int r29), none]) (mxLe_n (mxLe_s (mxLe_s (mxLe_s (mxLe_s (mxLe_s (mxLe_s (mxLe_s (mxLe_s (mxLe_s (mxLe_s (mxLe_n mxLe_z)))))))))))) (mxLoop_ind (K := fun s30 : (Int32 × Int32 × mxH) => mG l Z X 12 0 0 114 [none, some (.ref p1), some (.int p2), some (.int p3), some (.null), some (.int (p2 + p3)), some (.int 1), some (.int p2), some (.int r29), some (.int s30.1), some (.int s30.2.1), none] [] s30.2.2) ?_ _ _ e32)
          intro s30 o36 e37 hK34 hx35
          refine mG_ii (ls' := [none, some (.ref p1), some (.int p2), some (.int p3), some (.null), some (.int (p2 + p3)), some (.int 1), some (.int p2), some (.int r29), some (.int (s30.1 + 1)), some (.int s30.2.1), none]) (pc := 114) C dX12_tryMergeRuns_114 rfl (kinc1 _) rfl rfl rfl ?_
          refine mG_iload (pc := 117) C dX12_tryMergeRuns_117 rfl ?_
          refine mG_ii (ls' := [none, some (.ref p1), some (.int p2), some (.int p3), some (.null), some (.int (p2 + p3)), some (.int 1), some (.int p2), some (.int r29), some (.int (s30.1 + 1)), some (.int (s30.2.1 - 1)), none]) (pc := 119) C dX12_tryMergeRuns_119 rfl (kincm1 _) rfl rfl rfl ?_
          refine mG_iload (pc := 122) C dX12_tryMergeRuns_122 rfl ?_
          refine mG_icmp_ge (pc := 124) (tgt := 161) C dX12_tryMergeRuns_124 (by decide) (fun q38 => ?_) (fun q38 => ?_)
          · rw [if_pos q38] at e37
            exact mG_sub (mxLe_n (mxLe_s (mxLe_s (mxLe_s (mxLe_s (mxLe_s (mxLe_s (mxLe_s (mxLe_s (mxLe_n (mxLe_n (mxLe_n mxLe_z)))))))))))) (J33 _ (hx35 _ (Option.some.inj e37).symm))
          · rw [if_neg q38] at e37
            refine mG_aload_n (pc := 127) C dX12_tryMergeRuns_127 rfl ?_
            refine mG_iload (pc := 128) C dX12_tryMergeRuns_128 rfl ?_
            obtain ⟨v39, e40, e37⟩ := mx_bind e37
            refine mG_iaload (pc := 130) C dX12_tryMergeRuns_130 e40 ?_
            refine mG_aload_n (pc := 131) C dX12_tryMergeRuns_131 rfl ?_
            refine mG_iload (pc := 132) C dX12_tryMergeRuns_132 rfl ?_
            obtain ⟨v41, e42, e37⟩ := mx_bind e37
            refine mG_iaload (pc := 134) C dX12_tryMergeRuns_134 e42 ?_
            refine mG_icmp_le (pc := 135) (tgt := 161) C dX12_tryMergeRuns_135 (by decide) (fun q43 => ?_) (fun q43 => ?_)
            · rw [if_pos q43] at e37
              exact mG_sub (mxLe_n (mxLe_s (mxLe_s (mxLe_s (mxLe_s (mxLe_s (mxLe_s (mxLe_s (mxLe_s (mxLe_n (mxLe_n (mxLe_n mxLe_z)))))))))))) (J33 _ (hx35 _ (Option.some.inj e37).symm))
            · rw [if_neg q43] at e37
              refine mG_aload_n (pc := 138) C dX12_tryMergeRuns_138 rfl ?_
              refine mG_iload (pc := 139) C dX12_tryMergeRuns_139 rfl ?_
              obtain ⟨v44, e45, e37⟩ := mx_bind e37
              refine mG_iaload (pc := 141) C dX12_tryMergeRuns_141 e45 ?_
              refine mG_is (ls' := [none, some (.ref p1), some (.int p2), some (.int p3), some (.null), some (.int (p2 + p3)), some (.int 1), some (.int p2), some (.int r29), some (.int (s30.1 + 1)), some (.int (s30.2.1 - 1)), some (.int v44)]) (pc := 142) C dX12_tryMergeRuns_142 rfl rfl rfl ?_
              refine mG_aload_n (pc := 144) C dX12_tryMergeRuns_144 rfl ?_
              refine mG_iload (pc := 145) C dX12_tryMergeRuns_145 rfl ?_
              refine mG_aload_n (pc := 147) C dX12_tryMergeRuns_147 rfl ?_
              refine mG_iload (pc := 148) C dX12_tryMergeRuns_148 rfl ?_
              obtain ⟨v46, e47, e37⟩ := mx_bind e37
              refine mG_iaload (pc := 150) C dX12_tryMergeRuns_150 e47 ?_
              obtain ⟨h48, e49, e37⟩ := mx_bind e37
              refine mG_iastore (pc := 151) C dX12_tryMergeRuns_151 e49 ?_
              refine mG_aload_n (pc := 152) C dX12_tryMergeRuns_152 rfl ?_
              refine mG_iload (pc := 153) C dX12_tryMergeRuns_153 rfl ?_
              refine mG_iload (pc := 155) C dX12_tryMergeRuns_155 rfl ?_
              obtain ⟨h50, e51, e37⟩ := mx_bind e37
              refine mG_iastore (pc := 157) C dX12_tryMergeRuns_157 e51 ?_
              refine mG_goto (tgt := 114) (pc := 158) C dX12_tryMergeRuns_158 (by decide) ?_
              exact mG_sub (mxLe_n (mxLe_s (mxLe_s (mxLe_s (mxLe_s (mxLe_s (mxLe_s (mxLe_s (mxLe_s (mxLe_s (mxLe_s (mxLe_n mxLe_z)))))))))))) (hK34 _ (Option.some.inj e37).symm)
        refine mG_sub (ls' := [none, some (.ref p1), some (.int p2), some (.int p3), some (.null), some (.int (p2 + p3)), some (.int 1), some (.int p2), some (.int (p2 + 1)), none, none, none]) (mxLe_n (mxLe_s (mxLe_s (mxLe_s (mxLe_s (mxLe_s (mxLe_s (mxLe_s (mxLe_s (mxLe_n (mxLe_n (mxLe_n mxLe_z)))))))))))) (mxLoop_ind (K := fun s15 : Int32 => mG l Z X 12 0 0 78 [none, some (.ref p1), some (.int p2), some (.int p3), some (.null), some (.int (p2 + p3)), some (.int 1), some (.int p2), some (.int s15), none, none, none] [] h) ?_ _ _ e17)
        intro s15 o21 e22 hK19 hx20
        refine mG_ii (ls' := [none, some (.ref p1), some (.int p2), some (.int p3), some (.null), some (.int (p2 + p3)), some (.int 1), some (.int p2), some (.int (s15 + 1)), none, none, none]) (pc := 78) C dX12_tryMergeRuns_78 rfl (kinc1 _) rfl rfl rfl ?_
        refine mG_iload (pc := 81) C dX12_tryMergeRuns_81 rfl ?_
        refine mG_iload (pc := 83) C dX12_tryMergeRuns_83 rfl ?_
        refine mG_icmp_ge (pc := 85) (tgt := 104) C dX12_tryMergeRuns_85 (by decide) (fun q23 => ?_) (fun q23 => ?_)
        · rw [if_pos q23] at e22
          exact mG_sub (mxLe_n (mxLe_s (mxLe_s (mxLe_s (mxLe_s (mxLe_s (mxLe_s (mxLe_s (mxLe_s (mxLe_n (mxLe_n (mxLe_n mxLe_z)))))))))))) (J18 _ (hx20 _ (Option.some.inj e22).symm))
        · rw [if_neg q23] at e22
          refine mG_aload_n (pc := 88) C dX12_tryMergeRuns_88 rfl ?_
          refine mG_iload (pc := 89) C dX12_tryMergeRuns_89 rfl ?_
          refine mG_ic (pc := 91) C dX12_tryMergeRuns_91 kI1 ?_
          refine mG_isub (pc := 92) C dX12_tryMergeRuns_92 ?_
          obtain ⟨v24, e25, e22⟩ := mx_bind e22
          refine mG_iaload (pc := 93) C dX12_tryMergeRuns_93 e25 ?_
          refine mG_aload_n (pc := 94) C dX12_tryMergeRuns_94 rfl ?_
          refine mG_iload (pc := 95) C dX12_tryMergeRuns_95 rfl ?_
          obtain ⟨v26, e27, e22⟩ := mx_bind e22
          refine mG_iaload (pc := 97) C dX12_tryMergeRuns_97 e27 ?_
          refine mG_icmp_lt (pc := 98) (tgt := 104) C dX12_tryMergeRuns_98 (by decide) (fun q28 => ?_) (fun q28 => ?_)
          · rw [if_pos q28] at e22
            exact mG_sub (mxLe_n (mxLe_s (mxLe_s (mxLe_s (mxLe_s (mxLe_s (mxLe_s (mxLe_s (mxLe_s (mxLe_n (mxLe_n (mxLe_n mxLe_z)))))))))))) (J18 _ (hx20 _ (Option.some.inj e22).symm))
          · rw [if_neg q28] at e22
            refine mG_goto (tgt := 78) (pc := 101) C dX12_tryMergeRuns_101 (by decide) ?_
            exact mG_sub (mxLe_n (mxLe_s (mxLe_s (mxLe_s (mxLe_s (mxLe_s (mxLe_s (mxLe_s (mxLe_s (mxLe_n (mxLe_n (mxLe_n mxLe_z)))))))))))) (hK19 _ (Option.some.inj e22).symm)
    · rw [if_neg q9] at hf
      obtain ⟨r181, e182, hf⟩ := mx_bind hf
      have J183 : ∀ r194 : Int32, r194 = r181 → mG l Z X 12 0 0 202 [none, some (.ref p1), some (.int p2), some (.int p3), some (.null), some (.int (p2 + p3)), some (.int 1), some (.int p2), some (.int r194), none, none, none] [] h := by
        intro r194 q320
        subst q320
        refine mG_aloadN (pc := 202) C dX12_tryMergeRuns_202 rfl ?_
        refine mG_ifnonnullN (pc := 204) C dX12_tryMergeRuns_204 ?_
        refine mG_iload (pc := 207) C dX12_tryMergeRuns_207 rfl ?_
        refine mG_iload (pc := 209) C dX12_tryMergeRuns_209 rfl ?_
        refine mG_icmp_ne (pc := 211) (tgt := 216) C dX12_tryMergeRuns_211 (by decide) (fun q195 => ?_) (fun q195 => ?_)
        · rw [if_neg q195] at hf
          refine mG_iload (pc := 216) C dX12_tryMergeRuns_216 rfl ?_
          refine mG_iload_n (pc := 218) C dX12_tryMergeRuns_218 rfl ?_
          refine mG_isub (pc := 219) C dX12_tryMergeRuns_219 ?_
          refine mG_bp (pc := 220) C dX12_tryMergeRuns_220 kB16 ?_
          refine mG_icmp_ge (pc := 222) (tgt := 227) C dX12_tryMergeRuns_222 (by decide) (fun q196 => ?_) (fun q196 => ?_)
          · rw [if_pos q196] at hf
            refine mG_iload_n (pc := 227) C dX12_tryMergeRuns_227 rfl ?_
            refine mG_bp (pc := 228) C dX12_tryMergeRuns_228 kB10 ?_
            refine mG_ishr (pc := 230) C dX12_tryMergeRuns_230 ?_
            refine mG_bp (pc := 231) C dX12_tryMergeRuns_231 kB127 ?_
            refine mG_ior (pc := 233) C dX12_tryMergeRuns_233 ?_
            refine mG_sp (pc := 234) C dX12_tryMergeRuns_234 kS1023 ?_
            refine mG_iand (pc := 237) C dX12_tryMergeRuns_237 ?_
            obtain ⟨h197, e198, hf⟩ := mx_bind hf
            refine mG_nwV (B := 127) (pc := 238) (k' := 1) (n' := 127) C hX dX12_tryMergeRuns_238 w272 rfl e198 rfl rfl ⟨Nat.le_of_ble_eq_true rfl, Nat.le_of_ble_eq_true rfl⟩ ?_
            refine mG_as (ls' := [none, some (.ref p1), some (.int p2), some (.int p3), some (.ref h.2), some (.int (p2 + p3)), some (.int 1), some (.int p2), some (.int r194), none, none, none]) (pc := 240) C dX12_tryMergeRuns_240 rfl rfl rfl ?_
            refine mG_aload (pc := 242) C dX12_tryMergeRuns_242 rfl ?_
            refine mG_ic (pc := 244) C dX12_tryMergeRuns_244 kI0 ?_
            refine mG_iload_n (pc := 245) C dX12_tryMergeRuns_245 rfl ?_
            obtain ⟨h199, e200, hf⟩ := mx_bind hf
            refine mG_iastore (pc := 246) C dX12_tryMergeRuns_246 e200 ?_
            refine mG_goto (tgt := 309) (pc := 247) C dX12_tryMergeRuns_247 (by decide) ?_
            refine mG_aload (pc := 309) C dX12_tryMergeRuns_309 rfl ?_
            refine mG_iload (pc := 311) C dX12_tryMergeRuns_311 rfl ?_
            refine mG_iload (pc := 313) C dX12_tryMergeRuns_313 rfl ?_
            refine mG_dup (pc := 315) C dX12_tryMergeRuns_315 rfl ?_
            refine mG_is (ls' := [none, some (.ref p1), some (.int p2), some (.int p3), some (.ref h.2), some (.int (p2 + p3)), some (.int 1), some (.int r194), some (.int r194), none, none, none]) (pc := 316) C dX12_tryMergeRuns_316 rfl rfl rfl ?_
            obtain ⟨h201, e202, hf⟩ := mx_bind hf
            refine mG_iastore (pc := 318) C dX12_tryMergeRuns_318 e202 ?_
            refine mG_goto (tgt := 19) (pc := 319) C dX12_tryMergeRuns_319 (by decide) ?_
            obtain ⟨r204, e205, hf⟩ := mx_bind hf
            have J206 : ∀ r296 : mxH, Sum.inl r296 = r204 → mG l Z X 12 1 127 164 [none, some (.ref p1), none, none, none, none, none, none, none, none, none, none] [] r296 := by
              intro r296 q297
              subst q297
              rw [Sum.elim_inl] at hf
              cases hf
            have J207 : ∀ r298 : mxH, Sum.inr (Sum.inl r298) = r204 → mG l Z X 12 1 127 214 [none, none, none, none, none, none, none, none, none, none, none, none] [] r298 := by
              intro r298 q301
              subst q301
              rw [Sum.elim_inr, Sum.elim_inl] at hf
              refine mG_ic (pc := 214) C dX12_tryMergeRuns_214 kI1 ?_
              obtain ⟨v299, e300, hf⟩ := mx_bind hf
              cases hf
              exact mG_zr2 (pc := 215) C e300 E hX dX12_tryMergeRuns_215 ⟨Nat.le_of_ble_eq_true rfl, Nat.le_of_ble_eq_true rfl⟩
            have J208 : ∀ r302 : mxH, Sum.inr (Sum.inr (Sum.inl r302)) = r204 → mG l Z X 12 1 127 225 [none, none, none, none, none, none, none, none, none, none, none, none] [] r302 := by
              intro r302 q305
              subst q305
              rw [Sum.elim_inr, Sum.elim_inr, Sum.elim_inl] at hf
              refine mG_ic (pc := 225) C dX12_tryMergeRuns_225 kI0 ?_
              obtain ⟨v303, e304, hf⟩ := mx_bind hf
              cases hf
              exact mG_zr2 (pc := 226) C e304 E hX dX12_tryMergeRuns_226 ⟨Nat.le_of_ble_eq_true rfl, Nat.le_of_ble_eq_true rfl⟩
            have J209 : ∀ r306 : (Int32 × mxH), Sum.inr (Sum.inr (Sum.inr (Sum.inl r306))) = r204 → mG l Z X 12 1 127 263 [none, none, some (.int p2), none, none, none, some (.int 1), none, some (.int r306.1), none, none, none] [] r306.2 := by
              intro r306 q310
              subst q310
              rw [Sum.elim_inr, Sum.elim_inr, Sum.elim_inr, Sum.elim_inl] at hf
              refine mG_iload (pc := 263) C dX12_tryMergeRuns_263 rfl ?_
              refine mG_iload (pc := 265) C dX12_tryMergeRuns_265 rfl ?_
              refine mG_iload_n (pc := 267) C dX12_tryMergeRuns_267 rfl ?_
              refine mG_isub (pc := 268) C dX12_tryMergeRuns_268 ?_
              refine mG_bp (pc := 269) C dX12_tryMergeRuns_269 kB7 ?_
              refine mG_ishr (pc := 271) C dX12_tryMergeRuns_271 ?_
              refine mG_icmp_le (pc := 272) (tgt := 277) C dX12_tryMergeRuns_272 (by decide) (fun q307 => ?_) (fun q307 => ?_)
              · rw [if_pos q307] at hf
                cases hf
              · rw [if_neg q307] at hf
                refine mG_ic (pc := 275) C dX12_tryMergeRuns_275 kI0 ?_
                obtain ⟨v308, e309, hf⟩ := mx_bind hf
                cases hf
                exact mG_zr2 (pc := 276) C e309 E hX dX12_tryMergeRuns_276 ⟨Nat.le_of_ble_eq_true rfl, Nat.le_of_ble_eq_true rfl⟩
            have J210 : ∀ r311 : mxH, Sum.inr (Sum.inr (Sum.inr (Sum.inr r311))) = r204 → mG l Z X 12 1 127 322 [none, none, some (.int p2), none, none, none, some (.int 1), none, none, none, none, none] [] r311 := by
              intro r311 q315
              subst q315
              rw [Sum.elim_inr, Sum.elim_inr, Sum.elim_inr, Sum.elim_inr] at hf
              refine mG_iload (pc := 322) C dX12_tryMergeRuns_322 rfl ?_
              refine mG_ic (pc := 324) C dX12_tryMergeRuns_324 kI1 ?_
              refine mG_icmp_le (pc := 325) (tgt := 386) C dX12_tryMergeRuns_325 (by decide) (fun q312 => ?_) (fun q312 => ?_)
              · rw [if_pos q312] at hf
                refine mG_ic (pc := 386) C dX12_tryMergeRuns_386 kI1 ?_
                obtain ⟨v313, e314, hf⟩ := mx_bind hf
                cases hf
                exact mG_zr2 (pc := 387) C e314 E hX dX12_tryMergeRuns_387 ⟨Nat.le_of_ble_eq_true rfl, Nat.le_of_ble_eq_true rfl⟩
              · rw [if_neg q312] at hf
                cases hf
            refine mG_sub (ls' := [none, some (.ref p1), some (.int p2), some (.int p3), some (.ref h.2), some (.int (p2 + p3)), some (.int 1), some (.int r194), some (.int r194), none, none, none]) (mxLe_n (mxLe_s (mxLe_s (mxLe_s (mxLe_s (mxLe_s (mxLe_s (mxLe_s (mxLe_s (mxLe_n (mxLe_n (mxLe_n mxLe_z)))))))))))) (mxLoop_ind (K := fun s203 : (Nat × Int32 × Int32 × mxH) => mG l Z X 12 1 127 19 [none, some (.ref p1), some (.int p2), some (.int p3), some (.ref s203.1), some (.int (p2 + p3)), some (.int 1), some (.int s203.2.1), some (.int s203.2.2.1), none, none, none] [] s203.2.2.2) ?_ _ _ e205)
            intro s203 o213 e214 hK211 hx212
            refine mG_iload (pc := 19) C dX12_tryMergeRuns_19 rfl ?_
            refine mG_iload (pc := 21) C dX12_tryMergeRuns_21 rfl ?_
            refine mG_icmp_ge (pc := 23) (tgt := 322) C dX12_tryMergeRuns_23 (by decide) (fun q215 => ?_) (fun q215 => ?_)
            · rw [if_pos q215] at e214
              exact mG_sub (mxLe_n (mxLe_n (mxLe_s (mxLe_n (mxLe_n (mxLe_n (mxLe_s (mxLe_n (mxLe_n (mxLe_n (mxLe_n (mxLe_n mxLe_z)))))))))))) (J210 _ (hx212 _ (Option.some.inj e214).symm))
            · rw [if_neg q215] at e214
              refine mG_aload_n (pc := 26) C dX12_tryMergeRuns_26 rfl ?_
              refine mG_iload (pc := 27) C dX12_tryMergeRuns_27 rfl ?_
              refine mG_ic (pc := 29) C dX12_tryMergeRuns_29 kI1 ?_
              refine mG_isub (pc := 30) C dX12_tryMergeRuns_30 ?_
              obtain ⟨v216, e217, e214⟩ := mx_bind e214
              refine mG_iaload (pc := 31) C dX12_tryMergeRuns_31 e217 ?_
              refine mG_aload_n (pc := 32) C dX12_tryMergeRuns_32 rfl ?_
              refine mG_iload (pc := 33) C dX12_tryMergeRuns_33 rfl ?_
              obtain ⟨v218, e219, e214⟩ := mx_bind e214
              refine mG_iaload (pc := 35) C dX12_tryMergeRuns_35 e219 ?_
              refine mG_icmp_ge (pc := 36) (tgt := 65) C dX12_tryMergeRuns_36 (by decide) (fun q220 => ?_) (fun q220 => ?_)
              · rw [if_pos q220] at e214
                refine mG_aload_n (pc := 65) C dX12_tryMergeRuns_65 rfl ?_
                refine mG_iload (pc := 66) C dX12_tryMergeRuns_66 rfl ?_
                refine mG_ic (pc := 68) C dX12_tryMergeRuns_68 kI1 ?_
                refine mG_isub (pc := 69) C dX12_tryMergeRuns_69 ?_
                obtain ⟨v221, e222, e214⟩ := mx_bind e214
                refine mG_iaload (pc := 70) C dX12_tryMergeRuns_70 e222 ?_
                refine mG_aload_n (pc := 71) C dX12_tryMergeRuns_71 rfl ?_
                refine mG_iload (pc := 72) C dX12_tryMergeRuns_72 rfl ?_
                obtain ⟨v223, e224, e214⟩ := mx_bind e214
                refine mG_iaload (pc := 74) C dX12_tryMergeRuns_74 e224 ?_
                refine mG_icmp_le (pc := 75) (tgt := 164) C dX12_tryMergeRuns_75 (by decide) (fun q225 => ?_) (fun q225 => ?_)
                · rw [if_pos q225] at e214
                  exact mG_sub (mxLe_n (mxLe_s (mxLe_n (mxLe_n (mxLe_n (mxLe_n (mxLe_n (mxLe_n (mxLe_n (mxLe_n (mxLe_n (mxLe_n mxLe_z)))))))))))) (J206 _ (hx212 _ (Option.some.inj e214).symm))
                · rw [if_neg q225] at e214
                  obtain ⟨r227, e228, e214⟩ := mx_bind e214
                  have J229 : ∀ r240 : Int32, r240 = r227 → mG l Z X 12 1 127 104 [none, some (.ref p1), some (.int p2), some (.int p3), some (.ref s203.1), some (.int (p2 + p3)), some (.int 1), some (.int s203.2.1), some (.int r240), none, none, none] [] s203.2.2.2 := by
                    intro r240 q272
                    subst q272
                    refine mG_iload (pc := 104) C dX12_tryMergeRuns_104 rfl ?_
                    refine mG_ic (pc := 106) C dX12_tryMergeRuns_106 kI1 ?_
                    refine mG_isub (pc := 107) C dX12_tryMergeRuns_107 ?_
                    refine mG_is (ls' := [none, some (.ref p1), some (.int p2), some (.int p3), some (.ref s203.1), some (.int (p2 + p3)), some (.int 1), some (.int s203.2.1), some (.int r240), some (.int (s203.2.1 - 1)), none, none]) (pc := 108) C dX12_tryMergeRuns_108 rfl rfl rfl ?_
                    refine mG_iload (pc := 110) C dX12_tryMergeRuns_110 rfl ?_
                    refine mG_is (ls' := [none, some (.ref p1), some (.int p2), some (.int p3), some (.ref s203.1), some (.int (p2 + p3)), some (.int 1), some (.int s203.2.1), some (.int r240), some (.int (s203.2.1 - 1)), some (.int r240), none]) (pc := 112) C dX12_tryMergeRuns_112 rfl rfl rfl ?_
                    obtain ⟨r242, e243, e214⟩ := mx_bind e214
                    have J244 : ∀ r263 : mxH, r263 = r242 → mG l Z X 12 1 127 161 [none, some (.ref p1), some (.int p2), some (.int p3), some (.ref s203.1), some (.int (p2 + p3)), some (.int 1), some (.int s203.2.1), some (.int r240), none, none, none] [] r263 := by
                      intro r263 q271
                      subst q271
                      refine mG_goto (tgt := 202) (pc := 161) C dX12_tryMergeRuns_161 (by decide) ?_
                      refine mG_aload (pc := 202) C dX12_tryMergeRuns_202 rfl ?_
                      refine mG_ifnonnull (tgt := 250) (pc := 204) C dX12_tryMergeRuns_204 (by decide) ?_
                      refine mG_aload_n (pc := 250) C dX12_tryMergeRuns_250 rfl ?_
                      refine mG_iload (pc := 251) C dX12_tryMergeRuns_251 rfl ?_
                      refine mG_ic (pc := 253) C dX12_tryMergeRuns_253 kI1 ?_
                      refine mG_isub (pc := 254) C dX12_tryMergeRuns_254 ?_
                      obtain ⟨v264, e265, e214⟩ := mx_bind e214
                      refine mG_iaload (pc := 255) C dX12_tryMergeRuns_255 e265 ?_
                      refine mG_aload_n (pc := 256) C dX12_tryMergeRuns_256 rfl ?_
                      refine mG_iload (pc := 257) C dX12_tryMergeRuns_257 rfl ?_
                      obtain ⟨v266, e267, e214⟩ := mx_bind e214
                      refine mG_iaload (pc := 259) C dX12_tryMergeRuns_259 e267 ?_
                      refine mG_icmp_le (pc := 260) (tgt := 309) C dX12_tryMergeRuns_260 (by decide) (fun q268 => ?_) (fun q268 => ?_)
                      · rw [if_pos q268] at e214
                        refine mG_aload (pc := 309) C dX12_tryMergeRuns_309 rfl ?_
                        refine mG_iload (pc := 311) C dX12_tryMergeRuns_311 rfl ?_
                        refine mG_iload (pc := 313) C dX12_tryMergeRuns_313 rfl ?_
                        refine mG_dup (pc := 315) C dX12_tryMergeRuns_315 rfl ?_
                        refine mG_is (ls' := [none, some (.ref p1), some (.int p2), some (.int p3), some (.ref s203.1), some (.int (p2 + p3)), some (.int 1), some (.int r240), some (.int r240), none, none, none]) (pc := 316) C dX12_tryMergeRuns_316 rfl rfl rfl ?_
                        obtain ⟨h269, e270, e214⟩ := mx_bind e214
                        refine mG_iastore (pc := 318) C dX12_tryMergeRuns_318 e270 ?_
                        refine mG_goto (tgt := 19) (pc := 319) C dX12_tryMergeRuns_319 (by decide) ?_
                        exact mG_sub (mxLe_n (mxLe_s (mxLe_s (mxLe_s (mxLe_s (mxLe_s (mxLe_s (mxLe_s (mxLe_s (mxLe_n (mxLe_n (mxLe_n mxLe_z)))))))))))) (hK211 _ (Option.some.inj e214).symm)
                      · rw [if_neg q268] at e214
                        exact mG_sub (mxLe_n (mxLe_n (mxLe_s (mxLe_n (mxLe_n (mxLe_n (mxLe_s (mxLe_n (mxLe_s (mxLe_n (mxLe_n (mxLe_n mxLe_z)))))))))))) (J209 _ (hx212 _ (Option.some.inj e214).symm))
                    refine mG_sub (ls' := [none, some (.ref p1), some (.int p2), some (.int p3), some (.ref s203.1), some (.int (p2 + p3)), some (.int 1), some (.int s203.2.1), some (.int r240), some (.int (s203.2.1 - 1)), some (.int r240), none]) (mxLe_n (mxLe_s (mxLe_s (mxLe_s (mxLe_s (mxLe_s (mxLe_s (mxLe_s (mxLe_s (mxLe_s (mxLe_s (mxLe_n mxLe_z)))))))))))) (mxLoop_ind (K := fun s241 : (Int32 × Int32 × mxH) => mG l Z X 12 1 127 114 [none, some (.ref p1), some (.int p2), some (.int p3), some (.ref s203.1), some (.int (p2 + p3)), some (.int 1), some (.int s203.2.1), some (.int r240), some (.int s241.1), some (.int s241.2.1), none] [] s241.2.2) ?_ _ _ e243)
                    intro s241 o247 e248 hK245 hx246
                    refine mG_ii (ls' := [none, some (.ref p1), some (.int p2), some (.int p3), some (.ref s203.1), some (.int (p2 + p3)), some (.int 1), some (.int s203.2.1), some (.int r240), some (.int (s241.1 + 1)), some (.int s241.2.1), none]) (pc := 114) C dX12_tryMergeRuns_114 rfl (kinc1 _) rfl rfl rfl ?_
                    refine mG_iload (pc := 117) C dX12_tryMergeRuns_117 rfl ?_
                    refine mG_ii (ls' := [none, some (.ref p1), some (.int p2), some (.int p3), some (.ref s203.1), some (.int (p2 + p3)), some (.int 1), some (.int s203.2.1), some (.int r240), some (.int (s241.1 + 1)), some (.int (s241.2.1 - 1)), none]) (pc := 119) C dX12_tryMergeRuns_119 rfl (kincm1 _) rfl rfl rfl ?_
                    refine mG_iload (pc := 122) C dX12_tryMergeRuns_122 rfl ?_
                    refine mG_icmp_ge (pc := 124) (tgt := 161) C dX12_tryMergeRuns_124 (by decide) (fun q249 => ?_) (fun q249 => ?_)
                    · rw [if_pos q249] at e248
                      exact mG_sub (mxLe_n (mxLe_s (mxLe_s (mxLe_s (mxLe_s (mxLe_s (mxLe_s (mxLe_s (mxLe_s (mxLe_n (mxLe_n (mxLe_n mxLe_z)))))))))))) (J244 _ (hx246 _ (Option.some.inj e248).symm))
                    · rw [if_neg q249] at e248
                      refine mG_aload_n (pc := 127) C dX12_tryMergeRuns_127 rfl ?_
                      refine mG_iload (pc := 128) C dX12_tryMergeRuns_128 rfl ?_
                      obtain ⟨v250, e251, e248⟩ := mx_bind e248
                      refine mG_iaload (pc := 130) C dX12_tryMergeRuns_130 e251 ?_
                      refine mG_aload_n (pc := 131) C dX12_tryMergeRuns_131 rfl ?_
                      refine mG_iload (pc := 132) C dX12_tryMergeRuns_132 rfl ?_
                      obtain ⟨v252, e253, e248⟩ := mx_bind e248
                      refine mG_iaload (pc := 134) C dX12_tryMergeRuns_134 e253 ?_
                      refine mG_icmp_le (pc := 135) (tgt := 161) C dX12_tryMergeRuns_135 (by decide) (fun q254 => ?_) (fun q254 => ?_)
                      · rw [if_pos q254] at e248
                        exact mG_sub (mxLe_n (mxLe_s (mxLe_s (mxLe_s (mxLe_s (mxLe_s (mxLe_s (mxLe_s (mxLe_s (mxLe_n (mxLe_n (mxLe_n mxLe_z)))))))))))) (J244 _ (hx246 _ (Option.some.inj e248).symm))
                      · rw [if_neg q254] at e248
                        refine mG_aload_n (pc := 138) C dX12_tryMergeRuns_138 rfl ?_
                        refine mG_iload (pc := 139) C dX12_tryMergeRuns_139 rfl ?_
                        obtain ⟨v255, e256, e248⟩ := mx_bind e248
                        refine mG_iaload (pc := 141) C dX12_tryMergeRuns_141 e256 ?_
                        refine mG_is (ls' := [none, some (.ref p1), some (.int p2), some (.int p3), some (.ref s203.1), some (.int (p2 + p3)), some (.int 1), some (.int s203.2.1), some (.int r240), some (.int (s241.1 + 1)), some (.int (s241.2.1 - 1)), some (.int v255)]) (pc := 142) C dX12_tryMergeRuns_142 rfl rfl rfl ?_
                        refine mG_aload_n (pc := 144) C dX12_tryMergeRuns_144 rfl ?_
                        refine mG_iload (pc := 145) C dX12_tryMergeRuns_145 rfl ?_
                        refine mG_aload_n (pc := 147) C dX12_tryMergeRuns_147 rfl ?_
                        refine mG_iload (pc := 148) C dX12_tryMergeRuns_148 rfl ?_
                        obtain ⟨v257, e258, e248⟩ := mx_bind e248
                        refine mG_iaload (pc := 150) C dX12_tryMergeRuns_150 e258 ?_
                        obtain ⟨h259, e260, e248⟩ := mx_bind e248
                        refine mG_iastore (pc := 151) C dX12_tryMergeRuns_151 e260 ?_
                        refine mG_aload_n (pc := 152) C dX12_tryMergeRuns_152 rfl ?_
                        refine mG_iload (pc := 153) C dX12_tryMergeRuns_153 rfl ?_
                        refine mG_iload (pc := 155) C dX12_tryMergeRuns_155 rfl ?_
                        obtain ⟨h261, e262, e248⟩ := mx_bind e248
                        refine mG_iastore (pc := 157) C dX12_tryMergeRuns_157 e262 ?_
                        refine mG_goto (tgt := 114) (pc := 158) C dX12_tryMergeRuns_158 (by decide) ?_
                        exact mG_sub (mxLe_n (mxLe_s (mxLe_s (mxLe_s (mxLe_s (mxLe_s (mxLe_s (mxLe_s (mxLe_s (mxLe_s (mxLe_s (mxLe_n mxLe_z)))))))))))) (hK245 _ (Option.some.inj e248).symm)
                  refine mG_sub (ls' := [none, some (.ref p1), some (.int p2), some (.int p3), some (.ref s203.1), some (.int (p2 + p3)), some (.int 1), some (.int s203.2.1), some (.int s203.2.2.1), none, none, none]) (mxLe_n (mxLe_s (mxLe_s (mxLe_s (mxLe_s (mxLe_s (mxLe_s (mxLe_s (mxLe_s (mxLe_n (mxLe_n (mxLe_n mxLe_z)))))))))))) (mxLoop_ind (K := fun s226 : Int32 => mG l Z X 12 1 127 78 [none, some (.ref p1), some (.int p2), some (.int p3), some (.ref s203.1), some (.int (p2 + p3)), some (.int 1), some (.int s203.2.1), some (.int s226), none, none, none] [] s203.2.2.2) ?_ _ _ e228)
                  intro s226 o232 e233 hK230 hx231
                  refine mG_ii (ls' := [none, some (.ref p1), some (.int p2), some (.int p3), some (.ref s203.1), some (.int (p2 + p3)), some (.int 1), some (.int s203.2.1), some (.int (s226 + 1)), none, none, none]) (pc := 78) C dX12_tryMergeRuns_78 rfl (kinc1 _) rfl rfl rfl ?_
                  refine mG_iload (pc := 81) C dX12_tryMergeRuns_81 rfl ?_
                  refine mG_iload (pc := 83) C dX12_tryMergeRuns_83 rfl ?_
                  refine mG_icmp_ge (pc := 85) (tgt := 104) C dX12_tryMergeRuns_85 (by decide) (fun q234 => ?_) (fun q234 => ?_)
                  · rw [if_pos q234] at e233
                    exact mG_sub (mxLe_n (mxLe_s (mxLe_s (mxLe_s (mxLe_s (mxLe_s (mxLe_s (mxLe_s (mxLe_s (mxLe_n (mxLe_n (mxLe_n mxLe_z)))))))))))) (J229 _ (hx231 _ (Option.some.inj e233).symm))
                  · rw [if_neg q234] at e233
                    refine mG_aload_n (pc := 88) C dX12_tryMergeRuns_88 rfl ?_
                    refine mG_iload (pc := 89) C dX12_tryMergeRuns_89 rfl ?_
                    refine mG_ic (pc := 91) C dX12_tryMergeRuns_91 kI1 ?_
                    refine mG_isub (pc := 92) C dX12_tryMergeRuns_92 ?_
                    obtain ⟨v235, e236, e233⟩ := mx_bind e233
                    refine mG_iaload (pc := 93) C dX12_tryMergeRuns_93 e236 ?_
                    refine mG_aload_n (pc := 94) C dX12_tryMergeRuns_94 rfl ?_
                    refine mG_iload (pc := 95) C dX12_tryMergeRuns_95 rfl ?_
                    obtain ⟨v237, e238, e233⟩ := mx_bind e233
                    refine mG_iaload (pc := 97) C dX12_tryMergeRuns_97 e238 ?_
                    refine mG_icmp_lt (pc := 98) (tgt := 104) C dX12_tryMergeRuns_98 (by decide) (fun q239 => ?_) (fun q239 => ?_)
                    · rw [if_pos q239] at e233
                      exact mG_sub (mxLe_n (mxLe_s (mxLe_s (mxLe_s (mxLe_s (mxLe_s (mxLe_s (mxLe_s (mxLe_s (mxLe_n (mxLe_n (mxLe_n mxLe_z)))))))))))) (J229 _ (hx231 _ (Option.some.inj e233).symm))
                    · rw [if_neg q239] at e233
                      refine mG_goto (tgt := 78) (pc := 101) C dX12_tryMergeRuns_101 (by decide) ?_
                      exact mG_sub (mxLe_n (mxLe_s (mxLe_s (mxLe_s (mxLe_s (mxLe_s (mxLe_s (mxLe_s (mxLe_s (mxLe_n (mxLe_n (mxLe_n mxLe_z)))))))))))) (hK230 _ (Option.some.inj e233).symm)
              · rw [if_neg q220] at e214
                obtain ⟨r274, e275, e214⟩ := mx_bind e214
                have J276 : ∀ r287 : Int32, r287 = r274 → mG l Z X 12 1 127 202 [none, some (.ref p1), some (.int p2), some (.int p3), some (.ref s203.1), some (.int (p2 + p3)), some (.int 1), some (.int s203.2.1), some (.int r287), none, none, none] [] s203.2.2.2 := by
                  intro r287 q295
                  subst q295
                  refine mG_aload (pc := 202) C dX12_tryMergeRuns_202 rfl ?_
                  refine mG_ifnonnull (tgt := 250) (pc := 204) C dX12_tryMergeRuns_204 (by decide) ?_
                  refine mG_aload_n (pc := 250) C dX12_tryMergeRuns_250 rfl ?_
                  refine mG_iload (pc := 251) C dX12_tryMergeRuns_251 rfl ?_
                  refine mG_ic (pc := 253) C dX12_tryMergeRuns_253 kI1 ?_
                  refine mG_isub (pc := 254) C dX12_tryMergeRuns_254 ?_
                  obtain ⟨v288, e289, e214⟩ := mx_bind e214
                  refine mG_iaload (pc := 255) C dX12_tryMergeRuns_255 e289 ?_
                  refine mG_aload_n (pc := 256) C dX12_tryMergeRuns_256 rfl ?_
                  refine mG_iload (pc := 257) C dX12_tryMergeRuns_257 rfl ?_
                  obtain ⟨v290, e291, e214⟩ := mx_bind e214
                  refine mG_iaload (pc := 259) C dX12_tryMergeRuns_259 e291 ?_
                  refine mG_icmp_le (pc := 260) (tgt := 309) C dX12_tryMergeRuns_260 (by decide) (fun q292 => ?_) (fun q292 => ?_)
                  · rw [if_pos q292] at e214
                    refine mG_aload (pc := 309) C dX12_tryMergeRuns_309 rfl ?_
                    refine mG_iload (pc := 311) C dX12_tryMergeRuns_311 rfl ?_
                    refine mG_iload (pc := 313) C dX12_tryMergeRuns_313 rfl ?_
                    refine mG_dup (pc := 315) C dX12_tryMergeRuns_315 rfl ?_
                    refine mG_is (ls' := [none, some (.ref p1), some (.int p2), some (.int p3), some (.ref s203.1), some (.int (p2 + p3)), some (.int 1), some (.int r287), some (.int r287), none, none, none]) (pc := 316) C dX12_tryMergeRuns_316 rfl rfl rfl ?_
                    obtain ⟨h293, e294, e214⟩ := mx_bind e214
                    refine mG_iastore (pc := 318) C dX12_tryMergeRuns_318 e294 ?_
                    refine mG_goto (tgt := 19) (pc := 319) C dX12_tryMergeRuns_319 (by decide) ?_
                    exact mG_sub (mxLe_n (mxLe_s (mxLe_s (mxLe_s (mxLe_s (mxLe_s (mxLe_s (mxLe_s (mxLe_s (mxLe_n (mxLe_n (mxLe_n mxLe_z)))))))))))) (hK211 _ (Option.some.inj e214).symm)
                  · rw [if_neg q292] at e214
                    exact mG_sub (mxLe_n (mxLe_n (mxLe_s (mxLe_n (mxLe_n (mxLe_n (mxLe_s (mxLe_n (mxLe_s (mxLe_n (mxLe_n (mxLe_n mxLe_z)))))))))))) (J209 _ (hx212 _ (Option.some.inj e214).symm))
                refine mG_sub (ls' := [none, some (.ref p1), some (.int p2), some (.int p3), some (.ref s203.1), some (.int (p2 + p3)), some (.int 1), some (.int s203.2.1), some (.int s203.2.2.1), none, none, none]) (mxLe_n (mxLe_s (mxLe_s (mxLe_s (mxLe_s (mxLe_s (mxLe_s (mxLe_s (mxLe_s (mxLe_n (mxLe_n (mxLe_n mxLe_z)))))))))))) (mxLoop_ind (K := fun s273 : Int32 => mG l Z X 12 1 127 39 [none, some (.ref p1), some (.int p2), some (.int p3), some (.ref s203.1), some (.int (p2 + p3)), some (.int 1), some (.int s203.2.1), some (.int s273), none, none, none] [] s203.2.2.2) ?_ _ _ e275)
                intro s273 o279 e280 hK277 hx278
                refine mG_ii (ls' := [none, some (.ref p1), some (.int p2), some (.int p3), some (.ref s203.1), some (.int (p2 + p3)), some (.int 1), some (.int s203.2.1), some (.int (s273 + 1)), none, none, none]) (pc := 39) C dX12_tryMergeRuns_39 rfl (kinc1 _) rfl rfl rfl ?_
                refine mG_iload (pc := 42) C dX12_tryMergeRuns_42 rfl ?_
                refine mG_iload (pc := 44) C dX12_tryMergeRuns_44 rfl ?_
                refine mG_icmp_ge (pc := 46) (tgt := 202) C dX12_tryMergeRuns_46 (by decide) (fun q281 => ?_) (fun q281 => ?_)
                · rw [if_pos q281] at e280
                  exact mG_sub (mxLe_n (mxLe_s (mxLe_s (mxLe_s (mxLe_s (mxLe_s (mxLe_s (mxLe_s (mxLe_s (mxLe_n (mxLe_n (mxLe_n mxLe_z)))))))))))) (J276 _ (hx278 _ (Option.some.inj e280).symm))
                · rw [if_neg q281] at e280
                  refine mG_aload_n (pc := 49) C dX12_tryMergeRuns_49 rfl ?_
                  refine mG_iload (pc := 50) C dX12_tryMergeRuns_50 rfl ?_
                  refine mG_ic (pc := 52) C dX12_tryMergeRuns_52 kI1 ?_
                  refine mG_isub (pc := 53) C dX12_tryMergeRuns_53 ?_
                  obtain ⟨v282, e283, e280⟩ := mx_bind e280
                  refine mG_iaload (pc := 54) C dX12_tryMergeRuns_54 e283 ?_
                  refine mG_aload_n (pc := 55) C dX12_tryMergeRuns_55 rfl ?_
                  refine mG_iload (pc := 56) C dX12_tryMergeRuns_56 rfl ?_
                  obtain ⟨v284, e285, e280⟩ := mx_bind e280
                  refine mG_iaload (pc := 58) C dX12_tryMergeRuns_58 e285 ?_
                  refine mG_icmp_gt (pc := 59) (tgt := 202) C dX12_tryMergeRuns_59 (by decide) (fun q286 => ?_) (fun q286 => ?_)
                  · rw [if_pos q286] at e280
                    exact mG_sub (mxLe_n (mxLe_s (mxLe_s (mxLe_s (mxLe_s (mxLe_s (mxLe_s (mxLe_s (mxLe_s (mxLe_n (mxLe_n (mxLe_n mxLe_z)))))))))))) (J276 _ (hx278 _ (Option.some.inj e280).symm))
                  · rw [if_neg q286] at e280
                    refine mG_goto (tgt := 39) (pc := 62) C dX12_tryMergeRuns_62 (by decide) ?_
                    exact mG_sub (mxLe_n (mxLe_s (mxLe_s (mxLe_s (mxLe_s (mxLe_s (mxLe_s (mxLe_s (mxLe_s (mxLe_n (mxLe_n (mxLe_n mxLe_z)))))))))))) (hK277 _ (Option.some.inj e280).symm)
          · rw [if_neg q196] at hf
            refine mG_ic (pc := 225) C dX12_tryMergeRuns_225 kI0 ?_
            obtain ⟨v316, e317, hf⟩ := mx_bind hf
            cases hf
            exact mG_zr2 (pc := 226) C e317 E hX dX12_tryMergeRuns_226 ⟨Nat.le_of_ble_eq_true rfl, Nat.le_of_ble_eq_true rfl⟩
        · rw [if_pos q195] at hf
          refine mG_ic (pc := 214) C dX12_tryMergeRuns_214 kI1 ?_
          obtain ⟨v318, e319, hf⟩ := mx_bind hf
          cases hf
          exact mG_zr2 (pc := 215) C e319 E hX dX12_tryMergeRuns_215 ⟨Nat.le_of_ble_eq_true rfl, Nat.le_of_ble_eq_true rfl⟩
      refine mG_sub (ls' := [none, some (.ref p1), some (.int p2), some (.int p3), some (.null), some (.int (p2 + p3)), some (.int 1), some (.int p2), some (.int (p2 + 1)), none, none, none]) (mxLe_n (mxLe_s (mxLe_s (mxLe_s (mxLe_s (mxLe_s (mxLe_s (mxLe_s (mxLe_s (mxLe_n (mxLe_n (mxLe_n mxLe_z)))))))))))) (mxLoop_ind (K := fun s180 : Int32 => mG l Z X 12 0 0 39 [none, some (.ref p1), some (.int p2), some (.int p3), some (.null), some (.int (p2 + p3)), some (.int 1), some (.int p2), some (.int s180), none, none, none] [] h) ?_ _ _ e182)
      intro s180 o186 e187 hK184 hx185
      refine mG_ii (ls' := [none, some (.ref p1), some (.int p2), some (.int p3), some (.null), some (.int (p2 + p3)), some (.int 1), some (.int p2), some (.int (s180 + 1)), none, none, none]) (pc := 39) C dX12_tryMergeRuns_39 rfl (kinc1 _) rfl rfl rfl ?_
      refine mG_iload (pc := 42) C dX12_tryMergeRuns_42 rfl ?_
      refine mG_iload (pc := 44) C dX12_tryMergeRuns_44 rfl ?_
      refine mG_icmp_ge (pc := 46) (tgt := 202) C dX12_tryMergeRuns_46 (by decide) (fun q188 => ?_) (fun q188 => ?_)
      · rw [if_pos q188] at e187
        exact mG_sub (mxLe_n (mxLe_s (mxLe_s (mxLe_s (mxLe_s (mxLe_s (mxLe_s (mxLe_s (mxLe_s (mxLe_n (mxLe_n (mxLe_n mxLe_z)))))))))))) (J183 _ (hx185 _ (Option.some.inj e187).symm))
      · rw [if_neg q188] at e187
        refine mG_aload_n (pc := 49) C dX12_tryMergeRuns_49 rfl ?_
        refine mG_iload (pc := 50) C dX12_tryMergeRuns_50 rfl ?_
        refine mG_ic (pc := 52) C dX12_tryMergeRuns_52 kI1 ?_
        refine mG_isub (pc := 53) C dX12_tryMergeRuns_53 ?_
        obtain ⟨v189, e190, e187⟩ := mx_bind e187
        refine mG_iaload (pc := 54) C dX12_tryMergeRuns_54 e190 ?_
        refine mG_aload_n (pc := 55) C dX12_tryMergeRuns_55 rfl ?_
        refine mG_iload (pc := 56) C dX12_tryMergeRuns_56 rfl ?_
        obtain ⟨v191, e192, e187⟩ := mx_bind e187
        refine mG_iaload (pc := 58) C dX12_tryMergeRuns_58 e192 ?_
        refine mG_icmp_gt (pc := 59) (tgt := 202) C dX12_tryMergeRuns_59 (by decide) (fun q193 => ?_) (fun q193 => ?_)
        · rw [if_pos q193] at e187
          exact mG_sub (mxLe_n (mxLe_s (mxLe_s (mxLe_s (mxLe_s (mxLe_s (mxLe_s (mxLe_s (mxLe_s (mxLe_n (mxLe_n (mxLe_n mxLe_z)))))))))))) (J183 _ (hx185 _ (Option.some.inj e187).symm))
        · rw [if_neg q193] at e187
          refine mG_goto (tgt := 39) (pc := 62) C dX12_tryMergeRuns_62 (by decide) ?_
          exact mG_sub (mxLe_n (mxLe_s (mxLe_s (mxLe_s (mxLe_s (mxLe_s (mxLe_s (mxLe_s (mxLe_s (mxLe_n (mxLe_n (mxLe_n mxLe_z)))))))))))) (hK184 _ (Option.some.inj e187).symm)
theorem dX12_sort_l_0 : decode cX12_sort_ 0 = .ok (.iload 4, 2) := by decide +kernel
theorem dX12_sort_l_2 : decode cX12_sort_ 2 = .ok (.iconst 1, 1) := by decide +kernel
theorem dX12_sort_l_3 : decode cX12_sort_ 3 = .ok (.isub, 1) := by decide +kernel
theorem dX12_sort_l_4 : decode cX12_sort_ 4 = .ok (.istore 5, 2) := by decide +kernel
theorem dX12_sort_l_6 : decode cX12_sort_ 6 = .ok (.iload 4, 2) := by decide +kernel
theorem dX12_sort_l_8 : decode cX12_sort_ 8 = .ok (.iload_n 3, 1) := by decide +kernel
theorem dX12_sort_l_9 : decode cX12_sort_ 9 = .ok (.isub, 1) := by decide +kernel
theorem dX12_sort_l_10 : decode cX12_sort_ 10 = .ok (.istore 6, 2) := by decide +kernel
theorem dX12_sort_l_12 : decode cX12_sort_ 12 = .ok (.iload 6, 2) := by decide +kernel
theorem dX12_sort_l_14 : decode cX12_sort_ 14 = .ok (.bipush 65, 2) := by decide +kernel
theorem dX12_sort_l_16 : decode cX12_sort_ 16 = .ok (.iload_n 2, 1) := by decide +kernel
theorem dX12_sort_l_17 : decode cX12_sort_ 17 = .ok (.iadd, 1) := by decide +kernel
theorem dX12_sort_l_18 : decode cX12_sort_ 18 = .ok (.if_icmp .ge 28, 3) := by decide +kernel
theorem dX12_sort_l_21 : decode cX12_sort_ 21 = .ok (.iload_n 2, 1) := by decide +kernel
theorem dX12_sort_l_22 : decode cX12_sort_ 22 = .ok (.iconst 1, 1) := by decide +kernel
theorem dX12_sort_l_23 : decode cX12_sort_ 23 = .ok (.iand, 1) := by decide +kernel
theorem dX12_sort_l_24 : decode cX12_sort_ 24 = .ok (.ifCond .le 22, 3) := by decide +kernel
theorem dX12_sort_l_27 : decode cX12_sort_ 27 = .ok (.aload_n 1, 1) := by decide +kernel
theorem dX12_sort_l_28 : decode cX12_sort_ 28 = .ok (.iload_n 3, 1) := by decide +kernel
theorem dX12_sort_l_29 : decode cX12_sort_ 29 = .ok (.iload 4, 2) := by decide +kernel
theorem dX12_sort_l_31 : decode cX12_sort_ 31 = .ok (.iconst 3, 1) := by decide +kernel
theorem dX12_sort_l_32 : decode cX12_sort_ 32 = .ok (.iload 6, 2) := by decide +kernel
theorem dX12_sort_l_34 : decode cX12_sort_ 34 = .ok (.iconst 5, 1) := by decide +kernel
theorem dX12_sort_l_35 : decode cX12_sort_ 35 = .ok (.ishr, 1) := by decide +kernel
theorem dX12_sort_l_36 : decode cX12_sort_ 36 = .ok (.iconst 3, 1) := by decide +kernel
theorem dX12_sort_l_37 : decode cX12_sort_ 37 = .ok (.ishl, 1) := by decide +kernel
theorem dX12_sort_l_38 : decode cX12_sort_ 38 = .ok (.imul, 1) := by decide +kernel
theorem dX12_sort_l_39 : decode cX12_sort_ 39 = .ok (.isub, 1) := by decide +kernel
theorem dX12_sort_l_40 : decode cX12_sort_ 40 = .ok (.iload 4, 2) := by decide +kernel
theorem dX12_sort_l_42 : decode cX12_sort_ 42 = .ok (.invokestatic 30, 3) := by decide +kernel
theorem dX12_sort_l_45 : decode cX12_sort_ 45 = .ok (.return_, 1) := by decide +kernel
def fX12_sort_l (p1 : Nat) (p2 : Int32) (p3 : Int32) (p4 : Int32) (h : mxH) : Option mxH := (if (65 + p2) ≤ (p4 - p3) then none else (if (p2 &&& 1) ≤ 0 then none else Option.bind (fX12_mixedInsertionSort p1 p3 (p4 - (3 * (((p4 - p3) >>> ((5 : Int32) &&& 31)) <<< ((3 : Int32) &&& 31)))) p4 h) (fun o4 => some o4)))
abbrev rmX12_sort_l : Room := { frames := 1, cells := 0, slots := 0, locals := 27 }
set_option maxRecDepth 20000 in
set_option maxHeartbeats 1000000 in
theorem tX12_sort_l {l : Launch} {Z : mxZ} (hl : l.stackTraces = false) {p1 : Nat} {p2 : Int32} {p3 : Int32} {p4 : Int32} {h : mxH} {out : mxH} (hf : fX12_sort_l p1 p2 p3 p4 h = some out) : mxMet l Z yX12_sort_ cX12_sort_ 21 (none) rmX12_sort_l [.null, .ref p1, .int p2, .int p3, .int p4] h (.inl none) out := by
  refine mxMet_of (by decide) hl (by simp [Value.category]) (Nat.le_of_ble_eq_true rfl) ?_
  intro X C E hX hin
  unfold fX12_sort_l at hf
  refine mG_iload (pc := 0) C dX12_sort_l_0 rfl ?_
  refine mG_ic (pc := 2) C dX12_sort_l_2 kI1 ?_
  refine mG_isub (pc := 3) C dX12_sort_l_3 ?_
  refine mG_is (ls' := [some (.null), some (.ref p1), some (.int p2), some (.int p3), some (.int p4), some (.int (p4 - 1)), none, none, none, none, none, none, none, none, none, none, none, none, none, none, none]) (pc := 4) C dX12_sort_l_4 rfl rfl rfl ?_
  refine mG_iload (pc := 6) C dX12_sort_l_6 rfl ?_
  refine mG_iload_n (pc := 8) C dX12_sort_l_8 rfl ?_
  refine mG_isub (pc := 9) C dX12_sort_l_9 ?_
  refine mG_is (ls' := [some (.null), some (.ref p1), some (.int p2), some (.int p3), some (.int p4), some (.int (p4 - 1)), some (.int (p4 - p3)), none, none, none, none, none, none, none, none, none, none, none, none, none, none]) (pc := 10) C dX12_sort_l_10 rfl rfl rfl ?_
  refine mG_iload (pc := 12) C dX12_sort_l_12 rfl ?_
  refine mG_bp (pc := 14) C dX12_sort_l_14 kB65 ?_
  refine mG_iload_n (pc := 16) C dX12_sort_l_16 rfl ?_
  refine mG_iadd (pc := 17) C dX12_sort_l_17 ?_
  refine mG_icmp_ge (pc := 18) (tgt := 46) C dX12_sort_l_18 (by decide) (fun q1 => ?_) (fun q1 => ?_)
  · rw [if_pos q1] at hf
    cases hf
  · rw [if_neg q1] at hf
    refine mG_iload_n (pc := 21) C dX12_sort_l_21 rfl ?_
    refine mG_ic (pc := 22) C dX12_sort_l_22 kI1 ?_
    refine mG_iand (pc := 23) C dX12_sort_l_23 ?_
    refine mG_if_le (pc := 24) (tgt := 46) C dX12_sort_l_24 (by decide) (fun q2 => ?_) (fun q2 => ?_)
    · rw [if_pos q2] at hf
      cases hf
    · rw [if_neg q2] at hf
      refine mG_aload_n (pc := 27) C dX12_sort_l_27 rfl ?_
      refine mG_iload_n (pc := 28) C dX12_sort_l_28 rfl ?_
      refine mG_iload (pc := 29) C dX12_sort_l_29 rfl ?_
      refine mG_ic (pc := 31) C dX12_sort_l_31 kI3 ?_
      refine mG_iload (pc := 32) C dX12_sort_l_32 rfl ?_
      refine mG_ic (pc := 34) C dX12_sort_l_34 kI5 ?_
      refine mG_ishr (pc := 35) C dX12_sort_l_35 ?_
      refine mG_ic (pc := 36) C dX12_sort_l_36 kI3 ?_
      refine mG_ishl (pc := 37) C dX12_sort_l_37 ?_
      refine mG_imul (pc := 38) C dX12_sort_l_38 ?_
      refine mG_isub (pc := 39) C dX12_sort_l_39 ?_
      refine mG_iload (pc := 40) C dX12_sort_l_40 rfl ?_
      obtain ⟨o4, e3, hf⟩ := mx_bind hf
      refine mG_cS2 (pc := 42) (k' := 0) (n' := 0) (h' := o4) (v := none) [.ref p1, .int p3, .int (p4 - (3 * (((p4 - p3) >>> ((5 : Int32) &&& 31)) <<< ((3 : Int32) &&& 31)))), .int p4] [] C hX dX12_sort_l_42 lkS_X12_30 rfl (tX12_mixedInsertionSort hl e3) rfl rfl rfl ⟨Nat.le_of_ble_eq_true rfl, Nat.le_of_ble_eq_true rfl⟩ rfl ?_
      cases hf
      exact mG_vr2 (pc := 45) C E hX dX12_sort_l_45 ⟨Nat.le_of_ble_eq_true rfl, Nat.le_of_ble_eq_true rfl⟩
theorem dX12_sort__0 : decode cX12_sort_ 0 = .ok (.iload 4, 2) := by decide +kernel
theorem dX12_sort__2 : decode cX12_sort_ 2 = .ok (.iconst 1, 1) := by decide +kernel
theorem dX12_sort__3 : decode cX12_sort_ 3 = .ok (.isub, 1) := by decide +kernel
theorem dX12_sort__4 : decode cX12_sort_ 4 = .ok (.istore 5, 2) := by decide +kernel
theorem dX12_sort__6 : decode cX12_sort_ 6 = .ok (.iload 4, 2) := by decide +kernel
theorem dX12_sort__8 : decode cX12_sort_ 8 = .ok (.iload_n 3, 1) := by decide +kernel
theorem dX12_sort__9 : decode cX12_sort_ 9 = .ok (.isub, 1) := by decide +kernel
theorem dX12_sort__10 : decode cX12_sort_ 10 = .ok (.istore 6, 2) := by decide +kernel
theorem dX12_sort__12 : decode cX12_sort_ 12 = .ok (.iload 6, 2) := by decide +kernel
theorem dX12_sort__14 : decode cX12_sort_ 14 = .ok (.bipush 65, 2) := by decide +kernel
theorem dX12_sort__16 : decode cX12_sort_ 16 = .ok (.iload_n 2, 1) := by decide +kernel
theorem dX12_sort__17 : decode cX12_sort_ 17 = .ok (.iadd, 1) := by decide +kernel
theorem dX12_sort__18 : decode cX12_sort_ 18 = .ok (.if_icmp .ge 28, 3) := by decide +kernel
theorem dX12_sort__21 : decode cX12_sort_ 21 = .ok (.iload_n 2, 1) := by decide +kernel
theorem dX12_sort__22 : decode cX12_sort_ 22 = .ok (.iconst 1, 1) := by decide +kernel
theorem dX12_sort__23 : decode cX12_sort_ 23 = .ok (.iand, 1) := by decide +kernel
theorem dX12_sort__24 : decode cX12_sort_ 24 = .ok (.ifCond .le 22, 3) := by decide +kernel
theorem dX12_sort__46 : decode cX12_sort_ 46 = .ok (.iload 6, 2) := by decide +kernel
theorem dX12_sort__48 : decode cX12_sort_ 48 = .ok (.bipush 44, 2) := by decide +kernel
theorem dX12_sort__50 : decode cX12_sort_ 50 = .ok (.if_icmp .ge 11, 3) := by decide +kernel
theorem dX12_sort__53 : decode cX12_sort_ 53 = .ok (.aload_n 1, 1) := by decide +kernel
theorem dX12_sort__54 : decode cX12_sort_ 54 = .ok (.iload_n 3, 1) := by decide +kernel
theorem dX12_sort__55 : decode cX12_sort_ 55 = .ok (.iload 4, 2) := by decide +kernel
theorem dX12_sort__57 : decode cX12_sort_ 57 = .ok (.invokestatic 34, 3) := by decide +kernel
theorem dX12_sort__60 : decode cX12_sort_ 60 = .ok (.return_, 1) := by decide +kernel
theorem dX12_sort__61 : decode cX12_sort_ 61 = .ok (.iload_n 2, 1) := by decide +kernel
theorem dX12_sort__62 : decode cX12_sort_ 62 = .ok (.ifCond .eq 17, 3) := by decide +kernel
theorem dX12_sort__65 : decode cX12_sort_ 65 = .ok (.iload 6, 2) := by decide +kernel
theorem dX12_sort__67 : decode cX12_sort_ 67 = .ok (.sipush 4096, 3) := by decide +kernel
theorem dX12_sort__70 : decode cX12_sort_ 70 = .ok (.if_icmp .le 21, 3) := by decide +kernel
theorem dX12_sort__79 : decode cX12_sort_ 79 = .ok (.aload_n 0, 1) := by decide +kernel
theorem dX12_sort__80 : decode cX12_sort_ 80 = .ok (.aload_n 1, 1) := by decide +kernel
theorem dX12_sort__81 : decode cX12_sort_ 81 = .ok (.iload_n 3, 1) := by decide +kernel
theorem dX12_sort__82 : decode cX12_sort_ 82 = .ok (.iload 6, 2) := by decide +kernel
theorem dX12_sort__84 : decode cX12_sort_ 84 = .ok (.invokestatic 38, 3) := by decide +kernel
theorem dX12_sort__87 : decode cX12_sort_ 87 = .ok (.ifCond .eq 4, 3) := by decide +kernel
theorem dX12_sort__90 : decode cX12_sort_ 90 = .ok (.return_, 1) := by decide +kernel
theorem dX12_sort__91 : decode cX12_sort_ 91 = .ok (.iinc 2 6, 3) := by decide +kernel
theorem dX12_sort__94 : decode cX12_sort_ 94 = .ok (.iload_n 2, 1) := by decide +kernel
theorem dX12_sort__95 : decode cX12_sort_ 95 = .ok (.sipush 384, 3) := by decide +kernel
theorem dX12_sort__98 : decode cX12_sort_ 98 = .ok (.if_icmp .le 11, 3) := by decide +kernel
theorem dX12_sort__109 : decode cX12_sort_ 109 = .ok (.iload 6, 2) := by decide +kernel
theorem dX12_sort__111 : decode cX12_sort_ 111 = .ok (.iconst 3, 1) := by decide +kernel
theorem dX12_sort__112 : decode cX12_sort_ 112 = .ok (.ishr, 1) := by decide +kernel
theorem dX12_sort__113 : decode cX12_sort_ 113 = .ok (.iconst 3, 1) := by decide +kernel
theorem dX12_sort__114 : decode cX12_sort_ 114 = .ok (.imul, 1) := by decide +kernel
theorem dX12_sort__115 : decode cX12_sort_ 115 = .ok (.iconst 3, 1) := by decide +kernel
theorem dX12_sort__116 : decode cX12_sort_ 116 = .ok (.iadd, 1) := by decide +kernel
theorem dX12_sort__117 : decode cX12_sort_ 117 = .ok (.istore 7, 2) := by decide +kernel
theorem dX12_sort__119 : decode cX12_sort_ 119 = .ok (.iload_n 3, 1) := by decide +kernel
theorem dX12_sort__120 : decode cX12_sort_ 120 = .ok (.iload 7, 2) := by decide +kernel
theorem dX12_sort__122 : decode cX12_sort_ 122 = .ok (.iadd, 1) := by decide +kernel
theorem dX12_sort__123 : decode cX12_sort_ 123 = .ok (.istore 8, 2) := by decide +kernel
theorem dX12_sort__125 : decode cX12_sort_ 125 = .ok (.iload 5, 2) := by decide +kernel
theorem dX12_sort__127 : decode cX12_sort_ 127 = .ok (.iload 7, 2) := by decide +kernel
theorem dX12_sort__129 : decode cX12_sort_ 129 = .ok (.isub, 1) := by decide +kernel
theorem dX12_sort__130 : decode cX12_sort_ 130 = .ok (.istore 9, 2) := by decide +kernel
theorem dX12_sort__132 : decode cX12_sort_ 132 = .ok (.iload 8, 2) := by decide +kernel
theorem dX12_sort__134 : decode cX12_sort_ 134 = .ok (.iload 9, 2) := by decide +kernel
theorem dX12_sort__136 : decode cX12_sort_ 136 = .ok (.iadd, 1) := by decide +kernel
theorem dX12_sort__137 : decode cX12_sort_ 137 = .ok (.iconst 1, 1) := by decide +kernel
theorem dX12_sort__138 : decode cX12_sort_ 138 = .ok (.iushr, 1) := by decide +kernel
theorem dX12_sort__139 : decode cX12_sort_ 139 = .ok (.istore 10, 2) := by decide +kernel
theorem dX12_sort__141 : decode cX12_sort_ 141 = .ok (.iload 8, 2) := by decide +kernel
theorem dX12_sort__143 : decode cX12_sort_ 143 = .ok (.iload 10, 2) := by decide +kernel
theorem dX12_sort__145 : decode cX12_sort_ 145 = .ok (.iadd, 1) := by decide +kernel
theorem dX12_sort__146 : decode cX12_sort_ 146 = .ok (.iconst 1, 1) := by decide +kernel
theorem dX12_sort__147 : decode cX12_sort_ 147 = .ok (.iushr, 1) := by decide +kernel
theorem dX12_sort__148 : decode cX12_sort_ 148 = .ok (.istore 11, 2) := by decide +kernel
theorem dX12_sort__150 : decode cX12_sort_ 150 = .ok (.iload 10, 2) := by decide +kernel
theorem dX12_sort__152 : decode cX12_sort_ 152 = .ok (.iload 9, 2) := by decide +kernel
theorem dX12_sort__154 : decode cX12_sort_ 154 = .ok (.iadd, 1) := by decide +kernel
theorem dX12_sort__155 : decode cX12_sort_ 155 = .ok (.iconst 1, 1) := by decide +kernel
theorem dX12_sort__156 : decode cX12_sort_ 156 = .ok (.iushr, 1) := by decide +kernel
theorem dX12_sort__157 : decode cX12_sort_ 157 = .ok (.istore 12, 2) := by decide +kernel
theorem dX12_sort__159 : decode cX12_sort_ 159 = .ok (.aload_n 1, 1) := by decide +kernel
theorem dX12_sort__160 : decode cX12_sort_ 160 = .ok (.iload 10, 2) := by decide +kernel
theorem dX12_sort__162 : decode cX12_sort_ 162 = .ok (.iaload, 1) := by decide +kernel
theorem dX12_sort__163 : decode cX12_sort_ 163 = .ok (.istore 13, 2) := by decide +kernel
theorem dX12_sort__165 : decode cX12_sort_ 165 = .ok (.aload_n 1, 1) := by decide +kernel
theorem dX12_sort__166 : decode cX12_sort_ 166 = .ok (.iload 9, 2) := by decide +kernel
theorem dX12_sort__168 : decode cX12_sort_ 168 = .ok (.iaload, 1) := by decide +kernel
theorem dX12_sort__169 : decode cX12_sort_ 169 = .ok (.aload_n 1, 1) := by decide +kernel
theorem dX12_sort__170 : decode cX12_sort_ 170 = .ok (.iload 11, 2) := by decide +kernel
theorem dX12_sort__172 : decode cX12_sort_ 172 = .ok (.iaload, 1) := by decide +kernel
theorem dX12_sort__173 : decode cX12_sort_ 173 = .ok (.if_icmp .ge 23, 3) := by decide +kernel
theorem dX12_sort__176 : decode cX12_sort_ 176 = .ok (.aload_n 1, 1) := by decide +kernel
theorem dX12_sort__177 : decode cX12_sort_ 177 = .ok (.iload 9, 2) := by decide +kernel
theorem dX12_sort__179 : decode cX12_sort_ 179 = .ok (.iaload, 1) := by decide +kernel
theorem dX12_sort__180 : decode cX12_sort_ 180 = .ok (.istore 14, 2) := by decide +kernel
theorem dX12_sort__182 : decode cX12_sort_ 182 = .ok (.aload_n 1, 1) := by decide +kernel
theorem dX12_sort__183 : decode cX12_sort_ 183 = .ok (.iload 9, 2) := by decide +kernel
theorem dX12_sort__185 : decode cX12_sort_ 185 = .ok (.aload_n 1, 1) := by decide +kernel
theorem dX12_sort__186 : decode cX12_sort_ 186 = .ok (.iload 11, 2) := by decide +kernel
theorem dX12_sort__188 : decode cX12_sort_ 188 = .ok (.iaload, 1) := by decide +kernel
theorem dX12_sort__189 : decode cX12_sort_ 189 = .ok (.iastore, 1) := by decide +kernel
theorem dX12_sort__190 : decode cX12_sort_ 190 = .ok (.aload_n 1, 1) := by decide +kernel
theorem dX12_sort__191 : decode cX12_sort_ 191 = .ok (.iload 11, 2) := by decide +kernel
theorem dX12_sort__193 : decode cX12_sort_ 193 = .ok (.iload 14, 2) := by decide +kernel
theorem dX12_sort__195 : decode cX12_sort_ 195 = .ok (.iastore, 1) := by decide +kernel
theorem dX12_sort__196 : decode cX12_sort_ 196 = .ok (.aload_n 1, 1) := by decide +kernel
theorem dX12_sort__197 : decode cX12_sort_ 197 = .ok (.iload 12, 2) := by decide +kernel
theorem dX12_sort__199 : decode cX12_sort_ 199 = .ok (.iaload, 1) := by decide +kernel
theorem dX12_sort__200 : decode cX12_sort_ 200 = .ok (.aload_n 1, 1) := by decide +kernel
theorem dX12_sort__201 : decode cX12_sort_ 201 = .ok (.iload 8, 2) := by decide +kernel
theorem dX12_sort__203 : decode cX12_sort_ 203 = .ok (.iaload, 1) := by decide +kernel
theorem dX12_sort__204 : decode cX12_sort_ 204 = .ok (.if_icmp .ge 23, 3) := by decide +kernel
theorem dX12_sort__207 : decode cX12_sort_ 207 = .ok (.aload_n 1, 1) := by decide +kernel
theorem dX12_sort__208 : decode cX12_sort_ 208 = .ok (.iload 12, 2) := by decide +kernel
theorem dX12_sort__210 : decode cX12_sort_ 210 = .ok (.iaload, 1) := by decide +kernel
theorem dX12_sort__211 : decode cX12_sort_ 211 = .ok (.istore 14, 2) := by decide +kernel
theorem dX12_sort__213 : decode cX12_sort_ 213 = .ok (.aload_n 1, 1) := by decide +kernel
theorem dX12_sort__214 : decode cX12_sort_ 214 = .ok (.iload 12, 2) := by decide +kernel
theorem dX12_sort__216 : decode cX12_sort_ 216 = .ok (.aload_n 1, 1) := by decide +kernel
theorem dX12_sort__217 : decode cX12_sort_ 217 = .ok (.iload 8, 2) := by decide +kernel
theorem dX12_sort__219 : decode cX12_sort_ 219 = .ok (.iaload, 1) := by decide +kernel
theorem dX12_sort__220 : decode cX12_sort_ 220 = .ok (.iastore, 1) := by decide +kernel
theorem dX12_sort__221 : decode cX12_sort_ 221 = .ok (.aload_n 1, 1) := by decide +kernel
theorem dX12_sort__222 : decode cX12_sort_ 222 = .ok (.iload 8, 2) := by decide +kernel
theorem dX12_sort__224 : decode cX12_sort_ 224 = .ok (.iload 14, 2) := by decide +kernel
theorem dX12_sort__226 : decode cX12_sort_ 226 = .ok (.iastore, 1) := by decide +kernel
theorem dX12_sort__227 : decode cX12_sort_ 227 = .ok (.aload_n 1, 1) := by decide +kernel
theorem dX12_sort__228 : decode cX12_sort_ 228 = .ok (.iload 9, 2) := by decide +kernel
theorem dX12_sort__230 : decode cX12_sort_ 230 = .ok (.iaload, 1) := by decide +kernel
theorem dX12_sort__231 : decode cX12_sort_ 231 = .ok (.aload_n 1, 1) := by decide +kernel
theorem dX12_sort__232 : decode cX12_sort_ 232 = .ok (.iload 12, 2) := by decide +kernel
theorem dX12_sort__234 : decode cX12_sort_ 234 = .ok (.iaload, 1) := by decide +kernel
theorem dX12_sort__235 : decode cX12_sort_ 235 = .ok (.if_icmp .ge 23, 3) := by decide +kernel
theorem dX12_sort__238 : decode cX12_sort_ 238 = .ok (.aload_n 1, 1) := by decide +kernel
theorem dX12_sort__239 : decode cX12_sort_ 239 = .ok (.iload 9, 2) := by decide +kernel
theorem dX12_sort__241 : decode cX12_sort_ 241 = .ok (.iaload, 1) := by decide +kernel
theorem dX12_sort__242 : decode cX12_sort_ 242 = .ok (.istore 14, 2) := by decide +kernel
theorem dX12_sort__244 : decode cX12_sort_ 244 = .ok (.aload_n 1, 1) := by decide +kernel
theorem dX12_sort__245 : decode cX12_sort_ 245 = .ok (.iload 9, 2) := by decide +kernel
theorem dX12_sort__247 : decode cX12_sort_ 247 = .ok (.aload_n 1, 1) := by decide +kernel
theorem dX12_sort__248 : decode cX12_sort_ 248 = .ok (.iload 12, 2) := by decide +kernel
theorem dX12_sort__250 : decode cX12_sort_ 250 = .ok (.iaload, 1) := by decide +kernel
theorem dX12_sort__251 : decode cX12_sort_ 251 = .ok (.iastore, 1) := by decide +kernel
theorem dX12_sort__252 : decode cX12_sort_ 252 = .ok (.aload_n 1, 1) := by decide +kernel
theorem dX12_sort__253 : decode cX12_sort_ 253 = .ok (.iload 12, 2) := by decide +kernel
theorem dX12_sort__255 : decode cX12_sort_ 255 = .ok (.iload 14, 2) := by decide +kernel
theorem dX12_sort__257 : decode cX12_sort_ 257 = .ok (.iastore, 1) := by decide +kernel
theorem dX12_sort__258 : decode cX12_sort_ 258 = .ok (.aload_n 1, 1) := by decide +kernel
theorem dX12_sort__259 : decode cX12_sort_ 259 = .ok (.iload 11, 2) := by decide +kernel
theorem dX12_sort__261 : decode cX12_sort_ 261 = .ok (.iaload, 1) := by decide +kernel
theorem dX12_sort__262 : decode cX12_sort_ 262 = .ok (.aload_n 1, 1) := by decide +kernel
theorem dX12_sort__263 : decode cX12_sort_ 263 = .ok (.iload 8, 2) := by decide +kernel
theorem dX12_sort__265 : decode cX12_sort_ 265 = .ok (.iaload, 1) := by decide +kernel
theorem dX12_sort__266 : decode cX12_sort_ 266 = .ok (.if_icmp .ge 23, 3) := by decide +kernel
theorem dX12_sort__269 : decode cX12_sort_ 269 = .ok (.aload_n 1, 1) := by decide +kernel
theorem dX12_sort__270 : decode cX12_sort_ 270 = .ok (.iload 11, 2) := by decide +kernel
theorem dX12_sort__272 : decode cX12_sort_ 272 = .ok (.iaload, 1) := by decide +kernel
theorem dX12_sort__273 : decode cX12_sort_ 273 = .ok (.istore 14, 2) := by decide +kernel
theorem dX12_sort__275 : decode cX12_sort_ 275 = .ok (.aload_n 1, 1) := by decide +kernel
theorem dX12_sort__276 : decode cX12_sort_ 276 = .ok (.iload 11, 2) := by decide +kernel
theorem dX12_sort__278 : decode cX12_sort_ 278 = .ok (.aload_n 1, 1) := by decide +kernel
theorem dX12_sort__279 : decode cX12_sort_ 279 = .ok (.iload 8, 2) := by decide +kernel
theorem dX12_sort__281 : decode cX12_sort_ 281 = .ok (.iaload, 1) := by decide +kernel
theorem dX12_sort__282 : decode cX12_sort_ 282 = .ok (.iastore, 1) := by decide +kernel
theorem dX12_sort__283 : decode cX12_sort_ 283 = .ok (.aload_n 1, 1) := by decide +kernel
theorem dX12_sort__284 : decode cX12_sort_ 284 = .ok (.iload 8, 2) := by decide +kernel
theorem dX12_sort__286 : decode cX12_sort_ 286 = .ok (.iload 14, 2) := by decide +kernel
theorem dX12_sort__288 : decode cX12_sort_ 288 = .ok (.iastore, 1) := by decide +kernel
theorem dX12_sort__289 : decode cX12_sort_ 289 = .ok (.aload_n 1, 1) := by decide +kernel
theorem dX12_sort__290 : decode cX12_sort_ 290 = .ok (.iload 12, 2) := by decide +kernel
theorem dX12_sort__292 : decode cX12_sort_ 292 = .ok (.iaload, 1) := by decide +kernel
theorem dX12_sort__293 : decode cX12_sort_ 293 = .ok (.aload_n 1, 1) := by decide +kernel
theorem dX12_sort__294 : decode cX12_sort_ 294 = .ok (.iload 11, 2) := by decide +kernel
theorem dX12_sort__296 : decode cX12_sort_ 296 = .ok (.iaload, 1) := by decide +kernel
theorem dX12_sort__297 : decode cX12_sort_ 297 = .ok (.if_icmp .ge 23, 3) := by decide +kernel
theorem dX12_sort__300 : decode cX12_sort_ 300 = .ok (.aload_n 1, 1) := by decide +kernel
theorem dX12_sort__301 : decode cX12_sort_ 301 = .ok (.iload 12, 2) := by decide +kernel
theorem dX12_sort__303 : decode cX12_sort_ 303 = .ok (.iaload, 1) := by decide +kernel
theorem dX12_sort__304 : decode cX12_sort_ 304 = .ok (.istore 14, 2) := by decide +kernel
theorem dX12_sort__306 : decode cX12_sort_ 306 = .ok (.aload_n 1, 1) := by decide +kernel
theorem dX12_sort__307 : decode cX12_sort_ 307 = .ok (.iload 12, 2) := by decide +kernel
theorem dX12_sort__309 : decode cX12_sort_ 309 = .ok (.aload_n 1, 1) := by decide +kernel
theorem dX12_sort__310 : decode cX12_sort_ 310 = .ok (.iload 11, 2) := by decide +kernel
theorem dX12_sort__312 : decode cX12_sort_ 312 = .ok (.iaload, 1) := by decide +kernel
theorem dX12_sort__313 : decode cX12_sort_ 313 = .ok (.iastore, 1) := by decide +kernel
theorem dX12_sort__314 : decode cX12_sort_ 314 = .ok (.aload_n 1, 1) := by decide +kernel
theorem dX12_sort__315 : decode cX12_sort_ 315 = .ok (.iload 11, 2) := by decide +kernel
theorem dX12_sort__317 : decode cX12_sort_ 317 = .ok (.iload 14, 2) := by decide +kernel
theorem dX12_sort__319 : decode cX12_sort_ 319 = .ok (.iastore, 1) := by decide +kernel
theorem dX12_sort__320 : decode cX12_sort_ 320 = .ok (.iload 13, 2) := by decide +kernel
theorem dX12_sort__322 : decode cX12_sort_ 322 = .ok (.aload_n 1, 1) := by decide +kernel
theorem dX12_sort__323 : decode cX12_sort_ 323 = .ok (.iload 11, 2) := by decide +kernel
theorem dX12_sort__325 : decode cX12_sort_ 325 = .ok (.iaload, 1) := by decide +kernel
theorem dX12_sort__326 : decode cX12_sort_ 326 = .ok (.if_icmp .ge 54, 3) := by decide +kernel
theorem dX12_sort__329 : decode cX12_sort_ 329 = .ok (.iload 13, 2) := by decide +kernel
theorem dX12_sort__331 : decode cX12_sort_ 331 = .ok (.aload_n 1, 1) := by decide +kernel
theorem dX12_sort__332 : decode cX12_sort_ 332 = .ok (.iload 8, 2) := by decide +kernel
theorem dX12_sort__334 : decode cX12_sort_ 334 = .ok (.iaload, 1) := by decide +kernel
theorem dX12_sort__335 : decode cX12_sort_ 335 = .ok (.if_icmp .ge 28, 3) := by decide +kernel
theorem dX12_sort__338 : decode cX12_sort_ 338 = .ok (.aload_n 1, 1) := by decide +kernel
theorem dX12_sort__339 : decode cX12_sort_ 339 = .ok (.iload 10, 2) := by decide +kernel
theorem dX12_sort__341 : decode cX12_sort_ 341 = .ok (.aload_n 1, 1) := by decide +kernel
theorem dX12_sort__342 : decode cX12_sort_ 342 = .ok (.iload 11, 2) := by decide +kernel
theorem dX12_sort__344 : decode cX12_sort_ 344 = .ok (.iaload, 1) := by decide +kernel
theorem dX12_sort__345 : decode cX12_sort_ 345 = .ok (.iastore, 1) := by decide +kernel
theorem dX12_sort__346 : decode cX12_sort_ 346 = .ok (.aload_n 1, 1) := by decide +kernel
theorem dX12_sort__347 : decode cX12_sort_ 347 = .ok (.iload 11, 2) := by decide +kernel
theorem dX12_sort__349 : decode cX12_sort_ 349 = .ok (.aload_n 1, 1) := by decide +kernel
theorem dX12_sort__350 : decode cX12_sort_ 350 = .ok (.iload 8, 2) := by decide +kernel
theorem dX12_sort__352 : decode cX12_sort_ 352 = .ok (.iaload, 1) := by decide +kernel
theorem dX12_sort__353 : decode cX12_sort_ 353 = .ok (.iastore, 1) := by decide +kernel
theorem dX12_sort__354 : decode cX12_sort_ 354 = .ok (.aload_n 1, 1) := by decide +kernel
theorem dX12_sort__355 : decode cX12_sort_ 355 = .ok (.iload 8, 2) := by decide +kernel
theorem dX12_sort__357 : decode cX12_sort_ 357 = .ok (.iload 13, 2) := by decide +kernel
theorem dX12_sort__359 : decode cX12_sort_ 359 = .ok (.iastore, 1) := by decide +kernel
theorem dX12_sort__360 : decode cX12_sort_ 360 = .ok (.goto 77, 3) := by decide +kernel
theorem dX12_sort__363 : decode cX12_sort_ 363 = .ok (.aload_n 1, 1) := by decide +kernel
theorem dX12_sort__364 : decode cX12_sort_ 364 = .ok (.iload 10, 2) := by decide +kernel
theorem dX12_sort__366 : decode cX12_sort_ 366 = .ok (.aload_n 1, 1) := by decide +kernel
theorem dX12_sort__367 : decode cX12_sort_ 367 = .ok (.iload 11, 2) := by decide +kernel
theorem dX12_sort__369 : decode cX12_sort_ 369 = .ok (.iaload, 1) := by decide +kernel
theorem dX12_sort__370 : decode cX12_sort_ 370 = .ok (.iastore, 1) := by decide +kernel
theorem dX12_sort__371 : decode cX12_sort_ 371 = .ok (.aload_n 1, 1) := by decide +kernel
theorem dX12_sort__372 : decode cX12_sort_ 372 = .ok (.iload 11, 2) := by decide +kernel
theorem dX12_sort__374 : decode cX12_sort_ 374 = .ok (.iload 13, 2) := by decide +kernel
theorem dX12_sort__376 : decode cX12_sort_ 376 = .ok (.iastore, 1) := by decide +kernel
theorem dX12_sort__377 : decode cX12_sort_ 377 = .ok (.goto 60, 3) := by decide +kernel
theorem dX12_sort__380 : decode cX12_sort_ 380 = .ok (.iload 13, 2) := by decide +kernel
theorem dX12_sort__382 : decode cX12_sort_ 382 = .ok (.aload_n 1, 1) := by decide +kernel
theorem dX12_sort__383 : decode cX12_sort_ 383 = .ok (.iload 12, 2) := by decide +kernel
theorem dX12_sort__385 : decode cX12_sort_ 385 = .ok (.iaload, 1) := by decide +kernel
theorem dX12_sort__386 : decode cX12_sort_ 386 = .ok (.if_icmp .le 51, 3) := by decide +kernel
theorem dX12_sort__389 : decode cX12_sort_ 389 = .ok (.iload 13, 2) := by decide +kernel
theorem dX12_sort__391 : decode cX12_sort_ 391 = .ok (.aload_n 1, 1) := by decide +kernel
theorem dX12_sort__392 : decode cX12_sort_ 392 = .ok (.iload 9, 2) := by decide +kernel
theorem dX12_sort__394 : decode cX12_sort_ 394 = .ok (.iaload, 1) := by decide +kernel
theorem dX12_sort__395 : decode cX12_sort_ 395 = .ok (.if_icmp .le 28, 3) := by decide +kernel
theorem dX12_sort__398 : decode cX12_sort_ 398 = .ok (.aload_n 1, 1) := by decide +kernel
theorem dX12_sort__399 : decode cX12_sort_ 399 = .ok (.iload 10, 2) := by decide +kernel
theorem dX12_sort__401 : decode cX12_sort_ 401 = .ok (.aload_n 1, 1) := by decide +kernel
theorem dX12_sort__402 : decode cX12_sort_ 402 = .ok (.iload 12, 2) := by decide +kernel
theorem dX12_sort__404 : decode cX12_sort_ 404 = .ok (.iaload, 1) := by decide +kernel
theorem dX12_sort__405 : decode cX12_sort_ 405 = .ok (.iastore, 1) := by decide +kernel
theorem dX12_sort__406 : decode cX12_sort_ 406 = .ok (.aload_n 1, 1) := by decide +kernel
theorem dX12_sort__407 : decode cX12_sort_ 407 = .ok (.iload 12, 2) := by decide +kernel
theorem dX12_sort__409 : decode cX12_sort_ 409 = .ok (.aload_n 1, 1) := by decide +kernel
theorem dX12_sort__410 : decode cX12_sort_ 410 = .ok (.iload 9, 2) := by decide +kernel
theorem dX12_sort__412 : decode cX12_sort_ 412 = .ok (.iaload, 1) := by decide +kernel
theorem dX12_sort__413 : decode cX12_sort_ 413 = .ok (.iastore, 1) := by decide +kernel
theorem dX12_sort__414 : decode cX12_sort_ 414 = .ok (.aload_n 1, 1) := by decide +kernel
theorem dX12_sort__415 : decode cX12_sort_ 415 = .ok (.iload 9, 2) := by decide +kernel
theorem dX12_sort__417 : decode cX12_sort_ 417 = .ok (.iload 13, 2) := by decide +kernel
theorem dX12_sort__419 : decode cX12_sort_ 419 = .ok (.iastore, 1) := by decide +kernel
theorem dX12_sort__420 : decode cX12_sort_ 420 = .ok (.goto 17, 3) := by decide +kernel
theorem dX12_sort__423 : decode cX12_sort_ 423 = .ok (.aload_n 1, 1) := by decide +kernel
theorem dX12_sort__424 : decode cX12_sort_ 424 = .ok (.iload 10, 2) := by decide +kernel
theorem dX12_sort__426 : decode cX12_sort_ 426 = .ok (.aload_n 1, 1) := by decide +kernel
theorem dX12_sort__427 : decode cX12_sort_ 427 = .ok (.iload 12, 2) := by decide +kernel
theorem dX12_sort__429 : decode cX12_sort_ 429 = .ok (.iaload, 1) := by decide +kernel
theorem dX12_sort__430 : decode cX12_sort_ 430 = .ok (.iastore, 1) := by decide +kernel
theorem dX12_sort__431 : decode cX12_sort_ 431 = .ok (.aload_n 1, 1) := by decide +kernel
theorem dX12_sort__432 : decode cX12_sort_ 432 = .ok (.iload 12, 2) := by decide +kernel
theorem dX12_sort__434 : decode cX12_sort_ 434 = .ok (.iload 13, 2) := by decide +kernel
theorem dX12_sort__436 : decode cX12_sort_ 436 = .ok (.iastore, 1) := by decide +kernel
theorem dX12_sort__437 : decode cX12_sort_ 437 = .ok (.iload_n 3, 1) := by decide +kernel
theorem dX12_sort__438 : decode cX12_sort_ 438 = .ok (.istore 14, 2) := by decide +kernel
theorem dX12_sort__440 : decode cX12_sort_ 440 = .ok (.iload 5, 2) := by decide +kernel
theorem dX12_sort__442 : decode cX12_sort_ 442 = .ok (.istore 15, 2) := by decide +kernel
theorem dX12_sort__444 : decode cX12_sort_ 444 = .ok (.aload_n 1, 1) := by decide +kernel
theorem dX12_sort__445 : decode cX12_sort_ 445 = .ok (.iload 8, 2) := by decide +kernel
theorem dX12_sort__447 : decode cX12_sort_ 447 = .ok (.iaload, 1) := by decide +kernel
theorem dX12_sort__448 : decode cX12_sort_ 448 = .ok (.aload_n 1, 1) := by decide +kernel
theorem dX12_sort__449 : decode cX12_sort_ 449 = .ok (.iload 11, 2) := by decide +kernel
theorem dX12_sort__451 : decode cX12_sort_ 451 = .ok (.iaload, 1) := by decide +kernel
theorem dX12_sort__452 : decode cX12_sort_ 452 = .ok (.if_icmp .ge 324, 3) := by decide +kernel
theorem dX12_sort__455 : decode cX12_sort_ 455 = .ok (.aload_n 1, 1) := by decide +kernel
theorem dX12_sort__456 : decode cX12_sort_ 456 = .ok (.iload 11, 2) := by decide +kernel
theorem dX12_sort__458 : decode cX12_sort_ 458 = .ok (.iaload, 1) := by decide +kernel
theorem dX12_sort__459 : decode cX12_sort_ 459 = .ok (.aload_n 1, 1) := by decide +kernel
theorem dX12_sort__460 : decode cX12_sort_ 460 = .ok (.iload 10, 2) := by decide +kernel
theorem dX12_sort__462 : decode cX12_sort_ 462 = .ok (.iaload, 1) := by decide +kernel
theorem dX12_sort__463 : decode cX12_sort_ 463 = .ok (.if_icmp .ge 313, 3) := by decide +kernel
theorem dX12_sort__466 : decode cX12_sort_ 466 = .ok (.aload_n 1, 1) := by decide +kernel
theorem dX12_sort__467 : decode cX12_sort_ 467 = .ok (.iload 10, 2) := by decide +kernel
theorem dX12_sort__469 : decode cX12_sort_ 469 = .ok (.iaload, 1) := by decide +kernel
theorem dX12_sort__470 : decode cX12_sort_ 470 = .ok (.aload_n 1, 1) := by decide +kernel
theorem dX12_sort__471 : decode cX12_sort_ 471 = .ok (.iload 12, 2) := by decide +kernel
theorem dX12_sort__473 : decode cX12_sort_ 473 = .ok (.iaload, 1) := by decide +kernel
theorem dX12_sort__474 : decode cX12_sort_ 474 = .ok (.if_icmp .ge 302, 3) := by decide +kernel
theorem dX12_sort__477 : decode cX12_sort_ 477 = .ok (.aload_n 1, 1) := by decide +kernel
theorem dX12_sort__478 : decode cX12_sort_ 478 = .ok (.iload 12, 2) := by decide +kernel
theorem dX12_sort__480 : decode cX12_sort_ 480 = .ok (.iaload, 1) := by decide +kernel
theorem dX12_sort__481 : decode cX12_sort_ 481 = .ok (.aload_n 1, 1) := by decide +kernel
theorem dX12_sort__482 : decode cX12_sort_ 482 = .ok (.iload 9, 2) := by decide +kernel
theorem dX12_sort__484 : decode cX12_sort_ 484 = .ok (.iaload, 1) := by decide +kernel
theorem dX12_sort__485 : decode cX12_sort_ 485 = .ok (.if_icmp .ge 291, 3) := by decide +kernel
theorem dX12_sort__488 : decode cX12_sort_ 488 = .ok (.aload_n 1, 1) := by decide +kernel
theorem dX12_sort__489 : decode cX12_sort_ 489 = .ok (.iload 8, 2) := by decide +kernel
theorem dX12_sort__491 : decode cX12_sort_ 491 = .ok (.iaload, 1) := by decide +kernel
theorem dX12_sort__492 : decode cX12_sort_ 492 = .ok (.istore 16, 2) := by decide +kernel
theorem dX12_sort__494 : decode cX12_sort_ 494 = .ok (.aload_n 1, 1) := by decide +kernel
theorem dX12_sort__495 : decode cX12_sort_ 495 = .ok (.iload 9, 2) := by decide +kernel
theorem dX12_sort__497 : decode cX12_sort_ 497 = .ok (.iaload, 1) := by decide +kernel
theorem dX12_sort__498 : decode cX12_sort_ 498 = .ok (.istore 17, 2) := by decide +kernel
theorem dX12_sort__500 : decode cX12_sort_ 500 = .ok (.aload_n 1, 1) := by decide +kernel
theorem dX12_sort__501 : decode cX12_sort_ 501 = .ok (.iload 8, 2) := by decide +kernel
theorem dX12_sort__503 : decode cX12_sort_ 503 = .ok (.aload_n 1, 1) := by decide +kernel
theorem dX12_sort__504 : decode cX12_sort_ 504 = .ok (.iload 14, 2) := by decide +kernel
theorem dX12_sort__506 : decode cX12_sort_ 506 = .ok (.iaload, 1) := by decide +kernel
theorem dX12_sort__507 : decode cX12_sort_ 507 = .ok (.iastore, 1) := by decide +kernel
theorem dX12_sort__508 : decode cX12_sort_ 508 = .ok (.aload_n 1, 1) := by decide +kernel
theorem dX12_sort__509 : decode cX12_sort_ 509 = .ok (.iload 9, 2) := by decide +kernel
theorem dX12_sort__511 : decode cX12_sort_ 511 = .ok (.aload_n 1, 1) := by decide +kernel
theorem dX12_sort__512 : decode cX12_sort_ 512 = .ok (.iload 15, 2) := by decide +kernel
theorem dX12_sort__514 : decode cX12_sort_ 514 = .ok (.iaload, 1) := by decide +kernel
theorem dX12_sort__515 : decode cX12_sort_ 515 = .ok (.iastore, 1) := by decide +kernel
theorem dX12_sort__516 : decode cX12_sort_ 516 = .ok (.aload_n 1, 1) := by decide +kernel
theorem dX12_sort__517 : decode cX12_sort_ 517 = .ok (.iinc 14 1, 3) := by decide +kernel
theorem dX12_sort__520 : decode cX12_sort_ 520 = .ok (.iload 14, 2) := by decide +kernel
theorem dX12_sort__522 : decode cX12_sort_ 522 = .ok (.iaload, 1) := by decide +kernel
theorem dX12_sort__523 : decode cX12_sort_ 523 = .ok (.iload 16, 2) := by decide +kernel
theorem dX12_sort__525 : decode cX12_sort_ 525 = .ok (.if_icmp .ge 6, 3) := by decide +kernel
theorem dX12_sort__528 : decode cX12_sort_ 528 = .ok (.goto (-12), 3) := by decide +kernel
theorem dX12_sort__531 : decode cX12_sort_ 531 = .ok (.aload_n 1, 1) := by decide +kernel
theorem dX12_sort__532 : decode cX12_sort_ 532 = .ok (.iinc 15 (-1), 3) := by decide +kernel
theorem dX12_sort__535 : decode cX12_sort_ 535 = .ok (.iload 15, 2) := by decide +kernel
theorem dX12_sort__537 : decode cX12_sort_ 537 = .ok (.iaload, 1) := by decide +kernel
theorem dX12_sort__538 : decode cX12_sort_ 538 = .ok (.iload 17, 2) := by decide +kernel
theorem dX12_sort__540 : decode cX12_sort_ 540 = .ok (.if_icmp .le 6, 3) := by decide +kernel
theorem dX12_sort__543 : decode cX12_sort_ 543 = .ok (.goto (-12), 3) := by decide +kernel
theorem dX12_sort__546 : decode cX12_sort_ 546 = .ok (.iinc 14 (-1), 3) := by decide +kernel
theorem dX12_sort__549 : decode cX12_sort_ 549 = .ok (.iload 14, 2) := by decide +kernel
theorem dX12_sort__551 : decode cX12_sort_ 551 = .ok (.istore 18, 2) := by decide +kernel
theorem dX12_sort__553 : decode cX12_sort_ 553 = .ok (.iinc 15 1, 3) := by decide +kernel
theorem dX12_sort__556 : decode cX12_sort_ 556 = .ok (.iload 15, 2) := by decide +kernel
theorem dX12_sort__558 : decode cX12_sort_ 558 = .ok (.istore 19, 2) := by decide +kernel
theorem dX12_sort__560 : decode cX12_sort_ 560 = .ok (.iinc 19 (-1), 3) := by decide +kernel
theorem dX12_sort__563 : decode cX12_sort_ 563 = .ok (.iload 19, 2) := by decide +kernel
theorem dX12_sort__565 : decode cX12_sort_ 565 = .ok (.iload 14, 2) := by decide +kernel
theorem dX12_sort__567 : decode cX12_sort_ 567 = .ok (.if_icmp .le 110, 3) := by decide +kernel
theorem dX12_sort__570 : decode cX12_sort_ 570 = .ok (.aload_n 1, 1) := by decide +kernel
theorem dX12_sort__571 : decode cX12_sort_ 571 = .ok (.iload 19, 2) := by decide +kernel
theorem dX12_sort__573 : decode cX12_sort_ 573 = .ok (.iaload, 1) := by decide +kernel
theorem dX12_sort__574 : decode cX12_sort_ 574 = .ok (.istore 20, 2) := by decide +kernel
theorem dX12_sort__576 : decode cX12_sort_ 576 = .ok (.iload 20, 2) := by decide +kernel
theorem dX12_sort__578 : decode cX12_sort_ 578 = .ok (.iload 16, 2) := by decide +kernel
theorem dX12_sort__580 : decode cX12_sort_ 580 = .ok (.if_icmp .ge 70, 3) := by decide +kernel
theorem dX12_sort__583 : decode cX12_sort_ 583 = .ok (.iload 14, 2) := by decide +kernel
theorem dX12_sort__585 : decode cX12_sort_ 585 = .ok (.iload 19, 2) := by decide +kernel
theorem dX12_sort__587 : decode cX12_sort_ 587 = .ok (.if_icmp .ge 87, 3) := by decide +kernel
theorem dX12_sort__590 : decode cX12_sort_ 590 = .ok (.aload_n 1, 1) := by decide +kernel
theorem dX12_sort__591 : decode cX12_sort_ 591 = .ok (.iinc 14 1, 3) := by decide +kernel
theorem dX12_sort__594 : decode cX12_sort_ 594 = .ok (.iload 14, 2) := by decide +kernel
theorem dX12_sort__596 : decode cX12_sort_ 596 = .ok (.iaload, 1) := by decide +kernel
theorem dX12_sort__597 : decode cX12_sort_ 597 = .ok (.iload 16, 2) := by decide +kernel
theorem dX12_sort__599 : decode cX12_sort_ 599 = .ok (.if_icmp .lt (-16), 3) := by decide +kernel
theorem dX12_sort__602 : decode cX12_sort_ 602 = .ok (.aload_n 1, 1) := by decide +kernel
theorem dX12_sort__603 : decode cX12_sort_ 603 = .ok (.iload 14, 2) := by decide +kernel
theorem dX12_sort__605 : decode cX12_sort_ 605 = .ok (.iaload, 1) := by decide +kernel
theorem dX12_sort__606 : decode cX12_sort_ 606 = .ok (.iload 17, 2) := by decide +kernel
theorem dX12_sort__608 : decode cX12_sort_ 608 = .ok (.if_icmp .le 25, 3) := by decide +kernel
theorem dX12_sort__611 : decode cX12_sort_ 611 = .ok (.aload_n 1, 1) := by decide +kernel
theorem dX12_sort__612 : decode cX12_sort_ 612 = .ok (.iload 19, 2) := by decide +kernel
theorem dX12_sort__614 : decode cX12_sort_ 614 = .ok (.aload_n 1, 1) := by decide +kernel
theorem dX12_sort__615 : decode cX12_sort_ 615 = .ok (.iinc 15 (-1), 3) := by decide +kernel
theorem dX12_sort__618 : decode cX12_sort_ 618 = .ok (.iload 15, 2) := by decide +kernel
theorem dX12_sort__620 : decode cX12_sort_ 620 = .ok (.iaload, 1) := by decide +kernel
theorem dX12_sort__621 : decode cX12_sort_ 621 = .ok (.iastore, 1) := by decide +kernel
theorem dX12_sort__622 : decode cX12_sort_ 622 = .ok (.aload_n 1, 1) := by decide +kernel
theorem dX12_sort__623 : decode cX12_sort_ 623 = .ok (.iload 15, 2) := by decide +kernel
theorem dX12_sort__625 : decode cX12_sort_ 625 = .ok (.aload_n 1, 1) := by decide +kernel
theorem dX12_sort__626 : decode cX12_sort_ 626 = .ok (.iload 14, 2) := by decide +kernel
theorem dX12_sort__628 : decode cX12_sort_ 628 = .ok (.iaload, 1) := by decide +kernel
theorem dX12_sort__629 : decode cX12_sort_ 629 = .ok (.iastore, 1) := by decide +kernel
theorem dX12_sort__630 : decode cX12_sort_ 630 = .ok (.goto 11, 3) := by decide +kernel
theorem dX12_sort__633 : decode cX12_sort_ 633 = .ok (.aload_n 1, 1) := by decide +kernel
theorem dX12_sort__634 : decode cX12_sort_ 634 = .ok (.iload 19, 2) := by decide +kernel
theorem dX12_sort__636 : decode cX12_sort_ 636 = .ok (.aload_n 1, 1) := by decide +kernel
theorem dX12_sort__637 : decode cX12_sort_ 637 = .ok (.iload 14, 2) := by decide +kernel
theorem dX12_sort__639 : decode cX12_sort_ 639 = .ok (.iaload, 1) := by decide +kernel
theorem dX12_sort__640 : decode cX12_sort_ 640 = .ok (.iastore, 1) := by decide +kernel
theorem dX12_sort__641 : decode cX12_sort_ 641 = .ok (.aload_n 1, 1) := by decide +kernel
theorem dX12_sort__642 : decode cX12_sort_ 642 = .ok (.iload 14, 2) := by decide +kernel
theorem dX12_sort__644 : decode cX12_sort_ 644 = .ok (.iload 20, 2) := by decide +kernel
theorem dX12_sort__646 : decode cX12_sort_ 646 = .ok (.iastore, 1) := by decide +kernel
theorem dX12_sort__647 : decode cX12_sort_ 647 = .ok (.goto 27, 3) := by decide +kernel
theorem dX12_sort__650 : decode cX12_sort_ 650 = .ok (.iload 20, 2) := by decide +kernel
theorem dX12_sort__652 : decode cX12_sort_ 652 = .ok (.iload 17, 2) := by decide +kernel
theorem dX12_sort__654 : decode cX12_sort_ 654 = .ok (.if_icmp .le 20, 3) := by decide +kernel
theorem dX12_sort__657 : decode cX12_sort_ 657 = .ok (.aload_n 1, 1) := by decide +kernel
theorem dX12_sort__658 : decode cX12_sort_ 658 = .ok (.iload 19, 2) := by decide +kernel
theorem dX12_sort__660 : decode cX12_sort_ 660 = .ok (.aload_n 1, 1) := by decide +kernel
theorem dX12_sort__661 : decode cX12_sort_ 661 = .ok (.iinc 15 (-1), 3) := by decide +kernel
theorem dX12_sort__664 : decode cX12_sort_ 664 = .ok (.iload 15, 2) := by decide +kernel
theorem dX12_sort__666 : decode cX12_sort_ 666 = .ok (.iaload, 1) := by decide +kernel
theorem dX12_sort__667 : decode cX12_sort_ 667 = .ok (.iastore, 1) := by decide +kernel
theorem dX12_sort__668 : decode cX12_sort_ 668 = .ok (.aload_n 1, 1) := by decide +kernel
theorem dX12_sort__669 : decode cX12_sort_ 669 = .ok (.iload 15, 2) := by decide +kernel
theorem dX12_sort__671 : decode cX12_sort_ 671 = .ok (.iload 20, 2) := by decide +kernel
theorem dX12_sort__673 : decode cX12_sort_ 673 = .ok (.iastore, 1) := by decide +kernel
theorem dX12_sort__674 : decode cX12_sort_ 674 = .ok (.goto (-114), 3) := by decide +kernel
theorem dX12_sort__677 : decode cX12_sort_ 677 = .ok (.aload_n 1, 1) := by decide +kernel
theorem dX12_sort__678 : decode cX12_sort_ 678 = .ok (.iload_n 3, 1) := by decide +kernel
theorem dX12_sort__679 : decode cX12_sort_ 679 = .ok (.aload_n 1, 1) := by decide +kernel
theorem dX12_sort__680 : decode cX12_sort_ 680 = .ok (.iload 14, 2) := by decide +kernel
theorem dX12_sort__682 : decode cX12_sort_ 682 = .ok (.iaload, 1) := by decide +kernel
theorem dX12_sort__683 : decode cX12_sort_ 683 = .ok (.iastore, 1) := by decide +kernel
theorem dX12_sort__684 : decode cX12_sort_ 684 = .ok (.aload_n 1, 1) := by decide +kernel
theorem dX12_sort__685 : decode cX12_sort_ 685 = .ok (.iload 14, 2) := by decide +kernel
theorem dX12_sort__687 : decode cX12_sort_ 687 = .ok (.iload 16, 2) := by decide +kernel
theorem dX12_sort__689 : decode cX12_sort_ 689 = .ok (.iastore, 1) := by decide +kernel
theorem dX12_sort__690 : decode cX12_sort_ 690 = .ok (.aload_n 1, 1) := by decide +kernel
theorem dX12_sort__691 : decode cX12_sort_ 691 = .ok (.iload 5, 2) := by decide +kernel
theorem dX12_sort__693 : decode cX12_sort_ 693 = .ok (.aload_n 1, 1) := by decide +kernel
theorem dX12_sort__694 : decode cX12_sort_ 694 = .ok (.iload 15, 2) := by decide +kernel
theorem dX12_sort__696 : decode cX12_sort_ 696 = .ok (.iaload, 1) := by decide +kernel
theorem dX12_sort__697 : decode cX12_sort_ 697 = .ok (.iastore, 1) := by decide +kernel
theorem dX12_sort__698 : decode cX12_sort_ 698 = .ok (.aload_n 1, 1) := by decide +kernel
theorem dX12_sort__699 : decode cX12_sort_ 699 = .ok (.iload 15, 2) := by decide +kernel
theorem dX12_sort__701 : decode cX12_sort_ 701 = .ok (.iload 17, 2) := by decide +kernel
theorem dX12_sort__703 : decode cX12_sort_ 703 = .ok (.iastore, 1) := by decide +kernel
theorem dX12_sort__704 : decode cX12_sort_ 704 = .ok (.iload 6, 2) := by decide +kernel
theorem dX12_sort__706 : decode cX12_sort_ 706 = .ok (.sipush 4096, 3) := by decide +kernel
theorem dX12_sort__709 : decode cX12_sort_ 709 = .ok (.if_icmp .le 36, 3) := by decide +kernel
theorem dX12_sort__745 : decode cX12_sort_ 745 = .ok (.aload_n 0, 1) := by decide +kernel
theorem dX12_sort__746 : decode cX12_sort_ 746 = .ok (.aload_n 1, 1) := by decide +kernel
theorem dX12_sort__747 : decode cX12_sort_ 747 = .ok (.iload_n 2, 1) := by decide +kernel
theorem dX12_sort__748 : decode cX12_sort_ 748 = .ok (.iconst 1, 1) := by decide +kernel
theorem dX12_sort__749 : decode cX12_sort_ 749 = .ok (.ior, 1) := by decide +kernel
theorem dX12_sort__750 : decode cX12_sort_ 750 = .ok (.iload 14, 2) := by decide +kernel
theorem dX12_sort__752 : decode cX12_sort_ 752 = .ok (.iconst 1, 1) := by decide +kernel
theorem dX12_sort__753 : decode cX12_sort_ 753 = .ok (.iadd, 1) := by decide +kernel
theorem dX12_sort__754 : decode cX12_sort_ 754 = .ok (.iload 15, 2) := by decide +kernel
theorem dX12_sort__756 : decode cX12_sort_ 756 = .ok (.invokestatic 26, 3) := by decide +kernel
theorem dX12_sort__759 : decode cX12_sort_ 759 = .ok (.aload_n 0, 1) := by decide +kernel
theorem dX12_sort__760 : decode cX12_sort_ 760 = .ok (.aload_n 1, 1) := by decide +kernel
theorem dX12_sort__761 : decode cX12_sort_ 761 = .ok (.iload_n 2, 1) := by decide +kernel
theorem dX12_sort__762 : decode cX12_sort_ 762 = .ok (.iconst 1, 1) := by decide +kernel
theorem dX12_sort__763 : decode cX12_sort_ 763 = .ok (.ior, 1) := by decide +kernel
theorem dX12_sort__764 : decode cX12_sort_ 764 = .ok (.iload 15, 2) := by decide +kernel
theorem dX12_sort__766 : decode cX12_sort_ 766 = .ok (.iconst 1, 1) := by decide +kernel
theorem dX12_sort__767 : decode cX12_sort_ 767 = .ok (.iadd, 1) := by decide +kernel
theorem dX12_sort__768 : decode cX12_sort_ 768 = .ok (.iload 4, 2) := by decide +kernel
theorem dX12_sort__770 : decode cX12_sort_ 770 = .ok (.invokestatic 26, 3) := by decide +kernel
theorem dX12_sort__773 : decode cX12_sort_ 773 = .ok (.goto 167, 3) := by decide +kernel
theorem dX12_sort__940 : decode cX12_sort_ 940 = .ok (.iload 14, 2) := by decide +kernel
theorem dX12_sort__942 : decode cX12_sort_ 942 = .ok (.istore 4, 2) := by decide +kernel
theorem dX12_sort__944 : decode cX12_sort_ 944 = .ok (.goto (-944), 3) := by decide +kernel
def fX12_sort_ (p1 : Nat) (p2 : Int32) (p3 : Int32) (p4 : Int32) (h : mxH) : Option mxH := Option.bind (mxLoop (ρ := (mxH ⊕ ((Int32 × mxH) ⊕ ((Int32 × mxH) ⊕ (mxH ⊕ (mxH ⊕ (mxH ⊕ mxH))))))) (fun s1751 : (Int32 × Int32 × mxH) => (if (65 + s1751.1) ≤ (s1751.2.1 - p3) then (if 44 ≤ (s1751.2.1 - p3) then (if s1751.1 = 0 then Option.bind (fX12_tryMergeRuns p1 p3 (s1751.2.1 - p3) s1751.2.2) (fun o1774 => (if o1774.1 = 0 then (if (s1751.1 + 6) ≤ 384 then Option.bind (some ((((s1751.2.1 - p3) >>> ((3 : Int32) &&& 31)) * 3) + 3)) (fun v1777 => Option.bind (some (mxUshr ((p3 + v1777) + ((s1751.2.1 - 1) - v1777)) 1)) (fun v1779 => Option.bind (some (mxUshr ((p3 + v1777) + v1779) 1)) (fun v1781 => Option.bind (some (mxUshr (v1779 + ((s1751.2.1 - 1) - v1777)) 1)) (fun v1783 => Option.bind (ldI o1774.2 p1 v1779) (fun v1785 => Option.bind (ldI o1774.2 p1 ((s1751.2.1 - 1) - v1777)) (fun v1787 => Option.bind (ldI o1774.2 p1 v1781) (fun v1789 => Option.bind (α := mxH) (if v1789 ≤ v1787 then some o1774.2 else Option.bind (ldI o1774.2 p1 ((s1751.2.1 - 1) - v1777)) (fun v1803 => Option.bind (ldI o1774.2 p1 v1781) (fun v1805 => Option.bind (stI o1774.2 p1 ((s1751.2.1 - 1) - v1777) v1805) (fun h1807 => Option.bind (stI h1807 p1 v1781 v1803) (fun h1809 => some h1809))))) (fun jp1793' : mxH => Option.bind (ldI jp1793' p1 v1783) (fun v1811 => Option.bind (ldI jp1793' p1 (p3 + v1777)) (fun v1813 => Option.bind (α := mxH) (if v1813 ≤ v1811 then some jp1793' else Option.bind (ldI jp1793' p1 v1783) (fun v1827 => Option.bind (ldI jp1793' p1 (p3 + v1777)) (fun v1829 => Option.bind (stI jp1793' p1 v1783 v1829) (fun h1831 => Option.bind (stI h1831 p1 (p3 + v1777) v1827) (fun h1833 => some h1833))))) (fun jp1817' : mxH => Option.bind (ldI jp1817' p1 ((s1751.2.1 - 1) - v1777)) (fun v1835 => Option.bind (ldI jp1817' p1 v1783) (fun v1837 => Option.bind (α := mxH) (if v1837 ≤ v1835 then some jp1817' else Option.bind (ldI jp1817' p1 ((s1751.2.1 - 1) - v1777)) (fun v1851 => Option.bind (ldI jp1817' p1 v1783) (fun v1853 => Option.bind (stI jp1817' p1 ((s1751.2.1 - 1) - v1777) v1853) (fun h1855 => Option.bind (stI h1855 p1 v1783 v1851) (fun h1857 => some h1857))))) (fun jp1841' : mxH => Option.bind (ldI jp1841' p1 v1781) (fun v1859 => Option.bind (ldI jp1841' p1 (p3 + v1777)) (fun v1861 => Option.bind (α := mxH) (if v1861 ≤ v1859 then some jp1841' else Option.bind (ldI jp1841' p1 v1781) (fun v1875 => Option.bind (ldI jp1841' p1 (p3 + v1777)) (fun v1877 => Option.bind (stI jp1841' p1 v1781 v1877) (fun h1879 => Option.bind (stI h1879 p1 (p3 + v1777) v1875) (fun h1881 => some h1881))))) (fun jp1865' : mxH => Option.bind (ldI jp1865' p1 v1783) (fun v1883 => Option.bind (ldI jp1865' p1 v1781) (fun v1885 => Option.bind (α := mxH) (if v1885 ≤ v1883 then some jp1865' else Option.bind (ldI jp1865' p1 v1783) (fun v1899 => Option.bind (ldI jp1865' p1 v1781) (fun v1901 => Option.bind (stI jp1865' p1 v1783 v1901) (fun h1903 => Option.bind (stI h1903 p1 v1781 v1899) (fun h1905 => some h1905))))) (fun jp1889' : mxH => Option.bind (ldI jp1889' p1 v1781) (fun v1907 => Option.bind (α := mxH) (if v1907 ≤ v1785 then Option.bind (ldI jp1889' p1 v1783) (fun v1954 => (if v1785 ≤ v1954 then some jp1889' else Option.bind (ldI jp1889' p1 ((s1751.2.1 - 1) - v1777)) (fun v1957 => (if v1785 ≤ v1957 then Option.bind (ldI jp1889' p1 v1783) (fun v1960 => Option.bind (stI jp1889' p1 v1779 v1960) (fun h1962 => Option.bind (stI h1962 p1 v1783 v1785) (fun h1964 => some h1964))) else Option.bind (ldI jp1889' p1 v1783) (fun v1966 => Option.bind (stI jp1889' p1 v1779 v1966) (fun h1968 => Option.bind (ldI h1968 p1 ((s1751.2.1 - 1) - v1777)) (fun v1970 => Option.bind (stI h1968 p1 v1783 v1970) (fun h1972 => Option.bind (stI h1972 p1 ((s1751.2.1 - 1) - v1777) v1785) (fun h1974 => some h1974))))))))) else Option.bind (ldI jp1889' p1 (p3 + v1777)) (fun v1976 => (if v1976 ≤ v1785 then Option.bind (ldI jp1889' p1 v1781) (fun v1979 => Option.bind (stI jp1889' p1 v1779 v1979) (fun h1981 => Option.bind (stI h1981 p1 v1781 v1785) (fun h1983 => some h1983))) else Option.bind (ldI jp1889' p1 v1781) (fun v1985 => Option.bind (stI jp1889' p1 v1779 v1985) (fun h1987 => Option.bind (ldI h1987 p1 (p3 + v1777)) (fun v1989 => Option.bind (stI h1987 p1 v1781 v1989) (fun h1991 => Option.bind (stI h1991 p1 (p3 + v1777) v1785) (fun h1993 => some h1993)))))))) (fun jp1911' : mxH => Option.bind (ldI jp1911' p1 (p3 + v1777)) (fun v1995 => Option.bind (ldI jp1911' p1 v1781) (fun v1997 => (if v1997 ≤ v1995 then some (Sum.inr (Sum.inr (Sum.inr (Sum.inr (Sum.inr (Sum.inr (Sum.inr jp1911'))))))) else Option.bind (ldI jp1911' p1 v1781) (fun v2000 => Option.bind (ldI jp1911' p1 v1779) (fun v2002 => (if v2002 ≤ v2000 then some (Sum.inr (Sum.inr (Sum.inr (Sum.inr (Sum.inr (Sum.inr (Sum.inr jp1911'))))))) else Option.bind (ldI jp1911' p1 v1779) (fun v2005 => Option.bind (ldI jp1911' p1 v1783) (fun v2007 => (if v2007 ≤ v2005 then some (Sum.inr (Sum.inr (Sum.inr (Sum.inr (Sum.inr (Sum.inr (Sum.inr jp1911'))))))) else Option.bind (ldI jp1911' p1 v1783) (fun v2010 => Option.bind (ldI jp1911' p1 ((s1751.2.1 - 1) - v1777)) (fun v2012 => (if v2012 ≤ v2010 then some (Sum.inr (Sum.inr (Sum.inr (Sum.inr (Sum.inr (Sum.inr (Sum.inr jp1911'))))))) else Option.bind (ldI jp1911' p1 (p3 + v1777)) (fun v2015 => Option.bind (ldI jp1911' p1 ((s1751.2.1 - 1) - v1777)) (fun v2017 => Option.bind (ldI jp1911' p1 p3) (fun v2019 => Option.bind (stI jp1911' p1 (p3 + v1777) v2019) (fun h2021 => Option.bind (ldI h2021 p1 (s1751.2.1 - 1)) (fun v2023 => Option.bind (stI h2021 p1 ((s1751.2.1 - 1) - v1777) v2023) (fun h2025 => Option.bind (mxLoop (ρ := Int32) (fun s2027 : Int32 => Option.bind (ldI h2025 p1 (s2027 + 1)) (fun v2035 => (if v2015 ≤ v2035 then some (Sum.inr (s2027 + 1)) else some (Sum.inl (s2027 + 1))))) mxF p3) (fun r2038 : Int32 => Option.bind (mxLoop (ρ := Int32) (fun s2039 : Int32 => Option.bind (ldI h2025 p1 (s2039 - 1)) (fun v2047 => (if v2047 ≤ v2017 then some (Sum.inr (s2039 - 1)) else some (Sum.inl (s2039 - 1))))) mxF (s1751.2.1 - 1)) (fun r2050 : Int32 => Option.bind (mxLoop (ρ := (Int32 × Int32 × mxH)) (fun s2051 : (Int32 × Int32 × Int32 × mxH) => (if (s2051.2.2.1 - 1) ≤ s2051.1 then some (Sum.inr (s2051.1, s2051.2.1, s2051.2.2.2)) else Option.bind (ldI s2051.2.2.2 p1 (s2051.2.2.1 - 1)) (fun v2060 => Option.bind (α := (Int32 × Int32 × mxH)) (if v2015 ≤ v2060 then (if v2060 ≤ v2017 then some (s2051.1, s2051.2.1, s2051.2.2.2) else Option.bind (ldI s2051.2.2.2 p1 (s2051.2.1 - 1)) (fun v2124 => Option.bind (stI s2051.2.2.2 p1 (s2051.2.2.1 - 1) v2124) (fun h2126 => Option.bind (stI h2126 p1 (s2051.2.1 - 1) v2060) (fun h2128 => some (s2051.1, s2051.2.1 - 1, h2128))))) else Option.bind (mxLoop (ρ := (Int32 ⊕ Int32)) (fun s2130 : Int32 => (if (s2051.2.2.1 - 1) ≤ s2130 then some (Sum.inr (Sum.inr s2130)) else Option.bind (ldI s2051.2.2.2 p1 (s2130 + 1)) (fun v2140 => (if v2140 < v2015 then some (Sum.inl (s2130 + 1)) else some (Sum.inr (Sum.inl (s2130 + 1))))))) mxF s2051.1) (Sum.elim (fun r2143 : Int32 => Option.bind (ldI s2051.2.2.2 p1 r2143) (fun v2144 => Option.bind (α := (Int32 × mxH)) (if v2144 ≤ v2017 then Option.bind (ldI s2051.2.2.2 p1 r2143) (fun v2162 => Option.bind (stI s2051.2.2.2 p1 (s2051.2.2.1 - 1) v2162) (fun h2164 => some (s2051.2.1, h2164))) else Option.bind (ldI s2051.2.2.2 p1 (s2051.2.1 - 1)) (fun v2166 => Option.bind (stI s2051.2.2.2 p1 (s2051.2.2.1 - 1) v2166) (fun h2168 => Option.bind (ldI h2168 p1 r2143) (fun v2170 => Option.bind (stI h2168 p1 (s2051.2.1 - 1) v2170) (fun h2172 => some (s2051.2.1 - 1, h2172)))))) (fun jp2148' : (Int32 × mxH) => Option.bind (stI jp2148'.2 p1 r2143 v2060) (fun h2174 => some (r2143, jp2148'.1, h2174))))) (fun r2178 : Int32 => some (r2178, s2051.2.1, s2051.2.2.2)))) (fun jp2064' : (Int32 × Int32 × mxH) => some (Sum.inl (jp2064'.1, jp2064'.2.1, s2051.2.2.1 - 1, jp2064'.2.2)))))) mxF (r2038 - 1, r2050 + 1, r2050 + 1, h2025)) (fun r2181 : (Int32 × Int32 × mxH) => Option.bind (ldI r2181.2.2 p1 r2181.1) (fun v2182 => Option.bind (stI r2181.2.2 p1 p3 v2182) (fun h2184 => Option.bind (stI h2184 p1 r2181.1 v2015) (fun h2186 => Option.bind (ldI h2186 p1 r2181.2.1) (fun v2188 => Option.bind (stI h2186 p1 (s1751.2.1 - 1) v2188) (fun h2190 => Option.bind (stI h2190 p1 r2181.2.1 v2017) (fun h2192 => (if (s1751.2.1 - p3) ≤ 4096 then Option.bind (fX12_sort_l p1 ((s1751.1 + 6) ||| 1) (r2181.1 + 1) r2181.2.1 h2192) (fun o2196 => Option.bind (fX12_sort_l p1 ((s1751.1 + 6) ||| 1) (r2181.2.1 + 1) s1751.2.1 o2196) (fun o2198 => some (Sum.inl (s1751.1 + 6, r2181.1, o2198)))) else some (Sum.inr (Sum.inr (Sum.inr (Sum.inr (Sum.inr (Sum.inr (Sum.inl h2192))))))))))))))))))))))))))))))))))))))))))))))))))))))))) else some (Sum.inr (Sum.inr (Sum.inr (Sum.inr (Sum.inr (Sum.inl o1774.2))))))) else some (Sum.inr (Sum.inr (Sum.inr (Sum.inr (Sum.inl o1774.2))))))) else (if (s1751.2.1 - p3) ≤ 4096 then (if (s1751.1 + 6) ≤ 384 then Option.bind (some ((((s1751.2.1 - p3) >>> ((3 : Int32) &&& 31)) * 3) + 3)) (fun v2210 => Option.bind (some (mxUshr ((p3 + v2210) + ((s1751.2.1 - 1) - v2210)) 1)) (fun v2212 => Option.bind (some (mxUshr ((p3 + v2210) + v2212) 1)) (fun v2214 => Option.bind (some (mxUshr (v2212 + ((s1751.2.1 - 1) - v2210)) 1)) (fun v2216 => Option.bind (ldI s1751.2.2 p1 v2212) (fun v2218 => Option.bind (ldI s1751.2.2 p1 ((s1751.2.1 - 1) - v2210)) (fun v2220 => Option.bind (ldI s1751.2.2 p1 v2214) (fun v2222 => Option.bind (α := mxH) (if v2222 ≤ v2220 then some s1751.2.2 else Option.bind (ldI s1751.2.2 p1 ((s1751.2.1 - 1) - v2210)) (fun v2236 => Option.bind (ldI s1751.2.2 p1 v2214) (fun v2238 => Option.bind (stI s1751.2.2 p1 ((s1751.2.1 - 1) - v2210) v2238) (fun h2240 => Option.bind (stI h2240 p1 v2214 v2236) (fun h2242 => some h2242))))) (fun jp2226' : mxH => Option.bind (ldI jp2226' p1 v2216) (fun v2244 => Option.bind (ldI jp2226' p1 (p3 + v2210)) (fun v2246 => Option.bind (α := mxH) (if v2246 ≤ v2244 then some jp2226' else Option.bind (ldI jp2226' p1 v2216) (fun v2260 => Option.bind (ldI jp2226' p1 (p3 + v2210)) (fun v2262 => Option.bind (stI jp2226' p1 v2216 v2262) (fun h2264 => Option.bind (stI h2264 p1 (p3 + v2210) v2260) (fun h2266 => some h2266))))) (fun jp2250' : mxH => Option.bind (ldI jp2250' p1 ((s1751.2.1 - 1) - v2210)) (fun v2268 => Option.bind (ldI jp2250' p1 v2216) (fun v2270 => Option.bind (α := mxH) (if v2270 ≤ v2268 then some jp2250' else Option.bind (ldI jp2250' p1 ((s1751.2.1 - 1) - v2210)) (fun v2284 => Option.bind (ldI jp2250' p1 v2216) (fun v2286 => Option.bind (stI jp2250' p1 ((s1751.2.1 - 1) - v2210) v2286) (fun h2288 => Option.bind (stI h2288 p1 v2216 v2284) (fun h2290 => some h2290))))) (fun jp2274' : mxH => Option.bind (ldI jp2274' p1 v2214) (fun v2292 => Option.bind (ldI jp2274' p1 (p3 + v2210)) (fun v2294 => Option.bind (α := mxH) (if v2294 ≤ v2292 then some jp2274' else Option.bind (ldI jp2274' p1 v2214) (fun v2308 => Option.bind (ldI jp2274' p1 (p3 + v2210)) (fun v2310 => Option.bind (stI jp2274' p1 v2214 v2310) (fun h2312 => Option.bind (stI h2312 p1 (p3 + v2210) v2308) (fun h2314 => some h2314))))) (fun jp2298' : mxH => Option.bind (ldI jp2298' p1 v2216) (fun v2316 => Option.bind (ldI jp2298' p1 v2214) (fun v2318 => Option.bind (α := mxH) (if v2318 ≤ v2316 then some jp2298' else Option.bind (ldI jp2298' p1 v2216) (fun v2332 => Option.bind (ldI jp2298' p1 v2214) (fun v2334 => Option.bind (stI jp2298' p1 v2216 v2334) (fun h2336 => Option.bind (stI h2336 p1 v2214 v2332) (fun h2338 => some h2338))))) (fun jp2322' : mxH => Option.bind (ldI jp2322' p1 v2214) (fun v2340 => Option.bind (α := mxH) (if v2340 ≤ v2218 then Option.bind (ldI jp2322' p1 v2216) (fun v2387 => (if v2218 ≤ v2387 then some jp2322' else Option.bind (ldI jp2322' p1 ((s1751.2.1 - 1) - v2210)) (fun v2390 => (if v2218 ≤ v2390 then Option.bind (ldI jp2322' p1 v2216) (fun v2393 => Option.bind (stI jp2322' p1 v2212 v2393) (fun h2395 => Option.bind (stI h2395 p1 v2216 v2218) (fun h2397 => some h2397))) else Option.bind (ldI jp2322' p1 v2216) (fun v2399 => Option.bind (stI jp2322' p1 v2212 v2399) (fun h2401 => Option.bind (ldI h2401 p1 ((s1751.2.1 - 1) - v2210)) (fun v2403 => Option.bind (stI h2401 p1 v2216 v2403) (fun h2405 => Option.bind (stI h2405 p1 ((s1751.2.1 - 1) - v2210) v2218) (fun h2407 => some h2407))))))))) else Option.bind (ldI jp2322' p1 (p3 + v2210)) (fun v2409 => (if v2409 ≤ v2218 then Option.bind (ldI jp2322' p1 v2214) (fun v2412 => Option.bind (stI jp2322' p1 v2212 v2412) (fun h2414 => Option.bind (stI h2414 p1 v2214 v2218) (fun h2416 => some h2416))) else Option.bind (ldI jp2322' p1 v2214) (fun v2418 => Option.bind (stI jp2322' p1 v2212 v2418) (fun h2420 => Option.bind (ldI h2420 p1 (p3 + v2210)) (fun v2422 => Option.bind (stI h2420 p1 v2214 v2422) (fun h2424 => Option.bind (stI h2424 p1 (p3 + v2210) v2218) (fun h2426 => some h2426)))))))) (fun jp2344' : mxH => Option.bind (ldI jp2344' p1 (p3 + v2210)) (fun v2428 => Option.bind (ldI jp2344' p1 v2214) (fun v2430 => (if v2430 ≤ v2428 then some (Sum.inr (Sum.inr (Sum.inr (Sum.inr (Sum.inr (Sum.inr (Sum.inr jp2344'))))))) else Option.bind (ldI jp2344' p1 v2214) (fun v2433 => Option.bind (ldI jp2344' p1 v2212) (fun v2435 => (if v2435 ≤ v2433 then some (Sum.inr (Sum.inr (Sum.inr (Sum.inr (Sum.inr (Sum.inr (Sum.inr jp2344'))))))) else Option.bind (ldI jp2344' p1 v2212) (fun v2438 => Option.bind (ldI jp2344' p1 v2216) (fun v2440 => (if v2440 ≤ v2438 then some (Sum.inr (Sum.inr (Sum.inr (Sum.inr (Sum.inr (Sum.inr (Sum.inr jp2344'))))))) else Option.bind (ldI jp2344' p1 v2216) (fun v2443 => Option.bind (ldI jp2344' p1 ((s1751.2.1 - 1) - v2210)) (fun v2445 => (if v2445 ≤ v2443 then some (Sum.inr (Sum.inr (Sum.inr (Sum.inr (Sum.inr (Sum.inr (Sum.inr jp2344'))))))) else Option.bind (ldI jp2344' p1 (p3 + v2210)) (fun v2448 => Option.bind (ldI jp2344' p1 ((s1751.2.1 - 1) - v2210)) (fun v2450 => Option.bind (ldI jp2344' p1 p3) (fun v2452 => Option.bind (stI jp2344' p1 (p3 + v2210) v2452) (fun h2454 => Option.bind (ldI h2454 p1 (s1751.2.1 - 1)) (fun v2456 => Option.bind (stI h2454 p1 ((s1751.2.1 - 1) - v2210) v2456) (fun h2458 => Option.bind (mxLoop (ρ := Int32) (fun s2460 : Int32 => Option.bind (ldI h2458 p1 (s2460 + 1)) (fun v2468 => (if v2448 ≤ v2468 then some (Sum.inr (s2460 + 1)) else some (Sum.inl (s2460 + 1))))) mxF p3) (fun r2471 : Int32 => Option.bind (mxLoop (ρ := Int32) (fun s2472 : Int32 => Option.bind (ldI h2458 p1 (s2472 - 1)) (fun v2480 => (if v2480 ≤ v2450 then some (Sum.inr (s2472 - 1)) else some (Sum.inl (s2472 - 1))))) mxF (s1751.2.1 - 1)) (fun r2483 : Int32 => Option.bind (mxLoop (ρ := (Int32 × Int32 × mxH)) (fun s2484 : (Int32 × Int32 × Int32 × mxH) => (if (s2484.2.2.1 - 1) ≤ s2484.1 then some (Sum.inr (s2484.1, s2484.2.1, s2484.2.2.2)) else Option.bind (ldI s2484.2.2.2 p1 (s2484.2.2.1 - 1)) (fun v2493 => Option.bind (α := (Int32 × Int32 × mxH)) (if v2448 ≤ v2493 then (if v2493 ≤ v2450 then some (s2484.1, s2484.2.1, s2484.2.2.2) else Option.bind (ldI s2484.2.2.2 p1 (s2484.2.1 - 1)) (fun v2557 => Option.bind (stI s2484.2.2.2 p1 (s2484.2.2.1 - 1) v2557) (fun h2559 => Option.bind (stI h2559 p1 (s2484.2.1 - 1) v2493) (fun h2561 => some (s2484.1, s2484.2.1 - 1, h2561))))) else Option.bind (mxLoop (ρ := (Int32 ⊕ Int32)) (fun s2563 : Int32 => (if (s2484.2.2.1 - 1) ≤ s2563 then some (Sum.inr (Sum.inr s2563)) else Option.bind (ldI s2484.2.2.2 p1 (s2563 + 1)) (fun v2573 => (if v2573 < v2448 then some (Sum.inl (s2563 + 1)) else some (Sum.inr (Sum.inl (s2563 + 1))))))) mxF s2484.1) (Sum.elim (fun r2576 : Int32 => Option.bind (ldI s2484.2.2.2 p1 r2576) (fun v2577 => Option.bind (α := (Int32 × mxH)) (if v2577 ≤ v2450 then Option.bind (ldI s2484.2.2.2 p1 r2576) (fun v2595 => Option.bind (stI s2484.2.2.2 p1 (s2484.2.2.1 - 1) v2595) (fun h2597 => some (s2484.2.1, h2597))) else Option.bind (ldI s2484.2.2.2 p1 (s2484.2.1 - 1)) (fun v2599 => Option.bind (stI s2484.2.2.2 p1 (s2484.2.2.1 - 1) v2599) (fun h2601 => Option.bind (ldI h2601 p1 r2576) (fun v2603 => Option.bind (stI h2601 p1 (s2484.2.1 - 1) v2603) (fun h2605 => some (s2484.2.1 - 1, h2605)))))) (fun jp2581' : (Int32 × mxH) => Option.bind (stI jp2581'.2 p1 r2576 v2493) (fun h2607 => some (r2576, jp2581'.1, h2607))))) (fun r2611 : Int32 => some (r2611, s2484.2.1, s2484.2.2.2)))) (fun jp2497' : (Int32 × Int32 × mxH) => some (Sum.inl (jp2497'.1, jp2497'.2.1, s2484.2.2.1 - 1, jp2497'.2.2)))))) mxF (r2471 - 1, r2483 + 1, r2483 + 1, h2458)) (fun r2614 : (Int32 × Int32 × mxH) => Option.bind (ldI r2614.2.2 p1 r2614.1) (fun v2615 => Option.bind (stI r2614.2.2 p1 p3 v2615) (fun h2617 => Option.bind (stI h2617 p1 r2614.1 v2448) (fun h2619 => Option.bind (ldI h2619 p1 r2614.2.1) (fun v2621 => Option.bind (stI h2619 p1 (s1751.2.1 - 1) v2621) (fun h2623 => Option.bind (stI h2623 p1 r2614.2.1 v2450) (fun h2625 => (if (s1751.2.1 - p3) ≤ 4096 then Option.bind (fX12_sort_l p1 ((s1751.1 + 6) ||| 1) (r2614.1 + 1) r2614.2.1 h2625) (fun o2629 => Option.bind (fX12_sort_l p1 ((s1751.1 + 6) ||| 1) (r2614.2.1 + 1) s1751.2.1 o2629) (fun o2631 => some (Sum.inl (s1751.1 + 6, r2614.1, o2631)))) else some (Sum.inr (Sum.inr (Sum.inr (Sum.inr (Sum.inr (Sum.inr (Sum.inl h2625))))))))))))))))))))))))))))))))))))))))))))))))))))))))) else some (Sum.inr (Sum.inr (Sum.inr (Sum.inr (Sum.inr (Sum.inl s1751.2.2))))))) else some (Sum.inr (Sum.inr (Sum.inr (Sum.inl (s1751.1, s1751.2.2))))))) else some (Sum.inr (Sum.inr (Sum.inl (s1751.2.1, s1751.2.2))))) else (if (s1751.1 &&& 1) ≤ 0 then (if 44 ≤ (s1751.2.1 - p3) then (if s1751.1 = 0 then Option.bind (fX12_tryMergeRuns p1 p3 (s1751.2.1 - p3) s1751.2.2) (fun o2645 => (if o2645.1 = 0 then (if (s1751.1 + 6) ≤ 384 then Option.bind (some ((((s1751.2.1 - p3) >>> ((3 : Int32) &&& 31)) * 3) + 3)) (fun v2648 => Option.bind (some (mxUshr ((p3 + v2648) + ((s1751.2.1 - 1) - v2648)) 1)) (fun v2650 => Option.bind (some (mxUshr ((p3 + v2648) + v2650) 1)) (fun v2652 => Option.bind (some (mxUshr (v2650 + ((s1751.2.1 - 1) - v2648)) 1)) (fun v2654 => Option.bind (ldI o2645.2 p1 v2650) (fun v2656 => Option.bind (ldI o2645.2 p1 ((s1751.2.1 - 1) - v2648)) (fun v2658 => Option.bind (ldI o2645.2 p1 v2652) (fun v2660 => Option.bind (α := mxH) (if v2660 ≤ v2658 then some o2645.2 else Option.bind (ldI o2645.2 p1 ((s1751.2.1 - 1) - v2648)) (fun v2674 => Option.bind (ldI o2645.2 p1 v2652) (fun v2676 => Option.bind (stI o2645.2 p1 ((s1751.2.1 - 1) - v2648) v2676) (fun h2678 => Option.bind (stI h2678 p1 v2652 v2674) (fun h2680 => some h2680))))) (fun jp2664' : mxH => Option.bind (ldI jp2664' p1 v2654) (fun v2682 => Option.bind (ldI jp2664' p1 (p3 + v2648)) (fun v2684 => Option.bind (α := mxH) (if v2684 ≤ v2682 then some jp2664' else Option.bind (ldI jp2664' p1 v2654) (fun v2698 => Option.bind (ldI jp2664' p1 (p3 + v2648)) (fun v2700 => Option.bind (stI jp2664' p1 v2654 v2700) (fun h2702 => Option.bind (stI h2702 p1 (p3 + v2648) v2698) (fun h2704 => some h2704))))) (fun jp2688' : mxH => Option.bind (ldI jp2688' p1 ((s1751.2.1 - 1) - v2648)) (fun v2706 => Option.bind (ldI jp2688' p1 v2654) (fun v2708 => Option.bind (α := mxH) (if v2708 ≤ v2706 then some jp2688' else Option.bind (ldI jp2688' p1 ((s1751.2.1 - 1) - v2648)) (fun v2722 => Option.bind (ldI jp2688' p1 v2654) (fun v2724 => Option.bind (stI jp2688' p1 ((s1751.2.1 - 1) - v2648) v2724) (fun h2726 => Option.bind (stI h2726 p1 v2654 v2722) (fun h2728 => some h2728))))) (fun jp2712' : mxH => Option.bind (ldI jp2712' p1 v2652) (fun v2730 => Option.bind (ldI jp2712' p1 (p3 + v2648)) (fun v2732 => Option.bind (α := mxH) (if v2732 ≤ v2730 then some jp2712' else Option.bind (ldI jp2712' p1 v2652) (fun v2746 => Option.bind (ldI jp2712' p1 (p3 + v2648)) (fun v2748 => Option.bind (stI jp2712' p1 v2652 v2748) (fun h2750 => Option.bind (stI h2750 p1 (p3 + v2648) v2746) (fun h2752 => some h2752))))) (fun jp2736' : mxH => Option.bind (ldI jp2736' p1 v2654) (fun v2754 => Option.bind (ldI jp2736' p1 v2652) (fun v2756 => Option.bind (α := mxH) (if v2756 ≤ v2754 then some jp2736' else Option.bind (ldI jp2736' p1 v2654) (fun v2770 => Option.bind (ldI jp2736' p1 v2652) (fun v2772 => Option.bind (stI jp2736' p1 v2654 v2772) (fun h2774 => Option.bind (stI h2774 p1 v2652 v2770) (fun h2776 => some h2776))))) (fun jp2760' : mxH => Option.bind (ldI jp2760' p1 v2652) (fun v2778 => Option.bind (α := mxH) (if v2778 ≤ v2656 then Option.bind (ldI jp2760' p1 v2654) (fun v2825 => (if v2656 ≤ v2825 then some jp2760' else Option.bind (ldI jp2760' p1 ((s1751.2.1 - 1) - v2648)) (fun v2828 => (if v2656 ≤ v2828 then Option.bind (ldI jp2760' p1 v2654) (fun v2831 => Option.bind (stI jp2760' p1 v2650 v2831) (fun h2833 => Option.bind (stI h2833 p1 v2654 v2656) (fun h2835 => some h2835))) else Option.bind (ldI jp2760' p1 v2654) (fun v2837 => Option.bind (stI jp2760' p1 v2650 v2837) (fun h2839 => Option.bind (ldI h2839 p1 ((s1751.2.1 - 1) - v2648)) (fun v2841 => Option.bind (stI h2839 p1 v2654 v2841) (fun h2843 => Option.bind (stI h2843 p1 ((s1751.2.1 - 1) - v2648) v2656) (fun h2845 => some h2845))))))))) else Option.bind (ldI jp2760' p1 (p3 + v2648)) (fun v2847 => (if v2847 ≤ v2656 then Option.bind (ldI jp2760' p1 v2652) (fun v2850 => Option.bind (stI jp2760' p1 v2650 v2850) (fun h2852 => Option.bind (stI h2852 p1 v2652 v2656) (fun h2854 => some h2854))) else Option.bind (ldI jp2760' p1 v2652) (fun v2856 => Option.bind (stI jp2760' p1 v2650 v2856) (fun h2858 => Option.bind (ldI h2858 p1 (p3 + v2648)) (fun v2860 => Option.bind (stI h2858 p1 v2652 v2860) (fun h2862 => Option.bind (stI h2862 p1 (p3 + v2648) v2656) (fun h2864 => some h2864)))))))) (fun jp2782' : mxH => Option.bind (ldI jp2782' p1 (p3 + v2648)) (fun v2866 => Option.bind (ldI jp2782' p1 v2652) (fun v2868 => (if v2868 ≤ v2866 then some (Sum.inr (Sum.inr (Sum.inr (Sum.inr (Sum.inr (Sum.inr (Sum.inr jp2782'))))))) else Option.bind (ldI jp2782' p1 v2652) (fun v2871 => Option.bind (ldI jp2782' p1 v2650) (fun v2873 => (if v2873 ≤ v2871 then some (Sum.inr (Sum.inr (Sum.inr (Sum.inr (Sum.inr (Sum.inr (Sum.inr jp2782'))))))) else Option.bind (ldI jp2782' p1 v2650) (fun v2876 => Option.bind (ldI jp2782' p1 v2654) (fun v2878 => (if v2878 ≤ v2876 then some (Sum.inr (Sum.inr (Sum.inr (Sum.inr (Sum.inr (Sum.inr (Sum.inr jp2782'))))))) else Option.bind (ldI jp2782' p1 v2654) (fun v2881 => Option.bind (ldI jp2782' p1 ((s1751.2.1 - 1) - v2648)) (fun v2883 => (if v2883 ≤ v2881 then some (Sum.inr (Sum.inr (Sum.inr (Sum.inr (Sum.inr (Sum.inr (Sum.inr jp2782'))))))) else Option.bind (ldI jp2782' p1 (p3 + v2648)) (fun v2886 => Option.bind (ldI jp2782' p1 ((s1751.2.1 - 1) - v2648)) (fun v2888 => Option.bind (ldI jp2782' p1 p3) (fun v2890 => Option.bind (stI jp2782' p1 (p3 + v2648) v2890) (fun h2892 => Option.bind (ldI h2892 p1 (s1751.2.1 - 1)) (fun v2894 => Option.bind (stI h2892 p1 ((s1751.2.1 - 1) - v2648) v2894) (fun h2896 => Option.bind (mxLoop (ρ := Int32) (fun s2898 : Int32 => Option.bind (ldI h2896 p1 (s2898 + 1)) (fun v2906 => (if v2886 ≤ v2906 then some (Sum.inr (s2898 + 1)) else some (Sum.inl (s2898 + 1))))) mxF p3) (fun r2909 : Int32 => Option.bind (mxLoop (ρ := Int32) (fun s2910 : Int32 => Option.bind (ldI h2896 p1 (s2910 - 1)) (fun v2918 => (if v2918 ≤ v2888 then some (Sum.inr (s2910 - 1)) else some (Sum.inl (s2910 - 1))))) mxF (s1751.2.1 - 1)) (fun r2921 : Int32 => Option.bind (mxLoop (ρ := (Int32 × Int32 × mxH)) (fun s2922 : (Int32 × Int32 × Int32 × mxH) => (if (s2922.2.2.1 - 1) ≤ s2922.1 then some (Sum.inr (s2922.1, s2922.2.1, s2922.2.2.2)) else Option.bind (ldI s2922.2.2.2 p1 (s2922.2.2.1 - 1)) (fun v2931 => Option.bind (α := (Int32 × Int32 × mxH)) (if v2886 ≤ v2931 then (if v2931 ≤ v2888 then some (s2922.1, s2922.2.1, s2922.2.2.2) else Option.bind (ldI s2922.2.2.2 p1 (s2922.2.1 - 1)) (fun v2995 => Option.bind (stI s2922.2.2.2 p1 (s2922.2.2.1 - 1) v2995) (fun h2997 => Option.bind (stI h2997 p1 (s2922.2.1 - 1) v2931) (fun h2999 => some (s2922.1, s2922.2.1 - 1, h2999))))) else Option.bind (mxLoop (ρ := (Int32 ⊕ Int32)) (fun s3001 : Int32 => (if (s2922.2.2.1 - 1) ≤ s3001 then some (Sum.inr (Sum.inr s3001)) else Option.bind (ldI s2922.2.2.2 p1 (s3001 + 1)) (fun v3011 => (if v3011 < v2886 then some (Sum.inl (s3001 + 1)) else some (Sum.inr (Sum.inl (s3001 + 1))))))) mxF s2922.1) (Sum.elim (fun r3014 : Int32 => Option.bind (ldI s2922.2.2.2 p1 r3014) (fun v3015 => Option.bind (α := (Int32 × mxH)) (if v3015 ≤ v2888 then Option.bind (ldI s2922.2.2.2 p1 r3014) (fun v3033 => Option.bind (stI s2922.2.2.2 p1 (s2922.2.2.1 - 1) v3033) (fun h3035 => some (s2922.2.1, h3035))) else Option.bind (ldI s2922.2.2.2 p1 (s2922.2.1 - 1)) (fun v3037 => Option.bind (stI s2922.2.2.2 p1 (s2922.2.2.1 - 1) v3037) (fun h3039 => Option.bind (ldI h3039 p1 r3014) (fun v3041 => Option.bind (stI h3039 p1 (s2922.2.1 - 1) v3041) (fun h3043 => some (s2922.2.1 - 1, h3043)))))) (fun jp3019' : (Int32 × mxH) => Option.bind (stI jp3019'.2 p1 r3014 v2931) (fun h3045 => some (r3014, jp3019'.1, h3045))))) (fun r3049 : Int32 => some (r3049, s2922.2.1, s2922.2.2.2)))) (fun jp2935' : (Int32 × Int32 × mxH) => some (Sum.inl (jp2935'.1, jp2935'.2.1, s2922.2.2.1 - 1, jp2935'.2.2)))))) mxF (r2909 - 1, r2921 + 1, r2921 + 1, h2896)) (fun r3052 : (Int32 × Int32 × mxH) => Option.bind (ldI r3052.2.2 p1 r3052.1) (fun v3053 => Option.bind (stI r3052.2.2 p1 p3 v3053) (fun h3055 => Option.bind (stI h3055 p1 r3052.1 v2886) (fun h3057 => Option.bind (ldI h3057 p1 r3052.2.1) (fun v3059 => Option.bind (stI h3057 p1 (s1751.2.1 - 1) v3059) (fun h3061 => Option.bind (stI h3061 p1 r3052.2.1 v2888) (fun h3063 => (if (s1751.2.1 - p3) ≤ 4096 then Option.bind (fX12_sort_l p1 ((s1751.1 + 6) ||| 1) (r3052.1 + 1) r3052.2.1 h3063) (fun o3067 => Option.bind (fX12_sort_l p1 ((s1751.1 + 6) ||| 1) (r3052.2.1 + 1) s1751.2.1 o3067) (fun o3069 => some (Sum.inl (s1751.1 + 6, r3052.1, o3069)))) else some (Sum.inr (Sum.inr (Sum.inr (Sum.inr (Sum.inr (Sum.inr (Sum.inl h3063))))))))))))))))))))))))))))))))))))))))))))))))))))))))) else some (Sum.inr (Sum.inr (Sum.inr (Sum.inr (Sum.inr (Sum.inl o2645.2))))))) else some (Sum.inr (Sum.inr (Sum.inr (Sum.inr (Sum.inl o2645.2))))))) else (if (s1751.2.1 - p3) ≤ 4096 then (if (s1751.1 + 6) ≤ 384 then Option.bind (some ((((s1751.2.1 - p3) >>> ((3 : Int32) &&& 31)) * 3) + 3)) (fun v3081 => Option.bind (some (mxUshr ((p3 + v3081) + ((s1751.2.1 - 1) - v3081)) 1)) (fun v3083 => Option.bind (some (mxUshr ((p3 + v3081) + v3083) 1)) (fun v3085 => Option.bind (some (mxUshr (v3083 + ((s1751.2.1 - 1) - v3081)) 1)) (fun v3087 => Option.bind (ldI s1751.2.2 p1 v3083) (fun v3089 => Option.bind (ldI s1751.2.2 p1 ((s1751.2.1 - 1) - v3081)) (fun v3091 => Option.bind (ldI s1751.2.2 p1 v3085) (fun v3093 => Option.bind (α := mxH) (if v3093 ≤ v3091 then some s1751.2.2 else Option.bind (ldI s1751.2.2 p1 ((s1751.2.1 - 1) - v3081)) (fun v3107 => Option.bind (ldI s1751.2.2 p1 v3085) (fun v3109 => Option.bind (stI s1751.2.2 p1 ((s1751.2.1 - 1) - v3081) v3109) (fun h3111 => Option.bind (stI h3111 p1 v3085 v3107) (fun h3113 => some h3113))))) (fun jp3097' : mxH => Option.bind (ldI jp3097' p1 v3087) (fun v3115 => Option.bind (ldI jp3097' p1 (p3 + v3081)) (fun v3117 => Option.bind (α := mxH) (if v3117 ≤ v3115 then some jp3097' else Option.bind (ldI jp3097' p1 v3087) (fun v3131 => Option.bind (ldI jp3097' p1 (p3 + v3081)) (fun v3133 => Option.bind (stI jp3097' p1 v3087 v3133) (fun h3135 => Option.bind (stI h3135 p1 (p3 + v3081) v3131) (fun h3137 => some h3137))))) (fun jp3121' : mxH => Option.bind (ldI jp3121' p1 ((s1751.2.1 - 1) - v3081)) (fun v3139 => Option.bind (ldI jp3121' p1 v3087) (fun v3141 => Option.bind (α := mxH) (if v3141 ≤ v3139 then some jp3121' else Option.bind (ldI jp3121' p1 ((s1751.2.1 - 1) - v3081)) (fun v3155 => Option.bind (ldI jp3121' p1 v3087) (fun v3157 => Option.bind (stI jp3121' p1 ((s1751.2.1 - 1) - v3081) v3157) (fun h3159 => Option.bind (stI h3159 p1 v3087 v3155) (fun h3161 => some h3161))))) (fun jp3145' : mxH => Option.bind (ldI jp3145' p1 v3085) (fun v3163 => Option.bind (ldI jp3145' p1 (p3 + v3081)) (fun v3165 => Option.bind (α := mxH) (if v3165 ≤ v3163 then some jp3145' else Option.bind (ldI jp3145' p1 v3085) (fun v3179 => Option.bind (ldI jp3145' p1 (p3 + v3081)) (fun v3181 => Option.bind (stI jp3145' p1 v3085 v3181) (fun h3183 => Option.bind (stI h3183 p1 (p3 + v3081) v3179) (fun h3185 => some h3185))))) (fun jp3169' : mxH => Option.bind (ldI jp3169' p1 v3087) (fun v3187 => Option.bind (ldI jp3169' p1 v3085) (fun v3189 => Option.bind (α := mxH) (if v3189 ≤ v3187 then some jp3169' else Option.bind (ldI jp3169' p1 v3087) (fun v3203 => Option.bind (ldI jp3169' p1 v3085) (fun v3205 => Option.bind (stI jp3169' p1 v3087 v3205) (fun h3207 => Option.bind (stI h3207 p1 v3085 v3203) (fun h3209 => some h3209))))) (fun jp3193' : mxH => Option.bind (ldI jp3193' p1 v3085) (fun v3211 => Option.bind (α := mxH) (if v3211 ≤ v3089 then Option.bind (ldI jp3193' p1 v3087) (fun v3258 => (if v3089 ≤ v3258 then some jp3193' else Option.bind (ldI jp3193' p1 ((s1751.2.1 - 1) - v3081)) (fun v3261 => (if v3089 ≤ v3261 then Option.bind (ldI jp3193' p1 v3087) (fun v3264 => Option.bind (stI jp3193' p1 v3083 v3264) (fun h3266 => Option.bind (stI h3266 p1 v3087 v3089) (fun h3268 => some h3268))) else Option.bind (ldI jp3193' p1 v3087) (fun v3270 => Option.bind (stI jp3193' p1 v3083 v3270) (fun h3272 => Option.bind (ldI h3272 p1 ((s1751.2.1 - 1) - v3081)) (fun v3274 => Option.bind (stI h3272 p1 v3087 v3274) (fun h3276 => Option.bind (stI h3276 p1 ((s1751.2.1 - 1) - v3081) v3089) (fun h3278 => some h3278))))))))) else Option.bind (ldI jp3193' p1 (p3 + v3081)) (fun v3280 => (if v3280 ≤ v3089 then Option.bind (ldI jp3193' p1 v3085) (fun v3283 => Option.bind (stI jp3193' p1 v3083 v3283) (fun h3285 => Option.bind (stI h3285 p1 v3085 v3089) (fun h3287 => some h3287))) else Option.bind (ldI jp3193' p1 v3085) (fun v3289 => Option.bind (stI jp3193' p1 v3083 v3289) (fun h3291 => Option.bind (ldI h3291 p1 (p3 + v3081)) (fun v3293 => Option.bind (stI h3291 p1 v3085 v3293) (fun h3295 => Option.bind (stI h3295 p1 (p3 + v3081) v3089) (fun h3297 => some h3297)))))))) (fun jp3215' : mxH => Option.bind (ldI jp3215' p1 (p3 + v3081)) (fun v3299 => Option.bind (ldI jp3215' p1 v3085) (fun v3301 => (if v3301 ≤ v3299 then some (Sum.inr (Sum.inr (Sum.inr (Sum.inr (Sum.inr (Sum.inr (Sum.inr jp3215'))))))) else Option.bind (ldI jp3215' p1 v3085) (fun v3304 => Option.bind (ldI jp3215' p1 v3083) (fun v3306 => (if v3306 ≤ v3304 then some (Sum.inr (Sum.inr (Sum.inr (Sum.inr (Sum.inr (Sum.inr (Sum.inr jp3215'))))))) else Option.bind (ldI jp3215' p1 v3083) (fun v3309 => Option.bind (ldI jp3215' p1 v3087) (fun v3311 => (if v3311 ≤ v3309 then some (Sum.inr (Sum.inr (Sum.inr (Sum.inr (Sum.inr (Sum.inr (Sum.inr jp3215'))))))) else Option.bind (ldI jp3215' p1 v3087) (fun v3314 => Option.bind (ldI jp3215' p1 ((s1751.2.1 - 1) - v3081)) (fun v3316 => (if v3316 ≤ v3314 then some (Sum.inr (Sum.inr (Sum.inr (Sum.inr (Sum.inr (Sum.inr (Sum.inr jp3215'))))))) else Option.bind (ldI jp3215' p1 (p3 + v3081)) (fun v3319 => Option.bind (ldI jp3215' p1 ((s1751.2.1 - 1) - v3081)) (fun v3321 => Option.bind (ldI jp3215' p1 p3) (fun v3323 => Option.bind (stI jp3215' p1 (p3 + v3081) v3323) (fun h3325 => Option.bind (ldI h3325 p1 (s1751.2.1 - 1)) (fun v3327 => Option.bind (stI h3325 p1 ((s1751.2.1 - 1) - v3081) v3327) (fun h3329 => Option.bind (mxLoop (ρ := Int32) (fun s3331 : Int32 => Option.bind (ldI h3329 p1 (s3331 + 1)) (fun v3339 => (if v3319 ≤ v3339 then some (Sum.inr (s3331 + 1)) else some (Sum.inl (s3331 + 1))))) mxF p3) (fun r3342 : Int32 => Option.bind (mxLoop (ρ := Int32) (fun s3343 : Int32 => Option.bind (ldI h3329 p1 (s3343 - 1)) (fun v3351 => (if v3351 ≤ v3321 then some (Sum.inr (s3343 - 1)) else some (Sum.inl (s3343 - 1))))) mxF (s1751.2.1 - 1)) (fun r3354 : Int32 => Option.bind (mxLoop (ρ := (Int32 × Int32 × mxH)) (fun s3355 : (Int32 × Int32 × Int32 × mxH) => (if (s3355.2.2.1 - 1) ≤ s3355.1 then some (Sum.inr (s3355.1, s3355.2.1, s3355.2.2.2)) else Option.bind (ldI s3355.2.2.2 p1 (s3355.2.2.1 - 1)) (fun v3364 => Option.bind (α := (Int32 × Int32 × mxH)) (if v3319 ≤ v3364 then (if v3364 ≤ v3321 then some (s3355.1, s3355.2.1, s3355.2.2.2) else Option.bind (ldI s3355.2.2.2 p1 (s3355.2.1 - 1)) (fun v3428 => Option.bind (stI s3355.2.2.2 p1 (s3355.2.2.1 - 1) v3428) (fun h3430 => Option.bind (stI h3430 p1 (s3355.2.1 - 1) v3364) (fun h3432 => some (s3355.1, s3355.2.1 - 1, h3432))))) else Option.bind (mxLoop (ρ := (Int32 ⊕ Int32)) (fun s3434 : Int32 => (if (s3355.2.2.1 - 1) ≤ s3434 then some (Sum.inr (Sum.inr s3434)) else Option.bind (ldI s3355.2.2.2 p1 (s3434 + 1)) (fun v3444 => (if v3444 < v3319 then some (Sum.inl (s3434 + 1)) else some (Sum.inr (Sum.inl (s3434 + 1))))))) mxF s3355.1) (Sum.elim (fun r3447 : Int32 => Option.bind (ldI s3355.2.2.2 p1 r3447) (fun v3448 => Option.bind (α := (Int32 × mxH)) (if v3448 ≤ v3321 then Option.bind (ldI s3355.2.2.2 p1 r3447) (fun v3466 => Option.bind (stI s3355.2.2.2 p1 (s3355.2.2.1 - 1) v3466) (fun h3468 => some (s3355.2.1, h3468))) else Option.bind (ldI s3355.2.2.2 p1 (s3355.2.1 - 1)) (fun v3470 => Option.bind (stI s3355.2.2.2 p1 (s3355.2.2.1 - 1) v3470) (fun h3472 => Option.bind (ldI h3472 p1 r3447) (fun v3474 => Option.bind (stI h3472 p1 (s3355.2.1 - 1) v3474) (fun h3476 => some (s3355.2.1 - 1, h3476)))))) (fun jp3452' : (Int32 × mxH) => Option.bind (stI jp3452'.2 p1 r3447 v3364) (fun h3478 => some (r3447, jp3452'.1, h3478))))) (fun r3482 : Int32 => some (r3482, s3355.2.1, s3355.2.2.2)))) (fun jp3368' : (Int32 × Int32 × mxH) => some (Sum.inl (jp3368'.1, jp3368'.2.1, s3355.2.2.1 - 1, jp3368'.2.2)))))) mxF (r3342 - 1, r3354 + 1, r3354 + 1, h3329)) (fun r3485 : (Int32 × Int32 × mxH) => Option.bind (ldI r3485.2.2 p1 r3485.1) (fun v3486 => Option.bind (stI r3485.2.2 p1 p3 v3486) (fun h3488 => Option.bind (stI h3488 p1 r3485.1 v3319) (fun h3490 => Option.bind (ldI h3490 p1 r3485.2.1) (fun v3492 => Option.bind (stI h3490 p1 (s1751.2.1 - 1) v3492) (fun h3494 => Option.bind (stI h3494 p1 r3485.2.1 v3321) (fun h3496 => (if (s1751.2.1 - p3) ≤ 4096 then Option.bind (fX12_sort_l p1 ((s1751.1 + 6) ||| 1) (r3485.1 + 1) r3485.2.1 h3496) (fun o3500 => Option.bind (fX12_sort_l p1 ((s1751.1 + 6) ||| 1) (r3485.2.1 + 1) s1751.2.1 o3500) (fun o3502 => some (Sum.inl (s1751.1 + 6, r3485.1, o3502)))) else some (Sum.inr (Sum.inr (Sum.inr (Sum.inr (Sum.inr (Sum.inr (Sum.inl h3496))))))))))))))))))))))))))))))))))))))))))))))))))))))))) else some (Sum.inr (Sum.inr (Sum.inr (Sum.inr (Sum.inr (Sum.inl s1751.2.2))))))) else some (Sum.inr (Sum.inr (Sum.inr (Sum.inl (s1751.1, s1751.2.2))))))) else some (Sum.inr (Sum.inr (Sum.inl (s1751.2.1, s1751.2.2))))) else some (Sum.inr (Sum.inl s1751.2.2))))) 70 (p2, p4, h)) (Sum.elim (fun r3512 : mxH => none) (Sum.elim (fun r3514 : (Int32 × mxH) => Option.bind (fX12_insertionSort p1 p3 r3514.1 r3514.2) (fun o3516 => some o3516)) (Sum.elim (fun r3518 : (Int32 × mxH) => none) (Sum.elim (fun r3520 : mxH => some r3520) (Sum.elim (fun r3522 : mxH => none) (Sum.elim (fun r3524 : mxH => none) (fun r3526 : mxH => none)))))))
abbrev rmX12_sort_ : Room := { frames := 2, cells := 70, slots := 8890, locals := 67 }
set_option maxRecDepth 20000 in
set_option maxHeartbeats 1000000 in
theorem tX12_sort_ {l : Launch} {Z : mxZ} (hl : l.stackTraces = false) {p1 : Nat} {p2 : Int32} {p3 : Int32} {p4 : Int32} {h : mxH} {out : mxH} (hf : fX12_sort_ p1 p2 p3 p4 h = some out) : mxMet l Z yX12_sort_ cX12_sort_ 21 (none) rmX12_sort_ [.null, .ref p1, .int p2, .int p3, .int p4] h (.inl none) out := by
  refine mxMet_of (by decide) hl (by simp [Value.category]) (Nat.le_of_ble_eq_true rfl) ?_
  intro X C E hX hin
  unfold fX12_sort_ at hf
  obtain ⟨r1764, e1765, hf⟩ := mx_bind hf
  have J1755 : ∀ r3512 : mxH, Sum.inl r3512 = r1764 → mG l Z X 21 70 8890 27 [none, some (.ref p1), none, none, none, none, none, none, none, none, none, none, none, none, none, none, none, none, none, none, none] [] r3512 := by
    intro r3512 q3513
    subst q3513
    rw [Sum.elim_inl] at hf
    cases hf
  have J1756 : ∀ r3514 : (Int32 × mxH), Sum.inr (Sum.inl r3514) = r1764 → mG l Z X 21 70 8890 53 [none, some (.ref p1), none, some (.int p3), some (.int r3514.1), none, none, none, none, none, none, none, none, none, none, none, none, none, none, none, none] [] r3514.2 := by
    intro r3514 q3517
    subst q3517
    rw [Sum.elim_inr, Sum.elim_inl] at hf
    refine mG_aload_n (pc := 53) C dX12_sort__53 rfl ?_
    refine mG_iload_n (pc := 54) C dX12_sort__54 rfl ?_
    refine mG_iload (pc := 55) C dX12_sort__55 rfl ?_
    obtain ⟨o3516, e3515, hf⟩ := mx_bind hf
    refine mG_cS2 (pc := 57) (k' := 70) (n' := 8890) (h' := o3516) (v := none) [.ref p1, .int p3, .int r3514.1] [] C hX dX12_sort__57 lkS_X12_34 rfl (tX12_insertionSort hl e3515) rfl rfl rfl ⟨Nat.le_of_ble_eq_true rfl, Nat.le_of_ble_eq_true rfl⟩ rfl ?_
    cases hf
    exact mG_vr2 (pc := 60) C E hX dX12_sort__60 ⟨Nat.le_of_ble_eq_true rfl, Nat.le_of_ble_eq_true rfl⟩
  have J1757 : ∀ r3518 : (Int32 × mxH), Sum.inr (Sum.inr (Sum.inl r3518)) = r1764 → mG l Z X 21 70 8890 73 [none, none, some (.int r3518.1), none, none, none, none, none, none, none, none, none, none, none, none, none, none, none, none, none, none] [] r3518.2 := by
    intro r3518 q3519
    subst q3519
    rw [Sum.elim_inr, Sum.elim_inr, Sum.elim_inl] at hf
    cases hf
  have J1758 : ∀ r3520 : mxH, Sum.inr (Sum.inr (Sum.inr (Sum.inl r3520))) = r1764 → mG l Z X 21 70 8890 90 [none, none, none, none, none, none, none, none, none, none, none, none, none, none, none, none, none, none, none, none, none] [] r3520 := by
    intro r3520 q3521
    subst q3521
    rw [Sum.elim_inr, Sum.elim_inr, Sum.elim_inr, Sum.elim_inl] at hf
    cases hf
    exact mG_vr2 (pc := 90) C E hX dX12_sort__90 ⟨Nat.le_of_ble_eq_true rfl, Nat.le_of_ble_eq_true rfl⟩
  have J1759 : ∀ r3522 : mxH, Sum.inr (Sum.inr (Sum.inr (Sum.inr (Sum.inl r3522)))) = r1764 → mG l Z X 21 70 8890 101 [none, some (.ref p1), none, none, none, none, none, none, none, none, none, none, none, none, none, none, none, none, none, none, none] [] r3522 := by
    intro r3522 q3523
    subst q3523
    rw [Sum.elim_inr, Sum.elim_inr, Sum.elim_inr, Sum.elim_inr, Sum.elim_inl] at hf
    cases hf
  have J1760 : ∀ r3524 : mxH, Sum.inr (Sum.inr (Sum.inr (Sum.inr (Sum.inr (Sum.inl r3524))))) = r1764 → mG l Z X 21 70 8890 712 [some (.null), none, none, none, none, none, none, none, none, none, none, none, none, none, none, none, none, none, none, none, none] [] r3524 := by
    intro r3524 q3525
    subst q3525
    rw [Sum.elim_inr, Sum.elim_inr, Sum.elim_inr, Sum.elim_inr, Sum.elim_inr, Sum.elim_inl] at hf
    cases hf
  have J1761 : ∀ r3526 : mxH, Sum.inr (Sum.inr (Sum.inr (Sum.inr (Sum.inr (Sum.inr r3526))))) = r1764 → mG l Z X 21 70 8890 776 [none, some (.ref p1), none, none, none, none, none, none, none, none, none, none, none, none, none, none, none, none, none, none, none] [] r3526 := by
    intro r3526 q3527
    subst q3527
    rw [Sum.elim_inr, Sum.elim_inr, Sum.elim_inr, Sum.elim_inr, Sum.elim_inr, Sum.elim_inr] at hf
    cases hf
  refine mG_sub (ls' := [some (.null), some (.ref p1), some (.int p2), some (.int p3), some (.int p4), none, none, none, none, none, none, none, none, none, none, none, none, none, none, none, none]) (mxLe_s (mxLe_s (mxLe_s (mxLe_s (mxLe_s (mxLe_n (mxLe_n (mxLe_n (mxLe_n (mxLe_n (mxLe_n (mxLe_n (mxLe_n (mxLe_n (mxLe_n (mxLe_n (mxLe_n (mxLe_n (mxLe_n (mxLe_n (mxLe_n mxLe_z))))))))))))))))))))) (mxLoop_indN (K := fun (N1754 : Nat) (s1751 : (Int32 × Int32 × mxH)) => ∀ k1752 n1753 : Nat, k1752 + 1 * N1754 ≤ 0 + 1 * 70 → n1753 + 127 * N1754 ≤ 0 + 127 * 70 → mG l Z X 21 k1752 n1753 0 [some (.null), some (.ref p1), some (.int s1751.1), some (.int p3), some (.int s1751.2.1), none, none, none, none, none, none, none, none, none, none, none, none, none, none, none, none] [] s1751.2.2) ?_ _ _ e1765 _ _ (Nat.le_refl _) (Nat.le_refl _))
  intro N1754 s1751 o1766 e1767 hK1762 hx1763 k1752 n1753 hk1768 hn1769
  refine mG_iload (pc := 0) C dX12_sort__0 rfl ?_
  refine mG_ic (pc := 2) C dX12_sort__2 kI1 ?_
  refine mG_isub (pc := 3) C dX12_sort__3 ?_
  refine mG_is (ls' := [some (.null), some (.ref p1), some (.int s1751.1), some (.int p3), some (.int s1751.2.1), some (.int (s1751.2.1 - 1)), none, none, none, none, none, none, none, none, none, none, none, none, none, none, none]) (pc := 4) C dX12_sort__4 rfl rfl rfl ?_
  refine mG_iload (pc := 6) C dX12_sort__6 rfl ?_
  refine mG_iload_n (pc := 8) C dX12_sort__8 rfl ?_
  refine mG_isub (pc := 9) C dX12_sort__9 ?_
  refine mG_is (ls' := [some (.null), some (.ref p1), some (.int s1751.1), some (.int p3), some (.int s1751.2.1), some (.int (s1751.2.1 - 1)), some (.int (s1751.2.1 - p3)), none, none, none, none, none, none, none, none, none, none, none, none, none, none]) (pc := 10) C dX12_sort__10 rfl rfl rfl ?_
  refine mG_iload (pc := 12) C dX12_sort__12 rfl ?_
  refine mG_bp (pc := 14) C dX12_sort__14 kB65 ?_
  refine mG_iload_n (pc := 16) C dX12_sort__16 rfl ?_
  refine mG_iadd (pc := 17) C dX12_sort__17 ?_
  refine mG_icmp_ge (pc := 18) (tgt := 46) C dX12_sort__18 (by decide) (fun q1770 => ?_) (fun q1770 => ?_)
  · rw [if_pos q1770] at e1767
    refine mG_iload (pc := 46) C dX12_sort__46 rfl ?_
    refine mG_bp (pc := 48) C dX12_sort__48 kB44 ?_
    refine mG_icmp_ge (pc := 50) (tgt := 61) C dX12_sort__50 (by decide) (fun q1771 => ?_) (fun q1771 => ?_)
    · rw [if_pos q1771] at e1767
      refine mG_iload_n (pc := 61) C dX12_sort__61 rfl ?_
      refine mG_if_eq (pc := 62) (tgt := 79) C dX12_sort__62 (by decide) (fun q1772 => ?_) (fun q1772 => ?_)
      · rw [if_pos q1772] at e1767
        refine mG_aload_nN (pc := 79) C dX12_sort__79 rfl ?_
        refine mG_aload_n (pc := 80) C dX12_sort__80 rfl ?_
        refine mG_iload_n (pc := 81) C dX12_sort__81 rfl ?_
        refine mG_iload (pc := 82) C dX12_sort__82 rfl ?_
        obtain ⟨o1774, e1773, e1767⟩ := mx_bind e1767
        refine mG_cS2 (pc := 84) (k' := (k1752 + 1)) (n' := (n1753 + 127)) (h' := o1774.2) (v := some (.int o1774.1)) [.null, .ref p1, .int p3, .int (s1751.2.1 - p3)] [] C hX dX12_sort__84 lkS_X12_38 rfl (tX12_tryMergeRuns hl e1773) rfl (by show k1752 + 1 = (k1752 + 1); omega) (by show n1753 + 127 = (n1753 + 127); omega) ⟨by show (k1752 + 1) ≤ 70; omega, by show (n1753 + 127) ≤ 8890; omega⟩ rfl ?_
        refine mG_if_eq (pc := 87) (tgt := 91) C dX12_sort__87 (by decide) (fun q1775 => ?_) (fun q1775 => ?_)
        · rw [if_pos q1775] at e1767
          refine mG_ii (ls' := [some (.null), some (.ref p1), some (.int (s1751.1 + 6)), some (.int p3), some (.int s1751.2.1), some (.int (s1751.2.1 - 1)), some (.int (s1751.2.1 - p3)), none, none, none, none, none, none, none, none, none, none, none, none, none, none]) (pc := 91) C dX12_sort__91 rfl (kinc6 _) rfl rfl rfl ?_
          refine mG_iload_n (pc := 94) C dX12_sort__94 rfl ?_
          refine mG_sp (pc := 95) C dX12_sort__95 kS384 ?_
          refine mG_icmp_le (pc := 98) (tgt := 109) C dX12_sort__98 (by decide) (fun q1776 => ?_) (fun q1776 => ?_)
          · rw [if_pos q1776] at e1767
            refine mG_iload (pc := 109) C dX12_sort__109 rfl ?_
            refine mG_ic (pc := 111) C dX12_sort__111 kI3 ?_
            refine mG_ishr (pc := 112) C dX12_sort__112 ?_
            refine mG_ic (pc := 113) C dX12_sort__113 kI3 ?_
            refine mG_imul (pc := 114) C dX12_sort__114 ?_
            refine mG_ic (pc := 115) C dX12_sort__115 kI3 ?_
            refine mG_iadd (pc := 116) C dX12_sort__116 ?_
            obtain ⟨v1777, e1778, e1767⟩ := mx_bind e1767
            refine mG_isv (ls' := [some (.null), some (.ref p1), some (.int (s1751.1 + 6)), some (.int p3), some (.int s1751.2.1), some (.int (s1751.2.1 - 1)), some (.int (s1751.2.1 - p3)), some (.int v1777), none, none, none, none, none, none, none, none, none, none, none, none, none]) (pc := 117) C dX12_sort__117 e1778 rfl rfl rfl ?_
            refine mG_iload_n (pc := 119) C dX12_sort__119 rfl ?_
            refine mG_iload (pc := 120) C dX12_sort__120 rfl ?_
            refine mG_iadd (pc := 122) C dX12_sort__122 ?_
            refine mG_is (ls' := [some (.null), some (.ref p1), some (.int (s1751.1 + 6)), some (.int p3), some (.int s1751.2.1), some (.int (s1751.2.1 - 1)), some (.int (s1751.2.1 - p3)), some (.int v1777), some (.int (p3 + v1777)), none, none, none, none, none, none, none, none, none, none, none, none]) (pc := 123) C dX12_sort__123 rfl rfl rfl ?_
            refine mG_iload (pc := 125) C dX12_sort__125 rfl ?_
            refine mG_iload (pc := 127) C dX12_sort__127 rfl ?_
            refine mG_isub (pc := 129) C dX12_sort__129 ?_
            refine mG_is (ls' := [some (.null), some (.ref p1), some (.int (s1751.1 + 6)), some (.int p3), some (.int s1751.2.1), some (.int (s1751.2.1 - 1)), some (.int (s1751.2.1 - p3)), some (.int v1777), some (.int (p3 + v1777)), some (.int ((s1751.2.1 - 1) - v1777)), none, none, none, none, none, none, none, none, none, none, none]) (pc := 130) C dX12_sort__130 rfl rfl rfl ?_
            refine mG_iload (pc := 132) C dX12_sort__132 rfl ?_
            refine mG_iload (pc := 134) C dX12_sort__134 rfl ?_
            refine mG_iadd (pc := 136) C dX12_sort__136 ?_
            refine mG_ic (pc := 137) C dX12_sort__137 kI1 ?_
            refine mG_iushr (pc := 138) C dX12_sort__138 ?_
            obtain ⟨v1779, e1780, e1767⟩ := mx_bind e1767
            refine mG_isv (ls' := [some (.null), some (.ref p1), some (.int (s1751.1 + 6)), some (.int p3), some (.int s1751.2.1), some (.int (s1751.2.1 - 1)), some (.int (s1751.2.1 - p3)), some (.int v1777), some (.int (p3 + v1777)), some (.int ((s1751.2.1 - 1) - v1777)), some (.int v1779), none, none, none, none, none, none, none, none, none, none]) (pc := 139) C dX12_sort__139 e1780 rfl rfl rfl ?_
            refine mG_iload (pc := 141) C dX12_sort__141 rfl ?_
            refine mG_iload (pc := 143) C dX12_sort__143 rfl ?_
            refine mG_iadd (pc := 145) C dX12_sort__145 ?_
            refine mG_ic (pc := 146) C dX12_sort__146 kI1 ?_
            refine mG_iushr (pc := 147) C dX12_sort__147 ?_
            obtain ⟨v1781, e1782, e1767⟩ := mx_bind e1767
            refine mG_isv (ls' := [some (.null), some (.ref p1), some (.int (s1751.1 + 6)), some (.int p3), some (.int s1751.2.1), some (.int (s1751.2.1 - 1)), some (.int (s1751.2.1 - p3)), some (.int v1777), some (.int (p3 + v1777)), some (.int ((s1751.2.1 - 1) - v1777)), some (.int v1779), some (.int v1781), none, none, none, none, none, none, none, none, none]) (pc := 148) C dX12_sort__148 e1782 rfl rfl rfl ?_
            refine mG_iload (pc := 150) C dX12_sort__150 rfl ?_
            refine mG_iload (pc := 152) C dX12_sort__152 rfl ?_
            refine mG_iadd (pc := 154) C dX12_sort__154 ?_
            refine mG_ic (pc := 155) C dX12_sort__155 kI1 ?_
            refine mG_iushr (pc := 156) C dX12_sort__156 ?_
            obtain ⟨v1783, e1784, e1767⟩ := mx_bind e1767
            refine mG_isv (ls' := [some (.null), some (.ref p1), some (.int (s1751.1 + 6)), some (.int p3), some (.int s1751.2.1), some (.int (s1751.2.1 - 1)), some (.int (s1751.2.1 - p3)), some (.int v1777), some (.int (p3 + v1777)), some (.int ((s1751.2.1 - 1) - v1777)), some (.int v1779), some (.int v1781), some (.int v1783), none, none, none, none, none, none, none, none]) (pc := 157) C dX12_sort__157 e1784 rfl rfl rfl ?_
            refine mG_aload_n (pc := 159) C dX12_sort__159 rfl ?_
            refine mG_iload (pc := 160) C dX12_sort__160 rfl ?_
            obtain ⟨v1785, e1786, e1767⟩ := mx_bind e1767
            refine mG_iaload (pc := 162) C dX12_sort__162 e1786 ?_
            refine mG_is (ls' := [some (.null), some (.ref p1), some (.int (s1751.1 + 6)), some (.int p3), some (.int s1751.2.1), some (.int (s1751.2.1 - 1)), some (.int (s1751.2.1 - p3)), some (.int v1777), some (.int (p3 + v1777)), some (.int ((s1751.2.1 - 1) - v1777)), some (.int v1779), some (.int v1781), some (.int v1783), some (.int v1785), none, none, none, none, none, none, none]) (pc := 163) C dX12_sort__163 rfl rfl rfl ?_
            refine mG_aload_n (pc := 165) C dX12_sort__165 rfl ?_
            refine mG_iload (pc := 166) C dX12_sort__166 rfl ?_
            obtain ⟨v1787, e1788, e1767⟩ := mx_bind e1767
            refine mG_iaload (pc := 168) C dX12_sort__168 e1788 ?_
            refine mG_aload_n (pc := 169) C dX12_sort__169 rfl ?_
            refine mG_iload (pc := 170) C dX12_sort__170 rfl ?_
            obtain ⟨v1789, e1790, e1767⟩ := mx_bind e1767
            refine mG_iaload (pc := 172) C dX12_sort__172 e1790 ?_
            obtain ⟨jp1793, e1794, e1767⟩ := mx_bind e1767
            have J1792 : ∀ jp1793' : mxH, jp1793' = jp1793 → mG l Z X 21 (k1752 + 1) (n1753 + 127) 196 [some (.null), some (.ref p1), some (.int (s1751.1 + 6)), some (.int p3), some (.int s1751.2.1), some (.int (s1751.2.1 - 1)), some (.int (s1751.2.1 - p3)), none, some (.int (p3 + v1777)), some (.int ((s1751.2.1 - 1) - v1777)), some (.int v1779), some (.int v1781), some (.int v1783), some (.int v1785), none, none, none, none, none, none, none] [] jp1793' := by
              intro jp1793' q2207
              subst q2207
              refine mG_aload_n (pc := 196) C dX12_sort__196 rfl ?_
              refine mG_iload (pc := 197) C dX12_sort__197 rfl ?_
              obtain ⟨v1811, e1812, e1767⟩ := mx_bind e1767
              refine mG_iaload (pc := 199) C dX12_sort__199 e1812 ?_
              refine mG_aload_n (pc := 200) C dX12_sort__200 rfl ?_
              refine mG_iload (pc := 201) C dX12_sort__201 rfl ?_
              obtain ⟨v1813, e1814, e1767⟩ := mx_bind e1767
              refine mG_iaload (pc := 203) C dX12_sort__203 e1814 ?_
              obtain ⟨jp1817, e1818, e1767⟩ := mx_bind e1767
              have J1816 : ∀ jp1817' : mxH, jp1817' = jp1817 → mG l Z X 21 (k1752 + 1) (n1753 + 127) 227 [some (.null), some (.ref p1), some (.int (s1751.1 + 6)), some (.int p3), some (.int s1751.2.1), some (.int (s1751.2.1 - 1)), some (.int (s1751.2.1 - p3)), none, some (.int (p3 + v1777)), some (.int ((s1751.2.1 - 1) - v1777)), some (.int v1779), some (.int v1781), some (.int v1783), some (.int v1785), none, none, none, none, none, none, none] [] jp1817' := by
                intro jp1817' q2206
                subst q2206
                refine mG_aload_n (pc := 227) C dX12_sort__227 rfl ?_
                refine mG_iload (pc := 228) C dX12_sort__228 rfl ?_
                obtain ⟨v1835, e1836, e1767⟩ := mx_bind e1767
                refine mG_iaload (pc := 230) C dX12_sort__230 e1836 ?_
                refine mG_aload_n (pc := 231) C dX12_sort__231 rfl ?_
                refine mG_iload (pc := 232) C dX12_sort__232 rfl ?_
                obtain ⟨v1837, e1838, e1767⟩ := mx_bind e1767
                refine mG_iaload (pc := 234) C dX12_sort__234 e1838 ?_
                obtain ⟨jp1841, e1842, e1767⟩ := mx_bind e1767
                have J1840 : ∀ jp1841' : mxH, jp1841' = jp1841 → mG l Z X 21 (k1752 + 1) (n1753 + 127) 258 [some (.null), some (.ref p1), some (.int (s1751.1 + 6)), some (.int p3), some (.int s1751.2.1), some (.int (s1751.2.1 - 1)), some (.int (s1751.2.1 - p3)), none, some (.int (p3 + v1777)), some (.int ((s1751.2.1 - 1) - v1777)), some (.int v1779), some (.int v1781), some (.int v1783), some (.int v1785), none, none, none, none, none, none, none] [] jp1841' := by
                  intro jp1841' q2205
                  subst q2205
                  refine mG_aload_n (pc := 258) C dX12_sort__258 rfl ?_
                  refine mG_iload (pc := 259) C dX12_sort__259 rfl ?_
                  obtain ⟨v1859, e1860, e1767⟩ := mx_bind e1767
                  refine mG_iaload (pc := 261) C dX12_sort__261 e1860 ?_
                  refine mG_aload_n (pc := 262) C dX12_sort__262 rfl ?_
                  refine mG_iload (pc := 263) C dX12_sort__263 rfl ?_
                  obtain ⟨v1861, e1862, e1767⟩ := mx_bind e1767
                  refine mG_iaload (pc := 265) C dX12_sort__265 e1862 ?_
                  obtain ⟨jp1865, e1866, e1767⟩ := mx_bind e1767
                  have J1864 : ∀ jp1865' : mxH, jp1865' = jp1865 → mG l Z X 21 (k1752 + 1) (n1753 + 127) 289 [some (.null), some (.ref p1), some (.int (s1751.1 + 6)), some (.int p3), some (.int s1751.2.1), some (.int (s1751.2.1 - 1)), some (.int (s1751.2.1 - p3)), none, some (.int (p3 + v1777)), some (.int ((s1751.2.1 - 1) - v1777)), some (.int v1779), some (.int v1781), some (.int v1783), some (.int v1785), none, none, none, none, none, none, none] [] jp1865' := by
                    intro jp1865' q2204
                    subst q2204
                    refine mG_aload_n (pc := 289) C dX12_sort__289 rfl ?_
                    refine mG_iload (pc := 290) C dX12_sort__290 rfl ?_
                    obtain ⟨v1883, e1884, e1767⟩ := mx_bind e1767
                    refine mG_iaload (pc := 292) C dX12_sort__292 e1884 ?_
                    refine mG_aload_n (pc := 293) C dX12_sort__293 rfl ?_
                    refine mG_iload (pc := 294) C dX12_sort__294 rfl ?_
                    obtain ⟨v1885, e1886, e1767⟩ := mx_bind e1767
                    refine mG_iaload (pc := 296) C dX12_sort__296 e1886 ?_
                    obtain ⟨jp1889, e1890, e1767⟩ := mx_bind e1767
                    have J1888 : ∀ jp1889' : mxH, jp1889' = jp1889 → mG l Z X 21 (k1752 + 1) (n1753 + 127) 320 [some (.null), some (.ref p1), some (.int (s1751.1 + 6)), some (.int p3), some (.int s1751.2.1), some (.int (s1751.2.1 - 1)), some (.int (s1751.2.1 - p3)), none, some (.int (p3 + v1777)), some (.int ((s1751.2.1 - 1) - v1777)), some (.int v1779), some (.int v1781), some (.int v1783), some (.int v1785), none, none, none, none, none, none, none] [] jp1889' := by
                      intro jp1889' q2203
                      subst q2203
                      refine mG_iload (pc := 320) C dX12_sort__320 rfl ?_
                      refine mG_aload_n (pc := 322) C dX12_sort__322 rfl ?_
                      refine mG_iload (pc := 323) C dX12_sort__323 rfl ?_
                      obtain ⟨v1907, e1908, e1767⟩ := mx_bind e1767
                      refine mG_iaload (pc := 325) C dX12_sort__325 e1908 ?_
                      obtain ⟨jp1911, e1912, e1767⟩ := mx_bind e1767
                      have J1910 : ∀ jp1911' : mxH, jp1911' = jp1911 → mG l Z X 21 (k1752 + 1) (n1753 + 127) 437 [some (.null), some (.ref p1), some (.int (s1751.1 + 6)), some (.int p3), some (.int s1751.2.1), some (.int (s1751.2.1 - 1)), some (.int (s1751.2.1 - p3)), none, some (.int (p3 + v1777)), some (.int ((s1751.2.1 - 1) - v1777)), some (.int v1779), some (.int v1781), some (.int v1783), none, none, none, none, none, none, none, none] [] jp1911' := by
                        intro jp1911' q2202
                        subst q2202
                        refine mG_iload_n (pc := 437) C dX12_sort__437 rfl ?_
                        refine mG_is (ls' := [some (.null), some (.ref p1), some (.int (s1751.1 + 6)), some (.int p3), some (.int s1751.2.1), some (.int (s1751.2.1 - 1)), some (.int (s1751.2.1 - p3)), none, some (.int (p3 + v1777)), some (.int ((s1751.2.1 - 1) - v1777)), some (.int v1779), some (.int v1781), some (.int v1783), none, some (.int p3), none, none, none, none, none, none]) (pc := 438) C dX12_sort__438 rfl rfl rfl ?_
                        refine mG_iload (pc := 440) C dX12_sort__440 rfl ?_
                        refine mG_is (ls' := [some (.null), some (.ref p1), some (.int (s1751.1 + 6)), some (.int p3), some (.int s1751.2.1), some (.int (s1751.2.1 - 1)), some (.int (s1751.2.1 - p3)), none, some (.int (p3 + v1777)), some (.int ((s1751.2.1 - 1) - v1777)), some (.int v1779), some (.int v1781), some (.int v1783), none, some (.int p3), some (.int (s1751.2.1 - 1)), none, none, none, none, none]) (pc := 442) C dX12_sort__442 rfl rfl rfl ?_
                        refine mG_aload_n (pc := 444) C dX12_sort__444 rfl ?_
                        refine mG_iload (pc := 445) C dX12_sort__445 rfl ?_
                        obtain ⟨v1995, e1996, e1767⟩ := mx_bind e1767
                        refine mG_iaload (pc := 447) C dX12_sort__447 e1996 ?_
                        refine mG_aload_n (pc := 448) C dX12_sort__448 rfl ?_
                        refine mG_iload (pc := 449) C dX12_sort__449 rfl ?_
                        obtain ⟨v1997, e1998, e1767⟩ := mx_bind e1767
                        refine mG_iaload (pc := 451) C dX12_sort__451 e1998 ?_
                        refine mG_icmp_ge (pc := 452) (tgt := 776) C dX12_sort__452 (by decide) (fun q1999 => ?_) (fun q1999 => ?_)
                        · rw [if_pos q1999] at e1767
                          exact mG_wd (by omega) (by omega) (mG_sub (mxLe_n (mxLe_s (mxLe_n (mxLe_n (mxLe_n (mxLe_n (mxLe_n (mxLe_n (mxLe_n (mxLe_n (mxLe_n (mxLe_n (mxLe_n (mxLe_n (mxLe_n (mxLe_n (mxLe_n (mxLe_n (mxLe_n (mxLe_n (mxLe_n mxLe_z))))))))))))))))))))) (J1761 _ (hx1763 _ (Option.some.inj e1767).symm)))
                        · rw [if_neg q1999] at e1767
                          refine mG_aload_n (pc := 455) C dX12_sort__455 rfl ?_
                          refine mG_iload (pc := 456) C dX12_sort__456 rfl ?_
                          obtain ⟨v2000, e2001, e1767⟩ := mx_bind e1767
                          refine mG_iaload (pc := 458) C dX12_sort__458 e2001 ?_
                          refine mG_aload_n (pc := 459) C dX12_sort__459 rfl ?_
                          refine mG_iload (pc := 460) C dX12_sort__460 rfl ?_
                          obtain ⟨v2002, e2003, e1767⟩ := mx_bind e1767
                          refine mG_iaload (pc := 462) C dX12_sort__462 e2003 ?_
                          refine mG_icmp_ge (pc := 463) (tgt := 776) C dX12_sort__463 (by decide) (fun q2004 => ?_) (fun q2004 => ?_)
                          · rw [if_pos q2004] at e1767
                            exact mG_wd (by omega) (by omega) (mG_sub (mxLe_n (mxLe_s (mxLe_n (mxLe_n (mxLe_n (mxLe_n (mxLe_n (mxLe_n (mxLe_n (mxLe_n (mxLe_n (mxLe_n (mxLe_n (mxLe_n (mxLe_n (mxLe_n (mxLe_n (mxLe_n (mxLe_n (mxLe_n (mxLe_n mxLe_z))))))))))))))))))))) (J1761 _ (hx1763 _ (Option.some.inj e1767).symm)))
                          · rw [if_neg q2004] at e1767
                            refine mG_aload_n (pc := 466) C dX12_sort__466 rfl ?_
                            refine mG_iload (pc := 467) C dX12_sort__467 rfl ?_
                            obtain ⟨v2005, e2006, e1767⟩ := mx_bind e1767
                            refine mG_iaload (pc := 469) C dX12_sort__469 e2006 ?_
                            refine mG_aload_n (pc := 470) C dX12_sort__470 rfl ?_
                            refine mG_iload (pc := 471) C dX12_sort__471 rfl ?_
                            obtain ⟨v2007, e2008, e1767⟩ := mx_bind e1767
                            refine mG_iaload (pc := 473) C dX12_sort__473 e2008 ?_
                            refine mG_icmp_ge (pc := 474) (tgt := 776) C dX12_sort__474 (by decide) (fun q2009 => ?_) (fun q2009 => ?_)
                            · rw [if_pos q2009] at e1767
                              exact mG_wd (by omega) (by omega) (mG_sub (mxLe_n (mxLe_s (mxLe_n (mxLe_n (mxLe_n (mxLe_n (mxLe_n (mxLe_n (mxLe_n (mxLe_n (mxLe_n (mxLe_n (mxLe_n (mxLe_n (mxLe_n (mxLe_n (mxLe_n (mxLe_n (mxLe_n (mxLe_n (mxLe_n mxLe_z))))))))))))))))))))) (J1761 _ (hx1763 _ (Option.some.inj e1767).symm)))
                            · rw [if_neg q2009] at e1767
                              refine mG_aload_n (pc := 477) C dX12_sort__477 rfl ?_
                              refine mG_iload (pc := 478) C dX12_sort__478 rfl ?_
                              obtain ⟨v2010, e2011, e1767⟩ := mx_bind e1767
                              refine mG_iaload (pc := 480) C dX12_sort__480 e2011 ?_
                              refine mG_aload_n (pc := 481) C dX12_sort__481 rfl ?_
                              refine mG_iload (pc := 482) C dX12_sort__482 rfl ?_
                              obtain ⟨v2012, e2013, e1767⟩ := mx_bind e1767
                              refine mG_iaload (pc := 484) C dX12_sort__484 e2013 ?_
                              refine mG_icmp_ge (pc := 485) (tgt := 776) C dX12_sort__485 (by decide) (fun q2014 => ?_) (fun q2014 => ?_)
                              · rw [if_pos q2014] at e1767
                                exact mG_wd (by omega) (by omega) (mG_sub (mxLe_n (mxLe_s (mxLe_n (mxLe_n (mxLe_n (mxLe_n (mxLe_n (mxLe_n (mxLe_n (mxLe_n (mxLe_n (mxLe_n (mxLe_n (mxLe_n (mxLe_n (mxLe_n (mxLe_n (mxLe_n (mxLe_n (mxLe_n (mxLe_n mxLe_z))))))))))))))))))))) (J1761 _ (hx1763 _ (Option.some.inj e1767).symm)))
                              · rw [if_neg q2014] at e1767
                                refine mG_aload_n (pc := 488) C dX12_sort__488 rfl ?_
                                refine mG_iload (pc := 489) C dX12_sort__489 rfl ?_
                                obtain ⟨v2015, e2016, e1767⟩ := mx_bind e1767
                                refine mG_iaload (pc := 491) C dX12_sort__491 e2016 ?_
                                refine mG_is (ls' := [some (.null), some (.ref p1), some (.int (s1751.1 + 6)), some (.int p3), some (.int s1751.2.1), some (.int (s1751.2.1 - 1)), some (.int (s1751.2.1 - p3)), none, some (.int (p3 + v1777)), some (.int ((s1751.2.1 - 1) - v1777)), some (.int v1779), some (.int v1781), some (.int v1783), none, some (.int p3), some (.int (s1751.2.1 - 1)), some (.int v2015), none, none, none, none]) (pc := 492) C dX12_sort__492 rfl rfl rfl ?_
                                refine mG_aload_n (pc := 494) C dX12_sort__494 rfl ?_
                                refine mG_iload (pc := 495) C dX12_sort__495 rfl ?_
                                obtain ⟨v2017, e2018, e1767⟩ := mx_bind e1767
                                refine mG_iaload (pc := 497) C dX12_sort__497 e2018 ?_
                                refine mG_is (ls' := [some (.null), some (.ref p1), some (.int (s1751.1 + 6)), some (.int p3), some (.int s1751.2.1), some (.int (s1751.2.1 - 1)), some (.int (s1751.2.1 - p3)), none, some (.int (p3 + v1777)), some (.int ((s1751.2.1 - 1) - v1777)), some (.int v1779), some (.int v1781), some (.int v1783), none, some (.int p3), some (.int (s1751.2.1 - 1)), some (.int v2015), some (.int v2017), none, none, none]) (pc := 498) C dX12_sort__498 rfl rfl rfl ?_
                                refine mG_aload_n (pc := 500) C dX12_sort__500 rfl ?_
                                refine mG_iload (pc := 501) C dX12_sort__501 rfl ?_
                                refine mG_aload_n (pc := 503) C dX12_sort__503 rfl ?_
                                refine mG_iload (pc := 504) C dX12_sort__504 rfl ?_
                                obtain ⟨v2019, e2020, e1767⟩ := mx_bind e1767
                                refine mG_iaload (pc := 506) C dX12_sort__506 e2020 ?_
                                obtain ⟨h2021, e2022, e1767⟩ := mx_bind e1767
                                refine mG_iastore (pc := 507) C dX12_sort__507 e2022 ?_
                                refine mG_aload_n (pc := 508) C dX12_sort__508 rfl ?_
                                refine mG_iload (pc := 509) C dX12_sort__509 rfl ?_
                                refine mG_aload_n (pc := 511) C dX12_sort__511 rfl ?_
                                refine mG_iload (pc := 512) C dX12_sort__512 rfl ?_
                                obtain ⟨v2023, e2024, e1767⟩ := mx_bind e1767
                                refine mG_iaload (pc := 514) C dX12_sort__514 e2024 ?_
                                obtain ⟨h2025, e2026, e1767⟩ := mx_bind e1767
                                refine mG_iastore (pc := 515) C dX12_sort__515 e2026 ?_
                                obtain ⟨r2028, e2029, e1767⟩ := mx_bind e1767
                                have J2030 : ∀ r2038 : Int32, r2038 = r2028 → mG l Z X 21 (k1752 + 1) (n1753 + 127) 531 [some (.null), some (.ref p1), some (.int (s1751.1 + 6)), some (.int p3), some (.int s1751.2.1), some (.int (s1751.2.1 - 1)), some (.int (s1751.2.1 - p3)), none, none, none, none, none, none, none, some (.int r2038), some (.int (s1751.2.1 - 1)), some (.int v2015), some (.int v2017), none, none, none] [] h2025 := by
                                  intro r2038 q2201
                                  subst q2201
                                  obtain ⟨r2040, e2041, e1767⟩ := mx_bind e1767
                                  have J2042 : ∀ r2050 : Int32, r2050 = r2040 → mG l Z X 21 (k1752 + 1) (n1753 + 127) 546 [some (.null), some (.ref p1), some (.int (s1751.1 + 6)), some (.int p3), some (.int s1751.2.1), some (.int (s1751.2.1 - 1)), some (.int (s1751.2.1 - p3)), none, none, none, none, none, none, none, some (.int r2038), some (.int r2050), some (.int v2015), some (.int v2017), none, none, none] [] h2025 := by
                                    intro r2050 q2200
                                    subst q2200
                                    refine mG_ii (ls' := [some (.null), some (.ref p1), some (.int (s1751.1 + 6)), some (.int p3), some (.int s1751.2.1), some (.int (s1751.2.1 - 1)), some (.int (s1751.2.1 - p3)), none, none, none, none, none, none, none, some (.int (r2038 - 1)), some (.int r2050), some (.int v2015), some (.int v2017), none, none, none]) (pc := 546) C dX12_sort__546 rfl (kincm1 _) rfl rfl rfl ?_
                                    refine mG_iload (pc := 549) C dX12_sort__549 rfl ?_
                                    refine mG_is (ls' := [some (.null), some (.ref p1), some (.int (s1751.1 + 6)), some (.int p3), some (.int s1751.2.1), some (.int (s1751.2.1 - 1)), some (.int (s1751.2.1 - p3)), none, none, none, none, none, none, none, some (.int (r2038 - 1)), some (.int r2050), some (.int v2015), some (.int v2017), some (.int (r2038 - 1)), none, none]) (pc := 551) C dX12_sort__551 rfl rfl rfl ?_
                                    refine mG_ii (ls' := [some (.null), some (.ref p1), some (.int (s1751.1 + 6)), some (.int p3), some (.int s1751.2.1), some (.int (s1751.2.1 - 1)), some (.int (s1751.2.1 - p3)), none, none, none, none, none, none, none, some (.int (r2038 - 1)), some (.int (r2050 + 1)), some (.int v2015), some (.int v2017), some (.int (r2038 - 1)), none, none]) (pc := 553) C dX12_sort__553 rfl (kinc1 _) rfl rfl rfl ?_
                                    refine mG_iload (pc := 556) C dX12_sort__556 rfl ?_
                                    refine mG_is (ls' := [some (.null), some (.ref p1), some (.int (s1751.1 + 6)), some (.int p3), some (.int s1751.2.1), some (.int (s1751.2.1 - 1)), some (.int (s1751.2.1 - p3)), none, none, none, none, none, none, none, some (.int (r2038 - 1)), some (.int (r2050 + 1)), some (.int v2015), some (.int v2017), some (.int (r2038 - 1)), some (.int (r2050 + 1)), none]) (pc := 558) C dX12_sort__558 rfl rfl rfl ?_
                                    obtain ⟨r2052, e2053, e1767⟩ := mx_bind e1767
                                    have J2054 : ∀ r2181 : (Int32 × Int32 × mxH), r2181 = r2052 → mG l Z X 21 (k1752 + 1) (n1753 + 127) 677 [some (.null), some (.ref p1), some (.int (s1751.1 + 6)), some (.int p3), some (.int s1751.2.1), some (.int (s1751.2.1 - 1)), some (.int (s1751.2.1 - p3)), none, none, none, none, none, none, none, some (.int r2181.1), some (.int r2181.2.1), some (.int v2015), some (.int v2017), none, none, none] [] r2181.2.2 := by
                                      intro r2181 q2199
                                      subst q2199
                                      refine mG_aload_n (pc := 677) C dX12_sort__677 rfl ?_
                                      refine mG_iload_n (pc := 678) C dX12_sort__678 rfl ?_
                                      refine mG_aload_n (pc := 679) C dX12_sort__679 rfl ?_
                                      refine mG_iload (pc := 680) C dX12_sort__680 rfl ?_
                                      obtain ⟨v2182, e2183, e1767⟩ := mx_bind e1767
                                      refine mG_iaload (pc := 682) C dX12_sort__682 e2183 ?_
                                      obtain ⟨h2184, e2185, e1767⟩ := mx_bind e1767
                                      refine mG_iastore (pc := 683) C dX12_sort__683 e2185 ?_
                                      refine mG_aload_n (pc := 684) C dX12_sort__684 rfl ?_
                                      refine mG_iload (pc := 685) C dX12_sort__685 rfl ?_
                                      refine mG_iload (pc := 687) C dX12_sort__687 rfl ?_
                                      obtain ⟨h2186, e2187, e1767⟩ := mx_bind e1767
                                      refine mG_iastore (pc := 689) C dX12_sort__689 e2187 ?_
                                      refine mG_aload_n (pc := 690) C dX12_sort__690 rfl ?_
                                      refine mG_iload (pc := 691) C dX12_sort__691 rfl ?_
                                      refine mG_aload_n (pc := 693) C dX12_sort__693 rfl ?_
                                      refine mG_iload (pc := 694) C dX12_sort__694 rfl ?_
                                      obtain ⟨v2188, e2189, e1767⟩ := mx_bind e1767
                                      refine mG_iaload (pc := 696) C dX12_sort__696 e2189 ?_
                                      obtain ⟨h2190, e2191, e1767⟩ := mx_bind e1767
                                      refine mG_iastore (pc := 697) C dX12_sort__697 e2191 ?_
                                      refine mG_aload_n (pc := 698) C dX12_sort__698 rfl ?_
                                      refine mG_iload (pc := 699) C dX12_sort__699 rfl ?_
                                      refine mG_iload (pc := 701) C dX12_sort__701 rfl ?_
                                      obtain ⟨h2192, e2193, e1767⟩ := mx_bind e1767
                                      refine mG_iastore (pc := 703) C dX12_sort__703 e2193 ?_
                                      refine mG_iload (pc := 704) C dX12_sort__704 rfl ?_
                                      refine mG_sp (pc := 706) C dX12_sort__706 kS4096 ?_
                                      refine mG_icmp_le (pc := 709) (tgt := 745) C dX12_sort__709 (by decide) (fun q2194 => ?_) (fun q2194 => ?_)
                                      · rw [if_pos q2194] at e1767
                                        refine mG_aload_nN (pc := 745) C dX12_sort__745 rfl ?_
                                        refine mG_aload_n (pc := 746) C dX12_sort__746 rfl ?_
                                        refine mG_iload_n (pc := 747) C dX12_sort__747 rfl ?_
                                        refine mG_ic (pc := 748) C dX12_sort__748 kI1 ?_
                                        refine mG_ior (pc := 749) C dX12_sort__749 ?_
                                        refine mG_iload (pc := 750) C dX12_sort__750 rfl ?_
                                        refine mG_ic (pc := 752) C dX12_sort__752 kI1 ?_
                                        refine mG_iadd (pc := 753) C dX12_sort__753 ?_
                                        refine mG_iload (pc := 754) C dX12_sort__754 rfl ?_
                                        obtain ⟨o2196, e2195, e1767⟩ := mx_bind e1767
                                        refine mG_cS2 (pc := 756) (k' := (k1752 + 1)) (n' := (n1753 + 127)) (h' := o2196) (v := none) [.null, .ref p1, .int ((s1751.1 + 6) ||| 1), .int (r2181.1 + 1), .int r2181.2.1] [] C hX dX12_sort__756 lkS_X12_26 rfl (tX12_sort_l hl e2195) rfl (by show (k1752 + 1) + 0 = (k1752 + 1); omega) (by show (n1753 + 127) + 0 = (n1753 + 127); omega) ⟨by show (k1752 + 1) ≤ 70; omega, by show (n1753 + 127) ≤ 8890; omega⟩ rfl ?_
                                        refine mG_aload_nN (pc := 759) C dX12_sort__759 rfl ?_
                                        refine mG_aload_n (pc := 760) C dX12_sort__760 rfl ?_
                                        refine mG_iload_n (pc := 761) C dX12_sort__761 rfl ?_
                                        refine mG_ic (pc := 762) C dX12_sort__762 kI1 ?_
                                        refine mG_ior (pc := 763) C dX12_sort__763 ?_
                                        refine mG_iload (pc := 764) C dX12_sort__764 rfl ?_
                                        refine mG_ic (pc := 766) C dX12_sort__766 kI1 ?_
                                        refine mG_iadd (pc := 767) C dX12_sort__767 ?_
                                        refine mG_iload (pc := 768) C dX12_sort__768 rfl ?_
                                        obtain ⟨o2198, e2197, e1767⟩ := mx_bind e1767
                                        refine mG_cS2 (pc := 770) (k' := (k1752 + 1)) (n' := (n1753 + 127)) (h' := o2198) (v := none) [.null, .ref p1, .int ((s1751.1 + 6) ||| 1), .int (r2181.2.1 + 1), .int s1751.2.1] [] C hX dX12_sort__770 lkS_X12_26 rfl (tX12_sort_l hl e2197) rfl (by show (k1752 + 1) + 0 = (k1752 + 1); omega) (by show (n1753 + 127) + 0 = (n1753 + 127); omega) ⟨by show (k1752 + 1) ≤ 70; omega, by show (n1753 + 127) ≤ 8890; omega⟩ rfl ?_
                                        refine mG_goto (tgt := 940) (pc := 773) C dX12_sort__773 (by decide) ?_
                                        refine mG_iload (pc := 940) C dX12_sort__940 rfl ?_
                                        refine mG_is (ls' := [some (.null), some (.ref p1), some (.int (s1751.1 + 6)), some (.int p3), some (.int r2181.1), some (.int (s1751.2.1 - 1)), some (.int (s1751.2.1 - p3)), none, none, none, none, none, none, none, some (.int r2181.1), some (.int r2181.2.1), some (.int v2015), some (.int v2017), none, none, none]) (pc := 942) C dX12_sort__942 rfl rfl rfl ?_
                                        refine mG_goto (tgt := 0) (pc := 944) C dX12_sort__944 (by decide) ?_
                                        exact mG_sub (mxLe_s (mxLe_s (mxLe_s (mxLe_s (mxLe_s (mxLe_n (mxLe_n (mxLe_n (mxLe_n (mxLe_n (mxLe_n (mxLe_n (mxLe_n (mxLe_n (mxLe_n (mxLe_n (mxLe_n (mxLe_n (mxLe_n (mxLe_n (mxLe_n mxLe_z))))))))))))))))))))) (hK1762 _ (Option.some.inj e1767).symm _ _ (by omega) (by omega))
                                      · rw [if_neg q2194] at e1767
                                        exact mG_wd (by omega) (by omega) (mG_sub (mxLe_s (mxLe_n (mxLe_n (mxLe_n (mxLe_n (mxLe_n (mxLe_n (mxLe_n (mxLe_n (mxLe_n (mxLe_n (mxLe_n (mxLe_n (mxLe_n (mxLe_n (mxLe_n (mxLe_n (mxLe_n (mxLe_n (mxLe_n (mxLe_n mxLe_z))))))))))))))))))))) (J1760 _ (hx1763 _ (Option.some.inj e1767).symm)))
                                    refine mG_sub (ls' := [some (.null), some (.ref p1), some (.int (s1751.1 + 6)), some (.int p3), some (.int s1751.2.1), some (.int (s1751.2.1 - 1)), some (.int (s1751.2.1 - p3)), none, none, none, none, none, none, none, some (.int (r2038 - 1)), some (.int (r2050 + 1)), some (.int v2015), some (.int v2017), none, some (.int (r2050 + 1)), none]) (mxLe_s (mxLe_s (mxLe_s (mxLe_s (mxLe_s (mxLe_s (mxLe_s (mxLe_n (mxLe_n (mxLe_n (mxLe_n (mxLe_n (mxLe_n (mxLe_n (mxLe_s (mxLe_s (mxLe_s (mxLe_s (mxLe_n (mxLe_s (mxLe_n mxLe_z))))))))))))))))))))) (mxLoop_ind (K := fun s2051 : (Int32 × Int32 × Int32 × mxH) => mG l Z X 21 (k1752 + 1) (n1753 + 127) 560 [some (.null), some (.ref p1), some (.int (s1751.1 + 6)), some (.int p3), some (.int s1751.2.1), some (.int (s1751.2.1 - 1)), some (.int (s1751.2.1 - p3)), none, none, none, none, none, none, none, some (.int s2051.1), some (.int s2051.2.1), some (.int v2015), some (.int v2017), none, some (.int s2051.2.2.1), none] [] s2051.2.2.2) ?_ _ _ e2053)
                                    intro s2051 o2057 e2058 hK2055 hx2056
                                    refine mG_ii (ls' := [some (.null), some (.ref p1), some (.int (s1751.1 + 6)), some (.int p3), some (.int s1751.2.1), some (.int (s1751.2.1 - 1)), some (.int (s1751.2.1 - p3)), none, none, none, none, none, none, none, some (.int s2051.1), some (.int s2051.2.1), some (.int v2015), some (.int v2017), none, some (.int (s2051.2.2.1 - 1)), none]) (pc := 560) C dX12_sort__560 rfl (kincm1 _) rfl rfl rfl ?_
                                    refine mG_iload (pc := 563) C dX12_sort__563 rfl ?_
                                    refine mG_iload (pc := 565) C dX12_sort__565 rfl ?_
                                    refine mG_icmp_le (pc := 567) (tgt := 677) C dX12_sort__567 (by decide) (fun q2059 => ?_) (fun q2059 => ?_)
                                    · rw [if_pos q2059] at e2058
                                      exact mG_sub (mxLe_s (mxLe_s (mxLe_s (mxLe_s (mxLe_s (mxLe_s (mxLe_s (mxLe_n (mxLe_n (mxLe_n (mxLe_n (mxLe_n (mxLe_n (mxLe_n (mxLe_s (mxLe_s (mxLe_s (mxLe_s (mxLe_n (mxLe_n (mxLe_n mxLe_z))))))))))))))))))))) (J2054 _ (hx2056 _ (Option.some.inj e2058).symm))
                                    · rw [if_neg q2059] at e2058
                                      refine mG_aload_n (pc := 570) C dX12_sort__570 rfl ?_
                                      refine mG_iload (pc := 571) C dX12_sort__571 rfl ?_
                                      obtain ⟨v2060, e2061, e2058⟩ := mx_bind e2058
                                      refine mG_iaload (pc := 573) C dX12_sort__573 e2061 ?_
                                      refine mG_is (ls' := [some (.null), some (.ref p1), some (.int (s1751.1 + 6)), some (.int p3), some (.int s1751.2.1), some (.int (s1751.2.1 - 1)), some (.int (s1751.2.1 - p3)), none, none, none, none, none, none, none, some (.int s2051.1), some (.int s2051.2.1), some (.int v2015), some (.int v2017), none, some (.int (s2051.2.2.1 - 1)), some (.int v2060)]) (pc := 574) C dX12_sort__574 rfl rfl rfl ?_
                                      refine mG_iload (pc := 576) C dX12_sort__576 rfl ?_
                                      refine mG_iload (pc := 578) C dX12_sort__578 rfl ?_
                                      obtain ⟨jp2064, e2065, e2058⟩ := mx_bind e2058
                                      have J2063 : ∀ jp2064' : (Int32 × Int32 × mxH), jp2064' = jp2064 → mG l Z X 21 (k1752 + 1) (n1753 + 127) 674 [some (.null), some (.ref p1), some (.int (s1751.1 + 6)), some (.int p3), some (.int s1751.2.1), some (.int (s1751.2.1 - 1)), some (.int (s1751.2.1 - p3)), none, none, none, none, none, none, none, some (.int jp2064'.1), some (.int jp2064'.2.1), some (.int v2015), some (.int v2017), none, some (.int (s2051.2.2.1 - 1)), none] [] jp2064'.2.2 := by
                                        intro jp2064' q2180
                                        subst q2180
                                        refine mG_goto (tgt := 560) (pc := 674) C dX12_sort__674 (by decide) ?_
                                        exact mG_sub (mxLe_s (mxLe_s (mxLe_s (mxLe_s (mxLe_s (mxLe_s (mxLe_s (mxLe_n (mxLe_n (mxLe_n (mxLe_n (mxLe_n (mxLe_n (mxLe_n (mxLe_s (mxLe_s (mxLe_s (mxLe_s (mxLe_n (mxLe_s (mxLe_n mxLe_z))))))))))))))))))))) (hK2055 _ (Option.some.inj e2058).symm)
                                      refine mG_icmp_ge (pc := 580) (tgt := 650) C dX12_sort__580 (by decide) (fun q2062 => ?_) (fun q2062 => ?_)
                                      · rw [if_pos q2062] at e2065
                                        refine mG_iload (pc := 650) C dX12_sort__650 rfl ?_
                                        refine mG_iload (pc := 652) C dX12_sort__652 rfl ?_
                                        refine mG_icmp_le (pc := 654) (tgt := 674) C dX12_sort__654 (by decide) (fun q2123 => ?_) (fun q2123 => ?_)
                                        · rw [if_pos q2123] at e2065
                                          exact mG_sub (mxLe_s (mxLe_s (mxLe_s (mxLe_s (mxLe_s (mxLe_s (mxLe_s (mxLe_n (mxLe_n (mxLe_n (mxLe_n (mxLe_n (mxLe_n (mxLe_n (mxLe_s (mxLe_s (mxLe_s (mxLe_s (mxLe_n (mxLe_s (mxLe_n mxLe_z))))))))))))))))))))) (J2063 _ (Option.some.inj e2065))
                                        · rw [if_neg q2123] at e2065
                                          refine mG_aload_n (pc := 657) C dX12_sort__657 rfl ?_
                                          refine mG_iload (pc := 658) C dX12_sort__658 rfl ?_
                                          refine mG_aload_n (pc := 660) C dX12_sort__660 rfl ?_
                                          refine mG_ii (ls' := [some (.null), some (.ref p1), some (.int (s1751.1 + 6)), some (.int p3), some (.int s1751.2.1), some (.int (s1751.2.1 - 1)), some (.int (s1751.2.1 - p3)), none, none, none, none, none, none, none, some (.int s2051.1), some (.int (s2051.2.1 - 1)), some (.int v2015), some (.int v2017), none, some (.int (s2051.2.2.1 - 1)), some (.int v2060)]) (pc := 661) C dX12_sort__661 rfl (kincm1 _) rfl rfl rfl ?_
                                          refine mG_iload (pc := 664) C dX12_sort__664 rfl ?_
                                          obtain ⟨v2124, e2125, e2065⟩ := mx_bind e2065
                                          refine mG_iaload (pc := 666) C dX12_sort__666 e2125 ?_
                                          obtain ⟨h2126, e2127, e2065⟩ := mx_bind e2065
                                          refine mG_iastore (pc := 667) C dX12_sort__667 e2127 ?_
                                          refine mG_aload_n (pc := 668) C dX12_sort__668 rfl ?_
                                          refine mG_iload (pc := 669) C dX12_sort__669 rfl ?_
                                          refine mG_iload (pc := 671) C dX12_sort__671 rfl ?_
                                          obtain ⟨h2128, e2129, e2065⟩ := mx_bind e2065
                                          refine mG_iastore (pc := 673) C dX12_sort__673 e2129 ?_
                                          exact mG_sub (mxLe_s (mxLe_s (mxLe_s (mxLe_s (mxLe_s (mxLe_s (mxLe_s (mxLe_n (mxLe_n (mxLe_n (mxLe_n (mxLe_n (mxLe_n (mxLe_n (mxLe_s (mxLe_s (mxLe_s (mxLe_s (mxLe_n (mxLe_s (mxLe_n mxLe_z))))))))))))))))))))) (J2063 _ (Option.some.inj e2065))
                                      · rw [if_neg q2062] at e2065
                                        obtain ⟨r2131, e2132, e2065⟩ := mx_bind e2065
                                        have J2133 : ∀ r2143 : Int32, Sum.inl r2143 = r2131 → mG l Z X 21 (k1752 + 1) (n1753 + 127) 602 [some (.null), some (.ref p1), some (.int (s1751.1 + 6)), some (.int p3), some (.int s1751.2.1), some (.int (s1751.2.1 - 1)), some (.int (s1751.2.1 - p3)), none, none, none, none, none, none, none, some (.int r2143), some (.int s2051.2.1), some (.int v2015), some (.int v2017), none, some (.int (s2051.2.2.1 - 1)), some (.int v2060)] [] s2051.2.2.2 := by
                                          intro r2143 q2177
                                          subst q2177
                                          rw [Sum.elim_inl] at e2065
                                          refine mG_aload_n (pc := 602) C dX12_sort__602 rfl ?_
                                          refine mG_iload (pc := 603) C dX12_sort__603 rfl ?_
                                          obtain ⟨v2144, e2145, e2065⟩ := mx_bind e2065
                                          refine mG_iaload (pc := 605) C dX12_sort__605 e2145 ?_
                                          refine mG_iload (pc := 606) C dX12_sort__606 rfl ?_
                                          obtain ⟨jp2148, e2149, e2065⟩ := mx_bind e2065
                                          have J2147 : ∀ jp2148' : (Int32 × mxH), jp2148' = jp2148 → mG l Z X 21 (k1752 + 1) (n1753 + 127) 641 [some (.null), some (.ref p1), some (.int (s1751.1 + 6)), some (.int p3), some (.int s1751.2.1), some (.int (s1751.2.1 - 1)), some (.int (s1751.2.1 - p3)), none, none, none, none, none, none, none, some (.int r2143), some (.int jp2148'.1), some (.int v2015), some (.int v2017), none, some (.int (s2051.2.2.1 - 1)), some (.int v2060)] [] jp2148'.2 := by
                                            intro jp2148' q2176
                                            subst q2176
                                            refine mG_aload_n (pc := 641) C dX12_sort__641 rfl ?_
                                            refine mG_iload (pc := 642) C dX12_sort__642 rfl ?_
                                            refine mG_iload (pc := 644) C dX12_sort__644 rfl ?_
                                            obtain ⟨h2174, e2175, e2065⟩ := mx_bind e2065
                                            refine mG_iastore (pc := 646) C dX12_sort__646 e2175 ?_
                                            refine mG_goto (tgt := 674) (pc := 647) C dX12_sort__647 (by decide) ?_
                                            exact mG_sub (mxLe_s (mxLe_s (mxLe_s (mxLe_s (mxLe_s (mxLe_s (mxLe_s (mxLe_n (mxLe_n (mxLe_n (mxLe_n (mxLe_n (mxLe_n (mxLe_n (mxLe_s (mxLe_s (mxLe_s (mxLe_s (mxLe_n (mxLe_s (mxLe_n mxLe_z))))))))))))))))))))) (J2063 _ (Option.some.inj e2065))
                                          refine mG_icmp_le (pc := 608) (tgt := 633) C dX12_sort__608 (by decide) (fun q2146 => ?_) (fun q2146 => ?_)
                                          · rw [if_pos q2146] at e2149
                                            refine mG_aload_n (pc := 633) C dX12_sort__633 rfl ?_
                                            refine mG_iload (pc := 634) C dX12_sort__634 rfl ?_
                                            refine mG_aload_n (pc := 636) C dX12_sort__636 rfl ?_
                                            refine mG_iload (pc := 637) C dX12_sort__637 rfl ?_
                                            obtain ⟨v2162, e2163, e2149⟩ := mx_bind e2149
                                            refine mG_iaload (pc := 639) C dX12_sort__639 e2163 ?_
                                            obtain ⟨h2164, e2165, e2149⟩ := mx_bind e2149
                                            refine mG_iastore (pc := 640) C dX12_sort__640 e2165 ?_
                                            exact mG_sub (mxLe_s (mxLe_s (mxLe_s (mxLe_s (mxLe_s (mxLe_s (mxLe_s (mxLe_n (mxLe_n (mxLe_n (mxLe_n (mxLe_n (mxLe_n (mxLe_n (mxLe_s (mxLe_s (mxLe_s (mxLe_s (mxLe_n (mxLe_s (mxLe_s mxLe_z))))))))))))))))))))) (J2147 _ (Option.some.inj e2149))
                                          · rw [if_neg q2146] at e2149
                                            refine mG_aload_n (pc := 611) C dX12_sort__611 rfl ?_
                                            refine mG_iload (pc := 612) C dX12_sort__612 rfl ?_
                                            refine mG_aload_n (pc := 614) C dX12_sort__614 rfl ?_
                                            refine mG_ii (ls' := [some (.null), some (.ref p1), some (.int (s1751.1 + 6)), some (.int p3), some (.int s1751.2.1), some (.int (s1751.2.1 - 1)), some (.int (s1751.2.1 - p3)), none, none, none, none, none, none, none, some (.int r2143), some (.int (s2051.2.1 - 1)), some (.int v2015), some (.int v2017), none, some (.int (s2051.2.2.1 - 1)), some (.int v2060)]) (pc := 615) C dX12_sort__615 rfl (kincm1 _) rfl rfl rfl ?_
                                            refine mG_iload (pc := 618) C dX12_sort__618 rfl ?_
                                            obtain ⟨v2166, e2167, e2149⟩ := mx_bind e2149
                                            refine mG_iaload (pc := 620) C dX12_sort__620 e2167 ?_
                                            obtain ⟨h2168, e2169, e2149⟩ := mx_bind e2149
                                            refine mG_iastore (pc := 621) C dX12_sort__621 e2169 ?_
                                            refine mG_aload_n (pc := 622) C dX12_sort__622 rfl ?_
                                            refine mG_iload (pc := 623) C dX12_sort__623 rfl ?_
                                            refine mG_aload_n (pc := 625) C dX12_sort__625 rfl ?_
                                            refine mG_iload (pc := 626) C dX12_sort__626 rfl ?_
                                            obtain ⟨v2170, e2171, e2149⟩ := mx_bind e2149
                                            refine mG_iaload (pc := 628) C dX12_sort__628 e2171 ?_
                                            obtain ⟨h2172, e2173, e2149⟩ := mx_bind e2149
                                            refine mG_iastore (pc := 629) C dX12_sort__629 e2173 ?_
                                            refine mG_goto (tgt := 641) (pc := 630) C dX12_sort__630 (by decide) ?_
                                            exact mG_sub (mxLe_s (mxLe_s (mxLe_s (mxLe_s (mxLe_s (mxLe_s (mxLe_s (mxLe_n (mxLe_n (mxLe_n (mxLe_n (mxLe_n (mxLe_n (mxLe_n (mxLe_s (mxLe_s (mxLe_s (mxLe_s (mxLe_n (mxLe_s (mxLe_s mxLe_z))))))))))))))))))))) (J2147 _ (Option.some.inj e2149))
                                        have J2134 : ∀ r2178 : Int32, Sum.inr r2178 = r2131 → mG l Z X 21 (k1752 + 1) (n1753 + 127) 674 [some (.null), some (.ref p1), some (.int (s1751.1 + 6)), some (.int p3), some (.int s1751.2.1), some (.int (s1751.2.1 - 1)), some (.int (s1751.2.1 - p3)), none, none, none, none, none, none, none, some (.int r2178), some (.int s2051.2.1), some (.int v2015), some (.int v2017), none, some (.int (s2051.2.2.1 - 1)), none] [] s2051.2.2.2 := by
                                          intro r2178 q2179
                                          subst q2179
                                          rw [Sum.elim_inr] at e2065
                                          exact mG_sub (mxLe_s (mxLe_s (mxLe_s (mxLe_s (mxLe_s (mxLe_s (mxLe_s (mxLe_n (mxLe_n (mxLe_n (mxLe_n (mxLe_n (mxLe_n (mxLe_n (mxLe_s (mxLe_s (mxLe_s (mxLe_s (mxLe_n (mxLe_s (mxLe_n mxLe_z))))))))))))))))))))) (J2063 _ (Option.some.inj e2065))
                                        refine mG_sub (ls' := [some (.null), some (.ref p1), some (.int (s1751.1 + 6)), some (.int p3), some (.int s1751.2.1), some (.int (s1751.2.1 - 1)), some (.int (s1751.2.1 - p3)), none, none, none, none, none, none, none, some (.int s2051.1), some (.int s2051.2.1), some (.int v2015), some (.int v2017), none, some (.int (s2051.2.2.1 - 1)), some (.int v2060)]) (mxLe_s (mxLe_s (mxLe_s (mxLe_s (mxLe_s (mxLe_s (mxLe_s (mxLe_n (mxLe_n (mxLe_n (mxLe_n (mxLe_n (mxLe_n (mxLe_n (mxLe_s (mxLe_s (mxLe_s (mxLe_s (mxLe_n (mxLe_s (mxLe_s mxLe_z))))))))))))))))))))) (mxLoop_ind (K := fun s2130 : Int32 => mG l Z X 21 (k1752 + 1) (n1753 + 127) 583 [some (.null), some (.ref p1), some (.int (s1751.1 + 6)), some (.int p3), some (.int s1751.2.1), some (.int (s1751.2.1 - 1)), some (.int (s1751.2.1 - p3)), none, none, none, none, none, none, none, some (.int s2130), some (.int s2051.2.1), some (.int v2015), some (.int v2017), none, some (.int (s2051.2.2.1 - 1)), some (.int v2060)] [] s2051.2.2.2) ?_ _ _ e2132)
                                        intro s2130 o2137 e2138 hK2135 hx2136
                                        refine mG_iload (pc := 583) C dX12_sort__583 rfl ?_
                                        refine mG_iload (pc := 585) C dX12_sort__585 rfl ?_
                                        refine mG_icmp_ge (pc := 587) (tgt := 674) C dX12_sort__587 (by decide) (fun q2139 => ?_) (fun q2139 => ?_)
                                        · rw [if_pos q2139] at e2138
                                          exact mG_sub (mxLe_s (mxLe_s (mxLe_s (mxLe_s (mxLe_s (mxLe_s (mxLe_s (mxLe_n (mxLe_n (mxLe_n (mxLe_n (mxLe_n (mxLe_n (mxLe_n (mxLe_s (mxLe_s (mxLe_s (mxLe_s (mxLe_n (mxLe_s (mxLe_n mxLe_z))))))))))))))))))))) (J2134 _ (hx2136 _ (Option.some.inj e2138).symm))
                                        · rw [if_neg q2139] at e2138
                                          refine mG_aload_n (pc := 590) C dX12_sort__590 rfl ?_
                                          refine mG_ii (ls' := [some (.null), some (.ref p1), some (.int (s1751.1 + 6)), some (.int p3), some (.int s1751.2.1), some (.int (s1751.2.1 - 1)), some (.int (s1751.2.1 - p3)), none, none, none, none, none, none, none, some (.int (s2130 + 1)), some (.int s2051.2.1), some (.int v2015), some (.int v2017), none, some (.int (s2051.2.2.1 - 1)), some (.int v2060)]) (pc := 591) C dX12_sort__591 rfl (kinc1 _) rfl rfl rfl ?_
                                          refine mG_iload (pc := 594) C dX12_sort__594 rfl ?_
                                          obtain ⟨v2140, e2141, e2138⟩ := mx_bind e2138
                                          refine mG_iaload (pc := 596) C dX12_sort__596 e2141 ?_
                                          refine mG_iload (pc := 597) C dX12_sort__597 rfl ?_
                                          refine mG_icmp_lt (pc := 599) (tgt := 583) C dX12_sort__599 (by decide) (fun q2142 => ?_) (fun q2142 => ?_)
                                          · rw [if_pos q2142] at e2138
                                            exact mG_sub (mxLe_s (mxLe_s (mxLe_s (mxLe_s (mxLe_s (mxLe_s (mxLe_s (mxLe_n (mxLe_n (mxLe_n (mxLe_n (mxLe_n (mxLe_n (mxLe_n (mxLe_s (mxLe_s (mxLe_s (mxLe_s (mxLe_n (mxLe_s (mxLe_s mxLe_z))))))))))))))))))))) (hK2135 _ (Option.some.inj e2138).symm)
                                          · rw [if_neg q2142] at e2138
                                            exact mG_sub (mxLe_s (mxLe_s (mxLe_s (mxLe_s (mxLe_s (mxLe_s (mxLe_s (mxLe_n (mxLe_n (mxLe_n (mxLe_n (mxLe_n (mxLe_n (mxLe_n (mxLe_s (mxLe_s (mxLe_s (mxLe_s (mxLe_n (mxLe_s (mxLe_s mxLe_z))))))))))))))))))))) (J2133 _ (hx2136 _ (Option.some.inj e2138).symm))
                                  refine mG_sub (ls' := [some (.null), some (.ref p1), some (.int (s1751.1 + 6)), some (.int p3), some (.int s1751.2.1), some (.int (s1751.2.1 - 1)), some (.int (s1751.2.1 - p3)), none, none, none, none, none, none, none, some (.int r2038), some (.int (s1751.2.1 - 1)), some (.int v2015), some (.int v2017), none, none, none]) (mxLe_s (mxLe_s (mxLe_s (mxLe_s (mxLe_s (mxLe_s (mxLe_s (mxLe_n (mxLe_n (mxLe_n (mxLe_n (mxLe_n (mxLe_n (mxLe_n (mxLe_s (mxLe_s (mxLe_s (mxLe_s (mxLe_n (mxLe_n (mxLe_n mxLe_z))))))))))))))))))))) (mxLoop_ind (K := fun s2039 : Int32 => mG l Z X 21 (k1752 + 1) (n1753 + 127) 531 [some (.null), some (.ref p1), some (.int (s1751.1 + 6)), some (.int p3), some (.int s1751.2.1), some (.int (s1751.2.1 - 1)), some (.int (s1751.2.1 - p3)), none, none, none, none, none, none, none, some (.int r2038), some (.int s2039), some (.int v2015), some (.int v2017), none, none, none] [] h2025) ?_ _ _ e2041)
                                  intro s2039 o2045 e2046 hK2043 hx2044
                                  refine mG_aload_n (pc := 531) C dX12_sort__531 rfl ?_
                                  refine mG_ii (ls' := [some (.null), some (.ref p1), some (.int (s1751.1 + 6)), some (.int p3), some (.int s1751.2.1), some (.int (s1751.2.1 - 1)), some (.int (s1751.2.1 - p3)), none, none, none, none, none, none, none, some (.int r2038), some (.int (s2039 - 1)), some (.int v2015), some (.int v2017), none, none, none]) (pc := 532) C dX12_sort__532 rfl (kincm1 _) rfl rfl rfl ?_
                                  refine mG_iload (pc := 535) C dX12_sort__535 rfl ?_
                                  obtain ⟨v2047, e2048, e2046⟩ := mx_bind e2046
                                  refine mG_iaload (pc := 537) C dX12_sort__537 e2048 ?_
                                  refine mG_iload (pc := 538) C dX12_sort__538 rfl ?_
                                  refine mG_icmp_le (pc := 540) (tgt := 546) C dX12_sort__540 (by decide) (fun q2049 => ?_) (fun q2049 => ?_)
                                  · rw [if_pos q2049] at e2046
                                    exact mG_sub (mxLe_s (mxLe_s (mxLe_s (mxLe_s (mxLe_s (mxLe_s (mxLe_s (mxLe_n (mxLe_n (mxLe_n (mxLe_n (mxLe_n (mxLe_n (mxLe_n (mxLe_s (mxLe_s (mxLe_s (mxLe_s (mxLe_n (mxLe_n (mxLe_n mxLe_z))))))))))))))))))))) (J2042 _ (hx2044 _ (Option.some.inj e2046).symm))
                                  · rw [if_neg q2049] at e2046
                                    refine mG_goto (tgt := 531) (pc := 543) C dX12_sort__543 (by decide) ?_
                                    exact mG_sub (mxLe_s (mxLe_s (mxLe_s (mxLe_s (mxLe_s (mxLe_s (mxLe_s (mxLe_n (mxLe_n (mxLe_n (mxLe_n (mxLe_n (mxLe_n (mxLe_n (mxLe_s (mxLe_s (mxLe_s (mxLe_s (mxLe_n (mxLe_n (mxLe_n mxLe_z))))))))))))))))))))) (hK2043 _ (Option.some.inj e2046).symm)
                                refine mG_sub (ls' := [some (.null), some (.ref p1), some (.int (s1751.1 + 6)), some (.int p3), some (.int s1751.2.1), some (.int (s1751.2.1 - 1)), some (.int (s1751.2.1 - p3)), none, none, none, none, none, none, none, some (.int p3), some (.int (s1751.2.1 - 1)), some (.int v2015), some (.int v2017), none, none, none]) (mxLe_s (mxLe_s (mxLe_s (mxLe_s (mxLe_s (mxLe_s (mxLe_s (mxLe_n (mxLe_n (mxLe_n (mxLe_n (mxLe_n (mxLe_n (mxLe_n (mxLe_s (mxLe_s (mxLe_s (mxLe_s (mxLe_n (mxLe_n (mxLe_n mxLe_z))))))))))))))))))))) (mxLoop_ind (K := fun s2027 : Int32 => mG l Z X 21 (k1752 + 1) (n1753 + 127) 516 [some (.null), some (.ref p1), some (.int (s1751.1 + 6)), some (.int p3), some (.int s1751.2.1), some (.int (s1751.2.1 - 1)), some (.int (s1751.2.1 - p3)), none, none, none, none, none, none, none, some (.int s2027), some (.int (s1751.2.1 - 1)), some (.int v2015), some (.int v2017), none, none, none] [] h2025) ?_ _ _ e2029)
                                intro s2027 o2033 e2034 hK2031 hx2032
                                refine mG_aload_n (pc := 516) C dX12_sort__516 rfl ?_
                                refine mG_ii (ls' := [some (.null), some (.ref p1), some (.int (s1751.1 + 6)), some (.int p3), some (.int s1751.2.1), some (.int (s1751.2.1 - 1)), some (.int (s1751.2.1 - p3)), none, none, none, none, none, none, none, some (.int (s2027 + 1)), some (.int (s1751.2.1 - 1)), some (.int v2015), some (.int v2017), none, none, none]) (pc := 517) C dX12_sort__517 rfl (kinc1 _) rfl rfl rfl ?_
                                refine mG_iload (pc := 520) C dX12_sort__520 rfl ?_
                                obtain ⟨v2035, e2036, e2034⟩ := mx_bind e2034
                                refine mG_iaload (pc := 522) C dX12_sort__522 e2036 ?_
                                refine mG_iload (pc := 523) C dX12_sort__523 rfl ?_
                                refine mG_icmp_ge (pc := 525) (tgt := 531) C dX12_sort__525 (by decide) (fun q2037 => ?_) (fun q2037 => ?_)
                                · rw [if_pos q2037] at e2034
                                  exact mG_sub (mxLe_s (mxLe_s (mxLe_s (mxLe_s (mxLe_s (mxLe_s (mxLe_s (mxLe_n (mxLe_n (mxLe_n (mxLe_n (mxLe_n (mxLe_n (mxLe_n (mxLe_s (mxLe_s (mxLe_s (mxLe_s (mxLe_n (mxLe_n (mxLe_n mxLe_z))))))))))))))))))))) (J2030 _ (hx2032 _ (Option.some.inj e2034).symm))
                                · rw [if_neg q2037] at e2034
                                  refine mG_goto (tgt := 516) (pc := 528) C dX12_sort__528 (by decide) ?_
                                  exact mG_sub (mxLe_s (mxLe_s (mxLe_s (mxLe_s (mxLe_s (mxLe_s (mxLe_s (mxLe_n (mxLe_n (mxLe_n (mxLe_n (mxLe_n (mxLe_n (mxLe_n (mxLe_s (mxLe_s (mxLe_s (mxLe_s (mxLe_n (mxLe_n (mxLe_n mxLe_z))))))))))))))))))))) (hK2031 _ (Option.some.inj e2034).symm)
                      refine mG_icmp_ge (pc := 326) (tgt := 380) C dX12_sort__326 (by decide) (fun q1909 => ?_) (fun q1909 => ?_)
                      · rw [if_pos q1909] at e1912
                        refine mG_iload (pc := 380) C dX12_sort__380 rfl ?_
                        refine mG_aload_n (pc := 382) C dX12_sort__382 rfl ?_
                        refine mG_iload (pc := 383) C dX12_sort__383 rfl ?_
                        obtain ⟨v1954, e1955, e1912⟩ := mx_bind e1912
                        refine mG_iaload (pc := 385) C dX12_sort__385 e1955 ?_
                        refine mG_icmp_le (pc := 386) (tgt := 437) C dX12_sort__386 (by decide) (fun q1956 => ?_) (fun q1956 => ?_)
                        · rw [if_pos q1956] at e1912
                          exact mG_sub (mxLe_s (mxLe_s (mxLe_s (mxLe_s (mxLe_s (mxLe_s (mxLe_s (mxLe_n (mxLe_s (mxLe_s (mxLe_s (mxLe_s (mxLe_s (mxLe_n (mxLe_n (mxLe_n (mxLe_n (mxLe_n (mxLe_n (mxLe_n (mxLe_n mxLe_z))))))))))))))))))))) (J1910 _ (Option.some.inj e1912))
                        · rw [if_neg q1956] at e1912
                          refine mG_iload (pc := 389) C dX12_sort__389 rfl ?_
                          refine mG_aload_n (pc := 391) C dX12_sort__391 rfl ?_
                          refine mG_iload (pc := 392) C dX12_sort__392 rfl ?_
                          obtain ⟨v1957, e1958, e1912⟩ := mx_bind e1912
                          refine mG_iaload (pc := 394) C dX12_sort__394 e1958 ?_
                          refine mG_icmp_le (pc := 395) (tgt := 423) C dX12_sort__395 (by decide) (fun q1959 => ?_) (fun q1959 => ?_)
                          · rw [if_pos q1959] at e1912
                            refine mG_aload_n (pc := 423) C dX12_sort__423 rfl ?_
                            refine mG_iload (pc := 424) C dX12_sort__424 rfl ?_
                            refine mG_aload_n (pc := 426) C dX12_sort__426 rfl ?_
                            refine mG_iload (pc := 427) C dX12_sort__427 rfl ?_
                            obtain ⟨v1960, e1961, e1912⟩ := mx_bind e1912
                            refine mG_iaload (pc := 429) C dX12_sort__429 e1961 ?_
                            obtain ⟨h1962, e1963, e1912⟩ := mx_bind e1912
                            refine mG_iastore (pc := 430) C dX12_sort__430 e1963 ?_
                            refine mG_aload_n (pc := 431) C dX12_sort__431 rfl ?_
                            refine mG_iload (pc := 432) C dX12_sort__432 rfl ?_
                            refine mG_iload (pc := 434) C dX12_sort__434 rfl ?_
                            obtain ⟨h1964, e1965, e1912⟩ := mx_bind e1912
                            refine mG_iastore (pc := 436) C dX12_sort__436 e1965 ?_
                            exact mG_sub (mxLe_s (mxLe_s (mxLe_s (mxLe_s (mxLe_s (mxLe_s (mxLe_s (mxLe_n (mxLe_s (mxLe_s (mxLe_s (mxLe_s (mxLe_s (mxLe_n (mxLe_n (mxLe_n (mxLe_n (mxLe_n (mxLe_n (mxLe_n (mxLe_n mxLe_z))))))))))))))))))))) (J1910 _ (Option.some.inj e1912))
                          · rw [if_neg q1959] at e1912
                            refine mG_aload_n (pc := 398) C dX12_sort__398 rfl ?_
                            refine mG_iload (pc := 399) C dX12_sort__399 rfl ?_
                            refine mG_aload_n (pc := 401) C dX12_sort__401 rfl ?_
                            refine mG_iload (pc := 402) C dX12_sort__402 rfl ?_
                            obtain ⟨v1966, e1967, e1912⟩ := mx_bind e1912
                            refine mG_iaload (pc := 404) C dX12_sort__404 e1967 ?_
                            obtain ⟨h1968, e1969, e1912⟩ := mx_bind e1912
                            refine mG_iastore (pc := 405) C dX12_sort__405 e1969 ?_
                            refine mG_aload_n (pc := 406) C dX12_sort__406 rfl ?_
                            refine mG_iload (pc := 407) C dX12_sort__407 rfl ?_
                            refine mG_aload_n (pc := 409) C dX12_sort__409 rfl ?_
                            refine mG_iload (pc := 410) C dX12_sort__410 rfl ?_
                            obtain ⟨v1970, e1971, e1912⟩ := mx_bind e1912
                            refine mG_iaload (pc := 412) C dX12_sort__412 e1971 ?_
                            obtain ⟨h1972, e1973, e1912⟩ := mx_bind e1912
                            refine mG_iastore (pc := 413) C dX12_sort__413 e1973 ?_
                            refine mG_aload_n (pc := 414) C dX12_sort__414 rfl ?_
                            refine mG_iload (pc := 415) C dX12_sort__415 rfl ?_
                            refine mG_iload (pc := 417) C dX12_sort__417 rfl ?_
                            obtain ⟨h1974, e1975, e1912⟩ := mx_bind e1912
                            refine mG_iastore (pc := 419) C dX12_sort__419 e1975 ?_
                            refine mG_goto (tgt := 437) (pc := 420) C dX12_sort__420 (by decide) ?_
                            exact mG_sub (mxLe_s (mxLe_s (mxLe_s (mxLe_s (mxLe_s (mxLe_s (mxLe_s (mxLe_n (mxLe_s (mxLe_s (mxLe_s (mxLe_s (mxLe_s (mxLe_n (mxLe_n (mxLe_n (mxLe_n (mxLe_n (mxLe_n (mxLe_n (mxLe_n mxLe_z))))))))))))))))))))) (J1910 _ (Option.some.inj e1912))
                      · rw [if_neg q1909] at e1912
                        refine mG_iload (pc := 329) C dX12_sort__329 rfl ?_
                        refine mG_aload_n (pc := 331) C dX12_sort__331 rfl ?_
                        refine mG_iload (pc := 332) C dX12_sort__332 rfl ?_
                        obtain ⟨v1976, e1977, e1912⟩ := mx_bind e1912
                        refine mG_iaload (pc := 334) C dX12_sort__334 e1977 ?_
                        refine mG_icmp_ge (pc := 335) (tgt := 363) C dX12_sort__335 (by decide) (fun q1978 => ?_) (fun q1978 => ?_)
                        · rw [if_pos q1978] at e1912
                          refine mG_aload_n (pc := 363) C dX12_sort__363 rfl ?_
                          refine mG_iload (pc := 364) C dX12_sort__364 rfl ?_
                          refine mG_aload_n (pc := 366) C dX12_sort__366 rfl ?_
                          refine mG_iload (pc := 367) C dX12_sort__367 rfl ?_
                          obtain ⟨v1979, e1980, e1912⟩ := mx_bind e1912
                          refine mG_iaload (pc := 369) C dX12_sort__369 e1980 ?_
                          obtain ⟨h1981, e1982, e1912⟩ := mx_bind e1912
                          refine mG_iastore (pc := 370) C dX12_sort__370 e1982 ?_
                          refine mG_aload_n (pc := 371) C dX12_sort__371 rfl ?_
                          refine mG_iload (pc := 372) C dX12_sort__372 rfl ?_
                          refine mG_iload (pc := 374) C dX12_sort__374 rfl ?_
                          obtain ⟨h1983, e1984, e1912⟩ := mx_bind e1912
                          refine mG_iastore (pc := 376) C dX12_sort__376 e1984 ?_
                          refine mG_goto (tgt := 437) (pc := 377) C dX12_sort__377 (by decide) ?_
                          exact mG_sub (mxLe_s (mxLe_s (mxLe_s (mxLe_s (mxLe_s (mxLe_s (mxLe_s (mxLe_n (mxLe_s (mxLe_s (mxLe_s (mxLe_s (mxLe_s (mxLe_n (mxLe_n (mxLe_n (mxLe_n (mxLe_n (mxLe_n (mxLe_n (mxLe_n mxLe_z))))))))))))))))))))) (J1910 _ (Option.some.inj e1912))
                        · rw [if_neg q1978] at e1912
                          refine mG_aload_n (pc := 338) C dX12_sort__338 rfl ?_
                          refine mG_iload (pc := 339) C dX12_sort__339 rfl ?_
                          refine mG_aload_n (pc := 341) C dX12_sort__341 rfl ?_
                          refine mG_iload (pc := 342) C dX12_sort__342 rfl ?_
                          obtain ⟨v1985, e1986, e1912⟩ := mx_bind e1912
                          refine mG_iaload (pc := 344) C dX12_sort__344 e1986 ?_
                          obtain ⟨h1987, e1988, e1912⟩ := mx_bind e1912
                          refine mG_iastore (pc := 345) C dX12_sort__345 e1988 ?_
                          refine mG_aload_n (pc := 346) C dX12_sort__346 rfl ?_
                          refine mG_iload (pc := 347) C dX12_sort__347 rfl ?_
                          refine mG_aload_n (pc := 349) C dX12_sort__349 rfl ?_
                          refine mG_iload (pc := 350) C dX12_sort__350 rfl ?_
                          obtain ⟨v1989, e1990, e1912⟩ := mx_bind e1912
                          refine mG_iaload (pc := 352) C dX12_sort__352 e1990 ?_
                          obtain ⟨h1991, e1992, e1912⟩ := mx_bind e1912
                          refine mG_iastore (pc := 353) C dX12_sort__353 e1992 ?_
                          refine mG_aload_n (pc := 354) C dX12_sort__354 rfl ?_
                          refine mG_iload (pc := 355) C dX12_sort__355 rfl ?_
                          refine mG_iload (pc := 357) C dX12_sort__357 rfl ?_
                          obtain ⟨h1993, e1994, e1912⟩ := mx_bind e1912
                          refine mG_iastore (pc := 359) C dX12_sort__359 e1994 ?_
                          refine mG_goto (tgt := 437) (pc := 360) C dX12_sort__360 (by decide) ?_
                          exact mG_sub (mxLe_s (mxLe_s (mxLe_s (mxLe_s (mxLe_s (mxLe_s (mxLe_s (mxLe_n (mxLe_s (mxLe_s (mxLe_s (mxLe_s (mxLe_s (mxLe_n (mxLe_n (mxLe_n (mxLe_n (mxLe_n (mxLe_n (mxLe_n (mxLe_n mxLe_z))))))))))))))))))))) (J1910 _ (Option.some.inj e1912))
                    refine mG_icmp_ge (pc := 297) (tgt := 320) C dX12_sort__297 (by decide) (fun q1887 => ?_) (fun q1887 => ?_)
                    · rw [if_pos q1887] at e1890
                      exact mG_sub (mxLe_s (mxLe_s (mxLe_s (mxLe_s (mxLe_s (mxLe_s (mxLe_s (mxLe_n (mxLe_s (mxLe_s (mxLe_s (mxLe_s (mxLe_s (mxLe_s (mxLe_n (mxLe_n (mxLe_n (mxLe_n (mxLe_n (mxLe_n (mxLe_n mxLe_z))))))))))))))))))))) (J1888 _ (Option.some.inj e1890))
                    · rw [if_neg q1887] at e1890
                      refine mG_aload_n (pc := 300) C dX12_sort__300 rfl ?_
                      refine mG_iload (pc := 301) C dX12_sort__301 rfl ?_
                      obtain ⟨v1899, e1900, e1890⟩ := mx_bind e1890
                      refine mG_iaload (pc := 303) C dX12_sort__303 e1900 ?_
                      refine mG_is (ls' := [some (.null), some (.ref p1), some (.int (s1751.1 + 6)), some (.int p3), some (.int s1751.2.1), some (.int (s1751.2.1 - 1)), some (.int (s1751.2.1 - p3)), none, some (.int (p3 + v1777)), some (.int ((s1751.2.1 - 1) - v1777)), some (.int v1779), some (.int v1781), some (.int v1783), some (.int v1785), some (.int v1899), none, none, none, none, none, none]) (pc := 304) C dX12_sort__304 rfl rfl rfl ?_
                      refine mG_aload_n (pc := 306) C dX12_sort__306 rfl ?_
                      refine mG_iload (pc := 307) C dX12_sort__307 rfl ?_
                      refine mG_aload_n (pc := 309) C dX12_sort__309 rfl ?_
                      refine mG_iload (pc := 310) C dX12_sort__310 rfl ?_
                      obtain ⟨v1901, e1902, e1890⟩ := mx_bind e1890
                      refine mG_iaload (pc := 312) C dX12_sort__312 e1902 ?_
                      obtain ⟨h1903, e1904, e1890⟩ := mx_bind e1890
                      refine mG_iastore (pc := 313) C dX12_sort__313 e1904 ?_
                      refine mG_aload_n (pc := 314) C dX12_sort__314 rfl ?_
                      refine mG_iload (pc := 315) C dX12_sort__315 rfl ?_
                      refine mG_iload (pc := 317) C dX12_sort__317 rfl ?_
                      obtain ⟨h1905, e1906, e1890⟩ := mx_bind e1890
                      refine mG_iastore (pc := 319) C dX12_sort__319 e1906 ?_
                      exact mG_sub (mxLe_s (mxLe_s (mxLe_s (mxLe_s (mxLe_s (mxLe_s (mxLe_s (mxLe_n (mxLe_s (mxLe_s (mxLe_s (mxLe_s (mxLe_s (mxLe_s (mxLe_n (mxLe_n (mxLe_n (mxLe_n (mxLe_n (mxLe_n (mxLe_n mxLe_z))))))))))))))))))))) (J1888 _ (Option.some.inj e1890))
                  refine mG_icmp_ge (pc := 266) (tgt := 289) C dX12_sort__266 (by decide) (fun q1863 => ?_) (fun q1863 => ?_)
                  · rw [if_pos q1863] at e1866
                    exact mG_sub (mxLe_s (mxLe_s (mxLe_s (mxLe_s (mxLe_s (mxLe_s (mxLe_s (mxLe_n (mxLe_s (mxLe_s (mxLe_s (mxLe_s (mxLe_s (mxLe_s (mxLe_n (mxLe_n (mxLe_n (mxLe_n (mxLe_n (mxLe_n (mxLe_n mxLe_z))))))))))))))))))))) (J1864 _ (Option.some.inj e1866))
                  · rw [if_neg q1863] at e1866
                    refine mG_aload_n (pc := 269) C dX12_sort__269 rfl ?_
                    refine mG_iload (pc := 270) C dX12_sort__270 rfl ?_
                    obtain ⟨v1875, e1876, e1866⟩ := mx_bind e1866
                    refine mG_iaload (pc := 272) C dX12_sort__272 e1876 ?_
                    refine mG_is (ls' := [some (.null), some (.ref p1), some (.int (s1751.1 + 6)), some (.int p3), some (.int s1751.2.1), some (.int (s1751.2.1 - 1)), some (.int (s1751.2.1 - p3)), none, some (.int (p3 + v1777)), some (.int ((s1751.2.1 - 1) - v1777)), some (.int v1779), some (.int v1781), some (.int v1783), some (.int v1785), some (.int v1875), none, none, none, none, none, none]) (pc := 273) C dX12_sort__273 rfl rfl rfl ?_
                    refine mG_aload_n (pc := 275) C dX12_sort__275 rfl ?_
                    refine mG_iload (pc := 276) C dX12_sort__276 rfl ?_
                    refine mG_aload_n (pc := 278) C dX12_sort__278 rfl ?_
                    refine mG_iload (pc := 279) C dX12_sort__279 rfl ?_
                    obtain ⟨v1877, e1878, e1866⟩ := mx_bind e1866
                    refine mG_iaload (pc := 281) C dX12_sort__281 e1878 ?_
                    obtain ⟨h1879, e1880, e1866⟩ := mx_bind e1866
                    refine mG_iastore (pc := 282) C dX12_sort__282 e1880 ?_
                    refine mG_aload_n (pc := 283) C dX12_sort__283 rfl ?_
                    refine mG_iload (pc := 284) C dX12_sort__284 rfl ?_
                    refine mG_iload (pc := 286) C dX12_sort__286 rfl ?_
                    obtain ⟨h1881, e1882, e1866⟩ := mx_bind e1866
                    refine mG_iastore (pc := 288) C dX12_sort__288 e1882 ?_
                    exact mG_sub (mxLe_s (mxLe_s (mxLe_s (mxLe_s (mxLe_s (mxLe_s (mxLe_s (mxLe_n (mxLe_s (mxLe_s (mxLe_s (mxLe_s (mxLe_s (mxLe_s (mxLe_n (mxLe_n (mxLe_n (mxLe_n (mxLe_n (mxLe_n (mxLe_n mxLe_z))))))))))))))))))))) (J1864 _ (Option.some.inj e1866))
                refine mG_icmp_ge (pc := 235) (tgt := 258) C dX12_sort__235 (by decide) (fun q1839 => ?_) (fun q1839 => ?_)
                · rw [if_pos q1839] at e1842
                  exact mG_sub (mxLe_s (mxLe_s (mxLe_s (mxLe_s (mxLe_s (mxLe_s (mxLe_s (mxLe_n (mxLe_s (mxLe_s (mxLe_s (mxLe_s (mxLe_s (mxLe_s (mxLe_n (mxLe_n (mxLe_n (mxLe_n (mxLe_n (mxLe_n (mxLe_n mxLe_z))))))))))))))))))))) (J1840 _ (Option.some.inj e1842))
                · rw [if_neg q1839] at e1842
                  refine mG_aload_n (pc := 238) C dX12_sort__238 rfl ?_
                  refine mG_iload (pc := 239) C dX12_sort__239 rfl ?_
                  obtain ⟨v1851, e1852, e1842⟩ := mx_bind e1842
                  refine mG_iaload (pc := 241) C dX12_sort__241 e1852 ?_
                  refine mG_is (ls' := [some (.null), some (.ref p1), some (.int (s1751.1 + 6)), some (.int p3), some (.int s1751.2.1), some (.int (s1751.2.1 - 1)), some (.int (s1751.2.1 - p3)), none, some (.int (p3 + v1777)), some (.int ((s1751.2.1 - 1) - v1777)), some (.int v1779), some (.int v1781), some (.int v1783), some (.int v1785), some (.int v1851), none, none, none, none, none, none]) (pc := 242) C dX12_sort__242 rfl rfl rfl ?_
                  refine mG_aload_n (pc := 244) C dX12_sort__244 rfl ?_
                  refine mG_iload (pc := 245) C dX12_sort__245 rfl ?_
                  refine mG_aload_n (pc := 247) C dX12_sort__247 rfl ?_
                  refine mG_iload (pc := 248) C dX12_sort__248 rfl ?_
                  obtain ⟨v1853, e1854, e1842⟩ := mx_bind e1842
                  refine mG_iaload (pc := 250) C dX12_sort__250 e1854 ?_
                  obtain ⟨h1855, e1856, e1842⟩ := mx_bind e1842
                  refine mG_iastore (pc := 251) C dX12_sort__251 e1856 ?_
                  refine mG_aload_n (pc := 252) C dX12_sort__252 rfl ?_
                  refine mG_iload (pc := 253) C dX12_sort__253 rfl ?_
                  refine mG_iload (pc := 255) C dX12_sort__255 rfl ?_
                  obtain ⟨h1857, e1858, e1842⟩ := mx_bind e1842
                  refine mG_iastore (pc := 257) C dX12_sort__257 e1858 ?_
                  exact mG_sub (mxLe_s (mxLe_s (mxLe_s (mxLe_s (mxLe_s (mxLe_s (mxLe_s (mxLe_n (mxLe_s (mxLe_s (mxLe_s (mxLe_s (mxLe_s (mxLe_s (mxLe_n (mxLe_n (mxLe_n (mxLe_n (mxLe_n (mxLe_n (mxLe_n mxLe_z))))))))))))))))))))) (J1840 _ (Option.some.inj e1842))
              refine mG_icmp_ge (pc := 204) (tgt := 227) C dX12_sort__204 (by decide) (fun q1815 => ?_) (fun q1815 => ?_)
              · rw [if_pos q1815] at e1818
                exact mG_sub (mxLe_s (mxLe_s (mxLe_s (mxLe_s (mxLe_s (mxLe_s (mxLe_s (mxLe_n (mxLe_s (mxLe_s (mxLe_s (mxLe_s (mxLe_s (mxLe_s (mxLe_n (mxLe_n (mxLe_n (mxLe_n (mxLe_n (mxLe_n (mxLe_n mxLe_z))))))))))))))))))))) (J1816 _ (Option.some.inj e1818))
              · rw [if_neg q1815] at e1818
                refine mG_aload_n (pc := 207) C dX12_sort__207 rfl ?_
                refine mG_iload (pc := 208) C dX12_sort__208 rfl ?_
                obtain ⟨v1827, e1828, e1818⟩ := mx_bind e1818
                refine mG_iaload (pc := 210) C dX12_sort__210 e1828 ?_
                refine mG_is (ls' := [some (.null), some (.ref p1), some (.int (s1751.1 + 6)), some (.int p3), some (.int s1751.2.1), some (.int (s1751.2.1 - 1)), some (.int (s1751.2.1 - p3)), none, some (.int (p3 + v1777)), some (.int ((s1751.2.1 - 1) - v1777)), some (.int v1779), some (.int v1781), some (.int v1783), some (.int v1785), some (.int v1827), none, none, none, none, none, none]) (pc := 211) C dX12_sort__211 rfl rfl rfl ?_
                refine mG_aload_n (pc := 213) C dX12_sort__213 rfl ?_
                refine mG_iload (pc := 214) C dX12_sort__214 rfl ?_
                refine mG_aload_n (pc := 216) C dX12_sort__216 rfl ?_
                refine mG_iload (pc := 217) C dX12_sort__217 rfl ?_
                obtain ⟨v1829, e1830, e1818⟩ := mx_bind e1818
                refine mG_iaload (pc := 219) C dX12_sort__219 e1830 ?_
                obtain ⟨h1831, e1832, e1818⟩ := mx_bind e1818
                refine mG_iastore (pc := 220) C dX12_sort__220 e1832 ?_
                refine mG_aload_n (pc := 221) C dX12_sort__221 rfl ?_
                refine mG_iload (pc := 222) C dX12_sort__222 rfl ?_
                refine mG_iload (pc := 224) C dX12_sort__224 rfl ?_
                obtain ⟨h1833, e1834, e1818⟩ := mx_bind e1818
                refine mG_iastore (pc := 226) C dX12_sort__226 e1834 ?_
                exact mG_sub (mxLe_s (mxLe_s (mxLe_s (mxLe_s (mxLe_s (mxLe_s (mxLe_s (mxLe_n (mxLe_s (mxLe_s (mxLe_s (mxLe_s (mxLe_s (mxLe_s (mxLe_n (mxLe_n (mxLe_n (mxLe_n (mxLe_n (mxLe_n (mxLe_n mxLe_z))))))))))))))))))))) (J1816 _ (Option.some.inj e1818))
            refine mG_icmp_ge (pc := 173) (tgt := 196) C dX12_sort__173 (by decide) (fun q1791 => ?_) (fun q1791 => ?_)
            · rw [if_pos q1791] at e1794
              exact mG_sub (mxLe_s (mxLe_s (mxLe_s (mxLe_s (mxLe_s (mxLe_s (mxLe_s (mxLe_n (mxLe_s (mxLe_s (mxLe_s (mxLe_s (mxLe_s (mxLe_s (mxLe_n (mxLe_n (mxLe_n (mxLe_n (mxLe_n (mxLe_n (mxLe_n mxLe_z))))))))))))))))))))) (J1792 _ (Option.some.inj e1794))
            · rw [if_neg q1791] at e1794
              refine mG_aload_n (pc := 176) C dX12_sort__176 rfl ?_
              refine mG_iload (pc := 177) C dX12_sort__177 rfl ?_
              obtain ⟨v1803, e1804, e1794⟩ := mx_bind e1794
              refine mG_iaload (pc := 179) C dX12_sort__179 e1804 ?_
              refine mG_is (ls' := [some (.null), some (.ref p1), some (.int (s1751.1 + 6)), some (.int p3), some (.int s1751.2.1), some (.int (s1751.2.1 - 1)), some (.int (s1751.2.1 - p3)), some (.int v1777), some (.int (p3 + v1777)), some (.int ((s1751.2.1 - 1) - v1777)), some (.int v1779), some (.int v1781), some (.int v1783), some (.int v1785), some (.int v1803), none, none, none, none, none, none]) (pc := 180) C dX12_sort__180 rfl rfl rfl ?_
              refine mG_aload_n (pc := 182) C dX12_sort__182 rfl ?_
              refine mG_iload (pc := 183) C dX12_sort__183 rfl ?_
              refine mG_aload_n (pc := 185) C dX12_sort__185 rfl ?_
              refine mG_iload (pc := 186) C dX12_sort__186 rfl ?_
              obtain ⟨v1805, e1806, e1794⟩ := mx_bind e1794
              refine mG_iaload (pc := 188) C dX12_sort__188 e1806 ?_
              obtain ⟨h1807, e1808, e1794⟩ := mx_bind e1794
              refine mG_iastore (pc := 189) C dX12_sort__189 e1808 ?_
              refine mG_aload_n (pc := 190) C dX12_sort__190 rfl ?_
              refine mG_iload (pc := 191) C dX12_sort__191 rfl ?_
              refine mG_iload (pc := 193) C dX12_sort__193 rfl ?_
              obtain ⟨h1809, e1810, e1794⟩ := mx_bind e1794
              refine mG_iastore (pc := 195) C dX12_sort__195 e1810 ?_
              exact mG_sub (mxLe_s (mxLe_s (mxLe_s (mxLe_s (mxLe_s (mxLe_s (mxLe_s (mxLe_n (mxLe_s (mxLe_s (mxLe_s (mxLe_s (mxLe_s (mxLe_s (mxLe_n (mxLe_n (mxLe_n (mxLe_n (mxLe_n (mxLe_n (mxLe_n mxLe_z))))))))))))))))))))) (J1792 _ (Option.some.inj e1794))
          · rw [if_neg q1776] at e1767
            exact mG_wd (by omega) (by omega) (mG_sub (mxLe_n (mxLe_s (mxLe_n (mxLe_n (mxLe_n (mxLe_n (mxLe_n (mxLe_n (mxLe_n (mxLe_n (mxLe_n (mxLe_n (mxLe_n (mxLe_n (mxLe_n (mxLe_n (mxLe_n (mxLe_n (mxLe_n (mxLe_n (mxLe_n mxLe_z))))))))))))))))))))) (J1759 _ (hx1763 _ (Option.some.inj e1767).symm)))
        · rw [if_neg q1775] at e1767
          exact mG_wd (by omega) (by omega) (mG_sub (mxLe_n (mxLe_n (mxLe_n (mxLe_n (mxLe_n (mxLe_n (mxLe_n (mxLe_n (mxLe_n (mxLe_n (mxLe_n (mxLe_n (mxLe_n (mxLe_n (mxLe_n (mxLe_n (mxLe_n (mxLe_n (mxLe_n (mxLe_n (mxLe_n mxLe_z))))))))))))))))))))) (J1758 _ (hx1763 _ (Option.some.inj e1767).symm)))
      · rw [if_neg q1772] at e1767
        refine mG_iload (pc := 65) C dX12_sort__65 rfl ?_
        refine mG_sp (pc := 67) C dX12_sort__67 kS4096 ?_
        refine mG_icmp_le (pc := 70) (tgt := 91) C dX12_sort__70 (by decide) (fun q2208 => ?_) (fun q2208 => ?_)
        · rw [if_pos q2208] at e1767
          refine mG_ii (ls' := [some (.null), some (.ref p1), some (.int (s1751.1 + 6)), some (.int p3), some (.int s1751.2.1), some (.int (s1751.2.1 - 1)), some (.int (s1751.2.1 - p3)), none, none, none, none, none, none, none, none, none, none, none, none, none, none]) (pc := 91) C dX12_sort__91 rfl (kinc6 _) rfl rfl rfl ?_
          refine mG_iload_n (pc := 94) C dX12_sort__94 rfl ?_
          refine mG_sp (pc := 95) C dX12_sort__95 kS384 ?_
          refine mG_icmp_le (pc := 98) (tgt := 109) C dX12_sort__98 (by decide) (fun q2209 => ?_) (fun q2209 => ?_)
          · rw [if_pos q2209] at e1767
            refine mG_iload (pc := 109) C dX12_sort__109 rfl ?_
            refine mG_ic (pc := 111) C dX12_sort__111 kI3 ?_
            refine mG_ishr (pc := 112) C dX12_sort__112 ?_
            refine mG_ic (pc := 113) C dX12_sort__113 kI3 ?_
            refine mG_imul (pc := 114) C dX12_sort__114 ?_
            refine mG_ic (pc := 115) C dX12_sort__115 kI3 ?_
            refine mG_iadd (pc := 116) C dX12_sort__116 ?_
            obtain ⟨v2210, e2211, e1767⟩ := mx_bind e1767
            refine mG_isv (ls' := [some (.null), some (.ref p1), some (.int (s1751.1 + 6)), some (.int p3), some (.int s1751.2.1), some (.int (s1751.2.1 - 1)), some (.int (s1751.2.1 - p3)), some (.int v2210), none, none, none, none, none, none, none, none, none, none, none, none, none]) (pc := 117) C dX12_sort__117 e2211 rfl rfl rfl ?_
            refine mG_iload_n (pc := 119) C dX12_sort__119 rfl ?_
            refine mG_iload (pc := 120) C dX12_sort__120 rfl ?_
            refine mG_iadd (pc := 122) C dX12_sort__122 ?_
            refine mG_is (ls' := [some (.null), some (.ref p1), some (.int (s1751.1 + 6)), some (.int p3), some (.int s1751.2.1), some (.int (s1751.2.1 - 1)), some (.int (s1751.2.1 - p3)), some (.int v2210), some (.int (p3 + v2210)), none, none, none, none, none, none, none, none, none, none, none, none]) (pc := 123) C dX12_sort__123 rfl rfl rfl ?_
            refine mG_iload (pc := 125) C dX12_sort__125 rfl ?_
            refine mG_iload (pc := 127) C dX12_sort__127 rfl ?_
            refine mG_isub (pc := 129) C dX12_sort__129 ?_
            refine mG_is (ls' := [some (.null), some (.ref p1), some (.int (s1751.1 + 6)), some (.int p3), some (.int s1751.2.1), some (.int (s1751.2.1 - 1)), some (.int (s1751.2.1 - p3)), some (.int v2210), some (.int (p3 + v2210)), some (.int ((s1751.2.1 - 1) - v2210)), none, none, none, none, none, none, none, none, none, none, none]) (pc := 130) C dX12_sort__130 rfl rfl rfl ?_
            refine mG_iload (pc := 132) C dX12_sort__132 rfl ?_
            refine mG_iload (pc := 134) C dX12_sort__134 rfl ?_
            refine mG_iadd (pc := 136) C dX12_sort__136 ?_
            refine mG_ic (pc := 137) C dX12_sort__137 kI1 ?_
            refine mG_iushr (pc := 138) C dX12_sort__138 ?_
            obtain ⟨v2212, e2213, e1767⟩ := mx_bind e1767
            refine mG_isv (ls' := [some (.null), some (.ref p1), some (.int (s1751.1 + 6)), some (.int p3), some (.int s1751.2.1), some (.int (s1751.2.1 - 1)), some (.int (s1751.2.1 - p3)), some (.int v2210), some (.int (p3 + v2210)), some (.int ((s1751.2.1 - 1) - v2210)), some (.int v2212), none, none, none, none, none, none, none, none, none, none]) (pc := 139) C dX12_sort__139 e2213 rfl rfl rfl ?_
            refine mG_iload (pc := 141) C dX12_sort__141 rfl ?_
            refine mG_iload (pc := 143) C dX12_sort__143 rfl ?_
            refine mG_iadd (pc := 145) C dX12_sort__145 ?_
            refine mG_ic (pc := 146) C dX12_sort__146 kI1 ?_
            refine mG_iushr (pc := 147) C dX12_sort__147 ?_
            obtain ⟨v2214, e2215, e1767⟩ := mx_bind e1767
            refine mG_isv (ls' := [some (.null), some (.ref p1), some (.int (s1751.1 + 6)), some (.int p3), some (.int s1751.2.1), some (.int (s1751.2.1 - 1)), some (.int (s1751.2.1 - p3)), some (.int v2210), some (.int (p3 + v2210)), some (.int ((s1751.2.1 - 1) - v2210)), some (.int v2212), some (.int v2214), none, none, none, none, none, none, none, none, none]) (pc := 148) C dX12_sort__148 e2215 rfl rfl rfl ?_
            refine mG_iload (pc := 150) C dX12_sort__150 rfl ?_
            refine mG_iload (pc := 152) C dX12_sort__152 rfl ?_
            refine mG_iadd (pc := 154) C dX12_sort__154 ?_
            refine mG_ic (pc := 155) C dX12_sort__155 kI1 ?_
            refine mG_iushr (pc := 156) C dX12_sort__156 ?_
            obtain ⟨v2216, e2217, e1767⟩ := mx_bind e1767
            refine mG_isv (ls' := [some (.null), some (.ref p1), some (.int (s1751.1 + 6)), some (.int p3), some (.int s1751.2.1), some (.int (s1751.2.1 - 1)), some (.int (s1751.2.1 - p3)), some (.int v2210), some (.int (p3 + v2210)), some (.int ((s1751.2.1 - 1) - v2210)), some (.int v2212), some (.int v2214), some (.int v2216), none, none, none, none, none, none, none, none]) (pc := 157) C dX12_sort__157 e2217 rfl rfl rfl ?_
            refine mG_aload_n (pc := 159) C dX12_sort__159 rfl ?_
            refine mG_iload (pc := 160) C dX12_sort__160 rfl ?_
            obtain ⟨v2218, e2219, e1767⟩ := mx_bind e1767
            refine mG_iaload (pc := 162) C dX12_sort__162 e2219 ?_
            refine mG_is (ls' := [some (.null), some (.ref p1), some (.int (s1751.1 + 6)), some (.int p3), some (.int s1751.2.1), some (.int (s1751.2.1 - 1)), some (.int (s1751.2.1 - p3)), some (.int v2210), some (.int (p3 + v2210)), some (.int ((s1751.2.1 - 1) - v2210)), some (.int v2212), some (.int v2214), some (.int v2216), some (.int v2218), none, none, none, none, none, none, none]) (pc := 163) C dX12_sort__163 rfl rfl rfl ?_
            refine mG_aload_n (pc := 165) C dX12_sort__165 rfl ?_
            refine mG_iload (pc := 166) C dX12_sort__166 rfl ?_
            obtain ⟨v2220, e2221, e1767⟩ := mx_bind e1767
            refine mG_iaload (pc := 168) C dX12_sort__168 e2221 ?_
            refine mG_aload_n (pc := 169) C dX12_sort__169 rfl ?_
            refine mG_iload (pc := 170) C dX12_sort__170 rfl ?_
            obtain ⟨v2222, e2223, e1767⟩ := mx_bind e1767
            refine mG_iaload (pc := 172) C dX12_sort__172 e2223 ?_
            obtain ⟨jp2226, e2227, e1767⟩ := mx_bind e1767
            have J2225 : ∀ jp2226' : mxH, jp2226' = jp2226 → mG l Z X 21 k1752 n1753 196 [some (.null), some (.ref p1), some (.int (s1751.1 + 6)), some (.int p3), some (.int s1751.2.1), some (.int (s1751.2.1 - 1)), some (.int (s1751.2.1 - p3)), none, some (.int (p3 + v2210)), some (.int ((s1751.2.1 - 1) - v2210)), some (.int v2212), some (.int v2214), some (.int v2216), some (.int v2218), none, none, none, none, none, none, none] [] jp2226' := by
              intro jp2226' q2640
              subst q2640
              refine mG_aload_n (pc := 196) C dX12_sort__196 rfl ?_
              refine mG_iload (pc := 197) C dX12_sort__197 rfl ?_
              obtain ⟨v2244, e2245, e1767⟩ := mx_bind e1767
              refine mG_iaload (pc := 199) C dX12_sort__199 e2245 ?_
              refine mG_aload_n (pc := 200) C dX12_sort__200 rfl ?_
              refine mG_iload (pc := 201) C dX12_sort__201 rfl ?_
              obtain ⟨v2246, e2247, e1767⟩ := mx_bind e1767
              refine mG_iaload (pc := 203) C dX12_sort__203 e2247 ?_
              obtain ⟨jp2250, e2251, e1767⟩ := mx_bind e1767
              have J2249 : ∀ jp2250' : mxH, jp2250' = jp2250 → mG l Z X 21 k1752 n1753 227 [some (.null), some (.ref p1), some (.int (s1751.1 + 6)), some (.int p3), some (.int s1751.2.1), some (.int (s1751.2.1 - 1)), some (.int (s1751.2.1 - p3)), none, some (.int (p3 + v2210)), some (.int ((s1751.2.1 - 1) - v2210)), some (.int v2212), some (.int v2214), some (.int v2216), some (.int v2218), none, none, none, none, none, none, none] [] jp2250' := by
                intro jp2250' q2639
                subst q2639
                refine mG_aload_n (pc := 227) C dX12_sort__227 rfl ?_
                refine mG_iload (pc := 228) C dX12_sort__228 rfl ?_
                obtain ⟨v2268, e2269, e1767⟩ := mx_bind e1767
                refine mG_iaload (pc := 230) C dX12_sort__230 e2269 ?_
                refine mG_aload_n (pc := 231) C dX12_sort__231 rfl ?_
                refine mG_iload (pc := 232) C dX12_sort__232 rfl ?_
                obtain ⟨v2270, e2271, e1767⟩ := mx_bind e1767
                refine mG_iaload (pc := 234) C dX12_sort__234 e2271 ?_
                obtain ⟨jp2274, e2275, e1767⟩ := mx_bind e1767
                have J2273 : ∀ jp2274' : mxH, jp2274' = jp2274 → mG l Z X 21 k1752 n1753 258 [some (.null), some (.ref p1), some (.int (s1751.1 + 6)), some (.int p3), some (.int s1751.2.1), some (.int (s1751.2.1 - 1)), some (.int (s1751.2.1 - p3)), none, some (.int (p3 + v2210)), some (.int ((s1751.2.1 - 1) - v2210)), some (.int v2212), some (.int v2214), some (.int v2216), some (.int v2218), none, none, none, none, none, none, none] [] jp2274' := by
                  intro jp2274' q2638
                  subst q2638
                  refine mG_aload_n (pc := 258) C dX12_sort__258 rfl ?_
                  refine mG_iload (pc := 259) C dX12_sort__259 rfl ?_
                  obtain ⟨v2292, e2293, e1767⟩ := mx_bind e1767
                  refine mG_iaload (pc := 261) C dX12_sort__261 e2293 ?_
                  refine mG_aload_n (pc := 262) C dX12_sort__262 rfl ?_
                  refine mG_iload (pc := 263) C dX12_sort__263 rfl ?_
                  obtain ⟨v2294, e2295, e1767⟩ := mx_bind e1767
                  refine mG_iaload (pc := 265) C dX12_sort__265 e2295 ?_
                  obtain ⟨jp2298, e2299, e1767⟩ := mx_bind e1767
                  have J2297 : ∀ jp2298' : mxH, jp2298' = jp2298 → mG l Z X 21 k1752 n1753 289 [some (.null), some (.ref p1), some (.int (s1751.1 + 6)), some (.int p3), some (.int s1751.2.1), some (.int (s1751.2.1 - 1)), some (.int (s1751.2.1 - p3)), none, some (.int (p3 + v2210)), some (.int ((s1751.2.1 - 1) - v2210)), some (.int v2212), some (.int v2214), some (.int v2216), some (.int v2218), none, none, none, none, none, none, none] [] jp2298' := by
                    intro jp2298' q2637
                    subst q2637
                    refine mG_aload_n (pc := 289) C dX12_sort__289 rfl ?_
                    refine mG_iload (pc := 290) C dX12_sort__290 rfl ?_
                    obtain ⟨v2316, e2317, e1767⟩ := mx_bind e1767
                    refine mG_iaload (pc := 292) C dX12_sort__292 e2317 ?_
                    refine mG_aload_n (pc := 293) C dX12_sort__293 rfl ?_
                    refine mG_iload (pc := 294) C dX12_sort__294 rfl ?_
                    obtain ⟨v2318, e2319, e1767⟩ := mx_bind e1767
                    refine mG_iaload (pc := 296) C dX12_sort__296 e2319 ?_
                    obtain ⟨jp2322, e2323, e1767⟩ := mx_bind e1767
                    have J2321 : ∀ jp2322' : mxH, jp2322' = jp2322 → mG l Z X 21 k1752 n1753 320 [some (.null), some (.ref p1), some (.int (s1751.1 + 6)), some (.int p3), some (.int s1751.2.1), some (.int (s1751.2.1 - 1)), some (.int (s1751.2.1 - p3)), none, some (.int (p3 + v2210)), some (.int ((s1751.2.1 - 1) - v2210)), some (.int v2212), some (.int v2214), some (.int v2216), some (.int v2218), none, none, none, none, none, none, none] [] jp2322' := by
                      intro jp2322' q2636
                      subst q2636
                      refine mG_iload (pc := 320) C dX12_sort__320 rfl ?_
                      refine mG_aload_n (pc := 322) C dX12_sort__322 rfl ?_
                      refine mG_iload (pc := 323) C dX12_sort__323 rfl ?_
                      obtain ⟨v2340, e2341, e1767⟩ := mx_bind e1767
                      refine mG_iaload (pc := 325) C dX12_sort__325 e2341 ?_
                      obtain ⟨jp2344, e2345, e1767⟩ := mx_bind e1767
                      have J2343 : ∀ jp2344' : mxH, jp2344' = jp2344 → mG l Z X 21 k1752 n1753 437 [some (.null), some (.ref p1), some (.int (s1751.1 + 6)), some (.int p3), some (.int s1751.2.1), some (.int (s1751.2.1 - 1)), some (.int (s1751.2.1 - p3)), none, some (.int (p3 + v2210)), some (.int ((s1751.2.1 - 1) - v2210)), some (.int v2212), some (.int v2214), some (.int v2216), none, none, none, none, none, none, none, none] [] jp2344' := by
                        intro jp2344' q2635
                        subst q2635
                        refine mG_iload_n (pc := 437) C dX12_sort__437 rfl ?_
                        refine mG_is (ls' := [some (.null), some (.ref p1), some (.int (s1751.1 + 6)), some (.int p3), some (.int s1751.2.1), some (.int (s1751.2.1 - 1)), some (.int (s1751.2.1 - p3)), none, some (.int (p3 + v2210)), some (.int ((s1751.2.1 - 1) - v2210)), some (.int v2212), some (.int v2214), some (.int v2216), none, some (.int p3), none, none, none, none, none, none]) (pc := 438) C dX12_sort__438 rfl rfl rfl ?_
                        refine mG_iload (pc := 440) C dX12_sort__440 rfl ?_
                        refine mG_is (ls' := [some (.null), some (.ref p1), some (.int (s1751.1 + 6)), some (.int p3), some (.int s1751.2.1), some (.int (s1751.2.1 - 1)), some (.int (s1751.2.1 - p3)), none, some (.int (p3 + v2210)), some (.int ((s1751.2.1 - 1) - v2210)), some (.int v2212), some (.int v2214), some (.int v2216), none, some (.int p3), some (.int (s1751.2.1 - 1)), none, none, none, none, none]) (pc := 442) C dX12_sort__442 rfl rfl rfl ?_
                        refine mG_aload_n (pc := 444) C dX12_sort__444 rfl ?_
                        refine mG_iload (pc := 445) C dX12_sort__445 rfl ?_
                        obtain ⟨v2428, e2429, e1767⟩ := mx_bind e1767
                        refine mG_iaload (pc := 447) C dX12_sort__447 e2429 ?_
                        refine mG_aload_n (pc := 448) C dX12_sort__448 rfl ?_
                        refine mG_iload (pc := 449) C dX12_sort__449 rfl ?_
                        obtain ⟨v2430, e2431, e1767⟩ := mx_bind e1767
                        refine mG_iaload (pc := 451) C dX12_sort__451 e2431 ?_
                        refine mG_icmp_ge (pc := 452) (tgt := 776) C dX12_sort__452 (by decide) (fun q2432 => ?_) (fun q2432 => ?_)
                        · rw [if_pos q2432] at e1767
                          exact mG_wd (by omega) (by omega) (mG_sub (mxLe_n (mxLe_s (mxLe_n (mxLe_n (mxLe_n (mxLe_n (mxLe_n (mxLe_n (mxLe_n (mxLe_n (mxLe_n (mxLe_n (mxLe_n (mxLe_n (mxLe_n (mxLe_n (mxLe_n (mxLe_n (mxLe_n (mxLe_n (mxLe_n mxLe_z))))))))))))))))))))) (J1761 _ (hx1763 _ (Option.some.inj e1767).symm)))
                        · rw [if_neg q2432] at e1767
                          refine mG_aload_n (pc := 455) C dX12_sort__455 rfl ?_
                          refine mG_iload (pc := 456) C dX12_sort__456 rfl ?_
                          obtain ⟨v2433, e2434, e1767⟩ := mx_bind e1767
                          refine mG_iaload (pc := 458) C dX12_sort__458 e2434 ?_
                          refine mG_aload_n (pc := 459) C dX12_sort__459 rfl ?_
                          refine mG_iload (pc := 460) C dX12_sort__460 rfl ?_
                          obtain ⟨v2435, e2436, e1767⟩ := mx_bind e1767
                          refine mG_iaload (pc := 462) C dX12_sort__462 e2436 ?_
                          refine mG_icmp_ge (pc := 463) (tgt := 776) C dX12_sort__463 (by decide) (fun q2437 => ?_) (fun q2437 => ?_)
                          · rw [if_pos q2437] at e1767
                            exact mG_wd (by omega) (by omega) (mG_sub (mxLe_n (mxLe_s (mxLe_n (mxLe_n (mxLe_n (mxLe_n (mxLe_n (mxLe_n (mxLe_n (mxLe_n (mxLe_n (mxLe_n (mxLe_n (mxLe_n (mxLe_n (mxLe_n (mxLe_n (mxLe_n (mxLe_n (mxLe_n (mxLe_n mxLe_z))))))))))))))))))))) (J1761 _ (hx1763 _ (Option.some.inj e1767).symm)))
                          · rw [if_neg q2437] at e1767
                            refine mG_aload_n (pc := 466) C dX12_sort__466 rfl ?_
                            refine mG_iload (pc := 467) C dX12_sort__467 rfl ?_
                            obtain ⟨v2438, e2439, e1767⟩ := mx_bind e1767
                            refine mG_iaload (pc := 469) C dX12_sort__469 e2439 ?_
                            refine mG_aload_n (pc := 470) C dX12_sort__470 rfl ?_
                            refine mG_iload (pc := 471) C dX12_sort__471 rfl ?_
                            obtain ⟨v2440, e2441, e1767⟩ := mx_bind e1767
                            refine mG_iaload (pc := 473) C dX12_sort__473 e2441 ?_
                            refine mG_icmp_ge (pc := 474) (tgt := 776) C dX12_sort__474 (by decide) (fun q2442 => ?_) (fun q2442 => ?_)
                            · rw [if_pos q2442] at e1767
                              exact mG_wd (by omega) (by omega) (mG_sub (mxLe_n (mxLe_s (mxLe_n (mxLe_n (mxLe_n (mxLe_n (mxLe_n (mxLe_n (mxLe_n (mxLe_n (mxLe_n (mxLe_n (mxLe_n (mxLe_n (mxLe_n (mxLe_n (mxLe_n (mxLe_n (mxLe_n (mxLe_n (mxLe_n mxLe_z))))))))))))))))))))) (J1761 _ (hx1763 _ (Option.some.inj e1767).symm)))
                            · rw [if_neg q2442] at e1767
                              refine mG_aload_n (pc := 477) C dX12_sort__477 rfl ?_
                              refine mG_iload (pc := 478) C dX12_sort__478 rfl ?_
                              obtain ⟨v2443, e2444, e1767⟩ := mx_bind e1767
                              refine mG_iaload (pc := 480) C dX12_sort__480 e2444 ?_
                              refine mG_aload_n (pc := 481) C dX12_sort__481 rfl ?_
                              refine mG_iload (pc := 482) C dX12_sort__482 rfl ?_
                              obtain ⟨v2445, e2446, e1767⟩ := mx_bind e1767
                              refine mG_iaload (pc := 484) C dX12_sort__484 e2446 ?_
                              refine mG_icmp_ge (pc := 485) (tgt := 776) C dX12_sort__485 (by decide) (fun q2447 => ?_) (fun q2447 => ?_)
                              · rw [if_pos q2447] at e1767
                                exact mG_wd (by omega) (by omega) (mG_sub (mxLe_n (mxLe_s (mxLe_n (mxLe_n (mxLe_n (mxLe_n (mxLe_n (mxLe_n (mxLe_n (mxLe_n (mxLe_n (mxLe_n (mxLe_n (mxLe_n (mxLe_n (mxLe_n (mxLe_n (mxLe_n (mxLe_n (mxLe_n (mxLe_n mxLe_z))))))))))))))))))))) (J1761 _ (hx1763 _ (Option.some.inj e1767).symm)))
                              · rw [if_neg q2447] at e1767
                                refine mG_aload_n (pc := 488) C dX12_sort__488 rfl ?_
                                refine mG_iload (pc := 489) C dX12_sort__489 rfl ?_
                                obtain ⟨v2448, e2449, e1767⟩ := mx_bind e1767
                                refine mG_iaload (pc := 491) C dX12_sort__491 e2449 ?_
                                refine mG_is (ls' := [some (.null), some (.ref p1), some (.int (s1751.1 + 6)), some (.int p3), some (.int s1751.2.1), some (.int (s1751.2.1 - 1)), some (.int (s1751.2.1 - p3)), none, some (.int (p3 + v2210)), some (.int ((s1751.2.1 - 1) - v2210)), some (.int v2212), some (.int v2214), some (.int v2216), none, some (.int p3), some (.int (s1751.2.1 - 1)), some (.int v2448), none, none, none, none]) (pc := 492) C dX12_sort__492 rfl rfl rfl ?_
                                refine mG_aload_n (pc := 494) C dX12_sort__494 rfl ?_
                                refine mG_iload (pc := 495) C dX12_sort__495 rfl ?_
                                obtain ⟨v2450, e2451, e1767⟩ := mx_bind e1767
                                refine mG_iaload (pc := 497) C dX12_sort__497 e2451 ?_
                                refine mG_is (ls' := [some (.null), some (.ref p1), some (.int (s1751.1 + 6)), some (.int p3), some (.int s1751.2.1), some (.int (s1751.2.1 - 1)), some (.int (s1751.2.1 - p3)), none, some (.int (p3 + v2210)), some (.int ((s1751.2.1 - 1) - v2210)), some (.int v2212), some (.int v2214), some (.int v2216), none, some (.int p3), some (.int (s1751.2.1 - 1)), some (.int v2448), some (.int v2450), none, none, none]) (pc := 498) C dX12_sort__498 rfl rfl rfl ?_
                                refine mG_aload_n (pc := 500) C dX12_sort__500 rfl ?_
                                refine mG_iload (pc := 501) C dX12_sort__501 rfl ?_
                                refine mG_aload_n (pc := 503) C dX12_sort__503 rfl ?_
                                refine mG_iload (pc := 504) C dX12_sort__504 rfl ?_
                                obtain ⟨v2452, e2453, e1767⟩ := mx_bind e1767
                                refine mG_iaload (pc := 506) C dX12_sort__506 e2453 ?_
                                obtain ⟨h2454, e2455, e1767⟩ := mx_bind e1767
                                refine mG_iastore (pc := 507) C dX12_sort__507 e2455 ?_
                                refine mG_aload_n (pc := 508) C dX12_sort__508 rfl ?_
                                refine mG_iload (pc := 509) C dX12_sort__509 rfl ?_
                                refine mG_aload_n (pc := 511) C dX12_sort__511 rfl ?_
                                refine mG_iload (pc := 512) C dX12_sort__512 rfl ?_
                                obtain ⟨v2456, e2457, e1767⟩ := mx_bind e1767
                                refine mG_iaload (pc := 514) C dX12_sort__514 e2457 ?_
                                obtain ⟨h2458, e2459, e1767⟩ := mx_bind e1767
                                refine mG_iastore (pc := 515) C dX12_sort__515 e2459 ?_
                                obtain ⟨r2461, e2462, e1767⟩ := mx_bind e1767
                                have J2463 : ∀ r2471 : Int32, r2471 = r2461 → mG l Z X 21 k1752 n1753 531 [some (.null), some (.ref p1), some (.int (s1751.1 + 6)), some (.int p3), some (.int s1751.2.1), some (.int (s1751.2.1 - 1)), some (.int (s1751.2.1 - p3)), none, none, none, none, none, none, none, some (.int r2471), some (.int (s1751.2.1 - 1)), some (.int v2448), some (.int v2450), none, none, none] [] h2458 := by
                                  intro r2471 q2634
                                  subst q2634
                                  obtain ⟨r2473, e2474, e1767⟩ := mx_bind e1767
                                  have J2475 : ∀ r2483 : Int32, r2483 = r2473 → mG l Z X 21 k1752 n1753 546 [some (.null), some (.ref p1), some (.int (s1751.1 + 6)), some (.int p3), some (.int s1751.2.1), some (.int (s1751.2.1 - 1)), some (.int (s1751.2.1 - p3)), none, none, none, none, none, none, none, some (.int r2471), some (.int r2483), some (.int v2448), some (.int v2450), none, none, none] [] h2458 := by
                                    intro r2483 q2633
                                    subst q2633
                                    refine mG_ii (ls' := [some (.null), some (.ref p1), some (.int (s1751.1 + 6)), some (.int p3), some (.int s1751.2.1), some (.int (s1751.2.1 - 1)), some (.int (s1751.2.1 - p3)), none, none, none, none, none, none, none, some (.int (r2471 - 1)), some (.int r2483), some (.int v2448), some (.int v2450), none, none, none]) (pc := 546) C dX12_sort__546 rfl (kincm1 _) rfl rfl rfl ?_
                                    refine mG_iload (pc := 549) C dX12_sort__549 rfl ?_
                                    refine mG_is (ls' := [some (.null), some (.ref p1), some (.int (s1751.1 + 6)), some (.int p3), some (.int s1751.2.1), some (.int (s1751.2.1 - 1)), some (.int (s1751.2.1 - p3)), none, none, none, none, none, none, none, some (.int (r2471 - 1)), some (.int r2483), some (.int v2448), some (.int v2450), some (.int (r2471 - 1)), none, none]) (pc := 551) C dX12_sort__551 rfl rfl rfl ?_
                                    refine mG_ii (ls' := [some (.null), some (.ref p1), some (.int (s1751.1 + 6)), some (.int p3), some (.int s1751.2.1), some (.int (s1751.2.1 - 1)), some (.int (s1751.2.1 - p3)), none, none, none, none, none, none, none, some (.int (r2471 - 1)), some (.int (r2483 + 1)), some (.int v2448), some (.int v2450), some (.int (r2471 - 1)), none, none]) (pc := 553) C dX12_sort__553 rfl (kinc1 _) rfl rfl rfl ?_
                                    refine mG_iload (pc := 556) C dX12_sort__556 rfl ?_
                                    refine mG_is (ls' := [some (.null), some (.ref p1), some (.int (s1751.1 + 6)), some (.int p3), some (.int s1751.2.1), some (.int (s1751.2.1 - 1)), some (.int (s1751.2.1 - p3)), none, none, none, none, none, none, none, some (.int (r2471 - 1)), some (.int (r2483 + 1)), some (.int v2448), some (.int v2450), some (.int (r2471 - 1)), some (.int (r2483 + 1)), none]) (pc := 558) C dX12_sort__558 rfl rfl rfl ?_
                                    obtain ⟨r2485, e2486, e1767⟩ := mx_bind e1767
                                    have J2487 : ∀ r2614 : (Int32 × Int32 × mxH), r2614 = r2485 → mG l Z X 21 k1752 n1753 677 [some (.null), some (.ref p1), some (.int (s1751.1 + 6)), some (.int p3), some (.int s1751.2.1), some (.int (s1751.2.1 - 1)), some (.int (s1751.2.1 - p3)), none, none, none, none, none, none, none, some (.int r2614.1), some (.int r2614.2.1), some (.int v2448), some (.int v2450), none, none, none] [] r2614.2.2 := by
                                      intro r2614 q2632
                                      subst q2632
                                      refine mG_aload_n (pc := 677) C dX12_sort__677 rfl ?_
                                      refine mG_iload_n (pc := 678) C dX12_sort__678 rfl ?_
                                      refine mG_aload_n (pc := 679) C dX12_sort__679 rfl ?_
                                      refine mG_iload (pc := 680) C dX12_sort__680 rfl ?_
                                      obtain ⟨v2615, e2616, e1767⟩ := mx_bind e1767
                                      refine mG_iaload (pc := 682) C dX12_sort__682 e2616 ?_
                                      obtain ⟨h2617, e2618, e1767⟩ := mx_bind e1767
                                      refine mG_iastore (pc := 683) C dX12_sort__683 e2618 ?_
                                      refine mG_aload_n (pc := 684) C dX12_sort__684 rfl ?_
                                      refine mG_iload (pc := 685) C dX12_sort__685 rfl ?_
                                      refine mG_iload (pc := 687) C dX12_sort__687 rfl ?_
                                      obtain ⟨h2619, e2620, e1767⟩ := mx_bind e1767
                                      refine mG_iastore (pc := 689) C dX12_sort__689 e2620 ?_
                                      refine mG_aload_n (pc := 690) C dX12_sort__690 rfl ?_
                                      refine mG_iload (pc := 691) C dX12_sort__691 rfl ?_
                                      refine mG_aload_n (pc := 693) C dX12_sort__693 rfl ?_
                                      refine mG_iload (pc := 694) C dX12_sort__694 rfl ?_
                                      obtain ⟨v2621, e2622, e1767⟩ := mx_bind e1767
                                      refine mG_iaload (pc := 696) C dX12_sort__696 e2622 ?_
                                      obtain ⟨h2623, e2624, e1767⟩ := mx_bind e1767
                                      refine mG_iastore (pc := 697) C dX12_sort__697 e2624 ?_
                                      refine mG_aload_n (pc := 698) C dX12_sort__698 rfl ?_
                                      refine mG_iload (pc := 699) C dX12_sort__699 rfl ?_
                                      refine mG_iload (pc := 701) C dX12_sort__701 rfl ?_
                                      obtain ⟨h2625, e2626, e1767⟩ := mx_bind e1767
                                      refine mG_iastore (pc := 703) C dX12_sort__703 e2626 ?_
                                      refine mG_iload (pc := 704) C dX12_sort__704 rfl ?_
                                      refine mG_sp (pc := 706) C dX12_sort__706 kS4096 ?_
                                      refine mG_icmp_le (pc := 709) (tgt := 745) C dX12_sort__709 (by decide) (fun q2627 => ?_) (fun q2627 => ?_)
                                      · rw [if_pos q2627] at e1767
                                        refine mG_aload_nN (pc := 745) C dX12_sort__745 rfl ?_
                                        refine mG_aload_n (pc := 746) C dX12_sort__746 rfl ?_
                                        refine mG_iload_n (pc := 747) C dX12_sort__747 rfl ?_
                                        refine mG_ic (pc := 748) C dX12_sort__748 kI1 ?_
                                        refine mG_ior (pc := 749) C dX12_sort__749 ?_
                                        refine mG_iload (pc := 750) C dX12_sort__750 rfl ?_
                                        refine mG_ic (pc := 752) C dX12_sort__752 kI1 ?_
                                        refine mG_iadd (pc := 753) C dX12_sort__753 ?_
                                        refine mG_iload (pc := 754) C dX12_sort__754 rfl ?_
                                        obtain ⟨o2629, e2628, e1767⟩ := mx_bind e1767
                                        refine mG_cS2 (pc := 756) (k' := k1752) (n' := n1753) (h' := o2629) (v := none) [.null, .ref p1, .int ((s1751.1 + 6) ||| 1), .int (r2614.1 + 1), .int r2614.2.1] [] C hX dX12_sort__756 lkS_X12_26 rfl (tX12_sort_l hl e2628) rfl (by show k1752 + 0 = k1752; omega) (by show n1753 + 0 = n1753; omega) ⟨by show k1752 ≤ 70; omega, by show n1753 ≤ 8890; omega⟩ rfl ?_
                                        refine mG_aload_nN (pc := 759) C dX12_sort__759 rfl ?_
                                        refine mG_aload_n (pc := 760) C dX12_sort__760 rfl ?_
                                        refine mG_iload_n (pc := 761) C dX12_sort__761 rfl ?_
                                        refine mG_ic (pc := 762) C dX12_sort__762 kI1 ?_
                                        refine mG_ior (pc := 763) C dX12_sort__763 ?_
                                        refine mG_iload (pc := 764) C dX12_sort__764 rfl ?_
                                        refine mG_ic (pc := 766) C dX12_sort__766 kI1 ?_
                                        refine mG_iadd (pc := 767) C dX12_sort__767 ?_
                                        refine mG_iload (pc := 768) C dX12_sort__768 rfl ?_
                                        obtain ⟨o2631, e2630, e1767⟩ := mx_bind e1767
                                        refine mG_cS2 (pc := 770) (k' := k1752) (n' := n1753) (h' := o2631) (v := none) [.null, .ref p1, .int ((s1751.1 + 6) ||| 1), .int (r2614.2.1 + 1), .int s1751.2.1] [] C hX dX12_sort__770 lkS_X12_26 rfl (tX12_sort_l hl e2630) rfl (by show k1752 + 0 = k1752; omega) (by show n1753 + 0 = n1753; omega) ⟨by show k1752 ≤ 70; omega, by show n1753 ≤ 8890; omega⟩ rfl ?_
                                        refine mG_goto (tgt := 940) (pc := 773) C dX12_sort__773 (by decide) ?_
                                        refine mG_iload (pc := 940) C dX12_sort__940 rfl ?_
                                        refine mG_is (ls' := [some (.null), some (.ref p1), some (.int (s1751.1 + 6)), some (.int p3), some (.int r2614.1), some (.int (s1751.2.1 - 1)), some (.int (s1751.2.1 - p3)), none, none, none, none, none, none, none, some (.int r2614.1), some (.int r2614.2.1), some (.int v2448), some (.int v2450), none, none, none]) (pc := 942) C dX12_sort__942 rfl rfl rfl ?_
                                        refine mG_goto (tgt := 0) (pc := 944) C dX12_sort__944 (by decide) ?_
                                        exact mG_sub (mxLe_s (mxLe_s (mxLe_s (mxLe_s (mxLe_s (mxLe_n (mxLe_n (mxLe_n (mxLe_n (mxLe_n (mxLe_n (mxLe_n (mxLe_n (mxLe_n (mxLe_n (mxLe_n (mxLe_n (mxLe_n (mxLe_n (mxLe_n (mxLe_n mxLe_z))))))))))))))))))))) (hK1762 _ (Option.some.inj e1767).symm _ _ (by omega) (by omega))
                                      · rw [if_neg q2627] at e1767
                                        exact mG_wd (by omega) (by omega) (mG_sub (mxLe_s (mxLe_n (mxLe_n (mxLe_n (mxLe_n (mxLe_n (mxLe_n (mxLe_n (mxLe_n (mxLe_n (mxLe_n (mxLe_n (mxLe_n (mxLe_n (mxLe_n (mxLe_n (mxLe_n (mxLe_n (mxLe_n (mxLe_n (mxLe_n mxLe_z))))))))))))))))))))) (J1760 _ (hx1763 _ (Option.some.inj e1767).symm)))
                                    refine mG_sub (ls' := [some (.null), some (.ref p1), some (.int (s1751.1 + 6)), some (.int p3), some (.int s1751.2.1), some (.int (s1751.2.1 - 1)), some (.int (s1751.2.1 - p3)), none, none, none, none, none, none, none, some (.int (r2471 - 1)), some (.int (r2483 + 1)), some (.int v2448), some (.int v2450), none, some (.int (r2483 + 1)), none]) (mxLe_s (mxLe_s (mxLe_s (mxLe_s (mxLe_s (mxLe_s (mxLe_s (mxLe_n (mxLe_n (mxLe_n (mxLe_n (mxLe_n (mxLe_n (mxLe_n (mxLe_s (mxLe_s (mxLe_s (mxLe_s (mxLe_n (mxLe_s (mxLe_n mxLe_z))))))))))))))))))))) (mxLoop_ind (K := fun s2484 : (Int32 × Int32 × Int32 × mxH) => mG l Z X 21 k1752 n1753 560 [some (.null), some (.ref p1), some (.int (s1751.1 + 6)), some (.int p3), some (.int s1751.2.1), some (.int (s1751.2.1 - 1)), some (.int (s1751.2.1 - p3)), none, none, none, none, none, none, none, some (.int s2484.1), some (.int s2484.2.1), some (.int v2448), some (.int v2450), none, some (.int s2484.2.2.1), none] [] s2484.2.2.2) ?_ _ _ e2486)
                                    intro s2484 o2490 e2491 hK2488 hx2489
                                    refine mG_ii (ls' := [some (.null), some (.ref p1), some (.int (s1751.1 + 6)), some (.int p3), some (.int s1751.2.1), some (.int (s1751.2.1 - 1)), some (.int (s1751.2.1 - p3)), none, none, none, none, none, none, none, some (.int s2484.1), some (.int s2484.2.1), some (.int v2448), some (.int v2450), none, some (.int (s2484.2.2.1 - 1)), none]) (pc := 560) C dX12_sort__560 rfl (kincm1 _) rfl rfl rfl ?_
                                    refine mG_iload (pc := 563) C dX12_sort__563 rfl ?_
                                    refine mG_iload (pc := 565) C dX12_sort__565 rfl ?_
                                    refine mG_icmp_le (pc := 567) (tgt := 677) C dX12_sort__567 (by decide) (fun q2492 => ?_) (fun q2492 => ?_)
                                    · rw [if_pos q2492] at e2491
                                      exact mG_sub (mxLe_s (mxLe_s (mxLe_s (mxLe_s (mxLe_s (mxLe_s (mxLe_s (mxLe_n (mxLe_n (mxLe_n (mxLe_n (mxLe_n (mxLe_n (mxLe_n (mxLe_s (mxLe_s (mxLe_s (mxLe_s (mxLe_n (mxLe_n (mxLe_n mxLe_z))))))))))))))))))))) (J2487 _ (hx2489 _ (Option.some.inj e2491).symm))
                                    · rw [if_neg q2492] at e2491
                                      refine mG_aload_n (pc := 570) C dX12_sort__570 rfl ?_
                                      refine mG_iload (pc := 571) C dX12_sort__571 rfl ?_
                                      obtain ⟨v2493, e2494, e2491⟩ := mx_bind e2491
                                      refine mG_iaload (pc := 573) C dX12_sort__573 e2494 ?_
                                      refine mG_is (ls' := [some (.null), some (.ref p1), some (.int (s1751.1 + 6)), some (.int p3), some (.int s1751.2.1), some (.int (s1751.2.1 - 1)), some (.int (s1751.2.1 - p3)), none, none, none, none, none, none, none, some (.int s2484.1), some (.int s2484.2.1), some (.int v2448), some (.int v2450), none, some (.int (s2484.2.2.1 - 1)), some (.int v2493)]) (pc := 574) C dX12_sort__574 rfl rfl rfl ?_
                                      refine mG_iload (pc := 576) C dX12_sort__576 rfl ?_
                                      refine mG_iload (pc := 578) C dX12_sort__578 rfl ?_
                                      obtain ⟨jp2497, e2498, e2491⟩ := mx_bind e2491
                                      have J2496 : ∀ jp2497' : (Int32 × Int32 × mxH), jp2497' = jp2497 → mG l Z X 21 k1752 n1753 674 [some (.null), some (.ref p1), some (.int (s1751.1 + 6)), some (.int p3), some (.int s1751.2.1), some (.int (s1751.2.1 - 1)), some (.int (s1751.2.1 - p3)), none, none, none, none, none, none, none, some (.int jp2497'.1), some (.int jp2497'.2.1), some (.int v2448), some (.int v2450), none, some (.int (s2484.2.2.1 - 1)), none] [] jp2497'.2.2 := by
                                        intro jp2497' q2613
                                        subst q2613
                                        refine mG_goto (tgt := 560) (pc := 674) C dX12_sort__674 (by decide) ?_
                                        exact mG_sub (mxLe_s (mxLe_s (mxLe_s (mxLe_s (mxLe_s (mxLe_s (mxLe_s (mxLe_n (mxLe_n (mxLe_n (mxLe_n (mxLe_n (mxLe_n (mxLe_n (mxLe_s (mxLe_s (mxLe_s (mxLe_s (mxLe_n (mxLe_s (mxLe_n mxLe_z))))))))))))))))))))) (hK2488 _ (Option.some.inj e2491).symm)
                                      refine mG_icmp_ge (pc := 580) (tgt := 650) C dX12_sort__580 (by decide) (fun q2495 => ?_) (fun q2495 => ?_)
                                      · rw [if_pos q2495] at e2498
                                        refine mG_iload (pc := 650) C dX12_sort__650 rfl ?_
                                        refine mG_iload (pc := 652) C dX12_sort__652 rfl ?_
                                        refine mG_icmp_le (pc := 654) (tgt := 674) C dX12_sort__654 (by decide) (fun q2556 => ?_) (fun q2556 => ?_)
                                        · rw [if_pos q2556] at e2498
                                          exact mG_sub (mxLe_s (mxLe_s (mxLe_s (mxLe_s (mxLe_s (mxLe_s (mxLe_s (mxLe_n (mxLe_n (mxLe_n (mxLe_n (mxLe_n (mxLe_n (mxLe_n (mxLe_s (mxLe_s (mxLe_s (mxLe_s (mxLe_n (mxLe_s (mxLe_n mxLe_z))))))))))))))))))))) (J2496 _ (Option.some.inj e2498))
                                        · rw [if_neg q2556] at e2498
                                          refine mG_aload_n (pc := 657) C dX12_sort__657 rfl ?_
                                          refine mG_iload (pc := 658) C dX12_sort__658 rfl ?_
                                          refine mG_aload_n (pc := 660) C dX12_sort__660 rfl ?_
                                          refine mG_ii (ls' := [some (.null), some (.ref p1), some (.int (s1751.1 + 6)), some (.int p3), some (.int s1751.2.1), some (.int (s1751.2.1 - 1)), some (.int (s1751.2.1 - p3)), none, none, none, none, none, none, none, some (.int s2484.1), some (.int (s2484.2.1 - 1)), some (.int v2448), some (.int v2450), none, some (.int (s2484.2.2.1 - 1)), some (.int v2493)]) (pc := 661) C dX12_sort__661 rfl (kincm1 _) rfl rfl rfl ?_
                                          refine mG_iload (pc := 664) C dX12_sort__664 rfl ?_
                                          obtain ⟨v2557, e2558, e2498⟩ := mx_bind e2498
                                          refine mG_iaload (pc := 666) C dX12_sort__666 e2558 ?_
                                          obtain ⟨h2559, e2560, e2498⟩ := mx_bind e2498
                                          refine mG_iastore (pc := 667) C dX12_sort__667 e2560 ?_
                                          refine mG_aload_n (pc := 668) C dX12_sort__668 rfl ?_
                                          refine mG_iload (pc := 669) C dX12_sort__669 rfl ?_
                                          refine mG_iload (pc := 671) C dX12_sort__671 rfl ?_
                                          obtain ⟨h2561, e2562, e2498⟩ := mx_bind e2498
                                          refine mG_iastore (pc := 673) C dX12_sort__673 e2562 ?_
                                          exact mG_sub (mxLe_s (mxLe_s (mxLe_s (mxLe_s (mxLe_s (mxLe_s (mxLe_s (mxLe_n (mxLe_n (mxLe_n (mxLe_n (mxLe_n (mxLe_n (mxLe_n (mxLe_s (mxLe_s (mxLe_s (mxLe_s (mxLe_n (mxLe_s (mxLe_n mxLe_z))))))))))))))))))))) (J2496 _ (Option.some.inj e2498))
                                      · rw [if_neg q2495] at e2498
                                        obtain ⟨r2564, e2565, e2498⟩ := mx_bind e2498
                                        have J2566 : ∀ r2576 : Int32, Sum.inl r2576 = r2564 → mG l Z X 21 k1752 n1753 602 [some (.null), some (.ref p1), some (.int (s1751.1 + 6)), some (.int p3), some (.int s1751.2.1), some (.int (s1751.2.1 - 1)), some (.int (s1751.2.1 - p3)), none, none, none, none, none, none, none, some (.int r2576), some (.int s2484.2.1), some (.int v2448), some (.int v2450), none, some (.int (s2484.2.2.1 - 1)), some (.int v2493)] [] s2484.2.2.2 := by
                                          intro r2576 q2610
                                          subst q2610
                                          rw [Sum.elim_inl] at e2498
                                          refine mG_aload_n (pc := 602) C dX12_sort__602 rfl ?_
                                          refine mG_iload (pc := 603) C dX12_sort__603 rfl ?_
                                          obtain ⟨v2577, e2578, e2498⟩ := mx_bind e2498
                                          refine mG_iaload (pc := 605) C dX12_sort__605 e2578 ?_
                                          refine mG_iload (pc := 606) C dX12_sort__606 rfl ?_
                                          obtain ⟨jp2581, e2582, e2498⟩ := mx_bind e2498
                                          have J2580 : ∀ jp2581' : (Int32 × mxH), jp2581' = jp2581 → mG l Z X 21 k1752 n1753 641 [some (.null), some (.ref p1), some (.int (s1751.1 + 6)), some (.int p3), some (.int s1751.2.1), some (.int (s1751.2.1 - 1)), some (.int (s1751.2.1 - p3)), none, none, none, none, none, none, none, some (.int r2576), some (.int jp2581'.1), some (.int v2448), some (.int v2450), none, some (.int (s2484.2.2.1 - 1)), some (.int v2493)] [] jp2581'.2 := by
                                            intro jp2581' q2609
                                            subst q2609
                                            refine mG_aload_n (pc := 641) C dX12_sort__641 rfl ?_
                                            refine mG_iload (pc := 642) C dX12_sort__642 rfl ?_
                                            refine mG_iload (pc := 644) C dX12_sort__644 rfl ?_
                                            obtain ⟨h2607, e2608, e2498⟩ := mx_bind e2498
                                            refine mG_iastore (pc := 646) C dX12_sort__646 e2608 ?_
                                            refine mG_goto (tgt := 674) (pc := 647) C dX12_sort__647 (by decide) ?_
                                            exact mG_sub (mxLe_s (mxLe_s (mxLe_s (mxLe_s (mxLe_s (mxLe_s (mxLe_s (mxLe_n (mxLe_n (mxLe_n (mxLe_n (mxLe_n (mxLe_n (mxLe_n (mxLe_s (mxLe_s (mxLe_s (mxLe_s (mxLe_n (mxLe_s (mxLe_n mxLe_z))))))))))))))))))))) (J2496 _ (Option.some.inj e2498))
                                          refine mG_icmp_le (pc := 608) (tgt := 633) C dX12_sort__608 (by decide) (fun q2579 => ?_) (fun q2579 => ?_)
                                          · rw [if_pos q2579] at e2582
                                            refine mG_aload_n (pc := 633) C dX12_sort__633 rfl ?_
                                            refine mG_iload (pc := 634) C dX12_sort__634 rfl ?_
                                            refine mG_aload_n (pc := 636) C dX12_sort__636 rfl ?_
                                            refine mG_iload (pc := 637) C dX12_sort__637 rfl ?_
                                            obtain ⟨v2595, e2596, e2582⟩ := mx_bind e2582
                                            refine mG_iaload (pc := 639) C dX12_sort__639 e2596 ?_
                                            obtain ⟨h2597, e2598, e2582⟩ := mx_bind e2582
                                            refine mG_iastore (pc := 640) C dX12_sort__640 e2598 ?_
                                            exact mG_sub (mxLe_s (mxLe_s (mxLe_s (mxLe_s (mxLe_s (mxLe_s (mxLe_s (mxLe_n (mxLe_n (mxLe_n (mxLe_n (mxLe_n (mxLe_n (mxLe_n (mxLe_s (mxLe_s (mxLe_s (mxLe_s (mxLe_n (mxLe_s (mxLe_s mxLe_z))))))))))))))))))))) (J2580 _ (Option.some.inj e2582))
                                          · rw [if_neg q2579] at e2582
                                            refine mG_aload_n (pc := 611) C dX12_sort__611 rfl ?_
                                            refine mG_iload (pc := 612) C dX12_sort__612 rfl ?_
                                            refine mG_aload_n (pc := 614) C dX12_sort__614 rfl ?_
                                            refine mG_ii (ls' := [some (.null), some (.ref p1), some (.int (s1751.1 + 6)), some (.int p3), some (.int s1751.2.1), some (.int (s1751.2.1 - 1)), some (.int (s1751.2.1 - p3)), none, none, none, none, none, none, none, some (.int r2576), some (.int (s2484.2.1 - 1)), some (.int v2448), some (.int v2450), none, some (.int (s2484.2.2.1 - 1)), some (.int v2493)]) (pc := 615) C dX12_sort__615 rfl (kincm1 _) rfl rfl rfl ?_
                                            refine mG_iload (pc := 618) C dX12_sort__618 rfl ?_
                                            obtain ⟨v2599, e2600, e2582⟩ := mx_bind e2582
                                            refine mG_iaload (pc := 620) C dX12_sort__620 e2600 ?_
                                            obtain ⟨h2601, e2602, e2582⟩ := mx_bind e2582
                                            refine mG_iastore (pc := 621) C dX12_sort__621 e2602 ?_
                                            refine mG_aload_n (pc := 622) C dX12_sort__622 rfl ?_
                                            refine mG_iload (pc := 623) C dX12_sort__623 rfl ?_
                                            refine mG_aload_n (pc := 625) C dX12_sort__625 rfl ?_
                                            refine mG_iload (pc := 626) C dX12_sort__626 rfl ?_
                                            obtain ⟨v2603, e2604, e2582⟩ := mx_bind e2582
                                            refine mG_iaload (pc := 628) C dX12_sort__628 e2604 ?_
                                            obtain ⟨h2605, e2606, e2582⟩ := mx_bind e2582
                                            refine mG_iastore (pc := 629) C dX12_sort__629 e2606 ?_
                                            refine mG_goto (tgt := 641) (pc := 630) C dX12_sort__630 (by decide) ?_
                                            exact mG_sub (mxLe_s (mxLe_s (mxLe_s (mxLe_s (mxLe_s (mxLe_s (mxLe_s (mxLe_n (mxLe_n (mxLe_n (mxLe_n (mxLe_n (mxLe_n (mxLe_n (mxLe_s (mxLe_s (mxLe_s (mxLe_s (mxLe_n (mxLe_s (mxLe_s mxLe_z))))))))))))))))))))) (J2580 _ (Option.some.inj e2582))
                                        have J2567 : ∀ r2611 : Int32, Sum.inr r2611 = r2564 → mG l Z X 21 k1752 n1753 674 [some (.null), some (.ref p1), some (.int (s1751.1 + 6)), some (.int p3), some (.int s1751.2.1), some (.int (s1751.2.1 - 1)), some (.int (s1751.2.1 - p3)), none, none, none, none, none, none, none, some (.int r2611), some (.int s2484.2.1), some (.int v2448), some (.int v2450), none, some (.int (s2484.2.2.1 - 1)), none] [] s2484.2.2.2 := by
                                          intro r2611 q2612
                                          subst q2612
                                          rw [Sum.elim_inr] at e2498
                                          exact mG_sub (mxLe_s (mxLe_s (mxLe_s (mxLe_s (mxLe_s (mxLe_s (mxLe_s (mxLe_n (mxLe_n (mxLe_n (mxLe_n (mxLe_n (mxLe_n (mxLe_n (mxLe_s (mxLe_s (mxLe_s (mxLe_s (mxLe_n (mxLe_s (mxLe_n mxLe_z))))))))))))))))))))) (J2496 _ (Option.some.inj e2498))
                                        refine mG_sub (ls' := [some (.null), some (.ref p1), some (.int (s1751.1 + 6)), some (.int p3), some (.int s1751.2.1), some (.int (s1751.2.1 - 1)), some (.int (s1751.2.1 - p3)), none, none, none, none, none, none, none, some (.int s2484.1), some (.int s2484.2.1), some (.int v2448), some (.int v2450), none, some (.int (s2484.2.2.1 - 1)), some (.int v2493)]) (mxLe_s (mxLe_s (mxLe_s (mxLe_s (mxLe_s (mxLe_s (mxLe_s (mxLe_n (mxLe_n (mxLe_n (mxLe_n (mxLe_n (mxLe_n (mxLe_n (mxLe_s (mxLe_s (mxLe_s (mxLe_s (mxLe_n (mxLe_s (mxLe_s mxLe_z))))))))))))))))))))) (mxLoop_ind (K := fun s2563 : Int32 => mG l Z X 21 k1752 n1753 583 [some (.null), some (.ref p1), some (.int (s1751.1 + 6)), some (.int p3), some (.int s1751.2.1), some (.int (s1751.2.1 - 1)), some (.int (s1751.2.1 - p3)), none, none, none, none, none, none, none, some (.int s2563), some (.int s2484.2.1), some (.int v2448), some (.int v2450), none, some (.int (s2484.2.2.1 - 1)), some (.int v2493)] [] s2484.2.2.2) ?_ _ _ e2565)
                                        intro s2563 o2570 e2571 hK2568 hx2569
                                        refine mG_iload (pc := 583) C dX12_sort__583 rfl ?_
                                        refine mG_iload (pc := 585) C dX12_sort__585 rfl ?_
                                        refine mG_icmp_ge (pc := 587) (tgt := 674) C dX12_sort__587 (by decide) (fun q2572 => ?_) (fun q2572 => ?_)
                                        · rw [if_pos q2572] at e2571
                                          exact mG_sub (mxLe_s (mxLe_s (mxLe_s (mxLe_s (mxLe_s (mxLe_s (mxLe_s (mxLe_n (mxLe_n (mxLe_n (mxLe_n (mxLe_n (mxLe_n (mxLe_n (mxLe_s (mxLe_s (mxLe_s (mxLe_s (mxLe_n (mxLe_s (mxLe_n mxLe_z))))))))))))))))))))) (J2567 _ (hx2569 _ (Option.some.inj e2571).symm))
                                        · rw [if_neg q2572] at e2571
                                          refine mG_aload_n (pc := 590) C dX12_sort__590 rfl ?_
                                          refine mG_ii (ls' := [some (.null), some (.ref p1), some (.int (s1751.1 + 6)), some (.int p3), some (.int s1751.2.1), some (.int (s1751.2.1 - 1)), some (.int (s1751.2.1 - p3)), none, none, none, none, none, none, none, some (.int (s2563 + 1)), some (.int s2484.2.1), some (.int v2448), some (.int v2450), none, some (.int (s2484.2.2.1 - 1)), some (.int v2493)]) (pc := 591) C dX12_sort__591 rfl (kinc1 _) rfl rfl rfl ?_
                                          refine mG_iload (pc := 594) C dX12_sort__594 rfl ?_
                                          obtain ⟨v2573, e2574, e2571⟩ := mx_bind e2571
                                          refine mG_iaload (pc := 596) C dX12_sort__596 e2574 ?_
                                          refine mG_iload (pc := 597) C dX12_sort__597 rfl ?_
                                          refine mG_icmp_lt (pc := 599) (tgt := 583) C dX12_sort__599 (by decide) (fun q2575 => ?_) (fun q2575 => ?_)
                                          · rw [if_pos q2575] at e2571
                                            exact mG_sub (mxLe_s (mxLe_s (mxLe_s (mxLe_s (mxLe_s (mxLe_s (mxLe_s (mxLe_n (mxLe_n (mxLe_n (mxLe_n (mxLe_n (mxLe_n (mxLe_n (mxLe_s (mxLe_s (mxLe_s (mxLe_s (mxLe_n (mxLe_s (mxLe_s mxLe_z))))))))))))))))))))) (hK2568 _ (Option.some.inj e2571).symm)
                                          · rw [if_neg q2575] at e2571
                                            exact mG_sub (mxLe_s (mxLe_s (mxLe_s (mxLe_s (mxLe_s (mxLe_s (mxLe_s (mxLe_n (mxLe_n (mxLe_n (mxLe_n (mxLe_n (mxLe_n (mxLe_n (mxLe_s (mxLe_s (mxLe_s (mxLe_s (mxLe_n (mxLe_s (mxLe_s mxLe_z))))))))))))))))))))) (J2566 _ (hx2569 _ (Option.some.inj e2571).symm))
                                  refine mG_sub (ls' := [some (.null), some (.ref p1), some (.int (s1751.1 + 6)), some (.int p3), some (.int s1751.2.1), some (.int (s1751.2.1 - 1)), some (.int (s1751.2.1 - p3)), none, none, none, none, none, none, none, some (.int r2471), some (.int (s1751.2.1 - 1)), some (.int v2448), some (.int v2450), none, none, none]) (mxLe_s (mxLe_s (mxLe_s (mxLe_s (mxLe_s (mxLe_s (mxLe_s (mxLe_n (mxLe_n (mxLe_n (mxLe_n (mxLe_n (mxLe_n (mxLe_n (mxLe_s (mxLe_s (mxLe_s (mxLe_s (mxLe_n (mxLe_n (mxLe_n mxLe_z))))))))))))))))))))) (mxLoop_ind (K := fun s2472 : Int32 => mG l Z X 21 k1752 n1753 531 [some (.null), some (.ref p1), some (.int (s1751.1 + 6)), some (.int p3), some (.int s1751.2.1), some (.int (s1751.2.1 - 1)), some (.int (s1751.2.1 - p3)), none, none, none, none, none, none, none, some (.int r2471), some (.int s2472), some (.int v2448), some (.int v2450), none, none, none] [] h2458) ?_ _ _ e2474)
                                  intro s2472 o2478 e2479 hK2476 hx2477
                                  refine mG_aload_n (pc := 531) C dX12_sort__531 rfl ?_
                                  refine mG_ii (ls' := [some (.null), some (.ref p1), some (.int (s1751.1 + 6)), some (.int p3), some (.int s1751.2.1), some (.int (s1751.2.1 - 1)), some (.int (s1751.2.1 - p3)), none, none, none, none, none, none, none, some (.int r2471), some (.int (s2472 - 1)), some (.int v2448), some (.int v2450), none, none, none]) (pc := 532) C dX12_sort__532 rfl (kincm1 _) rfl rfl rfl ?_
                                  refine mG_iload (pc := 535) C dX12_sort__535 rfl ?_
                                  obtain ⟨v2480, e2481, e2479⟩ := mx_bind e2479
                                  refine mG_iaload (pc := 537) C dX12_sort__537 e2481 ?_
                                  refine mG_iload (pc := 538) C dX12_sort__538 rfl ?_
                                  refine mG_icmp_le (pc := 540) (tgt := 546) C dX12_sort__540 (by decide) (fun q2482 => ?_) (fun q2482 => ?_)
                                  · rw [if_pos q2482] at e2479
                                    exact mG_sub (mxLe_s (mxLe_s (mxLe_s (mxLe_s (mxLe_s (mxLe_s (mxLe_s (mxLe_n (mxLe_n (mxLe_n (mxLe_n (mxLe_n (mxLe_n (mxLe_n (mxLe_s (mxLe_s (mxLe_s (mxLe_s (mxLe_n (mxLe_n (mxLe_n mxLe_z))))))))))))))))))))) (J2475 _ (hx2477 _ (Option.some.inj e2479).symm))
                                  · rw [if_neg q2482] at e2479
                                    refine mG_goto (tgt := 531) (pc := 543) C dX12_sort__543 (by decide) ?_
                                    exact mG_sub (mxLe_s (mxLe_s (mxLe_s (mxLe_s (mxLe_s (mxLe_s (mxLe_s (mxLe_n (mxLe_n (mxLe_n (mxLe_n (mxLe_n (mxLe_n (mxLe_n (mxLe_s (mxLe_s (mxLe_s (mxLe_s (mxLe_n (mxLe_n (mxLe_n mxLe_z))))))))))))))))))))) (hK2476 _ (Option.some.inj e2479).symm)
                                refine mG_sub (ls' := [some (.null), some (.ref p1), some (.int (s1751.1 + 6)), some (.int p3), some (.int s1751.2.1), some (.int (s1751.2.1 - 1)), some (.int (s1751.2.1 - p3)), none, none, none, none, none, none, none, some (.int p3), some (.int (s1751.2.1 - 1)), some (.int v2448), some (.int v2450), none, none, none]) (mxLe_s (mxLe_s (mxLe_s (mxLe_s (mxLe_s (mxLe_s (mxLe_s (mxLe_n (mxLe_n (mxLe_n (mxLe_n (mxLe_n (mxLe_n (mxLe_n (mxLe_s (mxLe_s (mxLe_s (mxLe_s (mxLe_n (mxLe_n (mxLe_n mxLe_z))))))))))))))))))))) (mxLoop_ind (K := fun s2460 : Int32 => mG l Z X 21 k1752 n1753 516 [some (.null), some (.ref p1), some (.int (s1751.1 + 6)), some (.int p3), some (.int s1751.2.1), some (.int (s1751.2.1 - 1)), some (.int (s1751.2.1 - p3)), none, none, none, none, none, none, none, some (.int s2460), some (.int (s1751.2.1 - 1)), some (.int v2448), some (.int v2450), none, none, none] [] h2458) ?_ _ _ e2462)
                                intro s2460 o2466 e2467 hK2464 hx2465
                                refine mG_aload_n (pc := 516) C dX12_sort__516 rfl ?_
                                refine mG_ii (ls' := [some (.null), some (.ref p1), some (.int (s1751.1 + 6)), some (.int p3), some (.int s1751.2.1), some (.int (s1751.2.1 - 1)), some (.int (s1751.2.1 - p3)), none, none, none, none, none, none, none, some (.int (s2460 + 1)), some (.int (s1751.2.1 - 1)), some (.int v2448), some (.int v2450), none, none, none]) (pc := 517) C dX12_sort__517 rfl (kinc1 _) rfl rfl rfl ?_
                                refine mG_iload (pc := 520) C dX12_sort__520 rfl ?_
                                obtain ⟨v2468, e2469, e2467⟩ := mx_bind e2467
                                refine mG_iaload (pc := 522) C dX12_sort__522 e2469 ?_
                                refine mG_iload (pc := 523) C dX12_sort__523 rfl ?_
                                refine mG_icmp_ge (pc := 525) (tgt := 531) C dX12_sort__525 (by decide) (fun q2470 => ?_) (fun q2470 => ?_)
                                · rw [if_pos q2470] at e2467
                                  exact mG_sub (mxLe_s (mxLe_s (mxLe_s (mxLe_s (mxLe_s (mxLe_s (mxLe_s (mxLe_n (mxLe_n (mxLe_n (mxLe_n (mxLe_n (mxLe_n (mxLe_n (mxLe_s (mxLe_s (mxLe_s (mxLe_s (mxLe_n (mxLe_n (mxLe_n mxLe_z))))))))))))))))))))) (J2463 _ (hx2465 _ (Option.some.inj e2467).symm))
                                · rw [if_neg q2470] at e2467
                                  refine mG_goto (tgt := 516) (pc := 528) C dX12_sort__528 (by decide) ?_
                                  exact mG_sub (mxLe_s (mxLe_s (mxLe_s (mxLe_s (mxLe_s (mxLe_s (mxLe_s (mxLe_n (mxLe_n (mxLe_n (mxLe_n (mxLe_n (mxLe_n (mxLe_n (mxLe_s (mxLe_s (mxLe_s (mxLe_s (mxLe_n (mxLe_n (mxLe_n mxLe_z))))))))))))))))))))) (hK2464 _ (Option.some.inj e2467).symm)
                      refine mG_icmp_ge (pc := 326) (tgt := 380) C dX12_sort__326 (by decide) (fun q2342 => ?_) (fun q2342 => ?_)
                      · rw [if_pos q2342] at e2345
                        refine mG_iload (pc := 380) C dX12_sort__380 rfl ?_
                        refine mG_aload_n (pc := 382) C dX12_sort__382 rfl ?_
                        refine mG_iload (pc := 383) C dX12_sort__383 rfl ?_
                        obtain ⟨v2387, e2388, e2345⟩ := mx_bind e2345
                        refine mG_iaload (pc := 385) C dX12_sort__385 e2388 ?_
                        refine mG_icmp_le (pc := 386) (tgt := 437) C dX12_sort__386 (by decide) (fun q2389 => ?_) (fun q2389 => ?_)
                        · rw [if_pos q2389] at e2345
                          exact mG_sub (mxLe_s (mxLe_s (mxLe_s (mxLe_s (mxLe_s (mxLe_s (mxLe_s (mxLe_n (mxLe_s (mxLe_s (mxLe_s (mxLe_s (mxLe_s (mxLe_n (mxLe_n (mxLe_n (mxLe_n (mxLe_n (mxLe_n (mxLe_n (mxLe_n mxLe_z))))))))))))))))))))) (J2343 _ (Option.some.inj e2345))
                        · rw [if_neg q2389] at e2345
                          refine mG_iload (pc := 389) C dX12_sort__389 rfl ?_
                          refine mG_aload_n (pc := 391) C dX12_sort__391 rfl ?_
                          refine mG_iload (pc := 392) C dX12_sort__392 rfl ?_
                          obtain ⟨v2390, e2391, e2345⟩ := mx_bind e2345
                          refine mG_iaload (pc := 394) C dX12_sort__394 e2391 ?_
                          refine mG_icmp_le (pc := 395) (tgt := 423) C dX12_sort__395 (by decide) (fun q2392 => ?_) (fun q2392 => ?_)
                          · rw [if_pos q2392] at e2345
                            refine mG_aload_n (pc := 423) C dX12_sort__423 rfl ?_
                            refine mG_iload (pc := 424) C dX12_sort__424 rfl ?_
                            refine mG_aload_n (pc := 426) C dX12_sort__426 rfl ?_
                            refine mG_iload (pc := 427) C dX12_sort__427 rfl ?_
                            obtain ⟨v2393, e2394, e2345⟩ := mx_bind e2345
                            refine mG_iaload (pc := 429) C dX12_sort__429 e2394 ?_
                            obtain ⟨h2395, e2396, e2345⟩ := mx_bind e2345
                            refine mG_iastore (pc := 430) C dX12_sort__430 e2396 ?_
                            refine mG_aload_n (pc := 431) C dX12_sort__431 rfl ?_
                            refine mG_iload (pc := 432) C dX12_sort__432 rfl ?_
                            refine mG_iload (pc := 434) C dX12_sort__434 rfl ?_
                            obtain ⟨h2397, e2398, e2345⟩ := mx_bind e2345
                            refine mG_iastore (pc := 436) C dX12_sort__436 e2398 ?_
                            exact mG_sub (mxLe_s (mxLe_s (mxLe_s (mxLe_s (mxLe_s (mxLe_s (mxLe_s (mxLe_n (mxLe_s (mxLe_s (mxLe_s (mxLe_s (mxLe_s (mxLe_n (mxLe_n (mxLe_n (mxLe_n (mxLe_n (mxLe_n (mxLe_n (mxLe_n mxLe_z))))))))))))))))))))) (J2343 _ (Option.some.inj e2345))
                          · rw [if_neg q2392] at e2345
                            refine mG_aload_n (pc := 398) C dX12_sort__398 rfl ?_
                            refine mG_iload (pc := 399) C dX12_sort__399 rfl ?_
                            refine mG_aload_n (pc := 401) C dX12_sort__401 rfl ?_
                            refine mG_iload (pc := 402) C dX12_sort__402 rfl ?_
                            obtain ⟨v2399, e2400, e2345⟩ := mx_bind e2345
                            refine mG_iaload (pc := 404) C dX12_sort__404 e2400 ?_
                            obtain ⟨h2401, e2402, e2345⟩ := mx_bind e2345
                            refine mG_iastore (pc := 405) C dX12_sort__405 e2402 ?_
                            refine mG_aload_n (pc := 406) C dX12_sort__406 rfl ?_
                            refine mG_iload (pc := 407) C dX12_sort__407 rfl ?_
                            refine mG_aload_n (pc := 409) C dX12_sort__409 rfl ?_
                            refine mG_iload (pc := 410) C dX12_sort__410 rfl ?_
                            obtain ⟨v2403, e2404, e2345⟩ := mx_bind e2345
                            refine mG_iaload (pc := 412) C dX12_sort__412 e2404 ?_
                            obtain ⟨h2405, e2406, e2345⟩ := mx_bind e2345
                            refine mG_iastore (pc := 413) C dX12_sort__413 e2406 ?_
                            refine mG_aload_n (pc := 414) C dX12_sort__414 rfl ?_
                            refine mG_iload (pc := 415) C dX12_sort__415 rfl ?_
                            refine mG_iload (pc := 417) C dX12_sort__417 rfl ?_
                            obtain ⟨h2407, e2408, e2345⟩ := mx_bind e2345
                            refine mG_iastore (pc := 419) C dX12_sort__419 e2408 ?_
                            refine mG_goto (tgt := 437) (pc := 420) C dX12_sort__420 (by decide) ?_
                            exact mG_sub (mxLe_s (mxLe_s (mxLe_s (mxLe_s (mxLe_s (mxLe_s (mxLe_s (mxLe_n (mxLe_s (mxLe_s (mxLe_s (mxLe_s (mxLe_s (mxLe_n (mxLe_n (mxLe_n (mxLe_n (mxLe_n (mxLe_n (mxLe_n (mxLe_n mxLe_z))))))))))))))))))))) (J2343 _ (Option.some.inj e2345))
                      · rw [if_neg q2342] at e2345
                        refine mG_iload (pc := 329) C dX12_sort__329 rfl ?_
                        refine mG_aload_n (pc := 331) C dX12_sort__331 rfl ?_
                        refine mG_iload (pc := 332) C dX12_sort__332 rfl ?_
                        obtain ⟨v2409, e2410, e2345⟩ := mx_bind e2345
                        refine mG_iaload (pc := 334) C dX12_sort__334 e2410 ?_
                        refine mG_icmp_ge (pc := 335) (tgt := 363) C dX12_sort__335 (by decide) (fun q2411 => ?_) (fun q2411 => ?_)
                        · rw [if_pos q2411] at e2345
                          refine mG_aload_n (pc := 363) C dX12_sort__363 rfl ?_
                          refine mG_iload (pc := 364) C dX12_sort__364 rfl ?_
                          refine mG_aload_n (pc := 366) C dX12_sort__366 rfl ?_
                          refine mG_iload (pc := 367) C dX12_sort__367 rfl ?_
                          obtain ⟨v2412, e2413, e2345⟩ := mx_bind e2345
                          refine mG_iaload (pc := 369) C dX12_sort__369 e2413 ?_
                          obtain ⟨h2414, e2415, e2345⟩ := mx_bind e2345
                          refine mG_iastore (pc := 370) C dX12_sort__370 e2415 ?_
                          refine mG_aload_n (pc := 371) C dX12_sort__371 rfl ?_
                          refine mG_iload (pc := 372) C dX12_sort__372 rfl ?_
                          refine mG_iload (pc := 374) C dX12_sort__374 rfl ?_
                          obtain ⟨h2416, e2417, e2345⟩ := mx_bind e2345
                          refine mG_iastore (pc := 376) C dX12_sort__376 e2417 ?_
                          refine mG_goto (tgt := 437) (pc := 377) C dX12_sort__377 (by decide) ?_
                          exact mG_sub (mxLe_s (mxLe_s (mxLe_s (mxLe_s (mxLe_s (mxLe_s (mxLe_s (mxLe_n (mxLe_s (mxLe_s (mxLe_s (mxLe_s (mxLe_s (mxLe_n (mxLe_n (mxLe_n (mxLe_n (mxLe_n (mxLe_n (mxLe_n (mxLe_n mxLe_z))))))))))))))))))))) (J2343 _ (Option.some.inj e2345))
                        · rw [if_neg q2411] at e2345
                          refine mG_aload_n (pc := 338) C dX12_sort__338 rfl ?_
                          refine mG_iload (pc := 339) C dX12_sort__339 rfl ?_
                          refine mG_aload_n (pc := 341) C dX12_sort__341 rfl ?_
                          refine mG_iload (pc := 342) C dX12_sort__342 rfl ?_
                          obtain ⟨v2418, e2419, e2345⟩ := mx_bind e2345
                          refine mG_iaload (pc := 344) C dX12_sort__344 e2419 ?_
                          obtain ⟨h2420, e2421, e2345⟩ := mx_bind e2345
                          refine mG_iastore (pc := 345) C dX12_sort__345 e2421 ?_
                          refine mG_aload_n (pc := 346) C dX12_sort__346 rfl ?_
                          refine mG_iload (pc := 347) C dX12_sort__347 rfl ?_
                          refine mG_aload_n (pc := 349) C dX12_sort__349 rfl ?_
                          refine mG_iload (pc := 350) C dX12_sort__350 rfl ?_
                          obtain ⟨v2422, e2423, e2345⟩ := mx_bind e2345
                          refine mG_iaload (pc := 352) C dX12_sort__352 e2423 ?_
                          obtain ⟨h2424, e2425, e2345⟩ := mx_bind e2345
                          refine mG_iastore (pc := 353) C dX12_sort__353 e2425 ?_
                          refine mG_aload_n (pc := 354) C dX12_sort__354 rfl ?_
                          refine mG_iload (pc := 355) C dX12_sort__355 rfl ?_
                          refine mG_iload (pc := 357) C dX12_sort__357 rfl ?_
                          obtain ⟨h2426, e2427, e2345⟩ := mx_bind e2345
                          refine mG_iastore (pc := 359) C dX12_sort__359 e2427 ?_
                          refine mG_goto (tgt := 437) (pc := 360) C dX12_sort__360 (by decide) ?_
                          exact mG_sub (mxLe_s (mxLe_s (mxLe_s (mxLe_s (mxLe_s (mxLe_s (mxLe_s (mxLe_n (mxLe_s (mxLe_s (mxLe_s (mxLe_s (mxLe_s (mxLe_n (mxLe_n (mxLe_n (mxLe_n (mxLe_n (mxLe_n (mxLe_n (mxLe_n mxLe_z))))))))))))))))))))) (J2343 _ (Option.some.inj e2345))
                    refine mG_icmp_ge (pc := 297) (tgt := 320) C dX12_sort__297 (by decide) (fun q2320 => ?_) (fun q2320 => ?_)
                    · rw [if_pos q2320] at e2323
                      exact mG_sub (mxLe_s (mxLe_s (mxLe_s (mxLe_s (mxLe_s (mxLe_s (mxLe_s (mxLe_n (mxLe_s (mxLe_s (mxLe_s (mxLe_s (mxLe_s (mxLe_s (mxLe_n (mxLe_n (mxLe_n (mxLe_n (mxLe_n (mxLe_n (mxLe_n mxLe_z))))))))))))))))))))) (J2321 _ (Option.some.inj e2323))
                    · rw [if_neg q2320] at e2323
                      refine mG_aload_n (pc := 300) C dX12_sort__300 rfl ?_
                      refine mG_iload (pc := 301) C dX12_sort__301 rfl ?_
                      obtain ⟨v2332, e2333, e2323⟩ := mx_bind e2323
                      refine mG_iaload (pc := 303) C dX12_sort__303 e2333 ?_
                      refine mG_is (ls' := [some (.null), some (.ref p1), some (.int (s1751.1 + 6)), some (.int p3), some (.int s1751.2.1), some (.int (s1751.2.1 - 1)), some (.int (s1751.2.1 - p3)), none, some (.int (p3 + v2210)), some (.int ((s1751.2.1 - 1) - v2210)), some (.int v2212), some (.int v2214), some (.int v2216), some (.int v2218), some (.int v2332), none, none, none, none, none, none]) (pc := 304) C dX12_sort__304 rfl rfl rfl ?_
                      refine mG_aload_n (pc := 306) C dX12_sort__306 rfl ?_
                      refine mG_iload (pc := 307) C dX12_sort__307 rfl ?_
                      refine mG_aload_n (pc := 309) C dX12_sort__309 rfl ?_
                      refine mG_iload (pc := 310) C dX12_sort__310 rfl ?_
                      obtain ⟨v2334, e2335, e2323⟩ := mx_bind e2323
                      refine mG_iaload (pc := 312) C dX12_sort__312 e2335 ?_
                      obtain ⟨h2336, e2337, e2323⟩ := mx_bind e2323
                      refine mG_iastore (pc := 313) C dX12_sort__313 e2337 ?_
                      refine mG_aload_n (pc := 314) C dX12_sort__314 rfl ?_
                      refine mG_iload (pc := 315) C dX12_sort__315 rfl ?_
                      refine mG_iload (pc := 317) C dX12_sort__317 rfl ?_
                      obtain ⟨h2338, e2339, e2323⟩ := mx_bind e2323
                      refine mG_iastore (pc := 319) C dX12_sort__319 e2339 ?_
                      exact mG_sub (mxLe_s (mxLe_s (mxLe_s (mxLe_s (mxLe_s (mxLe_s (mxLe_s (mxLe_n (mxLe_s (mxLe_s (mxLe_s (mxLe_s (mxLe_s (mxLe_s (mxLe_n (mxLe_n (mxLe_n (mxLe_n (mxLe_n (mxLe_n (mxLe_n mxLe_z))))))))))))))))))))) (J2321 _ (Option.some.inj e2323))
                  refine mG_icmp_ge (pc := 266) (tgt := 289) C dX12_sort__266 (by decide) (fun q2296 => ?_) (fun q2296 => ?_)
                  · rw [if_pos q2296] at e2299
                    exact mG_sub (mxLe_s (mxLe_s (mxLe_s (mxLe_s (mxLe_s (mxLe_s (mxLe_s (mxLe_n (mxLe_s (mxLe_s (mxLe_s (mxLe_s (mxLe_s (mxLe_s (mxLe_n (mxLe_n (mxLe_n (mxLe_n (mxLe_n (mxLe_n (mxLe_n mxLe_z))))))))))))))))))))) (J2297 _ (Option.some.inj e2299))
                  · rw [if_neg q2296] at e2299
                    refine mG_aload_n (pc := 269) C dX12_sort__269 rfl ?_
                    refine mG_iload (pc := 270) C dX12_sort__270 rfl ?_
                    obtain ⟨v2308, e2309, e2299⟩ := mx_bind e2299
                    refine mG_iaload (pc := 272) C dX12_sort__272 e2309 ?_
                    refine mG_is (ls' := [some (.null), some (.ref p1), some (.int (s1751.1 + 6)), some (.int p3), some (.int s1751.2.1), some (.int (s1751.2.1 - 1)), some (.int (s1751.2.1 - p3)), none, some (.int (p3 + v2210)), some (.int ((s1751.2.1 - 1) - v2210)), some (.int v2212), some (.int v2214), some (.int v2216), some (.int v2218), some (.int v2308), none, none, none, none, none, none]) (pc := 273) C dX12_sort__273 rfl rfl rfl ?_
                    refine mG_aload_n (pc := 275) C dX12_sort__275 rfl ?_
                    refine mG_iload (pc := 276) C dX12_sort__276 rfl ?_
                    refine mG_aload_n (pc := 278) C dX12_sort__278 rfl ?_
                    refine mG_iload (pc := 279) C dX12_sort__279 rfl ?_
                    obtain ⟨v2310, e2311, e2299⟩ := mx_bind e2299
                    refine mG_iaload (pc := 281) C dX12_sort__281 e2311 ?_
                    obtain ⟨h2312, e2313, e2299⟩ := mx_bind e2299
                    refine mG_iastore (pc := 282) C dX12_sort__282 e2313 ?_
                    refine mG_aload_n (pc := 283) C dX12_sort__283 rfl ?_
                    refine mG_iload (pc := 284) C dX12_sort__284 rfl ?_
                    refine mG_iload (pc := 286) C dX12_sort__286 rfl ?_
                    obtain ⟨h2314, e2315, e2299⟩ := mx_bind e2299
                    refine mG_iastore (pc := 288) C dX12_sort__288 e2315 ?_
                    exact mG_sub (mxLe_s (mxLe_s (mxLe_s (mxLe_s (mxLe_s (mxLe_s (mxLe_s (mxLe_n (mxLe_s (mxLe_s (mxLe_s (mxLe_s (mxLe_s (mxLe_s (mxLe_n (mxLe_n (mxLe_n (mxLe_n (mxLe_n (mxLe_n (mxLe_n mxLe_z))))))))))))))))))))) (J2297 _ (Option.some.inj e2299))
                refine mG_icmp_ge (pc := 235) (tgt := 258) C dX12_sort__235 (by decide) (fun q2272 => ?_) (fun q2272 => ?_)
                · rw [if_pos q2272] at e2275
                  exact mG_sub (mxLe_s (mxLe_s (mxLe_s (mxLe_s (mxLe_s (mxLe_s (mxLe_s (mxLe_n (mxLe_s (mxLe_s (mxLe_s (mxLe_s (mxLe_s (mxLe_s (mxLe_n (mxLe_n (mxLe_n (mxLe_n (mxLe_n (mxLe_n (mxLe_n mxLe_z))))))))))))))))))))) (J2273 _ (Option.some.inj e2275))
                · rw [if_neg q2272] at e2275
                  refine mG_aload_n (pc := 238) C dX12_sort__238 rfl ?_
                  refine mG_iload (pc := 239) C dX12_sort__239 rfl ?_
                  obtain ⟨v2284, e2285, e2275⟩ := mx_bind e2275
                  refine mG_iaload (pc := 241) C dX12_sort__241 e2285 ?_
                  refine mG_is (ls' := [some (.null), some (.ref p1), some (.int (s1751.1 + 6)), some (.int p3), some (.int s1751.2.1), some (.int (s1751.2.1 - 1)), some (.int (s1751.2.1 - p3)), none, some (.int (p3 + v2210)), some (.int ((s1751.2.1 - 1) - v2210)), some (.int v2212), some (.int v2214), some (.int v2216), some (.int v2218), some (.int v2284), none, none, none, none, none, none]) (pc := 242) C dX12_sort__242 rfl rfl rfl ?_
                  refine mG_aload_n (pc := 244) C dX12_sort__244 rfl ?_
                  refine mG_iload (pc := 245) C dX12_sort__245 rfl ?_
                  refine mG_aload_n (pc := 247) C dX12_sort__247 rfl ?_
                  refine mG_iload (pc := 248) C dX12_sort__248 rfl ?_
                  obtain ⟨v2286, e2287, e2275⟩ := mx_bind e2275
                  refine mG_iaload (pc := 250) C dX12_sort__250 e2287 ?_
                  obtain ⟨h2288, e2289, e2275⟩ := mx_bind e2275
                  refine mG_iastore (pc := 251) C dX12_sort__251 e2289 ?_
                  refine mG_aload_n (pc := 252) C dX12_sort__252 rfl ?_
                  refine mG_iload (pc := 253) C dX12_sort__253 rfl ?_
                  refine mG_iload (pc := 255) C dX12_sort__255 rfl ?_
                  obtain ⟨h2290, e2291, e2275⟩ := mx_bind e2275
                  refine mG_iastore (pc := 257) C dX12_sort__257 e2291 ?_
                  exact mG_sub (mxLe_s (mxLe_s (mxLe_s (mxLe_s (mxLe_s (mxLe_s (mxLe_s (mxLe_n (mxLe_s (mxLe_s (mxLe_s (mxLe_s (mxLe_s (mxLe_s (mxLe_n (mxLe_n (mxLe_n (mxLe_n (mxLe_n (mxLe_n (mxLe_n mxLe_z))))))))))))))))))))) (J2273 _ (Option.some.inj e2275))
              refine mG_icmp_ge (pc := 204) (tgt := 227) C dX12_sort__204 (by decide) (fun q2248 => ?_) (fun q2248 => ?_)
              · rw [if_pos q2248] at e2251
                exact mG_sub (mxLe_s (mxLe_s (mxLe_s (mxLe_s (mxLe_s (mxLe_s (mxLe_s (mxLe_n (mxLe_s (mxLe_s (mxLe_s (mxLe_s (mxLe_s (mxLe_s (mxLe_n (mxLe_n (mxLe_n (mxLe_n (mxLe_n (mxLe_n (mxLe_n mxLe_z))))))))))))))))))))) (J2249 _ (Option.some.inj e2251))
              · rw [if_neg q2248] at e2251
                refine mG_aload_n (pc := 207) C dX12_sort__207 rfl ?_
                refine mG_iload (pc := 208) C dX12_sort__208 rfl ?_
                obtain ⟨v2260, e2261, e2251⟩ := mx_bind e2251
                refine mG_iaload (pc := 210) C dX12_sort__210 e2261 ?_
                refine mG_is (ls' := [some (.null), some (.ref p1), some (.int (s1751.1 + 6)), some (.int p3), some (.int s1751.2.1), some (.int (s1751.2.1 - 1)), some (.int (s1751.2.1 - p3)), none, some (.int (p3 + v2210)), some (.int ((s1751.2.1 - 1) - v2210)), some (.int v2212), some (.int v2214), some (.int v2216), some (.int v2218), some (.int v2260), none, none, none, none, none, none]) (pc := 211) C dX12_sort__211 rfl rfl rfl ?_
                refine mG_aload_n (pc := 213) C dX12_sort__213 rfl ?_
                refine mG_iload (pc := 214) C dX12_sort__214 rfl ?_
                refine mG_aload_n (pc := 216) C dX12_sort__216 rfl ?_
                refine mG_iload (pc := 217) C dX12_sort__217 rfl ?_
                obtain ⟨v2262, e2263, e2251⟩ := mx_bind e2251
                refine mG_iaload (pc := 219) C dX12_sort__219 e2263 ?_
                obtain ⟨h2264, e2265, e2251⟩ := mx_bind e2251
                refine mG_iastore (pc := 220) C dX12_sort__220 e2265 ?_
                refine mG_aload_n (pc := 221) C dX12_sort__221 rfl ?_
                refine mG_iload (pc := 222) C dX12_sort__222 rfl ?_
                refine mG_iload (pc := 224) C dX12_sort__224 rfl ?_
                obtain ⟨h2266, e2267, e2251⟩ := mx_bind e2251
                refine mG_iastore (pc := 226) C dX12_sort__226 e2267 ?_
                exact mG_sub (mxLe_s (mxLe_s (mxLe_s (mxLe_s (mxLe_s (mxLe_s (mxLe_s (mxLe_n (mxLe_s (mxLe_s (mxLe_s (mxLe_s (mxLe_s (mxLe_s (mxLe_n (mxLe_n (mxLe_n (mxLe_n (mxLe_n (mxLe_n (mxLe_n mxLe_z))))))))))))))))))))) (J2249 _ (Option.some.inj e2251))
            refine mG_icmp_ge (pc := 173) (tgt := 196) C dX12_sort__173 (by decide) (fun q2224 => ?_) (fun q2224 => ?_)
            · rw [if_pos q2224] at e2227
              exact mG_sub (mxLe_s (mxLe_s (mxLe_s (mxLe_s (mxLe_s (mxLe_s (mxLe_s (mxLe_n (mxLe_s (mxLe_s (mxLe_s (mxLe_s (mxLe_s (mxLe_s (mxLe_n (mxLe_n (mxLe_n (mxLe_n (mxLe_n (mxLe_n (mxLe_n mxLe_z))))))))))))))))))))) (J2225 _ (Option.some.inj e2227))
            · rw [if_neg q2224] at e2227
              refine mG_aload_n (pc := 176) C dX12_sort__176 rfl ?_
              refine mG_iload (pc := 177) C dX12_sort__177 rfl ?_
              obtain ⟨v2236, e2237, e2227⟩ := mx_bind e2227
              refine mG_iaload (pc := 179) C dX12_sort__179 e2237 ?_
              refine mG_is (ls' := [some (.null), some (.ref p1), some (.int (s1751.1 + 6)), some (.int p3), some (.int s1751.2.1), some (.int (s1751.2.1 - 1)), some (.int (s1751.2.1 - p3)), some (.int v2210), some (.int (p3 + v2210)), some (.int ((s1751.2.1 - 1) - v2210)), some (.int v2212), some (.int v2214), some (.int v2216), some (.int v2218), some (.int v2236), none, none, none, none, none, none]) (pc := 180) C dX12_sort__180 rfl rfl rfl ?_
              refine mG_aload_n (pc := 182) C dX12_sort__182 rfl ?_
              refine mG_iload (pc := 183) C dX12_sort__183 rfl ?_
              refine mG_aload_n (pc := 185) C dX12_sort__185 rfl ?_
              refine mG_iload (pc := 186) C dX12_sort__186 rfl ?_
              obtain ⟨v2238, e2239, e2227⟩ := mx_bind e2227
              refine mG_iaload (pc := 188) C dX12_sort__188 e2239 ?_
              obtain ⟨h2240, e2241, e2227⟩ := mx_bind e2227
              refine mG_iastore (pc := 189) C dX12_sort__189 e2241 ?_
              refine mG_aload_n (pc := 190) C dX12_sort__190 rfl ?_
              refine mG_iload (pc := 191) C dX12_sort__191 rfl ?_
              refine mG_iload (pc := 193) C dX12_sort__193 rfl ?_
              obtain ⟨h2242, e2243, e2227⟩ := mx_bind e2227
              refine mG_iastore (pc := 195) C dX12_sort__195 e2243 ?_
              exact mG_sub (mxLe_s (mxLe_s (mxLe_s (mxLe_s (mxLe_s (mxLe_s (mxLe_s (mxLe_n (mxLe_s (mxLe_s (mxLe_s (mxLe_s (mxLe_s (mxLe_s (mxLe_n (mxLe_n (mxLe_n (mxLe_n (mxLe_n (mxLe_n (mxLe_n mxLe_z))))))))))))))))))))) (J2225 _ (Option.some.inj e2227))
          · rw [if_neg q2209] at e1767
            exact mG_wd (by omega) (by omega) (mG_sub (mxLe_n (mxLe_s (mxLe_n (mxLe_n (mxLe_n (mxLe_n (mxLe_n (mxLe_n (mxLe_n (mxLe_n (mxLe_n (mxLe_n (mxLe_n (mxLe_n (mxLe_n (mxLe_n (mxLe_n (mxLe_n (mxLe_n (mxLe_n (mxLe_n mxLe_z))))))))))))))))))))) (J1759 _ (hx1763 _ (Option.some.inj e1767).symm)))
        · rw [if_neg q2208] at e1767
          exact mG_wd (by omega) (by omega) (mG_sub (mxLe_n (mxLe_n (mxLe_s (mxLe_n (mxLe_n (mxLe_n (mxLe_n (mxLe_n (mxLe_n (mxLe_n (mxLe_n (mxLe_n (mxLe_n (mxLe_n (mxLe_n (mxLe_n (mxLe_n (mxLe_n (mxLe_n (mxLe_n (mxLe_n mxLe_z))))))))))))))))))))) (J1757 _ (hx1763 _ (Option.some.inj e1767).symm)))
    · rw [if_neg q1771] at e1767
      exact mG_wd (by omega) (by omega) (mG_sub (mxLe_n (mxLe_s (mxLe_n (mxLe_s (mxLe_s (mxLe_n (mxLe_n (mxLe_n (mxLe_n (mxLe_n (mxLe_n (mxLe_n (mxLe_n (mxLe_n (mxLe_n (mxLe_n (mxLe_n (mxLe_n (mxLe_n (mxLe_n (mxLe_n mxLe_z))))))))))))))))))))) (J1756 _ (hx1763 _ (Option.some.inj e1767).symm)))
  · rw [if_neg q1770] at e1767
    refine mG_iload_n (pc := 21) C dX12_sort__21 rfl ?_
    refine mG_ic (pc := 22) C dX12_sort__22 kI1 ?_
    refine mG_iand (pc := 23) C dX12_sort__23 ?_
    refine mG_if_le (pc := 24) (tgt := 46) C dX12_sort__24 (by decide) (fun q2641 => ?_) (fun q2641 => ?_)
    · rw [if_pos q2641] at e1767
      refine mG_iload (pc := 46) C dX12_sort__46 rfl ?_
      refine mG_bp (pc := 48) C dX12_sort__48 kB44 ?_
      refine mG_icmp_ge (pc := 50) (tgt := 61) C dX12_sort__50 (by decide) (fun q2642 => ?_) (fun q2642 => ?_)
      · rw [if_pos q2642] at e1767
        refine mG_iload_n (pc := 61) C dX12_sort__61 rfl ?_
        refine mG_if_eq (pc := 62) (tgt := 79) C dX12_sort__62 (by decide) (fun q2643 => ?_) (fun q2643 => ?_)
        · rw [if_pos q2643] at e1767
          refine mG_aload_nN (pc := 79) C dX12_sort__79 rfl ?_
          refine mG_aload_n (pc := 80) C dX12_sort__80 rfl ?_
          refine mG_iload_n (pc := 81) C dX12_sort__81 rfl ?_
          refine mG_iload (pc := 82) C dX12_sort__82 rfl ?_
          obtain ⟨o2645, e2644, e1767⟩ := mx_bind e1767
          refine mG_cS2 (pc := 84) (k' := (k1752 + 1)) (n' := (n1753 + 127)) (h' := o2645.2) (v := some (.int o2645.1)) [.null, .ref p1, .int p3, .int (s1751.2.1 - p3)] [] C hX dX12_sort__84 lkS_X12_38 rfl (tX12_tryMergeRuns hl e2644) rfl (by show k1752 + 1 = (k1752 + 1); omega) (by show n1753 + 127 = (n1753 + 127); omega) ⟨by show (k1752 + 1) ≤ 70; omega, by show (n1753 + 127) ≤ 8890; omega⟩ rfl ?_
          refine mG_if_eq (pc := 87) (tgt := 91) C dX12_sort__87 (by decide) (fun q2646 => ?_) (fun q2646 => ?_)
          · rw [if_pos q2646] at e1767
            refine mG_ii (ls' := [some (.null), some (.ref p1), some (.int (s1751.1 + 6)), some (.int p3), some (.int s1751.2.1), some (.int (s1751.2.1 - 1)), some (.int (s1751.2.1 - p3)), none, none, none, none, none, none, none, none, none, none, none, none, none, none]) (pc := 91) C dX12_sort__91 rfl (kinc6 _) rfl rfl rfl ?_
            refine mG_iload_n (pc := 94) C dX12_sort__94 rfl ?_
            refine mG_sp (pc := 95) C dX12_sort__95 kS384 ?_
            refine mG_icmp_le (pc := 98) (tgt := 109) C dX12_sort__98 (by decide) (fun q2647 => ?_) (fun q2647 => ?_)
            · rw [if_pos q2647] at e1767
              refine mG_iload (pc := 109) C dX12_sort__109 rfl ?_
              refine mG_ic (pc := 111) C dX12_sort__111 kI3 ?_
              refine mG_ishr (pc := 112) C dX12_sort__112 ?_
              refine mG_ic (pc := 113) C dX12_sort__113 kI3 ?_
              refine mG_imul (pc := 114) C dX12_sort__114 ?_
              refine mG_ic (pc := 115) C dX12_sort__115 kI3 ?_
              refine mG_iadd (pc := 116) C dX12_sort__116 ?_
              obtain ⟨v2648, e2649, e1767⟩ := mx_bind e1767
              refine mG_isv (ls' := [some (.null), some (.ref p1), some (.int (s1751.1 + 6)), some (.int p3), some (.int s1751.2.1), some (.int (s1751.2.1 - 1)), some (.int (s1751.2.1 - p3)), some (.int v2648), none, none, none, none, none, none, none, none, none, none, none, none, none]) (pc := 117) C dX12_sort__117 e2649 rfl rfl rfl ?_
              refine mG_iload_n (pc := 119) C dX12_sort__119 rfl ?_
              refine mG_iload (pc := 120) C dX12_sort__120 rfl ?_
              refine mG_iadd (pc := 122) C dX12_sort__122 ?_
              refine mG_is (ls' := [some (.null), some (.ref p1), some (.int (s1751.1 + 6)), some (.int p3), some (.int s1751.2.1), some (.int (s1751.2.1 - 1)), some (.int (s1751.2.1 - p3)), some (.int v2648), some (.int (p3 + v2648)), none, none, none, none, none, none, none, none, none, none, none, none]) (pc := 123) C dX12_sort__123 rfl rfl rfl ?_
              refine mG_iload (pc := 125) C dX12_sort__125 rfl ?_
              refine mG_iload (pc := 127) C dX12_sort__127 rfl ?_
              refine mG_isub (pc := 129) C dX12_sort__129 ?_
              refine mG_is (ls' := [some (.null), some (.ref p1), some (.int (s1751.1 + 6)), some (.int p3), some (.int s1751.2.1), some (.int (s1751.2.1 - 1)), some (.int (s1751.2.1 - p3)), some (.int v2648), some (.int (p3 + v2648)), some (.int ((s1751.2.1 - 1) - v2648)), none, none, none, none, none, none, none, none, none, none, none]) (pc := 130) C dX12_sort__130 rfl rfl rfl ?_
              refine mG_iload (pc := 132) C dX12_sort__132 rfl ?_
              refine mG_iload (pc := 134) C dX12_sort__134 rfl ?_
              refine mG_iadd (pc := 136) C dX12_sort__136 ?_
              refine mG_ic (pc := 137) C dX12_sort__137 kI1 ?_
              refine mG_iushr (pc := 138) C dX12_sort__138 ?_
              obtain ⟨v2650, e2651, e1767⟩ := mx_bind e1767
              refine mG_isv (ls' := [some (.null), some (.ref p1), some (.int (s1751.1 + 6)), some (.int p3), some (.int s1751.2.1), some (.int (s1751.2.1 - 1)), some (.int (s1751.2.1 - p3)), some (.int v2648), some (.int (p3 + v2648)), some (.int ((s1751.2.1 - 1) - v2648)), some (.int v2650), none, none, none, none, none, none, none, none, none, none]) (pc := 139) C dX12_sort__139 e2651 rfl rfl rfl ?_
              refine mG_iload (pc := 141) C dX12_sort__141 rfl ?_
              refine mG_iload (pc := 143) C dX12_sort__143 rfl ?_
              refine mG_iadd (pc := 145) C dX12_sort__145 ?_
              refine mG_ic (pc := 146) C dX12_sort__146 kI1 ?_
              refine mG_iushr (pc := 147) C dX12_sort__147 ?_
              obtain ⟨v2652, e2653, e1767⟩ := mx_bind e1767
              refine mG_isv (ls' := [some (.null), some (.ref p1), some (.int (s1751.1 + 6)), some (.int p3), some (.int s1751.2.1), some (.int (s1751.2.1 - 1)), some (.int (s1751.2.1 - p3)), some (.int v2648), some (.int (p3 + v2648)), some (.int ((s1751.2.1 - 1) - v2648)), some (.int v2650), some (.int v2652), none, none, none, none, none, none, none, none, none]) (pc := 148) C dX12_sort__148 e2653 rfl rfl rfl ?_
              refine mG_iload (pc := 150) C dX12_sort__150 rfl ?_
              refine mG_iload (pc := 152) C dX12_sort__152 rfl ?_
              refine mG_iadd (pc := 154) C dX12_sort__154 ?_
              refine mG_ic (pc := 155) C dX12_sort__155 kI1 ?_
              refine mG_iushr (pc := 156) C dX12_sort__156 ?_
              obtain ⟨v2654, e2655, e1767⟩ := mx_bind e1767
              refine mG_isv (ls' := [some (.null), some (.ref p1), some (.int (s1751.1 + 6)), some (.int p3), some (.int s1751.2.1), some (.int (s1751.2.1 - 1)), some (.int (s1751.2.1 - p3)), some (.int v2648), some (.int (p3 + v2648)), some (.int ((s1751.2.1 - 1) - v2648)), some (.int v2650), some (.int v2652), some (.int v2654), none, none, none, none, none, none, none, none]) (pc := 157) C dX12_sort__157 e2655 rfl rfl rfl ?_
              refine mG_aload_n (pc := 159) C dX12_sort__159 rfl ?_
              refine mG_iload (pc := 160) C dX12_sort__160 rfl ?_
              obtain ⟨v2656, e2657, e1767⟩ := mx_bind e1767
              refine mG_iaload (pc := 162) C dX12_sort__162 e2657 ?_
              refine mG_is (ls' := [some (.null), some (.ref p1), some (.int (s1751.1 + 6)), some (.int p3), some (.int s1751.2.1), some (.int (s1751.2.1 - 1)), some (.int (s1751.2.1 - p3)), some (.int v2648), some (.int (p3 + v2648)), some (.int ((s1751.2.1 - 1) - v2648)), some (.int v2650), some (.int v2652), some (.int v2654), some (.int v2656), none, none, none, none, none, none, none]) (pc := 163) C dX12_sort__163 rfl rfl rfl ?_
              refine mG_aload_n (pc := 165) C dX12_sort__165 rfl ?_
              refine mG_iload (pc := 166) C dX12_sort__166 rfl ?_
              obtain ⟨v2658, e2659, e1767⟩ := mx_bind e1767
              refine mG_iaload (pc := 168) C dX12_sort__168 e2659 ?_
              refine mG_aload_n (pc := 169) C dX12_sort__169 rfl ?_
              refine mG_iload (pc := 170) C dX12_sort__170 rfl ?_
              obtain ⟨v2660, e2661, e1767⟩ := mx_bind e1767
              refine mG_iaload (pc := 172) C dX12_sort__172 e2661 ?_
              obtain ⟨jp2664, e2665, e1767⟩ := mx_bind e1767
              have J2663 : ∀ jp2664' : mxH, jp2664' = jp2664 → mG l Z X 21 (k1752 + 1) (n1753 + 127) 196 [some (.null), some (.ref p1), some (.int (s1751.1 + 6)), some (.int p3), some (.int s1751.2.1), some (.int (s1751.2.1 - 1)), some (.int (s1751.2.1 - p3)), none, some (.int (p3 + v2648)), some (.int ((s1751.2.1 - 1) - v2648)), some (.int v2650), some (.int v2652), some (.int v2654), some (.int v2656), none, none, none, none, none, none, none] [] jp2664' := by
                intro jp2664' q3078
                subst q3078
                refine mG_aload_n (pc := 196) C dX12_sort__196 rfl ?_
                refine mG_iload (pc := 197) C dX12_sort__197 rfl ?_
                obtain ⟨v2682, e2683, e1767⟩ := mx_bind e1767
                refine mG_iaload (pc := 199) C dX12_sort__199 e2683 ?_
                refine mG_aload_n (pc := 200) C dX12_sort__200 rfl ?_
                refine mG_iload (pc := 201) C dX12_sort__201 rfl ?_
                obtain ⟨v2684, e2685, e1767⟩ := mx_bind e1767
                refine mG_iaload (pc := 203) C dX12_sort__203 e2685 ?_
                obtain ⟨jp2688, e2689, e1767⟩ := mx_bind e1767
                have J2687 : ∀ jp2688' : mxH, jp2688' = jp2688 → mG l Z X 21 (k1752 + 1) (n1753 + 127) 227 [some (.null), some (.ref p1), some (.int (s1751.1 + 6)), some (.int p3), some (.int s1751.2.1), some (.int (s1751.2.1 - 1)), some (.int (s1751.2.1 - p3)), none, some (.int (p3 + v2648)), some (.int ((s1751.2.1 - 1) - v2648)), some (.int v2650), some (.int v2652), some (.int v2654), some (.int v2656), none, none, none, none, none, none, none] [] jp2688' := by
                  intro jp2688' q3077
                  subst q3077
                  refine mG_aload_n (pc := 227) C dX12_sort__227 rfl ?_
                  refine mG_iload (pc := 228) C dX12_sort__228 rfl ?_
                  obtain ⟨v2706, e2707, e1767⟩ := mx_bind e1767
                  refine mG_iaload (pc := 230) C dX12_sort__230 e2707 ?_
                  refine mG_aload_n (pc := 231) C dX12_sort__231 rfl ?_
                  refine mG_iload (pc := 232) C dX12_sort__232 rfl ?_
                  obtain ⟨v2708, e2709, e1767⟩ := mx_bind e1767
                  refine mG_iaload (pc := 234) C dX12_sort__234 e2709 ?_
                  obtain ⟨jp2712, e2713, e1767⟩ := mx_bind e1767
                  have J2711 : ∀ jp2712' : mxH, jp2712' = jp2712 → mG l Z X 21 (k1752 + 1) (n1753 + 127) 258 [some (.null), some (.ref p1), some (.int (s1751.1 + 6)), some (.int p3), some (.int s1751.2.1), some (.int (s1751.2.1 - 1)), some (.int (s1751.2.1 - p3)), none, some (.int (p3 + v2648)), some (.int ((s1751.2.1 - 1) - v2648)), some (.int v2650), some (.int v2652), some (.int v2654), some (.int v2656), none, none, none, none, none, none, none] [] jp2712' := by
                    intro jp2712' q3076
                    subst q3076
                    refine mG_aload_n (pc := 258) C dX12_sort__258 rfl ?_
                    refine mG_iload (pc := 259) C dX12_sort__259 rfl ?_
                    obtain ⟨v2730, e2731, e1767⟩ := mx_bind e1767
                    refine mG_iaload (pc := 261) C dX12_sort__261 e2731 ?_
                    refine mG_aload_n (pc := 262) C dX12_sort__262 rfl ?_
                    refine mG_iload (pc := 263) C dX12_sort__263 rfl ?_
                    obtain ⟨v2732, e2733, e1767⟩ := mx_bind e1767
                    refine mG_iaload (pc := 265) C dX12_sort__265 e2733 ?_
                    obtain ⟨jp2736, e2737, e1767⟩ := mx_bind e1767
                    have J2735 : ∀ jp2736' : mxH, jp2736' = jp2736 → mG l Z X 21 (k1752 + 1) (n1753 + 127) 289 [some (.null), some (.ref p1), some (.int (s1751.1 + 6)), some (.int p3), some (.int s1751.2.1), some (.int (s1751.2.1 - 1)), some (.int (s1751.2.1 - p3)), none, some (.int (p3 + v2648)), some (.int ((s1751.2.1 - 1) - v2648)), some (.int v2650), some (.int v2652), some (.int v2654), some (.int v2656), none, none, none, none, none, none, none] [] jp2736' := by
                      intro jp2736' q3075
                      subst q3075
                      refine mG_aload_n (pc := 289) C dX12_sort__289 rfl ?_
                      refine mG_iload (pc := 290) C dX12_sort__290 rfl ?_
                      obtain ⟨v2754, e2755, e1767⟩ := mx_bind e1767
                      refine mG_iaload (pc := 292) C dX12_sort__292 e2755 ?_
                      refine mG_aload_n (pc := 293) C dX12_sort__293 rfl ?_
                      refine mG_iload (pc := 294) C dX12_sort__294 rfl ?_
                      obtain ⟨v2756, e2757, e1767⟩ := mx_bind e1767
                      refine mG_iaload (pc := 296) C dX12_sort__296 e2757 ?_
                      obtain ⟨jp2760, e2761, e1767⟩ := mx_bind e1767
                      have J2759 : ∀ jp2760' : mxH, jp2760' = jp2760 → mG l Z X 21 (k1752 + 1) (n1753 + 127) 320 [some (.null), some (.ref p1), some (.int (s1751.1 + 6)), some (.int p3), some (.int s1751.2.1), some (.int (s1751.2.1 - 1)), some (.int (s1751.2.1 - p3)), none, some (.int (p3 + v2648)), some (.int ((s1751.2.1 - 1) - v2648)), some (.int v2650), some (.int v2652), some (.int v2654), some (.int v2656), none, none, none, none, none, none, none] [] jp2760' := by
                        intro jp2760' q3074
                        subst q3074
                        refine mG_iload (pc := 320) C dX12_sort__320 rfl ?_
                        refine mG_aload_n (pc := 322) C dX12_sort__322 rfl ?_
                        refine mG_iload (pc := 323) C dX12_sort__323 rfl ?_
                        obtain ⟨v2778, e2779, e1767⟩ := mx_bind e1767
                        refine mG_iaload (pc := 325) C dX12_sort__325 e2779 ?_
                        obtain ⟨jp2782, e2783, e1767⟩ := mx_bind e1767
                        have J2781 : ∀ jp2782' : mxH, jp2782' = jp2782 → mG l Z X 21 (k1752 + 1) (n1753 + 127) 437 [some (.null), some (.ref p1), some (.int (s1751.1 + 6)), some (.int p3), some (.int s1751.2.1), some (.int (s1751.2.1 - 1)), some (.int (s1751.2.1 - p3)), none, some (.int (p3 + v2648)), some (.int ((s1751.2.1 - 1) - v2648)), some (.int v2650), some (.int v2652), some (.int v2654), none, none, none, none, none, none, none, none] [] jp2782' := by
                          intro jp2782' q3073
                          subst q3073
                          refine mG_iload_n (pc := 437) C dX12_sort__437 rfl ?_
                          refine mG_is (ls' := [some (.null), some (.ref p1), some (.int (s1751.1 + 6)), some (.int p3), some (.int s1751.2.1), some (.int (s1751.2.1 - 1)), some (.int (s1751.2.1 - p3)), none, some (.int (p3 + v2648)), some (.int ((s1751.2.1 - 1) - v2648)), some (.int v2650), some (.int v2652), some (.int v2654), none, some (.int p3), none, none, none, none, none, none]) (pc := 438) C dX12_sort__438 rfl rfl rfl ?_
                          refine mG_iload (pc := 440) C dX12_sort__440 rfl ?_
                          refine mG_is (ls' := [some (.null), some (.ref p1), some (.int (s1751.1 + 6)), some (.int p3), some (.int s1751.2.1), some (.int (s1751.2.1 - 1)), some (.int (s1751.2.1 - p3)), none, some (.int (p3 + v2648)), some (.int ((s1751.2.1 - 1) - v2648)), some (.int v2650), some (.int v2652), some (.int v2654), none, some (.int p3), some (.int (s1751.2.1 - 1)), none, none, none, none, none]) (pc := 442) C dX12_sort__442 rfl rfl rfl ?_
                          refine mG_aload_n (pc := 444) C dX12_sort__444 rfl ?_
                          refine mG_iload (pc := 445) C dX12_sort__445 rfl ?_
                          obtain ⟨v2866, e2867, e1767⟩ := mx_bind e1767
                          refine mG_iaload (pc := 447) C dX12_sort__447 e2867 ?_
                          refine mG_aload_n (pc := 448) C dX12_sort__448 rfl ?_
                          refine mG_iload (pc := 449) C dX12_sort__449 rfl ?_
                          obtain ⟨v2868, e2869, e1767⟩ := mx_bind e1767
                          refine mG_iaload (pc := 451) C dX12_sort__451 e2869 ?_
                          refine mG_icmp_ge (pc := 452) (tgt := 776) C dX12_sort__452 (by decide) (fun q2870 => ?_) (fun q2870 => ?_)
                          · rw [if_pos q2870] at e1767
                            exact mG_wd (by omega) (by omega) (mG_sub (mxLe_n (mxLe_s (mxLe_n (mxLe_n (mxLe_n (mxLe_n (mxLe_n (mxLe_n (mxLe_n (mxLe_n (mxLe_n (mxLe_n (mxLe_n (mxLe_n (mxLe_n (mxLe_n (mxLe_n (mxLe_n (mxLe_n (mxLe_n (mxLe_n mxLe_z))))))))))))))))))))) (J1761 _ (hx1763 _ (Option.some.inj e1767).symm)))
                          · rw [if_neg q2870] at e1767
                            refine mG_aload_n (pc := 455) C dX12_sort__455 rfl ?_
                            refine mG_iload (pc := 456) C dX12_sort__456 rfl ?_
                            obtain ⟨v2871, e2872, e1767⟩ := mx_bind e1767
                            refine mG_iaload (pc := 458) C dX12_sort__458 e2872 ?_
                            refine mG_aload_n (pc := 459) C dX12_sort__459 rfl ?_
                            refine mG_iload (pc := 460) C dX12_sort__460 rfl ?_
                            obtain ⟨v2873, e2874, e1767⟩ := mx_bind e1767
                            refine mG_iaload (pc := 462) C dX12_sort__462 e2874 ?_
                            refine mG_icmp_ge (pc := 463) (tgt := 776) C dX12_sort__463 (by decide) (fun q2875 => ?_) (fun q2875 => ?_)
                            · rw [if_pos q2875] at e1767
                              exact mG_wd (by omega) (by omega) (mG_sub (mxLe_n (mxLe_s (mxLe_n (mxLe_n (mxLe_n (mxLe_n (mxLe_n (mxLe_n (mxLe_n (mxLe_n (mxLe_n (mxLe_n (mxLe_n (mxLe_n (mxLe_n (mxLe_n (mxLe_n (mxLe_n (mxLe_n (mxLe_n (mxLe_n mxLe_z))))))))))))))))))))) (J1761 _ (hx1763 _ (Option.some.inj e1767).symm)))
                            · rw [if_neg q2875] at e1767
                              refine mG_aload_n (pc := 466) C dX12_sort__466 rfl ?_
                              refine mG_iload (pc := 467) C dX12_sort__467 rfl ?_
                              obtain ⟨v2876, e2877, e1767⟩ := mx_bind e1767
                              refine mG_iaload (pc := 469) C dX12_sort__469 e2877 ?_
                              refine mG_aload_n (pc := 470) C dX12_sort__470 rfl ?_
                              refine mG_iload (pc := 471) C dX12_sort__471 rfl ?_
                              obtain ⟨v2878, e2879, e1767⟩ := mx_bind e1767
                              refine mG_iaload (pc := 473) C dX12_sort__473 e2879 ?_
                              refine mG_icmp_ge (pc := 474) (tgt := 776) C dX12_sort__474 (by decide) (fun q2880 => ?_) (fun q2880 => ?_)
                              · rw [if_pos q2880] at e1767
                                exact mG_wd (by omega) (by omega) (mG_sub (mxLe_n (mxLe_s (mxLe_n (mxLe_n (mxLe_n (mxLe_n (mxLe_n (mxLe_n (mxLe_n (mxLe_n (mxLe_n (mxLe_n (mxLe_n (mxLe_n (mxLe_n (mxLe_n (mxLe_n (mxLe_n (mxLe_n (mxLe_n (mxLe_n mxLe_z))))))))))))))))))))) (J1761 _ (hx1763 _ (Option.some.inj e1767).symm)))
                              · rw [if_neg q2880] at e1767
                                refine mG_aload_n (pc := 477) C dX12_sort__477 rfl ?_
                                refine mG_iload (pc := 478) C dX12_sort__478 rfl ?_
                                obtain ⟨v2881, e2882, e1767⟩ := mx_bind e1767
                                refine mG_iaload (pc := 480) C dX12_sort__480 e2882 ?_
                                refine mG_aload_n (pc := 481) C dX12_sort__481 rfl ?_
                                refine mG_iload (pc := 482) C dX12_sort__482 rfl ?_
                                obtain ⟨v2883, e2884, e1767⟩ := mx_bind e1767
                                refine mG_iaload (pc := 484) C dX12_sort__484 e2884 ?_
                                refine mG_icmp_ge (pc := 485) (tgt := 776) C dX12_sort__485 (by decide) (fun q2885 => ?_) (fun q2885 => ?_)
                                · rw [if_pos q2885] at e1767
                                  exact mG_wd (by omega) (by omega) (mG_sub (mxLe_n (mxLe_s (mxLe_n (mxLe_n (mxLe_n (mxLe_n (mxLe_n (mxLe_n (mxLe_n (mxLe_n (mxLe_n (mxLe_n (mxLe_n (mxLe_n (mxLe_n (mxLe_n (mxLe_n (mxLe_n (mxLe_n (mxLe_n (mxLe_n mxLe_z))))))))))))))))))))) (J1761 _ (hx1763 _ (Option.some.inj e1767).symm)))
                                · rw [if_neg q2885] at e1767
                                  refine mG_aload_n (pc := 488) C dX12_sort__488 rfl ?_
                                  refine mG_iload (pc := 489) C dX12_sort__489 rfl ?_
                                  obtain ⟨v2886, e2887, e1767⟩ := mx_bind e1767
                                  refine mG_iaload (pc := 491) C dX12_sort__491 e2887 ?_
                                  refine mG_is (ls' := [some (.null), some (.ref p1), some (.int (s1751.1 + 6)), some (.int p3), some (.int s1751.2.1), some (.int (s1751.2.1 - 1)), some (.int (s1751.2.1 - p3)), none, some (.int (p3 + v2648)), some (.int ((s1751.2.1 - 1) - v2648)), some (.int v2650), some (.int v2652), some (.int v2654), none, some (.int p3), some (.int (s1751.2.1 - 1)), some (.int v2886), none, none, none, none]) (pc := 492) C dX12_sort__492 rfl rfl rfl ?_
                                  refine mG_aload_n (pc := 494) C dX12_sort__494 rfl ?_
                                  refine mG_iload (pc := 495) C dX12_sort__495 rfl ?_
                                  obtain ⟨v2888, e2889, e1767⟩ := mx_bind e1767
                                  refine mG_iaload (pc := 497) C dX12_sort__497 e2889 ?_
                                  refine mG_is (ls' := [some (.null), some (.ref p1), some (.int (s1751.1 + 6)), some (.int p3), some (.int s1751.2.1), some (.int (s1751.2.1 - 1)), some (.int (s1751.2.1 - p3)), none, some (.int (p3 + v2648)), some (.int ((s1751.2.1 - 1) - v2648)), some (.int v2650), some (.int v2652), some (.int v2654), none, some (.int p3), some (.int (s1751.2.1 - 1)), some (.int v2886), some (.int v2888), none, none, none]) (pc := 498) C dX12_sort__498 rfl rfl rfl ?_
                                  refine mG_aload_n (pc := 500) C dX12_sort__500 rfl ?_
                                  refine mG_iload (pc := 501) C dX12_sort__501 rfl ?_
                                  refine mG_aload_n (pc := 503) C dX12_sort__503 rfl ?_
                                  refine mG_iload (pc := 504) C dX12_sort__504 rfl ?_
                                  obtain ⟨v2890, e2891, e1767⟩ := mx_bind e1767
                                  refine mG_iaload (pc := 506) C dX12_sort__506 e2891 ?_
                                  obtain ⟨h2892, e2893, e1767⟩ := mx_bind e1767
                                  refine mG_iastore (pc := 507) C dX12_sort__507 e2893 ?_
                                  refine mG_aload_n (pc := 508) C dX12_sort__508 rfl ?_
                                  refine mG_iload (pc := 509) C dX12_sort__509 rfl ?_
                                  refine mG_aload_n (pc := 511) C dX12_sort__511 rfl ?_
                                  refine mG_iload (pc := 512) C dX12_sort__512 rfl ?_
                                  obtain ⟨v2894, e2895, e1767⟩ := mx_bind e1767
                                  refine mG_iaload (pc := 514) C dX12_sort__514 e2895 ?_
                                  obtain ⟨h2896, e2897, e1767⟩ := mx_bind e1767
                                  refine mG_iastore (pc := 515) C dX12_sort__515 e2897 ?_
                                  obtain ⟨r2899, e2900, e1767⟩ := mx_bind e1767
                                  have J2901 : ∀ r2909 : Int32, r2909 = r2899 → mG l Z X 21 (k1752 + 1) (n1753 + 127) 531 [some (.null), some (.ref p1), some (.int (s1751.1 + 6)), some (.int p3), some (.int s1751.2.1), some (.int (s1751.2.1 - 1)), some (.int (s1751.2.1 - p3)), none, none, none, none, none, none, none, some (.int r2909), some (.int (s1751.2.1 - 1)), some (.int v2886), some (.int v2888), none, none, none] [] h2896 := by
                                    intro r2909 q3072
                                    subst q3072
                                    obtain ⟨r2911, e2912, e1767⟩ := mx_bind e1767
                                    have J2913 : ∀ r2921 : Int32, r2921 = r2911 → mG l Z X 21 (k1752 + 1) (n1753 + 127) 546 [some (.null), some (.ref p1), some (.int (s1751.1 + 6)), some (.int p3), some (.int s1751.2.1), some (.int (s1751.2.1 - 1)), some (.int (s1751.2.1 - p3)), none, none, none, none, none, none, none, some (.int r2909), some (.int r2921), some (.int v2886), some (.int v2888), none, none, none] [] h2896 := by
                                      intro r2921 q3071
                                      subst q3071
                                      refine mG_ii (ls' := [some (.null), some (.ref p1), some (.int (s1751.1 + 6)), some (.int p3), some (.int s1751.2.1), some (.int (s1751.2.1 - 1)), some (.int (s1751.2.1 - p3)), none, none, none, none, none, none, none, some (.int (r2909 - 1)), some (.int r2921), some (.int v2886), some (.int v2888), none, none, none]) (pc := 546) C dX12_sort__546 rfl (kincm1 _) rfl rfl rfl ?_
                                      refine mG_iload (pc := 549) C dX12_sort__549 rfl ?_
                                      refine mG_is (ls' := [some (.null), some (.ref p1), some (.int (s1751.1 + 6)), some (.int p3), some (.int s1751.2.1), some (.int (s1751.2.1 - 1)), some (.int (s1751.2.1 - p3)), none, none, none, none, none, none, none, some (.int (r2909 - 1)), some (.int r2921), some (.int v2886), some (.int v2888), some (.int (r2909 - 1)), none, none]) (pc := 551) C dX12_sort__551 rfl rfl rfl ?_
                                      refine mG_ii (ls' := [some (.null), some (.ref p1), some (.int (s1751.1 + 6)), some (.int p3), some (.int s1751.2.1), some (.int (s1751.2.1 - 1)), some (.int (s1751.2.1 - p3)), none, none, none, none, none, none, none, some (.int (r2909 - 1)), some (.int (r2921 + 1)), some (.int v2886), some (.int v2888), some (.int (r2909 - 1)), none, none]) (pc := 553) C dX12_sort__553 rfl (kinc1 _) rfl rfl rfl ?_
                                      refine mG_iload (pc := 556) C dX12_sort__556 rfl ?_
                                      refine mG_is (ls' := [some (.null), some (.ref p1), some (.int (s1751.1 + 6)), some (.int p3), some (.int s1751.2.1), some (.int (s1751.2.1 - 1)), some (.int (s1751.2.1 - p3)), none, none, none, none, none, none, none, some (.int (r2909 - 1)), some (.int (r2921 + 1)), some (.int v2886), some (.int v2888), some (.int (r2909 - 1)), some (.int (r2921 + 1)), none]) (pc := 558) C dX12_sort__558 rfl rfl rfl ?_
                                      obtain ⟨r2923, e2924, e1767⟩ := mx_bind e1767
                                      have J2925 : ∀ r3052 : (Int32 × Int32 × mxH), r3052 = r2923 → mG l Z X 21 (k1752 + 1) (n1753 + 127) 677 [some (.null), some (.ref p1), some (.int (s1751.1 + 6)), some (.int p3), some (.int s1751.2.1), some (.int (s1751.2.1 - 1)), some (.int (s1751.2.1 - p3)), none, none, none, none, none, none, none, some (.int r3052.1), some (.int r3052.2.1), some (.int v2886), some (.int v2888), none, none, none] [] r3052.2.2 := by
                                        intro r3052 q3070
                                        subst q3070
                                        refine mG_aload_n (pc := 677) C dX12_sort__677 rfl ?_
                                        refine mG_iload_n (pc := 678) C dX12_sort__678 rfl ?_
                                        refine mG_aload_n (pc := 679) C dX12_sort__679 rfl ?_
                                        refine mG_iload (pc := 680) C dX12_sort__680 rfl ?_
                                        obtain ⟨v3053, e3054, e1767⟩ := mx_bind e1767
                                        refine mG_iaload (pc := 682) C dX12_sort__682 e3054 ?_
                                        obtain ⟨h3055, e3056, e1767⟩ := mx_bind e1767
                                        refine mG_iastore (pc := 683) C dX12_sort__683 e3056 ?_
                                        refine mG_aload_n (pc := 684) C dX12_sort__684 rfl ?_
                                        refine mG_iload (pc := 685) C dX12_sort__685 rfl ?_
                                        refine mG_iload (pc := 687) C dX12_sort__687 rfl ?_
                                        obtain ⟨h3057, e3058, e1767⟩ := mx_bind e1767
                                        refine mG_iastore (pc := 689) C dX12_sort__689 e3058 ?_
                                        refine mG_aload_n (pc := 690) C dX12_sort__690 rfl ?_
                                        refine mG_iload (pc := 691) C dX12_sort__691 rfl ?_
                                        refine mG_aload_n (pc := 693) C dX12_sort__693 rfl ?_
                                        refine mG_iload (pc := 694) C dX12_sort__694 rfl ?_
                                        obtain ⟨v3059, e3060, e1767⟩ := mx_bind e1767
                                        refine mG_iaload (pc := 696) C dX12_sort__696 e3060 ?_
                                        obtain ⟨h3061, e3062, e1767⟩ := mx_bind e1767
                                        refine mG_iastore (pc := 697) C dX12_sort__697 e3062 ?_
                                        refine mG_aload_n (pc := 698) C dX12_sort__698 rfl ?_
                                        refine mG_iload (pc := 699) C dX12_sort__699 rfl ?_
                                        refine mG_iload (pc := 701) C dX12_sort__701 rfl ?_
                                        obtain ⟨h3063, e3064, e1767⟩ := mx_bind e1767
                                        refine mG_iastore (pc := 703) C dX12_sort__703 e3064 ?_
                                        refine mG_iload (pc := 704) C dX12_sort__704 rfl ?_
                                        refine mG_sp (pc := 706) C dX12_sort__706 kS4096 ?_
                                        refine mG_icmp_le (pc := 709) (tgt := 745) C dX12_sort__709 (by decide) (fun q3065 => ?_) (fun q3065 => ?_)
                                        · rw [if_pos q3065] at e1767
                                          refine mG_aload_nN (pc := 745) C dX12_sort__745 rfl ?_
                                          refine mG_aload_n (pc := 746) C dX12_sort__746 rfl ?_
                                          refine mG_iload_n (pc := 747) C dX12_sort__747 rfl ?_
                                          refine mG_ic (pc := 748) C dX12_sort__748 kI1 ?_
                                          refine mG_ior (pc := 749) C dX12_sort__749 ?_
                                          refine mG_iload (pc := 750) C dX12_sort__750 rfl ?_
                                          refine mG_ic (pc := 752) C dX12_sort__752 kI1 ?_
                                          refine mG_iadd (pc := 753) C dX12_sort__753 ?_
                                          refine mG_iload (pc := 754) C dX12_sort__754 rfl ?_
                                          obtain ⟨o3067, e3066, e1767⟩ := mx_bind e1767
                                          refine mG_cS2 (pc := 756) (k' := (k1752 + 1)) (n' := (n1753 + 127)) (h' := o3067) (v := none) [.null, .ref p1, .int ((s1751.1 + 6) ||| 1), .int (r3052.1 + 1), .int r3052.2.1] [] C hX dX12_sort__756 lkS_X12_26 rfl (tX12_sort_l hl e3066) rfl (by show (k1752 + 1) + 0 = (k1752 + 1); omega) (by show (n1753 + 127) + 0 = (n1753 + 127); omega) ⟨by show (k1752 + 1) ≤ 70; omega, by show (n1753 + 127) ≤ 8890; omega⟩ rfl ?_
                                          refine mG_aload_nN (pc := 759) C dX12_sort__759 rfl ?_
                                          refine mG_aload_n (pc := 760) C dX12_sort__760 rfl ?_
                                          refine mG_iload_n (pc := 761) C dX12_sort__761 rfl ?_
                                          refine mG_ic (pc := 762) C dX12_sort__762 kI1 ?_
                                          refine mG_ior (pc := 763) C dX12_sort__763 ?_
                                          refine mG_iload (pc := 764) C dX12_sort__764 rfl ?_
                                          refine mG_ic (pc := 766) C dX12_sort__766 kI1 ?_
                                          refine mG_iadd (pc := 767) C dX12_sort__767 ?_
                                          refine mG_iload (pc := 768) C dX12_sort__768 rfl ?_
                                          obtain ⟨o3069, e3068, e1767⟩ := mx_bind e1767
                                          refine mG_cS2 (pc := 770) (k' := (k1752 + 1)) (n' := (n1753 + 127)) (h' := o3069) (v := none) [.null, .ref p1, .int ((s1751.1 + 6) ||| 1), .int (r3052.2.1 + 1), .int s1751.2.1] [] C hX dX12_sort__770 lkS_X12_26 rfl (tX12_sort_l hl e3068) rfl (by show (k1752 + 1) + 0 = (k1752 + 1); omega) (by show (n1753 + 127) + 0 = (n1753 + 127); omega) ⟨by show (k1752 + 1) ≤ 70; omega, by show (n1753 + 127) ≤ 8890; omega⟩ rfl ?_
                                          refine mG_goto (tgt := 940) (pc := 773) C dX12_sort__773 (by decide) ?_
                                          refine mG_iload (pc := 940) C dX12_sort__940 rfl ?_
                                          refine mG_is (ls' := [some (.null), some (.ref p1), some (.int (s1751.1 + 6)), some (.int p3), some (.int r3052.1), some (.int (s1751.2.1 - 1)), some (.int (s1751.2.1 - p3)), none, none, none, none, none, none, none, some (.int r3052.1), some (.int r3052.2.1), some (.int v2886), some (.int v2888), none, none, none]) (pc := 942) C dX12_sort__942 rfl rfl rfl ?_
                                          refine mG_goto (tgt := 0) (pc := 944) C dX12_sort__944 (by decide) ?_
                                          exact mG_sub (mxLe_s (mxLe_s (mxLe_s (mxLe_s (mxLe_s (mxLe_n (mxLe_n (mxLe_n (mxLe_n (mxLe_n (mxLe_n (mxLe_n (mxLe_n (mxLe_n (mxLe_n (mxLe_n (mxLe_n (mxLe_n (mxLe_n (mxLe_n (mxLe_n mxLe_z))))))))))))))))))))) (hK1762 _ (Option.some.inj e1767).symm _ _ (by omega) (by omega))
                                        · rw [if_neg q3065] at e1767
                                          exact mG_wd (by omega) (by omega) (mG_sub (mxLe_s (mxLe_n (mxLe_n (mxLe_n (mxLe_n (mxLe_n (mxLe_n (mxLe_n (mxLe_n (mxLe_n (mxLe_n (mxLe_n (mxLe_n (mxLe_n (mxLe_n (mxLe_n (mxLe_n (mxLe_n (mxLe_n (mxLe_n (mxLe_n mxLe_z))))))))))))))))))))) (J1760 _ (hx1763 _ (Option.some.inj e1767).symm)))
                                      refine mG_sub (ls' := [some (.null), some (.ref p1), some (.int (s1751.1 + 6)), some (.int p3), some (.int s1751.2.1), some (.int (s1751.2.1 - 1)), some (.int (s1751.2.1 - p3)), none, none, none, none, none, none, none, some (.int (r2909 - 1)), some (.int (r2921 + 1)), some (.int v2886), some (.int v2888), none, some (.int (r2921 + 1)), none]) (mxLe_s (mxLe_s (mxLe_s (mxLe_s (mxLe_s (mxLe_s (mxLe_s (mxLe_n (mxLe_n (mxLe_n (mxLe_n (mxLe_n (mxLe_n (mxLe_n (mxLe_s (mxLe_s (mxLe_s (mxLe_s (mxLe_n (mxLe_s (mxLe_n mxLe_z))))))))))))))))))))) (mxLoop_ind (K := fun s2922 : (Int32 × Int32 × Int32 × mxH) => mG l Z X 21 (k1752 + 1) (n1753 + 127) 560 [some (.null), some (.ref p1), some (.int (s1751.1 + 6)), some (.int p3), some (.int s1751.2.1), some (.int (s1751.2.1 - 1)), some (.int (s1751.2.1 - p3)), none, none, none, none, none, none, none, some (.int s2922.1), some (.int s2922.2.1), some (.int v2886), some (.int v2888), none, some (.int s2922.2.2.1), none] [] s2922.2.2.2) ?_ _ _ e2924)
                                      intro s2922 o2928 e2929 hK2926 hx2927
                                      refine mG_ii (ls' := [some (.null), some (.ref p1), some (.int (s1751.1 + 6)), some (.int p3), some (.int s1751.2.1), some (.int (s1751.2.1 - 1)), some (.int (s1751.2.1 - p3)), none, none, none, none, none, none, none, some (.int s2922.1), some (.int s2922.2.1), some (.int v2886), some (.int v2888), none, some (.int (s2922.2.2.1 - 1)), none]) (pc := 560) C dX12_sort__560 rfl (kincm1 _) rfl rfl rfl ?_
                                      refine mG_iload (pc := 563) C dX12_sort__563 rfl ?_
                                      refine mG_iload (pc := 565) C dX12_sort__565 rfl ?_
                                      refine mG_icmp_le (pc := 567) (tgt := 677) C dX12_sort__567 (by decide) (fun q2930 => ?_) (fun q2930 => ?_)
                                      · rw [if_pos q2930] at e2929
                                        exact mG_sub (mxLe_s (mxLe_s (mxLe_s (mxLe_s (mxLe_s (mxLe_s (mxLe_s (mxLe_n (mxLe_n (mxLe_n (mxLe_n (mxLe_n (mxLe_n (mxLe_n (mxLe_s (mxLe_s (mxLe_s (mxLe_s (mxLe_n (mxLe_n (mxLe_n mxLe_z))))))))))))))))))))) (J2925 _ (hx2927 _ (Option.some.inj e2929).symm))
                                      · rw [if_neg q2930] at e2929
                                        refine mG_aload_n (pc := 570) C dX12_sort__570 rfl ?_
                                        refine mG_iload (pc := 571) C dX12_sort__571 rfl ?_
                                        obtain ⟨v2931, e2932, e2929⟩ := mx_bind e2929
                                        refine mG_iaload (pc := 573) C dX12_sort__573 e2932 ?_
                                        refine mG_is (ls' := [some (.null), some (.ref p1), some (.int (s1751.1 + 6)), some (.int p3), some (.int s1751.2.1), some (.int (s1751.2.1 - 1)), some (.int (s1751.2.1 - p3)), none, none, none, none, none, none, none, some (.int s2922.1), some (.int s2922.2.1), some (.int v2886), some (.int v2888), none, some (.int (s2922.2.2.1 - 1)), some (.int v2931)]) (pc := 574) C dX12_sort__574 rfl rfl rfl ?_
                                        refine mG_iload (pc := 576) C dX12_sort__576 rfl ?_
                                        refine mG_iload (pc := 578) C dX12_sort__578 rfl ?_
                                        obtain ⟨jp2935, e2936, e2929⟩ := mx_bind e2929
                                        have J2934 : ∀ jp2935' : (Int32 × Int32 × mxH), jp2935' = jp2935 → mG l Z X 21 (k1752 + 1) (n1753 + 127) 674 [some (.null), some (.ref p1), some (.int (s1751.1 + 6)), some (.int p3), some (.int s1751.2.1), some (.int (s1751.2.1 - 1)), some (.int (s1751.2.1 - p3)), none, none, none, none, none, none, none, some (.int jp2935'.1), some (.int jp2935'.2.1), some (.int v2886), some (.int v2888), none, some (.int (s2922.2.2.1 - 1)), none] [] jp2935'.2.2 := by
                                          intro jp2935' q3051
                                          subst q3051
                                          refine mG_goto (tgt := 560) (pc := 674) C dX12_sort__674 (by decide) ?_
                                          exact mG_sub (mxLe_s (mxLe_s (mxLe_s (mxLe_s (mxLe_s (mxLe_s (mxLe_s (mxLe_n (mxLe_n (mxLe_n (mxLe_n (mxLe_n (mxLe_n (mxLe_n (mxLe_s (mxLe_s (mxLe_s (mxLe_s (mxLe_n (mxLe_s (mxLe_n mxLe_z))))))))))))))))))))) (hK2926 _ (Option.some.inj e2929).symm)
                                        refine mG_icmp_ge (pc := 580) (tgt := 650) C dX12_sort__580 (by decide) (fun q2933 => ?_) (fun q2933 => ?_)
                                        · rw [if_pos q2933] at e2936
                                          refine mG_iload (pc := 650) C dX12_sort__650 rfl ?_
                                          refine mG_iload (pc := 652) C dX12_sort__652 rfl ?_
                                          refine mG_icmp_le (pc := 654) (tgt := 674) C dX12_sort__654 (by decide) (fun q2994 => ?_) (fun q2994 => ?_)
                                          · rw [if_pos q2994] at e2936
                                            exact mG_sub (mxLe_s (mxLe_s (mxLe_s (mxLe_s (mxLe_s (mxLe_s (mxLe_s (mxLe_n (mxLe_n (mxLe_n (mxLe_n (mxLe_n (mxLe_n (mxLe_n (mxLe_s (mxLe_s (mxLe_s (mxLe_s (mxLe_n (mxLe_s (mxLe_n mxLe_z))))))))))))))))))))) (J2934 _ (Option.some.inj e2936))
                                          · rw [if_neg q2994] at e2936
                                            refine mG_aload_n (pc := 657) C dX12_sort__657 rfl ?_
                                            refine mG_iload (pc := 658) C dX12_sort__658 rfl ?_
                                            refine mG_aload_n (pc := 660) C dX12_sort__660 rfl ?_
                                            refine mG_ii (ls' := [some (.null), some (.ref p1), some (.int (s1751.1 + 6)), some (.int p3), some (.int s1751.2.1), some (.int (s1751.2.1 - 1)), some (.int (s1751.2.1 - p3)), none, none, none, none, none, none, none, some (.int s2922.1), some (.int (s2922.2.1 - 1)), some (.int v2886), some (.int v2888), none, some (.int (s2922.2.2.1 - 1)), some (.int v2931)]) (pc := 661) C dX12_sort__661 rfl (kincm1 _) rfl rfl rfl ?_
                                            refine mG_iload (pc := 664) C dX12_sort__664 rfl ?_
                                            obtain ⟨v2995, e2996, e2936⟩ := mx_bind e2936
                                            refine mG_iaload (pc := 666) C dX12_sort__666 e2996 ?_
                                            obtain ⟨h2997, e2998, e2936⟩ := mx_bind e2936
                                            refine mG_iastore (pc := 667) C dX12_sort__667 e2998 ?_
                                            refine mG_aload_n (pc := 668) C dX12_sort__668 rfl ?_
                                            refine mG_iload (pc := 669) C dX12_sort__669 rfl ?_
                                            refine mG_iload (pc := 671) C dX12_sort__671 rfl ?_
                                            obtain ⟨h2999, e3000, e2936⟩ := mx_bind e2936
                                            refine mG_iastore (pc := 673) C dX12_sort__673 e3000 ?_
                                            exact mG_sub (mxLe_s (mxLe_s (mxLe_s (mxLe_s (mxLe_s (mxLe_s (mxLe_s (mxLe_n (mxLe_n (mxLe_n (mxLe_n (mxLe_n (mxLe_n (mxLe_n (mxLe_s (mxLe_s (mxLe_s (mxLe_s (mxLe_n (mxLe_s (mxLe_n mxLe_z))))))))))))))))))))) (J2934 _ (Option.some.inj e2936))
                                        · rw [if_neg q2933] at e2936
                                          obtain ⟨r3002, e3003, e2936⟩ := mx_bind e2936
                                          have J3004 : ∀ r3014 : Int32, Sum.inl r3014 = r3002 → mG l Z X 21 (k1752 + 1) (n1753 + 127) 602 [some (.null), some (.ref p1), some (.int (s1751.1 + 6)), some (.int p3), some (.int s1751.2.1), some (.int (s1751.2.1 - 1)), some (.int (s1751.2.1 - p3)), none, none, none, none, none, none, none, some (.int r3014), some (.int s2922.2.1), some (.int v2886), some (.int v2888), none, some (.int (s2922.2.2.1 - 1)), some (.int v2931)] [] s2922.2.2.2 := by
                                            intro r3014 q3048
                                            subst q3048
                                            rw [Sum.elim_inl] at e2936
                                            refine mG_aload_n (pc := 602) C dX12_sort__602 rfl ?_
                                            refine mG_iload (pc := 603) C dX12_sort__603 rfl ?_
                                            obtain ⟨v3015, e3016, e2936⟩ := mx_bind e2936
                                            refine mG_iaload (pc := 605) C dX12_sort__605 e3016 ?_
                                            refine mG_iload (pc := 606) C dX12_sort__606 rfl ?_
                                            obtain ⟨jp3019, e3020, e2936⟩ := mx_bind e2936
                                            have J3018 : ∀ jp3019' : (Int32 × mxH), jp3019' = jp3019 → mG l Z X 21 (k1752 + 1) (n1753 + 127) 641 [some (.null), some (.ref p1), some (.int (s1751.1 + 6)), some (.int p3), some (.int s1751.2.1), some (.int (s1751.2.1 - 1)), some (.int (s1751.2.1 - p3)), none, none, none, none, none, none, none, some (.int r3014), some (.int jp3019'.1), some (.int v2886), some (.int v2888), none, some (.int (s2922.2.2.1 - 1)), some (.int v2931)] [] jp3019'.2 := by
                                              intro jp3019' q3047
                                              subst q3047
                                              refine mG_aload_n (pc := 641) C dX12_sort__641 rfl ?_
                                              refine mG_iload (pc := 642) C dX12_sort__642 rfl ?_
                                              refine mG_iload (pc := 644) C dX12_sort__644 rfl ?_
                                              obtain ⟨h3045, e3046, e2936⟩ := mx_bind e2936
                                              refine mG_iastore (pc := 646) C dX12_sort__646 e3046 ?_
                                              refine mG_goto (tgt := 674) (pc := 647) C dX12_sort__647 (by decide) ?_
                                              exact mG_sub (mxLe_s (mxLe_s (mxLe_s (mxLe_s (mxLe_s (mxLe_s (mxLe_s (mxLe_n (mxLe_n (mxLe_n (mxLe_n (mxLe_n (mxLe_n (mxLe_n (mxLe_s (mxLe_s (mxLe_s (mxLe_s (mxLe_n (mxLe_s (mxLe_n mxLe_z))))))))))))))))))))) (J2934 _ (Option.some.inj e2936))
                                            refine mG_icmp_le (pc := 608) (tgt := 633) C dX12_sort__608 (by decide) (fun q3017 => ?_) (fun q3017 => ?_)
                                            · rw [if_pos q3017] at e3020
                                              refine mG_aload_n (pc := 633) C dX12_sort__633 rfl ?_
                                              refine mG_iload (pc := 634) C dX12_sort__634 rfl ?_
                                              refine mG_aload_n (pc := 636) C dX12_sort__636 rfl ?_
                                              refine mG_iload (pc := 637) C dX12_sort__637 rfl ?_
                                              obtain ⟨v3033, e3034, e3020⟩ := mx_bind e3020
                                              refine mG_iaload (pc := 639) C dX12_sort__639 e3034 ?_
                                              obtain ⟨h3035, e3036, e3020⟩ := mx_bind e3020
                                              refine mG_iastore (pc := 640) C dX12_sort__640 e3036 ?_
                                              exact mG_sub (mxLe_s (mxLe_s (mxLe_s (mxLe_s (mxLe_s (mxLe_s (mxLe_s (mxLe_n (mxLe_n (mxLe_n (mxLe_n (mxLe_n (mxLe_n (mxLe_n (mxLe_s (mxLe_s (mxLe_s (mxLe_s (mxLe_n (mxLe_s (mxLe_s mxLe_z))))))))))))))))))))) (J3018 _ (Option.some.inj e3020))
                                            · rw [if_neg q3017] at e3020
                                              refine mG_aload_n (pc := 611) C dX12_sort__611 rfl ?_
                                              refine mG_iload (pc := 612) C dX12_sort__612 rfl ?_
                                              refine mG_aload_n (pc := 614) C dX12_sort__614 rfl ?_
                                              refine mG_ii (ls' := [some (.null), some (.ref p1), some (.int (s1751.1 + 6)), some (.int p3), some (.int s1751.2.1), some (.int (s1751.2.1 - 1)), some (.int (s1751.2.1 - p3)), none, none, none, none, none, none, none, some (.int r3014), some (.int (s2922.2.1 - 1)), some (.int v2886), some (.int v2888), none, some (.int (s2922.2.2.1 - 1)), some (.int v2931)]) (pc := 615) C dX12_sort__615 rfl (kincm1 _) rfl rfl rfl ?_
                                              refine mG_iload (pc := 618) C dX12_sort__618 rfl ?_
                                              obtain ⟨v3037, e3038, e3020⟩ := mx_bind e3020
                                              refine mG_iaload (pc := 620) C dX12_sort__620 e3038 ?_
                                              obtain ⟨h3039, e3040, e3020⟩ := mx_bind e3020
                                              refine mG_iastore (pc := 621) C dX12_sort__621 e3040 ?_
                                              refine mG_aload_n (pc := 622) C dX12_sort__622 rfl ?_
                                              refine mG_iload (pc := 623) C dX12_sort__623 rfl ?_
                                              refine mG_aload_n (pc := 625) C dX12_sort__625 rfl ?_
                                              refine mG_iload (pc := 626) C dX12_sort__626 rfl ?_
                                              obtain ⟨v3041, e3042, e3020⟩ := mx_bind e3020
                                              refine mG_iaload (pc := 628) C dX12_sort__628 e3042 ?_
                                              obtain ⟨h3043, e3044, e3020⟩ := mx_bind e3020
                                              refine mG_iastore (pc := 629) C dX12_sort__629 e3044 ?_
                                              refine mG_goto (tgt := 641) (pc := 630) C dX12_sort__630 (by decide) ?_
                                              exact mG_sub (mxLe_s (mxLe_s (mxLe_s (mxLe_s (mxLe_s (mxLe_s (mxLe_s (mxLe_n (mxLe_n (mxLe_n (mxLe_n (mxLe_n (mxLe_n (mxLe_n (mxLe_s (mxLe_s (mxLe_s (mxLe_s (mxLe_n (mxLe_s (mxLe_s mxLe_z))))))))))))))))))))) (J3018 _ (Option.some.inj e3020))
                                          have J3005 : ∀ r3049 : Int32, Sum.inr r3049 = r3002 → mG l Z X 21 (k1752 + 1) (n1753 + 127) 674 [some (.null), some (.ref p1), some (.int (s1751.1 + 6)), some (.int p3), some (.int s1751.2.1), some (.int (s1751.2.1 - 1)), some (.int (s1751.2.1 - p3)), none, none, none, none, none, none, none, some (.int r3049), some (.int s2922.2.1), some (.int v2886), some (.int v2888), none, some (.int (s2922.2.2.1 - 1)), none] [] s2922.2.2.2 := by
                                            intro r3049 q3050
                                            subst q3050
                                            rw [Sum.elim_inr] at e2936
                                            exact mG_sub (mxLe_s (mxLe_s (mxLe_s (mxLe_s (mxLe_s (mxLe_s (mxLe_s (mxLe_n (mxLe_n (mxLe_n (mxLe_n (mxLe_n (mxLe_n (mxLe_n (mxLe_s (mxLe_s (mxLe_s (mxLe_s (mxLe_n (mxLe_s (mxLe_n mxLe_z))))))))))))))))))))) (J2934 _ (Option.some.inj e2936))
                                          refine mG_sub (ls' := [some (.null), some (.ref p1), some (.int (s1751.1 + 6)), some (.int p3), some (.int s1751.2.1), some (.int (s1751.2.1 - 1)), some (.int (s1751.2.1 - p3)), none, none, none, none, none, none, none, some (.int s2922.1), some (.int s2922.2.1), some (.int v2886), some (.int v2888), none, some (.int (s2922.2.2.1 - 1)), some (.int v2931)]) (mxLe_s (mxLe_s (mxLe_s (mxLe_s (mxLe_s (mxLe_s (mxLe_s (mxLe_n (mxLe_n (mxLe_n (mxLe_n (mxLe_n (mxLe_n (mxLe_n (mxLe_s (mxLe_s (mxLe_s (mxLe_s (mxLe_n (mxLe_s (mxLe_s mxLe_z))))))))))))))))))))) (mxLoop_ind (K := fun s3001 : Int32 => mG l Z X 21 (k1752 + 1) (n1753 + 127) 583 [some (.null), some (.ref p1), some (.int (s1751.1 + 6)), some (.int p3), some (.int s1751.2.1), some (.int (s1751.2.1 - 1)), some (.int (s1751.2.1 - p3)), none, none, none, none, none, none, none, some (.int s3001), some (.int s2922.2.1), some (.int v2886), some (.int v2888), none, some (.int (s2922.2.2.1 - 1)), some (.int v2931)] [] s2922.2.2.2) ?_ _ _ e3003)
                                          intro s3001 o3008 e3009 hK3006 hx3007
                                          refine mG_iload (pc := 583) C dX12_sort__583 rfl ?_
                                          refine mG_iload (pc := 585) C dX12_sort__585 rfl ?_
                                          refine mG_icmp_ge (pc := 587) (tgt := 674) C dX12_sort__587 (by decide) (fun q3010 => ?_) (fun q3010 => ?_)
                                          · rw [if_pos q3010] at e3009
                                            exact mG_sub (mxLe_s (mxLe_s (mxLe_s (mxLe_s (mxLe_s (mxLe_s (mxLe_s (mxLe_n (mxLe_n (mxLe_n (mxLe_n (mxLe_n (mxLe_n (mxLe_n (mxLe_s (mxLe_s (mxLe_s (mxLe_s (mxLe_n (mxLe_s (mxLe_n mxLe_z))))))))))))))))))))) (J3005 _ (hx3007 _ (Option.some.inj e3009).symm))
                                          · rw [if_neg q3010] at e3009
                                            refine mG_aload_n (pc := 590) C dX12_sort__590 rfl ?_
                                            refine mG_ii (ls' := [some (.null), some (.ref p1), some (.int (s1751.1 + 6)), some (.int p3), some (.int s1751.2.1), some (.int (s1751.2.1 - 1)), some (.int (s1751.2.1 - p3)), none, none, none, none, none, none, none, some (.int (s3001 + 1)), some (.int s2922.2.1), some (.int v2886), some (.int v2888), none, some (.int (s2922.2.2.1 - 1)), some (.int v2931)]) (pc := 591) C dX12_sort__591 rfl (kinc1 _) rfl rfl rfl ?_
                                            refine mG_iload (pc := 594) C dX12_sort__594 rfl ?_
                                            obtain ⟨v3011, e3012, e3009⟩ := mx_bind e3009
                                            refine mG_iaload (pc := 596) C dX12_sort__596 e3012 ?_
                                            refine mG_iload (pc := 597) C dX12_sort__597 rfl ?_
                                            refine mG_icmp_lt (pc := 599) (tgt := 583) C dX12_sort__599 (by decide) (fun q3013 => ?_) (fun q3013 => ?_)
                                            · rw [if_pos q3013] at e3009
                                              exact mG_sub (mxLe_s (mxLe_s (mxLe_s (mxLe_s (mxLe_s (mxLe_s (mxLe_s (mxLe_n (mxLe_n (mxLe_n (mxLe_n (mxLe_n (mxLe_n (mxLe_n (mxLe_s (mxLe_s (mxLe_s (mxLe_s (mxLe_n (mxLe_s (mxLe_s mxLe_z))))))))))))))))))))) (hK3006 _ (Option.some.inj e3009).symm)
                                            · rw [if_neg q3013] at e3009
                                              exact mG_sub (mxLe_s (mxLe_s (mxLe_s (mxLe_s (mxLe_s (mxLe_s (mxLe_s (mxLe_n (mxLe_n (mxLe_n (mxLe_n (mxLe_n (mxLe_n (mxLe_n (mxLe_s (mxLe_s (mxLe_s (mxLe_s (mxLe_n (mxLe_s (mxLe_s mxLe_z))))))))))))))))))))) (J3004 _ (hx3007 _ (Option.some.inj e3009).symm))
                                    refine mG_sub (ls' := [some (.null), some (.ref p1), some (.int (s1751.1 + 6)), some (.int p3), some (.int s1751.2.1), some (.int (s1751.2.1 - 1)), some (.int (s1751.2.1 - p3)), none, none, none, none, none, none, none, some (.int r2909), some (.int (s1751.2.1 - 1)), some (.int v2886), some (.int v2888), none, none, none]) (mxLe_s (mxLe_s (mxLe_s (mxLe_s (mxLe_s (mxLe_s (mxLe_s (mxLe_n (mxLe_n (mxLe_n (mxLe_n (mxLe_n (mxLe_n (mxLe_n (mxLe_s (mxLe_s (mxLe_s (mxLe_s (mxLe_n (mxLe_n (mxLe_n mxLe_z))))))))))))))))))))) (mxLoop_ind (K := fun s2910 : Int32 => mG l Z X 21 (k1752 + 1) (n1753 + 127) 531 [some (.null), some (.ref p1), some (.int (s1751.1 + 6)), some (.int p3), some (.int s1751.2.1), some (.int (s1751.2.1 - 1)), some (.int (s1751.2.1 - p3)), none, none, none, none, none, none, none, some (.int r2909), some (.int s2910), some (.int v2886), some (.int v2888), none, none, none] [] h2896) ?_ _ _ e2912)
                                    intro s2910 o2916 e2917 hK2914 hx2915
                                    refine mG_aload_n (pc := 531) C dX12_sort__531 rfl ?_
                                    refine mG_ii (ls' := [some (.null), some (.ref p1), some (.int (s1751.1 + 6)), some (.int p3), some (.int s1751.2.1), some (.int (s1751.2.1 - 1)), some (.int (s1751.2.1 - p3)), none, none, none, none, none, none, none, some (.int r2909), some (.int (s2910 - 1)), some (.int v2886), some (.int v2888), none, none, none]) (pc := 532) C dX12_sort__532 rfl (kincm1 _) rfl rfl rfl ?_
                                    refine mG_iload (pc := 535) C dX12_sort__535 rfl ?_
                                    obtain ⟨v2918, e2919, e2917⟩ := mx_bind e2917
                                    refine mG_iaload (pc := 537) C dX12_sort__537 e2919 ?_
                                    refine mG_iload (pc := 538) C dX12_sort__538 rfl ?_
                                    refine mG_icmp_le (pc := 540) (tgt := 546) C dX12_sort__540 (by decide) (fun q2920 => ?_) (fun q2920 => ?_)
                                    · rw [if_pos q2920] at e2917
                                      exact mG_sub (mxLe_s (mxLe_s (mxLe_s (mxLe_s (mxLe_s (mxLe_s (mxLe_s (mxLe_n (mxLe_n (mxLe_n (mxLe_n (mxLe_n (mxLe_n (mxLe_n (mxLe_s (mxLe_s (mxLe_s (mxLe_s (mxLe_n (mxLe_n (mxLe_n mxLe_z))))))))))))))))))))) (J2913 _ (hx2915 _ (Option.some.inj e2917).symm))
                                    · rw [if_neg q2920] at e2917
                                      refine mG_goto (tgt := 531) (pc := 543) C dX12_sort__543 (by decide) ?_
                                      exact mG_sub (mxLe_s (mxLe_s (mxLe_s (mxLe_s (mxLe_s (mxLe_s (mxLe_s (mxLe_n (mxLe_n (mxLe_n (mxLe_n (mxLe_n (mxLe_n (mxLe_n (mxLe_s (mxLe_s (mxLe_s (mxLe_s (mxLe_n (mxLe_n (mxLe_n mxLe_z))))))))))))))))))))) (hK2914 _ (Option.some.inj e2917).symm)
                                  refine mG_sub (ls' := [some (.null), some (.ref p1), some (.int (s1751.1 + 6)), some (.int p3), some (.int s1751.2.1), some (.int (s1751.2.1 - 1)), some (.int (s1751.2.1 - p3)), none, none, none, none, none, none, none, some (.int p3), some (.int (s1751.2.1 - 1)), some (.int v2886), some (.int v2888), none, none, none]) (mxLe_s (mxLe_s (mxLe_s (mxLe_s (mxLe_s (mxLe_s (mxLe_s (mxLe_n (mxLe_n (mxLe_n (mxLe_n (mxLe_n (mxLe_n (mxLe_n (mxLe_s (mxLe_s (mxLe_s (mxLe_s (mxLe_n (mxLe_n (mxLe_n mxLe_z))))))))))))))))))))) (mxLoop_ind (K := fun s2898 : Int32 => mG l Z X 21 (k1752 + 1) (n1753 + 127) 516 [some (.null), some (.ref p1), some (.int (s1751.1 + 6)), some (.int p3), some (.int s1751.2.1), some (.int (s1751.2.1 - 1)), some (.int (s1751.2.1 - p3)), none, none, none, none, none, none, none, some (.int s2898), some (.int (s1751.2.1 - 1)), some (.int v2886), some (.int v2888), none, none, none] [] h2896) ?_ _ _ e2900)
                                  intro s2898 o2904 e2905 hK2902 hx2903
                                  refine mG_aload_n (pc := 516) C dX12_sort__516 rfl ?_
                                  refine mG_ii (ls' := [some (.null), some (.ref p1), some (.int (s1751.1 + 6)), some (.int p3), some (.int s1751.2.1), some (.int (s1751.2.1 - 1)), some (.int (s1751.2.1 - p3)), none, none, none, none, none, none, none, some (.int (s2898 + 1)), some (.int (s1751.2.1 - 1)), some (.int v2886), some (.int v2888), none, none, none]) (pc := 517) C dX12_sort__517 rfl (kinc1 _) rfl rfl rfl ?_
                                  refine mG_iload (pc := 520) C dX12_sort__520 rfl ?_
                                  obtain ⟨v2906, e2907, e2905⟩ := mx_bind e2905
                                  refine mG_iaload (pc := 522) C dX12_sort__522 e2907 ?_
                                  refine mG_iload (pc := 523) C dX12_sort__523 rfl ?_
                                  refine mG_icmp_ge (pc := 525) (tgt := 531) C dX12_sort__525 (by decide) (fun q2908 => ?_) (fun q2908 => ?_)
                                  · rw [if_pos q2908] at e2905
                                    exact mG_sub (mxLe_s (mxLe_s (mxLe_s (mxLe_s (mxLe_s (mxLe_s (mxLe_s (mxLe_n (mxLe_n (mxLe_n (mxLe_n (mxLe_n (mxLe_n (mxLe_n (mxLe_s (mxLe_s (mxLe_s (mxLe_s (mxLe_n (mxLe_n (mxLe_n mxLe_z))))))))))))))))))))) (J2901 _ (hx2903 _ (Option.some.inj e2905).symm))
                                  · rw [if_neg q2908] at e2905
                                    refine mG_goto (tgt := 516) (pc := 528) C dX12_sort__528 (by decide) ?_
                                    exact mG_sub (mxLe_s (mxLe_s (mxLe_s (mxLe_s (mxLe_s (mxLe_s (mxLe_s (mxLe_n (mxLe_n (mxLe_n (mxLe_n (mxLe_n (mxLe_n (mxLe_n (mxLe_s (mxLe_s (mxLe_s (mxLe_s (mxLe_n (mxLe_n (mxLe_n mxLe_z))))))))))))))))))))) (hK2902 _ (Option.some.inj e2905).symm)
                        refine mG_icmp_ge (pc := 326) (tgt := 380) C dX12_sort__326 (by decide) (fun q2780 => ?_) (fun q2780 => ?_)
                        · rw [if_pos q2780] at e2783
                          refine mG_iload (pc := 380) C dX12_sort__380 rfl ?_
                          refine mG_aload_n (pc := 382) C dX12_sort__382 rfl ?_
                          refine mG_iload (pc := 383) C dX12_sort__383 rfl ?_
                          obtain ⟨v2825, e2826, e2783⟩ := mx_bind e2783
                          refine mG_iaload (pc := 385) C dX12_sort__385 e2826 ?_
                          refine mG_icmp_le (pc := 386) (tgt := 437) C dX12_sort__386 (by decide) (fun q2827 => ?_) (fun q2827 => ?_)
                          · rw [if_pos q2827] at e2783
                            exact mG_sub (mxLe_s (mxLe_s (mxLe_s (mxLe_s (mxLe_s (mxLe_s (mxLe_s (mxLe_n (mxLe_s (mxLe_s (mxLe_s (mxLe_s (mxLe_s (mxLe_n (mxLe_n (mxLe_n (mxLe_n (mxLe_n (mxLe_n (mxLe_n (mxLe_n mxLe_z))))))))))))))))))))) (J2781 _ (Option.some.inj e2783))
                          · rw [if_neg q2827] at e2783
                            refine mG_iload (pc := 389) C dX12_sort__389 rfl ?_
                            refine mG_aload_n (pc := 391) C dX12_sort__391 rfl ?_
                            refine mG_iload (pc := 392) C dX12_sort__392 rfl ?_
                            obtain ⟨v2828, e2829, e2783⟩ := mx_bind e2783
                            refine mG_iaload (pc := 394) C dX12_sort__394 e2829 ?_
                            refine mG_icmp_le (pc := 395) (tgt := 423) C dX12_sort__395 (by decide) (fun q2830 => ?_) (fun q2830 => ?_)
                            · rw [if_pos q2830] at e2783
                              refine mG_aload_n (pc := 423) C dX12_sort__423 rfl ?_
                              refine mG_iload (pc := 424) C dX12_sort__424 rfl ?_
                              refine mG_aload_n (pc := 426) C dX12_sort__426 rfl ?_
                              refine mG_iload (pc := 427) C dX12_sort__427 rfl ?_
                              obtain ⟨v2831, e2832, e2783⟩ := mx_bind e2783
                              refine mG_iaload (pc := 429) C dX12_sort__429 e2832 ?_
                              obtain ⟨h2833, e2834, e2783⟩ := mx_bind e2783
                              refine mG_iastore (pc := 430) C dX12_sort__430 e2834 ?_
                              refine mG_aload_n (pc := 431) C dX12_sort__431 rfl ?_
                              refine mG_iload (pc := 432) C dX12_sort__432 rfl ?_
                              refine mG_iload (pc := 434) C dX12_sort__434 rfl ?_
                              obtain ⟨h2835, e2836, e2783⟩ := mx_bind e2783
                              refine mG_iastore (pc := 436) C dX12_sort__436 e2836 ?_
                              exact mG_sub (mxLe_s (mxLe_s (mxLe_s (mxLe_s (mxLe_s (mxLe_s (mxLe_s (mxLe_n (mxLe_s (mxLe_s (mxLe_s (mxLe_s (mxLe_s (mxLe_n (mxLe_n (mxLe_n (mxLe_n (mxLe_n (mxLe_n (mxLe_n (mxLe_n mxLe_z))))))))))))))))))))) (J2781 _ (Option.some.inj e2783))
                            · rw [if_neg q2830] at e2783
                              refine mG_aload_n (pc := 398) C dX12_sort__398 rfl ?_
                              refine mG_iload (pc := 399) C dX12_sort__399 rfl ?_
                              refine mG_aload_n (pc := 401) C dX12_sort__401 rfl ?_
                              refine mG_iload (pc := 402) C dX12_sort__402 rfl ?_
                              obtain ⟨v2837, e2838, e2783⟩ := mx_bind e2783
                              refine mG_iaload (pc := 404) C dX12_sort__404 e2838 ?_
                              obtain ⟨h2839, e2840, e2783⟩ := mx_bind e2783
                              refine mG_iastore (pc := 405) C dX12_sort__405 e2840 ?_
                              refine mG_aload_n (pc := 406) C dX12_sort__406 rfl ?_
                              refine mG_iload (pc := 407) C dX12_sort__407 rfl ?_
                              refine mG_aload_n (pc := 409) C dX12_sort__409 rfl ?_
                              refine mG_iload (pc := 410) C dX12_sort__410 rfl ?_
                              obtain ⟨v2841, e2842, e2783⟩ := mx_bind e2783
                              refine mG_iaload (pc := 412) C dX12_sort__412 e2842 ?_
                              obtain ⟨h2843, e2844, e2783⟩ := mx_bind e2783
                              refine mG_iastore (pc := 413) C dX12_sort__413 e2844 ?_
                              refine mG_aload_n (pc := 414) C dX12_sort__414 rfl ?_
                              refine mG_iload (pc := 415) C dX12_sort__415 rfl ?_
                              refine mG_iload (pc := 417) C dX12_sort__417 rfl ?_
                              obtain ⟨h2845, e2846, e2783⟩ := mx_bind e2783
                              refine mG_iastore (pc := 419) C dX12_sort__419 e2846 ?_
                              refine mG_goto (tgt := 437) (pc := 420) C dX12_sort__420 (by decide) ?_
                              exact mG_sub (mxLe_s (mxLe_s (mxLe_s (mxLe_s (mxLe_s (mxLe_s (mxLe_s (mxLe_n (mxLe_s (mxLe_s (mxLe_s (mxLe_s (mxLe_s (mxLe_n (mxLe_n (mxLe_n (mxLe_n (mxLe_n (mxLe_n (mxLe_n (mxLe_n mxLe_z))))))))))))))))))))) (J2781 _ (Option.some.inj e2783))
                        · rw [if_neg q2780] at e2783
                          refine mG_iload (pc := 329) C dX12_sort__329 rfl ?_
                          refine mG_aload_n (pc := 331) C dX12_sort__331 rfl ?_
                          refine mG_iload (pc := 332) C dX12_sort__332 rfl ?_
                          obtain ⟨v2847, e2848, e2783⟩ := mx_bind e2783
                          refine mG_iaload (pc := 334) C dX12_sort__334 e2848 ?_
                          refine mG_icmp_ge (pc := 335) (tgt := 363) C dX12_sort__335 (by decide) (fun q2849 => ?_) (fun q2849 => ?_)
                          · rw [if_pos q2849] at e2783
                            refine mG_aload_n (pc := 363) C dX12_sort__363 rfl ?_
                            refine mG_iload (pc := 364) C dX12_sort__364 rfl ?_
                            refine mG_aload_n (pc := 366) C dX12_sort__366 rfl ?_
                            refine mG_iload (pc := 367) C dX12_sort__367 rfl ?_
                            obtain ⟨v2850, e2851, e2783⟩ := mx_bind e2783
                            refine mG_iaload (pc := 369) C dX12_sort__369 e2851 ?_
                            obtain ⟨h2852, e2853, e2783⟩ := mx_bind e2783
                            refine mG_iastore (pc := 370) C dX12_sort__370 e2853 ?_
                            refine mG_aload_n (pc := 371) C dX12_sort__371 rfl ?_
                            refine mG_iload (pc := 372) C dX12_sort__372 rfl ?_
                            refine mG_iload (pc := 374) C dX12_sort__374 rfl ?_
                            obtain ⟨h2854, e2855, e2783⟩ := mx_bind e2783
                            refine mG_iastore (pc := 376) C dX12_sort__376 e2855 ?_
                            refine mG_goto (tgt := 437) (pc := 377) C dX12_sort__377 (by decide) ?_
                            exact mG_sub (mxLe_s (mxLe_s (mxLe_s (mxLe_s (mxLe_s (mxLe_s (mxLe_s (mxLe_n (mxLe_s (mxLe_s (mxLe_s (mxLe_s (mxLe_s (mxLe_n (mxLe_n (mxLe_n (mxLe_n (mxLe_n (mxLe_n (mxLe_n (mxLe_n mxLe_z))))))))))))))))))))) (J2781 _ (Option.some.inj e2783))
                          · rw [if_neg q2849] at e2783
                            refine mG_aload_n (pc := 338) C dX12_sort__338 rfl ?_
                            refine mG_iload (pc := 339) C dX12_sort__339 rfl ?_
                            refine mG_aload_n (pc := 341) C dX12_sort__341 rfl ?_
                            refine mG_iload (pc := 342) C dX12_sort__342 rfl ?_
                            obtain ⟨v2856, e2857, e2783⟩ := mx_bind e2783
                            refine mG_iaload (pc := 344) C dX12_sort__344 e2857 ?_
                            obtain ⟨h2858, e2859, e2783⟩ := mx_bind e2783
                            refine mG_iastore (pc := 345) C dX12_sort__345 e2859 ?_
                            refine mG_aload_n (pc := 346) C dX12_sort__346 rfl ?_
                            refine mG_iload (pc := 347) C dX12_sort__347 rfl ?_
                            refine mG_aload_n (pc := 349) C dX12_sort__349 rfl ?_
                            refine mG_iload (pc := 350) C dX12_sort__350 rfl ?_
                            obtain ⟨v2860, e2861, e2783⟩ := mx_bind e2783
                            refine mG_iaload (pc := 352) C dX12_sort__352 e2861 ?_
                            obtain ⟨h2862, e2863, e2783⟩ := mx_bind e2783
                            refine mG_iastore (pc := 353) C dX12_sort__353 e2863 ?_
                            refine mG_aload_n (pc := 354) C dX12_sort__354 rfl ?_
                            refine mG_iload (pc := 355) C dX12_sort__355 rfl ?_
                            refine mG_iload (pc := 357) C dX12_sort__357 rfl ?_
                            obtain ⟨h2864, e2865, e2783⟩ := mx_bind e2783
                            refine mG_iastore (pc := 359) C dX12_sort__359 e2865 ?_
                            refine mG_goto (tgt := 437) (pc := 360) C dX12_sort__360 (by decide) ?_
                            exact mG_sub (mxLe_s (mxLe_s (mxLe_s (mxLe_s (mxLe_s (mxLe_s (mxLe_s (mxLe_n (mxLe_s (mxLe_s (mxLe_s (mxLe_s (mxLe_s (mxLe_n (mxLe_n (mxLe_n (mxLe_n (mxLe_n (mxLe_n (mxLe_n (mxLe_n mxLe_z))))))))))))))))))))) (J2781 _ (Option.some.inj e2783))
                      refine mG_icmp_ge (pc := 297) (tgt := 320) C dX12_sort__297 (by decide) (fun q2758 => ?_) (fun q2758 => ?_)
                      · rw [if_pos q2758] at e2761
                        exact mG_sub (mxLe_s (mxLe_s (mxLe_s (mxLe_s (mxLe_s (mxLe_s (mxLe_s (mxLe_n (mxLe_s (mxLe_s (mxLe_s (mxLe_s (mxLe_s (mxLe_s (mxLe_n (mxLe_n (mxLe_n (mxLe_n (mxLe_n (mxLe_n (mxLe_n mxLe_z))))))))))))))))))))) (J2759 _ (Option.some.inj e2761))
                      · rw [if_neg q2758] at e2761
                        refine mG_aload_n (pc := 300) C dX12_sort__300 rfl ?_
                        refine mG_iload (pc := 301) C dX12_sort__301 rfl ?_
                        obtain ⟨v2770, e2771, e2761⟩ := mx_bind e2761
                        refine mG_iaload (pc := 303) C dX12_sort__303 e2771 ?_
                        refine mG_is (ls' := [some (.null), some (.ref p1), some (.int (s1751.1 + 6)), some (.int p3), some (.int s1751.2.1), some (.int (s1751.2.1 - 1)), some (.int (s1751.2.1 - p3)), none, some (.int (p3 + v2648)), some (.int ((s1751.2.1 - 1) - v2648)), some (.int v2650), some (.int v2652), some (.int v2654), some (.int v2656), some (.int v2770), none, none, none, none, none, none]) (pc := 304) C dX12_sort__304 rfl rfl rfl ?_
                        refine mG_aload_n (pc := 306) C dX12_sort__306 rfl ?_
                        refine mG_iload (pc := 307) C dX12_sort__307 rfl ?_
                        refine mG_aload_n (pc := 309) C dX12_sort__309 rfl ?_
                        refine mG_iload (pc := 310) C dX12_sort__310 rfl ?_
                        obtain ⟨v2772, e2773, e2761⟩ := mx_bind e2761
                        refine mG_iaload (pc := 312) C dX12_sort__312 e2773 ?_
                        obtain ⟨h2774, e2775, e2761⟩ := mx_bind e2761
                        refine mG_iastore (pc := 313) C dX12_sort__313 e2775 ?_
                        refine mG_aload_n (pc := 314) C dX12_sort__314 rfl ?_
                        refine mG_iload (pc := 315) C dX12_sort__315 rfl ?_
                        refine mG_iload (pc := 317) C dX12_sort__317 rfl ?_
                        obtain ⟨h2776, e2777, e2761⟩ := mx_bind e2761
                        refine mG_iastore (pc := 319) C dX12_sort__319 e2777 ?_
                        exact mG_sub (mxLe_s (mxLe_s (mxLe_s (mxLe_s (mxLe_s (mxLe_s (mxLe_s (mxLe_n (mxLe_s (mxLe_s (mxLe_s (mxLe_s (mxLe_s (mxLe_s (mxLe_n (mxLe_n (mxLe_n (mxLe_n (mxLe_n (mxLe_n (mxLe_n mxLe_z))))))))))))))))))))) (J2759 _ (Option.some.inj e2761))
                    refine mG_icmp_ge (pc := 266) (tgt := 289) C dX12_sort__266 (by decide) (fun q2734 => ?_) (fun q2734 => ?_)
                    · rw [if_pos q2734] at e2737
                      exact mG_sub (mxLe_s (mxLe_s (mxLe_s (mxLe_s (mxLe_s (mxLe_s (mxLe_s (mxLe_n (mxLe_s (mxLe_s (mxLe_s (mxLe_s (mxLe_s (mxLe_s (mxLe_n (mxLe_n (mxLe_n (mxLe_n (mxLe_n (mxLe_n (mxLe_n mxLe_z))))))))))))))))))))) (J2735 _ (Option.some.inj e2737))
                    · rw [if_neg q2734] at e2737
                      refine mG_aload_n (pc := 269) C dX12_sort__269 rfl ?_
                      refine mG_iload (pc := 270) C dX12_sort__270 rfl ?_
                      obtain ⟨v2746, e2747, e2737⟩ := mx_bind e2737
                      refine mG_iaload (pc := 272) C dX12_sort__272 e2747 ?_
                      refine mG_is (ls' := [some (.null), some (.ref p1), some (.int (s1751.1 + 6)), some (.int p3), some (.int s1751.2.1), some (.int (s1751.2.1 - 1)), some (.int (s1751.2.1 - p3)), none, some (.int (p3 + v2648)), some (.int ((s1751.2.1 - 1) - v2648)), some (.int v2650), some (.int v2652), some (.int v2654), some (.int v2656), some (.int v2746), none, none, none, none, none, none]) (pc := 273) C dX12_sort__273 rfl rfl rfl ?_
                      refine mG_aload_n (pc := 275) C dX12_sort__275 rfl ?_
                      refine mG_iload (pc := 276) C dX12_sort__276 rfl ?_
                      refine mG_aload_n (pc := 278) C dX12_sort__278 rfl ?_
                      refine mG_iload (pc := 279) C dX12_sort__279 rfl ?_
                      obtain ⟨v2748, e2749, e2737⟩ := mx_bind e2737
                      refine mG_iaload (pc := 281) C dX12_sort__281 e2749 ?_
                      obtain ⟨h2750, e2751, e2737⟩ := mx_bind e2737
                      refine mG_iastore (pc := 282) C dX12_sort__282 e2751 ?_
                      refine mG_aload_n (pc := 283) C dX12_sort__283 rfl ?_
                      refine mG_iload (pc := 284) C dX12_sort__284 rfl ?_
                      refine mG_iload (pc := 286) C dX12_sort__286 rfl ?_
                      obtain ⟨h2752, e2753, e2737⟩ := mx_bind e2737
                      refine mG_iastore (pc := 288) C dX12_sort__288 e2753 ?_
                      exact mG_sub (mxLe_s (mxLe_s (mxLe_s (mxLe_s (mxLe_s (mxLe_s (mxLe_s (mxLe_n (mxLe_s (mxLe_s (mxLe_s (mxLe_s (mxLe_s (mxLe_s (mxLe_n (mxLe_n (mxLe_n (mxLe_n (mxLe_n (mxLe_n (mxLe_n mxLe_z))))))))))))))))))))) (J2735 _ (Option.some.inj e2737))
                  refine mG_icmp_ge (pc := 235) (tgt := 258) C dX12_sort__235 (by decide) (fun q2710 => ?_) (fun q2710 => ?_)
                  · rw [if_pos q2710] at e2713
                    exact mG_sub (mxLe_s (mxLe_s (mxLe_s (mxLe_s (mxLe_s (mxLe_s (mxLe_s (mxLe_n (mxLe_s (mxLe_s (mxLe_s (mxLe_s (mxLe_s (mxLe_s (mxLe_n (mxLe_n (mxLe_n (mxLe_n (mxLe_n (mxLe_n (mxLe_n mxLe_z))))))))))))))))))))) (J2711 _ (Option.some.inj e2713))
                  · rw [if_neg q2710] at e2713
                    refine mG_aload_n (pc := 238) C dX12_sort__238 rfl ?_
                    refine mG_iload (pc := 239) C dX12_sort__239 rfl ?_
                    obtain ⟨v2722, e2723, e2713⟩ := mx_bind e2713
                    refine mG_iaload (pc := 241) C dX12_sort__241 e2723 ?_
                    refine mG_is (ls' := [some (.null), some (.ref p1), some (.int (s1751.1 + 6)), some (.int p3), some (.int s1751.2.1), some (.int (s1751.2.1 - 1)), some (.int (s1751.2.1 - p3)), none, some (.int (p3 + v2648)), some (.int ((s1751.2.1 - 1) - v2648)), some (.int v2650), some (.int v2652), some (.int v2654), some (.int v2656), some (.int v2722), none, none, none, none, none, none]) (pc := 242) C dX12_sort__242 rfl rfl rfl ?_
                    refine mG_aload_n (pc := 244) C dX12_sort__244 rfl ?_
                    refine mG_iload (pc := 245) C dX12_sort__245 rfl ?_
                    refine mG_aload_n (pc := 247) C dX12_sort__247 rfl ?_
                    refine mG_iload (pc := 248) C dX12_sort__248 rfl ?_
                    obtain ⟨v2724, e2725, e2713⟩ := mx_bind e2713
                    refine mG_iaload (pc := 250) C dX12_sort__250 e2725 ?_
                    obtain ⟨h2726, e2727, e2713⟩ := mx_bind e2713
                    refine mG_iastore (pc := 251) C dX12_sort__251 e2727 ?_
                    refine mG_aload_n (pc := 252) C dX12_sort__252 rfl ?_
                    refine mG_iload (pc := 253) C dX12_sort__253 rfl ?_
                    refine mG_iload (pc := 255) C dX12_sort__255 rfl ?_
                    obtain ⟨h2728, e2729, e2713⟩ := mx_bind e2713
                    refine mG_iastore (pc := 257) C dX12_sort__257 e2729 ?_
                    exact mG_sub (mxLe_s (mxLe_s (mxLe_s (mxLe_s (mxLe_s (mxLe_s (mxLe_s (mxLe_n (mxLe_s (mxLe_s (mxLe_s (mxLe_s (mxLe_s (mxLe_s (mxLe_n (mxLe_n (mxLe_n (mxLe_n (mxLe_n (mxLe_n (mxLe_n mxLe_z))))))))))))))))))))) (J2711 _ (Option.some.inj e2713))
                refine mG_icmp_ge (pc := 204) (tgt := 227) C dX12_sort__204 (by decide) (fun q2686 => ?_) (fun q2686 => ?_)
                · rw [if_pos q2686] at e2689
                  exact mG_sub (mxLe_s (mxLe_s (mxLe_s (mxLe_s (mxLe_s (mxLe_s (mxLe_s (mxLe_n (mxLe_s (mxLe_s (mxLe_s (mxLe_s (mxLe_s (mxLe_s (mxLe_n (mxLe_n (mxLe_n (mxLe_n (mxLe_n (mxLe_n (mxLe_n mxLe_z))))))))))))))))))))) (J2687 _ (Option.some.inj e2689))
                · rw [if_neg q2686] at e2689
                  refine mG_aload_n (pc := 207) C dX12_sort__207 rfl ?_
                  refine mG_iload (pc := 208) C dX12_sort__208 rfl ?_
                  obtain ⟨v2698, e2699, e2689⟩ := mx_bind e2689
                  refine mG_iaload (pc := 210) C dX12_sort__210 e2699 ?_
                  refine mG_is (ls' := [some (.null), some (.ref p1), some (.int (s1751.1 + 6)), some (.int p3), some (.int s1751.2.1), some (.int (s1751.2.1 - 1)), some (.int (s1751.2.1 - p3)), none, some (.int (p3 + v2648)), some (.int ((s1751.2.1 - 1) - v2648)), some (.int v2650), some (.int v2652), some (.int v2654), some (.int v2656), some (.int v2698), none, none, none, none, none, none]) (pc := 211) C dX12_sort__211 rfl rfl rfl ?_
                  refine mG_aload_n (pc := 213) C dX12_sort__213 rfl ?_
                  refine mG_iload (pc := 214) C dX12_sort__214 rfl ?_
                  refine mG_aload_n (pc := 216) C dX12_sort__216 rfl ?_
                  refine mG_iload (pc := 217) C dX12_sort__217 rfl ?_
                  obtain ⟨v2700, e2701, e2689⟩ := mx_bind e2689
                  refine mG_iaload (pc := 219) C dX12_sort__219 e2701 ?_
                  obtain ⟨h2702, e2703, e2689⟩ := mx_bind e2689
                  refine mG_iastore (pc := 220) C dX12_sort__220 e2703 ?_
                  refine mG_aload_n (pc := 221) C dX12_sort__221 rfl ?_
                  refine mG_iload (pc := 222) C dX12_sort__222 rfl ?_
                  refine mG_iload (pc := 224) C dX12_sort__224 rfl ?_
                  obtain ⟨h2704, e2705, e2689⟩ := mx_bind e2689
                  refine mG_iastore (pc := 226) C dX12_sort__226 e2705 ?_
                  exact mG_sub (mxLe_s (mxLe_s (mxLe_s (mxLe_s (mxLe_s (mxLe_s (mxLe_s (mxLe_n (mxLe_s (mxLe_s (mxLe_s (mxLe_s (mxLe_s (mxLe_s (mxLe_n (mxLe_n (mxLe_n (mxLe_n (mxLe_n (mxLe_n (mxLe_n mxLe_z))))))))))))))))))))) (J2687 _ (Option.some.inj e2689))
              refine mG_icmp_ge (pc := 173) (tgt := 196) C dX12_sort__173 (by decide) (fun q2662 => ?_) (fun q2662 => ?_)
              · rw [if_pos q2662] at e2665
                exact mG_sub (mxLe_s (mxLe_s (mxLe_s (mxLe_s (mxLe_s (mxLe_s (mxLe_s (mxLe_n (mxLe_s (mxLe_s (mxLe_s (mxLe_s (mxLe_s (mxLe_s (mxLe_n (mxLe_n (mxLe_n (mxLe_n (mxLe_n (mxLe_n (mxLe_n mxLe_z))))))))))))))))))))) (J2663 _ (Option.some.inj e2665))
              · rw [if_neg q2662] at e2665
                refine mG_aload_n (pc := 176) C dX12_sort__176 rfl ?_
                refine mG_iload (pc := 177) C dX12_sort__177 rfl ?_
                obtain ⟨v2674, e2675, e2665⟩ := mx_bind e2665
                refine mG_iaload (pc := 179) C dX12_sort__179 e2675 ?_
                refine mG_is (ls' := [some (.null), some (.ref p1), some (.int (s1751.1 + 6)), some (.int p3), some (.int s1751.2.1), some (.int (s1751.2.1 - 1)), some (.int (s1751.2.1 - p3)), some (.int v2648), some (.int (p3 + v2648)), some (.int ((s1751.2.1 - 1) - v2648)), some (.int v2650), some (.int v2652), some (.int v2654), some (.int v2656), some (.int v2674), none, none, none, none, none, none]) (pc := 180) C dX12_sort__180 rfl rfl rfl ?_
                refine mG_aload_n (pc := 182) C dX12_sort__182 rfl ?_
                refine mG_iload (pc := 183) C dX12_sort__183 rfl ?_
                refine mG_aload_n (pc := 185) C dX12_sort__185 rfl ?_
                refine mG_iload (pc := 186) C dX12_sort__186 rfl ?_
                obtain ⟨v2676, e2677, e2665⟩ := mx_bind e2665
                refine mG_iaload (pc := 188) C dX12_sort__188 e2677 ?_
                obtain ⟨h2678, e2679, e2665⟩ := mx_bind e2665
                refine mG_iastore (pc := 189) C dX12_sort__189 e2679 ?_
                refine mG_aload_n (pc := 190) C dX12_sort__190 rfl ?_
                refine mG_iload (pc := 191) C dX12_sort__191 rfl ?_
                refine mG_iload (pc := 193) C dX12_sort__193 rfl ?_
                obtain ⟨h2680, e2681, e2665⟩ := mx_bind e2665
                refine mG_iastore (pc := 195) C dX12_sort__195 e2681 ?_
                exact mG_sub (mxLe_s (mxLe_s (mxLe_s (mxLe_s (mxLe_s (mxLe_s (mxLe_s (mxLe_n (mxLe_s (mxLe_s (mxLe_s (mxLe_s (mxLe_s (mxLe_s (mxLe_n (mxLe_n (mxLe_n (mxLe_n (mxLe_n (mxLe_n (mxLe_n mxLe_z))))))))))))))))))))) (J2663 _ (Option.some.inj e2665))
            · rw [if_neg q2647] at e1767
              exact mG_wd (by omega) (by omega) (mG_sub (mxLe_n (mxLe_s (mxLe_n (mxLe_n (mxLe_n (mxLe_n (mxLe_n (mxLe_n (mxLe_n (mxLe_n (mxLe_n (mxLe_n (mxLe_n (mxLe_n (mxLe_n (mxLe_n (mxLe_n (mxLe_n (mxLe_n (mxLe_n (mxLe_n mxLe_z))))))))))))))))))))) (J1759 _ (hx1763 _ (Option.some.inj e1767).symm)))
          · rw [if_neg q2646] at e1767
            exact mG_wd (by omega) (by omega) (mG_sub (mxLe_n (mxLe_n (mxLe_n (mxLe_n (mxLe_n (mxLe_n (mxLe_n (mxLe_n (mxLe_n (mxLe_n (mxLe_n (mxLe_n (mxLe_n (mxLe_n (mxLe_n (mxLe_n (mxLe_n (mxLe_n (mxLe_n (mxLe_n (mxLe_n mxLe_z))))))))))))))))))))) (J1758 _ (hx1763 _ (Option.some.inj e1767).symm)))
        · rw [if_neg q2643] at e1767
          refine mG_iload (pc := 65) C dX12_sort__65 rfl ?_
          refine mG_sp (pc := 67) C dX12_sort__67 kS4096 ?_
          refine mG_icmp_le (pc := 70) (tgt := 91) C dX12_sort__70 (by decide) (fun q3079 => ?_) (fun q3079 => ?_)
          · rw [if_pos q3079] at e1767
            refine mG_ii (ls' := [some (.null), some (.ref p1), some (.int (s1751.1 + 6)), some (.int p3), some (.int s1751.2.1), some (.int (s1751.2.1 - 1)), some (.int (s1751.2.1 - p3)), none, none, none, none, none, none, none, none, none, none, none, none, none, none]) (pc := 91) C dX12_sort__91 rfl (kinc6 _) rfl rfl rfl ?_
            refine mG_iload_n (pc := 94) C dX12_sort__94 rfl ?_
            refine mG_sp (pc := 95) C dX12_sort__95 kS384 ?_
            refine mG_icmp_le (pc := 98) (tgt := 109) C dX12_sort__98 (by decide) (fun q3080 => ?_) (fun q3080 => ?_)
            · rw [if_pos q3080] at e1767
              refine mG_iload (pc := 109) C dX12_sort__109 rfl ?_
              refine mG_ic (pc := 111) C dX12_sort__111 kI3 ?_
              refine mG_ishr (pc := 112) C dX12_sort__112 ?_
              refine mG_ic (pc := 113) C dX12_sort__113 kI3 ?_
              refine mG_imul (pc := 114) C dX12_sort__114 ?_
              refine mG_ic (pc := 115) C dX12_sort__115 kI3 ?_
              refine mG_iadd (pc := 116) C dX12_sort__116 ?_
              obtain ⟨v3081, e3082, e1767⟩ := mx_bind e1767
              refine mG_isv (ls' := [some (.null), some (.ref p1), some (.int (s1751.1 + 6)), some (.int p3), some (.int s1751.2.1), some (.int (s1751.2.1 - 1)), some (.int (s1751.2.1 - p3)), some (.int v3081), none, none, none, none, none, none, none, none, none, none, none, none, none]) (pc := 117) C dX12_sort__117 e3082 rfl rfl rfl ?_
              refine mG_iload_n (pc := 119) C dX12_sort__119 rfl ?_
              refine mG_iload (pc := 120) C dX12_sort__120 rfl ?_
              refine mG_iadd (pc := 122) C dX12_sort__122 ?_
              refine mG_is (ls' := [some (.null), some (.ref p1), some (.int (s1751.1 + 6)), some (.int p3), some (.int s1751.2.1), some (.int (s1751.2.1 - 1)), some (.int (s1751.2.1 - p3)), some (.int v3081), some (.int (p3 + v3081)), none, none, none, none, none, none, none, none, none, none, none, none]) (pc := 123) C dX12_sort__123 rfl rfl rfl ?_
              refine mG_iload (pc := 125) C dX12_sort__125 rfl ?_
              refine mG_iload (pc := 127) C dX12_sort__127 rfl ?_
              refine mG_isub (pc := 129) C dX12_sort__129 ?_
              refine mG_is (ls' := [some (.null), some (.ref p1), some (.int (s1751.1 + 6)), some (.int p3), some (.int s1751.2.1), some (.int (s1751.2.1 - 1)), some (.int (s1751.2.1 - p3)), some (.int v3081), some (.int (p3 + v3081)), some (.int ((s1751.2.1 - 1) - v3081)), none, none, none, none, none, none, none, none, none, none, none]) (pc := 130) C dX12_sort__130 rfl rfl rfl ?_
              refine mG_iload (pc := 132) C dX12_sort__132 rfl ?_
              refine mG_iload (pc := 134) C dX12_sort__134 rfl ?_
              refine mG_iadd (pc := 136) C dX12_sort__136 ?_
              refine mG_ic (pc := 137) C dX12_sort__137 kI1 ?_
              refine mG_iushr (pc := 138) C dX12_sort__138 ?_
              obtain ⟨v3083, e3084, e1767⟩ := mx_bind e1767
              refine mG_isv (ls' := [some (.null), some (.ref p1), some (.int (s1751.1 + 6)), some (.int p3), some (.int s1751.2.1), some (.int (s1751.2.1 - 1)), some (.int (s1751.2.1 - p3)), some (.int v3081), some (.int (p3 + v3081)), some (.int ((s1751.2.1 - 1) - v3081)), some (.int v3083), none, none, none, none, none, none, none, none, none, none]) (pc := 139) C dX12_sort__139 e3084 rfl rfl rfl ?_
              refine mG_iload (pc := 141) C dX12_sort__141 rfl ?_
              refine mG_iload (pc := 143) C dX12_sort__143 rfl ?_
              refine mG_iadd (pc := 145) C dX12_sort__145 ?_
              refine mG_ic (pc := 146) C dX12_sort__146 kI1 ?_
              refine mG_iushr (pc := 147) C dX12_sort__147 ?_
              obtain ⟨v3085, e3086, e1767⟩ := mx_bind e1767
              refine mG_isv (ls' := [some (.null), some (.ref p1), some (.int (s1751.1 + 6)), some (.int p3), some (.int s1751.2.1), some (.int (s1751.2.1 - 1)), some (.int (s1751.2.1 - p3)), some (.int v3081), some (.int (p3 + v3081)), some (.int ((s1751.2.1 - 1) - v3081)), some (.int v3083), some (.int v3085), none, none, none, none, none, none, none, none, none]) (pc := 148) C dX12_sort__148 e3086 rfl rfl rfl ?_
              refine mG_iload (pc := 150) C dX12_sort__150 rfl ?_
              refine mG_iload (pc := 152) C dX12_sort__152 rfl ?_
              refine mG_iadd (pc := 154) C dX12_sort__154 ?_
              refine mG_ic (pc := 155) C dX12_sort__155 kI1 ?_
              refine mG_iushr (pc := 156) C dX12_sort__156 ?_
              obtain ⟨v3087, e3088, e1767⟩ := mx_bind e1767
              refine mG_isv (ls' := [some (.null), some (.ref p1), some (.int (s1751.1 + 6)), some (.int p3), some (.int s1751.2.1), some (.int (s1751.2.1 - 1)), some (.int (s1751.2.1 - p3)), some (.int v3081), some (.int (p3 + v3081)), some (.int ((s1751.2.1 - 1) - v3081)), some (.int v3083), some (.int v3085), some (.int v3087), none, none, none, none, none, none, none, none]) (pc := 157) C dX12_sort__157 e3088 rfl rfl rfl ?_
              refine mG_aload_n (pc := 159) C dX12_sort__159 rfl ?_
              refine mG_iload (pc := 160) C dX12_sort__160 rfl ?_
              obtain ⟨v3089, e3090, e1767⟩ := mx_bind e1767
              refine mG_iaload (pc := 162) C dX12_sort__162 e3090 ?_
              refine mG_is (ls' := [some (.null), some (.ref p1), some (.int (s1751.1 + 6)), some (.int p3), some (.int s1751.2.1), some (.int (s1751.2.1 - 1)), some (.int (s1751.2.1 - p3)), some (.int v3081), some (.int (p3 + v3081)), some (.int ((s1751.2.1 - 1) - v3081)), some (.int v3083), some (.int v3085), some (.int v3087), some (.int v3089), none, none, none, none, none, none, none]) (pc := 163) C dX12_sort__163 rfl rfl rfl ?_
              refine mG_aload_n (pc := 165) C dX12_sort__165 rfl ?_
              refine mG_iload (pc := 166) C dX12_sort__166 rfl ?_
              obtain ⟨v3091, e3092, e1767⟩ := mx_bind e1767
              refine mG_iaload (pc := 168) C dX12_sort__168 e3092 ?_
              refine mG_aload_n (pc := 169) C dX12_sort__169 rfl ?_
              refine mG_iload (pc := 170) C dX12_sort__170 rfl ?_
              obtain ⟨v3093, e3094, e1767⟩ := mx_bind e1767
              refine mG_iaload (pc := 172) C dX12_sort__172 e3094 ?_
              obtain ⟨jp3097, e3098, e1767⟩ := mx_bind e1767
              have J3096 : ∀ jp3097' : mxH, jp3097' = jp3097 → mG l Z X 21 k1752 n1753 196 [some (.null), some (.ref p1), some (.int (s1751.1 + 6)), some (.int p3), some (.int s1751.2.1), some (.int (s1751.2.1 - 1)), some (.int (s1751.2.1 - p3)), none, some (.int (p3 + v3081)), some (.int ((s1751.2.1 - 1) - v3081)), some (.int v3083), some (.int v3085), some (.int v3087), some (.int v3089), none, none, none, none, none, none, none] [] jp3097' := by
                intro jp3097' q3511
                subst q3511
                refine mG_aload_n (pc := 196) C dX12_sort__196 rfl ?_
                refine mG_iload (pc := 197) C dX12_sort__197 rfl ?_
                obtain ⟨v3115, e3116, e1767⟩ := mx_bind e1767
                refine mG_iaload (pc := 199) C dX12_sort__199 e3116 ?_
                refine mG_aload_n (pc := 200) C dX12_sort__200 rfl ?_
                refine mG_iload (pc := 201) C dX12_sort__201 rfl ?_
                obtain ⟨v3117, e3118, e1767⟩ := mx_bind e1767
                refine mG_iaload (pc := 203) C dX12_sort__203 e3118 ?_
                obtain ⟨jp3121, e3122, e1767⟩ := mx_bind e1767
                have J3120 : ∀ jp3121' : mxH, jp3121' = jp3121 → mG l Z X 21 k1752 n1753 227 [some (.null), some (.ref p1), some (.int (s1751.1 + 6)), some (.int p3), some (.int s1751.2.1), some (.int (s1751.2.1 - 1)), some (.int (s1751.2.1 - p3)), none, some (.int (p3 + v3081)), some (.int ((s1751.2.1 - 1) - v3081)), some (.int v3083), some (.int v3085), some (.int v3087), some (.int v3089), none, none, none, none, none, none, none] [] jp3121' := by
                  intro jp3121' q3510
                  subst q3510
                  refine mG_aload_n (pc := 227) C dX12_sort__227 rfl ?_
                  refine mG_iload (pc := 228) C dX12_sort__228 rfl ?_
                  obtain ⟨v3139, e3140, e1767⟩ := mx_bind e1767
                  refine mG_iaload (pc := 230) C dX12_sort__230 e3140 ?_
                  refine mG_aload_n (pc := 231) C dX12_sort__231 rfl ?_
                  refine mG_iload (pc := 232) C dX12_sort__232 rfl ?_
                  obtain ⟨v3141, e3142, e1767⟩ := mx_bind e1767
                  refine mG_iaload (pc := 234) C dX12_sort__234 e3142 ?_
                  obtain ⟨jp3145, e3146, e1767⟩ := mx_bind e1767
                  have J3144 : ∀ jp3145' : mxH, jp3145' = jp3145 → mG l Z X 21 k1752 n1753 258 [some (.null), some (.ref p1), some (.int (s1751.1 + 6)), some (.int p3), some (.int s1751.2.1), some (.int (s1751.2.1 - 1)), some (.int (s1751.2.1 - p3)), none, some (.int (p3 + v3081)), some (.int ((s1751.2.1 - 1) - v3081)), some (.int v3083), some (.int v3085), some (.int v3087), some (.int v3089), none, none, none, none, none, none, none] [] jp3145' := by
                    intro jp3145' q3509
                    subst q3509
                    refine mG_aload_n (pc := 258) C dX12_sort__258 rfl ?_
                    refine mG_iload (pc := 259) C dX12_sort__259 rfl ?_
                    obtain ⟨v3163, e3164, e1767⟩ := mx_bind e1767
                    refine mG_iaload (pc := 261) C dX12_sort__261 e3164 ?_
                    refine mG_aload_n (pc := 262) C dX12_sort__262 rfl ?_
                    refine mG_iload (pc := 263) C dX12_sort__263 rfl ?_
                    obtain ⟨v3165, e3166, e1767⟩ := mx_bind e1767
                    refine mG_iaload (pc := 265) C dX12_sort__265 e3166 ?_
                    obtain ⟨jp3169, e3170, e1767⟩ := mx_bind e1767
                    have J3168 : ∀ jp3169' : mxH, jp3169' = jp3169 → mG l Z X 21 k1752 n1753 289 [some (.null), some (.ref p1), some (.int (s1751.1 + 6)), some (.int p3), some (.int s1751.2.1), some (.int (s1751.2.1 - 1)), some (.int (s1751.2.1 - p3)), none, some (.int (p3 + v3081)), some (.int ((s1751.2.1 - 1) - v3081)), some (.int v3083), some (.int v3085), some (.int v3087), some (.int v3089), none, none, none, none, none, none, none] [] jp3169' := by
                      intro jp3169' q3508
                      subst q3508
                      refine mG_aload_n (pc := 289) C dX12_sort__289 rfl ?_
                      refine mG_iload (pc := 290) C dX12_sort__290 rfl ?_
                      obtain ⟨v3187, e3188, e1767⟩ := mx_bind e1767
                      refine mG_iaload (pc := 292) C dX12_sort__292 e3188 ?_
                      refine mG_aload_n (pc := 293) C dX12_sort__293 rfl ?_
                      refine mG_iload (pc := 294) C dX12_sort__294 rfl ?_
                      obtain ⟨v3189, e3190, e1767⟩ := mx_bind e1767
                      refine mG_iaload (pc := 296) C dX12_sort__296 e3190 ?_
                      obtain ⟨jp3193, e3194, e1767⟩ := mx_bind e1767
                      have J3192 : ∀ jp3193' : mxH, jp3193' = jp3193 → mG l Z X 21 k1752 n1753 320 [some (.null), some (.ref p1), some (.int (s1751.1 + 6)), some (.int p3), some (.int s1751.2.1), some (.int (s1751.2.1 - 1)), some (.int (s1751.2.1 - p3)), none, some (.int (p3 + v3081)), some (.int ((s1751.2.1 - 1) - v3081)), some (.int v3083), some (.int v3085), some (.int v3087), some (.int v3089), none, none, none, none, none, none, none] [] jp3193' := by
                        intro jp3193' q3507
                        subst q3507
                        refine mG_iload (pc := 320) C dX12_sort__320 rfl ?_
                        refine mG_aload_n (pc := 322) C dX12_sort__322 rfl ?_
                        refine mG_iload (pc := 323) C dX12_sort__323 rfl ?_
                        obtain ⟨v3211, e3212, e1767⟩ := mx_bind e1767
                        refine mG_iaload (pc := 325) C dX12_sort__325 e3212 ?_
                        obtain ⟨jp3215, e3216, e1767⟩ := mx_bind e1767
                        have J3214 : ∀ jp3215' : mxH, jp3215' = jp3215 → mG l Z X 21 k1752 n1753 437 [some (.null), some (.ref p1), some (.int (s1751.1 + 6)), some (.int p3), some (.int s1751.2.1), some (.int (s1751.2.1 - 1)), some (.int (s1751.2.1 - p3)), none, some (.int (p3 + v3081)), some (.int ((s1751.2.1 - 1) - v3081)), some (.int v3083), some (.int v3085), some (.int v3087), none, none, none, none, none, none, none, none] [] jp3215' := by
                          intro jp3215' q3506
                          subst q3506
                          refine mG_iload_n (pc := 437) C dX12_sort__437 rfl ?_
                          refine mG_is (ls' := [some (.null), some (.ref p1), some (.int (s1751.1 + 6)), some (.int p3), some (.int s1751.2.1), some (.int (s1751.2.1 - 1)), some (.int (s1751.2.1 - p3)), none, some (.int (p3 + v3081)), some (.int ((s1751.2.1 - 1) - v3081)), some (.int v3083), some (.int v3085), some (.int v3087), none, some (.int p3), none, none, none, none, none, none]) (pc := 438) C dX12_sort__438 rfl rfl rfl ?_
                          refine mG_iload (pc := 440) C dX12_sort__440 rfl ?_
                          refine mG_is (ls' := [some (.null), some (.ref p1), some (.int (s1751.1 + 6)), some (.int p3), some (.int s1751.2.1), some (.int (s1751.2.1 - 1)), some (.int (s1751.2.1 - p3)), none, some (.int (p3 + v3081)), some (.int ((s1751.2.1 - 1) - v3081)), some (.int v3083), some (.int v3085), some (.int v3087), none, some (.int p3), some (.int (s1751.2.1 - 1)), none, none, none, none, none]) (pc := 442) C dX12_sort__442 rfl rfl rfl ?_
                          refine mG_aload_n (pc := 444) C dX12_sort__444 rfl ?_
                          refine mG_iload (pc := 445) C dX12_sort__445 rfl ?_
                          obtain ⟨v3299, e3300, e1767⟩ := mx_bind e1767
                          refine mG_iaload (pc := 447) C dX12_sort__447 e3300 ?_
                          refine mG_aload_n (pc := 448) C dX12_sort__448 rfl ?_
                          refine mG_iload (pc := 449) C dX12_sort__449 rfl ?_
                          obtain ⟨v3301, e3302, e1767⟩ := mx_bind e1767
                          refine mG_iaload (pc := 451) C dX12_sort__451 e3302 ?_
                          refine mG_icmp_ge (pc := 452) (tgt := 776) C dX12_sort__452 (by decide) (fun q3303 => ?_) (fun q3303 => ?_)
                          · rw [if_pos q3303] at e1767
                            exact mG_wd (by omega) (by omega) (mG_sub (mxLe_n (mxLe_s (mxLe_n (mxLe_n (mxLe_n (mxLe_n (mxLe_n (mxLe_n (mxLe_n (mxLe_n (mxLe_n (mxLe_n (mxLe_n (mxLe_n (mxLe_n (mxLe_n (mxLe_n (mxLe_n (mxLe_n (mxLe_n (mxLe_n mxLe_z))))))))))))))))))))) (J1761 _ (hx1763 _ (Option.some.inj e1767).symm)))
                          · rw [if_neg q3303] at e1767
                            refine mG_aload_n (pc := 455) C dX12_sort__455 rfl ?_
                            refine mG_iload (pc := 456) C dX12_sort__456 rfl ?_
                            obtain ⟨v3304, e3305, e1767⟩ := mx_bind e1767
                            refine mG_iaload (pc := 458) C dX12_sort__458 e3305 ?_
                            refine mG_aload_n (pc := 459) C dX12_sort__459 rfl ?_
                            refine mG_iload (pc := 460) C dX12_sort__460 rfl ?_
                            obtain ⟨v3306, e3307, e1767⟩ := mx_bind e1767
                            refine mG_iaload (pc := 462) C dX12_sort__462 e3307 ?_
                            refine mG_icmp_ge (pc := 463) (tgt := 776) C dX12_sort__463 (by decide) (fun q3308 => ?_) (fun q3308 => ?_)
                            · rw [if_pos q3308] at e1767
                              exact mG_wd (by omega) (by omega) (mG_sub (mxLe_n (mxLe_s (mxLe_n (mxLe_n (mxLe_n (mxLe_n (mxLe_n (mxLe_n (mxLe_n (mxLe_n (mxLe_n (mxLe_n (mxLe_n (mxLe_n (mxLe_n (mxLe_n (mxLe_n (mxLe_n (mxLe_n (mxLe_n (mxLe_n mxLe_z))))))))))))))))))))) (J1761 _ (hx1763 _ (Option.some.inj e1767).symm)))
                            · rw [if_neg q3308] at e1767
                              refine mG_aload_n (pc := 466) C dX12_sort__466 rfl ?_
                              refine mG_iload (pc := 467) C dX12_sort__467 rfl ?_
                              obtain ⟨v3309, e3310, e1767⟩ := mx_bind e1767
                              refine mG_iaload (pc := 469) C dX12_sort__469 e3310 ?_
                              refine mG_aload_n (pc := 470) C dX12_sort__470 rfl ?_
                              refine mG_iload (pc := 471) C dX12_sort__471 rfl ?_
                              obtain ⟨v3311, e3312, e1767⟩ := mx_bind e1767
                              refine mG_iaload (pc := 473) C dX12_sort__473 e3312 ?_
                              refine mG_icmp_ge (pc := 474) (tgt := 776) C dX12_sort__474 (by decide) (fun q3313 => ?_) (fun q3313 => ?_)
                              · rw [if_pos q3313] at e1767
                                exact mG_wd (by omega) (by omega) (mG_sub (mxLe_n (mxLe_s (mxLe_n (mxLe_n (mxLe_n (mxLe_n (mxLe_n (mxLe_n (mxLe_n (mxLe_n (mxLe_n (mxLe_n (mxLe_n (mxLe_n (mxLe_n (mxLe_n (mxLe_n (mxLe_n (mxLe_n (mxLe_n (mxLe_n mxLe_z))))))))))))))))))))) (J1761 _ (hx1763 _ (Option.some.inj e1767).symm)))
                              · rw [if_neg q3313] at e1767
                                refine mG_aload_n (pc := 477) C dX12_sort__477 rfl ?_
                                refine mG_iload (pc := 478) C dX12_sort__478 rfl ?_
                                obtain ⟨v3314, e3315, e1767⟩ := mx_bind e1767
                                refine mG_iaload (pc := 480) C dX12_sort__480 e3315 ?_
                                refine mG_aload_n (pc := 481) C dX12_sort__481 rfl ?_
                                refine mG_iload (pc := 482) C dX12_sort__482 rfl ?_
                                obtain ⟨v3316, e3317, e1767⟩ := mx_bind e1767
                                refine mG_iaload (pc := 484) C dX12_sort__484 e3317 ?_
                                refine mG_icmp_ge (pc := 485) (tgt := 776) C dX12_sort__485 (by decide) (fun q3318 => ?_) (fun q3318 => ?_)
                                · rw [if_pos q3318] at e1767
                                  exact mG_wd (by omega) (by omega) (mG_sub (mxLe_n (mxLe_s (mxLe_n (mxLe_n (mxLe_n (mxLe_n (mxLe_n (mxLe_n (mxLe_n (mxLe_n (mxLe_n (mxLe_n (mxLe_n (mxLe_n (mxLe_n (mxLe_n (mxLe_n (mxLe_n (mxLe_n (mxLe_n (mxLe_n mxLe_z))))))))))))))))))))) (J1761 _ (hx1763 _ (Option.some.inj e1767).symm)))
                                · rw [if_neg q3318] at e1767
                                  refine mG_aload_n (pc := 488) C dX12_sort__488 rfl ?_
                                  refine mG_iload (pc := 489) C dX12_sort__489 rfl ?_
                                  obtain ⟨v3319, e3320, e1767⟩ := mx_bind e1767
                                  refine mG_iaload (pc := 491) C dX12_sort__491 e3320 ?_
                                  refine mG_is (ls' := [some (.null), some (.ref p1), some (.int (s1751.1 + 6)), some (.int p3), some (.int s1751.2.1), some (.int (s1751.2.1 - 1)), some (.int (s1751.2.1 - p3)), none, some (.int (p3 + v3081)), some (.int ((s1751.2.1 - 1) - v3081)), some (.int v3083), some (.int v3085), some (.int v3087), none, some (.int p3), some (.int (s1751.2.1 - 1)), some (.int v3319), none, none, none, none]) (pc := 492) C dX12_sort__492 rfl rfl rfl ?_
                                  refine mG_aload_n (pc := 494) C dX12_sort__494 rfl ?_
                                  refine mG_iload (pc := 495) C dX12_sort__495 rfl ?_
                                  obtain ⟨v3321, e3322, e1767⟩ := mx_bind e1767
                                  refine mG_iaload (pc := 497) C dX12_sort__497 e3322 ?_
                                  refine mG_is (ls' := [some (.null), some (.ref p1), some (.int (s1751.1 + 6)), some (.int p3), some (.int s1751.2.1), some (.int (s1751.2.1 - 1)), some (.int (s1751.2.1 - p3)), none, some (.int (p3 + v3081)), some (.int ((s1751.2.1 - 1) - v3081)), some (.int v3083), some (.int v3085), some (.int v3087), none, some (.int p3), some (.int (s1751.2.1 - 1)), some (.int v3319), some (.int v3321), none, none, none]) (pc := 498) C dX12_sort__498 rfl rfl rfl ?_
                                  refine mG_aload_n (pc := 500) C dX12_sort__500 rfl ?_
                                  refine mG_iload (pc := 501) C dX12_sort__501 rfl ?_
                                  refine mG_aload_n (pc := 503) C dX12_sort__503 rfl ?_
                                  refine mG_iload (pc := 504) C dX12_sort__504 rfl ?_
                                  obtain ⟨v3323, e3324, e1767⟩ := mx_bind e1767
                                  refine mG_iaload (pc := 506) C dX12_sort__506 e3324 ?_
                                  obtain ⟨h3325, e3326, e1767⟩ := mx_bind e1767
                                  refine mG_iastore (pc := 507) C dX12_sort__507 e3326 ?_
                                  refine mG_aload_n (pc := 508) C dX12_sort__508 rfl ?_
                                  refine mG_iload (pc := 509) C dX12_sort__509 rfl ?_
                                  refine mG_aload_n (pc := 511) C dX12_sort__511 rfl ?_
                                  refine mG_iload (pc := 512) C dX12_sort__512 rfl ?_
                                  obtain ⟨v3327, e3328, e1767⟩ := mx_bind e1767
                                  refine mG_iaload (pc := 514) C dX12_sort__514 e3328 ?_
                                  obtain ⟨h3329, e3330, e1767⟩ := mx_bind e1767
                                  refine mG_iastore (pc := 515) C dX12_sort__515 e3330 ?_
                                  obtain ⟨r3332, e3333, e1767⟩ := mx_bind e1767
                                  have J3334 : ∀ r3342 : Int32, r3342 = r3332 → mG l Z X 21 k1752 n1753 531 [some (.null), some (.ref p1), some (.int (s1751.1 + 6)), some (.int p3), some (.int s1751.2.1), some (.int (s1751.2.1 - 1)), some (.int (s1751.2.1 - p3)), none, none, none, none, none, none, none, some (.int r3342), some (.int (s1751.2.1 - 1)), some (.int v3319), some (.int v3321), none, none, none] [] h3329 := by
                                    intro r3342 q3505
                                    subst q3505
                                    obtain ⟨r3344, e3345, e1767⟩ := mx_bind e1767
                                    have J3346 : ∀ r3354 : Int32, r3354 = r3344 → mG l Z X 21 k1752 n1753 546 [some (.null), some (.ref p1), some (.int (s1751.1 + 6)), some (.int p3), some (.int s1751.2.1), some (.int (s1751.2.1 - 1)), some (.int (s1751.2.1 - p3)), none, none, none, none, none, none, none, some (.int r3342), some (.int r3354), some (.int v3319), some (.int v3321), none, none, none] [] h3329 := by
                                      intro r3354 q3504
                                      subst q3504
                                      refine mG_ii (ls' := [some (.null), some (.ref p1), some (.int (s1751.1 + 6)), some (.int p3), some (.int s1751.2.1), some (.int (s1751.2.1 - 1)), some (.int (s1751.2.1 - p3)), none, none, none, none, none, none, none, some (.int (r3342 - 1)), some (.int r3354), some (.int v3319), some (.int v3321), none, none, none]) (pc := 546) C dX12_sort__546 rfl (kincm1 _) rfl rfl rfl ?_
                                      refine mG_iload (pc := 549) C dX12_sort__549 rfl ?_
                                      refine mG_is (ls' := [some (.null), some (.ref p1), some (.int (s1751.1 + 6)), some (.int p3), some (.int s1751.2.1), some (.int (s1751.2.1 - 1)), some (.int (s1751.2.1 - p3)), none, none, none, none, none, none, none, some (.int (r3342 - 1)), some (.int r3354), some (.int v3319), some (.int v3321), some (.int (r3342 - 1)), none, none]) (pc := 551) C dX12_sort__551 rfl rfl rfl ?_
                                      refine mG_ii (ls' := [some (.null), some (.ref p1), some (.int (s1751.1 + 6)), some (.int p3), some (.int s1751.2.1), some (.int (s1751.2.1 - 1)), some (.int (s1751.2.1 - p3)), none, none, none, none, none, none, none, some (.int (r3342 - 1)), some (.int (r3354 + 1)), some (.int v3319), some (.int v3321), some (.int (r3342 - 1)), none, none]) (pc := 553) C dX12_sort__553 rfl (kinc1 _) rfl rfl rfl ?_
                                      refine mG_iload (pc := 556) C dX12_sort__556 rfl ?_
                                      refine mG_is (ls' := [some (.null), some (.ref p1), some (.int (s1751.1 + 6)), some (.int p3), some (.int s1751.2.1), some (.int (s1751.2.1 - 1)), some (.int (s1751.2.1 - p3)), none, none, none, none, none, none, none, some (.int (r3342 - 1)), some (.int (r3354 + 1)), some (.int v3319), some (.int v3321), some (.int (r3342 - 1)), some (.int (r3354 + 1)), none]) (pc := 558) C dX12_sort__558 rfl rfl rfl ?_
                                      obtain ⟨r3356, e3357, e1767⟩ := mx_bind e1767
                                      have J3358 : ∀ r3485 : (Int32 × Int32 × mxH), r3485 = r3356 → mG l Z X 21 k1752 n1753 677 [some (.null), some (.ref p1), some (.int (s1751.1 + 6)), some (.int p3), some (.int s1751.2.1), some (.int (s1751.2.1 - 1)), some (.int (s1751.2.1 - p3)), none, none, none, none, none, none, none, some (.int r3485.1), some (.int r3485.2.1), some (.int v3319), some (.int v3321), none, none, none] [] r3485.2.2 := by
                                        intro r3485 q3503
                                        subst q3503
                                        refine mG_aload_n (pc := 677) C dX12_sort__677 rfl ?_
                                        refine mG_iload_n (pc := 678) C dX12_sort__678 rfl ?_
                                        refine mG_aload_n (pc := 679) C dX12_sort__679 rfl ?_
                                        refine mG_iload (pc := 680) C dX12_sort__680 rfl ?_
                                        obtain ⟨v3486, e3487, e1767⟩ := mx_bind e1767
                                        refine mG_iaload (pc := 682) C dX12_sort__682 e3487 ?_
                                        obtain ⟨h3488, e3489, e1767⟩ := mx_bind e1767
                                        refine mG_iastore (pc := 683) C dX12_sort__683 e3489 ?_
                                        refine mG_aload_n (pc := 684) C dX12_sort__684 rfl ?_
                                        refine mG_iload (pc := 685) C dX12_sort__685 rfl ?_
                                        refine mG_iload (pc := 687) C dX12_sort__687 rfl ?_
                                        obtain ⟨h3490, e3491, e1767⟩ := mx_bind e1767
                                        refine mG_iastore (pc := 689) C dX12_sort__689 e3491 ?_
                                        refine mG_aload_n (pc := 690) C dX12_sort__690 rfl ?_
                                        refine mG_iload (pc := 691) C dX12_sort__691 rfl ?_
                                        refine mG_aload_n (pc := 693) C dX12_sort__693 rfl ?_
                                        refine mG_iload (pc := 694) C dX12_sort__694 rfl ?_
                                        obtain ⟨v3492, e3493, e1767⟩ := mx_bind e1767
                                        refine mG_iaload (pc := 696) C dX12_sort__696 e3493 ?_
                                        obtain ⟨h3494, e3495, e1767⟩ := mx_bind e1767
                                        refine mG_iastore (pc := 697) C dX12_sort__697 e3495 ?_
                                        refine mG_aload_n (pc := 698) C dX12_sort__698 rfl ?_
                                        refine mG_iload (pc := 699) C dX12_sort__699 rfl ?_
                                        refine mG_iload (pc := 701) C dX12_sort__701 rfl ?_
                                        obtain ⟨h3496, e3497, e1767⟩ := mx_bind e1767
                                        refine mG_iastore (pc := 703) C dX12_sort__703 e3497 ?_
                                        refine mG_iload (pc := 704) C dX12_sort__704 rfl ?_
                                        refine mG_sp (pc := 706) C dX12_sort__706 kS4096 ?_
                                        refine mG_icmp_le (pc := 709) (tgt := 745) C dX12_sort__709 (by decide) (fun q3498 => ?_) (fun q3498 => ?_)
                                        · rw [if_pos q3498] at e1767
                                          refine mG_aload_nN (pc := 745) C dX12_sort__745 rfl ?_
                                          refine mG_aload_n (pc := 746) C dX12_sort__746 rfl ?_
                                          refine mG_iload_n (pc := 747) C dX12_sort__747 rfl ?_
                                          refine mG_ic (pc := 748) C dX12_sort__748 kI1 ?_
                                          refine mG_ior (pc := 749) C dX12_sort__749 ?_
                                          refine mG_iload (pc := 750) C dX12_sort__750 rfl ?_
                                          refine mG_ic (pc := 752) C dX12_sort__752 kI1 ?_
                                          refine mG_iadd (pc := 753) C dX12_sort__753 ?_
                                          refine mG_iload (pc := 754) C dX12_sort__754 rfl ?_
                                          obtain ⟨o3500, e3499, e1767⟩ := mx_bind e1767
                                          refine mG_cS2 (pc := 756) (k' := k1752) (n' := n1753) (h' := o3500) (v := none) [.null, .ref p1, .int ((s1751.1 + 6) ||| 1), .int (r3485.1 + 1), .int r3485.2.1] [] C hX dX12_sort__756 lkS_X12_26 rfl (tX12_sort_l hl e3499) rfl (by show k1752 + 0 = k1752; omega) (by show n1753 + 0 = n1753; omega) ⟨by show k1752 ≤ 70; omega, by show n1753 ≤ 8890; omega⟩ rfl ?_
                                          refine mG_aload_nN (pc := 759) C dX12_sort__759 rfl ?_
                                          refine mG_aload_n (pc := 760) C dX12_sort__760 rfl ?_
                                          refine mG_iload_n (pc := 761) C dX12_sort__761 rfl ?_
                                          refine mG_ic (pc := 762) C dX12_sort__762 kI1 ?_
                                          refine mG_ior (pc := 763) C dX12_sort__763 ?_
                                          refine mG_iload (pc := 764) C dX12_sort__764 rfl ?_
                                          refine mG_ic (pc := 766) C dX12_sort__766 kI1 ?_
                                          refine mG_iadd (pc := 767) C dX12_sort__767 ?_
                                          refine mG_iload (pc := 768) C dX12_sort__768 rfl ?_
                                          obtain ⟨o3502, e3501, e1767⟩ := mx_bind e1767
                                          refine mG_cS2 (pc := 770) (k' := k1752) (n' := n1753) (h' := o3502) (v := none) [.null, .ref p1, .int ((s1751.1 + 6) ||| 1), .int (r3485.2.1 + 1), .int s1751.2.1] [] C hX dX12_sort__770 lkS_X12_26 rfl (tX12_sort_l hl e3501) rfl (by show k1752 + 0 = k1752; omega) (by show n1753 + 0 = n1753; omega) ⟨by show k1752 ≤ 70; omega, by show n1753 ≤ 8890; omega⟩ rfl ?_
                                          refine mG_goto (tgt := 940) (pc := 773) C dX12_sort__773 (by decide) ?_
                                          refine mG_iload (pc := 940) C dX12_sort__940 rfl ?_
                                          refine mG_is (ls' := [some (.null), some (.ref p1), some (.int (s1751.1 + 6)), some (.int p3), some (.int r3485.1), some (.int (s1751.2.1 - 1)), some (.int (s1751.2.1 - p3)), none, none, none, none, none, none, none, some (.int r3485.1), some (.int r3485.2.1), some (.int v3319), some (.int v3321), none, none, none]) (pc := 942) C dX12_sort__942 rfl rfl rfl ?_
                                          refine mG_goto (tgt := 0) (pc := 944) C dX12_sort__944 (by decide) ?_
                                          exact mG_sub (mxLe_s (mxLe_s (mxLe_s (mxLe_s (mxLe_s (mxLe_n (mxLe_n (mxLe_n (mxLe_n (mxLe_n (mxLe_n (mxLe_n (mxLe_n (mxLe_n (mxLe_n (mxLe_n (mxLe_n (mxLe_n (mxLe_n (mxLe_n (mxLe_n mxLe_z))))))))))))))))))))) (hK1762 _ (Option.some.inj e1767).symm _ _ (by omega) (by omega))
                                        · rw [if_neg q3498] at e1767
                                          exact mG_wd (by omega) (by omega) (mG_sub (mxLe_s (mxLe_n (mxLe_n (mxLe_n (mxLe_n (mxLe_n (mxLe_n (mxLe_n (mxLe_n (mxLe_n (mxLe_n (mxLe_n (mxLe_n (mxLe_n (mxLe_n (mxLe_n (mxLe_n (mxLe_n (mxLe_n (mxLe_n (mxLe_n mxLe_z))))))))))))))))))))) (J1760 _ (hx1763 _ (Option.some.inj e1767).symm)))
                                      refine mG_sub (ls' := [some (.null), some (.ref p1), some (.int (s1751.1 + 6)), some (.int p3), some (.int s1751.2.1), some (.int (s1751.2.1 - 1)), some (.int (s1751.2.1 - p3)), none, none, none, none, none, none, none, some (.int (r3342 - 1)), some (.int (r3354 + 1)), some (.int v3319), some (.int v3321), none, some (.int (r3354 + 1)), none]) (mxLe_s (mxLe_s (mxLe_s (mxLe_s (mxLe_s (mxLe_s (mxLe_s (mxLe_n (mxLe_n (mxLe_n (mxLe_n (mxLe_n (mxLe_n (mxLe_n (mxLe_s (mxLe_s (mxLe_s (mxLe_s (mxLe_n (mxLe_s (mxLe_n mxLe_z))))))))))))))))))))) (mxLoop_ind (K := fun s3355 : (Int32 × Int32 × Int32 × mxH) => mG l Z X 21 k1752 n1753 560 [some (.null), some (.ref p1), some (.int (s1751.1 + 6)), some (.int p3), some (.int s1751.2.1), some (.int (s1751.2.1 - 1)), some (.int (s1751.2.1 - p3)), none, none, none, none, none, none, none, some (.int s3355.1), some (.int s3355.2.1), some (.int v3319), some (.int v3321), none, some (.int s3355.2.2.1), none] [] s3355.2.2.2) ?_ _ _ e3357)
                                      intro s3355 o3361 e3362 hK3359 hx3360
                                      refine mG_ii (ls' := [some (.null), some (.ref p1), some (.int (s1751.1 + 6)), some (.int p3), some (.int s1751.2.1), some (.int (s1751.2.1 - 1)), some (.int (s1751.2.1 - p3)), none, none, none, none, none, none, none, some (.int s3355.1), some (.int s3355.2.1), some (.int v3319), some (.int v3321), none, some (.int (s3355.2.2.1 - 1)), none]) (pc := 560) C dX12_sort__560 rfl (kincm1 _) rfl rfl rfl ?_
                                      refine mG_iload (pc := 563) C dX12_sort__563 rfl ?_
                                      refine mG_iload (pc := 565) C dX12_sort__565 rfl ?_
                                      refine mG_icmp_le (pc := 567) (tgt := 677) C dX12_sort__567 (by decide) (fun q3363 => ?_) (fun q3363 => ?_)
                                      · rw [if_pos q3363] at e3362
                                        exact mG_sub (mxLe_s (mxLe_s (mxLe_s (mxLe_s (mxLe_s (mxLe_s (mxLe_s (mxLe_n (mxLe_n (mxLe_n (mxLe_n (mxLe_n (mxLe_n (mxLe_n (mxLe_s (mxLe_s (mxLe_s (mxLe_s (mxLe_n (mxLe_n (mxLe_n mxLe_z))))))))))))))))))))) (J3358 _ (hx3360 _ (Option.some.inj e3362).symm))
                                      · rw [if_neg q3363] at e3362
                                        refine mG_aload_n (pc := 570) C dX12_sort__570 rfl ?_
                                        refine mG_iload (pc := 571) C dX12_sort__571 rfl ?_
                                        obtain ⟨v3364, e3365, e3362⟩ := mx_bind e3362
                                        refine mG_iaload (pc := 573) C dX12_sort__573 e3365 ?_
                                        refine mG_is (ls' := [some (.null), some (.ref p1), some (.int (s1751.1 + 6)), some (.int p3), some (.int s1751.2.1), some (.int (s1751.2.1 - 1)), some (.int (s1751.2.1 - p3)), none, none, none, none, none, none, none, some (.int s3355.1), some (.int s3355.2.1), some (.int v3319), some (.int v3321), none, some (.int (s3355.2.2.1 - 1)), some (.int v3364)]) (pc := 574) C dX12_sort__574 rfl rfl rfl ?_
                                        refine mG_iload (pc := 576) C dX12_sort__576 rfl ?_
                                        refine mG_iload (pc := 578) C dX12_sort__578 rfl ?_
                                        obtain ⟨jp3368, e3369, e3362⟩ := mx_bind e3362
                                        have J3367 : ∀ jp3368' : (Int32 × Int32 × mxH), jp3368' = jp3368 → mG l Z X 21 k1752 n1753 674 [some (.null), some (.ref p1), some (.int (s1751.1 + 6)), some (.int p3), some (.int s1751.2.1), some (.int (s1751.2.1 - 1)), some (.int (s1751.2.1 - p3)), none, none, none, none, none, none, none, some (.int jp3368'.1), some (.int jp3368'.2.1), some (.int v3319), some (.int v3321), none, some (.int (s3355.2.2.1 - 1)), none] [] jp3368'.2.2 := by
                                          intro jp3368' q3484
                                          subst q3484
                                          refine mG_goto (tgt := 560) (pc := 674) C dX12_sort__674 (by decide) ?_
                                          exact mG_sub (mxLe_s (mxLe_s (mxLe_s (mxLe_s (mxLe_s (mxLe_s (mxLe_s (mxLe_n (mxLe_n (mxLe_n (mxLe_n (mxLe_n (mxLe_n (mxLe_n (mxLe_s (mxLe_s (mxLe_s (mxLe_s (mxLe_n (mxLe_s (mxLe_n mxLe_z))))))))))))))))))))) (hK3359 _ (Option.some.inj e3362).symm)
                                        refine mG_icmp_ge (pc := 580) (tgt := 650) C dX12_sort__580 (by decide) (fun q3366 => ?_) (fun q3366 => ?_)
                                        · rw [if_pos q3366] at e3369
                                          refine mG_iload (pc := 650) C dX12_sort__650 rfl ?_
                                          refine mG_iload (pc := 652) C dX12_sort__652 rfl ?_
                                          refine mG_icmp_le (pc := 654) (tgt := 674) C dX12_sort__654 (by decide) (fun q3427 => ?_) (fun q3427 => ?_)
                                          · rw [if_pos q3427] at e3369
                                            exact mG_sub (mxLe_s (mxLe_s (mxLe_s (mxLe_s (mxLe_s (mxLe_s (mxLe_s (mxLe_n (mxLe_n (mxLe_n (mxLe_n (mxLe_n (mxLe_n (mxLe_n (mxLe_s (mxLe_s (mxLe_s (mxLe_s (mxLe_n (mxLe_s (mxLe_n mxLe_z))))))))))))))))))))) (J3367 _ (Option.some.inj e3369))
                                          · rw [if_neg q3427] at e3369
                                            refine mG_aload_n (pc := 657) C dX12_sort__657 rfl ?_
                                            refine mG_iload (pc := 658) C dX12_sort__658 rfl ?_
                                            refine mG_aload_n (pc := 660) C dX12_sort__660 rfl ?_
                                            refine mG_ii (ls' := [some (.null), some (.ref p1), some (.int (s1751.1 + 6)), some (.int p3), some (.int s1751.2.1), some (.int (s1751.2.1 - 1)), some (.int (s1751.2.1 - p3)), none, none, none, none, none, none, none, some (.int s3355.1), some (.int (s3355.2.1 - 1)), some (.int v3319), some (.int v3321), none, some (.int (s3355.2.2.1 - 1)), some (.int v3364)]) (pc := 661) C dX12_sort__661 rfl (kincm1 _) rfl rfl rfl ?_
                                            refine mG_iload (pc := 664) C dX12_sort__664 rfl ?_
                                            obtain ⟨v3428, e3429, e3369⟩ := mx_bind e3369
                                            refine mG_iaload (pc := 666) C dX12_sort__666 e3429 ?_
                                            obtain ⟨h3430, e3431, e3369⟩ := mx_bind e3369
                                            refine mG_iastore (pc := 667) C dX12_sort__667 e3431 ?_
                                            refine mG_aload_n (pc := 668) C dX12_sort__668 rfl ?_
                                            refine mG_iload (pc := 669) C dX12_sort__669 rfl ?_
                                            refine mG_iload (pc := 671) C dX12_sort__671 rfl ?_
                                            obtain ⟨h3432, e3433, e3369⟩ := mx_bind e3369
                                            refine mG_iastore (pc := 673) C dX12_sort__673 e3433 ?_
                                            exact mG_sub (mxLe_s (mxLe_s (mxLe_s (mxLe_s (mxLe_s (mxLe_s (mxLe_s (mxLe_n (mxLe_n (mxLe_n (mxLe_n (mxLe_n (mxLe_n (mxLe_n (mxLe_s (mxLe_s (mxLe_s (mxLe_s (mxLe_n (mxLe_s (mxLe_n mxLe_z))))))))))))))))))))) (J3367 _ (Option.some.inj e3369))
                                        · rw [if_neg q3366] at e3369
                                          obtain ⟨r3435, e3436, e3369⟩ := mx_bind e3369
                                          have J3437 : ∀ r3447 : Int32, Sum.inl r3447 = r3435 → mG l Z X 21 k1752 n1753 602 [some (.null), some (.ref p1), some (.int (s1751.1 + 6)), some (.int p3), some (.int s1751.2.1), some (.int (s1751.2.1 - 1)), some (.int (s1751.2.1 - p3)), none, none, none, none, none, none, none, some (.int r3447), some (.int s3355.2.1), some (.int v3319), some (.int v3321), none, some (.int (s3355.2.2.1 - 1)), some (.int v3364)] [] s3355.2.2.2 := by
                                            intro r3447 q3481
                                            subst q3481
                                            rw [Sum.elim_inl] at e3369
                                            refine mG_aload_n (pc := 602) C dX12_sort__602 rfl ?_
                                            refine mG_iload (pc := 603) C dX12_sort__603 rfl ?_
                                            obtain ⟨v3448, e3449, e3369⟩ := mx_bind e3369
                                            refine mG_iaload (pc := 605) C dX12_sort__605 e3449 ?_
                                            refine mG_iload (pc := 606) C dX12_sort__606 rfl ?_
                                            obtain ⟨jp3452, e3453, e3369⟩ := mx_bind e3369
                                            have J3451 : ∀ jp3452' : (Int32 × mxH), jp3452' = jp3452 → mG l Z X 21 k1752 n1753 641 [some (.null), some (.ref p1), some (.int (s1751.1 + 6)), some (.int p3), some (.int s1751.2.1), some (.int (s1751.2.1 - 1)), some (.int (s1751.2.1 - p3)), none, none, none, none, none, none, none, some (.int r3447), some (.int jp3452'.1), some (.int v3319), some (.int v3321), none, some (.int (s3355.2.2.1 - 1)), some (.int v3364)] [] jp3452'.2 := by
                                              intro jp3452' q3480
                                              subst q3480
                                              refine mG_aload_n (pc := 641) C dX12_sort__641 rfl ?_
                                              refine mG_iload (pc := 642) C dX12_sort__642 rfl ?_
                                              refine mG_iload (pc := 644) C dX12_sort__644 rfl ?_
                                              obtain ⟨h3478, e3479, e3369⟩ := mx_bind e3369
                                              refine mG_iastore (pc := 646) C dX12_sort__646 e3479 ?_
                                              refine mG_goto (tgt := 674) (pc := 647) C dX12_sort__647 (by decide) ?_
                                              exact mG_sub (mxLe_s (mxLe_s (mxLe_s (mxLe_s (mxLe_s (mxLe_s (mxLe_s (mxLe_n (mxLe_n (mxLe_n (mxLe_n (mxLe_n (mxLe_n (mxLe_n (mxLe_s (mxLe_s (mxLe_s (mxLe_s (mxLe_n (mxLe_s (mxLe_n mxLe_z))))))))))))))))))))) (J3367 _ (Option.some.inj e3369))
                                            refine mG_icmp_le (pc := 608) (tgt := 633) C dX12_sort__608 (by decide) (fun q3450 => ?_) (fun q3450 => ?_)
                                            · rw [if_pos q3450] at e3453
                                              refine mG_aload_n (pc := 633) C dX12_sort__633 rfl ?_
                                              refine mG_iload (pc := 634) C dX12_sort__634 rfl ?_
                                              refine mG_aload_n (pc := 636) C dX12_sort__636 rfl ?_
                                              refine mG_iload (pc := 637) C dX12_sort__637 rfl ?_
                                              obtain ⟨v3466, e3467, e3453⟩ := mx_bind e3453
                                              refine mG_iaload (pc := 639) C dX12_sort__639 e3467 ?_
                                              obtain ⟨h3468, e3469, e3453⟩ := mx_bind e3453
                                              refine mG_iastore (pc := 640) C dX12_sort__640 e3469 ?_
                                              exact mG_sub (mxLe_s (mxLe_s (mxLe_s (mxLe_s (mxLe_s (mxLe_s (mxLe_s (mxLe_n (mxLe_n (mxLe_n (mxLe_n (mxLe_n (mxLe_n (mxLe_n (mxLe_s (mxLe_s (mxLe_s (mxLe_s (mxLe_n (mxLe_s (mxLe_s mxLe_z))))))))))))))))))))) (J3451 _ (Option.some.inj e3453))
                                            · rw [if_neg q3450] at e3453
                                              refine mG_aload_n (pc := 611) C dX12_sort__611 rfl ?_
                                              refine mG_iload (pc := 612) C dX12_sort__612 rfl ?_
                                              refine mG_aload_n (pc := 614) C dX12_sort__614 rfl ?_
                                              refine mG_ii (ls' := [some (.null), some (.ref p1), some (.int (s1751.1 + 6)), some (.int p3), some (.int s1751.2.1), some (.int (s1751.2.1 - 1)), some (.int (s1751.2.1 - p3)), none, none, none, none, none, none, none, some (.int r3447), some (.int (s3355.2.1 - 1)), some (.int v3319), some (.int v3321), none, some (.int (s3355.2.2.1 - 1)), some (.int v3364)]) (pc := 615) C dX12_sort__615 rfl (kincm1 _) rfl rfl rfl ?_
                                              refine mG_iload (pc := 618) C dX12_sort__618 rfl ?_
                                              obtain ⟨v3470, e3471, e3453⟩ := mx_bind e3453
                                              refine mG_iaload (pc := 620) C dX12_sort__620 e3471 ?_
                                              obtain ⟨h3472, e3473, e3453⟩ := mx_bind e3453
                                              refine mG_iastore (pc := 621) C dX12_sort__621 e3473 ?_
                                              refine mG_aload_n (pc := 622) C dX12_sort__622 rfl ?_
                                              refine mG_iload (pc := 623) C dX12_sort__623 rfl ?_
                                              refine mG_aload_n (pc := 625) C dX12_sort__625 rfl ?_
                                              refine mG_iload (pc := 626) C dX12_sort__626 rfl ?_
                                              obtain ⟨v3474, e3475, e3453⟩ := mx_bind e3453
                                              refine mG_iaload (pc := 628) C dX12_sort__628 e3475 ?_
                                              obtain ⟨h3476, e3477, e3453⟩ := mx_bind e3453
                                              refine mG_iastore (pc := 629) C dX12_sort__629 e3477 ?_
                                              refine mG_goto (tgt := 641) (pc := 630) C dX12_sort__630 (by decide) ?_
                                              exact mG_sub (mxLe_s (mxLe_s (mxLe_s (mxLe_s (mxLe_s (mxLe_s (mxLe_s (mxLe_n (mxLe_n (mxLe_n (mxLe_n (mxLe_n (mxLe_n (mxLe_n (mxLe_s (mxLe_s (mxLe_s (mxLe_s (mxLe_n (mxLe_s (mxLe_s mxLe_z))))))))))))))))))))) (J3451 _ (Option.some.inj e3453))
                                          have J3438 : ∀ r3482 : Int32, Sum.inr r3482 = r3435 → mG l Z X 21 k1752 n1753 674 [some (.null), some (.ref p1), some (.int (s1751.1 + 6)), some (.int p3), some (.int s1751.2.1), some (.int (s1751.2.1 - 1)), some (.int (s1751.2.1 - p3)), none, none, none, none, none, none, none, some (.int r3482), some (.int s3355.2.1), some (.int v3319), some (.int v3321), none, some (.int (s3355.2.2.1 - 1)), none] [] s3355.2.2.2 := by
                                            intro r3482 q3483
                                            subst q3483
                                            rw [Sum.elim_inr] at e3369
                                            exact mG_sub (mxLe_s (mxLe_s (mxLe_s (mxLe_s (mxLe_s (mxLe_s (mxLe_s (mxLe_n (mxLe_n (mxLe_n (mxLe_n (mxLe_n (mxLe_n (mxLe_n (mxLe_s (mxLe_s (mxLe_s (mxLe_s (mxLe_n (mxLe_s (mxLe_n mxLe_z))))))))))))))))))))) (J3367 _ (Option.some.inj e3369))
                                          refine mG_sub (ls' := [some (.null), some (.ref p1), some (.int (s1751.1 + 6)), some (.int p3), some (.int s1751.2.1), some (.int (s1751.2.1 - 1)), some (.int (s1751.2.1 - p3)), none, none, none, none, none, none, none, some (.int s3355.1), some (.int s3355.2.1), some (.int v3319), some (.int v3321), none, some (.int (s3355.2.2.1 - 1)), some (.int v3364)]) (mxLe_s (mxLe_s (mxLe_s (mxLe_s (mxLe_s (mxLe_s (mxLe_s (mxLe_n (mxLe_n (mxLe_n (mxLe_n (mxLe_n (mxLe_n (mxLe_n (mxLe_s (mxLe_s (mxLe_s (mxLe_s (mxLe_n (mxLe_s (mxLe_s mxLe_z))))))))))))))))))))) (mxLoop_ind (K := fun s3434 : Int32 => mG l Z X 21 k1752 n1753 583 [some (.null), some (.ref p1), some (.int (s1751.1 + 6)), some (.int p3), some (.int s1751.2.1), some (.int (s1751.2.1 - 1)), some (.int (s1751.2.1 - p3)), none, none, none, none, none, none, none, some (.int s3434), some (.int s3355.2.1), some (.int v3319), some (.int v3321), none, some (.int (s3355.2.2.1 - 1)), some (.int v3364)] [] s3355.2.2.2) ?_ _ _ e3436)
                                          intro s3434 o3441 e3442 hK3439 hx3440
                                          refine mG_iload (pc := 583) C dX12_sort__583 rfl ?_
                                          refine mG_iload (pc := 585) C dX12_sort__585 rfl ?_
                                          refine mG_icmp_ge (pc := 587) (tgt := 674) C dX12_sort__587 (by decide) (fun q3443 => ?_) (fun q3443 => ?_)
                                          · rw [if_pos q3443] at e3442
                                            exact mG_sub (mxLe_s (mxLe_s (mxLe_s (mxLe_s (mxLe_s (mxLe_s (mxLe_s (mxLe_n (mxLe_n (mxLe_n (mxLe_n (mxLe_n (mxLe_n (mxLe_n (mxLe_s (mxLe_s (mxLe_s (mxLe_s (mxLe_n (mxLe_s (mxLe_n mxLe_z))))))))))))))))))))) (J3438 _ (hx3440 _ (Option.some.inj e3442).symm))
                                          · rw [if_neg q3443] at e3442
                                            refine mG_aload_n (pc := 590) C dX12_sort__590 rfl ?_
                                            refine mG_ii (ls' := [some (.null), some (.ref p1), some (.int (s1751.1 + 6)), some (.int p3), some (.int s1751.2.1), some (.int (s1751.2.1 - 1)), some (.int (s1751.2.1 - p3)), none, none, none, none, none, none, none, some (.int (s3434 + 1)), some (.int s3355.2.1), some (.int v3319), some (.int v3321), none, some (.int (s3355.2.2.1 - 1)), some (.int v3364)]) (pc := 591) C dX12_sort__591 rfl (kinc1 _) rfl rfl rfl ?_
                                            refine mG_iload (pc := 594) C dX12_sort__594 rfl ?_
                                            obtain ⟨v3444, e3445, e3442⟩ := mx_bind e3442
                                            refine mG_iaload (pc := 596) C dX12_sort__596 e3445 ?_
                                            refine mG_iload (pc := 597) C dX12_sort__597 rfl ?_
                                            refine mG_icmp_lt (pc := 599) (tgt := 583) C dX12_sort__599 (by decide) (fun q3446 => ?_) (fun q3446 => ?_)
                                            · rw [if_pos q3446] at e3442
                                              exact mG_sub (mxLe_s (mxLe_s (mxLe_s (mxLe_s (mxLe_s (mxLe_s (mxLe_s (mxLe_n (mxLe_n (mxLe_n (mxLe_n (mxLe_n (mxLe_n (mxLe_n (mxLe_s (mxLe_s (mxLe_s (mxLe_s (mxLe_n (mxLe_s (mxLe_s mxLe_z))))))))))))))))))))) (hK3439 _ (Option.some.inj e3442).symm)
                                            · rw [if_neg q3446] at e3442
                                              exact mG_sub (mxLe_s (mxLe_s (mxLe_s (mxLe_s (mxLe_s (mxLe_s (mxLe_s (mxLe_n (mxLe_n (mxLe_n (mxLe_n (mxLe_n (mxLe_n (mxLe_n (mxLe_s (mxLe_s (mxLe_s (mxLe_s (mxLe_n (mxLe_s (mxLe_s mxLe_z))))))))))))))))))))) (J3437 _ (hx3440 _ (Option.some.inj e3442).symm))
                                    refine mG_sub (ls' := [some (.null), some (.ref p1), some (.int (s1751.1 + 6)), some (.int p3), some (.int s1751.2.1), some (.int (s1751.2.1 - 1)), some (.int (s1751.2.1 - p3)), none, none, none, none, none, none, none, some (.int r3342), some (.int (s1751.2.1 - 1)), some (.int v3319), some (.int v3321), none, none, none]) (mxLe_s (mxLe_s (mxLe_s (mxLe_s (mxLe_s (mxLe_s (mxLe_s (mxLe_n (mxLe_n (mxLe_n (mxLe_n (mxLe_n (mxLe_n (mxLe_n (mxLe_s (mxLe_s (mxLe_s (mxLe_s (mxLe_n (mxLe_n (mxLe_n mxLe_z))))))))))))))))))))) (mxLoop_ind (K := fun s3343 : Int32 => mG l Z X 21 k1752 n1753 531 [some (.null), some (.ref p1), some (.int (s1751.1 + 6)), some (.int p3), some (.int s1751.2.1), some (.int (s1751.2.1 - 1)), some (.int (s1751.2.1 - p3)), none, none, none, none, none, none, none, some (.int r3342), some (.int s3343), some (.int v3319), some (.int v3321), none, none, none] [] h3329) ?_ _ _ e3345)
                                    intro s3343 o3349 e3350 hK3347 hx3348
                                    refine mG_aload_n (pc := 531) C dX12_sort__531 rfl ?_
                                    refine mG_ii (ls' := [some (.null), some (.ref p1), some (.int (s1751.1 + 6)), some (.int p3), some (.int s1751.2.1), some (.int (s1751.2.1 - 1)), some (.int (s1751.2.1 - p3)), none, none, none, none, none, none, none, some (.int r3342), some (.int (s3343 - 1)), some (.int v3319), some (.int v3321), none, none, none]) (pc := 532) C dX12_sort__532 rfl (kincm1 _) rfl rfl rfl ?_
                                    refine mG_iload (pc := 535) C dX12_sort__535 rfl ?_
                                    obtain ⟨v3351, e3352, e3350⟩ := mx_bind e3350
                                    refine mG_iaload (pc := 537) C dX12_sort__537 e3352 ?_
                                    refine mG_iload (pc := 538) C dX12_sort__538 rfl ?_
                                    refine mG_icmp_le (pc := 540) (tgt := 546) C dX12_sort__540 (by decide) (fun q3353 => ?_) (fun q3353 => ?_)
                                    · rw [if_pos q3353] at e3350
                                      exact mG_sub (mxLe_s (mxLe_s (mxLe_s (mxLe_s (mxLe_s (mxLe_s (mxLe_s (mxLe_n (mxLe_n (mxLe_n (mxLe_n (mxLe_n (mxLe_n (mxLe_n (mxLe_s (mxLe_s (mxLe_s (mxLe_s (mxLe_n (mxLe_n (mxLe_n mxLe_z))))))))))))))))))))) (J3346 _ (hx3348 _ (Option.some.inj e3350).symm))
                                    · rw [if_neg q3353] at e3350
                                      refine mG_goto (tgt := 531) (pc := 543) C dX12_sort__543 (by decide) ?_
                                      exact mG_sub (mxLe_s (mxLe_s (mxLe_s (mxLe_s (mxLe_s (mxLe_s (mxLe_s (mxLe_n (mxLe_n (mxLe_n (mxLe_n (mxLe_n (mxLe_n (mxLe_n (mxLe_s (mxLe_s (mxLe_s (mxLe_s (mxLe_n (mxLe_n (mxLe_n mxLe_z))))))))))))))))))))) (hK3347 _ (Option.some.inj e3350).symm)
                                  refine mG_sub (ls' := [some (.null), some (.ref p1), some (.int (s1751.1 + 6)), some (.int p3), some (.int s1751.2.1), some (.int (s1751.2.1 - 1)), some (.int (s1751.2.1 - p3)), none, none, none, none, none, none, none, some (.int p3), some (.int (s1751.2.1 - 1)), some (.int v3319), some (.int v3321), none, none, none]) (mxLe_s (mxLe_s (mxLe_s (mxLe_s (mxLe_s (mxLe_s (mxLe_s (mxLe_n (mxLe_n (mxLe_n (mxLe_n (mxLe_n (mxLe_n (mxLe_n (mxLe_s (mxLe_s (mxLe_s (mxLe_s (mxLe_n (mxLe_n (mxLe_n mxLe_z))))))))))))))))))))) (mxLoop_ind (K := fun s3331 : Int32 => mG l Z X 21 k1752 n1753 516 [some (.null), some (.ref p1), some (.int (s1751.1 + 6)), some (.int p3), some (.int s1751.2.1), some (.int (s1751.2.1 - 1)), some (.int (s1751.2.1 - p3)), none, none, none, none, none, none, none, some (.int s3331), some (.int (s1751.2.1 - 1)), some (.int v3319), some (.int v3321), none, none, none] [] h3329) ?_ _ _ e3333)
                                  intro s3331 o3337 e3338 hK3335 hx3336
                                  refine mG_aload_n (pc := 516) C dX12_sort__516 rfl ?_
                                  refine mG_ii (ls' := [some (.null), some (.ref p1), some (.int (s1751.1 + 6)), some (.int p3), some (.int s1751.2.1), some (.int (s1751.2.1 - 1)), some (.int (s1751.2.1 - p3)), none, none, none, none, none, none, none, some (.int (s3331 + 1)), some (.int (s1751.2.1 - 1)), some (.int v3319), some (.int v3321), none, none, none]) (pc := 517) C dX12_sort__517 rfl (kinc1 _) rfl rfl rfl ?_
                                  refine mG_iload (pc := 520) C dX12_sort__520 rfl ?_
                                  obtain ⟨v3339, e3340, e3338⟩ := mx_bind e3338
                                  refine mG_iaload (pc := 522) C dX12_sort__522 e3340 ?_
                                  refine mG_iload (pc := 523) C dX12_sort__523 rfl ?_
                                  refine mG_icmp_ge (pc := 525) (tgt := 531) C dX12_sort__525 (by decide) (fun q3341 => ?_) (fun q3341 => ?_)
                                  · rw [if_pos q3341] at e3338
                                    exact mG_sub (mxLe_s (mxLe_s (mxLe_s (mxLe_s (mxLe_s (mxLe_s (mxLe_s (mxLe_n (mxLe_n (mxLe_n (mxLe_n (mxLe_n (mxLe_n (mxLe_n (mxLe_s (mxLe_s (mxLe_s (mxLe_s (mxLe_n (mxLe_n (mxLe_n mxLe_z))))))))))))))))))))) (J3334 _ (hx3336 _ (Option.some.inj e3338).symm))
                                  · rw [if_neg q3341] at e3338
                                    refine mG_goto (tgt := 516) (pc := 528) C dX12_sort__528 (by decide) ?_
                                    exact mG_sub (mxLe_s (mxLe_s (mxLe_s (mxLe_s (mxLe_s (mxLe_s (mxLe_s (mxLe_n (mxLe_n (mxLe_n (mxLe_n (mxLe_n (mxLe_n (mxLe_n (mxLe_s (mxLe_s (mxLe_s (mxLe_s (mxLe_n (mxLe_n (mxLe_n mxLe_z))))))))))))))))))))) (hK3335 _ (Option.some.inj e3338).symm)
                        refine mG_icmp_ge (pc := 326) (tgt := 380) C dX12_sort__326 (by decide) (fun q3213 => ?_) (fun q3213 => ?_)
                        · rw [if_pos q3213] at e3216
                          refine mG_iload (pc := 380) C dX12_sort__380 rfl ?_
                          refine mG_aload_n (pc := 382) C dX12_sort__382 rfl ?_
                          refine mG_iload (pc := 383) C dX12_sort__383 rfl ?_
                          obtain ⟨v3258, e3259, e3216⟩ := mx_bind e3216
                          refine mG_iaload (pc := 385) C dX12_sort__385 e3259 ?_
                          refine mG_icmp_le (pc := 386) (tgt := 437) C dX12_sort__386 (by decide) (fun q3260 => ?_) (fun q3260 => ?_)
                          · rw [if_pos q3260] at e3216
                            exact mG_sub (mxLe_s (mxLe_s (mxLe_s (mxLe_s (mxLe_s (mxLe_s (mxLe_s (mxLe_n (mxLe_s (mxLe_s (mxLe_s (mxLe_s (mxLe_s (mxLe_n (mxLe_n (mxLe_n (mxLe_n (mxLe_n (mxLe_n (mxLe_n (mxLe_n mxLe_z))))))))))))))))))))) (J3214 _ (Option.some.inj e3216))
                          · rw [if_neg q3260] at e3216
                            refine mG_iload (pc := 389) C dX12_sort__389 rfl ?_
                            refine mG_aload_n (pc := 391) C dX12_sort__391 rfl ?_
                            refine mG_iload (pc := 392) C dX12_sort__392 rfl ?_
                            obtain ⟨v3261, e3262, e3216⟩ := mx_bind e3216
                            refine mG_iaload (pc := 394) C dX12_sort__394 e3262 ?_
                            refine mG_icmp_le (pc := 395) (tgt := 423) C dX12_sort__395 (by decide) (fun q3263 => ?_) (fun q3263 => ?_)
                            · rw [if_pos q3263] at e3216
                              refine mG_aload_n (pc := 423) C dX12_sort__423 rfl ?_
                              refine mG_iload (pc := 424) C dX12_sort__424 rfl ?_
                              refine mG_aload_n (pc := 426) C dX12_sort__426 rfl ?_
                              refine mG_iload (pc := 427) C dX12_sort__427 rfl ?_
                              obtain ⟨v3264, e3265, e3216⟩ := mx_bind e3216
                              refine mG_iaload (pc := 429) C dX12_sort__429 e3265 ?_
                              obtain ⟨h3266, e3267, e3216⟩ := mx_bind e3216
                              refine mG_iastore (pc := 430) C dX12_sort__430 e3267 ?_
                              refine mG_aload_n (pc := 431) C dX12_sort__431 rfl ?_
                              refine mG_iload (pc := 432) C dX12_sort__432 rfl ?_
                              refine mG_iload (pc := 434) C dX12_sort__434 rfl ?_
                              obtain ⟨h3268, e3269, e3216⟩ := mx_bind e3216
                              refine mG_iastore (pc := 436) C dX12_sort__436 e3269 ?_
                              exact mG_sub (mxLe_s (mxLe_s (mxLe_s (mxLe_s (mxLe_s (mxLe_s (mxLe_s (mxLe_n (mxLe_s (mxLe_s (mxLe_s (mxLe_s (mxLe_s (mxLe_n (mxLe_n (mxLe_n (mxLe_n (mxLe_n (mxLe_n (mxLe_n (mxLe_n mxLe_z))))))))))))))))))))) (J3214 _ (Option.some.inj e3216))
                            · rw [if_neg q3263] at e3216
                              refine mG_aload_n (pc := 398) C dX12_sort__398 rfl ?_
                              refine mG_iload (pc := 399) C dX12_sort__399 rfl ?_
                              refine mG_aload_n (pc := 401) C dX12_sort__401 rfl ?_
                              refine mG_iload (pc := 402) C dX12_sort__402 rfl ?_
                              obtain ⟨v3270, e3271, e3216⟩ := mx_bind e3216
                              refine mG_iaload (pc := 404) C dX12_sort__404 e3271 ?_
                              obtain ⟨h3272, e3273, e3216⟩ := mx_bind e3216
                              refine mG_iastore (pc := 405) C dX12_sort__405 e3273 ?_
                              refine mG_aload_n (pc := 406) C dX12_sort__406 rfl ?_
                              refine mG_iload (pc := 407) C dX12_sort__407 rfl ?_
                              refine mG_aload_n (pc := 409) C dX12_sort__409 rfl ?_
                              refine mG_iload (pc := 410) C dX12_sort__410 rfl ?_
                              obtain ⟨v3274, e3275, e3216⟩ := mx_bind e3216
                              refine mG_iaload (pc := 412) C dX12_sort__412 e3275 ?_
                              obtain ⟨h3276, e3277, e3216⟩ := mx_bind e3216
                              refine mG_iastore (pc := 413) C dX12_sort__413 e3277 ?_
                              refine mG_aload_n (pc := 414) C dX12_sort__414 rfl ?_
                              refine mG_iload (pc := 415) C dX12_sort__415 rfl ?_
                              refine mG_iload (pc := 417) C dX12_sort__417 rfl ?_
                              obtain ⟨h3278, e3279, e3216⟩ := mx_bind e3216
                              refine mG_iastore (pc := 419) C dX12_sort__419 e3279 ?_
                              refine mG_goto (tgt := 437) (pc := 420) C dX12_sort__420 (by decide) ?_
                              exact mG_sub (mxLe_s (mxLe_s (mxLe_s (mxLe_s (mxLe_s (mxLe_s (mxLe_s (mxLe_n (mxLe_s (mxLe_s (mxLe_s (mxLe_s (mxLe_s (mxLe_n (mxLe_n (mxLe_n (mxLe_n (mxLe_n (mxLe_n (mxLe_n (mxLe_n mxLe_z))))))))))))))))))))) (J3214 _ (Option.some.inj e3216))
                        · rw [if_neg q3213] at e3216
                          refine mG_iload (pc := 329) C dX12_sort__329 rfl ?_
                          refine mG_aload_n (pc := 331) C dX12_sort__331 rfl ?_
                          refine mG_iload (pc := 332) C dX12_sort__332 rfl ?_
                          obtain ⟨v3280, e3281, e3216⟩ := mx_bind e3216
                          refine mG_iaload (pc := 334) C dX12_sort__334 e3281 ?_
                          refine mG_icmp_ge (pc := 335) (tgt := 363) C dX12_sort__335 (by decide) (fun q3282 => ?_) (fun q3282 => ?_)
                          · rw [if_pos q3282] at e3216
                            refine mG_aload_n (pc := 363) C dX12_sort__363 rfl ?_
                            refine mG_iload (pc := 364) C dX12_sort__364 rfl ?_
                            refine mG_aload_n (pc := 366) C dX12_sort__366 rfl ?_
                            refine mG_iload (pc := 367) C dX12_sort__367 rfl ?_
                            obtain ⟨v3283, e3284, e3216⟩ := mx_bind e3216
                            refine mG_iaload (pc := 369) C dX12_sort__369 e3284 ?_
                            obtain ⟨h3285, e3286, e3216⟩ := mx_bind e3216
                            refine mG_iastore (pc := 370) C dX12_sort__370 e3286 ?_
                            refine mG_aload_n (pc := 371) C dX12_sort__371 rfl ?_
                            refine mG_iload (pc := 372) C dX12_sort__372 rfl ?_
                            refine mG_iload (pc := 374) C dX12_sort__374 rfl ?_
                            obtain ⟨h3287, e3288, e3216⟩ := mx_bind e3216
                            refine mG_iastore (pc := 376) C dX12_sort__376 e3288 ?_
                            refine mG_goto (tgt := 437) (pc := 377) C dX12_sort__377 (by decide) ?_
                            exact mG_sub (mxLe_s (mxLe_s (mxLe_s (mxLe_s (mxLe_s (mxLe_s (mxLe_s (mxLe_n (mxLe_s (mxLe_s (mxLe_s (mxLe_s (mxLe_s (mxLe_n (mxLe_n (mxLe_n (mxLe_n (mxLe_n (mxLe_n (mxLe_n (mxLe_n mxLe_z))))))))))))))))))))) (J3214 _ (Option.some.inj e3216))
                          · rw [if_neg q3282] at e3216
                            refine mG_aload_n (pc := 338) C dX12_sort__338 rfl ?_
                            refine mG_iload (pc := 339) C dX12_sort__339 rfl ?_
                            refine mG_aload_n (pc := 341) C dX12_sort__341 rfl ?_
                            refine mG_iload (pc := 342) C dX12_sort__342 rfl ?_
                            obtain ⟨v3289, e3290, e3216⟩ := mx_bind e3216
                            refine mG_iaload (pc := 344) C dX12_sort__344 e3290 ?_
                            obtain ⟨h3291, e3292, e3216⟩ := mx_bind e3216
                            refine mG_iastore (pc := 345) C dX12_sort__345 e3292 ?_
                            refine mG_aload_n (pc := 346) C dX12_sort__346 rfl ?_
                            refine mG_iload (pc := 347) C dX12_sort__347 rfl ?_
                            refine mG_aload_n (pc := 349) C dX12_sort__349 rfl ?_
                            refine mG_iload (pc := 350) C dX12_sort__350 rfl ?_
                            obtain ⟨v3293, e3294, e3216⟩ := mx_bind e3216
                            refine mG_iaload (pc := 352) C dX12_sort__352 e3294 ?_
                            obtain ⟨h3295, e3296, e3216⟩ := mx_bind e3216
                            refine mG_iastore (pc := 353) C dX12_sort__353 e3296 ?_
                            refine mG_aload_n (pc := 354) C dX12_sort__354 rfl ?_
                            refine mG_iload (pc := 355) C dX12_sort__355 rfl ?_
                            refine mG_iload (pc := 357) C dX12_sort__357 rfl ?_
                            obtain ⟨h3297, e3298, e3216⟩ := mx_bind e3216
                            refine mG_iastore (pc := 359) C dX12_sort__359 e3298 ?_
                            refine mG_goto (tgt := 437) (pc := 360) C dX12_sort__360 (by decide) ?_
                            exact mG_sub (mxLe_s (mxLe_s (mxLe_s (mxLe_s (mxLe_s (mxLe_s (mxLe_s (mxLe_n (mxLe_s (mxLe_s (mxLe_s (mxLe_s (mxLe_s (mxLe_n (mxLe_n (mxLe_n (mxLe_n (mxLe_n (mxLe_n (mxLe_n (mxLe_n mxLe_z))))))))))))))))))))) (J3214 _ (Option.some.inj e3216))
                      refine mG_icmp_ge (pc := 297) (tgt := 320) C dX12_sort__297 (by decide) (fun q3191 => ?_) (fun q3191 => ?_)
                      · rw [if_pos q3191] at e3194
                        exact mG_sub (mxLe_s (mxLe_s (mxLe_s (mxLe_s (mxLe_s (mxLe_s (mxLe_s (mxLe_n (mxLe_s (mxLe_s (mxLe_s (mxLe_s (mxLe_s (mxLe_s (mxLe_n (mxLe_n (mxLe_n (mxLe_n (mxLe_n (mxLe_n (mxLe_n mxLe_z))))))))))))))))))))) (J3192 _ (Option.some.inj e3194))
                      · rw [if_neg q3191] at e3194
                        refine mG_aload_n (pc := 300) C dX12_sort__300 rfl ?_
                        refine mG_iload (pc := 301) C dX12_sort__301 rfl ?_
                        obtain ⟨v3203, e3204, e3194⟩ := mx_bind e3194
                        refine mG_iaload (pc := 303) C dX12_sort__303 e3204 ?_
                        refine mG_is (ls' := [some (.null), some (.ref p1), some (.int (s1751.1 + 6)), some (.int p3), some (.int s1751.2.1), some (.int (s1751.2.1 - 1)), some (.int (s1751.2.1 - p3)), none, some (.int (p3 + v3081)), some (.int ((s1751.2.1 - 1) - v3081)), some (.int v3083), some (.int v3085), some (.int v3087), some (.int v3089), some (.int v3203), none, none, none, none, none, none]) (pc := 304) C dX12_sort__304 rfl rfl rfl ?_
                        refine mG_aload_n (pc := 306) C dX12_sort__306 rfl ?_
                        refine mG_iload (pc := 307) C dX12_sort__307 rfl ?_
                        refine mG_aload_n (pc := 309) C dX12_sort__309 rfl ?_
                        refine mG_iload (pc := 310) C dX12_sort__310 rfl ?_
                        obtain ⟨v3205, e3206, e3194⟩ := mx_bind e3194
                        refine mG_iaload (pc := 312) C dX12_sort__312 e3206 ?_
                        obtain ⟨h3207, e3208, e3194⟩ := mx_bind e3194
                        refine mG_iastore (pc := 313) C dX12_sort__313 e3208 ?_
                        refine mG_aload_n (pc := 314) C dX12_sort__314 rfl ?_
                        refine mG_iload (pc := 315) C dX12_sort__315 rfl ?_
                        refine mG_iload (pc := 317) C dX12_sort__317 rfl ?_
                        obtain ⟨h3209, e3210, e3194⟩ := mx_bind e3194
                        refine mG_iastore (pc := 319) C dX12_sort__319 e3210 ?_
                        exact mG_sub (mxLe_s (mxLe_s (mxLe_s (mxLe_s (mxLe_s (mxLe_s (mxLe_s (mxLe_n (mxLe_s (mxLe_s (mxLe_s (mxLe_s (mxLe_s (mxLe_s (mxLe_n (mxLe_n (mxLe_n (mxLe_n (mxLe_n (mxLe_n (mxLe_n mxLe_z))))))))))))))))))))) (J3192 _ (Option.some.inj e3194))
                    refine mG_icmp_ge (pc := 266) (tgt := 289) C dX12_sort__266 (by decide) (fun q3167 => ?_) (fun q3167 => ?_)
                    · rw [if_pos q3167] at e3170
                      exact mG_sub (mxLe_s (mxLe_s (mxLe_s (mxLe_s (mxLe_s (mxLe_s (mxLe_s (mxLe_n (mxLe_s (mxLe_s (mxLe_s (mxLe_s (mxLe_s (mxLe_s (mxLe_n (mxLe_n (mxLe_n (mxLe_n (mxLe_n (mxLe_n (mxLe_n mxLe_z))))))))))))))))))))) (J3168 _ (Option.some.inj e3170))
                    · rw [if_neg q3167] at e3170
                      refine mG_aload_n (pc := 269) C dX12_sort__269 rfl ?_
                      refine mG_iload (pc := 270) C dX12_sort__270 rfl ?_
                      obtain ⟨v3179, e3180, e3170⟩ := mx_bind e3170
                      refine mG_iaload (pc := 272) C dX12_sort__272 e3180 ?_
                      refine mG_is (ls' := [some (.null), some (.ref p1), some (.int (s1751.1 + 6)), some (.int p3), some (.int s1751.2.1), some (.int (s1751.2.1 - 1)), some (.int (s1751.2.1 - p3)), none, some (.int (p3 + v3081)), some (.int ((s1751.2.1 - 1) - v3081)), some (.int v3083), some (.int v3085), some (.int v3087), some (.int v3089), some (.int v3179), none, none, none, none, none, none]) (pc := 273) C dX12_sort__273 rfl rfl rfl ?_
                      refine mG_aload_n (pc := 275) C dX12_sort__275 rfl ?_
                      refine mG_iload (pc := 276) C dX12_sort__276 rfl ?_
                      refine mG_aload_n (pc := 278) C dX12_sort__278 rfl ?_
                      refine mG_iload (pc := 279) C dX12_sort__279 rfl ?_
                      obtain ⟨v3181, e3182, e3170⟩ := mx_bind e3170
                      refine mG_iaload (pc := 281) C dX12_sort__281 e3182 ?_
                      obtain ⟨h3183, e3184, e3170⟩ := mx_bind e3170
                      refine mG_iastore (pc := 282) C dX12_sort__282 e3184 ?_
                      refine mG_aload_n (pc := 283) C dX12_sort__283 rfl ?_
                      refine mG_iload (pc := 284) C dX12_sort__284 rfl ?_
                      refine mG_iload (pc := 286) C dX12_sort__286 rfl ?_
                      obtain ⟨h3185, e3186, e3170⟩ := mx_bind e3170
                      refine mG_iastore (pc := 288) C dX12_sort__288 e3186 ?_
                      exact mG_sub (mxLe_s (mxLe_s (mxLe_s (mxLe_s (mxLe_s (mxLe_s (mxLe_s (mxLe_n (mxLe_s (mxLe_s (mxLe_s (mxLe_s (mxLe_s (mxLe_s (mxLe_n (mxLe_n (mxLe_n (mxLe_n (mxLe_n (mxLe_n (mxLe_n mxLe_z))))))))))))))))))))) (J3168 _ (Option.some.inj e3170))
                  refine mG_icmp_ge (pc := 235) (tgt := 258) C dX12_sort__235 (by decide) (fun q3143 => ?_) (fun q3143 => ?_)
                  · rw [if_pos q3143] at e3146
                    exact mG_sub (mxLe_s (mxLe_s (mxLe_s (mxLe_s (mxLe_s (mxLe_s (mxLe_s (mxLe_n (mxLe_s (mxLe_s (mxLe_s (mxLe_s (mxLe_s (mxLe_s (mxLe_n (mxLe_n (mxLe_n (mxLe_n (mxLe_n (mxLe_n (mxLe_n mxLe_z))))))))))))))))))))) (J3144 _ (Option.some.inj e3146))
                  · rw [if_neg q3143] at e3146
                    refine mG_aload_n (pc := 238) C dX12_sort__238 rfl ?_
                    refine mG_iload (pc := 239) C dX12_sort__239 rfl ?_
                    obtain ⟨v3155, e3156, e3146⟩ := mx_bind e3146
                    refine mG_iaload (pc := 241) C dX12_sort__241 e3156 ?_
                    refine mG_is (ls' := [some (.null), some (.ref p1), some (.int (s1751.1 + 6)), some (.int p3), some (.int s1751.2.1), some (.int (s1751.2.1 - 1)), some (.int (s1751.2.1 - p3)), none, some (.int (p3 + v3081)), some (.int ((s1751.2.1 - 1) - v3081)), some (.int v3083), some (.int v3085), some (.int v3087), some (.int v3089), some (.int v3155), none, none, none, none, none, none]) (pc := 242) C dX12_sort__242 rfl rfl rfl ?_
                    refine mG_aload_n (pc := 244) C dX12_sort__244 rfl ?_
                    refine mG_iload (pc := 245) C dX12_sort__245 rfl ?_
                    refine mG_aload_n (pc := 247) C dX12_sort__247 rfl ?_
                    refine mG_iload (pc := 248) C dX12_sort__248 rfl ?_
                    obtain ⟨v3157, e3158, e3146⟩ := mx_bind e3146
                    refine mG_iaload (pc := 250) C dX12_sort__250 e3158 ?_
                    obtain ⟨h3159, e3160, e3146⟩ := mx_bind e3146
                    refine mG_iastore (pc := 251) C dX12_sort__251 e3160 ?_
                    refine mG_aload_n (pc := 252) C dX12_sort__252 rfl ?_
                    refine mG_iload (pc := 253) C dX12_sort__253 rfl ?_
                    refine mG_iload (pc := 255) C dX12_sort__255 rfl ?_
                    obtain ⟨h3161, e3162, e3146⟩ := mx_bind e3146
                    refine mG_iastore (pc := 257) C dX12_sort__257 e3162 ?_
                    exact mG_sub (mxLe_s (mxLe_s (mxLe_s (mxLe_s (mxLe_s (mxLe_s (mxLe_s (mxLe_n (mxLe_s (mxLe_s (mxLe_s (mxLe_s (mxLe_s (mxLe_s (mxLe_n (mxLe_n (mxLe_n (mxLe_n (mxLe_n (mxLe_n (mxLe_n mxLe_z))))))))))))))))))))) (J3144 _ (Option.some.inj e3146))
                refine mG_icmp_ge (pc := 204) (tgt := 227) C dX12_sort__204 (by decide) (fun q3119 => ?_) (fun q3119 => ?_)
                · rw [if_pos q3119] at e3122
                  exact mG_sub (mxLe_s (mxLe_s (mxLe_s (mxLe_s (mxLe_s (mxLe_s (mxLe_s (mxLe_n (mxLe_s (mxLe_s (mxLe_s (mxLe_s (mxLe_s (mxLe_s (mxLe_n (mxLe_n (mxLe_n (mxLe_n (mxLe_n (mxLe_n (mxLe_n mxLe_z))))))))))))))))))))) (J3120 _ (Option.some.inj e3122))
                · rw [if_neg q3119] at e3122
                  refine mG_aload_n (pc := 207) C dX12_sort__207 rfl ?_
                  refine mG_iload (pc := 208) C dX12_sort__208 rfl ?_
                  obtain ⟨v3131, e3132, e3122⟩ := mx_bind e3122
                  refine mG_iaload (pc := 210) C dX12_sort__210 e3132 ?_
                  refine mG_is (ls' := [some (.null), some (.ref p1), some (.int (s1751.1 + 6)), some (.int p3), some (.int s1751.2.1), some (.int (s1751.2.1 - 1)), some (.int (s1751.2.1 - p3)), none, some (.int (p3 + v3081)), some (.int ((s1751.2.1 - 1) - v3081)), some (.int v3083), some (.int v3085), some (.int v3087), some (.int v3089), some (.int v3131), none, none, none, none, none, none]) (pc := 211) C dX12_sort__211 rfl rfl rfl ?_
                  refine mG_aload_n (pc := 213) C dX12_sort__213 rfl ?_
                  refine mG_iload (pc := 214) C dX12_sort__214 rfl ?_
                  refine mG_aload_n (pc := 216) C dX12_sort__216 rfl ?_
                  refine mG_iload (pc := 217) C dX12_sort__217 rfl ?_
                  obtain ⟨v3133, e3134, e3122⟩ := mx_bind e3122
                  refine mG_iaload (pc := 219) C dX12_sort__219 e3134 ?_
                  obtain ⟨h3135, e3136, e3122⟩ := mx_bind e3122
                  refine mG_iastore (pc := 220) C dX12_sort__220 e3136 ?_
                  refine mG_aload_n (pc := 221) C dX12_sort__221 rfl ?_
                  refine mG_iload (pc := 222) C dX12_sort__222 rfl ?_
                  refine mG_iload (pc := 224) C dX12_sort__224 rfl ?_
                  obtain ⟨h3137, e3138, e3122⟩ := mx_bind e3122
                  refine mG_iastore (pc := 226) C dX12_sort__226 e3138 ?_
                  exact mG_sub (mxLe_s (mxLe_s (mxLe_s (mxLe_s (mxLe_s (mxLe_s (mxLe_s (mxLe_n (mxLe_s (mxLe_s (mxLe_s (mxLe_s (mxLe_s (mxLe_s (mxLe_n (mxLe_n (mxLe_n (mxLe_n (mxLe_n (mxLe_n (mxLe_n mxLe_z))))))))))))))))))))) (J3120 _ (Option.some.inj e3122))
              refine mG_icmp_ge (pc := 173) (tgt := 196) C dX12_sort__173 (by decide) (fun q3095 => ?_) (fun q3095 => ?_)
              · rw [if_pos q3095] at e3098
                exact mG_sub (mxLe_s (mxLe_s (mxLe_s (mxLe_s (mxLe_s (mxLe_s (mxLe_s (mxLe_n (mxLe_s (mxLe_s (mxLe_s (mxLe_s (mxLe_s (mxLe_s (mxLe_n (mxLe_n (mxLe_n (mxLe_n (mxLe_n (mxLe_n (mxLe_n mxLe_z))))))))))))))))))))) (J3096 _ (Option.some.inj e3098))
              · rw [if_neg q3095] at e3098
                refine mG_aload_n (pc := 176) C dX12_sort__176 rfl ?_
                refine mG_iload (pc := 177) C dX12_sort__177 rfl ?_
                obtain ⟨v3107, e3108, e3098⟩ := mx_bind e3098
                refine mG_iaload (pc := 179) C dX12_sort__179 e3108 ?_
                refine mG_is (ls' := [some (.null), some (.ref p1), some (.int (s1751.1 + 6)), some (.int p3), some (.int s1751.2.1), some (.int (s1751.2.1 - 1)), some (.int (s1751.2.1 - p3)), some (.int v3081), some (.int (p3 + v3081)), some (.int ((s1751.2.1 - 1) - v3081)), some (.int v3083), some (.int v3085), some (.int v3087), some (.int v3089), some (.int v3107), none, none, none, none, none, none]) (pc := 180) C dX12_sort__180 rfl rfl rfl ?_
                refine mG_aload_n (pc := 182) C dX12_sort__182 rfl ?_
                refine mG_iload (pc := 183) C dX12_sort__183 rfl ?_
                refine mG_aload_n (pc := 185) C dX12_sort__185 rfl ?_
                refine mG_iload (pc := 186) C dX12_sort__186 rfl ?_
                obtain ⟨v3109, e3110, e3098⟩ := mx_bind e3098
                refine mG_iaload (pc := 188) C dX12_sort__188 e3110 ?_
                obtain ⟨h3111, e3112, e3098⟩ := mx_bind e3098
                refine mG_iastore (pc := 189) C dX12_sort__189 e3112 ?_
                refine mG_aload_n (pc := 190) C dX12_sort__190 rfl ?_
                refine mG_iload (pc := 191) C dX12_sort__191 rfl ?_
                refine mG_iload (pc := 193) C dX12_sort__193 rfl ?_
                obtain ⟨h3113, e3114, e3098⟩ := mx_bind e3098
                refine mG_iastore (pc := 195) C dX12_sort__195 e3114 ?_
                exact mG_sub (mxLe_s (mxLe_s (mxLe_s (mxLe_s (mxLe_s (mxLe_s (mxLe_s (mxLe_n (mxLe_s (mxLe_s (mxLe_s (mxLe_s (mxLe_s (mxLe_s (mxLe_n (mxLe_n (mxLe_n (mxLe_n (mxLe_n (mxLe_n (mxLe_n mxLe_z))))))))))))))))))))) (J3096 _ (Option.some.inj e3098))
            · rw [if_neg q3080] at e1767
              exact mG_wd (by omega) (by omega) (mG_sub (mxLe_n (mxLe_s (mxLe_n (mxLe_n (mxLe_n (mxLe_n (mxLe_n (mxLe_n (mxLe_n (mxLe_n (mxLe_n (mxLe_n (mxLe_n (mxLe_n (mxLe_n (mxLe_n (mxLe_n (mxLe_n (mxLe_n (mxLe_n (mxLe_n mxLe_z))))))))))))))))))))) (J1759 _ (hx1763 _ (Option.some.inj e1767).symm)))
          · rw [if_neg q3079] at e1767
            exact mG_wd (by omega) (by omega) (mG_sub (mxLe_n (mxLe_n (mxLe_s (mxLe_n (mxLe_n (mxLe_n (mxLe_n (mxLe_n (mxLe_n (mxLe_n (mxLe_n (mxLe_n (mxLe_n (mxLe_n (mxLe_n (mxLe_n (mxLe_n (mxLe_n (mxLe_n (mxLe_n (mxLe_n mxLe_z))))))))))))))))))))) (J1757 _ (hx1763 _ (Option.some.inj e1767).symm)))
      · rw [if_neg q2642] at e1767
        exact mG_wd (by omega) (by omega) (mG_sub (mxLe_n (mxLe_s (mxLe_n (mxLe_s (mxLe_s (mxLe_n (mxLe_n (mxLe_n (mxLe_n (mxLe_n (mxLe_n (mxLe_n (mxLe_n (mxLe_n (mxLe_n (mxLe_n (mxLe_n (mxLe_n (mxLe_n (mxLe_n (mxLe_n mxLe_z))))))))))))))))))))) (J1756 _ (hx1763 _ (Option.some.inj e1767).symm)))
    · rw [if_neg q2641] at e1767
      exact mG_wd (by omega) (by omega) (mG_sub (mxLe_n (mxLe_s (mxLe_n (mxLe_n (mxLe_n (mxLe_n (mxLe_n (mxLe_n (mxLe_n (mxLe_n (mxLe_n (mxLe_n (mxLe_n (mxLe_n (mxLe_n (mxLe_n (mxLe_n (mxLe_n (mxLe_n (mxLe_n (mxLe_n mxLe_z))))))))))))))))))))) (J1755 _ (hx1763 _ (Option.some.inj e1767).symm)))
theorem dX12_sort_0 : decode cX12_sort 0 = .ok (.iload_n 3, 1) := by decide +kernel
theorem dX12_sort_1 : decode cX12_sort 1 = .ok (.iload_n 2, 1) := by decide +kernel
theorem dX12_sort_2 : decode cX12_sort 2 = .ok (.isub, 1) := by decide +kernel
theorem dX12_sort_3 : decode cX12_sort 3 = .ok (.istore 4, 2) := by decide +kernel
theorem dX12_sort_5 : decode cX12_sort 5 = .ok (.iload_n 1, 1) := by decide +kernel
theorem dX12_sort_6 : decode cX12_sort 6 = .ok (.iconst 1, 1) := by decide +kernel
theorem dX12_sort_7 : decode cX12_sort 7 = .ok (.if_icmp .le 61, 3) := by decide +kernel
theorem dX12_sort_68 : decode cX12_sort 68 = .ok (.aconst_null, 1) := by decide +kernel
theorem dX12_sort_69 : decode cX12_sort 69 = .ok (.aload_n 0, 1) := by decide +kernel
theorem dX12_sort_70 : decode cX12_sort 70 = .ok (.iconst 0, 1) := by decide +kernel
theorem dX12_sort_71 : decode cX12_sort 71 = .ok (.iload_n 2, 1) := by decide +kernel
theorem dX12_sort_72 : decode cX12_sort 72 = .ok (.iload_n 3, 1) := by decide +kernel
theorem dX12_sort_73 : decode cX12_sort 73 = .ok (.invokestatic 26, 3) := by decide +kernel
theorem dX12_sort_76 : decode cX12_sort 76 = .ok (.return_, 1) := by decide +kernel
def fX12_sort (p0 : Nat) (p1 : Int32) (p2 : Int32) (p3 : Int32) (h : mxH) : Option mxH := (if p1 ≤ 1 then Option.bind (fX12_sort_ p0 0 p2 p3 h) (fun o3 => some o3) else none)
abbrev rmX12_sort : Room := { frames := 3, cells := 70, slots := 8890, locals := 107 }
set_option maxRecDepth 20000 in
set_option maxHeartbeats 1000000 in
theorem tX12_sort {l : Launch} {Z : mxZ} (hl : l.stackTraces = false) {p0 : Nat} {p1 : Int32} {p2 : Int32} {p3 : Int32} {h : mxH} {out : mxH} (hf : fX12_sort p0 p1 p2 p3 h = some out) : mxMet l Z yX12_sort cX12_sort 7 (none) rmX12_sort [.ref p0, .int p1, .int p2, .int p3] h (.inl none) out := by
  refine mxMet_of (by decide) hl (by simp [Value.category]) (Nat.le_of_ble_eq_true rfl) ?_
  intro X C E hX hin
  unfold fX12_sort at hf
  refine mG_iload_n (pc := 0) C dX12_sort_0 rfl ?_
  refine mG_iload_n (pc := 1) C dX12_sort_1 rfl ?_
  refine mG_isub (pc := 2) C dX12_sort_2 ?_
  refine mG_is (ls' := [some (.ref p0), some (.int p1), some (.int p2), some (.int p3), some (.int (p3 - p2)), none, none]) (pc := 3) C dX12_sort_3 rfl rfl rfl ?_
  refine mG_iload_n (pc := 5) C dX12_sort_5 rfl ?_
  refine mG_ic (pc := 6) C dX12_sort_6 kI1 ?_
  refine mG_icmp_le (pc := 7) (tgt := 68) C dX12_sort_7 (by decide) (fun q1 => ?_) (fun q1 => ?_)
  · rw [if_pos q1] at hf
    refine mG_null (pc := 68) C dX12_sort_68 ?_
    refine mG_aload_n (pc := 69) C dX12_sort_69 rfl ?_
    refine mG_ic (pc := 70) C dX12_sort_70 kI0 ?_
    refine mG_iload_n (pc := 71) C dX12_sort_71 rfl ?_
    refine mG_iload_n (pc := 72) C dX12_sort_72 rfl ?_
    obtain ⟨o3, e2, hf⟩ := mx_bind hf
    refine mG_cS2 (pc := 73) (k' := 70) (n' := 8890) (h' := o3) (v := none) [.null, .ref p0, .int 0, .int p2, .int p3] [] C hX dX12_sort_73 lkS_X12_26 rfl (tX12_sort_ hl e2) rfl rfl rfl ⟨Nat.le_of_ble_eq_true rfl, Nat.le_of_ble_eq_true rfl⟩ rfl ?_
    cases hf
    exact mG_vr2 (pc := 76) C E hX dX12_sort_76 ⟨Nat.le_of_ble_eq_true rfl, Nat.le_of_ble_eq_true rfl⟩
  · rw [if_neg q1] at hf
    cases hf
theorem dJ7_sort_2022b_0 : decode cJ7_sort_2022b 0 = .ok (.aload_n 0, 1) := by decide +kernel
theorem dJ7_sort_2022b_1 : decode cJ7_sort_2022b 1 = .ok (.iconst 0, 1) := by decide +kernel
theorem dJ7_sort_2022b_2 : decode cJ7_sort_2022b 2 = .ok (.iconst 0, 1) := by decide +kernel
theorem dJ7_sort_2022b_3 : decode cJ7_sort_2022b 3 = .ok (.aload_n 0, 1) := by decide +kernel
theorem dJ7_sort_2022b_4 : decode cJ7_sort_2022b 4 = .ok (.arraylength, 1) := by decide +kernel
theorem dJ7_sort_2022b_5 : decode cJ7_sort_2022b 5 = .ok (.invokestatic 7, 3) := by decide +kernel
theorem dJ7_sort_2022b_8 : decode cJ7_sort_2022b 8 = .ok (.return_, 1) := by decide +kernel
def fJ7_sort_2022b (p0 : Nat) (h : mxH) : Option mxH := Option.bind (lenA h p0) (fun v1 => Option.bind (fX12_sort p0 0 0 v1 h) (fun o4 => some o4))
abbrev rmJ7_sort_2022b : Room := { frames := 4, cells := 70, slots := 8890, locals := 133 }
set_option maxRecDepth 20000 in
set_option maxHeartbeats 1000000 in
theorem tJ7_sort_2022b {l : Launch} {Z : mxZ} (hl : l.stackTraces = false) {p0 : Nat} {h : mxH} {out : mxH} (hf : fJ7_sort_2022b p0 h = some out) : mxMet l Z yJ7_sort_2022b cJ7_sort_2022b 1 (none) rmJ7_sort_2022b [.ref p0] h (.inl none) out := by
  refine mxMet_of (by decide) hl (by simp [Value.category]) (Nat.le_of_ble_eq_true rfl) ?_
  intro X C E hX hin
  unfold fJ7_sort_2022b at hf
  refine mG_aload_n (pc := 0) C dJ7_sort_2022b_0 rfl ?_
  refine mG_ic (pc := 1) C dJ7_sort_2022b_1 kI0 ?_
  refine mG_ic (pc := 2) C dJ7_sort_2022b_2 kI0 ?_
  refine mG_aload_n (pc := 3) C dJ7_sort_2022b_3 rfl ?_
  obtain ⟨v1, e2, hf⟩ := mx_bind hf
  refine mG_arraylength (pc := 4) C dJ7_sort_2022b_4 e2 ?_
  obtain ⟨o4, e3, hf⟩ := mx_bind hf
  refine mG_cS2 (pc := 5) (k' := 70) (n' := 8890) (h' := o4) (v := none) [.ref p0, .int 0, .int 0, .int v1] [] C hX dJ7_sort_2022b_5 lkS_J7_7 rfl (tX12_sort hl e3) rfl rfl rfl ⟨Nat.le_of_ble_eq_true rfl, Nat.le_of_ble_eq_true rfl⟩ rfl ?_
  cases hf
  exact mG_vr2 (pc := 8) C E hX dJ7_sort_2022b_8 ⟨Nat.le_of_ble_eq_true rfl, Nat.le_of_ble_eq_true rfl⟩
