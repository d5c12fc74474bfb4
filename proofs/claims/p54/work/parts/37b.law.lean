/-! printed by wip/gen54/emit2.py: for each method its function on the mini machine, and that the machine walks as the function says -/
theorem dL_ruled_0 : decode cL_ruled 0 = .ok (.iconst 0, 1) := by decide +kernel
theorem dL_ruled_1 : decode cL_ruled 1 = .ok (.istore_n 2, 1) := by decide +kernel
theorem dL_ruled_2 : decode cL_ruled 2 = .ok (.iconst 0, 1) := by decide +kernel
theorem dL_ruled_3 : decode cL_ruled 3 = .ok (.istore_n 3, 1) := by decide +kernel
theorem dL_ruled_4 : decode cL_ruled 4 = .ok (.ldc 66, 2) := by decide +kernel
theorem dL_ruled_6 : decode cL_ruled 6 = .ok (.istore 4, 2) := by decide +kernel
theorem dL_ruled_8 : decode cL_ruled 8 = .ok (.iconst 0, 1) := by decide +kernel
theorem dL_ruled_9 : decode cL_ruled 9 = .ok (.istore 5, 2) := by decide +kernel
theorem dL_ruled_11 : decode cL_ruled 11 = .ok (.iload 5, 2) := by decide +kernel
theorem dL_ruled_13 : decode cL_ruled 13 = .ok (.iconst 5, 1) := by decide +kernel
theorem dL_ruled_14 : decode cL_ruled 14 = .ok (.if_icmp .ge 46, 3) := by decide +kernel
theorem dL_ruled_17 : decode cL_ruled 17 = .ok (.iload_n 2, 1) := by decide +kernel
theorem dL_ruled_18 : decode cL_ruled 18 = .ok (.aload_n 1, 1) := by decide +kernel
theorem dL_ruled_19 : decode cL_ruled 19 = .ok (.iload 5, 2) := by decide +kernel
theorem dL_ruled_21 : decode cL_ruled 21 = .ok (.iaload, 1) := by decide +kernel
theorem dL_ruled_22 : decode cL_ruled 22 = .ok (.iadd, 1) := by decide +kernel
theorem dL_ruled_23 : decode cL_ruled 23 = .ok (.istore_n 2, 1) := by decide +kernel
theorem dL_ruled_24 : decode cL_ruled 24 = .ok (.iload_n 3, 1) := by decide +kernel
theorem dL_ruled_25 : decode cL_ruled 25 = .ok (.aload_n 1, 1) := by decide +kernel
theorem dL_ruled_26 : decode cL_ruled 26 = .ok (.iload 5, 2) := by decide +kernel
theorem dL_ruled_28 : decode cL_ruled 28 = .ok (.iaload, 1) := by decide +kernel
theorem dL_ruled_29 : decode cL_ruled 29 = .ok (.invokestatic 67, 3) := by decide +kernel
theorem dL_ruled_32 : decode cL_ruled 32 = .ok (.istore_n 3, 1) := by decide +kernel
theorem dL_ruled_33 : decode cL_ruled 33 = .ok (.aload_n 0, 1) := by decide +kernel
theorem dL_ruled_34 : decode cL_ruled 34 = .ok (.getfield 21, 3) := by decide +kernel
theorem dL_ruled_37 : decode cL_ruled 37 = .ok (.iload 5, 2) := by decide +kernel
theorem dL_ruled_39 : decode cL_ruled 39 = .ok (.iaload, 1) := by decide +kernel
theorem dL_ruled_40 : decode cL_ruled 40 = .ok (.ifCond .le 14, 3) := by decide +kernel
theorem dL_ruled_43 : decode cL_ruled 43 = .ok (.iload 4, 2) := by decide +kernel
theorem dL_ruled_45 : decode cL_ruled 45 = .ok (.aload_n 1, 1) := by decide +kernel
theorem dL_ruled_46 : decode cL_ruled 46 = .ok (.iload 5, 2) := by decide +kernel
theorem dL_ruled_48 : decode cL_ruled 48 = .ok (.iaload, 1) := by decide +kernel
theorem dL_ruled_49 : decode cL_ruled 49 = .ok (.invokestatic 72, 3) := by decide +kernel
theorem dL_ruled_52 : decode cL_ruled 52 = .ok (.istore 4, 2) := by decide +kernel
theorem dL_ruled_54 : decode cL_ruled 54 = .ok (.iinc 5 1, 3) := by decide +kernel
theorem dL_ruled_57 : decode cL_ruled 57 = .ok (.goto (-46), 3) := by decide +kernel
theorem dL_ruled_60 : decode cL_ruled 60 = .ok (.aload_n 0, 1) := by decide +kernel
theorem dL_ruled_61 : decode cL_ruled 61 = .ok (.getfield 47, 3) := by decide +kernel
theorem dL_ruled_64 : decode cL_ruled 64 = .ok (.ifCond .ne 7, 3) := by decide +kernel
theorem dL_ruled_67 : decode cL_ruled 67 = .ok (.iload_n 2, 1) := by decide +kernel
theorem dL_ruled_68 : decode cL_ruled 68 = .ok (.goto 28, 3) := by decide +kernel
theorem dL_ruled_71 : decode cL_ruled 71 = .ok (.aload_n 0, 1) := by decide +kernel
theorem dL_ruled_72 : decode cL_ruled 72 = .ok (.getfield 47, 3) := by decide +kernel
theorem dL_ruled_75 : decode cL_ruled 75 = .ok (.iconst 2, 1) := by decide +kernel
theorem dL_ruled_76 : decode cL_ruled 76 = .ok (.if_icmp .ne 7, 3) := by decide +kernel
theorem dL_ruled_79 : decode cL_ruled 79 = .ok (.iload_n 3, 1) := by decide +kernel
theorem dL_ruled_80 : decode cL_ruled 80 = .ok (.goto 16, 3) := by decide +kernel
theorem dL_ruled_83 : decode cL_ruled 83 = .ok (.iload 4, 2) := by decide +kernel
theorem dL_ruled_85 : decode cL_ruled 85 = .ok (.ldc 66, 2) := by decide +kernel
theorem dL_ruled_87 : decode cL_ruled 87 = .ok (.if_icmp .ne 7, 3) := by decide +kernel
theorem dL_ruled_90 : decode cL_ruled 90 = .ok (.iconst 0, 1) := by decide +kernel
theorem dL_ruled_91 : decode cL_ruled 91 = .ok (.goto 5, 3) := by decide +kernel
theorem dL_ruled_94 : decode cL_ruled 94 = .ok (.iload 4, 2) := by decide +kernel
theorem dL_ruled_96 : decode cL_ruled 96 = .ok (.ireturn, 1) := by decide +kernel
def fL_ruled (p0 : Nat) (p1 : Nat) (h : mxH) : Option Int32 := Option.bind (mxLoop (ρ := (Int32 × Int32 × Int32)) (fun s1 : (Int32 × Int32 × Int32 × Int32) => (if 5 ≤ s1.2.2.2 then some (Sum.inr (s1.1, s1.2.1, s1.2.2.1)) else Option.bind (ldI h p1 s1.2.2.2) (fun v10 => Option.bind (ldI h p1 s1.2.2.2) (fun v12 => Option.bind (gR h p0 11 3) (fun r14 => Option.bind (ldI h r14 s1.2.2.2) (fun v16 => Option.bind (α := Int32) (if v16 ≤ 0 then some s1.2.2.1 else Option.bind (ldI h p1 s1.2.2.2) (fun v24 => some (mxMin s1.2.2.1 v24))) (fun jp20' : Int32 => some (Sum.inl (s1.1 + v10, mxMax s1.2.1 v12, jp20', s1.2.2.2 + 1))))))))) mxF (0, 0, 2147483647, 0)) (fun r27 : (Int32 × Int32 × Int32) => Option.bind (gI h p0 11 4) (fun v28 => Option.bind (α := Int32) (if v28 = 0 then some r27.1 else Option.bind (gI h p0 11 4) (fun v38 => (if v38 = 2 then some r27.2.1 else (if r27.2.2 = 2147483647 then some 0 else some r27.2.2)))) (fun jp32' : Int32 => some jp32')))
abbrev rmL_ruled : Room := { frames := 1, cells := 0, slots := 0, locals := 21 }
set_option maxRecDepth 20000 in
set_option maxHeartbeats 1000000 in
theorem tL_ruled {l : Launch} {Z : mxZ} (hl : l.stackTraces = false) {p0 : Nat} {p1 : Nat} {h : mxH} {out : Int32} (hf : fL_ruled p0 p1 h = some out) : mxMet l Z yL_ruled cL_ruled 6 (some .int) rmL_ruled [.ref p0, .ref p1] h (.inl (some (.int out))) h := by
  refine mxMet_of (by decide) hl (by simp [Value.category]) (Nat.le_of_ble_eq_true rfl) ?_
  intro X C E hX hin
  unfold fL_ruled at hf
  refine mG_ic (pc := 0) C dL_ruled_0 kI0 ?_
  refine mG_isn (ls' := [some (.ref p0), some (.ref p1), some (.int 0), none, none, none]) (pc := 1) C dL_ruled_1 rfl rfl rfl ?_
  refine mG_ic (pc := 2) C dL_ruled_2 kI0 ?_
  refine mG_isn (ls' := [some (.ref p0), some (.ref p1), some (.int 0), some (.int 0), none, none]) (pc := 3) C dL_ruled_3 rfl rfl rfl ?_
  refine mG_ldci (pc := 4) C dL_ruled_4 w716 ?_
  refine mG_is (ls' := [some (.ref p0), some (.ref p1), some (.int 0), some (.int 0), some (.int 2147483647), none]) (pc := 6) C dL_ruled_6 rfl rfl rfl ?_
  refine mG_ic (pc := 8) C dL_ruled_8 kI0 ?_
  refine mG_is (ls' := [some (.ref p0), some (.ref p1), some (.int 0), some (.int 0), some (.int 2147483647), some (.int 0)]) (pc := 9) C dL_ruled_9 rfl rfl rfl ?_
  obtain ⟨r2, e3, hf⟩ := mx_bind hf
  have J4 : ∀ r27 : (Int32 × Int32 × Int32), r27 = r2 → mG l Z X 6 0 0 60 [some (.ref p0), none, some (.int r27.1), some (.int r27.2.1), some (.int r27.2.2), none] [] h := by
    intro r27 q43
    subst q43
    refine mG_aload_n (pc := 60) C dL_ruled_60 rfl ?_
    obtain ⟨v28, e29, hf⟩ := mx_bind hf
    refine mG_getI (pc := 61) C dL_ruled_61 fl_L_47 e29 ?_
    obtain ⟨jp32, e33, hf⟩ := mx_bind hf
    have J31 : ∀ jp32' : Int32, jp32' = jp32 → mG l Z X 6 0 0 96 [none, none, none, none, none, none] [.int jp32'] h := by
      intro jp32' q42
      subst q42
      cases hf
      exact mG_ir2 (pc := 96) C E hX dL_ruled_96 ⟨Nat.le_of_ble_eq_true rfl, Nat.le_of_ble_eq_true rfl⟩
    refine mG_if_ne (pc := 64) (tgt := 71) C dL_ruled_64 (by decide) (fun q30 => ?_) (fun q30 => ?_)
    · rw [if_neg q30] at e33
      refine mG_aload_n (pc := 71) C dL_ruled_71 rfl ?_
      obtain ⟨v38, e39, e33⟩ := mx_bind e33
      refine mG_getI (pc := 72) C dL_ruled_72 fl_L_47 e39 ?_
      refine mG_ic (pc := 75) C dL_ruled_75 kI2 ?_
      refine mG_icmp_ne (pc := 76) (tgt := 83) C dL_ruled_76 (by decide) (fun q40 => ?_) (fun q40 => ?_)
      · rw [if_neg q40] at e33
        refine mG_iload (pc := 83) C dL_ruled_83 rfl ?_
        refine mG_ldci (pc := 85) C dL_ruled_85 w716 ?_
        refine mG_icmp_ne (pc := 87) (tgt := 94) C dL_ruled_87 (by decide) (fun q41 => ?_) (fun q41 => ?_)
        · rw [if_neg q41] at e33
          refine mG_iload (pc := 94) C dL_ruled_94 rfl ?_
          exact mG_sub (mxLe_n (mxLe_n (mxLe_n (mxLe_n (mxLe_n (mxLe_n mxLe_z)))))) (J31 _ (Option.some.inj e33))
        · rw [if_pos q41] at e33
          refine mG_ic (pc := 90) C dL_ruled_90 kI0 ?_
          refine mG_goto (tgt := 96) (pc := 91) C dL_ruled_91 (by decide) ?_
          exact mG_sub (mxLe_n (mxLe_n (mxLe_n (mxLe_n (mxLe_n (mxLe_n mxLe_z)))))) (J31 _ (Option.some.inj e33))
      · rw [if_pos q40] at e33
        refine mG_iload_n (pc := 79) C dL_ruled_79 rfl ?_
        refine mG_goto (tgt := 96) (pc := 80) C dL_ruled_80 (by decide) ?_
        exact mG_sub (mxLe_n (mxLe_n (mxLe_n (mxLe_n (mxLe_n (mxLe_n mxLe_z)))))) (J31 _ (Option.some.inj e33))
    · rw [if_pos q30] at e33
      refine mG_iload_n (pc := 67) C dL_ruled_67 rfl ?_
      refine mG_goto (tgt := 96) (pc := 68) C dL_ruled_68 (by decide) ?_
      exact mG_sub (mxLe_n (mxLe_n (mxLe_n (mxLe_n (mxLe_n (mxLe_n mxLe_z)))))) (J31 _ (Option.some.inj e33))
  refine mG_sub (ls' := [some (.ref p0), some (.ref p1), some (.int 0), some (.int 0), some (.int 2147483647), some (.int 0)]) (mxLe_s (mxLe_s (mxLe_s (mxLe_s (mxLe_s (mxLe_s mxLe_z)))))) (mxLoop_ind (K := fun s1 : (Int32 × Int32 × Int32 × Int32) => mG l Z X 6 0 0 11 [some (.ref p0), some (.ref p1), some (.int s1.1), some (.int s1.2.1), some (.int s1.2.2.1), some (.int s1.2.2.2)] [] h) ?_ _ _ e3)
  intro s1 o7 e8 hK5 hx6
  refine mG_iload (pc := 11) C dL_ruled_11 rfl ?_
  refine mG_ic (pc := 13) C dL_ruled_13 kI5 ?_
  refine mG_icmp_ge (pc := 14) (tgt := 60) C dL_ruled_14 (by decide) (fun q9 => ?_) (fun q9 => ?_)
  · rw [if_pos q9] at e8
    exact mG_sub (mxLe_s (mxLe_n (mxLe_s (mxLe_s (mxLe_s (mxLe_n mxLe_z)))))) (J4 _ (hx6 _ (Option.some.inj e8).symm))
  · rw [if_neg q9] at e8
    refine mG_iload_n (pc := 17) C dL_ruled_17 rfl ?_
    refine mG_aload_n (pc := 18) C dL_ruled_18 rfl ?_
    refine mG_iload (pc := 19) C dL_ruled_19 rfl ?_
    obtain ⟨v10, e11, e8⟩ := mx_bind e8
    refine mG_iaload (pc := 21) C dL_ruled_21 e11 ?_
    refine mG_iadd (pc := 22) C dL_ruled_22 ?_
    refine mG_isn (ls' := [some (.ref p0), some (.ref p1), some (.int (s1.1 + v10)), some (.int s1.2.1), some (.int s1.2.2.1), some (.int s1.2.2.2)]) (pc := 23) C dL_ruled_23 rfl rfl rfl ?_
    refine mG_iload_n (pc := 24) C dL_ruled_24 rfl ?_
    refine mG_aload_n (pc := 25) C dL_ruled_25 rfl ?_
    refine mG_iload (pc := 26) C dL_ruled_26 rfl ?_
    obtain ⟨v12, e13, e8⟩ := mx_bind e8
    refine mG_iaload (pc := 28) C dL_ruled_28 e13 ?_
    refine mG_mx2 (pc := 29) C hX dL_ruled_29 w717 wmax rfl ⟨Nat.le_of_ble_eq_true rfl, Nat.le_of_ble_eq_true rfl⟩ rfl ?_
    refine mG_isn (ls' := [some (.ref p0), some (.ref p1), some (.int (s1.1 + v10)), some (.int (mxMax s1.2.1 v12)), some (.int s1.2.2.1), some (.int s1.2.2.2)]) (pc := 32) C dL_ruled_32 rfl rfl rfl ?_
    refine mG_aload_n (pc := 33) C dL_ruled_33 rfl ?_
    obtain ⟨r14, e15, e8⟩ := mx_bind e8
    refine mG_getR (pc := 34) C dL_ruled_34 fl_L_21 e15 ?_
    refine mG_iload (pc := 37) C dL_ruled_37 rfl ?_
    obtain ⟨v16, e17, e8⟩ := mx_bind e8
    refine mG_iaload (pc := 39) C dL_ruled_39 e17 ?_
    obtain ⟨jp20, e21, e8⟩ := mx_bind e8
    have J19 : ∀ jp20' : Int32, jp20' = jp20 → mG l Z X 6 0 0 54 [some (.ref p0), some (.ref p1), some (.int (s1.1 + v10)), some (.int (mxMax s1.2.1 v12)), some (.int jp20'), some (.int s1.2.2.2)] [] h := by
      intro jp20' q26
      subst q26
      refine mG_ii (ls' := [some (.ref p0), some (.ref p1), some (.int (s1.1 + v10)), some (.int (mxMax s1.2.1 v12)), some (.int jp20'), some (.int (s1.2.2.2 + 1))]) (pc := 54) C dL_ruled_54 rfl (kinc1 _) rfl rfl rfl ?_
      refine mG_goto (tgt := 11) (pc := 57) C dL_ruled_57 (by decide) ?_
      exact mG_sub (mxLe_s (mxLe_s (mxLe_s (mxLe_s (mxLe_s (mxLe_s mxLe_z)))))) (hK5 _ (Option.some.inj e8).symm)
    refine mG_if_le (pc := 40) (tgt := 54) C dL_ruled_40 (by decide) (fun q18 => ?_) (fun q18 => ?_)
    · rw [if_pos q18] at e21
      exact mG_sub (mxLe_s (mxLe_s (mxLe_s (mxLe_s (mxLe_s (mxLe_s mxLe_z)))))) (J19 _ (Option.some.inj e21))
    · rw [if_neg q18] at e21
      refine mG_iload (pc := 43) C dL_ruled_43 rfl ?_
      refine mG_aload_n (pc := 45) C dL_ruled_45 rfl ?_
      refine mG_iload (pc := 46) C dL_ruled_46 rfl ?_
      obtain ⟨v24, e25, e21⟩ := mx_bind e21
      refine mG_iaload (pc := 48) C dL_ruled_48 e25 ?_
      refine mG_mn2 (pc := 49) C hX dL_ruled_49 w718 wmin rfl ⟨Nat.le_of_ble_eq_true rfl, Nat.le_of_ble_eq_true rfl⟩ rfl ?_
      refine mG_is (ls' := [some (.ref p0), some (.ref p1), some (.int (s1.1 + v10)), some (.int (mxMax s1.2.1 v12)), some (.int (mxMin s1.2.2.1 v24)), some (.int s1.2.2.2)]) (pc := 52) C dL_ruled_52 rfl rfl rfl ?_
      exact mG_sub (mxLe_s (mxLe_s (mxLe_s (mxLe_s (mxLe_s (mxLe_s mxLe_z)))))) (J19 _ (Option.some.inj e21))
theorem dL_bound_0 : decode cL_bound 0 = .ok (.iconst 5, 1) := by decide +kernel
theorem dL_bound_1 : decode cL_bound 1 = .ok (.newarray .int, 2) := by decide +kernel
theorem dL_bound_3 : decode cL_bound 3 = .ok (.astore 4, 2) := by decide +kernel
theorem dL_bound_5 : decode cL_bound 5 = .ok (.iconst 0, 1) := by decide +kernel
theorem dL_bound_6 : decode cL_bound 6 = .ok (.istore 5, 2) := by decide +kernel
theorem dL_bound_8 : decode cL_bound 8 = .ok (.iload 5, 2) := by decide +kernel
theorem dL_bound_10 : decode cL_bound 10 = .ok (.iconst 5, 1) := by decide +kernel
theorem dL_bound_11 : decode cL_bound 11 = .ok (.if_icmp .ge 60, 3) := by decide +kernel
theorem dL_bound_14 : decode cL_bound 14 = .ok (.aload 4, 2) := by decide +kernel
theorem dL_bound_16 : decode cL_bound 16 = .ok (.iload 5, 2) := by decide +kernel
theorem dL_bound_18 : decode cL_bound 18 = .ok (.aload_n 0, 1) := by decide +kernel
theorem dL_bound_19 : decode cL_bound 19 = .ok (.iload 5, 2) := by decide +kernel
theorem dL_bound_21 : decode cL_bound 21 = .ok (.iload_n 1, 1) := by decide +kernel
theorem dL_bound_22 : decode cL_bound 22 = .ok (.iload_n 2, 1) := by decide +kernel
theorem dL_bound_23 : decode cL_bound 23 = .ok (.invokevirtual 61, 3) := by decide +kernel
theorem dL_bound_26 : decode cL_bound 26 = .ok (.ifCond .eq 23, 3) := by decide +kernel
theorem dL_bound_29 : decode cL_bound 29 = .ok (.aload_n 0, 1) := by decide +kernel
theorem dL_bound_30 : decode cL_bound 30 = .ok (.getfield 21, 3) := by decide +kernel
theorem dL_bound_33 : decode cL_bound 33 = .ok (.iload 5, 2) := by decide +kernel
theorem dL_bound_35 : decode cL_bound 35 = .ok (.iaload, 1) := by decide +kernel
theorem dL_bound_36 : decode cL_bound 36 = .ok (.aload_n 0, 1) := by decide +kernel
theorem dL_bound_37 : decode cL_bound 37 = .ok (.getfield 18, 3) := by decide +kernel
theorem dL_bound_40 : decode cL_bound 40 = .ok (.iload 5, 2) := by decide +kernel
theorem dL_bound_42 : decode cL_bound 42 = .ok (.aaload, 1) := by decide +kernel
theorem dL_bound_43 : decode cL_bound 43 = .ok (.iload_n 1, 1) := by decide +kernel
theorem dL_bound_44 : decode cL_bound 44 = .ok (.iaload, 1) := by decide +kernel
theorem dL_bound_45 : decode cL_bound 45 = .ok (.imul, 1) := by decide +kernel
theorem dL_bound_46 : decode cL_bound 46 = .ok (.goto 18, 3) := by decide +kernel
theorem dL_bound_49 : decode cL_bound 49 = .ok (.iload_n 3, 1) := by decide +kernel
theorem dL_bound_50 : decode cL_bound 50 = .ok (.ifCond .eq 13, 3) := by decide +kernel
theorem dL_bound_53 : decode cL_bound 53 = .ok (.aload_n 0, 1) := by decide +kernel
theorem dL_bound_54 : decode cL_bound 54 = .ok (.iload 5, 2) := by decide +kernel
theorem dL_bound_56 : decode cL_bound 56 = .ok (.iload_n 2, 1) := by decide +kernel
theorem dL_bound_57 : decode cL_bound 57 = .ok (.invokevirtual 75, 3) := by decide +kernel
theorem dL_bound_60 : decode cL_bound 60 = .ok (.goto 4, 3) := by decide +kernel
theorem dL_bound_63 : decode cL_bound 63 = .ok (.iconst 0, 1) := by decide +kernel
theorem dL_bound_64 : decode cL_bound 64 = .ok (.iastore, 1) := by decide +kernel
theorem dL_bound_65 : decode cL_bound 65 = .ok (.iinc 5 1, 3) := by decide +kernel
theorem dL_bound_68 : decode cL_bound 68 = .ok (.goto (-60), 3) := by decide +kernel
theorem dL_bound_71 : decode cL_bound 71 = .ok (.aload_n 0, 1) := by decide +kernel
theorem dL_bound_72 : decode cL_bound 72 = .ok (.aload 4, 2) := by decide +kernel
theorem dL_bound_74 : decode cL_bound 74 = .ok (.invokevirtual 78, 3) := by decide +kernel
theorem dL_bound_77 : decode cL_bound 77 = .ok (.ireturn, 1) := by decide +kernel
def fL_bound (p0 : Nat) (p1 : Int32) (p2 : Int32) (p3 : Int32) (h : mxH) : Option (Int32 × mxH) := Option.bind (nwV h 5 5) (fun h1 => Option.bind (mxLoop (ρ := mxH) (fun s3 : (Int32 × mxH) => (if 5 ≤ s3.1 then some (Sum.inr s3.2) else Option.bind (isO s3.2 p0 11) (fun u12 => Option.bind (fL_isRead p0 s3.1 p1 p2 s3.2) (fun o15 => Option.bind (α := Int32) (if o15 = 0 then (if p3 = 0 then some 0 else Option.bind (isO s3.2 p0 11) (fun u36 => Option.bind (fL_last p0 s3.1 p2 s3.2) (fun o39 => some o39))) else Option.bind (gR s3.2 p0 11 3) (fun r40 => Option.bind (ldI s3.2 r40 s3.1) (fun v42 => Option.bind (gR s3.2 p0 11 2) (fun r44 => Option.bind (ldR s3.2 r44 s3.1) (fun r46 => Option.bind (ldI s3.2 r46 p1) (fun v48 => some (v42 * v48))))))) (fun jp18' : Int32 => Option.bind (stI s3.2 h.2 s3.1 jp18') (fun h50 => some (Sum.inl (s3.1 + 1, h50)))))))) mxF (0, h1)) (fun r53 : mxH => Option.bind (isO r53 p0 11) (fun u54 => Option.bind (fL_ruled p0 h.2 r53) (fun o57 => some (o57, r53)))))
abbrev rmL_bound : Room := { frames := 3, cells := 1, slots := 5, locals := 70 }
set_option maxRecDepth 20000 in
set_option maxHeartbeats 1000000 in
theorem tL_bound {l : Launch} {Z : mxZ} (hl : l.stackTraces = false) {p0 : Nat} {p1 : Int32} {p2 : Int32} {p3 : Int32} {h : mxH} {out : (Int32 × mxH)} (hf : fL_bound p0 p1 p2 p3 h = some out) : mxMet l Z yL_bound cL_bound 6 (some .int) rmL_bound [.ref p0, .int p1, .int p2, .int p3] h (.inl (some (.int out.1))) out.2 := by
  refine mxMet_of (by decide) hl (by simp [Value.category]) (Nat.le_of_ble_eq_true rfl) ?_
  intro X C E hX hin
  unfold fL_bound at hf
  refine mG_ic (pc := 0) C dL_bound_0 kI5 ?_
  obtain ⟨h1, e2, hf⟩ := mx_bind hf
  refine mG_nwV (B := 5) (pc := 1) (k' := 1) (n' := 5) C hX dL_bound_1 w272 rfl e2 rfl rfl ⟨Nat.le_of_ble_eq_true rfl, Nat.le_of_ble_eq_true rfl⟩ ?_
  refine mG_as (ls' := [some (.ref p0), some (.int p1), some (.int p2), some (.int p3), some (.ref h.2), none]) (pc := 3) C dL_bound_3 rfl rfl rfl ?_
  refine mG_ic (pc := 5) C dL_bound_5 kI0 ?_
  refine mG_is (ls' := [some (.ref p0), some (.int p1), some (.int p2), some (.int p3), some (.ref h.2), some (.int 0)]) (pc := 6) C dL_bound_6 rfl rfl rfl ?_
  obtain ⟨r4, e5, hf⟩ := mx_bind hf
  have J6 : ∀ r53 : mxH, r53 = r4 → mG l Z X 6 1 5 71 [some (.ref p0), none, none, none, some (.ref h.2), none] [] r53 := by
    intro r53 q58
    subst q58
    refine mG_aload_n (pc := 71) C dL_bound_71 rfl ?_
    refine mG_aload (pc := 72) C dL_bound_72 rfl ?_
    obtain ⟨u54, e55, hf⟩ := mx_bind hf
    obtain ⟨o57, e56, hf⟩ := mx_bind hf
    refine mG_cV2 (pc := 74) (k' := 1) (n' := 5) (h' := r53) (v := some (.int o57)) 11 [.ref h.2] [] C hX dL_bound_74 lkV_L_78 rfl rfl e55 (tL_ruled hl e56) rfl rfl rfl ⟨Nat.le_of_ble_eq_true rfl, Nat.le_of_ble_eq_true rfl⟩ rfl ?_
    cases hf
    exact mG_ir2 (pc := 77) C E hX dL_bound_77 ⟨Nat.le_of_ble_eq_true rfl, Nat.le_of_ble_eq_true rfl⟩
  refine mG_sub (ls' := [some (.ref p0), some (.int p1), some (.int p2), some (.int p3), some (.ref h.2), some (.int 0)]) (mxLe_s (mxLe_s (mxLe_s (mxLe_s (mxLe_s (mxLe_s mxLe_z)))))) (mxLoop_ind (K := fun s3 : (Int32 × mxH) => mG l Z X 6 1 5 8 [some (.ref p0), some (.int p1), some (.int p2), some (.int p3), some (.ref h.2), some (.int s3.1)] [] s3.2) ?_ _ _ e5)
  intro s3 o9 e10 hK7 hx8
  refine mG_iload (pc := 8) C dL_bound_8 rfl ?_
  refine mG_ic (pc := 10) C dL_bound_10 kI5 ?_
  refine mG_icmp_ge (pc := 11) (tgt := 71) C dL_bound_11 (by decide) (fun q11 => ?_) (fun q11 => ?_)
  · rw [if_pos q11] at e10
    exact mG_sub (mxLe_s (mxLe_n (mxLe_n (mxLe_n (mxLe_s (mxLe_n mxLe_z)))))) (J6 _ (hx8 _ (Option.some.inj e10).symm))
  · rw [if_neg q11] at e10
    refine mG_aload (pc := 14) C dL_bound_14 rfl ?_
    refine mG_iload (pc := 16) C dL_bound_16 rfl ?_
    refine mG_aload_n (pc := 18) C dL_bound_18 rfl ?_
    refine mG_iload (pc := 19) C dL_bound_19 rfl ?_
    refine mG_iload_n (pc := 21) C dL_bound_21 rfl ?_
    refine mG_iload_n (pc := 22) C dL_bound_22 rfl ?_
    obtain ⟨u12, e13, e10⟩ := mx_bind e10
    obtain ⟨o15, e14, e10⟩ := mx_bind e10
    refine mG_cV2 (pc := 23) (k' := 1) (n' := 5) (h' := s3.2) (v := some (.int o15)) 11 [.int s3.1, .int p1, .int p2] [.int s3.1, .ref h.2] C hX dL_bound_23 lkV_L_61 rfl rfl e13 (tL_isRead hl e14) rfl rfl rfl ⟨Nat.le_of_ble_eq_true rfl, Nat.le_of_ble_eq_true rfl⟩ rfl ?_
    obtain ⟨jp18, e19, e10⟩ := mx_bind e10
    have J17 : ∀ jp18' : Int32, jp18' = jp18 → mG l Z X 6 1 5 64 [some (.ref p0), some (.int p1), some (.int p2), some (.int p3), some (.ref h.2), some (.int s3.1)] [.int jp18', .int s3.1, .ref h.2] s3.2 := by
      intro jp18' q52
      subst q52
      obtain ⟨h50, e51, e10⟩ := mx_bind e10
      refine mG_iastore (pc := 64) C dL_bound_64 e51 ?_
      refine mG_ii (ls' := [some (.ref p0), some (.int p1), some (.int p2), some (.int p3), some (.ref h.2), some (.int (s3.1 + 1))]) (pc := 65) C dL_bound_65 rfl (kinc1 _) rfl rfl rfl ?_
      refine mG_goto (tgt := 8) (pc := 68) C dL_bound_68 (by decide) ?_
      exact mG_sub (mxLe_s (mxLe_s (mxLe_s (mxLe_s (mxLe_s (mxLe_s mxLe_z)))))) (hK7 _ (Option.some.inj e10).symm)
    refine mG_if_eq (pc := 26) (tgt := 49) C dL_bound_26 (by decide) (fun q16 => ?_) (fun q16 => ?_)
    · rw [if_pos q16] at e19
      refine mG_iload_n (pc := 49) C dL_bound_49 rfl ?_
      refine mG_if_eq (pc := 50) (tgt := 63) C dL_bound_50 (by decide) (fun q35 => ?_) (fun q35 => ?_)
      · rw [if_pos q35] at e19
        refine mG_ic (pc := 63) C dL_bound_63 kI0 ?_
        exact mG_sub (mxLe_s (mxLe_s (mxLe_s (mxLe_s (mxLe_s (mxLe_s mxLe_z)))))) (J17 _ (Option.some.inj e19))
      · rw [if_neg q35] at e19
        refine mG_aload_n (pc := 53) C dL_bound_53 rfl ?_
        refine mG_iload (pc := 54) C dL_bound_54 rfl ?_
        refine mG_iload_n (pc := 56) C dL_bound_56 rfl ?_
        obtain ⟨u36, e37, e19⟩ := mx_bind e19
        obtain ⟨o39, e38, e19⟩ := mx_bind e19
        refine mG_cV2 (pc := 57) (k' := 1) (n' := 5) (h' := s3.2) (v := some (.int o39)) 11 [.int s3.1, .int p2] [.int s3.1, .ref h.2] C hX dL_bound_57 lkV_L_75 rfl rfl e37 (tL_last hl e38) rfl rfl rfl ⟨Nat.le_of_ble_eq_true rfl, Nat.le_of_ble_eq_true rfl⟩ rfl ?_
        refine mG_goto (tgt := 64) (pc := 60) C dL_bound_60 (by decide) ?_
        exact mG_sub (mxLe_s (mxLe_s (mxLe_s (mxLe_s (mxLe_s (mxLe_s mxLe_z)))))) (J17 _ (Option.some.inj e19))
    · rw [if_neg q16] at e19
      refine mG_aload_n (pc := 29) C dL_bound_29 rfl ?_
      obtain ⟨r40, e41, e19⟩ := mx_bind e19
      refine mG_getR (pc := 30) C dL_bound_30 fl_L_21 e41 ?_
      refine mG_iload (pc := 33) C dL_bound_33 rfl ?_
      obtain ⟨v42, e43, e19⟩ := mx_bind e19
      refine mG_iaload (pc := 35) C dL_bound_35 e43 ?_
      refine mG_aload_n (pc := 36) C dL_bound_36 rfl ?_
      obtain ⟨r44, e45, e19⟩ := mx_bind e19
      refine mG_getR (pc := 37) C dL_bound_37 fl_L_18 e45 ?_
      refine mG_iload (pc := 40) C dL_bound_40 rfl ?_
      obtain ⟨r46, e47, e19⟩ := mx_bind e19
      refine mG_aaload (pc := 42) C dL_bound_42 e47 ?_
      refine mG_iload_n (pc := 43) C dL_bound_43 rfl ?_
      obtain ⟨v48, e49, e19⟩ := mx_bind e19
      refine mG_iaload (pc := 44) C dL_bound_44 e49 ?_
      refine mG_imul (pc := 45) C dL_bound_45 ?_
      refine mG_goto (tgt := 64) (pc := 46) C dL_bound_46 (by decide) ?_
      exact mG_sub (mxLe_s (mxLe_s (mxLe_s (mxLe_s (mxLe_s (mxLe_s mxLe_z)))))) (J17 _ (Option.some.inj e19))
theorem dL_value_0 : decode cL_value 0 = .ok (.aload_n 0, 1) := by decide +kernel
theorem dL_value_1 : decode cL_value 1 = .ok (.iload_n 1, 1) := by decide +kernel
theorem dL_value_2 : decode cL_value 2 = .ok (.bipush 20, 2) := by decide +kernel
theorem dL_value_4 : decode cL_value 4 = .ok (.iconst 0, 1) := by decide +kernel
theorem dL_value_5 : decode cL_value 5 = .ok (.invokevirtual 82, 3) := by decide +kernel
theorem dL_value_8 : decode cL_value 8 = .ok (.ireturn, 1) := by decide +kernel
def fL_value (p0 : Nat) (p1 : Int32) (h : mxH) : Option (Int32 × mxH) := Option.bind (isO h p0 11) (fun u1 => Option.bind (fL_bound p0 p1 20 0 h) (fun o4 => some (o4.1, o4.2)))
abbrev rmL_value : Room := { frames := 4, cells := 1, slots := 5, locals := 95 }
set_option maxRecDepth 20000 in
set_option maxHeartbeats 1000000 in
theorem tL_value {l : Launch} {Z : mxZ} (hl : l.stackTraces = false) {p0 : Nat} {p1 : Int32} {h : mxH} {out : (Int32 × mxH)} (hf : fL_value p0 p1 h = some out) : mxMet l Z yL_value cL_value 2 (some .int) rmL_value [.ref p0, .int p1] h (.inl (some (.int out.1))) out.2 := by
  refine mxMet_of (by decide) hl (by simp [Value.category]) (Nat.le_of_ble_eq_true rfl) ?_
  intro X C E hX hin
  unfold fL_value at hf
  refine mG_aload_n (pc := 0) C dL_value_0 rfl ?_
  refine mG_iload_n (pc := 1) C dL_value_1 rfl ?_
  refine mG_bp (pc := 2) C dL_value_2 kB20 ?_
  refine mG_ic (pc := 4) C dL_value_4 kI0 ?_
  obtain ⟨u1, e2, hf⟩ := mx_bind hf
  obtain ⟨o4, e3, hf⟩ := mx_bind hf
  refine mG_cV2 (pc := 5) (k' := 1) (n' := 5) (h' := o4.2) (v := some (.int o4.1)) 11 [.int p1, .int 20, .int 0] [] C hX dL_value_5 lkV_L_82 rfl rfl e2 (tL_bound hl e3) rfl rfl rfl ⟨Nat.le_of_ble_eq_true rfl, Nat.le_of_ble_eq_true rfl⟩ rfl ?_
  cases hf
  exact mG_ir2 (pc := 8) C E hX dL_value_8 ⟨Nat.le_of_ble_eq_true rfl, Nat.le_of_ble_eq_true rfl⟩
theorem dL_ranking_0 : decode cL_ranking 0 = .ok (.bipush 20, 2) := by decide +kernel
theorem dL_ranking_2 : decode cL_ranking 2 = .ok (.newarray .int, 2) := by decide +kernel
theorem dL_ranking_4 : decode cL_ranking 4 = .ok (.astore_n 2, 1) := by decide +kernel
theorem dL_ranking_5 : decode cL_ranking 5 = .ok (.iconst 0, 1) := by decide +kernel
theorem dL_ranking_6 : decode cL_ranking 6 = .ok (.istore_n 3, 1) := by decide +kernel
theorem dL_ranking_7 : decode cL_ranking 7 = .ok (.iconst 0, 1) := by decide +kernel
theorem dL_ranking_8 : decode cL_ranking 8 = .ok (.istore 4, 2) := by decide +kernel
theorem dL_ranking_10 : decode cL_ranking 10 = .ok (.iload 4, 2) := by decide +kernel
theorem dL_ranking_12 : decode cL_ranking 12 = .ok (.bipush 20, 2) := by decide +kernel
theorem dL_ranking_14 : decode cL_ranking 14 = .ok (.if_icmp .ge 74, 3) := by decide +kernel
theorem dL_ranking_17 : decode cL_ranking 17 = .ok (.aload_n 0, 1) := by decide +kernel
theorem dL_ranking_18 : decode cL_ranking 18 = .ok (.iload 4, 2) := by decide +kernel
theorem dL_ranking_20 : decode cL_ranking 20 = .ok (.iload_n 1, 1) := by decide +kernel
theorem dL_ranking_21 : decode cL_ranking 21 = .ok (.invokevirtual 86, 3) := by decide +kernel
theorem dL_ranking_24 : decode cL_ranking 24 = .ok (.ifCond .ne 6, 3) := by decide +kernel
theorem dL_ranking_27 : decode cL_ranking 27 = .ok (.goto 55, 3) := by decide +kernel
theorem dL_ranking_30 : decode cL_ranking 30 = .ok (.iload_n 3, 1) := by decide +kernel
theorem dL_ranking_31 : decode cL_ranking 31 = .ok (.istore 5, 2) := by decide +kernel
theorem dL_ranking_33 : decode cL_ranking 33 = .ok (.iload 5, 2) := by decide +kernel
theorem dL_ranking_35 : decode cL_ranking 35 = .ok (.ifCond .le 38, 3) := by decide +kernel
theorem dL_ranking_38 : decode cL_ranking 38 = .ok (.aload_n 0, 1) := by decide +kernel
theorem dL_ranking_39 : decode cL_ranking 39 = .ok (.aload_n 2, 1) := by decide +kernel
theorem dL_ranking_40 : decode cL_ranking 40 = .ok (.iload 5, 2) := by decide +kernel
theorem dL_ranking_42 : decode cL_ranking 42 = .ok (.iconst 1, 1) := by decide +kernel
theorem dL_ranking_43 : decode cL_ranking 43 = .ok (.isub, 1) := by decide +kernel
theorem dL_ranking_44 : decode cL_ranking 44 = .ok (.iaload, 1) := by decide +kernel
theorem dL_ranking_45 : decode cL_ranking 45 = .ok (.invokevirtual 90, 3) := by decide +kernel
theorem dL_ranking_48 : decode cL_ranking 48 = .ok (.aload_n 0, 1) := by decide +kernel
theorem dL_ranking_49 : decode cL_ranking 49 = .ok (.iload 4, 2) := by decide +kernel
theorem dL_ranking_51 : decode cL_ranking 51 = .ok (.invokevirtual 90, 3) := by decide +kernel
theorem dL_ranking_54 : decode cL_ranking 54 = .ok (.if_icmp .ge 19, 3) := by decide +kernel
theorem dL_ranking_57 : decode cL_ranking 57 = .ok (.aload_n 2, 1) := by decide +kernel
theorem dL_ranking_58 : decode cL_ranking 58 = .ok (.iload 5, 2) := by decide +kernel
theorem dL_ranking_60 : decode cL_ranking 60 = .ok (.aload_n 2, 1) := by decide +kernel
theorem dL_ranking_61 : decode cL_ranking 61 = .ok (.iload 5, 2) := by decide +kernel
theorem dL_ranking_63 : decode cL_ranking 63 = .ok (.iconst 1, 1) := by decide +kernel
theorem dL_ranking_64 : decode cL_ranking 64 = .ok (.isub, 1) := by decide +kernel
theorem dL_ranking_65 : decode cL_ranking 65 = .ok (.iaload, 1) := by decide +kernel
theorem dL_ranking_66 : decode cL_ranking 66 = .ok (.iastore, 1) := by decide +kernel
theorem dL_ranking_67 : decode cL_ranking 67 = .ok (.iinc 5 (-1), 3) := by decide +kernel
theorem dL_ranking_70 : decode cL_ranking 70 = .ok (.goto (-37), 3) := by decide +kernel
theorem dL_ranking_73 : decode cL_ranking 73 = .ok (.aload_n 2, 1) := by decide +kernel
theorem dL_ranking_74 : decode cL_ranking 74 = .ok (.iload 5, 2) := by decide +kernel
theorem dL_ranking_76 : decode cL_ranking 76 = .ok (.iload 4, 2) := by decide +kernel
theorem dL_ranking_78 : decode cL_ranking 78 = .ok (.iastore, 1) := by decide +kernel
theorem dL_ranking_79 : decode cL_ranking 79 = .ok (.iinc 3 1, 3) := by decide +kernel
theorem dL_ranking_82 : decode cL_ranking 82 = .ok (.iinc 4 1, 3) := by decide +kernel
theorem dL_ranking_85 : decode cL_ranking 85 = .ok (.goto (-75), 3) := by decide +kernel
theorem dL_ranking_88 : decode cL_ranking 88 = .ok (.iload_n 3, 1) := by decide +kernel
theorem dL_ranking_89 : decode cL_ranking 89 = .ok (.newarray .int, 2) := by decide +kernel
theorem dL_ranking_91 : decode cL_ranking 91 = .ok (.astore 4, 2) := by decide +kernel
theorem dL_ranking_93 : decode cL_ranking 93 = .ok (.aload_n 2, 1) := by decide +kernel
theorem dL_ranking_94 : decode cL_ranking 94 = .ok (.iconst 0, 1) := by decide +kernel
theorem dL_ranking_95 : decode cL_ranking 95 = .ok (.aload 4, 2) := by decide +kernel
theorem dL_ranking_97 : decode cL_ranking 97 = .ok (.iconst 0, 1) := by decide +kernel
theorem dL_ranking_98 : decode cL_ranking 98 = .ok (.iload_n 3, 1) := by decide +kernel
theorem dL_ranking_99 : decode cL_ranking 99 = .ok (.invokestatic 93, 3) := by decide +kernel
theorem dL_ranking_102 : decode cL_ranking 102 = .ok (.aload 4, 2) := by decide +kernel
theorem dL_ranking_104 : decode cL_ranking 104 = .ok (.areturn, 1) := by decide +kernel
def fL_ranking (p0 : Nat) (p1 : Int32) (h : mxH) : Option (Nat × mxH) := Option.bind (nwV h 20 20) (fun h1 => Option.bind (mxLoop (ρ := (Int32 × mxH)) (fun s135 : (Int32 × Int32 × mxH) => (if 20 ≤ s135.2.1 then some (Sum.inr (s135.1, s135.2.2)) else Option.bind (isO s135.2.2 p0 11) (fun u149 => Option.bind (fL_isReadAt p0 s135.2.1 p1 s135.2.2) (fun o152 => Option.bind (α := (Int32 × mxH)) (if o152 = 0 then some (s135.1, s135.2.2) else Option.bind (mxLoop (ρ := (Int32 × mxH)) (fun s238 : (Int32 × mxH) => (if s238.1 ≤ 0 then some (Sum.inr (s238.1, s238.2)) else Option.bind (ldI s238.2 h.2 (s238.1 - 1)) (fun v252 => Option.bind (isO s238.2 p0 11) (fun u254 => Option.bind (fL_value p0 v252 s238.2) (fun o257 => Option.bind (isO o257.2 p0 11) (fun u258 => Option.bind (fL_value p0 s135.2.1 o257.2) (fun o261 => (if o261.1 ≤ o257.1 then some (Sum.inr (s238.1, o261.2)) else Option.bind (ldI o261.2 h.2 (s238.1 - 1)) (fun v263 => Option.bind (stI o261.2 h.2 s238.1 v263) (fun h265 => some (Sum.inl (s238.1 - 1, h265)))))))))))) 21 (s135.1, s135.2.2)) (fun r267 : (Int32 × mxH) => Option.bind (stI r267.2 h.2 r267.1 s135.2.1) (fun h268 => some (s135.1 + 1, h268)))) (fun jp155' : (Int32 × mxH) => some (Sum.inl (jp155'.1, s135.2.1 + 1, jp155'.2))))))) 21 (0, 0, h1)) (fun r272 : (Int32 × mxH) => Option.bind (nwV r272.2 r272.1 20) (fun h273 => Option.bind (cpI h273 h.2 0 r272.2.2 0 r272.1) (fun h275 => some (r272.2.2, h275)))))
abbrev rmL_ranking : Room := { frames := 5, cells := 884, slots := 4450, locals := 116 }
set_option maxRecDepth 20000 in
set_option maxHeartbeats 1000000 in
theorem tL_ranking {l : Launch} {Z : mxZ} (hl : l.stackTraces = false) {p0 : Nat} {p1 : Int32} {h : mxH} {out : (Nat × mxH)} (hf : fL_ranking p0 p1 h = some out) : mxMet l Z yL_ranking cL_ranking 6 (some (.array .int)) rmL_ranking [.ref p0, .int p1] h (.inl (some (.ref out.1))) out.2 := by
  refine mxMet_of (by decide) hl (by simp [Value.category]) (Nat.le_of_ble_eq_true rfl) ?_
  intro X C E hX hin
  unfold fL_ranking at hf
  refine mG_bp (pc := 0) C dL_ranking_0 kB20 ?_
  obtain ⟨h1, e2, hf⟩ := mx_bind hf
  refine mG_nwV (B := 20) (pc := 2) (k' := 1) (n' := 20) C hX dL_ranking_2 w272 rfl e2 rfl rfl ⟨Nat.le_of_ble_eq_true rfl, Nat.le_of_ble_eq_true rfl⟩ ?_
  refine mG_asn (ls' := [some (.ref p0), some (.int p1), some (.ref h.2), none, none, none]) (pc := 4) C dL_ranking_4 rfl rfl rfl ?_
  refine mG_ic (pc := 5) C dL_ranking_5 kI0 ?_
  refine mG_isn (ls' := [some (.ref p0), some (.int p1), some (.ref h.2), some (.int 0), none, none]) (pc := 6) C dL_ranking_6 rfl rfl rfl ?_
  refine mG_ic (pc := 7) C dL_ranking_7 kI0 ?_
  refine mG_is (ls' := [some (.ref p0), some (.int p1), some (.ref h.2), some (.int 0), some (.int 0), none]) (pc := 8) C dL_ranking_8 rfl rfl rfl ?_
  obtain ⟨r142, e143, hf⟩ := mx_bind hf
  have J139 : ∀ r272 : (Int32 × mxH), r272 = r142 → mG l Z X 6 883 4430 88 [none, none, some (.ref h.2), some (.int r272.1), none, none] [] r272.2 := by
    intro r272 q277
    subst q277
    refine mG_iload_n (pc := 88) C dL_ranking_88 rfl ?_
    obtain ⟨h273, e274, hf⟩ := mx_bind hf
    refine mG_nwV (B := 20) (pc := 89) (k' := 884) (n' := 4450) C hX dL_ranking_89 w272 rfl e274 rfl rfl ⟨Nat.le_of_ble_eq_true rfl, Nat.le_of_ble_eq_true rfl⟩ ?_
    refine mG_as (ls' := [none, none, some (.ref h.2), some (.int r272.1), some (.ref r272.2.2), none]) (pc := 91) C dL_ranking_91 rfl rfl rfl ?_
    refine mG_aload_n (pc := 93) C dL_ranking_93 rfl ?_
    refine mG_ic (pc := 94) C dL_ranking_94 kI0 ?_
    refine mG_aload (pc := 95) C dL_ranking_95 rfl ?_
    refine mG_ic (pc := 97) C dL_ranking_97 kI0 ?_
    refine mG_iload_n (pc := 98) C dL_ranking_98 rfl ?_
    obtain ⟨h275, e276, hf⟩ := mx_bind hf
    refine mG_ac2 (pc := 99) C hX dL_ranking_99 w719 wac e276 rfl rfl ?_
    refine mG_aload (pc := 102) C dL_ranking_102 rfl ?_
    cases hf
    exact mG_ar2 (pc := 104) C E hX dL_ranking_104 ⟨Nat.le_of_ble_eq_true rfl, Nat.le_of_ble_eq_true rfl⟩
  refine mG_sub (ls' := [some (.ref p0), some (.int p1), some (.ref h.2), some (.int 0), some (.int 0), none]) (mxLe_s (mxLe_s (mxLe_s (mxLe_s (mxLe_s (mxLe_n mxLe_z)))))) (mxLoop_indN (K := fun (N138 : Nat) (s135 : (Int32 × Int32 × mxH)) => ∀ k136 n137 : Nat, k136 + 42 * N138 ≤ 1 + 42 * 21 → n137 + 210 * N138 ≤ 20 + 210 * 21 → mG l Z X 6 k136 n137 10 [some (.ref p0), some (.int p1), some (.ref h.2), some (.int s135.1), some (.int s135.2.1), none] [] s135.2.2) ?_ _ _ e143 _ _ (Nat.le_refl _) (Nat.le_refl _))
  intro N138 s135 o144 e145 hK140 hx141 k136 n137 hk146 hn147
  refine mG_iload (pc := 10) C dL_ranking_10 rfl ?_
  refine mG_bp (pc := 12) C dL_ranking_12 kB20 ?_
  refine mG_icmp_ge (pc := 14) (tgt := 88) C dL_ranking_14 (by decide) (fun q148 => ?_) (fun q148 => ?_)
  · rw [if_pos q148] at e145
    exact mG_wd (by omega) (by omega) (mG_sub (mxLe_n (mxLe_n (mxLe_s (mxLe_s (mxLe_n (mxLe_n mxLe_z)))))) (J139 _ (hx141 _ (Option.some.inj e145).symm)))
  · rw [if_neg q148] at e145
    refine mG_aload_n (pc := 17) C dL_ranking_17 rfl ?_
    refine mG_iload (pc := 18) C dL_ranking_18 rfl ?_
    refine mG_iload_n (pc := 20) C dL_ranking_20 rfl ?_
    obtain ⟨u149, e150, e145⟩ := mx_bind e145
    obtain ⟨o152, e151, e145⟩ := mx_bind e145
    refine mG_cV2 (pc := 21) (k' := k136) (n' := n137) (h' := s135.2.2) (v := some (.int o152)) 11 [.int s135.2.1, .int p1] [] C hX dL_ranking_21 lkV_L_86 rfl rfl e150 (tL_isReadAt hl e151) rfl (by show k136 + 0 = k136; omega) (by show n137 + 0 = n137; omega) ⟨by show k136 ≤ 884; omega, by show n137 ≤ 4450; omega⟩ rfl ?_
    obtain ⟨jp155, e156, e145⟩ := mx_bind e145
    have J154 : ∀ jp155' : (Int32 × mxH), jp155' = jp155 → mG l Z X 6 (k136 + 42) (n137 + 210) 82 [some (.ref p0), some (.int p1), some (.ref h.2), some (.int jp155'.1), some (.int s135.2.1), none] [] jp155'.2 := by
      intro jp155' q271
      subst q271
      refine mG_ii (ls' := [some (.ref p0), some (.int p1), some (.ref h.2), some (.int jp155'.1), some (.int (s135.2.1 + 1)), none]) (pc := 82) C dL_ranking_82 rfl (kinc1 _) rfl rfl rfl ?_
      refine mG_goto (tgt := 10) (pc := 85) C dL_ranking_85 (by decide) ?_
      exact mG_sub (mxLe_s (mxLe_s (mxLe_s (mxLe_s (mxLe_s (mxLe_n mxLe_z)))))) (hK140 _ (Option.some.inj e145).symm _ _ (by omega) (by omega))
    refine mG_if_ne (pc := 24) (tgt := 30) C dL_ranking_24 (by decide) (fun q153 => ?_) (fun q153 => ?_)
    · rw [if_neg q153] at e156
      refine mG_iload_n (pc := 30) C dL_ranking_30 rfl ?_
      refine mG_is (ls' := [some (.ref p0), some (.int p1), some (.ref h.2), some (.int s135.1), some (.int s135.2.1), some (.int s135.1)]) (pc := 31) C dL_ranking_31 rfl rfl rfl ?_
      obtain ⟨r245, e246, e156⟩ := mx_bind e156
      have J242 : ∀ r267 : (Int32 × mxH), r267 = r245 → mG l Z X 6 (k136 + 42) (n137 + 210) 73 [some (.ref p0), some (.int p1), some (.ref h.2), some (.int s135.1), some (.int s135.2.1), some (.int r267.1)] [] r267.2 := by
        intro r267 q270
        subst q270
        refine mG_aload_n (pc := 73) C dL_ranking_73 rfl ?_
        refine mG_iload (pc := 74) C dL_ranking_74 rfl ?_
        refine mG_iload (pc := 76) C dL_ranking_76 rfl ?_
        obtain ⟨h268, e269, e156⟩ := mx_bind e156
        refine mG_iastore (pc := 78) C dL_ranking_78 e269 ?_
        refine mG_ii (ls' := [some (.ref p0), some (.int p1), some (.ref h.2), some (.int (s135.1 + 1)), some (.int s135.2.1), some (.int r267.1)]) (pc := 79) C dL_ranking_79 rfl (kinc1 _) rfl rfl rfl ?_
        exact mG_sub (mxLe_s (mxLe_s (mxLe_s (mxLe_s (mxLe_s (mxLe_n mxLe_z)))))) (J154 _ (Option.some.inj e156))
      refine mG_sub (ls' := [some (.ref p0), some (.int p1), some (.ref h.2), some (.int s135.1), some (.int s135.2.1), some (.int s135.1)]) (mxLe_s (mxLe_s (mxLe_s (mxLe_s (mxLe_s (mxLe_s mxLe_z)))))) (mxLoop_indN (K := fun (N241 : Nat) (s238 : (Int32 × mxH)) => ∀ k239 n240 : Nat, k239 + 2 * N241 ≤ k136 + 2 * 21 → n240 + 10 * N241 ≤ n137 + 10 * 21 → mG l Z X 6 k239 n240 33 [some (.ref p0), some (.int p1), some (.ref h.2), some (.int s135.1), some (.int s135.2.1), some (.int s238.1)] [] s238.2) ?_ _ _ e246 _ _ (Nat.le_refl _) (Nat.le_refl _))
      intro N241 s238 o247 e248 hK243 hx244 k239 n240 hk249 hn250
      refine mG_iload (pc := 33) C dL_ranking_33 rfl ?_
      refine mG_if_le (pc := 35) (tgt := 73) C dL_ranking_35 (by decide) (fun q251 => ?_) (fun q251 => ?_)
      · rw [if_pos q251] at e248
        exact mG_wd (by omega) (by omega) (mG_sub (mxLe_s (mxLe_s (mxLe_s (mxLe_s (mxLe_s (mxLe_s mxLe_z)))))) (J242 _ (hx244 _ (Option.some.inj e248).symm)))
      · rw [if_neg q251] at e248
        refine mG_aload_n (pc := 38) C dL_ranking_38 rfl ?_
        refine mG_aload_n (pc := 39) C dL_ranking_39 rfl ?_
        refine mG_iload (pc := 40) C dL_ranking_40 rfl ?_
        refine mG_ic (pc := 42) C dL_ranking_42 kI1 ?_
        refine mG_isub (pc := 43) C dL_ranking_43 ?_
        obtain ⟨v252, e253, e248⟩ := mx_bind e248
        refine mG_iaload (pc := 44) C dL_ranking_44 e253 ?_
        obtain ⟨u254, e255, e248⟩ := mx_bind e248
        obtain ⟨o257, e256, e248⟩ := mx_bind e248
        refine mG_cV2 (pc := 45) (k' := (k239 + 1)) (n' := (n240 + 5)) (h' := o257.2) (v := some (.int o257.1)) 11 [.int v252] [] C hX dL_ranking_45 lkV_L_90 rfl rfl e255 (tL_value hl e256) rfl (by show k239 + 1 = (k239 + 1); omega) (by show n240 + 5 = (n240 + 5); omega) ⟨by show (k239 + 1) ≤ 884; omega, by show (n240 + 5) ≤ 4450; omega⟩ rfl ?_
        refine mG_aload_n (pc := 48) C dL_ranking_48 rfl ?_
        refine mG_iload (pc := 49) C dL_ranking_49 rfl ?_
        obtain ⟨u258, e259, e248⟩ := mx_bind e248
        obtain ⟨o261, e260, e248⟩ := mx_bind e248
        refine mG_cV2 (pc := 51) (k' := (k239 + 2)) (n' := (n240 + 10)) (h' := o261.2) (v := some (.int o261.1)) 11 [.int s135.2.1] [.int o257.1] C hX dL_ranking_51 lkV_L_90 rfl rfl e259 (tL_value hl e260) rfl (by show (k239 + 1) + 1 = (k239 + 2); omega) (by show (n240 + 5) + 5 = (n240 + 10); omega) ⟨by show (k239 + 2) ≤ 884; omega, by show (n240 + 10) ≤ 4450; omega⟩ rfl ?_
        refine mG_icmp_ge (pc := 54) (tgt := 73) C dL_ranking_54 (by decide) (fun q262 => ?_) (fun q262 => ?_)
        · rw [if_pos q262] at e248
          exact mG_wd (by omega) (by omega) (mG_sub (mxLe_s (mxLe_s (mxLe_s (mxLe_s (mxLe_s (mxLe_s mxLe_z)))))) (J242 _ (hx244 _ (Option.some.inj e248).symm)))
        · rw [if_neg q262] at e248
          refine mG_aload_n (pc := 57) C dL_ranking_57 rfl ?_
          refine mG_iload (pc := 58) C dL_ranking_58 rfl ?_
          refine mG_aload_n (pc := 60) C dL_ranking_60 rfl ?_
          refine mG_iload (pc := 61) C dL_ranking_61 rfl ?_
          refine mG_ic (pc := 63) C dL_ranking_63 kI1 ?_
          refine mG_isub (pc := 64) C dL_ranking_64 ?_
          obtain ⟨v263, e264, e248⟩ := mx_bind e248
          refine mG_iaload (pc := 65) C dL_ranking_65 e264 ?_
          obtain ⟨h265, e266, e248⟩ := mx_bind e248
          refine mG_iastore (pc := 66) C dL_ranking_66 e266 ?_
          refine mG_ii (ls' := [some (.ref p0), some (.int p1), some (.ref h.2), some (.int s135.1), some (.int s135.2.1), some (.int (s238.1 - 1))]) (pc := 67) C dL_ranking_67 rfl (kincm1 _) rfl rfl rfl ?_
          refine mG_goto (tgt := 33) (pc := 70) C dL_ranking_70 (by decide) ?_
          exact mG_sub (mxLe_s (mxLe_s (mxLe_s (mxLe_s (mxLe_s (mxLe_s mxLe_z)))))) (hK243 _ (Option.some.inj e248).symm _ _ (by omega) (by omega))
    · rw [if_pos q153] at e156
      refine mG_goto (tgt := 82) (pc := 27) C dL_ranking_27 (by decide) ?_
      exact mG_wd (by omega) (by omega) (mG_sub (mxLe_s (mxLe_s (mxLe_s (mxLe_s (mxLe_s (mxLe_n mxLe_z)))))) (J154 _ (Option.some.inj e156)))
theorem dL_areRanked_0 : decode cL_areRanked 0 = .ok (.aload_n 0, 1) := by decide +kernel
theorem dL_areRanked_1 : decode cL_areRanked 1 = .ok (.bipush 20, 2) := by decide +kernel
theorem dL_areRanked_3 : decode cL_areRanked 3 = .ok (.invokevirtual 99, 3) := by decide +kernel
theorem dL_areRanked_6 : decode cL_areRanked 6 = .ok (.astore_n 1, 1) := by decide +kernel
theorem dL_areRanked_7 : decode cL_areRanked 7 = .ok (.aload_n 0, 1) := by decide +kernel
theorem dL_areRanked_8 : decode cL_areRanked 8 = .ok (.getfield 10, 3) := by decide +kernel
theorem dL_areRanked_11 : decode cL_areRanked 11 = .ok (.invokevirtual 103, 3) := by decide +kernel
theorem dL_areRanked_14 : decode cL_areRanked 14 = .ok (.aload_n 1, 1) := by decide +kernel
theorem dL_areRanked_15 : decode cL_areRanked 15 = .ok (.arraylength, 1) := by decide +kernel
theorem dL_areRanked_16 : decode cL_areRanked 16 = .ok (.if_icmp .eq 5, 3) := by decide +kernel
theorem dL_areRanked_19 : decode cL_areRanked 19 = .ok (.iconst 0, 1) := by decide +kernel
theorem dL_areRanked_20 : decode cL_areRanked 20 = .ok (.ireturn, 1) := by decide +kernel
theorem dL_areRanked_21 : decode cL_areRanked 21 = .ok (.iconst 0, 1) := by decide +kernel
theorem dL_areRanked_22 : decode cL_areRanked 22 = .ok (.istore_n 2, 1) := by decide +kernel
theorem dL_areRanked_23 : decode cL_areRanked 23 = .ok (.iload_n 2, 1) := by decide +kernel
theorem dL_areRanked_24 : decode cL_areRanked 24 = .ok (.aload_n 1, 1) := by decide +kernel
theorem dL_areRanked_25 : decode cL_areRanked 25 = .ok (.arraylength, 1) := by decide +kernel
theorem dL_areRanked_26 : decode cL_areRanked 26 = .ok (.if_icmp .ge 59, 3) := by decide +kernel
theorem dL_areRanked_29 : decode cL_areRanked 29 = .ok (.aload_n 0, 1) := by decide +kernel
theorem dL_areRanked_30 : decode cL_areRanked 30 = .ok (.getfield 10, 3) := by decide +kernel
theorem dL_areRanked_33 : decode cL_areRanked 33 = .ok (.iload_n 2, 1) := by decide +kernel
theorem dL_areRanked_34 : decode cL_areRanked 34 = .ok (.invokevirtual 107, 3) := by decide +kernel
theorem dL_areRanked_37 : decode cL_areRanked 37 = .ok (.aload_n 1, 1) := by decide +kernel
theorem dL_areRanked_38 : decode cL_areRanked 38 = .ok (.iload_n 2, 1) := by decide +kernel
theorem dL_areRanked_39 : decode cL_areRanked 39 = .ok (.iaload, 1) := by decide +kernel
theorem dL_areRanked_40 : decode cL_areRanked 40 = .ok (.if_icmp .ne 37, 3) := by decide +kernel
theorem dL_areRanked_43 : decode cL_areRanked 43 = .ok (.aload_n 0, 1) := by decide +kernel
theorem dL_areRanked_44 : decode cL_areRanked 44 = .ok (.getfield 10, 3) := by decide +kernel
theorem dL_areRanked_47 : decode cL_areRanked 47 = .ok (.aload_n 1, 1) := by decide +kernel
theorem dL_areRanked_48 : decode cL_areRanked 48 = .ok (.iload_n 2, 1) := by decide +kernel
theorem dL_areRanked_49 : decode cL_areRanked 49 = .ok (.iaload, 1) := by decide +kernel
theorem dL_areRanked_50 : decode cL_areRanked 50 = .ok (.invokevirtual 110, 3) := by decide +kernel
theorem dL_areRanked_53 : decode cL_areRanked 53 = .ok (.iload_n 2, 1) := by decide +kernel
theorem dL_areRanked_54 : decode cL_areRanked 54 = .ok (.if_icmp .ne 23, 3) := by decide +kernel
theorem dL_areRanked_57 : decode cL_areRanked 57 = .ok (.aload_n 0, 1) := by decide +kernel
theorem dL_areRanked_58 : decode cL_areRanked 58 = .ok (.getfield 10, 3) := by decide +kernel
theorem dL_areRanked_61 : decode cL_areRanked 61 = .ok (.aload_n 1, 1) := by decide +kernel
theorem dL_areRanked_62 : decode cL_areRanked 62 = .ok (.iload_n 2, 1) := by decide +kernel
theorem dL_areRanked_63 : decode cL_areRanked 63 = .ok (.iaload, 1) := by decide +kernel
theorem dL_areRanked_64 : decode cL_areRanked 64 = .ok (.invokevirtual 113, 3) := by decide +kernel
theorem dL_areRanked_67 : decode cL_areRanked 67 = .ok (.aload_n 0, 1) := by decide +kernel
theorem dL_areRanked_68 : decode cL_areRanked 68 = .ok (.aload_n 1, 1) := by decide +kernel
theorem dL_areRanked_69 : decode cL_areRanked 69 = .ok (.iload_n 2, 1) := by decide +kernel
theorem dL_areRanked_70 : decode cL_areRanked 70 = .ok (.iaload, 1) := by decide +kernel
theorem dL_areRanked_71 : decode cL_areRanked 71 = .ok (.invokevirtual 90, 3) := by decide +kernel
theorem dL_areRanked_74 : decode cL_areRanked 74 = .ok (.if_icmp .eq 5, 3) := by decide +kernel
theorem dL_areRanked_77 : decode cL_areRanked 77 = .ok (.iconst 0, 1) := by decide +kernel
theorem dL_areRanked_78 : decode cL_areRanked 78 = .ok (.ireturn, 1) := by decide +kernel
theorem dL_areRanked_79 : decode cL_areRanked 79 = .ok (.iinc 2 1, 3) := by decide +kernel
theorem dL_areRanked_82 : decode cL_areRanked 82 = .ok (.goto (-59), 3) := by decide +kernel
theorem dL_areRanked_85 : decode cL_areRanked 85 = .ok (.aload_n 0, 1) := by decide +kernel
theorem dL_areRanked_86 : decode cL_areRanked 86 = .ok (.getfield 25, 3) := by decide +kernel
theorem dL_areRanked_89 : decode cL_areRanked 89 = .ok (.iconst 5, 1) := by decide +kernel
theorem dL_areRanked_90 : decode cL_areRanked 90 = .ok (.invokevirtual 30, 3) := by decide +kernel
theorem dL_areRanked_93 : decode cL_areRanked 93 = .ok (.istore_n 2, 1) := by decide +kernel
theorem dL_areRanked_94 : decode cL_areRanked 94 = .ok (.iconst 0, 1) := by decide +kernel
theorem dL_areRanked_95 : decode cL_areRanked 95 = .ok (.istore_n 3, 1) := by decide +kernel
theorem dL_areRanked_96 : decode cL_areRanked 96 = .ok (.iload_n 3, 1) := by decide +kernel
theorem dL_areRanked_97 : decode cL_areRanked 97 = .ok (.bipush 20, 2) := by decide +kernel
theorem dL_areRanked_99 : decode cL_areRanked 99 = .ok (.if_icmp .ge 83, 3) := by decide +kernel
theorem dL_areRanked_102 : decode cL_areRanked 102 = .ok (.aload_n 0, 1) := by decide +kernel
theorem dL_areRanked_103 : decode cL_areRanked 103 = .ok (.getfield 18, 3) := by decide +kernel
theorem dL_areRanked_106 : decode cL_areRanked 106 = .ok (.iload_n 2, 1) := by decide +kernel
theorem dL_areRanked_107 : decode cL_areRanked 107 = .ok (.aaload, 1) := by decide +kernel
theorem dL_areRanked_108 : decode cL_areRanked 108 = .ok (.iload_n 3, 1) := by decide +kernel
theorem dL_areRanked_109 : decode cL_areRanked 109 = .ok (.iaload, 1) := by decide +kernel
theorem dL_areRanked_110 : decode cL_areRanked 110 = .ok (.ifCond .lt 66, 3) := by decide +kernel
theorem dL_areRanked_113 : decode cL_areRanked 113 = .ok (.aload_n 0, 1) := by decide +kernel
theorem dL_areRanked_114 : decode cL_areRanked 114 = .ok (.getfield 10, 3) := by decide +kernel
theorem dL_areRanked_117 : decode cL_areRanked 117 = .ok (.iload_n 2, 1) := by decide +kernel
theorem dL_areRanked_118 : decode cL_areRanked 118 = .ok (.iload_n 3, 1) := by decide +kernel
theorem dL_areRanked_119 : decode cL_areRanked 119 = .ok (.invokevirtual 114, 3) := by decide +kernel
theorem dL_areRanked_122 : decode cL_areRanked 122 = .ok (.aload_n 0, 1) := by decide +kernel
theorem dL_areRanked_123 : decode cL_areRanked 123 = .ok (.iload_n 2, 1) := by decide +kernel
theorem dL_areRanked_124 : decode cL_areRanked 124 = .ok (.iload_n 3, 1) := by decide +kernel
theorem dL_areRanked_125 : decode cL_areRanked 125 = .ok (.invokevirtual 58, 3) := by decide +kernel
theorem dL_areRanked_128 : decode cL_areRanked 128 = .ok (.if_icmp .ne 46, 3) := by decide +kernel
theorem dL_areRanked_131 : decode cL_areRanked 131 = .ok (.aload_n 0, 1) := by decide +kernel
theorem dL_areRanked_132 : decode cL_areRanked 132 = .ok (.getfield 10, 3) := by decide +kernel
theorem dL_areRanked_135 : decode cL_areRanked 135 = .ok (.iload_n 2, 1) := by decide +kernel
theorem dL_areRanked_136 : decode cL_areRanked 136 = .ok (.aload_n 0, 1) := by decide +kernel
theorem dL_areRanked_137 : decode cL_areRanked 137 = .ok (.iload_n 2, 1) := by decide +kernel
theorem dL_areRanked_138 : decode cL_areRanked 138 = .ok (.iload_n 3, 1) := by decide +kernel
theorem dL_areRanked_139 : decode cL_areRanked 139 = .ok (.invokevirtual 58, 3) := by decide +kernel
theorem dL_areRanked_142 : decode cL_areRanked 142 = .ok (.invokevirtual 117, 3) := by decide +kernel
theorem dL_areRanked_145 : decode cL_areRanked 145 = .ok (.iload_n 3, 1) := by decide +kernel
theorem dL_areRanked_146 : decode cL_areRanked 146 = .ok (.if_icmp .ne 28, 3) := by decide +kernel
theorem dL_areRanked_149 : decode cL_areRanked 149 = .ok (.aload_n 0, 1) := by decide +kernel
theorem dL_areRanked_150 : decode cL_areRanked 150 = .ok (.getfield 10, 3) := by decide +kernel
theorem dL_areRanked_153 : decode cL_areRanked 153 = .ok (.iload_n 2, 1) := by decide +kernel
theorem dL_areRanked_154 : decode cL_areRanked 154 = .ok (.aload_n 0, 1) := by decide +kernel
theorem dL_areRanked_155 : decode cL_areRanked 155 = .ok (.iload_n 2, 1) := by decide +kernel
theorem dL_areRanked_156 : decode cL_areRanked 156 = .ok (.iload_n 3, 1) := by decide +kernel
theorem dL_areRanked_157 : decode cL_areRanked 157 = .ok (.invokevirtual 58, 3) := by decide +kernel
theorem dL_areRanked_160 : decode cL_areRanked 160 = .ok (.invokevirtual 120, 3) := by decide +kernel
theorem dL_areRanked_163 : decode cL_areRanked 163 = .ok (.aload_n 0, 1) := by decide +kernel
theorem dL_areRanked_164 : decode cL_areRanked 164 = .ok (.getfield 18, 3) := by decide +kernel
theorem dL_areRanked_167 : decode cL_areRanked 167 = .ok (.iload_n 2, 1) := by decide +kernel
theorem dL_areRanked_168 : decode cL_areRanked 168 = .ok (.aaload, 1) := by decide +kernel
theorem dL_areRanked_169 : decode cL_areRanked 169 = .ok (.iload_n 3, 1) := by decide +kernel
theorem dL_areRanked_170 : decode cL_areRanked 170 = .ok (.iaload, 1) := by decide +kernel
theorem dL_areRanked_171 : decode cL_areRanked 171 = .ok (.if_icmp .eq 5, 3) := by decide +kernel
theorem dL_areRanked_174 : decode cL_areRanked 174 = .ok (.iconst 0, 1) := by decide +kernel
theorem dL_areRanked_175 : decode cL_areRanked 175 = .ok (.ireturn, 1) := by decide +kernel
theorem dL_areRanked_176 : decode cL_areRanked 176 = .ok (.iinc 3 1, 3) := by decide +kernel
theorem dL_areRanked_179 : decode cL_areRanked 179 = .ok (.goto (-83), 3) := by decide +kernel
theorem dL_areRanked_182 : decode cL_areRanked 182 = .ok (.aload_n 0, 1) := by decide +kernel
theorem dL_areRanked_183 : decode cL_areRanked 183 = .ok (.getfield 10, 3) := by decide +kernel
theorem dL_areRanked_186 : decode cL_areRanked 186 = .ok (.iload_n 2, 1) := by decide +kernel
theorem dL_areRanked_187 : decode cL_areRanked 187 = .ok (.invokevirtual 123, 3) := by decide +kernel
theorem dL_areRanked_190 : decode cL_areRanked 190 = .ok (.aload_n 0, 1) := by decide +kernel
theorem dL_areRanked_191 : decode cL_areRanked 191 = .ok (.iload_n 2, 1) := by decide +kernel
theorem dL_areRanked_192 : decode cL_areRanked 192 = .ok (.invokevirtual 126, 3) := by decide +kernel
theorem dL_areRanked_195 : decode cL_areRanked 195 = .ok (.if_icmp .ne 7, 3) := by decide +kernel
theorem dL_areRanked_198 : decode cL_areRanked 198 = .ok (.iconst 1, 1) := by decide +kernel
theorem dL_areRanked_199 : decode cL_areRanked 199 = .ok (.goto 4, 3) := by decide +kernel
theorem dL_areRanked_202 : decode cL_areRanked 202 = .ok (.iconst 0, 1) := by decide +kernel
theorem dL_areRanked_203 : decode cL_areRanked 203 = .ok (.ireturn, 1) := by decide +kernel
def fL_areRanked (p0 : Nat) (h : mxH) : Option (Int32 × mxH) := Option.bind (isO h p0 11) (fun u1 => Option.bind (fL_ranking p0 20 h) (fun o4 => Option.bind (gR o4.2 p0 11 0) (fun r5 => Option.bind (isO o4.2 r5 9) (fun u7 => Option.bind (fX9_knownCount r5 o4.2) (fun o10 => Option.bind (lenA o10.2 o4.1) (fun v11 => (if o10.1 = v11 then Option.bind (mxLoop (ρ := (mxH ⊕ mxH)) (fun s59 : (Int32 × mxH) => Option.bind (lenA s59.2 o4.1) (fun v73 => (if v73 ≤ s59.1 then some (Sum.inr (Sum.inr s59.2)) else Option.bind (gR s59.2 p0 11 0) (fun r76 => Option.bind (isO s59.2 r76 9) (fun u78 => Option.bind (mxOk (fX9_ranked r76 s59.1 s59.2)) (fun o81 => Option.bind (ldI o81.2 o4.1 s59.1) (fun v82 => (if o81.1 = v82 then Option.bind (gR o81.2 p0 11 0) (fun r85 => Option.bind (ldI o81.2 o4.1 s59.1) (fun v87 => Option.bind (isO o81.2 r85 9) (fun u89 => Option.bind (mxOk (fX9_rankOf r85 v87 o81.2)) (fun o92 => (if o92.1 = s59.1 then Option.bind (gR o92.2 p0 11 0) (fun r94 => Option.bind (ldI o92.2 o4.1 s59.1) (fun v96 => Option.bind (isO o92.2 r94 9) (fun u98 => Option.bind (mxOk (fX9_value r94 v96 o92.2)) (fun o101 => Option.bind (ldI o101.2 o4.1 s59.1) (fun v102 => Option.bind (isO o101.2 p0 11) (fun u104 => Option.bind (fL_value p0 v102 o101.2) (fun o107 => (if o101.1 = o107.1 then some (Sum.inl (s59.1 + 1, o107.2)) else some (Sum.inr (Sum.inl o107.2)))))))))) else some (Sum.inr (Sum.inl o92.2))))))) else some (Sum.inr (Sum.inl o81.2)))))))))) 21 (0, o10.2)) (Sum.elim (fun r109 : mxH => Option.bind (mxZ1 0) (fun v110 => some (v110, r109))) (fun r113 : mxH => Option.bind (gR r113 p0 11 1) (fun r114 => Option.bind (isO r113 r114 10) (fun u116 => Option.bind (fX10_next r114 5 r113) (fun o119 => Option.bind (mxLoop (ρ := (mxH ⊕ mxH)) (fun s176 : (Int32 × mxH) => (if 20 ≤ s176.1 then some (Sum.inr (Sum.inr s176.2)) else Option.bind (gR s176.2 p0 11 2) (fun r191 => Option.bind (ldR s176.2 r191 o119.1) (fun r193 => Option.bind (ldI s176.2 r193 s176.1) (fun v195 => (if v195 < 0 then some (Sum.inl (s176.1 + 1, s176.2)) else Option.bind (gR s176.2 p0 11 0) (fun r198 => Option.bind (isO s176.2 r198 9) (fun u200 => Option.bind (mxOk (fX9_placeOf r198 o119.1 s176.1 s176.2)) (fun o203 => Option.bind (isO o203.2 p0 11) (fun u204 => Option.bind (fL_place p0 o119.1 s176.1 o203.2) (fun o207 => (if o203.1 = o207 then Option.bind (gR o203.2 p0 11 0) (fun r209 => Option.bind (isO o203.2 p0 11) (fun u211 => Option.bind (fL_place p0 o119.1 s176.1 o203.2) (fun o214 => Option.bind (isO o203.2 r209 9) (fun u215 => Option.bind (mxOk (fX9_thingAt r209 o119.1 o214 o203.2)) (fun o218 => (if o218.1 = s176.1 then Option.bind (gR o218.2 p0 11 0) (fun r220 => Option.bind (isO o218.2 p0 11) (fun u222 => Option.bind (fL_place p0 o119.1 s176.1 o218.2) (fun o225 => Option.bind (isO o218.2 r220 9) (fun u226 => Option.bind (mxOk (fX9_markAt r220 o119.1 o225 o218.2)) (fun o229 => Option.bind (gR o229.2 p0 11 2) (fun r230 => Option.bind (ldR o229.2 r230 o119.1) (fun r232 => Option.bind (ldI o229.2 r232 s176.1) (fun v234 => (if o229.1 = v234 then some (Sum.inl (s176.1 + 1, o229.2)) else some (Sum.inr (Sum.inl o229.2))))))))))) else some (Sum.inr (Sum.inl o218.2)))))))) else some (Sum.inr (Sum.inl o203.2)))))))))))))) 21 (0, o119.2)) (Sum.elim (fun r237 : mxH => Option.bind (mxZ1 0) (fun v238 => some (v238, r237))) (fun r241 : mxH => Option.bind (gR r241 p0 11 0) (fun r242 => Option.bind (isO r241 r242 9) (fun u244 => Option.bind (mxOk (fX9_itemCount r242 o119.1 r241)) (fun o247 => Option.bind (isO o247.2 p0 11) (fun u248 => Option.bind (fL_items p0 o119.1 o247.2) (fun o251 => Option.bind (α := Int32) (if o247.1 = o251 then some 1 else some 0) (fun jp254' : Int32 => Option.bind (mxZ1 jp254') (fun v256 => some (v256, o247.2))))))))))))))) else Option.bind (mxZ1 0) (fun v261 => some (v261, o10.2)))))))))
abbrev rmL_areRanked : Room := { frames := 8, cells := 1137, slots := 5947, locals := 144 }
set_option maxRecDepth 20000 in
set_option maxHeartbeats 1000000 in
theorem tL_areRanked {l : Launch} {Z : mxZ} (hl : l.stackTraces = false) {p0 : Nat} {h : mxH} {out : (Int32 × mxH)} (hf : fL_areRanked p0 h = some out) : mxMet l Z yL_areRanked cL_areRanked 4 (some .boolean) rmL_areRanked [.ref p0] h (.inl (some (.int out.1))) out.2 := by
  refine mxMet_of (by decide) hl (by simp [Value.category]) (Nat.le_of_ble_eq_true rfl) ?_
  intro X C E hX hin
  unfold fL_areRanked at hf
  refine mG_aload_n (pc := 0) C dL_areRanked_0 rfl ?_
  refine mG_bp (pc := 1) C dL_areRanked_1 kB20 ?_
  obtain ⟨u1, e2, hf⟩ := mx_bind hf
  obtain ⟨o4, e3, hf⟩ := mx_bind hf
  refine mG_cV2 (pc := 3) (k' := 884) (n' := 4450) (h' := o4.2) (v := some (.ref o4.1)) 11 [.int 20] [] C hX dL_areRanked_3 lkV_L_99 rfl rfl e2 (tL_ranking hl e3) rfl rfl rfl ⟨Nat.le_of_ble_eq_true rfl, Nat.le_of_ble_eq_true rfl⟩ rfl ?_
  refine mG_asn (ls' := [some (.ref p0), some (.ref o4.1), none, none]) (pc := 6) C dL_areRanked_6 rfl rfl rfl ?_
  refine mG_aload_n (pc := 7) C dL_areRanked_7 rfl ?_
  obtain ⟨r5, e6, hf⟩ := mx_bind hf
  refine mG_getR (pc := 8) C dL_areRanked_8 fl_L_10 e6 ?_
  obtain ⟨u7, e8, hf⟩ := mx_bind hf
  obtain ⟨o10, e9, hf⟩ := mx_bind hf
  refine mG_cV2 (pc := 11) (k' := 884) (n' := 4450) (h' := o10.2) (v := some (.int o10.1)) 9 [] [] C hX dL_areRanked_11 lkV_L_103 rfl rfl e8 (tX9_knownCount hl e9) rfl rfl rfl ⟨Nat.le_of_ble_eq_true rfl, Nat.le_of_ble_eq_true rfl⟩ rfl ?_
  refine mG_aload_n (pc := 14) C dL_areRanked_14 rfl ?_
  obtain ⟨v11, e12, hf⟩ := mx_bind hf
  refine mG_arraylength (pc := 15) C dL_areRanked_15 e12 ?_
  refine mG_icmp_eq (pc := 16) (tgt := 21) C dL_areRanked_16 (by decide) (fun q13 => ?_) (fun q13 => ?_)
  · rw [if_pos q13] at hf
    refine mG_ic (pc := 21) C dL_areRanked_21 kI0 ?_
    refine mG_isn (ls' := [some (.ref p0), some (.ref o4.1), some (.int 0), none]) (pc := 22) C dL_areRanked_22 rfl rfl rfl ?_
    obtain ⟨r67, e68, hf⟩ := mx_bind hf
    have J63 : ∀ r109 : mxH, Sum.inl r109 = r67 → mG l Z X 4 989 5059 77 [none, none, none, none] [] r109 := by
      intro r109 q112
      subst q112
      rw [Sum.elim_inl] at hf
      refine mG_ic (pc := 77) C dL_areRanked_77 kI0 ?_
      obtain ⟨v110, e111, hf⟩ := mx_bind hf
      cases hf
      exact mG_zr2 (pc := 78) C e111 E hX dL_areRanked_78 ⟨Nat.le_of_ble_eq_true rfl, Nat.le_of_ble_eq_true rfl⟩
    have J64 : ∀ r113 : mxH, Sum.inr r113 = r67 → mG l Z X 4 989 5059 85 [some (.ref p0), none, none, none] [] r113 := by
      intro r113 q260
      subst q260
      rw [Sum.elim_inr] at hf
      refine mG_aload_n (pc := 85) C dL_areRanked_85 rfl ?_
      obtain ⟨r114, e115, hf⟩ := mx_bind hf
      refine mG_getR (pc := 86) C dL_areRanked_86 fl_L_25 e115 ?_
      refine mG_ic (pc := 89) C dL_areRanked_89 kI5 ?_
      obtain ⟨u116, e117, hf⟩ := mx_bind hf
      obtain ⟨o119, e118, hf⟩ := mx_bind hf
      refine mG_cV2 (pc := 90) (k' := 989) (n' := 5059) (h' := o119.2) (v := some (.int o119.1)) 10 [.int 5] [] C hX dL_areRanked_90 lkV_L_30 rfl rfl e117 (tX10_next hl e118) rfl rfl rfl ⟨Nat.le_of_ble_eq_true rfl, Nat.le_of_ble_eq_true rfl⟩ rfl ?_
      refine mG_isn (ls' := [some (.ref p0), none, some (.int o119.1), none]) (pc := 93) C dL_areRanked_93 rfl rfl rfl ?_
      refine mG_ic (pc := 94) C dL_areRanked_94 kI0 ?_
      refine mG_isn (ls' := [some (.ref p0), none, some (.int o119.1), some (.int 0)]) (pc := 95) C dL_areRanked_95 rfl rfl rfl ?_
      obtain ⟨r184, e185, hf⟩ := mx_bind hf
      have J180 : ∀ r237 : mxH, Sum.inl r237 = r184 → mG l Z X 4 1136 5941 174 [none, none, none, none] [] r237 := by
        intro r237 q240
        subst q240
        rw [Sum.elim_inl] at hf
        refine mG_ic (pc := 174) C dL_areRanked_174 kI0 ?_
        obtain ⟨v238, e239, hf⟩ := mx_bind hf
        cases hf
        exact mG_zr2 (pc := 175) C e239 E hX dL_areRanked_175 ⟨Nat.le_of_ble_eq_true rfl, Nat.le_of_ble_eq_true rfl⟩
      have J181 : ∀ r241 : mxH, Sum.inr r241 = r184 → mG l Z X 4 1136 5941 182 [some (.ref p0), none, some (.int o119.1), none] [] r241 := by
        intro r241 q259
        subst q259
        rw [Sum.elim_inr] at hf
        refine mG_aload_n (pc := 182) C dL_areRanked_182 rfl ?_
        obtain ⟨r242, e243, hf⟩ := mx_bind hf
        refine mG_getR (pc := 183) C dL_areRanked_183 fl_L_10 e243 ?_
        refine mG_iload_n (pc := 186) C dL_areRanked_186 rfl ?_
        obtain ⟨u244, e245, hf⟩ := mx_bind hf
        obtain ⟨o247, e246, hf⟩ := mx_bind hf
        refine mG_cV2 (pc := 187) (k' := 1137) (n' := 5947) (h' := o247.2) (v := some (.int o247.1)) 9 [.int o119.1] [] C hX dL_areRanked_187 lkV_L_123 rfl rfl e245 (tX9_itemCount hl (mxOk_some e246)) rfl rfl rfl ⟨Nat.le_of_ble_eq_true rfl, Nat.le_of_ble_eq_true rfl⟩ rfl ?_
        refine mG_aload_n (pc := 190) C dL_areRanked_190 rfl ?_
        refine mG_iload_n (pc := 191) C dL_areRanked_191 rfl ?_
        obtain ⟨u248, e249, hf⟩ := mx_bind hf
        obtain ⟨o251, e250, hf⟩ := mx_bind hf
        refine mG_cV2 (pc := 192) (k' := 1137) (n' := 5947) (h' := o247.2) (v := some (.int o251)) 11 [.int o119.1] [.int o247.1] C hX dL_areRanked_192 lkV_L_126 rfl rfl e249 (tL_items hl e250) rfl rfl rfl ⟨Nat.le_of_ble_eq_true rfl, Nat.le_of_ble_eq_true rfl⟩ rfl ?_
        obtain ⟨jp254, e255, hf⟩ := mx_bind hf
        have J253 : ∀ jp254' : Int32, jp254' = jp254 → mG l Z X 4 1137 5947 203 [none, none, none, none] [.int jp254'] o247.2 := by
          intro jp254' q258
          subst q258
          obtain ⟨v256, e257, hf⟩ := mx_bind hf
          cases hf
          exact mG_zr2 (pc := 203) C e257 E hX dL_areRanked_203 ⟨Nat.le_of_ble_eq_true rfl, Nat.le_of_ble_eq_true rfl⟩
        refine mG_icmp_ne (pc := 195) (tgt := 202) C dL_areRanked_195 (by decide) (fun q252 => ?_) (fun q252 => ?_)
        · rw [if_neg q252] at e255
          refine mG_ic (pc := 202) C dL_areRanked_202 kI0 ?_
          exact mG_sub (mxLe_n (mxLe_n (mxLe_n (mxLe_n mxLe_z)))) (J253 _ (Option.some.inj e255))
        · rw [if_pos q252] at e255
          refine mG_ic (pc := 198) C dL_areRanked_198 kI1 ?_
          refine mG_goto (tgt := 203) (pc := 199) C dL_areRanked_199 (by decide) ?_
          exact mG_sub (mxLe_n (mxLe_n (mxLe_n (mxLe_n mxLe_z)))) (J253 _ (Option.some.inj e255))
      refine mG_sub (ls' := [some (.ref p0), none, some (.int o119.1), some (.int 0)]) (mxLe_s (mxLe_n (mxLe_s (mxLe_s mxLe_z)))) (mxLoop_indN (K := fun (N179 : Nat) (s176 : (Int32 × mxH)) => ∀ k177 n178 : Nat, k177 + 7 * N179 ≤ 989 + 7 * 21 → n178 + 42 * N179 ≤ 5059 + 42 * 21 → mG l Z X 4 k177 n178 96 [some (.ref p0), none, some (.int o119.1), some (.int s176.1)] [] s176.2) ?_ _ _ e185 _ _ (Nat.le_refl _) (Nat.le_refl _))
      intro N179 s176 o186 e187 hK182 hx183 k177 n178 hk188 hn189
      refine mG_iload_n (pc := 96) C dL_areRanked_96 rfl ?_
      refine mG_bp (pc := 97) C dL_areRanked_97 kB20 ?_
      refine mG_icmp_ge (pc := 99) (tgt := 182) C dL_areRanked_99 (by decide) (fun q190 => ?_) (fun q190 => ?_)
      · rw [if_pos q190] at e187
        exact mG_wd (by omega) (by omega) (mG_sub (mxLe_s (mxLe_n (mxLe_s (mxLe_n mxLe_z)))) (J181 _ (hx183 _ (Option.some.inj e187).symm)))
      · rw [if_neg q190] at e187
        refine mG_aload_n (pc := 102) C dL_areRanked_102 rfl ?_
        obtain ⟨r191, e192, e187⟩ := mx_bind e187
        refine mG_getR (pc := 103) C dL_areRanked_103 fl_L_18 e192 ?_
        refine mG_iload_n (pc := 106) C dL_areRanked_106 rfl ?_
        obtain ⟨r193, e194, e187⟩ := mx_bind e187
        refine mG_aaload (pc := 107) C dL_areRanked_107 e194 ?_
        refine mG_iload_n (pc := 108) C dL_areRanked_108 rfl ?_
        obtain ⟨v195, e196, e187⟩ := mx_bind e187
        refine mG_iaload (pc := 109) C dL_areRanked_109 e196 ?_
        refine mG_if_lt (pc := 110) (tgt := 176) C dL_areRanked_110 (by decide) (fun q197 => ?_) (fun q197 => ?_)
        · rw [if_pos q197] at e187
          refine mG_ii (ls' := [some (.ref p0), none, some (.int o119.1), some (.int (s176.1 + 1))]) (pc := 176) C dL_areRanked_176 rfl (kinc1 _) rfl rfl rfl ?_
          refine mG_goto (tgt := 96) (pc := 179) C dL_areRanked_179 (by decide) ?_
          exact mG_sub (mxLe_s (mxLe_n (mxLe_s (mxLe_s mxLe_z)))) (hK182 _ (Option.some.inj e187).symm _ _ (by omega) (by omega))
        · rw [if_neg q197] at e187
          refine mG_aload_n (pc := 113) C dL_areRanked_113 rfl ?_
          obtain ⟨r198, e199, e187⟩ := mx_bind e187
          refine mG_getR (pc := 114) C dL_areRanked_114 fl_L_10 e199 ?_
          refine mG_iload_n (pc := 117) C dL_areRanked_117 rfl ?_
          refine mG_iload_n (pc := 118) C dL_areRanked_118 rfl ?_
          obtain ⟨u200, e201, e187⟩ := mx_bind e187
          obtain ⟨o203, e202, e187⟩ := mx_bind e187
          refine mG_cV2 (pc := 119) (k' := (k177 + 3)) (n' := (n178 + 18)) (h' := o203.2) (v := some (.int o203.1)) 9 [.int o119.1, .int s176.1] [] C hX dL_areRanked_119 lkV_L_114 rfl rfl e201 (tX9_placeOf hl (mxOk_some e202)) rfl (by show k177 + 3 = (k177 + 3); omega) (by show n178 + 18 = (n178 + 18); omega) ⟨by show (k177 + 3) ≤ 1137; omega, by show (n178 + 18) ≤ 5947; omega⟩ rfl ?_
          refine mG_aload_n (pc := 122) C dL_areRanked_122 rfl ?_
          refine mG_iload_n (pc := 123) C dL_areRanked_123 rfl ?_
          refine mG_iload_n (pc := 124) C dL_areRanked_124 rfl ?_
          obtain ⟨u204, e205, e187⟩ := mx_bind e187
          obtain ⟨o207, e206, e187⟩ := mx_bind e187
          refine mG_cV2 (pc := 125) (k' := (k177 + 3)) (n' := (n178 + 18)) (h' := o203.2) (v := some (.int o207)) 11 [.int o119.1, .int s176.1] [.int o203.1] C hX dL_areRanked_125 lkV_L_58 rfl rfl e205 (tL_place hl e206) rfl (by show (k177 + 3) + 0 = (k177 + 3); omega) (by show (n178 + 18) + 0 = (n178 + 18); omega) ⟨by show (k177 + 3) ≤ 1137; omega, by show (n178 + 18) ≤ 5947; omega⟩ rfl ?_
          refine mG_icmp_ne (pc := 128) (tgt := 174) C dL_areRanked_128 (by decide) (fun q208 => ?_) (fun q208 => ?_)
          · rw [if_neg q208] at e187
            exact mG_wd (by omega) (by omega) (mG_sub (mxLe_n (mxLe_n (mxLe_n (mxLe_n mxLe_z)))) (J180 _ (hx183 _ (Option.some.inj e187).symm)))
          · rw [if_pos q208] at e187
            refine mG_aload_n (pc := 131) C dL_areRanked_131 rfl ?_
            obtain ⟨r209, e210, e187⟩ := mx_bind e187
            refine mG_getR (pc := 132) C dL_areRanked_132 fl_L_10 e210 ?_
            refine mG_iload_n (pc := 135) C dL_areRanked_135 rfl ?_
            refine mG_aload_n (pc := 136) C dL_areRanked_136 rfl ?_
            refine mG_iload_n (pc := 137) C dL_areRanked_137 rfl ?_
            refine mG_iload_n (pc := 138) C dL_areRanked_138 rfl ?_
            obtain ⟨u211, e212, e187⟩ := mx_bind e187
            obtain ⟨o214, e213, e187⟩ := mx_bind e187
            refine mG_cV2 (pc := 139) (k' := (k177 + 3)) (n' := (n178 + 18)) (h' := o203.2) (v := some (.int o214)) 11 [.int o119.1, .int s176.1] [.int o119.1, .ref r209] C hX dL_areRanked_139 lkV_L_58 rfl rfl e212 (tL_place hl e213) rfl (by show (k177 + 3) + 0 = (k177 + 3); omega) (by show (n178 + 18) + 0 = (n178 + 18); omega) ⟨by show (k177 + 3) ≤ 1137; omega, by show (n178 + 18) ≤ 5947; omega⟩ rfl ?_
            obtain ⟨u215, e216, e187⟩ := mx_bind e187
            obtain ⟨o218, e217, e187⟩ := mx_bind e187
            refine mG_cV2 (pc := 142) (k' := (k177 + 5)) (n' := (n178 + 30)) (h' := o218.2) (v := some (.int o218.1)) 9 [.int o119.1, .int o214] [] C hX dL_areRanked_142 lkV_L_117 rfl rfl e216 (tX9_thingAt hl (mxOk_some e217)) rfl (by show (k177 + 3) + 2 = (k177 + 5); omega) (by show (n178 + 18) + 12 = (n178 + 30); omega) ⟨by show (k177 + 5) ≤ 1137; omega, by show (n178 + 30) ≤ 5947; omega⟩ rfl ?_
            refine mG_iload_n (pc := 145) C dL_areRanked_145 rfl ?_
            refine mG_icmp_ne (pc := 146) (tgt := 174) C dL_areRanked_146 (by decide) (fun q219 => ?_) (fun q219 => ?_)
            · rw [if_neg q219] at e187
              exact mG_wd (by omega) (by omega) (mG_sub (mxLe_n (mxLe_n (mxLe_n (mxLe_n mxLe_z)))) (J180 _ (hx183 _ (Option.some.inj e187).symm)))
            · rw [if_pos q219] at e187
              refine mG_aload_n (pc := 149) C dL_areRanked_149 rfl ?_
              obtain ⟨r220, e221, e187⟩ := mx_bind e187
              refine mG_getR (pc := 150) C dL_areRanked_150 fl_L_10 e221 ?_
              refine mG_iload_n (pc := 153) C dL_areRanked_153 rfl ?_
              refine mG_aload_n (pc := 154) C dL_areRanked_154 rfl ?_
              refine mG_iload_n (pc := 155) C dL_areRanked_155 rfl ?_
              refine mG_iload_n (pc := 156) C dL_areRanked_156 rfl ?_
              obtain ⟨u222, e223, e187⟩ := mx_bind e187
              obtain ⟨o225, e224, e187⟩ := mx_bind e187
              refine mG_cV2 (pc := 157) (k' := (k177 + 5)) (n' := (n178 + 30)) (h' := o218.2) (v := some (.int o225)) 11 [.int o119.1, .int s176.1] [.int o119.1, .ref r220] C hX dL_areRanked_157 lkV_L_58 rfl rfl e223 (tL_place hl e224) rfl (by show (k177 + 5) + 0 = (k177 + 5); omega) (by show (n178 + 30) + 0 = (n178 + 30); omega) ⟨by show (k177 + 5) ≤ 1137; omega, by show (n178 + 30) ≤ 5947; omega⟩ rfl ?_
              obtain ⟨u226, e227, e187⟩ := mx_bind e187
              obtain ⟨o229, e228, e187⟩ := mx_bind e187
              refine mG_cV2 (pc := 160) (k' := (k177 + 7)) (n' := (n178 + 42)) (h' := o229.2) (v := some (.int o229.1)) 9 [.int o119.1, .int o225] [] C hX dL_areRanked_160 lkV_L_120 rfl rfl e227 (tX9_markAt hl (mxOk_some e228)) rfl (by show (k177 + 5) + 2 = (k177 + 7); omega) (by show (n178 + 30) + 12 = (n178 + 42); omega) ⟨by show (k177 + 7) ≤ 1137; omega, by show (n178 + 42) ≤ 5947; omega⟩ rfl ?_
              refine mG_aload_n (pc := 163) C dL_areRanked_163 rfl ?_
              obtain ⟨r230, e231, e187⟩ := mx_bind e187
              refine mG_getR (pc := 164) C dL_areRanked_164 fl_L_18 e231 ?_
              refine mG_iload_n (pc := 167) C dL_areRanked_167 rfl ?_
              obtain ⟨r232, e233, e187⟩ := mx_bind e187
              refine mG_aaload (pc := 168) C dL_areRanked_168 e233 ?_
              refine mG_iload_n (pc := 169) C dL_areRanked_169 rfl ?_
              obtain ⟨v234, e235, e187⟩ := mx_bind e187
              refine mG_iaload (pc := 170) C dL_areRanked_170 e235 ?_
              refine mG_icmp_eq (pc := 171) (tgt := 176) C dL_areRanked_171 (by decide) (fun q236 => ?_) (fun q236 => ?_)
              · rw [if_pos q236] at e187
                refine mG_ii (ls' := [some (.ref p0), none, some (.int o119.1), some (.int (s176.1 + 1))]) (pc := 176) C dL_areRanked_176 rfl (kinc1 _) rfl rfl rfl ?_
                refine mG_goto (tgt := 96) (pc := 179) C dL_areRanked_179 (by decide) ?_
                exact mG_sub (mxLe_s (mxLe_n (mxLe_s (mxLe_s mxLe_z)))) (hK182 _ (Option.some.inj e187).symm _ _ (by omega) (by omega))
              · rw [if_neg q236] at e187
                exact mG_wd (by omega) (by omega) (mG_sub (mxLe_n (mxLe_n (mxLe_n (mxLe_n mxLe_z)))) (J180 _ (hx183 _ (Option.some.inj e187).symm)))
    refine mG_sub (ls' := [some (.ref p0), some (.ref o4.1), some (.int 0), none]) (mxLe_s (mxLe_s (mxLe_s (mxLe_n mxLe_z)))) (mxLoop_indN (K := fun (N62 : Nat) (s59 : (Int32 × mxH)) => ∀ k60 n61 : Nat, k60 + 5 * N62 ≤ 884 + 5 * 21 → n61 + 29 * N62 ≤ 4450 + 29 * 21 → mG l Z X 4 k60 n61 23 [some (.ref p0), some (.ref o4.1), some (.int s59.1), none] [] s59.2) ?_ _ _ e68 _ _ (Nat.le_refl _) (Nat.le_refl _))
    intro N62 s59 o69 e70 hK65 hx66 k60 n61 hk71 hn72
    refine mG_iload_n (pc := 23) C dL_areRanked_23 rfl ?_
    refine mG_aload_n (pc := 24) C dL_areRanked_24 rfl ?_
    obtain ⟨v73, e74, e70⟩ := mx_bind e70
    refine mG_arraylength (pc := 25) C dL_areRanked_25 e74 ?_
    refine mG_icmp_ge (pc := 26) (tgt := 85) C dL_areRanked_26 (by decide) (fun q75 => ?_) (fun q75 => ?_)
    · rw [if_pos q75] at e70
      exact mG_wd (by omega) (by omega) (mG_sub (mxLe_s (mxLe_n (mxLe_n (mxLe_n mxLe_z)))) (J64 _ (hx66 _ (Option.some.inj e70).symm)))
    · rw [if_neg q75] at e70
      refine mG_aload_n (pc := 29) C dL_areRanked_29 rfl ?_
      obtain ⟨r76, e77, e70⟩ := mx_bind e70
      refine mG_getR (pc := 30) C dL_areRanked_30 fl_L_10 e77 ?_
      refine mG_iload_n (pc := 33) C dL_areRanked_33 rfl ?_
      obtain ⟨u78, e79, e70⟩ := mx_bind e70
      obtain ⟨o81, e80, e70⟩ := mx_bind e70
      refine mG_cV2 (pc := 34) (k' := (k60 + 1)) (n' := (n61 + 6)) (h' := o81.2) (v := some (.int o81.1)) 9 [.int s59.1] [] C hX dL_areRanked_34 lkV_L_107 rfl rfl e79 (tX9_ranked hl (mxOk_some e80)) rfl (by show k60 + 1 = (k60 + 1); omega) (by show n61 + 6 = (n61 + 6); omega) ⟨by show (k60 + 1) ≤ 1137; omega, by show (n61 + 6) ≤ 5947; omega⟩ rfl ?_
      refine mG_aload_n (pc := 37) C dL_areRanked_37 rfl ?_
      refine mG_iload_n (pc := 38) C dL_areRanked_38 rfl ?_
      obtain ⟨v82, e83, e70⟩ := mx_bind e70
      refine mG_iaload (pc := 39) C dL_areRanked_39 e83 ?_
      refine mG_icmp_ne (pc := 40) (tgt := 77) C dL_areRanked_40 (by decide) (fun q84 => ?_) (fun q84 => ?_)
      · rw [if_neg q84] at e70
        exact mG_wd (by omega) (by omega) (mG_sub (mxLe_n (mxLe_n (mxLe_n (mxLe_n mxLe_z)))) (J63 _ (hx66 _ (Option.some.inj e70).symm)))
      · rw [if_pos q84] at e70
        refine mG_aload_n (pc := 43) C dL_areRanked_43 rfl ?_
        obtain ⟨r85, e86, e70⟩ := mx_bind e70
        refine mG_getR (pc := 44) C dL_areRanked_44 fl_L_10 e86 ?_
        refine mG_aload_n (pc := 47) C dL_areRanked_47 rfl ?_
        refine mG_iload_n (pc := 48) C dL_areRanked_48 rfl ?_
        obtain ⟨v87, e88, e70⟩ := mx_bind e70
        refine mG_iaload (pc := 49) C dL_areRanked_49 e88 ?_
        obtain ⟨u89, e90, e70⟩ := mx_bind e70
        obtain ⟨o92, e91, e70⟩ := mx_bind e70
        refine mG_cV2 (pc := 50) (k' := (k60 + 3)) (n' := (n61 + 18)) (h' := o92.2) (v := some (.int o92.1)) 9 [.int v87] [] C hX dL_areRanked_50 lkV_L_110 rfl rfl e90 (tX9_rankOf hl (mxOk_some e91)) rfl (by show (k60 + 1) + 2 = (k60 + 3); omega) (by show (n61 + 6) + 12 = (n61 + 18); omega) ⟨by show (k60 + 3) ≤ 1137; omega, by show (n61 + 18) ≤ 5947; omega⟩ rfl ?_
        refine mG_iload_n (pc := 53) C dL_areRanked_53 rfl ?_
        refine mG_icmp_ne (pc := 54) (tgt := 77) C dL_areRanked_54 (by decide) (fun q93 => ?_) (fun q93 => ?_)
        · rw [if_neg q93] at e70
          exact mG_wd (by omega) (by omega) (mG_sub (mxLe_n (mxLe_n (mxLe_n (mxLe_n mxLe_z)))) (J63 _ (hx66 _ (Option.some.inj e70).symm)))
        · rw [if_pos q93] at e70
          refine mG_aload_n (pc := 57) C dL_areRanked_57 rfl ?_
          obtain ⟨r94, e95, e70⟩ := mx_bind e70
          refine mG_getR (pc := 58) C dL_areRanked_58 fl_L_10 e95 ?_
          refine mG_aload_n (pc := 61) C dL_areRanked_61 rfl ?_
          refine mG_iload_n (pc := 62) C dL_areRanked_62 rfl ?_
          obtain ⟨v96, e97, e70⟩ := mx_bind e70
          refine mG_iaload (pc := 63) C dL_areRanked_63 e97 ?_
          obtain ⟨u98, e99, e70⟩ := mx_bind e70
          obtain ⟨o101, e100, e70⟩ := mx_bind e70
          refine mG_cV2 (pc := 64) (k' := (k60 + 4)) (n' := (n61 + 24)) (h' := o101.2) (v := some (.int o101.1)) 9 [.int v96] [] C hX dL_areRanked_64 lkV_L_113 rfl rfl e99 (tX9_value hl (mxOk_some e100)) rfl (by show (k60 + 3) + 1 = (k60 + 4); omega) (by show (n61 + 18) + 6 = (n61 + 24); omega) ⟨by show (k60 + 4) ≤ 1137; omega, by show (n61 + 24) ≤ 5947; omega⟩ rfl ?_
          refine mG_aload_n (pc := 67) C dL_areRanked_67 rfl ?_
          refine mG_aload_n (pc := 68) C dL_areRanked_68 rfl ?_
          refine mG_iload_n (pc := 69) C dL_areRanked_69 rfl ?_
          obtain ⟨v102, e103, e70⟩ := mx_bind e70
          refine mG_iaload (pc := 70) C dL_areRanked_70 e103 ?_
          obtain ⟨u104, e105, e70⟩ := mx_bind e70
          obtain ⟨o107, e106, e70⟩ := mx_bind e70
          refine mG_cV2 (pc := 71) (k' := (k60 + 5)) (n' := (n61 + 29)) (h' := o107.2) (v := some (.int o107.1)) 11 [.int v102] [.int o101.1] C hX dL_areRanked_71 lkV_L_90 rfl rfl e105 (tL_value hl e106) rfl (by show (k60 + 4) + 1 = (k60 + 5); omega) (by show (n61 + 24) + 5 = (n61 + 29); omega) ⟨by show (k60 + 5) ≤ 1137; omega, by show (n61 + 29) ≤ 5947; omega⟩ rfl ?_
          refine mG_icmp_eq (pc := 74) (tgt := 79) C dL_areRanked_74 (by decide) (fun q108 => ?_) (fun q108 => ?_)
          · rw [if_pos q108] at e70
            refine mG_ii (ls' := [some (.ref p0), some (.ref o4.1), some (.int (s59.1 + 1)), none]) (pc := 79) C dL_areRanked_79 rfl (kinc1 _) rfl rfl rfl ?_
            refine mG_goto (tgt := 23) (pc := 82) C dL_areRanked_82 (by decide) ?_
            exact mG_sub (mxLe_s (mxLe_s (mxLe_s (mxLe_n mxLe_z)))) (hK65 _ (Option.some.inj e70).symm _ _ (by omega) (by omega))
          · rw [if_neg q108] at e70
            exact mG_wd (by omega) (by omega) (mG_sub (mxLe_n (mxLe_n (mxLe_n (mxLe_n mxLe_z)))) (J63 _ (hx66 _ (Option.some.inj e70).symm)))
  · rw [if_neg q13] at hf
    refine mG_ic (pc := 19) C dL_areRanked_19 kI0 ?_
    obtain ⟨v261, e262, hf⟩ := mx_bind hf
    cases hf
    exact mG_zr2 (pc := 20) C e262 E hX dL_areRanked_20 ⟨Nat.le_of_ble_eq_true rfl, Nat.le_of_ble_eq_true rfl⟩
theorem dL_longest_0 : decode cL_longest 0 = .ok (.iconst 0, 1) := by decide +kernel
theorem dL_longest_1 : decode cL_longest 1 = .ok (.istore_n 1, 1) := by decide +kernel
theorem dL_longest_2 : decode cL_longest 2 = .ok (.iconst 0, 1) := by decide +kernel
theorem dL_longest_3 : decode cL_longest 3 = .ok (.istore_n 2, 1) := by decide +kernel
theorem dL_longest_4 : decode cL_longest 4 = .ok (.iload_n 2, 1) := by decide +kernel
theorem dL_longest_5 : decode cL_longest 5 = .ok (.iconst 5, 1) := by decide +kernel
theorem dL_longest_6 : decode cL_longest 6 = .ok (.if_icmp .ge 19, 3) := by decide +kernel
theorem dL_longest_9 : decode cL_longest 9 = .ok (.iload_n 1, 1) := by decide +kernel
theorem dL_longest_10 : decode cL_longest 10 = .ok (.aload_n 0, 1) := by decide +kernel
theorem dL_longest_11 : decode cL_longest 11 = .ok (.iload_n 2, 1) := by decide +kernel
theorem dL_longest_12 : decode cL_longest 12 = .ok (.invokevirtual 126, 3) := by decide +kernel
theorem dL_longest_15 : decode cL_longest 15 = .ok (.invokestatic 67, 3) := by decide +kernel
theorem dL_longest_18 : decode cL_longest 18 = .ok (.istore_n 1, 1) := by decide +kernel
theorem dL_longest_19 : decode cL_longest 19 = .ok (.iinc 2 1, 3) := by decide +kernel
theorem dL_longest_22 : decode cL_longest 22 = .ok (.goto (-18), 3) := by decide +kernel
theorem dL_longest_25 : decode cL_longest 25 = .ok (.iload_n 1, 1) := by decide +kernel
theorem dL_longest_26 : decode cL_longest 26 = .ok (.ireturn, 1) := by decide +kernel
def fL_longest (p0 : Nat) (h : mxH) : Option Int32 := Option.bind (mxLoop (ρ := Int32) (fun s1 : (Int32 × Int32) => (if 5 ≤ s1.2 then some (Sum.inr s1.1) else Option.bind (isO h p0 11) (fun u10 => Option.bind (fL_items p0 s1.2 h) (fun o13 => some (Sum.inl (mxMax s1.1 o13, s1.2 + 1)))))) mxF (0, 0)) (fun r14 : Int32 => some r14)
abbrev rmL_longest : Room := { frames := 1, cells := 0, slots := 0, locals := 23 }
set_option maxRecDepth 20000 in
set_option maxHeartbeats 1000000 in
theorem tL_longest {l : Launch} {Z : mxZ} (hl : l.stackTraces = false) {p0 : Nat} {h : mxH} {out : Int32} (hf : fL_longest p0 h = some out) : mxMet l Z yL_longest cL_longest 3 (some .int) rmL_longest [.ref p0] h (.inl (some (.int out))) h := by
  refine mxMet_of (by decide) hl (by simp [Value.category]) (Nat.le_of_ble_eq_true rfl) ?_
  intro X C E hX hin
  unfold fL_longest at hf
  refine mG_ic (pc := 0) C dL_longest_0 kI0 ?_
  refine mG_isn (ls' := [some (.ref p0), some (.int 0), none]) (pc := 1) C dL_longest_1 rfl rfl rfl ?_
  refine mG_ic (pc := 2) C dL_longest_2 kI0 ?_
  refine mG_isn (ls' := [some (.ref p0), some (.int 0), some (.int 0)]) (pc := 3) C dL_longest_3 rfl rfl rfl ?_
  obtain ⟨r2, e3, hf⟩ := mx_bind hf
  have J4 : ∀ r14 : Int32, r14 = r2 → mG l Z X 3 0 0 25 [none, some (.int r14), none] [] h := by
    intro r14 q15
    subst q15
    refine mG_iload_n (pc := 25) C dL_longest_25 rfl ?_
    cases hf
    exact mG_ir2 (pc := 26) C E hX dL_longest_26 ⟨Nat.le_of_ble_eq_true rfl, Nat.le_of_ble_eq_true rfl⟩
  refine mG_sub (ls' := [some (.ref p0), some (.int 0), some (.int 0)]) (mxLe_s (mxLe_s (mxLe_s mxLe_z))) (mxLoop_ind (K := fun s1 : (Int32 × Int32) => mG l Z X 3 0 0 4 [some (.ref p0), some (.int s1.1), some (.int s1.2)] [] h) ?_ _ _ e3)
  intro s1 o7 e8 hK5 hx6
  refine mG_iload_n (pc := 4) C dL_longest_4 rfl ?_
  refine mG_ic (pc := 5) C dL_longest_5 kI5 ?_
  refine mG_icmp_ge (pc := 6) (tgt := 25) C dL_longest_6 (by decide) (fun q9 => ?_) (fun q9 => ?_)
  · rw [if_pos q9] at e8
    exact mG_sub (mxLe_n (mxLe_s (mxLe_n mxLe_z))) (J4 _ (hx6 _ (Option.some.inj e8).symm))
  · rw [if_neg q9] at e8
    refine mG_iload_n (pc := 9) C dL_longest_9 rfl ?_
    refine mG_aload_n (pc := 10) C dL_longest_10 rfl ?_
    refine mG_iload_n (pc := 11) C dL_longest_11 rfl ?_
    obtain ⟨u10, e11, e8⟩ := mx_bind e8
    obtain ⟨o13, e12, e8⟩ := mx_bind e8
    refine mG_cV2 (pc := 12) (k' := 0) (n' := 0) (h' := h) (v := some (.int o13)) 11 [.int s1.2] [.int s1.1] C hX dL_longest_12 lkV_L_126 rfl rfl e11 (tL_items hl e12) rfl rfl rfl ⟨Nat.le_of_ble_eq_true rfl, Nat.le_of_ble_eq_true rfl⟩ rfl ?_
    refine mG_mx2 (pc := 15) C hX dL_longest_15 w717 wmax rfl ⟨Nat.le_of_ble_eq_true rfl, Nat.le_of_ble_eq_true rfl⟩ rfl ?_
    refine mG_isn (ls' := [some (.ref p0), some (.int (mxMax s1.1 o13)), some (.int s1.2)]) (pc := 18) C dL_longest_18 rfl rfl rfl ?_
    refine mG_ii (ls' := [some (.ref p0), some (.int (mxMax s1.1 o13)), some (.int (s1.2 + 1))]) (pc := 19) C dL_longest_19 rfl (kinc1 _) rfl rfl rfl ?_
    refine mG_goto (tgt := 4) (pc := 22) C dL_longest_22 (by decide) ?_
    exact mG_sub (mxLe_s (mxLe_s (mxLe_s mxLe_z))) (hK5 _ (Option.some.inj e8).symm)
theorem dL_limit_0 : decode cL_limit 0 = .ok (.iconst 5, 1) := by decide +kernel
theorem dL_limit_1 : decode cL_limit 1 = .ok (.newarray .int, 2) := by decide +kernel
theorem dL_limit_3 : decode cL_limit 3 = .ok (.astore_n 2, 1) := by decide +kernel
theorem dL_limit_4 : decode cL_limit 4 = .ok (.iconst 0, 1) := by decide +kernel
theorem dL_limit_5 : decode cL_limit 5 = .ok (.istore_n 3, 1) := by decide +kernel
theorem dL_limit_6 : decode cL_limit 6 = .ok (.iload_n 3, 1) := by decide +kernel
theorem dL_limit_7 : decode cL_limit 7 = .ok (.iconst 5, 1) := by decide +kernel
theorem dL_limit_8 : decode cL_limit 8 = .ok (.if_icmp .ge 18, 3) := by decide +kernel
theorem dL_limit_11 : decode cL_limit 11 = .ok (.aload_n 2, 1) := by decide +kernel
theorem dL_limit_12 : decode cL_limit 12 = .ok (.iload_n 3, 1) := by decide +kernel
theorem dL_limit_13 : decode cL_limit 13 = .ok (.aload_n 0, 1) := by decide +kernel
theorem dL_limit_14 : decode cL_limit 14 = .ok (.iload_n 3, 1) := by decide +kernel
theorem dL_limit_15 : decode cL_limit 15 = .ok (.iload_n 1, 1) := by decide +kernel
theorem dL_limit_16 : decode cL_limit 16 = .ok (.invokevirtual 75, 3) := by decide +kernel
theorem dL_limit_19 : decode cL_limit 19 = .ok (.iastore, 1) := by decide +kernel
theorem dL_limit_20 : decode cL_limit 20 = .ok (.iinc 3 1, 3) := by decide +kernel
theorem dL_limit_23 : decode cL_limit 23 = .ok (.goto (-17), 3) := by decide +kernel
theorem dL_limit_26 : decode cL_limit 26 = .ok (.aload_n 0, 1) := by decide +kernel
theorem dL_limit_27 : decode cL_limit 27 = .ok (.aload_n 2, 1) := by decide +kernel
theorem dL_limit_28 : decode cL_limit 28 = .ok (.invokevirtual 78, 3) := by decide +kernel
theorem dL_limit_31 : decode cL_limit 31 = .ok (.ireturn, 1) := by decide +kernel
def fL_limit (p0 : Nat) (p1 : Int32) (h : mxH) : Option (Int32 × mxH) := Option.bind (nwV h 5 5) (fun h1 => Option.bind (mxLoop (ρ := mxH) (fun s3 : (Int32 × mxH) => (if 5 ≤ s3.1 then some (Sum.inr s3.2) else Option.bind (isO s3.2 p0 11) (fun u12 => Option.bind (fL_last p0 s3.1 p1 s3.2) (fun o15 => Option.bind (stI s3.2 h.2 s3.1 o15) (fun h16 => some (Sum.inl (s3.1 + 1, h16))))))) mxF (0, h1)) (fun r18 : mxH => Option.bind (isO r18 p0 11) (fun u19 => Option.bind (fL_ruled p0 h.2 r18) (fun o22 => some (o22, r18)))))
abbrev rmL_limit : Room := { frames := 3, cells := 1, slots := 5, locals := 70 }
set_option maxRecDepth 20000 in
set_option maxHeartbeats 1000000 in
theorem tL_limit {l : Launch} {Z : mxZ} (hl : l.stackTraces = false) {p0 : Nat} {p1 : Int32} {h : mxH} {out : (Int32 × mxH)} (hf : fL_limit p0 p1 h = some out) : mxMet l Z yL_limit cL_limit 4 (some .int) rmL_limit [.ref p0, .int p1] h (.inl (some (.int out.1))) out.2 := by
  refine mxMet_of (by decide) hl (by simp [Value.category]) (Nat.le_of_ble_eq_true rfl) ?_
  intro X C E hX hin
  unfold fL_limit at hf
  refine mG_ic (pc := 0) C dL_limit_0 kI5 ?_
  obtain ⟨h1, e2, hf⟩ := mx_bind hf
  refine mG_nwV (B := 5) (pc := 1) (k' := 1) (n' := 5) C hX dL_limit_1 w272 rfl e2 rfl rfl ⟨Nat.le_of_ble_eq_true rfl, Nat.le_of_ble_eq_true rfl⟩ ?_
  refine mG_asn (ls' := [some (.ref p0), some (.int p1), some (.ref h.2), none]) (pc := 3) C dL_limit_3 rfl rfl rfl ?_
  refine mG_ic (pc := 4) C dL_limit_4 kI0 ?_
  refine mG_isn (ls' := [some (.ref p0), some (.int p1), some (.ref h.2), some (.int 0)]) (pc := 5) C dL_limit_5 rfl rfl rfl ?_
  obtain ⟨r4, e5, hf⟩ := mx_bind hf
  have J6 : ∀ r18 : mxH, r18 = r4 → mG l Z X 4 1 5 26 [some (.ref p0), none, some (.ref h.2), none] [] r18 := by
    intro r18 q23
    subst q23
    refine mG_aload_n (pc := 26) C dL_limit_26 rfl ?_
    refine mG_aload_n (pc := 27) C dL_limit_27 rfl ?_
    obtain ⟨u19, e20, hf⟩ := mx_bind hf
    obtain ⟨o22, e21, hf⟩ := mx_bind hf
    refine mG_cV2 (pc := 28) (k' := 1) (n' := 5) (h' := r18) (v := some (.int o22)) 11 [.ref h.2] [] C hX dL_limit_28 lkV_L_78 rfl rfl e20 (tL_ruled hl e21) rfl rfl rfl ⟨Nat.le_of_ble_eq_true rfl, Nat.le_of_ble_eq_true rfl⟩ rfl ?_
    cases hf
    exact mG_ir2 (pc := 31) C E hX dL_limit_31 ⟨Nat.le_of_ble_eq_true rfl, Nat.le_of_ble_eq_true rfl⟩
  refine mG_sub (ls' := [some (.ref p0), some (.int p1), some (.ref h.2), some (.int 0)]) (mxLe_s (mxLe_s (mxLe_s (mxLe_s mxLe_z)))) (mxLoop_ind (K := fun s3 : (Int32 × mxH) => mG l Z X 4 1 5 6 [some (.ref p0), some (.int p1), some (.ref h.2), some (.int s3.1)] [] s3.2) ?_ _ _ e5)
  intro s3 o9 e10 hK7 hx8
  refine mG_iload_n (pc := 6) C dL_limit_6 rfl ?_
  refine mG_ic (pc := 7) C dL_limit_7 kI5 ?_
  refine mG_icmp_ge (pc := 8) (tgt := 26) C dL_limit_8 (by decide) (fun q11 => ?_) (fun q11 => ?_)
  · rw [if_pos q11] at e10
    exact mG_sub (mxLe_s (mxLe_n (mxLe_s (mxLe_n mxLe_z)))) (J6 _ (hx8 _ (Option.some.inj e10).symm))
  · rw [if_neg q11] at e10
    refine mG_aload_n (pc := 11) C dL_limit_11 rfl ?_
    refine mG_iload_n (pc := 12) C dL_limit_12 rfl ?_
    refine mG_aload_n (pc := 13) C dL_limit_13 rfl ?_
    refine mG_iload_n (pc := 14) C dL_limit_14 rfl ?_
    refine mG_iload_n (pc := 15) C dL_limit_15 rfl ?_
    obtain ⟨u12, e13, e10⟩ := mx_bind e10
    obtain ⟨o15, e14, e10⟩ := mx_bind e10
    refine mG_cV2 (pc := 16) (k' := 1) (n' := 5) (h' := s3.2) (v := some (.int o15)) 11 [.int s3.1, .int p1] [.int s3.1, .ref h.2] C hX dL_limit_16 lkV_L_75 rfl rfl e13 (tL_last hl e14) rfl rfl rfl ⟨Nat.le_of_ble_eq_true rfl, Nat.le_of_ble_eq_true rfl⟩ rfl ?_
    obtain ⟨h16, e17, e10⟩ := mx_bind e10
    refine mG_iastore (pc := 19) C dL_limit_19 e17 ?_
    refine mG_ii (ls' := [some (.ref p0), some (.int p1), some (.ref h.2), some (.int (s3.1 + 1))]) (pc := 20) C dL_limit_20 rfl (kinc1 _) rfl rfl rfl ?_
    refine mG_goto (tgt := 6) (pc := 23) C dL_limit_23 (by decide) ?_
    exact mG_sub (mxLe_s (mxLe_s (mxLe_s (mxLe_s mxLe_z)))) (hK7 _ (Option.some.inj e10).symm)
theorem dL_isEnough_0 : decode cL_isEnough 0 = .ok (.aload_n 0, 1) := by decide +kernel
theorem dL_isEnough_1 : decode cL_isEnough 1 = .ok (.iload_n 2, 1) := by decide +kernel
theorem dL_isEnough_2 : decode cL_isEnough 2 = .ok (.invokevirtual 99, 3) := by decide +kernel
theorem dL_isEnough_5 : decode cL_isEnough 5 = .ok (.astore_n 3, 1) := by decide +kernel
theorem dL_isEnough_6 : decode cL_isEnough 6 = .ok (.aload_n 3, 1) := by decide +kernel
theorem dL_isEnough_7 : decode cL_isEnough 7 = .ok (.arraylength, 1) := by decide +kernel
theorem dL_isEnough_8 : decode cL_isEnough 8 = .ok (.iload_n 1, 1) := by decide +kernel
theorem dL_isEnough_9 : decode cL_isEnough 9 = .ok (.if_icmp .lt 24, 3) := by decide +kernel
theorem dL_isEnough_12 : decode cL_isEnough 12 = .ok (.aload_n 0, 1) := by decide +kernel
theorem dL_isEnough_13 : decode cL_isEnough 13 = .ok (.aload_n 3, 1) := by decide +kernel
theorem dL_isEnough_14 : decode cL_isEnough 14 = .ok (.iload_n 1, 1) := by decide +kernel
theorem dL_isEnough_15 : decode cL_isEnough 15 = .ok (.iconst 1, 1) := by decide +kernel
theorem dL_isEnough_16 : decode cL_isEnough 16 = .ok (.isub, 1) := by decide +kernel
theorem dL_isEnough_17 : decode cL_isEnough 17 = .ok (.iaload, 1) := by decide +kernel
theorem dL_isEnough_18 : decode cL_isEnough 18 = .ok (.invokevirtual 90, 3) := by decide +kernel
theorem dL_isEnough_21 : decode cL_isEnough 21 = .ok (.aload_n 0, 1) := by decide +kernel
theorem dL_isEnough_22 : decode cL_isEnough 22 = .ok (.iload_n 2, 1) := by decide +kernel
theorem dL_isEnough_23 : decode cL_isEnough 23 = .ok (.invokevirtual 129, 3) := by decide +kernel
theorem dL_isEnough_26 : decode cL_isEnough 26 = .ok (.if_icmp .lt 7, 3) := by decide +kernel
theorem dL_isEnough_29 : decode cL_isEnough 29 = .ok (.iconst 1, 1) := by decide +kernel
theorem dL_isEnough_30 : decode cL_isEnough 30 = .ok (.goto 4, 3) := by decide +kernel
theorem dL_isEnough_33 : decode cL_isEnough 33 = .ok (.iconst 0, 1) := by decide +kernel
theorem dL_isEnough_34 : decode cL_isEnough 34 = .ok (.ireturn, 1) := by decide +kernel
def fL_isEnough (p0 : Nat) (p1 : Int32) (p2 : Int32) (h : mxH) : Option (Int32 × mxH) := Option.bind (isO h p0 11) (fun u1 => Option.bind (fL_ranking p0 p2 h) (fun o4 => Option.bind (lenA o4.2 o4.1) (fun v5 => Option.bind (α := (Int32 × mxH)) (if v5 < p1 then some (0, o4.2) else Option.bind (ldI o4.2 o4.1 (p1 - 1)) (fun v22 => Option.bind (isO o4.2 p0 11) (fun u24 => Option.bind (fL_value p0 v22 o4.2) (fun o27 => Option.bind (isO o27.2 p0 11) (fun u28 => Option.bind (fL_limit p0 p2 o27.2) (fun o31 => (if o27.1 < o31.1 then some (0, o31.2) else some (1, o31.2)))))))) (fun jp9' : (Int32 × mxH) => Option.bind (mxZ1 jp9'.1) (fun v33 => some (v33, jp9'.2))))))
abbrev rmL_isEnough : Room := { frames := 6, cells := 886, slots := 4460, locals := 141 }
set_option maxRecDepth 20000 in
set_option maxHeartbeats 1000000 in
theorem tL_isEnough {l : Launch} {Z : mxZ} (hl : l.stackTraces = false) {p0 : Nat} {p1 : Int32} {p2 : Int32} {h : mxH} {out : (Int32 × mxH)} (hf : fL_isEnough p0 p1 p2 h = some out) : mxMet l Z yL_isEnough cL_isEnough 4 (some .boolean) rmL_isEnough [.ref p0, .int p1, .int p2] h (.inl (some (.int out.1))) out.2 := by
  refine mxMet_of (by decide) hl (by simp [Value.category]) (Nat.le_of_ble_eq_true rfl) ?_
  intro X C E hX hin
  unfold fL_isEnough at hf
  refine mG_aload_n (pc := 0) C dL_isEnough_0 rfl ?_
  refine mG_iload_n (pc := 1) C dL_isEnough_1 rfl ?_
  obtain ⟨u1, e2, hf⟩ := mx_bind hf
  obtain ⟨o4, e3, hf⟩ := mx_bind hf
  refine mG_cV2 (pc := 2) (k' := 884) (n' := 4450) (h' := o4.2) (v := some (.ref o4.1)) 11 [.int p2] [] C hX dL_isEnough_2 lkV_L_99 rfl rfl e2 (tL_ranking hl e3) rfl rfl rfl ⟨Nat.le_of_ble_eq_true rfl, Nat.le_of_ble_eq_true rfl⟩ rfl ?_
  refine mG_asn (ls' := [some (.ref p0), some (.int p1), some (.int p2), some (.ref o4.1)]) (pc := 5) C dL_isEnough_5 rfl rfl rfl ?_
  refine mG_aload_n (pc := 6) C dL_isEnough_6 rfl ?_
  obtain ⟨v5, e6, hf⟩ := mx_bind hf
  refine mG_arraylength (pc := 7) C dL_isEnough_7 e6 ?_
  refine mG_iload_n (pc := 8) C dL_isEnough_8 rfl ?_
  obtain ⟨jp9, e10, hf⟩ := mx_bind hf
  have J8 : ∀ jp9' : (Int32 × mxH), jp9' = jp9 → mG l Z X 4 886 4460 34 [none, none, none, none] [.int jp9'.1] jp9'.2 := by
    intro jp9' q35
    subst q35
    obtain ⟨v33, e34, hf⟩ := mx_bind hf
    cases hf
    exact mG_zr2 (pc := 34) C e34 E hX dL_isEnough_34 ⟨Nat.le_of_ble_eq_true rfl, Nat.le_of_ble_eq_true rfl⟩
  refine mG_icmp_lt (pc := 9) (tgt := 33) C dL_isEnough_9 (by decide) (fun q7 => ?_) (fun q7 => ?_)
  · rw [if_pos q7] at e10
    refine mG_ic (pc := 33) C dL_isEnough_33 kI0 ?_
    exact mG_wd (by omega) (by omega) (mG_sub (mxLe_n (mxLe_n (mxLe_n (mxLe_n mxLe_z)))) (J8 _ (Option.some.inj e10)))
  · rw [if_neg q7] at e10
    refine mG_aload_n (pc := 12) C dL_isEnough_12 rfl ?_
    refine mG_aload_n (pc := 13) C dL_isEnough_13 rfl ?_
    refine mG_iload_n (pc := 14) C dL_isEnough_14 rfl ?_
    refine mG_ic (pc := 15) C dL_isEnough_15 kI1 ?_
    refine mG_isub (pc := 16) C dL_isEnough_16 ?_
    obtain ⟨v22, e23, e10⟩ := mx_bind e10
    refine mG_iaload (pc := 17) C dL_isEnough_17 e23 ?_
    obtain ⟨u24, e25, e10⟩ := mx_bind e10
    obtain ⟨o27, e26, e10⟩ := mx_bind e10
    refine mG_cV2 (pc := 18) (k' := 885) (n' := 4455) (h' := o27.2) (v := some (.int o27.1)) 11 [.int v22] [] C hX dL_isEnough_18 lkV_L_90 rfl rfl e25 (tL_value hl e26) rfl rfl rfl ⟨Nat.le_of_ble_eq_true rfl, Nat.le_of_ble_eq_true rfl⟩ rfl ?_
    refine mG_aload_n (pc := 21) C dL_isEnough_21 rfl ?_
    refine mG_iload_n (pc := 22) C dL_isEnough_22 rfl ?_
    obtain ⟨u28, e29, e10⟩ := mx_bind e10
    obtain ⟨o31, e30, e10⟩ := mx_bind e10
    refine mG_cV2 (pc := 23) (k' := 886) (n' := 4460) (h' := o31.2) (v := some (.int o31.1)) 11 [.int p2] [.int o27.1] C hX dL_isEnough_23 lkV_L_129 rfl rfl e29 (tL_limit hl e30) rfl rfl rfl ⟨Nat.le_of_ble_eq_true rfl, Nat.le_of_ble_eq_true rfl⟩ rfl ?_
    refine mG_icmp_lt (pc := 26) (tgt := 33) C dL_isEnough_26 (by decide) (fun q32 => ?_) (fun q32 => ?_)
    · rw [if_pos q32] at e10
      refine mG_ic (pc := 33) C dL_isEnough_33 kI0 ?_
      exact mG_sub (mxLe_n (mxLe_n (mxLe_n (mxLe_n mxLe_z)))) (J8 _ (Option.some.inj e10))
    · rw [if_neg q32] at e10
      refine mG_ic (pc := 29) C dL_isEnough_29 kI1 ?_
      refine mG_goto (tgt := 34) (pc := 30) C dL_isEnough_30 (by decide) ?_
      exact mG_sub (mxLe_n (mxLe_n (mxLe_n (mxLe_n mxLe_z)))) (J8 _ (Option.some.inj e10))
theorem dL_isRefuted_0 : decode cL_isRefuted 0 = .ok (.iconst 1, 1) := by decide +kernel
theorem dL_isRefuted_1 : decode cL_isRefuted 1 = .ok (.istore_n 3, 1) := by decide +kernel
theorem dL_isRefuted_2 : decode cL_isRefuted 2 = .ok (.iconst 0, 1) := by decide +kernel
theorem dL_isRefuted_3 : decode cL_isRefuted 3 = .ok (.istore 4, 2) := by decide +kernel
theorem dL_isRefuted_5 : decode cL_isRefuted 5 = .ok (.iload 4, 2) := by decide +kernel
theorem dL_isRefuted_7 : decode cL_isRefuted 7 = .ok (.bipush 20, 2) := by decide +kernel
theorem dL_isRefuted_9 : decode cL_isRefuted 9 = .ok (.if_icmp .ge 29, 3) := by decide +kernel
theorem dL_isRefuted_12 : decode cL_isRefuted 12 = .ok (.iload_n 3, 1) := by decide +kernel
theorem dL_isRefuted_13 : decode cL_isRefuted 13 = .ok (.ifCond .eq 17, 3) := by decide +kernel
theorem dL_isRefuted_16 : decode cL_isRefuted 16 = .ok (.aload_n 0, 1) := by decide +kernel
theorem dL_isRefuted_17 : decode cL_isRefuted 17 = .ok (.iload 4, 2) := by decide +kernel
theorem dL_isRefuted_19 : decode cL_isRefuted 19 = .ok (.iload_n 2, 1) := by decide +kernel
theorem dL_isRefuted_20 : decode cL_isRefuted 20 = .ok (.invokevirtual 86, 3) := by decide +kernel
theorem dL_isRefuted_23 : decode cL_isRefuted 23 = .ok (.ifCond .eq 7, 3) := by decide +kernel
theorem dL_isRefuted_26 : decode cL_isRefuted 26 = .ok (.iconst 1, 1) := by decide +kernel
theorem dL_isRefuted_27 : decode cL_isRefuted 27 = .ok (.goto 4, 3) := by decide +kernel
theorem dL_isRefuted_30 : decode cL_isRefuted 30 = .ok (.iconst 0, 1) := by decide +kernel
theorem dL_isRefuted_31 : decode cL_isRefuted 31 = .ok (.istore_n 3, 1) := by decide +kernel
theorem dL_isRefuted_32 : decode cL_isRefuted 32 = .ok (.iinc 4 1, 3) := by decide +kernel
theorem dL_isRefuted_35 : decode cL_isRefuted 35 = .ok (.goto (-30), 3) := by decide +kernel
theorem dL_isRefuted_38 : decode cL_isRefuted 38 = .ok (.iload_n 3, 1) := by decide +kernel
theorem dL_isRefuted_39 : decode cL_isRefuted 39 = .ok (.ifCond .eq 5, 3) := by decide +kernel
theorem dL_isRefuted_42 : decode cL_isRefuted 42 = .ok (.iconst 1, 1) := by decide +kernel
theorem dL_isRefuted_43 : decode cL_isRefuted 43 = .ok (.ireturn, 1) := by decide +kernel
theorem dL_isRefuted_44 : decode cL_isRefuted 44 = .ok (.aload_n 0, 1) := by decide +kernel
theorem dL_isRefuted_45 : decode cL_isRefuted 45 = .ok (.getfield 10, 3) := by decide +kernel
theorem dL_isRefuted_48 : decode cL_isRefuted 48 = .ok (.iload_n 1, 1) := by decide +kernel
theorem dL_isRefuted_49 : decode cL_isRefuted 49 = .ok (.iload_n 2, 1) := by decide +kernel
theorem dL_isRefuted_50 : decode cL_isRefuted 50 = .ok (.invokevirtual 150, 3) := by decide +kernel
theorem dL_isRefuted_53 : decode cL_isRefuted 53 = .ok (.istore 4, 2) := by decide +kernel
theorem dL_isRefuted_55 : decode cL_isRefuted 55 = .ok (.iconst 0, 1) := by decide +kernel
theorem dL_isRefuted_56 : decode cL_isRefuted 56 = .ok (.istore 5, 2) := by decide +kernel
theorem dL_isRefuted_58 : decode cL_isRefuted 58 = .ok (.iload 5, 2) := by decide +kernel
theorem dL_isRefuted_60 : decode cL_isRefuted 60 = .ok (.iload 4, 2) := by decide +kernel
theorem dL_isRefuted_62 : decode cL_isRefuted 62 = .ok (.if_icmp .ge 21, 3) := by decide +kernel
theorem dL_isRefuted_65 : decode cL_isRefuted 65 = .ok (.aload_n 0, 1) := by decide +kernel
theorem dL_isRefuted_66 : decode cL_isRefuted 66 = .ok (.iload 5, 2) := by decide +kernel
theorem dL_isRefuted_68 : decode cL_isRefuted 68 = .ok (.iload_n 2, 1) := by decide +kernel
theorem dL_isRefuted_69 : decode cL_isRefuted 69 = .ok (.invokevirtual 86, 3) := by decide +kernel
theorem dL_isRefuted_72 : decode cL_isRefuted 72 = .ok (.ifCond .ne 5, 3) := by decide +kernel
theorem dL_isRefuted_75 : decode cL_isRefuted 75 = .ok (.iconst 0, 1) := by decide +kernel
theorem dL_isRefuted_76 : decode cL_isRefuted 76 = .ok (.ireturn, 1) := by decide +kernel
theorem dL_isRefuted_77 : decode cL_isRefuted 77 = .ok (.iinc 5 1, 3) := by decide +kernel
theorem dL_isRefuted_80 : decode cL_isRefuted 80 = .ok (.goto (-22), 3) := by decide +kernel
theorem dL_isRefuted_83 : decode cL_isRefuted 83 = .ok (.aload_n 0, 1) := by decide +kernel
theorem dL_isRefuted_84 : decode cL_isRefuted 84 = .ok (.iload 4, 2) := by decide +kernel
theorem dL_isRefuted_86 : decode cL_isRefuted 86 = .ok (.iload_n 2, 1) := by decide +kernel
theorem dL_isRefuted_87 : decode cL_isRefuted 87 = .ok (.invokevirtual 86, 3) := by decide +kernel
theorem dL_isRefuted_90 : decode cL_isRefuted 90 = .ok (.ifCond .eq 5, 3) := by decide +kernel
theorem dL_isRefuted_93 : decode cL_isRefuted 93 = .ok (.iconst 0, 1) := by decide +kernel
theorem dL_isRefuted_94 : decode cL_isRefuted 94 = .ok (.ireturn, 1) := by decide +kernel
theorem dL_isRefuted_95 : decode cL_isRefuted 95 = .ok (.iload_n 2, 1) := by decide +kernel
theorem dL_isRefuted_96 : decode cL_isRefuted 96 = .ok (.ifCond .ne 5, 3) := by decide +kernel
theorem dL_isRefuted_99 : decode cL_isRefuted 99 = .ok (.iconst 1, 1) := by decide +kernel
theorem dL_isRefuted_100 : decode cL_isRefuted 100 = .ok (.ireturn, 1) := by decide +kernel
theorem dL_isRefuted_101 : decode cL_isRefuted 101 = .ok (.aload_n 0, 1) := by decide +kernel
theorem dL_isRefuted_102 : decode cL_isRefuted 102 = .ok (.iload_n 1, 1) := by decide +kernel
theorem dL_isRefuted_103 : decode cL_isRefuted 103 = .ok (.iload_n 2, 1) := by decide +kernel
theorem dL_isRefuted_104 : decode cL_isRefuted 104 = .ok (.invokevirtual 138, 3) := by decide +kernel
theorem dL_isRefuted_107 : decode cL_isRefuted 107 = .ok (.ifCond .ne 19, 3) := by decide +kernel
theorem dL_isRefuted_110 : decode cL_isRefuted 110 = .ok (.aload_n 0, 1) := by decide +kernel
theorem dL_isRefuted_111 : decode cL_isRefuted 111 = .ok (.getfield 10, 3) := by decide +kernel
theorem dL_isRefuted_114 : decode cL_isRefuted 114 = .ok (.iload_n 2, 1) := by decide +kernel
theorem dL_isRefuted_115 : decode cL_isRefuted 115 = .ok (.invokevirtual 153, 3) := by decide +kernel
theorem dL_isRefuted_118 : decode cL_isRefuted 118 = .ok (.aload_n 0, 1) := by decide +kernel
theorem dL_isRefuted_119 : decode cL_isRefuted 119 = .ok (.iload_n 2, 1) := by decide +kernel
theorem dL_isRefuted_120 : decode cL_isRefuted 120 = .ok (.invokevirtual 129, 3) := by decide +kernel
theorem dL_isRefuted_123 : decode cL_isRefuted 123 = .ok (.if_icmp .eq 5, 3) := by decide +kernel
theorem dL_isRefuted_126 : decode cL_isRefuted 126 = .ok (.iconst 0, 1) := by decide +kernel
theorem dL_isRefuted_127 : decode cL_isRefuted 127 = .ok (.ireturn, 1) := by decide +kernel
theorem dL_isRefuted_128 : decode cL_isRefuted 128 = .ok (.iconst 0, 1) := by decide +kernel
theorem dL_isRefuted_129 : decode cL_isRefuted 129 = .ok (.istore 5, 2) := by decide +kernel
theorem dL_isRefuted_131 : decode cL_isRefuted 131 = .ok (.iconst 0, 1) := by decide +kernel
theorem dL_isRefuted_132 : decode cL_isRefuted 132 = .ok (.istore 6, 2) := by decide +kernel
theorem dL_isRefuted_134 : decode cL_isRefuted 134 = .ok (.iload 6, 2) := by decide +kernel
theorem dL_isRefuted_136 : decode cL_isRefuted 136 = .ok (.iconst 5, 1) := by decide +kernel
theorem dL_isRefuted_137 : decode cL_isRefuted 137 = .ok (.if_icmp .ge 142, 3) := by decide +kernel
theorem dL_isRefuted_140 : decode cL_isRefuted 140 = .ok (.iconst (-1), 1) := by decide +kernel
theorem dL_isRefuted_141 : decode cL_isRefuted 141 = .ok (.istore 7, 2) := by decide +kernel
theorem dL_isRefuted_143 : decode cL_isRefuted 143 = .ok (.iconst 0, 1) := by decide +kernel
theorem dL_isRefuted_144 : decode cL_isRefuted 144 = .ok (.istore 8, 2) := by decide +kernel
theorem dL_isRefuted_146 : decode cL_isRefuted 146 = .ok (.iload 8, 2) := by decide +kernel
theorem dL_isRefuted_148 : decode cL_isRefuted 148 = .ok (.bipush 20, 2) := by decide +kernel
theorem dL_isRefuted_150 : decode cL_isRefuted 150 = .ok (.if_icmp .ge 48, 3) := by decide +kernel
theorem dL_isRefuted_153 : decode cL_isRefuted 153 = .ok (.aload_n 0, 1) := by decide +kernel
theorem dL_isRefuted_154 : decode cL_isRefuted 154 = .ok (.getfield 18, 3) := by decide +kernel
theorem dL_isRefuted_157 : decode cL_isRefuted 157 = .ok (.iload 6, 2) := by decide +kernel
theorem dL_isRefuted_159 : decode cL_isRefuted 159 = .ok (.aaload, 1) := by decide +kernel
theorem dL_isRefuted_160 : decode cL_isRefuted 160 = .ok (.iload 8, 2) := by decide +kernel
theorem dL_isRefuted_162 : decode cL_isRefuted 162 = .ok (.iaload, 1) := by decide +kernel
theorem dL_isRefuted_163 : decode cL_isRefuted 163 = .ok (.ifCond .lt 29, 3) := by decide +kernel
theorem dL_isRefuted_166 : decode cL_isRefuted 166 = .ok (.aload_n 0, 1) := by decide +kernel
theorem dL_isRefuted_167 : decode cL_isRefuted 167 = .ok (.iload 6, 2) := by decide +kernel
theorem dL_isRefuted_169 : decode cL_isRefuted 169 = .ok (.iload 8, 2) := by decide +kernel
theorem dL_isRefuted_171 : decode cL_isRefuted 171 = .ok (.invokevirtual 58, 3) := by decide +kernel
theorem dL_isRefuted_174 : decode cL_isRefuted 174 = .ok (.iload_n 2, 1) := by decide +kernel
theorem dL_isRefuted_175 : decode cL_isRefuted 175 = .ok (.iconst 1, 1) := by decide +kernel
theorem dL_isRefuted_176 : decode cL_isRefuted 176 = .ok (.isub, 1) := by decide +kernel
theorem dL_isRefuted_177 : decode cL_isRefuted 177 = .ok (.if_icmp .ne 15, 3) := by decide +kernel
theorem dL_isRefuted_180 : decode cL_isRefuted 180 = .ok (.aload_n 0, 1) := by decide +kernel
theorem dL_isRefuted_181 : decode cL_isRefuted 181 = .ok (.getfield 18, 3) := by decide +kernel
theorem dL_isRefuted_184 : decode cL_isRefuted 184 = .ok (.iload 6, 2) := by decide +kernel
theorem dL_isRefuted_186 : decode cL_isRefuted 186 = .ok (.aaload, 1) := by decide +kernel
theorem dL_isRefuted_187 : decode cL_isRefuted 187 = .ok (.iload 8, 2) := by decide +kernel
theorem dL_isRefuted_189 : decode cL_isRefuted 189 = .ok (.iaload, 1) := by decide +kernel
theorem dL_isRefuted_190 : decode cL_isRefuted 190 = .ok (.istore 7, 2) := by decide +kernel
theorem dL_isRefuted_192 : decode cL_isRefuted 192 = .ok (.iinc 8 1, 3) := by decide +kernel
theorem dL_isRefuted_195 : decode cL_isRefuted 195 = .ok (.goto (-49), 3) := by decide +kernel
theorem dL_isRefuted_198 : decode cL_isRefuted 198 = .ok (.iload 7, 2) := by decide +kernel
theorem dL_isRefuted_200 : decode cL_isRefuted 200 = .ok (.ifCond .ge 19, 3) := by decide +kernel
theorem dL_isRefuted_203 : decode cL_isRefuted 203 = .ok (.aload_n 0, 1) := by decide +kernel
theorem dL_isRefuted_204 : decode cL_isRefuted 204 = .ok (.getfield 18, 3) := by decide +kernel
theorem dL_isRefuted_207 : decode cL_isRefuted 207 = .ok (.iload 6, 2) := by decide +kernel
theorem dL_isRefuted_209 : decode cL_isRefuted 209 = .ok (.aaload, 1) := by decide +kernel
theorem dL_isRefuted_210 : decode cL_isRefuted 210 = .ok (.iload 4, 2) := by decide +kernel
theorem dL_isRefuted_212 : decode cL_isRefuted 212 = .ok (.iaload, 1) := by decide +kernel
theorem dL_isRefuted_213 : decode cL_isRefuted 213 = .ok (.ifCond .ge 6, 3) := by decide +kernel
theorem dL_isRefuted_216 : decode cL_isRefuted 216 = .ok (.goto 57, 3) := by decide +kernel
theorem dL_isRefuted_219 : decode cL_isRefuted 219 = .ok (.iload 7, 2) := by decide +kernel
theorem dL_isRefuted_221 : decode cL_isRefuted 221 = .ok (.ifCond .ge 17, 3) := by decide +kernel
theorem dL_isRefuted_224 : decode cL_isRefuted 224 = .ok (.aload_n 0, 1) := by decide +kernel
theorem dL_isRefuted_225 : decode cL_isRefuted 225 = .ok (.getfield 10, 3) := by decide +kernel
theorem dL_isRefuted_228 : decode cL_isRefuted 228 = .ok (.iload 6, 2) := by decide +kernel
theorem dL_isRefuted_230 : decode cL_isRefuted 230 = .ok (.iload 4, 2) := by decide +kernel
theorem dL_isRefuted_232 : decode cL_isRefuted 232 = .ok (.invokevirtual 40, 3) := by decide +kernel
theorem dL_isRefuted_235 : decode cL_isRefuted 235 = .ok (.goto 16, 3) := by decide +kernel
theorem dL_isRefuted_238 : decode cL_isRefuted 238 = .ok (.aload_n 0, 1) := by decide +kernel
theorem dL_isRefuted_239 : decode cL_isRefuted 239 = .ok (.getfield 10, 3) := by decide +kernel
theorem dL_isRefuted_242 : decode cL_isRefuted 242 = .ok (.iload 6, 2) := by decide +kernel
theorem dL_isRefuted_244 : decode cL_isRefuted 244 = .ok (.iload 4, 2) := by decide +kernel
theorem dL_isRefuted_246 : decode cL_isRefuted 246 = .ok (.iload 7, 2) := by decide +kernel
theorem dL_isRefuted_248 : decode cL_isRefuted 248 = .ok (.invokevirtual 36, 3) := by decide +kernel
theorem dL_isRefuted_251 : decode cL_isRefuted 251 = .ok (.istore 8, 2) := by decide +kernel
theorem dL_isRefuted_253 : decode cL_isRefuted 253 = .ok (.iinc 5 1, 3) := by decide +kernel
theorem dL_isRefuted_256 : decode cL_isRefuted 256 = .ok (.iload 8, 2) := by decide +kernel
theorem dL_isRefuted_258 : decode cL_isRefuted 258 = .ok (.aload_n 0, 1) := by decide +kernel
theorem dL_isRefuted_259 : decode cL_isRefuted 259 = .ok (.getfield 18, 3) := by decide +kernel
theorem dL_isRefuted_262 : decode cL_isRefuted 262 = .ok (.iload 6, 2) := by decide +kernel
theorem dL_isRefuted_264 : decode cL_isRefuted 264 = .ok (.aaload, 1) := by decide +kernel
theorem dL_isRefuted_265 : decode cL_isRefuted 265 = .ok (.iload 4, 2) := by decide +kernel
theorem dL_isRefuted_267 : decode cL_isRefuted 267 = .ok (.iaload, 1) := by decide +kernel
theorem dL_isRefuted_268 : decode cL_isRefuted 268 = .ok (.if_icmp .eq 5, 3) := by decide +kernel
theorem dL_isRefuted_271 : decode cL_isRefuted 271 = .ok (.iconst 0, 1) := by decide +kernel
theorem dL_isRefuted_272 : decode cL_isRefuted 272 = .ok (.ireturn, 1) := by decide +kernel
theorem dL_isRefuted_273 : decode cL_isRefuted 273 = .ok (.iinc 6 1, 3) := by decide +kernel
theorem dL_isRefuted_276 : decode cL_isRefuted 276 = .ok (.goto (-142), 3) := by decide +kernel
theorem dL_isRefuted_279 : decode cL_isRefuted 279 = .ok (.aload_n 0, 1) := by decide +kernel
theorem dL_isRefuted_280 : decode cL_isRefuted 280 = .ok (.getfield 10, 3) := by decide +kernel
theorem dL_isRefuted_283 : decode cL_isRefuted 283 = .ok (.iload 4, 2) := by decide +kernel
theorem dL_isRefuted_285 : decode cL_isRefuted 285 = .ok (.invokevirtual 113, 3) := by decide +kernel
theorem dL_isRefuted_288 : decode cL_isRefuted 288 = .ok (.istore 6, 2) := by decide +kernel
theorem dL_isRefuted_290 : decode cL_isRefuted 290 = .ok (.iconst 0, 1) := by decide +kernel
theorem dL_isRefuted_291 : decode cL_isRefuted 291 = .ok (.istore 7, 2) := by decide +kernel
theorem dL_isRefuted_293 : decode cL_isRefuted 293 = .ok (.iload 7, 2) := by decide +kernel
theorem dL_isRefuted_295 : decode cL_isRefuted 295 = .ok (.iload 5, 2) := by decide +kernel
theorem dL_isRefuted_297 : decode cL_isRefuted 297 = .ok (.if_icmp .ge 21, 3) := by decide +kernel
theorem dL_isRefuted_300 : decode cL_isRefuted 300 = .ok (.aload_n 0, 1) := by decide +kernel
theorem dL_isRefuted_301 : decode cL_isRefuted 301 = .ok (.getfield 10, 3) := by decide +kernel
theorem dL_isRefuted_304 : decode cL_isRefuted 304 = .ok (.invokevirtual 154, 3) := by decide +kernel
theorem dL_isRefuted_307 : decode cL_isRefuted 307 = .ok (.ifCond .ge 5, 3) := by decide +kernel
theorem dL_isRefuted_310 : decode cL_isRefuted 310 = .ok (.iconst 0, 1) := by decide +kernel
theorem dL_isRefuted_311 : decode cL_isRefuted 311 = .ok (.ireturn, 1) := by decide +kernel
theorem dL_isRefuted_312 : decode cL_isRefuted 312 = .ok (.iinc 7 1, 3) := by decide +kernel
theorem dL_isRefuted_315 : decode cL_isRefuted 315 = .ok (.goto (-22), 3) := by decide +kernel
theorem dL_isRefuted_318 : decode cL_isRefuted 318 = .ok (.iload 6, 2) := by decide +kernel
theorem dL_isRefuted_320 : decode cL_isRefuted 320 = .ok (.aload_n 0, 1) := by decide +kernel
theorem dL_isRefuted_321 : decode cL_isRefuted 321 = .ok (.iload_n 2, 1) := by decide +kernel
theorem dL_isRefuted_322 : decode cL_isRefuted 322 = .ok (.invokevirtual 129, 3) := by decide +kernel
theorem dL_isRefuted_325 : decode cL_isRefuted 325 = .ok (.if_icmp .ne 25, 3) := by decide +kernel
theorem dL_isRefuted_328 : decode cL_isRefuted 328 = .ok (.aload_n 0, 1) := by decide +kernel
theorem dL_isRefuted_329 : decode cL_isRefuted 329 = .ok (.getfield 10, 3) := by decide +kernel
theorem dL_isRefuted_332 : decode cL_isRefuted 332 = .ok (.iload 4, 2) := by decide +kernel
theorem dL_isRefuted_334 : decode cL_isRefuted 334 = .ok (.invokevirtual 113, 3) := by decide +kernel
theorem dL_isRefuted_337 : decode cL_isRefuted 337 = .ok (.aload_n 0, 1) := by decide +kernel
theorem dL_isRefuted_338 : decode cL_isRefuted 338 = .ok (.iload 4, 2) := by decide +kernel
theorem dL_isRefuted_340 : decode cL_isRefuted 340 = .ok (.invokevirtual 90, 3) := by decide +kernel
theorem dL_isRefuted_343 : decode cL_isRefuted 343 = .ok (.if_icmp .ne 7, 3) := by decide +kernel
theorem dL_isRefuted_346 : decode cL_isRefuted 346 = .ok (.iconst 1, 1) := by decide +kernel
theorem dL_isRefuted_347 : decode cL_isRefuted 347 = .ok (.goto 4, 3) := by decide +kernel
theorem dL_isRefuted_350 : decode cL_isRefuted 350 = .ok (.iconst 0, 1) := by decide +kernel
theorem dL_isRefuted_351 : decode cL_isRefuted 351 = .ok (.ireturn, 1) := by decide +kernel
def fL_isRefuted (p0 : Nat) (p1 : Int32) (p2 : Int32) (h : mxH) : Option (Int32 × mxH) := Option.bind (mxLoop (ρ := Int32) (fun s1 : (Int32 × Int32) => (if 20 ≤ s1.2 then some (Sum.inr s1.1) else Option.bind (α := Int32) (if s1.1 = 0 then some 0 else Option.bind (isO h p0 11) (fun u19 => Option.bind (fL_isReadAt p0 s1.2 p2 h) (fun o22 => (if o22 = 0 then some 0 else some 1)))) (fun jp12' : Int32 => some (Sum.inl (jp12', s1.2 + 1))))) mxF (1, 0)) (fun r25 : Int32 => (if r25 = 0 then Option.bind (gR h p0 11 0) (fun r27 => Option.bind (isO h r27 9) (fun u29 => Option.bind (mxOk (fX9_refute r27 p1 p2 h)) (fun o32 => Option.bind (mxLoop (ρ := (Unit ⊕ Unit)) (fun s33 : Int32 => (if o32.1 ≤ s33 then some (Sum.inr (Sum.inr ())) else Option.bind (isO o32.2 p0 11) (fun u43 => Option.bind (fL_isReadAt p0 s33 p2 o32.2) (fun o46 => (if o46 = 0 then some (Sum.inr (Sum.inl ())) else some (Sum.inl (s33 + 1))))))) mxF 0) (Sum.elim (fun r48 : Unit => Option.bind (mxZ1 0) (fun v49 => some (v49, o32.2))) (fun r52 : Unit => Option.bind (isO o32.2 p0 11) (fun u53 => Option.bind (fL_isReadAt p0 o32.1 p2 o32.2) (fun o56 => (if o56 = 0 then (if p2 = 0 then Option.bind (mxZ1 1) (fun v420 => some (v420, o32.2)) else Option.bind (isO o32.2 p0 11) (fun u59 => Option.bind (fL_isEnough p0 p1 p2 o32.2) (fun o62 => (if o62.1 = 0 then Option.bind (gR o62.2 p0 11 0) (fun r66 => Option.bind (isO o62.2 r66 9) (fun u68 => Option.bind (mxOk (fX9_limit r66 p2 o62.2)) (fun o71 => Option.bind (isO o71.2 p0 11) (fun u72 => Option.bind (fL_limit p0 p2 o71.2) (fun o75 => (if o71.1 = o75.1 then Option.bind (mxLoop (ρ := (mxH ⊕ (Int32 × mxH))) (fun s211 : (Int32 × Int32 × mxH) => (if 5 ≤ s211.2.1 then some (Sum.inr (Sum.inr (s211.1, s211.2.2))) else Option.bind (mxLoop (ρ := Int32) (fun s226 : (Int32 × Int32) => (if 20 ≤ s226.2 then some (Sum.inr s226.1) else Option.bind (gR s211.2.2 p0 11 2) (fun r235 => Option.bind (ldR s211.2.2 r235 s211.2.1) (fun r237 => Option.bind (ldI s211.2.2 r237 s226.2) (fun v239 => Option.bind (α := Int32) (if v239 < 0 then some s226.1 else Option.bind (isO s211.2.2 p0 11) (fun u256 => Option.bind (fL_place p0 s211.2.1 s226.2 s211.2.2) (fun o259 => (if o259 = (p2 - 1) then Option.bind (gR s211.2.2 p0 11 2) (fun r261 => Option.bind (ldR s211.2.2 r261 s211.2.1) (fun r263 => Option.bind (ldI s211.2.2 r263 s226.2) (fun v265 => some v265))) else some s226.1)))) (fun jp243' : Int32 => some (Sum.inl (jp243', s226.2 + 1)))))))) mxF ((-1), 0)) (fun r268 : Int32 => (if 0 ≤ r268 then Option.bind (α := (Int32 × mxH)) (if 0 ≤ r268 then Option.bind (gR s211.2.2 p0 11 0) (fun r286 => Option.bind (isO s211.2.2 r286 9) (fun u288 => Option.bind (mxOk (fX9_put r286 s211.2.1 o32.1 r268 s211.2.2)) (fun o291 => some (o291.1, o291.2)))) else Option.bind (gR s211.2.2 p0 11 0) (fun r292 => Option.bind (isO s211.2.2 r292 9) (fun u294 => Option.bind (mxOk (fX9_drop r292 s211.2.1 o32.1 s211.2.2)) (fun o297 => some (o297.1, o297.2))))) (fun jp272' : (Int32 × mxH) => Option.bind (gR jp272'.2 p0 11 2) (fun r298 => Option.bind (ldR jp272'.2 r298 s211.2.1) (fun r300 => Option.bind (ldI jp272'.2 r300 o32.1) (fun v302 => (if jp272'.1 = v302 then some (Sum.inl (s211.1 + 1, s211.2.1 + 1, jp272'.2)) else some (Sum.inr (Sum.inl jp272'.2))))))) else Option.bind (gR s211.2.2 p0 11 2) (fun r306 => Option.bind (ldR s211.2.2 r306 s211.2.1) (fun r308 => Option.bind (ldI s211.2.2 r308 o32.1) (fun v310 => (if 0 ≤ v310 then Option.bind (α := (Int32 × mxH)) (if 0 ≤ r268 then Option.bind (gR s211.2.2 p0 11 0) (fun r329 => Option.bind (isO s211.2.2 r329 9) (fun u331 => Option.bind (mxOk (fX9_put r329 s211.2.1 o32.1 r268 s211.2.2)) (fun o334 => some (o334.1, o334.2)))) else Option.bind (gR s211.2.2 p0 11 0) (fun r335 => Option.bind (isO s211.2.2 r335 9) (fun u337 => Option.bind (mxOk (fX9_drop r335 s211.2.1 o32.1 s211.2.2)) (fun o340 => some (o340.1, o340.2))))) (fun jp315' : (Int32 × mxH) => Option.bind (gR jp315'.2 p0 11 2) (fun r341 => Option.bind (ldR jp315'.2 r341 s211.2.1) (fun r343 => Option.bind (ldI jp315'.2 r343 o32.1) (fun v345 => (if jp315'.1 = v345 then some (Sum.inl (s211.1 + 1, s211.2.1 + 1, jp315'.2)) else some (Sum.inr (Sum.inl jp315'.2))))))) else some (Sum.inl (s211.1, s211.2.1 + 1, s211.2.2)))))))))) 6 (0, 0, o75.2)) (Sum.elim (fun r350 : mxH => Option.bind (mxZ1 0) (fun v351 => some (v351, r350))) (fun r354 : (Int32 × mxH) => Option.bind (gR r354.2 p0 11 0) (fun r355 => Option.bind (isO r354.2 r355 9) (fun u357 => Option.bind (mxOk (fX9_value r355 o32.1 r354.2)) (fun o360 => Option.bind (mxLoop (ρ := (mxH ⊕ mxH)) (fun s361 : (Int32 × mxH) => (if r354.1 ≤ s361.1 then some (Sum.inr (Sum.inr s361.2)) else Option.bind (gR s361.2 p0 11 0) (fun r371 => Option.bind (isO s361.2 r371 9) (fun u373 => Option.bind (fX9_undo r371 s361.2) (fun o376 => (if 0 ≤ o376.1 then some (Sum.inl (s361.1 + 1, o376.2)) else some (Sum.inr (Sum.inl o376.2)))))))) mxF (0, o360.2)) (Sum.elim (fun r378 : mxH => Option.bind (mxZ1 0) (fun v379 => some (v379, r378))) (fun r382 : mxH => Option.bind (isO r382 p0 11) (fun u383 => Option.bind (fL_limit p0 p2 r382) (fun o386 => Option.bind (α := (Int32 × mxH)) (if o360.1 = o386.1 then Option.bind (gR o386.2 p0 11 0) (fun r402 => Option.bind (isO o386.2 r402 9) (fun u404 => Option.bind (mxOk (fX9_value r402 o32.1 o386.2)) (fun o407 => Option.bind (isO o407.2 p0 11) (fun u408 => Option.bind (fL_value p0 o32.1 o407.2) (fun o411 => (if o407.1 = o411.1 then some (1, o411.2) else some (0, o411.2))))))) else some (0, o386.2)) (fun jp389' : (Int32 × mxH) => Option.bind (mxZ1 jp389'.1) (fun v413 => some (v413, jp389'.2)))))))))))) else Option.bind (mxZ1 0) (fun v418 => some (v418, o75.2)))))))) else Option.bind (mxZ1 0) (fun v64 => some (v64, o62.2)))))) else Option.bind (mxZ1 0) (fun v422 => some (v422, o32.2)))))))))) else Option.bind (mxZ1 1) (fun v425 => some (v425, h))))
abbrev rmL_isRefuted : Room := { frames := 8, cells := 914, slots := 4625, locals := 164 }
set_option maxRecDepth 20000 in
set_option maxHeartbeats 1000000 in
theorem tL_isRefuted {l : Launch} {Z : mxZ} (hl : l.stackTraces = false) {p0 : Nat} {p1 : Int32} {p2 : Int32} {h : mxH} {out : (Int32 × mxH)} (hf : fL_isRefuted p0 p1 p2 h = some out) : mxMet l Z yL_isRefuted cL_isRefuted 9 (some .boolean) rmL_isRefuted [.ref p0, .int p1, .int p2] h (.inl (some (.int out.1))) out.2 := by
  refine mxMet_of (by decide) hl (by simp [Value.category]) (Nat.le_of_ble_eq_true rfl) ?_
  intro X C E hX hin
  unfold fL_isRefuted at hf
  refine mG_ic (pc := 0) C dL_isRefuted_0 kI1 ?_
  refine mG_isn (ls' := [some (.ref p0), some (.int p1), some (.int p2), some (.int 1), none, none, none, none, none]) (pc := 1) C dL_isRefuted_1 rfl rfl rfl ?_
  refine mG_ic (pc := 2) C dL_isRefuted_2 kI0 ?_
  refine mG_is (ls' := [some (.ref p0), some (.int p1), some (.int p2), some (.int 1), some (.int 0), none, none, none, none]) (pc := 3) C dL_isRefuted_3 rfl rfl rfl ?_
  obtain ⟨r2, e3, hf⟩ := mx_bind hf
  have J4 : ∀ r25 : Int32, r25 = r2 → mG l Z X 9 0 0 38 [some (.ref p0), some (.int p1), some (.int p2), some (.int r25), none, none, none, none, none] [] h := by
    intro r25 q427
    subst q427
    refine mG_iload_n (pc := 38) C dL_isRefuted_38 rfl ?_
    refine mG_if_eq (pc := 39) (tgt := 44) C dL_isRefuted_39 (by decide) (fun q26 => ?_) (fun q26 => ?_)
    · rw [if_pos q26] at hf
      refine mG_aload_n (pc := 44) C dL_isRefuted_44 rfl ?_
      obtain ⟨r27, e28, hf⟩ := mx_bind hf
      refine mG_getR (pc := 45) C dL_isRefuted_45 fl_L_10 e28 ?_
      refine mG_iload_n (pc := 48) C dL_isRefuted_48 rfl ?_
      refine mG_iload_n (pc := 49) C dL_isRefuted_49 rfl ?_
      obtain ⟨u29, e30, hf⟩ := mx_bind hf
      obtain ⟨o32, e31, hf⟩ := mx_bind hf
      refine mG_cV2 (pc := 50) (k' := 4) (n' := 24) (h' := o32.2) (v := some (.int o32.1)) 9 [.int p1, .int p2] [] C hX dL_isRefuted_50 lkV_L_150 rfl rfl e30 (tX9_refute hl (mxOk_some e31)) rfl rfl rfl ⟨Nat.le_of_ble_eq_true rfl, Nat.le_of_ble_eq_true rfl⟩ rfl ?_
      refine mG_is (ls' := [some (.ref p0), some (.int p1), some (.int p2), some (.int r25), some (.int o32.1), none, none, none, none]) (pc := 53) C dL_isRefuted_53 rfl rfl rfl ?_
      refine mG_ic (pc := 55) C dL_isRefuted_55 kI0 ?_
      refine mG_is (ls' := [some (.ref p0), some (.int p1), some (.int p2), some (.int r25), some (.int o32.1), some (.int 0), none, none, none]) (pc := 56) C dL_isRefuted_56 rfl rfl rfl ?_
      obtain ⟨r34, e35, hf⟩ := mx_bind hf
      have J36 : ∀ r48 : Unit, Sum.inl r48 = r34 → mG l Z X 9 4 24 75 [none, none, none, none, none, none, none, none, none] [] o32.2 := by
        intro r48 q51
        subst q51
        rw [Sum.elim_inl] at hf
        refine mG_ic (pc := 75) C dL_isRefuted_75 kI0 ?_
        obtain ⟨v49, e50, hf⟩ := mx_bind hf
        cases hf
        exact mG_zr2 (pc := 76) C e50 E hX dL_isRefuted_76 ⟨Nat.le_of_ble_eq_true rfl, Nat.le_of_ble_eq_true rfl⟩
      have J37 : ∀ r52 : Unit, Sum.inr r52 = r34 → mG l Z X 9 4 24 83 [some (.ref p0), some (.int p1), some (.int p2), none, some (.int o32.1), none, none, none, none] [] o32.2 := by
        intro r52 q424
        subst q424
        rw [Sum.elim_inr] at hf
        refine mG_aload_n (pc := 83) C dL_isRefuted_83 rfl ?_
        refine mG_iload (pc := 84) C dL_isRefuted_84 rfl ?_
        refine mG_iload_n (pc := 86) C dL_isRefuted_86 rfl ?_
        obtain ⟨u53, e54, hf⟩ := mx_bind hf
        obtain ⟨o56, e55, hf⟩ := mx_bind hf
        refine mG_cV2 (pc := 87) (k' := 4) (n' := 24) (h' := o32.2) (v := some (.int o56)) 11 [.int o32.1, .int p2] [] C hX dL_isRefuted_87 lkV_L_86 rfl rfl e54 (tL_isReadAt hl e55) rfl rfl rfl ⟨Nat.le_of_ble_eq_true rfl, Nat.le_of_ble_eq_true rfl⟩ rfl ?_
        refine mG_if_eq (pc := 90) (tgt := 95) C dL_isRefuted_90 (by decide) (fun q57 => ?_) (fun q57 => ?_)
        · rw [if_pos q57] at hf
          refine mG_iload_n (pc := 95) C dL_isRefuted_95 rfl ?_
          refine mG_if_ne (pc := 96) (tgt := 101) C dL_isRefuted_96 (by decide) (fun q58 => ?_) (fun q58 => ?_)
          · rw [if_neg q58] at hf
            refine mG_aload_n (pc := 101) C dL_isRefuted_101 rfl ?_
            refine mG_iload_n (pc := 102) C dL_isRefuted_102 rfl ?_
            refine mG_iload_n (pc := 103) C dL_isRefuted_103 rfl ?_
            obtain ⟨u59, e60, hf⟩ := mx_bind hf
            obtain ⟨o62, e61, hf⟩ := mx_bind hf
            refine mG_cV2 (pc := 104) (k' := 890) (n' := 4484) (h' := o62.2) (v := some (.int o62.1)) 11 [.int p1, .int p2] [] C hX dL_isRefuted_104 lkV_L_138 rfl rfl e60 (tL_isEnough hl e61) rfl rfl rfl ⟨Nat.le_of_ble_eq_true rfl, Nat.le_of_ble_eq_true rfl⟩ rfl ?_
            refine mG_if_ne (pc := 107) (tgt := 126) C dL_isRefuted_107 (by decide) (fun q63 => ?_) (fun q63 => ?_)
            · rw [if_neg q63] at hf
              refine mG_ic (pc := 126) C dL_isRefuted_126 kI0 ?_
              obtain ⟨v64, e65, hf⟩ := mx_bind hf
              cases hf
              exact mG_zr2 (pc := 127) C e65 E hX dL_isRefuted_127 ⟨Nat.le_of_ble_eq_true rfl, Nat.le_of_ble_eq_true rfl⟩
            · rw [if_pos q63] at hf
              refine mG_aload_n (pc := 110) C dL_isRefuted_110 rfl ?_
              obtain ⟨r66, e67, hf⟩ := mx_bind hf
              refine mG_getR (pc := 111) C dL_isRefuted_111 fl_L_10 e67 ?_
              refine mG_iload_n (pc := 114) C dL_isRefuted_114 rfl ?_
              obtain ⟨u68, e69, hf⟩ := mx_bind hf
              obtain ⟨o71, e70, hf⟩ := mx_bind hf
              refine mG_cV2 (pc := 115) (k' := 891) (n' := 4490) (h' := o71.2) (v := some (.int o71.1)) 9 [.int p2] [] C hX dL_isRefuted_115 lkV_L_153 rfl rfl e69 (tX9_limit hl (mxOk_some e70)) rfl rfl rfl ⟨Nat.le_of_ble_eq_true rfl, Nat.le_of_ble_eq_true rfl⟩ rfl ?_
              refine mG_aload_n (pc := 118) C dL_isRefuted_118 rfl ?_
              refine mG_iload_n (pc := 119) C dL_isRefuted_119 rfl ?_
              obtain ⟨u72, e73, hf⟩ := mx_bind hf
              obtain ⟨o75, e74, hf⟩ := mx_bind hf
              refine mG_cV2 (pc := 120) (k' := 892) (n' := 4495) (h' := o75.2) (v := some (.int o75.1)) 11 [.int p2] [.int o71.1] C hX dL_isRefuted_120 lkV_L_129 rfl rfl e73 (tL_limit hl e74) rfl rfl rfl ⟨Nat.le_of_ble_eq_true rfl, Nat.le_of_ble_eq_true rfl⟩ rfl ?_
              refine mG_icmp_eq (pc := 123) (tgt := 128) C dL_isRefuted_123 (by decide) (fun q76 => ?_) (fun q76 => ?_)
              · rw [if_pos q76] at hf
                refine mG_ic (pc := 128) C dL_isRefuted_128 kI0 ?_
                refine mG_is (ls' := [some (.ref p0), some (.int p1), some (.int p2), none, some (.int o32.1), some (.int 0), none, none, none]) (pc := 129) C dL_isRefuted_129 rfl rfl rfl ?_
                refine mG_ic (pc := 131) C dL_isRefuted_131 kI0 ?_
                refine mG_is (ls' := [some (.ref p0), some (.int p1), some (.int p2), none, some (.int o32.1), some (.int 0), some (.int 0), none, none]) (pc := 132) C dL_isRefuted_132 rfl rfl rfl ?_
                obtain ⟨r219, e220, hf⟩ := mx_bind hf
                have J215 : ∀ r350 : mxH, Sum.inl r350 = r219 → mG l Z X 9 910 4603 271 [none, none, none, none, none, none, none, none, none] [] r350 := by
                  intro r350 q353
                  subst q353
                  rw [Sum.elim_inl] at hf
                  refine mG_ic (pc := 271) C dL_isRefuted_271 kI0 ?_
                  obtain ⟨v351, e352, hf⟩ := mx_bind hf
                  cases hf
                  exact mG_zr2 (pc := 272) C e352 E hX dL_isRefuted_272 ⟨Nat.le_of_ble_eq_true rfl, Nat.le_of_ble_eq_true rfl⟩
                have J216 : ∀ r354 : (Int32 × mxH), Sum.inr r354 = r219 → mG l Z X 9 910 4603 279 [some (.ref p0), none, some (.int p2), none, some (.int o32.1), some (.int r354.1), none, none, none] [] r354.2 := by
                  intro r354 q417
                  subst q417
                  rw [Sum.elim_inr] at hf
                  refine mG_aload_n (pc := 279) C dL_isRefuted_279 rfl ?_
                  obtain ⟨r355, e356, hf⟩ := mx_bind hf
                  refine mG_getR (pc := 280) C dL_isRefuted_280 fl_L_10 e356 ?_
                  refine mG_iload (pc := 283) C dL_isRefuted_283 rfl ?_
                  obtain ⟨u357, e358, hf⟩ := mx_bind hf
                  obtain ⟨o360, e359, hf⟩ := mx_bind hf
                  refine mG_cV2 (pc := 285) (k' := 911) (n' := 4609) (h' := o360.2) (v := some (.int o360.1)) 9 [.int o32.1] [] C hX dL_isRefuted_285 lkV_L_113 rfl rfl e358 (tX9_value hl (mxOk_some e359)) rfl rfl rfl ⟨Nat.le_of_ble_eq_true rfl, Nat.le_of_ble_eq_true rfl⟩ rfl ?_
                  refine mG_is (ls' := [some (.ref p0), none, some (.int p2), none, some (.int o32.1), some (.int r354.1), some (.int o360.1), none, none]) (pc := 288) C dL_isRefuted_288 rfl rfl rfl ?_
                  refine mG_ic (pc := 290) C dL_isRefuted_290 kI0 ?_
                  refine mG_is (ls' := [some (.ref p0), none, some (.int p2), none, some (.int o32.1), some (.int r354.1), some (.int o360.1), some (.int 0), none]) (pc := 291) C dL_isRefuted_291 rfl rfl rfl ?_
                  obtain ⟨r362, e363, hf⟩ := mx_bind hf
                  have J364 : ∀ r378 : mxH, Sum.inl r378 = r362 → mG l Z X 9 911 4609 310 [none, none, none, none, none, none, none, none, none] [] r378 := by
                    intro r378 q381
                    subst q381
                    rw [Sum.elim_inl] at hf
                    refine mG_ic (pc := 310) C dL_isRefuted_310 kI0 ?_
                    obtain ⟨v379, e380, hf⟩ := mx_bind hf
                    cases hf
                    exact mG_zr2 (pc := 311) C e380 E hX dL_isRefuted_311 ⟨Nat.le_of_ble_eq_true rfl, Nat.le_of_ble_eq_true rfl⟩
                  have J365 : ∀ r382 : mxH, Sum.inr r382 = r362 → mG l Z X 9 911 4609 318 [some (.ref p0), none, some (.int p2), none, some (.int o32.1), none, some (.int o360.1), none, none] [] r382 := by
                    intro r382 q416
                    subst q416
                    rw [Sum.elim_inr] at hf
                    refine mG_iload (pc := 318) C dL_isRefuted_318 rfl ?_
                    refine mG_aload_n (pc := 320) C dL_isRefuted_320 rfl ?_
                    refine mG_iload_n (pc := 321) C dL_isRefuted_321 rfl ?_
                    obtain ⟨u383, e384, hf⟩ := mx_bind hf
                    obtain ⟨o386, e385, hf⟩ := mx_bind hf
                    refine mG_cV2 (pc := 322) (k' := 912) (n' := 4614) (h' := o386.2) (v := some (.int o386.1)) 11 [.int p2] [.int o360.1] C hX dL_isRefuted_322 lkV_L_129 rfl rfl e384 (tL_limit hl e385) rfl rfl rfl ⟨Nat.le_of_ble_eq_true rfl, Nat.le_of_ble_eq_true rfl⟩ rfl ?_
                    obtain ⟨jp389, e390, hf⟩ := mx_bind hf
                    have J388 : ∀ jp389' : (Int32 × mxH), jp389' = jp389 → mG l Z X 9 914 4625 351 [none, none, none, none, none, none, none, none, none] [.int jp389'.1] jp389'.2 := by
                      intro jp389' q415
                      subst q415
                      obtain ⟨v413, e414, hf⟩ := mx_bind hf
                      cases hf
                      exact mG_zr2 (pc := 351) C e414 E hX dL_isRefuted_351 ⟨Nat.le_of_ble_eq_true rfl, Nat.le_of_ble_eq_true rfl⟩
                    refine mG_icmp_ne (pc := 325) (tgt := 350) C dL_isRefuted_325 (by decide) (fun q387 => ?_) (fun q387 => ?_)
                    · rw [if_neg q387] at e390
                      refine mG_ic (pc := 350) C dL_isRefuted_350 kI0 ?_
                      exact mG_wd (by omega) (by omega) (mG_sub (mxLe_n (mxLe_n (mxLe_n (mxLe_n (mxLe_n (mxLe_n (mxLe_n (mxLe_n (mxLe_n mxLe_z))))))))) (J388 _ (Option.some.inj e390)))
                    · rw [if_pos q387] at e390
                      refine mG_aload_n (pc := 328) C dL_isRefuted_328 rfl ?_
                      obtain ⟨r402, e403, e390⟩ := mx_bind e390
                      refine mG_getR (pc := 329) C dL_isRefuted_329 fl_L_10 e403 ?_
                      refine mG_iload (pc := 332) C dL_isRefuted_332 rfl ?_
                      obtain ⟨u404, e405, e390⟩ := mx_bind e390
                      obtain ⟨o407, e406, e390⟩ := mx_bind e390
                      refine mG_cV2 (pc := 334) (k' := 913) (n' := 4620) (h' := o407.2) (v := some (.int o407.1)) 9 [.int o32.1] [] C hX dL_isRefuted_334 lkV_L_113 rfl rfl e405 (tX9_value hl (mxOk_some e406)) rfl rfl rfl ⟨Nat.le_of_ble_eq_true rfl, Nat.le_of_ble_eq_true rfl⟩ rfl ?_
                      refine mG_aload_n (pc := 337) C dL_isRefuted_337 rfl ?_
                      refine mG_iload (pc := 338) C dL_isRefuted_338 rfl ?_
                      obtain ⟨u408, e409, e390⟩ := mx_bind e390
                      obtain ⟨o411, e410, e390⟩ := mx_bind e390
                      refine mG_cV2 (pc := 340) (k' := 914) (n' := 4625) (h' := o411.2) (v := some (.int o411.1)) 11 [.int o32.1] [.int o407.1] C hX dL_isRefuted_340 lkV_L_90 rfl rfl e409 (tL_value hl e410) rfl rfl rfl ⟨Nat.le_of_ble_eq_true rfl, Nat.le_of_ble_eq_true rfl⟩ rfl ?_
                      refine mG_icmp_ne (pc := 343) (tgt := 350) C dL_isRefuted_343 (by decide) (fun q412 => ?_) (fun q412 => ?_)
                      · rw [if_neg q412] at e390
                        refine mG_ic (pc := 350) C dL_isRefuted_350 kI0 ?_
                        exact mG_sub (mxLe_n (mxLe_n (mxLe_n (mxLe_n (mxLe_n (mxLe_n (mxLe_n (mxLe_n (mxLe_n mxLe_z))))))))) (J388 _ (Option.some.inj e390))
                      · rw [if_pos q412] at e390
                        refine mG_ic (pc := 346) C dL_isRefuted_346 kI1 ?_
                        refine mG_goto (tgt := 351) (pc := 347) C dL_isRefuted_347 (by decide) ?_
                        exact mG_sub (mxLe_n (mxLe_n (mxLe_n (mxLe_n (mxLe_n (mxLe_n (mxLe_n (mxLe_n (mxLe_n mxLe_z))))))))) (J388 _ (Option.some.inj e390))
                  refine mG_sub (ls' := [some (.ref p0), none, some (.int p2), none, some (.int o32.1), some (.int r354.1), some (.int o360.1), some (.int 0), none]) (mxLe_s (mxLe_n (mxLe_s (mxLe_n (mxLe_s (mxLe_s (mxLe_s (mxLe_s (mxLe_n mxLe_z))))))))) (mxLoop_ind (K := fun s361 : (Int32 × mxH) => mG l Z X 9 911 4609 293 [some (.ref p0), none, some (.int p2), none, some (.int o32.1), some (.int r354.1), some (.int o360.1), some (.int s361.1), none] [] s361.2) ?_ _ _ e363)
                  intro s361 o368 e369 hK366 hx367
                  refine mG_iload (pc := 293) C dL_isRefuted_293 rfl ?_
                  refine mG_iload (pc := 295) C dL_isRefuted_295 rfl ?_
                  refine mG_icmp_ge (pc := 297) (tgt := 318) C dL_isRefuted_297 (by decide) (fun q370 => ?_) (fun q370 => ?_)
                  · rw [if_pos q370] at e369
                    exact mG_sub (mxLe_s (mxLe_n (mxLe_s (mxLe_n (mxLe_s (mxLe_n (mxLe_s (mxLe_n (mxLe_n mxLe_z))))))))) (J365 _ (hx367 _ (Option.some.inj e369).symm))
                  · rw [if_neg q370] at e369
                    refine mG_aload_n (pc := 300) C dL_isRefuted_300 rfl ?_
                    obtain ⟨r371, e372, e369⟩ := mx_bind e369
                    refine mG_getR (pc := 301) C dL_isRefuted_301 fl_L_10 e372 ?_
                    obtain ⟨u373, e374, e369⟩ := mx_bind e369
                    obtain ⟨o376, e375, e369⟩ := mx_bind e369
                    refine mG_cV2 (pc := 304) (k' := 911) (n' := 4609) (h' := o376.2) (v := some (.int o376.1)) 9 [] [] C hX dL_isRefuted_304 lkV_L_154 rfl rfl e374 (tX9_undo hl e375) rfl rfl rfl ⟨Nat.le_of_ble_eq_true rfl, Nat.le_of_ble_eq_true rfl⟩ rfl ?_
                    refine mG_if_ge (pc := 307) (tgt := 312) C dL_isRefuted_307 (by decide) (fun q377 => ?_) (fun q377 => ?_)
                    · rw [if_pos q377] at e369
                      refine mG_ii (ls' := [some (.ref p0), none, some (.int p2), none, some (.int o32.1), some (.int r354.1), some (.int o360.1), some (.int (s361.1 + 1)), none]) (pc := 312) C dL_isRefuted_312 rfl (kinc1 _) rfl rfl rfl ?_
                      refine mG_goto (tgt := 293) (pc := 315) C dL_isRefuted_315 (by decide) ?_
                      exact mG_sub (mxLe_s (mxLe_n (mxLe_s (mxLe_n (mxLe_s (mxLe_s (mxLe_s (mxLe_s (mxLe_n mxLe_z))))))))) (hK366 _ (Option.some.inj e369).symm)
                    · rw [if_neg q377] at e369
                      exact mG_sub (mxLe_n (mxLe_n (mxLe_n (mxLe_n (mxLe_n (mxLe_n (mxLe_n (mxLe_n (mxLe_n mxLe_z))))))))) (J364 _ (hx367 _ (Option.some.inj e369).symm))
                refine mG_sub (ls' := [some (.ref p0), none, some (.int p2), none, some (.int o32.1), some (.int 0), some (.int 0), none, none]) (mxLe_s (mxLe_n (mxLe_s (mxLe_n (mxLe_s (mxLe_s (mxLe_s (mxLe_n (mxLe_n mxLe_z))))))))) (mxLoop_indN (K := fun (N214 : Nat) (s211 : (Int32 × Int32 × mxH)) => ∀ k212 n213 : Nat, k212 + 3 * N214 ≤ 892 + 3 * 6 → n213 + 18 * N214 ≤ 4495 + 18 * 6 → mG l Z X 9 k212 n213 134 [some (.ref p0), none, some (.int p2), none, some (.int o32.1), some (.int s211.1), some (.int s211.2.1), none, none] [] s211.2.2) ?_ _ _ e220 _ _ (Nat.le_refl _) (Nat.le_refl _))
                intro N214 s211 o221 e222 hK217 hx218 k212 n213 hk223 hn224
                refine mG_iload (pc := 134) C dL_isRefuted_134 rfl ?_
                refine mG_ic (pc := 136) C dL_isRefuted_136 kI5 ?_
                refine mG_icmp_ge (pc := 137) (tgt := 279) C dL_isRefuted_137 (by decide) (fun q225 => ?_) (fun q225 => ?_)
                · rw [if_pos q225] at e222
                  exact mG_wd (by omega) (by omega) (mG_sub (mxLe_s (mxLe_n (mxLe_s (mxLe_n (mxLe_s (mxLe_s (mxLe_n (mxLe_n (mxLe_n mxLe_z))))))))) (J216 _ (hx218 _ (Option.some.inj e222).symm)))
                · rw [if_neg q225] at e222
                  refine mG_ic (pc := 140) C dL_isRefuted_140 kIm1 ?_
                  refine mG_is (ls' := [some (.ref p0), none, some (.int p2), none, some (.int o32.1), some (.int s211.1), some (.int s211.2.1), some (.int (-1)), none]) (pc := 141) C dL_isRefuted_141 rfl rfl rfl ?_
                  refine mG_ic (pc := 143) C dL_isRefuted_143 kI0 ?_
                  refine mG_is (ls' := [some (.ref p0), none, some (.int p2), none, some (.int o32.1), some (.int s211.1), some (.int s211.2.1), some (.int (-1)), some (.int 0)]) (pc := 144) C dL_isRefuted_144 rfl rfl rfl ?_
                  obtain ⟨r227, e228, e222⟩ := mx_bind e222
                  have J229 : ∀ r268 : Int32, r268 = r227 → mG l Z X 9 k212 n213 198 [some (.ref p0), none, some (.int p2), none, some (.int o32.1), some (.int s211.1), some (.int s211.2.1), some (.int r268), none] [] s211.2.2 := by
                    intro r268 q349
                    subst q349
                    refine mG_iload (pc := 198) C dL_isRefuted_198 rfl ?_
                    refine mG_if_ge (pc := 200) (tgt := 219) C dL_isRefuted_200 (by decide) (fun q269 => ?_) (fun q269 => ?_)
                    · rw [if_pos q269] at e222
                      refine mG_iload (pc := 219) C dL_isRefuted_219 rfl ?_
                      obtain ⟨jp272, e273, e222⟩ := mx_bind e222
                      have J271 : ∀ jp272' : (Int32 × mxH), jp272' = jp272 → mG l Z X 9 (k212 + 3) (n213 + 18) 251 [some (.ref p0), none, some (.int p2), none, some (.int o32.1), some (.int s211.1), some (.int s211.2.1), none, none] [.int jp272'.1] jp272'.2 := by
                        intro jp272' q305
                        subst q305
                        refine mG_is (ls' := [some (.ref p0), none, some (.int p2), none, some (.int o32.1), some (.int s211.1), some (.int s211.2.1), none, some (.int jp272'.1)]) (pc := 251) C dL_isRefuted_251 rfl rfl rfl ?_
                        refine mG_ii (ls' := [some (.ref p0), none, some (.int p2), none, some (.int o32.1), some (.int (s211.1 + 1)), some (.int s211.2.1), none, some (.int jp272'.1)]) (pc := 253) C dL_isRefuted_253 rfl (kinc1 _) rfl rfl rfl ?_
                        refine mG_iload (pc := 256) C dL_isRefuted_256 rfl ?_
                        refine mG_aload_n (pc := 258) C dL_isRefuted_258 rfl ?_
                        obtain ⟨r298, e299, e222⟩ := mx_bind e222
                        refine mG_getR (pc := 259) C dL_isRefuted_259 fl_L_18 e299 ?_
                        refine mG_iload (pc := 262) C dL_isRefuted_262 rfl ?_
                        obtain ⟨r300, e301, e222⟩ := mx_bind e222
                        refine mG_aaload (pc := 264) C dL_isRefuted_264 e301 ?_
                        refine mG_iload (pc := 265) C dL_isRefuted_265 rfl ?_
                        obtain ⟨v302, e303, e222⟩ := mx_bind e222
                        refine mG_iaload (pc := 267) C dL_isRefuted_267 e303 ?_
                        refine mG_icmp_eq (pc := 268) (tgt := 273) C dL_isRefuted_268 (by decide) (fun q304 => ?_) (fun q304 => ?_)
                        · rw [if_pos q304] at e222
                          refine mG_ii (ls' := [some (.ref p0), none, some (.int p2), none, some (.int o32.1), some (.int (s211.1 + 1)), some (.int (s211.2.1 + 1)), none, some (.int jp272'.1)]) (pc := 273) C dL_isRefuted_273 rfl (kinc1 _) rfl rfl rfl ?_
                          refine mG_goto (tgt := 134) (pc := 276) C dL_isRefuted_276 (by decide) ?_
                          exact mG_sub (mxLe_s (mxLe_n (mxLe_s (mxLe_n (mxLe_s (mxLe_s (mxLe_s (mxLe_n (mxLe_n mxLe_z))))))))) (hK217 _ (Option.some.inj e222).symm _ _ (by omega) (by omega))
                        · rw [if_neg q304] at e222
                          exact mG_wd (by omega) (by omega) (mG_sub (mxLe_n (mxLe_n (mxLe_n (mxLe_n (mxLe_n (mxLe_n (mxLe_n (mxLe_n (mxLe_n mxLe_z))))))))) (J215 _ (hx218 _ (Option.some.inj e222).symm)))
                      refine mG_if_ge (pc := 221) (tgt := 238) C dL_isRefuted_221 (by decide) (fun q270 => ?_) (fun q270 => ?_)
                      · rw [if_pos q270] at e273
                        refine mG_aload_n (pc := 238) C dL_isRefuted_238 rfl ?_
                        obtain ⟨r286, e287, e273⟩ := mx_bind e273
                        refine mG_getR (pc := 239) C dL_isRefuted_239 fl_L_10 e287 ?_
                        refine mG_iload (pc := 242) C dL_isRefuted_242 rfl ?_
                        refine mG_iload (pc := 244) C dL_isRefuted_244 rfl ?_
                        refine mG_iload (pc := 246) C dL_isRefuted_246 rfl ?_
                        obtain ⟨u288, e289, e273⟩ := mx_bind e273
                        obtain ⟨o291, e290, e273⟩ := mx_bind e273
                        refine mG_cV2 (pc := 248) (k' := (k212 + 3)) (n' := (n213 + 18)) (h' := o291.2) (v := some (.int o291.1)) 9 [.int s211.2.1, .int o32.1, .int r268] [] C hX dL_isRefuted_248 lkV_L_36 rfl rfl e289 (tX9_put hl (mxOk_some e290)) rfl (by show k212 + 3 = (k212 + 3); omega) (by show n213 + 18 = (n213 + 18); omega) ⟨by show (k212 + 3) ≤ 914; omega, by show (n213 + 18) ≤ 4625; omega⟩ rfl ?_
                        exact mG_sub (mxLe_s (mxLe_n (mxLe_s (mxLe_n (mxLe_s (mxLe_s (mxLe_s (mxLe_n (mxLe_n mxLe_z))))))))) (J271 _ (Option.some.inj e273))
                      · rw [if_neg q270] at e273
                        refine mG_aload_n (pc := 224) C dL_isRefuted_224 rfl ?_
                        obtain ⟨r292, e293, e273⟩ := mx_bind e273
                        refine mG_getR (pc := 225) C dL_isRefuted_225 fl_L_10 e293 ?_
                        refine mG_iload (pc := 228) C dL_isRefuted_228 rfl ?_
                        refine mG_iload (pc := 230) C dL_isRefuted_230 rfl ?_
                        obtain ⟨u294, e295, e273⟩ := mx_bind e273
                        obtain ⟨o297, e296, e273⟩ := mx_bind e273
                        refine mG_cV2 (pc := 232) (k' := (k212 + 3)) (n' := (n213 + 18)) (h' := o297.2) (v := some (.int o297.1)) 9 [.int s211.2.1, .int o32.1] [] C hX dL_isRefuted_232 lkV_L_40 rfl rfl e295 (tX9_drop hl (mxOk_some e296)) rfl (by show k212 + 3 = (k212 + 3); omega) (by show n213 + 18 = (n213 + 18); omega) ⟨by show (k212 + 3) ≤ 914; omega, by show (n213 + 18) ≤ 4625; omega⟩ rfl ?_
                        refine mG_goto (tgt := 251) (pc := 235) C dL_isRefuted_235 (by decide) ?_
                        exact mG_sub (mxLe_s (mxLe_n (mxLe_s (mxLe_n (mxLe_s (mxLe_s (mxLe_s (mxLe_n (mxLe_n mxLe_z))))))))) (J271 _ (Option.some.inj e273))
                    · rw [if_neg q269] at e222
                      refine mG_aload_n (pc := 203) C dL_isRefuted_203 rfl ?_
                      obtain ⟨r306, e307, e222⟩ := mx_bind e222
                      refine mG_getR (pc := 204) C dL_isRefuted_204 fl_L_18 e307 ?_
                      refine mG_iload (pc := 207) C dL_isRefuted_207 rfl ?_
                      obtain ⟨r308, e309, e222⟩ := mx_bind e222
                      refine mG_aaload (pc := 209) C dL_isRefuted_209 e309 ?_
                      refine mG_iload (pc := 210) C dL_isRefuted_210 rfl ?_
                      obtain ⟨v310, e311, e222⟩ := mx_bind e222
                      refine mG_iaload (pc := 212) C dL_isRefuted_212 e311 ?_
                      refine mG_if_ge (pc := 213) (tgt := 219) C dL_isRefuted_213 (by decide) (fun q312 => ?_) (fun q312 => ?_)
                      · rw [if_pos q312] at e222
                        refine mG_iload (pc := 219) C dL_isRefuted_219 rfl ?_
                        obtain ⟨jp315, e316, e222⟩ := mx_bind e222
                        have J314 : ∀ jp315' : (Int32 × mxH), jp315' = jp315 → mG l Z X 9 (k212 + 3) (n213 + 18) 251 [some (.ref p0), none, some (.int p2), none, some (.int o32.1), some (.int s211.1), some (.int s211.2.1), none, none] [.int jp315'.1] jp315'.2 := by
                          intro jp315' q348
                          subst q348
                          refine mG_is (ls' := [some (.ref p0), none, some (.int p2), none, some (.int o32.1), some (.int s211.1), some (.int s211.2.1), none, some (.int jp315'.1)]) (pc := 251) C dL_isRefuted_251 rfl rfl rfl ?_
                          refine mG_ii (ls' := [some (.ref p0), none, some (.int p2), none, some (.int o32.1), some (.int (s211.1 + 1)), some (.int s211.2.1), none, some (.int jp315'.1)]) (pc := 253) C dL_isRefuted_253 rfl (kinc1 _) rfl rfl rfl ?_
                          refine mG_iload (pc := 256) C dL_isRefuted_256 rfl ?_
                          refine mG_aload_n (pc := 258) C dL_isRefuted_258 rfl ?_
                          obtain ⟨r341, e342, e222⟩ := mx_bind e222
                          refine mG_getR (pc := 259) C dL_isRefuted_259 fl_L_18 e342 ?_
                          refine mG_iload (pc := 262) C dL_isRefuted_262 rfl ?_
                          obtain ⟨r343, e344, e222⟩ := mx_bind e222
                          refine mG_aaload (pc := 264) C dL_isRefuted_264 e344 ?_
                          refine mG_iload (pc := 265) C dL_isRefuted_265 rfl ?_
                          obtain ⟨v345, e346, e222⟩ := mx_bind e222
                          refine mG_iaload (pc := 267) C dL_isRefuted_267 e346 ?_
                          refine mG_icmp_eq (pc := 268) (tgt := 273) C dL_isRefuted_268 (by decide) (fun q347 => ?_) (fun q347 => ?_)
                          · rw [if_pos q347] at e222
                            refine mG_ii (ls' := [some (.ref p0), none, some (.int p2), none, some (.int o32.1), some (.int (s211.1 + 1)), some (.int (s211.2.1 + 1)), none, some (.int jp315'.1)]) (pc := 273) C dL_isRefuted_273 rfl (kinc1 _) rfl rfl rfl ?_
                            refine mG_goto (tgt := 134) (pc := 276) C dL_isRefuted_276 (by decide) ?_
                            exact mG_sub (mxLe_s (mxLe_n (mxLe_s (mxLe_n (mxLe_s (mxLe_s (mxLe_s (mxLe_n (mxLe_n mxLe_z))))))))) (hK217 _ (Option.some.inj e222).symm _ _ (by omega) (by omega))
                          · rw [if_neg q347] at e222
                            exact mG_wd (by omega) (by omega) (mG_sub (mxLe_n (mxLe_n (mxLe_n (mxLe_n (mxLe_n (mxLe_n (mxLe_n (mxLe_n (mxLe_n mxLe_z))))))))) (J215 _ (hx218 _ (Option.some.inj e222).symm)))
                        refine mG_if_ge (pc := 221) (tgt := 238) C dL_isRefuted_221 (by decide) (fun q313 => ?_) (fun q313 => ?_)
                        · rw [if_pos q313] at e316
                          refine mG_aload_n (pc := 238) C dL_isRefuted_238 rfl ?_
                          obtain ⟨r329, e330, e316⟩ := mx_bind e316
                          refine mG_getR (pc := 239) C dL_isRefuted_239 fl_L_10 e330 ?_
                          refine mG_iload (pc := 242) C dL_isRefuted_242 rfl ?_
                          refine mG_iload (pc := 244) C dL_isRefuted_244 rfl ?_
                          refine mG_iload (pc := 246) C dL_isRefuted_246 rfl ?_
                          obtain ⟨u331, e332, e316⟩ := mx_bind e316
                          obtain ⟨o334, e333, e316⟩ := mx_bind e316
                          refine mG_cV2 (pc := 248) (k' := (k212 + 3)) (n' := (n213 + 18)) (h' := o334.2) (v := some (.int o334.1)) 9 [.int s211.2.1, .int o32.1, .int r268] [] C hX dL_isRefuted_248 lkV_L_36 rfl rfl e332 (tX9_put hl (mxOk_some e333)) rfl (by show k212 + 3 = (k212 + 3); omega) (by show n213 + 18 = (n213 + 18); omega) ⟨by show (k212 + 3) ≤ 914; omega, by show (n213 + 18) ≤ 4625; omega⟩ rfl ?_
                          exact mG_sub (mxLe_s (mxLe_n (mxLe_s (mxLe_n (mxLe_s (mxLe_s (mxLe_s (mxLe_n (mxLe_n mxLe_z))))))))) (J314 _ (Option.some.inj e316))
                        · rw [if_neg q313] at e316
                          refine mG_aload_n (pc := 224) C dL_isRefuted_224 rfl ?_
                          obtain ⟨r335, e336, e316⟩ := mx_bind e316
                          refine mG_getR (pc := 225) C dL_isRefuted_225 fl_L_10 e336 ?_
                          refine mG_iload (pc := 228) C dL_isRefuted_228 rfl ?_
                          refine mG_iload (pc := 230) C dL_isRefuted_230 rfl ?_
                          obtain ⟨u337, e338, e316⟩ := mx_bind e316
                          obtain ⟨o340, e339, e316⟩ := mx_bind e316
                          refine mG_cV2 (pc := 232) (k' := (k212 + 3)) (n' := (n213 + 18)) (h' := o340.2) (v := some (.int o340.1)) 9 [.int s211.2.1, .int o32.1] [] C hX dL_isRefuted_232 lkV_L_40 rfl rfl e338 (tX9_drop hl (mxOk_some e339)) rfl (by show k212 + 3 = (k212 + 3); omega) (by show n213 + 18 = (n213 + 18); omega) ⟨by show (k212 + 3) ≤ 914; omega, by show (n213 + 18) ≤ 4625; omega⟩ rfl ?_
                          refine mG_goto (tgt := 251) (pc := 235) C dL_isRefuted_235 (by decide) ?_
                          exact mG_sub (mxLe_s (mxLe_n (mxLe_s (mxLe_n (mxLe_s (mxLe_s (mxLe_s (mxLe_n (mxLe_n mxLe_z))))))))) (J314 _ (Option.some.inj e316))
                      · rw [if_neg q312] at e222
                        refine mG_goto (tgt := 273) (pc := 216) C dL_isRefuted_216 (by decide) ?_
                        refine mG_ii (ls' := [some (.ref p0), none, some (.int p2), none, some (.int o32.1), some (.int s211.1), some (.int (s211.2.1 + 1)), some (.int r268), none]) (pc := 273) C dL_isRefuted_273 rfl (kinc1 _) rfl rfl rfl ?_
                        refine mG_goto (tgt := 134) (pc := 276) C dL_isRefuted_276 (by decide) ?_
                        exact mG_sub (mxLe_s (mxLe_n (mxLe_s (mxLe_n (mxLe_s (mxLe_s (mxLe_s (mxLe_n (mxLe_n mxLe_z))))))))) (hK217 _ (Option.some.inj e222).symm _ _ (by omega) (by omega))
                  refine mG_sub (ls' := [some (.ref p0), none, some (.int p2), none, some (.int o32.1), some (.int s211.1), some (.int s211.2.1), some (.int (-1)), some (.int 0)]) (mxLe_s (mxLe_n (mxLe_s (mxLe_n (mxLe_s (mxLe_s (mxLe_s (mxLe_s (mxLe_s mxLe_z))))))))) (mxLoop_ind (K := fun s226 : (Int32 × Int32) => mG l Z X 9 k212 n213 146 [some (.ref p0), none, some (.int p2), none, some (.int o32.1), some (.int s211.1), some (.int s211.2.1), some (.int s226.1), some (.int s226.2)] [] s211.2.2) ?_ _ _ e228)
                  intro s226 o232 e233 hK230 hx231
                  refine mG_iload (pc := 146) C dL_isRefuted_146 rfl ?_
                  refine mG_bp (pc := 148) C dL_isRefuted_148 kB20 ?_
                  refine mG_icmp_ge (pc := 150) (tgt := 198) C dL_isRefuted_150 (by decide) (fun q234 => ?_) (fun q234 => ?_)
                  · rw [if_pos q234] at e233
                    exact mG_sub (mxLe_s (mxLe_n (mxLe_s (mxLe_n (mxLe_s (mxLe_s (mxLe_s (mxLe_s (mxLe_n mxLe_z))))))))) (J229 _ (hx231 _ (Option.some.inj e233).symm))
                  · rw [if_neg q234] at e233
                    refine mG_aload_n (pc := 153) C dL_isRefuted_153 rfl ?_
                    obtain ⟨r235, e236, e233⟩ := mx_bind e233
                    refine mG_getR (pc := 154) C dL_isRefuted_154 fl_L_18 e236 ?_
                    refine mG_iload (pc := 157) C dL_isRefuted_157 rfl ?_
                    obtain ⟨r237, e238, e233⟩ := mx_bind e233
                    refine mG_aaload (pc := 159) C dL_isRefuted_159 e238 ?_
                    refine mG_iload (pc := 160) C dL_isRefuted_160 rfl ?_
                    obtain ⟨v239, e240, e233⟩ := mx_bind e233
                    refine mG_iaload (pc := 162) C dL_isRefuted_162 e240 ?_
                    obtain ⟨jp243, e244, e233⟩ := mx_bind e233
                    have J242 : ∀ jp243' : Int32, jp243' = jp243 → mG l Z X 9 k212 n213 192 [some (.ref p0), none, some (.int p2), none, some (.int o32.1), some (.int s211.1), some (.int s211.2.1), some (.int jp243'), some (.int s226.2)] [] s211.2.2 := by
                      intro jp243' q267
                      subst q267
                      refine mG_ii (ls' := [some (.ref p0), none, some (.int p2), none, some (.int o32.1), some (.int s211.1), some (.int s211.2.1), some (.int jp243'), some (.int (s226.2 + 1))]) (pc := 192) C dL_isRefuted_192 rfl (kinc1 _) rfl rfl rfl ?_
                      refine mG_goto (tgt := 146) (pc := 195) C dL_isRefuted_195 (by decide) ?_
                      exact mG_sub (mxLe_s (mxLe_n (mxLe_s (mxLe_n (mxLe_s (mxLe_s (mxLe_s (mxLe_s (mxLe_s mxLe_z))))))))) (hK230 _ (Option.some.inj e233).symm)
                    refine mG_if_lt (pc := 163) (tgt := 192) C dL_isRefuted_163 (by decide) (fun q241 => ?_) (fun q241 => ?_)
                    · rw [if_pos q241] at e244
                      exact mG_sub (mxLe_s (mxLe_n (mxLe_s (mxLe_n (mxLe_s (mxLe_s (mxLe_s (mxLe_s (mxLe_s mxLe_z))))))))) (J242 _ (Option.some.inj e244))
                    · rw [if_neg q241] at e244
                      refine mG_aload_n (pc := 166) C dL_isRefuted_166 rfl ?_
                      refine mG_iload (pc := 167) C dL_isRefuted_167 rfl ?_
                      refine mG_iload (pc := 169) C dL_isRefuted_169 rfl ?_
                      obtain ⟨u256, e257, e244⟩ := mx_bind e244
                      obtain ⟨o259, e258, e244⟩ := mx_bind e244
                      refine mG_cV2 (pc := 171) (k' := k212) (n' := n213) (h' := s211.2.2) (v := some (.int o259)) 11 [.int s211.2.1, .int s226.2] [] C hX dL_isRefuted_171 lkV_L_58 rfl rfl e257 (tL_place hl e258) rfl (by show k212 + 0 = k212; omega) (by show n213 + 0 = n213; omega) ⟨by show k212 ≤ 914; omega, by show n213 ≤ 4625; omega⟩ rfl ?_
                      refine mG_iload_n (pc := 174) C dL_isRefuted_174 rfl ?_
                      refine mG_ic (pc := 175) C dL_isRefuted_175 kI1 ?_
                      refine mG_isub (pc := 176) C dL_isRefuted_176 ?_
                      refine mG_icmp_ne (pc := 177) (tgt := 192) C dL_isRefuted_177 (by decide) (fun q260 => ?_) (fun q260 => ?_)
                      · rw [if_neg q260] at e244
                        exact mG_sub (mxLe_s (mxLe_n (mxLe_s (mxLe_n (mxLe_s (mxLe_s (mxLe_s (mxLe_s (mxLe_s mxLe_z))))))))) (J242 _ (Option.some.inj e244))
                      · rw [if_pos q260] at e244
                        refine mG_aload_n (pc := 180) C dL_isRefuted_180 rfl ?_
                        obtain ⟨r261, e262, e244⟩ := mx_bind e244
                        refine mG_getR (pc := 181) C dL_isRefuted_181 fl_L_18 e262 ?_
                        refine mG_iload (pc := 184) C dL_isRefuted_184 rfl ?_
                        obtain ⟨r263, e264, e244⟩ := mx_bind e244
                        refine mG_aaload (pc := 186) C dL_isRefuted_186 e264 ?_
                        refine mG_iload (pc := 187) C dL_isRefuted_187 rfl ?_
                        obtain ⟨v265, e266, e244⟩ := mx_bind e244
                        refine mG_iaload (pc := 189) C dL_isRefuted_189 e266 ?_
                        refine mG_is (ls' := [some (.ref p0), none, some (.int p2), none, some (.int o32.1), some (.int s211.1), some (.int s211.2.1), some (.int v265), some (.int s226.2)]) (pc := 190) C dL_isRefuted_190 rfl rfl rfl ?_
                        exact mG_sub (mxLe_s (mxLe_n (mxLe_s (mxLe_n (mxLe_s (mxLe_s (mxLe_s (mxLe_s (mxLe_s mxLe_z))))))))) (J242 _ (Option.some.inj e244))
              · rw [if_neg q76] at hf
                refine mG_ic (pc := 126) C dL_isRefuted_126 kI0 ?_
                obtain ⟨v418, e419, hf⟩ := mx_bind hf
                cases hf
                exact mG_zr2 (pc := 127) C e419 E hX dL_isRefuted_127 ⟨Nat.le_of_ble_eq_true rfl, Nat.le_of_ble_eq_true rfl⟩
          · rw [if_pos q58] at hf
            refine mG_ic (pc := 99) C dL_isRefuted_99 kI1 ?_
            obtain ⟨v420, e421, hf⟩ := mx_bind hf
            cases hf
            exact mG_zr2 (pc := 100) C e421 E hX dL_isRefuted_100 ⟨Nat.le_of_ble_eq_true rfl, Nat.le_of_ble_eq_true rfl⟩
        · rw [if_neg q57] at hf
          refine mG_ic (pc := 93) C dL_isRefuted_93 kI0 ?_
          obtain ⟨v422, e423, hf⟩ := mx_bind hf
          cases hf
          exact mG_zr2 (pc := 94) C e423 E hX dL_isRefuted_94 ⟨Nat.le_of_ble_eq_true rfl, Nat.le_of_ble_eq_true rfl⟩
      refine mG_sub (ls' := [some (.ref p0), some (.int p1), some (.int p2), none, some (.int o32.1), some (.int 0), none, none, none]) (mxLe_s (mxLe_s (mxLe_s (mxLe_n (mxLe_s (mxLe_s (mxLe_n (mxLe_n (mxLe_n mxLe_z))))))))) (mxLoop_ind (K := fun s33 : Int32 => mG l Z X 9 4 24 58 [some (.ref p0), some (.int p1), some (.int p2), none, some (.int o32.1), some (.int s33), none, none, none] [] o32.2) ?_ _ _ e35)
      intro s33 o40 e41 hK38 hx39
      refine mG_iload (pc := 58) C dL_isRefuted_58 rfl ?_
      refine mG_iload (pc := 60) C dL_isRefuted_60 rfl ?_
      refine mG_icmp_ge (pc := 62) (tgt := 83) C dL_isRefuted_62 (by decide) (fun q42 => ?_) (fun q42 => ?_)
      · rw [if_pos q42] at e41
        exact mG_sub (mxLe_s (mxLe_s (mxLe_s (mxLe_n (mxLe_s (mxLe_n (mxLe_n (mxLe_n (mxLe_n mxLe_z))))))))) (J37 _ (hx39 _ (Option.some.inj e41).symm))
      · rw [if_neg q42] at e41
        refine mG_aload_n (pc := 65) C dL_isRefuted_65 rfl ?_
        refine mG_iload (pc := 66) C dL_isRefuted_66 rfl ?_
        refine mG_iload_n (pc := 68) C dL_isRefuted_68 rfl ?_
        obtain ⟨u43, e44, e41⟩ := mx_bind e41
        obtain ⟨o46, e45, e41⟩ := mx_bind e41
        refine mG_cV2 (pc := 69) (k' := 4) (n' := 24) (h' := o32.2) (v := some (.int o46)) 11 [.int s33, .int p2] [] C hX dL_isRefuted_69 lkV_L_86 rfl rfl e44 (tL_isReadAt hl e45) rfl rfl rfl ⟨Nat.le_of_ble_eq_true rfl, Nat.le_of_ble_eq_true rfl⟩ rfl ?_
        refine mG_if_ne (pc := 72) (tgt := 77) C dL_isRefuted_72 (by decide) (fun q47 => ?_) (fun q47 => ?_)
        · rw [if_neg q47] at e41
          refine mG_ii (ls' := [some (.ref p0), some (.int p1), some (.int p2), none, some (.int o32.1), some (.int (s33 + 1)), none, none, none]) (pc := 77) C dL_isRefuted_77 rfl (kinc1 _) rfl rfl rfl ?_
          refine mG_goto (tgt := 58) (pc := 80) C dL_isRefuted_80 (by decide) ?_
          exact mG_sub (mxLe_s (mxLe_s (mxLe_s (mxLe_n (mxLe_s (mxLe_s (mxLe_n (mxLe_n (mxLe_n mxLe_z))))))))) (hK38 _ (Option.some.inj e41).symm)
        · rw [if_pos q47] at e41
          exact mG_sub (mxLe_n (mxLe_n (mxLe_n (mxLe_n (mxLe_n (mxLe_n (mxLe_n (mxLe_n (mxLe_n mxLe_z))))))))) (J36 _ (hx39 _ (Option.some.inj e41).symm))
    · rw [if_neg q26] at hf
      refine mG_ic (pc := 42) C dL_isRefuted_42 kI1 ?_
      obtain ⟨v425, e426, hf⟩ := mx_bind hf
      cases hf
      exact mG_zr2 (pc := 43) C e426 E hX dL_isRefuted_43 ⟨Nat.le_of_ble_eq_true rfl, Nat.le_of_ble_eq_true rfl⟩
  refine mG_sub (ls' := [some (.ref p0), some (.int p1), some (.int p2), some (.int 1), some (.int 0), none, none, none, none]) (mxLe_s (mxLe_s (mxLe_s (mxLe_s (mxLe_s (mxLe_n (mxLe_n (mxLe_n (mxLe_n mxLe_z))))))))) (mxLoop_ind (K := fun s1 : (Int32 × Int32) => mG l Z X 9 0 0 5 [some (.ref p0), some (.int p1), some (.int p2), some (.int s1.1), some (.int s1.2), none, none, none, none] [] h) ?_ _ _ e3)
  intro s1 o7 e8 hK5 hx6
  refine mG_iload (pc := 5) C dL_isRefuted_5 rfl ?_
  refine mG_bp (pc := 7) C dL_isRefuted_7 kB20 ?_
  refine mG_icmp_ge (pc := 9) (tgt := 38) C dL_isRefuted_9 (by decide) (fun q9 => ?_) (fun q9 => ?_)
  · rw [if_pos q9] at e8
    exact mG_sub (mxLe_s (mxLe_s (mxLe_s (mxLe_s (mxLe_n (mxLe_n (mxLe_n (mxLe_n (mxLe_n mxLe_z))))))))) (J4 _ (hx6 _ (Option.some.inj e8).symm))
  · rw [if_neg q9] at e8
    refine mG_iload_n (pc := 12) C dL_isRefuted_12 rfl ?_
    obtain ⟨jp12, e13, e8⟩ := mx_bind e8
    have J11 : ∀ jp12' : Int32, jp12' = jp12 → mG l Z X 9 0 0 31 [some (.ref p0), some (.int p1), some (.int p2), none, some (.int s1.2), none, none, none, none] [.int jp12'] h := by
      intro jp12' q24
      subst q24
      refine mG_isn (ls' := [some (.ref p0), some (.int p1), some (.int p2), some (.int jp12'), some (.int s1.2), none, none, none, none]) (pc := 31) C dL_isRefuted_31 rfl rfl rfl ?_
      refine mG_ii (ls' := [some (.ref p0), some (.int p1), some (.int p2), some (.int jp12'), some (.int (s1.2 + 1)), none, none, none, none]) (pc := 32) C dL_isRefuted_32 rfl (kinc1 _) rfl rfl rfl ?_
      refine mG_goto (tgt := 5) (pc := 35) C dL_isRefuted_35 (by decide) ?_
      exact mG_sub (mxLe_s (mxLe_s (mxLe_s (mxLe_s (mxLe_s (mxLe_n (mxLe_n (mxLe_n (mxLe_n mxLe_z))))))))) (hK5 _ (Option.some.inj e8).symm)
    refine mG_if_eq (pc := 13) (tgt := 30) C dL_isRefuted_13 (by decide) (fun q10 => ?_) (fun q10 => ?_)
    · rw [if_pos q10] at e13
      refine mG_ic (pc := 30) C dL_isRefuted_30 kI0 ?_
      exact mG_sub (mxLe_s (mxLe_s (mxLe_s (mxLe_n (mxLe_s (mxLe_n (mxLe_n (mxLe_n (mxLe_n mxLe_z))))))))) (J11 _ (Option.some.inj e13))
    · rw [if_neg q10] at e13
      refine mG_aload_n (pc := 16) C dL_isRefuted_16 rfl ?_
      refine mG_iload (pc := 17) C dL_isRefuted_17 rfl ?_
      refine mG_iload_n (pc := 19) C dL_isRefuted_19 rfl ?_
      obtain ⟨u19, e20, e13⟩ := mx_bind e13
      obtain ⟨o22, e21, e13⟩ := mx_bind e13
      refine mG_cV2 (pc := 20) (k' := 0) (n' := 0) (h' := h) (v := some (.int o22)) 11 [.int s1.2, .int p2] [] C hX dL_isRefuted_20 lkV_L_86 rfl rfl e20 (tL_isReadAt hl e21) rfl rfl rfl ⟨Nat.le_of_ble_eq_true rfl, Nat.le_of_ble_eq_true rfl⟩ rfl ?_
      refine mG_if_eq (pc := 23) (tgt := 30) C dL_isRefuted_23 (by decide) (fun q23 => ?_) (fun q23 => ?_)
      · rw [if_pos q23] at e13
        refine mG_ic (pc := 30) C dL_isRefuted_30 kI0 ?_
        exact mG_sub (mxLe_s (mxLe_s (mxLe_s (mxLe_n (mxLe_s (mxLe_n (mxLe_n (mxLe_n (mxLe_n mxLe_z))))))))) (J11 _ (Option.some.inj e13))
      · rw [if_neg q23] at e13
        refine mG_ic (pc := 26) C dL_isRefuted_26 kI1 ?_
        refine mG_goto (tgt := 31) (pc := 27) C dL_isRefuted_27 (by decide) ?_
        exact mG_sub (mxLe_s (mxLe_s (mxLe_s (mxLe_n (mxLe_s (mxLe_n (mxLe_n (mxLe_n (mxLe_n mxLe_z))))))))) (J11 _ (Option.some.inj e13))
