/-! printed by wip/gen/emit.py: for each method its function on the mini machine, and that the machine walks as the function says -/
theorem dX4_valueIn_0 : decode cX4_valueIn 0 = .ok (.iload_n 1, 1) := by decide +kernel
theorem dX4_valueIn_1 : decode cX4_valueIn 1 = .ok (.invokestatic 44, 3) := by decide +kernel
theorem dX4_valueIn_4 : decode cX4_valueIn 4 = .ok (.ifCond .eq 12, 3) := by decide +kernel
theorem dX4_valueIn_7 : decode cX4_valueIn 7 = .ok (.aload_n 0, 1) := by decide +kernel
theorem dX4_valueIn_8 : decode cX4_valueIn 8 = .ok (.getfield 9, 3) := by decide +kernel
theorem dX4_valueIn_11 : decode cX4_valueIn 11 = .ok (.iload_n 1, 1) := by decide +kernel
theorem dX4_valueIn_12 : decode cX4_valueIn 12 = .ok (.iaload, 1) := by decide +kernel
theorem dX4_valueIn_13 : decode cX4_valueIn 13 = .ok (.goto 4, 3) := by decide +kernel
theorem dX4_valueIn_16 : decode cX4_valueIn 16 = .ok (.iconst (-1), 1) := by decide +kernel
theorem dX4_valueIn_17 : decode cX4_valueIn 17 = .ok (.ireturn, 1) := by decide +kernel
def fX4_valueIn (p0 : Nat) (p1 : Int32) (h : mxH) : Option Int32 := Option.bind (fX9_isThing p1 h) (fun v2 => Option.bind (α := Int32) (if v2 = 0 then some (-1) else Option.bind (gR h p0 4 0) (fun r7 => Option.bind (ldI h r7 p1) (fun v9 => some v9))) (fun p5' : Int32 => some p5'))
abbrev rmX4_valueIn : Room := { frames := 1, cells := 0, slots := 0, locals := 20 }
set_option maxRecDepth 20000 in
theorem tX4_valueIn {l : Launch} {Z : mxZ} (hl : l.stackTraces = false) {p0 : Nat} {p1 : Int32} {h : mxH} {out : Int32} (hf : fX4_valueIn p0 p1 h = some out) : mxMet l Z yX4_valueIn cX4_valueIn 2 (some .int) rmX4_valueIn [.ref p0, .int p1] h (.inl (some (.int out))) h := by
  refine mxMet_of (by decide) hl (by simp [Value.category]) (Nat.le_of_ble_eq_true rfl) ?_
  intro X C E hX hin
  unfold fX4_valueIn at hf
  refine mG_iload_n (pc := 0) C dX4_valueIn_0 rfl ?_
  obtain ⟨v2, e1, hf⟩ := mx_bind hf
  refine mG_cS (pc := 1) (k' := 0) (n' := 0) [.int p1] [] C hX dX4_valueIn_1 lkS_X4_44 rfl (tX9_isThing hl e1) rfl rfl rfl rfl ?_
  obtain ⟨p5, e6, hf⟩ := mx_bind hf
  have J4 : ∀ p5' : Int32, p5' = p5 → mG l Z X 2 0 0 17 [none, none] [.int p5'] h := by
    intro p5' q11
    subst q11
    cases hf
    exact mG_ir (pc := 17) C E hX dX4_valueIn_17 rfl
  refine mG_if_eq (pc := 4) (tgt := 16) C dX4_valueIn_4 (by decide) (fun q3 => ?_) (fun q3 => ?_)
  · rw [if_pos q3] at e6
    refine mG_ic (pc := 16) C dX4_valueIn_16 kIm1 ?_
    exact mG_sub (mxLe_n (mxLe_n mxLe_z)) (J4 _ (Option.some.inj e6))
  · rw [if_neg q3] at e6
    refine mG_aload_n (pc := 7) C dX4_valueIn_7 rfl ?_
    obtain ⟨r7, e8, e6⟩ := mx_bind e6
    refine mG_getR (pc := 8) C dX4_valueIn_8 fl_X4_9 e8 ?_
    refine mG_iload_n (pc := 11) C dX4_valueIn_11 rfl ?_
    obtain ⟨v9, e10, e6⟩ := mx_bind e6
    refine mG_iaload (pc := 12) C dX4_valueIn_12 e10 ?_
    refine mG_goto (tgt := 17) (pc := 13) C dX4_valueIn_13 (by decide) ?_
    exact mG_sub (mxLe_n (mxLe_n mxLe_z)) (J4 _ (Option.some.inj e6))
theorem dX4_countAhead_0 : decode cX4_countAhead 0 = .ok (.aload_n 0, 1) := by decide +kernel
theorem dX4_countAhead_1 : decode cX4_countAhead 1 = .ok (.iload_n 1, 1) := by decide +kernel
theorem dX4_countAhead_2 : decode cX4_countAhead 2 = .ok (.invokevirtual 47, 3) := by decide +kernel
theorem dX4_countAhead_5 : decode cX4_countAhead 5 = .ok (.istore_n 2, 1) := by decide +kernel
theorem dX4_countAhead_6 : decode cX4_countAhead 6 = .ok (.iconst 0, 1) := by decide +kernel
theorem dX4_countAhead_7 : decode cX4_countAhead 7 = .ok (.istore_n 3, 1) := by decide +kernel
theorem dX4_countAhead_8 : decode cX4_countAhead 8 = .ok (.iconst 0, 1) := by decide +kernel
theorem dX4_countAhead_9 : decode cX4_countAhead 9 = .ok (.istore 4, 2) := by decide +kernel
theorem dX4_countAhead_11 : decode cX4_countAhead 11 = .ok (.iload 4, 2) := by decide +kernel
theorem dX4_countAhead_13 : decode cX4_countAhead 13 = .ok (.bipush 20, 2) := by decide +kernel
theorem dX4_countAhead_15 : decode cX4_countAhead 15 = .ok (.if_icmp .ge 40, 3) := by decide +kernel
theorem dX4_countAhead_18 : decode cX4_countAhead 18 = .ok (.aload_n 0, 1) := by decide +kernel
theorem dX4_countAhead_19 : decode cX4_countAhead 19 = .ok (.getfield 9, 3) := by decide +kernel
theorem dX4_countAhead_22 : decode cX4_countAhead 22 = .ok (.iload 4, 2) := by decide +kernel
theorem dX4_countAhead_24 : decode cX4_countAhead 24 = .ok (.iaload, 1) := by decide +kernel
theorem dX4_countAhead_25 : decode cX4_countAhead 25 = .ok (.iload_n 2, 1) := by decide +kernel
theorem dX4_countAhead_26 : decode cX4_countAhead 26 = .ok (.if_icmp .gt 20, 3) := by decide +kernel
theorem dX4_countAhead_29 : decode cX4_countAhead 29 = .ok (.aload_n 0, 1) := by decide +kernel
theorem dX4_countAhead_30 : decode cX4_countAhead 30 = .ok (.getfield 9, 3) := by decide +kernel
theorem dX4_countAhead_33 : decode cX4_countAhead 33 = .ok (.iload 4, 2) := by decide +kernel
theorem dX4_countAhead_35 : decode cX4_countAhead 35 = .ok (.iaload, 1) := by decide +kernel
theorem dX4_countAhead_36 : decode cX4_countAhead 36 = .ok (.iload_n 2, 1) := by decide +kernel
theorem dX4_countAhead_37 : decode cX4_countAhead 37 = .ok (.if_icmp .ne 12, 3) := by decide +kernel
theorem dX4_countAhead_40 : decode cX4_countAhead 40 = .ok (.iload 4, 2) := by decide +kernel
theorem dX4_countAhead_42 : decode cX4_countAhead 42 = .ok (.iload_n 1, 1) := by decide +kernel
theorem dX4_countAhead_43 : decode cX4_countAhead 43 = .ok (.if_icmp .ge 6, 3) := by decide +kernel
theorem dX4_countAhead_46 : decode cX4_countAhead 46 = .ok (.iinc 3 1, 3) := by decide +kernel
theorem dX4_countAhead_49 : decode cX4_countAhead 49 = .ok (.iinc 4 1, 3) := by decide +kernel
theorem dX4_countAhead_52 : decode cX4_countAhead 52 = .ok (.goto (-41), 3) := by decide +kernel
theorem dX4_countAhead_55 : decode cX4_countAhead 55 = .ok (.iload_n 3, 1) := by decide +kernel
theorem dX4_countAhead_56 : decode cX4_countAhead 56 = .ok (.ireturn, 1) := by decide +kernel
def fX4_countAhead (p0 : Nat) (p1 : Int32) (h : mxH) : Option Int32 := Option.bind (isO h p0 4) (fun u1 => Option.bind (fX4_valueIn p0 p1 h) (fun v4 => Option.bind (mxLoop (ρ := Int32) (fun s5 : (Int32 × Int32) => (if 20 ≤ s5.2 then some (Sum.inr s5.1) else Option.bind (gR h p0 4 0) (fun r14 => Option.bind (ldI h r14 s5.2) (fun v16 => Option.bind (α := Int32) (if v4 < v16 then some (s5.1 + 1) else Option.bind (gR h p0 4 0) (fun r22 => Option.bind (ldI h r22 s5.2) (fun v24 => (if v24 = v4 then (if p1 ≤ s5.2 then some s5.1 else some (s5.1 + 1)) else some s5.1)))) (fun p20' : Int32 => some (Sum.inl (p20', s5.2 + 1))))))) mxF (0, 0)) (fun r29 : Int32 => some r29)))
abbrev rmX4_countAhead : Room := { frames := 2, cells := 0, slots := 0, locals := 41 }
set_option maxRecDepth 20000 in
theorem tX4_countAhead {l : Launch} {Z : mxZ} (hl : l.stackTraces = false) {p0 : Nat} {p1 : Int32} {h : mxH} {out : Int32} (hf : fX4_countAhead p0 p1 h = some out) : mxMet l Z yX4_countAhead cX4_countAhead 5 (some .int) rmX4_countAhead [.ref p0, .int p1] h (.inl (some (.int out))) h := by
  refine mxMet_of (by decide) hl (by simp [Value.category]) (Nat.le_of_ble_eq_true rfl) ?_
  intro X C E hX hin
  unfold fX4_countAhead at hf
  refine mG_aload_n (pc := 0) C dX4_countAhead_0 rfl ?_
  refine mG_iload_n (pc := 1) C dX4_countAhead_1 rfl ?_
  obtain ⟨u1, e2, hf⟩ := mx_bind hf
  obtain ⟨v4, e3, hf⟩ := mx_bind hf
  refine mG_cV (pc := 2) (k' := 0) (n' := 0) 4 [.int p1] [] C hX dX4_countAhead_2 lkV_X4_47 rfl rfl e2 (tX4_valueIn hl e3) rfl rfl rfl rfl ?_
  refine mG_isn (ls' := [some (.ref p0), some (.int p1), some (.int v4), none, none]) (pc := 5) C dX4_countAhead_5 rfl rfl rfl ?_
  refine mG_ic (pc := 6) C dX4_countAhead_6 kI0 ?_
  refine mG_isn (ls' := [some (.ref p0), some (.int p1), some (.int v4), some (.int 0), none]) (pc := 7) C dX4_countAhead_7 rfl rfl rfl ?_
  refine mG_ic (pc := 8) C dX4_countAhead_8 kI0 ?_
  refine mG_is (ls' := [some (.ref p0), some (.int p1), some (.int v4), some (.int 0), some (.int 0)]) (pc := 9) C dX4_countAhead_9 rfl rfl rfl ?_
  obtain ⟨r6, e7, hf⟩ := mx_bind hf
  have J8 : ∀ r29 : Int32, r29 = r6 → mG l Z X 5 0 0 55 [none, none, none, some (.int r29), none] [] h := by
    intro r29 q30
    subst q30
    refine mG_iload_n (pc := 55) C dX4_countAhead_55 rfl ?_
    cases hf
    exact mG_ir (pc := 56) C E hX dX4_countAhead_56 rfl
  refine mG_sub (ls' := [some (.ref p0), some (.int p1), some (.int v4), some (.int 0), some (.int 0)]) (mxLe_s (mxLe_s (mxLe_s (mxLe_s (mxLe_s mxLe_z))))) (mxLoop_ind (K := fun s5 : (Int32 × Int32) => mG l Z X 5 0 0 11 [some (.ref p0), some (.int p1), some (.int v4), some (.int s5.1), some (.int s5.2)] [] h) ?_ _ _ e7)
  intro s5 o11 e12 hK9 hx10
  refine mG_iload (pc := 11) C dX4_countAhead_11 rfl ?_
  refine mG_bp (pc := 13) C dX4_countAhead_13 kB20 ?_
  refine mG_icmp_ge (pc := 15) (tgt := 55) C dX4_countAhead_15 (by decide) (fun q13 => ?_) (fun q13 => ?_)
  · rw [if_pos q13] at e12
    exact mG_sub (mxLe_n (mxLe_n (mxLe_n (mxLe_s (mxLe_n mxLe_z))))) (J8 _ (hx10 _ (Option.some.inj e12).symm))
  · rw [if_neg q13] at e12
    refine mG_aload_n (pc := 18) C dX4_countAhead_18 rfl ?_
    obtain ⟨r14, e15, e12⟩ := mx_bind e12
    refine mG_getR (pc := 19) C dX4_countAhead_19 fl_X4_9 e15 ?_
    refine mG_iload (pc := 22) C dX4_countAhead_22 rfl ?_
    obtain ⟨v16, e17, e12⟩ := mx_bind e12
    refine mG_iaload (pc := 24) C dX4_countAhead_24 e17 ?_
    refine mG_iload_n (pc := 25) C dX4_countAhead_25 rfl ?_
    obtain ⟨p20, e21, e12⟩ := mx_bind e12
    have J19 : ∀ p20' : Int32, p20' = p20 → mG l Z X 5 0 0 49 [some (.ref p0), some (.int p1), some (.int v4), some (.int p20'), some (.int s5.2)] [] h := by
      intro p20' q28
      subst q28
      refine mG_ii (ls' := [some (.ref p0), some (.int p1), some (.int v4), some (.int p20'), some (.int (s5.2 + 1))]) (pc := 49) C dX4_countAhead_49 rfl (kinc1 _) rfl rfl rfl ?_
      refine mG_goto (tgt := 11) (pc := 52) C dX4_countAhead_52 (by decide) ?_
      exact mG_sub (mxLe_s (mxLe_s (mxLe_s (mxLe_s (mxLe_s mxLe_z))))) (hK9 _ (Option.some.inj e12).symm)
    refine mG_icmp_gt (pc := 26) (tgt := 46) C dX4_countAhead_26 (by decide) (fun q18 => ?_) (fun q18 => ?_)
    · rw [if_pos q18] at e21
      refine mG_ii (ls' := [some (.ref p0), some (.int p1), some (.int v4), some (.int (s5.1 + 1)), some (.int s5.2)]) (pc := 46) C dX4_countAhead_46 rfl (kinc1 _) rfl rfl rfl ?_
      exact mG_sub (mxLe_s (mxLe_s (mxLe_s (mxLe_s (mxLe_s mxLe_z))))) (J19 _ (Option.some.inj e21))
    · rw [if_neg q18] at e21
      refine mG_aload_n (pc := 29) C dX4_countAhead_29 rfl ?_
      obtain ⟨r22, e23, e21⟩ := mx_bind e21
      refine mG_getR (pc := 30) C dX4_countAhead_30 fl_X4_9 e23 ?_
      refine mG_iload (pc := 33) C dX4_countAhead_33 rfl ?_
      obtain ⟨v24, e25, e21⟩ := mx_bind e21
      refine mG_iaload (pc := 35) C dX4_countAhead_35 e25 ?_
      refine mG_iload_n (pc := 36) C dX4_countAhead_36 rfl ?_
      refine mG_icmp_ne (pc := 37) (tgt := 49) C dX4_countAhead_37 (by decide) (fun q26 => ?_) (fun q26 => ?_)
      · rw [if_neg q26] at e21
        exact mG_sub (mxLe_s (mxLe_s (mxLe_s (mxLe_s (mxLe_s mxLe_z))))) (J19 _ (Option.some.inj e21))
      · rw [if_pos q26] at e21
        refine mG_iload (pc := 40) C dX4_countAhead_40 rfl ?_
        refine mG_iload_n (pc := 42) C dX4_countAhead_42 rfl ?_
        refine mG_icmp_ge (pc := 43) (tgt := 49) C dX4_countAhead_43 (by decide) (fun q27 => ?_) (fun q27 => ?_)
        · rw [if_pos q27] at e21
          exact mG_sub (mxLe_s (mxLe_s (mxLe_s (mxLe_s (mxLe_s mxLe_z))))) (J19 _ (Option.some.inj e21))
        · rw [if_neg q27] at e21
          refine mG_ii (ls' := [some (.ref p0), some (.int p1), some (.int v4), some (.int (s5.1 + 1)), some (.int s5.2)]) (pc := 46) C dX4_countAhead_46 rfl (kinc1 _) rfl rfl rfl ?_
          exact mG_sub (mxLe_s (mxLe_s (mxLe_s (mxLe_s (mxLe_s mxLe_z))))) (J19 _ (Option.some.inj e21))
theorem dX4_rankAll_0 : decode cX4_rankAll 0 = .ok (.aload_n 0, 1) := by decide +kernel
theorem dX4_rankAll_1 : decode cX4_rankAll 1 = .ok (.iconst 0, 1) := by decide +kernel
theorem dX4_rankAll_2 : decode cX4_rankAll 2 = .ok (.putfield 21, 3) := by decide +kernel
theorem dX4_rankAll_5 : decode cX4_rankAll 5 = .ok (.iconst 0, 1) := by decide +kernel
theorem dX4_rankAll_6 : decode cX4_rankAll 6 = .ok (.istore_n 2, 1) := by decide +kernel
theorem dX4_rankAll_7 : decode cX4_rankAll 7 = .ok (.iload_n 2, 1) := by decide +kernel
theorem dX4_rankAll_8 : decode cX4_rankAll 8 = .ok (.bipush 20, 2) := by decide +kernel
theorem dX4_rankAll_10 : decode cX4_rankAll 10 = .ok (.if_icmp .ge 52, 3) := by decide +kernel
theorem dX4_rankAll_13 : decode cX4_rankAll 13 = .ok (.aload_n 1, 1) := by decide +kernel
theorem dX4_rankAll_14 : decode cX4_rankAll 14 = .ok (.iload_n 2, 1) := by decide +kernel
theorem dX4_rankAll_15 : decode cX4_rankAll 15 = .ok (.invokevirtual 25, 3) := by decide +kernel
theorem dX4_rankAll_18 : decode cX4_rankAll 18 = .ok (.istore_n 3, 1) := by decide +kernel
theorem dX4_rankAll_19 : decode cX4_rankAll 19 = .ok (.aload_n 0, 1) := by decide +kernel
theorem dX4_rankAll_20 : decode cX4_rankAll 20 = .ok (.getfield 9, 3) := by decide +kernel
theorem dX4_rankAll_23 : decode cX4_rankAll 23 = .ok (.iload_n 2, 1) := by decide +kernel
theorem dX4_rankAll_24 : decode cX4_rankAll 24 = .ok (.iload_n 3, 1) := by decide +kernel
theorem dX4_rankAll_25 : decode cX4_rankAll 25 = .ok (.ifCond .eq 11, 3) := by decide +kernel
theorem dX4_rankAll_28 : decode cX4_rankAll 28 = .ok (.aload_n 1, 1) := by decide +kernel
theorem dX4_rankAll_29 : decode cX4_rankAll 29 = .ok (.iload_n 2, 1) := by decide +kernel
theorem dX4_rankAll_30 : decode cX4_rankAll 30 = .ok (.invokevirtual 31, 3) := by decide +kernel
theorem dX4_rankAll_33 : decode cX4_rankAll 33 = .ok (.goto 4, 3) := by decide +kernel
theorem dX4_rankAll_36 : decode cX4_rankAll 36 = .ok (.iconst (-1), 1) := by decide +kernel
theorem dX4_rankAll_37 : decode cX4_rankAll 37 = .ok (.iastore, 1) := by decide +kernel
theorem dX4_rankAll_38 : decode cX4_rankAll 38 = .ok (.aload_n 0, 1) := by decide +kernel
theorem dX4_rankAll_39 : decode cX4_rankAll 39 = .ok (.dup, 1) := by decide +kernel
theorem dX4_rankAll_40 : decode cX4_rankAll 40 = .ok (.getfield 21, 3) := by decide +kernel
theorem dX4_rankAll_43 : decode cX4_rankAll 43 = .ok (.iload_n 3, 1) := by decide +kernel
theorem dX4_rankAll_44 : decode cX4_rankAll 44 = .ok (.ifCond .eq 7, 3) := by decide +kernel
theorem dX4_rankAll_47 : decode cX4_rankAll 47 = .ok (.iconst 1, 1) := by decide +kernel
theorem dX4_rankAll_48 : decode cX4_rankAll 48 = .ok (.goto 4, 3) := by decide +kernel
theorem dX4_rankAll_51 : decode cX4_rankAll 51 = .ok (.iconst 0, 1) := by decide +kernel
theorem dX4_rankAll_52 : decode cX4_rankAll 52 = .ok (.iadd, 1) := by decide +kernel
theorem dX4_rankAll_53 : decode cX4_rankAll 53 = .ok (.putfield 21, 3) := by decide +kernel
theorem dX4_rankAll_56 : decode cX4_rankAll 56 = .ok (.iinc 2 1, 3) := by decide +kernel
theorem dX4_rankAll_59 : decode cX4_rankAll 59 = .ok (.goto (-52), 3) := by decide +kernel
theorem dX4_rankAll_62 : decode cX4_rankAll 62 = .ok (.aload_n 0, 1) := by decide +kernel
theorem dX4_rankAll_63 : decode cX4_rankAll 63 = .ok (.getfield 15, 3) := by decide +kernel
theorem dX4_rankAll_66 : decode cX4_rankAll 66 = .ok (.iconst (-1), 1) := by decide +kernel
theorem dX4_rankAll_67 : decode cX4_rankAll 67 = .ok (.invokestatic 35, 3) := by decide +kernel
theorem dX4_rankAll_70 : decode cX4_rankAll 70 = .ok (.aload_n 0, 1) := by decide +kernel
theorem dX4_rankAll_71 : decode cX4_rankAll 71 = .ok (.getfield 18, 3) := by decide +kernel
theorem dX4_rankAll_74 : decode cX4_rankAll 74 = .ok (.iconst (-1), 1) := by decide +kernel
theorem dX4_rankAll_75 : decode cX4_rankAll 75 = .ok (.invokestatic 35, 3) := by decide +kernel
theorem dX4_rankAll_78 : decode cX4_rankAll 78 = .ok (.iconst 0, 1) := by decide +kernel
theorem dX4_rankAll_79 : decode cX4_rankAll 79 = .ok (.istore_n 2, 1) := by decide +kernel
theorem dX4_rankAll_80 : decode cX4_rankAll 80 = .ok (.iload_n 2, 1) := by decide +kernel
theorem dX4_rankAll_81 : decode cX4_rankAll 81 = .ok (.bipush 20, 2) := by decide +kernel
theorem dX4_rankAll_83 : decode cX4_rankAll 83 = .ok (.if_icmp .ge 50, 3) := by decide +kernel
theorem dX4_rankAll_86 : decode cX4_rankAll 86 = .ok (.aload_n 0, 1) := by decide +kernel
theorem dX4_rankAll_87 : decode cX4_rankAll 87 = .ok (.getfield 9, 3) := by decide +kernel
theorem dX4_rankAll_90 : decode cX4_rankAll 90 = .ok (.iload_n 2, 1) := by decide +kernel
theorem dX4_rankAll_91 : decode cX4_rankAll 91 = .ok (.iaload, 1) := by decide +kernel
theorem dX4_rankAll_92 : decode cX4_rankAll 92 = .ok (.iconst (-1), 1) := by decide +kernel
theorem dX4_rankAll_93 : decode cX4_rankAll 93 = .ok (.if_icmp .ne 7, 3) := by decide +kernel
theorem dX4_rankAll_96 : decode cX4_rankAll 96 = .ok (.iconst (-1), 1) := by decide +kernel
theorem dX4_rankAll_97 : decode cX4_rankAll 97 = .ok (.goto 8, 3) := by decide +kernel
theorem dX4_rankAll_100 : decode cX4_rankAll 100 = .ok (.aload_n 0, 1) := by decide +kernel
theorem dX4_rankAll_101 : decode cX4_rankAll 101 = .ok (.iload_n 2, 1) := by decide +kernel
theorem dX4_rankAll_102 : decode cX4_rankAll 102 = .ok (.invokevirtual 41, 3) := by decide +kernel
theorem dX4_rankAll_105 : decode cX4_rankAll 105 = .ok (.istore_n 3, 1) := by decide +kernel
theorem dX4_rankAll_106 : decode cX4_rankAll 106 = .ok (.iload_n 3, 1) := by decide +kernel
theorem dX4_rankAll_107 : decode cX4_rankAll 107 = .ok (.invokestatic 44, 3) := by decide +kernel
theorem dX4_rankAll_110 : decode cX4_rankAll 110 = .ok (.ifCond .eq 17, 3) := by decide +kernel
theorem dX4_rankAll_113 : decode cX4_rankAll 113 = .ok (.aload_n 0, 1) := by decide +kernel
theorem dX4_rankAll_114 : decode cX4_rankAll 114 = .ok (.getfield 15, 3) := by decide +kernel
theorem dX4_rankAll_117 : decode cX4_rankAll 117 = .ok (.iload_n 2, 1) := by decide +kernel
theorem dX4_rankAll_118 : decode cX4_rankAll 118 = .ok (.iload_n 3, 1) := by decide +kernel
theorem dX4_rankAll_119 : decode cX4_rankAll 119 = .ok (.iastore, 1) := by decide +kernel
theorem dX4_rankAll_120 : decode cX4_rankAll 120 = .ok (.aload_n 0, 1) := by decide +kernel
theorem dX4_rankAll_121 : decode cX4_rankAll 121 = .ok (.getfield 18, 3) := by decide +kernel
theorem dX4_rankAll_124 : decode cX4_rankAll 124 = .ok (.iload_n 3, 1) := by decide +kernel
theorem dX4_rankAll_125 : decode cX4_rankAll 125 = .ok (.iload_n 2, 1) := by decide +kernel
theorem dX4_rankAll_126 : decode cX4_rankAll 126 = .ok (.iastore, 1) := by decide +kernel
theorem dX4_rankAll_127 : decode cX4_rankAll 127 = .ok (.iinc 2 1, 3) := by decide +kernel
theorem dX4_rankAll_130 : decode cX4_rankAll 130 = .ok (.goto (-50), 3) := by decide +kernel
theorem dX4_rankAll_133 : decode cX4_rankAll 133 = .ok (.return_, 1) := by decide +kernel
def fX4_rankAll (p0 : Nat) (p1 : Nat) (h : mxH) : Option mxH := Option.bind (pI h p0 4 3 0) (fun h1 => Option.bind (mxLoop (ρ := mxH) (fun s3 : (Int32 × mxH) => (if 20 ≤ s3.1 then some (Sum.inr s3.2) else Option.bind (isO s3.2 p1 6) (fun u12 => Option.bind (fX6_isKnown p1 s3.1 s3.2) (fun v15 => Option.bind (gR s3.2 p0 4 0) (fun r16 => Option.bind (α := (Int32 × mxH)) (if v15 = 0 then some ((-1), s3.2) else Option.bind (isO s3.2 p1 6) (fun u22 => Option.bind (fX6_valueOf p1 s3.1 s3.2) (fun o25 => some (o25.1, o25.2)))) (fun p20' : (Int32 × mxH) => Option.bind (stI p20'.2 r16 s3.1 p20'.1) (fun h26 => Option.bind (gI h26 p0 4 3) (fun v28 => Option.bind (α := Int32) (if v15 = 0 then some 0 else some 1) (fun p32' : Int32 => Option.bind (pI h26 p0 4 3 (v28 + p32')) (fun h34 => some (Sum.inl (s3.1 + 1, h34)))))))))))) mxF (0, h1)) (fun r38 : mxH => Option.bind (gR r38 p0 4 1) (fun r39 => Option.bind (fJ7_fill_53178 r39 (-1) r38) (fun o42 => Option.bind (gR o42 p0 4 2) (fun r43 => Option.bind (fJ7_fill_53178 r43 (-1) o42) (fun o46 => Option.bind (mxLoop (ρ := mxH) (fun s47 : (Int32 × mxH) => (if 20 ≤ s47.1 then some (Sum.inr s47.2) else Option.bind (gR s47.2 p0 4 0) (fun r56 => Option.bind (ldI s47.2 r56 s47.1) (fun v58 => Option.bind (α := Int32) (if v58 = (-1) then some (-1) else Option.bind (isO s47.2 p0 4) (fun u64 => Option.bind (fX4_countAhead p0 s47.1 s47.2) (fun v67 => some v67))) (fun p62' : Int32 => Option.bind (fX9_isThing p62' s47.2) (fun v69 => Option.bind (α := mxH) (if v69 = 0 then some s47.2 else Option.bind (gR s47.2 p0 4 1) (fun r74 => Option.bind (stI s47.2 r74 s47.1 p62') (fun h76 => Option.bind (gR h76 p0 4 2) (fun r78 => Option.bind (stI h76 r78 p62' s47.1) (fun h80 => some h80))))) (fun p72' : mxH => some (Sum.inl (s47.1 + 1, p72'))))))))) mxF (0, o46)) (fun r84 : mxH => some r84)))))))
abbrev rmX4_rankAll : Room := { frames := 3, cells := 0, slots := 0, locals := 69 }
set_option maxRecDepth 20000 in
theorem tX4_rankAll {l : Launch} {Z : mxZ} (hl : l.stackTraces = false) {p0 : Nat} {p1 : Nat} {h : mxH} {out : mxH} (hf : fX4_rankAll p0 p1 h = some out) : mxMet l Z yX4_rankAll cX4_rankAll 4 (none) rmX4_rankAll [.ref p0, .ref p1] h (.inl none) out := by
  refine mxMet_of (by decide) hl (by simp [Value.category]) (Nat.le_of_ble_eq_true rfl) ?_
  intro X C E hX hin
  unfold fX4_rankAll at hf
  refine mG_aload_n (pc := 0) C dX4_rankAll_0 rfl ?_
  refine mG_ic (pc := 1) C dX4_rankAll_1 kI0 ?_
  obtain ⟨h1, e2, hf⟩ := mx_bind hf
  refine mG_putI (pc := 2) C dX4_rankAll_2 fl_X4_21 e2 ?_
  refine mG_ic (pc := 5) C dX4_rankAll_5 kI0 ?_
  refine mG_isn (ls' := [some (.ref p0), some (.ref p1), some (.int 0), none]) (pc := 6) C dX4_rankAll_6 rfl rfl rfl ?_
  obtain ⟨r4, e5, hf⟩ := mx_bind hf
  have J6 : ∀ r38 : mxH, r38 = r4 → mG l Z X 4 0 0 62 [some (.ref p0), none, none, none] [] r38 := by
    intro r38 q86
    subst q86
    refine mG_aload_n (pc := 62) C dX4_rankAll_62 rfl ?_
    obtain ⟨r39, e40, hf⟩ := mx_bind hf
    refine mG_getR (pc := 63) C dX4_rankAll_63 fl_X4_15 e40 ?_
    refine mG_ic (pc := 66) C dX4_rankAll_66 kIm1 ?_
    obtain ⟨o42, e41, hf⟩ := mx_bind hf
    refine mG_cS (pc := 67) (k' := 0) (n' := 0) [.ref r39, .int (-1)] [] C hX dX4_rankAll_67 lkS_X4_35 rfl (tJ7_fill_53178 hl e41) rfl rfl rfl rfl ?_
    refine mG_aload_n (pc := 70) C dX4_rankAll_70 rfl ?_
    obtain ⟨r43, e44, hf⟩ := mx_bind hf
    refine mG_getR (pc := 71) C dX4_rankAll_71 fl_X4_18 e44 ?_
    refine mG_ic (pc := 74) C dX4_rankAll_74 kIm1 ?_
    obtain ⟨o46, e45, hf⟩ := mx_bind hf
    refine mG_cS (pc := 75) (k' := 0) (n' := 0) [.ref r43, .int (-1)] [] C hX dX4_rankAll_75 lkS_X4_35 rfl (tJ7_fill_53178 hl e45) rfl rfl rfl rfl ?_
    refine mG_ic (pc := 78) C dX4_rankAll_78 kI0 ?_
    refine mG_isn (ls' := [some (.ref p0), none, some (.int 0), none]) (pc := 79) C dX4_rankAll_79 rfl rfl rfl ?_
    obtain ⟨r48, e49, hf⟩ := mx_bind hf
    have J50 : ∀ r84 : mxH, r84 = r48 → mG l Z X 4 0 0 133 [none, none, none, none] [] r84 := by
      intro r84 q85
      subst q85
      cases hf
      exact mG_vr (pc := 133) C E hX dX4_rankAll_133 rfl
    refine mG_sub (ls' := [some (.ref p0), none, some (.int 0), none]) (mxLe_s (mxLe_n (mxLe_s (mxLe_n mxLe_z)))) (mxLoop_ind (K := fun s47 : (Int32 × mxH) => mG l Z X 4 0 0 80 [some (.ref p0), none, some (.int s47.1), none] [] s47.2) ?_ _ _ e49)
    intro s47 o53 e54 hK51 hx52
    refine mG_iload_n (pc := 80) C dX4_rankAll_80 rfl ?_
    refine mG_bp (pc := 81) C dX4_rankAll_81 kB20 ?_
    refine mG_icmp_ge (pc := 83) (tgt := 133) C dX4_rankAll_83 (by decide) (fun q55 => ?_) (fun q55 => ?_)
    · rw [if_pos q55] at e54
      exact mG_sub (mxLe_n (mxLe_n (mxLe_n (mxLe_n mxLe_z)))) (J50 _ (hx52 _ (Option.some.inj e54).symm))
    · rw [if_neg q55] at e54
      refine mG_aload_n (pc := 86) C dX4_rankAll_86 rfl ?_
      obtain ⟨r56, e57, e54⟩ := mx_bind e54
      refine mG_getR (pc := 87) C dX4_rankAll_87 fl_X4_9 e57 ?_
      refine mG_iload_n (pc := 90) C dX4_rankAll_90 rfl ?_
      obtain ⟨v58, e59, e54⟩ := mx_bind e54
      refine mG_iaload (pc := 91) C dX4_rankAll_91 e59 ?_
      refine mG_ic (pc := 92) C dX4_rankAll_92 kIm1 ?_
      obtain ⟨p62, e63, e54⟩ := mx_bind e54
      have J61 : ∀ p62' : Int32, p62' = p62 → mG l Z X 4 0 0 105 [some (.ref p0), none, some (.int s47.1), none] [.int p62'] s47.2 := by
        intro p62' q83
        subst q83
        refine mG_isn (ls' := [some (.ref p0), none, some (.int s47.1), some (.int p62')]) (pc := 105) C dX4_rankAll_105 rfl rfl rfl ?_
        refine mG_iload_n (pc := 106) C dX4_rankAll_106 rfl ?_
        obtain ⟨v69, e68, e54⟩ := mx_bind e54
        refine mG_cS (pc := 107) (k' := 0) (n' := 0) [.int p62'] [] C hX dX4_rankAll_107 lkS_X4_44 rfl (tX9_isThing hl e68) rfl rfl rfl rfl ?_
        obtain ⟨p72, e73, e54⟩ := mx_bind e54
        have J71 : ∀ p72' : mxH, p72' = p72 → mG l Z X 4 0 0 127 [some (.ref p0), none, some (.int s47.1), none] [] p72' := by
          intro p72' q82
          subst q82
          refine mG_ii (ls' := [some (.ref p0), none, some (.int (s47.1 + 1)), none]) (pc := 127) C dX4_rankAll_127 rfl (kinc1 _) rfl rfl rfl ?_
          refine mG_goto (tgt := 80) (pc := 130) C dX4_rankAll_130 (by decide) ?_
          exact mG_sub (mxLe_s (mxLe_n (mxLe_s (mxLe_n mxLe_z)))) (hK51 _ (Option.some.inj e54).symm)
        refine mG_if_eq (pc := 110) (tgt := 127) C dX4_rankAll_110 (by decide) (fun q70 => ?_) (fun q70 => ?_)
        · rw [if_pos q70] at e73
          exact mG_sub (mxLe_s (mxLe_n (mxLe_s (mxLe_n mxLe_z)))) (J71 _ (Option.some.inj e73))
        · rw [if_neg q70] at e73
          refine mG_aload_n (pc := 113) C dX4_rankAll_113 rfl ?_
          obtain ⟨r74, e75, e73⟩ := mx_bind e73
          refine mG_getR (pc := 114) C dX4_rankAll_114 fl_X4_15 e75 ?_
          refine mG_iload_n (pc := 117) C dX4_rankAll_117 rfl ?_
          refine mG_iload_n (pc := 118) C dX4_rankAll_118 rfl ?_
          obtain ⟨h76, e77, e73⟩ := mx_bind e73
          refine mG_iastore (pc := 119) C dX4_rankAll_119 e77 ?_
          refine mG_aload_n (pc := 120) C dX4_rankAll_120 rfl ?_
          obtain ⟨r78, e79, e73⟩ := mx_bind e73
          refine mG_getR (pc := 121) C dX4_rankAll_121 fl_X4_18 e79 ?_
          refine mG_iload_n (pc := 124) C dX4_rankAll_124 rfl ?_
          refine mG_iload_n (pc := 125) C dX4_rankAll_125 rfl ?_
          obtain ⟨h80, e81, e73⟩ := mx_bind e73
          refine mG_iastore (pc := 126) C dX4_rankAll_126 e81 ?_
          exact mG_sub (mxLe_s (mxLe_n (mxLe_s (mxLe_n mxLe_z)))) (J71 _ (Option.some.inj e73))
      refine mG_icmp_ne (pc := 93) (tgt := 100) C dX4_rankAll_93 (by decide) (fun q60 => ?_) (fun q60 => ?_)
      · rw [if_neg q60] at e63
        refine mG_aload_n (pc := 100) C dX4_rankAll_100 rfl ?_
        refine mG_iload_n (pc := 101) C dX4_rankAll_101 rfl ?_
        obtain ⟨u64, e65, e63⟩ := mx_bind e63
        obtain ⟨v67, e66, e63⟩ := mx_bind e63
        refine mG_cV (pc := 102) (k' := 0) (n' := 0) 4 [.int s47.1] [] C hX dX4_rankAll_102 lkV_X4_41 rfl rfl e65 (tX4_countAhead hl e66) rfl rfl rfl rfl ?_
        exact mG_sub (mxLe_s (mxLe_n (mxLe_s (mxLe_n mxLe_z)))) (J61 _ (Option.some.inj e63))
      · rw [if_pos q60] at e63
        refine mG_ic (pc := 96) C dX4_rankAll_96 kIm1 ?_
        refine mG_goto (tgt := 105) (pc := 97) C dX4_rankAll_97 (by decide) ?_
        exact mG_sub (mxLe_s (mxLe_n (mxLe_s (mxLe_n mxLe_z)))) (J61 _ (Option.some.inj e63))
  refine mG_sub (ls' := [some (.ref p0), some (.ref p1), some (.int 0), none]) (mxLe_s (mxLe_s (mxLe_s (mxLe_n mxLe_z)))) (mxLoop_ind (K := fun s3 : (Int32 × mxH) => mG l Z X 4 0 0 7 [some (.ref p0), some (.ref p1), some (.int s3.1), none] [] s3.2) ?_ _ _ e5)
  intro s3 o9 e10 hK7 hx8
  refine mG_iload_n (pc := 7) C dX4_rankAll_7 rfl ?_
  refine mG_bp (pc := 8) C dX4_rankAll_8 kB20 ?_
  refine mG_icmp_ge (pc := 10) (tgt := 62) C dX4_rankAll_10 (by decide) (fun q11 => ?_) (fun q11 => ?_)
  · rw [if_pos q11] at e10
    exact mG_sub (mxLe_s (mxLe_n (mxLe_n (mxLe_n mxLe_z)))) (J6 _ (hx8 _ (Option.some.inj e10).symm))
  · rw [if_neg q11] at e10
    refine mG_aload_n (pc := 13) C dX4_rankAll_13 rfl ?_
    refine mG_iload_n (pc := 14) C dX4_rankAll_14 rfl ?_
    obtain ⟨u12, e13, e10⟩ := mx_bind e10
    obtain ⟨v15, e14, e10⟩ := mx_bind e10
    refine mG_cV (pc := 15) (k' := 0) (n' := 0) 6 [.int s3.1] [] C hX dX4_rankAll_15 lkV_X4_25 rfl rfl e13 (tX6_isKnown hl e14) rfl rfl rfl rfl ?_
    refine mG_isn (ls' := [some (.ref p0), some (.ref p1), some (.int s3.1), some (.int v15)]) (pc := 18) C dX4_rankAll_18 rfl rfl rfl ?_
    refine mG_aload_n (pc := 19) C dX4_rankAll_19 rfl ?_
    obtain ⟨r16, e17, e10⟩ := mx_bind e10
    refine mG_getR (pc := 20) C dX4_rankAll_20 fl_X4_9 e17 ?_
    refine mG_iload_n (pc := 23) C dX4_rankAll_23 rfl ?_
    refine mG_iload_n (pc := 24) C dX4_rankAll_24 rfl ?_
    obtain ⟨p20, e21, e10⟩ := mx_bind e10
    have J19 : ∀ p20' : (Int32 × mxH), p20' = p20 → mG l Z X 4 0 0 37 [some (.ref p0), some (.ref p1), some (.int s3.1), some (.int v15)] [.int p20'.1, .int s3.1, .ref r16] p20'.2 := by
      intro p20' q37
      subst q37
      obtain ⟨h26, e27, e10⟩ := mx_bind e10
      refine mG_iastore (pc := 37) C dX4_rankAll_37 e27 ?_
      refine mG_aload_n (pc := 38) C dX4_rankAll_38 rfl ?_
      refine mG_dup (pc := 39) C dX4_rankAll_39 rfl ?_
      obtain ⟨v28, e29, e10⟩ := mx_bind e10
      refine mG_getI (pc := 40) C dX4_rankAll_40 fl_X4_21 e29 ?_
      refine mG_iload_n (pc := 43) C dX4_rankAll_43 rfl ?_
      obtain ⟨p32, e33, e10⟩ := mx_bind e10
      have J31 : ∀ p32' : Int32, p32' = p32 → mG l Z X 4 0 0 52 [some (.ref p0), some (.ref p1), some (.int s3.1), none] [.int p32', .int v28, .ref p0] h26 := by
        intro p32' q36
        subst q36
        refine mG_iadd (pc := 52) C dX4_rankAll_52 ?_
        obtain ⟨h34, e35, e10⟩ := mx_bind e10
        refine mG_putI (pc := 53) C dX4_rankAll_53 fl_X4_21 e35 ?_
        refine mG_ii (ls' := [some (.ref p0), some (.ref p1), some (.int (s3.1 + 1)), none]) (pc := 56) C dX4_rankAll_56 rfl (kinc1 _) rfl rfl rfl ?_
        refine mG_goto (tgt := 7) (pc := 59) C dX4_rankAll_59 (by decide) ?_
        exact mG_sub (mxLe_s (mxLe_s (mxLe_s (mxLe_n mxLe_z)))) (hK7 _ (Option.some.inj e10).symm)
      refine mG_if_eq (pc := 44) (tgt := 51) C dX4_rankAll_44 (by decide) (fun q30 => ?_) (fun q30 => ?_)
      · rw [if_pos q30] at e33
        refine mG_ic (pc := 51) C dX4_rankAll_51 kI0 ?_
        exact mG_sub (mxLe_s (mxLe_s (mxLe_s (mxLe_n mxLe_z)))) (J31 _ (Option.some.inj e33))
      · rw [if_neg q30] at e33
        refine mG_ic (pc := 47) C dX4_rankAll_47 kI1 ?_
        refine mG_goto (tgt := 52) (pc := 48) C dX4_rankAll_48 (by decide) ?_
        exact mG_sub (mxLe_s (mxLe_s (mxLe_s (mxLe_n mxLe_z)))) (J31 _ (Option.some.inj e33))
    refine mG_if_eq (pc := 25) (tgt := 36) C dX4_rankAll_25 (by decide) (fun q18 => ?_) (fun q18 => ?_)
    · rw [if_pos q18] at e21
      refine mG_ic (pc := 36) C dX4_rankAll_36 kIm1 ?_
      exact mG_sub (mxLe_s (mxLe_s (mxLe_s (mxLe_s mxLe_z)))) (J19 _ (Option.some.inj e21))
    · rw [if_neg q18] at e21
      refine mG_aload_n (pc := 28) C dX4_rankAll_28 rfl ?_
      refine mG_iload_n (pc := 29) C dX4_rankAll_29 rfl ?_
      obtain ⟨u22, e23, e21⟩ := mx_bind e21
      obtain ⟨o25, e24, e21⟩ := mx_bind e21
      refine mG_cV (pc := 30) (k' := 0) (n' := 0) 6 [.int s3.1] [.int s3.1, .ref r16] C hX dX4_rankAll_30 lkV_X4_31 rfl rfl e23 (tX6_valueOf hl e24) rfl rfl rfl rfl ?_
      refine mG_goto (tgt := 37) (pc := 33) C dX4_rankAll_33 (by decide) ?_
      exact mG_sub (mxLe_s (mxLe_s (mxLe_s (mxLe_s mxLe_z)))) (J19 _ (Option.some.inj e21))
theorem dX4_rankIn_0 : decode cX4_rankIn 0 = .ok (.iload_n 1, 1) := by decide +kernel
theorem dX4_rankIn_1 : decode cX4_rankIn 1 = .ok (.invokestatic 44, 3) := by decide +kernel
theorem dX4_rankIn_4 : decode cX4_rankIn 4 = .ok (.ifCond .eq 12, 3) := by decide +kernel
theorem dX4_rankIn_7 : decode cX4_rankIn 7 = .ok (.aload_n 0, 1) := by decide +kernel
theorem dX4_rankIn_8 : decode cX4_rankIn 8 = .ok (.getfield 15, 3) := by decide +kernel
theorem dX4_rankIn_11 : decode cX4_rankIn 11 = .ok (.iload_n 1, 1) := by decide +kernel
theorem dX4_rankIn_12 : decode cX4_rankIn 12 = .ok (.iaload, 1) := by decide +kernel
theorem dX4_rankIn_13 : decode cX4_rankIn 13 = .ok (.goto 4, 3) := by decide +kernel
theorem dX4_rankIn_16 : decode cX4_rankIn 16 = .ok (.iconst (-1), 1) := by decide +kernel
theorem dX4_rankIn_17 : decode cX4_rankIn 17 = .ok (.ireturn, 1) := by decide +kernel
def fX4_rankIn (p0 : Nat) (p1 : Int32) (h : mxH) : Option Int32 := Option.bind (fX9_isThing p1 h) (fun v2 => Option.bind (α := Int32) (if v2 = 0 then some (-1) else Option.bind (gR h p0 4 1) (fun r7 => Option.bind (ldI h r7 p1) (fun v9 => some v9))) (fun p5' : Int32 => some p5'))
abbrev rmX4_rankIn : Room := { frames := 1, cells := 0, slots := 0, locals := 20 }
set_option maxRecDepth 20000 in
theorem tX4_rankIn {l : Launch} {Z : mxZ} (hl : l.stackTraces = false) {p0 : Nat} {p1 : Int32} {h : mxH} {out : Int32} (hf : fX4_rankIn p0 p1 h = some out) : mxMet l Z yX4_rankIn cX4_rankIn 2 (some .int) rmX4_rankIn [.ref p0, .int p1] h (.inl (some (.int out))) h := by
  refine mxMet_of (by decide) hl (by simp [Value.category]) (Nat.le_of_ble_eq_true rfl) ?_
  intro X C E hX hin
  unfold fX4_rankIn at hf
  refine mG_iload_n (pc := 0) C dX4_rankIn_0 rfl ?_
  obtain ⟨v2, e1, hf⟩ := mx_bind hf
  refine mG_cS (pc := 1) (k' := 0) (n' := 0) [.int p1] [] C hX dX4_rankIn_1 lkS_X4_44 rfl (tX9_isThing hl e1) rfl rfl rfl rfl ?_
  obtain ⟨p5, e6, hf⟩ := mx_bind hf
  have J4 : ∀ p5' : Int32, p5' = p5 → mG l Z X 2 0 0 17 [none, none] [.int p5'] h := by
    intro p5' q11
    subst q11
    cases hf
    exact mG_ir (pc := 17) C E hX dX4_rankIn_17 rfl
  refine mG_if_eq (pc := 4) (tgt := 16) C dX4_rankIn_4 (by decide) (fun q3 => ?_) (fun q3 => ?_)
  · rw [if_pos q3] at e6
    refine mG_ic (pc := 16) C dX4_rankIn_16 kIm1 ?_
    exact mG_sub (mxLe_n (mxLe_n mxLe_z)) (J4 _ (Option.some.inj e6))
  · rw [if_neg q3] at e6
    refine mG_aload_n (pc := 7) C dX4_rankIn_7 rfl ?_
    obtain ⟨r7, e8, e6⟩ := mx_bind e6
    refine mG_getR (pc := 8) C dX4_rankIn_8 fl_X4_15 e8 ?_
    refine mG_iload_n (pc := 11) C dX4_rankIn_11 rfl ?_
    obtain ⟨v9, e10, e6⟩ := mx_bind e6
    refine mG_iaload (pc := 12) C dX4_rankIn_12 e10 ?_
    refine mG_goto (tgt := 17) (pc := 13) C dX4_rankIn_13 (by decide) ?_
    exact mG_sub (mxLe_n (mxLe_n mxLe_z)) (J4 _ (Option.some.inj e6))
theorem dX4_thingOn_0 : decode cX4_thingOn 0 = .ok (.iload_n 1, 1) := by decide +kernel
theorem dX4_thingOn_1 : decode cX4_thingOn 1 = .ok (.invokestatic 44, 3) := by decide +kernel
theorem dX4_thingOn_4 : decode cX4_thingOn 4 = .ok (.ifCond .eq 12, 3) := by decide +kernel
theorem dX4_thingOn_7 : decode cX4_thingOn 7 = .ok (.aload_n 0, 1) := by decide +kernel
theorem dX4_thingOn_8 : decode cX4_thingOn 8 = .ok (.getfield 18, 3) := by decide +kernel
theorem dX4_thingOn_11 : decode cX4_thingOn 11 = .ok (.iload_n 1, 1) := by decide +kernel
theorem dX4_thingOn_12 : decode cX4_thingOn 12 = .ok (.iaload, 1) := by decide +kernel
theorem dX4_thingOn_13 : decode cX4_thingOn 13 = .ok (.goto 4, 3) := by decide +kernel
theorem dX4_thingOn_16 : decode cX4_thingOn 16 = .ok (.iconst (-1), 1) := by decide +kernel
theorem dX4_thingOn_17 : decode cX4_thingOn 17 = .ok (.ireturn, 1) := by decide +kernel
def fX4_thingOn (p0 : Nat) (p1 : Int32) (h : mxH) : Option Int32 := Option.bind (fX9_isThing p1 h) (fun v2 => Option.bind (α := Int32) (if v2 = 0 then some (-1) else Option.bind (gR h p0 4 2) (fun r7 => Option.bind (ldI h r7 p1) (fun v9 => some v9))) (fun p5' : Int32 => some p5'))
abbrev rmX4_thingOn : Room := { frames := 1, cells := 0, slots := 0, locals := 20 }
set_option maxRecDepth 20000 in
theorem tX4_thingOn {l : Launch} {Z : mxZ} (hl : l.stackTraces = false) {p0 : Nat} {p1 : Int32} {h : mxH} {out : Int32} (hf : fX4_thingOn p0 p1 h = some out) : mxMet l Z yX4_thingOn cX4_thingOn 2 (some .int) rmX4_thingOn [.ref p0, .int p1] h (.inl (some (.int out))) h := by
  refine mxMet_of (by decide) hl (by simp [Value.category]) (Nat.le_of_ble_eq_true rfl) ?_
  intro X C E hX hin
  unfold fX4_thingOn at hf
  refine mG_iload_n (pc := 0) C dX4_thingOn_0 rfl ?_
  obtain ⟨v2, e1, hf⟩ := mx_bind hf
  refine mG_cS (pc := 1) (k' := 0) (n' := 0) [.int p1] [] C hX dX4_thingOn_1 lkS_X4_44 rfl (tX9_isThing hl e1) rfl rfl rfl rfl ?_
  obtain ⟨p5, e6, hf⟩ := mx_bind hf
  have J4 : ∀ p5' : Int32, p5' = p5 → mG l Z X 2 0 0 17 [none, none] [.int p5'] h := by
    intro p5' q11
    subst q11
    cases hf
    exact mG_ir (pc := 17) C E hX dX4_thingOn_17 rfl
  refine mG_if_eq (pc := 4) (tgt := 16) C dX4_thingOn_4 (by decide) (fun q3 => ?_) (fun q3 => ?_)
  · rw [if_pos q3] at e6
    refine mG_ic (pc := 16) C dX4_thingOn_16 kIm1 ?_
    exact mG_sub (mxLe_n (mxLe_n mxLe_z)) (J4 _ (Option.some.inj e6))
  · rw [if_neg q3] at e6
    refine mG_aload_n (pc := 7) C dX4_thingOn_7 rfl ?_
    obtain ⟨r7, e8, e6⟩ := mx_bind e6
    refine mG_getR (pc := 8) C dX4_thingOn_8 fl_X4_18 e8 ?_
    refine mG_iload_n (pc := 11) C dX4_thingOn_11 rfl ?_
    obtain ⟨v9, e10, e6⟩ := mx_bind e6
    refine mG_iaload (pc := 12) C dX4_thingOn_12 e10 ?_
    refine mG_goto (tgt := 17) (pc := 13) C dX4_thingOn_13 (by decide) ?_
    exact mG_sub (mxLe_n (mxLe_n mxLe_z)) (J4 _ (Option.some.inj e6))
theorem dX4_readThingOn_0 : decode cX4_readThingOn 0 = .ok (.iconst 0, 1) := by decide +kernel
theorem dX4_readThingOn_1 : decode cX4_readThingOn 1 = .ok (.istore 4, 2) := by decide +kernel
theorem dX4_readThingOn_3 : decode cX4_readThingOn 3 = .ok (.aload_n 0, 1) := by decide +kernel
theorem dX4_readThingOn_4 : decode cX4_readThingOn 4 = .ok (.getfield 18, 3) := by decide +kernel
theorem dX4_readThingOn_7 : decode cX4_readThingOn 7 = .ok (.astore 5, 2) := by decide +kernel
theorem dX4_readThingOn_9 : decode cX4_readThingOn 9 = .ok (.aload 5, 2) := by decide +kernel
theorem dX4_readThingOn_11 : decode cX4_readThingOn 11 = .ok (.arraylength, 1) := by decide +kernel
theorem dX4_readThingOn_12 : decode cX4_readThingOn 12 = .ok (.istore 6, 2) := by decide +kernel
theorem dX4_readThingOn_14 : decode cX4_readThingOn 14 = .ok (.iconst 0, 1) := by decide +kernel
theorem dX4_readThingOn_15 : decode cX4_readThingOn 15 = .ok (.istore 7, 2) := by decide +kernel
theorem dX4_readThingOn_17 : decode cX4_readThingOn 17 = .ok (.iload 7, 2) := by decide +kernel
theorem dX4_readThingOn_19 : decode cX4_readThingOn 19 = .ok (.iload 6, 2) := by decide +kernel
theorem dX4_readThingOn_21 : decode cX4_readThingOn 21 = .ok (.if_icmp .ge 38, 3) := by decide +kernel
theorem dX4_readThingOn_24 : decode cX4_readThingOn 24 = .ok (.aload 5, 2) := by decide +kernel
theorem dX4_readThingOn_26 : decode cX4_readThingOn 26 = .ok (.iload 7, 2) := by decide +kernel
theorem dX4_readThingOn_28 : decode cX4_readThingOn 28 = .ok (.iaload, 1) := by decide +kernel
theorem dX4_readThingOn_29 : decode cX4_readThingOn 29 = .ok (.istore 8, 2) := by decide +kernel
theorem dX4_readThingOn_31 : decode cX4_readThingOn 31 = .ok (.aload_n 3, 1) := by decide +kernel
theorem dX4_readThingOn_32 : decode cX4_readThingOn 32 = .ok (.iload 8, 2) := by decide +kernel
theorem dX4_readThingOn_34 : decode cX4_readThingOn 34 = .ok (.iload_n 2, 1) := by decide +kernel
theorem dX4_readThingOn_35 : decode cX4_readThingOn 35 = .ok (.invokevirtual 50, 3) := by decide +kernel
theorem dX4_readThingOn_38 : decode cX4_readThingOn 38 = .ok (.ifCond .eq 15, 3) := by decide +kernel
theorem dX4_readThingOn_41 : decode cX4_readThingOn 41 = .ok (.iload 4, 2) := by decide +kernel
theorem dX4_readThingOn_43 : decode cX4_readThingOn 43 = .ok (.iload_n 1, 1) := by decide +kernel
theorem dX4_readThingOn_44 : decode cX4_readThingOn 44 = .ok (.if_icmp .ne 6, 3) := by decide +kernel
theorem dX4_readThingOn_47 : decode cX4_readThingOn 47 = .ok (.iload 8, 2) := by decide +kernel
theorem dX4_readThingOn_49 : decode cX4_readThingOn 49 = .ok (.ireturn, 1) := by decide +kernel
theorem dX4_readThingOn_50 : decode cX4_readThingOn 50 = .ok (.iinc 4 1, 3) := by decide +kernel
theorem dX4_readThingOn_53 : decode cX4_readThingOn 53 = .ok (.iinc 7 1, 3) := by decide +kernel
theorem dX4_readThingOn_56 : decode cX4_readThingOn 56 = .ok (.goto (-39), 3) := by decide +kernel
theorem dX4_readThingOn_59 : decode cX4_readThingOn 59 = .ok (.iconst (-1), 1) := by decide +kernel
theorem dX4_readThingOn_60 : decode cX4_readThingOn 60 = .ok (.ireturn, 1) := by decide +kernel
def fX4_readThingOn (p0 : Nat) (p1 : Int32) (p2 : Int32) (p3 : Nat) (h : mxH) : Option Int32 := Option.bind (gR h p0 4 2) (fun r1 => Option.bind (lenA h r1) (fun v3 => Option.bind (mxLoop (ρ := (Int32 ⊕ Unit)) (fun s5 : (Int32 × Int32) => (if v3 ≤ s5.2 then some (Sum.inr (Sum.inr ())) else Option.bind (ldI h r1 s5.2) (fun v15 => Option.bind (isO h p3 6) (fun u17 => Option.bind (fX6_isRead p3 v15 p2 h) (fun v20 => (if v20 = 0 then some (Sum.inl (s5.1, s5.2 + 1)) else (if s5.1 = p1 then some (Sum.inr (Sum.inl v15)) else some (Sum.inl (s5.1 + 1, s5.2 + 1))))))))) mxF (0, 0)) (Sum.elim (fun r23 : Int32 => some r23) (fun r25 : Unit => some (-1)))))
abbrev rmX4_readThingOn : Room := { frames := 2, cells := 0, slots := 0, locals := 42 }
set_option maxRecDepth 20000 in
theorem tX4_readThingOn {l : Launch} {Z : mxZ} (hl : l.stackTraces = false) {p0 : Nat} {p1 : Int32} {p2 : Int32} {p3 : Nat} {h : mxH} {out : Int32} (hf : fX4_readThingOn p0 p1 p2 p3 h = some out) : mxMet l Z yX4_readThingOn cX4_readThingOn 9 (some .int) rmX4_readThingOn [.ref p0, .int p1, .int p2, .ref p3] h (.inl (some (.int out))) h := by
  refine mxMet_of (by decide) hl (by simp [Value.category]) (Nat.le_of_ble_eq_true rfl) ?_
  intro X C E hX hin
  unfold fX4_readThingOn at hf
  refine mG_ic (pc := 0) C dX4_readThingOn_0 kI0 ?_
  refine mG_is (ls' := [some (.ref p0), some (.int p1), some (.int p2), some (.ref p3), some (.int 0), none, none, none, none]) (pc := 1) C dX4_readThingOn_1 rfl rfl rfl ?_
  refine mG_aload_n (pc := 3) C dX4_readThingOn_3 rfl ?_
  obtain ⟨r1, e2, hf⟩ := mx_bind hf
  refine mG_getR (pc := 4) C dX4_readThingOn_4 fl_X4_18 e2 ?_
  refine mG_as (ls' := [some (.ref p0), some (.int p1), some (.int p2), some (.ref p3), some (.int 0), some (.ref r1), none, none, none]) (pc := 7) C dX4_readThingOn_7 rfl rfl rfl ?_
  refine mG_aload (pc := 9) C dX4_readThingOn_9 rfl ?_
  obtain ⟨v3, e4, hf⟩ := mx_bind hf
  refine mG_arraylength (pc := 11) C dX4_readThingOn_11 e4 ?_
  refine mG_is (ls' := [some (.ref p0), some (.int p1), some (.int p2), some (.ref p3), some (.int 0), some (.ref r1), some (.int v3), none, none]) (pc := 12) C dX4_readThingOn_12 rfl rfl rfl ?_
  refine mG_ic (pc := 14) C dX4_readThingOn_14 kI0 ?_
  refine mG_is (ls' := [some (.ref p0), some (.int p1), some (.int p2), some (.ref p3), some (.int 0), some (.ref r1), some (.int v3), some (.int 0), none]) (pc := 15) C dX4_readThingOn_15 rfl rfl rfl ?_
  obtain ⟨r6, e7, hf⟩ := mx_bind hf
  have J8 : ∀ r23 : Int32, Sum.inl r23 = r6 → mG l Z X 9 0 0 47 [none, none, none, none, none, none, none, none, some (.int r23)] [] h := by
    intro r23 q24
    subst q24
    rw [Sum.elim_inl] at hf
    refine mG_iload (pc := 47) C dX4_readThingOn_47 rfl ?_
    cases hf
    exact mG_ir (pc := 49) C E hX dX4_readThingOn_49 rfl
  have J9 : ∀ r25 : Unit, Sum.inr r25 = r6 → mG l Z X 9 0 0 59 [none, none, none, none, none, none, none, none, none] [] h := by
    intro r25 q26
    subst q26
    rw [Sum.elim_inr] at hf
    refine mG_ic (pc := 59) C dX4_readThingOn_59 kIm1 ?_
    cases hf
    exact mG_ir (pc := 60) C E hX dX4_readThingOn_60 rfl
  refine mG_sub (ls' := [none, some (.int p1), some (.int p2), some (.ref p3), some (.int 0), some (.ref r1), some (.int v3), some (.int 0), none]) (mxLe_n (mxLe_s (mxLe_s (mxLe_s (mxLe_s (mxLe_s (mxLe_s (mxLe_s (mxLe_n mxLe_z))))))))) (mxLoop_ind (K := fun s5 : (Int32 × Int32) => mG l Z X 9 0 0 17 [none, some (.int p1), some (.int p2), some (.ref p3), some (.int s5.1), some (.ref r1), some (.int v3), some (.int s5.2), none] [] h) ?_ _ _ e7)
  intro s5 o12 e13 hK10 hx11
  refine mG_iload (pc := 17) C dX4_readThingOn_17 rfl ?_
  refine mG_iload (pc := 19) C dX4_readThingOn_19 rfl ?_
  refine mG_icmp_ge (pc := 21) (tgt := 59) C dX4_readThingOn_21 (by decide) (fun q14 => ?_) (fun q14 => ?_)
  · rw [if_pos q14] at e13
    exact mG_sub (mxLe_n (mxLe_n (mxLe_n (mxLe_n (mxLe_n (mxLe_n (mxLe_n (mxLe_n (mxLe_n mxLe_z))))))))) (J9 _ (hx11 _ (Option.some.inj e13).symm))
  · rw [if_neg q14] at e13
    refine mG_aload (pc := 24) C dX4_readThingOn_24 rfl ?_
    refine mG_iload (pc := 26) C dX4_readThingOn_26 rfl ?_
    obtain ⟨v15, e16, e13⟩ := mx_bind e13
    refine mG_iaload (pc := 28) C dX4_readThingOn_28 e16 ?_
    refine mG_is (ls' := [none, some (.int p1), some (.int p2), some (.ref p3), some (.int s5.1), some (.ref r1), some (.int v3), some (.int s5.2), some (.int v15)]) (pc := 29) C dX4_readThingOn_29 rfl rfl rfl ?_
    refine mG_aload_n (pc := 31) C dX4_readThingOn_31 rfl ?_
    refine mG_iload (pc := 32) C dX4_readThingOn_32 rfl ?_
    refine mG_iload_n (pc := 34) C dX4_readThingOn_34 rfl ?_
    obtain ⟨u17, e18, e13⟩ := mx_bind e13
    obtain ⟨v20, e19, e13⟩ := mx_bind e13
    refine mG_cV (pc := 35) (k' := 0) (n' := 0) 6 [.int v15, .int p2] [] C hX dX4_readThingOn_35 lkV_X4_50 rfl rfl e18 (tX6_isRead hl e19) rfl rfl rfl rfl ?_
    refine mG_if_eq (pc := 38) (tgt := 53) C dX4_readThingOn_38 (by decide) (fun q21 => ?_) (fun q21 => ?_)
    · rw [if_pos q21] at e13
      refine mG_ii (ls' := [none, some (.int p1), some (.int p2), some (.ref p3), some (.int s5.1), some (.ref r1), some (.int v3), some (.int (s5.2 + 1)), some (.int v15)]) (pc := 53) C dX4_readThingOn_53 rfl (kinc1 _) rfl rfl rfl ?_
      refine mG_goto (tgt := 17) (pc := 56) C dX4_readThingOn_56 (by decide) ?_
      exact mG_sub (mxLe_n (mxLe_s (mxLe_s (mxLe_s (mxLe_s (mxLe_s (mxLe_s (mxLe_s (mxLe_n mxLe_z))))))))) (hK10 _ (Option.some.inj e13).symm)
    · rw [if_neg q21] at e13
      refine mG_iload (pc := 41) C dX4_readThingOn_41 rfl ?_
      refine mG_iload_n (pc := 43) C dX4_readThingOn_43 rfl ?_
      refine mG_icmp_ne (pc := 44) (tgt := 50) C dX4_readThingOn_44 (by decide) (fun q22 => ?_) (fun q22 => ?_)
      · rw [if_neg q22] at e13
        refine mG_ii (ls' := [none, some (.int p1), some (.int p2), some (.ref p3), some (.int (s5.1 + 1)), some (.ref r1), some (.int v3), some (.int s5.2), some (.int v15)]) (pc := 50) C dX4_readThingOn_50 rfl (kinc1 _) rfl rfl rfl ?_
        refine mG_ii (ls' := [none, some (.int p1), some (.int p2), some (.ref p3), some (.int (s5.1 + 1)), some (.ref r1), some (.int v3), some (.int (s5.2 + 1)), some (.int v15)]) (pc := 53) C dX4_readThingOn_53 rfl (kinc1 _) rfl rfl rfl ?_
        refine mG_goto (tgt := 17) (pc := 56) C dX4_readThingOn_56 (by decide) ?_
        exact mG_sub (mxLe_n (mxLe_s (mxLe_s (mxLe_s (mxLe_s (mxLe_s (mxLe_s (mxLe_s (mxLe_n mxLe_z))))))))) (hK10 _ (Option.some.inj e13).symm)
      · rw [if_pos q22] at e13
        exact mG_sub (mxLe_n (mxLe_n (mxLe_n (mxLe_n (mxLe_n (mxLe_n (mxLe_n (mxLe_n (mxLe_s mxLe_z))))))))) (J8 _ (hx11 _ (Option.some.inj e13).symm))
theorem dX4_hasSameFirst_0 : decode cX4_hasSameFirst 0 = .ok (.iconst 0, 1) := by decide +kernel
theorem dX4_hasSameFirst_1 : decode cX4_hasSameFirst 1 = .ok (.istore_n 3, 1) := by decide +kernel
theorem dX4_hasSameFirst_2 : decode cX4_hasSameFirst 2 = .ok (.iload_n 3, 1) := by decide +kernel
theorem dX4_hasSameFirst_3 : decode cX4_hasSameFirst 3 = .ok (.iload_n 1, 1) := by decide +kernel
theorem dX4_hasSameFirst_4 : decode cX4_hasSameFirst 4 = .ok (.if_icmp .ge 24, 3) := by decide +kernel
theorem dX4_hasSameFirst_7 : decode cX4_hasSameFirst 7 = .ok (.aload_n 0, 1) := by decide +kernel
theorem dX4_hasSameFirst_8 : decode cX4_hasSameFirst 8 = .ok (.iload_n 3, 1) := by decide +kernel
theorem dX4_hasSameFirst_9 : decode cX4_hasSameFirst 9 = .ok (.invokevirtual 54, 3) := by decide +kernel
theorem dX4_hasSameFirst_12 : decode cX4_hasSameFirst 12 = .ok (.aload_n 2, 1) := by decide +kernel
theorem dX4_hasSameFirst_13 : decode cX4_hasSameFirst 13 = .ok (.iload_n 3, 1) := by decide +kernel
theorem dX4_hasSameFirst_14 : decode cX4_hasSameFirst 14 = .ok (.invokevirtual 54, 3) := by decide +kernel
theorem dX4_hasSameFirst_17 : decode cX4_hasSameFirst 17 = .ok (.if_icmp .eq 5, 3) := by decide +kernel
theorem dX4_hasSameFirst_20 : decode cX4_hasSameFirst 20 = .ok (.iconst 0, 1) := by decide +kernel
theorem dX4_hasSameFirst_21 : decode cX4_hasSameFirst 21 = .ok (.ireturn, 1) := by decide +kernel
theorem dX4_hasSameFirst_22 : decode cX4_hasSameFirst 22 = .ok (.iinc 3 1, 3) := by decide +kernel
theorem dX4_hasSameFirst_25 : decode cX4_hasSameFirst 25 = .ok (.goto (-23), 3) := by decide +kernel
theorem dX4_hasSameFirst_28 : decode cX4_hasSameFirst 28 = .ok (.iconst 1, 1) := by decide +kernel
theorem dX4_hasSameFirst_29 : decode cX4_hasSameFirst 29 = .ok (.ireturn, 1) := by decide +kernel
def fX4_hasSameFirst (p0 : Nat) (p1 : Int32) (p2 : Nat) (h : mxH) : Option Int32 := Option.bind (mxLoop (ρ := (Unit ⊕ Unit)) (fun s1 : Int32 => (if p1 ≤ s1 then some (Sum.inr (Sum.inr ())) else Option.bind (isO h p0 4) (fun u11 => Option.bind (fX4_thingOn p0 s1 h) (fun v14 => Option.bind (isO h p2 4) (fun u15 => Option.bind (fX4_thingOn p2 s1 h) (fun v18 => (if v14 = v18 then some (Sum.inl (s1 + 1)) else some (Sum.inr (Sum.inl ()))))))))) mxF 0) (Sum.elim (fun r20 : Unit => Option.bind (mxZ1 0) (fun v21 => some v21)) (fun r24 : Unit => Option.bind (mxZ1 1) (fun v25 => some v25)))
abbrev rmX4_hasSameFirst : Room := { frames := 2, cells := 0, slots := 0, locals := 41 }
set_option maxRecDepth 20000 in
theorem tX4_hasSameFirst {l : Launch} {Z : mxZ} (hl : l.stackTraces = false) {p0 : Nat} {p1 : Int32} {p2 : Nat} {h : mxH} {out : Int32} (hf : fX4_hasSameFirst p0 p1 p2 h = some out) : mxMet l Z yX4_hasSameFirst cX4_hasSameFirst 4 (some .boolean) rmX4_hasSameFirst [.ref p0, .int p1, .ref p2] h (.inl (some (.int out))) h := by
  refine mxMet_of (by decide) hl (by simp [Value.category]) (Nat.le_of_ble_eq_true rfl) ?_
  intro X C E hX hin
  unfold fX4_hasSameFirst at hf
  refine mG_ic (pc := 0) C dX4_hasSameFirst_0 kI0 ?_
  refine mG_isn (ls' := [some (.ref p0), some (.int p1), some (.ref p2), some (.int 0)]) (pc := 1) C dX4_hasSameFirst_1 rfl rfl rfl ?_
  obtain ⟨r2, e3, hf⟩ := mx_bind hf
  have J4 : ∀ r20 : Unit, Sum.inl r20 = r2 → mG l Z X 4 0 0 20 [none, none, none, none] [] h := by
    intro r20 q23
    subst q23
    rw [Sum.elim_inl] at hf
    refine mG_ic (pc := 20) C dX4_hasSameFirst_20 kI0 ?_
    obtain ⟨v21, e22, hf⟩ := mx_bind hf
    cases hf
    exact mG_zr (pc := 21) C e22 E hX dX4_hasSameFirst_21 rfl
  have J5 : ∀ r24 : Unit, Sum.inr r24 = r2 → mG l Z X 4 0 0 28 [none, none, none, none] [] h := by
    intro r24 q27
    subst q27
    rw [Sum.elim_inr] at hf
    refine mG_ic (pc := 28) C dX4_hasSameFirst_28 kI1 ?_
    obtain ⟨v25, e26, hf⟩ := mx_bind hf
    cases hf
    exact mG_zr (pc := 29) C e26 E hX dX4_hasSameFirst_29 rfl
  refine mG_sub (ls' := [some (.ref p0), some (.int p1), some (.ref p2), some (.int 0)]) (mxLe_s (mxLe_s (mxLe_s (mxLe_s mxLe_z)))) (mxLoop_ind (K := fun s1 : Int32 => mG l Z X 4 0 0 2 [some (.ref p0), some (.int p1), some (.ref p2), some (.int s1)] [] h) ?_ _ _ e3)
  intro s1 o8 e9 hK6 hx7
  refine mG_iload_n (pc := 2) C dX4_hasSameFirst_2 rfl ?_
  refine mG_iload_n (pc := 3) C dX4_hasSameFirst_3 rfl ?_
  refine mG_icmp_ge (pc := 4) (tgt := 28) C dX4_hasSameFirst_4 (by decide) (fun q10 => ?_) (fun q10 => ?_)
  · rw [if_pos q10] at e9
    exact mG_sub (mxLe_n (mxLe_n (mxLe_n (mxLe_n mxLe_z)))) (J5 _ (hx7 _ (Option.some.inj e9).symm))
  · rw [if_neg q10] at e9
    refine mG_aload_n (pc := 7) C dX4_hasSameFirst_7 rfl ?_
    refine mG_iload_n (pc := 8) C dX4_hasSameFirst_8 rfl ?_
    obtain ⟨u11, e12, e9⟩ := mx_bind e9
    obtain ⟨v14, e13, e9⟩ := mx_bind e9
    refine mG_cV (pc := 9) (k' := 0) (n' := 0) 4 [.int s1] [] C hX dX4_hasSameFirst_9 lkV_X4_54 rfl rfl e12 (tX4_thingOn hl e13) rfl rfl rfl rfl ?_
    refine mG_aload_n (pc := 12) C dX4_hasSameFirst_12 rfl ?_
    refine mG_iload_n (pc := 13) C dX4_hasSameFirst_13 rfl ?_
    obtain ⟨u15, e16, e9⟩ := mx_bind e9
    obtain ⟨v18, e17, e9⟩ := mx_bind e9
    refine mG_cV (pc := 14) (k' := 0) (n' := 0) 4 [.int s1] [.int v14] C hX dX4_hasSameFirst_14 lkV_X4_54 rfl rfl e16 (tX4_thingOn hl e17) rfl rfl rfl rfl ?_
    refine mG_icmp_eq (pc := 17) (tgt := 22) C dX4_hasSameFirst_17 (by decide) (fun q19 => ?_) (fun q19 => ?_)
    · rw [if_pos q19] at e9
      refine mG_ii (ls' := [some (.ref p0), some (.int p1), some (.ref p2), some (.int (s1 + 1))]) (pc := 22) C dX4_hasSameFirst_22 rfl (kinc1 _) rfl rfl rfl ?_
      refine mG_goto (tgt := 2) (pc := 25) C dX4_hasSameFirst_25 (by decide) ?_
      exact mG_sub (mxLe_s (mxLe_s (mxLe_s (mxLe_s mxLe_z)))) (hK6 _ (Option.some.inj e9).symm)
    · rw [if_neg q19] at e9
      exact mG_sub (mxLe_n (mxLe_n (mxLe_n (mxLe_n mxLe_z)))) (J4 _ (hx7 _ (Option.some.inj e9).symm))
