/-! printed by wip/gen54/emit2.py: for each method its function on the mini machine, and that the machine walks as the function says -/
theorem dL_prefer_0 : decode cL_prefer 0 = .ok (.iconst 0, 1) := by decide +kernel
theorem dL_prefer_1 : decode cL_prefer 1 = .ok (.istore_n 3, 1) := by decide +kernel
theorem dL_prefer_2 : decode cL_prefer 2 = .ok (.iconst 0, 1) := by decide +kernel
theorem dL_prefer_3 : decode cL_prefer 3 = .ok (.istore 4, 2) := by decide +kernel
theorem dL_prefer_5 : decode cL_prefer 5 = .ok (.iload 4, 2) := by decide +kernel
theorem dL_prefer_7 : decode cL_prefer 7 = .ok (.iconst 5, 1) := by decide +kernel
theorem dL_prefer_8 : decode cL_prefer 8 = .ok (.if_icmp .ge 57, 3) := by decide +kernel
theorem dL_prefer_11 : decode cL_prefer 11 = .ok (.iload_n 3, 1) := by decide +kernel
theorem dL_prefer_12 : decode cL_prefer 12 = .ok (.iload_n 1, 1) := by decide +kernel
theorem dL_prefer_13 : decode cL_prefer 13 = .ok (.iload_n 2, 1) := by decide +kernel
theorem dL_prefer_14 : decode cL_prefer 14 = .ok (.if_icmp .eq 42, 3) := by decide +kernel
theorem dL_prefer_17 : decode cL_prefer 17 = .ok (.aload_n 0, 1) := by decide +kernel
theorem dL_prefer_18 : decode cL_prefer 18 = .ok (.getfield 18, 3) := by decide +kernel
theorem dL_prefer_21 : decode cL_prefer 21 = .ok (.iload 4, 2) := by decide +kernel
theorem dL_prefer_23 : decode cL_prefer 23 = .ok (.aaload, 1) := by decide +kernel
theorem dL_prefer_24 : decode cL_prefer 24 = .ok (.iload_n 1, 1) := by decide +kernel
theorem dL_prefer_25 : decode cL_prefer 25 = .ok (.iaload, 1) := by decide +kernel
theorem dL_prefer_26 : decode cL_prefer 26 = .ok (.ifCond .lt 30, 3) := by decide +kernel
theorem dL_prefer_29 : decode cL_prefer 29 = .ok (.aload_n 0, 1) := by decide +kernel
theorem dL_prefer_30 : decode cL_prefer 30 = .ok (.getfield 18, 3) := by decide +kernel
theorem dL_prefer_33 : decode cL_prefer 33 = .ok (.iload 4, 2) := by decide +kernel
theorem dL_prefer_35 : decode cL_prefer 35 = .ok (.aaload, 1) := by decide +kernel
theorem dL_prefer_36 : decode cL_prefer 36 = .ok (.iload_n 2, 1) := by decide +kernel
theorem dL_prefer_37 : decode cL_prefer 37 = .ok (.iaload, 1) := by decide +kernel
theorem dL_prefer_38 : decode cL_prefer 38 = .ok (.ifCond .lt 14, 3) := by decide +kernel
theorem dL_prefer_41 : decode cL_prefer 41 = .ok (.aload_n 0, 1) := by decide +kernel
theorem dL_prefer_42 : decode cL_prefer 42 = .ok (.iload 4, 2) := by decide +kernel
theorem dL_prefer_44 : decode cL_prefer 44 = .ok (.iload_n 1, 1) := by decide +kernel
theorem dL_prefer_45 : decode cL_prefer 45 = .ok (.iload_n 2, 1) := by decide +kernel
theorem dL_prefer_46 : decode cL_prefer 46 = .ok (.invokevirtual 54, 3) := by decide +kernel
theorem dL_prefer_49 : decode cL_prefer 49 = .ok (.ifCond .eq 7, 3) := by decide +kernel
theorem dL_prefer_52 : decode cL_prefer 52 = .ok (.iconst 1, 1) := by decide +kernel
theorem dL_prefer_53 : decode cL_prefer 53 = .ok (.goto 4, 3) := by decide +kernel
theorem dL_prefer_56 : decode cL_prefer 56 = .ok (.iconst 0, 1) := by decide +kernel
theorem dL_prefer_57 : decode cL_prefer 57 = .ok (.iadd, 1) := by decide +kernel
theorem dL_prefer_58 : decode cL_prefer 58 = .ok (.istore_n 3, 1) := by decide +kernel
theorem dL_prefer_59 : decode cL_prefer 59 = .ok (.iinc 4 1, 3) := by decide +kernel
theorem dL_prefer_62 : decode cL_prefer 62 = .ok (.goto (-57), 3) := by decide +kernel
theorem dL_prefer_65 : decode cL_prefer 65 = .ok (.iload_n 3, 1) := by decide +kernel
theorem dL_prefer_66 : decode cL_prefer 66 = .ok (.ireturn, 1) := by decide +kernel
def fL_prefer (p0 : Nat) (p1 : Int32) (p2 : Int32) (h : mxH) : Option Int32 := Option.bind (mxLoop (ρ := Int32) (fun s1 : (Int32 × Int32) => (if 5 ≤ s1.2 then some (Sum.inr s1.1) else Option.bind (α := Int32) (if p1 = p2 then some 0 else Option.bind (gR h p0 11 2) (fun r33 => Option.bind (ldR h r33 s1.2) (fun r35 => Option.bind (ldI h r35 p1) (fun v37 => (if v37 < 0 then some 0 else Option.bind (gR h p0 11 2) (fun r40 => Option.bind (ldR h r40 s1.2) (fun r42 => Option.bind (ldI h r42 p2) (fun v44 => (if v44 < 0 then some 1 else Option.bind (isO h p0 11) (fun u47 => Option.bind (fL_isAhead p0 s1.2 p1 p2 h) (fun o50 => (if o50 = 0 then some 0 else some 1)))))))))))) (fun jp12' : Int32 => some (Sum.inl (s1.1 + jp12', s1.2 + 1))))) mxF (0, 0)) (fun r53 : Int32 => some r53)
abbrev rmL_prefer : Room := { frames := 1, cells := 0, slots := 0, locals := 23 }
set_option maxRecDepth 20000 in
set_option maxHeartbeats 1000000 in
theorem tL_prefer {l : Launch} {Z : mxZ} (hl : l.stackTraces = false) {p0 : Nat} {p1 : Int32} {p2 : Int32} {h : mxH} {out : Int32} (hf : fL_prefer p0 p1 p2 h = some out) : mxMet l Z yL_prefer cL_prefer 5 (some .int) rmL_prefer [.ref p0, .int p1, .int p2] h (.inl (some (.int out))) h := by
  refine mxMet_of (by decide) hl (by simp [Value.category]) (Nat.le_of_ble_eq_true rfl) ?_
  intro X C E hX hin
  unfold fL_prefer at hf
  refine mG_ic (pc := 0) C dL_prefer_0 kI0 ?_
  refine mG_isn (ls' := [some (.ref p0), some (.int p1), some (.int p2), some (.int 0), none]) (pc := 1) C dL_prefer_1 rfl rfl rfl ?_
  refine mG_ic (pc := 2) C dL_prefer_2 kI0 ?_
  refine mG_is (ls' := [some (.ref p0), some (.int p1), some (.int p2), some (.int 0), some (.int 0)]) (pc := 3) C dL_prefer_3 rfl rfl rfl ?_
  obtain ⟨r2, e3, hf⟩ := mx_bind hf
  have J4 : ∀ r53 : Int32, r53 = r2 → mG l Z X 5 0 0 65 [none, none, none, some (.int r53), none] [] h := by
    intro r53 q54
    subst q54
    refine mG_iload_n (pc := 65) C dL_prefer_65 rfl ?_
    cases hf
    exact mG_ir2 (pc := 66) C E hX dL_prefer_66 ⟨Nat.le_of_ble_eq_true rfl, Nat.le_of_ble_eq_true rfl⟩
  refine mG_sub (ls' := [some (.ref p0), some (.int p1), some (.int p2), some (.int 0), some (.int 0)]) (mxLe_s (mxLe_s (mxLe_s (mxLe_s (mxLe_s mxLe_z))))) (mxLoop_ind (K := fun s1 : (Int32 × Int32) => mG l Z X 5 0 0 5 [some (.ref p0), some (.int p1), some (.int p2), some (.int s1.1), some (.int s1.2)] [] h) ?_ _ _ e3)
  intro s1 o7 e8 hK5 hx6
  refine mG_iload (pc := 5) C dL_prefer_5 rfl ?_
  refine mG_ic (pc := 7) C dL_prefer_7 kI5 ?_
  refine mG_icmp_ge (pc := 8) (tgt := 65) C dL_prefer_8 (by decide) (fun q9 => ?_) (fun q9 => ?_)
  · rw [if_pos q9] at e8
    exact mG_sub (mxLe_n (mxLe_n (mxLe_n (mxLe_s (mxLe_n mxLe_z))))) (J4 _ (hx6 _ (Option.some.inj e8).symm))
  · rw [if_neg q9] at e8
    refine mG_iload_n (pc := 11) C dL_prefer_11 rfl ?_
    refine mG_iload_n (pc := 12) C dL_prefer_12 rfl ?_
    refine mG_iload_n (pc := 13) C dL_prefer_13 rfl ?_
    obtain ⟨jp12, e13, e8⟩ := mx_bind e8
    have J11 : ∀ jp12' : Int32, jp12' = jp12 → mG l Z X 5 0 0 57 [some (.ref p0), some (.int p1), some (.int p2), none, some (.int s1.2)] [.int jp12', .int s1.1] h := by
      intro jp12' q52
      subst q52
      refine mG_iadd (pc := 57) C dL_prefer_57 ?_
      refine mG_isn (ls' := [some (.ref p0), some (.int p1), some (.int p2), some (.int (s1.1 + jp12')), some (.int s1.2)]) (pc := 58) C dL_prefer_58 rfl rfl rfl ?_
      refine mG_ii (ls' := [some (.ref p0), some (.int p1), some (.int p2), some (.int (s1.1 + jp12')), some (.int (s1.2 + 1))]) (pc := 59) C dL_prefer_59 rfl (kinc1 _) rfl rfl rfl ?_
      refine mG_goto (tgt := 5) (pc := 62) C dL_prefer_62 (by decide) ?_
      exact mG_sub (mxLe_s (mxLe_s (mxLe_s (mxLe_s (mxLe_s mxLe_z))))) (hK5 _ (Option.some.inj e8).symm)
    refine mG_icmp_eq (pc := 14) (tgt := 56) C dL_prefer_14 (by decide) (fun q10 => ?_) (fun q10 => ?_)
    · rw [if_pos q10] at e13
      refine mG_ic (pc := 56) C dL_prefer_56 kI0 ?_
      exact mG_sub (mxLe_s (mxLe_s (mxLe_s (mxLe_n (mxLe_s mxLe_z))))) (J11 _ (Option.some.inj e13))
    · rw [if_neg q10] at e13
      refine mG_aload_n (pc := 17) C dL_prefer_17 rfl ?_
      obtain ⟨r33, e34, e13⟩ := mx_bind e13
      refine mG_getR (pc := 18) C dL_prefer_18 fl_L_18 e34 ?_
      refine mG_iload (pc := 21) C dL_prefer_21 rfl ?_
      obtain ⟨r35, e36, e13⟩ := mx_bind e13
      refine mG_aaload (pc := 23) C dL_prefer_23 e36 ?_
      refine mG_iload_n (pc := 24) C dL_prefer_24 rfl ?_
      obtain ⟨v37, e38, e13⟩ := mx_bind e13
      refine mG_iaload (pc := 25) C dL_prefer_25 e38 ?_
      refine mG_if_lt (pc := 26) (tgt := 56) C dL_prefer_26 (by decide) (fun q39 => ?_) (fun q39 => ?_)
      · rw [if_pos q39] at e13
        refine mG_ic (pc := 56) C dL_prefer_56 kI0 ?_
        exact mG_sub (mxLe_s (mxLe_s (mxLe_s (mxLe_n (mxLe_s mxLe_z))))) (J11 _ (Option.some.inj e13))
      · rw [if_neg q39] at e13
        refine mG_aload_n (pc := 29) C dL_prefer_29 rfl ?_
        obtain ⟨r40, e41, e13⟩ := mx_bind e13
        refine mG_getR (pc := 30) C dL_prefer_30 fl_L_18 e41 ?_
        refine mG_iload (pc := 33) C dL_prefer_33 rfl ?_
        obtain ⟨r42, e43, e13⟩ := mx_bind e13
        refine mG_aaload (pc := 35) C dL_prefer_35 e43 ?_
        refine mG_iload_n (pc := 36) C dL_prefer_36 rfl ?_
        obtain ⟨v44, e45, e13⟩ := mx_bind e13
        refine mG_iaload (pc := 37) C dL_prefer_37 e45 ?_
        refine mG_if_lt (pc := 38) (tgt := 52) C dL_prefer_38 (by decide) (fun q46 => ?_) (fun q46 => ?_)
        · rw [if_pos q46] at e13
          refine mG_ic (pc := 52) C dL_prefer_52 kI1 ?_
          refine mG_goto (tgt := 57) (pc := 53) C dL_prefer_53 (by decide) ?_
          exact mG_sub (mxLe_s (mxLe_s (mxLe_s (mxLe_n (mxLe_s mxLe_z))))) (J11 _ (Option.some.inj e13))
        · rw [if_neg q46] at e13
          refine mG_aload_n (pc := 41) C dL_prefer_41 rfl ?_
          refine mG_iload (pc := 42) C dL_prefer_42 rfl ?_
          refine mG_iload_n (pc := 44) C dL_prefer_44 rfl ?_
          refine mG_iload_n (pc := 45) C dL_prefer_45 rfl ?_
          obtain ⟨u47, e48, e13⟩ := mx_bind e13
          obtain ⟨o50, e49, e13⟩ := mx_bind e13
          refine mG_cV2 (pc := 46) (k' := 0) (n' := 0) (h' := h) (v := some (.int o50)) 11 [.int s1.2, .int p1, .int p2] [.int s1.1] C hX dL_prefer_46 lkV_L_54 rfl rfl e48 (tL_isAhead hl e49) rfl rfl rfl ⟨Nat.le_of_ble_eq_true rfl, Nat.le_of_ble_eq_true rfl⟩ rfl ?_
          refine mG_if_eq (pc := 49) (tgt := 56) C dL_prefer_49 (by decide) (fun q51 => ?_) (fun q51 => ?_)
          · rw [if_pos q51] at e13
            refine mG_ic (pc := 56) C dL_prefer_56 kI0 ?_
            exact mG_sub (mxLe_s (mxLe_s (mxLe_s (mxLe_n (mxLe_s mxLe_z))))) (J11 _ (Option.some.inj e13))
          · rw [if_neg q51] at e13
            refine mG_ic (pc := 52) C dL_prefer_52 kI1 ?_
            refine mG_goto (tgt := 57) (pc := 53) C dL_prefer_53 (by decide) ?_
            exact mG_sub (mxLe_s (mxLe_s (mxLe_s (mxLe_n (mxLe_s mxLe_z))))) (J11 _ (Option.some.inj e13))
theorem dL_beats_0 : decode cL_beats 0 = .ok (.aload_n 0, 1) := by decide +kernel
theorem dL_beats_1 : decode cL_beats 1 = .ok (.iload_n 1, 1) := by decide +kernel
theorem dL_beats_2 : decode cL_beats 2 = .ok (.iload_n 2, 1) := by decide +kernel
theorem dL_beats_3 : decode cL_beats 3 = .ok (.invokevirtual 220, 3) := by decide +kernel
theorem dL_beats_6 : decode cL_beats 6 = .ok (.aload_n 0, 1) := by decide +kernel
theorem dL_beats_7 : decode cL_beats 7 = .ok (.iload_n 2, 1) := by decide +kernel
theorem dL_beats_8 : decode cL_beats 8 = .ok (.iload_n 1, 1) := by decide +kernel
theorem dL_beats_9 : decode cL_beats 9 = .ok (.invokevirtual 220, 3) := by decide +kernel
theorem dL_beats_12 : decode cL_beats 12 = .ok (.if_icmp .le 7, 3) := by decide +kernel
theorem dL_beats_15 : decode cL_beats 15 = .ok (.iconst 1, 1) := by decide +kernel
theorem dL_beats_16 : decode cL_beats 16 = .ok (.goto 4, 3) := by decide +kernel
theorem dL_beats_19 : decode cL_beats 19 = .ok (.iconst 0, 1) := by decide +kernel
theorem dL_beats_20 : decode cL_beats 20 = .ok (.ireturn, 1) := by decide +kernel
def fL_beats (p0 : Nat) (p1 : Int32) (p2 : Int32) (h : mxH) : Option Int32 := Option.bind (isO h p0 11) (fun u1 => Option.bind (fL_prefer p0 p1 p2 h) (fun o4 => Option.bind (isO h p0 11) (fun u5 => Option.bind (fL_prefer p0 p2 p1 h) (fun o8 => Option.bind (α := Int32) (if o4 ≤ o8 then some 0 else some 1) (fun jp11' : Int32 => Option.bind (mxZ1 jp11') (fun v13 => some v13))))))
abbrev rmL_beats : Room := { frames := 2, cells := 0, slots := 0, locals := 47 }
set_option maxRecDepth 20000 in
set_option maxHeartbeats 1000000 in
theorem tL_beats {l : Launch} {Z : mxZ} (hl : l.stackTraces = false) {p0 : Nat} {p1 : Int32} {p2 : Int32} {h : mxH} {out : Int32} (hf : fL_beats p0 p1 p2 h = some out) : mxMet l Z yL_beats cL_beats 3 (some .boolean) rmL_beats [.ref p0, .int p1, .int p2] h (.inl (some (.int out))) h := by
  refine mxMet_of (by decide) hl (by simp [Value.category]) (Nat.le_of_ble_eq_true rfl) ?_
  intro X C E hX hin
  unfold fL_beats at hf
  refine mG_aload_n (pc := 0) C dL_beats_0 rfl ?_
  refine mG_iload_n (pc := 1) C dL_beats_1 rfl ?_
  refine mG_iload_n (pc := 2) C dL_beats_2 rfl ?_
  obtain ⟨u1, e2, hf⟩ := mx_bind hf
  obtain ⟨o4, e3, hf⟩ := mx_bind hf
  refine mG_cV2 (pc := 3) (k' := 0) (n' := 0) (h' := h) (v := some (.int o4)) 11 [.int p1, .int p2] [] C hX dL_beats_3 lkV_L_220 rfl rfl e2 (tL_prefer hl e3) rfl rfl rfl ⟨Nat.le_of_ble_eq_true rfl, Nat.le_of_ble_eq_true rfl⟩ rfl ?_
  refine mG_aload_n (pc := 6) C dL_beats_6 rfl ?_
  refine mG_iload_n (pc := 7) C dL_beats_7 rfl ?_
  refine mG_iload_n (pc := 8) C dL_beats_8 rfl ?_
  obtain ⟨u5, e6, hf⟩ := mx_bind hf
  obtain ⟨o8, e7, hf⟩ := mx_bind hf
  refine mG_cV2 (pc := 9) (k' := 0) (n' := 0) (h' := h) (v := some (.int o8)) 11 [.int p2, .int p1] [.int o4] C hX dL_beats_9 lkV_L_220 rfl rfl e6 (tL_prefer hl e7) rfl rfl rfl ⟨Nat.le_of_ble_eq_true rfl, Nat.le_of_ble_eq_true rfl⟩ rfl ?_
  obtain ⟨jp11, e12, hf⟩ := mx_bind hf
  have J10 : ∀ jp11' : Int32, jp11' = jp11 → mG l Z X 3 0 0 20 [none, none, none] [.int jp11'] h := by
    intro jp11' q15
    subst q15
    obtain ⟨v13, e14, hf⟩ := mx_bind hf
    cases hf
    exact mG_zr2 (pc := 20) C e14 E hX dL_beats_20 ⟨Nat.le_of_ble_eq_true rfl, Nat.le_of_ble_eq_true rfl⟩
  refine mG_icmp_le (pc := 12) (tgt := 19) C dL_beats_12 (by decide) (fun q9 => ?_) (fun q9 => ?_)
  · rw [if_pos q9] at e12
    refine mG_ic (pc := 19) C dL_beats_19 kI0 ?_
    exact mG_sub (mxLe_n (mxLe_n (mxLe_n mxLe_z))) (J10 _ (Option.some.inj e12))
  · rw [if_neg q9] at e12
    refine mG_ic (pc := 15) C dL_beats_15 kI1 ?_
    refine mG_goto (tgt := 20) (pc := 16) C dL_beats_16 (by decide) ?_
    exact mG_sub (mxLe_n (mxLe_n (mxLe_n mxLe_z))) (J10 _ (Option.some.inj e12))
theorem dL_swaps_0 : decode cL_swaps 0 = .ok (.iconst 0, 1) := by decide +kernel
theorem dL_swaps_1 : decode cL_swaps 1 = .ok (.istore_n 2, 1) := by decide +kernel
theorem dL_swaps_2 : decode cL_swaps 2 = .ok (.iconst 0, 1) := by decide +kernel
theorem dL_swaps_3 : decode cL_swaps 3 = .ok (.istore_n 3, 1) := by decide +kernel
theorem dL_swaps_4 : decode cL_swaps 4 = .ok (.iload_n 3, 1) := by decide +kernel
theorem dL_swaps_5 : decode cL_swaps 5 = .ok (.aload_n 1, 1) := by decide +kernel
theorem dL_swaps_6 : decode cL_swaps 6 = .ok (.arraylength, 1) := by decide +kernel
theorem dL_swaps_7 : decode cL_swaps 7 = .ok (.if_icmp .ge 41, 3) := by decide +kernel
theorem dL_swaps_10 : decode cL_swaps 10 = .ok (.iload_n 3, 1) := by decide +kernel
theorem dL_swaps_11 : decode cL_swaps 11 = .ok (.iconst 1, 1) := by decide +kernel
theorem dL_swaps_12 : decode cL_swaps 12 = .ok (.iadd, 1) := by decide +kernel
theorem dL_swaps_13 : decode cL_swaps 13 = .ok (.istore 4, 2) := by decide +kernel
theorem dL_swaps_15 : decode cL_swaps 15 = .ok (.iload 4, 2) := by decide +kernel
theorem dL_swaps_17 : decode cL_swaps 17 = .ok (.aload_n 1, 1) := by decide +kernel
theorem dL_swaps_18 : decode cL_swaps 18 = .ok (.arraylength, 1) := by decide +kernel
theorem dL_swaps_19 : decode cL_swaps 19 = .ok (.if_icmp .ge 23, 3) := by decide +kernel
theorem dL_swaps_22 : decode cL_swaps 22 = .ok (.iload_n 2, 1) := by decide +kernel
theorem dL_swaps_23 : decode cL_swaps 23 = .ok (.aload_n 0, 1) := by decide +kernel
theorem dL_swaps_24 : decode cL_swaps 24 = .ok (.aload_n 1, 1) := by decide +kernel
theorem dL_swaps_25 : decode cL_swaps 25 = .ok (.iload 4, 2) := by decide +kernel
theorem dL_swaps_27 : decode cL_swaps 27 = .ok (.iaload, 1) := by decide +kernel
theorem dL_swaps_28 : decode cL_swaps 28 = .ok (.aload_n 1, 1) := by decide +kernel
theorem dL_swaps_29 : decode cL_swaps 29 = .ok (.iload_n 3, 1) := by decide +kernel
theorem dL_swaps_30 : decode cL_swaps 30 = .ok (.iaload, 1) := by decide +kernel
theorem dL_swaps_31 : decode cL_swaps 31 = .ok (.invokevirtual 220, 3) := by decide +kernel
theorem dL_swaps_34 : decode cL_swaps 34 = .ok (.iadd, 1) := by decide +kernel
theorem dL_swaps_35 : decode cL_swaps 35 = .ok (.istore_n 2, 1) := by decide +kernel
theorem dL_swaps_36 : decode cL_swaps 36 = .ok (.iinc 4 1, 3) := by decide +kernel
theorem dL_swaps_39 : decode cL_swaps 39 = .ok (.goto (-24), 3) := by decide +kernel
theorem dL_swaps_42 : decode cL_swaps 42 = .ok (.iinc 3 1, 3) := by decide +kernel
theorem dL_swaps_45 : decode cL_swaps 45 = .ok (.goto (-41), 3) := by decide +kernel
theorem dL_swaps_48 : decode cL_swaps 48 = .ok (.iload_n 2, 1) := by decide +kernel
theorem dL_swaps_49 : decode cL_swaps 49 = .ok (.ireturn, 1) := by decide +kernel
def fL_swaps (p0 : Nat) (p1 : Nat) (h : mxH) : Option Int32 := Option.bind (mxLoop (ρ := Int32) (fun s1 : (Int32 × Int32) => Option.bind (lenA h p1) (fun v9 => (if v9 ≤ s1.2 then some (Sum.inr s1.1) else Option.bind (mxLoop (ρ := Int32) (fun s12 : (Int32 × Int32) => Option.bind (lenA h p1) (fun v20 => (if v20 ≤ s12.2 then some (Sum.inr s12.1) else Option.bind (ldI h p1 s12.2) (fun v23 => Option.bind (ldI h p1 s1.2) (fun v25 => Option.bind (isO h p0 11) (fun u27 => Option.bind (fL_prefer p0 v23 v25 h) (fun o30 => some (Sum.inl (s12.1 + o30, s12.2 + 1))))))))) mxF (s1.1, s1.2 + 1)) (fun r31 : Int32 => some (Sum.inl (r31, s1.2 + 1)))))) mxF (0, 0)) (fun r33 : Int32 => some r33)
abbrev rmL_swaps : Room := { frames := 2, cells := 0, slots := 0, locals := 47 }
set_option maxRecDepth 20000 in
set_option maxHeartbeats 1000000 in
theorem tL_swaps {l : Launch} {Z : mxZ} (hl : l.stackTraces = false) {p0 : Nat} {p1 : Nat} {h : mxH} {out : Int32} (hf : fL_swaps p0 p1 h = some out) : mxMet l Z yL_swaps cL_swaps 5 (some .int) rmL_swaps [.ref p0, .ref p1] h (.inl (some (.int out))) h := by
  refine mxMet_of (by decide) hl (by simp [Value.category]) (Nat.le_of_ble_eq_true rfl) ?_
  intro X C E hX hin
  unfold fL_swaps at hf
  refine mG_ic (pc := 0) C dL_swaps_0 kI0 ?_
  refine mG_isn (ls' := [some (.ref p0), some (.ref p1), some (.int 0), none, none]) (pc := 1) C dL_swaps_1 rfl rfl rfl ?_
  refine mG_ic (pc := 2) C dL_swaps_2 kI0 ?_
  refine mG_isn (ls' := [some (.ref p0), some (.ref p1), some (.int 0), some (.int 0), none]) (pc := 3) C dL_swaps_3 rfl rfl rfl ?_
  obtain ⟨r2, e3, hf⟩ := mx_bind hf
  have J4 : ∀ r33 : Int32, r33 = r2 → mG l Z X 5 0 0 48 [none, none, some (.int r33), none, none] [] h := by
    intro r33 q34
    subst q34
    refine mG_iload_n (pc := 48) C dL_swaps_48 rfl ?_
    cases hf
    exact mG_ir2 (pc := 49) C E hX dL_swaps_49 ⟨Nat.le_of_ble_eq_true rfl, Nat.le_of_ble_eq_true rfl⟩
  refine mG_sub (ls' := [some (.ref p0), some (.ref p1), some (.int 0), some (.int 0), none]) (mxLe_s (mxLe_s (mxLe_s (mxLe_s (mxLe_n mxLe_z))))) (mxLoop_ind (K := fun s1 : (Int32 × Int32) => mG l Z X 5 0 0 4 [some (.ref p0), some (.ref p1), some (.int s1.1), some (.int s1.2), none] [] h) ?_ _ _ e3)
  intro s1 o7 e8 hK5 hx6
  refine mG_iload_n (pc := 4) C dL_swaps_4 rfl ?_
  refine mG_aload_n (pc := 5) C dL_swaps_5 rfl ?_
  obtain ⟨v9, e10, e8⟩ := mx_bind e8
  refine mG_arraylength (pc := 6) C dL_swaps_6 e10 ?_
  refine mG_icmp_ge (pc := 7) (tgt := 48) C dL_swaps_7 (by decide) (fun q11 => ?_) (fun q11 => ?_)
  · rw [if_pos q11] at e8
    exact mG_sub (mxLe_n (mxLe_n (mxLe_s (mxLe_n (mxLe_n mxLe_z))))) (J4 _ (hx6 _ (Option.some.inj e8).symm))
  · rw [if_neg q11] at e8
    refine mG_iload_n (pc := 10) C dL_swaps_10 rfl ?_
    refine mG_ic (pc := 11) C dL_swaps_11 kI1 ?_
    refine mG_iadd (pc := 12) C dL_swaps_12 ?_
    refine mG_is (ls' := [some (.ref p0), some (.ref p1), some (.int s1.1), some (.int s1.2), some (.int (s1.2 + 1))]) (pc := 13) C dL_swaps_13 rfl rfl rfl ?_
    obtain ⟨r13, e14, e8⟩ := mx_bind e8
    have J15 : ∀ r31 : Int32, r31 = r13 → mG l Z X 5 0 0 42 [some (.ref p0), some (.ref p1), some (.int r31), some (.int s1.2), none] [] h := by
      intro r31 q32
      subst q32
      refine mG_ii (ls' := [some (.ref p0), some (.ref p1), some (.int r31), some (.int (s1.2 + 1)), none]) (pc := 42) C dL_swaps_42 rfl (kinc1 _) rfl rfl rfl ?_
      refine mG_goto (tgt := 4) (pc := 45) C dL_swaps_45 (by decide) ?_
      exact mG_sub (mxLe_s (mxLe_s (mxLe_s (mxLe_s (mxLe_n mxLe_z))))) (hK5 _ (Option.some.inj e8).symm)
    refine mG_sub (ls' := [some (.ref p0), some (.ref p1), some (.int s1.1), some (.int s1.2), some (.int (s1.2 + 1))]) (mxLe_s (mxLe_s (mxLe_s (mxLe_s (mxLe_s mxLe_z))))) (mxLoop_ind (K := fun s12 : (Int32 × Int32) => mG l Z X 5 0 0 15 [some (.ref p0), some (.ref p1), some (.int s12.1), some (.int s1.2), some (.int s12.2)] [] h) ?_ _ _ e14)
    intro s12 o18 e19 hK16 hx17
    refine mG_iload (pc := 15) C dL_swaps_15 rfl ?_
    refine mG_aload_n (pc := 17) C dL_swaps_17 rfl ?_
    obtain ⟨v20, e21, e19⟩ := mx_bind e19
    refine mG_arraylength (pc := 18) C dL_swaps_18 e21 ?_
    refine mG_icmp_ge (pc := 19) (tgt := 42) C dL_swaps_19 (by decide) (fun q22 => ?_) (fun q22 => ?_)
    · rw [if_pos q22] at e19
      exact mG_sub (mxLe_s (mxLe_s (mxLe_s (mxLe_s (mxLe_n mxLe_z))))) (J15 _ (hx17 _ (Option.some.inj e19).symm))
    · rw [if_neg q22] at e19
      refine mG_iload_n (pc := 22) C dL_swaps_22 rfl ?_
      refine mG_aload_n (pc := 23) C dL_swaps_23 rfl ?_
      refine mG_aload_n (pc := 24) C dL_swaps_24 rfl ?_
      refine mG_iload (pc := 25) C dL_swaps_25 rfl ?_
      obtain ⟨v23, e24, e19⟩ := mx_bind e19
      refine mG_iaload (pc := 27) C dL_swaps_27 e24 ?_
      refine mG_aload_n (pc := 28) C dL_swaps_28 rfl ?_
      refine mG_iload_n (pc := 29) C dL_swaps_29 rfl ?_
      obtain ⟨v25, e26, e19⟩ := mx_bind e19
      refine mG_iaload (pc := 30) C dL_swaps_30 e26 ?_
      obtain ⟨u27, e28, e19⟩ := mx_bind e19
      obtain ⟨o30, e29, e19⟩ := mx_bind e19
      refine mG_cV2 (pc := 31) (k' := 0) (n' := 0) (h' := h) (v := some (.int o30)) 11 [.int v23, .int v25] [.int s12.1] C hX dL_swaps_31 lkV_L_220 rfl rfl e28 (tL_prefer hl e29) rfl rfl rfl ⟨Nat.le_of_ble_eq_true rfl, Nat.le_of_ble_eq_true rfl⟩ rfl ?_
      refine mG_iadd (pc := 34) C dL_swaps_34 ?_
      refine mG_isn (ls' := [some (.ref p0), some (.ref p1), some (.int (s12.1 + o30)), some (.int s1.2), some (.int s12.2)]) (pc := 35) C dL_swaps_35 rfl rfl rfl ?_
      refine mG_ii (ls' := [some (.ref p0), some (.ref p1), some (.int (s12.1 + o30)), some (.int s1.2), some (.int (s12.2 + 1))]) (pc := 36) C dL_swaps_36 rfl (kinc1 _) rfl rfl rfl ?_
      refine mG_goto (tgt := 15) (pc := 39) C dL_swaps_39 (by decide) ?_
      exact mG_sub (mxLe_s (mxLe_s (mxLe_s (mxLe_s (mxLe_s mxLe_z))))) (hK16 _ (Option.some.inj e19).symm)
theorem dL_ring_0 : decode cL_ring 0 = .ok (.iconst (-1), 1) := by decide +kernel
theorem dL_ring_1 : decode cL_ring 1 = .ok (.istore_n 2, 1) := by decide +kernel
theorem dL_ring_2 : decode cL_ring 2 = .ok (.iconst 0, 1) := by decide +kernel
theorem dL_ring_3 : decode cL_ring 3 = .ok (.istore_n 3, 1) := by decide +kernel
theorem dL_ring_4 : decode cL_ring 4 = .ok (.iload_n 3, 1) := by decide +kernel
theorem dL_ring_5 : decode cL_ring 5 = .ok (.aload_n 1, 1) := by decide +kernel
theorem dL_ring_6 : decode cL_ring 6 = .ok (.arraylength, 1) := by decide +kernel
theorem dL_ring_7 : decode cL_ring 7 = .ok (.if_icmp .ge 161, 3) := by decide +kernel
theorem dL_ring_10 : decode cL_ring 10 = .ok (.aload_n 1, 1) := by decide +kernel
theorem dL_ring_11 : decode cL_ring 11 = .ok (.arraylength, 1) := by decide +kernel
theorem dL_ring_12 : decode cL_ring 12 = .ok (.newarray .int, 2) := by decide +kernel
theorem dL_ring_14 : decode cL_ring 14 = .ok (.astore 4, 2) := by decide +kernel
theorem dL_ring_16 : decode cL_ring 16 = .ok (.iconst 1, 1) := by decide +kernel
theorem dL_ring_17 : decode cL_ring 17 = .ok (.istore 5, 2) := by decide +kernel
theorem dL_ring_19 : decode cL_ring 19 = .ok (.iload 5, 2) := by decide +kernel
theorem dL_ring_21 : decode cL_ring 21 = .ok (.aload_n 1, 1) := by decide +kernel
theorem dL_ring_22 : decode cL_ring 22 = .ok (.arraylength, 1) := by decide +kernel
theorem dL_ring_23 : decode cL_ring 23 = .ok (.if_icmp .gt 115, 3) := by decide +kernel
theorem dL_ring_26 : decode cL_ring 26 = .ok (.iconst 0, 1) := by decide +kernel
theorem dL_ring_27 : decode cL_ring 27 = .ok (.istore 6, 2) := by decide +kernel
theorem dL_ring_29 : decode cL_ring 29 = .ok (.iload 6, 2) := by decide +kernel
theorem dL_ring_31 : decode cL_ring 31 = .ok (.aload_n 1, 1) := by decide +kernel
theorem dL_ring_32 : decode cL_ring 32 = .ok (.arraylength, 1) := by decide +kernel
theorem dL_ring_33 : decode cL_ring 33 = .ok (.if_icmp .ge 99, 3) := by decide +kernel
theorem dL_ring_36 : decode cL_ring 36 = .ok (.iload 5, 2) := by decide +kernel
theorem dL_ring_38 : decode cL_ring 38 = .ok (.iconst 1, 1) := by decide +kernel
theorem dL_ring_39 : decode cL_ring 39 = .ok (.if_icmp .ne 17, 3) := by decide +kernel
theorem dL_ring_42 : decode cL_ring 42 = .ok (.iload 6, 2) := by decide +kernel
theorem dL_ring_44 : decode cL_ring 44 = .ok (.iload_n 3, 1) := by decide +kernel
theorem dL_ring_45 : decode cL_ring 45 = .ok (.if_icmp .ne 7, 3) := by decide +kernel
theorem dL_ring_48 : decode cL_ring 48 = .ok (.iconst 1, 1) := by decide +kernel
theorem dL_ring_49 : decode cL_ring 49 = .ok (.goto 24, 3) := by decide +kernel
theorem dL_ring_52 : decode cL_ring 52 = .ok (.iconst 0, 1) := by decide +kernel
theorem dL_ring_53 : decode cL_ring 53 = .ok (.goto 20, 3) := by decide +kernel
theorem dL_ring_56 : decode cL_ring 56 = .ok (.aload 4, 2) := by decide +kernel
theorem dL_ring_58 : decode cL_ring 58 = .ok (.iload 6, 2) := by decide +kernel
theorem dL_ring_60 : decode cL_ring 60 = .ok (.iaload, 1) := by decide +kernel
theorem dL_ring_61 : decode cL_ring 61 = .ok (.iload 5, 2) := by decide +kernel
theorem dL_ring_63 : decode cL_ring 63 = .ok (.iconst 1, 1) := by decide +kernel
theorem dL_ring_64 : decode cL_ring 64 = .ok (.isub, 1) := by decide +kernel
theorem dL_ring_65 : decode cL_ring 65 = .ok (.if_icmp .ne 7, 3) := by decide +kernel
theorem dL_ring_68 : decode cL_ring 68 = .ok (.iconst 1, 1) := by decide +kernel
theorem dL_ring_69 : decode cL_ring 69 = .ok (.goto 4, 3) := by decide +kernel
theorem dL_ring_72 : decode cL_ring 72 = .ok (.iconst 0, 1) := by decide +kernel
theorem dL_ring_73 : decode cL_ring 73 = .ok (.istore 7, 2) := by decide +kernel
theorem dL_ring_75 : decode cL_ring 75 = .ok (.iconst 0, 1) := by decide +kernel
theorem dL_ring_76 : decode cL_ring 76 = .ok (.istore 8, 2) := by decide +kernel
theorem dL_ring_78 : decode cL_ring 78 = .ok (.iload 8, 2) := by decide +kernel
theorem dL_ring_80 : decode cL_ring 80 = .ok (.aload_n 1, 1) := by decide +kernel
theorem dL_ring_81 : decode cL_ring 81 = .ok (.arraylength, 1) := by decide +kernel
theorem dL_ring_82 : decode cL_ring 82 = .ok (.if_icmp .ge 44, 3) := by decide +kernel
theorem dL_ring_85 : decode cL_ring 85 = .ok (.iload 7, 2) := by decide +kernel
theorem dL_ring_87 : decode cL_ring 87 = .ok (.ifCond .eq 39, 3) := by decide +kernel
theorem dL_ring_90 : decode cL_ring 90 = .ok (.aload 4, 2) := by decide +kernel
theorem dL_ring_92 : decode cL_ring 92 = .ok (.iload 8, 2) := by decide +kernel
theorem dL_ring_94 : decode cL_ring 94 = .ok (.iaload, 1) := by decide +kernel
theorem dL_ring_95 : decode cL_ring 95 = .ok (.ifCond .ne 25, 3) := by decide +kernel
theorem dL_ring_98 : decode cL_ring 98 = .ok (.aload_n 0, 1) := by decide +kernel
theorem dL_ring_99 : decode cL_ring 99 = .ok (.aload_n 1, 1) := by decide +kernel
theorem dL_ring_100 : decode cL_ring 100 = .ok (.iload 6, 2) := by decide +kernel
theorem dL_ring_102 : decode cL_ring 102 = .ok (.iaload, 1) := by decide +kernel
theorem dL_ring_103 : decode cL_ring 103 = .ok (.aload_n 1, 1) := by decide +kernel
theorem dL_ring_104 : decode cL_ring 104 = .ok (.iload 8, 2) := by decide +kernel
theorem dL_ring_106 : decode cL_ring 106 = .ok (.iaload, 1) := by decide +kernel
theorem dL_ring_107 : decode cL_ring 107 = .ok (.invokevirtual 234, 3) := by decide +kernel
theorem dL_ring_110 : decode cL_ring 110 = .ok (.ifCond .eq 10, 3) := by decide +kernel
theorem dL_ring_113 : decode cL_ring 113 = .ok (.aload 4, 2) := by decide +kernel
theorem dL_ring_115 : decode cL_ring 115 = .ok (.iload 8, 2) := by decide +kernel
theorem dL_ring_117 : decode cL_ring 117 = .ok (.iload 5, 2) := by decide +kernel
theorem dL_ring_119 : decode cL_ring 119 = .ok (.iastore, 1) := by decide +kernel
theorem dL_ring_120 : decode cL_ring 120 = .ok (.iinc 8 1, 3) := by decide +kernel
theorem dL_ring_123 : decode cL_ring 123 = .ok (.goto (-45), 3) := by decide +kernel
theorem dL_ring_126 : decode cL_ring 126 = .ok (.iinc 6 1, 3) := by decide +kernel
theorem dL_ring_129 : decode cL_ring 129 = .ok (.goto (-100), 3) := by decide +kernel
theorem dL_ring_132 : decode cL_ring 132 = .ok (.iinc 5 1, 3) := by decide +kernel
theorem dL_ring_135 : decode cL_ring 135 = .ok (.goto (-116), 3) := by decide +kernel
theorem dL_ring_138 : decode cL_ring 138 = .ok (.aload 4, 2) := by decide +kernel
theorem dL_ring_140 : decode cL_ring 140 = .ok (.iload_n 3, 1) := by decide +kernel
theorem dL_ring_141 : decode cL_ring 141 = .ok (.iaload, 1) := by decide +kernel
theorem dL_ring_142 : decode cL_ring 142 = .ok (.ifCond .le 20, 3) := by decide +kernel
theorem dL_ring_145 : decode cL_ring 145 = .ok (.iload_n 2, 1) := by decide +kernel
theorem dL_ring_146 : decode cL_ring 146 = .ok (.ifCond .lt 11, 3) := by decide +kernel
theorem dL_ring_149 : decode cL_ring 149 = .ok (.aload 4, 2) := by decide +kernel
theorem dL_ring_151 : decode cL_ring 151 = .ok (.iload_n 3, 1) := by decide +kernel
theorem dL_ring_152 : decode cL_ring 152 = .ok (.iaload, 1) := by decide +kernel
theorem dL_ring_153 : decode cL_ring 153 = .ok (.iload_n 2, 1) := by decide +kernel
theorem dL_ring_154 : decode cL_ring 154 = .ok (.if_icmp .ge 8, 3) := by decide +kernel
theorem dL_ring_157 : decode cL_ring 157 = .ok (.aload 4, 2) := by decide +kernel
theorem dL_ring_159 : decode cL_ring 159 = .ok (.iload_n 3, 1) := by decide +kernel
theorem dL_ring_160 : decode cL_ring 160 = .ok (.iaload, 1) := by decide +kernel
theorem dL_ring_161 : decode cL_ring 161 = .ok (.istore_n 2, 1) := by decide +kernel
theorem dL_ring_162 : decode cL_ring 162 = .ok (.iinc 3 1, 3) := by decide +kernel
theorem dL_ring_165 : decode cL_ring 165 = .ok (.goto (-161), 3) := by decide +kernel
theorem dL_ring_168 : decode cL_ring 168 = .ok (.iload_n 2, 1) := by decide +kernel
theorem dL_ring_169 : decode cL_ring 169 = .ok (.ireturn, 1) := by decide +kernel
def fL_ring (p0 : Nat) (p1 : Nat) (h : mxH) : Option (Int32 × mxH) := Option.bind (mxLoop (ρ := (Int32 × mxH)) (fun s121 : (Int32 × Int32 × mxH) => Option.bind (lenA s121.2.2 p1) (fun v134 => (if v134 ≤ s121.2.1 then some (Sum.inr (s121.1, s121.2.2)) else Option.bind (lenA s121.2.2 p1) (fun v137 => Option.bind (nwV s121.2.2 v137 6) (fun h139 => Option.bind (mxLoop (ρ := mxH) (fun s141 : (Int32 × mxH) => Option.bind (lenA s141.2 p1) (fun v149 => (if v149 < s141.1 then some (Sum.inr s141.2) else Option.bind (mxLoop (ρ := mxH) (fun s152 : (Int32 × mxH) => Option.bind (lenA s152.2 p1) (fun v160 => (if v160 ≤ s152.1 then some (Sum.inr s152.2) else Option.bind (α := Int32) (if s141.1 = 1 then (if s152.1 = s121.2.1 then some 1 else some 0) else Option.bind (ldI s152.2 s121.2.2.2 s152.1) (fun v171 => (if v171 = (s141.1 - 1) then some 1 else some 0))) (fun jp165' : Int32 => Option.bind (mxLoop (ρ := mxH) (fun s175 : (Int32 × mxH) => Option.bind (lenA s175.2 p1) (fun v183 => (if v183 ≤ s175.1 then some (Sum.inr s175.2) else (if jp165' = 0 then some (Sum.inr s175.2) else Option.bind (ldI s175.2 s121.2.2.2 s175.1) (fun v187 => Option.bind (α := mxH) (if v187 = 0 then Option.bind (ldI s175.2 p1 s152.1) (fun v204 => Option.bind (ldI s175.2 p1 s175.1) (fun v206 => Option.bind (isO s175.2 p0 11) (fun u208 => Option.bind (fL_beats p0 v204 v206 s175.2) (fun o211 => (if o211 = 0 then some s175.2 else Option.bind (stI s175.2 s121.2.2.2 s175.1 s141.1) (fun h213 => some h213)))))) else some s175.2) (fun jp191' : mxH => some (Sum.inl (s175.1 + 1, jp191')))))))) mxF (0, s152.2)) (fun r216 : mxH => some (Sum.inl (s152.1 + 1, r216))))))) mxF (0, s141.2)) (fun r219 : mxH => some (Sum.inl (s141.1 + 1, r219)))))) mxF (1, h139)) (fun r221 : mxH => Option.bind (ldI r221 s121.2.2.2 s121.2.1) (fun v222 => Option.bind (α := Int32) (if v222 ≤ 0 then some s121.1 else (if s121.1 < 0 then Option.bind (ldI r221 s121.2.2.2 s121.2.1) (fun v237 => some v237) else Option.bind (ldI r221 s121.2.2.2 s121.2.1) (fun v239 => (if s121.1 ≤ v239 then some s121.1 else Option.bind (ldI r221 s121.2.2.2 s121.2.1) (fun v242 => some v242))))) (fun jp226' : Int32 => some (Sum.inl (jp226', s121.2.1 + 1, r221)))))))))) 7 ((-1), 0, h)) (fun r246 : (Int32 × mxH) => some (r246.1, r246.2))
abbrev rmL_ring : Room := { frames := 3, cells := 7, slots := 42, locals := 69 }
set_option maxRecDepth 20000 in
set_option maxHeartbeats 1000000 in
theorem tL_ring {l : Launch} {Z : mxZ} (hl : l.stackTraces = false) {p0 : Nat} {p1 : Nat} {h : mxH} {out : (Int32 × mxH)} (hf : fL_ring p0 p1 h = some out) : mxMet l Z yL_ring cL_ring 9 (some .int) rmL_ring [.ref p0, .ref p1] h (.inl (some (.int out.1))) out.2 := by
  refine mxMet_of (by decide) hl (by simp [Value.category]) (Nat.le_of_ble_eq_true rfl) ?_
  intro X C E hX hin
  unfold fL_ring at hf
  refine mG_ic (pc := 0) C dL_ring_0 kIm1 ?_
  refine mG_isn (ls' := [some (.ref p0), some (.ref p1), some (.int (-1)), none, none, none, none, none, none]) (pc := 1) C dL_ring_1 rfl rfl rfl ?_
  refine mG_ic (pc := 2) C dL_ring_2 kI0 ?_
  refine mG_isn (ls' := [some (.ref p0), some (.ref p1), some (.int (-1)), some (.int 0), none, none, none, none, none]) (pc := 3) C dL_ring_3 rfl rfl rfl ?_
  obtain ⟨r128, e129, hf⟩ := mx_bind hf
  have J125 : ∀ r246 : (Int32 × mxH), r246 = r128 → mG l Z X 9 7 42 168 [none, none, some (.int r246.1), none, none, none, none, none, none] [] r246.2 := by
    intro r246 q247
    subst q247
    refine mG_iload_n (pc := 168) C dL_ring_168 rfl ?_
    cases hf
    exact mG_ir2 (pc := 169) C E hX dL_ring_169 ⟨Nat.le_of_ble_eq_true rfl, Nat.le_of_ble_eq_true rfl⟩
  refine mG_sub (ls' := [some (.ref p0), some (.ref p1), some (.int (-1)), some (.int 0), none, none, none, none, none]) (mxLe_s (mxLe_s (mxLe_s (mxLe_s (mxLe_n (mxLe_n (mxLe_n (mxLe_n (mxLe_n mxLe_z))))))))) (mxLoop_indN (K := fun (N124 : Nat) (s121 : (Int32 × Int32 × mxH)) => ∀ k122 n123 : Nat, k122 + 1 * N124 ≤ 0 + 1 * 7 → n123 + 6 * N124 ≤ 0 + 6 * 7 → mG l Z X 9 k122 n123 4 [some (.ref p0), some (.ref p1), some (.int s121.1), some (.int s121.2.1), none, none, none, none, none] [] s121.2.2) ?_ _ _ e129 _ _ (Nat.le_refl _) (Nat.le_refl _))
  intro N124 s121 o130 e131 hK126 hx127 k122 n123 hk132 hn133
  refine mG_iload_n (pc := 4) C dL_ring_4 rfl ?_
  refine mG_aload_n (pc := 5) C dL_ring_5 rfl ?_
  obtain ⟨v134, e135, e131⟩ := mx_bind e131
  refine mG_arraylength (pc := 6) C dL_ring_6 e135 ?_
  refine mG_icmp_ge (pc := 7) (tgt := 168) C dL_ring_7 (by decide) (fun q136 => ?_) (fun q136 => ?_)
  · rw [if_pos q136] at e131
    exact mG_wd (by omega) (by omega) (mG_sub (mxLe_n (mxLe_n (mxLe_s (mxLe_n (mxLe_n (mxLe_n (mxLe_n (mxLe_n (mxLe_n mxLe_z))))))))) (J125 _ (hx127 _ (Option.some.inj e131).symm)))
  · rw [if_neg q136] at e131
    refine mG_aload_n (pc := 10) C dL_ring_10 rfl ?_
    obtain ⟨v137, e138, e131⟩ := mx_bind e131
    refine mG_arraylength (pc := 11) C dL_ring_11 e138 ?_
    obtain ⟨h139, e140, e131⟩ := mx_bind e131
    refine mG_nwV (B := 6) (pc := 12) (k' := (k122 + 1)) (n' := (n123 + 6)) C hX dL_ring_12 w272 rfl e140 (by show k122 + 1 = (k122 + 1); omega) (by show n123 + 6 = (n123 + 6); omega) ⟨by show (k122 + 1) ≤ 7; omega, by show (n123 + 6) ≤ 42; omega⟩ ?_
    refine mG_as (ls' := [some (.ref p0), some (.ref p1), some (.int s121.1), some (.int s121.2.1), some (.ref s121.2.2.2), none, none, none, none]) (pc := 14) C dL_ring_14 rfl rfl rfl ?_
    refine mG_ic (pc := 16) C dL_ring_16 kI1 ?_
    refine mG_is (ls' := [some (.ref p0), some (.ref p1), some (.int s121.1), some (.int s121.2.1), some (.ref s121.2.2.2), some (.int 1), none, none, none]) (pc := 17) C dL_ring_17 rfl rfl rfl ?_
    obtain ⟨r142, e143, e131⟩ := mx_bind e131
    have J144 : ∀ r221 : mxH, r221 = r142 → mG l Z X 9 (k122 + 1) (n123 + 6) 138 [some (.ref p0), some (.ref p1), some (.int s121.1), some (.int s121.2.1), some (.ref s121.2.2.2), none, none, none, none] [] r221 := by
      intro r221 q245
      subst q245
      refine mG_aload (pc := 138) C dL_ring_138 rfl ?_
      refine mG_iload_n (pc := 140) C dL_ring_140 rfl ?_
      obtain ⟨v222, e223, e131⟩ := mx_bind e131
      refine mG_iaload (pc := 141) C dL_ring_141 e223 ?_
      obtain ⟨jp226, e227, e131⟩ := mx_bind e131
      have J225 : ∀ jp226' : Int32, jp226' = jp226 → mG l Z X 9 (k122 + 1) (n123 + 6) 162 [some (.ref p0), some (.ref p1), some (.int jp226'), some (.int s121.2.1), none, none, none, none, none] [] r221 := by
        intro jp226' q244
        subst q244
        refine mG_ii (ls' := [some (.ref p0), some (.ref p1), some (.int jp226'), some (.int (s121.2.1 + 1)), none, none, none, none, none]) (pc := 162) C dL_ring_162 rfl (kinc1 _) rfl rfl rfl ?_
        refine mG_goto (tgt := 4) (pc := 165) C dL_ring_165 (by decide) ?_
        exact mG_sub (mxLe_s (mxLe_s (mxLe_s (mxLe_s (mxLe_n (mxLe_n (mxLe_n (mxLe_n (mxLe_n mxLe_z))))))))) (hK126 _ (Option.some.inj e131).symm _ _ (by omega) (by omega))
      refine mG_if_le (pc := 142) (tgt := 162) C dL_ring_142 (by decide) (fun q224 => ?_) (fun q224 => ?_)
      · rw [if_pos q224] at e227
        exact mG_sub (mxLe_s (mxLe_s (mxLe_s (mxLe_s (mxLe_n (mxLe_n (mxLe_n (mxLe_n (mxLe_n mxLe_z))))))))) (J225 _ (Option.some.inj e227))
      · rw [if_neg q224] at e227
        refine mG_iload_n (pc := 145) C dL_ring_145 rfl ?_
        refine mG_if_lt (pc := 146) (tgt := 157) C dL_ring_146 (by decide) (fun q236 => ?_) (fun q236 => ?_)
        · rw [if_pos q236] at e227
          refine mG_aload (pc := 157) C dL_ring_157 rfl ?_
          refine mG_iload_n (pc := 159) C dL_ring_159 rfl ?_
          obtain ⟨v237, e238, e227⟩ := mx_bind e227
          refine mG_iaload (pc := 160) C dL_ring_160 e238 ?_
          refine mG_isn (ls' := [some (.ref p0), some (.ref p1), some (.int v237), some (.int s121.2.1), some (.ref s121.2.2.2), none, none, none, none]) (pc := 161) C dL_ring_161 rfl rfl rfl ?_
          exact mG_sub (mxLe_s (mxLe_s (mxLe_s (mxLe_s (mxLe_n (mxLe_n (mxLe_n (mxLe_n (mxLe_n mxLe_z))))))))) (J225 _ (Option.some.inj e227))
        · rw [if_neg q236] at e227
          refine mG_aload (pc := 149) C dL_ring_149 rfl ?_
          refine mG_iload_n (pc := 151) C dL_ring_151 rfl ?_
          obtain ⟨v239, e240, e227⟩ := mx_bind e227
          refine mG_iaload (pc := 152) C dL_ring_152 e240 ?_
          refine mG_iload_n (pc := 153) C dL_ring_153 rfl ?_
          refine mG_icmp_ge (pc := 154) (tgt := 162) C dL_ring_154 (by decide) (fun q241 => ?_) (fun q241 => ?_)
          · rw [if_pos q241] at e227
            exact mG_sub (mxLe_s (mxLe_s (mxLe_s (mxLe_s (mxLe_n (mxLe_n (mxLe_n (mxLe_n (mxLe_n mxLe_z))))))))) (J225 _ (Option.some.inj e227))
          · rw [if_neg q241] at e227
            refine mG_aload (pc := 157) C dL_ring_157 rfl ?_
            refine mG_iload_n (pc := 159) C dL_ring_159 rfl ?_
            obtain ⟨v242, e243, e227⟩ := mx_bind e227
            refine mG_iaload (pc := 160) C dL_ring_160 e243 ?_
            refine mG_isn (ls' := [some (.ref p0), some (.ref p1), some (.int v242), some (.int s121.2.1), some (.ref s121.2.2.2), none, none, none, none]) (pc := 161) C dL_ring_161 rfl rfl rfl ?_
            exact mG_sub (mxLe_s (mxLe_s (mxLe_s (mxLe_s (mxLe_n (mxLe_n (mxLe_n (mxLe_n (mxLe_n mxLe_z))))))))) (J225 _ (Option.some.inj e227))
    refine mG_sub (ls' := [some (.ref p0), some (.ref p1), some (.int s121.1), some (.int s121.2.1), some (.ref s121.2.2.2), some (.int 1), none, none, none]) (mxLe_s (mxLe_s (mxLe_s (mxLe_s (mxLe_s (mxLe_s (mxLe_n (mxLe_n (mxLe_n mxLe_z))))))))) (mxLoop_ind (K := fun s141 : (Int32 × mxH) => mG l Z X 9 (k122 + 1) (n123 + 6) 19 [some (.ref p0), some (.ref p1), some (.int s121.1), some (.int s121.2.1), some (.ref s121.2.2.2), some (.int s141.1), none, none, none] [] s141.2) ?_ _ _ e143)
    intro s141 o147 e148 hK145 hx146
    refine mG_iload (pc := 19) C dL_ring_19 rfl ?_
    refine mG_aload_n (pc := 21) C dL_ring_21 rfl ?_
    obtain ⟨v149, e150, e148⟩ := mx_bind e148
    refine mG_arraylength (pc := 22) C dL_ring_22 e150 ?_
    refine mG_icmp_gt (pc := 23) (tgt := 138) C dL_ring_23 (by decide) (fun q151 => ?_) (fun q151 => ?_)
    · rw [if_pos q151] at e148
      exact mG_sub (mxLe_s (mxLe_s (mxLe_s (mxLe_s (mxLe_s (mxLe_n (mxLe_n (mxLe_n (mxLe_n mxLe_z))))))))) (J144 _ (hx146 _ (Option.some.inj e148).symm))
    · rw [if_neg q151] at e148
      refine mG_ic (pc := 26) C dL_ring_26 kI0 ?_
      refine mG_is (ls' := [some (.ref p0), some (.ref p1), some (.int s121.1), some (.int s121.2.1), some (.ref s121.2.2.2), some (.int s141.1), some (.int 0), none, none]) (pc := 27) C dL_ring_27 rfl rfl rfl ?_
      obtain ⟨r153, e154, e148⟩ := mx_bind e148
      have J155 : ∀ r219 : mxH, r219 = r153 → mG l Z X 9 (k122 + 1) (n123 + 6) 132 [some (.ref p0), some (.ref p1), some (.int s121.1), some (.int s121.2.1), some (.ref s121.2.2.2), some (.int s141.1), none, none, none] [] r219 := by
        intro r219 q220
        subst q220
        refine mG_ii (ls' := [some (.ref p0), some (.ref p1), some (.int s121.1), some (.int s121.2.1), some (.ref s121.2.2.2), some (.int (s141.1 + 1)), none, none, none]) (pc := 132) C dL_ring_132 rfl (kinc1 _) rfl rfl rfl ?_
        refine mG_goto (tgt := 19) (pc := 135) C dL_ring_135 (by decide) ?_
        exact mG_sub (mxLe_s (mxLe_s (mxLe_s (mxLe_s (mxLe_s (mxLe_s (mxLe_n (mxLe_n (mxLe_n mxLe_z))))))))) (hK145 _ (Option.some.inj e148).symm)
      refine mG_sub (ls' := [some (.ref p0), some (.ref p1), some (.int s121.1), some (.int s121.2.1), some (.ref s121.2.2.2), some (.int s141.1), some (.int 0), none, none]) (mxLe_s (mxLe_s (mxLe_s (mxLe_s (mxLe_s (mxLe_s (mxLe_s (mxLe_n (mxLe_n mxLe_z))))))))) (mxLoop_ind (K := fun s152 : (Int32 × mxH) => mG l Z X 9 (k122 + 1) (n123 + 6) 29 [some (.ref p0), some (.ref p1), some (.int s121.1), some (.int s121.2.1), some (.ref s121.2.2.2), some (.int s141.1), some (.int s152.1), none, none] [] s152.2) ?_ _ _ e154)
      intro s152 o158 e159 hK156 hx157
      refine mG_iload (pc := 29) C dL_ring_29 rfl ?_
      refine mG_aload_n (pc := 31) C dL_ring_31 rfl ?_
      obtain ⟨v160, e161, e159⟩ := mx_bind e159
      refine mG_arraylength (pc := 32) C dL_ring_32 e161 ?_
      refine mG_icmp_ge (pc := 33) (tgt := 132) C dL_ring_33 (by decide) (fun q162 => ?_) (fun q162 => ?_)
      · rw [if_pos q162] at e159
        exact mG_sub (mxLe_s (mxLe_s (mxLe_s (mxLe_s (mxLe_s (mxLe_s (mxLe_n (mxLe_n (mxLe_n mxLe_z))))))))) (J155 _ (hx157 _ (Option.some.inj e159).symm))
      · rw [if_neg q162] at e159
        refine mG_iload (pc := 36) C dL_ring_36 rfl ?_
        refine mG_ic (pc := 38) C dL_ring_38 kI1 ?_
        obtain ⟨jp165, e166, e159⟩ := mx_bind e159
        have J164 : ∀ jp165' : Int32, jp165' = jp165 → mG l Z X 9 (k122 + 1) (n123 + 6) 73 [some (.ref p0), some (.ref p1), some (.int s121.1), some (.int s121.2.1), some (.ref s121.2.2.2), some (.int s141.1), some (.int s152.1), none, none] [.int jp165'] s152.2 := by
          intro jp165' q218
          subst q218
          refine mG_is (ls' := [some (.ref p0), some (.ref p1), some (.int s121.1), some (.int s121.2.1), some (.ref s121.2.2.2), some (.int s141.1), some (.int s152.1), some (.int jp165'), none]) (pc := 73) C dL_ring_73 rfl rfl rfl ?_
          refine mG_ic (pc := 75) C dL_ring_75 kI0 ?_
          refine mG_is (ls' := [some (.ref p0), some (.ref p1), some (.int s121.1), some (.int s121.2.1), some (.ref s121.2.2.2), some (.int s141.1), some (.int s152.1), some (.int jp165'), some (.int 0)]) (pc := 76) C dL_ring_76 rfl rfl rfl ?_
          obtain ⟨r176, e177, e159⟩ := mx_bind e159
          have J178 : ∀ r216 : mxH, r216 = r176 → mG l Z X 9 (k122 + 1) (n123 + 6) 126 [some (.ref p0), some (.ref p1), some (.int s121.1), some (.int s121.2.1), some (.ref s121.2.2.2), some (.int s141.1), some (.int s152.1), none, none] [] r216 := by
            intro r216 q217
            subst q217
            refine mG_ii (ls' := [some (.ref p0), some (.ref p1), some (.int s121.1), some (.int s121.2.1), some (.ref s121.2.2.2), some (.int s141.1), some (.int (s152.1 + 1)), none, none]) (pc := 126) C dL_ring_126 rfl (kinc1 _) rfl rfl rfl ?_
            refine mG_goto (tgt := 29) (pc := 129) C dL_ring_129 (by decide) ?_
            exact mG_sub (mxLe_s (mxLe_s (mxLe_s (mxLe_s (mxLe_s (mxLe_s (mxLe_s (mxLe_n (mxLe_n mxLe_z))))))))) (hK156 _ (Option.some.inj e159).symm)
          refine mG_sub (ls' := [some (.ref p0), some (.ref p1), some (.int s121.1), some (.int s121.2.1), some (.ref s121.2.2.2), some (.int s141.1), some (.int s152.1), some (.int jp165'), some (.int 0)]) (mxLe_s (mxLe_s (mxLe_s (mxLe_s (mxLe_s (mxLe_s (mxLe_s (mxLe_s (mxLe_s mxLe_z))))))))) (mxLoop_ind (K := fun s175 : (Int32 × mxH) => mG l Z X 9 (k122 + 1) (n123 + 6) 78 [some (.ref p0), some (.ref p1), some (.int s121.1), some (.int s121.2.1), some (.ref s121.2.2.2), some (.int s141.1), some (.int s152.1), some (.int jp165'), some (.int s175.1)] [] s175.2) ?_ _ _ e177)
          intro s175 o181 e182 hK179 hx180
          refine mG_iload (pc := 78) C dL_ring_78 rfl ?_
          refine mG_aload_n (pc := 80) C dL_ring_80 rfl ?_
          obtain ⟨v183, e184, e182⟩ := mx_bind e182
          refine mG_arraylength (pc := 81) C dL_ring_81 e184 ?_
          refine mG_icmp_ge (pc := 82) (tgt := 126) C dL_ring_82 (by decide) (fun q185 => ?_) (fun q185 => ?_)
          · rw [if_pos q185] at e182
            exact mG_sub (mxLe_s (mxLe_s (mxLe_s (mxLe_s (mxLe_s (mxLe_s (mxLe_s (mxLe_n (mxLe_n mxLe_z))))))))) (J178 _ (hx180 _ (Option.some.inj e182).symm))
          · rw [if_neg q185] at e182
            refine mG_iload (pc := 85) C dL_ring_85 rfl ?_
            refine mG_if_eq (pc := 87) (tgt := 126) C dL_ring_87 (by decide) (fun q186 => ?_) (fun q186 => ?_)
            · rw [if_pos q186] at e182
              exact mG_sub (mxLe_s (mxLe_s (mxLe_s (mxLe_s (mxLe_s (mxLe_s (mxLe_s (mxLe_n (mxLe_n mxLe_z))))))))) (J178 _ (hx180 _ (Option.some.inj e182).symm))
            · rw [if_neg q186] at e182
              refine mG_aload (pc := 90) C dL_ring_90 rfl ?_
              refine mG_iload (pc := 92) C dL_ring_92 rfl ?_
              obtain ⟨v187, e188, e182⟩ := mx_bind e182
              refine mG_iaload (pc := 94) C dL_ring_94 e188 ?_
              obtain ⟨jp191, e192, e182⟩ := mx_bind e182
              have J190 : ∀ jp191' : mxH, jp191' = jp191 → mG l Z X 9 (k122 + 1) (n123 + 6) 120 [some (.ref p0), some (.ref p1), some (.int s121.1), some (.int s121.2.1), some (.ref s121.2.2.2), some (.int s141.1), some (.int s152.1), some (.int jp165'), some (.int s175.1)] [] jp191' := by
                intro jp191' q215
                subst q215
                refine mG_ii (ls' := [some (.ref p0), some (.ref p1), some (.int s121.1), some (.int s121.2.1), some (.ref s121.2.2.2), some (.int s141.1), some (.int s152.1), some (.int jp165'), some (.int (s175.1 + 1))]) (pc := 120) C dL_ring_120 rfl (kinc1 _) rfl rfl rfl ?_
                refine mG_goto (tgt := 78) (pc := 123) C dL_ring_123 (by decide) ?_
                exact mG_sub (mxLe_s (mxLe_s (mxLe_s (mxLe_s (mxLe_s (mxLe_s (mxLe_s (mxLe_s (mxLe_s mxLe_z))))))))) (hK179 _ (Option.some.inj e182).symm)
              refine mG_if_ne (pc := 95) (tgt := 120) C dL_ring_95 (by decide) (fun q189 => ?_) (fun q189 => ?_)
              · rw [if_neg q189] at e192
                exact mG_sub (mxLe_s (mxLe_s (mxLe_s (mxLe_s (mxLe_s (mxLe_s (mxLe_s (mxLe_s (mxLe_s mxLe_z))))))))) (J190 _ (Option.some.inj e192))
              · rw [if_pos q189] at e192
                refine mG_aload_n (pc := 98) C dL_ring_98 rfl ?_
                refine mG_aload_n (pc := 99) C dL_ring_99 rfl ?_
                refine mG_iload (pc := 100) C dL_ring_100 rfl ?_
                obtain ⟨v204, e205, e192⟩ := mx_bind e192
                refine mG_iaload (pc := 102) C dL_ring_102 e205 ?_
                refine mG_aload_n (pc := 103) C dL_ring_103 rfl ?_
                refine mG_iload (pc := 104) C dL_ring_104 rfl ?_
                obtain ⟨v206, e207, e192⟩ := mx_bind e192
                refine mG_iaload (pc := 106) C dL_ring_106 e207 ?_
                obtain ⟨u208, e209, e192⟩ := mx_bind e192
                obtain ⟨o211, e210, e192⟩ := mx_bind e192
                refine mG_cV2 (pc := 107) (k' := (k122 + 1)) (n' := (n123 + 6)) (h' := s175.2) (v := some (.int o211)) 11 [.int v204, .int v206] [] C hX dL_ring_107 lkV_L_234 rfl rfl e209 (tL_beats hl e210) rfl (by show (k122 + 1) + 0 = (k122 + 1); omega) (by show (n123 + 6) + 0 = (n123 + 6); omega) ⟨by show (k122 + 1) ≤ 7; omega, by show (n123 + 6) ≤ 42; omega⟩ rfl ?_
                refine mG_if_eq (pc := 110) (tgt := 120) C dL_ring_110 (by decide) (fun q212 => ?_) (fun q212 => ?_)
                · rw [if_pos q212] at e192
                  exact mG_sub (mxLe_s (mxLe_s (mxLe_s (mxLe_s (mxLe_s (mxLe_s (mxLe_s (mxLe_s (mxLe_s mxLe_z))))))))) (J190 _ (Option.some.inj e192))
                · rw [if_neg q212] at e192
                  refine mG_aload (pc := 113) C dL_ring_113 rfl ?_
                  refine mG_iload (pc := 115) C dL_ring_115 rfl ?_
                  refine mG_iload (pc := 117) C dL_ring_117 rfl ?_
                  obtain ⟨h213, e214, e192⟩ := mx_bind e192
                  refine mG_iastore (pc := 119) C dL_ring_119 e214 ?_
                  exact mG_sub (mxLe_s (mxLe_s (mxLe_s (mxLe_s (mxLe_s (mxLe_s (mxLe_s (mxLe_s (mxLe_s mxLe_z))))))))) (J190 _ (Option.some.inj e192))
        refine mG_icmp_ne (pc := 39) (tgt := 56) C dL_ring_39 (by decide) (fun q163 => ?_) (fun q163 => ?_)
        · rw [if_neg q163] at e166
          refine mG_aload (pc := 56) C dL_ring_56 rfl ?_
          refine mG_iload (pc := 58) C dL_ring_58 rfl ?_
          obtain ⟨v171, e172, e166⟩ := mx_bind e166
          refine mG_iaload (pc := 60) C dL_ring_60 e172 ?_
          refine mG_iload (pc := 61) C dL_ring_61 rfl ?_
          refine mG_ic (pc := 63) C dL_ring_63 kI1 ?_
          refine mG_isub (pc := 64) C dL_ring_64 ?_
          refine mG_icmp_ne (pc := 65) (tgt := 72) C dL_ring_65 (by decide) (fun q173 => ?_) (fun q173 => ?_)
          · rw [if_neg q173] at e166
            refine mG_ic (pc := 72) C dL_ring_72 kI0 ?_
            exact mG_sub (mxLe_s (mxLe_s (mxLe_s (mxLe_s (mxLe_s (mxLe_s (mxLe_s (mxLe_n (mxLe_n mxLe_z))))))))) (J164 _ (Option.some.inj e166))
          · rw [if_pos q173] at e166
            refine mG_ic (pc := 68) C dL_ring_68 kI1 ?_
            refine mG_goto (tgt := 73) (pc := 69) C dL_ring_69 (by decide) ?_
            exact mG_sub (mxLe_s (mxLe_s (mxLe_s (mxLe_s (mxLe_s (mxLe_s (mxLe_s (mxLe_n (mxLe_n mxLe_z))))))))) (J164 _ (Option.some.inj e166))
        · rw [if_pos q163] at e166
          refine mG_iload (pc := 42) C dL_ring_42 rfl ?_
          refine mG_iload_n (pc := 44) C dL_ring_44 rfl ?_
          refine mG_icmp_ne (pc := 45) (tgt := 52) C dL_ring_45 (by decide) (fun q174 => ?_) (fun q174 => ?_)
          · rw [if_neg q174] at e166
            refine mG_ic (pc := 52) C dL_ring_52 kI0 ?_
            refine mG_goto (tgt := 73) (pc := 53) C dL_ring_53 (by decide) ?_
            exact mG_sub (mxLe_s (mxLe_s (mxLe_s (mxLe_s (mxLe_s (mxLe_s (mxLe_s (mxLe_n (mxLe_n mxLe_z))))))))) (J164 _ (Option.some.inj e166))
          · rw [if_pos q174] at e166
            refine mG_ic (pc := 48) C dL_ring_48 kI1 ?_
            refine mG_goto (tgt := 73) (pc := 49) C dL_ring_49 (by decide) ?_
            exact mG_sub (mxLe_s (mxLe_s (mxLe_s (mxLe_s (mxLe_s (mxLe_s (mxLe_s (mxLe_n (mxLe_n mxLe_z))))))))) (J164 _ (Option.some.inj e166))
theorem dL_areVotes_0 : decode cL_areVotes 0 = .ok (.aload_n 0, 1) := by decide +kernel
theorem dL_areVotes_1 : decode cL_areVotes 1 = .ok (.getfield 10, 3) := by decide +kernel
theorem dL_areVotes_4 : decode cL_areVotes 4 = .ok (.invokevirtual 228, 3) := by decide +kernel
theorem dL_areVotes_7 : decode cL_areVotes 7 = .ok (.istore_n 1, 1) := by decide +kernel
theorem dL_areVotes_8 : decode cL_areVotes 8 = .ok (.aload_n 0, 1) := by decide +kernel
theorem dL_areVotes_9 : decode cL_areVotes 9 = .ok (.bipush 20, 2) := by decide +kernel
theorem dL_areVotes_11 : decode cL_areVotes 11 = .ok (.invokevirtual 99, 3) := by decide +kernel
theorem dL_areVotes_14 : decode cL_areVotes 14 = .ok (.arraylength, 1) := by decide +kernel
theorem dL_areVotes_15 : decode cL_areVotes 15 = .ok (.istore_n 2, 1) := by decide +kernel
theorem dL_areVotes_16 : decode cL_areVotes 16 = .ok (.iload_n 1, 1) := by decide +kernel
theorem dL_areVotes_17 : decode cL_areVotes 17 = .ok (.iload_n 2, 1) := by decide +kernel
theorem dL_areVotes_18 : decode cL_areVotes 18 = .ok (.bipush 6, 2) := by decide +kernel
theorem dL_areVotes_20 : decode cL_areVotes 20 = .ok (.invokestatic 72, 3) := by decide +kernel
theorem dL_areVotes_23 : decode cL_areVotes 23 = .ok (.if_icmp .eq 5, 3) := by decide +kernel
theorem dL_areVotes_26 : decode cL_areVotes 26 = .ok (.iconst 0, 1) := by decide +kernel
theorem dL_areVotes_27 : decode cL_areVotes 27 = .ok (.ireturn, 1) := by decide +kernel
theorem dL_areVotes_28 : decode cL_areVotes 28 = .ok (.iload_n 1, 1) := by decide +kernel
theorem dL_areVotes_29 : decode cL_areVotes 29 = .ok (.newarray .int, 2) := by decide +kernel
theorem dL_areVotes_31 : decode cL_areVotes 31 = .ok (.astore_n 3, 1) := by decide +kernel
theorem dL_areVotes_32 : decode cL_areVotes 32 = .ok (.iload_n 1, 1) := by decide +kernel
theorem dL_areVotes_33 : decode cL_areVotes 33 = .ok (.newarray .int, 2) := by decide +kernel
theorem dL_areVotes_35 : decode cL_areVotes 35 = .ok (.astore 4, 2) := by decide +kernel
theorem dL_areVotes_37 : decode cL_areVotes 37 = .ok (.iconst 0, 1) := by decide +kernel
theorem dL_areVotes_38 : decode cL_areVotes 38 = .ok (.istore 5, 2) := by decide +kernel
theorem dL_areVotes_40 : decode cL_areVotes 40 = .ok (.iload 5, 2) := by decide +kernel
theorem dL_areVotes_42 : decode cL_areVotes 42 = .ok (.iload_n 1, 1) := by decide +kernel
theorem dL_areVotes_43 : decode cL_areVotes 43 = .ok (.if_icmp .ge 22, 3) := by decide +kernel
theorem dL_areVotes_46 : decode cL_areVotes 46 = .ok (.aload_n 3, 1) := by decide +kernel
theorem dL_areVotes_47 : decode cL_areVotes 47 = .ok (.iload 5, 2) := by decide +kernel
theorem dL_areVotes_49 : decode cL_areVotes 49 = .ok (.aload_n 0, 1) := by decide +kernel
theorem dL_areVotes_50 : decode cL_areVotes 50 = .ok (.getfield 10, 3) := by decide +kernel
theorem dL_areVotes_53 : decode cL_areVotes 53 = .ok (.iload 5, 2) := by decide +kernel
theorem dL_areVotes_55 : decode cL_areVotes 55 = .ok (.invokevirtual 231, 3) := by decide +kernel
theorem dL_areVotes_58 : decode cL_areVotes 58 = .ok (.iastore, 1) := by decide +kernel
theorem dL_areVotes_59 : decode cL_areVotes 59 = .ok (.iinc 5 1, 3) := by decide +kernel
theorem dL_areVotes_62 : decode cL_areVotes 62 = .ok (.goto (-22), 3) := by decide +kernel
theorem dL_areVotes_65 : decode cL_areVotes 65 = .ok (.iconst 0, 1) := by decide +kernel
theorem dL_areVotes_66 : decode cL_areVotes 66 = .ok (.istore 5, 2) := by decide +kernel
theorem dL_areVotes_68 : decode cL_areVotes 68 = .ok (.iconst 0, 1) := by decide +kernel
theorem dL_areVotes_69 : decode cL_areVotes 69 = .ok (.istore 6, 2) := by decide +kernel
theorem dL_areVotes_71 : decode cL_areVotes 71 = .ok (.iload 6, 2) := by decide +kernel
theorem dL_areVotes_73 : decode cL_areVotes 73 = .ok (.bipush 20, 2) := by decide +kernel
theorem dL_areVotes_75 : decode cL_areVotes 75 = .ok (.if_icmp .ge 99, 3) := by decide +kernel
theorem dL_areVotes_78 : decode cL_areVotes 78 = .ok (.iload 5, 2) := by decide +kernel
theorem dL_areVotes_80 : decode cL_areVotes 80 = .ok (.iload_n 1, 1) := by decide +kernel
theorem dL_areVotes_81 : decode cL_areVotes 81 = .ok (.if_icmp .ge 93, 3) := by decide +kernel
theorem dL_areVotes_84 : decode cL_areVotes 84 = .ok (.aload_n 0, 1) := by decide +kernel
theorem dL_areVotes_85 : decode cL_areVotes 85 = .ok (.iload 6, 2) := by decide +kernel
theorem dL_areVotes_87 : decode cL_areVotes 87 = .ok (.bipush 20, 2) := by decide +kernel
theorem dL_areVotes_89 : decode cL_areVotes 89 = .ok (.invokevirtual 86, 3) := by decide +kernel
theorem dL_areVotes_92 : decode cL_areVotes 92 = .ok (.ifCond .ne 6, 3) := by decide +kernel
theorem dL_areVotes_95 : decode cL_areVotes 95 = .ok (.goto 73, 3) := by decide +kernel
theorem dL_areVotes_98 : decode cL_areVotes 98 = .ok (.aload 4, 2) := by decide +kernel
theorem dL_areVotes_100 : decode cL_areVotes 100 = .ok (.iload 5, 2) := by decide +kernel
theorem dL_areVotes_102 : decode cL_areVotes 102 = .ok (.iinc 5 1, 3) := by decide +kernel
theorem dL_areVotes_105 : decode cL_areVotes 105 = .ok (.iload 6, 2) := by decide +kernel
theorem dL_areVotes_107 : decode cL_areVotes 107 = .ok (.iastore, 1) := by decide +kernel
theorem dL_areVotes_108 : decode cL_areVotes 108 = .ok (.iconst 0, 1) := by decide +kernel
theorem dL_areVotes_109 : decode cL_areVotes 109 = .ok (.istore 7, 2) := by decide +kernel
theorem dL_areVotes_111 : decode cL_areVotes 111 = .ok (.aload_n 3, 1) := by decide +kernel
theorem dL_areVotes_112 : decode cL_areVotes 112 = .ok (.astore 8, 2) := by decide +kernel
theorem dL_areVotes_114 : decode cL_areVotes 114 = .ok (.aload 8, 2) := by decide +kernel
theorem dL_areVotes_116 : decode cL_areVotes 116 = .ok (.arraylength, 1) := by decide +kernel
theorem dL_areVotes_117 : decode cL_areVotes 117 = .ok (.istore 9, 2) := by decide +kernel
theorem dL_areVotes_119 : decode cL_areVotes 119 = .ok (.iconst 0, 1) := by decide +kernel
theorem dL_areVotes_120 : decode cL_areVotes 120 = .ok (.istore 10, 2) := by decide +kernel
theorem dL_areVotes_122 : decode cL_areVotes 122 = .ok (.iload 10, 2) := by decide +kernel
theorem dL_areVotes_124 : decode cL_areVotes 124 = .ok (.iload 9, 2) := by decide +kernel
theorem dL_areVotes_126 : decode cL_areVotes 126 = .ok (.if_icmp .ge 35, 3) := by decide +kernel
theorem dL_areVotes_129 : decode cL_areVotes 129 = .ok (.aload 8, 2) := by decide +kernel
theorem dL_areVotes_131 : decode cL_areVotes 131 = .ok (.iload 10, 2) := by decide +kernel
theorem dL_areVotes_133 : decode cL_areVotes 133 = .ok (.iaload, 1) := by decide +kernel
theorem dL_areVotes_134 : decode cL_areVotes 134 = .ok (.istore 11, 2) := by decide +kernel
theorem dL_areVotes_136 : decode cL_areVotes 136 = .ok (.iload 7, 2) := by decide +kernel
theorem dL_areVotes_138 : decode cL_areVotes 138 = .ok (.ifCond .ne 10, 3) := by decide +kernel
theorem dL_areVotes_141 : decode cL_areVotes 141 = .ok (.iload 11, 2) := by decide +kernel
theorem dL_areVotes_143 : decode cL_areVotes 143 = .ok (.iload 6, 2) := by decide +kernel
theorem dL_areVotes_145 : decode cL_areVotes 145 = .ok (.if_icmp .ne 7, 3) := by decide +kernel
theorem dL_areVotes_148 : decode cL_areVotes 148 = .ok (.iconst 1, 1) := by decide +kernel
theorem dL_areVotes_149 : decode cL_areVotes 149 = .ok (.goto 4, 3) := by decide +kernel
theorem dL_areVotes_152 : decode cL_areVotes 152 = .ok (.iconst 0, 1) := by decide +kernel
theorem dL_areVotes_153 : decode cL_areVotes 153 = .ok (.istore 7, 2) := by decide +kernel
theorem dL_areVotes_155 : decode cL_areVotes 155 = .ok (.iinc 10 1, 3) := by decide +kernel
theorem dL_areVotes_158 : decode cL_areVotes 158 = .ok (.goto (-36), 3) := by decide +kernel
theorem dL_areVotes_161 : decode cL_areVotes 161 = .ok (.iload 7, 2) := by decide +kernel
theorem dL_areVotes_163 : decode cL_areVotes 163 = .ok (.ifCond .ne 5, 3) := by decide +kernel
theorem dL_areVotes_166 : decode cL_areVotes 166 = .ok (.iconst 0, 1) := by decide +kernel
theorem dL_areVotes_167 : decode cL_areVotes 167 = .ok (.ireturn, 1) := by decide +kernel
theorem dL_areVotes_168 : decode cL_areVotes 168 = .ok (.iinc 6 1, 3) := by decide +kernel
theorem dL_areVotes_171 : decode cL_areVotes 171 = .ok (.goto (-100), 3) := by decide +kernel
theorem dL_areVotes_174 : decode cL_areVotes 174 = .ok (.iconst (-1), 1) := by decide +kernel
theorem dL_areVotes_175 : decode cL_areVotes 175 = .ok (.istore 6, 2) := by decide +kernel
theorem dL_areVotes_177 : decode cL_areVotes 177 = .ok (.aload 4, 2) := by decide +kernel
theorem dL_areVotes_179 : decode cL_areVotes 179 = .ok (.astore 7, 2) := by decide +kernel
theorem dL_areVotes_181 : decode cL_areVotes 181 = .ok (.aload 7, 2) := by decide +kernel
theorem dL_areVotes_183 : decode cL_areVotes 183 = .ok (.arraylength, 1) := by decide +kernel
theorem dL_areVotes_184 : decode cL_areVotes 184 = .ok (.istore 8, 2) := by decide +kernel
theorem dL_areVotes_186 : decode cL_areVotes 186 = .ok (.iconst 0, 1) := by decide +kernel
theorem dL_areVotes_187 : decode cL_areVotes 187 = .ok (.istore 9, 2) := by decide +kernel
theorem dL_areVotes_189 : decode cL_areVotes 189 = .ok (.iload 9, 2) := by decide +kernel
theorem dL_areVotes_191 : decode cL_areVotes 191 = .ok (.iload 8, 2) := by decide +kernel
theorem dL_areVotes_193 : decode cL_areVotes 193 = .ok (.if_icmp .ge 95, 3) := by decide +kernel
theorem dL_areVotes_196 : decode cL_areVotes 196 = .ok (.aload 7, 2) := by decide +kernel
theorem dL_areVotes_198 : decode cL_areVotes 198 = .ok (.iload 9, 2) := by decide +kernel
theorem dL_areVotes_200 : decode cL_areVotes 200 = .ok (.iaload, 1) := by decide +kernel
theorem dL_areVotes_201 : decode cL_areVotes 201 = .ok (.istore 10, 2) := by decide +kernel
theorem dL_areVotes_203 : decode cL_areVotes 203 = .ok (.iconst 1, 1) := by decide +kernel
theorem dL_areVotes_204 : decode cL_areVotes 204 = .ok (.istore 11, 2) := by decide +kernel
theorem dL_areVotes_206 : decode cL_areVotes 206 = .ok (.aload 4, 2) := by decide +kernel
theorem dL_areVotes_208 : decode cL_areVotes 208 = .ok (.astore 12, 2) := by decide +kernel
theorem dL_areVotes_210 : decode cL_areVotes 210 = .ok (.aload 12, 2) := by decide +kernel
theorem dL_areVotes_212 : decode cL_areVotes 212 = .ok (.arraylength, 1) := by decide +kernel
theorem dL_areVotes_213 : decode cL_areVotes 213 = .ok (.istore 13, 2) := by decide +kernel
theorem dL_areVotes_215 : decode cL_areVotes 215 = .ok (.iconst 0, 1) := by decide +kernel
theorem dL_areVotes_216 : decode cL_areVotes 216 = .ok (.istore 14, 2) := by decide +kernel
theorem dL_areVotes_218 : decode cL_areVotes 218 = .ok (.iload 14, 2) := by decide +kernel
theorem dL_areVotes_220 : decode cL_areVotes 220 = .ok (.iload 13, 2) := by decide +kernel
theorem dL_areVotes_222 : decode cL_areVotes 222 = .ok (.if_icmp .ge 46, 3) := by decide +kernel
theorem dL_areVotes_225 : decode cL_areVotes 225 = .ok (.aload 12, 2) := by decide +kernel
theorem dL_areVotes_227 : decode cL_areVotes 227 = .ok (.iload 14, 2) := by decide +kernel
theorem dL_areVotes_229 : decode cL_areVotes 229 = .ok (.iaload, 1) := by decide +kernel
theorem dL_areVotes_230 : decode cL_areVotes 230 = .ok (.istore 15, 2) := by decide +kernel
theorem dL_areVotes_232 : decode cL_areVotes 232 = .ok (.iload 11, 2) := by decide +kernel
theorem dL_areVotes_234 : decode cL_areVotes 234 = .ok (.ifCond .eq 25, 3) := by decide +kernel
theorem dL_areVotes_237 : decode cL_areVotes 237 = .ok (.iload 10, 2) := by decide +kernel
theorem dL_areVotes_239 : decode cL_areVotes 239 = .ok (.iload 15, 2) := by decide +kernel
theorem dL_areVotes_241 : decode cL_areVotes 241 = .ok (.if_icmp .eq 14, 3) := by decide +kernel
theorem dL_areVotes_244 : decode cL_areVotes 244 = .ok (.aload_n 0, 1) := by decide +kernel
theorem dL_areVotes_245 : decode cL_areVotes 245 = .ok (.iload 10, 2) := by decide +kernel
theorem dL_areVotes_247 : decode cL_areVotes 247 = .ok (.iload 15, 2) := by decide +kernel
theorem dL_areVotes_249 : decode cL_areVotes 249 = .ok (.invokevirtual 234, 3) := by decide +kernel
theorem dL_areVotes_252 : decode cL_areVotes 252 = .ok (.ifCond .eq 7, 3) := by decide +kernel
theorem dL_areVotes_255 : decode cL_areVotes 255 = .ok (.iconst 1, 1) := by decide +kernel
theorem dL_areVotes_256 : decode cL_areVotes 256 = .ok (.goto 4, 3) := by decide +kernel
theorem dL_areVotes_259 : decode cL_areVotes 259 = .ok (.iconst 0, 1) := by decide +kernel
theorem dL_areVotes_260 : decode cL_areVotes 260 = .ok (.istore 11, 2) := by decide +kernel
theorem dL_areVotes_262 : decode cL_areVotes 262 = .ok (.iinc 14 1, 3) := by decide +kernel
theorem dL_areVotes_265 : decode cL_areVotes 265 = .ok (.goto (-47), 3) := by decide +kernel
theorem dL_areVotes_268 : decode cL_areVotes 268 = .ok (.iload 11, 2) := by decide +kernel
theorem dL_areVotes_270 : decode cL_areVotes 270 = .ok (.ifCond .eq 8, 3) := by decide +kernel
theorem dL_areVotes_273 : decode cL_areVotes 273 = .ok (.iload 10, 2) := by decide +kernel
theorem dL_areVotes_275 : decode cL_areVotes 275 = .ok (.goto 5, 3) := by decide +kernel
theorem dL_areVotes_278 : decode cL_areVotes 278 = .ok (.iload 6, 2) := by decide +kernel
theorem dL_areVotes_280 : decode cL_areVotes 280 = .ok (.istore 6, 2) := by decide +kernel
theorem dL_areVotes_282 : decode cL_areVotes 282 = .ok (.iinc 9 1, 3) := by decide +kernel
theorem dL_areVotes_285 : decode cL_areVotes 285 = .ok (.goto (-96), 3) := by decide +kernel
theorem dL_areVotes_288 : decode cL_areVotes 288 = .ok (.aload_n 0, 1) := by decide +kernel
theorem dL_areVotes_289 : decode cL_areVotes 289 = .ok (.getfield 10, 3) := by decide +kernel
theorem dL_areVotes_292 : decode cL_areVotes 292 = .ok (.invokestatic 237, 3) := by decide +kernel
theorem dL_areVotes_295 : decode cL_areVotes 295 = .ok (.iload 6, 2) := by decide +kernel
theorem dL_areVotes_297 : decode cL_areVotes 297 = .ok (.if_icmp .ne 34, 3) := by decide +kernel
theorem dL_areVotes_300 : decode cL_areVotes 300 = .ok (.aload_n 0, 1) := by decide +kernel
theorem dL_areVotes_301 : decode cL_areVotes 301 = .ok (.getfield 10, 3) := by decide +kernel
theorem dL_areVotes_304 : decode cL_areVotes 304 = .ok (.invokevirtual 240, 3) := by decide +kernel
theorem dL_areVotes_307 : decode cL_areVotes 307 = .ok (.aload_n 0, 1) := by decide +kernel
theorem dL_areVotes_308 : decode cL_areVotes 308 = .ok (.aload_n 3, 1) := by decide +kernel
theorem dL_areVotes_309 : decode cL_areVotes 309 = .ok (.invokevirtual 243, 3) := by decide +kernel
theorem dL_areVotes_312 : decode cL_areVotes 312 = .ok (.if_icmp .ne 19, 3) := by decide +kernel
theorem dL_areVotes_315 : decode cL_areVotes 315 = .ok (.aload_n 0, 1) := by decide +kernel
theorem dL_areVotes_316 : decode cL_areVotes 316 = .ok (.getfield 10, 3) := by decide +kernel
theorem dL_areVotes_319 : decode cL_areVotes 319 = .ok (.invokevirtual 245, 3) := by decide +kernel
theorem dL_areVotes_322 : decode cL_areVotes 322 = .ok (.aload_n 0, 1) := by decide +kernel
theorem dL_areVotes_323 : decode cL_areVotes 323 = .ok (.aload 4, 2) := by decide +kernel
theorem dL_areVotes_325 : decode cL_areVotes 325 = .ok (.invokevirtual 248, 3) := by decide +kernel
theorem dL_areVotes_328 : decode cL_areVotes 328 = .ok (.if_icmp .eq 5, 3) := by decide +kernel
theorem dL_areVotes_331 : decode cL_areVotes 331 = .ok (.iconst 0, 1) := by decide +kernel
theorem dL_areVotes_332 : decode cL_areVotes 332 = .ok (.ireturn, 1) := by decide +kernel
theorem dL_areVotes_333 : decode cL_areVotes 333 = .ok (.iconst 0, 1) := by decide +kernel
theorem dL_areVotes_334 : decode cL_areVotes 334 = .ok (.istore 7, 2) := by decide +kernel
theorem dL_areVotes_336 : decode cL_areVotes 336 = .ok (.iload 7, 2) := by decide +kernel
theorem dL_areVotes_338 : decode cL_areVotes 338 = .ok (.bipush 20, 2) := by decide +kernel
theorem dL_areVotes_340 : decode cL_areVotes 340 = .ok (.if_icmp .ge 80, 3) := by decide +kernel
theorem dL_areVotes_343 : decode cL_areVotes 343 = .ok (.aload_n 0, 1) := by decide +kernel
theorem dL_areVotes_344 : decode cL_areVotes 344 = .ok (.aload 4, 2) := by decide +kernel
theorem dL_areVotes_346 : decode cL_areVotes 346 = .ok (.invokevirtual 243, 3) := by decide +kernel
theorem dL_areVotes_349 : decode cL_areVotes 349 = .ok (.aload_n 0, 1) := by decide +kernel
theorem dL_areVotes_350 : decode cL_areVotes 350 = .ok (.getfield 10, 3) := by decide +kernel
theorem dL_areVotes_353 : decode cL_areVotes 353 = .ok (.invokevirtual 240, 3) := by decide +kernel
theorem dL_areVotes_356 : decode cL_areVotes 356 = .ok (.if_icmp .ge 5, 3) := by decide +kernel
theorem dL_areVotes_359 : decode cL_areVotes 359 = .ok (.iconst 0, 1) := by decide +kernel
theorem dL_areVotes_360 : decode cL_areVotes 360 = .ok (.ireturn, 1) := by decide +kernel
theorem dL_areVotes_361 : decode cL_areVotes 361 = .ok (.iload_n 1, 1) := by decide +kernel
theorem dL_areVotes_362 : decode cL_areVotes 362 = .ok (.iconst 1, 1) := by decide +kernel
theorem dL_areVotes_363 : decode cL_areVotes 363 = .ok (.isub, 1) := by decide +kernel
theorem dL_areVotes_364 : decode cL_areVotes 364 = .ok (.istore 8, 2) := by decide +kernel
theorem dL_areVotes_366 : decode cL_areVotes 366 = .ok (.iload 8, 2) := by decide +kernel
theorem dL_areVotes_368 : decode cL_areVotes 368 = .ok (.ifCond .le 46, 3) := by decide +kernel
theorem dL_areVotes_371 : decode cL_areVotes 371 = .ok (.aload_n 0, 1) := by decide +kernel
theorem dL_areVotes_372 : decode cL_areVotes 372 = .ok (.getfield 25, 3) := by decide +kernel
theorem dL_areVotes_375 : decode cL_areVotes 375 = .ok (.iload 8, 2) := by decide +kernel
theorem dL_areVotes_377 : decode cL_areVotes 377 = .ok (.iconst 1, 1) := by decide +kernel
theorem dL_areVotes_378 : decode cL_areVotes 378 = .ok (.iadd, 1) := by decide +kernel
theorem dL_areVotes_379 : decode cL_areVotes 379 = .ok (.invokevirtual 30, 3) := by decide +kernel
theorem dL_areVotes_382 : decode cL_areVotes 382 = .ok (.istore 9, 2) := by decide +kernel
theorem dL_areVotes_384 : decode cL_areVotes 384 = .ok (.aload 4, 2) := by decide +kernel
theorem dL_areVotes_386 : decode cL_areVotes 386 = .ok (.iload 8, 2) := by decide +kernel
theorem dL_areVotes_388 : decode cL_areVotes 388 = .ok (.iaload, 1) := by decide +kernel
theorem dL_areVotes_389 : decode cL_areVotes 389 = .ok (.istore 10, 2) := by decide +kernel
theorem dL_areVotes_391 : decode cL_areVotes 391 = .ok (.aload 4, 2) := by decide +kernel
theorem dL_areVotes_393 : decode cL_areVotes 393 = .ok (.iload 8, 2) := by decide +kernel
theorem dL_areVotes_395 : decode cL_areVotes 395 = .ok (.aload 4, 2) := by decide +kernel
theorem dL_areVotes_397 : decode cL_areVotes 397 = .ok (.iload 9, 2) := by decide +kernel
theorem dL_areVotes_399 : decode cL_areVotes 399 = .ok (.iaload, 1) := by decide +kernel
theorem dL_areVotes_400 : decode cL_areVotes 400 = .ok (.iastore, 1) := by decide +kernel
theorem dL_areVotes_401 : decode cL_areVotes 401 = .ok (.aload 4, 2) := by decide +kernel
theorem dL_areVotes_403 : decode cL_areVotes 403 = .ok (.iload 9, 2) := by decide +kernel
theorem dL_areVotes_405 : decode cL_areVotes 405 = .ok (.iload 10, 2) := by decide +kernel
theorem dL_areVotes_407 : decode cL_areVotes 407 = .ok (.iastore, 1) := by decide +kernel
theorem dL_areVotes_408 : decode cL_areVotes 408 = .ok (.iinc 8 (-1), 3) := by decide +kernel
theorem dL_areVotes_411 : decode cL_areVotes 411 = .ok (.goto (-45), 3) := by decide +kernel
theorem dL_areVotes_414 : decode cL_areVotes 414 = .ok (.iinc 7 1, 3) := by decide +kernel
theorem dL_areVotes_417 : decode cL_areVotes 417 = .ok (.goto (-81), 3) := by decide +kernel
theorem dL_areVotes_420 : decode cL_areVotes 420 = .ok (.iconst 1, 1) := by decide +kernel
theorem dL_areVotes_421 : decode cL_areVotes 421 = .ok (.ireturn, 1) := by decide +kernel
def fL_areVotes (p0 : Nat) (h : mxH) : Option (Int32 × mxH) := Option.bind (gR h p0 11 0) (fun r1 => Option.bind (isO h r1 9) (fun u3 => Option.bind (fX9_candidates r1 h) (fun o6 => Option.bind (isO o6.2 p0 11) (fun u7 => Option.bind (fL_ranking p0 20 o6.2) (fun o10 => Option.bind (lenA o10.2 o10.1) (fun v11 => (if o6.1 = (mxMin v11 6) then Option.bind (nwV o10.2 o6.1 6) (fun h14 => Option.bind (nwV h14 o6.1 6) (fun h16 => Option.bind (mxLoop (ρ := mxH) (fun s35 : (Int32 × mxH) => (if o6.1 ≤ s35.1 then some (Sum.inr s35.2) else Option.bind (gR s35.2 p0 11 0) (fun r49 => Option.bind (isO s35.2 r49 9) (fun u51 => Option.bind (mxOk (fX9_orderAt r49 s35.1 s35.2)) (fun o54 => Option.bind (stI o54.2 o10.2.2 s35.1 o54.1) (fun h55 => some (Sum.inl (s35.1 + 1, h55)))))))) 7 (0, h16)) (fun r57 : mxH => Option.bind (mxLoop (ρ := (mxH ⊕ mxH)) (fun s58 : (Int32 × Int32 × mxH) => (if 20 ≤ s58.2.1 then some (Sum.inr (Sum.inr s58.2.2)) else (if o6.1 ≤ s58.1 then some (Sum.inr (Sum.inr s58.2.2)) else Option.bind (isO s58.2.2 p0 11) (fun u69 => Option.bind (fL_isReadAt p0 s58.2.1 20 s58.2.2) (fun o72 => (if o72 = 0 then some (Sum.inl (s58.1, s58.2.1 + 1, s58.2.2)) else Option.bind (stI s58.2.2 h14.2 s58.1 s58.2.1) (fun h74 => Option.bind (lenA h74 o10.2.2) (fun v76 => Option.bind (mxLoop (ρ := Int32) (fun s78 : (Int32 × Int32) => (if v76 ≤ s78.2 then some (Sum.inr s78.1) else Option.bind (ldI h74 o10.2.2 s78.2) (fun v87 => Option.bind (α := Int32) (if s78.1 = 0 then (if v87 = s58.2.1 then some 1 else some 0) else some 1) (fun jp91' : Int32 => some (Sum.inl (jp91', s78.2 + 1)))))) mxF (0, 0)) (fun r96 : Int32 => (if r96 = 0 then some (Sum.inr (Sum.inl h74)) else some (Sum.inl (s58.1 + 1, s58.2.1 + 1, h74)))))))))))) mxF (0, 0, r57)) (Sum.elim (fun r99 : mxH => Option.bind (mxZ1 0) (fun v100 => some (v100, r99))) (fun r103 : mxH => Option.bind (lenA r103 h14.2) (fun v104 => Option.bind (mxLoop (ρ := Int32) (fun s106 : (Int32 × Int32) => (if v104 ≤ s106.2 then some (Sum.inr s106.1) else Option.bind (ldI r103 h14.2 s106.2) (fun v115 => Option.bind (lenA r103 h14.2) (fun v117 => Option.bind (mxLoop (ρ := Int32) (fun s119 : (Int32 × Int32) => (if v117 ≤ s119.2 then some (Sum.inr s119.1) else Option.bind (ldI r103 h14.2 s119.2) (fun v128 => Option.bind (α := Int32) (if s119.1 = 0 then some 0 else (if v115 = v128 then some 1 else Option.bind (isO r103 p0 11) (fun u141 => Option.bind (fL_beats p0 v115 v128 r103) (fun o144 => (if o144 = 0 then some 0 else some 1))))) (fun jp132' : Int32 => some (Sum.inl (jp132', s119.2 + 1)))))) mxF (1, 0)) (fun r147 : Int32 => Option.bind (α := Int32) (if r147 = 0 then some s106.1 else some v115) (fun jp150' : Int32 => some (Sum.inl (jp150', s106.2 + 1)))))))) mxF ((-1), 0)) (fun r154 : Int32 => Option.bind (gR r103 p0 11 0) (fun r155 => Option.bind (fL_winner r155 r103) (fun o157 => (if o157.1 = r154 then Option.bind (gR o157.2 p0 11 0) (fun r162 => Option.bind (isO o157.2 r162 9) (fun u164 => Option.bind (fX9_swaps r162 o157.2) (fun o167 => Option.bind (isO o167.2 p0 11) (fun u168 => Option.bind (fL_swaps p0 o10.2.2 o167.2) (fun o171 => (if o167.1 = o171 then Option.bind (gR o167.2 p0 11 0) (fun r175 => Option.bind (isO o167.2 r175 9) (fun u177 => Option.bind (fX9_ring r175 o167.2) (fun o180 => Option.bind (isO o180.2 p0 11) (fun u181 => Option.bind (fL_ring p0 h14.2 o180.2) (fun o184 => (if o180.1 = o184.1 then Option.bind (mxLoop (ρ := (mxH ⊕ mxH)) (fun s186 : (Int32 × mxH) => (if 20 ≤ s186.1 then some (Sum.inr (Sum.inr s186.2)) else Option.bind (isO s186.2 p0 11) (fun u196 => Option.bind (fL_swaps p0 h14.2 s186.2) (fun o199 => Option.bind (gR s186.2 p0 11 0) (fun r200 => Option.bind (isO s186.2 r200 9) (fun u202 => Option.bind (fX9_swaps r200 s186.2) (fun o205 => (if o205.1 ≤ o199 then Option.bind (mxLoop (ρ := mxH) (fun s207 : (Int32 × mxH) => (if s207.1 ≤ 0 then some (Sum.inr s207.2) else Option.bind (gR s207.2 p0 11 1) (fun r216 => Option.bind (isO s207.2 r216 10) (fun u218 => Option.bind (fX10_next r216 (s207.1 + 1) s207.2) (fun o221 => Option.bind (ldI o221.2 h14.2 s207.1) (fun v222 => Option.bind (ldI o221.2 h14.2 o221.1) (fun v224 => Option.bind (stI o221.2 h14.2 s207.1 v224) (fun h226 => Option.bind (stI h226 h14.2 o221.1 v222) (fun h228 => some (Sum.inl (s207.1 - 1, h228))))))))))) mxF (o6.1 - 1, o205.2)) (fun r230 : mxH => some (Sum.inl (s186.1 + 1, r230))) else some (Sum.inr (Sum.inl o205.2)))))))))) mxF (0, o184.2)) (Sum.elim (fun r232 : mxH => Option.bind (mxZ1 0) (fun v233 => some (v233, r232))) (fun r236 : mxH => Option.bind (mxZ1 1) (fun v237 => some (v237, r236)))) else Option.bind (mxZ1 0) (fun v240 => some (v240, o184.2)))))))) else Option.bind (mxZ1 0) (fun v173 => some (v173, o167.2)))))))) else Option.bind (mxZ1 0) (fun v160 => some (v160, o157.2)))))))))))) else Option.bind (mxZ1 0) (fun v245 => some (v245, o10.2)))))))))
abbrev rmL_areVotes : Room := { frames := 9, cells := 901, slots := 4552, locals := 163 }
set_option maxRecDepth 20000 in
set_option maxHeartbeats 1000000 in
theorem tL_areVotes {l : Launch} {Z : mxZ} (hl : l.stackTraces = false) {p0 : Nat} {h : mxH} {out : (Int32 × mxH)} (hf : fL_areVotes p0 h = some out) : mxMet l Z yL_areVotes cL_areVotes 16 (some .boolean) rmL_areVotes [.ref p0] h (.inl (some (.int out.1))) out.2 := by
  refine mxMet_of (by decide) hl (by simp [Value.category]) (Nat.le_of_ble_eq_true rfl) ?_
  intro X C E hX hin
  unfold fL_areVotes at hf
  refine mG_aload_n (pc := 0) C dL_areVotes_0 rfl ?_
  obtain ⟨r1, e2, hf⟩ := mx_bind hf
  refine mG_getR (pc := 1) C dL_areVotes_1 fl_L_10 e2 ?_
  obtain ⟨u3, e4, hf⟩ := mx_bind hf
  obtain ⟨o6, e5, hf⟩ := mx_bind hf
  refine mG_cV2 (pc := 4) (k' := 0) (n' := 0) (h' := o6.2) (v := some (.int o6.1)) 9 [] [] C hX dL_areVotes_4 lkV_L_228 rfl rfl e4 (tX9_candidates hl e5) rfl rfl rfl ⟨Nat.le_of_ble_eq_true rfl, Nat.le_of_ble_eq_true rfl⟩ rfl ?_
  refine mG_isn (ls' := [some (.ref p0), some (.int o6.1), none, none, none, none, none, none, none, none, none, none, none, none, none, none]) (pc := 7) C dL_areVotes_7 rfl rfl rfl ?_
  refine mG_aload_n (pc := 8) C dL_areVotes_8 rfl ?_
  refine mG_bp (pc := 9) C dL_areVotes_9 kB20 ?_
  obtain ⟨u7, e8, hf⟩ := mx_bind hf
  obtain ⟨o10, e9, hf⟩ := mx_bind hf
  refine mG_cV2 (pc := 11) (k' := 884) (n' := 4450) (h' := o10.2) (v := some (.ref o10.1)) 11 [.int 20] [] C hX dL_areVotes_11 lkV_L_99 rfl rfl e8 (tL_ranking hl e9) rfl rfl rfl ⟨Nat.le_of_ble_eq_true rfl, Nat.le_of_ble_eq_true rfl⟩ rfl ?_
  obtain ⟨v11, e12, hf⟩ := mx_bind hf
  refine mG_arraylength (pc := 14) C dL_areVotes_14 e12 ?_
  refine mG_isn (ls' := [some (.ref p0), some (.int o6.1), some (.int v11), none, none, none, none, none, none, none, none, none, none, none, none, none]) (pc := 15) C dL_areVotes_15 rfl rfl rfl ?_
  refine mG_iload_n (pc := 16) C dL_areVotes_16 rfl ?_
  refine mG_iload_n (pc := 17) C dL_areVotes_17 rfl ?_
  refine mG_bp (pc := 18) C dL_areVotes_18 kB6 ?_
  refine mG_mn2 (pc := 20) C hX dL_areVotes_20 w718 wmin rfl ⟨Nat.le_of_ble_eq_true rfl, Nat.le_of_ble_eq_true rfl⟩ rfl ?_
  refine mG_icmp_eq (pc := 23) (tgt := 28) C dL_areVotes_23 (by decide) (fun q13 => ?_) (fun q13 => ?_)
  · rw [if_pos q13] at hf
    refine mG_iload_n (pc := 28) C dL_areVotes_28 rfl ?_
    obtain ⟨h14, e15, hf⟩ := mx_bind hf
    refine mG_nwV (B := 6) (pc := 29) (k' := 885) (n' := 4456) C hX dL_areVotes_29 w272 rfl e15 rfl rfl ⟨Nat.le_of_ble_eq_true rfl, Nat.le_of_ble_eq_true rfl⟩ ?_
    refine mG_asn (ls' := [some (.ref p0), some (.int o6.1), some (.int v11), some (.ref o10.2.2), none, none, none, none, none, none, none, none, none, none, none, none]) (pc := 31) C dL_areVotes_31 rfl rfl rfl ?_
    refine mG_iload_n (pc := 32) C dL_areVotes_32 rfl ?_
    obtain ⟨h16, e17, hf⟩ := mx_bind hf
    refine mG_nwV (B := 6) (pc := 33) (k' := 886) (n' := 4462) C hX dL_areVotes_33 w272 rfl e17 rfl rfl ⟨Nat.le_of_ble_eq_true rfl, Nat.le_of_ble_eq_true rfl⟩ ?_
    refine mG_as (ls' := [some (.ref p0), some (.int o6.1), some (.int v11), some (.ref o10.2.2), some (.ref h14.2), none, none, none, none, none, none, none, none, none, none, none]) (pc := 35) C dL_areVotes_35 rfl rfl rfl ?_
    refine mG_ic (pc := 37) C dL_areVotes_37 kI0 ?_
    refine mG_is (ls' := [some (.ref p0), some (.int o6.1), some (.int v11), some (.ref o10.2.2), some (.ref h14.2), some (.int 0), none, none, none, none, none, none, none, none, none, none]) (pc := 38) C dL_areVotes_38 rfl rfl rfl ?_
    obtain ⟨r42, e43, hf⟩ := mx_bind hf
    have J39 : ∀ r57 : mxH, r57 = r42 → mG l Z X 16 893 4504 65 [some (.ref p0), some (.int o6.1), none, some (.ref o10.2.2), some (.ref h14.2), none, none, none, none, none, none, none, none, none, none, none] [] r57 := by
      intro r57 q244
      subst q244
      refine mG_ic (pc := 65) C dL_areVotes_65 kI0 ?_
      refine mG_is (ls' := [some (.ref p0), some (.int o6.1), none, some (.ref o10.2.2), some (.ref h14.2), some (.int 0), none, none, none, none, none, none, none, none, none, none]) (pc := 66) C dL_areVotes_66 rfl rfl rfl ?_
      refine mG_ic (pc := 68) C dL_areVotes_68 kI0 ?_
      refine mG_is (ls' := [some (.ref p0), some (.int o6.1), none, some (.ref o10.2.2), some (.ref h14.2), some (.int 0), some (.int 0), none, none, none, none, none, none, none, none, none]) (pc := 69) C dL_areVotes_69 rfl rfl rfl ?_
      obtain ⟨r59, e60, hf⟩ := mx_bind hf
      have J61 : ∀ r99 : mxH, Sum.inl r99 = r59 → mG l Z X 16 893 4504 166 [none, none, none, none, none, none, none, none, none, none, none, none, none, none, none, none] [] r99 := by
        intro r99 q102
        subst q102
        rw [Sum.elim_inl] at hf
        refine mG_ic (pc := 166) C dL_areVotes_166 kI0 ?_
        obtain ⟨v100, e101, hf⟩ := mx_bind hf
        cases hf
        exact mG_zr2 (pc := 167) C e101 E hX dL_areVotes_167 ⟨Nat.le_of_ble_eq_true rfl, Nat.le_of_ble_eq_true rfl⟩
      have J62 : ∀ r103 : mxH, Sum.inr r103 = r59 → mG l Z X 16 893 4504 174 [some (.ref p0), some (.int o6.1), none, some (.ref o10.2.2), some (.ref h14.2), none, none, none, none, none, none, none, none, none, none, none] [] r103 := by
        intro r103 q243
        subst q243
        rw [Sum.elim_inr] at hf
        refine mG_ic (pc := 174) C dL_areVotes_174 kIm1 ?_
        refine mG_is (ls' := [some (.ref p0), some (.int o6.1), none, some (.ref o10.2.2), some (.ref h14.2), none, some (.int (-1)), none, none, none, none, none, none, none, none, none]) (pc := 175) C dL_areVotes_175 rfl rfl rfl ?_
        refine mG_aload (pc := 177) C dL_areVotes_177 rfl ?_
        refine mG_as (ls' := [some (.ref p0), some (.int o6.1), none, some (.ref o10.2.2), some (.ref h14.2), none, some (.int (-1)), some (.ref h14.2), none, none, none, none, none, none, none, none]) (pc := 179) C dL_areVotes_179 rfl rfl rfl ?_
        refine mG_aload (pc := 181) C dL_areVotes_181 rfl ?_
        obtain ⟨v104, e105, hf⟩ := mx_bind hf
        refine mG_arraylength (pc := 183) C dL_areVotes_183 e105 ?_
        refine mG_is (ls' := [some (.ref p0), some (.int o6.1), none, some (.ref o10.2.2), some (.ref h14.2), none, some (.int (-1)), some (.ref h14.2), some (.int v104), none, none, none, none, none, none, none]) (pc := 184) C dL_areVotes_184 rfl rfl rfl ?_
        refine mG_ic (pc := 186) C dL_areVotes_186 kI0 ?_
        refine mG_is (ls' := [some (.ref p0), some (.int o6.1), none, some (.ref o10.2.2), some (.ref h14.2), none, some (.int (-1)), some (.ref h14.2), some (.int v104), some (.int 0), none, none, none, none, none, none]) (pc := 187) C dL_areVotes_187 rfl rfl rfl ?_
        obtain ⟨r107, e108, hf⟩ := mx_bind hf
        have J109 : ∀ r154 : Int32, r154 = r107 → mG l Z X 16 893 4504 288 [some (.ref p0), some (.int o6.1), none, some (.ref o10.2.2), some (.ref h14.2), none, some (.int r154), none, none, none, none, none, none, none, none, none] [] r103 := by
          intro r154 q242
          subst q242
          refine mG_aload_n (pc := 288) C dL_areVotes_288 rfl ?_
          obtain ⟨r155, e156, hf⟩ := mx_bind hf
          refine mG_getR (pc := 289) C dL_areVotes_289 fl_L_10 e156 ?_
          obtain ⟨o157, e158, hf⟩ := mx_bind hf
          refine mG_cSH (pc := 292) (k' := 894) (n' := 4510) (h' := o157.2) (v := some (.int o157.1)) [.ref r155] [] C hX dL_areVotes_292 lkH_winner rfl (tL_winner hl e158) rfl ⟨Nat.le_of_ble_eq_true rfl, Nat.le_of_ble_eq_true rfl⟩ rfl rfl rfl ?_
          refine mG_iload (pc := 295) C dL_areVotes_295 rfl ?_
          refine mG_icmp_ne (pc := 297) (tgt := 331) C dL_areVotes_297 (by decide) (fun q159 => ?_) (fun q159 => ?_)
          · rw [if_neg q159] at hf
            refine mG_ic (pc := 331) C dL_areVotes_331 kI0 ?_
            obtain ⟨v160, e161, hf⟩ := mx_bind hf
            cases hf
            exact mG_zr2 (pc := 332) C e161 E hX dL_areVotes_332 ⟨Nat.le_of_ble_eq_true rfl, Nat.le_of_ble_eq_true rfl⟩
          · rw [if_pos q159] at hf
            refine mG_aload_n (pc := 300) C dL_areVotes_300 rfl ?_
            obtain ⟨r162, e163, hf⟩ := mx_bind hf
            refine mG_getR (pc := 301) C dL_areVotes_301 fl_L_10 e163 ?_
            obtain ⟨u164, e165, hf⟩ := mx_bind hf
            obtain ⟨o167, e166, hf⟩ := mx_bind hf
            refine mG_cV2 (pc := 304) (k' := 894) (n' := 4510) (h' := o167.2) (v := some (.int o167.1)) 9 [] [] C hX dL_areVotes_304 lkV_L_240 rfl rfl e165 (tX9_swaps hl e166) rfl rfl rfl ⟨Nat.le_of_ble_eq_true rfl, Nat.le_of_ble_eq_true rfl⟩ rfl ?_
            refine mG_aload_n (pc := 307) C dL_areVotes_307 rfl ?_
            refine mG_aload_n (pc := 308) C dL_areVotes_308 rfl ?_
            obtain ⟨u168, e169, hf⟩ := mx_bind hf
            obtain ⟨o171, e170, hf⟩ := mx_bind hf
            refine mG_cV2 (pc := 309) (k' := 894) (n' := 4510) (h' := o167.2) (v := some (.int o171)) 11 [.ref o10.2.2] [.int o167.1] C hX dL_areVotes_309 lkV_L_243 rfl rfl e169 (tL_swaps hl e170) rfl rfl rfl ⟨Nat.le_of_ble_eq_true rfl, Nat.le_of_ble_eq_true rfl⟩ rfl ?_
            refine mG_icmp_ne (pc := 312) (tgt := 331) C dL_areVotes_312 (by decide) (fun q172 => ?_) (fun q172 => ?_)
            · rw [if_neg q172] at hf
              refine mG_ic (pc := 331) C dL_areVotes_331 kI0 ?_
              obtain ⟨v173, e174, hf⟩ := mx_bind hf
              cases hf
              exact mG_zr2 (pc := 332) C e174 E hX dL_areVotes_332 ⟨Nat.le_of_ble_eq_true rfl, Nat.le_of_ble_eq_true rfl⟩
            · rw [if_pos q172] at hf
              refine mG_aload_n (pc := 315) C dL_areVotes_315 rfl ?_
              obtain ⟨r175, e176, hf⟩ := mx_bind hf
              refine mG_getR (pc := 316) C dL_areVotes_316 fl_L_10 e176 ?_
              obtain ⟨u177, e178, hf⟩ := mx_bind hf
              obtain ⟨o180, e179, hf⟩ := mx_bind hf
              refine mG_cV2 (pc := 319) (k' := 894) (n' := 4510) (h' := o180.2) (v := some (.int o180.1)) 9 [] [] C hX dL_areVotes_319 lkV_L_245 rfl rfl e178 (tX9_ring hl e179) rfl rfl rfl ⟨Nat.le_of_ble_eq_true rfl, Nat.le_of_ble_eq_true rfl⟩ rfl ?_
              refine mG_aload_n (pc := 322) C dL_areVotes_322 rfl ?_
              refine mG_aload (pc := 323) C dL_areVotes_323 rfl ?_
              obtain ⟨u181, e182, hf⟩ := mx_bind hf
              obtain ⟨o184, e183, hf⟩ := mx_bind hf
              refine mG_cV2 (pc := 325) (k' := 901) (n' := 4552) (h' := o184.2) (v := some (.int o184.1)) 11 [.ref h14.2] [.int o180.1] C hX dL_areVotes_325 lkV_L_248 rfl rfl e182 (tL_ring hl e183) rfl rfl rfl ⟨Nat.le_of_ble_eq_true rfl, Nat.le_of_ble_eq_true rfl⟩ rfl ?_
              refine mG_icmp_eq (pc := 328) (tgt := 333) C dL_areVotes_328 (by decide) (fun q185 => ?_) (fun q185 => ?_)
              · rw [if_pos q185] at hf
                refine mG_ic (pc := 333) C dL_areVotes_333 kI0 ?_
                refine mG_is (ls' := [some (.ref p0), some (.int o6.1), none, some (.ref o10.2.2), some (.ref h14.2), none, some (.int r154), some (.int 0), none, none, none, none, none, none, none, none]) (pc := 334) C dL_areVotes_334 rfl rfl rfl ?_
                obtain ⟨r187, e188, hf⟩ := mx_bind hf
                have J189 : ∀ r232 : mxH, Sum.inl r232 = r187 → mG l Z X 16 901 4552 359 [none, none, none, none, none, none, none, none, none, none, none, none, none, none, none, none] [] r232 := by
                  intro r232 q235
                  subst q235
                  rw [Sum.elim_inl] at hf
                  refine mG_ic (pc := 359) C dL_areVotes_359 kI0 ?_
                  obtain ⟨v233, e234, hf⟩ := mx_bind hf
                  cases hf
                  exact mG_zr2 (pc := 360) C e234 E hX dL_areVotes_360 ⟨Nat.le_of_ble_eq_true rfl, Nat.le_of_ble_eq_true rfl⟩
                have J190 : ∀ r236 : mxH, Sum.inr r236 = r187 → mG l Z X 16 901 4552 420 [none, none, none, none, none, none, none, none, none, none, none, none, none, none, none, none] [] r236 := by
                  intro r236 q239
                  subst q239
                  rw [Sum.elim_inr] at hf
                  refine mG_ic (pc := 420) C dL_areVotes_420 kI1 ?_
                  obtain ⟨v237, e238, hf⟩ := mx_bind hf
                  cases hf
                  exact mG_zr2 (pc := 421) C e238 E hX dL_areVotes_421 ⟨Nat.le_of_ble_eq_true rfl, Nat.le_of_ble_eq_true rfl⟩
                refine mG_sub (ls' := [some (.ref p0), some (.int o6.1), none, none, some (.ref h14.2), none, none, some (.int 0), none, none, none, none, none, none, none, none]) (mxLe_s (mxLe_s (mxLe_n (mxLe_n (mxLe_s (mxLe_n (mxLe_n (mxLe_s (mxLe_n (mxLe_n (mxLe_n (mxLe_n (mxLe_n (mxLe_n (mxLe_n (mxLe_n mxLe_z)))))))))))))))) (mxLoop_ind (K := fun s186 : (Int32 × mxH) => mG l Z X 16 901 4552 336 [some (.ref p0), some (.int o6.1), none, none, some (.ref h14.2), none, none, some (.int s186.1), none, none, none, none, none, none, none, none] [] s186.2) ?_ _ _ e188)
                intro s186 o193 e194 hK191 hx192
                refine mG_iload (pc := 336) C dL_areVotes_336 rfl ?_
                refine mG_bp (pc := 338) C dL_areVotes_338 kB20 ?_
                refine mG_icmp_ge (pc := 340) (tgt := 420) C dL_areVotes_340 (by decide) (fun q195 => ?_) (fun q195 => ?_)
                · rw [if_pos q195] at e194
                  exact mG_sub (mxLe_n (mxLe_n (mxLe_n (mxLe_n (mxLe_n (mxLe_n (mxLe_n (mxLe_n (mxLe_n (mxLe_n (mxLe_n (mxLe_n (mxLe_n (mxLe_n (mxLe_n (mxLe_n mxLe_z)))))))))))))))) (J190 _ (hx192 _ (Option.some.inj e194).symm))
                · rw [if_neg q195] at e194
                  refine mG_aload_n (pc := 343) C dL_areVotes_343 rfl ?_
                  refine mG_aload (pc := 344) C dL_areVotes_344 rfl ?_
                  obtain ⟨u196, e197, e194⟩ := mx_bind e194
                  obtain ⟨o199, e198, e194⟩ := mx_bind e194
                  refine mG_cV2 (pc := 346) (k' := 901) (n' := 4552) (h' := s186.2) (v := some (.int o199)) 11 [.ref h14.2] [] C hX dL_areVotes_346 lkV_L_243 rfl rfl e197 (tL_swaps hl e198) rfl rfl rfl ⟨Nat.le_of_ble_eq_true rfl, Nat.le_of_ble_eq_true rfl⟩ rfl ?_
                  refine mG_aload_n (pc := 349) C dL_areVotes_349 rfl ?_
                  obtain ⟨r200, e201, e194⟩ := mx_bind e194
                  refine mG_getR (pc := 350) C dL_areVotes_350 fl_L_10 e201 ?_
                  obtain ⟨u202, e203, e194⟩ := mx_bind e194
                  obtain ⟨o205, e204, e194⟩ := mx_bind e194
                  refine mG_cV2 (pc := 353) (k' := 901) (n' := 4552) (h' := o205.2) (v := some (.int o205.1)) 9 [] [.int o199] C hX dL_areVotes_353 lkV_L_240 rfl rfl e203 (tX9_swaps hl e204) rfl rfl rfl ⟨Nat.le_of_ble_eq_true rfl, Nat.le_of_ble_eq_true rfl⟩ rfl ?_
                  refine mG_icmp_ge (pc := 356) (tgt := 361) C dL_areVotes_356 (by decide) (fun q206 => ?_) (fun q206 => ?_)
                  · rw [if_pos q206] at e194
                    refine mG_iload_n (pc := 361) C dL_areVotes_361 rfl ?_
                    refine mG_ic (pc := 362) C dL_areVotes_362 kI1 ?_
                    refine mG_isub (pc := 363) C dL_areVotes_363 ?_
                    refine mG_is (ls' := [some (.ref p0), some (.int o6.1), none, none, some (.ref h14.2), none, none, some (.int s186.1), some (.int (o6.1 - 1)), none, none, none, none, none, none, none]) (pc := 364) C dL_areVotes_364 rfl rfl rfl ?_
                    obtain ⟨r208, e209, e194⟩ := mx_bind e194
                    have J210 : ∀ r230 : mxH, r230 = r208 → mG l Z X 16 901 4552 414 [some (.ref p0), some (.int o6.1), none, none, some (.ref h14.2), none, none, some (.int s186.1), none, none, none, none, none, none, none, none] [] r230 := by
                      intro r230 q231
                      subst q231
                      refine mG_ii (ls' := [some (.ref p0), some (.int o6.1), none, none, some (.ref h14.2), none, none, some (.int (s186.1 + 1)), none, none, none, none, none, none, none, none]) (pc := 414) C dL_areVotes_414 rfl (kinc1 _) rfl rfl rfl ?_
                      refine mG_goto (tgt := 336) (pc := 417) C dL_areVotes_417 (by decide) ?_
                      exact mG_sub (mxLe_s (mxLe_s (mxLe_n (mxLe_n (mxLe_s (mxLe_n (mxLe_n (mxLe_s (mxLe_n (mxLe_n (mxLe_n (mxLe_n (mxLe_n (mxLe_n (mxLe_n (mxLe_n mxLe_z)))))))))))))))) (hK191 _ (Option.some.inj e194).symm)
                    refine mG_sub (ls' := [some (.ref p0), some (.int o6.1), none, none, some (.ref h14.2), none, none, some (.int s186.1), some (.int (o6.1 - 1)), none, none, none, none, none, none, none]) (mxLe_s (mxLe_s (mxLe_n (mxLe_n (mxLe_s (mxLe_n (mxLe_n (mxLe_s (mxLe_s (mxLe_n (mxLe_n (mxLe_n (mxLe_n (mxLe_n (mxLe_n (mxLe_n mxLe_z)))))))))))))))) (mxLoop_ind (K := fun s207 : (Int32 × mxH) => mG l Z X 16 901 4552 366 [some (.ref p0), some (.int o6.1), none, none, some (.ref h14.2), none, none, some (.int s186.1), some (.int s207.1), none, none, none, none, none, none, none] [] s207.2) ?_ _ _ e209)
                    intro s207 o213 e214 hK211 hx212
                    refine mG_iload (pc := 366) C dL_areVotes_366 rfl ?_
                    refine mG_if_le (pc := 368) (tgt := 414) C dL_areVotes_368 (by decide) (fun q215 => ?_) (fun q215 => ?_)
                    · rw [if_pos q215] at e214
                      exact mG_sub (mxLe_s (mxLe_s (mxLe_n (mxLe_n (mxLe_s (mxLe_n (mxLe_n (mxLe_s (mxLe_n (mxLe_n (mxLe_n (mxLe_n (mxLe_n (mxLe_n (mxLe_n (mxLe_n mxLe_z)))))))))))))))) (J210 _ (hx212 _ (Option.some.inj e214).symm))
                    · rw [if_neg q215] at e214
                      refine mG_aload_n (pc := 371) C dL_areVotes_371 rfl ?_
                      obtain ⟨r216, e217, e214⟩ := mx_bind e214
                      refine mG_getR (pc := 372) C dL_areVotes_372 fl_L_25 e217 ?_
                      refine mG_iload (pc := 375) C dL_areVotes_375 rfl ?_
                      refine mG_ic (pc := 377) C dL_areVotes_377 kI1 ?_
                      refine mG_iadd (pc := 378) C dL_areVotes_378 ?_
                      obtain ⟨u218, e219, e214⟩ := mx_bind e214
                      obtain ⟨o221, e220, e214⟩ := mx_bind e214
                      refine mG_cV2 (pc := 379) (k' := 901) (n' := 4552) (h' := o221.2) (v := some (.int o221.1)) 10 [.int (s207.1 + 1)] [] C hX dL_areVotes_379 lkV_L_30 rfl rfl e219 (tX10_next hl e220) rfl rfl rfl ⟨Nat.le_of_ble_eq_true rfl, Nat.le_of_ble_eq_true rfl⟩ rfl ?_
                      refine mG_is (ls' := [some (.ref p0), some (.int o6.1), none, none, some (.ref h14.2), none, none, some (.int s186.1), some (.int s207.1), some (.int o221.1), none, none, none, none, none, none]) (pc := 382) C dL_areVotes_382 rfl rfl rfl ?_
                      refine mG_aload (pc := 384) C dL_areVotes_384 rfl ?_
                      refine mG_iload (pc := 386) C dL_areVotes_386 rfl ?_
                      obtain ⟨v222, e223, e214⟩ := mx_bind e214
                      refine mG_iaload (pc := 388) C dL_areVotes_388 e223 ?_
                      refine mG_is (ls' := [some (.ref p0), some (.int o6.1), none, none, some (.ref h14.2), none, none, some (.int s186.1), some (.int s207.1), some (.int o221.1), some (.int v222), none, none, none, none, none]) (pc := 389) C dL_areVotes_389 rfl rfl rfl ?_
                      refine mG_aload (pc := 391) C dL_areVotes_391 rfl ?_
                      refine mG_iload (pc := 393) C dL_areVotes_393 rfl ?_
                      refine mG_aload (pc := 395) C dL_areVotes_395 rfl ?_
                      refine mG_iload (pc := 397) C dL_areVotes_397 rfl ?_
                      obtain ⟨v224, e225, e214⟩ := mx_bind e214
                      refine mG_iaload (pc := 399) C dL_areVotes_399 e225 ?_
                      obtain ⟨h226, e227, e214⟩ := mx_bind e214
                      refine mG_iastore (pc := 400) C dL_areVotes_400 e227 ?_
                      refine mG_aload (pc := 401) C dL_areVotes_401 rfl ?_
                      refine mG_iload (pc := 403) C dL_areVotes_403 rfl ?_
                      refine mG_iload (pc := 405) C dL_areVotes_405 rfl ?_
                      obtain ⟨h228, e229, e214⟩ := mx_bind e214
                      refine mG_iastore (pc := 407) C dL_areVotes_407 e229 ?_
                      refine mG_ii (ls' := [some (.ref p0), some (.int o6.1), none, none, some (.ref h14.2), none, none, some (.int s186.1), some (.int (s207.1 - 1)), some (.int o221.1), some (.int v222), none, none, none, none, none]) (pc := 408) C dL_areVotes_408 rfl (kincm1 _) rfl rfl rfl ?_
                      refine mG_goto (tgt := 366) (pc := 411) C dL_areVotes_411 (by decide) ?_
                      exact mG_sub (mxLe_s (mxLe_s (mxLe_n (mxLe_n (mxLe_s (mxLe_n (mxLe_n (mxLe_s (mxLe_s (mxLe_n (mxLe_n (mxLe_n (mxLe_n (mxLe_n (mxLe_n (mxLe_n mxLe_z)))))))))))))))) (hK211 _ (Option.some.inj e214).symm)
                  · rw [if_neg q206] at e194
                    exact mG_sub (mxLe_n (mxLe_n (mxLe_n (mxLe_n (mxLe_n (mxLe_n (mxLe_n (mxLe_n (mxLe_n (mxLe_n (mxLe_n (mxLe_n (mxLe_n (mxLe_n (mxLe_n (mxLe_n mxLe_z)))))))))))))))) (J189 _ (hx192 _ (Option.some.inj e194).symm))
              · rw [if_neg q185] at hf
                refine mG_ic (pc := 331) C dL_areVotes_331 kI0 ?_
                obtain ⟨v240, e241, hf⟩ := mx_bind hf
                cases hf
                exact mG_zr2 (pc := 332) C e241 E hX dL_areVotes_332 ⟨Nat.le_of_ble_eq_true rfl, Nat.le_of_ble_eq_true rfl⟩
        refine mG_sub (ls' := [some (.ref p0), some (.int o6.1), none, some (.ref o10.2.2), some (.ref h14.2), none, some (.int (-1)), some (.ref h14.2), some (.int v104), some (.int 0), none, none, none, none, none, none]) (mxLe_s (mxLe_s (mxLe_n (mxLe_s (mxLe_s (mxLe_n (mxLe_s (mxLe_s (mxLe_s (mxLe_s (mxLe_n (mxLe_n (mxLe_n (mxLe_n (mxLe_n (mxLe_n mxLe_z)))))))))))))))) (mxLoop_ind (K := fun s106 : (Int32 × Int32) => mG l Z X 16 893 4504 189 [some (.ref p0), some (.int o6.1), none, some (.ref o10.2.2), some (.ref h14.2), none, some (.int s106.1), some (.ref h14.2), some (.int v104), some (.int s106.2), none, none, none, none, none, none] [] r103) ?_ _ _ e108)
        intro s106 o112 e113 hK110 hx111
        refine mG_iload (pc := 189) C dL_areVotes_189 rfl ?_
        refine mG_iload (pc := 191) C dL_areVotes_191 rfl ?_
        refine mG_icmp_ge (pc := 193) (tgt := 288) C dL_areVotes_193 (by decide) (fun q114 => ?_) (fun q114 => ?_)
        · rw [if_pos q114] at e113
          exact mG_sub (mxLe_s (mxLe_s (mxLe_n (mxLe_s (mxLe_s (mxLe_n (mxLe_s (mxLe_n (mxLe_n (mxLe_n (mxLe_n (mxLe_n (mxLe_n (mxLe_n (mxLe_n (mxLe_n mxLe_z)))))))))))))))) (J109 _ (hx111 _ (Option.some.inj e113).symm))
        · rw [if_neg q114] at e113
          refine mG_aload (pc := 196) C dL_areVotes_196 rfl ?_
          refine mG_iload (pc := 198) C dL_areVotes_198 rfl ?_
          obtain ⟨v115, e116, e113⟩ := mx_bind e113
          refine mG_iaload (pc := 200) C dL_areVotes_200 e116 ?_
          refine mG_is (ls' := [some (.ref p0), some (.int o6.1), none, some (.ref o10.2.2), some (.ref h14.2), none, some (.int s106.1), some (.ref h14.2), some (.int v104), some (.int s106.2), some (.int v115), none, none, none, none, none]) (pc := 201) C dL_areVotes_201 rfl rfl rfl ?_
          refine mG_ic (pc := 203) C dL_areVotes_203 kI1 ?_
          refine mG_is (ls' := [some (.ref p0), some (.int o6.1), none, some (.ref o10.2.2), some (.ref h14.2), none, some (.int s106.1), some (.ref h14.2), some (.int v104), some (.int s106.2), some (.int v115), some (.int 1), none, none, none, none]) (pc := 204) C dL_areVotes_204 rfl rfl rfl ?_
          refine mG_aload (pc := 206) C dL_areVotes_206 rfl ?_
          refine mG_as (ls' := [some (.ref p0), some (.int o6.1), none, some (.ref o10.2.2), some (.ref h14.2), none, some (.int s106.1), some (.ref h14.2), some (.int v104), some (.int s106.2), some (.int v115), some (.int 1), some (.ref h14.2), none, none, none]) (pc := 208) C dL_areVotes_208 rfl rfl rfl ?_
          refine mG_aload (pc := 210) C dL_areVotes_210 rfl ?_
          obtain ⟨v117, e118, e113⟩ := mx_bind e113
          refine mG_arraylength (pc := 212) C dL_areVotes_212 e118 ?_
          refine mG_is (ls' := [some (.ref p0), some (.int o6.1), none, some (.ref o10.2.2), some (.ref h14.2), none, some (.int s106.1), some (.ref h14.2), some (.int v104), some (.int s106.2), some (.int v115), some (.int 1), some (.ref h14.2), some (.int v117), none, none]) (pc := 213) C dL_areVotes_213 rfl rfl rfl ?_
          refine mG_ic (pc := 215) C dL_areVotes_215 kI0 ?_
          refine mG_is (ls' := [some (.ref p0), some (.int o6.1), none, some (.ref o10.2.2), some (.ref h14.2), none, some (.int s106.1), some (.ref h14.2), some (.int v104), some (.int s106.2), some (.int v115), some (.int 1), some (.ref h14.2), some (.int v117), some (.int 0), none]) (pc := 216) C dL_areVotes_216 rfl rfl rfl ?_
          obtain ⟨r120, e121, e113⟩ := mx_bind e113
          have J122 : ∀ r147 : Int32, r147 = r120 → mG l Z X 16 893 4504 268 [some (.ref p0), some (.int o6.1), none, some (.ref o10.2.2), some (.ref h14.2), none, some (.int s106.1), some (.ref h14.2), some (.int v104), some (.int s106.2), some (.int v115), some (.int r147), none, none, none, none] [] r103 := by
            intro r147 q153
            subst q153
            refine mG_iload (pc := 268) C dL_areVotes_268 rfl ?_
            obtain ⟨jp150, e151, e113⟩ := mx_bind e113
            have J149 : ∀ jp150' : Int32, jp150' = jp150 → mG l Z X 16 893 4504 280 [some (.ref p0), some (.int o6.1), none, some (.ref o10.2.2), some (.ref h14.2), none, none, some (.ref h14.2), some (.int v104), some (.int s106.2), none, none, none, none, none, none] [.int jp150'] r103 := by
              intro jp150' q152
              subst q152
              refine mG_is (ls' := [some (.ref p0), some (.int o6.1), none, some (.ref o10.2.2), some (.ref h14.2), none, some (.int jp150'), some (.ref h14.2), some (.int v104), some (.int s106.2), none, none, none, none, none, none]) (pc := 280) C dL_areVotes_280 rfl rfl rfl ?_
              refine mG_ii (ls' := [some (.ref p0), some (.int o6.1), none, some (.ref o10.2.2), some (.ref h14.2), none, some (.int jp150'), some (.ref h14.2), some (.int v104), some (.int (s106.2 + 1)), none, none, none, none, none, none]) (pc := 282) C dL_areVotes_282 rfl (kinc1 _) rfl rfl rfl ?_
              refine mG_goto (tgt := 189) (pc := 285) C dL_areVotes_285 (by decide) ?_
              exact mG_sub (mxLe_s (mxLe_s (mxLe_n (mxLe_s (mxLe_s (mxLe_n (mxLe_s (mxLe_s (mxLe_s (mxLe_s (mxLe_n (mxLe_n (mxLe_n (mxLe_n (mxLe_n (mxLe_n mxLe_z)))))))))))))))) (hK110 _ (Option.some.inj e113).symm)
            refine mG_if_eq (pc := 270) (tgt := 278) C dL_areVotes_270 (by decide) (fun q148 => ?_) (fun q148 => ?_)
            · rw [if_pos q148] at e151
              refine mG_iload (pc := 278) C dL_areVotes_278 rfl ?_
              exact mG_sub (mxLe_s (mxLe_s (mxLe_n (mxLe_s (mxLe_s (mxLe_n (mxLe_n (mxLe_s (mxLe_s (mxLe_s (mxLe_n (mxLe_n (mxLe_n (mxLe_n (mxLe_n (mxLe_n mxLe_z)))))))))))))))) (J149 _ (Option.some.inj e151))
            · rw [if_neg q148] at e151
              refine mG_iload (pc := 273) C dL_areVotes_273 rfl ?_
              refine mG_goto (tgt := 280) (pc := 275) C dL_areVotes_275 (by decide) ?_
              exact mG_sub (mxLe_s (mxLe_s (mxLe_n (mxLe_s (mxLe_s (mxLe_n (mxLe_n (mxLe_s (mxLe_s (mxLe_s (mxLe_n (mxLe_n (mxLe_n (mxLe_n (mxLe_n (mxLe_n mxLe_z)))))))))))))))) (J149 _ (Option.some.inj e151))
          refine mG_sub (ls' := [some (.ref p0), some (.int o6.1), none, some (.ref o10.2.2), some (.ref h14.2), none, some (.int s106.1), some (.ref h14.2), some (.int v104), some (.int s106.2), some (.int v115), some (.int 1), some (.ref h14.2), some (.int v117), some (.int 0), none]) (mxLe_s (mxLe_s (mxLe_n (mxLe_s (mxLe_s (mxLe_n (mxLe_s (mxLe_s (mxLe_s (mxLe_s (mxLe_s (mxLe_s (mxLe_s (mxLe_s (mxLe_s (mxLe_n mxLe_z)))))))))))))))) (mxLoop_ind (K := fun s119 : (Int32 × Int32) => mG l Z X 16 893 4504 218 [some (.ref p0), some (.int o6.1), none, some (.ref o10.2.2), some (.ref h14.2), none, some (.int s106.1), some (.ref h14.2), some (.int v104), some (.int s106.2), some (.int v115), some (.int s119.1), some (.ref h14.2), some (.int v117), some (.int s119.2), none] [] r103) ?_ _ _ e121)
          intro s119 o125 e126 hK123 hx124
          refine mG_iload (pc := 218) C dL_areVotes_218 rfl ?_
          refine mG_iload (pc := 220) C dL_areVotes_220 rfl ?_
          refine mG_icmp_ge (pc := 222) (tgt := 268) C dL_areVotes_222 (by decide) (fun q127 => ?_) (fun q127 => ?_)
          · rw [if_pos q127] at e126
            exact mG_sub (mxLe_s (mxLe_s (mxLe_n (mxLe_s (mxLe_s (mxLe_n (mxLe_s (mxLe_s (mxLe_s (mxLe_s (mxLe_s (mxLe_s (mxLe_n (mxLe_n (mxLe_n (mxLe_n mxLe_z)))))))))))))))) (J122 _ (hx124 _ (Option.some.inj e126).symm))
          · rw [if_neg q127] at e126
            refine mG_aload (pc := 225) C dL_areVotes_225 rfl ?_
            refine mG_iload (pc := 227) C dL_areVotes_227 rfl ?_
            obtain ⟨v128, e129, e126⟩ := mx_bind e126
            refine mG_iaload (pc := 229) C dL_areVotes_229 e129 ?_
            refine mG_is (ls' := [some (.ref p0), some (.int o6.1), none, some (.ref o10.2.2), some (.ref h14.2), none, some (.int s106.1), some (.ref h14.2), some (.int v104), some (.int s106.2), some (.int v115), some (.int s119.1), some (.ref h14.2), some (.int v117), some (.int s119.2), some (.int v128)]) (pc := 230) C dL_areVotes_230 rfl rfl rfl ?_
            refine mG_iload (pc := 232) C dL_areVotes_232 rfl ?_
            obtain ⟨jp132, e133, e126⟩ := mx_bind e126
            have J131 : ∀ jp132' : Int32, jp132' = jp132 → mG l Z X 16 893 4504 260 [some (.ref p0), some (.int o6.1), none, some (.ref o10.2.2), some (.ref h14.2), none, some (.int s106.1), some (.ref h14.2), some (.int v104), some (.int s106.2), some (.int v115), none, some (.ref h14.2), some (.int v117), some (.int s119.2), none] [.int jp132'] r103 := by
              intro jp132' q146
              subst q146
              refine mG_is (ls' := [some (.ref p0), some (.int o6.1), none, some (.ref o10.2.2), some (.ref h14.2), none, some (.int s106.1), some (.ref h14.2), some (.int v104), some (.int s106.2), some (.int v115), some (.int jp132'), some (.ref h14.2), some (.int v117), some (.int s119.2), none]) (pc := 260) C dL_areVotes_260 rfl rfl rfl ?_
              refine mG_ii (ls' := [some (.ref p0), some (.int o6.1), none, some (.ref o10.2.2), some (.ref h14.2), none, some (.int s106.1), some (.ref h14.2), some (.int v104), some (.int s106.2), some (.int v115), some (.int jp132'), some (.ref h14.2), some (.int v117), some (.int (s119.2 + 1)), none]) (pc := 262) C dL_areVotes_262 rfl (kinc1 _) rfl rfl rfl ?_
              refine mG_goto (tgt := 218) (pc := 265) C dL_areVotes_265 (by decide) ?_
              exact mG_sub (mxLe_s (mxLe_s (mxLe_n (mxLe_s (mxLe_s (mxLe_n (mxLe_s (mxLe_s (mxLe_s (mxLe_s (mxLe_s (mxLe_s (mxLe_s (mxLe_s (mxLe_s (mxLe_n mxLe_z)))))))))))))))) (hK123 _ (Option.some.inj e126).symm)
            refine mG_if_eq (pc := 234) (tgt := 259) C dL_areVotes_234 (by decide) (fun q130 => ?_) (fun q130 => ?_)
            · rw [if_pos q130] at e133
              refine mG_ic (pc := 259) C dL_areVotes_259 kI0 ?_
              exact mG_sub (mxLe_s (mxLe_s (mxLe_n (mxLe_s (mxLe_s (mxLe_n (mxLe_s (mxLe_s (mxLe_s (mxLe_s (mxLe_s (mxLe_n (mxLe_s (mxLe_s (mxLe_s (mxLe_n mxLe_z)))))))))))))))) (J131 _ (Option.some.inj e133))
            · rw [if_neg q130] at e133
              refine mG_iload (pc := 237) C dL_areVotes_237 rfl ?_
              refine mG_iload (pc := 239) C dL_areVotes_239 rfl ?_
              refine mG_icmp_eq (pc := 241) (tgt := 255) C dL_areVotes_241 (by decide) (fun q140 => ?_) (fun q140 => ?_)
              · rw [if_pos q140] at e133
                refine mG_ic (pc := 255) C dL_areVotes_255 kI1 ?_
                refine mG_goto (tgt := 260) (pc := 256) C dL_areVotes_256 (by decide) ?_
                exact mG_sub (mxLe_s (mxLe_s (mxLe_n (mxLe_s (mxLe_s (mxLe_n (mxLe_s (mxLe_s (mxLe_s (mxLe_s (mxLe_s (mxLe_n (mxLe_s (mxLe_s (mxLe_s (mxLe_n mxLe_z)))))))))))))))) (J131 _ (Option.some.inj e133))
              · rw [if_neg q140] at e133
                refine mG_aload_n (pc := 244) C dL_areVotes_244 rfl ?_
                refine mG_iload (pc := 245) C dL_areVotes_245 rfl ?_
                refine mG_iload (pc := 247) C dL_areVotes_247 rfl ?_
                obtain ⟨u141, e142, e133⟩ := mx_bind e133
                obtain ⟨o144, e143, e133⟩ := mx_bind e133
                refine mG_cV2 (pc := 249) (k' := 893) (n' := 4504) (h' := r103) (v := some (.int o144)) 11 [.int v115, .int v128] [] C hX dL_areVotes_249 lkV_L_234 rfl rfl e142 (tL_beats hl e143) rfl rfl rfl ⟨Nat.le_of_ble_eq_true rfl, Nat.le_of_ble_eq_true rfl⟩ rfl ?_
                refine mG_if_eq (pc := 252) (tgt := 259) C dL_areVotes_252 (by decide) (fun q145 => ?_) (fun q145 => ?_)
                · rw [if_pos q145] at e133
                  refine mG_ic (pc := 259) C dL_areVotes_259 kI0 ?_
                  exact mG_sub (mxLe_s (mxLe_s (mxLe_n (mxLe_s (mxLe_s (mxLe_n (mxLe_s (mxLe_s (mxLe_s (mxLe_s (mxLe_s (mxLe_n (mxLe_s (mxLe_s (mxLe_s (mxLe_n mxLe_z)))))))))))))))) (J131 _ (Option.some.inj e133))
                · rw [if_neg q145] at e133
                  refine mG_ic (pc := 255) C dL_areVotes_255 kI1 ?_
                  refine mG_goto (tgt := 260) (pc := 256) C dL_areVotes_256 (by decide) ?_
                  exact mG_sub (mxLe_s (mxLe_s (mxLe_n (mxLe_s (mxLe_s (mxLe_n (mxLe_s (mxLe_s (mxLe_s (mxLe_s (mxLe_s (mxLe_n (mxLe_s (mxLe_s (mxLe_s (mxLe_n mxLe_z)))))))))))))))) (J131 _ (Option.some.inj e133))
      refine mG_sub (ls' := [some (.ref p0), some (.int o6.1), none, some (.ref o10.2.2), some (.ref h14.2), some (.int 0), some (.int 0), none, none, none, none, none, none, none, none, none]) (mxLe_s (mxLe_s (mxLe_n (mxLe_s (mxLe_s (mxLe_s (mxLe_s (mxLe_n (mxLe_n (mxLe_n (mxLe_n (mxLe_n (mxLe_n (mxLe_n (mxLe_n (mxLe_n mxLe_z)))))))))))))))) (mxLoop_ind (K := fun s58 : (Int32 × Int32 × mxH) => mG l Z X 16 893 4504 71 [some (.ref p0), some (.int o6.1), none, some (.ref o10.2.2), some (.ref h14.2), some (.int s58.1), some (.int s58.2.1), none, none, none, none, none, none, none, none, none] [] s58.2.2) ?_ _ _ e60)
      intro s58 o65 e66 hK63 hx64
      refine mG_iload (pc := 71) C dL_areVotes_71 rfl ?_
      refine mG_bp (pc := 73) C dL_areVotes_73 kB20 ?_
      refine mG_icmp_ge (pc := 75) (tgt := 174) C dL_areVotes_75 (by decide) (fun q67 => ?_) (fun q67 => ?_)
      · rw [if_pos q67] at e66
        exact mG_sub (mxLe_s (mxLe_s (mxLe_n (mxLe_s (mxLe_s (mxLe_n (mxLe_n (mxLe_n (mxLe_n (mxLe_n (mxLe_n (mxLe_n (mxLe_n (mxLe_n (mxLe_n (mxLe_n mxLe_z)))))))))))))))) (J62 _ (hx64 _ (Option.some.inj e66).symm))
      · rw [if_neg q67] at e66
        refine mG_iload (pc := 78) C dL_areVotes_78 rfl ?_
        refine mG_iload_n (pc := 80) C dL_areVotes_80 rfl ?_
        refine mG_icmp_ge (pc := 81) (tgt := 174) C dL_areVotes_81 (by decide) (fun q68 => ?_) (fun q68 => ?_)
        · rw [if_pos q68] at e66
          exact mG_sub (mxLe_s (mxLe_s (mxLe_n (mxLe_s (mxLe_s (mxLe_n (mxLe_n (mxLe_n (mxLe_n (mxLe_n (mxLe_n (mxLe_n (mxLe_n (mxLe_n (mxLe_n (mxLe_n mxLe_z)))))))))))))))) (J62 _ (hx64 _ (Option.some.inj e66).symm))
        · rw [if_neg q68] at e66
          refine mG_aload_n (pc := 84) C dL_areVotes_84 rfl ?_
          refine mG_iload (pc := 85) C dL_areVotes_85 rfl ?_
          refine mG_bp (pc := 87) C dL_areVotes_87 kB20 ?_
          obtain ⟨u69, e70, e66⟩ := mx_bind e66
          obtain ⟨o72, e71, e66⟩ := mx_bind e66
          refine mG_cV2 (pc := 89) (k' := 893) (n' := 4504) (h' := s58.2.2) (v := some (.int o72)) 11 [.int s58.2.1, .int 20] [] C hX dL_areVotes_89 lkV_L_86 rfl rfl e70 (tL_isReadAt hl e71) rfl rfl rfl ⟨Nat.le_of_ble_eq_true rfl, Nat.le_of_ble_eq_true rfl⟩ rfl ?_
          refine mG_if_ne (pc := 92) (tgt := 98) C dL_areVotes_92 (by decide) (fun q73 => ?_) (fun q73 => ?_)
          · rw [if_neg q73] at e66
            refine mG_aload (pc := 98) C dL_areVotes_98 rfl ?_
            refine mG_iload (pc := 100) C dL_areVotes_100 rfl ?_
            refine mG_ii (ls' := [some (.ref p0), some (.int o6.1), none, some (.ref o10.2.2), some (.ref h14.2), some (.int (s58.1 + 1)), some (.int s58.2.1), none, none, none, none, none, none, none, none, none]) (pc := 102) C dL_areVotes_102 rfl (kinc1 _) rfl rfl rfl ?_
            refine mG_iload (pc := 105) C dL_areVotes_105 rfl ?_
            obtain ⟨h74, e75, e66⟩ := mx_bind e66
            refine mG_iastore (pc := 107) C dL_areVotes_107 e75 ?_
            refine mG_ic (pc := 108) C dL_areVotes_108 kI0 ?_
            refine mG_is (ls' := [some (.ref p0), some (.int o6.1), none, some (.ref o10.2.2), some (.ref h14.2), some (.int (s58.1 + 1)), some (.int s58.2.1), some (.int 0), none, none, none, none, none, none, none, none]) (pc := 109) C dL_areVotes_109 rfl rfl rfl ?_
            refine mG_aload_n (pc := 111) C dL_areVotes_111 rfl ?_
            refine mG_as (ls' := [some (.ref p0), some (.int o6.1), none, some (.ref o10.2.2), some (.ref h14.2), some (.int (s58.1 + 1)), some (.int s58.2.1), some (.int 0), some (.ref o10.2.2), none, none, none, none, none, none, none]) (pc := 112) C dL_areVotes_112 rfl rfl rfl ?_
            refine mG_aload (pc := 114) C dL_areVotes_114 rfl ?_
            obtain ⟨v76, e77, e66⟩ := mx_bind e66
            refine mG_arraylength (pc := 116) C dL_areVotes_116 e77 ?_
            refine mG_is (ls' := [some (.ref p0), some (.int o6.1), none, some (.ref o10.2.2), some (.ref h14.2), some (.int (s58.1 + 1)), some (.int s58.2.1), some (.int 0), some (.ref o10.2.2), some (.int v76), none, none, none, none, none, none]) (pc := 117) C dL_areVotes_117 rfl rfl rfl ?_
            refine mG_ic (pc := 119) C dL_areVotes_119 kI0 ?_
            refine mG_is (ls' := [some (.ref p0), some (.int o6.1), none, some (.ref o10.2.2), some (.ref h14.2), some (.int (s58.1 + 1)), some (.int s58.2.1), some (.int 0), some (.ref o10.2.2), some (.int v76), some (.int 0), none, none, none, none, none]) (pc := 120) C dL_areVotes_120 rfl rfl rfl ?_
            obtain ⟨r79, e80, e66⟩ := mx_bind e66
            have J81 : ∀ r96 : Int32, r96 = r79 → mG l Z X 16 893 4504 161 [some (.ref p0), some (.int o6.1), none, some (.ref o10.2.2), some (.ref h14.2), some (.int (s58.1 + 1)), some (.int s58.2.1), some (.int r96), none, none, none, none, none, none, none, none] [] h74 := by
              intro r96 q98
              subst q98
              refine mG_iload (pc := 161) C dL_areVotes_161 rfl ?_
              refine mG_if_ne (pc := 163) (tgt := 168) C dL_areVotes_163 (by decide) (fun q97 => ?_) (fun q97 => ?_)
              · rw [if_neg q97] at e66
                refine mG_ii (ls' := [some (.ref p0), some (.int o6.1), none, some (.ref o10.2.2), some (.ref h14.2), some (.int (s58.1 + 1)), some (.int (s58.2.1 + 1)), some (.int r96), none, none, none, none, none, none, none, none]) (pc := 168) C dL_areVotes_168 rfl (kinc1 _) rfl rfl rfl ?_
                refine mG_goto (tgt := 71) (pc := 171) C dL_areVotes_171 (by decide) ?_
                exact mG_sub (mxLe_s (mxLe_s (mxLe_n (mxLe_s (mxLe_s (mxLe_s (mxLe_s (mxLe_n (mxLe_n (mxLe_n (mxLe_n (mxLe_n (mxLe_n (mxLe_n (mxLe_n (mxLe_n mxLe_z)))))))))))))))) (hK63 _ (Option.some.inj e66).symm)
              · rw [if_pos q97] at e66
                exact mG_sub (mxLe_n (mxLe_n (mxLe_n (mxLe_n (mxLe_n (mxLe_n (mxLe_n (mxLe_n (mxLe_n (mxLe_n (mxLe_n (mxLe_n (mxLe_n (mxLe_n (mxLe_n (mxLe_n mxLe_z)))))))))))))))) (J61 _ (hx64 _ (Option.some.inj e66).symm))
            refine mG_sub (ls' := [some (.ref p0), some (.int o6.1), none, some (.ref o10.2.2), some (.ref h14.2), some (.int (s58.1 + 1)), some (.int s58.2.1), some (.int 0), some (.ref o10.2.2), some (.int v76), some (.int 0), none, none, none, none, none]) (mxLe_s (mxLe_s (mxLe_n (mxLe_s (mxLe_s (mxLe_s (mxLe_s (mxLe_s (mxLe_s (mxLe_s (mxLe_s (mxLe_n (mxLe_n (mxLe_n (mxLe_n (mxLe_n mxLe_z)))))))))))))))) (mxLoop_ind (K := fun s78 : (Int32 × Int32) => mG l Z X 16 893 4504 122 [some (.ref p0), some (.int o6.1), none, some (.ref o10.2.2), some (.ref h14.2), some (.int (s58.1 + 1)), some (.int s58.2.1), some (.int s78.1), some (.ref o10.2.2), some (.int v76), some (.int s78.2), none, none, none, none, none] [] h74) ?_ _ _ e80)
            intro s78 o84 e85 hK82 hx83
            refine mG_iload (pc := 122) C dL_areVotes_122 rfl ?_
            refine mG_iload (pc := 124) C dL_areVotes_124 rfl ?_
            refine mG_icmp_ge (pc := 126) (tgt := 161) C dL_areVotes_126 (by decide) (fun q86 => ?_) (fun q86 => ?_)
            · rw [if_pos q86] at e85
              exact mG_sub (mxLe_s (mxLe_s (mxLe_n (mxLe_s (mxLe_s (mxLe_s (mxLe_s (mxLe_s (mxLe_n (mxLe_n (mxLe_n (mxLe_n (mxLe_n (mxLe_n (mxLe_n (mxLe_n mxLe_z)))))))))))))))) (J81 _ (hx83 _ (Option.some.inj e85).symm))
            · rw [if_neg q86] at e85
              refine mG_aload (pc := 129) C dL_areVotes_129 rfl ?_
              refine mG_iload (pc := 131) C dL_areVotes_131 rfl ?_
              obtain ⟨v87, e88, e85⟩ := mx_bind e85
              refine mG_iaload (pc := 133) C dL_areVotes_133 e88 ?_
              refine mG_is (ls' := [some (.ref p0), some (.int o6.1), none, some (.ref o10.2.2), some (.ref h14.2), some (.int (s58.1 + 1)), some (.int s58.2.1), some (.int s78.1), some (.ref o10.2.2), some (.int v76), some (.int s78.2), some (.int v87), none, none, none, none]) (pc := 134) C dL_areVotes_134 rfl rfl rfl ?_
              refine mG_iload (pc := 136) C dL_areVotes_136 rfl ?_
              obtain ⟨jp91, e92, e85⟩ := mx_bind e85
              have J90 : ∀ jp91' : Int32, jp91' = jp91 → mG l Z X 16 893 4504 153 [some (.ref p0), some (.int o6.1), none, some (.ref o10.2.2), some (.ref h14.2), some (.int (s58.1 + 1)), some (.int s58.2.1), none, some (.ref o10.2.2), some (.int v76), some (.int s78.2), none, none, none, none, none] [.int jp91'] h74 := by
                intro jp91' q95
                subst q95
                refine mG_is (ls' := [some (.ref p0), some (.int o6.1), none, some (.ref o10.2.2), some (.ref h14.2), some (.int (s58.1 + 1)), some (.int s58.2.1), some (.int jp91'), some (.ref o10.2.2), some (.int v76), some (.int s78.2), none, none, none, none, none]) (pc := 153) C dL_areVotes_153 rfl rfl rfl ?_
                refine mG_ii (ls' := [some (.ref p0), some (.int o6.1), none, some (.ref o10.2.2), some (.ref h14.2), some (.int (s58.1 + 1)), some (.int s58.2.1), some (.int jp91'), some (.ref o10.2.2), some (.int v76), some (.int (s78.2 + 1)), none, none, none, none, none]) (pc := 155) C dL_areVotes_155 rfl (kinc1 _) rfl rfl rfl ?_
                refine mG_goto (tgt := 122) (pc := 158) C dL_areVotes_158 (by decide) ?_
                exact mG_sub (mxLe_s (mxLe_s (mxLe_n (mxLe_s (mxLe_s (mxLe_s (mxLe_s (mxLe_s (mxLe_s (mxLe_s (mxLe_s (mxLe_n (mxLe_n (mxLe_n (mxLe_n (mxLe_n mxLe_z)))))))))))))))) (hK82 _ (Option.some.inj e85).symm)
              refine mG_if_ne (pc := 138) (tgt := 148) C dL_areVotes_138 (by decide) (fun q89 => ?_) (fun q89 => ?_)
              · rw [if_neg q89] at e92
                refine mG_ic (pc := 148) C dL_areVotes_148 kI1 ?_
                refine mG_goto (tgt := 153) (pc := 149) C dL_areVotes_149 (by decide) ?_
                exact mG_sub (mxLe_s (mxLe_s (mxLe_n (mxLe_s (mxLe_s (mxLe_s (mxLe_s (mxLe_n (mxLe_s (mxLe_s (mxLe_s (mxLe_n (mxLe_n (mxLe_n (mxLe_n (mxLe_n mxLe_z)))))))))))))))) (J90 _ (Option.some.inj e92))
              · rw [if_pos q89] at e92
                refine mG_iload (pc := 141) C dL_areVotes_141 rfl ?_
                refine mG_iload (pc := 143) C dL_areVotes_143 rfl ?_
                refine mG_icmp_ne (pc := 145) (tgt := 152) C dL_areVotes_145 (by decide) (fun q94 => ?_) (fun q94 => ?_)
                · rw [if_neg q94] at e92
                  refine mG_ic (pc := 152) C dL_areVotes_152 kI0 ?_
                  exact mG_sub (mxLe_s (mxLe_s (mxLe_n (mxLe_s (mxLe_s (mxLe_s (mxLe_s (mxLe_n (mxLe_s (mxLe_s (mxLe_s (mxLe_n (mxLe_n (mxLe_n (mxLe_n (mxLe_n mxLe_z)))))))))))))))) (J90 _ (Option.some.inj e92))
                · rw [if_pos q94] at e92
                  refine mG_ic (pc := 148) C dL_areVotes_148 kI1 ?_
                  refine mG_goto (tgt := 153) (pc := 149) C dL_areVotes_149 (by decide) ?_
                  exact mG_sub (mxLe_s (mxLe_s (mxLe_n (mxLe_s (mxLe_s (mxLe_s (mxLe_s (mxLe_n (mxLe_s (mxLe_s (mxLe_s (mxLe_n (mxLe_n (mxLe_n (mxLe_n (mxLe_n mxLe_z)))))))))))))))) (J90 _ (Option.some.inj e92))
          · rw [if_pos q73] at e66
            refine mG_goto (tgt := 168) (pc := 95) C dL_areVotes_95 (by decide) ?_
            refine mG_ii (ls' := [some (.ref p0), some (.int o6.1), none, some (.ref o10.2.2), some (.ref h14.2), some (.int s58.1), some (.int (s58.2.1 + 1)), none, none, none, none, none, none, none, none, none]) (pc := 168) C dL_areVotes_168 rfl (kinc1 _) rfl rfl rfl ?_
            refine mG_goto (tgt := 71) (pc := 171) C dL_areVotes_171 (by decide) ?_
            exact mG_sub (mxLe_s (mxLe_s (mxLe_n (mxLe_s (mxLe_s (mxLe_s (mxLe_s (mxLe_n (mxLe_n (mxLe_n (mxLe_n (mxLe_n (mxLe_n (mxLe_n (mxLe_n (mxLe_n mxLe_z)))))))))))))))) (hK63 _ (Option.some.inj e66).symm)
    refine mG_sub (ls' := [some (.ref p0), some (.int o6.1), none, some (.ref o10.2.2), some (.ref h14.2), some (.int 0), none, none, none, none, none, none, none, none, none, none]) (mxLe_s (mxLe_s (mxLe_n (mxLe_s (mxLe_s (mxLe_s (mxLe_n (mxLe_n (mxLe_n (mxLe_n (mxLe_n (mxLe_n (mxLe_n (mxLe_n (mxLe_n (mxLe_n mxLe_z)))))))))))))))) (mxLoop_indN (K := fun (N38 : Nat) (s35 : (Int32 × mxH)) => ∀ k36 n37 : Nat, k36 + 1 * N38 ≤ 886 + 1 * 7 → n37 + 6 * N38 ≤ 4462 + 6 * 7 → mG l Z X 16 k36 n37 40 [some (.ref p0), some (.int o6.1), none, some (.ref o10.2.2), some (.ref h14.2), some (.int s35.1), none, none, none, none, none, none, none, none, none, none] [] s35.2) ?_ _ _ e43 _ _ (Nat.le_refl _) (Nat.le_refl _))
    intro N38 s35 o44 e45 hK40 hx41 k36 n37 hk46 hn47
    refine mG_iload (pc := 40) C dL_areVotes_40 rfl ?_
    refine mG_iload_n (pc := 42) C dL_areVotes_42 rfl ?_
    refine mG_icmp_ge (pc := 43) (tgt := 65) C dL_areVotes_43 (by decide) (fun q48 => ?_) (fun q48 => ?_)
    · rw [if_pos q48] at e45
      exact mG_wd (by omega) (by omega) (mG_sub (mxLe_s (mxLe_s (mxLe_n (mxLe_s (mxLe_s (mxLe_n (mxLe_n (mxLe_n (mxLe_n (mxLe_n (mxLe_n (mxLe_n (mxLe_n (mxLe_n (mxLe_n (mxLe_n mxLe_z)))))))))))))))) (J39 _ (hx41 _ (Option.some.inj e45).symm)))
    · rw [if_neg q48] at e45
      refine mG_aload_n (pc := 46) C dL_areVotes_46 rfl ?_
      refine mG_iload (pc := 47) C dL_areVotes_47 rfl ?_
      refine mG_aload_n (pc := 49) C dL_areVotes_49 rfl ?_
      obtain ⟨r49, e50, e45⟩ := mx_bind e45
      refine mG_getR (pc := 50) C dL_areVotes_50 fl_L_10 e50 ?_
      refine mG_iload (pc := 53) C dL_areVotes_53 rfl ?_
      obtain ⟨u51, e52, e45⟩ := mx_bind e45
      obtain ⟨o54, e53, e45⟩ := mx_bind e45
      refine mG_cV2 (pc := 55) (k' := (k36 + 1)) (n' := (n37 + 6)) (h' := o54.2) (v := some (.int o54.1)) 9 [.int s35.1] [.int s35.1, .ref o10.2.2] C hX dL_areVotes_55 lkV_L_231 rfl rfl e52 (tX9_orderAt hl (mxOk_some e53)) rfl (by show k36 + 1 = (k36 + 1); omega) (by show n37 + 6 = (n37 + 6); omega) ⟨by show (k36 + 1) ≤ 901; omega, by show (n37 + 6) ≤ 4552; omega⟩ rfl ?_
      obtain ⟨h55, e56, e45⟩ := mx_bind e45
      refine mG_iastore (pc := 58) C dL_areVotes_58 e56 ?_
      refine mG_ii (ls' := [some (.ref p0), some (.int o6.1), none, some (.ref o10.2.2), some (.ref h14.2), some (.int (s35.1 + 1)), none, none, none, none, none, none, none, none, none, none]) (pc := 59) C dL_areVotes_59 rfl (kinc1 _) rfl rfl rfl ?_
      refine mG_goto (tgt := 40) (pc := 62) C dL_areVotes_62 (by decide) ?_
      exact mG_sub (mxLe_s (mxLe_s (mxLe_n (mxLe_s (mxLe_s (mxLe_s (mxLe_n (mxLe_n (mxLe_n (mxLe_n (mxLe_n (mxLe_n (mxLe_n (mxLe_n (mxLe_n (mxLe_n mxLe_z)))))))))))))))) (hK40 _ (Option.some.inj e45).symm _ _ (by omega) (by omega))
  · rw [if_neg q13] at hf
    refine mG_ic (pc := 26) C dL_areVotes_26 kI0 ?_
    obtain ⟨v245, e246, hf⟩ := mx_bind hf
    cases hf
    exact mG_zr2 (pc := 27) C e246 E hX dL_areVotes_27 ⟨Nat.le_of_ble_eq_true rfl, Nat.le_of_ble_eq_true rfl⟩
theorem dL_comeBy_0 : decode cL_comeBy 0 = .ok (.iconst 1, 1) := by decide +kernel
theorem dL_comeBy_1 : decode cL_comeBy 1 = .ok (.aload_n 0, 1) := by decide +kernel
theorem dL_comeBy_2 : decode cL_comeBy 2 = .ok (.getfield 25, 3) := by decide +kernel
theorem dL_comeBy_5 : decode cL_comeBy 5 = .ok (.bipush 10, 2) := by decide +kernel
theorem dL_comeBy_7 : decode cL_comeBy 7 = .ok (.invokevirtual 30, 3) := by decide +kernel
theorem dL_comeBy_10 : decode cL_comeBy 10 = .ok (.iadd, 1) := by decide +kernel
theorem dL_comeBy_11 : decode cL_comeBy 11 = .ok (.istore_n 1, 1) := by decide +kernel
theorem dL_comeBy_12 : decode cL_comeBy 12 = .ok (.iconst 1, 1) := by decide +kernel
theorem dL_comeBy_13 : decode cL_comeBy 13 = .ok (.aload_n 0, 1) := by decide +kernel
theorem dL_comeBy_14 : decode cL_comeBy 14 = .ok (.getfield 25, 3) := by decide +kernel
theorem dL_comeBy_17 : decode cL_comeBy 17 = .ok (.iconst 4, 1) := by decide +kernel
theorem dL_comeBy_18 : decode cL_comeBy 18 = .ok (.invokevirtual 30, 3) := by decide +kernel
theorem dL_comeBy_21 : decode cL_comeBy 21 = .ok (.iadd, 1) := by decide +kernel
theorem dL_comeBy_22 : decode cL_comeBy 22 = .ok (.istore_n 2, 1) := by decide +kernel
theorem dL_comeBy_23 : decode cL_comeBy 23 = .ok (.aload_n 0, 1) := by decide +kernel
theorem dL_comeBy_24 : decode cL_comeBy 24 = .ok (.getfield 10, 3) := by decide +kernel
theorem dL_comeBy_27 : decode cL_comeBy 27 = .ok (.iload_n 1, 1) := by decide +kernel
theorem dL_comeBy_28 : decode cL_comeBy 28 = .ok (.iload_n 2, 1) := by decide +kernel
theorem dL_comeBy_29 : decode cL_comeBy 29 = .ok (.invokevirtual 250, 3) := by decide +kernel
theorem dL_comeBy_32 : decode cL_comeBy 32 = .ok (.ifCond .eq 5, 3) := by decide +kernel
theorem dL_comeBy_35 : decode cL_comeBy 35 = .ok (.iconst 0, 1) := by decide +kernel
theorem dL_comeBy_36 : decode cL_comeBy 36 = .ok (.ireturn, 1) := by decide +kernel
theorem dL_comeBy_37 : decode cL_comeBy 37 = .ok (.aload_n 0, 1) := by decide +kernel
theorem dL_comeBy_38 : decode cL_comeBy 38 = .ok (.getfield 25, 3) := by decide +kernel
theorem dL_comeBy_41 : decode cL_comeBy 41 = .ok (.bipush 26, 2) := by decide +kernel
theorem dL_comeBy_43 : decode cL_comeBy 43 = .ok (.invokevirtual 30, 3) := by decide +kernel
theorem dL_comeBy_46 : decode cL_comeBy 46 = .ok (.istore_n 3, 1) := by decide +kernel
theorem dL_comeBy_47 : decode cL_comeBy 47 = .ok (.iconst 2, 1) := by decide +kernel
theorem dL_comeBy_48 : decode cL_comeBy 48 = .ok (.aload_n 0, 1) := by decide +kernel
theorem dL_comeBy_49 : decode cL_comeBy 49 = .ok (.getfield 25, 3) := by decide +kernel
theorem dL_comeBy_52 : decode cL_comeBy 52 = .ok (.bipush 7, 2) := by decide +kernel
theorem dL_comeBy_54 : decode cL_comeBy 54 = .ok (.invokevirtual 30, 3) := by decide +kernel
theorem dL_comeBy_57 : decode cL_comeBy 57 = .ok (.iadd, 1) := by decide +kernel
theorem dL_comeBy_58 : decode cL_comeBy 58 = .ok (.istore 4, 2) := by decide +kernel
theorem dL_comeBy_60 : decode cL_comeBy 60 = .ok (.iload_n 3, 1) := by decide +kernel
theorem dL_comeBy_61 : decode cL_comeBy 61 = .ok (.newarray .int, 2) := by decide +kernel
theorem dL_comeBy_63 : decode cL_comeBy 63 = .ok (.astore 5, 2) := by decide +kernel
theorem dL_comeBy_65 : decode cL_comeBy 65 = .ok (.iconst 0, 1) := by decide +kernel
theorem dL_comeBy_66 : decode cL_comeBy 66 = .ok (.istore 6, 2) := by decide +kernel
theorem dL_comeBy_68 : decode cL_comeBy 68 = .ok (.iload 6, 2) := by decide +kernel
theorem dL_comeBy_70 : decode cL_comeBy 70 = .ok (.iload_n 3, 1) := by decide +kernel
theorem dL_comeBy_71 : decode cL_comeBy 71 = .ok (.if_icmp .ge 57, 3) := by decide +kernel
theorem dL_comeBy_74 : decode cL_comeBy 74 = .ok (.aload 5, 2) := by decide +kernel
theorem dL_comeBy_76 : decode cL_comeBy 76 = .ok (.iload 6, 2) := by decide +kernel
theorem dL_comeBy_78 : decode cL_comeBy 78 = .ok (.aload_n 0, 1) := by decide +kernel
theorem dL_comeBy_79 : decode cL_comeBy 79 = .ok (.getfield 25, 3) := by decide +kernel
theorem dL_comeBy_82 : decode cL_comeBy 82 = .ok (.iload 4, 2) := by decide +kernel
theorem dL_comeBy_84 : decode cL_comeBy 84 = .ok (.invokevirtual 30, 3) := by decide +kernel
theorem dL_comeBy_87 : decode cL_comeBy 87 = .ok (.iastore, 1) := by decide +kernel
theorem dL_comeBy_88 : decode cL_comeBy 88 = .ok (.aload_n 0, 1) := by decide +kernel
theorem dL_comeBy_89 : decode cL_comeBy 89 = .ok (.getfield 10, 3) := by decide +kernel
theorem dL_comeBy_92 : decode cL_comeBy 92 = .ok (.aload 5, 2) := by decide +kernel
theorem dL_comeBy_94 : decode cL_comeBy 94 = .ok (.iload 6, 2) := by decide +kernel
theorem dL_comeBy_96 : decode cL_comeBy 96 = .ok (.iaload, 1) := by decide +kernel
theorem dL_comeBy_97 : decode cL_comeBy 97 = .ok (.invokevirtual 253, 3) := by decide +kernel
theorem dL_comeBy_100 : decode cL_comeBy 100 = .ok (.iload 6, 2) := by decide +kernel
theorem dL_comeBy_102 : decode cL_comeBy 102 = .ok (.iload_n 1, 1) := by decide +kernel
theorem dL_comeBy_103 : decode cL_comeBy 103 = .ok (.if_icmp .ge 7, 3) := by decide +kernel
theorem dL_comeBy_106 : decode cL_comeBy 106 = .ok (.iconst (-1), 1) := by decide +kernel
theorem dL_comeBy_107 : decode cL_comeBy 107 = .ok (.goto 10, 3) := by decide +kernel
theorem dL_comeBy_110 : decode cL_comeBy 110 = .ok (.aload 5, 2) := by decide +kernel
theorem dL_comeBy_112 : decode cL_comeBy 112 = .ok (.iload 6, 2) := by decide +kernel
theorem dL_comeBy_114 : decode cL_comeBy 114 = .ok (.iload_n 1, 1) := by decide +kernel
theorem dL_comeBy_115 : decode cL_comeBy 115 = .ok (.isub, 1) := by decide +kernel
theorem dL_comeBy_116 : decode cL_comeBy 116 = .ok (.iaload, 1) := by decide +kernel
theorem dL_comeBy_117 : decode cL_comeBy 117 = .ok (.if_icmp .eq 5, 3) := by decide +kernel
theorem dL_comeBy_120 : decode cL_comeBy 120 = .ok (.iconst 0, 1) := by decide +kernel
theorem dL_comeBy_121 : decode cL_comeBy 121 = .ok (.ireturn, 1) := by decide +kernel
theorem dL_comeBy_122 : decode cL_comeBy 122 = .ok (.iinc 6 1, 3) := by decide +kernel
theorem dL_comeBy_125 : decode cL_comeBy 125 = .ok (.goto (-57), 3) := by decide +kernel
theorem dL_comeBy_128 : decode cL_comeBy 128 = .ok (.iload_n 3, 1) := by decide +kernel
theorem dL_comeBy_129 : decode cL_comeBy 129 = .ok (.iload_n 1, 1) := by decide +kernel
theorem dL_comeBy_130 : decode cL_comeBy 130 = .ok (.invokestatic 72, 3) := by decide +kernel
theorem dL_comeBy_133 : decode cL_comeBy 133 = .ok (.newarray .int, 2) := by decide +kernel
theorem dL_comeBy_135 : decode cL_comeBy 135 = .ok (.astore 6, 2) := by decide +kernel
theorem dL_comeBy_137 : decode cL_comeBy 137 = .ok (.iconst 0, 1) := by decide +kernel
theorem dL_comeBy_138 : decode cL_comeBy 138 = .ok (.istore 7, 2) := by decide +kernel
theorem dL_comeBy_140 : decode cL_comeBy 140 = .ok (.iload 7, 2) := by decide +kernel
theorem dL_comeBy_142 : decode cL_comeBy 142 = .ok (.aload 6, 2) := by decide +kernel
theorem dL_comeBy_144 : decode cL_comeBy 144 = .ok (.arraylength, 1) := by decide +kernel
theorem dL_comeBy_145 : decode cL_comeBy 145 = .ok (.if_icmp .ge 23, 3) := by decide +kernel
theorem dL_comeBy_148 : decode cL_comeBy 148 = .ok (.aload 6, 2) := by decide +kernel
theorem dL_comeBy_150 : decode cL_comeBy 150 = .ok (.iload 7, 2) := by decide +kernel
theorem dL_comeBy_152 : decode cL_comeBy 152 = .ok (.aload 5, 2) := by decide +kernel
theorem dL_comeBy_154 : decode cL_comeBy 154 = .ok (.iload_n 3, 1) := by decide +kernel
theorem dL_comeBy_155 : decode cL_comeBy 155 = .ok (.iconst 1, 1) := by decide +kernel
theorem dL_comeBy_156 : decode cL_comeBy 156 = .ok (.isub, 1) := by decide +kernel
theorem dL_comeBy_157 : decode cL_comeBy 157 = .ok (.iload 7, 2) := by decide +kernel
theorem dL_comeBy_159 : decode cL_comeBy 159 = .ok (.isub, 1) := by decide +kernel
theorem dL_comeBy_160 : decode cL_comeBy 160 = .ok (.iaload, 1) := by decide +kernel
theorem dL_comeBy_161 : decode cL_comeBy 161 = .ok (.iastore, 1) := by decide +kernel
theorem dL_comeBy_162 : decode cL_comeBy 162 = .ok (.iinc 7 1, 3) := by decide +kernel
theorem dL_comeBy_165 : decode cL_comeBy 165 = .ok (.goto (-25), 3) := by decide +kernel
theorem dL_comeBy_168 : decode cL_comeBy 168 = .ok (.aload 6, 2) := by decide +kernel
theorem dL_comeBy_170 : decode cL_comeBy 170 = .ok (.invokestatic 176, 3) := by decide +kernel
theorem dL_comeBy_173 : decode cL_comeBy 173 = .ok (.iconst 0, 1) := by decide +kernel
theorem dL_comeBy_174 : decode cL_comeBy 174 = .ok (.istore 7, 2) := by decide +kernel
theorem dL_comeBy_176 : decode cL_comeBy 176 = .ok (.iconst 0, 1) := by decide +kernel
theorem dL_comeBy_177 : decode cL_comeBy 177 = .ok (.istore 8, 2) := by decide +kernel
theorem dL_comeBy_179 : decode cL_comeBy 179 = .ok (.iload 8, 2) := by decide +kernel
theorem dL_comeBy_181 : decode cL_comeBy 181 = .ok (.aload 6, 2) := by decide +kernel
theorem dL_comeBy_183 : decode cL_comeBy 183 = .ok (.arraylength, 1) := by decide +kernel
theorem dL_comeBy_184 : decode cL_comeBy 184 = .ok (.if_icmp .ge 64, 3) := by decide +kernel
theorem dL_comeBy_187 : decode cL_comeBy 187 = .ok (.aload_n 0, 1) := by decide +kernel
theorem dL_comeBy_188 : decode cL_comeBy 188 = .ok (.getfield 10, 3) := by decide +kernel
theorem dL_comeBy_191 : decode cL_comeBy 191 = .ok (.iload 8, 2) := by decide +kernel
theorem dL_comeBy_193 : decode cL_comeBy 193 = .ok (.invokevirtual 256, 3) := by decide +kernel
theorem dL_comeBy_196 : decode cL_comeBy 196 = .ok (.aload 6, 2) := by decide +kernel
theorem dL_comeBy_198 : decode cL_comeBy 198 = .ok (.aload 6, 2) := by decide +kernel
theorem dL_comeBy_200 : decode cL_comeBy 200 = .ok (.arraylength, 1) := by decide +kernel
theorem dL_comeBy_201 : decode cL_comeBy 201 = .ok (.iconst 1, 1) := by decide +kernel
theorem dL_comeBy_202 : decode cL_comeBy 202 = .ok (.isub, 1) := by decide +kernel
theorem dL_comeBy_203 : decode cL_comeBy 203 = .ok (.iload 8, 2) := by decide +kernel
theorem dL_comeBy_205 : decode cL_comeBy 205 = .ok (.isub, 1) := by decide +kernel
theorem dL_comeBy_206 : decode cL_comeBy 206 = .ok (.iaload, 1) := by decide +kernel
theorem dL_comeBy_207 : decode cL_comeBy 207 = .ok (.if_icmp .eq 5, 3) := by decide +kernel
theorem dL_comeBy_210 : decode cL_comeBy 210 = .ok (.iconst 0, 1) := by decide +kernel
theorem dL_comeBy_211 : decode cL_comeBy 211 = .ok (.ireturn, 1) := by decide +kernel
theorem dL_comeBy_212 : decode cL_comeBy 212 = .ok (.iload 7, 2) := by decide +kernel
theorem dL_comeBy_214 : decode cL_comeBy 214 = .ok (.iload 8, 2) := by decide +kernel
theorem dL_comeBy_216 : decode cL_comeBy 216 = .ok (.ifCond .eq 18, 3) := by decide +kernel
theorem dL_comeBy_219 : decode cL_comeBy 219 = .ok (.aload 6, 2) := by decide +kernel
theorem dL_comeBy_221 : decode cL_comeBy 221 = .ok (.iload 8, 2) := by decide +kernel
theorem dL_comeBy_223 : decode cL_comeBy 223 = .ok (.iaload, 1) := by decide +kernel
theorem dL_comeBy_224 : decode cL_comeBy 224 = .ok (.aload 6, 2) := by decide +kernel
theorem dL_comeBy_226 : decode cL_comeBy 226 = .ok (.iload 8, 2) := by decide +kernel
theorem dL_comeBy_228 : decode cL_comeBy 228 = .ok (.iconst 1, 1) := by decide +kernel
theorem dL_comeBy_229 : decode cL_comeBy 229 = .ok (.isub, 1) := by decide +kernel
theorem dL_comeBy_230 : decode cL_comeBy 230 = .ok (.iaload, 1) := by decide +kernel
theorem dL_comeBy_231 : decode cL_comeBy 231 = .ok (.if_icmp .eq 7, 3) := by decide +kernel
theorem dL_comeBy_234 : decode cL_comeBy 234 = .ok (.iconst 1, 1) := by decide +kernel
theorem dL_comeBy_235 : decode cL_comeBy 235 = .ok (.goto 4, 3) := by decide +kernel
theorem dL_comeBy_238 : decode cL_comeBy 238 = .ok (.iconst 0, 1) := by decide +kernel
theorem dL_comeBy_239 : decode cL_comeBy 239 = .ok (.iadd, 1) := by decide +kernel
theorem dL_comeBy_240 : decode cL_comeBy 240 = .ok (.istore 7, 2) := by decide +kernel
theorem dL_comeBy_242 : decode cL_comeBy 242 = .ok (.iinc 8 1, 3) := by decide +kernel
theorem dL_comeBy_245 : decode cL_comeBy 245 = .ok (.goto (-66), 3) := by decide +kernel
theorem dL_comeBy_248 : decode cL_comeBy 248 = .ok (.aload_n 0, 1) := by decide +kernel
theorem dL_comeBy_249 : decode cL_comeBy 249 = .ok (.getfield 10, 3) := by decide +kernel
theorem dL_comeBy_252 : decode cL_comeBy 252 = .ok (.invokevirtual 259, 3) := by decide +kernel
theorem dL_comeBy_255 : decode cL_comeBy 255 = .ok (.aload 6, 2) := by decide +kernel
theorem dL_comeBy_257 : decode cL_comeBy 257 = .ok (.arraylength, 1) := by decide +kernel
theorem dL_comeBy_258 : decode cL_comeBy 258 = .ok (.if_icmp .ne 15, 3) := by decide +kernel
theorem dL_comeBy_261 : decode cL_comeBy 261 = .ok (.aload_n 0, 1) := by decide +kernel
theorem dL_comeBy_262 : decode cL_comeBy 262 = .ok (.getfield 10, 3) := by decide +kernel
theorem dL_comeBy_265 : decode cL_comeBy 265 = .ok (.invokevirtual 262, 3) := by decide +kernel
theorem dL_comeBy_268 : decode cL_comeBy 268 = .ok (.iload 7, 2) := by decide +kernel
theorem dL_comeBy_270 : decode cL_comeBy 270 = .ok (.if_icmp .eq 5, 3) := by decide +kernel
theorem dL_comeBy_273 : decode cL_comeBy 273 = .ok (.iconst 0, 1) := by decide +kernel
theorem dL_comeBy_274 : decode cL_comeBy 274 = .ok (.ireturn, 1) := by decide +kernel
theorem dL_comeBy_275 : decode cL_comeBy 275 = .ok (.iconst 0, 1) := by decide +kernel
theorem dL_comeBy_276 : decode cL_comeBy 276 = .ok (.istore 8, 2) := by decide +kernel
theorem dL_comeBy_278 : decode cL_comeBy 278 = .ok (.iconst 0, 1) := by decide +kernel
theorem dL_comeBy_279 : decode cL_comeBy 279 = .ok (.istore 9, 2) := by decide +kernel
theorem dL_comeBy_281 : decode cL_comeBy 281 = .ok (.iconst 0, 1) := by decide +kernel
theorem dL_comeBy_282 : decode cL_comeBy 282 = .ok (.istore 10, 2) := by decide +kernel
theorem dL_comeBy_284 : decode cL_comeBy 284 = .ok (.iload 10, 2) := by decide +kernel
theorem dL_comeBy_286 : decode cL_comeBy 286 = .ok (.iload 4, 2) := by decide +kernel
theorem dL_comeBy_288 : decode cL_comeBy 288 = .ok (.if_icmp .ge 132, 3) := by decide +kernel
theorem dL_comeBy_291 : decode cL_comeBy 291 = .ok (.iconst 0, 1) := by decide +kernel
theorem dL_comeBy_292 : decode cL_comeBy 292 = .ok (.istore 11, 2) := by decide +kernel
theorem dL_comeBy_294 : decode cL_comeBy 294 = .ok (.aload 5, 2) := by decide +kernel
theorem dL_comeBy_296 : decode cL_comeBy 296 = .ok (.astore 12, 2) := by decide +kernel
theorem dL_comeBy_298 : decode cL_comeBy 298 = .ok (.aload 12, 2) := by decide +kernel
theorem dL_comeBy_300 : decode cL_comeBy 300 = .ok (.arraylength, 1) := by decide +kernel
theorem dL_comeBy_301 : decode cL_comeBy 301 = .ok (.istore 13, 2) := by decide +kernel
theorem dL_comeBy_303 : decode cL_comeBy 303 = .ok (.iconst 0, 1) := by decide +kernel
theorem dL_comeBy_304 : decode cL_comeBy 304 = .ok (.istore 14, 2) := by decide +kernel
theorem dL_comeBy_306 : decode cL_comeBy 306 = .ok (.iload 14, 2) := by decide +kernel
theorem dL_comeBy_308 : decode cL_comeBy 308 = .ok (.iload 13, 2) := by decide +kernel
theorem dL_comeBy_310 : decode cL_comeBy 310 = .ok (.if_icmp .ge 33, 3) := by decide +kernel
theorem dL_comeBy_313 : decode cL_comeBy 313 = .ok (.aload 12, 2) := by decide +kernel
theorem dL_comeBy_315 : decode cL_comeBy 315 = .ok (.iload 14, 2) := by decide +kernel
theorem dL_comeBy_317 : decode cL_comeBy 317 = .ok (.iaload, 1) := by decide +kernel
theorem dL_comeBy_318 : decode cL_comeBy 318 = .ok (.istore 15, 2) := by decide +kernel
theorem dL_comeBy_320 : decode cL_comeBy 320 = .ok (.iload 11, 2) := by decide +kernel
theorem dL_comeBy_322 : decode cL_comeBy 322 = .ok (.iload 15, 2) := by decide +kernel
theorem dL_comeBy_324 : decode cL_comeBy 324 = .ok (.iload 10, 2) := by decide +kernel
theorem dL_comeBy_326 : decode cL_comeBy 326 = .ok (.if_icmp .ne 7, 3) := by decide +kernel
theorem dL_comeBy_329 : decode cL_comeBy 329 = .ok (.iconst 1, 1) := by decide +kernel
theorem dL_comeBy_330 : decode cL_comeBy 330 = .ok (.goto 4, 3) := by decide +kernel
theorem dL_comeBy_333 : decode cL_comeBy 333 = .ok (.iconst 0, 1) := by decide +kernel
theorem dL_comeBy_334 : decode cL_comeBy 334 = .ok (.iadd, 1) := by decide +kernel
theorem dL_comeBy_335 : decode cL_comeBy 335 = .ok (.istore 11, 2) := by decide +kernel
theorem dL_comeBy_337 : decode cL_comeBy 337 = .ok (.iinc 14 1, 3) := by decide +kernel
theorem dL_comeBy_340 : decode cL_comeBy 340 = .ok (.goto (-34), 3) := by decide +kernel
theorem dL_comeBy_343 : decode cL_comeBy 343 = .ok (.aload_n 0, 1) := by decide +kernel
theorem dL_comeBy_344 : decode cL_comeBy 344 = .ok (.getfield 10, 3) := by decide +kernel
theorem dL_comeBy_347 : decode cL_comeBy 347 = .ok (.iload 10, 2) := by decide +kernel
theorem dL_comeBy_349 : decode cL_comeBy 349 = .ok (.invokevirtual 265, 3) := by decide +kernel
theorem dL_comeBy_352 : decode cL_comeBy 352 = .ok (.istore 12, 2) := by decide +kernel
theorem dL_comeBy_354 : decode cL_comeBy 354 = .ok (.aload_n 0, 1) := by decide +kernel
theorem dL_comeBy_355 : decode cL_comeBy 355 = .ok (.getfield 10, 3) := by decide +kernel
theorem dL_comeBy_358 : decode cL_comeBy 358 = .ok (.iload 10, 2) := by decide +kernel
theorem dL_comeBy_360 : decode cL_comeBy 360 = .ok (.invokevirtual 268, 3) := by decide +kernel
theorem dL_comeBy_363 : decode cL_comeBy 363 = .ok (.iload 11, 2) := by decide +kernel
theorem dL_comeBy_365 : decode cL_comeBy 365 = .ok (.if_icmp .ne 25, 3) := by decide +kernel
theorem dL_comeBy_368 : decode cL_comeBy 368 = .ok (.iload 12, 2) := by decide +kernel
theorem dL_comeBy_370 : decode cL_comeBy 370 = .ok (.iload 11, 2) := by decide +kernel
theorem dL_comeBy_372 : decode cL_comeBy 372 = .ok (.if_icmp .gt 18, 3) := by decide +kernel
theorem dL_comeBy_375 : decode cL_comeBy 375 = .ok (.iload 12, 2) := by decide +kernel
theorem dL_comeBy_377 : decode cL_comeBy 377 = .ok (.aload_n 0, 1) := by decide +kernel
theorem dL_comeBy_378 : decode cL_comeBy 378 = .ok (.getfield 10, 3) := by decide +kernel
theorem dL_comeBy_381 : decode cL_comeBy 381 = .ok (.invokevirtual 271, 3) := by decide +kernel
theorem dL_comeBy_384 : decode cL_comeBy 384 = .ok (.iadd, 1) := by decide +kernel
theorem dL_comeBy_385 : decode cL_comeBy 385 = .ok (.iload 11, 2) := by decide +kernel
theorem dL_comeBy_387 : decode cL_comeBy 387 = .ok (.if_icmp .ge 5, 3) := by decide +kernel
theorem dL_comeBy_390 : decode cL_comeBy 390 = .ok (.iconst 0, 1) := by decide +kernel
theorem dL_comeBy_391 : decode cL_comeBy 391 = .ok (.ireturn, 1) := by decide +kernel
theorem dL_comeBy_392 : decode cL_comeBy 392 = .ok (.iload 8, 2) := by decide +kernel
theorem dL_comeBy_394 : decode cL_comeBy 394 = .ok (.iload 12, 2) := by decide +kernel
theorem dL_comeBy_396 : decode cL_comeBy 396 = .ok (.iadd, 1) := by decide +kernel
theorem dL_comeBy_397 : decode cL_comeBy 397 = .ok (.istore 8, 2) := by decide +kernel
theorem dL_comeBy_399 : decode cL_comeBy 399 = .ok (.iload 9, 2) := by decide +kernel
theorem dL_comeBy_401 : decode cL_comeBy 401 = .ok (.iload 12, 2) := by decide +kernel
theorem dL_comeBy_403 : decode cL_comeBy 403 = .ok (.ifCond .le 7, 3) := by decide +kernel
theorem dL_comeBy_406 : decode cL_comeBy 406 = .ok (.iconst 1, 1) := by decide +kernel
theorem dL_comeBy_407 : decode cL_comeBy 407 = .ok (.goto 4, 3) := by decide +kernel
theorem dL_comeBy_410 : decode cL_comeBy 410 = .ok (.iconst 0, 1) := by decide +kernel
theorem dL_comeBy_411 : decode cL_comeBy 411 = .ok (.iadd, 1) := by decide +kernel
theorem dL_comeBy_412 : decode cL_comeBy 412 = .ok (.istore 9, 2) := by decide +kernel
theorem dL_comeBy_414 : decode cL_comeBy 414 = .ok (.iinc 10 1, 3) := by decide +kernel
theorem dL_comeBy_417 : decode cL_comeBy 417 = .ok (.goto (-133), 3) := by decide +kernel
theorem dL_comeBy_420 : decode cL_comeBy 420 = .ok (.iload 9, 2) := by decide +kernel
theorem dL_comeBy_422 : decode cL_comeBy 422 = .ok (.iload_n 2, 1) := by decide +kernel
theorem dL_comeBy_423 : decode cL_comeBy 423 = .ok (.if_icmp .gt 25, 3) := by decide +kernel
theorem dL_comeBy_426 : decode cL_comeBy 426 = .ok (.iload 8, 2) := by decide +kernel
theorem dL_comeBy_428 : decode cL_comeBy 428 = .ok (.aload_n 0, 1) := by decide +kernel
theorem dL_comeBy_429 : decode cL_comeBy 429 = .ok (.getfield 10, 3) := by decide +kernel
theorem dL_comeBy_432 : decode cL_comeBy 432 = .ok (.invokevirtual 271, 3) := by decide +kernel
theorem dL_comeBy_435 : decode cL_comeBy 435 = .ok (.iload_n 2, 1) := by decide +kernel
theorem dL_comeBy_436 : decode cL_comeBy 436 = .ok (.iconst 1, 1) := by decide +kernel
theorem dL_comeBy_437 : decode cL_comeBy 437 = .ok (.iadd, 1) := by decide +kernel
theorem dL_comeBy_438 : decode cL_comeBy 438 = .ok (.imul, 1) := by decide +kernel
theorem dL_comeBy_439 : decode cL_comeBy 439 = .ok (.iadd, 1) := by decide +kernel
theorem dL_comeBy_440 : decode cL_comeBy 440 = .ok (.iload_n 3, 1) := by decide +kernel
theorem dL_comeBy_441 : decode cL_comeBy 441 = .ok (.if_icmp .ne 7, 3) := by decide +kernel
theorem dL_comeBy_444 : decode cL_comeBy 444 = .ok (.iconst 1, 1) := by decide +kernel
theorem dL_comeBy_445 : decode cL_comeBy 445 = .ok (.goto 4, 3) := by decide +kernel
theorem dL_comeBy_448 : decode cL_comeBy 448 = .ok (.iconst 0, 1) := by decide +kernel
theorem dL_comeBy_449 : decode cL_comeBy 449 = .ok (.ireturn, 1) := by decide +kernel
def fL_comeBy (p0 : Nat) (h : mxH) : Option (Int32 × mxH) := Option.bind (gR h p0 11 1) (fun r1 => Option.bind (isO h r1 10) (fun u3 => Option.bind (fX10_next r1 10 h) (fun o6 => Option.bind (gR o6.2 p0 11 1) (fun r7 => Option.bind (isO o6.2 r7 10) (fun u9 => Option.bind (fX10_next r7 4 o6.2) (fun o12 => Option.bind (gR o12.2 p0 11 0) (fun r13 => Option.bind (isO o12.2 r13 9) (fun u15 => Option.bind (mxOk (fX9_setWindow r13 (1 + o6.1) (1 + o12.1) o12.2)) (fun o18 => (if o18.1 = 0 then Option.bind (gR o18.2 p0 11 1) (fun r20 => Option.bind (isO o18.2 r20 10) (fun u22 => Option.bind (fX10_next r20 26 o18.2) (fun o25 => Option.bind (gR o25.2 p0 11 1) (fun r26 => Option.bind (isO o25.2 r26 10) (fun u28 => Option.bind (fX10_next r26 7 o25.2) (fun o31 => Option.bind (nwV o31.2 o25.1 25) (fun h32 => Option.bind (mxLoop (ρ := (mxH ⊕ mxH)) (fun s70 : (Int32 × mxH) => (if o25.1 ≤ s70.1 then some (Sum.inr (Sum.inr s70.2)) else Option.bind (gR s70.2 p0 11 1) (fun r85 => Option.bind (isO s70.2 r85 10) (fun u87 => Option.bind (fX10_next r85 (2 + o31.1) s70.2) (fun o90 => Option.bind (stI o90.2 o31.2.2 s70.1 o90.1) (fun h91 => Option.bind (gR h91 p0 11 0) (fun r93 => Option.bind (ldI h91 o31.2.2 s70.1) (fun v95 => Option.bind (isO h91 r93 9) (fun u97 => Option.bind (mxOk (fX9_push r93 v95 h91)) (fun o100 => Option.bind (α := Int32) (if (1 + o6.1) ≤ s70.1 then Option.bind (ldI o100.2 o31.2.2 (s70.1 - (1 + o6.1))) (fun v107 => some v107) else some (-1)) (fun jp103' : Int32 => (if o100.1 = jp103' then some (Sum.inl (s70.1 + 1, o100.2)) else some (Sum.inr (Sum.inl o100.2)))))))))))))) 27 (0, h32)) (Sum.elim (fun r111 : mxH => Option.bind (mxZ1 0) (fun v112 => some (v112, r111))) (fun r115 : mxH => Option.bind (nwV r115 (mxMin o25.1 (1 + o6.1)) 25) (fun h116 => Option.bind (mxLoop (ρ := mxH) (fun s118 : (Int32 × mxH) => Option.bind (lenA s118.2 r115.2) (fun v126 => (if v126 ≤ s118.1 then some (Sum.inr s118.2) else Option.bind (ldI s118.2 o31.2.2 ((o25.1 - 1) - s118.1)) (fun v129 => Option.bind (stI s118.2 r115.2 s118.1 v129) (fun h131 => some (Sum.inl (s118.1 + 1, h131))))))) mxF (0, h116)) (fun r133 : mxH => Option.bind (fJ7_sort_2022b r115.2 r133) (fun o135 => Option.bind (mxLoop (ρ := (mxH ⊕ (Int32 × mxH))) (fun s174 : (Int32 × Int32 × mxH) => Option.bind (lenA s174.2.2 r115.2) (fun v188 => (if v188 ≤ s174.2.1 then some (Sum.inr (Sum.inr (s174.1, s174.2.2))) else Option.bind (gR s174.2.2 p0 11 0) (fun r191 => Option.bind (isO s174.2.2 r191 9) (fun u193 => Option.bind (mxOk (fX9_windowAt r191 s174.2.1 s174.2.2)) (fun o196 => Option.bind (lenA o196.2 r115.2) (fun v197 => Option.bind (ldI o196.2 r115.2 ((v197 - 1) - s174.2.1)) (fun v199 => (if o196.1 = v199 then Option.bind (α := Int32) (if s174.2.1 = 0 then some 1 else Option.bind (ldI o196.2 r115.2 s174.2.1) (fun v211 => Option.bind (ldI o196.2 r115.2 (s174.2.1 - 1)) (fun v213 => (if v211 = v213 then some 0 else some 1)))) (fun jp204' : Int32 => some (Sum.inl (s174.1 + jp204', s174.2.1 + 1, o196.2))) else some (Sum.inr (Sum.inl o196.2))))))))))) 12 (0, 0, o135)) (Sum.elim (fun r217 : mxH => Option.bind (mxZ1 0) (fun v218 => some (v218, r217))) (fun r221 : (Int32 × mxH) => Option.bind (gR r221.2 p0 11 0) (fun r222 => Option.bind (isO r221.2 r222 9) (fun u224 => Option.bind (fX9_windowSize r222 r221.2) (fun o227 => Option.bind (lenA r221.2 r115.2) (fun v228 => (if o227 = v228 then Option.bind (gR r221.2 p0 11 0) (fun r233 => Option.bind (isO r221.2 r233 9) (fun u235 => Option.bind (fX9_unlike r233 r221.2) (fun o238 => (if o238 = r221.1 then Option.bind (mxLoop (ρ := (mxH ⊕ (Int32 × Int32 × mxH))) (fun s296 : (Int32 × Int32 × Int32 × mxH) => (if (2 + o31.1) ≤ s296.2.2.1 then some (Sum.inr (Sum.inr (s296.1, s296.2.1, s296.2.2.2))) else Option.bind (lenA s296.2.2.2 o31.2.2) (fun v311 => Option.bind (mxLoop (ρ := Int32) (fun s313 : (Int32 × Int32) => (if v311 ≤ s313.2 then some (Sum.inr s313.1) else Option.bind (ldI s296.2.2.2 o31.2.2 s313.2) (fun v322 => Option.bind (α := Int32) (if v322 = s296.2.2.1 then some 1 else some 0) (fun jp326' : Int32 => some (Sum.inl (s313.1 + jp326', s313.2 + 1)))))) mxF (0, 0)) (fun r329 : Int32 => Option.bind (gR s296.2.2.2 p0 11 0) (fun r330 => Option.bind (isO s296.2.2.2 r330 9) (fun u332 => Option.bind (mxOk (fX9_counted r330 s296.2.2.1 s296.2.2.2)) (fun o335 => Option.bind (gR o335.2 p0 11 0) (fun r336 => Option.bind (isO o335.2 r336 9) (fun u338 => Option.bind (mxOk (fX9_came r336 s296.2.2.1 o335.2)) (fun o341 => (if o341.1 = r329 then (if r329 < o335.1 then some (Sum.inr (Sum.inl o341.2)) else Option.bind (gR o341.2 p0 11 0) (fun r344 => Option.bind (isO o341.2 r344 9) (fun u346 => Option.bind (fX9_bound r344 o341.2) (fun o349 => (if r329 ≤ (o335.1 + o349) then Option.bind (α := Int32) (if o335.1 ≤ 0 then some 0 else some 1) (fun jp353' : Int32 => some (Sum.inl (s296.1 + o335.1, s296.2.1 + jp353', s296.2.2.1 + 1, o341.2))) else some (Sum.inr (Sum.inl o341.2))))))) else some (Sum.inr (Sum.inl o341.2))))))))))))) 9 (0, 0, 0, r221.2)) (Sum.elim (fun r357 : mxH => Option.bind (mxZ1 0) (fun v358 => some (v358, r357))) (fun r361 : (Int32 × Int32 × mxH) => Option.bind (α := Int32) (if (1 + o12.1) < r361.2.1 then some 0 else Option.bind (gR r361.2.2 p0 11 0) (fun r373 => Option.bind (isO r361.2.2 r373 9) (fun u375 => Option.bind (fX9_bound r373 r361.2.2) (fun o378 => (if (r361.1 + (o378 * ((1 + o12.1) + 1))) = o25.1 then some 1 else some 0))))) (fun jp364' : Int32 => Option.bind (mxZ1 jp364') (fun v380 => some (v380, r361.2.2))))) else Option.bind (mxZ1 0) (fun v384 => some (v384, r221.2)))))) else Option.bind (mxZ1 0) (fun v231 => some (v231, r221.2))))))))))))))))))))) else Option.bind (mxZ1 0) (fun v389 => some (v389, o18.2))))))))))))
abbrev rmL_comeBy : Room := { frames := 8, cells := 131, slots := 9294, locals := 153 }
set_option maxRecDepth 20000 in
set_option maxHeartbeats 1000000 in
theorem tL_comeBy {l : Launch} {Z : mxZ} (hl : l.stackTraces = false) {p0 : Nat} {h : mxH} {out : (Int32 × mxH)} (hf : fL_comeBy p0 h = some out) : mxMet l Z yL_comeBy cL_comeBy 16 (some .boolean) rmL_comeBy [.ref p0] h (.inl (some (.int out.1))) out.2 := by
  refine mxMet_of (by decide) hl (by simp [Value.category]) (Nat.le_of_ble_eq_true rfl) ?_
  intro X C E hX hin
  unfold fL_comeBy at hf
  refine mG_ic (pc := 0) C dL_comeBy_0 kI1 ?_
  refine mG_aload_n (pc := 1) C dL_comeBy_1 rfl ?_
  obtain ⟨r1, e2, hf⟩ := mx_bind hf
  refine mG_getR (pc := 2) C dL_comeBy_2 fl_L_25 e2 ?_
  refine mG_bp (pc := 5) C dL_comeBy_5 kB10 ?_
  obtain ⟨u3, e4, hf⟩ := mx_bind hf
  obtain ⟨o6, e5, hf⟩ := mx_bind hf
  refine mG_cV2 (pc := 7) (k' := 0) (n' := 0) (h' := o6.2) (v := some (.int o6.1)) 10 [.int 10] [.int 1] C hX dL_comeBy_7 lkV_L_30 rfl rfl e4 (tX10_next hl e5) rfl rfl rfl ⟨Nat.le_of_ble_eq_true rfl, Nat.le_of_ble_eq_true rfl⟩ rfl ?_
  refine mG_iadd (pc := 10) C dL_comeBy_10 ?_
  refine mG_isn (ls' := [some (.ref p0), some (.int (1 + o6.1)), none, none, none, none, none, none, none, none, none, none, none, none, none, none]) (pc := 11) C dL_comeBy_11 rfl rfl rfl ?_
  refine mG_ic (pc := 12) C dL_comeBy_12 kI1 ?_
  refine mG_aload_n (pc := 13) C dL_comeBy_13 rfl ?_
  obtain ⟨r7, e8, hf⟩ := mx_bind hf
  refine mG_getR (pc := 14) C dL_comeBy_14 fl_L_25 e8 ?_
  refine mG_ic (pc := 17) C dL_comeBy_17 kI4 ?_
  obtain ⟨u9, e10, hf⟩ := mx_bind hf
  obtain ⟨o12, e11, hf⟩ := mx_bind hf
  refine mG_cV2 (pc := 18) (k' := 0) (n' := 0) (h' := o12.2) (v := some (.int o12.1)) 10 [.int 4] [.int 1] C hX dL_comeBy_18 lkV_L_30 rfl rfl e10 (tX10_next hl e11) rfl rfl rfl ⟨Nat.le_of_ble_eq_true rfl, Nat.le_of_ble_eq_true rfl⟩ rfl ?_
  refine mG_iadd (pc := 21) C dL_comeBy_21 ?_
  refine mG_isn (ls' := [some (.ref p0), some (.int (1 + o6.1)), some (.int (1 + o12.1)), none, none, none, none, none, none, none, none, none, none, none, none, none]) (pc := 22) C dL_comeBy_22 rfl rfl rfl ?_
  refine mG_aload_n (pc := 23) C dL_comeBy_23 rfl ?_
  obtain ⟨r13, e14, hf⟩ := mx_bind hf
  refine mG_getR (pc := 24) C dL_comeBy_24 fl_L_10 e14 ?_
  refine mG_iload_n (pc := 27) C dL_comeBy_27 rfl ?_
  refine mG_iload_n (pc := 28) C dL_comeBy_28 rfl ?_
  obtain ⟨u15, e16, hf⟩ := mx_bind hf
  obtain ⟨o18, e17, hf⟩ := mx_bind hf
  refine mG_cV2 (pc := 29) (k' := 2) (n' := 12) (h' := o18.2) (v := some (.int o18.1)) 9 [.int (1 + o6.1), .int (1 + o12.1)] [] C hX dL_comeBy_29 lkV_L_250 rfl rfl e16 (tX9_setWindow hl (mxOk_some e17)) rfl rfl rfl ⟨Nat.le_of_ble_eq_true rfl, Nat.le_of_ble_eq_true rfl⟩ rfl ?_
  refine mG_if_eq (pc := 32) (tgt := 37) C dL_comeBy_32 (by decide) (fun q19 => ?_) (fun q19 => ?_)
  · rw [if_pos q19] at hf
    refine mG_aload_n (pc := 37) C dL_comeBy_37 rfl ?_
    obtain ⟨r20, e21, hf⟩ := mx_bind hf
    refine mG_getR (pc := 38) C dL_comeBy_38 fl_L_25 e21 ?_
    refine mG_bp (pc := 41) C dL_comeBy_41 kB26 ?_
    obtain ⟨u22, e23, hf⟩ := mx_bind hf
    obtain ⟨o25, e24, hf⟩ := mx_bind hf
    refine mG_cV2 (pc := 43) (k' := 2) (n' := 12) (h' := o25.2) (v := some (.int o25.1)) 10 [.int 26] [] C hX dL_comeBy_43 lkV_L_30 rfl rfl e23 (tX10_next hl e24) rfl rfl rfl ⟨Nat.le_of_ble_eq_true rfl, Nat.le_of_ble_eq_true rfl⟩ rfl ?_
    refine mG_isn (ls' := [some (.ref p0), some (.int (1 + o6.1)), some (.int (1 + o12.1)), some (.int o25.1), none, none, none, none, none, none, none, none, none, none, none, none]) (pc := 46) C dL_comeBy_46 rfl rfl rfl ?_
    refine mG_ic (pc := 47) C dL_comeBy_47 kI2 ?_
    refine mG_aload_n (pc := 48) C dL_comeBy_48 rfl ?_
    obtain ⟨r26, e27, hf⟩ := mx_bind hf
    refine mG_getR (pc := 49) C dL_comeBy_49 fl_L_25 e27 ?_
    refine mG_bp (pc := 52) C dL_comeBy_52 kB7 ?_
    obtain ⟨u28, e29, hf⟩ := mx_bind hf
    obtain ⟨o31, e30, hf⟩ := mx_bind hf
    refine mG_cV2 (pc := 54) (k' := 2) (n' := 12) (h' := o31.2) (v := some (.int o31.1)) 10 [.int 7] [.int 2] C hX dL_comeBy_54 lkV_L_30 rfl rfl e29 (tX10_next hl e30) rfl rfl rfl ⟨Nat.le_of_ble_eq_true rfl, Nat.le_of_ble_eq_true rfl⟩ rfl ?_
    refine mG_iadd (pc := 57) C dL_comeBy_57 ?_
    refine mG_is (ls' := [some (.ref p0), some (.int (1 + o6.1)), some (.int (1 + o12.1)), some (.int o25.1), some (.int (2 + o31.1)), none, none, none, none, none, none, none, none, none, none, none]) (pc := 58) C dL_comeBy_58 rfl rfl rfl ?_
    refine mG_iload_n (pc := 60) C dL_comeBy_60 rfl ?_
    obtain ⟨h32, e33, hf⟩ := mx_bind hf
    refine mG_nwV (B := 25) (pc := 61) (k' := 3) (n' := 37) C hX dL_comeBy_61 w272 rfl e33 rfl rfl ⟨Nat.le_of_ble_eq_true rfl, Nat.le_of_ble_eq_true rfl⟩ ?_
    refine mG_as (ls' := [some (.ref p0), some (.int (1 + o6.1)), some (.int (1 + o12.1)), some (.int o25.1), some (.int (2 + o31.1)), some (.ref o31.2.2), none, none, none, none, none, none, none, none, none, none]) (pc := 63) C dL_comeBy_63 rfl rfl rfl ?_
    refine mG_ic (pc := 65) C dL_comeBy_65 kI0 ?_
    refine mG_is (ls' := [some (.ref p0), some (.int (1 + o6.1)), some (.int (1 + o12.1)), some (.int o25.1), some (.int (2 + o31.1)), some (.ref o31.2.2), some (.int 0), none, none, none, none, none, none, none, none, none]) (pc := 66) C dL_comeBy_66 rfl rfl rfl ?_
    obtain ⟨r78, e79, hf⟩ := mx_bind hf
    have J74 : ∀ r111 : mxH, Sum.inl r111 = r78 → mG l Z X 16 30 199 120 [none, none, none, none, none, none, none, none, none, none, none, none, none, none, none, none] [] r111 := by
      intro r111 q114
      subst q114
      rw [Sum.elim_inl] at hf
      refine mG_ic (pc := 120) C dL_comeBy_120 kI0 ?_
      obtain ⟨v112, e113, hf⟩ := mx_bind hf
      cases hf
      exact mG_zr2 (pc := 121) C e113 E hX dL_comeBy_121 ⟨Nat.le_of_ble_eq_true rfl, Nat.le_of_ble_eq_true rfl⟩
    have J75 : ∀ r115 : mxH, Sum.inr r115 = r78 → mG l Z X 16 30 199 128 [some (.ref p0), some (.int (1 + o6.1)), some (.int (1 + o12.1)), some (.int o25.1), some (.int (2 + o31.1)), some (.ref o31.2.2), none, none, none, none, none, none, none, none, none, none] [] r115 := by
      intro r115 q388
      subst q388
      rw [Sum.elim_inr] at hf
      refine mG_iload_n (pc := 128) C dL_comeBy_128 rfl ?_
      refine mG_iload_n (pc := 129) C dL_comeBy_129 rfl ?_
      refine mG_mn2 (pc := 130) C hX dL_comeBy_130 w718 wmin rfl ⟨Nat.le_of_ble_eq_true rfl, Nat.le_of_ble_eq_true rfl⟩ rfl ?_
      obtain ⟨h116, e117, hf⟩ := mx_bind hf
      refine mG_nwV (B := 25) (pc := 133) (k' := 31) (n' := 224) C hX dL_comeBy_133 w272 rfl e117 rfl rfl ⟨Nat.le_of_ble_eq_true rfl, Nat.le_of_ble_eq_true rfl⟩ ?_
      refine mG_as (ls' := [some (.ref p0), some (.int (1 + o6.1)), some (.int (1 + o12.1)), some (.int o25.1), some (.int (2 + o31.1)), some (.ref o31.2.2), some (.ref r115.2), none, none, none, none, none, none, none, none, none]) (pc := 135) C dL_comeBy_135 rfl rfl rfl ?_
      refine mG_ic (pc := 137) C dL_comeBy_137 kI0 ?_
      refine mG_is (ls' := [some (.ref p0), some (.int (1 + o6.1)), some (.int (1 + o12.1)), some (.int o25.1), some (.int (2 + o31.1)), some (.ref o31.2.2), some (.ref r115.2), some (.int 0), none, none, none, none, none, none, none, none]) (pc := 138) C dL_comeBy_138 rfl rfl rfl ?_
      obtain ⟨r119, e120, hf⟩ := mx_bind hf
      have J121 : ∀ r133 : mxH, r133 = r119 → mG l Z X 16 31 224 168 [some (.ref p0), none, some (.int (1 + o12.1)), some (.int o25.1), some (.int (2 + o31.1)), some (.ref o31.2.2), some (.ref r115.2), none, none, none, none, none, none, none, none, none] [] r133 := by
        intro r133 q387
        subst q387
        refine mG_aload (pc := 168) C dL_comeBy_168 rfl ?_
        obtain ⟨o135, e134, hf⟩ := mx_bind hf
        refine mG_cS2 (pc := 170) (k' := 101) (n' := 9114) (h' := o135) (v := none) [.ref r115.2] [] C hX dL_comeBy_170 lkS_L_176 rfl (tJ7_sort_2022b hl e134) rfl rfl rfl ⟨Nat.le_of_ble_eq_true rfl, Nat.le_of_ble_eq_true rfl⟩ rfl ?_
        refine mG_ic (pc := 173) C dL_comeBy_173 kI0 ?_
        refine mG_is (ls' := [some (.ref p0), none, some (.int (1 + o12.1)), some (.int o25.1), some (.int (2 + o31.1)), some (.ref o31.2.2), some (.ref r115.2), some (.int 0), none, none, none, none, none, none, none, none]) (pc := 174) C dL_comeBy_174 rfl rfl rfl ?_
        refine mG_ic (pc := 176) C dL_comeBy_176 kI0 ?_
        refine mG_is (ls' := [some (.ref p0), none, some (.int (1 + o12.1)), some (.int o25.1), some (.int (2 + o31.1)), some (.ref o31.2.2), some (.ref r115.2), some (.int 0), some (.int 0), none, none, none, none, none, none, none]) (pc := 177) C dL_comeBy_177 rfl rfl rfl ?_
        obtain ⟨r182, e183, hf⟩ := mx_bind hf
        have J178 : ∀ r217 : mxH, Sum.inl r217 = r182 → mG l Z X 16 113 9186 210 [none, none, none, none, none, none, none, none, none, none, none, none, none, none, none, none] [] r217 := by
          intro r217 q220
          subst q220
          rw [Sum.elim_inl] at hf
          refine mG_ic (pc := 210) C dL_comeBy_210 kI0 ?_
          obtain ⟨v218, e219, hf⟩ := mx_bind hf
          cases hf
          exact mG_zr2 (pc := 211) C e219 E hX dL_comeBy_211 ⟨Nat.le_of_ble_eq_true rfl, Nat.le_of_ble_eq_true rfl⟩
        have J179 : ∀ r221 : (Int32 × mxH), Sum.inr r221 = r182 → mG l Z X 16 113 9186 248 [some (.ref p0), none, some (.int (1 + o12.1)), some (.int o25.1), some (.int (2 + o31.1)), some (.ref o31.2.2), some (.ref r115.2), some (.int r221.1), none, none, none, none, none, none, none, none] [] r221.2 := by
          intro r221 q386
          subst q386
          rw [Sum.elim_inr] at hf
          refine mG_aload_n (pc := 248) C dL_comeBy_248 rfl ?_
          obtain ⟨r222, e223, hf⟩ := mx_bind hf
          refine mG_getR (pc := 249) C dL_comeBy_249 fl_L_10 e223 ?_
          obtain ⟨u224, e225, hf⟩ := mx_bind hf
          obtain ⟨o227, e226, hf⟩ := mx_bind hf
          refine mG_cV2 (pc := 252) (k' := 113) (n' := 9186) (h' := r221.2) (v := some (.int o227)) 9 [] [] C hX dL_comeBy_252 lkV_L_259 rfl rfl e225 (tX9_windowSize hl e226) rfl rfl rfl ⟨Nat.le_of_ble_eq_true rfl, Nat.le_of_ble_eq_true rfl⟩ rfl ?_
          refine mG_aload (pc := 255) C dL_comeBy_255 rfl ?_
          obtain ⟨v228, e229, hf⟩ := mx_bind hf
          refine mG_arraylength (pc := 257) C dL_comeBy_257 e229 ?_
          refine mG_icmp_ne (pc := 258) (tgt := 273) C dL_comeBy_258 (by decide) (fun q230 => ?_) (fun q230 => ?_)
          · rw [if_neg q230] at hf
            refine mG_ic (pc := 273) C dL_comeBy_273 kI0 ?_
            obtain ⟨v231, e232, hf⟩ := mx_bind hf
            cases hf
            exact mG_zr2 (pc := 274) C e232 E hX dL_comeBy_274 ⟨Nat.le_of_ble_eq_true rfl, Nat.le_of_ble_eq_true rfl⟩
          · rw [if_pos q230] at hf
            refine mG_aload_n (pc := 261) C dL_comeBy_261 rfl ?_
            obtain ⟨r233, e234, hf⟩ := mx_bind hf
            refine mG_getR (pc := 262) C dL_comeBy_262 fl_L_10 e234 ?_
            obtain ⟨u235, e236, hf⟩ := mx_bind hf
            obtain ⟨o238, e237, hf⟩ := mx_bind hf
            refine mG_cV2 (pc := 265) (k' := 113) (n' := 9186) (h' := r221.2) (v := some (.int o238)) 9 [] [] C hX dL_comeBy_265 lkV_L_262 rfl rfl e236 (tX9_unlike hl e237) rfl rfl rfl ⟨Nat.le_of_ble_eq_true rfl, Nat.le_of_ble_eq_true rfl⟩ rfl ?_
            refine mG_iload (pc := 268) C dL_comeBy_268 rfl ?_
            refine mG_icmp_eq (pc := 270) (tgt := 275) C dL_comeBy_270 (by decide) (fun q239 => ?_) (fun q239 => ?_)
            · rw [if_pos q239] at hf
              refine mG_ic (pc := 275) C dL_comeBy_275 kI0 ?_
              refine mG_is (ls' := [some (.ref p0), none, some (.int (1 + o12.1)), some (.int o25.1), some (.int (2 + o31.1)), some (.ref o31.2.2), some (.ref r115.2), some (.int r221.1), some (.int 0), none, none, none, none, none, none, none]) (pc := 276) C dL_comeBy_276 rfl rfl rfl ?_
              refine mG_ic (pc := 278) C dL_comeBy_278 kI0 ?_
              refine mG_is (ls' := [some (.ref p0), none, some (.int (1 + o12.1)), some (.int o25.1), some (.int (2 + o31.1)), some (.ref o31.2.2), some (.ref r115.2), some (.int r221.1), some (.int 0), some (.int 0), none, none, none, none, none, none]) (pc := 279) C dL_comeBy_279 rfl rfl rfl ?_
              refine mG_ic (pc := 281) C dL_comeBy_281 kI0 ?_
              refine mG_is (ls' := [some (.ref p0), none, some (.int (1 + o12.1)), some (.int o25.1), some (.int (2 + o31.1)), some (.ref o31.2.2), some (.ref r115.2), some (.int r221.1), some (.int 0), some (.int 0), some (.int 0), none, none, none, none, none]) (pc := 282) C dL_comeBy_282 rfl rfl rfl ?_
              obtain ⟨r304, e305, hf⟩ := mx_bind hf
              have J300 : ∀ r357 : mxH, Sum.inl r357 = r304 → mG l Z X 16 131 9294 390 [none, none, none, none, none, none, none, none, none, none, none, none, none, none, none, none] [] r357 := by
                intro r357 q360
                subst q360
                rw [Sum.elim_inl] at hf
                refine mG_ic (pc := 390) C dL_comeBy_390 kI0 ?_
                obtain ⟨v358, e359, hf⟩ := mx_bind hf
                cases hf
                exact mG_zr2 (pc := 391) C e359 E hX dL_comeBy_391 ⟨Nat.le_of_ble_eq_true rfl, Nat.le_of_ble_eq_true rfl⟩
              have J301 : ∀ r361 : (Int32 × Int32 × mxH), Sum.inr r361 = r304 → mG l Z X 16 131 9294 420 [some (.ref p0), none, some (.int (1 + o12.1)), some (.int o25.1), none, none, none, none, some (.int r361.1), some (.int r361.2.1), none, none, none, none, none, none] [] r361.2.2 := by
                intro r361 q383
                subst q383
                rw [Sum.elim_inr] at hf
                refine mG_iload (pc := 420) C dL_comeBy_420 rfl ?_
                refine mG_iload_n (pc := 422) C dL_comeBy_422 rfl ?_
                obtain ⟨jp364, e365, hf⟩ := mx_bind hf
                have J363 : ∀ jp364' : Int32, jp364' = jp364 → mG l Z X 16 131 9294 449 [none, none, none, none, none, none, none, none, none, none, none, none, none, none, none, none] [.int jp364'] r361.2.2 := by
                  intro jp364' q382
                  subst q382
                  obtain ⟨v380, e381, hf⟩ := mx_bind hf
                  cases hf
                  exact mG_zr2 (pc := 449) C e381 E hX dL_comeBy_449 ⟨Nat.le_of_ble_eq_true rfl, Nat.le_of_ble_eq_true rfl⟩
                refine mG_icmp_gt (pc := 423) (tgt := 448) C dL_comeBy_423 (by decide) (fun q362 => ?_) (fun q362 => ?_)
                · rw [if_pos q362] at e365
                  refine mG_ic (pc := 448) C dL_comeBy_448 kI0 ?_
                  exact mG_sub (mxLe_n (mxLe_n (mxLe_n (mxLe_n (mxLe_n (mxLe_n (mxLe_n (mxLe_n (mxLe_n (mxLe_n (mxLe_n (mxLe_n (mxLe_n (mxLe_n (mxLe_n (mxLe_n mxLe_z)))))))))))))))) (J363 _ (Option.some.inj e365))
                · rw [if_neg q362] at e365
                  refine mG_iload (pc := 426) C dL_comeBy_426 rfl ?_
                  refine mG_aload_n (pc := 428) C dL_comeBy_428 rfl ?_
                  obtain ⟨r373, e374, e365⟩ := mx_bind e365
                  refine mG_getR (pc := 429) C dL_comeBy_429 fl_L_10 e374 ?_
                  obtain ⟨u375, e376, e365⟩ := mx_bind e365
                  obtain ⟨o378, e377, e365⟩ := mx_bind e365
                  refine mG_cV2 (pc := 432) (k' := 131) (n' := 9294) (h' := r361.2.2) (v := some (.int o378)) 9 [] [.int r361.1] C hX dL_comeBy_432 lkV_L_271 rfl rfl e376 (tX9_bound hl e377) rfl rfl rfl ⟨Nat.le_of_ble_eq_true rfl, Nat.le_of_ble_eq_true rfl⟩ rfl ?_
                  refine mG_iload_n (pc := 435) C dL_comeBy_435 rfl ?_
                  refine mG_ic (pc := 436) C dL_comeBy_436 kI1 ?_
                  refine mG_iadd (pc := 437) C dL_comeBy_437 ?_
                  refine mG_imul (pc := 438) C dL_comeBy_438 ?_
                  refine mG_iadd (pc := 439) C dL_comeBy_439 ?_
                  refine mG_iload_n (pc := 440) C dL_comeBy_440 rfl ?_
                  refine mG_icmp_ne (pc := 441) (tgt := 448) C dL_comeBy_441 (by decide) (fun q379 => ?_) (fun q379 => ?_)
                  · rw [if_neg q379] at e365
                    refine mG_ic (pc := 448) C dL_comeBy_448 kI0 ?_
                    exact mG_sub (mxLe_n (mxLe_n (mxLe_n (mxLe_n (mxLe_n (mxLe_n (mxLe_n (mxLe_n (mxLe_n (mxLe_n (mxLe_n (mxLe_n (mxLe_n (mxLe_n (mxLe_n (mxLe_n mxLe_z)))))))))))))))) (J363 _ (Option.some.inj e365))
                  · rw [if_pos q379] at e365
                    refine mG_ic (pc := 444) C dL_comeBy_444 kI1 ?_
                    refine mG_goto (tgt := 449) (pc := 445) C dL_comeBy_445 (by decide) ?_
                    exact mG_sub (mxLe_n (mxLe_n (mxLe_n (mxLe_n (mxLe_n (mxLe_n (mxLe_n (mxLe_n (mxLe_n (mxLe_n (mxLe_n (mxLe_n (mxLe_n (mxLe_n (mxLe_n (mxLe_n mxLe_z)))))))))))))))) (J363 _ (Option.some.inj e365))
              refine mG_sub (ls' := [some (.ref p0), none, some (.int (1 + o12.1)), some (.int o25.1), some (.int (2 + o31.1)), some (.ref o31.2.2), none, none, some (.int 0), some (.int 0), some (.int 0), none, none, none, none, none]) (mxLe_s (mxLe_n (mxLe_s (mxLe_s (mxLe_s (mxLe_s (mxLe_n (mxLe_n (mxLe_s (mxLe_s (mxLe_s (mxLe_n (mxLe_n (mxLe_n (mxLe_n (mxLe_n mxLe_z)))))))))))))))) (mxLoop_indN (K := fun (N299 : Nat) (s296 : (Int32 × Int32 × Int32 × mxH)) => ∀ k297 n298 : Nat, k297 + 2 * N299 ≤ 113 + 2 * 9 → n298 + 12 * N299 ≤ 9186 + 12 * 9 → mG l Z X 16 k297 n298 284 [some (.ref p0), none, some (.int (1 + o12.1)), some (.int o25.1), some (.int (2 + o31.1)), some (.ref o31.2.2), none, none, some (.int s296.1), some (.int s296.2.1), some (.int s296.2.2.1), none, none, none, none, none] [] s296.2.2.2) ?_ _ _ e305 _ _ (Nat.le_refl _) (Nat.le_refl _))
              intro N299 s296 o306 e307 hK302 hx303 k297 n298 hk308 hn309
              refine mG_iload (pc := 284) C dL_comeBy_284 rfl ?_
              refine mG_iload (pc := 286) C dL_comeBy_286 rfl ?_
              refine mG_icmp_ge (pc := 288) (tgt := 420) C dL_comeBy_288 (by decide) (fun q310 => ?_) (fun q310 => ?_)
              · rw [if_pos q310] at e307
                exact mG_wd (by omega) (by omega) (mG_sub (mxLe_s (mxLe_n (mxLe_s (mxLe_s (mxLe_n (mxLe_n (mxLe_n (mxLe_n (mxLe_s (mxLe_s (mxLe_n (mxLe_n (mxLe_n (mxLe_n (mxLe_n (mxLe_n mxLe_z)))))))))))))))) (J301 _ (hx303 _ (Option.some.inj e307).symm)))
              · rw [if_neg q310] at e307
                refine mG_ic (pc := 291) C dL_comeBy_291 kI0 ?_
                refine mG_is (ls' := [some (.ref p0), none, some (.int (1 + o12.1)), some (.int o25.1), some (.int (2 + o31.1)), some (.ref o31.2.2), none, none, some (.int s296.1), some (.int s296.2.1), some (.int s296.2.2.1), some (.int 0), none, none, none, none]) (pc := 292) C dL_comeBy_292 rfl rfl rfl ?_
                refine mG_aload (pc := 294) C dL_comeBy_294 rfl ?_
                refine mG_as (ls' := [some (.ref p0), none, some (.int (1 + o12.1)), some (.int o25.1), some (.int (2 + o31.1)), some (.ref o31.2.2), none, none, some (.int s296.1), some (.int s296.2.1), some (.int s296.2.2.1), some (.int 0), some (.ref o31.2.2), none, none, none]) (pc := 296) C dL_comeBy_296 rfl rfl rfl ?_
                refine mG_aload (pc := 298) C dL_comeBy_298 rfl ?_
                obtain ⟨v311, e312, e307⟩ := mx_bind e307
                refine mG_arraylength (pc := 300) C dL_comeBy_300 e312 ?_
                refine mG_is (ls' := [some (.ref p0), none, some (.int (1 + o12.1)), some (.int o25.1), some (.int (2 + o31.1)), some (.ref o31.2.2), none, none, some (.int s296.1), some (.int s296.2.1), some (.int s296.2.2.1), some (.int 0), some (.ref o31.2.2), some (.int v311), none, none]) (pc := 301) C dL_comeBy_301 rfl rfl rfl ?_
                refine mG_ic (pc := 303) C dL_comeBy_303 kI0 ?_
                refine mG_is (ls' := [some (.ref p0), none, some (.int (1 + o12.1)), some (.int o25.1), some (.int (2 + o31.1)), some (.ref o31.2.2), none, none, some (.int s296.1), some (.int s296.2.1), some (.int s296.2.2.1), some (.int 0), some (.ref o31.2.2), some (.int v311), some (.int 0), none]) (pc := 304) C dL_comeBy_304 rfl rfl rfl ?_
                obtain ⟨r314, e315, e307⟩ := mx_bind e307
                have J316 : ∀ r329 : Int32, r329 = r314 → mG l Z X 16 k297 n298 343 [some (.ref p0), none, some (.int (1 + o12.1)), some (.int o25.1), some (.int (2 + o31.1)), some (.ref o31.2.2), none, none, some (.int s296.1), some (.int s296.2.1), some (.int s296.2.2.1), some (.int r329), none, none, none, none] [] s296.2.2.2 := by
                  intro r329 q356
                  subst q356
                  refine mG_aload_n (pc := 343) C dL_comeBy_343 rfl ?_
                  obtain ⟨r330, e331, e307⟩ := mx_bind e307
                  refine mG_getR (pc := 344) C dL_comeBy_344 fl_L_10 e331 ?_
                  refine mG_iload (pc := 347) C dL_comeBy_347 rfl ?_
                  obtain ⟨u332, e333, e307⟩ := mx_bind e307
                  obtain ⟨o335, e334, e307⟩ := mx_bind e307
                  refine mG_cV2 (pc := 349) (k' := (k297 + 1)) (n' := (n298 + 6)) (h' := o335.2) (v := some (.int o335.1)) 9 [.int s296.2.2.1] [] C hX dL_comeBy_349 lkV_L_265 rfl rfl e333 (tX9_counted hl (mxOk_some e334)) rfl (by show k297 + 1 = (k297 + 1); omega) (by show n298 + 6 = (n298 + 6); omega) ⟨by show (k297 + 1) ≤ 131; omega, by show (n298 + 6) ≤ 9294; omega⟩ rfl ?_
                  refine mG_is (ls' := [some (.ref p0), none, some (.int (1 + o12.1)), some (.int o25.1), some (.int (2 + o31.1)), some (.ref o31.2.2), none, none, some (.int s296.1), some (.int s296.2.1), some (.int s296.2.2.1), some (.int r329), some (.int o335.1), none, none, none]) (pc := 352) C dL_comeBy_352 rfl rfl rfl ?_
                  refine mG_aload_n (pc := 354) C dL_comeBy_354 rfl ?_
                  obtain ⟨r336, e337, e307⟩ := mx_bind e307
                  refine mG_getR (pc := 355) C dL_comeBy_355 fl_L_10 e337 ?_
                  refine mG_iload (pc := 358) C dL_comeBy_358 rfl ?_
                  obtain ⟨u338, e339, e307⟩ := mx_bind e307
                  obtain ⟨o341, e340, e307⟩ := mx_bind e307
                  refine mG_cV2 (pc := 360) (k' := (k297 + 2)) (n' := (n298 + 12)) (h' := o341.2) (v := some (.int o341.1)) 9 [.int s296.2.2.1] [] C hX dL_comeBy_360 lkV_L_268 rfl rfl e339 (tX9_came hl (mxOk_some e340)) rfl (by show (k297 + 1) + 1 = (k297 + 2); omega) (by show (n298 + 6) + 6 = (n298 + 12); omega) ⟨by show (k297 + 2) ≤ 131; omega, by show (n298 + 12) ≤ 9294; omega⟩ rfl ?_
                  refine mG_iload (pc := 363) C dL_comeBy_363 rfl ?_
                  refine mG_icmp_ne (pc := 365) (tgt := 390) C dL_comeBy_365 (by decide) (fun q342 => ?_) (fun q342 => ?_)
                  · rw [if_neg q342] at e307
                    exact mG_wd (by omega) (by omega) (mG_sub (mxLe_n (mxLe_n (mxLe_n (mxLe_n (mxLe_n (mxLe_n (mxLe_n (mxLe_n (mxLe_n (mxLe_n (mxLe_n (mxLe_n (mxLe_n (mxLe_n (mxLe_n (mxLe_n mxLe_z)))))))))))))))) (J300 _ (hx303 _ (Option.some.inj e307).symm)))
                  · rw [if_pos q342] at e307
                    refine mG_iload (pc := 368) C dL_comeBy_368 rfl ?_
                    refine mG_iload (pc := 370) C dL_comeBy_370 rfl ?_
                    refine mG_icmp_gt (pc := 372) (tgt := 390) C dL_comeBy_372 (by decide) (fun q343 => ?_) (fun q343 => ?_)
                    · rw [if_pos q343] at e307
                      exact mG_wd (by omega) (by omega) (mG_sub (mxLe_n (mxLe_n (mxLe_n (mxLe_n (mxLe_n (mxLe_n (mxLe_n (mxLe_n (mxLe_n (mxLe_n (mxLe_n (mxLe_n (mxLe_n (mxLe_n (mxLe_n (mxLe_n mxLe_z)))))))))))))))) (J300 _ (hx303 _ (Option.some.inj e307).symm)))
                    · rw [if_neg q343] at e307
                      refine mG_iload (pc := 375) C dL_comeBy_375 rfl ?_
                      refine mG_aload_n (pc := 377) C dL_comeBy_377 rfl ?_
                      obtain ⟨r344, e345, e307⟩ := mx_bind e307
                      refine mG_getR (pc := 378) C dL_comeBy_378 fl_L_10 e345 ?_
                      obtain ⟨u346, e347, e307⟩ := mx_bind e307
                      obtain ⟨o349, e348, e307⟩ := mx_bind e307
                      refine mG_cV2 (pc := 381) (k' := (k297 + 2)) (n' := (n298 + 12)) (h' := o341.2) (v := some (.int o349)) 9 [] [.int o335.1] C hX dL_comeBy_381 lkV_L_271 rfl rfl e347 (tX9_bound hl e348) rfl (by show (k297 + 2) + 0 = (k297 + 2); omega) (by show (n298 + 12) + 0 = (n298 + 12); omega) ⟨by show (k297 + 2) ≤ 131; omega, by show (n298 + 12) ≤ 9294; omega⟩ rfl ?_
                      refine mG_iadd (pc := 384) C dL_comeBy_384 ?_
                      refine mG_iload (pc := 385) C dL_comeBy_385 rfl ?_
                      refine mG_icmp_ge (pc := 387) (tgt := 392) C dL_comeBy_387 (by decide) (fun q350 => ?_) (fun q350 => ?_)
                      · rw [if_pos q350] at e307
                        refine mG_iload (pc := 392) C dL_comeBy_392 rfl ?_
                        refine mG_iload (pc := 394) C dL_comeBy_394 rfl ?_
                        refine mG_iadd (pc := 396) C dL_comeBy_396 ?_
                        refine mG_is (ls' := [some (.ref p0), none, some (.int (1 + o12.1)), some (.int o25.1), some (.int (2 + o31.1)), some (.ref o31.2.2), none, none, some (.int (s296.1 + o335.1)), some (.int s296.2.1), some (.int s296.2.2.1), some (.int r329), some (.int o335.1), none, none, none]) (pc := 397) C dL_comeBy_397 rfl rfl rfl ?_
                        refine mG_iload (pc := 399) C dL_comeBy_399 rfl ?_
                        refine mG_iload (pc := 401) C dL_comeBy_401 rfl ?_
                        obtain ⟨jp353, e354, e307⟩ := mx_bind e307
                        have J352 : ∀ jp353' : Int32, jp353' = jp353 → mG l Z X 16 (k297 + 2) (n298 + 12) 411 [some (.ref p0), none, some (.int (1 + o12.1)), some (.int o25.1), some (.int (2 + o31.1)), some (.ref o31.2.2), none, none, some (.int (s296.1 + o335.1)), none, some (.int s296.2.2.1), none, none, none, none, none] [.int jp353', .int s296.2.1] o341.2 := by
                          intro jp353' q355
                          subst q355
                          refine mG_iadd (pc := 411) C dL_comeBy_411 ?_
                          refine mG_is (ls' := [some (.ref p0), none, some (.int (1 + o12.1)), some (.int o25.1), some (.int (2 + o31.1)), some (.ref o31.2.2), none, none, some (.int (s296.1 + o335.1)), some (.int (s296.2.1 + jp353')), some (.int s296.2.2.1), none, none, none, none, none]) (pc := 412) C dL_comeBy_412 rfl rfl rfl ?_
                          refine mG_ii (ls' := [some (.ref p0), none, some (.int (1 + o12.1)), some (.int o25.1), some (.int (2 + o31.1)), some (.ref o31.2.2), none, none, some (.int (s296.1 + o335.1)), some (.int (s296.2.1 + jp353')), some (.int (s296.2.2.1 + 1)), none, none, none, none, none]) (pc := 414) C dL_comeBy_414 rfl (kinc1 _) rfl rfl rfl ?_
                          refine mG_goto (tgt := 284) (pc := 417) C dL_comeBy_417 (by decide) ?_
                          exact mG_sub (mxLe_s (mxLe_n (mxLe_s (mxLe_s (mxLe_s (mxLe_s (mxLe_n (mxLe_n (mxLe_s (mxLe_s (mxLe_s (mxLe_n (mxLe_n (mxLe_n (mxLe_n (mxLe_n mxLe_z)))))))))))))))) (hK302 _ (Option.some.inj e307).symm _ _ (by omega) (by omega))
                        refine mG_if_le (pc := 403) (tgt := 410) C dL_comeBy_403 (by decide) (fun q351 => ?_) (fun q351 => ?_)
                        · rw [if_pos q351] at e354
                          refine mG_ic (pc := 410) C dL_comeBy_410 kI0 ?_
                          exact mG_sub (mxLe_s (mxLe_n (mxLe_s (mxLe_s (mxLe_s (mxLe_s (mxLe_n (mxLe_n (mxLe_s (mxLe_n (mxLe_s (mxLe_n (mxLe_n (mxLe_n (mxLe_n (mxLe_n mxLe_z)))))))))))))))) (J352 _ (Option.some.inj e354))
                        · rw [if_neg q351] at e354
                          refine mG_ic (pc := 406) C dL_comeBy_406 kI1 ?_
                          refine mG_goto (tgt := 411) (pc := 407) C dL_comeBy_407 (by decide) ?_
                          exact mG_sub (mxLe_s (mxLe_n (mxLe_s (mxLe_s (mxLe_s (mxLe_s (mxLe_n (mxLe_n (mxLe_s (mxLe_n (mxLe_s (mxLe_n (mxLe_n (mxLe_n (mxLe_n (mxLe_n mxLe_z)))))))))))))))) (J352 _ (Option.some.inj e354))
                      · rw [if_neg q350] at e307
                        exact mG_wd (by omega) (by omega) (mG_sub (mxLe_n (mxLe_n (mxLe_n (mxLe_n (mxLe_n (mxLe_n (mxLe_n (mxLe_n (mxLe_n (mxLe_n (mxLe_n (mxLe_n (mxLe_n (mxLe_n (mxLe_n (mxLe_n mxLe_z)))))))))))))))) (J300 _ (hx303 _ (Option.some.inj e307).symm)))
                refine mG_sub (ls' := [some (.ref p0), none, some (.int (1 + o12.1)), some (.int o25.1), some (.int (2 + o31.1)), some (.ref o31.2.2), none, none, some (.int s296.1), some (.int s296.2.1), some (.int s296.2.2.1), some (.int 0), some (.ref o31.2.2), some (.int v311), some (.int 0), none]) (mxLe_s (mxLe_n (mxLe_s (mxLe_s (mxLe_s (mxLe_s (mxLe_n (mxLe_n (mxLe_s (mxLe_s (mxLe_s (mxLe_s (mxLe_s (mxLe_s (mxLe_s (mxLe_n mxLe_z)))))))))))))))) (mxLoop_ind (K := fun s313 : (Int32 × Int32) => mG l Z X 16 k297 n298 306 [some (.ref p0), none, some (.int (1 + o12.1)), some (.int o25.1), some (.int (2 + o31.1)), some (.ref o31.2.2), none, none, some (.int s296.1), some (.int s296.2.1), some (.int s296.2.2.1), some (.int s313.1), some (.ref o31.2.2), some (.int v311), some (.int s313.2), none] [] s296.2.2.2) ?_ _ _ e315)
                intro s313 o319 e320 hK317 hx318
                refine mG_iload (pc := 306) C dL_comeBy_306 rfl ?_
                refine mG_iload (pc := 308) C dL_comeBy_308 rfl ?_
                refine mG_icmp_ge (pc := 310) (tgt := 343) C dL_comeBy_310 (by decide) (fun q321 => ?_) (fun q321 => ?_)
                · rw [if_pos q321] at e320
                  exact mG_sub (mxLe_s (mxLe_n (mxLe_s (mxLe_s (mxLe_s (mxLe_s (mxLe_n (mxLe_n (mxLe_s (mxLe_s (mxLe_s (mxLe_s (mxLe_n (mxLe_n (mxLe_n (mxLe_n mxLe_z)))))))))))))))) (J316 _ (hx318 _ (Option.some.inj e320).symm))
                · rw [if_neg q321] at e320
                  refine mG_aload (pc := 313) C dL_comeBy_313 rfl ?_
                  refine mG_iload (pc := 315) C dL_comeBy_315 rfl ?_
                  obtain ⟨v322, e323, e320⟩ := mx_bind e320
                  refine mG_iaload (pc := 317) C dL_comeBy_317 e323 ?_
                  refine mG_is (ls' := [some (.ref p0), none, some (.int (1 + o12.1)), some (.int o25.1), some (.int (2 + o31.1)), some (.ref o31.2.2), none, none, some (.int s296.1), some (.int s296.2.1), some (.int s296.2.2.1), some (.int s313.1), some (.ref o31.2.2), some (.int v311), some (.int s313.2), some (.int v322)]) (pc := 318) C dL_comeBy_318 rfl rfl rfl ?_
                  refine mG_iload (pc := 320) C dL_comeBy_320 rfl ?_
                  refine mG_iload (pc := 322) C dL_comeBy_322 rfl ?_
                  refine mG_iload (pc := 324) C dL_comeBy_324 rfl ?_
                  obtain ⟨jp326, e327, e320⟩ := mx_bind e320
                  have J325 : ∀ jp326' : Int32, jp326' = jp326 → mG l Z X 16 k297 n298 334 [some (.ref p0), none, some (.int (1 + o12.1)), some (.int o25.1), some (.int (2 + o31.1)), some (.ref o31.2.2), none, none, some (.int s296.1), some (.int s296.2.1), some (.int s296.2.2.1), none, some (.ref o31.2.2), some (.int v311), some (.int s313.2), none] [.int jp326', .int s313.1] s296.2.2.2 := by
                    intro jp326' q328
                    subst q328
                    refine mG_iadd (pc := 334) C dL_comeBy_334 ?_
                    refine mG_is (ls' := [some (.ref p0), none, some (.int (1 + o12.1)), some (.int o25.1), some (.int (2 + o31.1)), some (.ref o31.2.2), none, none, some (.int s296.1), some (.int s296.2.1), some (.int s296.2.2.1), some (.int (s313.1 + jp326')), some (.ref o31.2.2), some (.int v311), some (.int s313.2), none]) (pc := 335) C dL_comeBy_335 rfl rfl rfl ?_
                    refine mG_ii (ls' := [some (.ref p0), none, some (.int (1 + o12.1)), some (.int o25.1), some (.int (2 + o31.1)), some (.ref o31.2.2), none, none, some (.int s296.1), some (.int s296.2.1), some (.int s296.2.2.1), some (.int (s313.1 + jp326')), some (.ref o31.2.2), some (.int v311), some (.int (s313.2 + 1)), none]) (pc := 337) C dL_comeBy_337 rfl (kinc1 _) rfl rfl rfl ?_
                    refine mG_goto (tgt := 306) (pc := 340) C dL_comeBy_340 (by decide) ?_
                    exact mG_sub (mxLe_s (mxLe_n (mxLe_s (mxLe_s (mxLe_s (mxLe_s (mxLe_n (mxLe_n (mxLe_s (mxLe_s (mxLe_s (mxLe_s (mxLe_s (mxLe_s (mxLe_s (mxLe_n mxLe_z)))))))))))))))) (hK317 _ (Option.some.inj e320).symm)
                  refine mG_icmp_ne (pc := 326) (tgt := 333) C dL_comeBy_326 (by decide) (fun q324 => ?_) (fun q324 => ?_)
                  · rw [if_neg q324] at e327
                    refine mG_ic (pc := 333) C dL_comeBy_333 kI0 ?_
                    exact mG_sub (mxLe_s (mxLe_n (mxLe_s (mxLe_s (mxLe_s (mxLe_s (mxLe_n (mxLe_n (mxLe_s (mxLe_s (mxLe_s (mxLe_n (mxLe_s (mxLe_s (mxLe_s (mxLe_n mxLe_z)))))))))))))))) (J325 _ (Option.some.inj e327))
                  · rw [if_pos q324] at e327
                    refine mG_ic (pc := 329) C dL_comeBy_329 kI1 ?_
                    refine mG_goto (tgt := 334) (pc := 330) C dL_comeBy_330 (by decide) ?_
                    exact mG_sub (mxLe_s (mxLe_n (mxLe_s (mxLe_s (mxLe_s (mxLe_s (mxLe_n (mxLe_n (mxLe_s (mxLe_s (mxLe_s (mxLe_n (mxLe_s (mxLe_s (mxLe_s (mxLe_n mxLe_z)))))))))))))))) (J325 _ (Option.some.inj e327))
            · rw [if_neg q239] at hf
              refine mG_ic (pc := 273) C dL_comeBy_273 kI0 ?_
              obtain ⟨v384, e385, hf⟩ := mx_bind hf
              cases hf
              exact mG_zr2 (pc := 274) C e385 E hX dL_comeBy_274 ⟨Nat.le_of_ble_eq_true rfl, Nat.le_of_ble_eq_true rfl⟩
        refine mG_sub (ls' := [some (.ref p0), none, some (.int (1 + o12.1)), some (.int o25.1), some (.int (2 + o31.1)), some (.ref o31.2.2), some (.ref r115.2), some (.int 0), some (.int 0), none, none, none, none, none, none, none]) (mxLe_s (mxLe_n (mxLe_s (mxLe_s (mxLe_s (mxLe_s (mxLe_s (mxLe_s (mxLe_s (mxLe_n (mxLe_n (mxLe_n (mxLe_n (mxLe_n (mxLe_n (mxLe_n mxLe_z)))))))))))))))) (mxLoop_indN (K := fun (N177 : Nat) (s174 : (Int32 × Int32 × mxH)) => ∀ k175 n176 : Nat, k175 + 1 * N177 ≤ 101 + 1 * 12 → n176 + 6 * N177 ≤ 9114 + 6 * 12 → mG l Z X 16 k175 n176 179 [some (.ref p0), none, some (.int (1 + o12.1)), some (.int o25.1), some (.int (2 + o31.1)), some (.ref o31.2.2), some (.ref r115.2), some (.int s174.1), some (.int s174.2.1), none, none, none, none, none, none, none] [] s174.2.2) ?_ _ _ e183 _ _ (Nat.le_refl _) (Nat.le_refl _))
        intro N177 s174 o184 e185 hK180 hx181 k175 n176 hk186 hn187
        refine mG_iload (pc := 179) C dL_comeBy_179 rfl ?_
        refine mG_aload (pc := 181) C dL_comeBy_181 rfl ?_
        obtain ⟨v188, e189, e185⟩ := mx_bind e185
        refine mG_arraylength (pc := 183) C dL_comeBy_183 e189 ?_
        refine mG_icmp_ge (pc := 184) (tgt := 248) C dL_comeBy_184 (by decide) (fun q190 => ?_) (fun q190 => ?_)
        · rw [if_pos q190] at e185
          exact mG_wd (by omega) (by omega) (mG_sub (mxLe_s (mxLe_n (mxLe_s (mxLe_s (mxLe_s (mxLe_s (mxLe_s (mxLe_s (mxLe_n (mxLe_n (mxLe_n (mxLe_n (mxLe_n (mxLe_n (mxLe_n (mxLe_n mxLe_z)))))))))))))))) (J179 _ (hx181 _ (Option.some.inj e185).symm)))
        · rw [if_neg q190] at e185
          refine mG_aload_n (pc := 187) C dL_comeBy_187 rfl ?_
          obtain ⟨r191, e192, e185⟩ := mx_bind e185
          refine mG_getR (pc := 188) C dL_comeBy_188 fl_L_10 e192 ?_
          refine mG_iload (pc := 191) C dL_comeBy_191 rfl ?_
          obtain ⟨u193, e194, e185⟩ := mx_bind e185
          obtain ⟨o196, e195, e185⟩ := mx_bind e185
          refine mG_cV2 (pc := 193) (k' := (k175 + 1)) (n' := (n176 + 6)) (h' := o196.2) (v := some (.int o196.1)) 9 [.int s174.2.1] [] C hX dL_comeBy_193 lkV_L_256 rfl rfl e194 (tX9_windowAt hl (mxOk_some e195)) rfl (by show k175 + 1 = (k175 + 1); omega) (by show n176 + 6 = (n176 + 6); omega) ⟨by show (k175 + 1) ≤ 131; omega, by show (n176 + 6) ≤ 9294; omega⟩ rfl ?_
          refine mG_aload (pc := 196) C dL_comeBy_196 rfl ?_
          refine mG_aload (pc := 198) C dL_comeBy_198 rfl ?_
          obtain ⟨v197, e198, e185⟩ := mx_bind e185
          refine mG_arraylength (pc := 200) C dL_comeBy_200 e198 ?_
          refine mG_ic (pc := 201) C dL_comeBy_201 kI1 ?_
          refine mG_isub (pc := 202) C dL_comeBy_202 ?_
          refine mG_iload (pc := 203) C dL_comeBy_203 rfl ?_
          refine mG_isub (pc := 205) C dL_comeBy_205 ?_
          obtain ⟨v199, e200, e185⟩ := mx_bind e185
          refine mG_iaload (pc := 206) C dL_comeBy_206 e200 ?_
          refine mG_icmp_eq (pc := 207) (tgt := 212) C dL_comeBy_207 (by decide) (fun q201 => ?_) (fun q201 => ?_)
          · rw [if_pos q201] at e185
            refine mG_iload (pc := 212) C dL_comeBy_212 rfl ?_
            refine mG_iload (pc := 214) C dL_comeBy_214 rfl ?_
            obtain ⟨jp204, e205, e185⟩ := mx_bind e185
            have J203 : ∀ jp204' : Int32, jp204' = jp204 → mG l Z X 16 (k175 + 1) (n176 + 6) 239 [some (.ref p0), none, some (.int (1 + o12.1)), some (.int o25.1), some (.int (2 + o31.1)), some (.ref o31.2.2), some (.ref r115.2), none, some (.int s174.2.1), none, none, none, none, none, none, none] [.int jp204', .int s174.1] o196.2 := by
              intro jp204' q216
              subst q216
              refine mG_iadd (pc := 239) C dL_comeBy_239 ?_
              refine mG_is (ls' := [some (.ref p0), none, some (.int (1 + o12.1)), some (.int o25.1), some (.int (2 + o31.1)), some (.ref o31.2.2), some (.ref r115.2), some (.int (s174.1 + jp204')), some (.int s174.2.1), none, none, none, none, none, none, none]) (pc := 240) C dL_comeBy_240 rfl rfl rfl ?_
              refine mG_ii (ls' := [some (.ref p0), none, some (.int (1 + o12.1)), some (.int o25.1), some (.int (2 + o31.1)), some (.ref o31.2.2), some (.ref r115.2), some (.int (s174.1 + jp204')), some (.int (s174.2.1 + 1)), none, none, none, none, none, none, none]) (pc := 242) C dL_comeBy_242 rfl (kinc1 _) rfl rfl rfl ?_
              refine mG_goto (tgt := 179) (pc := 245) C dL_comeBy_245 (by decide) ?_
              exact mG_sub (mxLe_s (mxLe_n (mxLe_s (mxLe_s (mxLe_s (mxLe_s (mxLe_s (mxLe_s (mxLe_s (mxLe_n (mxLe_n (mxLe_n (mxLe_n (mxLe_n (mxLe_n (mxLe_n mxLe_z)))))))))))))))) (hK180 _ (Option.some.inj e185).symm _ _ (by omega) (by omega))
            refine mG_if_eq (pc := 216) (tgt := 234) C dL_comeBy_216 (by decide) (fun q202 => ?_) (fun q202 => ?_)
            · rw [if_pos q202] at e205
              refine mG_ic (pc := 234) C dL_comeBy_234 kI1 ?_
              refine mG_goto (tgt := 239) (pc := 235) C dL_comeBy_235 (by decide) ?_
              exact mG_sub (mxLe_s (mxLe_n (mxLe_s (mxLe_s (mxLe_s (mxLe_s (mxLe_s (mxLe_n (mxLe_s (mxLe_n (mxLe_n (mxLe_n (mxLe_n (mxLe_n (mxLe_n (mxLe_n mxLe_z)))))))))))))))) (J203 _ (Option.some.inj e205))
            · rw [if_neg q202] at e205
              refine mG_aload (pc := 219) C dL_comeBy_219 rfl ?_
              refine mG_iload (pc := 221) C dL_comeBy_221 rfl ?_
              obtain ⟨v211, e212, e205⟩ := mx_bind e205
              refine mG_iaload (pc := 223) C dL_comeBy_223 e212 ?_
              refine mG_aload (pc := 224) C dL_comeBy_224 rfl ?_
              refine mG_iload (pc := 226) C dL_comeBy_226 rfl ?_
              refine mG_ic (pc := 228) C dL_comeBy_228 kI1 ?_
              refine mG_isub (pc := 229) C dL_comeBy_229 ?_
              obtain ⟨v213, e214, e205⟩ := mx_bind e205
              refine mG_iaload (pc := 230) C dL_comeBy_230 e214 ?_
              refine mG_icmp_eq (pc := 231) (tgt := 238) C dL_comeBy_231 (by decide) (fun q215 => ?_) (fun q215 => ?_)
              · rw [if_pos q215] at e205
                refine mG_ic (pc := 238) C dL_comeBy_238 kI0 ?_
                exact mG_sub (mxLe_s (mxLe_n (mxLe_s (mxLe_s (mxLe_s (mxLe_s (mxLe_s (mxLe_n (mxLe_s (mxLe_n (mxLe_n (mxLe_n (mxLe_n (mxLe_n (mxLe_n (mxLe_n mxLe_z)))))))))))))))) (J203 _ (Option.some.inj e205))
              · rw [if_neg q215] at e205
                refine mG_ic (pc := 234) C dL_comeBy_234 kI1 ?_
                refine mG_goto (tgt := 239) (pc := 235) C dL_comeBy_235 (by decide) ?_
                exact mG_sub (mxLe_s (mxLe_n (mxLe_s (mxLe_s (mxLe_s (mxLe_s (mxLe_s (mxLe_n (mxLe_s (mxLe_n (mxLe_n (mxLe_n (mxLe_n (mxLe_n (mxLe_n (mxLe_n mxLe_z)))))))))))))))) (J203 _ (Option.some.inj e205))
          · rw [if_neg q201] at e185
            exact mG_wd (by omega) (by omega) (mG_sub (mxLe_n (mxLe_n (mxLe_n (mxLe_n (mxLe_n (mxLe_n (mxLe_n (mxLe_n (mxLe_n (mxLe_n (mxLe_n (mxLe_n (mxLe_n (mxLe_n (mxLe_n (mxLe_n mxLe_z)))))))))))))))) (J178 _ (hx181 _ (Option.some.inj e185).symm)))
      refine mG_sub (ls' := [some (.ref p0), none, some (.int (1 + o12.1)), some (.int o25.1), some (.int (2 + o31.1)), some (.ref o31.2.2), some (.ref r115.2), some (.int 0), none, none, none, none, none, none, none, none]) (mxLe_s (mxLe_n (mxLe_s (mxLe_s (mxLe_s (mxLe_s (mxLe_s (mxLe_s (mxLe_n (mxLe_n (mxLe_n (mxLe_n (mxLe_n (mxLe_n (mxLe_n (mxLe_n mxLe_z)))))))))))))))) (mxLoop_ind (K := fun s118 : (Int32 × mxH) => mG l Z X 16 31 224 140 [some (.ref p0), none, some (.int (1 + o12.1)), some (.int o25.1), some (.int (2 + o31.1)), some (.ref o31.2.2), some (.ref r115.2), some (.int s118.1), none, none, none, none, none, none, none, none] [] s118.2) ?_ _ _ e120)
      intro s118 o124 e125 hK122 hx123
      refine mG_iload (pc := 140) C dL_comeBy_140 rfl ?_
      refine mG_aload (pc := 142) C dL_comeBy_142 rfl ?_
      obtain ⟨v126, e127, e125⟩ := mx_bind e125
      refine mG_arraylength (pc := 144) C dL_comeBy_144 e127 ?_
      refine mG_icmp_ge (pc := 145) (tgt := 168) C dL_comeBy_145 (by decide) (fun q128 => ?_) (fun q128 => ?_)
      · rw [if_pos q128] at e125
        exact mG_sub (mxLe_s (mxLe_n (mxLe_s (mxLe_s (mxLe_s (mxLe_s (mxLe_s (mxLe_n (mxLe_n (mxLe_n (mxLe_n (mxLe_n (mxLe_n (mxLe_n (mxLe_n (mxLe_n mxLe_z)))))))))))))))) (J121 _ (hx123 _ (Option.some.inj e125).symm))
      · rw [if_neg q128] at e125
        refine mG_aload (pc := 148) C dL_comeBy_148 rfl ?_
        refine mG_iload (pc := 150) C dL_comeBy_150 rfl ?_
        refine mG_aload (pc := 152) C dL_comeBy_152 rfl ?_
        refine mG_iload_n (pc := 154) C dL_comeBy_154 rfl ?_
        refine mG_ic (pc := 155) C dL_comeBy_155 kI1 ?_
        refine mG_isub (pc := 156) C dL_comeBy_156 ?_
        refine mG_iload (pc := 157) C dL_comeBy_157 rfl ?_
        refine mG_isub (pc := 159) C dL_comeBy_159 ?_
        obtain ⟨v129, e130, e125⟩ := mx_bind e125
        refine mG_iaload (pc := 160) C dL_comeBy_160 e130 ?_
        obtain ⟨h131, e132, e125⟩ := mx_bind e125
        refine mG_iastore (pc := 161) C dL_comeBy_161 e132 ?_
        refine mG_ii (ls' := [some (.ref p0), none, some (.int (1 + o12.1)), some (.int o25.1), some (.int (2 + o31.1)), some (.ref o31.2.2), some (.ref r115.2), some (.int (s118.1 + 1)), none, none, none, none, none, none, none, none]) (pc := 162) C dL_comeBy_162 rfl (kinc1 _) rfl rfl rfl ?_
        refine mG_goto (tgt := 140) (pc := 165) C dL_comeBy_165 (by decide) ?_
        exact mG_sub (mxLe_s (mxLe_n (mxLe_s (mxLe_s (mxLe_s (mxLe_s (mxLe_s (mxLe_s (mxLe_n (mxLe_n (mxLe_n (mxLe_n (mxLe_n (mxLe_n (mxLe_n (mxLe_n mxLe_z)))))))))))))))) (hK122 _ (Option.some.inj e125).symm)
    refine mG_sub (ls' := [some (.ref p0), some (.int (1 + o6.1)), some (.int (1 + o12.1)), some (.int o25.1), some (.int (2 + o31.1)), some (.ref o31.2.2), some (.int 0), none, none, none, none, none, none, none, none, none]) (mxLe_s (mxLe_s (mxLe_s (mxLe_s (mxLe_s (mxLe_s (mxLe_s (mxLe_n (mxLe_n (mxLe_n (mxLe_n (mxLe_n (mxLe_n (mxLe_n (mxLe_n (mxLe_n mxLe_z)))))))))))))))) (mxLoop_indN (K := fun (N73 : Nat) (s70 : (Int32 × mxH)) => ∀ k71 n72 : Nat, k71 + 1 * N73 ≤ 3 + 1 * 27 → n72 + 6 * N73 ≤ 37 + 6 * 27 → mG l Z X 16 k71 n72 68 [some (.ref p0), some (.int (1 + o6.1)), some (.int (1 + o12.1)), some (.int o25.1), some (.int (2 + o31.1)), some (.ref o31.2.2), some (.int s70.1), none, none, none, none, none, none, none, none, none] [] s70.2) ?_ _ _ e79 _ _ (Nat.le_refl _) (Nat.le_refl _))
    intro N73 s70 o80 e81 hK76 hx77 k71 n72 hk82 hn83
    refine mG_iload (pc := 68) C dL_comeBy_68 rfl ?_
    refine mG_iload_n (pc := 70) C dL_comeBy_70 rfl ?_
    refine mG_icmp_ge (pc := 71) (tgt := 128) C dL_comeBy_71 (by decide) (fun q84 => ?_) (fun q84 => ?_)
    · rw [if_pos q84] at e81
      exact mG_wd (by omega) (by omega) (mG_sub (mxLe_s (mxLe_s (mxLe_s (mxLe_s (mxLe_s (mxLe_s (mxLe_n (mxLe_n (mxLe_n (mxLe_n (mxLe_n (mxLe_n (mxLe_n (mxLe_n (mxLe_n (mxLe_n mxLe_z)))))))))))))))) (J75 _ (hx77 _ (Option.some.inj e81).symm)))
    · rw [if_neg q84] at e81
      refine mG_aload (pc := 74) C dL_comeBy_74 rfl ?_
      refine mG_iload (pc := 76) C dL_comeBy_76 rfl ?_
      refine mG_aload_n (pc := 78) C dL_comeBy_78 rfl ?_
      obtain ⟨r85, e86, e81⟩ := mx_bind e81
      refine mG_getR (pc := 79) C dL_comeBy_79 fl_L_25 e86 ?_
      refine mG_iload (pc := 82) C dL_comeBy_82 rfl ?_
      obtain ⟨u87, e88, e81⟩ := mx_bind e81
      obtain ⟨o90, e89, e81⟩ := mx_bind e81
      refine mG_cV2 (pc := 84) (k' := k71) (n' := n72) (h' := o90.2) (v := some (.int o90.1)) 10 [.int (2 + o31.1)] [.int s70.1, .ref o31.2.2] C hX dL_comeBy_84 lkV_L_30 rfl rfl e88 (tX10_next hl e89) rfl (by show k71 + 0 = k71; omega) (by show n72 + 0 = n72; omega) ⟨by show k71 ≤ 131; omega, by show n72 ≤ 9294; omega⟩ rfl ?_
      obtain ⟨h91, e92, e81⟩ := mx_bind e81
      refine mG_iastore (pc := 87) C dL_comeBy_87 e92 ?_
      refine mG_aload_n (pc := 88) C dL_comeBy_88 rfl ?_
      obtain ⟨r93, e94, e81⟩ := mx_bind e81
      refine mG_getR (pc := 89) C dL_comeBy_89 fl_L_10 e94 ?_
      refine mG_aload (pc := 92) C dL_comeBy_92 rfl ?_
      refine mG_iload (pc := 94) C dL_comeBy_94 rfl ?_
      obtain ⟨v95, e96, e81⟩ := mx_bind e81
      refine mG_iaload (pc := 96) C dL_comeBy_96 e96 ?_
      obtain ⟨u97, e98, e81⟩ := mx_bind e81
      obtain ⟨o100, e99, e81⟩ := mx_bind e81
      refine mG_cV2 (pc := 97) (k' := (k71 + 1)) (n' := (n72 + 6)) (h' := o100.2) (v := some (.int o100.1)) 9 [.int v95] [] C hX dL_comeBy_97 lkV_L_253 rfl rfl e98 (tX9_push hl (mxOk_some e99)) rfl (by show k71 + 1 = (k71 + 1); omega) (by show n72 + 6 = (n72 + 6); omega) ⟨by show (k71 + 1) ≤ 131; omega, by show (n72 + 6) ≤ 9294; omega⟩ rfl ?_
      refine mG_iload (pc := 100) C dL_comeBy_100 rfl ?_
      refine mG_iload_n (pc := 102) C dL_comeBy_102 rfl ?_
      obtain ⟨jp103, e104, e81⟩ := mx_bind e81
      have J102 : ∀ jp103' : Int32, jp103' = jp103 → mG l Z X 16 (k71 + 1) (n72 + 6) 117 [some (.ref p0), some (.int (1 + o6.1)), some (.int (1 + o12.1)), some (.int o25.1), some (.int (2 + o31.1)), some (.ref o31.2.2), some (.int s70.1), none, none, none, none, none, none, none, none, none] [.int jp103', .int o100.1] o100.2 := by
        intro jp103' q110
        subst q110
        refine mG_icmp_eq (pc := 117) (tgt := 122) C dL_comeBy_117 (by decide) (fun q109 => ?_) (fun q109 => ?_)
        · rw [if_pos q109] at e81
          refine mG_ii (ls' := [some (.ref p0), some (.int (1 + o6.1)), some (.int (1 + o12.1)), some (.int o25.1), some (.int (2 + o31.1)), some (.ref o31.2.2), some (.int (s70.1 + 1)), none, none, none, none, none, none, none, none, none]) (pc := 122) C dL_comeBy_122 rfl (kinc1 _) rfl rfl rfl ?_
          refine mG_goto (tgt := 68) (pc := 125) C dL_comeBy_125 (by decide) ?_
          exact mG_sub (mxLe_s (mxLe_s (mxLe_s (mxLe_s (mxLe_s (mxLe_s (mxLe_s (mxLe_n (mxLe_n (mxLe_n (mxLe_n (mxLe_n (mxLe_n (mxLe_n (mxLe_n (mxLe_n mxLe_z)))))))))))))))) (hK76 _ (Option.some.inj e81).symm _ _ (by omega) (by omega))
        · rw [if_neg q109] at e81
          exact mG_wd (by omega) (by omega) (mG_sub (mxLe_n (mxLe_n (mxLe_n (mxLe_n (mxLe_n (mxLe_n (mxLe_n (mxLe_n (mxLe_n (mxLe_n (mxLe_n (mxLe_n (mxLe_n (mxLe_n (mxLe_n (mxLe_n mxLe_z)))))))))))))))) (J74 _ (hx77 _ (Option.some.inj e81).symm)))
      refine mG_icmp_ge (pc := 103) (tgt := 110) C dL_comeBy_103 (by decide) (fun q101 => ?_) (fun q101 => ?_)
      · rw [if_pos q101] at e104
        refine mG_aload (pc := 110) C dL_comeBy_110 rfl ?_
        refine mG_iload (pc := 112) C dL_comeBy_112 rfl ?_
        refine mG_iload_n (pc := 114) C dL_comeBy_114 rfl ?_
        refine mG_isub (pc := 115) C dL_comeBy_115 ?_
        obtain ⟨v107, e108, e104⟩ := mx_bind e104
        refine mG_iaload (pc := 116) C dL_comeBy_116 e108 ?_
        exact mG_sub (mxLe_s (mxLe_s (mxLe_s (mxLe_s (mxLe_s (mxLe_s (mxLe_s (mxLe_n (mxLe_n (mxLe_n (mxLe_n (mxLe_n (mxLe_n (mxLe_n (mxLe_n (mxLe_n mxLe_z)))))))))))))))) (J102 _ (Option.some.inj e104))
      · rw [if_neg q101] at e104
        refine mG_ic (pc := 106) C dL_comeBy_106 kIm1 ?_
        refine mG_goto (tgt := 117) (pc := 107) C dL_comeBy_107 (by decide) ?_
        exact mG_sub (mxLe_s (mxLe_s (mxLe_s (mxLe_s (mxLe_s (mxLe_s (mxLe_s (mxLe_n (mxLe_n (mxLe_n (mxLe_n (mxLe_n (mxLe_n (mxLe_n (mxLe_n (mxLe_n mxLe_z)))))))))))))))) (J102 _ (Option.some.inj e104))
  · rw [if_neg q19] at hf
    refine mG_ic (pc := 35) C dL_comeBy_35 kI0 ?_
    obtain ⟨v389, e390, hf⟩ := mx_bind hf
    cases hf
    exact mG_zr2 (pc := 36) C e390 E hX dL_comeBy_36 ⟨Nat.le_of_ble_eq_true rfl, Nat.le_of_ble_eq_true rfl⟩
