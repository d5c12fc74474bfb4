/-! printed by wip/gen54/emit2.py: for each method its function on the mini machine, and that the machine walks as the function says -/
theorem dL_law_0 : decode cL_law 0 = .ok (.new 11, 3) := by decide +kernel
theorem dL_law_3 : decode cL_law 3 = .ok (.dup, 1) := by decide +kernel
theorem dL_law_4 : decode cL_law 4 = .ok (.new 31, 3) := by decide +kernel
theorem dL_law_7 : decode cL_law 7 = .ok (.dup, 1) := by decide +kernel
theorem dL_law_8 : decode cL_law 8 = .ok (.aload_n 0, 1) := by decide +kernel
theorem dL_law_9 : decode cL_law 9 = .ok (.invokespecial 273, 3) := by decide +kernel
theorem dL_law_12 : decode cL_law 12 = .ok (.invokespecial 275, 3) := by decide +kernel
theorem dL_law_15 : decode cL_law 15 = .ok (.astore_n 1, 1) := by decide +kernel
theorem dL_law_16 : decode cL_law 16 = .ok (.aload_n 1, 1) := by decide +kernel
theorem dL_law_17 : decode cL_law 17 = .ok (.invokevirtual 278, 3) := by decide +kernel
theorem dL_law_20 : decode cL_law 20 = .ok (.ifCond .eq 10, 3) := by decide +kernel
theorem dL_law_23 : decode cL_law 23 = .ok (.aload_n 1, 1) := by decide +kernel
theorem dL_law_24 : decode cL_law 24 = .ok (.invokevirtual 282, 3) := by decide +kernel
theorem dL_law_27 : decode cL_law 27 = .ok (.ifCond .ne 5, 3) := by decide +kernel
theorem dL_law_32 : decode cL_law 32 = .ok (.iconst 0, 1) := by decide +kernel
theorem dL_law_33 : decode cL_law 33 = .ok (.istore_n 2, 1) := by decide +kernel
theorem dL_law_34 : decode cL_law 34 = .ok (.iload_n 2, 1) := by decide +kernel
theorem dL_law_35 : decode cL_law 35 = .ok (.iconst 3, 1) := by decide +kernel
theorem dL_law_36 : decode cL_law 36 = .ok (.if_icmp .ge 54, 3) := by decide +kernel
theorem dL_law_39 : decode cL_law 39 = .ok (.iconst 1, 1) := by decide +kernel
theorem dL_law_40 : decode cL_law 40 = .ok (.aload_n 1, 1) := by decide +kernel
theorem dL_law_41 : decode cL_law 41 = .ok (.getfield 25, 3) := by decide +kernel
theorem dL_law_44 : decode cL_law 44 = .ok (.iload_n 2, 1) := by decide +kernel
theorem dL_law_45 : decode cL_law 45 = .ok (.ifCond .ne 8, 3) := by decide +kernel
theorem dL_law_48 : decode cL_law 48 = .ok (.bipush 20, 2) := by decide +kernel
theorem dL_law_50 : decode cL_law 50 = .ok (.goto 4, 3) := by decide +kernel
theorem dL_law_53 : decode cL_law 53 = .ok (.iconst 5, 1) := by decide +kernel
theorem dL_law_54 : decode cL_law 54 = .ok (.invokevirtual 30, 3) := by decide +kernel
theorem dL_law_57 : decode cL_law 57 = .ok (.iadd, 1) := by decide +kernel
theorem dL_law_58 : decode cL_law 58 = .ok (.istore_n 3, 1) := by decide +kernel
theorem dL_law_59 : decode cL_law 59 = .ok (.aload_n 1, 1) := by decide +kernel
theorem dL_law_60 : decode cL_law 60 = .ok (.iload_n 3, 1) := by decide +kernel
theorem dL_law_61 : decode cL_law 61 = .ok (.invokevirtual 285, 3) := by decide +kernel
theorem dL_law_64 : decode cL_law 64 = .ok (.ifCond .eq 18, 3) := by decide +kernel
theorem dL_law_67 : decode cL_law 67 = .ok (.aload_n 1, 1) := by decide +kernel
theorem dL_law_68 : decode cL_law 68 = .ok (.iload_n 3, 1) := by decide +kernel
theorem dL_law_69 : decode cL_law 69 = .ok (.invokevirtual 289, 3) := by decide +kernel
theorem dL_law_72 : decode cL_law 72 = .ok (.ifCond .eq 10, 3) := by decide +kernel
theorem dL_law_75 : decode cL_law 75 = .ok (.aload_n 1, 1) := by decide +kernel
theorem dL_law_76 : decode cL_law 76 = .ok (.invokevirtual 292, 3) := by decide +kernel
theorem dL_law_79 : decode cL_law 79 = .ok (.ifCond .ne 5, 3) := by decide +kernel
theorem dL_law_84 : decode cL_law 84 = .ok (.iinc 2 1, 3) := by decide +kernel
theorem dL_law_87 : decode cL_law 87 = .ok (.goto (-53), 3) := by decide +kernel
theorem dL_law_90 : decode cL_law 90 = .ok (.aload_n 1, 1) := by decide +kernel
theorem dL_law_91 : decode cL_law 91 = .ok (.invokevirtual 295, 3) := by decide +kernel
theorem dL_law_94 : decode cL_law 94 = .ok (.ifCond .eq 38, 3) := by decide +kernel
theorem dL_law_97 : decode cL_law 97 = .ok (.aload_n 1, 1) := by decide +kernel
theorem dL_law_98 : decode cL_law 98 = .ok (.invokevirtual 298, 3) := by decide +kernel
theorem dL_law_101 : decode cL_law 101 = .ok (.ifCond .eq 31, 3) := by decide +kernel
theorem dL_law_104 : decode cL_law 104 = .ok (.aload_n 1, 1) := by decide +kernel
theorem dL_law_105 : decode cL_law 105 = .ok (.invokevirtual 301, 3) := by decide +kernel
theorem dL_law_108 : decode cL_law 108 = .ok (.ifCond .eq 24, 3) := by decide +kernel
theorem dL_law_111 : decode cL_law 111 = .ok (.aload_n 1, 1) := by decide +kernel
theorem dL_law_112 : decode cL_law 112 = .ok (.invokevirtual 304, 3) := by decide +kernel
theorem dL_law_115 : decode cL_law 115 = .ok (.ifCond .eq 17, 3) := by decide +kernel
theorem dL_law_118 : decode cL_law 118 = .ok (.aload_n 1, 1) := by decide +kernel
theorem dL_law_119 : decode cL_law 119 = .ok (.getfield 10, 3) := by decide +kernel
theorem dL_law_122 : decode cL_law 122 = .ok (.invokevirtual 307, 3) := by decide +kernel
theorem dL_law_125 : decode cL_law 125 = .ok (.ifCond .ne 7, 3) := by decide +kernel
theorem dL_law_128 : decode cL_law 128 = .ok (.iconst 1, 1) := by decide +kernel
theorem dL_law_129 : decode cL_law 129 = .ok (.goto 4, 3) := by decide +kernel
theorem dL_law_133 : decode cL_law 133 = .ok (.ireturn, 1) := by decide +kernel
def fL_law (p0 : Nat) (h : mxH) : Option mxH := Option.bind (nwO h 11 [.null, .null, .null, .null, .int 0]) (fun h1 => Option.bind (nwO h1 10 [.long 0]) (fun h3 => Option.bind (fX10_init h1.2 p0 h3) (fun o6 => Option.bind (fL_init h.2 h1.2 o6) (fun o8 => Option.bind (isO o8 h.2 11) (fun u9 => Option.bind (fL_draws h.2 o8) (fun o12 => (if o12.1 = 0 then none else Option.bind (isO o12.2 h.2 11) (fun u14 => Option.bind (fL_areRanked h.2 o12.2) (fun o17 => (if o17.1 = 0 then none else Option.bind (gR o17.2 h.2 11 1) (fun r19 => Option.bind (isO o17.2 r19 10) (fun u21 => Option.bind (fX10_next r19 20 o17.2) (fun o24 => Option.bind (isO o24.2 h.2 11) (fun u25 => Option.bind (fL_isRightToStop h.2 (1 + o24.1) o24.2) (fun o28 => (if o28.1 = 0 then none else Option.bind (isO o28.2 h.2 11) (fun u30 => Option.bind (fL_isPlain h.2 (1 + o24.1) o28.2) (fun o33 => (if o33.1 = 0 then none else Option.bind (isO o33.2 h.2 11) (fun u35 => Option.bind (fL_areHeld h.2 o33.2) (fun o38 => (if o38.1 = 0 then none else Option.bind (gR o38.2 h.2 11 1) (fun r40 => Option.bind (isO o38.2 r40 10) (fun u42 => Option.bind (fX10_next r40 5 o38.2) (fun o45 => Option.bind (isO o45.2 h.2 11) (fun u46 => Option.bind (fL_isRightToStop h.2 (1 + o45.1) o45.2) (fun o49 => (if o49.1 = 0 then none else Option.bind (isO o49.2 h.2 11) (fun u51 => Option.bind (fL_isPlain h.2 (1 + o45.1) o49.2) (fun o54 => (if o54.1 = 0 then none else Option.bind (isO o54.2 h.2 11) (fun u56 => Option.bind (fL_areHeld h.2 o54.2) (fun o59 => (if o59.1 = 0 then none else Option.bind (gR o59.2 h.2 11 1) (fun r61 => Option.bind (isO o59.2 r61 10) (fun u63 => Option.bind (fX10_next r61 5 o59.2) (fun o66 => Option.bind (isO o66.2 h.2 11) (fun u67 => Option.bind (fL_isRightToStop h.2 (1 + o66.1) o66.2) (fun o70 => (if o70.1 = 0 then none else Option.bind (isO o70.2 h.2 11) (fun u72 => Option.bind (fL_isPlain h.2 (1 + o66.1) o70.2) (fun o75 => (if o75.1 = 0 then none else Option.bind (isO o75.2 h.2 11) (fun u77 => Option.bind (fL_areHeld h.2 o75.2) (fun o80 => (if o80.1 = 0 then none else Option.bind (isO o80.2 h.2 11) (fun u82 => Option.bind (fL_areMerged h.2 o80.2) (fun o85 => (if o85.1 = 0 then none else Option.bind (isO o85.2 h.2 11) (fun u87 => Option.bind (fL_arePairs h.2 o85.2) (fun o90 => (if o90.1 = 0 then none else Option.bind (isO o90.2 h.2 11) (fun u92 => Option.bind (fL_areVotes h.2 o90.2) (fun o95 => (if o95.1 = 0 then none else Option.bind (isO o95.2 h.2 11) (fun u97 => Option.bind (fL_comeBy h.2 o95.2) (fun o100 => (if o100.1 = 0 then none else Option.bind (gR o100.2 h.2 11 0) (fun r102 => Option.bind (isO o100.2 r102 9) (fun u104 => Option.bind (fX9_errors r102 o100.2) (fun o107 => (if o107.1 = 0 then some o107.2 else none))))))))))))))))))))))))))))))))))))))))))))))))))))))))))))))
set_option maxRecDepth 20000 in
set_option maxHeartbeats 4000000 in
theorem tL_law {l : Launch} {Z : mxZ} {X : mxX} (hl : l.stackTraces = false) (C : mxC l Z X RL cL_law 4) (hX : mxRm X = room_1) {p0 : Nat} {h h' : mxH} (hf : fL_law p0 h = some h') (E : ∀ k n : Nat, k ≤ 661355 → n ≤ 7117559 → mG l Z X 4 k n 133 [none, none, none, none] [.int 1] h') : mG l Z X 4 0 0 0 [some (.ref p0), none, none, none] [] h := by
  unfold fL_law at hf
  obtain ⟨h1, e2, hf⟩ := mx_bind hf
  refine mG_nwO2 (pc := 0) (k' := 1) (n' := 5) C hX dL_law_0 mk_L_11 e2 rfl rfl ⟨Nat.le_of_ble_eq_true rfl, Nat.le_of_ble_eq_true rfl⟩ ?_
  refine mG_dup (pc := 3) C dL_law_3 rfl ?_
  obtain ⟨h3, e4, hf⟩ := mx_bind hf
  refine mG_nwO2 (pc := 4) (k' := 2) (n' := 6) C hX dL_law_4 mk_L_31 e4 rfl rfl ⟨Nat.le_of_ble_eq_true rfl, Nat.le_of_ble_eq_true rfl⟩ ?_
  refine mG_dup (pc := 7) C dL_law_7 rfl ?_
  refine mG_aload_n (pc := 8) C dL_law_8 rfl ?_
  obtain ⟨o6, e5, hf⟩ := mx_bind hf
  refine mG_cI2 (pc := 9) (k' := 2) (n' := 6) (h' := o6) [.ref p0] [.ref h1.2, .ref h.2, .ref h.2] C hX dL_law_9 lkI_L_273 rfl (tX10_init hl e5) rfl rfl rfl ⟨Nat.le_of_ble_eq_true rfl, Nat.le_of_ble_eq_true rfl⟩ rfl ?_
  obtain ⟨o8, e7, hf⟩ := mx_bind hf
  refine mG_cI2 (pc := 12) (k' := 337) (n' := 5684) (h' := o8) [.ref h1.2] [.ref h.2] C hX dL_law_12 lkI_L_275 rfl (tL_init hl e7) rfl rfl rfl ⟨Nat.le_of_ble_eq_true rfl, Nat.le_of_ble_eq_true rfl⟩ rfl ?_
  refine mG_asn (ls' := [some (.ref p0), some (.ref h.2), none, none]) (pc := 15) C dL_law_15 rfl rfl rfl ?_
  refine mG_aload_n (pc := 16) C dL_law_16 rfl ?_
  obtain ⟨u9, e10, hf⟩ := mx_bind hf
  obtain ⟨o12, e11, hf⟩ := mx_bind hf
  refine mG_cV2 (pc := 17) (k' := 584) (n' := 7166) (h' := o12.2) (v := some (.int o12.1)) 11 [] [] C hX dL_law_17 lkV_L_278 rfl rfl e10 (tL_draws hl e11) rfl rfl rfl ⟨Nat.le_of_ble_eq_true rfl, Nat.le_of_ble_eq_true rfl⟩ rfl ?_
  refine mG_if_eq (pc := 20) (tgt := 30) C dL_law_20 (by decide) (fun q13 => ?_) (fun q13 => ?_)
  · rw [if_pos q13] at hf
    cases hf
  · rw [if_neg q13] at hf
    refine mG_aload_n (pc := 23) C dL_law_23 rfl ?_
    obtain ⟨u14, e15, hf⟩ := mx_bind hf
    obtain ⟨o17, e16, hf⟩ := mx_bind hf
    refine mG_cV2 (pc := 24) (k' := 1721) (n' := 13113) (h' := o17.2) (v := some (.int o17.1)) 11 [] [] C hX dL_law_24 lkV_L_282 rfl rfl e15 (tL_areRanked hl e16) rfl rfl rfl ⟨Nat.le_of_ble_eq_true rfl, Nat.le_of_ble_eq_true rfl⟩ rfl ?_
    refine mG_if_ne (pc := 27) (tgt := 32) C dL_law_27 (by decide) (fun q18 => ?_) (fun q18 => ?_)
    · rw [if_neg q18] at hf
      refine mG_ic (pc := 32) C dL_law_32 kI0 ?_
      refine mG_isn (ls' := [some (.ref p0), some (.ref h.2), some (.int 0), none]) (pc := 33) C dL_law_33 rfl rfl rfl ?_
      refine mG_iload_n (pc := 34) C dL_law_34 rfl ?_
      refine mG_ic (pc := 35) C dL_law_35 kI3 ?_
      refine mG_icmp_ge (pc := 36) (tgt := 90) C dL_law_36 (by decide) (fun q => absurd q (by decide)) (fun _ => ?_)
      refine mG_ic (pc := 39) C dL_law_39 kI1 ?_
      refine mG_aload_n (pc := 40) C dL_law_40 rfl ?_
      obtain ⟨r19, e20, hf⟩ := mx_bind hf
      refine mG_getR (pc := 41) C dL_law_41 fl_L_25 e20 ?_
      refine mG_iload_n (pc := 44) C dL_law_44 rfl ?_
      refine mG_if_ne (pc := 45) (tgt := 53) C dL_law_45 (by decide) (fun q => absurd (by decide) q) (fun _ => ?_)
      refine mG_bp (pc := 48) C dL_law_48 kB20 ?_
      refine mG_goto (tgt := 54) (pc := 50) C dL_law_50 (by decide) ?_
      obtain ⟨u21, e22, hf⟩ := mx_bind hf
      obtain ⟨o24, e23, hf⟩ := mx_bind hf
      refine mG_cV2 (pc := 54) (k' := 1721) (n' := 13113) (h' := o24.2) (v := some (.int o24.1)) 10 [.int 20] [.int 1] C hX dL_law_54 lkV_L_30 rfl rfl e22 (tX10_next hl e23) rfl rfl rfl ⟨Nat.le_of_ble_eq_true rfl, Nat.le_of_ble_eq_true rfl⟩ rfl ?_
      refine mG_iadd (pc := 57) C dL_law_57 ?_
      refine mG_isn (ls' := [some (.ref p0), some (.ref h.2), some (.int 0), some (.int (1 + o24.1))]) (pc := 58) C dL_law_58 rfl rfl rfl ?_
      refine mG_aload_n (pc := 59) C dL_law_59 rfl ?_
      refine mG_iload_n (pc := 60) C dL_law_60 rfl ?_
      obtain ⟨u25, e26, hf⟩ := mx_bind hf
      obtain ⟨o28, e27, hf⟩ := mx_bind hf
      refine mG_cV2 (pc := 61) (k' := 6289) (n' := 36197) (h' := o28.2) (v := some (.int o28.1)) 11 [.int (1 + o24.1)] [] C hX dL_law_61 lkV_L_285 rfl rfl e26 (tL_isRightToStop hl e27) rfl rfl rfl ⟨Nat.le_of_ble_eq_true rfl, Nat.le_of_ble_eq_true rfl⟩ rfl ?_
      refine mG_if_eq (pc := 64) (tgt := 82) C dL_law_64 (by decide) (fun q29 => ?_) (fun q29 => ?_)
      · rw [if_pos q29] at hf
        cases hf
      · rw [if_neg q29] at hf
        refine mG_aload_n (pc := 67) C dL_law_67 rfl ?_
        refine mG_iload_n (pc := 68) C dL_law_68 rfl ?_
        obtain ⟨u30, e31, hf⟩ := mx_bind hf
        obtain ⟨o33, e32, hf⟩ := mx_bind hf
        refine mG_cV2 (pc := 69) (k' := 6427) (n' := 36953) (h' := o33.2) (v := some (.int o33.1)) 11 [.int (1 + o24.1)] [] C hX dL_law_69 lkV_L_289 rfl rfl e31 (tL_isPlain hl e32) rfl rfl rfl ⟨Nat.le_of_ble_eq_true rfl, Nat.le_of_ble_eq_true rfl⟩ rfl ?_
        refine mG_if_eq (pc := 72) (tgt := 82) C dL_law_72 (by decide) (fun q34 => ?_) (fun q34 => ?_)
        · rw [if_pos q34] at hf
          cases hf
        · rw [if_neg q34] at hf
          refine mG_aload_n (pc := 75) C dL_law_75 rfl ?_
          obtain ⟨u35, e36, hf⟩ := mx_bind hf
          obtain ⟨o38, e37, hf⟩ := mx_bind hf
          refine mG_cV2 (pc := 76) (k' := 8201) (n' := 45888) (h' := o38.2) (v := some (.int o38.1)) 11 [] [] C hX dL_law_76 lkV_L_292 rfl rfl e36 (tL_areHeld hl e37) rfl rfl rfl ⟨Nat.le_of_ble_eq_true rfl, Nat.le_of_ble_eq_true rfl⟩ rfl ?_
          refine mG_if_ne (pc := 79) (tgt := 84) C dL_law_79 (by decide) (fun q39 => ?_) (fun q39 => ?_)
          · rw [if_neg q39] at hf
            refine mG_ii (ls' := [some (.ref p0), some (.ref h.2), some (.int 1), some (.int (1 + o24.1))]) (pc := 84) C dL_law_84 rfl (by decide) rfl rfl rfl ?_
            refine mG_goto (tgt := 34) (pc := 87) C dL_law_87 (by decide) ?_
            refine mG_iload_n (pc := 34) C dL_law_34 rfl ?_
            refine mG_ic (pc := 35) C dL_law_35 kI3 ?_
            refine mG_icmp_ge (pc := 36) (tgt := 90) C dL_law_36 (by decide) (fun q => absurd q (by decide)) (fun _ => ?_)
            refine mG_ic (pc := 39) C dL_law_39 kI1 ?_
            refine mG_aload_n (pc := 40) C dL_law_40 rfl ?_
            obtain ⟨r40, e41, hf⟩ := mx_bind hf
            refine mG_getR (pc := 41) C dL_law_41 fl_L_25 e41 ?_
            refine mG_iload_n (pc := 44) C dL_law_44 rfl ?_
            refine mG_if_ne (pc := 45) (tgt := 53) C dL_law_45 (by decide) (fun _ => ?_) (fun q => absurd q (by decide))
            refine mG_ic (pc := 53) C dL_law_53 kI5 ?_
            obtain ⟨u42, e43, hf⟩ := mx_bind hf
            obtain ⟨o45, e44, hf⟩ := mx_bind hf
            refine mG_cV2 (pc := 54) (k' := 8201) (n' := 45888) (h' := o45.2) (v := some (.int o45.1)) 10 [.int 5] [.int 1] C hX dL_law_54 lkV_L_30 rfl rfl e43 (tX10_next hl e44) rfl rfl rfl ⟨Nat.le_of_ble_eq_true rfl, Nat.le_of_ble_eq_true rfl⟩ rfl ?_
            refine mG_iadd (pc := 57) C dL_law_57 ?_
            refine mG_isn (ls' := [some (.ref p0), some (.ref h.2), some (.int 1), some (.int (1 + o45.1))]) (pc := 58) C dL_law_58 rfl rfl rfl ?_
            refine mG_aload_n (pc := 59) C dL_law_59 rfl ?_
            refine mG_iload_n (pc := 60) C dL_law_60 rfl ?_
            obtain ⟨u46, e47, hf⟩ := mx_bind hf
            obtain ⟨o49, e48, hf⟩ := mx_bind hf
            refine mG_cV2 (pc := 61) (k' := 12769) (n' := 68972) (h' := o49.2) (v := some (.int o49.1)) 11 [.int (1 + o45.1)] [] C hX dL_law_61 lkV_L_285 rfl rfl e47 (tL_isRightToStop hl e48) rfl rfl rfl ⟨Nat.le_of_ble_eq_true rfl, Nat.le_of_ble_eq_true rfl⟩ rfl ?_
            refine mG_if_eq (pc := 64) (tgt := 82) C dL_law_64 (by decide) (fun q50 => ?_) (fun q50 => ?_)
            · rw [if_pos q50] at hf
              cases hf
            · rw [if_neg q50] at hf
              refine mG_aload_n (pc := 67) C dL_law_67 rfl ?_
              refine mG_iload_n (pc := 68) C dL_law_68 rfl ?_
              obtain ⟨u51, e52, hf⟩ := mx_bind hf
              obtain ⟨o54, e53, hf⟩ := mx_bind hf
              refine mG_cV2 (pc := 69) (k' := 12907) (n' := 69728) (h' := o54.2) (v := some (.int o54.1)) 11 [.int (1 + o45.1)] [] C hX dL_law_69 lkV_L_289 rfl rfl e52 (tL_isPlain hl e53) rfl rfl rfl ⟨Nat.le_of_ble_eq_true rfl, Nat.le_of_ble_eq_true rfl⟩ rfl ?_
              refine mG_if_eq (pc := 72) (tgt := 82) C dL_law_72 (by decide) (fun q55 => ?_) (fun q55 => ?_)
              · rw [if_pos q55] at hf
                cases hf
              · rw [if_neg q55] at hf
                refine mG_aload_n (pc := 75) C dL_law_75 rfl ?_
                obtain ⟨u56, e57, hf⟩ := mx_bind hf
                obtain ⟨o59, e58, hf⟩ := mx_bind hf
                refine mG_cV2 (pc := 76) (k' := 14681) (n' := 78663) (h' := o59.2) (v := some (.int o59.1)) 11 [] [] C hX dL_law_76 lkV_L_292 rfl rfl e57 (tL_areHeld hl e58) rfl rfl rfl ⟨Nat.le_of_ble_eq_true rfl, Nat.le_of_ble_eq_true rfl⟩ rfl ?_
                refine mG_if_ne (pc := 79) (tgt := 84) C dL_law_79 (by decide) (fun q60 => ?_) (fun q60 => ?_)
                · rw [if_neg q60] at hf
                  refine mG_ii (ls' := [some (.ref p0), some (.ref h.2), some (.int 2), some (.int (1 + o45.1))]) (pc := 84) C dL_law_84 rfl (by decide) rfl rfl rfl ?_
                  refine mG_goto (tgt := 34) (pc := 87) C dL_law_87 (by decide) ?_
                  refine mG_iload_n (pc := 34) C dL_law_34 rfl ?_
                  refine mG_ic (pc := 35) C dL_law_35 kI3 ?_
                  refine mG_icmp_ge (pc := 36) (tgt := 90) C dL_law_36 (by decide) (fun q => absurd q (by decide)) (fun _ => ?_)
                  refine mG_ic (pc := 39) C dL_law_39 kI1 ?_
                  refine mG_aload_n (pc := 40) C dL_law_40 rfl ?_
                  obtain ⟨r61, e62, hf⟩ := mx_bind hf
                  refine mG_getR (pc := 41) C dL_law_41 fl_L_25 e62 ?_
                  refine mG_iload_n (pc := 44) C dL_law_44 rfl ?_
                  refine mG_if_ne (pc := 45) (tgt := 53) C dL_law_45 (by decide) (fun _ => ?_) (fun q => absurd q (by decide))
                  refine mG_ic (pc := 53) C dL_law_53 kI5 ?_
                  obtain ⟨u63, e64, hf⟩ := mx_bind hf
                  obtain ⟨o66, e65, hf⟩ := mx_bind hf
                  refine mG_cV2 (pc := 54) (k' := 14681) (n' := 78663) (h' := o66.2) (v := some (.int o66.1)) 10 [.int 5] [.int 1] C hX dL_law_54 lkV_L_30 rfl rfl e64 (tX10_next hl e65) rfl rfl rfl ⟨Nat.le_of_ble_eq_true rfl, Nat.le_of_ble_eq_true rfl⟩ rfl ?_
                  refine mG_iadd (pc := 57) C dL_law_57 ?_
                  refine mG_isn (ls' := [some (.ref p0), some (.ref h.2), some (.int 2), some (.int (1 + o66.1))]) (pc := 58) C dL_law_58 rfl rfl rfl ?_
                  refine mG_aload_n (pc := 59) C dL_law_59 rfl ?_
                  refine mG_iload_n (pc := 60) C dL_law_60 rfl ?_
                  obtain ⟨u67, e68, hf⟩ := mx_bind hf
                  obtain ⟨o70, e69, hf⟩ := mx_bind hf
                  refine mG_cV2 (pc := 61) (k' := 19249) (n' := 101747) (h' := o70.2) (v := some (.int o70.1)) 11 [.int (1 + o66.1)] [] C hX dL_law_61 lkV_L_285 rfl rfl e68 (tL_isRightToStop hl e69) rfl rfl rfl ⟨Nat.le_of_ble_eq_true rfl, Nat.le_of_ble_eq_true rfl⟩ rfl ?_
                  refine mG_if_eq (pc := 64) (tgt := 82) C dL_law_64 (by decide) (fun q71 => ?_) (fun q71 => ?_)
                  · rw [if_pos q71] at hf
                    cases hf
                  · rw [if_neg q71] at hf
                    refine mG_aload_n (pc := 67) C dL_law_67 rfl ?_
                    refine mG_iload_n (pc := 68) C dL_law_68 rfl ?_
                    obtain ⟨u72, e73, hf⟩ := mx_bind hf
                    obtain ⟨o75, e74, hf⟩ := mx_bind hf
                    refine mG_cV2 (pc := 69) (k' := 19387) (n' := 102503) (h' := o75.2) (v := some (.int o75.1)) 11 [.int (1 + o66.1)] [] C hX dL_law_69 lkV_L_289 rfl rfl e73 (tL_isPlain hl e74) rfl rfl rfl ⟨Nat.le_of_ble_eq_true rfl, Nat.le_of_ble_eq_true rfl⟩ rfl ?_
                    refine mG_if_eq (pc := 72) (tgt := 82) C dL_law_72 (by decide) (fun q76 => ?_) (fun q76 => ?_)
                    · rw [if_pos q76] at hf
                      cases hf
                    · rw [if_neg q76] at hf
                      refine mG_aload_n (pc := 75) C dL_law_75 rfl ?_
                      obtain ⟨u77, e78, hf⟩ := mx_bind hf
                      obtain ⟨o80, e79, hf⟩ := mx_bind hf
                      refine mG_cV2 (pc := 76) (k' := 21161) (n' := 111438) (h' := o80.2) (v := some (.int o80.1)) 11 [] [] C hX dL_law_76 lkV_L_292 rfl rfl e78 (tL_areHeld hl e79) rfl rfl rfl ⟨Nat.le_of_ble_eq_true rfl, Nat.le_of_ble_eq_true rfl⟩ rfl ?_
                      refine mG_if_ne (pc := 79) (tgt := 84) C dL_law_79 (by decide) (fun q81 => ?_) (fun q81 => ?_)
                      · rw [if_neg q81] at hf
                        refine mG_ii (ls' := [some (.ref p0), some (.ref h.2), some (.int 3), some (.int (1 + o66.1))]) (pc := 84) C dL_law_84 rfl (by decide) rfl rfl rfl ?_
                        refine mG_goto (tgt := 34) (pc := 87) C dL_law_87 (by decide) ?_
                        refine mG_iload_n (pc := 34) C dL_law_34 rfl ?_
                        refine mG_ic (pc := 35) C dL_law_35 kI3 ?_
                        refine mG_icmp_ge (pc := 36) (tgt := 90) C dL_law_36 (by decide) (fun _ => ?_) (fun q => absurd (by decide) q)
                        refine mG_aload_n (pc := 90) C dL_law_90 rfl ?_
                        obtain ⟨u82, e83, hf⟩ := mx_bind hf
                        obtain ⟨o85, e84, hf⟩ := mx_bind hf
                        refine mG_cV2 (pc := 91) (k' := 22166) (n' := 212706) (h' := o85.2) (v := some (.int o85.1)) 11 [] [] C hX dL_law_91 lkV_L_295 rfl rfl e83 (tL_areMerged hl e84) rfl rfl rfl ⟨Nat.le_of_ble_eq_true rfl, Nat.le_of_ble_eq_true rfl⟩ rfl ?_
                        refine mG_if_eq (pc := 94) (tgt := 132) C dL_law_94 (by decide) (fun q86 => ?_) (fun q86 => ?_)
                        · rw [if_pos q86] at hf
                          cases hf
                        · rw [if_neg q86] at hf
                          refine mG_aload_n (pc := 97) C dL_law_97 rfl ?_
                          obtain ⟨u87, e88, hf⟩ := mx_bind hf
                          obtain ⟨o90, e89, hf⟩ := mx_bind hf
                          refine mG_cV2 (pc := 98) (k' := 25046) (n' := 229986) (h' := o90.2) (v := some (.int o90.1)) 11 [] [] C hX dL_law_98 lkV_L_298 rfl rfl e88 (tL_arePairs hl e89) rfl rfl rfl ⟨Nat.le_of_ble_eq_true rfl, Nat.le_of_ble_eq_true rfl⟩ rfl ?_
                          refine mG_if_eq (pc := 101) (tgt := 132) C dL_law_101 (by decide) (fun q91 => ?_) (fun q91 => ?_)
                          · rw [if_pos q91] at hf
                            cases hf
                          · rw [if_neg q91] at hf
                            refine mG_aload_n (pc := 104) C dL_law_104 rfl ?_
                            obtain ⟨u92, e93, hf⟩ := mx_bind hf
                            obtain ⟨o95, e94, hf⟩ := mx_bind hf
                            refine mG_cV2 (pc := 105) (k' := 25947) (n' := 234538) (h' := o95.2) (v := some (.int o95.1)) 11 [] [] C hX dL_law_105 lkV_L_301 rfl rfl e93 (tL_areVotes hl e94) rfl rfl rfl ⟨Nat.le_of_ble_eq_true rfl, Nat.le_of_ble_eq_true rfl⟩ rfl ?_
                            refine mG_if_eq (pc := 108) (tgt := 132) C dL_law_108 (by decide) (fun q96 => ?_) (fun q96 => ?_)
                            · rw [if_pos q96] at hf
                              cases hf
                            · rw [if_neg q96] at hf
                              refine mG_aload_n (pc := 111) C dL_law_111 rfl ?_
                              obtain ⟨u97, e98, hf⟩ := mx_bind hf
                              obtain ⟨o100, e99, hf⟩ := mx_bind hf
                              refine mG_cV2 (pc := 112) (k' := 26078) (n' := 243832) (h' := o100.2) (v := some (.int o100.1)) 11 [] [] C hX dL_law_112 lkV_L_304 rfl rfl e98 (tL_comeBy hl e99) rfl rfl rfl ⟨Nat.le_of_ble_eq_true rfl, Nat.le_of_ble_eq_true rfl⟩ rfl ?_
                              refine mG_if_eq (pc := 115) (tgt := 132) C dL_law_115 (by decide) (fun q101 => ?_) (fun q101 => ?_)
                              · rw [if_pos q101] at hf
                                cases hf
                              · rw [if_neg q101] at hf
                                refine mG_aload_n (pc := 118) C dL_law_118 rfl ?_
                                obtain ⟨r102, e103, hf⟩ := mx_bind hf
                                refine mG_getR (pc := 119) C dL_law_119 fl_L_10 e103 ?_
                                obtain ⟨u104, e105, hf⟩ := mx_bind hf
                                obtain ⟨o107, e106, hf⟩ := mx_bind hf
                                refine mG_cV2 (pc := 122) (k' := 26078) (n' := 243832) (h' := o107.2) (v := some (.int o107.1)) 9 [] [] C hX dL_law_122 lkV_L_307 rfl rfl e105 (tX9_errors hl e106) rfl rfl rfl ⟨Nat.le_of_ble_eq_true rfl, Nat.le_of_ble_eq_true rfl⟩ rfl ?_
                                refine mG_if_ne (pc := 125) (tgt := 132) C dL_law_125 (by decide) (fun q108 => ?_) (fun q108 => ?_)
                                · rw [if_neg q108] at hf
                                  cases hf
                                · rw [if_pos q108] at hf
                                  refine mG_ic (pc := 128) C dL_law_128 kI1 ?_
                                  refine mG_goto (tgt := 133) (pc := 129) C dL_law_129 (by decide) ?_
                                  cases hf
                                  exact mG_sub (mxLe_n (mxLe_n (mxLe_n (mxLe_n mxLe_z)))) (E _ _ (by omega) (by omega))
                      · rw [if_pos q81] at hf
                        cases hf
                · rw [if_pos q60] at hf
                  cases hf
          · rw [if_pos q39] at hf
            cases hf
    · rw [if_pos q18] at hf
      cases hf
