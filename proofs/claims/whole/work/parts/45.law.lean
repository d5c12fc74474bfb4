/-! printed by wip/gen/emit_main.py: the law -/
theorem w21 : Cond.classLink RL 8 RX9 ∈ mxAW := mxW 21 (by decide +kernel) (by decide +kernel)
theorem w22 : Cond.instantiable RX9 9 ∈ mxAW := mxW 22 (by decide +kernel) (by decide +kernel)
theorem mk_L_8 : mxMk RL 8 9 [.null, .null, .null, .null, .null, .null, .null, .null, .null] 9 := ⟨RX9, TX9, rfl, w21, w22, w1, rfl, by decide +kernel, by decide +kernel⟩
theorem w1148 : Cond.classLink RL 136 RX10 ∈ mxAW := mxW 1148 (by decide +kernel) (by decide +kernel)
theorem w1149 : Cond.instantiable RX10 16 ∈ mxAW := mxW 1149 (by decide +kernel) (by decide +kernel)
theorem mk_L_136 : mxMk RL 136 10 [.null, .null, .int 0, .int 0, .null, .null, .null, .null, .null, .null, .null, .null, .null, .null, .null, .null] 16 := ⟨RX10, TX10, rfl, w1148, w1149, w13, rfl, by decide +kernel, by decide +kernel⟩
theorem w23 : Cond.methodLink RL 135 yX9_init ∈ mxAW := mxW 23 (by decide +kernel) (by decide +kernel)
theorem w25 : Cond.code yX9_init cX9_init 2 (none) ∈ mxAW := mxW 25 (by decide +kernel) (by decide +kernel)
theorem w24 : Cond.instanceMethod yX9_init ∈ mxAW := mxW 24 (by decide +kernel) (by decide +kernel)
theorem lkI_L_135 : mxLkI RL 135 yX9_init cX9_init 2 0 := ⟨Or.inl w23, ⟨w24, rfl⟩, w1, w25, by decide, by decide, by decide +kernel⟩
theorem w1150 : Cond.methodLink RL 138 yX10_init ∈ mxAW := mxW 1150 (by decide +kernel) (by decide +kernel)
theorem w1152 : Cond.code yX10_init cX10_init 2 (none) ∈ mxAW := mxW 1152 (by decide +kernel) (by decide +kernel)
theorem w1151 : Cond.instanceMethod yX10_init ∈ mxAW := mxW 1151 (by decide +kernel) (by decide +kernel)
theorem lkI_L_138 : mxLkI RL 138 yX10_init cX10_init 2 0 := ⟨Or.inl w1150, ⟨w1151, rfl⟩, w13, w1152, by decide, by decide, by decide +kernel⟩
theorem w1599 : Cond.arrayClass .long ∈ mxAW := mxW 1599 (by decide +kernel) (by decide +kernel)
theorem kB63 : (Int8.ofInt (63)).toInt32 = 63 := by decide +kernel
theorem dL_law_0 : decode cL_law 0 = .ok (.new 8, 3) := by decide +kernel
theorem dL_law_3 : decode cL_law 3 = .ok (.dup, 1) := by decide +kernel
theorem dL_law_4 : decode cL_law 4 = .ok (.invokespecial 135, 3) := by decide +kernel
theorem dL_law_7 : decode cL_law 7 = .ok (.astore_n 1, 1) := by decide +kernel
theorem dL_law_8 : decode cL_law 8 = .ok (.new 136, 3) := by decide +kernel
theorem dL_law_11 : decode cL_law 11 = .ok (.dup, 1) := by decide +kernel
theorem dL_law_12 : decode cL_law 12 = .ok (.invokespecial 138, 3) := by decide +kernel
theorem dL_law_15 : decode cL_law 15 = .ok (.astore_n 2, 1) := by decide +kernel
theorem dL_law_16 : decode cL_law 16 = .ok (.iconst 1, 1) := by decide +kernel
theorem dL_law_17 : decode cL_law 17 = .ok (.newarray .long, 2) := by decide +kernel
theorem dL_law_19 : decode cL_law 19 = .ok (.astore_n 3, 1) := by decide +kernel
theorem dL_law_20 : decode cL_law 20 = .ok (.iconst 0, 1) := by decide +kernel
theorem dL_law_21 : decode cL_law 21 = .ok (.istore 4, 2) := by decide +kernel
theorem dL_law_23 : decode cL_law 23 = .ok (.iload 4, 2) := by decide +kernel
theorem dL_law_25 : decode cL_law 25 = .ok (.aload_n 0, 1) := by decide +kernel
theorem dL_law_26 : decode cL_law 26 = .ok (.arraylength, 1) := by decide +kernel
theorem dL_law_27 : decode cL_law 27 = .ok (.iconst 5, 1) := by decide +kernel
theorem dL_law_28 : decode cL_law 28 = .ok (.isub, 1) := by decide +kernel
theorem dL_law_29 : decode cL_law 29 = .ok (.if_icmp .gt 2911, 3) := by decide +kernel
theorem dL_law_32 : decode cL_law 32 = .ok (.aload_n 0, 1) := by decide +kernel
theorem dL_law_33 : decode cL_law 33 = .ok (.iload 4, 2) := by decide +kernel
theorem dL_law_35 : decode cL_law 35 = .ok (.iaload, 1) := by decide +kernel
theorem dL_law_36 : decode cL_law 36 = .ok (.bipush 63, 2) := by decide +kernel
theorem dL_law_38 : decode cL_law 38 = .ok (.iand, 1) := by decide +kernel
theorem dL_law_39 : decode cL_law 39 = .ok (.tableswitch 2895 0 50 #[217, 297, 365, 433, 489, 557, 625, 681, 694, 750, 818, 886, 954, 1010, 1023, 1079, 1135, 1191, 1247, 1303, 1371, 1439, 1507, 1575, 1631, 1687, 1786, 1799, 1855, 1911, 1979, 1992, 2048, 2061, 2129, 2173, 2186, 2199, 2255, 2268, 2324, 2337, 2393, 2449, 2462, 2542, 2650, 2718, 2798, 2839, 2882], 217) := by decide +kernel
theorem dL_law_2940 : decode cL_law 2940 = .ok (.iconst 1, 1) := by decide +kernel
theorem dL_law_2941 : decode cL_law 2941 = .ok (.ireturn, 1) := by decide +kernel
def fL_step (p0 p1 p2 p3 : Nat) (c i : Int32) (h : mxH) : Option (Int32 × mxH) := if c = 0 then fLa_0 p0 p1 p2 p3 i h else if c = 1 then fLa_1 p0 p1 p2 p3 i h else if c = 2 then fLa_2 p0 p1 p2 p3 i h else if c = 3 then fLa_3 p0 p1 p2 p3 i h else if c = 4 then fLa_4 p0 p1 p2 p3 i h else if c = 5 then fLa_5 p0 p1 p2 p3 i h else if c = 6 then fLa_6 p0 p1 p2 p3 i h else if c = 7 then fLa_7 p0 p1 p2 p3 i h else if c = 8 then fLa_8 p0 p1 p2 p3 i h else if c = 9 then fLa_9 p0 p1 p2 p3 i h else if c = 10 then fLa_10 p0 p1 p2 p3 i h else if c = 11 then fLa_11 p0 p1 p2 p3 i h else if c = 12 then fLa_12 p0 p1 p2 p3 i h else if c = 13 then fLa_13 p0 p1 p2 p3 i h else if c = 14 then fLa_14 p0 p1 p2 p3 i h else if c = 15 then fLa_15 p0 p1 p2 p3 i h else if c = 16 then fLa_16 p0 p1 p2 p3 i h else if c = 17 then fLa_17 p0 p1 p2 p3 i h else if c = 18 then fLa_18 p0 p1 p2 p3 i h else if c = 19 then fLa_19 p0 p1 p2 p3 i h else if c = 20 then fLa_20 p0 p1 p2 p3 i h else if c = 21 then fLa_21 p0 p1 p2 p3 i h else if c = 22 then fLa_22 p0 p1 p2 p3 i h else if c = 23 then fLa_23 p0 p1 p2 p3 i h else if c = 24 then fLa_24 p0 p1 p2 p3 i h else if c = 25 then fLa_25 p0 p1 p2 p3 i h else if c = 26 then fLa_26 p0 p1 p2 p3 i h else if c = 27 then fLa_27 p0 p1 p2 p3 i h else if c = 28 then fLa_28 p0 p1 p2 p3 i h else if c = 29 then fLa_29 p0 p1 p2 p3 i h else if c = 30 then fLa_30 p0 p1 p2 p3 i h else if c = 31 then fLa_31 p0 p1 p2 p3 i h else if c = 32 then fLa_32 p0 p1 p2 p3 i h else if c = 33 then fLa_33 p0 p1 p2 p3 i h else if c = 34 then fLa_34 p0 p1 p2 p3 i h else if c = 35 then fLa_35 p0 p1 p2 p3 i h else if c = 36 then fLa_36 p0 p1 p2 p3 i h else if c = 37 then fLa_37 p0 p1 p2 p3 i h else if c = 38 then fLa_38 p0 p1 p2 p3 i h else if c = 39 then fLa_39 p0 p1 p2 p3 i h else if c = 40 then fLa_40 p0 p1 p2 p3 i h else if c = 41 then fLa_41 p0 p1 p2 p3 i h else if c = 42 then fLa_42 p0 p1 p2 p3 i h else if c = 43 then fLa_43 p0 p1 p2 p3 i h else if c = 44 then fLa_44 p0 p1 p2 p3 i h else if c = 45 then fLa_45 p0 p1 p2 p3 i h else if c = 46 then fLa_46 p0 p1 p2 p3 i h else if c = 47 then fLa_47 p0 p1 p2 p3 i h else if c = 48 then fLa_48 p0 p1 p2 p3 i h else if c = 49 then fLa_49 p0 p1 p2 p3 i h else if c = 50 then fLa_50 p0 p1 p2 p3 i h else some (i + 5, h)
set_option maxRecDepth 20000 in
set_option maxHeartbeats 4000000 in
theorem tL_step {l : Launch} {Z : mxZ} {X : mxX} (hl : l.stackTraces = false) (C : mxC l Z X RL cL_law 9) (hX : mxRm X = room_1) {p0 p1 p2 p3 : Nat} {c i : Int32} {h : mxH} {o : Int32 × mxH} (hf : fL_step p0 p1 p2 p3 c i h = some o) {k n : Nat} (hk : k + 8 ≤ 601024) (hn : n + 40 ≤ 7293034) (K : ∀ k2 n2, k2 ≤ k + 8 → n2 ≤ n + 40 → mG l Z X 9 k2 n2 23 [some (.ref p0), some (.ref p1), some (.ref p2), some (.ref p3), some (.int o.1), none, none, none, none] [] o.2) : mG l Z X 9 k n 39 [some (.ref p0), some (.ref p1), some (.ref p2), some (.ref p3), some (.int i), none, none, none, none] [.int c] h := by
  unfold fL_step at hf
  by_cases q0 : c = 0
  · rw [if_pos q0] at hf
    exact mG_tsw (pc := 39) (tgt := 256) 0 C dL_law_39 (by decide) q0 rfl (by decide) (tLa_0 hl C hX hf hk hn K)
  rw [if_neg q0] at hf
  by_cases q1 : c = 1
  · rw [if_pos q1] at hf
    exact mG_tsw (pc := 39) (tgt := 336) 1 C dL_law_39 (by decide) q1 rfl (by decide) (tLa_1 hl C hX hf hk hn K)
  rw [if_neg q1] at hf
  by_cases q2 : c = 2
  · rw [if_pos q2] at hf
    exact mG_tsw (pc := 39) (tgt := 404) 2 C dL_law_39 (by decide) q2 rfl (by decide) (tLa_2 hl C hX hf hk hn K)
  rw [if_neg q2] at hf
  by_cases q3 : c = 3
  · rw [if_pos q3] at hf
    exact mG_tsw (pc := 39) (tgt := 472) 3 C dL_law_39 (by decide) q3 rfl (by decide) (tLa_3 hl C hX hf hk hn K)
  rw [if_neg q3] at hf
  by_cases q4 : c = 4
  · rw [if_pos q4] at hf
    exact mG_tsw (pc := 39) (tgt := 528) 4 C dL_law_39 (by decide) q4 rfl (by decide) (tLa_4 hl C hX hf hk hn K)
  rw [if_neg q4] at hf
  by_cases q5 : c = 5
  · rw [if_pos q5] at hf
    exact mG_tsw (pc := 39) (tgt := 596) 5 C dL_law_39 (by decide) q5 rfl (by decide) (tLa_5 hl C hX hf hk hn K)
  rw [if_neg q5] at hf
  by_cases q6 : c = 6
  · rw [if_pos q6] at hf
    exact mG_tsw (pc := 39) (tgt := 664) 6 C dL_law_39 (by decide) q6 rfl (by decide) (tLa_6 hl C hX hf hk hn K)
  rw [if_neg q6] at hf
  by_cases q7 : c = 7
  · rw [if_pos q7] at hf
    exact mG_tsw (pc := 39) (tgt := 720) 7 C dL_law_39 (by decide) q7 rfl (by decide) (tLa_7 hl C hX hf hk hn K)
  rw [if_neg q7] at hf
  by_cases q8 : c = 8
  · rw [if_pos q8] at hf
    exact mG_tsw (pc := 39) (tgt := 733) 8 C dL_law_39 (by decide) q8 rfl (by decide) (tLa_8 hl C hX hf hk hn K)
  rw [if_neg q8] at hf
  by_cases q9 : c = 9
  · rw [if_pos q9] at hf
    exact mG_tsw (pc := 39) (tgt := 789) 9 C dL_law_39 (by decide) q9 rfl (by decide) (tLa_9 hl C hX hf hk hn K)
  rw [if_neg q9] at hf
  by_cases q10 : c = 10
  · rw [if_pos q10] at hf
    exact mG_tsw (pc := 39) (tgt := 857) 10 C dL_law_39 (by decide) q10 rfl (by decide) (tLa_10 hl C hX hf hk hn K)
  rw [if_neg q10] at hf
  by_cases q11 : c = 11
  · rw [if_pos q11] at hf
    exact mG_tsw (pc := 39) (tgt := 925) 11 C dL_law_39 (by decide) q11 rfl (by decide) (tLa_11 hl C hX hf hk hn K)
  rw [if_neg q11] at hf
  by_cases q12 : c = 12
  · rw [if_pos q12] at hf
    exact mG_tsw (pc := 39) (tgt := 993) 12 C dL_law_39 (by decide) q12 rfl (by decide) (tLa_12 hl C hX hf hk hn K)
  rw [if_neg q12] at hf
  by_cases q13 : c = 13
  · rw [if_pos q13] at hf
    exact mG_tsw (pc := 39) (tgt := 1049) 13 C dL_law_39 (by decide) q13 rfl (by decide) (tLa_13 hl C hX hf hk hn K)
  rw [if_neg q13] at hf
  by_cases q14 : c = 14
  · rw [if_pos q14] at hf
    exact mG_tsw (pc := 39) (tgt := 1062) 14 C dL_law_39 (by decide) q14 rfl (by decide) (tLa_14 hl C hX hf hk hn K)
  rw [if_neg q14] at hf
  by_cases q15 : c = 15
  · rw [if_pos q15] at hf
    exact mG_tsw (pc := 39) (tgt := 1118) 15 C dL_law_39 (by decide) q15 rfl (by decide) (tLa_15 hl C hX hf hk hn K)
  rw [if_neg q15] at hf
  by_cases q16 : c = 16
  · rw [if_pos q16] at hf
    exact mG_tsw (pc := 39) (tgt := 1174) 16 C dL_law_39 (by decide) q16 rfl (by decide) (tLa_16 hl C hX hf hk hn K)
  rw [if_neg q16] at hf
  by_cases q17 : c = 17
  · rw [if_pos q17] at hf
    exact mG_tsw (pc := 39) (tgt := 1230) 17 C dL_law_39 (by decide) q17 rfl (by decide) (tLa_17 hl C hX hf hk hn K)
  rw [if_neg q17] at hf
  by_cases q18 : c = 18
  · rw [if_pos q18] at hf
    exact mG_tsw (pc := 39) (tgt := 1286) 18 C dL_law_39 (by decide) q18 rfl (by decide) (tLa_18 hl C hX hf hk hn K)
  rw [if_neg q18] at hf
  by_cases q19 : c = 19
  · rw [if_pos q19] at hf
    exact mG_tsw (pc := 39) (tgt := 1342) 19 C dL_law_39 (by decide) q19 rfl (by decide) (tLa_19 hl C hX hf hk hn K)
  rw [if_neg q19] at hf
  by_cases q20 : c = 20
  · rw [if_pos q20] at hf
    exact mG_tsw (pc := 39) (tgt := 1410) 20 C dL_law_39 (by decide) q20 rfl (by decide) (tLa_20 hl C hX hf hk hn K)
  rw [if_neg q20] at hf
  by_cases q21 : c = 21
  · rw [if_pos q21] at hf
    exact mG_tsw (pc := 39) (tgt := 1478) 21 C dL_law_39 (by decide) q21 rfl (by decide) (tLa_21 hl C hX hf hk hn K)
  rw [if_neg q21] at hf
  by_cases q22 : c = 22
  · rw [if_pos q22] at hf
    exact mG_tsw (pc := 39) (tgt := 1546) 22 C dL_law_39 (by decide) q22 rfl (by decide) (tLa_22 hl C hX hf hk hn K)
  rw [if_neg q22] at hf
  by_cases q23 : c = 23
  · rw [if_pos q23] at hf
    exact mG_tsw (pc := 39) (tgt := 1614) 23 C dL_law_39 (by decide) q23 rfl (by decide) (tLa_23 hl C hX hf hk hn K)
  rw [if_neg q23] at hf
  by_cases q24 : c = 24
  · rw [if_pos q24] at hf
    exact mG_tsw (pc := 39) (tgt := 1670) 24 C dL_law_39 (by decide) q24 rfl (by decide) (tLa_24 hl C hX hf hk hn K)
  rw [if_neg q24] at hf
  by_cases q25 : c = 25
  · rw [if_pos q25] at hf
    exact mG_tsw (pc := 39) (tgt := 1726) 25 C dL_law_39 (by decide) q25 rfl (by decide) (tLa_25 hl C hX hf hk hn K)
  rw [if_neg q25] at hf
  by_cases q26 : c = 26
  · rw [if_pos q26] at hf
    exact mG_tsw (pc := 39) (tgt := 1825) 26 C dL_law_39 (by decide) q26 rfl (by decide) (tLa_26 hl C hX hf hk hn K)
  rw [if_neg q26] at hf
  by_cases q27 : c = 27
  · rw [if_pos q27] at hf
    exact mG_tsw (pc := 39) (tgt := 1838) 27 C dL_law_39 (by decide) q27 rfl (by decide) (tLa_27 hl C hX hf hk hn K)
  rw [if_neg q27] at hf
  by_cases q28 : c = 28
  · rw [if_pos q28] at hf
    exact mG_tsw (pc := 39) (tgt := 1894) 28 C dL_law_39 (by decide) q28 rfl (by decide) (tLa_28 hl C hX hf hk hn K)
  rw [if_neg q28] at hf
  by_cases q29 : c = 29
  · rw [if_pos q29] at hf
    exact mG_tsw (pc := 39) (tgt := 1950) 29 C dL_law_39 (by decide) q29 rfl (by decide) (tLa_29 hl C hX hf hk hn K)
  rw [if_neg q29] at hf
  by_cases q30 : c = 30
  · rw [if_pos q30] at hf
    exact mG_tsw (pc := 39) (tgt := 2018) 30 C dL_law_39 (by decide) q30 rfl (by decide) (tLa_30 hl C hX hf hk hn K)
  rw [if_neg q30] at hf
  by_cases q31 : c = 31
  · rw [if_pos q31] at hf
    exact mG_tsw (pc := 39) (tgt := 2031) 31 C dL_law_39 (by decide) q31 rfl (by decide) (tLa_31 hl C hX hf hk hn K)
  rw [if_neg q31] at hf
  by_cases q32 : c = 32
  · rw [if_pos q32] at hf
    exact mG_tsw (pc := 39) (tgt := 2087) 32 C dL_law_39 (by decide) q32 rfl (by decide) (tLa_32 hl C hX hf hk hn K)
  rw [if_neg q32] at hf
  by_cases q33 : c = 33
  · rw [if_pos q33] at hf
    exact mG_tsw (pc := 39) (tgt := 2100) 33 C dL_law_39 (by decide) q33 rfl (by decide) (tLa_33 hl C hX hf hk hn K)
  rw [if_neg q33] at hf
  by_cases q34 : c = 34
  · rw [if_pos q34] at hf
    exact mG_tsw (pc := 39) (tgt := 2168) 34 C dL_law_39 (by decide) q34 rfl (by decide) (tLa_34 hl C hX hf hk hn K)
  rw [if_neg q34] at hf
  by_cases q35 : c = 35
  · rw [if_pos q35] at hf
    exact mG_tsw (pc := 39) (tgt := 2212) 35 C dL_law_39 (by decide) q35 rfl (by decide) (tLa_35 hl C hX hf hk hn K)
  rw [if_neg q35] at hf
  by_cases q36 : c = 36
  · rw [if_pos q36] at hf
    exact mG_tsw (pc := 39) (tgt := 2225) 36 C dL_law_39 (by decide) q36 rfl (by decide) (tLa_36 hl C hX hf hk hn K)
  rw [if_neg q36] at hf
  by_cases q37 : c = 37
  · rw [if_pos q37] at hf
    exact mG_tsw (pc := 39) (tgt := 2238) 37 C dL_law_39 (by decide) q37 rfl (by decide) (tLa_37 hl C hX hf hk hn K)
  rw [if_neg q37] at hf
  by_cases q38 : c = 38
  · rw [if_pos q38] at hf
    exact mG_tsw (pc := 39) (tgt := 2294) 38 C dL_law_39 (by decide) q38 rfl (by decide) (tLa_38 hl C hX hf hk hn K)
  rw [if_neg q38] at hf
  by_cases q39 : c = 39
  · rw [if_pos q39] at hf
    exact mG_tsw (pc := 39) (tgt := 2307) 39 C dL_law_39 (by decide) q39 rfl (by decide) (tLa_39 hl C hX hf hk hn K)
  rw [if_neg q39] at hf
  by_cases q40 : c = 40
  · rw [if_pos q40] at hf
    exact mG_tsw (pc := 39) (tgt := 2363) 40 C dL_law_39 (by decide) q40 rfl (by decide) (tLa_40 hl C hX hf hk hn K)
  rw [if_neg q40] at hf
  by_cases q41 : c = 41
  · rw [if_pos q41] at hf
    exact mG_tsw (pc := 39) (tgt := 2376) 41 C dL_law_39 (by decide) q41 rfl (by decide) (tLa_41 hl C hX hf hk hn K)
  rw [if_neg q41] at hf
  by_cases q42 : c = 42
  · rw [if_pos q42] at hf
    exact mG_tsw (pc := 39) (tgt := 2432) 42 C dL_law_39 (by decide) q42 rfl (by decide) (tLa_42 hl C hX hf hk hn K)
  rw [if_neg q42] at hf
  by_cases q43 : c = 43
  · rw [if_pos q43] at hf
    exact mG_tsw (pc := 39) (tgt := 2488) 43 C dL_law_39 (by decide) q43 rfl (by decide) (tLa_43 hl C hX hf hk hn K)
  rw [if_neg q43] at hf
  by_cases q44 : c = 44
  · rw [if_pos q44] at hf
    exact mG_tsw (pc := 39) (tgt := 2501) 44 C dL_law_39 (by decide) q44 rfl (by decide) (tLa_44 hl C hX hf hk hn K)
  rw [if_neg q44] at hf
  by_cases q45 : c = 45
  · rw [if_pos q45] at hf
    exact mG_tsw (pc := 39) (tgt := 2581) 45 C dL_law_39 (by decide) q45 rfl (by decide) (tLa_45 hl C hX hf hk hn K)
  rw [if_neg q45] at hf
  by_cases q46 : c = 46
  · rw [if_pos q46] at hf
    exact mG_tsw (pc := 39) (tgt := 2689) 46 C dL_law_39 (by decide) q46 rfl (by decide) (tLa_46 hl C hX hf hk hn K)
  rw [if_neg q46] at hf
  by_cases q47 : c = 47
  · rw [if_pos q47] at hf
    exact mG_tsw (pc := 39) (tgt := 2757) 47 C dL_law_39 (by decide) q47 rfl (by decide) (tLa_47 hl C hX hf hk hn K)
  rw [if_neg q47] at hf
  by_cases q48 : c = 48
  · rw [if_pos q48] at hf
    exact mG_tsw (pc := 39) (tgt := 2837) 48 C dL_law_39 (by decide) q48 rfl (by decide) (tLa_48 hl C hX hf hk hn K)
  rw [if_neg q48] at hf
  by_cases q49 : c = 49
  · rw [if_pos q49] at hf
    exact mG_tsw (pc := 39) (tgt := 2878) 49 C dL_law_39 (by decide) q49 rfl (by decide) (tLa_49 hl C hX hf hk hn K)
  rw [if_neg q49] at hf
  by_cases q50 : c = 50
  · rw [if_pos q50] at hf
    exact mG_tsw (pc := 39) (tgt := 2921) 50 C dL_law_39 (by decide) q50 rfl (by decide) (tLa_50 hl C hX hf hk hn K)
  rw [if_neg q50] at hf
  have hx : c.toInt < 0 ∨ 50 < c.toInt := by
    by_cases h1 : c.toInt < 0
    · exact Or.inl h1
    by_cases h2 : 50 < c.toInt
    · exact Or.inr h2
    exfalso
    have hc : c = Int32.ofInt c.toInt := (Int32.ofInt_toInt c).symm
    obtain ⟨m, hm⟩ : ∃ m : Nat, c.toInt = (m : Int) := ⟨c.toInt.toNat, by omega⟩
    have hm50 : m ≤ 50 := by omega
    rw [hm] at hc
    have e : m = 0 ∨ m = 1 ∨ m = 2 ∨ m = 3 ∨ m = 4 ∨ m = 5 ∨ m = 6 ∨ m = 7 ∨ m = 8 ∨ m = 9 ∨ m = 10 ∨ m = 11 ∨ m = 12 ∨ m = 13 ∨ m = 14 ∨ m = 15 ∨ m = 16 ∨ m = 17 ∨ m = 18 ∨ m = 19 ∨ m = 20 ∨ m = 21 ∨ m = 22 ∨ m = 23 ∨ m = 24 ∨ m = 25 ∨ m = 26 ∨ m = 27 ∨ m = 28 ∨ m = 29 ∨ m = 30 ∨ m = 31 ∨ m = 32 ∨ m = 33 ∨ m = 34 ∨ m = 35 ∨ m = 36 ∨ m = 37 ∨ m = 38 ∨ m = 39 ∨ m = 40 ∨ m = 41 ∨ m = 42 ∨ m = 43 ∨ m = 44 ∨ m = 45 ∨ m = 46 ∨ m = 47 ∨ m = 48 ∨ m = 49 ∨ m = 50 := by omega
    rcases e with rfl | rfl | rfl | rfl | rfl | rfl | rfl | rfl | rfl | rfl | rfl | rfl | rfl | rfl | rfl | rfl | rfl | rfl | rfl | rfl | rfl | rfl | rfl | rfl | rfl | rfl | rfl | rfl | rfl | rfl | rfl | rfl | rfl | rfl | rfl | rfl | rfl | rfl | rfl | rfl | rfl | rfl | rfl | rfl | rfl | rfl | rfl | rfl | rfl | rfl | rfl
    · exact q0 (hc.trans (by decide))
    · exact q1 (hc.trans (by decide))
    · exact q2 (hc.trans (by decide))
    · exact q3 (hc.trans (by decide))
    · exact q4 (hc.trans (by decide))
    · exact q5 (hc.trans (by decide))
    · exact q6 (hc.trans (by decide))
    · exact q7 (hc.trans (by decide))
    · exact q8 (hc.trans (by decide))
    · exact q9 (hc.trans (by decide))
    · exact q10 (hc.trans (by decide))
    · exact q11 (hc.trans (by decide))
    · exact q12 (hc.trans (by decide))
    · exact q13 (hc.trans (by decide))
    · exact q14 (hc.trans (by decide))
    · exact q15 (hc.trans (by decide))
    · exact q16 (hc.trans (by decide))
    · exact q17 (hc.trans (by decide))
    · exact q18 (hc.trans (by decide))
    · exact q19 (hc.trans (by decide))
    · exact q20 (hc.trans (by decide))
    · exact q21 (hc.trans (by decide))
    · exact q22 (hc.trans (by decide))
    · exact q23 (hc.trans (by decide))
    · exact q24 (hc.trans (by decide))
    · exact q25 (hc.trans (by decide))
    · exact q26 (hc.trans (by decide))
    · exact q27 (hc.trans (by decide))
    · exact q28 (hc.trans (by decide))
    · exact q29 (hc.trans (by decide))
    · exact q30 (hc.trans (by decide))
    · exact q31 (hc.trans (by decide))
    · exact q32 (hc.trans (by decide))
    · exact q33 (hc.trans (by decide))
    · exact q34 (hc.trans (by decide))
    · exact q35 (hc.trans (by decide))
    · exact q36 (hc.trans (by decide))
    · exact q37 (hc.trans (by decide))
    · exact q38 (hc.trans (by decide))
    · exact q39 (hc.trans (by decide))
    · exact q40 (hc.trans (by decide))
    · exact q41 (hc.trans (by decide))
    · exact q42 (hc.trans (by decide))
    · exact q43 (hc.trans (by decide))
    · exact q44 (hc.trans (by decide))
    · exact q45 (hc.trans (by decide))
    · exact q46 (hc.trans (by decide))
    · exact q47 (hc.trans (by decide))
    · exact q48 (hc.trans (by decide))
    · exact q49 (hc.trans (by decide))
    · exact q50 (hc.trans (by decide))
  cases hf
  refine mG_tsd (pc := 39) (tgt := 2934) C dL_law_39 hx (by decide) ?_
  refine mG_ii (ls' := [some (.ref p0), some (.ref p1), some (.ref p2), some (.ref p3), some (.int (i + 5)), none, none, none, none]) (pc := 2934) C dL_law_2934 rfl (kinc5 _) rfl rfl rfl ?_
  refine mG_goto (tgt := 23) (pc := 2937) C dL_law_2937 (by decide) ?_
  exact K _ _ (by omega) (by omega)
/-- the law: from the script's cell 0 on -/
def fL_loop (p1 p2 p3 : Nat) (s : Int32 × mxH) : Option ((Int32 × mxH) ⊕ mxH) := Option.bind (lenA s.2 0) (fun v => if v - 5 < s.1 then some (Sum.inr s.2) else Option.bind (ldI s.2 0 s.1) (fun w => Option.bind (fL_step 0 p1 p2 p3 (w &&& 63) s.1 s.2) (fun o => some (Sum.inl o))))
def fL_law (h : mxH) : Option mxH := Option.bind (nwO h 9 [.null, .null, .null, .null, .null, .null, .null, .null, .null]) (fun h1 => Option.bind (fX9_init h.2 h1) (fun h2 => Option.bind (nwO h2 10 [.null, .null, .int 0, .int 0, .null, .null, .null, .null, .null, .null, .null, .null, .null, .null, .null, .null]) (fun h3 => Option.bind (fX10_init h2.2 h3) (fun h4 => Option.bind (nwJ h4 1) (fun h5 => mxLoop (fL_loop h.2 h2.2 h4.2) 600 (0, h5))))))
set_option maxRecDepth 20000 in
set_option maxHeartbeats 4000000 in
theorem tL_law {l : Launch} {Z : mxZ} {X : mxX} (hl : l.stackTraces = false) (C : mxC l Z X RL cL_law 9) (hX : mxRm X = room_1) {h h' : mxH} (hf : fL_law h = some h') (E : ∀ k n, k ≤ 601024 → n ≤ 7293034 → mG l Z X 9 k n 2941 [none, none, none, none, none, none, none, none, none] [.int 1] h') : mG l Z X 9 0 0 0 [some (.ref 0), none, none, none, none, none, none, none, none] [] h := by
  unfold fL_law at hf
  obtain ⟨h1, e1, hf⟩ := mx_bind hf
  refine mG_nwO (pc := 0) (k' := 1) (n' := 9) C hX dL_law_0 mk_L_8 e1 rfl rfl rfl ?_
  refine mG_dup (pc := 3) C dL_law_3 rfl ?_
  obtain ⟨h2, e2, hf⟩ := mx_bind hf
  refine mG_cI (pc := 4) (k' := 317) (n' := 5528) [] [.ref h.2] C hX dL_law_4 lkI_L_135 rfl (tX9_init hl e2) rfl rfl rfl rfl ?_
  refine mG_asn (ls' := [some (.ref 0), some (.ref h.2), none, none, none, none, none, none, none]) (pc := 7) C dL_law_7 rfl rfl rfl ?_
  obtain ⟨h3, e3, hf⟩ := mx_bind hf
  refine mG_nwO (pc := 8) (k' := 318) (n' := 5544) C hX dL_law_8 mk_L_136 e3 rfl rfl rfl ?_
  refine mG_dup (pc := 11) C dL_law_11 rfl ?_
  obtain ⟨h4, e4, hf⟩ := mx_bind hf
  refine mG_cI (pc := 12) (k' := 332) (n' := 8037) [] [.ref h2.2] C hX dL_law_12 lkI_L_138 rfl (tX10_init hl e4) rfl rfl rfl rfl ?_
  refine mG_asn (ls' := [some (.ref 0), some (.ref h.2), some (.ref h2.2), none, none, none, none, none, none]) (pc := 15) C dL_law_15 rfl rfl rfl ?_
  refine mG_ic (pc := 16) C dL_law_16 kI1 ?_
  obtain ⟨h5, e5, hf⟩ := mx_bind hf
  refine mG_nwJ (N := 1) (pc := 17) (k' := 333) (n' := 8038) C hX dL_law_17 w1599 (by decide) (by decide) rfl e5 rfl rfl rfl ?_
  refine mG_asn (ls' := [some (.ref 0), some (.ref h.2), some (.ref h2.2), some (.ref h4.2), none, none, none, none, none]) (pc := 19) C dL_law_19 rfl rfl rfl ?_
  refine mG_ic (pc := 20) C dL_law_20 kI0 ?_
  refine mG_is (ls' := [some (.ref 0), some (.ref h.2), some (.ref h2.2), some (.ref h4.2), some (.int 0), none, none, none, none]) (pc := 21) C dL_law_21 rfl rfl rfl ?_
  have L := mxLoop_indN (f := fL_loop h.2 h2.2 h4.2) (r := h') (K := fun N s => ∀ k n, k + 8 * N ≤ 601024 → n + 40 * N ≤ 7293034 → mG l Z X 9 k n 23 [some (.ref 0), some (.ref h.2), some (.ref h2.2), some (.ref h4.2), some (.int s.1), none, none, none, none] [] s.2) ?_ 600 (0, h5) hf
  · exact L 333 8038 (by omega) (by omega)
  intro N s o e hK hx k n hk hn
  unfold fL_loop at e
  refine mG_iload (pc := 23) C dL_law_23 rfl ?_
  refine mG_aload_n (pc := 25) C dL_law_25 rfl ?_
  obtain ⟨v, e6, e⟩ := mx_bind e
  refine mG_arraylength (pc := 26) C dL_law_26 e6 ?_
  refine mG_ic (pc := 27) C dL_law_27 kI5 ?_
  refine mG_isub (pc := 28) C dL_law_28 ?_
  refine mG_icmp_gt (pc := 29) (tgt := 2940) C dL_law_29 (by decide) (fun q => ?_) (fun q => ?_)
  · rw [if_pos q] at e
    have e7 := hx _ (Option.some.inj e).symm
    refine mG_ic (pc := 2940) C dL_law_2940 kI1 ?_
    rw [e7]
    exact mG_sub (mxLe_n (mxLe_n (mxLe_n (mxLe_n (mxLe_n (mxLe_n (mxLe_n (mxLe_n (mxLe_n mxLe_z))))))))) (E k n (by omega) (by omega))
  · rw [if_neg q] at e
    refine mG_aload_n (pc := 32) C dL_law_32 rfl ?_
    refine mG_iload (pc := 33) C dL_law_33 rfl ?_
    obtain ⟨w, e8, e⟩ := mx_bind e
    refine mG_iaload (pc := 35) C dL_law_35 e8 ?_
    refine mG_bp (pc := 36) C dL_law_36 kB63 ?_
    refine mG_iand (pc := 38) C dL_law_38 ?_
    obtain ⟨o2, e9, e⟩ := mx_bind e
    refine tL_step hl C hX e9 (by omega) (by omega) (fun k2 n2 hk2 hn2 => ?_)
    exact hK o2 (Option.some.inj e).symm k2 n2 (by omega) (by omega)
