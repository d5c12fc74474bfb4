/-! printed by wip/gen54/emit2.py: for each method its function on the mini machine, and that the machine walks as the function says -/
theorem dL_areHeld_0 : decode cL_areHeld 0 = .ok (.iconst 1, 1) := by decide +kernel
theorem dL_areHeld_1 : decode cL_areHeld 1 = .ok (.aload_n 0, 1) := by decide +kernel
theorem dL_areHeld_2 : decode cL_areHeld 2 = .ok (.getfield 25, 3) := by decide +kernel
theorem dL_areHeld_5 : decode cL_areHeld 5 = .ok (.bipush 6, 2) := by decide +kernel
theorem dL_areHeld_7 : decode cL_areHeld 7 = .ok (.invokevirtual 30, 3) := by decide +kernel
theorem dL_areHeld_10 : decode cL_areHeld 10 = .ok (.iadd, 1) := by decide +kernel
theorem dL_areHeld_11 : decode cL_areHeld 11 = .ok (.istore_n 1, 1) := by decide +kernel
theorem dL_areHeld_12 : decode cL_areHeld 12 = .ok (.aload_n 0, 1) := by decide +kernel
theorem dL_areHeld_13 : decode cL_areHeld 13 = .ok (.getfield 25, 3) := by decide +kernel
theorem dL_areHeld_16 : decode cL_areHeld 16 = .ok (.iconst 5, 1) := by decide +kernel
theorem dL_areHeld_17 : decode cL_areHeld 17 = .ok (.invokevirtual 30, 3) := by decide +kernel
theorem dL_areHeld_20 : decode cL_areHeld 20 = .ok (.istore_n 2, 1) := by decide +kernel
theorem dL_areHeld_21 : decode cL_areHeld 21 = .ok (.aload_n 0, 1) := by decide +kernel
theorem dL_areHeld_22 : decode cL_areHeld 22 = .ok (.getfield 25, 3) := by decide +kernel
theorem dL_areHeld_25 : decode cL_areHeld 25 = .ok (.bipush 12, 2) := by decide +kernel
theorem dL_areHeld_27 : decode cL_areHeld 27 = .ok (.invokevirtual 30, 3) := by decide +kernel
theorem dL_areHeld_30 : decode cL_areHeld 30 = .ok (.istore_n 3, 1) := by decide +kernel
theorem dL_areHeld_31 : decode cL_areHeld 31 = .ok (.aload_n 0, 1) := by decide +kernel
theorem dL_areHeld_32 : decode cL_areHeld 32 = .ok (.getfield 25, 3) := by decide +kernel
theorem dL_areHeld_35 : decode cL_areHeld 35 = .ok (.bipush 100, 2) := by decide +kernel
theorem dL_areHeld_37 : decode cL_areHeld 37 = .ok (.invokevirtual 30, 3) := by decide +kernel
theorem dL_areHeld_40 : decode cL_areHeld 40 = .ok (.istore 4, 2) := by decide +kernel
theorem dL_areHeld_42 : decode cL_areHeld 42 = .ok (.aload_n 0, 1) := by decide +kernel
theorem dL_areHeld_43 : decode cL_areHeld 43 = .ok (.bipush 20, 2) := by decide +kernel
theorem dL_areHeld_45 : decode cL_areHeld 45 = .ok (.invokevirtual 99, 3) := by decide +kernel
theorem dL_areHeld_48 : decode cL_areHeld 48 = .ok (.astore 5, 2) := by decide +kernel
theorem dL_areHeld_50 : decode cL_areHeld 50 = .ok (.aload_n 0, 1) := by decide +kernel
theorem dL_areHeld_51 : decode cL_areHeld 51 = .ok (.getfield 18, 3) := by decide +kernel
theorem dL_areHeld_54 : decode cL_areHeld 54 = .ok (.iload_n 2, 1) := by decide +kernel
theorem dL_areHeld_55 : decode cL_areHeld 55 = .ok (.aaload, 1) := by decide +kernel
theorem dL_areHeld_56 : decode cL_areHeld 56 = .ok (.iload_n 3, 1) := by decide +kernel
theorem dL_areHeld_57 : decode cL_areHeld 57 = .ok (.iaload, 1) := by decide +kernel
theorem dL_areHeld_58 : decode cL_areHeld 58 = .ok (.istore 6, 2) := by decide +kernel
theorem dL_areHeld_60 : decode cL_areHeld 60 = .ok (.aload_n 0, 1) := by decide +kernel
theorem dL_areHeld_61 : decode cL_areHeld 61 = .ok (.getfield 18, 3) := by decide +kernel
theorem dL_areHeld_64 : decode cL_areHeld 64 = .ok (.iload_n 2, 1) := by decide +kernel
theorem dL_areHeld_65 : decode cL_areHeld 65 = .ok (.aaload, 1) := by decide +kernel
theorem dL_areHeld_66 : decode cL_areHeld 66 = .ok (.iload_n 3, 1) := by decide +kernel
theorem dL_areHeld_67 : decode cL_areHeld 67 = .ok (.iload 4, 2) := by decide +kernel
theorem dL_areHeld_69 : decode cL_areHeld 69 = .ok (.iastore, 1) := by decide +kernel
theorem dL_areHeld_70 : decode cL_areHeld 70 = .ok (.aload_n 0, 1) := by decide +kernel
theorem dL_areHeld_71 : decode cL_areHeld 71 = .ok (.bipush 20, 2) := by decide +kernel
theorem dL_areHeld_73 : decode cL_areHeld 73 = .ok (.invokevirtual 99, 3) := by decide +kernel
theorem dL_areHeld_76 : decode cL_areHeld 76 = .ok (.astore 7, 2) := by decide +kernel
theorem dL_areHeld_78 : decode cL_areHeld 78 = .ok (.aload_n 0, 1) := by decide +kernel
theorem dL_areHeld_79 : decode cL_areHeld 79 = .ok (.getfield 18, 3) := by decide +kernel
theorem dL_areHeld_82 : decode cL_areHeld 82 = .ok (.iload_n 2, 1) := by decide +kernel
theorem dL_areHeld_83 : decode cL_areHeld 83 = .ok (.aaload, 1) := by decide +kernel
theorem dL_areHeld_84 : decode cL_areHeld 84 = .ok (.iload_n 3, 1) := by decide +kernel
theorem dL_areHeld_85 : decode cL_areHeld 85 = .ok (.iload 6, 2) := by decide +kernel
theorem dL_areHeld_87 : decode cL_areHeld 87 = .ok (.iastore, 1) := by decide +kernel
theorem dL_areHeld_88 : decode cL_areHeld 88 = .ok (.iload_n 1, 1) := by decide +kernel
theorem dL_areHeld_89 : decode cL_areHeld 89 = .ok (.aload 5, 2) := by decide +kernel
theorem dL_areHeld_91 : decode cL_areHeld 91 = .ok (.arraylength, 1) := by decide +kernel
theorem dL_areHeld_92 : decode cL_areHeld 92 = .ok (.invokestatic 72, 3) := by decide +kernel
theorem dL_areHeld_95 : decode cL_areHeld 95 = .ok (.iload_n 1, 1) := by decide +kernel
theorem dL_areHeld_96 : decode cL_areHeld 96 = .ok (.aload 7, 2) := by decide +kernel
theorem dL_areHeld_98 : decode cL_areHeld 98 = .ok (.arraylength, 1) := by decide +kernel
theorem dL_areHeld_99 : decode cL_areHeld 99 = .ok (.invokestatic 72, 3) := by decide +kernel
theorem dL_areHeld_102 : decode cL_areHeld 102 = .ok (.if_icmp .ne 7, 3) := by decide +kernel
theorem dL_areHeld_105 : decode cL_areHeld 105 = .ok (.iconst 1, 1) := by decide +kernel
theorem dL_areHeld_106 : decode cL_areHeld 106 = .ok (.goto 4, 3) := by decide +kernel
theorem dL_areHeld_109 : decode cL_areHeld 109 = .ok (.iconst 0, 1) := by decide +kernel
theorem dL_areHeld_110 : decode cL_areHeld 110 = .ok (.istore 8, 2) := by decide +kernel
theorem dL_areHeld_112 : decode cL_areHeld 112 = .ok (.iconst 0, 1) := by decide +kernel
theorem dL_areHeld_113 : decode cL_areHeld 113 = .ok (.istore 9, 2) := by decide +kernel
theorem dL_areHeld_115 : decode cL_areHeld 115 = .ok (.iload 9, 2) := by decide +kernel
theorem dL_areHeld_117 : decode cL_areHeld 117 = .ok (.iload_n 1, 1) := by decide +kernel
theorem dL_areHeld_118 : decode cL_areHeld 118 = .ok (.if_icmp .ge 42, 3) := by decide +kernel
theorem dL_areHeld_121 : decode cL_areHeld 121 = .ok (.iload 9, 2) := by decide +kernel
theorem dL_areHeld_123 : decode cL_areHeld 123 = .ok (.aload 5, 2) := by decide +kernel
theorem dL_areHeld_125 : decode cL_areHeld 125 = .ok (.arraylength, 1) := by decide +kernel
theorem dL_areHeld_126 : decode cL_areHeld 126 = .ok (.if_icmp .ge 34, 3) := by decide +kernel
theorem dL_areHeld_129 : decode cL_areHeld 129 = .ok (.iload 8, 2) := by decide +kernel
theorem dL_areHeld_131 : decode cL_areHeld 131 = .ok (.ifCond .eq 29, 3) := by decide +kernel
theorem dL_areHeld_134 : decode cL_areHeld 134 = .ok (.aload 5, 2) := by decide +kernel
theorem dL_areHeld_136 : decode cL_areHeld 136 = .ok (.iload 9, 2) := by decide +kernel
theorem dL_areHeld_138 : decode cL_areHeld 138 = .ok (.iaload, 1) := by decide +kernel
theorem dL_areHeld_139 : decode cL_areHeld 139 = .ok (.aload 7, 2) := by decide +kernel
theorem dL_areHeld_141 : decode cL_areHeld 141 = .ok (.iload 9, 2) := by decide +kernel
theorem dL_areHeld_143 : decode cL_areHeld 143 = .ok (.iaload, 1) := by decide +kernel
theorem dL_areHeld_144 : decode cL_areHeld 144 = .ok (.if_icmp .ne 7, 3) := by decide +kernel
theorem dL_areHeld_147 : decode cL_areHeld 147 = .ok (.iconst 1, 1) := by decide +kernel
theorem dL_areHeld_148 : decode cL_areHeld 148 = .ok (.goto 4, 3) := by decide +kernel
theorem dL_areHeld_151 : decode cL_areHeld 151 = .ok (.iconst 0, 1) := by decide +kernel
theorem dL_areHeld_152 : decode cL_areHeld 152 = .ok (.istore 8, 2) := by decide +kernel
theorem dL_areHeld_154 : decode cL_areHeld 154 = .ok (.iinc 9 1, 3) := by decide +kernel
theorem dL_areHeld_157 : decode cL_areHeld 157 = .ok (.goto (-42), 3) := by decide +kernel
theorem dL_areHeld_160 : decode cL_areHeld 160 = .ok (.aload_n 0, 1) := by decide +kernel
theorem dL_areHeld_161 : decode cL_areHeld 161 = .ok (.getfield 10, 3) := by decide +kernel
theorem dL_areHeld_164 : decode cL_areHeld 164 = .ok (.iload_n 1, 1) := by decide +kernel
theorem dL_areHeld_165 : decode cL_areHeld 165 = .ok (.iload_n 2, 1) := by decide +kernel
theorem dL_areHeld_166 : decode cL_areHeld 166 = .ok (.iload_n 3, 1) := by decide +kernel
theorem dL_areHeld_167 : decode cL_areHeld 167 = .ok (.iload 4, 2) := by decide +kernel
theorem dL_areHeld_169 : decode cL_areHeld 169 = .ok (.invokevirtual 169, 3) := by decide +kernel
theorem dL_areHeld_172 : decode cL_areHeld 172 = .ok (.iload 8, 2) := by decide +kernel
theorem dL_areHeld_174 : decode cL_areHeld 174 = .ok (.if_icmp .ne 23, 3) := by decide +kernel
theorem dL_areHeld_177 : decode cL_areHeld 177 = .ok (.aload_n 0, 1) := by decide +kernel
theorem dL_areHeld_178 : decode cL_areHeld 178 = .ok (.getfield 10, 3) := by decide +kernel
theorem dL_areHeld_181 : decode cL_areHeld 181 = .ok (.iload_n 3, 1) := by decide +kernel
theorem dL_areHeld_182 : decode cL_areHeld 182 = .ok (.invokevirtual 113, 3) := by decide +kernel
theorem dL_areHeld_185 : decode cL_areHeld 185 = .ok (.aload_n 0, 1) := by decide +kernel
theorem dL_areHeld_186 : decode cL_areHeld 186 = .ok (.iload_n 3, 1) := by decide +kernel
theorem dL_areHeld_187 : decode cL_areHeld 187 = .ok (.invokevirtual 90, 3) := by decide +kernel
theorem dL_areHeld_190 : decode cL_areHeld 190 = .ok (.if_icmp .ne 7, 3) := by decide +kernel
theorem dL_areHeld_193 : decode cL_areHeld 193 = .ok (.iconst 1, 1) := by decide +kernel
theorem dL_areHeld_194 : decode cL_areHeld 194 = .ok (.goto 4, 3) := by decide +kernel
theorem dL_areHeld_197 : decode cL_areHeld 197 = .ok (.iconst 0, 1) := by decide +kernel
theorem dL_areHeld_198 : decode cL_areHeld 198 = .ok (.ireturn, 1) := by decide +kernel
def fL_areHeld (p0 : Nat) (h : mxH) : Option (Int32 × mxH) := Option.bind (gR h p0 11 1) (fun r1 => Option.bind (isO h r1 10) (fun u3 => Option.bind (fX10_next r1 6 h) (fun o6 => Option.bind (gR o6.2 p0 11 1) (fun r7 => Option.bind (isO o6.2 r7 10) (fun u9 => Option.bind (fX10_next r7 5 o6.2) (fun o12 => Option.bind (gR o12.2 p0 11 1) (fun r13 => Option.bind (isO o12.2 r13 10) (fun u15 => Option.bind (fX10_next r13 12 o12.2) (fun o18 => Option.bind (gR o18.2 p0 11 1) (fun r19 => Option.bind (isO o18.2 r19 10) (fun u21 => Option.bind (fX10_next r19 100 o18.2) (fun o24 => Option.bind (isO o24.2 p0 11) (fun u25 => Option.bind (fL_ranking p0 20 o24.2) (fun o28 => Option.bind (gR o28.2 p0 11 2) (fun r29 => Option.bind (ldR o28.2 r29 o12.1) (fun r31 => Option.bind (ldI o28.2 r31 o18.1) (fun v33 => Option.bind (gR o28.2 p0 11 2) (fun r35 => Option.bind (ldR o28.2 r35 o12.1) (fun r37 => Option.bind (stI o28.2 r37 o18.1 o24.1) (fun h39 => Option.bind (isO h39 p0 11) (fun u41 => Option.bind (fL_ranking p0 20 h39) (fun o44 => Option.bind (gR o44.2 p0 11 2) (fun r45 => Option.bind (ldR o44.2 r45 o12.1) (fun r47 => Option.bind (stI o44.2 r47 o18.1 v33) (fun h49 => Option.bind (lenA h49 o28.1) (fun v51 => Option.bind (lenA h49 o44.1) (fun v53 => Option.bind (α := Int32) (if (mxMin (1 + o6.1) v51) = (mxMin (1 + o6.1) v53) then some 1 else some 0) (fun jp57' : Int32 => Option.bind (mxLoop (ρ := Int32) (fun s59 : (Int32 × Int32) => (if (1 + o6.1) ≤ s59.2 then some (Sum.inr s59.1) else Option.bind (lenA h49 o28.1) (fun v68 => (if v68 ≤ s59.2 then some (Sum.inr s59.1) else (if s59.1 = 0 then some (Sum.inr s59.1) else Option.bind (ldI h49 o28.1 s59.2) (fun v72 => Option.bind (ldI h49 o44.1 s59.2) (fun v74 => Option.bind (α := Int32) (if v72 = v74 then some 1 else some 0) (fun jp78' : Int32 => some (Sum.inl (jp78', s59.2 + 1)))))))))) mxF (jp57', 0)) (fun r81 : Int32 => Option.bind (gR h49 p0 11 0) (fun r82 => Option.bind (isO h49 r82 9) (fun u84 => Option.bind (mxOk (fX9_holds r82 (1 + o6.1) o12.1 o18.1 o24.1 h49)) (fun o87 => Option.bind (α := (Int32 × mxH)) (if o87.1 = r81 then Option.bind (gR o87.2 p0 11 0) (fun r103 => Option.bind (isO o87.2 r103 9) (fun u105 => Option.bind (mxOk (fX9_value r103 o18.1 o87.2)) (fun o108 => Option.bind (isO o108.2 p0 11) (fun u109 => Option.bind (fL_value p0 o18.1 o108.2) (fun o112 => (if o108.1 = o112.1 then some (1, o112.2) else some (0, o112.2))))))) else some (0, o87.2)) (fun jp90' : (Int32 × mxH) => Option.bind (mxZ1 jp90'.1) (fun v114 => some (v114, jp90'.2)))))))))))))))))))))))))))))))))))
abbrev rmL_areHeld : Room := { frames := 8, cells := 1774, slots := 8935, locals := 147 }
set_option maxRecDepth 20000 in
set_option maxHeartbeats 1000000 in
theorem tL_areHeld {l : Launch} {Z : mxZ} (hl : l.stackTraces = false) {p0 : Nat} {h : mxH} {out : (Int32 × mxH)} (hf : fL_areHeld p0 h = some out) : mxMet l Z yL_areHeld cL_areHeld 10 (some .boolean) rmL_areHeld [.ref p0] h (.inl (some (.int out.1))) out.2 := by
  refine mxMet_of (by decide) hl (by simp [Value.category]) (Nat.le_of_ble_eq_true rfl) ?_
  intro X C E hX hin
  unfold fL_areHeld at hf
  refine mG_ic (pc := 0) C dL_areHeld_0 kI1 ?_
  refine mG_aload_n (pc := 1) C dL_areHeld_1 rfl ?_
  obtain ⟨r1, e2, hf⟩ := mx_bind hf
  refine mG_getR (pc := 2) C dL_areHeld_2 fl_L_25 e2 ?_
  refine mG_bp (pc := 5) C dL_areHeld_5 kB6 ?_
  obtain ⟨u3, e4, hf⟩ := mx_bind hf
  obtain ⟨o6, e5, hf⟩ := mx_bind hf
  refine mG_cV2 (pc := 7) (k' := 0) (n' := 0) (h' := o6.2) (v := some (.int o6.1)) 10 [.int 6] [.int 1] C hX dL_areHeld_7 lkV_L_30 rfl rfl e4 (tX10_next hl e5) rfl rfl rfl ⟨Nat.le_of_ble_eq_true rfl, Nat.le_of_ble_eq_true rfl⟩ rfl ?_
  refine mG_iadd (pc := 10) C dL_areHeld_10 ?_
  refine mG_isn (ls' := [some (.ref p0), some (.int (1 + o6.1)), none, none, none, none, none, none, none, none]) (pc := 11) C dL_areHeld_11 rfl rfl rfl ?_
  refine mG_aload_n (pc := 12) C dL_areHeld_12 rfl ?_
  obtain ⟨r7, e8, hf⟩ := mx_bind hf
  refine mG_getR (pc := 13) C dL_areHeld_13 fl_L_25 e8 ?_
  refine mG_ic (pc := 16) C dL_areHeld_16 kI5 ?_
  obtain ⟨u9, e10, hf⟩ := mx_bind hf
  obtain ⟨o12, e11, hf⟩ := mx_bind hf
  refine mG_cV2 (pc := 17) (k' := 0) (n' := 0) (h' := o12.2) (v := some (.int o12.1)) 10 [.int 5] [] C hX dL_areHeld_17 lkV_L_30 rfl rfl e10 (tX10_next hl e11) rfl rfl rfl ⟨Nat.le_of_ble_eq_true rfl, Nat.le_of_ble_eq_true rfl⟩ rfl ?_
  refine mG_isn (ls' := [some (.ref p0), some (.int (1 + o6.1)), some (.int o12.1), none, none, none, none, none, none, none]) (pc := 20) C dL_areHeld_20 rfl rfl rfl ?_
  refine mG_aload_n (pc := 21) C dL_areHeld_21 rfl ?_
  obtain ⟨r13, e14, hf⟩ := mx_bind hf
  refine mG_getR (pc := 22) C dL_areHeld_22 fl_L_25 e14 ?_
  refine mG_bp (pc := 25) C dL_areHeld_25 kB12 ?_
  obtain ⟨u15, e16, hf⟩ := mx_bind hf
  obtain ⟨o18, e17, hf⟩ := mx_bind hf
  refine mG_cV2 (pc := 27) (k' := 0) (n' := 0) (h' := o18.2) (v := some (.int o18.1)) 10 [.int 12] [] C hX dL_areHeld_27 lkV_L_30 rfl rfl e16 (tX10_next hl e17) rfl rfl rfl ⟨Nat.le_of_ble_eq_true rfl, Nat.le_of_ble_eq_true rfl⟩ rfl ?_
  refine mG_isn (ls' := [some (.ref p0), some (.int (1 + o6.1)), some (.int o12.1), some (.int o18.1), none, none, none, none, none, none]) (pc := 30) C dL_areHeld_30 rfl rfl rfl ?_
  refine mG_aload_n (pc := 31) C dL_areHeld_31 rfl ?_
  obtain ⟨r19, e20, hf⟩ := mx_bind hf
  refine mG_getR (pc := 32) C dL_areHeld_32 fl_L_25 e20 ?_
  refine mG_bp (pc := 35) C dL_areHeld_35 kB100 ?_
  obtain ⟨u21, e22, hf⟩ := mx_bind hf
  obtain ⟨o24, e23, hf⟩ := mx_bind hf
  refine mG_cV2 (pc := 37) (k' := 0) (n' := 0) (h' := o24.2) (v := some (.int o24.1)) 10 [.int 100] [] C hX dL_areHeld_37 lkV_L_30 rfl rfl e22 (tX10_next hl e23) rfl rfl rfl ⟨Nat.le_of_ble_eq_true rfl, Nat.le_of_ble_eq_true rfl⟩ rfl ?_
  refine mG_is (ls' := [some (.ref p0), some (.int (1 + o6.1)), some (.int o12.1), some (.int o18.1), some (.int o24.1), none, none, none, none, none]) (pc := 40) C dL_areHeld_40 rfl rfl rfl ?_
  refine mG_aload_n (pc := 42) C dL_areHeld_42 rfl ?_
  refine mG_bp (pc := 43) C dL_areHeld_43 kB20 ?_
  obtain ⟨u25, e26, hf⟩ := mx_bind hf
  obtain ⟨o28, e27, hf⟩ := mx_bind hf
  refine mG_cV2 (pc := 45) (k' := 884) (n' := 4450) (h' := o28.2) (v := some (.ref o28.1)) 11 [.int 20] [] C hX dL_areHeld_45 lkV_L_99 rfl rfl e26 (tL_ranking hl e27) rfl rfl rfl ⟨Nat.le_of_ble_eq_true rfl, Nat.le_of_ble_eq_true rfl⟩ rfl ?_
  refine mG_as (ls' := [some (.ref p0), some (.int (1 + o6.1)), some (.int o12.1), some (.int o18.1), some (.int o24.1), some (.ref o28.1), none, none, none, none]) (pc := 48) C dL_areHeld_48 rfl rfl rfl ?_
  refine mG_aload_n (pc := 50) C dL_areHeld_50 rfl ?_
  obtain ⟨r29, e30, hf⟩ := mx_bind hf
  refine mG_getR (pc := 51) C dL_areHeld_51 fl_L_18 e30 ?_
  refine mG_iload_n (pc := 54) C dL_areHeld_54 rfl ?_
  obtain ⟨r31, e32, hf⟩ := mx_bind hf
  refine mG_aaload (pc := 55) C dL_areHeld_55 e32 ?_
  refine mG_iload_n (pc := 56) C dL_areHeld_56 rfl ?_
  obtain ⟨v33, e34, hf⟩ := mx_bind hf
  refine mG_iaload (pc := 57) C dL_areHeld_57 e34 ?_
  refine mG_is (ls' := [some (.ref p0), some (.int (1 + o6.1)), some (.int o12.1), some (.int o18.1), some (.int o24.1), some (.ref o28.1), some (.int v33), none, none, none]) (pc := 58) C dL_areHeld_58 rfl rfl rfl ?_
  refine mG_aload_n (pc := 60) C dL_areHeld_60 rfl ?_
  obtain ⟨r35, e36, hf⟩ := mx_bind hf
  refine mG_getR (pc := 61) C dL_areHeld_61 fl_L_18 e36 ?_
  refine mG_iload_n (pc := 64) C dL_areHeld_64 rfl ?_
  obtain ⟨r37, e38, hf⟩ := mx_bind hf
  refine mG_aaload (pc := 65) C dL_areHeld_65 e38 ?_
  refine mG_iload_n (pc := 66) C dL_areHeld_66 rfl ?_
  refine mG_iload (pc := 67) C dL_areHeld_67 rfl ?_
  obtain ⟨h39, e40, hf⟩ := mx_bind hf
  refine mG_iastore (pc := 69) C dL_areHeld_69 e40 ?_
  refine mG_aload_n (pc := 70) C dL_areHeld_70 rfl ?_
  refine mG_bp (pc := 71) C dL_areHeld_71 kB20 ?_
  obtain ⟨u41, e42, hf⟩ := mx_bind hf
  obtain ⟨o44, e43, hf⟩ := mx_bind hf
  refine mG_cV2 (pc := 73) (k' := 1768) (n' := 8900) (h' := o44.2) (v := some (.ref o44.1)) 11 [.int 20] [] C hX dL_areHeld_73 lkV_L_99 rfl rfl e42 (tL_ranking hl e43) rfl rfl rfl ⟨Nat.le_of_ble_eq_true rfl, Nat.le_of_ble_eq_true rfl⟩ rfl ?_
  refine mG_as (ls' := [some (.ref p0), some (.int (1 + o6.1)), some (.int o12.1), some (.int o18.1), some (.int o24.1), some (.ref o28.1), some (.int v33), some (.ref o44.1), none, none]) (pc := 76) C dL_areHeld_76 rfl rfl rfl ?_
  refine mG_aload_n (pc := 78) C dL_areHeld_78 rfl ?_
  obtain ⟨r45, e46, hf⟩ := mx_bind hf
  refine mG_getR (pc := 79) C dL_areHeld_79 fl_L_18 e46 ?_
  refine mG_iload_n (pc := 82) C dL_areHeld_82 rfl ?_
  obtain ⟨r47, e48, hf⟩ := mx_bind hf
  refine mG_aaload (pc := 83) C dL_areHeld_83 e48 ?_
  refine mG_iload_n (pc := 84) C dL_areHeld_84 rfl ?_
  refine mG_iload (pc := 85) C dL_areHeld_85 rfl ?_
  obtain ⟨h49, e50, hf⟩ := mx_bind hf
  refine mG_iastore (pc := 87) C dL_areHeld_87 e50 ?_
  refine mG_iload_n (pc := 88) C dL_areHeld_88 rfl ?_
  refine mG_aload (pc := 89) C dL_areHeld_89 rfl ?_
  obtain ⟨v51, e52, hf⟩ := mx_bind hf
  refine mG_arraylength (pc := 91) C dL_areHeld_91 e52 ?_
  refine mG_mn2 (pc := 92) C hX dL_areHeld_92 w718 wmin rfl ⟨Nat.le_of_ble_eq_true rfl, Nat.le_of_ble_eq_true rfl⟩ rfl ?_
  refine mG_iload_n (pc := 95) C dL_areHeld_95 rfl ?_
  refine mG_aload (pc := 96) C dL_areHeld_96 rfl ?_
  obtain ⟨v53, e54, hf⟩ := mx_bind hf
  refine mG_arraylength (pc := 98) C dL_areHeld_98 e54 ?_
  refine mG_mn2 (pc := 99) C hX dL_areHeld_99 w718 wmin rfl ⟨Nat.le_of_ble_eq_true rfl, Nat.le_of_ble_eq_true rfl⟩ rfl ?_
  obtain ⟨jp57, e58, hf⟩ := mx_bind hf
  have J56 : ∀ jp57' : Int32, jp57' = jp57 → mG l Z X 10 1768 8900 110 [some (.ref p0), some (.int (1 + o6.1)), some (.int o12.1), some (.int o18.1), some (.int o24.1), some (.ref o28.1), none, some (.ref o44.1), none, none] [.int jp57'] h49 := by
    intro jp57' q118
    subst q118
    refine mG_is (ls' := [some (.ref p0), some (.int (1 + o6.1)), some (.int o12.1), some (.int o18.1), some (.int o24.1), some (.ref o28.1), none, some (.ref o44.1), some (.int jp57'), none]) (pc := 110) C dL_areHeld_110 rfl rfl rfl ?_
    refine mG_ic (pc := 112) C dL_areHeld_112 kI0 ?_
    refine mG_is (ls' := [some (.ref p0), some (.int (1 + o6.1)), some (.int o12.1), some (.int o18.1), some (.int o24.1), some (.ref o28.1), none, some (.ref o44.1), some (.int jp57'), some (.int 0)]) (pc := 113) C dL_areHeld_113 rfl rfl rfl ?_
    obtain ⟨r60, e61, hf⟩ := mx_bind hf
    have J62 : ∀ r81 : Int32, r81 = r60 → mG l Z X 10 1768 8900 160 [some (.ref p0), some (.int (1 + o6.1)), some (.int o12.1), some (.int o18.1), some (.int o24.1), none, none, none, some (.int r81), none] [] h49 := by
      intro r81 q117
      subst q117
      refine mG_aload_n (pc := 160) C dL_areHeld_160 rfl ?_
      obtain ⟨r82, e83, hf⟩ := mx_bind hf
      refine mG_getR (pc := 161) C dL_areHeld_161 fl_L_10 e83 ?_
      refine mG_iload_n (pc := 164) C dL_areHeld_164 rfl ?_
      refine mG_iload_n (pc := 165) C dL_areHeld_165 rfl ?_
      refine mG_iload_n (pc := 166) C dL_areHeld_166 rfl ?_
      refine mG_iload (pc := 167) C dL_areHeld_167 rfl ?_
      obtain ⟨u84, e85, hf⟩ := mx_bind hf
      obtain ⟨o87, e86, hf⟩ := mx_bind hf
      refine mG_cV2 (pc := 169) (k' := 1772) (n' := 8924) (h' := o87.2) (v := some (.int o87.1)) 9 [.int (1 + o6.1), .int o12.1, .int o18.1, .int o24.1] [] C hX dL_areHeld_169 lkV_L_169 rfl rfl e85 (tX9_holds hl (mxOk_some e86)) rfl rfl rfl ⟨Nat.le_of_ble_eq_true rfl, Nat.le_of_ble_eq_true rfl⟩ rfl ?_
      refine mG_iload (pc := 172) C dL_areHeld_172 rfl ?_
      obtain ⟨jp90, e91, hf⟩ := mx_bind hf
      have J89 : ∀ jp90' : (Int32 × mxH), jp90' = jp90 → mG l Z X 10 1774 8935 198 [none, none, none, none, none, none, none, none, none, none] [.int jp90'.1] jp90'.2 := by
        intro jp90' q116
        subst q116
        obtain ⟨v114, e115, hf⟩ := mx_bind hf
        cases hf
        exact mG_zr2 (pc := 198) C e115 E hX dL_areHeld_198 ⟨Nat.le_of_ble_eq_true rfl, Nat.le_of_ble_eq_true rfl⟩
      refine mG_icmp_ne (pc := 174) (tgt := 197) C dL_areHeld_174 (by decide) (fun q88 => ?_) (fun q88 => ?_)
      · rw [if_neg q88] at e91
        refine mG_ic (pc := 197) C dL_areHeld_197 kI0 ?_
        exact mG_wd (by omega) (by omega) (mG_sub (mxLe_n (mxLe_n (mxLe_n (mxLe_n (mxLe_n (mxLe_n (mxLe_n (mxLe_n (mxLe_n (mxLe_n mxLe_z)))))))))) (J89 _ (Option.some.inj e91)))
      · rw [if_pos q88] at e91
        refine mG_aload_n (pc := 177) C dL_areHeld_177 rfl ?_
        obtain ⟨r103, e104, e91⟩ := mx_bind e91
        refine mG_getR (pc := 178) C dL_areHeld_178 fl_L_10 e104 ?_
        refine mG_iload_n (pc := 181) C dL_areHeld_181 rfl ?_
        obtain ⟨u105, e106, e91⟩ := mx_bind e91
        obtain ⟨o108, e107, e91⟩ := mx_bind e91
        refine mG_cV2 (pc := 182) (k' := 1773) (n' := 8930) (h' := o108.2) (v := some (.int o108.1)) 9 [.int o18.1] [] C hX dL_areHeld_182 lkV_L_113 rfl rfl e106 (tX9_value hl (mxOk_some e107)) rfl rfl rfl ⟨Nat.le_of_ble_eq_true rfl, Nat.le_of_ble_eq_true rfl⟩ rfl ?_
        refine mG_aload_n (pc := 185) C dL_areHeld_185 rfl ?_
        refine mG_iload_n (pc := 186) C dL_areHeld_186 rfl ?_
        obtain ⟨u109, e110, e91⟩ := mx_bind e91
        obtain ⟨o112, e111, e91⟩ := mx_bind e91
        refine mG_cV2 (pc := 187) (k' := 1774) (n' := 8935) (h' := o112.2) (v := some (.int o112.1)) 11 [.int o18.1] [.int o108.1] C hX dL_areHeld_187 lkV_L_90 rfl rfl e110 (tL_value hl e111) rfl rfl rfl ⟨Nat.le_of_ble_eq_true rfl, Nat.le_of_ble_eq_true rfl⟩ rfl ?_
        refine mG_icmp_ne (pc := 190) (tgt := 197) C dL_areHeld_190 (by decide) (fun q113 => ?_) (fun q113 => ?_)
        · rw [if_neg q113] at e91
          refine mG_ic (pc := 197) C dL_areHeld_197 kI0 ?_
          exact mG_sub (mxLe_n (mxLe_n (mxLe_n (mxLe_n (mxLe_n (mxLe_n (mxLe_n (mxLe_n (mxLe_n (mxLe_n mxLe_z)))))))))) (J89 _ (Option.some.inj e91))
        · rw [if_pos q113] at e91
          refine mG_ic (pc := 193) C dL_areHeld_193 kI1 ?_
          refine mG_goto (tgt := 198) (pc := 194) C dL_areHeld_194 (by decide) ?_
          exact mG_sub (mxLe_n (mxLe_n (mxLe_n (mxLe_n (mxLe_n (mxLe_n (mxLe_n (mxLe_n (mxLe_n (mxLe_n mxLe_z)))))))))) (J89 _ (Option.some.inj e91))
    refine mG_sub (ls' := [some (.ref p0), some (.int (1 + o6.1)), some (.int o12.1), some (.int o18.1), some (.int o24.1), some (.ref o28.1), none, some (.ref o44.1), some (.int jp57'), some (.int 0)]) (mxLe_s (mxLe_s (mxLe_s (mxLe_s (mxLe_s (mxLe_s (mxLe_n (mxLe_s (mxLe_s (mxLe_s mxLe_z)))))))))) (mxLoop_ind (K := fun s59 : (Int32 × Int32) => mG l Z X 10 1768 8900 115 [some (.ref p0), some (.int (1 + o6.1)), some (.int o12.1), some (.int o18.1), some (.int o24.1), some (.ref o28.1), none, some (.ref o44.1), some (.int s59.1), some (.int s59.2)] [] h49) ?_ _ _ e61)
    intro s59 o65 e66 hK63 hx64
    refine mG_iload (pc := 115) C dL_areHeld_115 rfl ?_
    refine mG_iload_n (pc := 117) C dL_areHeld_117 rfl ?_
    refine mG_icmp_ge (pc := 118) (tgt := 160) C dL_areHeld_118 (by decide) (fun q67 => ?_) (fun q67 => ?_)
    · rw [if_pos q67] at e66
      exact mG_sub (mxLe_s (mxLe_s (mxLe_s (mxLe_s (mxLe_s (mxLe_n (mxLe_n (mxLe_n (mxLe_s (mxLe_n mxLe_z)))))))))) (J62 _ (hx64 _ (Option.some.inj e66).symm))
    · rw [if_neg q67] at e66
      refine mG_iload (pc := 121) C dL_areHeld_121 rfl ?_
      refine mG_aload (pc := 123) C dL_areHeld_123 rfl ?_
      obtain ⟨v68, e69, e66⟩ := mx_bind e66
      refine mG_arraylength (pc := 125) C dL_areHeld_125 e69 ?_
      refine mG_icmp_ge (pc := 126) (tgt := 160) C dL_areHeld_126 (by decide) (fun q70 => ?_) (fun q70 => ?_)
      · rw [if_pos q70] at e66
        exact mG_sub (mxLe_s (mxLe_s (mxLe_s (mxLe_s (mxLe_s (mxLe_n (mxLe_n (mxLe_n (mxLe_s (mxLe_n mxLe_z)))))))))) (J62 _ (hx64 _ (Option.some.inj e66).symm))
      · rw [if_neg q70] at e66
        refine mG_iload (pc := 129) C dL_areHeld_129 rfl ?_
        refine mG_if_eq (pc := 131) (tgt := 160) C dL_areHeld_131 (by decide) (fun q71 => ?_) (fun q71 => ?_)
        · rw [if_pos q71] at e66
          exact mG_sub (mxLe_s (mxLe_s (mxLe_s (mxLe_s (mxLe_s (mxLe_n (mxLe_n (mxLe_n (mxLe_s (mxLe_n mxLe_z)))))))))) (J62 _ (hx64 _ (Option.some.inj e66).symm))
        · rw [if_neg q71] at e66
          refine mG_aload (pc := 134) C dL_areHeld_134 rfl ?_
          refine mG_iload (pc := 136) C dL_areHeld_136 rfl ?_
          obtain ⟨v72, e73, e66⟩ := mx_bind e66
          refine mG_iaload (pc := 138) C dL_areHeld_138 e73 ?_
          refine mG_aload (pc := 139) C dL_areHeld_139 rfl ?_
          refine mG_iload (pc := 141) C dL_areHeld_141 rfl ?_
          obtain ⟨v74, e75, e66⟩ := mx_bind e66
          refine mG_iaload (pc := 143) C dL_areHeld_143 e75 ?_
          obtain ⟨jp78, e79, e66⟩ := mx_bind e66
          have J77 : ∀ jp78' : Int32, jp78' = jp78 → mG l Z X 10 1768 8900 152 [some (.ref p0), some (.int (1 + o6.1)), some (.int o12.1), some (.int o18.1), some (.int o24.1), some (.ref o28.1), none, some (.ref o44.1), none, some (.int s59.2)] [.int jp78'] h49 := by
            intro jp78' q80
            subst q80
            refine mG_is (ls' := [some (.ref p0), some (.int (1 + o6.1)), some (.int o12.1), some (.int o18.1), some (.int o24.1), some (.ref o28.1), none, some (.ref o44.1), some (.int jp78'), some (.int s59.2)]) (pc := 152) C dL_areHeld_152 rfl rfl rfl ?_
            refine mG_ii (ls' := [some (.ref p0), some (.int (1 + o6.1)), some (.int o12.1), some (.int o18.1), some (.int o24.1), some (.ref o28.1), none, some (.ref o44.1), some (.int jp78'), some (.int (s59.2 + 1))]) (pc := 154) C dL_areHeld_154 rfl (kinc1 _) rfl rfl rfl ?_
            refine mG_goto (tgt := 115) (pc := 157) C dL_areHeld_157 (by decide) ?_
            exact mG_sub (mxLe_s (mxLe_s (mxLe_s (mxLe_s (mxLe_s (mxLe_s (mxLe_n (mxLe_s (mxLe_s (mxLe_s mxLe_z)))))))))) (hK63 _ (Option.some.inj e66).symm)
          refine mG_icmp_ne (pc := 144) (tgt := 151) C dL_areHeld_144 (by decide) (fun q76 => ?_) (fun q76 => ?_)
          · rw [if_neg q76] at e79
            refine mG_ic (pc := 151) C dL_areHeld_151 kI0 ?_
            exact mG_sub (mxLe_s (mxLe_s (mxLe_s (mxLe_s (mxLe_s (mxLe_s (mxLe_n (mxLe_s (mxLe_n (mxLe_s mxLe_z)))))))))) (J77 _ (Option.some.inj e79))
          · rw [if_pos q76] at e79
            refine mG_ic (pc := 147) C dL_areHeld_147 kI1 ?_
            refine mG_goto (tgt := 152) (pc := 148) C dL_areHeld_148 (by decide) ?_
            exact mG_sub (mxLe_s (mxLe_s (mxLe_s (mxLe_s (mxLe_s (mxLe_s (mxLe_n (mxLe_s (mxLe_n (mxLe_s mxLe_z)))))))))) (J77 _ (Option.some.inj e79))
  refine mG_icmp_ne (pc := 102) (tgt := 109) C dL_areHeld_102 (by decide) (fun q55 => ?_) (fun q55 => ?_)
  · rw [if_neg q55] at e58
    refine mG_ic (pc := 109) C dL_areHeld_109 kI0 ?_
    exact mG_sub (mxLe_s (mxLe_s (mxLe_s (mxLe_s (mxLe_s (mxLe_s (mxLe_n (mxLe_s (mxLe_n (mxLe_n mxLe_z)))))))))) (J56 _ (Option.some.inj e58))
  · rw [if_pos q55] at e58
    refine mG_ic (pc := 105) C dL_areHeld_105 kI1 ?_
    refine mG_goto (tgt := 110) (pc := 106) C dL_areHeld_106 (by decide) ?_
    exact mG_sub (mxLe_s (mxLe_s (mxLe_s (mxLe_s (mxLe_s (mxLe_s (mxLe_n (mxLe_s (mxLe_n (mxLe_n mxLe_z)))))))))) (J56 _ (Option.some.inj e58))
theorem dL_key_0 : decode cL_key 0 = .ok (.bipush 99, 2) := by decide +kernel
theorem dL_key_2 : decode cL_key 2 = .ok (.aload_n 0, 1) := by decide +kernel
theorem dL_key_3 : decode cL_key 3 = .ok (.getfield 18, 3) := by decide +kernel
theorem dL_key_6 : decode cL_key 6 = .ok (.iload_n 1, 1) := by decide +kernel
theorem dL_key_7 : decode cL_key 7 = .ok (.aaload, 1) := by decide +kernel
theorem dL_key_8 : decode cL_key 8 = .ok (.iload_n 2, 1) := by decide +kernel
theorem dL_key_9 : decode cL_key 9 = .ok (.iaload, 1) := by decide +kernel
theorem dL_key_10 : decode cL_key 10 = .ok (.isub, 1) := by decide +kernel
theorem dL_key_11 : decode cL_key 11 = .ok (.bipush 100, 2) := by decide +kernel
theorem dL_key_13 : decode cL_key 13 = .ok (.imul, 1) := by decide +kernel
theorem dL_key_14 : decode cL_key 14 = .ok (.bipush 20, 2) := by decide +kernel
theorem dL_key_16 : decode cL_key 16 = .ok (.iload_n 1, 1) := by decide +kernel
theorem dL_key_17 : decode cL_key 17 = .ok (.imul, 1) := by decide +kernel
theorem dL_key_18 : decode cL_key 18 = .ok (.iadd, 1) := by decide +kernel
theorem dL_key_19 : decode cL_key 19 = .ok (.iload_n 2, 1) := by decide +kernel
theorem dL_key_20 : decode cL_key 20 = .ok (.iadd, 1) := by decide +kernel
theorem dL_key_21 : decode cL_key 21 = .ok (.ireturn, 1) := by decide +kernel
def fL_key (p0 : Nat) (p1 : Int32) (p2 : Int32) (h : mxH) : Option Int32 := Option.bind (gR h p0 11 2) (fun r1 => Option.bind (ldR h r1 p1) (fun r3 => Option.bind (ldI h r3 p2) (fun v5 => some ((((99 - v5) * 100) + (20 * p1)) + p2))))
abbrev rmL_key : Room := { frames := 0, cells := 0, slots := 0, locals := 0 }
set_option maxRecDepth 20000 in
set_option maxHeartbeats 1000000 in
theorem tL_key {l : Launch} {Z : mxZ} (hl : l.stackTraces = false) {p0 : Nat} {p1 : Int32} {p2 : Int32} {h : mxH} {out : Int32} (hf : fL_key p0 p1 p2 h = some out) : mxMet l Z yL_key cL_key 3 (some .int) rmL_key [.ref p0, .int p1, .int p2] h (.inl (some (.int out))) h := by
  refine mxMet_of (by decide) hl (by simp [Value.category]) (Nat.le_of_ble_eq_true rfl) ?_
  intro X C E hX hin
  unfold fL_key at hf
  refine mG_bp (pc := 0) C dL_key_0 kB99 ?_
  refine mG_aload_n (pc := 2) C dL_key_2 rfl ?_
  obtain ⟨r1, e2, hf⟩ := mx_bind hf
  refine mG_getR (pc := 3) C dL_key_3 fl_L_18 e2 ?_
  refine mG_iload_n (pc := 6) C dL_key_6 rfl ?_
  obtain ⟨r3, e4, hf⟩ := mx_bind hf
  refine mG_aaload (pc := 7) C dL_key_7 e4 ?_
  refine mG_iload_n (pc := 8) C dL_key_8 rfl ?_
  obtain ⟨v5, e6, hf⟩ := mx_bind hf
  refine mG_iaload (pc := 9) C dL_key_9 e6 ?_
  refine mG_isub (pc := 10) C dL_key_10 ?_
  refine mG_bp (pc := 11) C dL_key_11 kB100 ?_
  refine mG_imul (pc := 13) C dL_key_13 ?_
  refine mG_bp (pc := 14) C dL_key_14 kB20 ?_
  refine mG_iload_n (pc := 16) C dL_key_16 rfl ?_
  refine mG_imul (pc := 17) C dL_key_17 ?_
  refine mG_iadd (pc := 18) C dL_key_18 ?_
  refine mG_iload_n (pc := 19) C dL_key_19 rfl ?_
  refine mG_iadd (pc := 20) C dL_key_20 ?_
  cases hf
  exact mG_ir2 (pc := 21) C E hX dL_key_21 ⟨Nat.le_of_ble_eq_true rfl, Nat.le_of_ble_eq_true rfl⟩
theorem dL_keys_0 : decode cL_keys 0 = .ok (.bipush 100, 2) := by decide +kernel
theorem dL_keys_2 : decode cL_keys 2 = .ok (.newarray .int, 2) := by decide +kernel
theorem dL_keys_4 : decode cL_keys 4 = .ok (.astore_n 2, 1) := by decide +kernel
theorem dL_keys_5 : decode cL_keys 5 = .ok (.iconst 0, 1) := by decide +kernel
theorem dL_keys_6 : decode cL_keys 6 = .ok (.istore_n 3, 1) := by decide +kernel
theorem dL_keys_7 : decode cL_keys 7 = .ok (.iconst 0, 1) := by decide +kernel
theorem dL_keys_8 : decode cL_keys 8 = .ok (.istore 4, 2) := by decide +kernel
theorem dL_keys_10 : decode cL_keys 10 = .ok (.iload 4, 2) := by decide +kernel
theorem dL_keys_12 : decode cL_keys 12 = .ok (.iconst 5, 1) := by decide +kernel
theorem dL_keys_13 : decode cL_keys 13 = .ok (.if_icmp .ge 62, 3) := by decide +kernel
theorem dL_keys_16 : decode cL_keys 16 = .ok (.iconst 0, 1) := by decide +kernel
theorem dL_keys_17 : decode cL_keys 17 = .ok (.istore 5, 2) := by decide +kernel
theorem dL_keys_19 : decode cL_keys 19 = .ok (.iload 5, 2) := by decide +kernel
theorem dL_keys_21 : decode cL_keys 21 = .ok (.bipush 20, 2) := by decide +kernel
theorem dL_keys_23 : decode cL_keys 23 = .ok (.if_icmp .ge 46, 3) := by decide +kernel
theorem dL_keys_26 : decode cL_keys 26 = .ok (.iload_n 1, 1) := by decide +kernel
theorem dL_keys_27 : decode cL_keys 27 = .ok (.iload 4, 2) := by decide +kernel
theorem dL_keys_29 : decode cL_keys 29 = .ok (.ishr, 1) := by decide +kernel
theorem dL_keys_30 : decode cL_keys 30 = .ok (.iconst 1, 1) := by decide +kernel
theorem dL_keys_31 : decode cL_keys 31 = .ok (.iand, 1) := by decide +kernel
theorem dL_keys_32 : decode cL_keys 32 = .ok (.iconst 1, 1) := by decide +kernel
theorem dL_keys_33 : decode cL_keys 33 = .ok (.if_icmp .ne 30, 3) := by decide +kernel
theorem dL_keys_36 : decode cL_keys 36 = .ok (.aload_n 0, 1) := by decide +kernel
theorem dL_keys_37 : decode cL_keys 37 = .ok (.getfield 18, 3) := by decide +kernel
theorem dL_keys_40 : decode cL_keys 40 = .ok (.iload 4, 2) := by decide +kernel
theorem dL_keys_42 : decode cL_keys 42 = .ok (.aaload, 1) := by decide +kernel
theorem dL_keys_43 : decode cL_keys 43 = .ok (.iload 5, 2) := by decide +kernel
theorem dL_keys_45 : decode cL_keys 45 = .ok (.iaload, 1) := by decide +kernel
theorem dL_keys_46 : decode cL_keys 46 = .ok (.ifCond .lt 17, 3) := by decide +kernel
theorem dL_keys_49 : decode cL_keys 49 = .ok (.aload_n 2, 1) := by decide +kernel
theorem dL_keys_50 : decode cL_keys 50 = .ok (.iload_n 3, 1) := by decide +kernel
theorem dL_keys_51 : decode cL_keys 51 = .ok (.iinc 3 1, 3) := by decide +kernel
theorem dL_keys_54 : decode cL_keys 54 = .ok (.aload_n 0, 1) := by decide +kernel
theorem dL_keys_55 : decode cL_keys 55 = .ok (.iload 4, 2) := by decide +kernel
theorem dL_keys_57 : decode cL_keys 57 = .ok (.iload 5, 2) := by decide +kernel
theorem dL_keys_59 : decode cL_keys 59 = .ok (.invokevirtual 173, 3) := by decide +kernel
theorem dL_keys_62 : decode cL_keys 62 = .ok (.iastore, 1) := by decide +kernel
theorem dL_keys_63 : decode cL_keys 63 = .ok (.iinc 5 1, 3) := by decide +kernel
theorem dL_keys_66 : decode cL_keys 66 = .ok (.goto (-47), 3) := by decide +kernel
theorem dL_keys_69 : decode cL_keys 69 = .ok (.iinc 4 1, 3) := by decide +kernel
theorem dL_keys_72 : decode cL_keys 72 = .ok (.goto (-62), 3) := by decide +kernel
theorem dL_keys_75 : decode cL_keys 75 = .ok (.iload_n 3, 1) := by decide +kernel
theorem dL_keys_76 : decode cL_keys 76 = .ok (.newarray .int, 2) := by decide +kernel
theorem dL_keys_78 : decode cL_keys 78 = .ok (.astore 4, 2) := by decide +kernel
theorem dL_keys_80 : decode cL_keys 80 = .ok (.aload_n 2, 1) := by decide +kernel
theorem dL_keys_81 : decode cL_keys 81 = .ok (.iconst 0, 1) := by decide +kernel
theorem dL_keys_82 : decode cL_keys 82 = .ok (.aload 4, 2) := by decide +kernel
theorem dL_keys_84 : decode cL_keys 84 = .ok (.iconst 0, 1) := by decide +kernel
theorem dL_keys_85 : decode cL_keys 85 = .ok (.iload_n 3, 1) := by decide +kernel
theorem dL_keys_86 : decode cL_keys 86 = .ok (.invokestatic 93, 3) := by decide +kernel
theorem dL_keys_89 : decode cL_keys 89 = .ok (.aload 4, 2) := by decide +kernel
theorem dL_keys_91 : decode cL_keys 91 = .ok (.invokestatic 176, 3) := by decide +kernel
theorem dL_keys_94 : decode cL_keys 94 = .ok (.aload 4, 2) := by decide +kernel
theorem dL_keys_96 : decode cL_keys 96 = .ok (.areturn, 1) := by decide +kernel
def fL_keys (p0 : Nat) (p1 : Int32) (h : mxH) : Option (Nat × mxH) := Option.bind (nwV h 100 100) (fun h1 => Option.bind (mxLoop (ρ := (Int32 × mxH)) (fun s3 : (Int32 × Int32 × mxH) => (if 5 ≤ s3.2.1 then some (Sum.inr (s3.1, s3.2.2)) else Option.bind (mxLoop (ρ := (Int32 × mxH)) (fun s12 : (Int32 × Int32 × mxH) => (if 20 ≤ s12.2.1 then some (Sum.inr (s12.1, s12.2.2)) else Option.bind (α := (Int32 × mxH)) (if ((p1 >>> (s3.2.1 &&& 31)) &&& 1) = 1 then Option.bind (gR s12.2.2 p0 11 2) (fun r38 => Option.bind (ldR s12.2.2 r38 s3.2.1) (fun r40 => Option.bind (ldI s12.2.2 r40 s12.2.1) (fun v42 => (if v42 < 0 then some (s12.1, s12.2.2) else Option.bind (isO s12.2.2 p0 11) (fun u45 => Option.bind (fL_key p0 s3.2.1 s12.2.1 s12.2.2) (fun o48 => Option.bind (stI s12.2.2 h.2 s12.1 o48) (fun h49 => some (s12.1 + 1, h49)))))))) else some (s12.1, s12.2.2)) (fun jp23' : (Int32 × mxH) => some (Sum.inl (jp23'.1, s12.2.1 + 1, jp23'.2))))) mxF (s3.1, 0, s3.2.2)) (fun r52 : (Int32 × mxH) => some (Sum.inl (r52.1, s3.2.1 + 1, r52.2))))) mxF (0, 0, h1)) (fun r54 : (Int32 × mxH) => Option.bind (nwV r54.2 r54.1 100) (fun h55 => Option.bind (cpI h55 h.2 0 r54.2.2 0 r54.1) (fun h57 => Option.bind (fJ7_sort_2022b r54.2.2 h57) (fun o60 => some (r54.2.2, o60))))))
abbrev rmL_keys : Room := { frames := 5, cells := 72, slots := 9090, locals := 153 }
set_option maxRecDepth 20000 in
set_option maxHeartbeats 1000000 in
theorem tL_keys {l : Launch} {Z : mxZ} (hl : l.stackTraces = false) {p0 : Nat} {p1 : Int32} {h : mxH} {out : (Nat × mxH)} (hf : fL_keys p0 p1 h = some out) : mxMet l Z yL_keys cL_keys 6 (some (.array .int)) rmL_keys [.ref p0, .int p1] h (.inl (some (.ref out.1))) out.2 := by
  refine mxMet_of (by decide) hl (by simp [Value.category]) (Nat.le_of_ble_eq_true rfl) ?_
  intro X C E hX hin
  unfold fL_keys at hf
  refine mG_bp (pc := 0) C dL_keys_0 kB100 ?_
  obtain ⟨h1, e2, hf⟩ := mx_bind hf
  refine mG_nwV (B := 100) (pc := 2) (k' := 1) (n' := 100) C hX dL_keys_2 w272 rfl e2 rfl rfl ⟨Nat.le_of_ble_eq_true rfl, Nat.le_of_ble_eq_true rfl⟩ ?_
  refine mG_asn (ls' := [some (.ref p0), some (.int p1), some (.ref h.2), none, none, none]) (pc := 4) C dL_keys_4 rfl rfl rfl ?_
  refine mG_ic (pc := 5) C dL_keys_5 kI0 ?_
  refine mG_isn (ls' := [some (.ref p0), some (.int p1), some (.ref h.2), some (.int 0), none, none]) (pc := 6) C dL_keys_6 rfl rfl rfl ?_
  refine mG_ic (pc := 7) C dL_keys_7 kI0 ?_
  refine mG_is (ls' := [some (.ref p0), some (.int p1), some (.ref h.2), some (.int 0), some (.int 0), none]) (pc := 8) C dL_keys_8 rfl rfl rfl ?_
  obtain ⟨r4, e5, hf⟩ := mx_bind hf
  have J6 : ∀ r54 : (Int32 × mxH), r54 = r4 → mG l Z X 6 1 100 75 [none, none, some (.ref h.2), some (.int r54.1), none, none] [] r54.2 := by
    intro r54 q61
    subst q61
    refine mG_iload_n (pc := 75) C dL_keys_75 rfl ?_
    obtain ⟨h55, e56, hf⟩ := mx_bind hf
    refine mG_nwV (B := 100) (pc := 76) (k' := 2) (n' := 200) C hX dL_keys_76 w272 rfl e56 rfl rfl ⟨Nat.le_of_ble_eq_true rfl, Nat.le_of_ble_eq_true rfl⟩ ?_
    refine mG_as (ls' := [none, none, some (.ref h.2), some (.int r54.1), some (.ref r54.2.2), none]) (pc := 78) C dL_keys_78 rfl rfl rfl ?_
    refine mG_aload_n (pc := 80) C dL_keys_80 rfl ?_
    refine mG_ic (pc := 81) C dL_keys_81 kI0 ?_
    refine mG_aload (pc := 82) C dL_keys_82 rfl ?_
    refine mG_ic (pc := 84) C dL_keys_84 kI0 ?_
    refine mG_iload_n (pc := 85) C dL_keys_85 rfl ?_
    obtain ⟨h57, e58, hf⟩ := mx_bind hf
    refine mG_ac2 (pc := 86) C hX dL_keys_86 w719 wac e58 rfl rfl ?_
    refine mG_aload (pc := 89) C dL_keys_89 rfl ?_
    obtain ⟨o60, e59, hf⟩ := mx_bind hf
    refine mG_cS2 (pc := 91) (k' := 72) (n' := 9090) (h' := o60) (v := none) [.ref r54.2.2] [] C hX dL_keys_91 lkS_L_176 rfl (tJ7_sort_2022b hl e59) rfl rfl rfl ⟨Nat.le_of_ble_eq_true rfl, Nat.le_of_ble_eq_true rfl⟩ rfl ?_
    refine mG_aload (pc := 94) C dL_keys_94 rfl ?_
    cases hf
    exact mG_ar2 (pc := 96) C E hX dL_keys_96 ⟨Nat.le_of_ble_eq_true rfl, Nat.le_of_ble_eq_true rfl⟩
  refine mG_sub (ls' := [some (.ref p0), some (.int p1), some (.ref h.2), some (.int 0), some (.int 0), none]) (mxLe_s (mxLe_s (mxLe_s (mxLe_s (mxLe_s (mxLe_n mxLe_z)))))) (mxLoop_ind (K := fun s3 : (Int32 × Int32 × mxH) => mG l Z X 6 1 100 10 [some (.ref p0), some (.int p1), some (.ref h.2), some (.int s3.1), some (.int s3.2.1), none] [] s3.2.2) ?_ _ _ e5)
  intro s3 o9 e10 hK7 hx8
  refine mG_iload (pc := 10) C dL_keys_10 rfl ?_
  refine mG_ic (pc := 12) C dL_keys_12 kI5 ?_
  refine mG_icmp_ge (pc := 13) (tgt := 75) C dL_keys_13 (by decide) (fun q11 => ?_) (fun q11 => ?_)
  · rw [if_pos q11] at e10
    exact mG_sub (mxLe_n (mxLe_n (mxLe_s (mxLe_s (mxLe_n (mxLe_n mxLe_z)))))) (J6 _ (hx8 _ (Option.some.inj e10).symm))
  · rw [if_neg q11] at e10
    refine mG_ic (pc := 16) C dL_keys_16 kI0 ?_
    refine mG_is (ls' := [some (.ref p0), some (.int p1), some (.ref h.2), some (.int s3.1), some (.int s3.2.1), some (.int 0)]) (pc := 17) C dL_keys_17 rfl rfl rfl ?_
    obtain ⟨r13, e14, e10⟩ := mx_bind e10
    have J15 : ∀ r52 : (Int32 × mxH), r52 = r13 → mG l Z X 6 1 100 69 [some (.ref p0), some (.int p1), some (.ref h.2), some (.int r52.1), some (.int s3.2.1), none] [] r52.2 := by
      intro r52 q53
      subst q53
      refine mG_ii (ls' := [some (.ref p0), some (.int p1), some (.ref h.2), some (.int r52.1), some (.int (s3.2.1 + 1)), none]) (pc := 69) C dL_keys_69 rfl (kinc1 _) rfl rfl rfl ?_
      refine mG_goto (tgt := 10) (pc := 72) C dL_keys_72 (by decide) ?_
      exact mG_sub (mxLe_s (mxLe_s (mxLe_s (mxLe_s (mxLe_s (mxLe_n mxLe_z)))))) (hK7 _ (Option.some.inj e10).symm)
    refine mG_sub (ls' := [some (.ref p0), some (.int p1), some (.ref h.2), some (.int s3.1), some (.int s3.2.1), some (.int 0)]) (mxLe_s (mxLe_s (mxLe_s (mxLe_s (mxLe_s (mxLe_s mxLe_z)))))) (mxLoop_ind (K := fun s12 : (Int32 × Int32 × mxH) => mG l Z X 6 1 100 19 [some (.ref p0), some (.int p1), some (.ref h.2), some (.int s12.1), some (.int s3.2.1), some (.int s12.2.1)] [] s12.2.2) ?_ _ _ e14)
    intro s12 o18 e19 hK16 hx17
    refine mG_iload (pc := 19) C dL_keys_19 rfl ?_
    refine mG_bp (pc := 21) C dL_keys_21 kB20 ?_
    refine mG_icmp_ge (pc := 23) (tgt := 69) C dL_keys_23 (by decide) (fun q20 => ?_) (fun q20 => ?_)
    · rw [if_pos q20] at e19
      exact mG_sub (mxLe_s (mxLe_s (mxLe_s (mxLe_s (mxLe_s (mxLe_n mxLe_z)))))) (J15 _ (hx17 _ (Option.some.inj e19).symm))
    · rw [if_neg q20] at e19
      refine mG_iload_n (pc := 26) C dL_keys_26 rfl ?_
      refine mG_iload (pc := 27) C dL_keys_27 rfl ?_
      refine mG_ishr (pc := 29) C dL_keys_29 ?_
      refine mG_ic (pc := 30) C dL_keys_30 kI1 ?_
      refine mG_iand (pc := 31) C dL_keys_31 ?_
      refine mG_ic (pc := 32) C dL_keys_32 kI1 ?_
      obtain ⟨jp23, e24, e19⟩ := mx_bind e19
      have J22 : ∀ jp23' : (Int32 × mxH), jp23' = jp23 → mG l Z X 6 1 100 63 [some (.ref p0), some (.int p1), some (.ref h.2), some (.int jp23'.1), some (.int s3.2.1), some (.int s12.2.1)] [] jp23'.2 := by
        intro jp23' q51
        subst q51
        refine mG_ii (ls' := [some (.ref p0), some (.int p1), some (.ref h.2), some (.int jp23'.1), some (.int s3.2.1), some (.int (s12.2.1 + 1))]) (pc := 63) C dL_keys_63 rfl (kinc1 _) rfl rfl rfl ?_
        refine mG_goto (tgt := 19) (pc := 66) C dL_keys_66 (by decide) ?_
        exact mG_sub (mxLe_s (mxLe_s (mxLe_s (mxLe_s (mxLe_s (mxLe_s mxLe_z)))))) (hK16 _ (Option.some.inj e19).symm)
      refine mG_icmp_ne (pc := 33) (tgt := 63) C dL_keys_33 (by decide) (fun q21 => ?_) (fun q21 => ?_)
      · rw [if_neg q21] at e24
        exact mG_sub (mxLe_s (mxLe_s (mxLe_s (mxLe_s (mxLe_s (mxLe_s mxLe_z)))))) (J22 _ (Option.some.inj e24))
      · rw [if_pos q21] at e24
        refine mG_aload_n (pc := 36) C dL_keys_36 rfl ?_
        obtain ⟨r38, e39, e24⟩ := mx_bind e24
        refine mG_getR (pc := 37) C dL_keys_37 fl_L_18 e39 ?_
        refine mG_iload (pc := 40) C dL_keys_40 rfl ?_
        obtain ⟨r40, e41, e24⟩ := mx_bind e24
        refine mG_aaload (pc := 42) C dL_keys_42 e41 ?_
        refine mG_iload (pc := 43) C dL_keys_43 rfl ?_
        obtain ⟨v42, e43, e24⟩ := mx_bind e24
        refine mG_iaload (pc := 45) C dL_keys_45 e43 ?_
        refine mG_if_lt (pc := 46) (tgt := 63) C dL_keys_46 (by decide) (fun q44 => ?_) (fun q44 => ?_)
        · rw [if_pos q44] at e24
          exact mG_sub (mxLe_s (mxLe_s (mxLe_s (mxLe_s (mxLe_s (mxLe_s mxLe_z)))))) (J22 _ (Option.some.inj e24))
        · rw [if_neg q44] at e24
          refine mG_aload_n (pc := 49) C dL_keys_49 rfl ?_
          refine mG_iload_n (pc := 50) C dL_keys_50 rfl ?_
          refine mG_ii (ls' := [some (.ref p0), some (.int p1), some (.ref h.2), some (.int (s12.1 + 1)), some (.int s3.2.1), some (.int s12.2.1)]) (pc := 51) C dL_keys_51 rfl (kinc1 _) rfl rfl rfl ?_
          refine mG_aload_n (pc := 54) C dL_keys_54 rfl ?_
          refine mG_iload (pc := 55) C dL_keys_55 rfl ?_
          refine mG_iload (pc := 57) C dL_keys_57 rfl ?_
          obtain ⟨u45, e46, e24⟩ := mx_bind e24
          obtain ⟨o48, e47, e24⟩ := mx_bind e24
          refine mG_cV2 (pc := 59) (k' := 1) (n' := 100) (h' := s12.2.2) (v := some (.int o48)) 11 [.int s3.2.1, .int s12.2.1] [.int s12.1, .ref h.2] C hX dL_keys_59 lkV_L_173 rfl rfl e46 (tL_key hl e47) rfl rfl rfl ⟨Nat.le_of_ble_eq_true rfl, Nat.le_of_ble_eq_true rfl⟩ rfl ?_
          obtain ⟨h49, e50, e24⟩ := mx_bind e24
          refine mG_iastore (pc := 62) C dL_keys_62 e50 ?_
          exact mG_sub (mxLe_s (mxLe_s (mxLe_s (mxLe_s (mxLe_s (mxLe_s mxLe_z)))))) (J22 _ (Option.some.inj e24))
theorem dL_compared_0 : decode cL_compared 0 = .ok (.iconst 0, 1) := by decide +kernel
theorem dL_compared_1 : decode cL_compared 1 = .ok (.istore_n 2, 1) := by decide +kernel
theorem dL_compared_2 : decode cL_compared 2 = .ok (.iconst 0, 1) := by decide +kernel
theorem dL_compared_3 : decode cL_compared 3 = .ok (.istore_n 3, 1) := by decide +kernel
theorem dL_compared_4 : decode cL_compared 4 = .ok (.iload_n 2, 1) := by decide +kernel
theorem dL_compared_5 : decode cL_compared 5 = .ok (.aload_n 0, 1) := by decide +kernel
theorem dL_compared_6 : decode cL_compared 6 = .ok (.arraylength, 1) := by decide +kernel
theorem dL_compared_7 : decode cL_compared 7 = .ok (.if_icmp .ge 30, 3) := by decide +kernel
theorem dL_compared_10 : decode cL_compared 10 = .ok (.iload_n 3, 1) := by decide +kernel
theorem dL_compared_11 : decode cL_compared 11 = .ok (.aload_n 1, 1) := by decide +kernel
theorem dL_compared_12 : decode cL_compared 12 = .ok (.arraylength, 1) := by decide +kernel
theorem dL_compared_13 : decode cL_compared 13 = .ok (.if_icmp .ge 24, 3) := by decide +kernel
theorem dL_compared_16 : decode cL_compared 16 = .ok (.aload_n 0, 1) := by decide +kernel
theorem dL_compared_17 : decode cL_compared 17 = .ok (.iload_n 2, 1) := by decide +kernel
theorem dL_compared_18 : decode cL_compared 18 = .ok (.iaload, 1) := by decide +kernel
theorem dL_compared_19 : decode cL_compared 19 = .ok (.aload_n 1, 1) := by decide +kernel
theorem dL_compared_20 : decode cL_compared 20 = .ok (.iload_n 3, 1) := by decide +kernel
theorem dL_compared_21 : decode cL_compared 21 = .ok (.iaload, 1) := by decide +kernel
theorem dL_compared_22 : decode cL_compared 22 = .ok (.if_icmp .ge 9, 3) := by decide +kernel
theorem dL_compared_25 : decode cL_compared 25 = .ok (.iinc 2 1, 3) := by decide +kernel
theorem dL_compared_28 : decode cL_compared 28 = .ok (.goto (-24), 3) := by decide +kernel
theorem dL_compared_31 : decode cL_compared 31 = .ok (.iinc 3 1, 3) := by decide +kernel
theorem dL_compared_34 : decode cL_compared 34 = .ok (.goto (-30), 3) := by decide +kernel
theorem dL_compared_37 : decode cL_compared 37 = .ok (.iload_n 2, 1) := by decide +kernel
theorem dL_compared_38 : decode cL_compared 38 = .ok (.iload_n 3, 1) := by decide +kernel
theorem dL_compared_39 : decode cL_compared 39 = .ok (.iadd, 1) := by decide +kernel
theorem dL_compared_40 : decode cL_compared 40 = .ok (.ireturn, 1) := by decide +kernel
def fL_compared (p0 : Nat) (p1 : Nat) (h : mxH) : Option Int32 := Option.bind (mxLoop (ρ := (Int32 × Int32)) (fun s1 : (Int32 × Int32) => Option.bind (lenA h p0) (fun v9 => (if v9 ≤ s1.1 then some (Sum.inr (s1.1, s1.2)) else Option.bind (lenA h p1) (fun v12 => (if v12 ≤ s1.2 then some (Sum.inr (s1.1, s1.2)) else Option.bind (ldI h p0 s1.1) (fun v15 => Option.bind (ldI h p1 s1.2) (fun v17 => (if v17 ≤ v15 then some (Sum.inl (s1.1, s1.2 + 1)) else some (Sum.inl (s1.1 + 1, s1.2)))))))))) mxF (0, 0)) (fun r20 : (Int32 × Int32) => some (r20.1 + r20.2))
abbrev rmL_compared : Room := { frames := 0, cells := 0, slots := 0, locals := 0 }
set_option maxRecDepth 20000 in
set_option maxHeartbeats 1000000 in
theorem tL_compared {l : Launch} {Z : mxZ} (hl : l.stackTraces = false) {p0 : Nat} {p1 : Nat} {h : mxH} {out : Int32} (hf : fL_compared p0 p1 h = some out) : mxMet l Z yL_compared cL_compared 4 (some .int) rmL_compared [.ref p0, .ref p1] h (.inl (some (.int out))) h := by
  refine mxMet_of (by decide) hl (by simp [Value.category]) (Nat.le_of_ble_eq_true rfl) ?_
  intro X C E hX hin
  unfold fL_compared at hf
  refine mG_ic (pc := 0) C dL_compared_0 kI0 ?_
  refine mG_isn (ls' := [some (.ref p0), some (.ref p1), some (.int 0), none]) (pc := 1) C dL_compared_1 rfl rfl rfl ?_
  refine mG_ic (pc := 2) C dL_compared_2 kI0 ?_
  refine mG_isn (ls' := [some (.ref p0), some (.ref p1), some (.int 0), some (.int 0)]) (pc := 3) C dL_compared_3 rfl rfl rfl ?_
  obtain ⟨r2, e3, hf⟩ := mx_bind hf
  have J4 : ∀ r20 : (Int32 × Int32), r20 = r2 → mG l Z X 4 0 0 37 [none, none, some (.int r20.1), some (.int r20.2)] [] h := by
    intro r20 q21
    subst q21
    refine mG_iload_n (pc := 37) C dL_compared_37 rfl ?_
    refine mG_iload_n (pc := 38) C dL_compared_38 rfl ?_
    refine mG_iadd (pc := 39) C dL_compared_39 ?_
    cases hf
    exact mG_ir2 (pc := 40) C E hX dL_compared_40 ⟨Nat.le_of_ble_eq_true rfl, Nat.le_of_ble_eq_true rfl⟩
  refine mG_sub (ls' := [some (.ref p0), some (.ref p1), some (.int 0), some (.int 0)]) (mxLe_s (mxLe_s (mxLe_s (mxLe_s mxLe_z)))) (mxLoop_ind (K := fun s1 : (Int32 × Int32) => mG l Z X 4 0 0 4 [some (.ref p0), some (.ref p1), some (.int s1.1), some (.int s1.2)] [] h) ?_ _ _ e3)
  intro s1 o7 e8 hK5 hx6
  refine mG_iload_n (pc := 4) C dL_compared_4 rfl ?_
  refine mG_aload_n (pc := 5) C dL_compared_5 rfl ?_
  obtain ⟨v9, e10, e8⟩ := mx_bind e8
  refine mG_arraylength (pc := 6) C dL_compared_6 e10 ?_
  refine mG_icmp_ge (pc := 7) (tgt := 37) C dL_compared_7 (by decide) (fun q11 => ?_) (fun q11 => ?_)
  · rw [if_pos q11] at e8
    exact mG_sub (mxLe_n (mxLe_n (mxLe_s (mxLe_s mxLe_z)))) (J4 _ (hx6 _ (Option.some.inj e8).symm))
  · rw [if_neg q11] at e8
    refine mG_iload_n (pc := 10) C dL_compared_10 rfl ?_
    refine mG_aload_n (pc := 11) C dL_compared_11 rfl ?_
    obtain ⟨v12, e13, e8⟩ := mx_bind e8
    refine mG_arraylength (pc := 12) C dL_compared_12 e13 ?_
    refine mG_icmp_ge (pc := 13) (tgt := 37) C dL_compared_13 (by decide) (fun q14 => ?_) (fun q14 => ?_)
    · rw [if_pos q14] at e8
      exact mG_sub (mxLe_n (mxLe_n (mxLe_s (mxLe_s mxLe_z)))) (J4 _ (hx6 _ (Option.some.inj e8).symm))
    · rw [if_neg q14] at e8
      refine mG_aload_n (pc := 16) C dL_compared_16 rfl ?_
      refine mG_iload_n (pc := 17) C dL_compared_17 rfl ?_
      obtain ⟨v15, e16, e8⟩ := mx_bind e8
      refine mG_iaload (pc := 18) C dL_compared_18 e16 ?_
      refine mG_aload_n (pc := 19) C dL_compared_19 rfl ?_
      refine mG_iload_n (pc := 20) C dL_compared_20 rfl ?_
      obtain ⟨v17, e18, e8⟩ := mx_bind e8
      refine mG_iaload (pc := 21) C dL_compared_21 e18 ?_
      refine mG_icmp_ge (pc := 22) (tgt := 31) C dL_compared_22 (by decide) (fun q19 => ?_) (fun q19 => ?_)
      · rw [if_pos q19] at e8
        refine mG_ii (ls' := [some (.ref p0), some (.ref p1), some (.int s1.1), some (.int (s1.2 + 1))]) (pc := 31) C dL_compared_31 rfl (kinc1 _) rfl rfl rfl ?_
        refine mG_goto (tgt := 4) (pc := 34) C dL_compared_34 (by decide) ?_
        exact mG_sub (mxLe_s (mxLe_s (mxLe_s (mxLe_s mxLe_z)))) (hK5 _ (Option.some.inj e8).symm)
      · rw [if_neg q19] at e8
        refine mG_ii (ls' := [some (.ref p0), some (.ref p1), some (.int (s1.1 + 1)), some (.int s1.2)]) (pc := 25) C dL_compared_25 rfl (kinc1 _) rfl rfl rfl ?_
        refine mG_goto (tgt := 4) (pc := 28) C dL_compared_28 (by decide) ?_
        exact mG_sub (mxLe_s (mxLe_s (mxLe_s (mxLe_s mxLe_z)))) (hK5 _ (Option.some.inj e8).symm)
theorem dL_areMerged_0 : decode cL_areMerged 0 = .ok (.aload_n 0, 1) := by decide +kernel
theorem dL_areMerged_1 : decode cL_areMerged 1 = .ok (.bipush 31, 2) := by decide +kernel
theorem dL_areMerged_3 : decode cL_areMerged 3 = .ok (.invokevirtual 182, 3) := by decide +kernel
theorem dL_areMerged_6 : decode cL_areMerged 6 = .ok (.astore_n 1, 1) := by decide +kernel
theorem dL_areMerged_7 : decode cL_areMerged 7 = .ok (.aload_n 0, 1) := by decide +kernel
theorem dL_areMerged_8 : decode cL_areMerged 8 = .ok (.getfield 10, 3) := by decide +kernel
theorem dL_areMerged_11 : decode cL_areMerged 11 = .ok (.invokevirtual 185, 3) := by decide +kernel
theorem dL_areMerged_14 : decode cL_areMerged 14 = .ok (.aload_n 1, 1) := by decide +kernel
theorem dL_areMerged_15 : decode cL_areMerged 15 = .ok (.arraylength, 1) := by decide +kernel
theorem dL_areMerged_16 : decode cL_areMerged 16 = .ok (.if_icmp .eq 5, 3) := by decide +kernel
theorem dL_areMerged_19 : decode cL_areMerged 19 = .ok (.iconst 0, 1) := by decide +kernel
theorem dL_areMerged_20 : decode cL_areMerged 20 = .ok (.ireturn, 1) := by decide +kernel
theorem dL_areMerged_21 : decode cL_areMerged 21 = .ok (.iconst 0, 1) := by decide +kernel
theorem dL_areMerged_22 : decode cL_areMerged 22 = .ok (.istore_n 2, 1) := by decide +kernel
theorem dL_areMerged_23 : decode cL_areMerged 23 = .ok (.iload_n 2, 1) := by decide +kernel
theorem dL_areMerged_24 : decode cL_areMerged 24 = .ok (.aload_n 1, 1) := by decide +kernel
theorem dL_areMerged_25 : decode cL_areMerged 25 = .ok (.arraylength, 1) := by decide +kernel
theorem dL_areMerged_26 : decode cL_areMerged 26 = .ok (.if_icmp .ge 48, 3) := by decide +kernel
theorem dL_areMerged_29 : decode cL_areMerged 29 = .ok (.aload_n 0, 1) := by decide +kernel
theorem dL_areMerged_30 : decode cL_areMerged 30 = .ok (.getfield 10, 3) := by decide +kernel
theorem dL_areMerged_33 : decode cL_areMerged 33 = .ok (.iload_n 2, 1) := by decide +kernel
theorem dL_areMerged_34 : decode cL_areMerged 34 = .ok (.invokevirtual 188, 3) := by decide +kernel
theorem dL_areMerged_37 : decode cL_areMerged 37 = .ok (.aload_n 1, 1) := by decide +kernel
theorem dL_areMerged_38 : decode cL_areMerged 38 = .ok (.iload_n 2, 1) := by decide +kernel
theorem dL_areMerged_39 : decode cL_areMerged 39 = .ok (.iaload, 1) := by decide +kernel
theorem dL_areMerged_40 : decode cL_areMerged 40 = .ok (.bipush 20, 2) := by decide +kernel
theorem dL_areMerged_42 : decode cL_areMerged 42 = .ok (.irem, 1) := by decide +kernel
theorem dL_areMerged_43 : decode cL_areMerged 43 = .ok (.if_icmp .ne 23, 3) := by decide +kernel
theorem dL_areMerged_46 : decode cL_areMerged 46 = .ok (.aload_n 0, 1) := by decide +kernel
theorem dL_areMerged_47 : decode cL_areMerged 47 = .ok (.getfield 10, 3) := by decide +kernel
theorem dL_areMerged_50 : decode cL_areMerged 50 = .ok (.iload_n 2, 1) := by decide +kernel
theorem dL_areMerged_51 : decode cL_areMerged 51 = .ok (.invokevirtual 191, 3) := by decide +kernel
theorem dL_areMerged_54 : decode cL_areMerged 54 = .ok (.aload_n 1, 1) := by decide +kernel
theorem dL_areMerged_55 : decode cL_areMerged 55 = .ok (.iload_n 2, 1) := by decide +kernel
theorem dL_areMerged_56 : decode cL_areMerged 56 = .ok (.iaload, 1) := by decide +kernel
theorem dL_areMerged_57 : decode cL_areMerged 57 = .ok (.bipush 100, 2) := by decide +kernel
theorem dL_areMerged_59 : decode cL_areMerged 59 = .ok (.irem, 1) := by decide +kernel
theorem dL_areMerged_60 : decode cL_areMerged 60 = .ok (.bipush 20, 2) := by decide +kernel
theorem dL_areMerged_62 : decode cL_areMerged 62 = .ok (.idiv, 1) := by decide +kernel
theorem dL_areMerged_63 : decode cL_areMerged 63 = .ok (.if_icmp .eq 5, 3) := by decide +kernel
theorem dL_areMerged_66 : decode cL_areMerged 66 = .ok (.iconst 0, 1) := by decide +kernel
theorem dL_areMerged_67 : decode cL_areMerged 67 = .ok (.ireturn, 1) := by decide +kernel
theorem dL_areMerged_68 : decode cL_areMerged 68 = .ok (.iinc 2 1, 3) := by decide +kernel
theorem dL_areMerged_71 : decode cL_areMerged 71 = .ok (.goto (-48), 3) := by decide +kernel
theorem dL_areMerged_74 : decode cL_areMerged 74 = .ok (.aload_n 0, 1) := by decide +kernel
theorem dL_areMerged_75 : decode cL_areMerged 75 = .ok (.getfield 25, 3) := by decide +kernel
theorem dL_areMerged_78 : decode cL_areMerged 78 = .ok (.iconst 5, 1) := by decide +kernel
theorem dL_areMerged_79 : decode cL_areMerged 79 = .ok (.invokevirtual 30, 3) := by decide +kernel
theorem dL_areMerged_82 : decode cL_areMerged 82 = .ok (.istore_n 2, 1) := by decide +kernel
theorem dL_areMerged_83 : decode cL_areMerged 83 = .ok (.iload_n 2, 1) := by decide +kernel
theorem dL_areMerged_84 : decode cL_areMerged 84 = .ok (.iconst 1, 1) := by decide +kernel
theorem dL_areMerged_85 : decode cL_areMerged 85 = .ok (.iadd, 1) := by decide +kernel
theorem dL_areMerged_86 : decode cL_areMerged 86 = .ok (.aload_n 0, 1) := by decide +kernel
theorem dL_areMerged_87 : decode cL_areMerged 87 = .ok (.getfield 25, 3) := by decide +kernel
theorem dL_areMerged_90 : decode cL_areMerged 90 = .ok (.iconst 4, 1) := by decide +kernel
theorem dL_areMerged_91 : decode cL_areMerged 91 = .ok (.invokevirtual 30, 3) := by decide +kernel
theorem dL_areMerged_94 : decode cL_areMerged 94 = .ok (.iadd, 1) := by decide +kernel
theorem dL_areMerged_95 : decode cL_areMerged 95 = .ok (.iconst 5, 1) := by decide +kernel
theorem dL_areMerged_96 : decode cL_areMerged 96 = .ok (.irem, 1) := by decide +kernel
theorem dL_areMerged_97 : decode cL_areMerged 97 = .ok (.istore_n 3, 1) := by decide +kernel
theorem dL_areMerged_98 : decode cL_areMerged 98 = .ok (.aload_n 0, 1) := by decide +kernel
theorem dL_areMerged_99 : decode cL_areMerged 99 = .ok (.getfield 10, 3) := by decide +kernel
theorem dL_areMerged_102 : decode cL_areMerged 102 = .ok (.iload_n 2, 1) := by decide +kernel
theorem dL_areMerged_103 : decode cL_areMerged 103 = .ok (.iload_n 3, 1) := by decide +kernel
theorem dL_areMerged_104 : decode cL_areMerged 104 = .ok (.invokevirtual 194, 3) := by decide +kernel
theorem dL_areMerged_107 : decode cL_areMerged 107 = .ok (.aload_n 0, 1) := by decide +kernel
theorem dL_areMerged_108 : decode cL_areMerged 108 = .ok (.iconst 1, 1) := by decide +kernel
theorem dL_areMerged_109 : decode cL_areMerged 109 = .ok (.iload_n 2, 1) := by decide +kernel
theorem dL_areMerged_110 : decode cL_areMerged 110 = .ok (.ishl, 1) := by decide +kernel
theorem dL_areMerged_111 : decode cL_areMerged 111 = .ok (.invokevirtual 182, 3) := by decide +kernel
theorem dL_areMerged_114 : decode cL_areMerged 114 = .ok (.aload_n 0, 1) := by decide +kernel
theorem dL_areMerged_115 : decode cL_areMerged 115 = .ok (.iconst 1, 1) := by decide +kernel
theorem dL_areMerged_116 : decode cL_areMerged 116 = .ok (.iload_n 3, 1) := by decide +kernel
theorem dL_areMerged_117 : decode cL_areMerged 117 = .ok (.ishl, 1) := by decide +kernel
theorem dL_areMerged_118 : decode cL_areMerged 118 = .ok (.invokevirtual 182, 3) := by decide +kernel
theorem dL_areMerged_121 : decode cL_areMerged 121 = .ok (.invokestatic 197, 3) := by decide +kernel
theorem dL_areMerged_124 : decode cL_areMerged 124 = .ok (.if_icmp .ne 24, 3) := by decide +kernel
theorem dL_areMerged_127 : decode cL_areMerged 127 = .ok (.aload_n 0, 1) := by decide +kernel
theorem dL_areMerged_128 : decode cL_areMerged 128 = .ok (.getfield 10, 3) := by decide +kernel
theorem dL_areMerged_131 : decode cL_areMerged 131 = .ok (.iload_n 3, 1) := by decide +kernel
theorem dL_areMerged_132 : decode cL_areMerged 132 = .ok (.iload_n 2, 1) := by decide +kernel
theorem dL_areMerged_133 : decode cL_areMerged 133 = .ok (.invokevirtual 194, 3) := by decide +kernel
theorem dL_areMerged_136 : decode cL_areMerged 136 = .ok (.aload_n 0, 1) := by decide +kernel
theorem dL_areMerged_137 : decode cL_areMerged 137 = .ok (.getfield 10, 3) := by decide +kernel
theorem dL_areMerged_140 : decode cL_areMerged 140 = .ok (.iload_n 2, 1) := by decide +kernel
theorem dL_areMerged_141 : decode cL_areMerged 141 = .ok (.iload_n 3, 1) := by decide +kernel
theorem dL_areMerged_142 : decode cL_areMerged 142 = .ok (.invokevirtual 194, 3) := by decide +kernel
theorem dL_areMerged_145 : decode cL_areMerged 145 = .ok (.if_icmp .eq 5, 3) := by decide +kernel
theorem dL_areMerged_148 : decode cL_areMerged 148 = .ok (.iconst 0, 1) := by decide +kernel
theorem dL_areMerged_149 : decode cL_areMerged 149 = .ok (.ireturn, 1) := by decide +kernel
theorem dL_areMerged_150 : decode cL_areMerged 150 = .ok (.aload_n 0, 1) := by decide +kernel
theorem dL_areMerged_151 : decode cL_areMerged 151 = .ok (.getfield 10, 3) := by decide +kernel
theorem dL_areMerged_154 : decode cL_areMerged 154 = .ok (.invokevirtual 201, 3) := by decide +kernel
theorem dL_areMerged_157 : decode cL_areMerged 157 = .ok (.aload_n 0, 1) := by decide +kernel
theorem dL_areMerged_158 : decode cL_areMerged 158 = .ok (.iconst 1, 1) := by decide +kernel
theorem dL_areMerged_159 : decode cL_areMerged 159 = .ok (.invokevirtual 182, 3) := by decide +kernel
theorem dL_areMerged_162 : decode cL_areMerged 162 = .ok (.aload_n 0, 1) := by decide +kernel
theorem dL_areMerged_163 : decode cL_areMerged 163 = .ok (.iconst 2, 1) := by decide +kernel
theorem dL_areMerged_164 : decode cL_areMerged 164 = .ok (.invokevirtual 182, 3) := by decide +kernel
theorem dL_areMerged_167 : decode cL_areMerged 167 = .ok (.invokestatic 197, 3) := by decide +kernel
theorem dL_areMerged_170 : decode cL_areMerged 170 = .ok (.aload_n 0, 1) := by decide +kernel
theorem dL_areMerged_171 : decode cL_areMerged 171 = .ok (.iconst 4, 1) := by decide +kernel
theorem dL_areMerged_172 : decode cL_areMerged 172 = .ok (.invokevirtual 182, 3) := by decide +kernel
theorem dL_areMerged_175 : decode cL_areMerged 175 = .ok (.aload_n 0, 1) := by decide +kernel
theorem dL_areMerged_176 : decode cL_areMerged 176 = .ok (.bipush 8, 2) := by decide +kernel
theorem dL_areMerged_178 : decode cL_areMerged 178 = .ok (.invokevirtual 182, 3) := by decide +kernel
theorem dL_areMerged_181 : decode cL_areMerged 181 = .ok (.invokestatic 197, 3) := by decide +kernel
theorem dL_areMerged_184 : decode cL_areMerged 184 = .ok (.iadd, 1) := by decide +kernel
theorem dL_areMerged_185 : decode cL_areMerged 185 = .ok (.aload_n 0, 1) := by decide +kernel
theorem dL_areMerged_186 : decode cL_areMerged 186 = .ok (.iconst 3, 1) := by decide +kernel
theorem dL_areMerged_187 : decode cL_areMerged 187 = .ok (.invokevirtual 182, 3) := by decide +kernel
theorem dL_areMerged_190 : decode cL_areMerged 190 = .ok (.aload_n 0, 1) := by decide +kernel
theorem dL_areMerged_191 : decode cL_areMerged 191 = .ok (.bipush 12, 2) := by decide +kernel
theorem dL_areMerged_193 : decode cL_areMerged 193 = .ok (.invokevirtual 182, 3) := by decide +kernel
theorem dL_areMerged_196 : decode cL_areMerged 196 = .ok (.invokestatic 197, 3) := by decide +kernel
theorem dL_areMerged_199 : decode cL_areMerged 199 = .ok (.iadd, 1) := by decide +kernel
theorem dL_areMerged_200 : decode cL_areMerged 200 = .ok (.aload_n 0, 1) := by decide +kernel
theorem dL_areMerged_201 : decode cL_areMerged 201 = .ok (.bipush 15, 2) := by decide +kernel
theorem dL_areMerged_203 : decode cL_areMerged 203 = .ok (.invokevirtual 182, 3) := by decide +kernel
theorem dL_areMerged_206 : decode cL_areMerged 206 = .ok (.aload_n 0, 1) := by decide +kernel
theorem dL_areMerged_207 : decode cL_areMerged 207 = .ok (.bipush 16, 2) := by decide +kernel
theorem dL_areMerged_209 : decode cL_areMerged 209 = .ok (.invokevirtual 182, 3) := by decide +kernel
theorem dL_areMerged_212 : decode cL_areMerged 212 = .ok (.invokestatic 197, 3) := by decide +kernel
theorem dL_areMerged_215 : decode cL_areMerged 215 = .ok (.iadd, 1) := by decide +kernel
theorem dL_areMerged_216 : decode cL_areMerged 216 = .ok (.if_icmp .eq 5, 3) := by decide +kernel
theorem dL_areMerged_219 : decode cL_areMerged 219 = .ok (.iconst 0, 1) := by decide +kernel
theorem dL_areMerged_220 : decode cL_areMerged 220 = .ok (.ireturn, 1) := by decide +kernel
theorem dL_areMerged_221 : decode cL_areMerged 221 = .ok (.aload_n 0, 1) := by decide +kernel
theorem dL_areMerged_222 : decode cL_areMerged 222 = .ok (.getfield 25, 3) := by decide +kernel
theorem dL_areMerged_225 : decode cL_areMerged 225 = .ok (.sipush 1001, 3) := by decide +kernel
theorem dL_areMerged_228 : decode cL_areMerged 228 = .ok (.invokevirtual 30, 3) := by decide +kernel
theorem dL_areMerged_231 : decode cL_areMerged 231 = .ok (.istore 4, 2) := by decide +kernel
theorem dL_areMerged_233 : decode cL_areMerged 233 = .ok (.aload_n 1, 1) := by decide +kernel
theorem dL_areMerged_234 : decode cL_areMerged 234 = .ok (.arraylength, 1) := by decide +kernel
theorem dL_areMerged_235 : decode cL_areMerged 235 = .ok (.ifCond .eq 34, 3) := by decide +kernel
theorem dL_areMerged_238 : decode cL_areMerged 238 = .ok (.aload_n 0, 1) := by decide +kernel
theorem dL_areMerged_239 : decode cL_areMerged 239 = .ok (.getfield 10, 3) := by decide +kernel
theorem dL_areMerged_242 : decode cL_areMerged 242 = .ok (.iload 4, 2) := by decide +kernel
theorem dL_areMerged_244 : decode cL_areMerged 244 = .ok (.invokevirtual 204, 3) := by decide +kernel
theorem dL_areMerged_247 : decode cL_areMerged 247 = .ok (.bipush 99, 2) := by decide +kernel
theorem dL_areMerged_249 : decode cL_areMerged 249 = .ok (.aload_n 1, 1) := by decide +kernel
theorem dL_areMerged_250 : decode cL_areMerged 250 = .ok (.aload_n 1, 1) := by decide +kernel
theorem dL_areMerged_251 : decode cL_areMerged 251 = .ok (.arraylength, 1) := by decide +kernel
theorem dL_areMerged_252 : decode cL_areMerged 252 = .ok (.iconst 1, 1) := by decide +kernel
theorem dL_areMerged_253 : decode cL_areMerged 253 = .ok (.isub, 1) := by decide +kernel
theorem dL_areMerged_254 : decode cL_areMerged 254 = .ok (.iload 4, 2) := by decide +kernel
theorem dL_areMerged_256 : decode cL_areMerged 256 = .ok (.imul, 1) := by decide +kernel
theorem dL_areMerged_257 : decode cL_areMerged 257 = .ok (.sipush 1000, 3) := by decide +kernel
theorem dL_areMerged_260 : decode cL_areMerged 260 = .ok (.idiv, 1) := by decide +kernel
theorem dL_areMerged_261 : decode cL_areMerged 261 = .ok (.iaload, 1) := by decide +kernel
theorem dL_areMerged_262 : decode cL_areMerged 262 = .ok (.bipush 100, 2) := by decide +kernel
theorem dL_areMerged_264 : decode cL_areMerged 264 = .ok (.idiv, 1) := by decide +kernel
theorem dL_areMerged_265 : decode cL_areMerged 265 = .ok (.isub, 1) := by decide +kernel
theorem dL_areMerged_266 : decode cL_areMerged 266 = .ok (.if_icmp .ne 7, 3) := by decide +kernel
theorem dL_areMerged_269 : decode cL_areMerged 269 = .ok (.iconst 1, 1) := by decide +kernel
theorem dL_areMerged_270 : decode cL_areMerged 270 = .ok (.goto 4, 3) := by decide +kernel
theorem dL_areMerged_273 : decode cL_areMerged 273 = .ok (.iconst 0, 1) := by decide +kernel
theorem dL_areMerged_274 : decode cL_areMerged 274 = .ok (.ireturn, 1) := by decide +kernel
def fL_areMerged (p0 : Nat) (h : mxH) : Option (Int32 × mxH) := Option.bind (isO h p0 11) (fun u1 => Option.bind (fL_keys p0 31 h) (fun o4 => Option.bind (gR o4.2 p0 11 0) (fun r5 => Option.bind (isO o4.2 r5 9) (fun u7 => Option.bind (fX9_mergedCount r5 o4.2) (fun o10 => Option.bind (lenA o4.2 o4.1) (fun v11 => (if o10 = v11 then Option.bind (mxLoop (ρ := (mxH ⊕ mxH)) (fun s44 : (Int32 × mxH) => Option.bind (lenA s44.2 o4.1) (fun v58 => (if v58 ≤ s44.1 then some (Sum.inr (Sum.inr s44.2)) else Option.bind (gR s44.2 p0 11 0) (fun r61 => Option.bind (isO s44.2 r61 9) (fun u63 => Option.bind (mxOk (fX9_mergedThing r61 s44.1 s44.2)) (fun o66 => Option.bind (ldI o66.2 o4.1 s44.1) (fun v67 => (if o66.1 = (v67 - v67 / 20 * 20) then Option.bind (gR o66.2 p0 11 0) (fun r70 => Option.bind (isO o66.2 r70 9) (fun u72 => Option.bind (mxOk (fX9_mergedRow r70 s44.1 o66.2)) (fun o75 => Option.bind (ldI o75.2 o4.1 s44.1) (fun v76 => (if o75.1 = ((v76 - v76 / 100 * 100) / 20) then some (Sum.inl (s44.1 + 1, o75.2)) else some (Sum.inr (Sum.inl o75.2))))))) else some (Sum.inr (Sum.inl o66.2)))))))))) 101 (0, o4.2)) (Sum.elim (fun r79 : mxH => Option.bind (mxZ1 0) (fun v80 => some (v80, r79))) (fun r83 : mxH => Option.bind (gR r83 p0 11 1) (fun r84 => Option.bind (isO r83 r84 10) (fun u86 => Option.bind (fX10_next r84 5 r83) (fun o89 => Option.bind (gR o89.2 p0 11 1) (fun r90 => Option.bind (isO o89.2 r90 10) (fun u92 => Option.bind (fX10_next r90 4 o89.2) (fun o95 => Option.bind (gR o95.2 p0 11 0) (fun r96 => Option.bind (isO o95.2 r96 9) (fun u98 => Option.bind (mxOk (fX9_comparisons r96 o89.1 (((o89.1 + 1) + o95.1) - ((o89.1 + 1) + o95.1) / 5 * 5) o95.2)) (fun o101 => Option.bind (isO o101.2 p0 11) (fun u102 => Option.bind (fL_keys p0 ((1 : Int32) <<< (o89.1 &&& 31)) o101.2) (fun o105 => Option.bind (isO o105.2 p0 11) (fun u106 => Option.bind (fL_keys p0 ((1 : Int32) <<< ((((o89.1 + 1) + o95.1) - ((o89.1 + 1) + o95.1) / 5 * 5) &&& 31)) o105.2) (fun o109 => Option.bind (fL_compared o105.1 o109.1 o109.2) (fun o111 => (if o101.1 = o111 then Option.bind (gR o109.2 p0 11 0) (fun r115 => Option.bind (isO o109.2 r115 9) (fun u117 => Option.bind (mxOk (fX9_comparisons r115 (((o89.1 + 1) + o95.1) - ((o89.1 + 1) + o95.1) / 5 * 5) o89.1 o109.2)) (fun o120 => Option.bind (gR o120.2 p0 11 0) (fun r121 => Option.bind (isO o120.2 r121 9) (fun u123 => Option.bind (mxOk (fX9_comparisons r121 o89.1 (((o89.1 + 1) + o95.1) - ((o89.1 + 1) + o95.1) / 5 * 5) o120.2)) (fun o126 => (if o120.1 = o126.1 then Option.bind (gR o126.2 p0 11 0) (fun r128 => Option.bind (isO o126.2 r128 9) (fun u130 => Option.bind (fX9_allComparisons r128 o126.2) (fun o133 => Option.bind (isO o133.2 p0 11) (fun u134 => Option.bind (fL_keys p0 1 o133.2) (fun o137 => Option.bind (isO o137.2 p0 11) (fun u138 => Option.bind (fL_keys p0 2 o137.2) (fun o141 => Option.bind (fL_compared o137.1 o141.1 o141.2) (fun o143 => Option.bind (isO o141.2 p0 11) (fun u144 => Option.bind (fL_keys p0 4 o141.2) (fun o147 => Option.bind (isO o147.2 p0 11) (fun u148 => Option.bind (fL_keys p0 8 o147.2) (fun o151 => Option.bind (fL_compared o147.1 o151.1 o151.2) (fun o153 => Option.bind (isO o151.2 p0 11) (fun u154 => Option.bind (fL_keys p0 3 o151.2) (fun o157 => Option.bind (isO o157.2 p0 11) (fun u158 => Option.bind (fL_keys p0 12 o157.2) (fun o161 => Option.bind (fL_compared o157.1 o161.1 o161.2) (fun o163 => Option.bind (isO o161.2 p0 11) (fun u164 => Option.bind (fL_keys p0 15 o161.2) (fun o167 => Option.bind (isO o167.2 p0 11) (fun u168 => Option.bind (fL_keys p0 16 o167.2) (fun o171 => Option.bind (fL_compared o167.1 o171.1 o171.2) (fun o173 => (if o133.1 = (((o143 + o153) + o163) + o173) then Option.bind (gR o171.2 p0 11 1) (fun r175 => Option.bind (isO o171.2 r175 10) (fun u177 => Option.bind (fX10_next r175 1001 o171.2) (fun o180 => Option.bind (lenA o180.2 o4.1) (fun v181 => Option.bind (α := (Int32 × mxH)) (if v181 = 0 then some (1, o180.2) else Option.bind (gR o180.2 p0 11 0) (fun r198 => Option.bind (isO o180.2 r198 9) (fun u200 => Option.bind (mxOk (fX9_quantile r198 o180.1 o180.2)) (fun o203 => Option.bind (lenA o203.2 o4.1) (fun v204 => Option.bind (ldI o203.2 o4.1 (((v204 - 1) * o180.1) / 1000)) (fun v206 => (if o203.1 = (99 - (v206 / 100)) then some (1, o203.2) else some (0, o203.2)))))))) (fun jp185' : (Int32 × mxH) => Option.bind (mxZ1 jp185'.1) (fun v209 => some (v209, jp185'.2))))))) else Option.bind (mxZ1 0) (fun v212 => some (v212, o171.2)))))))))))))))))))))))))) else Option.bind (mxZ1 0) (fun v214 => some (v214, o126.2))))))))) else Option.bind (mxZ1 0) (fun v113 => some (v113, o109.2))))))))))))))))))) else Option.bind (mxZ1 0) (fun v217 => some (v217, o4.2)))))))))
abbrev rmL_areMerged : Room := { frames := 8, cells := 1005, slots := 101268, locals := 178 }
set_option maxRecDepth 20000 in
set_option maxHeartbeats 1000000 in
theorem tL_areMerged {l : Launch} {Z : mxZ} (hl : l.stackTraces = false) {p0 : Nat} {h : mxH} {out : (Int32 × mxH)} (hf : fL_areMerged p0 h = some out) : mxMet l Z yL_areMerged cL_areMerged 5 (some .boolean) rmL_areMerged [.ref p0] h (.inl (some (.int out.1))) out.2 := by
  refine mxMet_of (by decide) hl (by simp [Value.category]) (Nat.le_of_ble_eq_true rfl) ?_
  intro X C E hX hin
  unfold fL_areMerged at hf
  refine mG_aload_n (pc := 0) C dL_areMerged_0 rfl ?_
  refine mG_bp (pc := 1) C dL_areMerged_1 kB31 ?_
  obtain ⟨u1, e2, hf⟩ := mx_bind hf
  obtain ⟨o4, e3, hf⟩ := mx_bind hf
  refine mG_cV2 (pc := 3) (k' := 72) (n' := 9090) (h' := o4.2) (v := some (.ref o4.1)) 11 [.int 31] [] C hX dL_areMerged_3 lkV_L_182 rfl rfl e2 (tL_keys hl e3) rfl rfl rfl ⟨Nat.le_of_ble_eq_true rfl, Nat.le_of_ble_eq_true rfl⟩ rfl ?_
  refine mG_asn (ls' := [some (.ref p0), some (.ref o4.1), none, none, none]) (pc := 6) C dL_areMerged_6 rfl rfl rfl ?_
  refine mG_aload_n (pc := 7) C dL_areMerged_7 rfl ?_
  obtain ⟨r5, e6, hf⟩ := mx_bind hf
  refine mG_getR (pc := 8) C dL_areMerged_8 fl_L_10 e6 ?_
  obtain ⟨u7, e8, hf⟩ := mx_bind hf
  obtain ⟨o10, e9, hf⟩ := mx_bind hf
  refine mG_cV2 (pc := 11) (k' := 72) (n' := 9090) (h' := o4.2) (v := some (.int o10)) 9 [] [] C hX dL_areMerged_11 lkV_L_185 rfl rfl e8 (tX9_mergedCount hl e9) rfl rfl rfl ⟨Nat.le_of_ble_eq_true rfl, Nat.le_of_ble_eq_true rfl⟩ rfl ?_
  refine mG_aload_n (pc := 14) C dL_areMerged_14 rfl ?_
  obtain ⟨v11, e12, hf⟩ := mx_bind hf
  refine mG_arraylength (pc := 15) C dL_areMerged_15 e12 ?_
  refine mG_icmp_eq (pc := 16) (tgt := 21) C dL_areMerged_16 (by decide) (fun q13 => ?_) (fun q13 => ?_)
  · rw [if_pos q13] at hf
    refine mG_ic (pc := 21) C dL_areMerged_21 kI0 ?_
    refine mG_isn (ls' := [some (.ref p0), some (.ref o4.1), some (.int 0), none, none]) (pc := 22) C dL_areMerged_22 rfl rfl rfl ?_
    obtain ⟨r52, e53, hf⟩ := mx_bind hf
    have J48 : ∀ r79 : mxH, Sum.inl r79 = r52 → mG l Z X 5 274 10302 66 [none, none, none, none, none] [] r79 := by
      intro r79 q82
      subst q82
      rw [Sum.elim_inl] at hf
      refine mG_ic (pc := 66) C dL_areMerged_66 kI0 ?_
      obtain ⟨v80, e81, hf⟩ := mx_bind hf
      cases hf
      exact mG_zr2 (pc := 67) C e81 E hX dL_areMerged_67 ⟨Nat.le_of_ble_eq_true rfl, Nat.le_of_ble_eq_true rfl⟩
    have J49 : ∀ r83 : mxH, Sum.inr r83 = r52 → mG l Z X 5 274 10302 74 [some (.ref p0), some (.ref o4.1), none, none, none] [] r83 := by
      intro r83 q216
      subst q216
      rw [Sum.elim_inr] at hf
      refine mG_aload_n (pc := 74) C dL_areMerged_74 rfl ?_
      obtain ⟨r84, e85, hf⟩ := mx_bind hf
      refine mG_getR (pc := 75) C dL_areMerged_75 fl_L_25 e85 ?_
      refine mG_ic (pc := 78) C dL_areMerged_78 kI5 ?_
      obtain ⟨u86, e87, hf⟩ := mx_bind hf
      obtain ⟨o89, e88, hf⟩ := mx_bind hf
      refine mG_cV2 (pc := 79) (k' := 274) (n' := 10302) (h' := o89.2) (v := some (.int o89.1)) 10 [.int 5] [] C hX dL_areMerged_79 lkV_L_30 rfl rfl e87 (tX10_next hl e88) rfl rfl rfl ⟨Nat.le_of_ble_eq_true rfl, Nat.le_of_ble_eq_true rfl⟩ rfl ?_
      refine mG_isn (ls' := [some (.ref p0), some (.ref o4.1), some (.int o89.1), none, none]) (pc := 82) C dL_areMerged_82 rfl rfl rfl ?_
      refine mG_iload_n (pc := 83) C dL_areMerged_83 rfl ?_
      refine mG_ic (pc := 84) C dL_areMerged_84 kI1 ?_
      refine mG_iadd (pc := 85) C dL_areMerged_85 ?_
      refine mG_aload_n (pc := 86) C dL_areMerged_86 rfl ?_
      obtain ⟨r90, e91, hf⟩ := mx_bind hf
      refine mG_getR (pc := 87) C dL_areMerged_87 fl_L_25 e91 ?_
      refine mG_ic (pc := 90) C dL_areMerged_90 kI4 ?_
      obtain ⟨u92, e93, hf⟩ := mx_bind hf
      obtain ⟨o95, e94, hf⟩ := mx_bind hf
      refine mG_cV2 (pc := 91) (k' := 274) (n' := 10302) (h' := o95.2) (v := some (.int o95.1)) 10 [.int 4] [.int (o89.1 + 1)] C hX dL_areMerged_91 lkV_L_30 rfl rfl e93 (tX10_next hl e94) rfl rfl rfl ⟨Nat.le_of_ble_eq_true rfl, Nat.le_of_ble_eq_true rfl⟩ rfl ?_
      refine mG_iadd (pc := 94) C dL_areMerged_94 ?_
      refine mG_ic (pc := 95) C dL_areMerged_95 kI5 ?_
      refine mG_irem (pc := 96) C dL_areMerged_96 (by decide) ?_
      refine mG_isn (ls' := [some (.ref p0), some (.ref o4.1), some (.int o89.1), some (.int (((o89.1 + 1) + o95.1) - ((o89.1 + 1) + o95.1) / 5 * 5)), none]) (pc := 97) C dL_areMerged_97 rfl rfl rfl ?_
      refine mG_aload_n (pc := 98) C dL_areMerged_98 rfl ?_
      obtain ⟨r96, e97, hf⟩ := mx_bind hf
      refine mG_getR (pc := 99) C dL_areMerged_99 fl_L_10 e97 ?_
      refine mG_iload_n (pc := 102) C dL_areMerged_102 rfl ?_
      refine mG_iload_n (pc := 103) C dL_areMerged_103 rfl ?_
      obtain ⟨u98, e99, hf⟩ := mx_bind hf
      obtain ⟨o101, e100, hf⟩ := mx_bind hf
      refine mG_cV2 (pc := 104) (k' := 277) (n' := 10320) (h' := o101.2) (v := some (.int o101.1)) 9 [.int o89.1, .int (((o89.1 + 1) + o95.1) - ((o89.1 + 1) + o95.1) / 5 * 5)] [] C hX dL_areMerged_104 lkV_L_194 rfl rfl e99 (tX9_comparisons hl (mxOk_some e100)) rfl rfl rfl ⟨Nat.le_of_ble_eq_true rfl, Nat.le_of_ble_eq_true rfl⟩ rfl ?_
      refine mG_aload_n (pc := 107) C dL_areMerged_107 rfl ?_
      refine mG_ic (pc := 108) C dL_areMerged_108 kI1 ?_
      refine mG_iload_n (pc := 109) C dL_areMerged_109 rfl ?_
      refine mG_ishl (pc := 110) C dL_areMerged_110 ?_
      obtain ⟨u102, e103, hf⟩ := mx_bind hf
      obtain ⟨o105, e104, hf⟩ := mx_bind hf
      refine mG_cV2 (pc := 111) (k' := 349) (n' := 19410) (h' := o105.2) (v := some (.ref o105.1)) 11 [.int ((1 : Int32) <<< (o89.1 &&& 31))] [.int o101.1] C hX dL_areMerged_111 lkV_L_182 rfl rfl e103 (tL_keys hl e104) rfl rfl rfl ⟨Nat.le_of_ble_eq_true rfl, Nat.le_of_ble_eq_true rfl⟩ rfl ?_
      refine mG_aload_n (pc := 114) C dL_areMerged_114 rfl ?_
      refine mG_ic (pc := 115) C dL_areMerged_115 kI1 ?_
      refine mG_iload_n (pc := 116) C dL_areMerged_116 rfl ?_
      refine mG_ishl (pc := 117) C dL_areMerged_117 ?_
      obtain ⟨u106, e107, hf⟩ := mx_bind hf
      obtain ⟨o109, e108, hf⟩ := mx_bind hf
      refine mG_cV2 (pc := 118) (k' := 421) (n' := 28500) (h' := o109.2) (v := some (.ref o109.1)) 11 [.int ((1 : Int32) <<< ((((o89.1 + 1) + o95.1) - ((o89.1 + 1) + o95.1) / 5 * 5) &&& 31))] [.ref o105.1, .int o101.1] C hX dL_areMerged_118 lkV_L_182 rfl rfl e107 (tL_keys hl e108) rfl rfl rfl ⟨Nat.le_of_ble_eq_true rfl, Nat.le_of_ble_eq_true rfl⟩ rfl ?_
      obtain ⟨o111, e110, hf⟩ := mx_bind hf
      refine mG_cS2 (pc := 121) (k' := 421) (n' := 28500) (h' := o109.2) (v := some (.int o111)) [.ref o105.1, .ref o109.1] [.int o101.1] C hX dL_areMerged_121 lkS_L_197 rfl (tL_compared hl e110) rfl rfl rfl ⟨Nat.le_of_ble_eq_true rfl, Nat.le_of_ble_eq_true rfl⟩ rfl ?_
      refine mG_icmp_ne (pc := 124) (tgt := 148) C dL_areMerged_124 (by decide) (fun q112 => ?_) (fun q112 => ?_)
      · rw [if_neg q112] at hf
        refine mG_ic (pc := 148) C dL_areMerged_148 kI0 ?_
        obtain ⟨v113, e114, hf⟩ := mx_bind hf
        cases hf
        exact mG_zr2 (pc := 149) C e114 E hX dL_areMerged_149 ⟨Nat.le_of_ble_eq_true rfl, Nat.le_of_ble_eq_true rfl⟩
      · rw [if_pos q112] at hf
        refine mG_aload_n (pc := 127) C dL_areMerged_127 rfl ?_
        obtain ⟨r115, e116, hf⟩ := mx_bind hf
        refine mG_getR (pc := 128) C dL_areMerged_128 fl_L_10 e116 ?_
        refine mG_iload_n (pc := 131) C dL_areMerged_131 rfl ?_
        refine mG_iload_n (pc := 132) C dL_areMerged_132 rfl ?_
        obtain ⟨u117, e118, hf⟩ := mx_bind hf
        obtain ⟨o120, e119, hf⟩ := mx_bind hf
        refine mG_cV2 (pc := 133) (k' := 424) (n' := 28518) (h' := o120.2) (v := some (.int o120.1)) 9 [.int (((o89.1 + 1) + o95.1) - ((o89.1 + 1) + o95.1) / 5 * 5), .int o89.1] [] C hX dL_areMerged_133 lkV_L_194 rfl rfl e118 (tX9_comparisons hl (mxOk_some e119)) rfl rfl rfl ⟨Nat.le_of_ble_eq_true rfl, Nat.le_of_ble_eq_true rfl⟩ rfl ?_
        refine mG_aload_n (pc := 136) C dL_areMerged_136 rfl ?_
        obtain ⟨r121, e122, hf⟩ := mx_bind hf
        refine mG_getR (pc := 137) C dL_areMerged_137 fl_L_10 e122 ?_
        refine mG_iload_n (pc := 140) C dL_areMerged_140 rfl ?_
        refine mG_iload_n (pc := 141) C dL_areMerged_141 rfl ?_
        obtain ⟨u123, e124, hf⟩ := mx_bind hf
        obtain ⟨o126, e125, hf⟩ := mx_bind hf
        refine mG_cV2 (pc := 142) (k' := 427) (n' := 28536) (h' := o126.2) (v := some (.int o126.1)) 9 [.int o89.1, .int (((o89.1 + 1) + o95.1) - ((o89.1 + 1) + o95.1) / 5 * 5)] [.int o120.1] C hX dL_areMerged_142 lkV_L_194 rfl rfl e124 (tX9_comparisons hl (mxOk_some e125)) rfl rfl rfl ⟨Nat.le_of_ble_eq_true rfl, Nat.le_of_ble_eq_true rfl⟩ rfl ?_
        refine mG_icmp_eq (pc := 145) (tgt := 150) C dL_areMerged_145 (by decide) (fun q127 => ?_) (fun q127 => ?_)
        · rw [if_pos q127] at hf
          refine mG_aload_n (pc := 150) C dL_areMerged_150 rfl ?_
          obtain ⟨r128, e129, hf⟩ := mx_bind hf
          refine mG_getR (pc := 151) C dL_areMerged_151 fl_L_10 e129 ?_
          obtain ⟨u130, e131, hf⟩ := mx_bind hf
          obtain ⟨o133, e132, hf⟩ := mx_bind hf
          refine mG_cV2 (pc := 154) (k' := 427) (n' := 28536) (h' := o133.2) (v := some (.int o133.1)) 9 [] [] C hX dL_areMerged_154 lkV_L_201 rfl rfl e131 (tX9_allComparisons hl e132) rfl rfl rfl ⟨Nat.le_of_ble_eq_true rfl, Nat.le_of_ble_eq_true rfl⟩ rfl ?_
          refine mG_aload_n (pc := 157) C dL_areMerged_157 rfl ?_
          refine mG_ic (pc := 158) C dL_areMerged_158 kI1 ?_
          obtain ⟨u134, e135, hf⟩ := mx_bind hf
          obtain ⟨o137, e136, hf⟩ := mx_bind hf
          refine mG_cV2 (pc := 159) (k' := 499) (n' := 37626) (h' := o137.2) (v := some (.ref o137.1)) 11 [.int 1] [.int o133.1] C hX dL_areMerged_159 lkV_L_182 rfl rfl e135 (tL_keys hl e136) rfl rfl rfl ⟨Nat.le_of_ble_eq_true rfl, Nat.le_of_ble_eq_true rfl⟩ rfl ?_
          refine mG_aload_n (pc := 162) C dL_areMerged_162 rfl ?_
          refine mG_ic (pc := 163) C dL_areMerged_163 kI2 ?_
          obtain ⟨u138, e139, hf⟩ := mx_bind hf
          obtain ⟨o141, e140, hf⟩ := mx_bind hf
          refine mG_cV2 (pc := 164) (k' := 571) (n' := 46716) (h' := o141.2) (v := some (.ref o141.1)) 11 [.int 2] [.ref o137.1, .int o133.1] C hX dL_areMerged_164 lkV_L_182 rfl rfl e139 (tL_keys hl e140) rfl rfl rfl ⟨Nat.le_of_ble_eq_true rfl, Nat.le_of_ble_eq_true rfl⟩ rfl ?_
          obtain ⟨o143, e142, hf⟩ := mx_bind hf
          refine mG_cS2 (pc := 167) (k' := 571) (n' := 46716) (h' := o141.2) (v := some (.int o143)) [.ref o137.1, .ref o141.1] [.int o133.1] C hX dL_areMerged_167 lkS_L_197 rfl (tL_compared hl e142) rfl rfl rfl ⟨Nat.le_of_ble_eq_true rfl, Nat.le_of_ble_eq_true rfl⟩ rfl ?_
          refine mG_aload_n (pc := 170) C dL_areMerged_170 rfl ?_
          refine mG_ic (pc := 171) C dL_areMerged_171 kI4 ?_
          obtain ⟨u144, e145, hf⟩ := mx_bind hf
          obtain ⟨o147, e146, hf⟩ := mx_bind hf
          refine mG_cV2 (pc := 172) (k' := 643) (n' := 55806) (h' := o147.2) (v := some (.ref o147.1)) 11 [.int 4] [.int o143, .int o133.1] C hX dL_areMerged_172 lkV_L_182 rfl rfl e145 (tL_keys hl e146) rfl rfl rfl ⟨Nat.le_of_ble_eq_true rfl, Nat.le_of_ble_eq_true rfl⟩ rfl ?_
          refine mG_aload_n (pc := 175) C dL_areMerged_175 rfl ?_
          refine mG_bp (pc := 176) C dL_areMerged_176 kB8 ?_
          obtain ⟨u148, e149, hf⟩ := mx_bind hf
          obtain ⟨o151, e150, hf⟩ := mx_bind hf
          refine mG_cV2 (pc := 178) (k' := 715) (n' := 64896) (h' := o151.2) (v := some (.ref o151.1)) 11 [.int 8] [.ref o147.1, .int o143, .int o133.1] C hX dL_areMerged_178 lkV_L_182 rfl rfl e149 (tL_keys hl e150) rfl rfl rfl ⟨Nat.le_of_ble_eq_true rfl, Nat.le_of_ble_eq_true rfl⟩ rfl ?_
          obtain ⟨o153, e152, hf⟩ := mx_bind hf
          refine mG_cS2 (pc := 181) (k' := 715) (n' := 64896) (h' := o151.2) (v := some (.int o153)) [.ref o147.1, .ref o151.1] [.int o143, .int o133.1] C hX dL_areMerged_181 lkS_L_197 rfl (tL_compared hl e152) rfl rfl rfl ⟨Nat.le_of_ble_eq_true rfl, Nat.le_of_ble_eq_true rfl⟩ rfl ?_
          refine mG_iadd (pc := 184) C dL_areMerged_184 ?_
          refine mG_aload_n (pc := 185) C dL_areMerged_185 rfl ?_
          refine mG_ic (pc := 186) C dL_areMerged_186 kI3 ?_
          obtain ⟨u154, e155, hf⟩ := mx_bind hf
          obtain ⟨o157, e156, hf⟩ := mx_bind hf
          refine mG_cV2 (pc := 187) (k' := 787) (n' := 73986) (h' := o157.2) (v := some (.ref o157.1)) 11 [.int 3] [.int (o143 + o153), .int o133.1] C hX dL_areMerged_187 lkV_L_182 rfl rfl e155 (tL_keys hl e156) rfl rfl rfl ⟨Nat.le_of_ble_eq_true rfl, Nat.le_of_ble_eq_true rfl⟩ rfl ?_
          refine mG_aload_n (pc := 190) C dL_areMerged_190 rfl ?_
          refine mG_bp (pc := 191) C dL_areMerged_191 kB12 ?_
          obtain ⟨u158, e159, hf⟩ := mx_bind hf
          obtain ⟨o161, e160, hf⟩ := mx_bind hf
          refine mG_cV2 (pc := 193) (k' := 859) (n' := 83076) (h' := o161.2) (v := some (.ref o161.1)) 11 [.int 12] [.ref o157.1, .int (o143 + o153), .int o133.1] C hX dL_areMerged_193 lkV_L_182 rfl rfl e159 (tL_keys hl e160) rfl rfl rfl ⟨Nat.le_of_ble_eq_true rfl, Nat.le_of_ble_eq_true rfl⟩ rfl ?_
          obtain ⟨o163, e162, hf⟩ := mx_bind hf
          refine mG_cS2 (pc := 196) (k' := 859) (n' := 83076) (h' := o161.2) (v := some (.int o163)) [.ref o157.1, .ref o161.1] [.int (o143 + o153), .int o133.1] C hX dL_areMerged_196 lkS_L_197 rfl (tL_compared hl e162) rfl rfl rfl ⟨Nat.le_of_ble_eq_true rfl, Nat.le_of_ble_eq_true rfl⟩ rfl ?_
          refine mG_iadd (pc := 199) C dL_areMerged_199 ?_
          refine mG_aload_n (pc := 200) C dL_areMerged_200 rfl ?_
          refine mG_bp (pc := 201) C dL_areMerged_201 kB15 ?_
          obtain ⟨u164, e165, hf⟩ := mx_bind hf
          obtain ⟨o167, e166, hf⟩ := mx_bind hf
          refine mG_cV2 (pc := 203) (k' := 931) (n' := 92166) (h' := o167.2) (v := some (.ref o167.1)) 11 [.int 15] [.int ((o143 + o153) + o163), .int o133.1] C hX dL_areMerged_203 lkV_L_182 rfl rfl e165 (tL_keys hl e166) rfl rfl rfl ⟨Nat.le_of_ble_eq_true rfl, Nat.le_of_ble_eq_true rfl⟩ rfl ?_
          refine mG_aload_n (pc := 206) C dL_areMerged_206 rfl ?_
          refine mG_bp (pc := 207) C dL_areMerged_207 kB16 ?_
          obtain ⟨u168, e169, hf⟩ := mx_bind hf
          obtain ⟨o171, e170, hf⟩ := mx_bind hf
          refine mG_cV2 (pc := 209) (k' := 1003) (n' := 101256) (h' := o171.2) (v := some (.ref o171.1)) 11 [.int 16] [.ref o167.1, .int ((o143 + o153) + o163), .int o133.1] C hX dL_areMerged_209 lkV_L_182 rfl rfl e169 (tL_keys hl e170) rfl rfl rfl ⟨Nat.le_of_ble_eq_true rfl, Nat.le_of_ble_eq_true rfl⟩ rfl ?_
          obtain ⟨o173, e172, hf⟩ := mx_bind hf
          refine mG_cS2 (pc := 212) (k' := 1003) (n' := 101256) (h' := o171.2) (v := some (.int o173)) [.ref o167.1, .ref o171.1] [.int ((o143 + o153) + o163), .int o133.1] C hX dL_areMerged_212 lkS_L_197 rfl (tL_compared hl e172) rfl rfl rfl ⟨Nat.le_of_ble_eq_true rfl, Nat.le_of_ble_eq_true rfl⟩ rfl ?_
          refine mG_iadd (pc := 215) C dL_areMerged_215 ?_
          refine mG_icmp_eq (pc := 216) (tgt := 221) C dL_areMerged_216 (by decide) (fun q174 => ?_) (fun q174 => ?_)
          · rw [if_pos q174] at hf
            refine mG_aload_n (pc := 221) C dL_areMerged_221 rfl ?_
            obtain ⟨r175, e176, hf⟩ := mx_bind hf
            refine mG_getR (pc := 222) C dL_areMerged_222 fl_L_25 e176 ?_
            refine mG_sp (pc := 225) C dL_areMerged_225 kS1001 ?_
            obtain ⟨u177, e178, hf⟩ := mx_bind hf
            obtain ⟨o180, e179, hf⟩ := mx_bind hf
            refine mG_cV2 (pc := 228) (k' := 1003) (n' := 101256) (h' := o180.2) (v := some (.int o180.1)) 10 [.int 1001] [] C hX dL_areMerged_228 lkV_L_30 rfl rfl e178 (tX10_next hl e179) rfl rfl rfl ⟨Nat.le_of_ble_eq_true rfl, Nat.le_of_ble_eq_true rfl⟩ rfl ?_
            refine mG_is (ls' := [some (.ref p0), some (.ref o4.1), some (.int o89.1), some (.int (((o89.1 + 1) + o95.1) - ((o89.1 + 1) + o95.1) / 5 * 5)), some (.int o180.1)]) (pc := 231) C dL_areMerged_231 rfl rfl rfl ?_
            refine mG_aload_n (pc := 233) C dL_areMerged_233 rfl ?_
            obtain ⟨v181, e182, hf⟩ := mx_bind hf
            refine mG_arraylength (pc := 234) C dL_areMerged_234 e182 ?_
            obtain ⟨jp185, e186, hf⟩ := mx_bind hf
            have J184 : ∀ jp185' : (Int32 × mxH), jp185' = jp185 → mG l Z X 5 1005 101268 274 [none, none, none, none, none] [.int jp185'.1] jp185'.2 := by
              intro jp185' q211
              subst q211
              obtain ⟨v209, e210, hf⟩ := mx_bind hf
              cases hf
              exact mG_zr2 (pc := 274) C e210 E hX dL_areMerged_274 ⟨Nat.le_of_ble_eq_true rfl, Nat.le_of_ble_eq_true rfl⟩
            refine mG_if_eq (pc := 235) (tgt := 269) C dL_areMerged_235 (by decide) (fun q183 => ?_) (fun q183 => ?_)
            · rw [if_pos q183] at e186
              refine mG_ic (pc := 269) C dL_areMerged_269 kI1 ?_
              refine mG_goto (tgt := 274) (pc := 270) C dL_areMerged_270 (by decide) ?_
              exact mG_wd (by omega) (by omega) (mG_sub (mxLe_n (mxLe_n (mxLe_n (mxLe_n (mxLe_n mxLe_z))))) (J184 _ (Option.some.inj e186)))
            · rw [if_neg q183] at e186
              refine mG_aload_n (pc := 238) C dL_areMerged_238 rfl ?_
              obtain ⟨r198, e199, e186⟩ := mx_bind e186
              refine mG_getR (pc := 239) C dL_areMerged_239 fl_L_10 e199 ?_
              refine mG_iload (pc := 242) C dL_areMerged_242 rfl ?_
              obtain ⟨u200, e201, e186⟩ := mx_bind e186
              obtain ⟨o203, e202, e186⟩ := mx_bind e186
              refine mG_cV2 (pc := 244) (k' := 1005) (n' := 101268) (h' := o203.2) (v := some (.int o203.1)) 9 [.int o180.1] [] C hX dL_areMerged_244 lkV_L_204 rfl rfl e201 (tX9_quantile hl (mxOk_some e202)) rfl rfl rfl ⟨Nat.le_of_ble_eq_true rfl, Nat.le_of_ble_eq_true rfl⟩ rfl ?_
              refine mG_bp (pc := 247) C dL_areMerged_247 kB99 ?_
              refine mG_aload_n (pc := 249) C dL_areMerged_249 rfl ?_
              refine mG_aload_n (pc := 250) C dL_areMerged_250 rfl ?_
              obtain ⟨v204, e205, e186⟩ := mx_bind e186
              refine mG_arraylength (pc := 251) C dL_areMerged_251 e205 ?_
              refine mG_ic (pc := 252) C dL_areMerged_252 kI1 ?_
              refine mG_isub (pc := 253) C dL_areMerged_253 ?_
              refine mG_iload (pc := 254) C dL_areMerged_254 rfl ?_
              refine mG_imul (pc := 256) C dL_areMerged_256 ?_
              refine mG_sp (pc := 257) C dL_areMerged_257 kS1000 ?_
              refine mG_idiv (pc := 260) C dL_areMerged_260 (by decide) ?_
              obtain ⟨v206, e207, e186⟩ := mx_bind e186
              refine mG_iaload (pc := 261) C dL_areMerged_261 e207 ?_
              refine mG_bp (pc := 262) C dL_areMerged_262 kB100 ?_
              refine mG_idiv (pc := 264) C dL_areMerged_264 (by decide) ?_
              refine mG_isub (pc := 265) C dL_areMerged_265 ?_
              refine mG_icmp_ne (pc := 266) (tgt := 273) C dL_areMerged_266 (by decide) (fun q208 => ?_) (fun q208 => ?_)
              · rw [if_neg q208] at e186
                refine mG_ic (pc := 273) C dL_areMerged_273 kI0 ?_
                exact mG_sub (mxLe_n (mxLe_n (mxLe_n (mxLe_n (mxLe_n mxLe_z))))) (J184 _ (Option.some.inj e186))
              · rw [if_pos q208] at e186
                refine mG_ic (pc := 269) C dL_areMerged_269 kI1 ?_
                refine mG_goto (tgt := 274) (pc := 270) C dL_areMerged_270 (by decide) ?_
                exact mG_sub (mxLe_n (mxLe_n (mxLe_n (mxLe_n (mxLe_n mxLe_z))))) (J184 _ (Option.some.inj e186))
          · rw [if_neg q174] at hf
            refine mG_ic (pc := 219) C dL_areMerged_219 kI0 ?_
            obtain ⟨v212, e213, hf⟩ := mx_bind hf
            cases hf
            exact mG_zr2 (pc := 220) C e213 E hX dL_areMerged_220 ⟨Nat.le_of_ble_eq_true rfl, Nat.le_of_ble_eq_true rfl⟩
        · rw [if_neg q127] at hf
          refine mG_ic (pc := 148) C dL_areMerged_148 kI0 ?_
          obtain ⟨v214, e215, hf⟩ := mx_bind hf
          cases hf
          exact mG_zr2 (pc := 149) C e215 E hX dL_areMerged_149 ⟨Nat.le_of_ble_eq_true rfl, Nat.le_of_ble_eq_true rfl⟩
    refine mG_sub (ls' := [some (.ref p0), some (.ref o4.1), some (.int 0), none, none]) (mxLe_s (mxLe_s (mxLe_s (mxLe_n (mxLe_n mxLe_z))))) (mxLoop_indN (K := fun (N47 : Nat) (s44 : (Int32 × mxH)) => ∀ k45 n46 : Nat, k45 + 2 * N47 ≤ 72 + 2 * 101 → n46 + 12 * N47 ≤ 9090 + 12 * 101 → mG l Z X 5 k45 n46 23 [some (.ref p0), some (.ref o4.1), some (.int s44.1), none, none] [] s44.2) ?_ _ _ e53 _ _ (Nat.le_refl _) (Nat.le_refl _))
    intro N47 s44 o54 e55 hK50 hx51 k45 n46 hk56 hn57
    refine mG_iload_n (pc := 23) C dL_areMerged_23 rfl ?_
    refine mG_aload_n (pc := 24) C dL_areMerged_24 rfl ?_
    obtain ⟨v58, e59, e55⟩ := mx_bind e55
    refine mG_arraylength (pc := 25) C dL_areMerged_25 e59 ?_
    refine mG_icmp_ge (pc := 26) (tgt := 74) C dL_areMerged_26 (by decide) (fun q60 => ?_) (fun q60 => ?_)
    · rw [if_pos q60] at e55
      exact mG_wd (by omega) (by omega) (mG_sub (mxLe_s (mxLe_s (mxLe_n (mxLe_n (mxLe_n mxLe_z))))) (J49 _ (hx51 _ (Option.some.inj e55).symm)))
    · rw [if_neg q60] at e55
      refine mG_aload_n (pc := 29) C dL_areMerged_29 rfl ?_
      obtain ⟨r61, e62, e55⟩ := mx_bind e55
      refine mG_getR (pc := 30) C dL_areMerged_30 fl_L_10 e62 ?_
      refine mG_iload_n (pc := 33) C dL_areMerged_33 rfl ?_
      obtain ⟨u63, e64, e55⟩ := mx_bind e55
      obtain ⟨o66, e65, e55⟩ := mx_bind e55
      refine mG_cV2 (pc := 34) (k' := (k45 + 1)) (n' := (n46 + 6)) (h' := o66.2) (v := some (.int o66.1)) 9 [.int s44.1] [] C hX dL_areMerged_34 lkV_L_188 rfl rfl e64 (tX9_mergedThing hl (mxOk_some e65)) rfl (by show k45 + 1 = (k45 + 1); omega) (by show n46 + 6 = (n46 + 6); omega) ⟨by show (k45 + 1) ≤ 1005; omega, by show (n46 + 6) ≤ 101268; omega⟩ rfl ?_
      refine mG_aload_n (pc := 37) C dL_areMerged_37 rfl ?_
      refine mG_iload_n (pc := 38) C dL_areMerged_38 rfl ?_
      obtain ⟨v67, e68, e55⟩ := mx_bind e55
      refine mG_iaload (pc := 39) C dL_areMerged_39 e68 ?_
      refine mG_bp (pc := 40) C dL_areMerged_40 kB20 ?_
      refine mG_irem (pc := 42) C dL_areMerged_42 (by decide) ?_
      refine mG_icmp_ne (pc := 43) (tgt := 66) C dL_areMerged_43 (by decide) (fun q69 => ?_) (fun q69 => ?_)
      · rw [if_neg q69] at e55
        exact mG_wd (by omega) (by omega) (mG_sub (mxLe_n (mxLe_n (mxLe_n (mxLe_n (mxLe_n mxLe_z))))) (J48 _ (hx51 _ (Option.some.inj e55).symm)))
      · rw [if_pos q69] at e55
        refine mG_aload_n (pc := 46) C dL_areMerged_46 rfl ?_
        obtain ⟨r70, e71, e55⟩ := mx_bind e55
        refine mG_getR (pc := 47) C dL_areMerged_47 fl_L_10 e71 ?_
        refine mG_iload_n (pc := 50) C dL_areMerged_50 rfl ?_
        obtain ⟨u72, e73, e55⟩ := mx_bind e55
        obtain ⟨o75, e74, e55⟩ := mx_bind e55
        refine mG_cV2 (pc := 51) (k' := (k45 + 2)) (n' := (n46 + 12)) (h' := o75.2) (v := some (.int o75.1)) 9 [.int s44.1] [] C hX dL_areMerged_51 lkV_L_191 rfl rfl e73 (tX9_mergedRow hl (mxOk_some e74)) rfl (by show (k45 + 1) + 1 = (k45 + 2); omega) (by show (n46 + 6) + 6 = (n46 + 12); omega) ⟨by show (k45 + 2) ≤ 1005; omega, by show (n46 + 12) ≤ 101268; omega⟩ rfl ?_
        refine mG_aload_n (pc := 54) C dL_areMerged_54 rfl ?_
        refine mG_iload_n (pc := 55) C dL_areMerged_55 rfl ?_
        obtain ⟨v76, e77, e55⟩ := mx_bind e55
        refine mG_iaload (pc := 56) C dL_areMerged_56 e77 ?_
        refine mG_bp (pc := 57) C dL_areMerged_57 kB100 ?_
        refine mG_irem (pc := 59) C dL_areMerged_59 (by decide) ?_
        refine mG_bp (pc := 60) C dL_areMerged_60 kB20 ?_
        refine mG_idiv (pc := 62) C dL_areMerged_62 (by decide) ?_
        refine mG_icmp_eq (pc := 63) (tgt := 68) C dL_areMerged_63 (by decide) (fun q78 => ?_) (fun q78 => ?_)
        · rw [if_pos q78] at e55
          refine mG_ii (ls' := [some (.ref p0), some (.ref o4.1), some (.int (s44.1 + 1)), none, none]) (pc := 68) C dL_areMerged_68 rfl (kinc1 _) rfl rfl rfl ?_
          refine mG_goto (tgt := 23) (pc := 71) C dL_areMerged_71 (by decide) ?_
          exact mG_sub (mxLe_s (mxLe_s (mxLe_s (mxLe_n (mxLe_n mxLe_z))))) (hK50 _ (Option.some.inj e55).symm _ _ (by omega) (by omega))
        · rw [if_neg q78] at e55
          exact mG_wd (by omega) (by omega) (mG_sub (mxLe_n (mxLe_n (mxLe_n (mxLe_n (mxLe_n mxLe_z))))) (J48 _ (hx51 _ (Option.some.inj e55).symm)))
  · rw [if_neg q13] at hf
    refine mG_ic (pc := 19) C dL_areMerged_19 kI0 ?_
    obtain ⟨v217, e218, hf⟩ := mx_bind hf
    cases hf
    exact mG_zr2 (pc := 20) C e218 E hX dL_areMerged_20 ⟨Nat.le_of_ble_eq_true rfl, Nat.le_of_ble_eq_true rfl⟩
theorem dL_arePairs_0 : decode cL_arePairs 0 = .ok (.aload_n 0, 1) := by decide +kernel
theorem dL_arePairs_1 : decode cL_arePairs 1 = .ok (.getfield 25, 3) := by decide +kernel
theorem dL_arePairs_4 : decode cL_arePairs 4 = .ok (.iconst 5, 1) := by decide +kernel
theorem dL_arePairs_5 : decode cL_arePairs 5 = .ok (.invokevirtual 30, 3) := by decide +kernel
theorem dL_arePairs_8 : decode cL_arePairs 8 = .ok (.istore_n 1, 1) := by decide +kernel
theorem dL_arePairs_9 : decode cL_arePairs 9 = .ok (.aload_n 0, 1) := by decide +kernel
theorem dL_arePairs_10 : decode cL_arePairs 10 = .ok (.getfield 25, 3) := by decide +kernel
theorem dL_arePairs_13 : decode cL_arePairs 13 = .ok (.iconst 5, 1) := by decide +kernel
theorem dL_arePairs_14 : decode cL_arePairs 14 = .ok (.invokevirtual 30, 3) := by decide +kernel
theorem dL_arePairs_17 : decode cL_arePairs 17 = .ok (.istore_n 2, 1) := by decide +kernel
theorem dL_arePairs_18 : decode cL_arePairs 18 = .ok (.aload_n 0, 1) := by decide +kernel
theorem dL_arePairs_19 : decode cL_arePairs 19 = .ok (.iload_n 1, 1) := by decide +kernel
theorem dL_arePairs_20 : decode cL_arePairs 20 = .ok (.invokevirtual 126, 3) := by decide +kernel
theorem dL_arePairs_23 : decode cL_arePairs 23 = .ok (.aload_n 0, 1) := by decide +kernel
theorem dL_arePairs_24 : decode cL_arePairs 24 = .ok (.iload_n 2, 1) := by decide +kernel
theorem dL_arePairs_25 : decode cL_arePairs 25 = .ok (.invokevirtual 126, 3) := by decide +kernel
theorem dL_arePairs_28 : decode cL_arePairs 28 = .ok (.imul, 1) := by decide +kernel
theorem dL_arePairs_29 : decode cL_arePairs 29 = .ok (.istore_n 3, 1) := by decide +kernel
theorem dL_arePairs_30 : decode cL_arePairs 30 = .ok (.ldc 66, 2) := by decide +kernel
theorem dL_arePairs_32 : decode cL_arePairs 32 = .ok (.istore 4, 2) := by decide +kernel
theorem dL_arePairs_34 : decode cL_arePairs 34 = .ok (.iconst 0, 1) := by decide +kernel
theorem dL_arePairs_35 : decode cL_arePairs 35 = .ok (.istore 5, 2) := by decide +kernel
theorem dL_arePairs_37 : decode cL_arePairs 37 = .ok (.iload 5, 2) := by decide +kernel
theorem dL_arePairs_39 : decode cL_arePairs 39 = .ok (.iload_n 3, 1) := by decide +kernel
theorem dL_arePairs_40 : decode cL_arePairs 40 = .ok (.if_icmp .ge 113, 3) := by decide +kernel
theorem dL_arePairs_43 : decode cL_arePairs 43 = .ok (.iload 5, 2) := by decide +kernel
theorem dL_arePairs_45 : decode cL_arePairs 45 = .ok (.bipush 12, 2) := by decide +kernel
theorem dL_arePairs_47 : decode cL_arePairs 47 = .ok (.if_icmp .ge 106, 3) := by decide +kernel
theorem dL_arePairs_50 : decode cL_arePairs 50 = .ok (.aload_n 0, 1) := by decide +kernel
theorem dL_arePairs_51 : decode cL_arePairs 51 = .ok (.getfield 10, 3) := by decide +kernel
theorem dL_arePairs_54 : decode cL_arePairs 54 = .ok (.iload_n 1, 1) := by decide +kernel
theorem dL_arePairs_55 : decode cL_arePairs 55 = .ok (.iload_n 2, 1) := by decide +kernel
theorem dL_arePairs_56 : decode cL_arePairs 56 = .ok (.iload 5, 2) := by decide +kernel
theorem dL_arePairs_58 : decode cL_arePairs 58 = .ok (.invokevirtual 207, 3) := by decide +kernel
theorem dL_arePairs_61 : decode cL_arePairs 61 = .ok (.istore 6, 2) := by decide +kernel
theorem dL_arePairs_63 : decode cL_arePairs 63 = .ok (.aload_n 0, 1) := by decide +kernel
theorem dL_arePairs_64 : decode cL_arePairs 64 = .ok (.getfield 10, 3) := by decide +kernel
theorem dL_arePairs_67 : decode cL_arePairs 67 = .ok (.iload_n 1, 1) := by decide +kernel
theorem dL_arePairs_68 : decode cL_arePairs 68 = .ok (.iload_n 2, 1) := by decide +kernel
theorem dL_arePairs_69 : decode cL_arePairs 69 = .ok (.iload 5, 2) := by decide +kernel
theorem dL_arePairs_71 : decode cL_arePairs 71 = .ok (.iconst 0, 1) := by decide +kernel
theorem dL_arePairs_72 : decode cL_arePairs 72 = .ok (.invokevirtual 210, 3) := by decide +kernel
theorem dL_arePairs_75 : decode cL_arePairs 75 = .ok (.istore 7, 2) := by decide +kernel
theorem dL_arePairs_77 : decode cL_arePairs 77 = .ok (.aload_n 0, 1) := by decide +kernel
theorem dL_arePairs_78 : decode cL_arePairs 78 = .ok (.getfield 10, 3) := by decide +kernel
theorem dL_arePairs_81 : decode cL_arePairs 81 = .ok (.iload_n 1, 1) := by decide +kernel
theorem dL_arePairs_82 : decode cL_arePairs 82 = .ok (.iload_n 2, 1) := by decide +kernel
theorem dL_arePairs_83 : decode cL_arePairs 83 = .ok (.iload 5, 2) := by decide +kernel
theorem dL_arePairs_85 : decode cL_arePairs 85 = .ok (.iconst 1, 1) := by decide +kernel
theorem dL_arePairs_86 : decode cL_arePairs 86 = .ok (.invokevirtual 210, 3) := by decide +kernel
theorem dL_arePairs_89 : decode cL_arePairs 89 = .ok (.istore 8, 2) := by decide +kernel
theorem dL_arePairs_91 : decode cL_arePairs 91 = .ok (.iload 6, 2) := by decide +kernel
theorem dL_arePairs_93 : decode cL_arePairs 93 = .ok (.sipush 400, 3) := by decide +kernel
theorem dL_arePairs_96 : decode cL_arePairs 96 = .ok (.imul, 1) := by decide +kernel
theorem dL_arePairs_97 : decode cL_arePairs 97 = .ok (.iload 7, 2) := by decide +kernel
theorem dL_arePairs_99 : decode cL_arePairs 99 = .ok (.bipush 20, 2) := by decide +kernel
theorem dL_arePairs_101 : decode cL_arePairs 101 = .ok (.imul, 1) := by decide +kernel
theorem dL_arePairs_102 : decode cL_arePairs 102 = .ok (.isub, 1) := by decide +kernel
theorem dL_arePairs_103 : decode cL_arePairs 103 = .ok (.iload 8, 2) := by decide +kernel
theorem dL_arePairs_105 : decode cL_arePairs 105 = .ok (.isub, 1) := by decide +kernel
theorem dL_arePairs_106 : decode cL_arePairs 106 = .ok (.istore 9, 2) := by decide +kernel
theorem dL_arePairs_108 : decode cL_arePairs 108 = .ok (.aload_n 0, 1) := by decide +kernel
theorem dL_arePairs_109 : decode cL_arePairs 109 = .ok (.getfield 10, 3) := by decide +kernel
theorem dL_arePairs_112 : decode cL_arePairs 112 = .ok (.iload_n 1, 1) := by decide +kernel
theorem dL_arePairs_113 : decode cL_arePairs 113 = .ok (.iload 7, 2) := by decide +kernel
theorem dL_arePairs_115 : decode cL_arePairs 115 = .ok (.invokevirtual 120, 3) := by decide +kernel
theorem dL_arePairs_118 : decode cL_arePairs 118 = .ok (.aload_n 0, 1) := by decide +kernel
theorem dL_arePairs_119 : decode cL_arePairs 119 = .ok (.getfield 10, 3) := by decide +kernel
theorem dL_arePairs_122 : decode cL_arePairs 122 = .ok (.iload_n 2, 1) := by decide +kernel
theorem dL_arePairs_123 : decode cL_arePairs 123 = .ok (.iload 8, 2) := by decide +kernel
theorem dL_arePairs_125 : decode cL_arePairs 125 = .ok (.invokevirtual 120, 3) := by decide +kernel
theorem dL_arePairs_128 : decode cL_arePairs 128 = .ok (.iadd, 1) := by decide +kernel
theorem dL_arePairs_129 : decode cL_arePairs 129 = .ok (.iload 6, 2) := by decide +kernel
theorem dL_arePairs_131 : decode cL_arePairs 131 = .ok (.if_icmp .ne 10, 3) := by decide +kernel
theorem dL_arePairs_134 : decode cL_arePairs 134 = .ok (.iload 9, 2) := by decide +kernel
theorem dL_arePairs_136 : decode cL_arePairs 136 = .ok (.iload 4, 2) := by decide +kernel
theorem dL_arePairs_138 : decode cL_arePairs 138 = .ok (.if_icmp .lt 5, 3) := by decide +kernel
theorem dL_arePairs_141 : decode cL_arePairs 141 = .ok (.iconst 0, 1) := by decide +kernel
theorem dL_arePairs_142 : decode cL_arePairs 142 = .ok (.ireturn, 1) := by decide +kernel
theorem dL_arePairs_143 : decode cL_arePairs 143 = .ok (.iload 9, 2) := by decide +kernel
theorem dL_arePairs_145 : decode cL_arePairs 145 = .ok (.istore 4, 2) := by decide +kernel
theorem dL_arePairs_147 : decode cL_arePairs 147 = .ok (.iinc 5 1, 3) := by decide +kernel
theorem dL_arePairs_150 : decode cL_arePairs 150 = .ok (.goto (-113), 3) := by decide +kernel
theorem dL_arePairs_153 : decode cL_arePairs 153 = .ok (.iload_n 3, 1) := by decide +kernel
theorem dL_arePairs_154 : decode cL_arePairs 154 = .ok (.ifCond .ne 7, 3) := by decide +kernel
theorem dL_arePairs_157 : decode cL_arePairs 157 = .ok (.iconst 0, 1) := by decide +kernel
theorem dL_arePairs_158 : decode cL_arePairs 158 = .ok (.goto 11, 3) := by decide +kernel
theorem dL_arePairs_161 : decode cL_arePairs 161 = .ok (.aload_n 0, 1) := by decide +kernel
theorem dL_arePairs_162 : decode cL_arePairs 162 = .ok (.getfield 25, 3) := by decide +kernel
theorem dL_arePairs_165 : decode cL_arePairs 165 = .ok (.iload_n 3, 1) := by decide +kernel
theorem dL_arePairs_166 : decode cL_arePairs 166 = .ok (.invokevirtual 30, 3) := by decide +kernel
theorem dL_arePairs_169 : decode cL_arePairs 169 = .ok (.istore 5, 2) := by decide +kernel
theorem dL_arePairs_171 : decode cL_arePairs 171 = .ok (.iconst 0, 1) := by decide +kernel
theorem dL_arePairs_172 : decode cL_arePairs 172 = .ok (.istore 6, 2) := by decide +kernel
theorem dL_arePairs_174 : decode cL_arePairs 174 = .ok (.iconst 0, 1) := by decide +kernel
theorem dL_arePairs_175 : decode cL_arePairs 175 = .ok (.istore 7, 2) := by decide +kernel
theorem dL_arePairs_177 : decode cL_arePairs 177 = .ok (.iconst 0, 1) := by decide +kernel
theorem dL_arePairs_178 : decode cL_arePairs 178 = .ok (.istore 8, 2) := by decide +kernel
theorem dL_arePairs_180 : decode cL_arePairs 180 = .ok (.iload 8, 2) := by decide +kernel
theorem dL_arePairs_182 : decode cL_arePairs 182 = .ok (.bipush 20, 2) := by decide +kernel
theorem dL_arePairs_184 : decode cL_arePairs 184 = .ok (.if_icmp .ge 129, 3) := by decide +kernel
theorem dL_arePairs_187 : decode cL_arePairs 187 = .ok (.iload_n 3, 1) := by decide +kernel
theorem dL_arePairs_188 : decode cL_arePairs 188 = .ok (.ifCond .le 125, 3) := by decide +kernel
theorem dL_arePairs_191 : decode cL_arePairs 191 = .ok (.iconst 0, 1) := by decide +kernel
theorem dL_arePairs_192 : decode cL_arePairs 192 = .ok (.istore 9, 2) := by decide +kernel
theorem dL_arePairs_194 : decode cL_arePairs 194 = .ok (.iload 9, 2) := by decide +kernel
theorem dL_arePairs_196 : decode cL_arePairs 196 = .ok (.bipush 20, 2) := by decide +kernel
theorem dL_arePairs_198 : decode cL_arePairs 198 = .ok (.if_icmp .ge 109, 3) := by decide +kernel
theorem dL_arePairs_201 : decode cL_arePairs 201 = .ok (.aload_n 0, 1) := by decide +kernel
theorem dL_arePairs_202 : decode cL_arePairs 202 = .ok (.getfield 18, 3) := by decide +kernel
theorem dL_arePairs_205 : decode cL_arePairs 205 = .ok (.iload_n 1, 1) := by decide +kernel
theorem dL_arePairs_206 : decode cL_arePairs 206 = .ok (.aaload, 1) := by decide +kernel
theorem dL_arePairs_207 : decode cL_arePairs 207 = .ok (.iload 8, 2) := by decide +kernel
theorem dL_arePairs_209 : decode cL_arePairs 209 = .ok (.iaload, 1) := by decide +kernel
theorem dL_arePairs_210 : decode cL_arePairs 210 = .ok (.ifCond .lt 91, 3) := by decide +kernel
theorem dL_arePairs_213 : decode cL_arePairs 213 = .ok (.aload_n 0, 1) := by decide +kernel
theorem dL_arePairs_214 : decode cL_arePairs 214 = .ok (.getfield 18, 3) := by decide +kernel
theorem dL_arePairs_217 : decode cL_arePairs 217 = .ok (.iload_n 2, 1) := by decide +kernel
theorem dL_arePairs_218 : decode cL_arePairs 218 = .ok (.aaload, 1) := by decide +kernel
theorem dL_arePairs_219 : decode cL_arePairs 219 = .ok (.iload 9, 2) := by decide +kernel
theorem dL_arePairs_221 : decode cL_arePairs 221 = .ok (.iaload, 1) := by decide +kernel
theorem dL_arePairs_222 : decode cL_arePairs 222 = .ok (.ifCond .ge 6, 3) := by decide +kernel
theorem dL_arePairs_225 : decode cL_arePairs 225 = .ok (.goto 76, 3) := by decide +kernel
theorem dL_arePairs_228 : decode cL_arePairs 228 = .ok (.aload_n 0, 1) := by decide +kernel
theorem dL_arePairs_229 : decode cL_arePairs 229 = .ok (.getfield 18, 3) := by decide +kernel
theorem dL_arePairs_232 : decode cL_arePairs 232 = .ok (.iload_n 1, 1) := by decide +kernel
theorem dL_arePairs_233 : decode cL_arePairs 233 = .ok (.aaload, 1) := by decide +kernel
theorem dL_arePairs_234 : decode cL_arePairs 234 = .ok (.iload 8, 2) := by decide +kernel
theorem dL_arePairs_236 : decode cL_arePairs 236 = .ok (.iaload, 1) := by decide +kernel
theorem dL_arePairs_237 : decode cL_arePairs 237 = .ok (.aload_n 0, 1) := by decide +kernel
theorem dL_arePairs_238 : decode cL_arePairs 238 = .ok (.getfield 18, 3) := by decide +kernel
theorem dL_arePairs_241 : decode cL_arePairs 241 = .ok (.iload_n 2, 1) := by decide +kernel
theorem dL_arePairs_242 : decode cL_arePairs 242 = .ok (.aaload, 1) := by decide +kernel
theorem dL_arePairs_243 : decode cL_arePairs 243 = .ok (.iload 9, 2) := by decide +kernel
theorem dL_arePairs_245 : decode cL_arePairs 245 = .ok (.iaload, 1) := by decide +kernel
theorem dL_arePairs_246 : decode cL_arePairs 246 = .ok (.iadd, 1) := by decide +kernel
theorem dL_arePairs_247 : decode cL_arePairs 247 = .ok (.istore 10, 2) := by decide +kernel
theorem dL_arePairs_249 : decode cL_arePairs 249 = .ok (.iload 6, 2) := by decide +kernel
theorem dL_arePairs_251 : decode cL_arePairs 251 = .ok (.iload 10, 2) := by decide +kernel
theorem dL_arePairs_253 : decode cL_arePairs 253 = .ok (.aload_n 0, 1) := by decide +kernel
theorem dL_arePairs_254 : decode cL_arePairs 254 = .ok (.getfield 10, 3) := by decide +kernel
theorem dL_arePairs_257 : decode cL_arePairs 257 = .ok (.iload_n 1, 1) := by decide +kernel
theorem dL_arePairs_258 : decode cL_arePairs 258 = .ok (.iload_n 2, 1) := by decide +kernel
theorem dL_arePairs_259 : decode cL_arePairs 259 = .ok (.iload 5, 2) := by decide +kernel
theorem dL_arePairs_261 : decode cL_arePairs 261 = .ok (.invokevirtual 207, 3) := by decide +kernel
theorem dL_arePairs_264 : decode cL_arePairs 264 = .ok (.if_icmp .le 7, 3) := by decide +kernel
theorem dL_arePairs_267 : decode cL_arePairs 267 = .ok (.iconst 1, 1) := by decide +kernel
theorem dL_arePairs_268 : decode cL_arePairs 268 = .ok (.goto 4, 3) := by decide +kernel
theorem dL_arePairs_271 : decode cL_arePairs 271 = .ok (.iconst 0, 1) := by decide +kernel
theorem dL_arePairs_272 : decode cL_arePairs 272 = .ok (.iadd, 1) := by decide +kernel
theorem dL_arePairs_273 : decode cL_arePairs 273 = .ok (.istore 6, 2) := by decide +kernel
theorem dL_arePairs_275 : decode cL_arePairs 275 = .ok (.iload 7, 2) := by decide +kernel
theorem dL_arePairs_277 : decode cL_arePairs 277 = .ok (.iload 10, 2) := by decide +kernel
theorem dL_arePairs_279 : decode cL_arePairs 279 = .ok (.aload_n 0, 1) := by decide +kernel
theorem dL_arePairs_280 : decode cL_arePairs 280 = .ok (.getfield 10, 3) := by decide +kernel
theorem dL_arePairs_283 : decode cL_arePairs 283 = .ok (.iload_n 1, 1) := by decide +kernel
theorem dL_arePairs_284 : decode cL_arePairs 284 = .ok (.iload_n 2, 1) := by decide +kernel
theorem dL_arePairs_285 : decode cL_arePairs 285 = .ok (.iload 5, 2) := by decide +kernel
theorem dL_arePairs_287 : decode cL_arePairs 287 = .ok (.invokevirtual 207, 3) := by decide +kernel
theorem dL_arePairs_290 : decode cL_arePairs 290 = .ok (.if_icmp .ne 7, 3) := by decide +kernel
theorem dL_arePairs_293 : decode cL_arePairs 293 = .ok (.iconst 1, 1) := by decide +kernel
theorem dL_arePairs_294 : decode cL_arePairs 294 = .ok (.goto 4, 3) := by decide +kernel
theorem dL_arePairs_297 : decode cL_arePairs 297 = .ok (.iconst 0, 1) := by decide +kernel
theorem dL_arePairs_298 : decode cL_arePairs 298 = .ok (.iadd, 1) := by decide +kernel
theorem dL_arePairs_299 : decode cL_arePairs 299 = .ok (.istore 7, 2) := by decide +kernel
theorem dL_arePairs_301 : decode cL_arePairs 301 = .ok (.iinc 9 1, 3) := by decide +kernel
theorem dL_arePairs_304 : decode cL_arePairs 304 = .ok (.goto (-110), 3) := by decide +kernel
theorem dL_arePairs_307 : decode cL_arePairs 307 = .ok (.iinc 8 1, 3) := by decide +kernel
theorem dL_arePairs_310 : decode cL_arePairs 310 = .ok (.goto (-130), 3) := by decide +kernel
theorem dL_arePairs_313 : decode cL_arePairs 313 = .ok (.iload_n 3, 1) := by decide +kernel
theorem dL_arePairs_314 : decode cL_arePairs 314 = .ok (.ifCond .le 22, 3) := by decide +kernel
theorem dL_arePairs_317 : decode cL_arePairs 317 = .ok (.iload 5, 2) := by decide +kernel
theorem dL_arePairs_319 : decode cL_arePairs 319 = .ok (.iload 6, 2) := by decide +kernel
theorem dL_arePairs_321 : decode cL_arePairs 321 = .ok (.if_icmp .lt 13, 3) := by decide +kernel
theorem dL_arePairs_324 : decode cL_arePairs 324 = .ok (.iload 5, 2) := by decide +kernel
theorem dL_arePairs_326 : decode cL_arePairs 326 = .ok (.iload 6, 2) := by decide +kernel
theorem dL_arePairs_328 : decode cL_arePairs 328 = .ok (.iload 7, 2) := by decide +kernel
theorem dL_arePairs_330 : decode cL_arePairs 330 = .ok (.iadd, 1) := by decide +kernel
theorem dL_arePairs_331 : decode cL_arePairs 331 = .ok (.if_icmp .lt 5, 3) := by decide +kernel
theorem dL_arePairs_334 : decode cL_arePairs 334 = .ok (.iconst 0, 1) := by decide +kernel
theorem dL_arePairs_335 : decode cL_arePairs 335 = .ok (.ireturn, 1) := by decide +kernel
theorem dL_arePairs_336 : decode cL_arePairs 336 = .ok (.iconst 0, 1) := by decide +kernel
theorem dL_arePairs_337 : decode cL_arePairs 337 = .ok (.istore 8, 2) := by decide +kernel
theorem dL_arePairs_339 : decode cL_arePairs 339 = .ok (.iconst 0, 1) := by decide +kernel
theorem dL_arePairs_340 : decode cL_arePairs 340 = .ok (.istore 9, 2) := by decide +kernel
theorem dL_arePairs_342 : decode cL_arePairs 342 = .ok (.iload 9, 2) := by decide +kernel
theorem dL_arePairs_344 : decode cL_arePairs 344 = .ok (.bipush 20, 2) := by decide +kernel
theorem dL_arePairs_346 : decode cL_arePairs 346 = .ok (.if_icmp .ge 57, 3) := by decide +kernel
theorem dL_arePairs_349 : decode cL_arePairs 349 = .ok (.aload_n 0, 1) := by decide +kernel
theorem dL_arePairs_350 : decode cL_arePairs 350 = .ok (.getfield 18, 3) := by decide +kernel
theorem dL_arePairs_353 : decode cL_arePairs 353 = .ok (.iload_n 1, 1) := by decide +kernel
theorem dL_arePairs_354 : decode cL_arePairs 354 = .ok (.aaload, 1) := by decide +kernel
theorem dL_arePairs_355 : decode cL_arePairs 355 = .ok (.iload 9, 2) := by decide +kernel
theorem dL_arePairs_357 : decode cL_arePairs 357 = .ok (.iaload, 1) := by decide +kernel
theorem dL_arePairs_358 : decode cL_arePairs 358 = .ok (.ifCond .lt 39, 3) := by decide +kernel
theorem dL_arePairs_361 : decode cL_arePairs 361 = .ok (.aload_n 0, 1) := by decide +kernel
theorem dL_arePairs_362 : decode cL_arePairs 362 = .ok (.getfield 18, 3) := by decide +kernel
theorem dL_arePairs_365 : decode cL_arePairs 365 = .ok (.iload_n 2, 1) := by decide +kernel
theorem dL_arePairs_366 : decode cL_arePairs 366 = .ok (.aaload, 1) := by decide +kernel
theorem dL_arePairs_367 : decode cL_arePairs 367 = .ok (.iload 9, 2) := by decide +kernel
theorem dL_arePairs_369 : decode cL_arePairs 369 = .ok (.iaload, 1) := by decide +kernel
theorem dL_arePairs_370 : decode cL_arePairs 370 = .ok (.ifCond .ge 6, 3) := by decide +kernel
theorem dL_arePairs_373 : decode cL_arePairs 373 = .ok (.goto 24, 3) := by decide +kernel
theorem dL_arePairs_376 : decode cL_arePairs 376 = .ok (.aload_n 0, 1) := by decide +kernel
theorem dL_arePairs_377 : decode cL_arePairs 377 = .ok (.getfield 10, 3) := by decide +kernel
theorem dL_arePairs_380 : decode cL_arePairs 380 = .ok (.iload_n 1, 1) := by decide +kernel
theorem dL_arePairs_381 : decode cL_arePairs 381 = .ok (.iload_n 2, 1) := by decide +kernel
theorem dL_arePairs_382 : decode cL_arePairs 382 = .ok (.iload 8, 2) := by decide +kernel
theorem dL_arePairs_384 : decode cL_arePairs 384 = .ok (.invokevirtual 214, 3) := by decide +kernel
theorem dL_arePairs_387 : decode cL_arePairs 387 = .ok (.iload 9, 2) := by decide +kernel
theorem dL_arePairs_389 : decode cL_arePairs 389 = .ok (.if_icmp .eq 5, 3) := by decide +kernel
theorem dL_arePairs_392 : decode cL_arePairs 392 = .ok (.iconst 0, 1) := by decide +kernel
theorem dL_arePairs_393 : decode cL_arePairs 393 = .ok (.ireturn, 1) := by decide +kernel
theorem dL_arePairs_394 : decode cL_arePairs 394 = .ok (.iinc 8 1, 3) := by decide +kernel
theorem dL_arePairs_397 : decode cL_arePairs 397 = .ok (.iinc 9 1, 3) := by decide +kernel
theorem dL_arePairs_400 : decode cL_arePairs 400 = .ok (.goto (-58), 3) := by decide +kernel
theorem dL_arePairs_403 : decode cL_arePairs 403 = .ok (.aload_n 0, 1) := by decide +kernel
theorem dL_arePairs_404 : decode cL_arePairs 404 = .ok (.getfield 10, 3) := by decide +kernel
theorem dL_arePairs_407 : decode cL_arePairs 407 = .ok (.iload_n 1, 1) := by decide +kernel
theorem dL_arePairs_408 : decode cL_arePairs 408 = .ok (.iload_n 2, 1) := by decide +kernel
theorem dL_arePairs_409 : decode cL_arePairs 409 = .ok (.invokevirtual 217, 3) := by decide +kernel
theorem dL_arePairs_412 : decode cL_arePairs 412 = .ok (.iload 8, 2) := by decide +kernel
theorem dL_arePairs_414 : decode cL_arePairs 414 = .ok (.if_icmp .ne 7, 3) := by decide +kernel
theorem dL_arePairs_417 : decode cL_arePairs 417 = .ok (.iconst 1, 1) := by decide +kernel
theorem dL_arePairs_418 : decode cL_arePairs 418 = .ok (.goto 4, 3) := by decide +kernel
theorem dL_arePairs_421 : decode cL_arePairs 421 = .ok (.iconst 0, 1) := by decide +kernel
theorem dL_arePairs_422 : decode cL_arePairs 422 = .ok (.ireturn, 1) := by decide +kernel
def fL_arePairs (p0 : Nat) (h : mxH) : Option (Int32 × mxH) := Option.bind (gR h p0 11 1) (fun r1 => Option.bind (isO h r1 10) (fun u3 => Option.bind (fX10_next r1 5 h) (fun o6 => Option.bind (gR o6.2 p0 11 1) (fun r7 => Option.bind (isO o6.2 r7 10) (fun u9 => Option.bind (fX10_next r7 5 o6.2) (fun o12 => Option.bind (isO o12.2 p0 11) (fun u13 => Option.bind (fL_items p0 o6.1 o12.2) (fun o16 => Option.bind (isO o12.2 p0 11) (fun u17 => Option.bind (fL_items p0 o12.1 o12.2) (fun o20 => Option.bind (mxLoop (ρ := (mxH ⊕ mxH)) (fun s64 : (Int32 × Int32 × mxH) => (if (o16 * o20) ≤ s64.2.1 then some (Sum.inr (Sum.inr s64.2.2)) else (if 12 ≤ s64.2.1 then some (Sum.inr (Sum.inr s64.2.2)) else Option.bind (gR s64.2.2 p0 11 0) (fun r80 => Option.bind (isO s64.2.2 r80 9) (fun u82 => Option.bind (mxOk (fX9_pairSum r80 o6.1 o12.1 s64.2.1 s64.2.2)) (fun o85 => Option.bind (gR o85.2 p0 11 0) (fun r86 => Option.bind (isO o85.2 r86 9) (fun u88 => Option.bind (mxOk (fX9_pairPlace r86 o6.1 o12.1 s64.2.1 0 o85.2)) (fun o91 => Option.bind (gR o91.2 p0 11 0) (fun r92 => Option.bind (isO o91.2 r92 9) (fun u94 => Option.bind (mxOk (fX9_pairPlace r92 o6.1 o12.1 s64.2.1 1 o91.2)) (fun o97 => Option.bind (gR o97.2 p0 11 0) (fun r98 => Option.bind (isO o97.2 r98 9) (fun u100 => Option.bind (mxOk (fX9_markAt r98 o6.1 o91.1 o97.2)) (fun o103 => Option.bind (gR o103.2 p0 11 0) (fun r104 => Option.bind (isO o103.2 r104 9) (fun u106 => Option.bind (mxOk (fX9_markAt r104 o12.1 o97.1 o103.2)) (fun o109 => (if (o103.1 + o109.1) = o85.1 then (if (((o85.1 * 400) - (o91.1 * 20)) - o97.1) < s64.1 then some (Sum.inl (((o85.1 * 400) - (o91.1 * 20)) - o97.1, s64.2.1 + 1, o109.2)) else some (Sum.inr (Sum.inl o109.2))) else some (Sum.inr (Sum.inl o109.2))))))))))))))))))))) 13 (2147483647, 0, o12.2)) (Sum.elim (fun r112 : mxH => Option.bind (mxZ1 0) (fun v113 => some (v113, r112))) (fun r116 : mxH => Option.bind (α := (Int32 × mxH)) (if (o16 * o20) = 0 then some (0, r116) else Option.bind (gR r116 p0 11 1) (fun r127 => Option.bind (isO r116 r127 10) (fun u129 => Option.bind (fX10_next r127 (o16 * o20) r116) (fun o132 => some (o132.1, o132.2))))) (fun jp119' : (Int32 × mxH) => Option.bind (mxLoop (ρ := (Int32 × Int32 × mxH)) (fun s354 : (Int32 × Int32 × Int32 × mxH) => (if 20 ≤ s354.2.2.1 then some (Sum.inr (s354.1, s354.2.1, s354.2.2.2)) else (if (o16 * o20) ≤ 0 then some (Sum.inr (s354.1, s354.2.1, s354.2.2.2)) else Option.bind (mxLoop (ρ := (Int32 × Int32 × mxH)) (fun s471 : (Int32 × Int32 × Int32 × mxH) => (if 20 ≤ s471.2.2.1 then some (Sum.inr (s471.1, s471.2.1, s471.2.2.2)) else Option.bind (gR s471.2.2.2 p0 11 2) (fun r485 => Option.bind (ldR s471.2.2.2 r485 o6.1) (fun r487 => Option.bind (ldI s471.2.2.2 r487 s354.2.2.1) (fun v489 => Option.bind (α := (Int32 × Int32 × mxH)) (if v489 < 0 then some (s471.1, s471.2.1, s471.2.2.2) else Option.bind (gR s471.2.2.2 p0 11 2) (fun r536 => Option.bind (ldR s471.2.2.2 r536 o12.1) (fun r538 => Option.bind (ldI s471.2.2.2 r538 s471.2.2.1) (fun v540 => (if 0 ≤ v540 then Option.bind (gR s471.2.2.2 p0 11 2) (fun r543 => Option.bind (ldR s471.2.2.2 r543 o6.1) (fun r545 => Option.bind (ldI s471.2.2.2 r545 s354.2.2.1) (fun v547 => Option.bind (gR s471.2.2.2 p0 11 2) (fun r549 => Option.bind (ldR s471.2.2.2 r549 o12.1) (fun r551 => Option.bind (ldI s471.2.2.2 r551 s471.2.2.1) (fun v553 => Option.bind (gR s471.2.2.2 p0 11 0) (fun r555 => Option.bind (isO s471.2.2.2 r555 9) (fun u557 => Option.bind (mxOk (fX9_pairSum r555 o6.1 o12.1 jp119'.1 s471.2.2.2)) (fun o560 => Option.bind (α := Int32) (if (v547 + v553) ≤ o560.1 then some 0 else some 1) (fun jp563' : Int32 => Option.bind (gR o560.2 p0 11 0) (fun r565 => Option.bind (isO o560.2 r565 9) (fun u567 => Option.bind (mxOk (fX9_pairSum r565 o6.1 o12.1 jp119'.1 o560.2)) (fun o570 => Option.bind (α := Int32) (if (v547 + v553) = o570.1 then some 1 else some 0) (fun jp573' : Int32 => some (s471.1 + jp563', s471.2.1 + jp573', o570.2))))))))))))))) else some (s471.1, s471.2.1, s471.2.2.2)))))) (fun jp493' : (Int32 × Int32 × mxH) => some (Sum.inl (jp493'.1, jp493'.2.1, s471.2.2.1 + 1, jp493'.2.2)))))))) 21 (s354.1, s354.2.1, 0, s354.2.2.2)) (fun r578 : (Int32 × Int32 × mxH) => some (Sum.inl (r578.1, r578.2.1, s354.2.2.1 + 1, r578.2.2)))))) 21 (0, 0, 0, jp119'.2)) (fun r580 : (Int32 × Int32 × mxH) => (if (o16 * o20) ≤ 0 then Option.bind (mxLoop (ρ := (mxH ⊕ (Int32 × mxH))) (fun s613 : (Int32 × Int32 × mxH) => (if 20 ≤ s613.2.1 then some (Sum.inr (Sum.inr (s613.1, s613.2.2))) else Option.bind (gR s613.2.2 p0 11 2) (fun r628 => Option.bind (ldR s613.2.2 r628 o6.1) (fun r630 => Option.bind (ldI s613.2.2 r630 s613.2.1) (fun v632 => (if v632 < 0 then some (Sum.inl (s613.1, s613.2.1 + 1, s613.2.2)) else Option.bind (gR s613.2.2 p0 11 2) (fun r635 => Option.bind (ldR s613.2.2 r635 o12.1) (fun r637 => Option.bind (ldI s613.2.2 r637 s613.2.1) (fun v639 => (if 0 ≤ v639 then Option.bind (gR s613.2.2 p0 11 0) (fun r642 => Option.bind (isO s613.2.2 r642 9) (fun u644 => Option.bind (mxOk (fX9_commonAt r642 o6.1 o12.1 s613.1 s613.2.2)) (fun o647 => (if o647.1 = s613.2.1 then some (Sum.inl (s613.1 + 1, s613.2.1 + 1, o647.2)) else some (Sum.inr (Sum.inl o647.2)))))) else some (Sum.inl (s613.1, s613.2.1 + 1, s613.2.2)))))))))))) 21 (0, 0, r580.2.2)) (Sum.elim (fun r649 : mxH => Option.bind (mxZ1 0) (fun v650 => some (v650, r649))) (fun r653 : (Int32 × mxH) => Option.bind (gR r653.2 p0 11 0) (fun r654 => Option.bind (isO r653.2 r654 9) (fun u656 => Option.bind (mxOk (fX9_common r654 o6.1 o12.1 r653.2)) (fun o659 => Option.bind (α := Int32) (if o659.1 = r653.1 then some 1 else some 0) (fun jp662' : Int32 => Option.bind (mxZ1 jp662') (fun v664 => some (v664, o659.2)))))))) else (if jp119'.1 < r580.1 then Option.bind (mxZ1 0) (fun v669 => some (v669, r580.2.2)) else (if jp119'.1 < (r580.1 + r580.2.1) then Option.bind (mxLoop (ρ := (mxH ⊕ (Int32 × mxH))) (fun s703 : (Int32 × Int32 × mxH) => (if 20 ≤ s703.2.1 then some (Sum.inr (Sum.inr (s703.1, s703.2.2))) else Option.bind (gR s703.2.2 p0 11 2) (fun r718 => Option.bind (ldR s703.2.2 r718 o6.1) (fun r720 => Option.bind (ldI s703.2.2 r720 s703.2.1) (fun v722 => (if v722 < 0 then some (Sum.inl (s703.1, s703.2.1 + 1, s703.2.2)) else Option.bind (gR s703.2.2 p0 11 2) (fun r725 => Option.bind (ldR s703.2.2 r725 o12.1) (fun r727 => Option.bind (ldI s703.2.2 r727 s703.2.1) (fun v729 => (if 0 ≤ v729 then Option.bind (gR s703.2.2 p0 11 0) (fun r732 => Option.bind (isO s703.2.2 r732 9) (fun u734 => Option.bind (mxOk (fX9_commonAt r732 o6.1 o12.1 s703.1 s703.2.2)) (fun o737 => (if o737.1 = s703.2.1 then some (Sum.inl (s703.1 + 1, s703.2.1 + 1, o737.2)) else some (Sum.inr (Sum.inl o737.2)))))) else some (Sum.inl (s703.1, s703.2.1 + 1, s703.2.2)))))))))))) 21 (0, 0, r580.2.2)) (Sum.elim (fun r739 : mxH => Option.bind (mxZ1 0) (fun v740 => some (v740, r739))) (fun r743 : (Int32 × mxH) => Option.bind (gR r743.2 p0 11 0) (fun r744 => Option.bind (isO r743.2 r744 9) (fun u746 => Option.bind (mxOk (fX9_common r744 o6.1 o12.1 r743.2)) (fun o749 => Option.bind (α := Int32) (if o749.1 = r743.1 then some 1 else some 0) (fun jp752' : Int32 => Option.bind (mxZ1 jp752') (fun v754 => some (v754, o749.2)))))))) else Option.bind (mxZ1 0) (fun v758 => some (v758, r580.2.2)))))))))))))))))))
abbrev rmL_arePairs : Room := { frames := 9, cells := 2880, slots := 17280, locals := 169 }
set_option maxRecDepth 20000 in
set_option maxHeartbeats 1000000 in
theorem tL_arePairs {l : Launch} {Z : mxZ} (hl : l.stackTraces = false) {p0 : Nat} {h : mxH} {out : (Int32 × mxH)} (hf : fL_arePairs p0 h = some out) : mxMet l Z yL_arePairs cL_arePairs 11 (some .boolean) rmL_arePairs [.ref p0] h (.inl (some (.int out.1))) out.2 := by
  refine mxMet_of (by decide) hl (by simp [Value.category]) (Nat.le_of_ble_eq_true rfl) ?_
  intro X C E hX hin
  unfold fL_arePairs at hf
  refine mG_aload_n (pc := 0) C dL_arePairs_0 rfl ?_
  obtain ⟨r1, e2, hf⟩ := mx_bind hf
  refine mG_getR (pc := 1) C dL_arePairs_1 fl_L_25 e2 ?_
  refine mG_ic (pc := 4) C dL_arePairs_4 kI5 ?_
  obtain ⟨u3, e4, hf⟩ := mx_bind hf
  obtain ⟨o6, e5, hf⟩ := mx_bind hf
  refine mG_cV2 (pc := 5) (k' := 0) (n' := 0) (h' := o6.2) (v := some (.int o6.1)) 10 [.int 5] [] C hX dL_arePairs_5 lkV_L_30 rfl rfl e4 (tX10_next hl e5) rfl rfl rfl ⟨Nat.le_of_ble_eq_true rfl, Nat.le_of_ble_eq_true rfl⟩ rfl ?_
  refine mG_isn (ls' := [some (.ref p0), some (.int o6.1), none, none, none, none, none, none, none, none, none]) (pc := 8) C dL_arePairs_8 rfl rfl rfl ?_
  refine mG_aload_n (pc := 9) C dL_arePairs_9 rfl ?_
  obtain ⟨r7, e8, hf⟩ := mx_bind hf
  refine mG_getR (pc := 10) C dL_arePairs_10 fl_L_25 e8 ?_
  refine mG_ic (pc := 13) C dL_arePairs_13 kI5 ?_
  obtain ⟨u9, e10, hf⟩ := mx_bind hf
  obtain ⟨o12, e11, hf⟩ := mx_bind hf
  refine mG_cV2 (pc := 14) (k' := 0) (n' := 0) (h' := o12.2) (v := some (.int o12.1)) 10 [.int 5] [] C hX dL_arePairs_14 lkV_L_30 rfl rfl e10 (tX10_next hl e11) rfl rfl rfl ⟨Nat.le_of_ble_eq_true rfl, Nat.le_of_ble_eq_true rfl⟩ rfl ?_
  refine mG_isn (ls' := [some (.ref p0), some (.int o6.1), some (.int o12.1), none, none, none, none, none, none, none, none]) (pc := 17) C dL_arePairs_17 rfl rfl rfl ?_
  refine mG_aload_n (pc := 18) C dL_arePairs_18 rfl ?_
  refine mG_iload_n (pc := 19) C dL_arePairs_19 rfl ?_
  obtain ⟨u13, e14, hf⟩ := mx_bind hf
  obtain ⟨o16, e15, hf⟩ := mx_bind hf
  refine mG_cV2 (pc := 20) (k' := 0) (n' := 0) (h' := o12.2) (v := some (.int o16)) 11 [.int o6.1] [] C hX dL_arePairs_20 lkV_L_126 rfl rfl e14 (tL_items hl e15) rfl rfl rfl ⟨Nat.le_of_ble_eq_true rfl, Nat.le_of_ble_eq_true rfl⟩ rfl ?_
  refine mG_aload_n (pc := 23) C dL_arePairs_23 rfl ?_
  refine mG_iload_n (pc := 24) C dL_arePairs_24 rfl ?_
  obtain ⟨u17, e18, hf⟩ := mx_bind hf
  obtain ⟨o20, e19, hf⟩ := mx_bind hf
  refine mG_cV2 (pc := 25) (k' := 0) (n' := 0) (h' := o12.2) (v := some (.int o20)) 11 [.int o12.1] [.int o16] C hX dL_arePairs_25 lkV_L_126 rfl rfl e18 (tL_items hl e19) rfl rfl rfl ⟨Nat.le_of_ble_eq_true rfl, Nat.le_of_ble_eq_true rfl⟩ rfl ?_
  refine mG_imul (pc := 28) C dL_arePairs_28 ?_
  refine mG_isn (ls' := [some (.ref p0), some (.int o6.1), some (.int o12.1), some (.int (o16 * o20)), none, none, none, none, none, none, none]) (pc := 29) C dL_arePairs_29 rfl rfl rfl ?_
  refine mG_ldci (pc := 30) C dL_arePairs_30 w716 ?_
  refine mG_is (ls' := [some (.ref p0), some (.int o6.1), some (.int o12.1), some (.int (o16 * o20)), some (.int 2147483647), none, none, none, none, none, none]) (pc := 32) C dL_arePairs_32 rfl rfl rfl ?_
  refine mG_ic (pc := 34) C dL_arePairs_34 kI0 ?_
  refine mG_is (ls' := [some (.ref p0), some (.int o6.1), some (.int o12.1), some (.int (o16 * o20)), some (.int 2147483647), some (.int 0), none, none, none, none, none]) (pc := 35) C dL_arePairs_35 rfl rfl rfl ?_
  obtain ⟨r72, e73, hf⟩ := mx_bind hf
  have J68 : ∀ r112 : mxH, Sum.inl r112 = r72 → mG l Z X 11 169 1014 141 [none, none, none, none, none, none, none, none, none, none, none] [] r112 := by
    intro r112 q115
    subst q115
    rw [Sum.elim_inl] at hf
    refine mG_ic (pc := 141) C dL_arePairs_141 kI0 ?_
    obtain ⟨v113, e114, hf⟩ := mx_bind hf
    cases hf
    exact mG_zr2 (pc := 142) C e114 E hX dL_arePairs_142 ⟨Nat.le_of_ble_eq_true rfl, Nat.le_of_ble_eq_true rfl⟩
  have J69 : ∀ r116 : mxH, Sum.inr r116 = r72 → mG l Z X 11 169 1014 153 [some (.ref p0), some (.int o6.1), some (.int o12.1), some (.int (o16 * o20)), none, none, none, none, none, none, none] [] r116 := by
    intro r116 q762
    subst q762
    rw [Sum.elim_inr] at hf
    refine mG_iload_n (pc := 153) C dL_arePairs_153 rfl ?_
    obtain ⟨jp119, e120, hf⟩ := mx_bind hf
    have J118 : ∀ jp119' : (Int32 × mxH), jp119' = jp119 → mG l Z X 11 169 1014 169 [some (.ref p0), some (.int o6.1), some (.int o12.1), some (.int (o16 * o20)), none, none, none, none, none, none, none] [.int jp119'.1] jp119'.2 := by
      intro jp119' q761
      subst q761
      refine mG_is (ls' := [some (.ref p0), some (.int o6.1), some (.int o12.1), some (.int (o16 * o20)), none, some (.int jp119'.1), none, none, none, none, none]) (pc := 169) C dL_arePairs_169 rfl rfl rfl ?_
      refine mG_ic (pc := 171) C dL_arePairs_171 kI0 ?_
      refine mG_is (ls' := [some (.ref p0), some (.int o6.1), some (.int o12.1), some (.int (o16 * o20)), none, some (.int jp119'.1), some (.int 0), none, none, none, none]) (pc := 172) C dL_arePairs_172 rfl rfl rfl ?_
      refine mG_ic (pc := 174) C dL_arePairs_174 kI0 ?_
      refine mG_is (ls' := [some (.ref p0), some (.int o6.1), some (.int o12.1), some (.int (o16 * o20)), none, some (.int jp119'.1), some (.int 0), some (.int 0), none, none, none]) (pc := 175) C dL_arePairs_175 rfl rfl rfl ?_
      refine mG_ic (pc := 177) C dL_arePairs_177 kI0 ?_
      refine mG_is (ls' := [some (.ref p0), some (.int o6.1), some (.int o12.1), some (.int (o16 * o20)), none, some (.int jp119'.1), some (.int 0), some (.int 0), some (.int 0), none, none]) (pc := 178) C dL_arePairs_178 rfl rfl rfl ?_
      obtain ⟨r361, e362, hf⟩ := mx_bind hf
      have J358 : ∀ r580 : (Int32 × Int32 × mxH), r580 = r361 → mG l Z X 11 2815 16890 313 [some (.ref p0), some (.int o6.1), some (.int o12.1), some (.int (o16 * o20)), none, some (.int jp119'.1), some (.int r580.1), some (.int r580.2.1), none, none, none] [] r580.2.2 := by
        intro r580 q760
        subst q760
        refine mG_iload_n (pc := 313) C dL_arePairs_313 rfl ?_
        refine mG_if_le (pc := 314) (tgt := 336) C dL_arePairs_314 (by decide) (fun q581 => ?_) (fun q581 => ?_)
        · rw [if_pos q581] at hf
          refine mG_ic (pc := 336) C dL_arePairs_336 kI0 ?_
          refine mG_is (ls' := [some (.ref p0), some (.int o6.1), some (.int o12.1), some (.int (o16 * o20)), none, some (.int jp119'.1), some (.int r580.1), some (.int r580.2.1), some (.int 0), none, none]) (pc := 337) C dL_arePairs_337 rfl rfl rfl ?_
          refine mG_ic (pc := 339) C dL_arePairs_339 kI0 ?_
          refine mG_is (ls' := [some (.ref p0), some (.int o6.1), some (.int o12.1), some (.int (o16 * o20)), none, some (.int jp119'.1), some (.int r580.1), some (.int r580.2.1), some (.int 0), some (.int 0), none]) (pc := 340) C dL_arePairs_340 rfl rfl rfl ?_
          obtain ⟨r621, e622, hf⟩ := mx_bind hf
          have J617 : ∀ r649 : mxH, Sum.inl r649 = r621 → mG l Z X 11 2878 17268 392 [none, none, none, none, none, none, none, none, none, none, none] [] r649 := by
            intro r649 q652
            subst q652
            rw [Sum.elim_inl] at hf
            refine mG_ic (pc := 392) C dL_arePairs_392 kI0 ?_
            obtain ⟨v650, e651, hf⟩ := mx_bind hf
            cases hf
            exact mG_zr2 (pc := 393) C e651 E hX dL_arePairs_393 ⟨Nat.le_of_ble_eq_true rfl, Nat.le_of_ble_eq_true rfl⟩
          have J618 : ∀ r653 : (Int32 × mxH), Sum.inr r653 = r621 → mG l Z X 11 2878 17268 403 [some (.ref p0), some (.int o6.1), some (.int o12.1), none, none, none, none, none, some (.int r653.1), none, none] [] r653.2 := by
            intro r653 q667
            subst q667
            rw [Sum.elim_inr] at hf
            refine mG_aload_n (pc := 403) C dL_arePairs_403 rfl ?_
            obtain ⟨r654, e655, hf⟩ := mx_bind hf
            refine mG_getR (pc := 404) C dL_arePairs_404 fl_L_10 e655 ?_
            refine mG_iload_n (pc := 407) C dL_arePairs_407 rfl ?_
            refine mG_iload_n (pc := 408) C dL_arePairs_408 rfl ?_
            obtain ⟨u656, e657, hf⟩ := mx_bind hf
            obtain ⟨o659, e658, hf⟩ := mx_bind hf
            refine mG_cV2 (pc := 409) (k' := 2880) (n' := 17280) (h' := o659.2) (v := some (.int o659.1)) 9 [.int o6.1, .int o12.1] [] C hX dL_arePairs_409 lkV_L_217 rfl rfl e657 (tX9_common hl (mxOk_some e658)) rfl rfl rfl ⟨Nat.le_of_ble_eq_true rfl, Nat.le_of_ble_eq_true rfl⟩ rfl ?_
            refine mG_iload (pc := 412) C dL_arePairs_412 rfl ?_
            obtain ⟨jp662, e663, hf⟩ := mx_bind hf
            have J661 : ∀ jp662' : Int32, jp662' = jp662 → mG l Z X 11 2880 17280 422 [none, none, none, none, none, none, none, none, none, none, none] [.int jp662'] o659.2 := by
              intro jp662' q666
              subst q666
              obtain ⟨v664, e665, hf⟩ := mx_bind hf
              cases hf
              exact mG_zr2 (pc := 422) C e665 E hX dL_arePairs_422 ⟨Nat.le_of_ble_eq_true rfl, Nat.le_of_ble_eq_true rfl⟩
            refine mG_icmp_ne (pc := 414) (tgt := 421) C dL_arePairs_414 (by decide) (fun q660 => ?_) (fun q660 => ?_)
            · rw [if_neg q660] at e663
              refine mG_ic (pc := 421) C dL_arePairs_421 kI0 ?_
              exact mG_sub (mxLe_n (mxLe_n (mxLe_n (mxLe_n (mxLe_n (mxLe_n (mxLe_n (mxLe_n (mxLe_n (mxLe_n (mxLe_n mxLe_z))))))))))) (J661 _ (Option.some.inj e663))
            · rw [if_pos q660] at e663
              refine mG_ic (pc := 417) C dL_arePairs_417 kI1 ?_
              refine mG_goto (tgt := 422) (pc := 418) C dL_arePairs_418 (by decide) ?_
              exact mG_sub (mxLe_n (mxLe_n (mxLe_n (mxLe_n (mxLe_n (mxLe_n (mxLe_n (mxLe_n (mxLe_n (mxLe_n (mxLe_n mxLe_z))))))))))) (J661 _ (Option.some.inj e663))
          refine mG_sub (ls' := [some (.ref p0), some (.int o6.1), some (.int o12.1), none, none, none, none, none, some (.int 0), some (.int 0), none]) (mxLe_s (mxLe_s (mxLe_s (mxLe_n (mxLe_n (mxLe_n (mxLe_n (mxLe_n (mxLe_s (mxLe_s (mxLe_n mxLe_z))))))))))) (mxLoop_indN (K := fun (N616 : Nat) (s613 : (Int32 × Int32 × mxH)) => ∀ k614 n615 : Nat, k614 + 3 * N616 ≤ 2815 + 3 * 21 → n615 + 18 * N616 ≤ 16890 + 18 * 21 → mG l Z X 11 k614 n615 342 [some (.ref p0), some (.int o6.1), some (.int o12.1), none, none, none, none, none, some (.int s613.1), some (.int s613.2.1), none] [] s613.2.2) ?_ _ _ e622 _ _ (Nat.le_refl _) (Nat.le_refl _))
          intro N616 s613 o623 e624 hK619 hx620 k614 n615 hk625 hn626
          refine mG_iload (pc := 342) C dL_arePairs_342 rfl ?_
          refine mG_bp (pc := 344) C dL_arePairs_344 kB20 ?_
          refine mG_icmp_ge (pc := 346) (tgt := 403) C dL_arePairs_346 (by decide) (fun q627 => ?_) (fun q627 => ?_)
          · rw [if_pos q627] at e624
            exact mG_wd (by omega) (by omega) (mG_sub (mxLe_s (mxLe_s (mxLe_s (mxLe_n (mxLe_n (mxLe_n (mxLe_n (mxLe_n (mxLe_s (mxLe_n (mxLe_n mxLe_z))))))))))) (J618 _ (hx620 _ (Option.some.inj e624).symm)))
          · rw [if_neg q627] at e624
            refine mG_aload_n (pc := 349) C dL_arePairs_349 rfl ?_
            obtain ⟨r628, e629, e624⟩ := mx_bind e624
            refine mG_getR (pc := 350) C dL_arePairs_350 fl_L_18 e629 ?_
            refine mG_iload_n (pc := 353) C dL_arePairs_353 rfl ?_
            obtain ⟨r630, e631, e624⟩ := mx_bind e624
            refine mG_aaload (pc := 354) C dL_arePairs_354 e631 ?_
            refine mG_iload (pc := 355) C dL_arePairs_355 rfl ?_
            obtain ⟨v632, e633, e624⟩ := mx_bind e624
            refine mG_iaload (pc := 357) C dL_arePairs_357 e633 ?_
            refine mG_if_lt (pc := 358) (tgt := 397) C dL_arePairs_358 (by decide) (fun q634 => ?_) (fun q634 => ?_)
            · rw [if_pos q634] at e624
              refine mG_ii (ls' := [some (.ref p0), some (.int o6.1), some (.int o12.1), none, none, none, none, none, some (.int s613.1), some (.int (s613.2.1 + 1)), none]) (pc := 397) C dL_arePairs_397 rfl (kinc1 _) rfl rfl rfl ?_
              refine mG_goto (tgt := 342) (pc := 400) C dL_arePairs_400 (by decide) ?_
              exact mG_sub (mxLe_s (mxLe_s (mxLe_s (mxLe_n (mxLe_n (mxLe_n (mxLe_n (mxLe_n (mxLe_s (mxLe_s (mxLe_n mxLe_z))))))))))) (hK619 _ (Option.some.inj e624).symm _ _ (by omega) (by omega))
            · rw [if_neg q634] at e624
              refine mG_aload_n (pc := 361) C dL_arePairs_361 rfl ?_
              obtain ⟨r635, e636, e624⟩ := mx_bind e624
              refine mG_getR (pc := 362) C dL_arePairs_362 fl_L_18 e636 ?_
              refine mG_iload_n (pc := 365) C dL_arePairs_365 rfl ?_
              obtain ⟨r637, e638, e624⟩ := mx_bind e624
              refine mG_aaload (pc := 366) C dL_arePairs_366 e638 ?_
              refine mG_iload (pc := 367) C dL_arePairs_367 rfl ?_
              obtain ⟨v639, e640, e624⟩ := mx_bind e624
              refine mG_iaload (pc := 369) C dL_arePairs_369 e640 ?_
              refine mG_if_ge (pc := 370) (tgt := 376) C dL_arePairs_370 (by decide) (fun q641 => ?_) (fun q641 => ?_)
              · rw [if_pos q641] at e624
                refine mG_aload_n (pc := 376) C dL_arePairs_376 rfl ?_
                obtain ⟨r642, e643, e624⟩ := mx_bind e624
                refine mG_getR (pc := 377) C dL_arePairs_377 fl_L_10 e643 ?_
                refine mG_iload_n (pc := 380) C dL_arePairs_380 rfl ?_
                refine mG_iload_n (pc := 381) C dL_arePairs_381 rfl ?_
                refine mG_iload (pc := 382) C dL_arePairs_382 rfl ?_
                obtain ⟨u644, e645, e624⟩ := mx_bind e624
                obtain ⟨o647, e646, e624⟩ := mx_bind e624
                refine mG_cV2 (pc := 384) (k' := (k614 + 3)) (n' := (n615 + 18)) (h' := o647.2) (v := some (.int o647.1)) 9 [.int o6.1, .int o12.1, .int s613.1] [] C hX dL_arePairs_384 lkV_L_214 rfl rfl e645 (tX9_commonAt hl (mxOk_some e646)) rfl (by show k614 + 3 = (k614 + 3); omega) (by show n615 + 18 = (n615 + 18); omega) ⟨by show (k614 + 3) ≤ 2880; omega, by show (n615 + 18) ≤ 17280; omega⟩ rfl ?_
                refine mG_iload (pc := 387) C dL_arePairs_387 rfl ?_
                refine mG_icmp_eq (pc := 389) (tgt := 394) C dL_arePairs_389 (by decide) (fun q648 => ?_) (fun q648 => ?_)
                · rw [if_pos q648] at e624
                  refine mG_ii (ls' := [some (.ref p0), some (.int o6.1), some (.int o12.1), none, none, none, none, none, some (.int (s613.1 + 1)), some (.int s613.2.1), none]) (pc := 394) C dL_arePairs_394 rfl (kinc1 _) rfl rfl rfl ?_
                  refine mG_ii (ls' := [some (.ref p0), some (.int o6.1), some (.int o12.1), none, none, none, none, none, some (.int (s613.1 + 1)), some (.int (s613.2.1 + 1)), none]) (pc := 397) C dL_arePairs_397 rfl (kinc1 _) rfl rfl rfl ?_
                  refine mG_goto (tgt := 342) (pc := 400) C dL_arePairs_400 (by decide) ?_
                  exact mG_sub (mxLe_s (mxLe_s (mxLe_s (mxLe_n (mxLe_n (mxLe_n (mxLe_n (mxLe_n (mxLe_s (mxLe_s (mxLe_n mxLe_z))))))))))) (hK619 _ (Option.some.inj e624).symm _ _ (by omega) (by omega))
                · rw [if_neg q648] at e624
                  exact mG_wd (by omega) (by omega) (mG_sub (mxLe_n (mxLe_n (mxLe_n (mxLe_n (mxLe_n (mxLe_n (mxLe_n (mxLe_n (mxLe_n (mxLe_n (mxLe_n mxLe_z))))))))))) (J617 _ (hx620 _ (Option.some.inj e624).symm)))
              · rw [if_neg q641] at e624
                refine mG_goto (tgt := 397) (pc := 373) C dL_arePairs_373 (by decide) ?_
                refine mG_ii (ls' := [some (.ref p0), some (.int o6.1), some (.int o12.1), none, none, none, none, none, some (.int s613.1), some (.int (s613.2.1 + 1)), none]) (pc := 397) C dL_arePairs_397 rfl (kinc1 _) rfl rfl rfl ?_
                refine mG_goto (tgt := 342) (pc := 400) C dL_arePairs_400 (by decide) ?_
                exact mG_sub (mxLe_s (mxLe_s (mxLe_s (mxLe_n (mxLe_n (mxLe_n (mxLe_n (mxLe_n (mxLe_s (mxLe_s (mxLe_n mxLe_z))))))))))) (hK619 _ (Option.some.inj e624).symm _ _ (by omega) (by omega))
        · rw [if_neg q581] at hf
          refine mG_iload (pc := 317) C dL_arePairs_317 rfl ?_
          refine mG_iload (pc := 319) C dL_arePairs_319 rfl ?_
          refine mG_icmp_lt (pc := 321) (tgt := 334) C dL_arePairs_321 (by decide) (fun q668 => ?_) (fun q668 => ?_)
          · rw [if_pos q668] at hf
            refine mG_ic (pc := 334) C dL_arePairs_334 kI0 ?_
            obtain ⟨v669, e670, hf⟩ := mx_bind hf
            cases hf
            exact mG_zr2 (pc := 335) C e670 E hX dL_arePairs_335 ⟨Nat.le_of_ble_eq_true rfl, Nat.le_of_ble_eq_true rfl⟩
          · rw [if_neg q668] at hf
            refine mG_iload (pc := 324) C dL_arePairs_324 rfl ?_
            refine mG_iload (pc := 326) C dL_arePairs_326 rfl ?_
            refine mG_iload (pc := 328) C dL_arePairs_328 rfl ?_
            refine mG_iadd (pc := 330) C dL_arePairs_330 ?_
            refine mG_icmp_lt (pc := 331) (tgt := 336) C dL_arePairs_331 (by decide) (fun q671 => ?_) (fun q671 => ?_)
            · rw [if_pos q671] at hf
              refine mG_ic (pc := 336) C dL_arePairs_336 kI0 ?_
              refine mG_is (ls' := [some (.ref p0), some (.int o6.1), some (.int o12.1), some (.int (o16 * o20)), none, some (.int jp119'.1), some (.int r580.1), some (.int r580.2.1), some (.int 0), none, none]) (pc := 337) C dL_arePairs_337 rfl rfl rfl ?_
              refine mG_ic (pc := 339) C dL_arePairs_339 kI0 ?_
              refine mG_is (ls' := [some (.ref p0), some (.int o6.1), some (.int o12.1), some (.int (o16 * o20)), none, some (.int jp119'.1), some (.int r580.1), some (.int r580.2.1), some (.int 0), some (.int 0), none]) (pc := 340) C dL_arePairs_340 rfl rfl rfl ?_
              obtain ⟨r711, e712, hf⟩ := mx_bind hf
              have J707 : ∀ r739 : mxH, Sum.inl r739 = r711 → mG l Z X 11 2878 17268 392 [none, none, none, none, none, none, none, none, none, none, none] [] r739 := by
                intro r739 q742
                subst q742
                rw [Sum.elim_inl] at hf
                refine mG_ic (pc := 392) C dL_arePairs_392 kI0 ?_
                obtain ⟨v740, e741, hf⟩ := mx_bind hf
                cases hf
                exact mG_zr2 (pc := 393) C e741 E hX dL_arePairs_393 ⟨Nat.le_of_ble_eq_true rfl, Nat.le_of_ble_eq_true rfl⟩
              have J708 : ∀ r743 : (Int32 × mxH), Sum.inr r743 = r711 → mG l Z X 11 2878 17268 403 [some (.ref p0), some (.int o6.1), some (.int o12.1), none, none, none, none, none, some (.int r743.1), none, none] [] r743.2 := by
                intro r743 q757
                subst q757
                rw [Sum.elim_inr] at hf
                refine mG_aload_n (pc := 403) C dL_arePairs_403 rfl ?_
                obtain ⟨r744, e745, hf⟩ := mx_bind hf
                refine mG_getR (pc := 404) C dL_arePairs_404 fl_L_10 e745 ?_
                refine mG_iload_n (pc := 407) C dL_arePairs_407 rfl ?_
                refine mG_iload_n (pc := 408) C dL_arePairs_408 rfl ?_
                obtain ⟨u746, e747, hf⟩ := mx_bind hf
                obtain ⟨o749, e748, hf⟩ := mx_bind hf
                refine mG_cV2 (pc := 409) (k' := 2880) (n' := 17280) (h' := o749.2) (v := some (.int o749.1)) 9 [.int o6.1, .int o12.1] [] C hX dL_arePairs_409 lkV_L_217 rfl rfl e747 (tX9_common hl (mxOk_some e748)) rfl rfl rfl ⟨Nat.le_of_ble_eq_true rfl, Nat.le_of_ble_eq_true rfl⟩ rfl ?_
                refine mG_iload (pc := 412) C dL_arePairs_412 rfl ?_
                obtain ⟨jp752, e753, hf⟩ := mx_bind hf
                have J751 : ∀ jp752' : Int32, jp752' = jp752 → mG l Z X 11 2880 17280 422 [none, none, none, none, none, none, none, none, none, none, none] [.int jp752'] o749.2 := by
                  intro jp752' q756
                  subst q756
                  obtain ⟨v754, e755, hf⟩ := mx_bind hf
                  cases hf
                  exact mG_zr2 (pc := 422) C e755 E hX dL_arePairs_422 ⟨Nat.le_of_ble_eq_true rfl, Nat.le_of_ble_eq_true rfl⟩
                refine mG_icmp_ne (pc := 414) (tgt := 421) C dL_arePairs_414 (by decide) (fun q750 => ?_) (fun q750 => ?_)
                · rw [if_neg q750] at e753
                  refine mG_ic (pc := 421) C dL_arePairs_421 kI0 ?_
                  exact mG_sub (mxLe_n (mxLe_n (mxLe_n (mxLe_n (mxLe_n (mxLe_n (mxLe_n (mxLe_n (mxLe_n (mxLe_n (mxLe_n mxLe_z))))))))))) (J751 _ (Option.some.inj e753))
                · rw [if_pos q750] at e753
                  refine mG_ic (pc := 417) C dL_arePairs_417 kI1 ?_
                  refine mG_goto (tgt := 422) (pc := 418) C dL_arePairs_418 (by decide) ?_
                  exact mG_sub (mxLe_n (mxLe_n (mxLe_n (mxLe_n (mxLe_n (mxLe_n (mxLe_n (mxLe_n (mxLe_n (mxLe_n (mxLe_n mxLe_z))))))))))) (J751 _ (Option.some.inj e753))
              refine mG_sub (ls' := [some (.ref p0), some (.int o6.1), some (.int o12.1), none, none, none, none, none, some (.int 0), some (.int 0), none]) (mxLe_s (mxLe_s (mxLe_s (mxLe_n (mxLe_n (mxLe_n (mxLe_n (mxLe_n (mxLe_s (mxLe_s (mxLe_n mxLe_z))))))))))) (mxLoop_indN (K := fun (N706 : Nat) (s703 : (Int32 × Int32 × mxH)) => ∀ k704 n705 : Nat, k704 + 3 * N706 ≤ 2815 + 3 * 21 → n705 + 18 * N706 ≤ 16890 + 18 * 21 → mG l Z X 11 k704 n705 342 [some (.ref p0), some (.int o6.1), some (.int o12.1), none, none, none, none, none, some (.int s703.1), some (.int s703.2.1), none] [] s703.2.2) ?_ _ _ e712 _ _ (Nat.le_refl _) (Nat.le_refl _))
              intro N706 s703 o713 e714 hK709 hx710 k704 n705 hk715 hn716
              refine mG_iload (pc := 342) C dL_arePairs_342 rfl ?_
              refine mG_bp (pc := 344) C dL_arePairs_344 kB20 ?_
              refine mG_icmp_ge (pc := 346) (tgt := 403) C dL_arePairs_346 (by decide) (fun q717 => ?_) (fun q717 => ?_)
              · rw [if_pos q717] at e714
                exact mG_wd (by omega) (by omega) (mG_sub (mxLe_s (mxLe_s (mxLe_s (mxLe_n (mxLe_n (mxLe_n (mxLe_n (mxLe_n (mxLe_s (mxLe_n (mxLe_n mxLe_z))))))))))) (J708 _ (hx710 _ (Option.some.inj e714).symm)))
              · rw [if_neg q717] at e714
                refine mG_aload_n (pc := 349) C dL_arePairs_349 rfl ?_
                obtain ⟨r718, e719, e714⟩ := mx_bind e714
                refine mG_getR (pc := 350) C dL_arePairs_350 fl_L_18 e719 ?_
                refine mG_iload_n (pc := 353) C dL_arePairs_353 rfl ?_
                obtain ⟨r720, e721, e714⟩ := mx_bind e714
                refine mG_aaload (pc := 354) C dL_arePairs_354 e721 ?_
                refine mG_iload (pc := 355) C dL_arePairs_355 rfl ?_
                obtain ⟨v722, e723, e714⟩ := mx_bind e714
                refine mG_iaload (pc := 357) C dL_arePairs_357 e723 ?_
                refine mG_if_lt (pc := 358) (tgt := 397) C dL_arePairs_358 (by decide) (fun q724 => ?_) (fun q724 => ?_)
                · rw [if_pos q724] at e714
                  refine mG_ii (ls' := [some (.ref p0), some (.int o6.1), some (.int o12.1), none, none, none, none, none, some (.int s703.1), some (.int (s703.2.1 + 1)), none]) (pc := 397) C dL_arePairs_397 rfl (kinc1 _) rfl rfl rfl ?_
                  refine mG_goto (tgt := 342) (pc := 400) C dL_arePairs_400 (by decide) ?_
                  exact mG_sub (mxLe_s (mxLe_s (mxLe_s (mxLe_n (mxLe_n (mxLe_n (mxLe_n (mxLe_n (mxLe_s (mxLe_s (mxLe_n mxLe_z))))))))))) (hK709 _ (Option.some.inj e714).symm _ _ (by omega) (by omega))
                · rw [if_neg q724] at e714
                  refine mG_aload_n (pc := 361) C dL_arePairs_361 rfl ?_
                  obtain ⟨r725, e726, e714⟩ := mx_bind e714
                  refine mG_getR (pc := 362) C dL_arePairs_362 fl_L_18 e726 ?_
                  refine mG_iload_n (pc := 365) C dL_arePairs_365 rfl ?_
                  obtain ⟨r727, e728, e714⟩ := mx_bind e714
                  refine mG_aaload (pc := 366) C dL_arePairs_366 e728 ?_
                  refine mG_iload (pc := 367) C dL_arePairs_367 rfl ?_
                  obtain ⟨v729, e730, e714⟩ := mx_bind e714
                  refine mG_iaload (pc := 369) C dL_arePairs_369 e730 ?_
                  refine mG_if_ge (pc := 370) (tgt := 376) C dL_arePairs_370 (by decide) (fun q731 => ?_) (fun q731 => ?_)
                  · rw [if_pos q731] at e714
                    refine mG_aload_n (pc := 376) C dL_arePairs_376 rfl ?_
                    obtain ⟨r732, e733, e714⟩ := mx_bind e714
                    refine mG_getR (pc := 377) C dL_arePairs_377 fl_L_10 e733 ?_
                    refine mG_iload_n (pc := 380) C dL_arePairs_380 rfl ?_
                    refine mG_iload_n (pc := 381) C dL_arePairs_381 rfl ?_
                    refine mG_iload (pc := 382) C dL_arePairs_382 rfl ?_
                    obtain ⟨u734, e735, e714⟩ := mx_bind e714
                    obtain ⟨o737, e736, e714⟩ := mx_bind e714
                    refine mG_cV2 (pc := 384) (k' := (k704 + 3)) (n' := (n705 + 18)) (h' := o737.2) (v := some (.int o737.1)) 9 [.int o6.1, .int o12.1, .int s703.1] [] C hX dL_arePairs_384 lkV_L_214 rfl rfl e735 (tX9_commonAt hl (mxOk_some e736)) rfl (by show k704 + 3 = (k704 + 3); omega) (by show n705 + 18 = (n705 + 18); omega) ⟨by show (k704 + 3) ≤ 2880; omega, by show (n705 + 18) ≤ 17280; omega⟩ rfl ?_
                    refine mG_iload (pc := 387) C dL_arePairs_387 rfl ?_
                    refine mG_icmp_eq (pc := 389) (tgt := 394) C dL_arePairs_389 (by decide) (fun q738 => ?_) (fun q738 => ?_)
                    · rw [if_pos q738] at e714
                      refine mG_ii (ls' := [some (.ref p0), some (.int o6.1), some (.int o12.1), none, none, none, none, none, some (.int (s703.1 + 1)), some (.int s703.2.1), none]) (pc := 394) C dL_arePairs_394 rfl (kinc1 _) rfl rfl rfl ?_
                      refine mG_ii (ls' := [some (.ref p0), some (.int o6.1), some (.int o12.1), none, none, none, none, none, some (.int (s703.1 + 1)), some (.int (s703.2.1 + 1)), none]) (pc := 397) C dL_arePairs_397 rfl (kinc1 _) rfl rfl rfl ?_
                      refine mG_goto (tgt := 342) (pc := 400) C dL_arePairs_400 (by decide) ?_
                      exact mG_sub (mxLe_s (mxLe_s (mxLe_s (mxLe_n (mxLe_n (mxLe_n (mxLe_n (mxLe_n (mxLe_s (mxLe_s (mxLe_n mxLe_z))))))))))) (hK709 _ (Option.some.inj e714).symm _ _ (by omega) (by omega))
                    · rw [if_neg q738] at e714
                      exact mG_wd (by omega) (by omega) (mG_sub (mxLe_n (mxLe_n (mxLe_n (mxLe_n (mxLe_n (mxLe_n (mxLe_n (mxLe_n (mxLe_n (mxLe_n (mxLe_n mxLe_z))))))))))) (J707 _ (hx710 _ (Option.some.inj e714).symm)))
                  · rw [if_neg q731] at e714
                    refine mG_goto (tgt := 397) (pc := 373) C dL_arePairs_373 (by decide) ?_
                    refine mG_ii (ls' := [some (.ref p0), some (.int o6.1), some (.int o12.1), none, none, none, none, none, some (.int s703.1), some (.int (s703.2.1 + 1)), none]) (pc := 397) C dL_arePairs_397 rfl (kinc1 _) rfl rfl rfl ?_
                    refine mG_goto (tgt := 342) (pc := 400) C dL_arePairs_400 (by decide) ?_
                    exact mG_sub (mxLe_s (mxLe_s (mxLe_s (mxLe_n (mxLe_n (mxLe_n (mxLe_n (mxLe_n (mxLe_s (mxLe_s (mxLe_n mxLe_z))))))))))) (hK709 _ (Option.some.inj e714).symm _ _ (by omega) (by omega))
            · rw [if_neg q671] at hf
              refine mG_ic (pc := 334) C dL_arePairs_334 kI0 ?_
              obtain ⟨v758, e759, hf⟩ := mx_bind hf
              cases hf
              exact mG_zr2 (pc := 335) C e759 E hX dL_arePairs_335 ⟨Nat.le_of_ble_eq_true rfl, Nat.le_of_ble_eq_true rfl⟩
      refine mG_sub (ls' := [some (.ref p0), some (.int o6.1), some (.int o12.1), some (.int (o16 * o20)), none, some (.int jp119'.1), some (.int 0), some (.int 0), some (.int 0), none, none]) (mxLe_s (mxLe_s (mxLe_s (mxLe_s (mxLe_n (mxLe_s (mxLe_s (mxLe_s (mxLe_s (mxLe_n (mxLe_n mxLe_z))))))))))) (mxLoop_indN (K := fun (N357 : Nat) (s354 : (Int32 × Int32 × Int32 × mxH)) => ∀ k355 n356 : Nat, k355 + 126 * N357 ≤ 169 + 126 * 21 → n356 + 756 * N357 ≤ 1014 + 756 * 21 → mG l Z X 11 k355 n356 180 [some (.ref p0), some (.int o6.1), some (.int o12.1), some (.int (o16 * o20)), none, some (.int jp119'.1), some (.int s354.1), some (.int s354.2.1), some (.int s354.2.2.1), none, none] [] s354.2.2.2) ?_ _ _ e362 _ _ (Nat.le_refl _) (Nat.le_refl _))
      intro N357 s354 o363 e364 hK359 hx360 k355 n356 hk365 hn366
      refine mG_iload (pc := 180) C dL_arePairs_180 rfl ?_
      refine mG_bp (pc := 182) C dL_arePairs_182 kB20 ?_
      refine mG_icmp_ge (pc := 184) (tgt := 313) C dL_arePairs_184 (by decide) (fun q367 => ?_) (fun q367 => ?_)
      · rw [if_pos q367] at e364
        exact mG_wd (by omega) (by omega) (mG_sub (mxLe_s (mxLe_s (mxLe_s (mxLe_s (mxLe_n (mxLe_s (mxLe_s (mxLe_s (mxLe_n (mxLe_n (mxLe_n mxLe_z))))))))))) (J358 _ (hx360 _ (Option.some.inj e364).symm)))
      · rw [if_neg q367] at e364
        refine mG_iload_n (pc := 187) C dL_arePairs_187 rfl ?_
        refine mG_if_le (pc := 188) (tgt := 313) C dL_arePairs_188 (by decide) (fun q368 => ?_) (fun q368 => ?_)
        · rw [if_pos q368] at e364
          exact mG_wd (by omega) (by omega) (mG_sub (mxLe_s (mxLe_s (mxLe_s (mxLe_s (mxLe_n (mxLe_s (mxLe_s (mxLe_s (mxLe_n (mxLe_n (mxLe_n mxLe_z))))))))))) (J358 _ (hx360 _ (Option.some.inj e364).symm)))
        · rw [if_neg q368] at e364
          refine mG_ic (pc := 191) C dL_arePairs_191 kI0 ?_
          refine mG_is (ls' := [some (.ref p0), some (.int o6.1), some (.int o12.1), some (.int (o16 * o20)), none, some (.int jp119'.1), some (.int s354.1), some (.int s354.2.1), some (.int s354.2.2.1), some (.int 0), none]) (pc := 192) C dL_arePairs_192 rfl rfl rfl ?_
          obtain ⟨r478, e479, e364⟩ := mx_bind e364
          have J475 : ∀ r578 : (Int32 × Int32 × mxH), r578 = r478 → mG l Z X 11 (k355 + 126) (n356 + 756) 307 [some (.ref p0), some (.int o6.1), some (.int o12.1), some (.int (o16 * o20)), none, some (.int jp119'.1), some (.int r578.1), some (.int r578.2.1), some (.int s354.2.2.1), none, none] [] r578.2.2 := by
            intro r578 q579
            subst q579
            refine mG_ii (ls' := [some (.ref p0), some (.int o6.1), some (.int o12.1), some (.int (o16 * o20)), none, some (.int jp119'.1), some (.int r578.1), some (.int r578.2.1), some (.int (s354.2.2.1 + 1)), none, none]) (pc := 307) C dL_arePairs_307 rfl (kinc1 _) rfl rfl rfl ?_
            refine mG_goto (tgt := 180) (pc := 310) C dL_arePairs_310 (by decide) ?_
            exact mG_sub (mxLe_s (mxLe_s (mxLe_s (mxLe_s (mxLe_n (mxLe_s (mxLe_s (mxLe_s (mxLe_s (mxLe_n (mxLe_n mxLe_z))))))))))) (hK359 _ (Option.some.inj e364).symm _ _ (by omega) (by omega))
          refine mG_sub (ls' := [some (.ref p0), some (.int o6.1), some (.int o12.1), some (.int (o16 * o20)), none, some (.int jp119'.1), some (.int s354.1), some (.int s354.2.1), some (.int s354.2.2.1), some (.int 0), none]) (mxLe_s (mxLe_s (mxLe_s (mxLe_s (mxLe_n (mxLe_s (mxLe_s (mxLe_s (mxLe_s (mxLe_s (mxLe_n mxLe_z))))))))))) (mxLoop_indN (K := fun (N474 : Nat) (s471 : (Int32 × Int32 × Int32 × mxH)) => ∀ k472 n473 : Nat, k472 + 6 * N474 ≤ k355 + 6 * 21 → n473 + 36 * N474 ≤ n356 + 36 * 21 → mG l Z X 11 k472 n473 194 [some (.ref p0), some (.int o6.1), some (.int o12.1), some (.int (o16 * o20)), none, some (.int jp119'.1), some (.int s471.1), some (.int s471.2.1), some (.int s354.2.2.1), some (.int s471.2.2.1), none] [] s471.2.2.2) ?_ _ _ e479 _ _ (Nat.le_refl _) (Nat.le_refl _))
          intro N474 s471 o480 e481 hK476 hx477 k472 n473 hk482 hn483
          refine mG_iload (pc := 194) C dL_arePairs_194 rfl ?_
          refine mG_bp (pc := 196) C dL_arePairs_196 kB20 ?_
          refine mG_icmp_ge (pc := 198) (tgt := 307) C dL_arePairs_198 (by decide) (fun q484 => ?_) (fun q484 => ?_)
          · rw [if_pos q484] at e481
            exact mG_wd (by omega) (by omega) (mG_sub (mxLe_s (mxLe_s (mxLe_s (mxLe_s (mxLe_n (mxLe_s (mxLe_s (mxLe_s (mxLe_s (mxLe_n (mxLe_n mxLe_z))))))))))) (J475 _ (hx477 _ (Option.some.inj e481).symm)))
          · rw [if_neg q484] at e481
            refine mG_aload_n (pc := 201) C dL_arePairs_201 rfl ?_
            obtain ⟨r485, e486, e481⟩ := mx_bind e481
            refine mG_getR (pc := 202) C dL_arePairs_202 fl_L_18 e486 ?_
            refine mG_iload_n (pc := 205) C dL_arePairs_205 rfl ?_
            obtain ⟨r487, e488, e481⟩ := mx_bind e481
            refine mG_aaload (pc := 206) C dL_arePairs_206 e488 ?_
            refine mG_iload (pc := 207) C dL_arePairs_207 rfl ?_
            obtain ⟨v489, e490, e481⟩ := mx_bind e481
            refine mG_iaload (pc := 209) C dL_arePairs_209 e490 ?_
            obtain ⟨jp493, e494, e481⟩ := mx_bind e481
            have J492 : ∀ jp493' : (Int32 × Int32 × mxH), jp493' = jp493 → mG l Z X 11 (k472 + 6) (n473 + 36) 301 [some (.ref p0), some (.int o6.1), some (.int o12.1), some (.int (o16 * o20)), none, some (.int jp119'.1), some (.int jp493'.1), some (.int jp493'.2.1), some (.int s354.2.2.1), some (.int s471.2.2.1), none] [] jp493'.2.2 := by
              intro jp493' q577
              subst q577
              refine mG_ii (ls' := [some (.ref p0), some (.int o6.1), some (.int o12.1), some (.int (o16 * o20)), none, some (.int jp119'.1), some (.int jp493'.1), some (.int jp493'.2.1), some (.int s354.2.2.1), some (.int (s471.2.2.1 + 1)), none]) (pc := 301) C dL_arePairs_301 rfl (kinc1 _) rfl rfl rfl ?_
              refine mG_goto (tgt := 194) (pc := 304) C dL_arePairs_304 (by decide) ?_
              exact mG_sub (mxLe_s (mxLe_s (mxLe_s (mxLe_s (mxLe_n (mxLe_s (mxLe_s (mxLe_s (mxLe_s (mxLe_s (mxLe_n mxLe_z))))))))))) (hK476 _ (Option.some.inj e481).symm _ _ (by omega) (by omega))
            refine mG_if_lt (pc := 210) (tgt := 301) C dL_arePairs_210 (by decide) (fun q491 => ?_) (fun q491 => ?_)
            · rw [if_pos q491] at e494
              exact mG_wd (by omega) (by omega) (mG_sub (mxLe_s (mxLe_s (mxLe_s (mxLe_s (mxLe_n (mxLe_s (mxLe_s (mxLe_s (mxLe_s (mxLe_s (mxLe_n mxLe_z))))))))))) (J492 _ (Option.some.inj e494)))
            · rw [if_neg q491] at e494
              refine mG_aload_n (pc := 213) C dL_arePairs_213 rfl ?_
              obtain ⟨r536, e537, e494⟩ := mx_bind e494
              refine mG_getR (pc := 214) C dL_arePairs_214 fl_L_18 e537 ?_
              refine mG_iload_n (pc := 217) C dL_arePairs_217 rfl ?_
              obtain ⟨r538, e539, e494⟩ := mx_bind e494
              refine mG_aaload (pc := 218) C dL_arePairs_218 e539 ?_
              refine mG_iload (pc := 219) C dL_arePairs_219 rfl ?_
              obtain ⟨v540, e541, e494⟩ := mx_bind e494
              refine mG_iaload (pc := 221) C dL_arePairs_221 e541 ?_
              refine mG_if_ge (pc := 222) (tgt := 228) C dL_arePairs_222 (by decide) (fun q542 => ?_) (fun q542 => ?_)
              · rw [if_pos q542] at e494
                refine mG_aload_n (pc := 228) C dL_arePairs_228 rfl ?_
                obtain ⟨r543, e544, e494⟩ := mx_bind e494
                refine mG_getR (pc := 229) C dL_arePairs_229 fl_L_18 e544 ?_
                refine mG_iload_n (pc := 232) C dL_arePairs_232 rfl ?_
                obtain ⟨r545, e546, e494⟩ := mx_bind e494
                refine mG_aaload (pc := 233) C dL_arePairs_233 e546 ?_
                refine mG_iload (pc := 234) C dL_arePairs_234 rfl ?_
                obtain ⟨v547, e548, e494⟩ := mx_bind e494
                refine mG_iaload (pc := 236) C dL_arePairs_236 e548 ?_
                refine mG_aload_n (pc := 237) C dL_arePairs_237 rfl ?_
                obtain ⟨r549, e550, e494⟩ := mx_bind e494
                refine mG_getR (pc := 238) C dL_arePairs_238 fl_L_18 e550 ?_
                refine mG_iload_n (pc := 241) C dL_arePairs_241 rfl ?_
                obtain ⟨r551, e552, e494⟩ := mx_bind e494
                refine mG_aaload (pc := 242) C dL_arePairs_242 e552 ?_
                refine mG_iload (pc := 243) C dL_arePairs_243 rfl ?_
                obtain ⟨v553, e554, e494⟩ := mx_bind e494
                refine mG_iaload (pc := 245) C dL_arePairs_245 e554 ?_
                refine mG_iadd (pc := 246) C dL_arePairs_246 ?_
                refine mG_is (ls' := [some (.ref p0), some (.int o6.1), some (.int o12.1), some (.int (o16 * o20)), none, some (.int jp119'.1), some (.int s471.1), some (.int s471.2.1), some (.int s354.2.2.1), some (.int s471.2.2.1), some (.int (v547 + v553))]) (pc := 247) C dL_arePairs_247 rfl rfl rfl ?_
                refine mG_iload (pc := 249) C dL_arePairs_249 rfl ?_
                refine mG_iload (pc := 251) C dL_arePairs_251 rfl ?_
                refine mG_aload_n (pc := 253) C dL_arePairs_253 rfl ?_
                obtain ⟨r555, e556, e494⟩ := mx_bind e494
                refine mG_getR (pc := 254) C dL_arePairs_254 fl_L_10 e556 ?_
                refine mG_iload_n (pc := 257) C dL_arePairs_257 rfl ?_
                refine mG_iload_n (pc := 258) C dL_arePairs_258 rfl ?_
                refine mG_iload (pc := 259) C dL_arePairs_259 rfl ?_
                obtain ⟨u557, e558, e494⟩ := mx_bind e494
                obtain ⟨o560, e559, e494⟩ := mx_bind e494
                refine mG_cV2 (pc := 261) (k' := (k472 + 3)) (n' := (n473 + 18)) (h' := o560.2) (v := some (.int o560.1)) 9 [.int o6.1, .int o12.1, .int jp119'.1] [.int (v547 + v553), .int s471.1] C hX dL_arePairs_261 lkV_L_207 rfl rfl e558 (tX9_pairSum hl (mxOk_some e559)) rfl (by show k472 + 3 = (k472 + 3); omega) (by show n473 + 18 = (n473 + 18); omega) ⟨by show (k472 + 3) ≤ 2880; omega, by show (n473 + 18) ≤ 17280; omega⟩ rfl ?_
                obtain ⟨jp563, e564, e494⟩ := mx_bind e494
                have J562 : ∀ jp563' : Int32, jp563' = jp563 → mG l Z X 11 (k472 + 3) (n473 + 18) 272 [some (.ref p0), some (.int o6.1), some (.int o12.1), some (.int (o16 * o20)), none, some (.int jp119'.1), none, some (.int s471.2.1), some (.int s354.2.2.1), some (.int s471.2.2.1), some (.int (v547 + v553))] [.int jp563', .int s471.1] o560.2 := by
                  intro jp563' q576
                  subst q576
                  refine mG_iadd (pc := 272) C dL_arePairs_272 ?_
                  refine mG_is (ls' := [some (.ref p0), some (.int o6.1), some (.int o12.1), some (.int (o16 * o20)), none, some (.int jp119'.1), some (.int (s471.1 + jp563')), some (.int s471.2.1), some (.int s354.2.2.1), some (.int s471.2.2.1), some (.int (v547 + v553))]) (pc := 273) C dL_arePairs_273 rfl rfl rfl ?_
                  refine mG_iload (pc := 275) C dL_arePairs_275 rfl ?_
                  refine mG_iload (pc := 277) C dL_arePairs_277 rfl ?_
                  refine mG_aload_n (pc := 279) C dL_arePairs_279 rfl ?_
                  obtain ⟨r565, e566, e494⟩ := mx_bind e494
                  refine mG_getR (pc := 280) C dL_arePairs_280 fl_L_10 e566 ?_
                  refine mG_iload_n (pc := 283) C dL_arePairs_283 rfl ?_
                  refine mG_iload_n (pc := 284) C dL_arePairs_284 rfl ?_
                  refine mG_iload (pc := 285) C dL_arePairs_285 rfl ?_
                  obtain ⟨u567, e568, e494⟩ := mx_bind e494
                  obtain ⟨o570, e569, e494⟩ := mx_bind e494
                  refine mG_cV2 (pc := 287) (k' := (k472 + 6)) (n' := (n473 + 36)) (h' := o570.2) (v := some (.int o570.1)) 9 [.int o6.1, .int o12.1, .int jp119'.1] [.int (v547 + v553), .int s471.2.1] C hX dL_arePairs_287 lkV_L_207 rfl rfl e568 (tX9_pairSum hl (mxOk_some e569)) rfl (by show (k472 + 3) + 3 = (k472 + 6); omega) (by show (n473 + 18) + 18 = (n473 + 36); omega) ⟨by show (k472 + 6) ≤ 2880; omega, by show (n473 + 36) ≤ 17280; omega⟩ rfl ?_
                  obtain ⟨jp573, e574, e494⟩ := mx_bind e494
                  have J572 : ∀ jp573' : Int32, jp573' = jp573 → mG l Z X 11 (k472 + 6) (n473 + 36) 298 [some (.ref p0), some (.int o6.1), some (.int o12.1), some (.int (o16 * o20)), none, some (.int jp119'.1), some (.int (s471.1 + jp563')), none, some (.int s354.2.2.1), some (.int s471.2.2.1), none] [.int jp573', .int s471.2.1] o570.2 := by
                    intro jp573' q575
                    subst q575
                    refine mG_iadd (pc := 298) C dL_arePairs_298 ?_
                    refine mG_is (ls' := [some (.ref p0), some (.int o6.1), some (.int o12.1), some (.int (o16 * o20)), none, some (.int jp119'.1), some (.int (s471.1 + jp563')), some (.int (s471.2.1 + jp573')), some (.int s354.2.2.1), some (.int s471.2.2.1), none]) (pc := 299) C dL_arePairs_299 rfl rfl rfl ?_
                    exact mG_sub (mxLe_s (mxLe_s (mxLe_s (mxLe_s (mxLe_n (mxLe_s (mxLe_s (mxLe_s (mxLe_s (mxLe_s (mxLe_n mxLe_z))))))))))) (J492 _ (Option.some.inj e494))
                  refine mG_icmp_ne (pc := 290) (tgt := 297) C dL_arePairs_290 (by decide) (fun q571 => ?_) (fun q571 => ?_)
                  · rw [if_neg q571] at e574
                    refine mG_ic (pc := 297) C dL_arePairs_297 kI0 ?_
                    exact mG_sub (mxLe_s (mxLe_s (mxLe_s (mxLe_s (mxLe_n (mxLe_s (mxLe_s (mxLe_n (mxLe_s (mxLe_s (mxLe_n mxLe_z))))))))))) (J572 _ (Option.some.inj e574))
                  · rw [if_pos q571] at e574
                    refine mG_ic (pc := 293) C dL_arePairs_293 kI1 ?_
                    refine mG_goto (tgt := 298) (pc := 294) C dL_arePairs_294 (by decide) ?_
                    exact mG_sub (mxLe_s (mxLe_s (mxLe_s (mxLe_s (mxLe_n (mxLe_s (mxLe_s (mxLe_n (mxLe_s (mxLe_s (mxLe_n mxLe_z))))))))))) (J572 _ (Option.some.inj e574))
                refine mG_icmp_le (pc := 264) (tgt := 271) C dL_arePairs_264 (by decide) (fun q561 => ?_) (fun q561 => ?_)
                · rw [if_pos q561] at e564
                  refine mG_ic (pc := 271) C dL_arePairs_271 kI0 ?_
                  exact mG_sub (mxLe_s (mxLe_s (mxLe_s (mxLe_s (mxLe_n (mxLe_s (mxLe_n (mxLe_s (mxLe_s (mxLe_s (mxLe_s mxLe_z))))))))))) (J562 _ (Option.some.inj e564))
                · rw [if_neg q561] at e564
                  refine mG_ic (pc := 267) C dL_arePairs_267 kI1 ?_
                  refine mG_goto (tgt := 272) (pc := 268) C dL_arePairs_268 (by decide) ?_
                  exact mG_sub (mxLe_s (mxLe_s (mxLe_s (mxLe_s (mxLe_n (mxLe_s (mxLe_n (mxLe_s (mxLe_s (mxLe_s (mxLe_s mxLe_z))))))))))) (J562 _ (Option.some.inj e564))
              · rw [if_neg q542] at e494
                refine mG_goto (tgt := 301) (pc := 225) C dL_arePairs_225 (by decide) ?_
                exact mG_wd (by omega) (by omega) (mG_sub (mxLe_s (mxLe_s (mxLe_s (mxLe_s (mxLe_n (mxLe_s (mxLe_s (mxLe_s (mxLe_s (mxLe_s (mxLe_n mxLe_z))))))))))) (J492 _ (Option.some.inj e494)))
    refine mG_if_ne (pc := 154) (tgt := 161) C dL_arePairs_154 (by decide) (fun q117 => ?_) (fun q117 => ?_)
    · rw [if_neg q117] at e120
      refine mG_aload_n (pc := 161) C dL_arePairs_161 rfl ?_
      obtain ⟨r127, e128, e120⟩ := mx_bind e120
      refine mG_getR (pc := 162) C dL_arePairs_162 fl_L_25 e128 ?_
      refine mG_iload_n (pc := 165) C dL_arePairs_165 rfl ?_
      obtain ⟨u129, e130, e120⟩ := mx_bind e120
      obtain ⟨o132, e131, e120⟩ := mx_bind e120
      refine mG_cV2 (pc := 166) (k' := 169) (n' := 1014) (h' := o132.2) (v := some (.int o132.1)) 10 [.int (o16 * o20)] [] C hX dL_arePairs_166 lkV_L_30 rfl rfl e130 (tX10_next hl e131) rfl rfl rfl ⟨Nat.le_of_ble_eq_true rfl, Nat.le_of_ble_eq_true rfl⟩ rfl ?_
      exact mG_sub (mxLe_s (mxLe_s (mxLe_s (mxLe_s (mxLe_n (mxLe_n (mxLe_n (mxLe_n (mxLe_n (mxLe_n (mxLe_n mxLe_z))))))))))) (J118 _ (Option.some.inj e120))
    · rw [if_pos q117] at e120
      refine mG_ic (pc := 157) C dL_arePairs_157 kI0 ?_
      refine mG_goto (tgt := 169) (pc := 158) C dL_arePairs_158 (by decide) ?_
      exact mG_sub (mxLe_s (mxLe_s (mxLe_s (mxLe_s (mxLe_n (mxLe_n (mxLe_n (mxLe_n (mxLe_n (mxLe_n (mxLe_n mxLe_z))))))))))) (J118 _ (Option.some.inj e120))
  refine mG_sub (ls' := [some (.ref p0), some (.int o6.1), some (.int o12.1), some (.int (o16 * o20)), some (.int 2147483647), some (.int 0), none, none, none, none, none]) (mxLe_s (mxLe_s (mxLe_s (mxLe_s (mxLe_s (mxLe_s (mxLe_n (mxLe_n (mxLe_n (mxLe_n (mxLe_n mxLe_z))))))))))) (mxLoop_indN (K := fun (N67 : Nat) (s64 : (Int32 × Int32 × mxH)) => ∀ k65 n66 : Nat, k65 + 13 * N67 ≤ 0 + 13 * 13 → n66 + 78 * N67 ≤ 0 + 78 * 13 → mG l Z X 11 k65 n66 37 [some (.ref p0), some (.int o6.1), some (.int o12.1), some (.int (o16 * o20)), some (.int s64.1), some (.int s64.2.1), none, none, none, none, none] [] s64.2.2) ?_ _ _ e73 _ _ (Nat.le_refl _) (Nat.le_refl _))
  intro N67 s64 o74 e75 hK70 hx71 k65 n66 hk76 hn77
  refine mG_iload (pc := 37) C dL_arePairs_37 rfl ?_
  refine mG_iload_n (pc := 39) C dL_arePairs_39 rfl ?_
  refine mG_icmp_ge (pc := 40) (tgt := 153) C dL_arePairs_40 (by decide) (fun q78 => ?_) (fun q78 => ?_)
  · rw [if_pos q78] at e75
    exact mG_wd (by omega) (by omega) (mG_sub (mxLe_s (mxLe_s (mxLe_s (mxLe_s (mxLe_n (mxLe_n (mxLe_n (mxLe_n (mxLe_n (mxLe_n (mxLe_n mxLe_z))))))))))) (J69 _ (hx71 _ (Option.some.inj e75).symm)))
  · rw [if_neg q78] at e75
    refine mG_iload (pc := 43) C dL_arePairs_43 rfl ?_
    refine mG_bp (pc := 45) C dL_arePairs_45 kB12 ?_
    refine mG_icmp_ge (pc := 47) (tgt := 153) C dL_arePairs_47 (by decide) (fun q79 => ?_) (fun q79 => ?_)
    · rw [if_pos q79] at e75
      exact mG_wd (by omega) (by omega) (mG_sub (mxLe_s (mxLe_s (mxLe_s (mxLe_s (mxLe_n (mxLe_n (mxLe_n (mxLe_n (mxLe_n (mxLe_n (mxLe_n mxLe_z))))))))))) (J69 _ (hx71 _ (Option.some.inj e75).symm)))
    · rw [if_neg q79] at e75
      refine mG_aload_n (pc := 50) C dL_arePairs_50 rfl ?_
      obtain ⟨r80, e81, e75⟩ := mx_bind e75
      refine mG_getR (pc := 51) C dL_arePairs_51 fl_L_10 e81 ?_
      refine mG_iload_n (pc := 54) C dL_arePairs_54 rfl ?_
      refine mG_iload_n (pc := 55) C dL_arePairs_55 rfl ?_
      refine mG_iload (pc := 56) C dL_arePairs_56 rfl ?_
      obtain ⟨u82, e83, e75⟩ := mx_bind e75
      obtain ⟨o85, e84, e75⟩ := mx_bind e75
      refine mG_cV2 (pc := 58) (k' := (k65 + 3)) (n' := (n66 + 18)) (h' := o85.2) (v := some (.int o85.1)) 9 [.int o6.1, .int o12.1, .int s64.2.1] [] C hX dL_arePairs_58 lkV_L_207 rfl rfl e83 (tX9_pairSum hl (mxOk_some e84)) rfl (by show k65 + 3 = (k65 + 3); omega) (by show n66 + 18 = (n66 + 18); omega) ⟨by show (k65 + 3) ≤ 2880; omega, by show (n66 + 18) ≤ 17280; omega⟩ rfl ?_
      refine mG_is (ls' := [some (.ref p0), some (.int o6.1), some (.int o12.1), some (.int (o16 * o20)), some (.int s64.1), some (.int s64.2.1), some (.int o85.1), none, none, none, none]) (pc := 61) C dL_arePairs_61 rfl rfl rfl ?_
      refine mG_aload_n (pc := 63) C dL_arePairs_63 rfl ?_
      obtain ⟨r86, e87, e75⟩ := mx_bind e75
      refine mG_getR (pc := 64) C dL_arePairs_64 fl_L_10 e87 ?_
      refine mG_iload_n (pc := 67) C dL_arePairs_67 rfl ?_
      refine mG_iload_n (pc := 68) C dL_arePairs_68 rfl ?_
      refine mG_iload (pc := 69) C dL_arePairs_69 rfl ?_
      refine mG_ic (pc := 71) C dL_arePairs_71 kI0 ?_
      obtain ⟨u88, e89, e75⟩ := mx_bind e75
      obtain ⟨o91, e90, e75⟩ := mx_bind e75
      refine mG_cV2 (pc := 72) (k' := (k65 + 6)) (n' := (n66 + 36)) (h' := o91.2) (v := some (.int o91.1)) 9 [.int o6.1, .int o12.1, .int s64.2.1, .int 0] [] C hX dL_arePairs_72 lkV_L_210 rfl rfl e89 (tX9_pairPlace hl (mxOk_some e90)) rfl (by show (k65 + 3) + 3 = (k65 + 6); omega) (by show (n66 + 18) + 18 = (n66 + 36); omega) ⟨by show (k65 + 6) ≤ 2880; omega, by show (n66 + 36) ≤ 17280; omega⟩ rfl ?_
      refine mG_is (ls' := [some (.ref p0), some (.int o6.1), some (.int o12.1), some (.int (o16 * o20)), some (.int s64.1), some (.int s64.2.1), some (.int o85.1), some (.int o91.1), none, none, none]) (pc := 75) C dL_arePairs_75 rfl rfl rfl ?_
      refine mG_aload_n (pc := 77) C dL_arePairs_77 rfl ?_
      obtain ⟨r92, e93, e75⟩ := mx_bind e75
      refine mG_getR (pc := 78) C dL_arePairs_78 fl_L_10 e93 ?_
      refine mG_iload_n (pc := 81) C dL_arePairs_81 rfl ?_
      refine mG_iload_n (pc := 82) C dL_arePairs_82 rfl ?_
      refine mG_iload (pc := 83) C dL_arePairs_83 rfl ?_
      refine mG_ic (pc := 85) C dL_arePairs_85 kI1 ?_
      obtain ⟨u94, e95, e75⟩ := mx_bind e75
      obtain ⟨o97, e96, e75⟩ := mx_bind e75
      refine mG_cV2 (pc := 86) (k' := (k65 + 9)) (n' := (n66 + 54)) (h' := o97.2) (v := some (.int o97.1)) 9 [.int o6.1, .int o12.1, .int s64.2.1, .int 1] [] C hX dL_arePairs_86 lkV_L_210 rfl rfl e95 (tX9_pairPlace hl (mxOk_some e96)) rfl (by show (k65 + 6) + 3 = (k65 + 9); omega) (by show (n66 + 36) + 18 = (n66 + 54); omega) ⟨by show (k65 + 9) ≤ 2880; omega, by show (n66 + 54) ≤ 17280; omega⟩ rfl ?_
      refine mG_is (ls' := [some (.ref p0), some (.int o6.1), some (.int o12.1), some (.int (o16 * o20)), some (.int s64.1), some (.int s64.2.1), some (.int o85.1), some (.int o91.1), some (.int o97.1), none, none]) (pc := 89) C dL_arePairs_89 rfl rfl rfl ?_
      refine mG_iload (pc := 91) C dL_arePairs_91 rfl ?_
      refine mG_sp (pc := 93) C dL_arePairs_93 kS400 ?_
      refine mG_imul (pc := 96) C dL_arePairs_96 ?_
      refine mG_iload (pc := 97) C dL_arePairs_97 rfl ?_
      refine mG_bp (pc := 99) C dL_arePairs_99 kB20 ?_
      refine mG_imul (pc := 101) C dL_arePairs_101 ?_
      refine mG_isub (pc := 102) C dL_arePairs_102 ?_
      refine mG_iload (pc := 103) C dL_arePairs_103 rfl ?_
      refine mG_isub (pc := 105) C dL_arePairs_105 ?_
      refine mG_is (ls' := [some (.ref p0), some (.int o6.1), some (.int o12.1), some (.int (o16 * o20)), some (.int s64.1), some (.int s64.2.1), some (.int o85.1), some (.int o91.1), some (.int o97.1), some (.int (((o85.1 * 400) - (o91.1 * 20)) - o97.1)), none]) (pc := 106) C dL_arePairs_106 rfl rfl rfl ?_
      refine mG_aload_n (pc := 108) C dL_arePairs_108 rfl ?_
      obtain ⟨r98, e99, e75⟩ := mx_bind e75
      refine mG_getR (pc := 109) C dL_arePairs_109 fl_L_10 e99 ?_
      refine mG_iload_n (pc := 112) C dL_arePairs_112 rfl ?_
      refine mG_iload (pc := 113) C dL_arePairs_113 rfl ?_
      obtain ⟨u100, e101, e75⟩ := mx_bind e75
      obtain ⟨o103, e102, e75⟩ := mx_bind e75
      refine mG_cV2 (pc := 115) (k' := (k65 + 11)) (n' := (n66 + 66)) (h' := o103.2) (v := some (.int o103.1)) 9 [.int o6.1, .int o91.1] [] C hX dL_arePairs_115 lkV_L_120 rfl rfl e101 (tX9_markAt hl (mxOk_some e102)) rfl (by show (k65 + 9) + 2 = (k65 + 11); omega) (by show (n66 + 54) + 12 = (n66 + 66); omega) ⟨by show (k65 + 11) ≤ 2880; omega, by show (n66 + 66) ≤ 17280; omega⟩ rfl ?_
      refine mG_aload_n (pc := 118) C dL_arePairs_118 rfl ?_
      obtain ⟨r104, e105, e75⟩ := mx_bind e75
      refine mG_getR (pc := 119) C dL_arePairs_119 fl_L_10 e105 ?_
      refine mG_iload_n (pc := 122) C dL_arePairs_122 rfl ?_
      refine mG_iload (pc := 123) C dL_arePairs_123 rfl ?_
      obtain ⟨u106, e107, e75⟩ := mx_bind e75
      obtain ⟨o109, e108, e75⟩ := mx_bind e75
      refine mG_cV2 (pc := 125) (k' := (k65 + 13)) (n' := (n66 + 78)) (h' := o109.2) (v := some (.int o109.1)) 9 [.int o12.1, .int o97.1] [.int o103.1] C hX dL_arePairs_125 lkV_L_120 rfl rfl e107 (tX9_markAt hl (mxOk_some e108)) rfl (by show (k65 + 11) + 2 = (k65 + 13); omega) (by show (n66 + 66) + 12 = (n66 + 78); omega) ⟨by show (k65 + 13) ≤ 2880; omega, by show (n66 + 78) ≤ 17280; omega⟩ rfl ?_
      refine mG_iadd (pc := 128) C dL_arePairs_128 ?_
      refine mG_iload (pc := 129) C dL_arePairs_129 rfl ?_
      refine mG_icmp_ne (pc := 131) (tgt := 141) C dL_arePairs_131 (by decide) (fun q110 => ?_) (fun q110 => ?_)
      · rw [if_neg q110] at e75
        exact mG_wd (by omega) (by omega) (mG_sub (mxLe_n (mxLe_n (mxLe_n (mxLe_n (mxLe_n (mxLe_n (mxLe_n (mxLe_n (mxLe_n (mxLe_n (mxLe_n mxLe_z))))))))))) (J68 _ (hx71 _ (Option.some.inj e75).symm)))
      · rw [if_pos q110] at e75
        refine mG_iload (pc := 134) C dL_arePairs_134 rfl ?_
        refine mG_iload (pc := 136) C dL_arePairs_136 rfl ?_
        refine mG_icmp_lt (pc := 138) (tgt := 143) C dL_arePairs_138 (by decide) (fun q111 => ?_) (fun q111 => ?_)
        · rw [if_pos q111] at e75
          refine mG_iload (pc := 143) C dL_arePairs_143 rfl ?_
          refine mG_is (ls' := [some (.ref p0), some (.int o6.1), some (.int o12.1), some (.int (o16 * o20)), some (.int (((o85.1 * 400) - (o91.1 * 20)) - o97.1)), some (.int s64.2.1), some (.int o85.1), some (.int o91.1), some (.int o97.1), some (.int (((o85.1 * 400) - (o91.1 * 20)) - o97.1)), none]) (pc := 145) C dL_arePairs_145 rfl rfl rfl ?_
          refine mG_ii (ls' := [some (.ref p0), some (.int o6.1), some (.int o12.1), some (.int (o16 * o20)), some (.int (((o85.1 * 400) - (o91.1 * 20)) - o97.1)), some (.int (s64.2.1 + 1)), some (.int o85.1), some (.int o91.1), some (.int o97.1), some (.int (((o85.1 * 400) - (o91.1 * 20)) - o97.1)), none]) (pc := 147) C dL_arePairs_147 rfl (kinc1 _) rfl rfl rfl ?_
          refine mG_goto (tgt := 37) (pc := 150) C dL_arePairs_150 (by decide) ?_
          exact mG_sub (mxLe_s (mxLe_s (mxLe_s (mxLe_s (mxLe_s (mxLe_s (mxLe_n (mxLe_n (mxLe_n (mxLe_n (mxLe_n mxLe_z))))))))))) (hK70 _ (Option.some.inj e75).symm _ _ (by omega) (by omega))
        · rw [if_neg q111] at e75
          exact mG_wd (by omega) (by omega) (mG_sub (mxLe_n (mxLe_n (mxLe_n (mxLe_n (mxLe_n (mxLe_n (mxLe_n (mxLe_n (mxLe_n (mxLe_n (mxLe_n mxLe_z))))))))))) (J68 _ (hx71 _ (Option.some.inj e75).symm)))
