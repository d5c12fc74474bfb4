/-! printed by wip/gen54/emit2.py: for each method its function on the mini machine, and that the machine walks as the function says -/
theorem dL_isRightToStop_0 : decode cL_isRightToStop 0 = .ok (.aload_n 0, 1) := by decide +kernel
theorem dL_isRightToStop_1 : decode cL_isRightToStop 1 = .ok (.getfield 10, 3) := by decide +kernel
theorem dL_isRightToStop_4 : decode cL_isRightToStop 4 = .ok (.iload_n 1, 1) := by decide +kernel
theorem dL_isRightToStop_5 : decode cL_isRightToStop 5 = .ok (.invokevirtual 132, 3) := by decide +kernel
theorem dL_isRightToStop_8 : decode cL_isRightToStop 8 = .ok (.istore_n 2, 1) := by decide +kernel
theorem dL_isRightToStop_9 : decode cL_isRightToStop 9 = .ok (.aload_n 0, 1) := by decide +kernel
theorem dL_isRightToStop_10 : decode cL_isRightToStop 10 = .ok (.invokevirtual 135, 3) := by decide +kernel
theorem dL_isRightToStop_13 : decode cL_isRightToStop 13 = .ok (.istore_n 3, 1) := by decide +kernel
theorem dL_isRightToStop_14 : decode cL_isRightToStop 14 = .ok (.iload_n 2, 1) := by decide +kernel
theorem dL_isRightToStop_15 : decode cL_isRightToStop 15 = .ok (.iload_n 3, 1) := by decide +kernel
theorem dL_isRightToStop_16 : decode cL_isRightToStop 16 = .ok (.if_icmp .gt 17, 3) := by decide +kernel
theorem dL_isRightToStop_19 : decode cL_isRightToStop 19 = .ok (.iload_n 2, 1) := by decide +kernel
theorem dL_isRightToStop_20 : decode cL_isRightToStop 20 = .ok (.iload_n 3, 1) := by decide +kernel
theorem dL_isRightToStop_21 : decode cL_isRightToStop 21 = .ok (.if_icmp .ge 14, 3) := by decide +kernel
theorem dL_isRightToStop_24 : decode cL_isRightToStop 24 = .ok (.aload_n 0, 1) := by decide +kernel
theorem dL_isRightToStop_25 : decode cL_isRightToStop 25 = .ok (.iload_n 1, 1) := by decide +kernel
theorem dL_isRightToStop_26 : decode cL_isRightToStop 26 = .ok (.iload_n 2, 1) := by decide +kernel
theorem dL_isRightToStop_27 : decode cL_isRightToStop 27 = .ok (.invokevirtual 138, 3) := by decide +kernel
theorem dL_isRightToStop_30 : decode cL_isRightToStop 30 = .ok (.ifCond .ne 5, 3) := by decide +kernel
theorem dL_isRightToStop_33 : decode cL_isRightToStop 33 = .ok (.iconst 0, 1) := by decide +kernel
theorem dL_isRightToStop_34 : decode cL_isRightToStop 34 = .ok (.ireturn, 1) := by decide +kernel
theorem dL_isRightToStop_35 : decode cL_isRightToStop 35 = .ok (.aload_n 0, 1) := by decide +kernel
theorem dL_isRightToStop_36 : decode cL_isRightToStop 36 = .ok (.bipush 20, 2) := by decide +kernel
theorem dL_isRightToStop_38 : decode cL_isRightToStop 38 = .ok (.invokevirtual 99, 3) := by decide +kernel
theorem dL_isRightToStop_41 : decode cL_isRightToStop 41 = .ok (.astore 4, 2) := by decide +kernel
theorem dL_isRightToStop_43 : decode cL_isRightToStop 43 = .ok (.iload_n 1, 1) := by decide +kernel
theorem dL_isRightToStop_44 : decode cL_isRightToStop 44 = .ok (.aload 4, 2) := by decide +kernel
theorem dL_isRightToStop_46 : decode cL_isRightToStop 46 = .ok (.arraylength, 1) := by decide +kernel
theorem dL_isRightToStop_47 : decode cL_isRightToStop 47 = .ok (.invokestatic 72, 3) := by decide +kernel
theorem dL_isRightToStop_50 : decode cL_isRightToStop 50 = .ok (.istore 5, 2) := by decide +kernel
theorem dL_isRightToStop_52 : decode cL_isRightToStop 52 = .ok (.iconst 0, 1) := by decide +kernel
theorem dL_isRightToStop_53 : decode cL_isRightToStop 53 = .ok (.istore 6, 2) := by decide +kernel
theorem dL_isRightToStop_55 : decode cL_isRightToStop 55 = .ok (.iload 6, 2) := by decide +kernel
theorem dL_isRightToStop_57 : decode cL_isRightToStop 57 = .ok (.iload 5, 2) := by decide +kernel
theorem dL_isRightToStop_59 : decode cL_isRightToStop 59 = .ok (.if_icmp .ge 37, 3) := by decide +kernel
theorem dL_isRightToStop_62 : decode cL_isRightToStop 62 = .ok (.aload_n 0, 1) := by decide +kernel
theorem dL_isRightToStop_63 : decode cL_isRightToStop 63 = .ok (.aload_n 0, 1) := by decide +kernel
theorem dL_isRightToStop_64 : decode cL_isRightToStop 64 = .ok (.getfield 10, 3) := by decide +kernel
theorem dL_isRightToStop_67 : decode cL_isRightToStop 67 = .ok (.iload_n 1, 1) := by decide +kernel
theorem dL_isRightToStop_68 : decode cL_isRightToStop 68 = .ok (.iload 6, 2) := by decide +kernel
theorem dL_isRightToStop_70 : decode cL_isRightToStop 70 = .ok (.invokevirtual 141, 3) := by decide +kernel
theorem dL_isRightToStop_73 : decode cL_isRightToStop 73 = .ok (.invokevirtual 90, 3) := by decide +kernel
theorem dL_isRightToStop_76 : decode cL_isRightToStop 76 = .ok (.aload_n 0, 1) := by decide +kernel
theorem dL_isRightToStop_77 : decode cL_isRightToStop 77 = .ok (.aload 4, 2) := by decide +kernel
theorem dL_isRightToStop_79 : decode cL_isRightToStop 79 = .ok (.iload 6, 2) := by decide +kernel
theorem dL_isRightToStop_81 : decode cL_isRightToStop 81 = .ok (.iaload, 1) := by decide +kernel
theorem dL_isRightToStop_82 : decode cL_isRightToStop 82 = .ok (.invokevirtual 90, 3) := by decide +kernel
theorem dL_isRightToStop_85 : decode cL_isRightToStop 85 = .ok (.if_icmp .eq 5, 3) := by decide +kernel
theorem dL_isRightToStop_88 : decode cL_isRightToStop 88 = .ok (.iconst 0, 1) := by decide +kernel
theorem dL_isRightToStop_89 : decode cL_isRightToStop 89 = .ok (.ireturn, 1) := by decide +kernel
theorem dL_isRightToStop_90 : decode cL_isRightToStop 90 = .ok (.iinc 6 1, 3) := by decide +kernel
theorem dL_isRightToStop_93 : decode cL_isRightToStop 93 = .ok (.goto (-38), 3) := by decide +kernel
theorem dL_isRightToStop_96 : decode cL_isRightToStop 96 = .ok (.iconst 0, 1) := by decide +kernel
theorem dL_isRightToStop_97 : decode cL_isRightToStop 97 = .ok (.istore 6, 2) := by decide +kernel
theorem dL_isRightToStop_99 : decode cL_isRightToStop 99 = .ok (.iconst 0, 1) := by decide +kernel
theorem dL_isRightToStop_100 : decode cL_isRightToStop 100 = .ok (.istore 7, 2) := by decide +kernel
theorem dL_isRightToStop_102 : decode cL_isRightToStop 102 = .ok (.iload 7, 2) := by decide +kernel
theorem dL_isRightToStop_104 : decode cL_isRightToStop 104 = .ok (.iconst 5, 1) := by decide +kernel
theorem dL_isRightToStop_105 : decode cL_isRightToStop 105 = .ok (.if_icmp .ge 24, 3) := by decide +kernel
theorem dL_isRightToStop_108 : decode cL_isRightToStop 108 = .ok (.iload 6, 2) := by decide +kernel
theorem dL_isRightToStop_110 : decode cL_isRightToStop 110 = .ok (.aload_n 0, 1) := by decide +kernel
theorem dL_isRightToStop_111 : decode cL_isRightToStop 111 = .ok (.iload 7, 2) := by decide +kernel
theorem dL_isRightToStop_113 : decode cL_isRightToStop 113 = .ok (.invokevirtual 126, 3) := by decide +kernel
theorem dL_isRightToStop_116 : decode cL_isRightToStop 116 = .ok (.iload_n 2, 1) := by decide +kernel
theorem dL_isRightToStop_117 : decode cL_isRightToStop 117 = .ok (.invokestatic 72, 3) := by decide +kernel
theorem dL_isRightToStop_120 : decode cL_isRightToStop 120 = .ok (.iadd, 1) := by decide +kernel
theorem dL_isRightToStop_121 : decode cL_isRightToStop 121 = .ok (.istore 6, 2) := by decide +kernel
theorem dL_isRightToStop_123 : decode cL_isRightToStop 123 = .ok (.iinc 7 1, 3) := by decide +kernel
theorem dL_isRightToStop_126 : decode cL_isRightToStop 126 = .ok (.goto (-24), 3) := by decide +kernel
theorem dL_isRightToStop_129 : decode cL_isRightToStop 129 = .ok (.aload_n 0, 1) := by decide +kernel
theorem dL_isRightToStop_130 : decode cL_isRightToStop 130 = .ok (.getfield 10, 3) := by decide +kernel
theorem dL_isRightToStop_133 : decode cL_isRightToStop 133 = .ok (.iload_n 1, 1) := by decide +kernel
theorem dL_isRightToStop_134 : decode cL_isRightToStop 134 = .ok (.invokevirtual 144, 3) := by decide +kernel
theorem dL_isRightToStop_137 : decode cL_isRightToStop 137 = .ok (.iload 6, 2) := by decide +kernel
theorem dL_isRightToStop_139 : decode cL_isRightToStop 139 = .ok (.iconst 4, 1) := by decide +kernel
theorem dL_isRightToStop_140 : decode cL_isRightToStop 140 = .ok (.aload_n 0, 1) := by decide +kernel
theorem dL_isRightToStop_141 : decode cL_isRightToStop 141 = .ok (.iload_n 2, 1) := by decide +kernel
theorem dL_isRightToStop_142 : decode cL_isRightToStop 142 = .ok (.invokevirtual 99, 3) := by decide +kernel
theorem dL_isRightToStop_145 : decode cL_isRightToStop 145 = .ok (.arraylength, 1) := by decide +kernel
theorem dL_isRightToStop_146 : decode cL_isRightToStop 146 = .ok (.imul, 1) := by decide +kernel
theorem dL_isRightToStop_147 : decode cL_isRightToStop 147 = .ok (.iadd, 1) := by decide +kernel
theorem dL_isRightToStop_148 : decode cL_isRightToStop 148 = .ok (.if_icmp .eq 5, 3) := by decide +kernel
theorem dL_isRightToStop_151 : decode cL_isRightToStop 151 = .ok (.iconst 0, 1) := by decide +kernel
theorem dL_isRightToStop_152 : decode cL_isRightToStop 152 = .ok (.ireturn, 1) := by decide +kernel
theorem dL_isRightToStop_153 : decode cL_isRightToStop 153 = .ok (.iload_n 2, 1) := by decide +kernel
theorem dL_isRightToStop_154 : decode cL_isRightToStop 154 = .ok (.ifCond .eq 30, 3) := by decide +kernel
theorem dL_isRightToStop_157 : decode cL_isRightToStop 157 = .ok (.aload_n 0, 1) := by decide +kernel
theorem dL_isRightToStop_158 : decode cL_isRightToStop 158 = .ok (.iload_n 1, 1) := by decide +kernel
theorem dL_isRightToStop_159 : decode cL_isRightToStop 159 = .ok (.aload_n 0, 1) := by decide +kernel
theorem dL_isRightToStop_160 : decode cL_isRightToStop 160 = .ok (.getfield 25, 3) := by decide +kernel
theorem dL_isRightToStop_163 : decode cL_isRightToStop 163 = .ok (.iload_n 2, 1) := by decide +kernel
theorem dL_isRightToStop_164 : decode cL_isRightToStop 164 = .ok (.invokevirtual 30, 3) := by decide +kernel
theorem dL_isRightToStop_167 : decode cL_isRightToStop 167 = .ok (.invokevirtual 147, 3) := by decide +kernel
theorem dL_isRightToStop_170 : decode cL_isRightToStop 170 = .ok (.ifCond .eq 18, 3) := by decide +kernel
theorem dL_isRightToStop_173 : decode cL_isRightToStop 173 = .ok (.aload_n 0, 1) := by decide +kernel
theorem dL_isRightToStop_174 : decode cL_isRightToStop 174 = .ok (.iload_n 1, 1) := by decide +kernel
theorem dL_isRightToStop_175 : decode cL_isRightToStop 175 = .ok (.iload_n 2, 1) := by decide +kernel
theorem dL_isRightToStop_176 : decode cL_isRightToStop 176 = .ok (.iconst 1, 1) := by decide +kernel
theorem dL_isRightToStop_177 : decode cL_isRightToStop 177 = .ok (.isub, 1) := by decide +kernel
theorem dL_isRightToStop_178 : decode cL_isRightToStop 178 = .ok (.invokevirtual 147, 3) := by decide +kernel
theorem dL_isRightToStop_181 : decode cL_isRightToStop 181 = .ok (.ifCond .eq 7, 3) := by decide +kernel
theorem dL_isRightToStop_184 : decode cL_isRightToStop 184 = .ok (.iconst 1, 1) := by decide +kernel
theorem dL_isRightToStop_185 : decode cL_isRightToStop 185 = .ok (.goto 4, 3) := by decide +kernel
theorem dL_isRightToStop_188 : decode cL_isRightToStop 188 = .ok (.iconst 0, 1) := by decide +kernel
theorem dL_isRightToStop_189 : decode cL_isRightToStop 189 = .ok (.ireturn, 1) := by decide +kernel
def fL_isRightToStop (p0 : Nat) (p1 : Int32) (h : mxH) : Option (Int32 × mxH) := Option.bind (gR h p0 11 0) (fun r1 => Option.bind (isO h r1 9) (fun u3 => Option.bind (mxOk (fX9_stopDepth r1 p1 h)) (fun o6 => Option.bind (isO o6.2 p0 11) (fun u7 => Option.bind (fL_longest p0 o6.2) (fun o10 => (if o10 < o6.1 then Option.bind (mxZ1 0) (fun v12 => some (v12, o6.2)) else (if o10 ≤ o6.1 then Option.bind (isO o6.2 p0 11) (fun u15 => Option.bind (fL_ranking p0 20 o6.2) (fun o18 => Option.bind (lenA o18.2 o18.1) (fun v19 => Option.bind (mxLoop (ρ := (mxH ⊕ mxH)) (fun s48 : (Int32 × mxH) => (if (mxMin p1 v19) ≤ s48.1 then some (Sum.inr (Sum.inr s48.2)) else Option.bind (gR s48.2 p0 11 0) (fun r63 => Option.bind (isO s48.2 r63 9) (fun u65 => Option.bind (mxOk (fX9_best r63 p1 s48.1 s48.2)) (fun o68 => Option.bind (isO o68.2 p0 11) (fun u69 => Option.bind (fL_value p0 o68.1 o68.2) (fun o72 => Option.bind (ldI o72.2 o18.1 s48.1) (fun v73 => Option.bind (isO o72.2 p0 11) (fun u75 => Option.bind (fL_value p0 v73 o72.2) (fun o78 => (if o72.1 = o78.1 then some (Sum.inl (s48.1 + 1, o78.2)) else some (Sum.inr (Sum.inl o78.2))))))))))))) 21 (0, o18.2)) (Sum.elim (fun r80 : mxH => Option.bind (mxZ1 0) (fun v81 => some (v81, r80))) (fun r84 : mxH => Option.bind (mxLoop (ρ := Int32) (fun s85 : (Int32 × Int32) => (if 5 ≤ s85.2 then some (Sum.inr s85.1) else Option.bind (isO r84 p0 11) (fun u94 => Option.bind (fL_items p0 s85.2 r84) (fun o97 => some (Sum.inl (s85.1 + (mxMin o97 o6.1), s85.2 + 1)))))) mxF (0, 0)) (fun r98 : Int32 => Option.bind (gR r84 p0 11 0) (fun r99 => Option.bind (isO r84 r99 9) (fun u101 => Option.bind (mxOk (fX9_cost r99 p1 r84)) (fun o104 => Option.bind (isO o104.2 p0 11) (fun u105 => Option.bind (fL_ranking p0 o6.1 o104.2) (fun o108 => Option.bind (lenA o108.2 o108.1) (fun v109 => (if o104.1 = (r98 + (4 * v109)) then Option.bind (α := (Int32 × mxH)) (if o6.1 = 0 then some (1, o108.2) else Option.bind (gR o108.2 p0 11 1) (fun r132 => Option.bind (isO o108.2 r132 10) (fun u134 => Option.bind (fX10_next r132 o6.1 o108.2) (fun o137 => Option.bind (isO o137.2 p0 11) (fun u138 => Option.bind (fL_isRefuted p0 p1 o137.1 o137.2) (fun o141 => (if o141.1 = 0 then some (0, o141.2) else Option.bind (isO o141.2 p0 11) (fun u143 => Option.bind (fL_isRefuted p0 p1 (o6.1 - 1) o141.2) (fun o146 => (if o146.1 = 0 then some (0, o146.2) else some (1, o146.2))))))))))) (fun jp114' : (Int32 × mxH) => Option.bind (mxZ1 jp114'.1) (fun v148 => some (v148, jp114'.2))) else Option.bind (mxZ1 0) (fun v151 => some (v151, o108.2))))))))))))))) else Option.bind (isO o6.2 p0 11) (fun u155 => Option.bind (fL_isEnough p0 p1 o6.1 o6.2) (fun o158 => (if o158.1 = 0 then Option.bind (mxZ1 0) (fun v300 => some (v300, o158.2)) else Option.bind (isO o158.2 p0 11) (fun u160 => Option.bind (fL_ranking p0 20 o158.2) (fun o163 => Option.bind (lenA o163.2 o163.1) (fun v164 => Option.bind (mxLoop (ρ := (mxH ⊕ mxH)) (fun s193 : (Int32 × mxH) => (if (mxMin p1 v164) ≤ s193.1 then some (Sum.inr (Sum.inr s193.2)) else Option.bind (gR s193.2 p0 11 0) (fun r208 => Option.bind (isO s193.2 r208 9) (fun u210 => Option.bind (mxOk (fX9_best r208 p1 s193.1 s193.2)) (fun o213 => Option.bind (isO o213.2 p0 11) (fun u214 => Option.bind (fL_value p0 o213.1 o213.2) (fun o217 => Option.bind (ldI o217.2 o163.1 s193.1) (fun v218 => Option.bind (isO o217.2 p0 11) (fun u220 => Option.bind (fL_value p0 v218 o217.2) (fun o223 => (if o217.1 = o223.1 then some (Sum.inl (s193.1 + 1, o223.2)) else some (Sum.inr (Sum.inl o223.2))))))))))))) 21 (0, o163.2)) (Sum.elim (fun r225 : mxH => Option.bind (mxZ1 0) (fun v226 => some (v226, r225))) (fun r229 : mxH => Option.bind (mxLoop (ρ := Int32) (fun s230 : (Int32 × Int32) => (if 5 ≤ s230.2 then some (Sum.inr s230.1) else Option.bind (isO r229 p0 11) (fun u239 => Option.bind (fL_items p0 s230.2 r229) (fun o242 => some (Sum.inl (s230.1 + (mxMin o242 o6.1), s230.2 + 1)))))) mxF (0, 0)) (fun r243 : Int32 => Option.bind (gR r229 p0 11 0) (fun r244 => Option.bind (isO r229 r244 9) (fun u246 => Option.bind (mxOk (fX9_cost r244 p1 r229)) (fun o249 => Option.bind (isO o249.2 p0 11) (fun u250 => Option.bind (fL_ranking p0 o6.1 o249.2) (fun o253 => Option.bind (lenA o253.2 o253.1) (fun v254 => (if o249.1 = (r243 + (4 * v254)) then Option.bind (α := (Int32 × mxH)) (if o6.1 = 0 then some (1, o253.2) else Option.bind (gR o253.2 p0 11 1) (fun r277 => Option.bind (isO o253.2 r277 10) (fun u279 => Option.bind (fX10_next r277 o6.1 o253.2) (fun o282 => Option.bind (isO o282.2 p0 11) (fun u283 => Option.bind (fL_isRefuted p0 p1 o282.1 o282.2) (fun o286 => (if o286.1 = 0 then some (0, o286.2) else Option.bind (isO o286.2 p0 11) (fun u288 => Option.bind (fL_isRefuted p0 p1 (o6.1 - 1) o286.2) (fun o291 => (if o291.1 = 0 then some (0, o291.2) else some (1, o291.2))))))))))) (fun jp259' : (Int32 × mxH) => Option.bind (mxZ1 jp259'.1) (fun v293 => some (v293, jp259'.2))) else Option.bind (mxZ1 0) (fun v296 => some (v296, o253.2)))))))))))))))))))))))))
abbrev rmL_isRightToStop : Room := { frames := 9, cells := 4568, slots := 23084, locals := 192 }
set_option maxRecDepth 20000 in
set_option maxHeartbeats 1000000 in
theorem tL_isRightToStop {l : Launch} {Z : mxZ} (hl : l.stackTraces = false) {p0 : Nat} {p1 : Int32} {h : mxH} {out : (Int32 × mxH)} (hf : fL_isRightToStop p0 p1 h = some out) : mxMet l Z yL_isRightToStop cL_isRightToStop 8 (some .boolean) rmL_isRightToStop [.ref p0, .int p1] h (.inl (some (.int out.1))) out.2 := by
  refine mxMet_of (by decide) hl (by simp [Value.category]) (Nat.le_of_ble_eq_true rfl) ?_
  intro X C E hX hin
  unfold fL_isRightToStop at hf
  refine mG_aload_n (pc := 0) C dL_isRightToStop_0 rfl ?_
  obtain ⟨r1, e2, hf⟩ := mx_bind hf
  refine mG_getR (pc := 1) C dL_isRightToStop_1 fl_L_10 e2 ?_
  refine mG_iload_n (pc := 4) C dL_isRightToStop_4 rfl ?_
  obtain ⟨u3, e4, hf⟩ := mx_bind hf
  obtain ⟨o6, e5, hf⟩ := mx_bind hf
  refine mG_cV2 (pc := 5) (k' := 1) (n' := 6) (h' := o6.2) (v := some (.int o6.1)) 9 [.int p1] [] C hX dL_isRightToStop_5 lkV_L_132 rfl rfl e4 (tX9_stopDepth hl (mxOk_some e5)) rfl rfl rfl ⟨Nat.le_of_ble_eq_true rfl, Nat.le_of_ble_eq_true rfl⟩ rfl ?_
  refine mG_isn (ls' := [some (.ref p0), some (.int p1), some (.int o6.1), none, none, none, none, none]) (pc := 8) C dL_isRightToStop_8 rfl rfl rfl ?_
  refine mG_aload_n (pc := 9) C dL_isRightToStop_9 rfl ?_
  obtain ⟨u7, e8, hf⟩ := mx_bind hf
  obtain ⟨o10, e9, hf⟩ := mx_bind hf
  refine mG_cV2 (pc := 10) (k' := 1) (n' := 6) (h' := o6.2) (v := some (.int o10)) 11 [] [] C hX dL_isRightToStop_10 lkV_L_135 rfl rfl e8 (tL_longest hl e9) rfl rfl rfl ⟨Nat.le_of_ble_eq_true rfl, Nat.le_of_ble_eq_true rfl⟩ rfl ?_
  refine mG_isn (ls' := [some (.ref p0), some (.int p1), some (.int o6.1), some (.int o10), none, none, none, none]) (pc := 13) C dL_isRightToStop_13 rfl rfl rfl ?_
  refine mG_iload_n (pc := 14) C dL_isRightToStop_14 rfl ?_
  refine mG_iload_n (pc := 15) C dL_isRightToStop_15 rfl ?_
  refine mG_icmp_gt (pc := 16) (tgt := 33) C dL_isRightToStop_16 (by decide) (fun q11 => ?_) (fun q11 => ?_)
  · rw [if_pos q11] at hf
    refine mG_ic (pc := 33) C dL_isRightToStop_33 kI0 ?_
    obtain ⟨v12, e13, hf⟩ := mx_bind hf
    cases hf
    exact mG_zr2 (pc := 34) C e13 E hX dL_isRightToStop_34 ⟨Nat.le_of_ble_eq_true rfl, Nat.le_of_ble_eq_true rfl⟩
  · rw [if_neg q11] at hf
    refine mG_iload_n (pc := 19) C dL_isRightToStop_19 rfl ?_
    refine mG_iload_n (pc := 20) C dL_isRightToStop_20 rfl ?_
    refine mG_icmp_ge (pc := 21) (tgt := 35) C dL_isRightToStop_21 (by decide) (fun q14 => ?_) (fun q14 => ?_)
    · rw [if_pos q14] at hf
      refine mG_aload_n (pc := 35) C dL_isRightToStop_35 rfl ?_
      refine mG_bp (pc := 36) C dL_isRightToStop_36 kB20 ?_
      obtain ⟨u15, e16, hf⟩ := mx_bind hf
      obtain ⟨o18, e17, hf⟩ := mx_bind hf
      refine mG_cV2 (pc := 38) (k' := 885) (n' := 4456) (h' := o18.2) (v := some (.ref o18.1)) 11 [.int 20] [] C hX dL_isRightToStop_38 lkV_L_99 rfl rfl e16 (tL_ranking hl e17) rfl rfl rfl ⟨Nat.le_of_ble_eq_true rfl, Nat.le_of_ble_eq_true rfl⟩ rfl ?_
      refine mG_as (ls' := [some (.ref p0), some (.int p1), some (.int o6.1), some (.int o10), some (.ref o18.1), none, none, none]) (pc := 41) C dL_isRightToStop_41 rfl rfl rfl ?_
      refine mG_iload_n (pc := 43) C dL_isRightToStop_43 rfl ?_
      refine mG_aload (pc := 44) C dL_isRightToStop_44 rfl ?_
      obtain ⟨v19, e20, hf⟩ := mx_bind hf
      refine mG_arraylength (pc := 46) C dL_isRightToStop_46 e20 ?_
      refine mG_mn2 (pc := 47) C hX dL_isRightToStop_47 w718 wmin rfl ⟨Nat.le_of_ble_eq_true rfl, Nat.le_of_ble_eq_true rfl⟩ rfl ?_
      refine mG_is (ls' := [some (.ref p0), some (.int p1), some (.int o6.1), some (.int o10), some (.ref o18.1), some (.int (mxMin p1 v19)), none, none]) (pc := 50) C dL_isRightToStop_50 rfl rfl rfl ?_
      refine mG_ic (pc := 52) C dL_isRightToStop_52 kI0 ?_
      refine mG_is (ls' := [some (.ref p0), some (.int p1), some (.int o6.1), some (.int o10), some (.ref o18.1), some (.int (mxMin p1 v19)), some (.int 0), none]) (pc := 53) C dL_isRightToStop_53 rfl rfl rfl ?_
      obtain ⟨r56, e57, hf⟩ := mx_bind hf
      have J52 : ∀ r80 : mxH, Sum.inl r80 = r56 → mG l Z X 8 969 4918 88 [none, none, none, none, none, none, none, none] [] r80 := by
        intro r80 q83
        subst q83
        rw [Sum.elim_inl] at hf
        refine mG_ic (pc := 88) C dL_isRightToStop_88 kI0 ?_
        obtain ⟨v81, e82, hf⟩ := mx_bind hf
        cases hf
        exact mG_zr2 (pc := 89) C e82 E hX dL_isRightToStop_89 ⟨Nat.le_of_ble_eq_true rfl, Nat.le_of_ble_eq_true rfl⟩
      have J53 : ∀ r84 : mxH, Sum.inr r84 = r56 → mG l Z X 8 969 4918 96 [some (.ref p0), some (.int p1), some (.int o6.1), none, none, none, none, none] [] r84 := by
        intro r84 q154
        subst q154
        rw [Sum.elim_inr] at hf
        refine mG_ic (pc := 96) C dL_isRightToStop_96 kI0 ?_
        refine mG_is (ls' := [some (.ref p0), some (.int p1), some (.int o6.1), none, none, none, some (.int 0), none]) (pc := 97) C dL_isRightToStop_97 rfl rfl rfl ?_
        refine mG_ic (pc := 99) C dL_isRightToStop_99 kI0 ?_
        refine mG_is (ls' := [some (.ref p0), some (.int p1), some (.int o6.1), none, none, none, some (.int 0), some (.int 0)]) (pc := 100) C dL_isRightToStop_100 rfl rfl rfl ?_
        obtain ⟨r86, e87, hf⟩ := mx_bind hf
        have J88 : ∀ r98 : Int32, r98 = r86 → mG l Z X 8 969 4918 129 [some (.ref p0), some (.int p1), some (.int o6.1), none, none, none, some (.int r98), none] [] r84 := by
          intro r98 q153
          subst q153
          refine mG_aload_n (pc := 129) C dL_isRightToStop_129 rfl ?_
          obtain ⟨r99, e100, hf⟩ := mx_bind hf
          refine mG_getR (pc := 130) C dL_isRightToStop_130 fl_L_10 e100 ?_
          refine mG_iload_n (pc := 133) C dL_isRightToStop_133 rfl ?_
          obtain ⟨u101, e102, hf⟩ := mx_bind hf
          obtain ⟨o104, e103, hf⟩ := mx_bind hf
          refine mG_cV2 (pc := 134) (k' := 970) (n' := 4924) (h' := o104.2) (v := some (.int o104.1)) 9 [.int p1] [] C hX dL_isRightToStop_134 lkV_L_144 rfl rfl e102 (tX9_cost hl (mxOk_some e103)) rfl rfl rfl ⟨Nat.le_of_ble_eq_true rfl, Nat.le_of_ble_eq_true rfl⟩ rfl ?_
          refine mG_iload (pc := 137) C dL_isRightToStop_137 rfl ?_
          refine mG_ic (pc := 139) C dL_isRightToStop_139 kI4 ?_
          refine mG_aload_n (pc := 140) C dL_isRightToStop_140 rfl ?_
          refine mG_iload_n (pc := 141) C dL_isRightToStop_141 rfl ?_
          obtain ⟨u105, e106, hf⟩ := mx_bind hf
          obtain ⟨o108, e107, hf⟩ := mx_bind hf
          refine mG_cV2 (pc := 142) (k' := 1854) (n' := 9374) (h' := o108.2) (v := some (.ref o108.1)) 11 [.int o6.1] [.int 4, .int r98, .int o104.1] C hX dL_isRightToStop_142 lkV_L_99 rfl rfl e106 (tL_ranking hl e107) rfl rfl rfl ⟨Nat.le_of_ble_eq_true rfl, Nat.le_of_ble_eq_true rfl⟩ rfl ?_
          obtain ⟨v109, e110, hf⟩ := mx_bind hf
          refine mG_arraylength (pc := 145) C dL_isRightToStop_145 e110 ?_
          refine mG_imul (pc := 146) C dL_isRightToStop_146 ?_
          refine mG_iadd (pc := 147) C dL_isRightToStop_147 ?_
          refine mG_icmp_eq (pc := 148) (tgt := 153) C dL_isRightToStop_148 (by decide) (fun q111 => ?_) (fun q111 => ?_)
          · rw [if_pos q111] at hf
            refine mG_iload_n (pc := 153) C dL_isRightToStop_153 rfl ?_
            obtain ⟨jp114, e115, hf⟩ := mx_bind hf
            have J113 : ∀ jp114' : (Int32 × mxH), jp114' = jp114 → mG l Z X 8 3682 18624 189 [none, none, none, none, none, none, none, none] [.int jp114'.1] jp114'.2 := by
              intro jp114' q150
              subst q150
              obtain ⟨v148, e149, hf⟩ := mx_bind hf
              cases hf
              exact mG_zr2 (pc := 189) C e149 E hX dL_isRightToStop_189 ⟨Nat.le_of_ble_eq_true rfl, Nat.le_of_ble_eq_true rfl⟩
            refine mG_if_eq (pc := 154) (tgt := 184) C dL_isRightToStop_154 (by decide) (fun q112 => ?_) (fun q112 => ?_)
            · rw [if_pos q112] at e115
              refine mG_ic (pc := 184) C dL_isRightToStop_184 kI1 ?_
              refine mG_goto (tgt := 189) (pc := 185) C dL_isRightToStop_185 (by decide) ?_
              exact mG_wd (by omega) (by omega) (mG_sub (mxLe_n (mxLe_n (mxLe_n (mxLe_n (mxLe_n (mxLe_n (mxLe_n (mxLe_n mxLe_z)))))))) (J113 _ (Option.some.inj e115)))
            · rw [if_neg q112] at e115
              refine mG_aload_n (pc := 157) C dL_isRightToStop_157 rfl ?_
              refine mG_iload_n (pc := 158) C dL_isRightToStop_158 rfl ?_
              refine mG_aload_n (pc := 159) C dL_isRightToStop_159 rfl ?_
              obtain ⟨r132, e133, e115⟩ := mx_bind e115
              refine mG_getR (pc := 160) C dL_isRightToStop_160 fl_L_25 e133 ?_
              refine mG_iload_n (pc := 163) C dL_isRightToStop_163 rfl ?_
              obtain ⟨u134, e135, e115⟩ := mx_bind e115
              obtain ⟨o137, e136, e115⟩ := mx_bind e115
              refine mG_cV2 (pc := 164) (k' := 1854) (n' := 9374) (h' := o137.2) (v := some (.int o137.1)) 10 [.int o6.1] [.int p1, .ref p0] C hX dL_isRightToStop_164 lkV_L_30 rfl rfl e135 (tX10_next hl e136) rfl rfl rfl ⟨Nat.le_of_ble_eq_true rfl, Nat.le_of_ble_eq_true rfl⟩ rfl ?_
              obtain ⟨u138, e139, e115⟩ := mx_bind e115
              obtain ⟨o141, e140, e115⟩ := mx_bind e115
              refine mG_cV2 (pc := 167) (k' := 2768) (n' := 13999) (h' := o141.2) (v := some (.int o141.1)) 11 [.int p1, .int o137.1] [] C hX dL_isRightToStop_167 lkV_L_147 rfl rfl e139 (tL_isRefuted hl e140) rfl rfl rfl ⟨Nat.le_of_ble_eq_true rfl, Nat.le_of_ble_eq_true rfl⟩ rfl ?_
              refine mG_if_eq (pc := 170) (tgt := 188) C dL_isRightToStop_170 (by decide) (fun q142 => ?_) (fun q142 => ?_)
              · rw [if_pos q142] at e115
                refine mG_ic (pc := 188) C dL_isRightToStop_188 kI0 ?_
                exact mG_wd (by omega) (by omega) (mG_sub (mxLe_n (mxLe_n (mxLe_n (mxLe_n (mxLe_n (mxLe_n (mxLe_n (mxLe_n mxLe_z)))))))) (J113 _ (Option.some.inj e115)))
              · rw [if_neg q142] at e115
                refine mG_aload_n (pc := 173) C dL_isRightToStop_173 rfl ?_
                refine mG_iload_n (pc := 174) C dL_isRightToStop_174 rfl ?_
                refine mG_iload_n (pc := 175) C dL_isRightToStop_175 rfl ?_
                refine mG_ic (pc := 176) C dL_isRightToStop_176 kI1 ?_
                refine mG_isub (pc := 177) C dL_isRightToStop_177 ?_
                obtain ⟨u143, e144, e115⟩ := mx_bind e115
                obtain ⟨o146, e145, e115⟩ := mx_bind e115
                refine mG_cV2 (pc := 178) (k' := 3682) (n' := 18624) (h' := o146.2) (v := some (.int o146.1)) 11 [.int p1, .int (o6.1 - 1)] [] C hX dL_isRightToStop_178 lkV_L_147 rfl rfl e144 (tL_isRefuted hl e145) rfl rfl rfl ⟨Nat.le_of_ble_eq_true rfl, Nat.le_of_ble_eq_true rfl⟩ rfl ?_
                refine mG_if_eq (pc := 181) (tgt := 188) C dL_isRightToStop_181 (by decide) (fun q147 => ?_) (fun q147 => ?_)
                · rw [if_pos q147] at e115
                  refine mG_ic (pc := 188) C dL_isRightToStop_188 kI0 ?_
                  exact mG_sub (mxLe_n (mxLe_n (mxLe_n (mxLe_n (mxLe_n (mxLe_n (mxLe_n (mxLe_n mxLe_z)))))))) (J113 _ (Option.some.inj e115))
                · rw [if_neg q147] at e115
                  refine mG_ic (pc := 184) C dL_isRightToStop_184 kI1 ?_
                  refine mG_goto (tgt := 189) (pc := 185) C dL_isRightToStop_185 (by decide) ?_
                  exact mG_sub (mxLe_n (mxLe_n (mxLe_n (mxLe_n (mxLe_n (mxLe_n (mxLe_n (mxLe_n mxLe_z)))))))) (J113 _ (Option.some.inj e115))
          · rw [if_neg q111] at hf
            refine mG_ic (pc := 151) C dL_isRightToStop_151 kI0 ?_
            obtain ⟨v151, e152, hf⟩ := mx_bind hf
            cases hf
            exact mG_zr2 (pc := 152) C e152 E hX dL_isRightToStop_152 ⟨Nat.le_of_ble_eq_true rfl, Nat.le_of_ble_eq_true rfl⟩
        refine mG_sub (ls' := [some (.ref p0), some (.int p1), some (.int o6.1), none, none, none, some (.int 0), some (.int 0)]) (mxLe_s (mxLe_s (mxLe_s (mxLe_n (mxLe_n (mxLe_n (mxLe_s (mxLe_s mxLe_z)))))))) (mxLoop_ind (K := fun s85 : (Int32 × Int32) => mG l Z X 8 969 4918 102 [some (.ref p0), some (.int p1), some (.int o6.1), none, none, none, some (.int s85.1), some (.int s85.2)] [] r84) ?_ _ _ e87)
        intro s85 o91 e92 hK89 hx90
        refine mG_iload (pc := 102) C dL_isRightToStop_102 rfl ?_
        refine mG_ic (pc := 104) C dL_isRightToStop_104 kI5 ?_
        refine mG_icmp_ge (pc := 105) (tgt := 129) C dL_isRightToStop_105 (by decide) (fun q93 => ?_) (fun q93 => ?_)
        · rw [if_pos q93] at e92
          exact mG_sub (mxLe_s (mxLe_s (mxLe_s (mxLe_n (mxLe_n (mxLe_n (mxLe_s (mxLe_n mxLe_z)))))))) (J88 _ (hx90 _ (Option.some.inj e92).symm))
        · rw [if_neg q93] at e92
          refine mG_iload (pc := 108) C dL_isRightToStop_108 rfl ?_
          refine mG_aload_n (pc := 110) C dL_isRightToStop_110 rfl ?_
          refine mG_iload (pc := 111) C dL_isRightToStop_111 rfl ?_
          obtain ⟨u94, e95, e92⟩ := mx_bind e92
          obtain ⟨o97, e96, e92⟩ := mx_bind e92
          refine mG_cV2 (pc := 113) (k' := 969) (n' := 4918) (h' := r84) (v := some (.int o97)) 11 [.int s85.2] [.int s85.1] C hX dL_isRightToStop_113 lkV_L_126 rfl rfl e95 (tL_items hl e96) rfl rfl rfl ⟨Nat.le_of_ble_eq_true rfl, Nat.le_of_ble_eq_true rfl⟩ rfl ?_
          refine mG_iload_n (pc := 116) C dL_isRightToStop_116 rfl ?_
          refine mG_mn2 (pc := 117) C hX dL_isRightToStop_117 w718 wmin rfl ⟨Nat.le_of_ble_eq_true rfl, Nat.le_of_ble_eq_true rfl⟩ rfl ?_
          refine mG_iadd (pc := 120) C dL_isRightToStop_120 ?_
          refine mG_is (ls' := [some (.ref p0), some (.int p1), some (.int o6.1), none, none, none, some (.int (s85.1 + (mxMin o97 o6.1))), some (.int s85.2)]) (pc := 121) C dL_isRightToStop_121 rfl rfl rfl ?_
          refine mG_ii (ls' := [some (.ref p0), some (.int p1), some (.int o6.1), none, none, none, some (.int (s85.1 + (mxMin o97 o6.1))), some (.int (s85.2 + 1))]) (pc := 123) C dL_isRightToStop_123 rfl (kinc1 _) rfl rfl rfl ?_
          refine mG_goto (tgt := 102) (pc := 126) C dL_isRightToStop_126 (by decide) ?_
          exact mG_sub (mxLe_s (mxLe_s (mxLe_s (mxLe_n (mxLe_n (mxLe_n (mxLe_s (mxLe_s mxLe_z)))))))) (hK89 _ (Option.some.inj e92).symm)
      refine mG_sub (ls' := [some (.ref p0), some (.int p1), some (.int o6.1), none, some (.ref o18.1), some (.int (mxMin p1 v19)), some (.int 0), none]) (mxLe_s (mxLe_s (mxLe_s (mxLe_n (mxLe_s (mxLe_s (mxLe_s (mxLe_n mxLe_z)))))))) (mxLoop_indN (K := fun (N51 : Nat) (s48 : (Int32 × mxH)) => ∀ k49 n50 : Nat, k49 + 4 * N51 ≤ 885 + 4 * 21 → n50 + 22 * N51 ≤ 4456 + 22 * 21 → mG l Z X 8 k49 n50 55 [some (.ref p0), some (.int p1), some (.int o6.1), none, some (.ref o18.1), some (.int (mxMin p1 v19)), some (.int s48.1), none] [] s48.2) ?_ _ _ e57 _ _ (Nat.le_refl _) (Nat.le_refl _))
      intro N51 s48 o58 e59 hK54 hx55 k49 n50 hk60 hn61
      refine mG_iload (pc := 55) C dL_isRightToStop_55 rfl ?_
      refine mG_iload (pc := 57) C dL_isRightToStop_57 rfl ?_
      refine mG_icmp_ge (pc := 59) (tgt := 96) C dL_isRightToStop_59 (by decide) (fun q62 => ?_) (fun q62 => ?_)
      · rw [if_pos q62] at e59
        exact mG_wd (by omega) (by omega) (mG_sub (mxLe_s (mxLe_s (mxLe_s (mxLe_n (mxLe_n (mxLe_n (mxLe_n (mxLe_n mxLe_z)))))))) (J53 _ (hx55 _ (Option.some.inj e59).symm)))
      · rw [if_neg q62] at e59
        refine mG_aload_n (pc := 62) C dL_isRightToStop_62 rfl ?_
        refine mG_aload_n (pc := 63) C dL_isRightToStop_63 rfl ?_
        obtain ⟨r63, e64, e59⟩ := mx_bind e59
        refine mG_getR (pc := 64) C dL_isRightToStop_64 fl_L_10 e64 ?_
        refine mG_iload_n (pc := 67) C dL_isRightToStop_67 rfl ?_
        refine mG_iload (pc := 68) C dL_isRightToStop_68 rfl ?_
        obtain ⟨u65, e66, e59⟩ := mx_bind e59
        obtain ⟨o68, e67, e59⟩ := mx_bind e59
        refine mG_cV2 (pc := 70) (k' := (k49 + 2)) (n' := (n50 + 12)) (h' := o68.2) (v := some (.int o68.1)) 9 [.int p1, .int s48.1] [.ref p0] C hX dL_isRightToStop_70 lkV_L_141 rfl rfl e66 (tX9_best hl (mxOk_some e67)) rfl (by show k49 + 2 = (k49 + 2); omega) (by show n50 + 12 = (n50 + 12); omega) ⟨by show (k49 + 2) ≤ 4568; omega, by show (n50 + 12) ≤ 23084; omega⟩ rfl ?_
        obtain ⟨u69, e70, e59⟩ := mx_bind e59
        obtain ⟨o72, e71, e59⟩ := mx_bind e59
        refine mG_cV2 (pc := 73) (k' := (k49 + 3)) (n' := (n50 + 17)) (h' := o72.2) (v := some (.int o72.1)) 11 [.int o68.1] [] C hX dL_isRightToStop_73 lkV_L_90 rfl rfl e70 (tL_value hl e71) rfl (by show (k49 + 2) + 1 = (k49 + 3); omega) (by show (n50 + 12) + 5 = (n50 + 17); omega) ⟨by show (k49 + 3) ≤ 4568; omega, by show (n50 + 17) ≤ 23084; omega⟩ rfl ?_
        refine mG_aload_n (pc := 76) C dL_isRightToStop_76 rfl ?_
        refine mG_aload (pc := 77) C dL_isRightToStop_77 rfl ?_
        refine mG_iload (pc := 79) C dL_isRightToStop_79 rfl ?_
        obtain ⟨v73, e74, e59⟩ := mx_bind e59
        refine mG_iaload (pc := 81) C dL_isRightToStop_81 e74 ?_
        obtain ⟨u75, e76, e59⟩ := mx_bind e59
        obtain ⟨o78, e77, e59⟩ := mx_bind e59
        refine mG_cV2 (pc := 82) (k' := (k49 + 4)) (n' := (n50 + 22)) (h' := o78.2) (v := some (.int o78.1)) 11 [.int v73] [.int o72.1] C hX dL_isRightToStop_82 lkV_L_90 rfl rfl e76 (tL_value hl e77) rfl (by show (k49 + 3) + 1 = (k49 + 4); omega) (by show (n50 + 17) + 5 = (n50 + 22); omega) ⟨by show (k49 + 4) ≤ 4568; omega, by show (n50 + 22) ≤ 23084; omega⟩ rfl ?_
        refine mG_icmp_eq (pc := 85) (tgt := 90) C dL_isRightToStop_85 (by decide) (fun q79 => ?_) (fun q79 => ?_)
        · rw [if_pos q79] at e59
          refine mG_ii (ls' := [some (.ref p0), some (.int p1), some (.int o6.1), none, some (.ref o18.1), some (.int (mxMin p1 v19)), some (.int (s48.1 + 1)), none]) (pc := 90) C dL_isRightToStop_90 rfl (kinc1 _) rfl rfl rfl ?_
          refine mG_goto (tgt := 55) (pc := 93) C dL_isRightToStop_93 (by decide) ?_
          exact mG_sub (mxLe_s (mxLe_s (mxLe_s (mxLe_n (mxLe_s (mxLe_s (mxLe_s (mxLe_n mxLe_z)))))))) (hK54 _ (Option.some.inj e59).symm _ _ (by omega) (by omega))
        · rw [if_neg q79] at e59
          exact mG_wd (by omega) (by omega) (mG_sub (mxLe_n (mxLe_n (mxLe_n (mxLe_n (mxLe_n (mxLe_n (mxLe_n (mxLe_n mxLe_z)))))))) (J52 _ (hx55 _ (Option.some.inj e59).symm)))
    · rw [if_neg q14] at hf
      refine mG_aload_n (pc := 24) C dL_isRightToStop_24 rfl ?_
      refine mG_iload_n (pc := 25) C dL_isRightToStop_25 rfl ?_
      refine mG_iload_n (pc := 26) C dL_isRightToStop_26 rfl ?_
      obtain ⟨u155, e156, hf⟩ := mx_bind hf
      obtain ⟨o158, e157, hf⟩ := mx_bind hf
      refine mG_cV2 (pc := 27) (k' := 887) (n' := 4466) (h' := o158.2) (v := some (.int o158.1)) 11 [.int p1, .int o6.1] [] C hX dL_isRightToStop_27 lkV_L_138 rfl rfl e156 (tL_isEnough hl e157) rfl rfl rfl ⟨Nat.le_of_ble_eq_true rfl, Nat.le_of_ble_eq_true rfl⟩ rfl ?_
      refine mG_if_ne (pc := 30) (tgt := 35) C dL_isRightToStop_30 (by decide) (fun q159 => ?_) (fun q159 => ?_)
      · rw [if_neg q159] at hf
        refine mG_aload_n (pc := 35) C dL_isRightToStop_35 rfl ?_
        refine mG_bp (pc := 36) C dL_isRightToStop_36 kB20 ?_
        obtain ⟨u160, e161, hf⟩ := mx_bind hf
        obtain ⟨o163, e162, hf⟩ := mx_bind hf
        refine mG_cV2 (pc := 38) (k' := 1771) (n' := 8916) (h' := o163.2) (v := some (.ref o163.1)) 11 [.int 20] [] C hX dL_isRightToStop_38 lkV_L_99 rfl rfl e161 (tL_ranking hl e162) rfl rfl rfl ⟨Nat.le_of_ble_eq_true rfl, Nat.le_of_ble_eq_true rfl⟩ rfl ?_
        refine mG_as (ls' := [some (.ref p0), some (.int p1), some (.int o6.1), some (.int o10), some (.ref o163.1), none, none, none]) (pc := 41) C dL_isRightToStop_41 rfl rfl rfl ?_
        refine mG_iload_n (pc := 43) C dL_isRightToStop_43 rfl ?_
        refine mG_aload (pc := 44) C dL_isRightToStop_44 rfl ?_
        obtain ⟨v164, e165, hf⟩ := mx_bind hf
        refine mG_arraylength (pc := 46) C dL_isRightToStop_46 e165 ?_
        refine mG_mn2 (pc := 47) C hX dL_isRightToStop_47 w718 wmin rfl ⟨Nat.le_of_ble_eq_true rfl, Nat.le_of_ble_eq_true rfl⟩ rfl ?_
        refine mG_is (ls' := [some (.ref p0), some (.int p1), some (.int o6.1), some (.int o10), some (.ref o163.1), some (.int (mxMin p1 v164)), none, none]) (pc := 50) C dL_isRightToStop_50 rfl rfl rfl ?_
        refine mG_ic (pc := 52) C dL_isRightToStop_52 kI0 ?_
        refine mG_is (ls' := [some (.ref p0), some (.int p1), some (.int o6.1), some (.int o10), some (.ref o163.1), some (.int (mxMin p1 v164)), some (.int 0), none]) (pc := 53) C dL_isRightToStop_53 rfl rfl rfl ?_
        obtain ⟨r201, e202, hf⟩ := mx_bind hf
        have J197 : ∀ r225 : mxH, Sum.inl r225 = r201 → mG l Z X 8 1855 9378 88 [none, none, none, none, none, none, none, none] [] r225 := by
          intro r225 q228
          subst q228
          rw [Sum.elim_inl] at hf
          refine mG_ic (pc := 88) C dL_isRightToStop_88 kI0 ?_
          obtain ⟨v226, e227, hf⟩ := mx_bind hf
          cases hf
          exact mG_zr2 (pc := 89) C e227 E hX dL_isRightToStop_89 ⟨Nat.le_of_ble_eq_true rfl, Nat.le_of_ble_eq_true rfl⟩
        have J198 : ∀ r229 : mxH, Sum.inr r229 = r201 → mG l Z X 8 1855 9378 96 [some (.ref p0), some (.int p1), some (.int o6.1), none, none, none, none, none] [] r229 := by
          intro r229 q299
          subst q299
          rw [Sum.elim_inr] at hf
          refine mG_ic (pc := 96) C dL_isRightToStop_96 kI0 ?_
          refine mG_is (ls' := [some (.ref p0), some (.int p1), some (.int o6.1), none, none, none, some (.int 0), none]) (pc := 97) C dL_isRightToStop_97 rfl rfl rfl ?_
          refine mG_ic (pc := 99) C dL_isRightToStop_99 kI0 ?_
          refine mG_is (ls' := [some (.ref p0), some (.int p1), some (.int o6.1), none, none, none, some (.int 0), some (.int 0)]) (pc := 100) C dL_isRightToStop_100 rfl rfl rfl ?_
          obtain ⟨r231, e232, hf⟩ := mx_bind hf
          have J233 : ∀ r243 : Int32, r243 = r231 → mG l Z X 8 1855 9378 129 [some (.ref p0), some (.int p1), some (.int o6.1), none, none, none, some (.int r243), none] [] r229 := by
            intro r243 q298
            subst q298
            refine mG_aload_n (pc := 129) C dL_isRightToStop_129 rfl ?_
            obtain ⟨r244, e245, hf⟩ := mx_bind hf
            refine mG_getR (pc := 130) C dL_isRightToStop_130 fl_L_10 e245 ?_
            refine mG_iload_n (pc := 133) C dL_isRightToStop_133 rfl ?_
            obtain ⟨u246, e247, hf⟩ := mx_bind hf
            obtain ⟨o249, e248, hf⟩ := mx_bind hf
            refine mG_cV2 (pc := 134) (k' := 1856) (n' := 9384) (h' := o249.2) (v := some (.int o249.1)) 9 [.int p1] [] C hX dL_isRightToStop_134 lkV_L_144 rfl rfl e247 (tX9_cost hl (mxOk_some e248)) rfl rfl rfl ⟨Nat.le_of_ble_eq_true rfl, Nat.le_of_ble_eq_true rfl⟩ rfl ?_
            refine mG_iload (pc := 137) C dL_isRightToStop_137 rfl ?_
            refine mG_ic (pc := 139) C dL_isRightToStop_139 kI4 ?_
            refine mG_aload_n (pc := 140) C dL_isRightToStop_140 rfl ?_
            refine mG_iload_n (pc := 141) C dL_isRightToStop_141 rfl ?_
            obtain ⟨u250, e251, hf⟩ := mx_bind hf
            obtain ⟨o253, e252, hf⟩ := mx_bind hf
            refine mG_cV2 (pc := 142) (k' := 2740) (n' := 13834) (h' := o253.2) (v := some (.ref o253.1)) 11 [.int o6.1] [.int 4, .int r243, .int o249.1] C hX dL_isRightToStop_142 lkV_L_99 rfl rfl e251 (tL_ranking hl e252) rfl rfl rfl ⟨Nat.le_of_ble_eq_true rfl, Nat.le_of_ble_eq_true rfl⟩ rfl ?_
            obtain ⟨v254, e255, hf⟩ := mx_bind hf
            refine mG_arraylength (pc := 145) C dL_isRightToStop_145 e255 ?_
            refine mG_imul (pc := 146) C dL_isRightToStop_146 ?_
            refine mG_iadd (pc := 147) C dL_isRightToStop_147 ?_
            refine mG_icmp_eq (pc := 148) (tgt := 153) C dL_isRightToStop_148 (by decide) (fun q256 => ?_) (fun q256 => ?_)
            · rw [if_pos q256] at hf
              refine mG_iload_n (pc := 153) C dL_isRightToStop_153 rfl ?_
              obtain ⟨jp259, e260, hf⟩ := mx_bind hf
              have J258 : ∀ jp259' : (Int32 × mxH), jp259' = jp259 → mG l Z X 8 4568 23084 189 [none, none, none, none, none, none, none, none] [.int jp259'.1] jp259'.2 := by
                intro jp259' q295
                subst q295
                obtain ⟨v293, e294, hf⟩ := mx_bind hf
                cases hf
                exact mG_zr2 (pc := 189) C e294 E hX dL_isRightToStop_189 ⟨Nat.le_of_ble_eq_true rfl, Nat.le_of_ble_eq_true rfl⟩
              refine mG_if_eq (pc := 154) (tgt := 184) C dL_isRightToStop_154 (by decide) (fun q257 => ?_) (fun q257 => ?_)
              · rw [if_pos q257] at e260
                refine mG_ic (pc := 184) C dL_isRightToStop_184 kI1 ?_
                refine mG_goto (tgt := 189) (pc := 185) C dL_isRightToStop_185 (by decide) ?_
                exact mG_wd (by omega) (by omega) (mG_sub (mxLe_n (mxLe_n (mxLe_n (mxLe_n (mxLe_n (mxLe_n (mxLe_n (mxLe_n mxLe_z)))))))) (J258 _ (Option.some.inj e260)))
              · rw [if_neg q257] at e260
                refine mG_aload_n (pc := 157) C dL_isRightToStop_157 rfl ?_
                refine mG_iload_n (pc := 158) C dL_isRightToStop_158 rfl ?_
                refine mG_aload_n (pc := 159) C dL_isRightToStop_159 rfl ?_
                obtain ⟨r277, e278, e260⟩ := mx_bind e260
                refine mG_getR (pc := 160) C dL_isRightToStop_160 fl_L_25 e278 ?_
                refine mG_iload_n (pc := 163) C dL_isRightToStop_163 rfl ?_
                obtain ⟨u279, e280, e260⟩ := mx_bind e260
                obtain ⟨o282, e281, e260⟩ := mx_bind e260
                refine mG_cV2 (pc := 164) (k' := 2740) (n' := 13834) (h' := o282.2) (v := some (.int o282.1)) 10 [.int o6.1] [.int p1, .ref p0] C hX dL_isRightToStop_164 lkV_L_30 rfl rfl e280 (tX10_next hl e281) rfl rfl rfl ⟨Nat.le_of_ble_eq_true rfl, Nat.le_of_ble_eq_true rfl⟩ rfl ?_
                obtain ⟨u283, e284, e260⟩ := mx_bind e260
                obtain ⟨o286, e285, e260⟩ := mx_bind e260
                refine mG_cV2 (pc := 167) (k' := 3654) (n' := 18459) (h' := o286.2) (v := some (.int o286.1)) 11 [.int p1, .int o282.1] [] C hX dL_isRightToStop_167 lkV_L_147 rfl rfl e284 (tL_isRefuted hl e285) rfl rfl rfl ⟨Nat.le_of_ble_eq_true rfl, Nat.le_of_ble_eq_true rfl⟩ rfl ?_
                refine mG_if_eq (pc := 170) (tgt := 188) C dL_isRightToStop_170 (by decide) (fun q287 => ?_) (fun q287 => ?_)
                · rw [if_pos q287] at e260
                  refine mG_ic (pc := 188) C dL_isRightToStop_188 kI0 ?_
                  exact mG_wd (by omega) (by omega) (mG_sub (mxLe_n (mxLe_n (mxLe_n (mxLe_n (mxLe_n (mxLe_n (mxLe_n (mxLe_n mxLe_z)))))))) (J258 _ (Option.some.inj e260)))
                · rw [if_neg q287] at e260
                  refine mG_aload_n (pc := 173) C dL_isRightToStop_173 rfl ?_
                  refine mG_iload_n (pc := 174) C dL_isRightToStop_174 rfl ?_
                  refine mG_iload_n (pc := 175) C dL_isRightToStop_175 rfl ?_
                  refine mG_ic (pc := 176) C dL_isRightToStop_176 kI1 ?_
                  refine mG_isub (pc := 177) C dL_isRightToStop_177 ?_
                  obtain ⟨u288, e289, e260⟩ := mx_bind e260
                  obtain ⟨o291, e290, e260⟩ := mx_bind e260
                  refine mG_cV2 (pc := 178) (k' := 4568) (n' := 23084) (h' := o291.2) (v := some (.int o291.1)) 11 [.int p1, .int (o6.1 - 1)] [] C hX dL_isRightToStop_178 lkV_L_147 rfl rfl e289 (tL_isRefuted hl e290) rfl rfl rfl ⟨Nat.le_of_ble_eq_true rfl, Nat.le_of_ble_eq_true rfl⟩ rfl ?_
                  refine mG_if_eq (pc := 181) (tgt := 188) C dL_isRightToStop_181 (by decide) (fun q292 => ?_) (fun q292 => ?_)
                  · rw [if_pos q292] at e260
                    refine mG_ic (pc := 188) C dL_isRightToStop_188 kI0 ?_
                    exact mG_sub (mxLe_n (mxLe_n (mxLe_n (mxLe_n (mxLe_n (mxLe_n (mxLe_n (mxLe_n mxLe_z)))))))) (J258 _ (Option.some.inj e260))
                  · rw [if_neg q292] at e260
                    refine mG_ic (pc := 184) C dL_isRightToStop_184 kI1 ?_
                    refine mG_goto (tgt := 189) (pc := 185) C dL_isRightToStop_185 (by decide) ?_
                    exact mG_sub (mxLe_n (mxLe_n (mxLe_n (mxLe_n (mxLe_n (mxLe_n (mxLe_n (mxLe_n mxLe_z)))))))) (J258 _ (Option.some.inj e260))
            · rw [if_neg q256] at hf
              refine mG_ic (pc := 151) C dL_isRightToStop_151 kI0 ?_
              obtain ⟨v296, e297, hf⟩ := mx_bind hf
              cases hf
              exact mG_zr2 (pc := 152) C e297 E hX dL_isRightToStop_152 ⟨Nat.le_of_ble_eq_true rfl, Nat.le_of_ble_eq_true rfl⟩
          refine mG_sub (ls' := [some (.ref p0), some (.int p1), some (.int o6.1), none, none, none, some (.int 0), some (.int 0)]) (mxLe_s (mxLe_s (mxLe_s (mxLe_n (mxLe_n (mxLe_n (mxLe_s (mxLe_s mxLe_z)))))))) (mxLoop_ind (K := fun s230 : (Int32 × Int32) => mG l Z X 8 1855 9378 102 [some (.ref p0), some (.int p1), some (.int o6.1), none, none, none, some (.int s230.1), some (.int s230.2)] [] r229) ?_ _ _ e232)
          intro s230 o236 e237 hK234 hx235
          refine mG_iload (pc := 102) C dL_isRightToStop_102 rfl ?_
          refine mG_ic (pc := 104) C dL_isRightToStop_104 kI5 ?_
          refine mG_icmp_ge (pc := 105) (tgt := 129) C dL_isRightToStop_105 (by decide) (fun q238 => ?_) (fun q238 => ?_)
          · rw [if_pos q238] at e237
            exact mG_sub (mxLe_s (mxLe_s (mxLe_s (mxLe_n (mxLe_n (mxLe_n (mxLe_s (mxLe_n mxLe_z)))))))) (J233 _ (hx235 _ (Option.some.inj e237).symm))
          · rw [if_neg q238] at e237
            refine mG_iload (pc := 108) C dL_isRightToStop_108 rfl ?_
            refine mG_aload_n (pc := 110) C dL_isRightToStop_110 rfl ?_
            refine mG_iload (pc := 111) C dL_isRightToStop_111 rfl ?_
            obtain ⟨u239, e240, e237⟩ := mx_bind e237
            obtain ⟨o242, e241, e237⟩ := mx_bind e237
            refine mG_cV2 (pc := 113) (k' := 1855) (n' := 9378) (h' := r229) (v := some (.int o242)) 11 [.int s230.2] [.int s230.1] C hX dL_isRightToStop_113 lkV_L_126 rfl rfl e240 (tL_items hl e241) rfl rfl rfl ⟨Nat.le_of_ble_eq_true rfl, Nat.le_of_ble_eq_true rfl⟩ rfl ?_
            refine mG_iload_n (pc := 116) C dL_isRightToStop_116 rfl ?_
            refine mG_mn2 (pc := 117) C hX dL_isRightToStop_117 w718 wmin rfl ⟨Nat.le_of_ble_eq_true rfl, Nat.le_of_ble_eq_true rfl⟩ rfl ?_
            refine mG_iadd (pc := 120) C dL_isRightToStop_120 ?_
            refine mG_is (ls' := [some (.ref p0), some (.int p1), some (.int o6.1), none, none, none, some (.int (s230.1 + (mxMin o242 o6.1))), some (.int s230.2)]) (pc := 121) C dL_isRightToStop_121 rfl rfl rfl ?_
            refine mG_ii (ls' := [some (.ref p0), some (.int p1), some (.int o6.1), none, none, none, some (.int (s230.1 + (mxMin o242 o6.1))), some (.int (s230.2 + 1))]) (pc := 123) C dL_isRightToStop_123 rfl (kinc1 _) rfl rfl rfl ?_
            refine mG_goto (tgt := 102) (pc := 126) C dL_isRightToStop_126 (by decide) ?_
            exact mG_sub (mxLe_s (mxLe_s (mxLe_s (mxLe_n (mxLe_n (mxLe_n (mxLe_s (mxLe_s mxLe_z)))))))) (hK234 _ (Option.some.inj e237).symm)
        refine mG_sub (ls' := [some (.ref p0), some (.int p1), some (.int o6.1), none, some (.ref o163.1), some (.int (mxMin p1 v164)), some (.int 0), none]) (mxLe_s (mxLe_s (mxLe_s (mxLe_n (mxLe_s (mxLe_s (mxLe_s (mxLe_n mxLe_z)))))))) (mxLoop_indN (K := fun (N196 : Nat) (s193 : (Int32 × mxH)) => ∀ k194 n195 : Nat, k194 + 4 * N196 ≤ 1771 + 4 * 21 → n195 + 22 * N196 ≤ 8916 + 22 * 21 → mG l Z X 8 k194 n195 55 [some (.ref p0), some (.int p1), some (.int o6.1), none, some (.ref o163.1), some (.int (mxMin p1 v164)), some (.int s193.1), none] [] s193.2) ?_ _ _ e202 _ _ (Nat.le_refl _) (Nat.le_refl _))
        intro N196 s193 o203 e204 hK199 hx200 k194 n195 hk205 hn206
        refine mG_iload (pc := 55) C dL_isRightToStop_55 rfl ?_
        refine mG_iload (pc := 57) C dL_isRightToStop_57 rfl ?_
        refine mG_icmp_ge (pc := 59) (tgt := 96) C dL_isRightToStop_59 (by decide) (fun q207 => ?_) (fun q207 => ?_)
        · rw [if_pos q207] at e204
          exact mG_wd (by omega) (by omega) (mG_sub (mxLe_s (mxLe_s (mxLe_s (mxLe_n (mxLe_n (mxLe_n (mxLe_n (mxLe_n mxLe_z)))))))) (J198 _ (hx200 _ (Option.some.inj e204).symm)))
        · rw [if_neg q207] at e204
          refine mG_aload_n (pc := 62) C dL_isRightToStop_62 rfl ?_
          refine mG_aload_n (pc := 63) C dL_isRightToStop_63 rfl ?_
          obtain ⟨r208, e209, e204⟩ := mx_bind e204
          refine mG_getR (pc := 64) C dL_isRightToStop_64 fl_L_10 e209 ?_
          refine mG_iload_n (pc := 67) C dL_isRightToStop_67 rfl ?_
          refine mG_iload (pc := 68) C dL_isRightToStop_68 rfl ?_
          obtain ⟨u210, e211, e204⟩ := mx_bind e204
          obtain ⟨o213, e212, e204⟩ := mx_bind e204
          refine mG_cV2 (pc := 70) (k' := (k194 + 2)) (n' := (n195 + 12)) (h' := o213.2) (v := some (.int o213.1)) 9 [.int p1, .int s193.1] [.ref p0] C hX dL_isRightToStop_70 lkV_L_141 rfl rfl e211 (tX9_best hl (mxOk_some e212)) rfl (by show k194 + 2 = (k194 + 2); omega) (by show n195 + 12 = (n195 + 12); omega) ⟨by show (k194 + 2) ≤ 4568; omega, by show (n195 + 12) ≤ 23084; omega⟩ rfl ?_
          obtain ⟨u214, e215, e204⟩ := mx_bind e204
          obtain ⟨o217, e216, e204⟩ := mx_bind e204
          refine mG_cV2 (pc := 73) (k' := (k194 + 3)) (n' := (n195 + 17)) (h' := o217.2) (v := some (.int o217.1)) 11 [.int o213.1] [] C hX dL_isRightToStop_73 lkV_L_90 rfl rfl e215 (tL_value hl e216) rfl (by show (k194 + 2) + 1 = (k194 + 3); omega) (by show (n195 + 12) + 5 = (n195 + 17); omega) ⟨by show (k194 + 3) ≤ 4568; omega, by show (n195 + 17) ≤ 23084; omega⟩ rfl ?_
          refine mG_aload_n (pc := 76) C dL_isRightToStop_76 rfl ?_
          refine mG_aload (pc := 77) C dL_isRightToStop_77 rfl ?_
          refine mG_iload (pc := 79) C dL_isRightToStop_79 rfl ?_
          obtain ⟨v218, e219, e204⟩ := mx_bind e204
          refine mG_iaload (pc := 81) C dL_isRightToStop_81 e219 ?_
          obtain ⟨u220, e221, e204⟩ := mx_bind e204
          obtain ⟨o223, e222, e204⟩ := mx_bind e204
          refine mG_cV2 (pc := 82) (k' := (k194 + 4)) (n' := (n195 + 22)) (h' := o223.2) (v := some (.int o223.1)) 11 [.int v218] [.int o217.1] C hX dL_isRightToStop_82 lkV_L_90 rfl rfl e221 (tL_value hl e222) rfl (by show (k194 + 3) + 1 = (k194 + 4); omega) (by show (n195 + 17) + 5 = (n195 + 22); omega) ⟨by show (k194 + 4) ≤ 4568; omega, by show (n195 + 22) ≤ 23084; omega⟩ rfl ?_
          refine mG_icmp_eq (pc := 85) (tgt := 90) C dL_isRightToStop_85 (by decide) (fun q224 => ?_) (fun q224 => ?_)
          · rw [if_pos q224] at e204
            refine mG_ii (ls' := [some (.ref p0), some (.int p1), some (.int o6.1), none, some (.ref o163.1), some (.int (mxMin p1 v164)), some (.int (s193.1 + 1)), none]) (pc := 90) C dL_isRightToStop_90 rfl (kinc1 _) rfl rfl rfl ?_
            refine mG_goto (tgt := 55) (pc := 93) C dL_isRightToStop_93 (by decide) ?_
            exact mG_sub (mxLe_s (mxLe_s (mxLe_s (mxLe_n (mxLe_s (mxLe_s (mxLe_s (mxLe_n mxLe_z)))))))) (hK199 _ (Option.some.inj e204).symm _ _ (by omega) (by omega))
          · rw [if_neg q224] at e204
            exact mG_wd (by omega) (by omega) (mG_sub (mxLe_n (mxLe_n (mxLe_n (mxLe_n (mxLe_n (mxLe_n (mxLe_n (mxLe_n mxLe_z)))))))) (J197 _ (hx200 _ (Option.some.inj e204).symm)))
      · rw [if_pos q159] at hf
        refine mG_ic (pc := 33) C dL_isRightToStop_33 kI0 ?_
        obtain ⟨v300, e301, hf⟩ := mx_bind hf
        cases hf
        exact mG_zr2 (pc := 34) C e301 E hX dL_isRightToStop_34 ⟨Nat.le_of_ble_eq_true rfl, Nat.le_of_ble_eq_true rfl⟩
theorem dL_areSure_0 : decode cL_areSure 0 = .ok (.bipush 20, 2) := by decide +kernel
theorem dL_areSure_2 : decode cL_areSure 2 = .ok (.newarray .int, 2) := by decide +kernel
theorem dL_areSure_4 : decode cL_areSure 4 = .ok (.astore_n 3, 1) := by decide +kernel
theorem dL_areSure_5 : decode cL_areSure 5 = .ok (.bipush 20, 2) := by decide +kernel
theorem dL_areSure_7 : decode cL_areSure 7 = .ok (.newarray .int, 2) := by decide +kernel
theorem dL_areSure_9 : decode cL_areSure 9 = .ok (.astore 4, 2) := by decide +kernel
theorem dL_areSure_11 : decode cL_areSure 11 = .ok (.iconst 0, 1) := by decide +kernel
theorem dL_areSure_12 : decode cL_areSure 12 = .ok (.istore 5, 2) := by decide +kernel
theorem dL_areSure_14 : decode cL_areSure 14 = .ok (.iload 5, 2) := by decide +kernel
theorem dL_areSure_16 : decode cL_areSure 16 = .ok (.bipush 20, 2) := by decide +kernel
theorem dL_areSure_18 : decode cL_areSure 18 = .ok (.if_icmp .ge 62, 3) := by decide +kernel
theorem dL_areSure_21 : decode cL_areSure 21 = .ok (.aload_n 3, 1) := by decide +kernel
theorem dL_areSure_22 : decode cL_areSure 22 = .ok (.iload 5, 2) := by decide +kernel
theorem dL_areSure_24 : decode cL_areSure 24 = .ok (.aload_n 0, 1) := by decide +kernel
theorem dL_areSure_25 : decode cL_areSure 25 = .ok (.iload 5, 2) := by decide +kernel
theorem dL_areSure_27 : decode cL_areSure 27 = .ok (.iload_n 2, 1) := by decide +kernel
theorem dL_areSure_28 : decode cL_areSure 28 = .ok (.invokevirtual 86, 3) := by decide +kernel
theorem dL_areSure_31 : decode cL_areSure 31 = .ok (.ifCond .eq 14, 3) := by decide +kernel
theorem dL_areSure_34 : decode cL_areSure 34 = .ok (.aload_n 0, 1) := by decide +kernel
theorem dL_areSure_35 : decode cL_areSure 35 = .ok (.iload 5, 2) := by decide +kernel
theorem dL_areSure_37 : decode cL_areSure 37 = .ok (.iload_n 2, 1) := by decide +kernel
theorem dL_areSure_38 : decode cL_areSure 38 = .ok (.iconst 0, 1) := by decide +kernel
theorem dL_areSure_39 : decode cL_areSure 39 = .ok (.invokevirtual 82, 3) := by decide +kernel
theorem dL_areSure_42 : decode cL_areSure 42 = .ok (.goto 4, 3) := by decide +kernel
theorem dL_areSure_45 : decode cL_areSure 45 = .ok (.iconst (-1), 1) := by decide +kernel
theorem dL_areSure_46 : decode cL_areSure 46 = .ok (.iastore, 1) := by decide +kernel
theorem dL_areSure_47 : decode cL_areSure 47 = .ok (.aload 4, 2) := by decide +kernel
theorem dL_areSure_49 : decode cL_areSure 49 = .ok (.iload 5, 2) := by decide +kernel
theorem dL_areSure_51 : decode cL_areSure 51 = .ok (.aload_n 0, 1) := by decide +kernel
theorem dL_areSure_52 : decode cL_areSure 52 = .ok (.iload 5, 2) := by decide +kernel
theorem dL_areSure_54 : decode cL_areSure 54 = .ok (.iload_n 2, 1) := by decide +kernel
theorem dL_areSure_55 : decode cL_areSure 55 = .ok (.invokevirtual 86, 3) := by decide +kernel
theorem dL_areSure_58 : decode cL_areSure 58 = .ok (.ifCond .eq 14, 3) := by decide +kernel
theorem dL_areSure_61 : decode cL_areSure 61 = .ok (.aload_n 0, 1) := by decide +kernel
theorem dL_areSure_62 : decode cL_areSure 62 = .ok (.iload 5, 2) := by decide +kernel
theorem dL_areSure_64 : decode cL_areSure 64 = .ok (.iload_n 2, 1) := by decide +kernel
theorem dL_areSure_65 : decode cL_areSure 65 = .ok (.iconst 1, 1) := by decide +kernel
theorem dL_areSure_66 : decode cL_areSure 66 = .ok (.invokevirtual 82, 3) := by decide +kernel
theorem dL_areSure_69 : decode cL_areSure 69 = .ok (.goto 4, 3) := by decide +kernel
theorem dL_areSure_72 : decode cL_areSure 72 = .ok (.iconst (-1), 1) := by decide +kernel
theorem dL_areSure_73 : decode cL_areSure 73 = .ok (.iastore, 1) := by decide +kernel
theorem dL_areSure_74 : decode cL_areSure 74 = .ok (.iinc 5 1, 3) := by decide +kernel
theorem dL_areSure_77 : decode cL_areSure 77 = .ok (.goto (-63), 3) := by decide +kernel
theorem dL_areSure_80 : decode cL_areSure 80 = .ok (.iconst 0, 1) := by decide +kernel
theorem dL_areSure_81 : decode cL_areSure 81 = .ok (.istore 5, 2) := by decide +kernel
theorem dL_areSure_83 : decode cL_areSure 83 = .ok (.iload 5, 2) := by decide +kernel
theorem dL_areSure_85 : decode cL_areSure 85 = .ok (.bipush 20, 2) := by decide +kernel
theorem dL_areSure_87 : decode cL_areSure 87 = .ok (.if_icmp .ge 115, 3) := by decide +kernel
theorem dL_areSure_90 : decode cL_areSure 90 = .ok (.aload_n 3, 1) := by decide +kernel
theorem dL_areSure_91 : decode cL_areSure 91 = .ok (.iload 5, 2) := by decide +kernel
theorem dL_areSure_93 : decode cL_areSure 93 = .ok (.iaload, 1) := by decide +kernel
theorem dL_areSure_94 : decode cL_areSure 94 = .ok (.aload_n 0, 1) := by decide +kernel
theorem dL_areSure_95 : decode cL_areSure 95 = .ok (.iload_n 2, 1) := by decide +kernel
theorem dL_areSure_96 : decode cL_areSure 96 = .ok (.invokevirtual 129, 3) := by decide +kernel
theorem dL_areSure_99 : decode cL_areSure 99 = .ok (.if_icmp .ge 6, 3) := by decide +kernel
theorem dL_areSure_102 : decode cL_areSure 102 = .ok (.goto 94, 3) := by decide +kernel
theorem dL_areSure_105 : decode cL_areSure 105 = .ok (.iconst 0, 1) := by decide +kernel
theorem dL_areSure_106 : decode cL_areSure 106 = .ok (.istore 6, 2) := by decide +kernel
theorem dL_areSure_108 : decode cL_areSure 108 = .ok (.iconst 0, 1) := by decide +kernel
theorem dL_areSure_109 : decode cL_areSure 109 = .ok (.istore 7, 2) := by decide +kernel
theorem dL_areSure_111 : decode cL_areSure 111 = .ok (.iconst 0, 1) := by decide +kernel
theorem dL_areSure_112 : decode cL_areSure 112 = .ok (.istore 8, 2) := by decide +kernel
theorem dL_areSure_114 : decode cL_areSure 114 = .ok (.iload 8, 2) := by decide +kernel
theorem dL_areSure_116 : decode cL_areSure 116 = .ok (.bipush 20, 2) := by decide +kernel
theorem dL_areSure_118 : decode cL_areSure 118 = .ok (.if_icmp .ge 64, 3) := by decide +kernel
theorem dL_areSure_121 : decode cL_areSure 121 = .ok (.aload 4, 2) := by decide +kernel
theorem dL_areSure_123 : decode cL_areSure 123 = .ok (.iload 8, 2) := by decide +kernel
theorem dL_areSure_125 : decode cL_areSure 125 = .ok (.iaload, 1) := by decide +kernel
theorem dL_areSure_126 : decode cL_areSure 126 = .ok (.aload_n 3, 1) := by decide +kernel
theorem dL_areSure_127 : decode cL_areSure 127 = .ok (.iload 5, 2) := by decide +kernel
theorem dL_areSure_129 : decode cL_areSure 129 = .ok (.iaload, 1) := by decide +kernel
theorem dL_areSure_130 : decode cL_areSure 130 = .ok (.if_icmp .le 25, 3) := by decide +kernel
theorem dL_areSure_133 : decode cL_areSure 133 = .ok (.iload 6, 2) := by decide +kernel
theorem dL_areSure_135 : decode cL_areSure 135 = .ok (.aload_n 3, 1) := by decide +kernel
theorem dL_areSure_136 : decode cL_areSure 136 = .ok (.iload 8, 2) := by decide +kernel
theorem dL_areSure_138 : decode cL_areSure 138 = .ok (.iaload, 1) := by decide +kernel
theorem dL_areSure_139 : decode cL_areSure 139 = .ok (.aload_n 3, 1) := by decide +kernel
theorem dL_areSure_140 : decode cL_areSure 140 = .ok (.iload 5, 2) := by decide +kernel
theorem dL_areSure_142 : decode cL_areSure 142 = .ok (.iaload, 1) := by decide +kernel
theorem dL_areSure_143 : decode cL_areSure 143 = .ok (.if_icmp .lt 7, 3) := by decide +kernel
theorem dL_areSure_146 : decode cL_areSure 146 = .ok (.iconst 1, 1) := by decide +kernel
theorem dL_areSure_147 : decode cL_areSure 147 = .ok (.goto 5, 3) := by decide +kernel
theorem dL_areSure_150 : decode cL_areSure 150 = .ok (.bipush 100, 2) := by decide +kernel
theorem dL_areSure_152 : decode cL_areSure 152 = .ok (.iadd, 1) := by decide +kernel
theorem dL_areSure_153 : decode cL_areSure 153 = .ok (.istore 6, 2) := by decide +kernel
theorem dL_areSure_155 : decode cL_areSure 155 = .ok (.iload 7, 2) := by decide +kernel
theorem dL_areSure_157 : decode cL_areSure 157 = .ok (.aload_n 3, 1) := by decide +kernel
theorem dL_areSure_158 : decode cL_areSure 158 = .ok (.iload 8, 2) := by decide +kernel
theorem dL_areSure_160 : decode cL_areSure 160 = .ok (.iaload, 1) := by decide +kernel
theorem dL_areSure_161 : decode cL_areSure 161 = .ok (.aload_n 3, 1) := by decide +kernel
theorem dL_areSure_162 : decode cL_areSure 162 = .ok (.iload 5, 2) := by decide +kernel
theorem dL_areSure_164 : decode cL_areSure 164 = .ok (.iaload, 1) := by decide +kernel
theorem dL_areSure_165 : decode cL_areSure 165 = .ok (.if_icmp .lt 7, 3) := by decide +kernel
theorem dL_areSure_168 : decode cL_areSure 168 = .ok (.iconst 1, 1) := by decide +kernel
theorem dL_areSure_169 : decode cL_areSure 169 = .ok (.goto 4, 3) := by decide +kernel
theorem dL_areSure_172 : decode cL_areSure 172 = .ok (.iconst 0, 1) := by decide +kernel
theorem dL_areSure_173 : decode cL_areSure 173 = .ok (.iadd, 1) := by decide +kernel
theorem dL_areSure_174 : decode cL_areSure 174 = .ok (.istore 7, 2) := by decide +kernel
theorem dL_areSure_176 : decode cL_areSure 176 = .ok (.iinc 8 1, 3) := by decide +kernel
theorem dL_areSure_179 : decode cL_areSure 179 = .ok (.goto (-65), 3) := by decide +kernel
theorem dL_areSure_182 : decode cL_areSure 182 = .ok (.iload 6, 2) := by decide +kernel
theorem dL_areSure_184 : decode cL_areSure 184 = .ok (.iload_n 1, 1) := by decide +kernel
theorem dL_areSure_185 : decode cL_areSure 185 = .ok (.if_icmp .gt 11, 3) := by decide +kernel
theorem dL_areSure_188 : decode cL_areSure 188 = .ok (.iload 7, 2) := by decide +kernel
theorem dL_areSure_190 : decode cL_areSure 190 = .ok (.iload_n 1, 1) := by decide +kernel
theorem dL_areSure_191 : decode cL_areSure 191 = .ok (.if_icmp .lt 5, 3) := by decide +kernel
theorem dL_areSure_194 : decode cL_areSure 194 = .ok (.iconst 1, 1) := by decide +kernel
theorem dL_areSure_195 : decode cL_areSure 195 = .ok (.ireturn, 1) := by decide +kernel
theorem dL_areSure_196 : decode cL_areSure 196 = .ok (.iinc 5 1, 3) := by decide +kernel
theorem dL_areSure_199 : decode cL_areSure 199 = .ok (.goto (-116), 3) := by decide +kernel
theorem dL_areSure_202 : decode cL_areSure 202 = .ok (.iconst 0, 1) := by decide +kernel
theorem dL_areSure_203 : decode cL_areSure 203 = .ok (.ireturn, 1) := by decide +kernel
def fL_areSure (p0 : Nat) (p1 : Int32) (p2 : Int32) (h : mxH) : Option (Int32 × mxH) := Option.bind (nwV h 20 20) (fun h1 => Option.bind (nwV h1 20 20) (fun h3 => Option.bind (mxLoop (ρ := mxH) (fun s52 : (Int32 × mxH) => (if 20 ≤ s52.1 then some (Sum.inr s52.2) else Option.bind (isO s52.2 p0 11) (fun u66 => Option.bind (fL_isReadAt p0 s52.1 p2 s52.2) (fun o69 => Option.bind (α := (Int32 × mxH)) (if o69 = 0 then some ((-1), s52.2) else Option.bind (isO s52.2 p0 11) (fun u78 => Option.bind (fL_bound p0 s52.1 p2 0 s52.2) (fun o81 => some (o81.1, o81.2)))) (fun jp72' : (Int32 × mxH) => Option.bind (stI jp72'.2 h.2 s52.1 jp72'.1) (fun h82 => Option.bind (isO h82 p0 11) (fun u84 => Option.bind (fL_isReadAt p0 s52.1 p2 h82) (fun o87 => Option.bind (α := (Int32 × mxH)) (if o87 = 0 then some ((-1), h82) else Option.bind (isO h82 p0 11) (fun u96 => Option.bind (fL_bound p0 s52.1 p2 1 h82) (fun o99 => some (o99.1, o99.2)))) (fun jp90' : (Int32 × mxH) => Option.bind (stI jp90'.2 h1.2 s52.1 jp90'.1) (fun h100 => some (Sum.inl (s52.1 + 1, h100)))))))))))) 21 (0, h3)) (fun r104 : mxH => Option.bind (mxLoop (ρ := (mxH ⊕ mxH)) (fun s171 : (Int32 × mxH) => (if 20 ≤ s171.1 then some (Sum.inr (Sum.inr s171.2)) else Option.bind (ldI s171.2 h.2 s171.1) (fun v186 => Option.bind (isO s171.2 p0 11) (fun u188 => Option.bind (fL_limit p0 p2 s171.2) (fun o191 => (if o191.1 ≤ v186 then Option.bind (mxLoop (ρ := (Int32 × Int32)) (fun s193 : (Int32 × Int32 × Int32) => (if 20 ≤ s193.2.2 then some (Sum.inr (s193.1, s193.2.1)) else Option.bind (ldI o191.2 h1.2 s193.2.2) (fun v202 => Option.bind (ldI o191.2 h.2 s171.1) (fun v204 => Option.bind (α := Int32) (if v202 ≤ v204 then some s193.1 else Option.bind (ldI o191.2 h.2 s193.2.2) (fun v219 => Option.bind (ldI o191.2 h.2 s171.1) (fun v221 => Option.bind (α := Int32) (if v219 < v221 then some 100 else some 1) (fun jp225' : Int32 => some (s193.1 + jp225'))))) (fun jp208' : Int32 => Option.bind (ldI o191.2 h.2 s193.2.2) (fun v228 => Option.bind (ldI o191.2 h.2 s171.1) (fun v230 => Option.bind (α := Int32) (if v228 < v230 then some 0 else some 1) (fun jp234' : Int32 => some (Sum.inl (jp208', s193.2.1 + jp234', s193.2.2 + 1)))))))))) mxF (0, 0, 0)) (fun r238 : (Int32 × Int32) => (if p1 < r238.1 then some (Sum.inl (s171.1 + 1, o191.2)) else (if r238.2 < p1 then some (Sum.inl (s171.1 + 1, o191.2)) else some (Sum.inr (Sum.inl o191.2))))) else some (Sum.inl (s171.1 + 1, o191.2)))))))) 21 (0, r104)) (Sum.elim (fun r242 : mxH => Option.bind (mxZ1 1) (fun v243 => some (v243, r242))) (fun r246 : mxH => Option.bind (mxZ1 0) (fun v247 => some (v247, r246)))))))
abbrev rmL_areSure : Room := { frames := 4, cells := 65, slots := 355, locals := 95 }
set_option maxRecDepth 20000 in
set_option maxHeartbeats 1000000 in
theorem tL_areSure {l : Launch} {Z : mxZ} (hl : l.stackTraces = false) {p0 : Nat} {p1 : Int32} {p2 : Int32} {h : mxH} {out : (Int32 × mxH)} (hf : fL_areSure p0 p1 p2 h = some out) : mxMet l Z yL_areSure cL_areSure 9 (some .boolean) rmL_areSure [.ref p0, .int p1, .int p2] h (.inl (some (.int out.1))) out.2 := by
  refine mxMet_of (by decide) hl (by simp [Value.category]) (Nat.le_of_ble_eq_true rfl) ?_
  intro X C E hX hin
  unfold fL_areSure at hf
  refine mG_bp (pc := 0) C dL_areSure_0 kB20 ?_
  obtain ⟨h1, e2, hf⟩ := mx_bind hf
  refine mG_nwV (B := 20) (pc := 2) (k' := 1) (n' := 20) C hX dL_areSure_2 w272 rfl e2 rfl rfl ⟨Nat.le_of_ble_eq_true rfl, Nat.le_of_ble_eq_true rfl⟩ ?_
  refine mG_asn (ls' := [some (.ref p0), some (.int p1), some (.int p2), some (.ref h.2), none, none, none, none, none]) (pc := 4) C dL_areSure_4 rfl rfl rfl ?_
  refine mG_bp (pc := 5) C dL_areSure_5 kB20 ?_
  obtain ⟨h3, e4, hf⟩ := mx_bind hf
  refine mG_nwV (B := 20) (pc := 7) (k' := 2) (n' := 40) C hX dL_areSure_7 w272 rfl e4 rfl rfl ⟨Nat.le_of_ble_eq_true rfl, Nat.le_of_ble_eq_true rfl⟩ ?_
  refine mG_as (ls' := [some (.ref p0), some (.int p1), some (.int p2), some (.ref h.2), some (.ref h1.2), none, none, none, none]) (pc := 9) C dL_areSure_9 rfl rfl rfl ?_
  refine mG_ic (pc := 11) C dL_areSure_11 kI0 ?_
  refine mG_is (ls' := [some (.ref p0), some (.int p1), some (.int p2), some (.ref h.2), some (.ref h1.2), some (.int 0), none, none, none]) (pc := 12) C dL_areSure_12 rfl rfl rfl ?_
  obtain ⟨r59, e60, hf⟩ := mx_bind hf
  have J56 : ∀ r104 : mxH, r104 = r59 → mG l Z X 9 44 250 80 [some (.ref p0), some (.int p1), some (.int p2), some (.ref h.2), some (.ref h1.2), none, none, none, none] [] r104 := by
    intro r104 q250
    subst q250
    refine mG_ic (pc := 80) C dL_areSure_80 kI0 ?_
    refine mG_is (ls' := [some (.ref p0), some (.int p1), some (.int p2), some (.ref h.2), some (.ref h1.2), some (.int 0), none, none, none]) (pc := 81) C dL_areSure_81 rfl rfl rfl ?_
    obtain ⟨r179, e180, hf⟩ := mx_bind hf
    have J175 : ∀ r242 : mxH, Sum.inl r242 = r179 → mG l Z X 9 65 355 194 [none, none, none, none, none, none, none, none, none] [] r242 := by
      intro r242 q245
      subst q245
      rw [Sum.elim_inl] at hf
      refine mG_ic (pc := 194) C dL_areSure_194 kI1 ?_
      obtain ⟨v243, e244, hf⟩ := mx_bind hf
      cases hf
      exact mG_zr2 (pc := 195) C e244 E hX dL_areSure_195 ⟨Nat.le_of_ble_eq_true rfl, Nat.le_of_ble_eq_true rfl⟩
    have J176 : ∀ r246 : mxH, Sum.inr r246 = r179 → mG l Z X 9 65 355 202 [none, none, none, none, none, none, none, none, none] [] r246 := by
      intro r246 q249
      subst q249
      rw [Sum.elim_inr] at hf
      refine mG_ic (pc := 202) C dL_areSure_202 kI0 ?_
      obtain ⟨v247, e248, hf⟩ := mx_bind hf
      cases hf
      exact mG_zr2 (pc := 203) C e248 E hX dL_areSure_203 ⟨Nat.le_of_ble_eq_true rfl, Nat.le_of_ble_eq_true rfl⟩
    refine mG_sub (ls' := [some (.ref p0), some (.int p1), some (.int p2), some (.ref h.2), some (.ref h1.2), some (.int 0), none, none, none]) (mxLe_s (mxLe_s (mxLe_s (mxLe_s (mxLe_s (mxLe_s (mxLe_n (mxLe_n (mxLe_n mxLe_z))))))))) (mxLoop_indN (K := fun (N174 : Nat) (s171 : (Int32 × mxH)) => ∀ k172 n173 : Nat, k172 + 1 * N174 ≤ 44 + 1 * 21 → n173 + 5 * N174 ≤ 250 + 5 * 21 → mG l Z X 9 k172 n173 83 [some (.ref p0), some (.int p1), some (.int p2), some (.ref h.2), some (.ref h1.2), some (.int s171.1), none, none, none] [] s171.2) ?_ _ _ e180 _ _ (Nat.le_refl _) (Nat.le_refl _))
    intro N174 s171 o181 e182 hK177 hx178 k172 n173 hk183 hn184
    refine mG_iload (pc := 83) C dL_areSure_83 rfl ?_
    refine mG_bp (pc := 85) C dL_areSure_85 kB20 ?_
    refine mG_icmp_ge (pc := 87) (tgt := 202) C dL_areSure_87 (by decide) (fun q185 => ?_) (fun q185 => ?_)
    · rw [if_pos q185] at e182
      exact mG_wd (by omega) (by omega) (mG_sub (mxLe_n (mxLe_n (mxLe_n (mxLe_n (mxLe_n (mxLe_n (mxLe_n (mxLe_n (mxLe_n mxLe_z))))))))) (J176 _ (hx178 _ (Option.some.inj e182).symm)))
    · rw [if_neg q185] at e182
      refine mG_aload_n (pc := 90) C dL_areSure_90 rfl ?_
      refine mG_iload (pc := 91) C dL_areSure_91 rfl ?_
      obtain ⟨v186, e187, e182⟩ := mx_bind e182
      refine mG_iaload (pc := 93) C dL_areSure_93 e187 ?_
      refine mG_aload_n (pc := 94) C dL_areSure_94 rfl ?_
      refine mG_iload_n (pc := 95) C dL_areSure_95 rfl ?_
      obtain ⟨u188, e189, e182⟩ := mx_bind e182
      obtain ⟨o191, e190, e182⟩ := mx_bind e182
      refine mG_cV2 (pc := 96) (k' := (k172 + 1)) (n' := (n173 + 5)) (h' := o191.2) (v := some (.int o191.1)) 11 [.int p2] [.int v186] C hX dL_areSure_96 lkV_L_129 rfl rfl e189 (tL_limit hl e190) rfl (by show k172 + 1 = (k172 + 1); omega) (by show n173 + 5 = (n173 + 5); omega) ⟨by show (k172 + 1) ≤ 65; omega, by show (n173 + 5) ≤ 355; omega⟩ rfl ?_
      refine mG_icmp_ge (pc := 99) (tgt := 105) C dL_areSure_99 (by decide) (fun q192 => ?_) (fun q192 => ?_)
      · rw [if_pos q192] at e182
        refine mG_ic (pc := 105) C dL_areSure_105 kI0 ?_
        refine mG_is (ls' := [some (.ref p0), some (.int p1), some (.int p2), some (.ref h.2), some (.ref h1.2), some (.int s171.1), some (.int 0), none, none]) (pc := 106) C dL_areSure_106 rfl rfl rfl ?_
        refine mG_ic (pc := 108) C dL_areSure_108 kI0 ?_
        refine mG_is (ls' := [some (.ref p0), some (.int p1), some (.int p2), some (.ref h.2), some (.ref h1.2), some (.int s171.1), some (.int 0), some (.int 0), none]) (pc := 109) C dL_areSure_109 rfl rfl rfl ?_
        refine mG_ic (pc := 111) C dL_areSure_111 kI0 ?_
        refine mG_is (ls' := [some (.ref p0), some (.int p1), some (.int p2), some (.ref h.2), some (.ref h1.2), some (.int s171.1), some (.int 0), some (.int 0), some (.int 0)]) (pc := 112) C dL_areSure_112 rfl rfl rfl ?_
        obtain ⟨r194, e195, e182⟩ := mx_bind e182
        have J196 : ∀ r238 : (Int32 × Int32), r238 = r194 → mG l Z X 9 (k172 + 1) (n173 + 5) 182 [some (.ref p0), some (.int p1), some (.int p2), some (.ref h.2), some (.ref h1.2), some (.int s171.1), some (.int r238.1), some (.int r238.2), none] [] o191.2 := by
          intro r238 q241
          subst q241
          refine mG_iload (pc := 182) C dL_areSure_182 rfl ?_
          refine mG_iload_n (pc := 184) C dL_areSure_184 rfl ?_
          refine mG_icmp_gt (pc := 185) (tgt := 196) C dL_areSure_185 (by decide) (fun q239 => ?_) (fun q239 => ?_)
          · rw [if_pos q239] at e182
            refine mG_ii (ls' := [some (.ref p0), some (.int p1), some (.int p2), some (.ref h.2), some (.ref h1.2), some (.int (s171.1 + 1)), some (.int r238.1), some (.int r238.2), none]) (pc := 196) C dL_areSure_196 rfl (kinc1 _) rfl rfl rfl ?_
            refine mG_goto (tgt := 83) (pc := 199) C dL_areSure_199 (by decide) ?_
            exact mG_sub (mxLe_s (mxLe_s (mxLe_s (mxLe_s (mxLe_s (mxLe_s (mxLe_n (mxLe_n (mxLe_n mxLe_z))))))))) (hK177 _ (Option.some.inj e182).symm _ _ (by omega) (by omega))
          · rw [if_neg q239] at e182
            refine mG_iload (pc := 188) C dL_areSure_188 rfl ?_
            refine mG_iload_n (pc := 190) C dL_areSure_190 rfl ?_
            refine mG_icmp_lt (pc := 191) (tgt := 196) C dL_areSure_191 (by decide) (fun q240 => ?_) (fun q240 => ?_)
            · rw [if_pos q240] at e182
              refine mG_ii (ls' := [some (.ref p0), some (.int p1), some (.int p2), some (.ref h.2), some (.ref h1.2), some (.int (s171.1 + 1)), some (.int r238.1), some (.int r238.2), none]) (pc := 196) C dL_areSure_196 rfl (kinc1 _) rfl rfl rfl ?_
              refine mG_goto (tgt := 83) (pc := 199) C dL_areSure_199 (by decide) ?_
              exact mG_sub (mxLe_s (mxLe_s (mxLe_s (mxLe_s (mxLe_s (mxLe_s (mxLe_n (mxLe_n (mxLe_n mxLe_z))))))))) (hK177 _ (Option.some.inj e182).symm _ _ (by omega) (by omega))
            · rw [if_neg q240] at e182
              exact mG_wd (by omega) (by omega) (mG_sub (mxLe_n (mxLe_n (mxLe_n (mxLe_n (mxLe_n (mxLe_n (mxLe_n (mxLe_n (mxLe_n mxLe_z))))))))) (J175 _ (hx178 _ (Option.some.inj e182).symm)))
        refine mG_sub (ls' := [some (.ref p0), some (.int p1), some (.int p2), some (.ref h.2), some (.ref h1.2), some (.int s171.1), some (.int 0), some (.int 0), some (.int 0)]) (mxLe_s (mxLe_s (mxLe_s (mxLe_s (mxLe_s (mxLe_s (mxLe_s (mxLe_s (mxLe_s mxLe_z))))))))) (mxLoop_ind (K := fun s193 : (Int32 × Int32 × Int32) => mG l Z X 9 (k172 + 1) (n173 + 5) 114 [some (.ref p0), some (.int p1), some (.int p2), some (.ref h.2), some (.ref h1.2), some (.int s171.1), some (.int s193.1), some (.int s193.2.1), some (.int s193.2.2)] [] o191.2) ?_ _ _ e195)
        intro s193 o199 e200 hK197 hx198
        refine mG_iload (pc := 114) C dL_areSure_114 rfl ?_
        refine mG_bp (pc := 116) C dL_areSure_116 kB20 ?_
        refine mG_icmp_ge (pc := 118) (tgt := 182) C dL_areSure_118 (by decide) (fun q201 => ?_) (fun q201 => ?_)
        · rw [if_pos q201] at e200
          exact mG_sub (mxLe_s (mxLe_s (mxLe_s (mxLe_s (mxLe_s (mxLe_s (mxLe_s (mxLe_s (mxLe_n mxLe_z))))))))) (J196 _ (hx198 _ (Option.some.inj e200).symm))
        · rw [if_neg q201] at e200
          refine mG_aload (pc := 121) C dL_areSure_121 rfl ?_
          refine mG_iload (pc := 123) C dL_areSure_123 rfl ?_
          obtain ⟨v202, e203, e200⟩ := mx_bind e200
          refine mG_iaload (pc := 125) C dL_areSure_125 e203 ?_
          refine mG_aload_n (pc := 126) C dL_areSure_126 rfl ?_
          refine mG_iload (pc := 127) C dL_areSure_127 rfl ?_
          obtain ⟨v204, e205, e200⟩ := mx_bind e200
          refine mG_iaload (pc := 129) C dL_areSure_129 e205 ?_
          obtain ⟨jp208, e209, e200⟩ := mx_bind e200
          have J207 : ∀ jp208' : Int32, jp208' = jp208 → mG l Z X 9 (k172 + 1) (n173 + 5) 155 [some (.ref p0), some (.int p1), some (.int p2), some (.ref h.2), some (.ref h1.2), some (.int s171.1), some (.int jp208'), some (.int s193.2.1), some (.int s193.2.2)] [] o191.2 := by
            intro jp208' q237
            subst q237
            refine mG_iload (pc := 155) C dL_areSure_155 rfl ?_
            refine mG_aload_n (pc := 157) C dL_areSure_157 rfl ?_
            refine mG_iload (pc := 158) C dL_areSure_158 rfl ?_
            obtain ⟨v228, e229, e200⟩ := mx_bind e200
            refine mG_iaload (pc := 160) C dL_areSure_160 e229 ?_
            refine mG_aload_n (pc := 161) C dL_areSure_161 rfl ?_
            refine mG_iload (pc := 162) C dL_areSure_162 rfl ?_
            obtain ⟨v230, e231, e200⟩ := mx_bind e200
            refine mG_iaload (pc := 164) C dL_areSure_164 e231 ?_
            obtain ⟨jp234, e235, e200⟩ := mx_bind e200
            have J233 : ∀ jp234' : Int32, jp234' = jp234 → mG l Z X 9 (k172 + 1) (n173 + 5) 173 [some (.ref p0), some (.int p1), some (.int p2), some (.ref h.2), some (.ref h1.2), some (.int s171.1), some (.int jp208'), none, some (.int s193.2.2)] [.int jp234', .int s193.2.1] o191.2 := by
              intro jp234' q236
              subst q236
              refine mG_iadd (pc := 173) C dL_areSure_173 ?_
              refine mG_is (ls' := [some (.ref p0), some (.int p1), some (.int p2), some (.ref h.2), some (.ref h1.2), some (.int s171.1), some (.int jp208'), some (.int (s193.2.1 + jp234')), some (.int s193.2.2)]) (pc := 174) C dL_areSure_174 rfl rfl rfl ?_
              refine mG_ii (ls' := [some (.ref p0), some (.int p1), some (.int p2), some (.ref h.2), some (.ref h1.2), some (.int s171.1), some (.int jp208'), some (.int (s193.2.1 + jp234')), some (.int (s193.2.2 + 1))]) (pc := 176) C dL_areSure_176 rfl (kinc1 _) rfl rfl rfl ?_
              refine mG_goto (tgt := 114) (pc := 179) C dL_areSure_179 (by decide) ?_
              exact mG_sub (mxLe_s (mxLe_s (mxLe_s (mxLe_s (mxLe_s (mxLe_s (mxLe_s (mxLe_s (mxLe_s mxLe_z))))))))) (hK197 _ (Option.some.inj e200).symm)
            refine mG_icmp_lt (pc := 165) (tgt := 172) C dL_areSure_165 (by decide) (fun q232 => ?_) (fun q232 => ?_)
            · rw [if_pos q232] at e235
              refine mG_ic (pc := 172) C dL_areSure_172 kI0 ?_
              exact mG_sub (mxLe_s (mxLe_s (mxLe_s (mxLe_s (mxLe_s (mxLe_s (mxLe_s (mxLe_n (mxLe_s mxLe_z))))))))) (J233 _ (Option.some.inj e235))
            · rw [if_neg q232] at e235
              refine mG_ic (pc := 168) C dL_areSure_168 kI1 ?_
              refine mG_goto (tgt := 173) (pc := 169) C dL_areSure_169 (by decide) ?_
              exact mG_sub (mxLe_s (mxLe_s (mxLe_s (mxLe_s (mxLe_s (mxLe_s (mxLe_s (mxLe_n (mxLe_s mxLe_z))))))))) (J233 _ (Option.some.inj e235))
          refine mG_icmp_le (pc := 130) (tgt := 155) C dL_areSure_130 (by decide) (fun q206 => ?_) (fun q206 => ?_)
          · rw [if_pos q206] at e209
            exact mG_sub (mxLe_s (mxLe_s (mxLe_s (mxLe_s (mxLe_s (mxLe_s (mxLe_s (mxLe_s (mxLe_s mxLe_z))))))))) (J207 _ (Option.some.inj e209))
          · rw [if_neg q206] at e209
            refine mG_iload (pc := 133) C dL_areSure_133 rfl ?_
            refine mG_aload_n (pc := 135) C dL_areSure_135 rfl ?_
            refine mG_iload (pc := 136) C dL_areSure_136 rfl ?_
            obtain ⟨v219, e220, e209⟩ := mx_bind e209
            refine mG_iaload (pc := 138) C dL_areSure_138 e220 ?_
            refine mG_aload_n (pc := 139) C dL_areSure_139 rfl ?_
            refine mG_iload (pc := 140) C dL_areSure_140 rfl ?_
            obtain ⟨v221, e222, e209⟩ := mx_bind e209
            refine mG_iaload (pc := 142) C dL_areSure_142 e222 ?_
            obtain ⟨jp225, e226, e209⟩ := mx_bind e209
            have J224 : ∀ jp225' : Int32, jp225' = jp225 → mG l Z X 9 (k172 + 1) (n173 + 5) 152 [some (.ref p0), some (.int p1), some (.int p2), some (.ref h.2), some (.ref h1.2), some (.int s171.1), none, some (.int s193.2.1), some (.int s193.2.2)] [.int jp225', .int s193.1] o191.2 := by
              intro jp225' q227
              subst q227
              refine mG_iadd (pc := 152) C dL_areSure_152 ?_
              refine mG_is (ls' := [some (.ref p0), some (.int p1), some (.int p2), some (.ref h.2), some (.ref h1.2), some (.int s171.1), some (.int (s193.1 + jp225')), some (.int s193.2.1), some (.int s193.2.2)]) (pc := 153) C dL_areSure_153 rfl rfl rfl ?_
              exact mG_sub (mxLe_s (mxLe_s (mxLe_s (mxLe_s (mxLe_s (mxLe_s (mxLe_s (mxLe_s (mxLe_s mxLe_z))))))))) (J207 _ (Option.some.inj e209))
            refine mG_icmp_lt (pc := 143) (tgt := 150) C dL_areSure_143 (by decide) (fun q223 => ?_) (fun q223 => ?_)
            · rw [if_pos q223] at e226
              refine mG_bp (pc := 150) C dL_areSure_150 kB100 ?_
              exact mG_sub (mxLe_s (mxLe_s (mxLe_s (mxLe_s (mxLe_s (mxLe_s (mxLe_n (mxLe_s (mxLe_s mxLe_z))))))))) (J224 _ (Option.some.inj e226))
            · rw [if_neg q223] at e226
              refine mG_ic (pc := 146) C dL_areSure_146 kI1 ?_
              refine mG_goto (tgt := 152) (pc := 147) C dL_areSure_147 (by decide) ?_
              exact mG_sub (mxLe_s (mxLe_s (mxLe_s (mxLe_s (mxLe_s (mxLe_s (mxLe_n (mxLe_s (mxLe_s mxLe_z))))))))) (J224 _ (Option.some.inj e226))
      · rw [if_neg q192] at e182
        refine mG_goto (tgt := 196) (pc := 102) C dL_areSure_102 (by decide) ?_
        refine mG_ii (ls' := [some (.ref p0), some (.int p1), some (.int p2), some (.ref h.2), some (.ref h1.2), some (.int (s171.1 + 1)), none, none, none]) (pc := 196) C dL_areSure_196 rfl (kinc1 _) rfl rfl rfl ?_
        refine mG_goto (tgt := 83) (pc := 199) C dL_areSure_199 (by decide) ?_
        exact mG_sub (mxLe_s (mxLe_s (mxLe_s (mxLe_s (mxLe_s (mxLe_s (mxLe_n (mxLe_n (mxLe_n mxLe_z))))))))) (hK177 _ (Option.some.inj e182).symm _ _ (by omega) (by omega))
  refine mG_sub (ls' := [some (.ref p0), some (.int p1), some (.int p2), some (.ref h.2), some (.ref h1.2), some (.int 0), none, none, none]) (mxLe_s (mxLe_s (mxLe_s (mxLe_s (mxLe_s (mxLe_s (mxLe_n (mxLe_n (mxLe_n mxLe_z))))))))) (mxLoop_indN (K := fun (N55 : Nat) (s52 : (Int32 × mxH)) => ∀ k53 n54 : Nat, k53 + 2 * N55 ≤ 2 + 2 * 21 → n54 + 10 * N55 ≤ 40 + 10 * 21 → mG l Z X 9 k53 n54 14 [some (.ref p0), some (.int p1), some (.int p2), some (.ref h.2), some (.ref h1.2), some (.int s52.1), none, none, none] [] s52.2) ?_ _ _ e60 _ _ (Nat.le_refl _) (Nat.le_refl _))
  intro N55 s52 o61 e62 hK57 hx58 k53 n54 hk63 hn64
  refine mG_iload (pc := 14) C dL_areSure_14 rfl ?_
  refine mG_bp (pc := 16) C dL_areSure_16 kB20 ?_
  refine mG_icmp_ge (pc := 18) (tgt := 80) C dL_areSure_18 (by decide) (fun q65 => ?_) (fun q65 => ?_)
  · rw [if_pos q65] at e62
    exact mG_wd (by omega) (by omega) (mG_sub (mxLe_s (mxLe_s (mxLe_s (mxLe_s (mxLe_s (mxLe_n (mxLe_n (mxLe_n (mxLe_n mxLe_z))))))))) (J56 _ (hx58 _ (Option.some.inj e62).symm)))
  · rw [if_neg q65] at e62
    refine mG_aload_n (pc := 21) C dL_areSure_21 rfl ?_
    refine mG_iload (pc := 22) C dL_areSure_22 rfl ?_
    refine mG_aload_n (pc := 24) C dL_areSure_24 rfl ?_
    refine mG_iload (pc := 25) C dL_areSure_25 rfl ?_
    refine mG_iload_n (pc := 27) C dL_areSure_27 rfl ?_
    obtain ⟨u66, e67, e62⟩ := mx_bind e62
    obtain ⟨o69, e68, e62⟩ := mx_bind e62
    refine mG_cV2 (pc := 28) (k' := k53) (n' := n54) (h' := s52.2) (v := some (.int o69)) 11 [.int s52.1, .int p2] [.int s52.1, .ref h.2] C hX dL_areSure_28 lkV_L_86 rfl rfl e67 (tL_isReadAt hl e68) rfl (by show k53 + 0 = k53; omega) (by show n54 + 0 = n54; omega) ⟨by show k53 ≤ 65; omega, by show n54 ≤ 355; omega⟩ rfl ?_
    obtain ⟨jp72, e73, e62⟩ := mx_bind e62
    have J71 : ∀ jp72' : (Int32 × mxH), jp72' = jp72 → mG l Z X 9 (k53 + 1) (n54 + 5) 46 [some (.ref p0), some (.int p1), some (.int p2), some (.ref h.2), some (.ref h1.2), some (.int s52.1), none, none, none] [.int jp72'.1, .int s52.1, .ref h.2] jp72'.2 := by
      intro jp72' q103
      subst q103
      obtain ⟨h82, e83, e62⟩ := mx_bind e62
      refine mG_iastore (pc := 46) C dL_areSure_46 e83 ?_
      refine mG_aload (pc := 47) C dL_areSure_47 rfl ?_
      refine mG_iload (pc := 49) C dL_areSure_49 rfl ?_
      refine mG_aload_n (pc := 51) C dL_areSure_51 rfl ?_
      refine mG_iload (pc := 52) C dL_areSure_52 rfl ?_
      refine mG_iload_n (pc := 54) C dL_areSure_54 rfl ?_
      obtain ⟨u84, e85, e62⟩ := mx_bind e62
      obtain ⟨o87, e86, e62⟩ := mx_bind e62
      refine mG_cV2 (pc := 55) (k' := (k53 + 1)) (n' := (n54 + 5)) (h' := h82) (v := some (.int o87)) 11 [.int s52.1, .int p2] [.int s52.1, .ref h1.2] C hX dL_areSure_55 lkV_L_86 rfl rfl e85 (tL_isReadAt hl e86) rfl (by show (k53 + 1) + 0 = (k53 + 1); omega) (by show (n54 + 5) + 0 = (n54 + 5); omega) ⟨by show (k53 + 1) ≤ 65; omega, by show (n54 + 5) ≤ 355; omega⟩ rfl ?_
      obtain ⟨jp90, e91, e62⟩ := mx_bind e62
      have J89 : ∀ jp90' : (Int32 × mxH), jp90' = jp90 → mG l Z X 9 (k53 + 2) (n54 + 10) 73 [some (.ref p0), some (.int p1), some (.int p2), some (.ref h.2), some (.ref h1.2), some (.int s52.1), none, none, none] [.int jp90'.1, .int s52.1, .ref h1.2] jp90'.2 := by
        intro jp90' q102
        subst q102
        obtain ⟨h100, e101, e62⟩ := mx_bind e62
        refine mG_iastore (pc := 73) C dL_areSure_73 e101 ?_
        refine mG_ii (ls' := [some (.ref p0), some (.int p1), some (.int p2), some (.ref h.2), some (.ref h1.2), some (.int (s52.1 + 1)), none, none, none]) (pc := 74) C dL_areSure_74 rfl (kinc1 _) rfl rfl rfl ?_
        refine mG_goto (tgt := 14) (pc := 77) C dL_areSure_77 (by decide) ?_
        exact mG_sub (mxLe_s (mxLe_s (mxLe_s (mxLe_s (mxLe_s (mxLe_s (mxLe_n (mxLe_n (mxLe_n mxLe_z))))))))) (hK57 _ (Option.some.inj e62).symm _ _ (by omega) (by omega))
      refine mG_if_eq (pc := 58) (tgt := 72) C dL_areSure_58 (by decide) (fun q88 => ?_) (fun q88 => ?_)
      · rw [if_pos q88] at e91
        refine mG_ic (pc := 72) C dL_areSure_72 kIm1 ?_
        exact mG_wd (by omega) (by omega) (mG_sub (mxLe_s (mxLe_s (mxLe_s (mxLe_s (mxLe_s (mxLe_s (mxLe_n (mxLe_n (mxLe_n mxLe_z))))))))) (J89 _ (Option.some.inj e91)))
      · rw [if_neg q88] at e91
        refine mG_aload_n (pc := 61) C dL_areSure_61 rfl ?_
        refine mG_iload (pc := 62) C dL_areSure_62 rfl ?_
        refine mG_iload_n (pc := 64) C dL_areSure_64 rfl ?_
        refine mG_ic (pc := 65) C dL_areSure_65 kI1 ?_
        obtain ⟨u96, e97, e91⟩ := mx_bind e91
        obtain ⟨o99, e98, e91⟩ := mx_bind e91
        refine mG_cV2 (pc := 66) (k' := (k53 + 2)) (n' := (n54 + 10)) (h' := o99.2) (v := some (.int o99.1)) 11 [.int s52.1, .int p2, .int 1] [.int s52.1, .ref h1.2] C hX dL_areSure_66 lkV_L_82 rfl rfl e97 (tL_bound hl e98) rfl (by show (k53 + 1) + 1 = (k53 + 2); omega) (by show (n54 + 5) + 5 = (n54 + 10); omega) ⟨by show (k53 + 2) ≤ 65; omega, by show (n54 + 10) ≤ 355; omega⟩ rfl ?_
        refine mG_goto (tgt := 73) (pc := 69) C dL_areSure_69 (by decide) ?_
        exact mG_sub (mxLe_s (mxLe_s (mxLe_s (mxLe_s (mxLe_s (mxLe_s (mxLe_n (mxLe_n (mxLe_n mxLe_z))))))))) (J89 _ (Option.some.inj e91))
    refine mG_if_eq (pc := 31) (tgt := 45) C dL_areSure_31 (by decide) (fun q70 => ?_) (fun q70 => ?_)
    · rw [if_pos q70] at e73
      refine mG_ic (pc := 45) C dL_areSure_45 kIm1 ?_
      exact mG_wd (by omega) (by omega) (mG_sub (mxLe_s (mxLe_s (mxLe_s (mxLe_s (mxLe_s (mxLe_s (mxLe_n (mxLe_n (mxLe_n mxLe_z))))))))) (J71 _ (Option.some.inj e73)))
    · rw [if_neg q70] at e73
      refine mG_aload_n (pc := 34) C dL_areSure_34 rfl ?_
      refine mG_iload (pc := 35) C dL_areSure_35 rfl ?_
      refine mG_iload_n (pc := 37) C dL_areSure_37 rfl ?_
      refine mG_ic (pc := 38) C dL_areSure_38 kI0 ?_
      obtain ⟨u78, e79, e73⟩ := mx_bind e73
      obtain ⟨o81, e80, e73⟩ := mx_bind e73
      refine mG_cV2 (pc := 39) (k' := (k53 + 1)) (n' := (n54 + 5)) (h' := o81.2) (v := some (.int o81.1)) 11 [.int s52.1, .int p2, .int 0] [.int s52.1, .ref h.2] C hX dL_areSure_39 lkV_L_82 rfl rfl e79 (tL_bound hl e80) rfl (by show k53 + 1 = (k53 + 1); omega) (by show n54 + 5 = (n54 + 5); omega) ⟨by show (k53 + 1) ≤ 65; omega, by show (n54 + 5) ≤ 355; omega⟩ rfl ?_
      refine mG_goto (tgt := 46) (pc := 42) C dL_areSure_42 (by decide) ?_
      exact mG_sub (mxLe_s (mxLe_s (mxLe_s (mxLe_s (mxLe_s (mxLe_s (mxLe_n (mxLe_n (mxLe_n mxLe_z))))))))) (J71 _ (Option.some.inj e73))
theorem dL_isPlain_0 : decode cL_isPlain 0 = .ok (.aload_n 0, 1) := by decide +kernel
theorem dL_isPlain_1 : decode cL_isPlain 1 = .ok (.getfield 10, 3) := by decide +kernel
theorem dL_isPlain_4 : decode cL_isPlain 4 = .ok (.iload_n 1, 1) := by decide +kernel
theorem dL_isPlain_5 : decode cL_isPlain 5 = .ok (.invokevirtual 157, 3) := by decide +kernel
theorem dL_isPlain_8 : decode cL_isPlain 8 = .ok (.istore_n 2, 1) := by decide +kernel
theorem dL_isPlain_9 : decode cL_isPlain 9 = .ok (.aload_n 0, 1) := by decide +kernel
theorem dL_isPlain_10 : decode cL_isPlain 10 = .ok (.invokevirtual 135, 3) := by decide +kernel
theorem dL_isPlain_13 : decode cL_isPlain 13 = .ok (.istore_n 3, 1) := by decide +kernel
theorem dL_isPlain_14 : decode cL_isPlain 14 = .ok (.iload_n 2, 1) := by decide +kernel
theorem dL_isPlain_15 : decode cL_isPlain 15 = .ok (.aload_n 0, 1) := by decide +kernel
theorem dL_isPlain_16 : decode cL_isPlain 16 = .ok (.getfield 10, 3) := by decide +kernel
theorem dL_isPlain_19 : decode cL_isPlain 19 = .ok (.iload_n 1, 1) := by decide +kernel
theorem dL_isPlain_20 : decode cL_isPlain 20 = .ok (.invokevirtual 132, 3) := by decide +kernel
theorem dL_isPlain_23 : decode cL_isPlain 23 = .ok (.if_icmp .lt 38, 3) := by decide +kernel
theorem dL_isPlain_26 : decode cL_isPlain 26 = .ok (.iload_n 2, 1) := by decide +kernel
theorem dL_isPlain_27 : decode cL_isPlain 27 = .ok (.iload_n 3, 1) := by decide +kernel
theorem dL_isPlain_28 : decode cL_isPlain 28 = .ok (.if_icmp .gt 33, 3) := by decide +kernel
theorem dL_isPlain_31 : decode cL_isPlain 31 = .ok (.iload_n 2, 1) := by decide +kernel
theorem dL_isPlain_32 : decode cL_isPlain 32 = .ok (.iload_n 3, 1) := by decide +kernel
theorem dL_isPlain_33 : decode cL_isPlain 33 = .ok (.if_icmp .ge 12, 3) := by decide +kernel
theorem dL_isPlain_36 : decode cL_isPlain 36 = .ok (.aload_n 0, 1) := by decide +kernel
theorem dL_isPlain_37 : decode cL_isPlain 37 = .ok (.iload_n 1, 1) := by decide +kernel
theorem dL_isPlain_38 : decode cL_isPlain 38 = .ok (.iload_n 2, 1) := by decide +kernel
theorem dL_isPlain_39 : decode cL_isPlain 39 = .ok (.invokevirtual 160, 3) := by decide +kernel
theorem dL_isPlain_42 : decode cL_isPlain 42 = .ok (.ifCond .eq 19, 3) := by decide +kernel
theorem dL_isPlain_45 : decode cL_isPlain 45 = .ok (.iload_n 2, 1) := by decide +kernel
theorem dL_isPlain_46 : decode cL_isPlain 46 = .ok (.iconst 1, 1) := by decide +kernel
theorem dL_isPlain_47 : decode cL_isPlain 47 = .ok (.if_icmp .le 16, 3) := by decide +kernel
theorem dL_isPlain_50 : decode cL_isPlain 50 = .ok (.aload_n 0, 1) := by decide +kernel
theorem dL_isPlain_51 : decode cL_isPlain 51 = .ok (.iload_n 1, 1) := by decide +kernel
theorem dL_isPlain_52 : decode cL_isPlain 52 = .ok (.iload_n 2, 1) := by decide +kernel
theorem dL_isPlain_53 : decode cL_isPlain 53 = .ok (.iconst 1, 1) := by decide +kernel
theorem dL_isPlain_54 : decode cL_isPlain 54 = .ok (.isub, 1) := by decide +kernel
theorem dL_isPlain_55 : decode cL_isPlain 55 = .ok (.invokevirtual 160, 3) := by decide +kernel
theorem dL_isPlain_58 : decode cL_isPlain 58 = .ok (.ifCond .eq 5, 3) := by decide +kernel
theorem dL_isPlain_61 : decode cL_isPlain 61 = .ok (.iconst 0, 1) := by decide +kernel
theorem dL_isPlain_62 : decode cL_isPlain 62 = .ok (.ireturn, 1) := by decide +kernel
theorem dL_isPlain_63 : decode cL_isPlain 63 = .ok (.iconst 1, 1) := by decide +kernel
theorem dL_isPlain_64 : decode cL_isPlain 64 = .ok (.aload_n 0, 1) := by decide +kernel
theorem dL_isPlain_65 : decode cL_isPlain 65 = .ok (.getfield 25, 3) := by decide +kernel
theorem dL_isPlain_68 : decode cL_isPlain 68 = .ok (.bipush 20, 2) := by decide +kernel
theorem dL_isPlain_70 : decode cL_isPlain 70 = .ok (.invokevirtual 30, 3) := by decide +kernel
theorem dL_isPlain_73 : decode cL_isPlain 73 = .ok (.iadd, 1) := by decide +kernel
theorem dL_isPlain_74 : decode cL_isPlain 74 = .ok (.istore 4, 2) := by decide +kernel
theorem dL_isPlain_76 : decode cL_isPlain 76 = .ok (.aload_n 0, 1) := by decide +kernel
theorem dL_isPlain_77 : decode cL_isPlain 77 = .ok (.getfield 25, 3) := by decide +kernel
theorem dL_isPlain_80 : decode cL_isPlain 80 = .ok (.bipush 20, 2) := by decide +kernel
theorem dL_isPlain_82 : decode cL_isPlain 82 = .ok (.invokevirtual 30, 3) := by decide +kernel
theorem dL_isPlain_85 : decode cL_isPlain 85 = .ok (.istore 5, 2) := by decide +kernel
theorem dL_isPlain_87 : decode cL_isPlain 87 = .ok (.aload_n 0, 1) := by decide +kernel
theorem dL_isPlain_88 : decode cL_isPlain 88 = .ok (.getfield 10, 3) := by decide +kernel
theorem dL_isPlain_91 : decode cL_isPlain 91 = .ok (.iload 5, 2) := by decide +kernel
theorem dL_isPlain_93 : decode cL_isPlain 93 = .ok (.iload 4, 2) := by decide +kernel
theorem dL_isPlain_95 : decode cL_isPlain 95 = .ok (.invokevirtual 163, 3) := by decide +kernel
theorem dL_isPlain_98 : decode cL_isPlain 98 = .ok (.aload_n 0, 1) := by decide +kernel
theorem dL_isPlain_99 : decode cL_isPlain 99 = .ok (.iload 5, 2) := by decide +kernel
theorem dL_isPlain_101 : decode cL_isPlain 101 = .ok (.iload 4, 2) := by decide +kernel
theorem dL_isPlain_103 : decode cL_isPlain 103 = .ok (.iconst 0, 1) := by decide +kernel
theorem dL_isPlain_104 : decode cL_isPlain 104 = .ok (.invokevirtual 82, 3) := by decide +kernel
theorem dL_isPlain_107 : decode cL_isPlain 107 = .ok (.if_icmp .ne 30, 3) := by decide +kernel
theorem dL_isPlain_110 : decode cL_isPlain 110 = .ok (.aload_n 0, 1) := by decide +kernel
theorem dL_isPlain_111 : decode cL_isPlain 111 = .ok (.getfield 10, 3) := by decide +kernel
theorem dL_isPlain_114 : decode cL_isPlain 114 = .ok (.iload 5, 2) := by decide +kernel
theorem dL_isPlain_116 : decode cL_isPlain 116 = .ok (.iload 4, 2) := by decide +kernel
theorem dL_isPlain_118 : decode cL_isPlain 118 = .ok (.invokevirtual 166, 3) := by decide +kernel
theorem dL_isPlain_121 : decode cL_isPlain 121 = .ok (.aload_n 0, 1) := by decide +kernel
theorem dL_isPlain_122 : decode cL_isPlain 122 = .ok (.iload 5, 2) := by decide +kernel
theorem dL_isPlain_124 : decode cL_isPlain 124 = .ok (.iload 4, 2) := by decide +kernel
theorem dL_isPlain_126 : decode cL_isPlain 126 = .ok (.iconst 1, 1) := by decide +kernel
theorem dL_isPlain_127 : decode cL_isPlain 127 = .ok (.invokevirtual 82, 3) := by decide +kernel
theorem dL_isPlain_130 : decode cL_isPlain 130 = .ok (.if_icmp .ne 7, 3) := by decide +kernel
theorem dL_isPlain_133 : decode cL_isPlain 133 = .ok (.iconst 1, 1) := by decide +kernel
theorem dL_isPlain_134 : decode cL_isPlain 134 = .ok (.goto 4, 3) := by decide +kernel
theorem dL_isPlain_137 : decode cL_isPlain 137 = .ok (.iconst 0, 1) := by decide +kernel
theorem dL_isPlain_138 : decode cL_isPlain 138 = .ok (.ireturn, 1) := by decide +kernel
def fL_isPlain (p0 : Nat) (p1 : Int32) (h : mxH) : Option (Int32 × mxH) := Option.bind (gR h p0 11 0) (fun r1 => Option.bind (isO h r1 9) (fun u3 => Option.bind (mxOk (fX9_plainDepth r1 p1 h)) (fun o6 => Option.bind (isO o6.2 p0 11) (fun u7 => Option.bind (fL_longest p0 o6.2) (fun o10 => Option.bind (gR o6.2 p0 11 0) (fun r11 => Option.bind (isO o6.2 r11 9) (fun u13 => Option.bind (mxOk (fX9_stopDepth r11 p1 o6.2)) (fun o16 => (if o6.1 < o16.1 then Option.bind (mxZ1 0) (fun v18 => some (v18, o16.2)) else (if o10 < o6.1 then Option.bind (mxZ1 0) (fun v21 => some (v21, o16.2)) else (if o10 ≤ o6.1 then (if o6.1 ≤ 1 then Option.bind (gR o16.2 p0 11 1) (fun r25 => Option.bind (isO o16.2 r25 10) (fun u27 => Option.bind (fX10_next r25 20 o16.2) (fun o30 => Option.bind (gR o30.2 p0 11 1) (fun r31 => Option.bind (isO o30.2 r31 10) (fun u33 => Option.bind (fX10_next r31 20 o30.2) (fun o36 => Option.bind (gR o36.2 p0 11 0) (fun r37 => Option.bind (isO o36.2 r37 9) (fun u39 => Option.bind (mxOk (fX9_lower r37 o36.1 (1 + o30.1) o36.2)) (fun o42 => Option.bind (isO o42.2 p0 11) (fun u43 => Option.bind (fL_bound p0 o36.1 (1 + o30.1) 0 o42.2) (fun o46 => Option.bind (α := (Int32 × mxH)) (if o42.1 = o46.1 then Option.bind (gR o46.2 p0 11 0) (fun r62 => Option.bind (isO o46.2 r62 9) (fun u64 => Option.bind (mxOk (fX9_upper r62 o36.1 (1 + o30.1) o46.2)) (fun o67 => Option.bind (isO o67.2 p0 11) (fun u68 => Option.bind (fL_bound p0 o36.1 (1 + o30.1) 1 o67.2) (fun o71 => (if o67.1 = o71.1 then some (1, o71.2) else some (0, o71.2))))))) else some (0, o46.2)) (fun jp49' : (Int32 × mxH) => Option.bind (mxZ1 jp49'.1) (fun v73 => some (v73, jp49'.2)))))))))))))) else Option.bind (isO o16.2 p0 11) (fun u76 => Option.bind (fL_areSure p0 p1 (o6.1 - 1) o16.2) (fun o79 => (if o79.1 = 0 then Option.bind (gR o79.2 p0 11 1) (fun r81 => Option.bind (isO o79.2 r81 10) (fun u83 => Option.bind (fX10_next r81 20 o79.2) (fun o86 => Option.bind (gR o86.2 p0 11 1) (fun r87 => Option.bind (isO o86.2 r87 10) (fun u89 => Option.bind (fX10_next r87 20 o86.2) (fun o92 => Option.bind (gR o92.2 p0 11 0) (fun r93 => Option.bind (isO o92.2 r93 9) (fun u95 => Option.bind (mxOk (fX9_lower r93 o92.1 (1 + o86.1) o92.2)) (fun o98 => Option.bind (isO o98.2 p0 11) (fun u99 => Option.bind (fL_bound p0 o92.1 (1 + o86.1) 0 o98.2) (fun o102 => Option.bind (α := (Int32 × mxH)) (if o98.1 = o102.1 then Option.bind (gR o102.2 p0 11 0) (fun r118 => Option.bind (isO o102.2 r118 9) (fun u120 => Option.bind (mxOk (fX9_upper r118 o92.1 (1 + o86.1) o102.2)) (fun o123 => Option.bind (isO o123.2 p0 11) (fun u124 => Option.bind (fL_bound p0 o92.1 (1 + o86.1) 1 o123.2) (fun o127 => (if o123.1 = o127.1 then some (1, o127.2) else some (0, o127.2))))))) else some (0, o102.2)) (fun jp105' : (Int32 × mxH) => Option.bind (mxZ1 jp105'.1) (fun v129 => some (v129, jp105'.2)))))))))))))) else Option.bind (mxZ1 0) (fun v132 => some (v132, o79.2)))))) else Option.bind (isO o16.2 p0 11) (fun u134 => Option.bind (fL_areSure p0 p1 o6.1 o16.2) (fun o137 => (if o137.1 = 0 then Option.bind (mxZ1 0) (fun v139 => some (v139, o137.2)) else (if o6.1 ≤ 1 then Option.bind (gR o137.2 p0 11 1) (fun r142 => Option.bind (isO o137.2 r142 10) (fun u144 => Option.bind (fX10_next r142 20 o137.2) (fun o147 => Option.bind (gR o147.2 p0 11 1) (fun r148 => Option.bind (isO o147.2 r148 10) (fun u150 => Option.bind (fX10_next r148 20 o147.2) (fun o153 => Option.bind (gR o153.2 p0 11 0) (fun r154 => Option.bind (isO o153.2 r154 9) (fun u156 => Option.bind (mxOk (fX9_lower r154 o153.1 (1 + o147.1) o153.2)) (fun o159 => Option.bind (isO o159.2 p0 11) (fun u160 => Option.bind (fL_bound p0 o153.1 (1 + o147.1) 0 o159.2) (fun o163 => Option.bind (α := (Int32 × mxH)) (if o159.1 = o163.1 then Option.bind (gR o163.2 p0 11 0) (fun r179 => Option.bind (isO o163.2 r179 9) (fun u181 => Option.bind (mxOk (fX9_upper r179 o153.1 (1 + o147.1) o163.2)) (fun o184 => Option.bind (isO o184.2 p0 11) (fun u185 => Option.bind (fL_bound p0 o153.1 (1 + o147.1) 1 o184.2) (fun o188 => (if o184.1 = o188.1 then some (1, o188.2) else some (0, o188.2))))))) else some (0, o163.2)) (fun jp166' : (Int32 × mxH) => Option.bind (mxZ1 jp166'.1) (fun v190 => some (v190, jp166'.2)))))))))))))) else Option.bind (isO o137.2 p0 11) (fun u193 => Option.bind (fL_areSure p0 p1 (o6.1 - 1) o137.2) (fun o196 => (if o196.1 = 0 then Option.bind (gR o196.2 p0 11 1) (fun r198 => Option.bind (isO o196.2 r198 10) (fun u200 => Option.bind (fX10_next r198 20 o196.2) (fun o203 => Option.bind (gR o203.2 p0 11 1) (fun r204 => Option.bind (isO o203.2 r204 10) (fun u206 => Option.bind (fX10_next r204 20 o203.2) (fun o209 => Option.bind (gR o209.2 p0 11 0) (fun r210 => Option.bind (isO o209.2 r210 9) (fun u212 => Option.bind (mxOk (fX9_lower r210 o209.1 (1 + o203.1) o209.2)) (fun o215 => Option.bind (isO o215.2 p0 11) (fun u216 => Option.bind (fL_bound p0 o209.1 (1 + o203.1) 0 o215.2) (fun o219 => Option.bind (α := (Int32 × mxH)) (if o215.1 = o219.1 then Option.bind (gR o219.2 p0 11 0) (fun r235 => Option.bind (isO o219.2 r235 9) (fun u237 => Option.bind (mxOk (fX9_upper r235 o209.1 (1 + o203.1) o219.2)) (fun o240 => Option.bind (isO o240.2 p0 11) (fun u241 => Option.bind (fL_bound p0 o209.1 (1 + o203.1) 1 o240.2) (fun o244 => (if o240.1 = o244.1 then some (1, o244.2) else some (0, o244.2))))))) else some (0, o219.2)) (fun jp222' : (Int32 × mxH) => Option.bind (mxZ1 jp222'.1) (fun v246 => some (v246, jp222'.2)))))))))))))) else Option.bind (mxZ1 0) (fun v249 => some (v249, o196.2))))))))))))))))))))
abbrev rmL_isPlain : Room := { frames := 8, cells := 138, slots := 756, locals := 156 }
set_option maxRecDepth 20000 in
set_option maxHeartbeats 1000000 in
theorem tL_isPlain {l : Launch} {Z : mxZ} (hl : l.stackTraces = false) {p0 : Nat} {p1 : Int32} {h : mxH} {out : (Int32 × mxH)} (hf : fL_isPlain p0 p1 h = some out) : mxMet l Z yL_isPlain cL_isPlain 6 (some .boolean) rmL_isPlain [.ref p0, .int p1] h (.inl (some (.int out.1))) out.2 := by
  refine mxMet_of (by decide) hl (by simp [Value.category]) (Nat.le_of_ble_eq_true rfl) ?_
  intro X C E hX hin
  unfold fL_isPlain at hf
  refine mG_aload_n (pc := 0) C dL_isPlain_0 rfl ?_
  obtain ⟨r1, e2, hf⟩ := mx_bind hf
  refine mG_getR (pc := 1) C dL_isPlain_1 fl_L_10 e2 ?_
  refine mG_iload_n (pc := 4) C dL_isPlain_4 rfl ?_
  obtain ⟨u3, e4, hf⟩ := mx_bind hf
  obtain ⟨o6, e5, hf⟩ := mx_bind hf
  refine mG_cV2 (pc := 5) (k' := 1) (n' := 6) (h' := o6.2) (v := some (.int o6.1)) 9 [.int p1] [] C hX dL_isPlain_5 lkV_L_157 rfl rfl e4 (tX9_plainDepth hl (mxOk_some e5)) rfl rfl rfl ⟨Nat.le_of_ble_eq_true rfl, Nat.le_of_ble_eq_true rfl⟩ rfl ?_
  refine mG_isn (ls' := [some (.ref p0), some (.int p1), some (.int o6.1), none, none, none]) (pc := 8) C dL_isPlain_8 rfl rfl rfl ?_
  refine mG_aload_n (pc := 9) C dL_isPlain_9 rfl ?_
  obtain ⟨u7, e8, hf⟩ := mx_bind hf
  obtain ⟨o10, e9, hf⟩ := mx_bind hf
  refine mG_cV2 (pc := 10) (k' := 1) (n' := 6) (h' := o6.2) (v := some (.int o10)) 11 [] [] C hX dL_isPlain_10 lkV_L_135 rfl rfl e8 (tL_longest hl e9) rfl rfl rfl ⟨Nat.le_of_ble_eq_true rfl, Nat.le_of_ble_eq_true rfl⟩ rfl ?_
  refine mG_isn (ls' := [some (.ref p0), some (.int p1), some (.int o6.1), some (.int o10), none, none]) (pc := 13) C dL_isPlain_13 rfl rfl rfl ?_
  refine mG_iload_n (pc := 14) C dL_isPlain_14 rfl ?_
  refine mG_aload_n (pc := 15) C dL_isPlain_15 rfl ?_
  obtain ⟨r11, e12, hf⟩ := mx_bind hf
  refine mG_getR (pc := 16) C dL_isPlain_16 fl_L_10 e12 ?_
  refine mG_iload_n (pc := 19) C dL_isPlain_19 rfl ?_
  obtain ⟨u13, e14, hf⟩ := mx_bind hf
  obtain ⟨o16, e15, hf⟩ := mx_bind hf
  refine mG_cV2 (pc := 20) (k' := 2) (n' := 12) (h' := o16.2) (v := some (.int o16.1)) 9 [.int p1] [.int o6.1] C hX dL_isPlain_20 lkV_L_132 rfl rfl e14 (tX9_stopDepth hl (mxOk_some e15)) rfl rfl rfl ⟨Nat.le_of_ble_eq_true rfl, Nat.le_of_ble_eq_true rfl⟩ rfl ?_
  refine mG_icmp_lt (pc := 23) (tgt := 61) C dL_isPlain_23 (by decide) (fun q17 => ?_) (fun q17 => ?_)
  · rw [if_pos q17] at hf
    refine mG_ic (pc := 61) C dL_isPlain_61 kI0 ?_
    obtain ⟨v18, e19, hf⟩ := mx_bind hf
    cases hf
    exact mG_zr2 (pc := 62) C e19 E hX dL_isPlain_62 ⟨Nat.le_of_ble_eq_true rfl, Nat.le_of_ble_eq_true rfl⟩
  · rw [if_neg q17] at hf
    refine mG_iload_n (pc := 26) C dL_isPlain_26 rfl ?_
    refine mG_iload_n (pc := 27) C dL_isPlain_27 rfl ?_
    refine mG_icmp_gt (pc := 28) (tgt := 61) C dL_isPlain_28 (by decide) (fun q20 => ?_) (fun q20 => ?_)
    · rw [if_pos q20] at hf
      refine mG_ic (pc := 61) C dL_isPlain_61 kI0 ?_
      obtain ⟨v21, e22, hf⟩ := mx_bind hf
      cases hf
      exact mG_zr2 (pc := 62) C e22 E hX dL_isPlain_62 ⟨Nat.le_of_ble_eq_true rfl, Nat.le_of_ble_eq_true rfl⟩
    · rw [if_neg q20] at hf
      refine mG_iload_n (pc := 31) C dL_isPlain_31 rfl ?_
      refine mG_iload_n (pc := 32) C dL_isPlain_32 rfl ?_
      refine mG_icmp_ge (pc := 33) (tgt := 45) C dL_isPlain_33 (by decide) (fun q23 => ?_) (fun q23 => ?_)
      · rw [if_pos q23] at hf
        refine mG_iload_n (pc := 45) C dL_isPlain_45 rfl ?_
        refine mG_ic (pc := 46) C dL_isPlain_46 kI1 ?_
        refine mG_icmp_le (pc := 47) (tgt := 63) C dL_isPlain_47 (by decide) (fun q24 => ?_) (fun q24 => ?_)
        · rw [if_pos q24] at hf
          refine mG_ic (pc := 63) C dL_isPlain_63 kI1 ?_
          refine mG_aload_n (pc := 64) C dL_isPlain_64 rfl ?_
          obtain ⟨r25, e26, hf⟩ := mx_bind hf
          refine mG_getR (pc := 65) C dL_isPlain_65 fl_L_25 e26 ?_
          refine mG_bp (pc := 68) C dL_isPlain_68 kB20 ?_
          obtain ⟨u27, e28, hf⟩ := mx_bind hf
          obtain ⟨o30, e29, hf⟩ := mx_bind hf
          refine mG_cV2 (pc := 70) (k' := 2) (n' := 12) (h' := o30.2) (v := some (.int o30.1)) 10 [.int 20] [.int 1] C hX dL_isPlain_70 lkV_L_30 rfl rfl e28 (tX10_next hl e29) rfl rfl rfl ⟨Nat.le_of_ble_eq_true rfl, Nat.le_of_ble_eq_true rfl⟩ rfl ?_
          refine mG_iadd (pc := 73) C dL_isPlain_73 ?_
          refine mG_is (ls' := [some (.ref p0), some (.int p1), some (.int o6.1), some (.int o10), some (.int (1 + o30.1)), none]) (pc := 74) C dL_isPlain_74 rfl rfl rfl ?_
          refine mG_aload_n (pc := 76) C dL_isPlain_76 rfl ?_
          obtain ⟨r31, e32, hf⟩ := mx_bind hf
          refine mG_getR (pc := 77) C dL_isPlain_77 fl_L_25 e32 ?_
          refine mG_bp (pc := 80) C dL_isPlain_80 kB20 ?_
          obtain ⟨u33, e34, hf⟩ := mx_bind hf
          obtain ⟨o36, e35, hf⟩ := mx_bind hf
          refine mG_cV2 (pc := 82) (k' := 2) (n' := 12) (h' := o36.2) (v := some (.int o36.1)) 10 [.int 20] [] C hX dL_isPlain_82 lkV_L_30 rfl rfl e34 (tX10_next hl e35) rfl rfl rfl ⟨Nat.le_of_ble_eq_true rfl, Nat.le_of_ble_eq_true rfl⟩ rfl ?_
          refine mG_is (ls' := [some (.ref p0), some (.int p1), some (.int o6.1), some (.int o10), some (.int (1 + o30.1)), some (.int o36.1)]) (pc := 85) C dL_isPlain_85 rfl rfl rfl ?_
          refine mG_aload_n (pc := 87) C dL_isPlain_87 rfl ?_
          obtain ⟨r37, e38, hf⟩ := mx_bind hf
          refine mG_getR (pc := 88) C dL_isPlain_88 fl_L_10 e38 ?_
          refine mG_iload (pc := 91) C dL_isPlain_91 rfl ?_
          refine mG_iload (pc := 93) C dL_isPlain_93 rfl ?_
          obtain ⟨u39, e40, hf⟩ := mx_bind hf
          obtain ⟨o42, e41, hf⟩ := mx_bind hf
          refine mG_cV2 (pc := 95) (k' := 4) (n' := 24) (h' := o42.2) (v := some (.int o42.1)) 9 [.int o36.1, .int (1 + o30.1)] [] C hX dL_isPlain_95 lkV_L_163 rfl rfl e40 (tX9_lower hl (mxOk_some e41)) rfl rfl rfl ⟨Nat.le_of_ble_eq_true rfl, Nat.le_of_ble_eq_true rfl⟩ rfl ?_
          refine mG_aload_n (pc := 98) C dL_isPlain_98 rfl ?_
          refine mG_iload (pc := 99) C dL_isPlain_99 rfl ?_
          refine mG_iload (pc := 101) C dL_isPlain_101 rfl ?_
          refine mG_ic (pc := 103) C dL_isPlain_103 kI0 ?_
          obtain ⟨u43, e44, hf⟩ := mx_bind hf
          obtain ⟨o46, e45, hf⟩ := mx_bind hf
          refine mG_cV2 (pc := 104) (k' := 5) (n' := 29) (h' := o46.2) (v := some (.int o46.1)) 11 [.int o36.1, .int (1 + o30.1), .int 0] [.int o42.1] C hX dL_isPlain_104 lkV_L_82 rfl rfl e44 (tL_bound hl e45) rfl rfl rfl ⟨Nat.le_of_ble_eq_true rfl, Nat.le_of_ble_eq_true rfl⟩ rfl ?_
          obtain ⟨jp49, e50, hf⟩ := mx_bind hf
          have J48 : ∀ jp49' : (Int32 × mxH), jp49' = jp49 → mG l Z X 6 8 46 138 [none, none, none, none, none, none] [.int jp49'.1] jp49'.2 := by
            intro jp49' q75
            subst q75
            obtain ⟨v73, e74, hf⟩ := mx_bind hf
            cases hf
            exact mG_zr2 (pc := 138) C e74 E hX dL_isPlain_138 ⟨Nat.le_of_ble_eq_true rfl, Nat.le_of_ble_eq_true rfl⟩
          refine mG_icmp_ne (pc := 107) (tgt := 137) C dL_isPlain_107 (by decide) (fun q47 => ?_) (fun q47 => ?_)
          · rw [if_neg q47] at e50
            refine mG_ic (pc := 137) C dL_isPlain_137 kI0 ?_
            exact mG_wd (by omega) (by omega) (mG_sub (mxLe_n (mxLe_n (mxLe_n (mxLe_n (mxLe_n (mxLe_n mxLe_z)))))) (J48 _ (Option.some.inj e50)))
          · rw [if_pos q47] at e50
            refine mG_aload_n (pc := 110) C dL_isPlain_110 rfl ?_
            obtain ⟨r62, e63, e50⟩ := mx_bind e50
            refine mG_getR (pc := 111) C dL_isPlain_111 fl_L_10 e63 ?_
            refine mG_iload (pc := 114) C dL_isPlain_114 rfl ?_
            refine mG_iload (pc := 116) C dL_isPlain_116 rfl ?_
            obtain ⟨u64, e65, e50⟩ := mx_bind e50
            obtain ⟨o67, e66, e50⟩ := mx_bind e50
            refine mG_cV2 (pc := 118) (k' := 7) (n' := 41) (h' := o67.2) (v := some (.int o67.1)) 9 [.int o36.1, .int (1 + o30.1)] [] C hX dL_isPlain_118 lkV_L_166 rfl rfl e65 (tX9_upper hl (mxOk_some e66)) rfl rfl rfl ⟨Nat.le_of_ble_eq_true rfl, Nat.le_of_ble_eq_true rfl⟩ rfl ?_
            refine mG_aload_n (pc := 121) C dL_isPlain_121 rfl ?_
            refine mG_iload (pc := 122) C dL_isPlain_122 rfl ?_
            refine mG_iload (pc := 124) C dL_isPlain_124 rfl ?_
            refine mG_ic (pc := 126) C dL_isPlain_126 kI1 ?_
            obtain ⟨u68, e69, e50⟩ := mx_bind e50
            obtain ⟨o71, e70, e50⟩ := mx_bind e50
            refine mG_cV2 (pc := 127) (k' := 8) (n' := 46) (h' := o71.2) (v := some (.int o71.1)) 11 [.int o36.1, .int (1 + o30.1), .int 1] [.int o67.1] C hX dL_isPlain_127 lkV_L_82 rfl rfl e69 (tL_bound hl e70) rfl rfl rfl ⟨Nat.le_of_ble_eq_true rfl, Nat.le_of_ble_eq_true rfl⟩ rfl ?_
            refine mG_icmp_ne (pc := 130) (tgt := 137) C dL_isPlain_130 (by decide) (fun q72 => ?_) (fun q72 => ?_)
            · rw [if_neg q72] at e50
              refine mG_ic (pc := 137) C dL_isPlain_137 kI0 ?_
              exact mG_sub (mxLe_n (mxLe_n (mxLe_n (mxLe_n (mxLe_n (mxLe_n mxLe_z)))))) (J48 _ (Option.some.inj e50))
            · rw [if_pos q72] at e50
              refine mG_ic (pc := 133) C dL_isPlain_133 kI1 ?_
              refine mG_goto (tgt := 138) (pc := 134) C dL_isPlain_134 (by decide) ?_
              exact mG_sub (mxLe_n (mxLe_n (mxLe_n (mxLe_n (mxLe_n (mxLe_n mxLe_z)))))) (J48 _ (Option.some.inj e50))
        · rw [if_neg q24] at hf
          refine mG_aload_n (pc := 50) C dL_isPlain_50 rfl ?_
          refine mG_iload_n (pc := 51) C dL_isPlain_51 rfl ?_
          refine mG_iload_n (pc := 52) C dL_isPlain_52 rfl ?_
          refine mG_ic (pc := 53) C dL_isPlain_53 kI1 ?_
          refine mG_isub (pc := 54) C dL_isPlain_54 ?_
          obtain ⟨u76, e77, hf⟩ := mx_bind hf
          obtain ⟨o79, e78, hf⟩ := mx_bind hf
          refine mG_cV2 (pc := 55) (k' := 67) (n' := 367) (h' := o79.2) (v := some (.int o79.1)) 11 [.int p1, .int (o6.1 - 1)] [] C hX dL_isPlain_55 lkV_L_160 rfl rfl e77 (tL_areSure hl e78) rfl rfl rfl ⟨Nat.le_of_ble_eq_true rfl, Nat.le_of_ble_eq_true rfl⟩ rfl ?_
          refine mG_if_eq (pc := 58) (tgt := 63) C dL_isPlain_58 (by decide) (fun q80 => ?_) (fun q80 => ?_)
          · rw [if_pos q80] at hf
            refine mG_ic (pc := 63) C dL_isPlain_63 kI1 ?_
            refine mG_aload_n (pc := 64) C dL_isPlain_64 rfl ?_
            obtain ⟨r81, e82, hf⟩ := mx_bind hf
            refine mG_getR (pc := 65) C dL_isPlain_65 fl_L_25 e82 ?_
            refine mG_bp (pc := 68) C dL_isPlain_68 kB20 ?_
            obtain ⟨u83, e84, hf⟩ := mx_bind hf
            obtain ⟨o86, e85, hf⟩ := mx_bind hf
            refine mG_cV2 (pc := 70) (k' := 67) (n' := 367) (h' := o86.2) (v := some (.int o86.1)) 10 [.int 20] [.int 1] C hX dL_isPlain_70 lkV_L_30 rfl rfl e84 (tX10_next hl e85) rfl rfl rfl ⟨Nat.le_of_ble_eq_true rfl, Nat.le_of_ble_eq_true rfl⟩ rfl ?_
            refine mG_iadd (pc := 73) C dL_isPlain_73 ?_
            refine mG_is (ls' := [some (.ref p0), some (.int p1), some (.int o6.1), some (.int o10), some (.int (1 + o86.1)), none]) (pc := 74) C dL_isPlain_74 rfl rfl rfl ?_
            refine mG_aload_n (pc := 76) C dL_isPlain_76 rfl ?_
            obtain ⟨r87, e88, hf⟩ := mx_bind hf
            refine mG_getR (pc := 77) C dL_isPlain_77 fl_L_25 e88 ?_
            refine mG_bp (pc := 80) C dL_isPlain_80 kB20 ?_
            obtain ⟨u89, e90, hf⟩ := mx_bind hf
            obtain ⟨o92, e91, hf⟩ := mx_bind hf
            refine mG_cV2 (pc := 82) (k' := 67) (n' := 367) (h' := o92.2) (v := some (.int o92.1)) 10 [.int 20] [] C hX dL_isPlain_82 lkV_L_30 rfl rfl e90 (tX10_next hl e91) rfl rfl rfl ⟨Nat.le_of_ble_eq_true rfl, Nat.le_of_ble_eq_true rfl⟩ rfl ?_
            refine mG_is (ls' := [some (.ref p0), some (.int p1), some (.int o6.1), some (.int o10), some (.int (1 + o86.1)), some (.int o92.1)]) (pc := 85) C dL_isPlain_85 rfl rfl rfl ?_
            refine mG_aload_n (pc := 87) C dL_isPlain_87 rfl ?_
            obtain ⟨r93, e94, hf⟩ := mx_bind hf
            refine mG_getR (pc := 88) C dL_isPlain_88 fl_L_10 e94 ?_
            refine mG_iload (pc := 91) C dL_isPlain_91 rfl ?_
            refine mG_iload (pc := 93) C dL_isPlain_93 rfl ?_
            obtain ⟨u95, e96, hf⟩ := mx_bind hf
            obtain ⟨o98, e97, hf⟩ := mx_bind hf
            refine mG_cV2 (pc := 95) (k' := 69) (n' := 379) (h' := o98.2) (v := some (.int o98.1)) 9 [.int o92.1, .int (1 + o86.1)] [] C hX dL_isPlain_95 lkV_L_163 rfl rfl e96 (tX9_lower hl (mxOk_some e97)) rfl rfl rfl ⟨Nat.le_of_ble_eq_true rfl, Nat.le_of_ble_eq_true rfl⟩ rfl ?_
            refine mG_aload_n (pc := 98) C dL_isPlain_98 rfl ?_
            refine mG_iload (pc := 99) C dL_isPlain_99 rfl ?_
            refine mG_iload (pc := 101) C dL_isPlain_101 rfl ?_
            refine mG_ic (pc := 103) C dL_isPlain_103 kI0 ?_
            obtain ⟨u99, e100, hf⟩ := mx_bind hf
            obtain ⟨o102, e101, hf⟩ := mx_bind hf
            refine mG_cV2 (pc := 104) (k' := 70) (n' := 384) (h' := o102.2) (v := some (.int o102.1)) 11 [.int o92.1, .int (1 + o86.1), .int 0] [.int o98.1] C hX dL_isPlain_104 lkV_L_82 rfl rfl e100 (tL_bound hl e101) rfl rfl rfl ⟨Nat.le_of_ble_eq_true rfl, Nat.le_of_ble_eq_true rfl⟩ rfl ?_
            obtain ⟨jp105, e106, hf⟩ := mx_bind hf
            have J104 : ∀ jp105' : (Int32 × mxH), jp105' = jp105 → mG l Z X 6 73 401 138 [none, none, none, none, none, none] [.int jp105'.1] jp105'.2 := by
              intro jp105' q131
              subst q131
              obtain ⟨v129, e130, hf⟩ := mx_bind hf
              cases hf
              exact mG_zr2 (pc := 138) C e130 E hX dL_isPlain_138 ⟨Nat.le_of_ble_eq_true rfl, Nat.le_of_ble_eq_true rfl⟩
            refine mG_icmp_ne (pc := 107) (tgt := 137) C dL_isPlain_107 (by decide) (fun q103 => ?_) (fun q103 => ?_)
            · rw [if_neg q103] at e106
              refine mG_ic (pc := 137) C dL_isPlain_137 kI0 ?_
              exact mG_wd (by omega) (by omega) (mG_sub (mxLe_n (mxLe_n (mxLe_n (mxLe_n (mxLe_n (mxLe_n mxLe_z)))))) (J104 _ (Option.some.inj e106)))
            · rw [if_pos q103] at e106
              refine mG_aload_n (pc := 110) C dL_isPlain_110 rfl ?_
              obtain ⟨r118, e119, e106⟩ := mx_bind e106
              refine mG_getR (pc := 111) C dL_isPlain_111 fl_L_10 e119 ?_
              refine mG_iload (pc := 114) C dL_isPlain_114 rfl ?_
              refine mG_iload (pc := 116) C dL_isPlain_116 rfl ?_
              obtain ⟨u120, e121, e106⟩ := mx_bind e106
              obtain ⟨o123, e122, e106⟩ := mx_bind e106
              refine mG_cV2 (pc := 118) (k' := 72) (n' := 396) (h' := o123.2) (v := some (.int o123.1)) 9 [.int o92.1, .int (1 + o86.1)] [] C hX dL_isPlain_118 lkV_L_166 rfl rfl e121 (tX9_upper hl (mxOk_some e122)) rfl rfl rfl ⟨Nat.le_of_ble_eq_true rfl, Nat.le_of_ble_eq_true rfl⟩ rfl ?_
              refine mG_aload_n (pc := 121) C dL_isPlain_121 rfl ?_
              refine mG_iload (pc := 122) C dL_isPlain_122 rfl ?_
              refine mG_iload (pc := 124) C dL_isPlain_124 rfl ?_
              refine mG_ic (pc := 126) C dL_isPlain_126 kI1 ?_
              obtain ⟨u124, e125, e106⟩ := mx_bind e106
              obtain ⟨o127, e126, e106⟩ := mx_bind e106
              refine mG_cV2 (pc := 127) (k' := 73) (n' := 401) (h' := o127.2) (v := some (.int o127.1)) 11 [.int o92.1, .int (1 + o86.1), .int 1] [.int o123.1] C hX dL_isPlain_127 lkV_L_82 rfl rfl e125 (tL_bound hl e126) rfl rfl rfl ⟨Nat.le_of_ble_eq_true rfl, Nat.le_of_ble_eq_true rfl⟩ rfl ?_
              refine mG_icmp_ne (pc := 130) (tgt := 137) C dL_isPlain_130 (by decide) (fun q128 => ?_) (fun q128 => ?_)
              · rw [if_neg q128] at e106
                refine mG_ic (pc := 137) C dL_isPlain_137 kI0 ?_
                exact mG_sub (mxLe_n (mxLe_n (mxLe_n (mxLe_n (mxLe_n (mxLe_n mxLe_z)))))) (J104 _ (Option.some.inj e106))
              · rw [if_pos q128] at e106
                refine mG_ic (pc := 133) C dL_isPlain_133 kI1 ?_
                refine mG_goto (tgt := 138) (pc := 134) C dL_isPlain_134 (by decide) ?_
                exact mG_sub (mxLe_n (mxLe_n (mxLe_n (mxLe_n (mxLe_n (mxLe_n mxLe_z)))))) (J104 _ (Option.some.inj e106))
          · rw [if_neg q80] at hf
            refine mG_ic (pc := 61) C dL_isPlain_61 kI0 ?_
            obtain ⟨v132, e133, hf⟩ := mx_bind hf
            cases hf
            exact mG_zr2 (pc := 62) C e133 E hX dL_isPlain_62 ⟨Nat.le_of_ble_eq_true rfl, Nat.le_of_ble_eq_true rfl⟩
      · rw [if_neg q23] at hf
        refine mG_aload_n (pc := 36) C dL_isPlain_36 rfl ?_
        refine mG_iload_n (pc := 37) C dL_isPlain_37 rfl ?_
        refine mG_iload_n (pc := 38) C dL_isPlain_38 rfl ?_
        obtain ⟨u134, e135, hf⟩ := mx_bind hf
        obtain ⟨o137, e136, hf⟩ := mx_bind hf
        refine mG_cV2 (pc := 39) (k' := 67) (n' := 367) (h' := o137.2) (v := some (.int o137.1)) 11 [.int p1, .int o6.1] [] C hX dL_isPlain_39 lkV_L_160 rfl rfl e135 (tL_areSure hl e136) rfl rfl rfl ⟨Nat.le_of_ble_eq_true rfl, Nat.le_of_ble_eq_true rfl⟩ rfl ?_
        refine mG_if_eq (pc := 42) (tgt := 61) C dL_isPlain_42 (by decide) (fun q138 => ?_) (fun q138 => ?_)
        · rw [if_pos q138] at hf
          refine mG_ic (pc := 61) C dL_isPlain_61 kI0 ?_
          obtain ⟨v139, e140, hf⟩ := mx_bind hf
          cases hf
          exact mG_zr2 (pc := 62) C e140 E hX dL_isPlain_62 ⟨Nat.le_of_ble_eq_true rfl, Nat.le_of_ble_eq_true rfl⟩
        · rw [if_neg q138] at hf
          refine mG_iload_n (pc := 45) C dL_isPlain_45 rfl ?_
          refine mG_ic (pc := 46) C dL_isPlain_46 kI1 ?_
          refine mG_icmp_le (pc := 47) (tgt := 63) C dL_isPlain_47 (by decide) (fun q141 => ?_) (fun q141 => ?_)
          · rw [if_pos q141] at hf
            refine mG_ic (pc := 63) C dL_isPlain_63 kI1 ?_
            refine mG_aload_n (pc := 64) C dL_isPlain_64 rfl ?_
            obtain ⟨r142, e143, hf⟩ := mx_bind hf
            refine mG_getR (pc := 65) C dL_isPlain_65 fl_L_25 e143 ?_
            refine mG_bp (pc := 68) C dL_isPlain_68 kB20 ?_
            obtain ⟨u144, e145, hf⟩ := mx_bind hf
            obtain ⟨o147, e146, hf⟩ := mx_bind hf
            refine mG_cV2 (pc := 70) (k' := 67) (n' := 367) (h' := o147.2) (v := some (.int o147.1)) 10 [.int 20] [.int 1] C hX dL_isPlain_70 lkV_L_30 rfl rfl e145 (tX10_next hl e146) rfl rfl rfl ⟨Nat.le_of_ble_eq_true rfl, Nat.le_of_ble_eq_true rfl⟩ rfl ?_
            refine mG_iadd (pc := 73) C dL_isPlain_73 ?_
            refine mG_is (ls' := [some (.ref p0), some (.int p1), some (.int o6.1), some (.int o10), some (.int (1 + o147.1)), none]) (pc := 74) C dL_isPlain_74 rfl rfl rfl ?_
            refine mG_aload_n (pc := 76) C dL_isPlain_76 rfl ?_
            obtain ⟨r148, e149, hf⟩ := mx_bind hf
            refine mG_getR (pc := 77) C dL_isPlain_77 fl_L_25 e149 ?_
            refine mG_bp (pc := 80) C dL_isPlain_80 kB20 ?_
            obtain ⟨u150, e151, hf⟩ := mx_bind hf
            obtain ⟨o153, e152, hf⟩ := mx_bind hf
            refine mG_cV2 (pc := 82) (k' := 67) (n' := 367) (h' := o153.2) (v := some (.int o153.1)) 10 [.int 20] [] C hX dL_isPlain_82 lkV_L_30 rfl rfl e151 (tX10_next hl e152) rfl rfl rfl ⟨Nat.le_of_ble_eq_true rfl, Nat.le_of_ble_eq_true rfl⟩ rfl ?_
            refine mG_is (ls' := [some (.ref p0), some (.int p1), some (.int o6.1), some (.int o10), some (.int (1 + o147.1)), some (.int o153.1)]) (pc := 85) C dL_isPlain_85 rfl rfl rfl ?_
            refine mG_aload_n (pc := 87) C dL_isPlain_87 rfl ?_
            obtain ⟨r154, e155, hf⟩ := mx_bind hf
            refine mG_getR (pc := 88) C dL_isPlain_88 fl_L_10 e155 ?_
            refine mG_iload (pc := 91) C dL_isPlain_91 rfl ?_
            refine mG_iload (pc := 93) C dL_isPlain_93 rfl ?_
            obtain ⟨u156, e157, hf⟩ := mx_bind hf
            obtain ⟨o159, e158, hf⟩ := mx_bind hf
            refine mG_cV2 (pc := 95) (k' := 69) (n' := 379) (h' := o159.2) (v := some (.int o159.1)) 9 [.int o153.1, .int (1 + o147.1)] [] C hX dL_isPlain_95 lkV_L_163 rfl rfl e157 (tX9_lower hl (mxOk_some e158)) rfl rfl rfl ⟨Nat.le_of_ble_eq_true rfl, Nat.le_of_ble_eq_true rfl⟩ rfl ?_
            refine mG_aload_n (pc := 98) C dL_isPlain_98 rfl ?_
            refine mG_iload (pc := 99) C dL_isPlain_99 rfl ?_
            refine mG_iload (pc := 101) C dL_isPlain_101 rfl ?_
            refine mG_ic (pc := 103) C dL_isPlain_103 kI0 ?_
            obtain ⟨u160, e161, hf⟩ := mx_bind hf
            obtain ⟨o163, e162, hf⟩ := mx_bind hf
            refine mG_cV2 (pc := 104) (k' := 70) (n' := 384) (h' := o163.2) (v := some (.int o163.1)) 11 [.int o153.1, .int (1 + o147.1), .int 0] [.int o159.1] C hX dL_isPlain_104 lkV_L_82 rfl rfl e161 (tL_bound hl e162) rfl rfl rfl ⟨Nat.le_of_ble_eq_true rfl, Nat.le_of_ble_eq_true rfl⟩ rfl ?_
            obtain ⟨jp166, e167, hf⟩ := mx_bind hf
            have J165 : ∀ jp166' : (Int32 × mxH), jp166' = jp166 → mG l Z X 6 73 401 138 [none, none, none, none, none, none] [.int jp166'.1] jp166'.2 := by
              intro jp166' q192
              subst q192
              obtain ⟨v190, e191, hf⟩ := mx_bind hf
              cases hf
              exact mG_zr2 (pc := 138) C e191 E hX dL_isPlain_138 ⟨Nat.le_of_ble_eq_true rfl, Nat.le_of_ble_eq_true rfl⟩
            refine mG_icmp_ne (pc := 107) (tgt := 137) C dL_isPlain_107 (by decide) (fun q164 => ?_) (fun q164 => ?_)
            · rw [if_neg q164] at e167
              refine mG_ic (pc := 137) C dL_isPlain_137 kI0 ?_
              exact mG_wd (by omega) (by omega) (mG_sub (mxLe_n (mxLe_n (mxLe_n (mxLe_n (mxLe_n (mxLe_n mxLe_z)))))) (J165 _ (Option.some.inj e167)))
            · rw [if_pos q164] at e167
              refine mG_aload_n (pc := 110) C dL_isPlain_110 rfl ?_
              obtain ⟨r179, e180, e167⟩ := mx_bind e167
              refine mG_getR (pc := 111) C dL_isPlain_111 fl_L_10 e180 ?_
              refine mG_iload (pc := 114) C dL_isPlain_114 rfl ?_
              refine mG_iload (pc := 116) C dL_isPlain_116 rfl ?_
              obtain ⟨u181, e182, e167⟩ := mx_bind e167
              obtain ⟨o184, e183, e167⟩ := mx_bind e167
              refine mG_cV2 (pc := 118) (k' := 72) (n' := 396) (h' := o184.2) (v := some (.int o184.1)) 9 [.int o153.1, .int (1 + o147.1)] [] C hX dL_isPlain_118 lkV_L_166 rfl rfl e182 (tX9_upper hl (mxOk_some e183)) rfl rfl rfl ⟨Nat.le_of_ble_eq_true rfl, Nat.le_of_ble_eq_true rfl⟩ rfl ?_
              refine mG_aload_n (pc := 121) C dL_isPlain_121 rfl ?_
              refine mG_iload (pc := 122) C dL_isPlain_122 rfl ?_
              refine mG_iload (pc := 124) C dL_isPlain_124 rfl ?_
              refine mG_ic (pc := 126) C dL_isPlain_126 kI1 ?_
              obtain ⟨u185, e186, e167⟩ := mx_bind e167
              obtain ⟨o188, e187, e167⟩ := mx_bind e167
              refine mG_cV2 (pc := 127) (k' := 73) (n' := 401) (h' := o188.2) (v := some (.int o188.1)) 11 [.int o153.1, .int (1 + o147.1), .int 1] [.int o184.1] C hX dL_isPlain_127 lkV_L_82 rfl rfl e186 (tL_bound hl e187) rfl rfl rfl ⟨Nat.le_of_ble_eq_true rfl, Nat.le_of_ble_eq_true rfl⟩ rfl ?_
              refine mG_icmp_ne (pc := 130) (tgt := 137) C dL_isPlain_130 (by decide) (fun q189 => ?_) (fun q189 => ?_)
              · rw [if_neg q189] at e167
                refine mG_ic (pc := 137) C dL_isPlain_137 kI0 ?_
                exact mG_sub (mxLe_n (mxLe_n (mxLe_n (mxLe_n (mxLe_n (mxLe_n mxLe_z)))))) (J165 _ (Option.some.inj e167))
              · rw [if_pos q189] at e167
                refine mG_ic (pc := 133) C dL_isPlain_133 kI1 ?_
                refine mG_goto (tgt := 138) (pc := 134) C dL_isPlain_134 (by decide) ?_
                exact mG_sub (mxLe_n (mxLe_n (mxLe_n (mxLe_n (mxLe_n (mxLe_n mxLe_z)))))) (J165 _ (Option.some.inj e167))
          · rw [if_neg q141] at hf
            refine mG_aload_n (pc := 50) C dL_isPlain_50 rfl ?_
            refine mG_iload_n (pc := 51) C dL_isPlain_51 rfl ?_
            refine mG_iload_n (pc := 52) C dL_isPlain_52 rfl ?_
            refine mG_ic (pc := 53) C dL_isPlain_53 kI1 ?_
            refine mG_isub (pc := 54) C dL_isPlain_54 ?_
            obtain ⟨u193, e194, hf⟩ := mx_bind hf
            obtain ⟨o196, e195, hf⟩ := mx_bind hf
            refine mG_cV2 (pc := 55) (k' := 132) (n' := 722) (h' := o196.2) (v := some (.int o196.1)) 11 [.int p1, .int (o6.1 - 1)] [] C hX dL_isPlain_55 lkV_L_160 rfl rfl e194 (tL_areSure hl e195) rfl rfl rfl ⟨Nat.le_of_ble_eq_true rfl, Nat.le_of_ble_eq_true rfl⟩ rfl ?_
            refine mG_if_eq (pc := 58) (tgt := 63) C dL_isPlain_58 (by decide) (fun q197 => ?_) (fun q197 => ?_)
            · rw [if_pos q197] at hf
              refine mG_ic (pc := 63) C dL_isPlain_63 kI1 ?_
              refine mG_aload_n (pc := 64) C dL_isPlain_64 rfl ?_
              obtain ⟨r198, e199, hf⟩ := mx_bind hf
              refine mG_getR (pc := 65) C dL_isPlain_65 fl_L_25 e199 ?_
              refine mG_bp (pc := 68) C dL_isPlain_68 kB20 ?_
              obtain ⟨u200, e201, hf⟩ := mx_bind hf
              obtain ⟨o203, e202, hf⟩ := mx_bind hf
              refine mG_cV2 (pc := 70) (k' := 132) (n' := 722) (h' := o203.2) (v := some (.int o203.1)) 10 [.int 20] [.int 1] C hX dL_isPlain_70 lkV_L_30 rfl rfl e201 (tX10_next hl e202) rfl rfl rfl ⟨Nat.le_of_ble_eq_true rfl, Nat.le_of_ble_eq_true rfl⟩ rfl ?_
              refine mG_iadd (pc := 73) C dL_isPlain_73 ?_
              refine mG_is (ls' := [some (.ref p0), some (.int p1), some (.int o6.1), some (.int o10), some (.int (1 + o203.1)), none]) (pc := 74) C dL_isPlain_74 rfl rfl rfl ?_
              refine mG_aload_n (pc := 76) C dL_isPlain_76 rfl ?_
              obtain ⟨r204, e205, hf⟩ := mx_bind hf
              refine mG_getR (pc := 77) C dL_isPlain_77 fl_L_25 e205 ?_
              refine mG_bp (pc := 80) C dL_isPlain_80 kB20 ?_
              obtain ⟨u206, e207, hf⟩ := mx_bind hf
              obtain ⟨o209, e208, hf⟩ := mx_bind hf
              refine mG_cV2 (pc := 82) (k' := 132) (n' := 722) (h' := o209.2) (v := some (.int o209.1)) 10 [.int 20] [] C hX dL_isPlain_82 lkV_L_30 rfl rfl e207 (tX10_next hl e208) rfl rfl rfl ⟨Nat.le_of_ble_eq_true rfl, Nat.le_of_ble_eq_true rfl⟩ rfl ?_
              refine mG_is (ls' := [some (.ref p0), some (.int p1), some (.int o6.1), some (.int o10), some (.int (1 + o203.1)), some (.int o209.1)]) (pc := 85) C dL_isPlain_85 rfl rfl rfl ?_
              refine mG_aload_n (pc := 87) C dL_isPlain_87 rfl ?_
              obtain ⟨r210, e211, hf⟩ := mx_bind hf
              refine mG_getR (pc := 88) C dL_isPlain_88 fl_L_10 e211 ?_
              refine mG_iload (pc := 91) C dL_isPlain_91 rfl ?_
              refine mG_iload (pc := 93) C dL_isPlain_93 rfl ?_
              obtain ⟨u212, e213, hf⟩ := mx_bind hf
              obtain ⟨o215, e214, hf⟩ := mx_bind hf
              refine mG_cV2 (pc := 95) (k' := 134) (n' := 734) (h' := o215.2) (v := some (.int o215.1)) 9 [.int o209.1, .int (1 + o203.1)] [] C hX dL_isPlain_95 lkV_L_163 rfl rfl e213 (tX9_lower hl (mxOk_some e214)) rfl rfl rfl ⟨Nat.le_of_ble_eq_true rfl, Nat.le_of_ble_eq_true rfl⟩ rfl ?_
              refine mG_aload_n (pc := 98) C dL_isPlain_98 rfl ?_
              refine mG_iload (pc := 99) C dL_isPlain_99 rfl ?_
              refine mG_iload (pc := 101) C dL_isPlain_101 rfl ?_
              refine mG_ic (pc := 103) C dL_isPlain_103 kI0 ?_
              obtain ⟨u216, e217, hf⟩ := mx_bind hf
              obtain ⟨o219, e218, hf⟩ := mx_bind hf
              refine mG_cV2 (pc := 104) (k' := 135) (n' := 739) (h' := o219.2) (v := some (.int o219.1)) 11 [.int o209.1, .int (1 + o203.1), .int 0] [.int o215.1] C hX dL_isPlain_104 lkV_L_82 rfl rfl e217 (tL_bound hl e218) rfl rfl rfl ⟨Nat.le_of_ble_eq_true rfl, Nat.le_of_ble_eq_true rfl⟩ rfl ?_
              obtain ⟨jp222, e223, hf⟩ := mx_bind hf
              have J221 : ∀ jp222' : (Int32 × mxH), jp222' = jp222 → mG l Z X 6 138 756 138 [none, none, none, none, none, none] [.int jp222'.1] jp222'.2 := by
                intro jp222' q248
                subst q248
                obtain ⟨v246, e247, hf⟩ := mx_bind hf
                cases hf
                exact mG_zr2 (pc := 138) C e247 E hX dL_isPlain_138 ⟨Nat.le_of_ble_eq_true rfl, Nat.le_of_ble_eq_true rfl⟩
              refine mG_icmp_ne (pc := 107) (tgt := 137) C dL_isPlain_107 (by decide) (fun q220 => ?_) (fun q220 => ?_)
              · rw [if_neg q220] at e223
                refine mG_ic (pc := 137) C dL_isPlain_137 kI0 ?_
                exact mG_wd (by omega) (by omega) (mG_sub (mxLe_n (mxLe_n (mxLe_n (mxLe_n (mxLe_n (mxLe_n mxLe_z)))))) (J221 _ (Option.some.inj e223)))
              · rw [if_pos q220] at e223
                refine mG_aload_n (pc := 110) C dL_isPlain_110 rfl ?_
                obtain ⟨r235, e236, e223⟩ := mx_bind e223
                refine mG_getR (pc := 111) C dL_isPlain_111 fl_L_10 e236 ?_
                refine mG_iload (pc := 114) C dL_isPlain_114 rfl ?_
                refine mG_iload (pc := 116) C dL_isPlain_116 rfl ?_
                obtain ⟨u237, e238, e223⟩ := mx_bind e223
                obtain ⟨o240, e239, e223⟩ := mx_bind e223
                refine mG_cV2 (pc := 118) (k' := 137) (n' := 751) (h' := o240.2) (v := some (.int o240.1)) 9 [.int o209.1, .int (1 + o203.1)] [] C hX dL_isPlain_118 lkV_L_166 rfl rfl e238 (tX9_upper hl (mxOk_some e239)) rfl rfl rfl ⟨Nat.le_of_ble_eq_true rfl, Nat.le_of_ble_eq_true rfl⟩ rfl ?_
                refine mG_aload_n (pc := 121) C dL_isPlain_121 rfl ?_
                refine mG_iload (pc := 122) C dL_isPlain_122 rfl ?_
                refine mG_iload (pc := 124) C dL_isPlain_124 rfl ?_
                refine mG_ic (pc := 126) C dL_isPlain_126 kI1 ?_
                obtain ⟨u241, e242, e223⟩ := mx_bind e223
                obtain ⟨o244, e243, e223⟩ := mx_bind e223
                refine mG_cV2 (pc := 127) (k' := 138) (n' := 756) (h' := o244.2) (v := some (.int o244.1)) 11 [.int o209.1, .int (1 + o203.1), .int 1] [.int o240.1] C hX dL_isPlain_127 lkV_L_82 rfl rfl e242 (tL_bound hl e243) rfl rfl rfl ⟨Nat.le_of_ble_eq_true rfl, Nat.le_of_ble_eq_true rfl⟩ rfl ?_
                refine mG_icmp_ne (pc := 130) (tgt := 137) C dL_isPlain_130 (by decide) (fun q245 => ?_) (fun q245 => ?_)
                · rw [if_neg q245] at e223
                  refine mG_ic (pc := 137) C dL_isPlain_137 kI0 ?_
                  exact mG_sub (mxLe_n (mxLe_n (mxLe_n (mxLe_n (mxLe_n (mxLe_n mxLe_z)))))) (J221 _ (Option.some.inj e223))
                · rw [if_pos q245] at e223
                  refine mG_ic (pc := 133) C dL_isPlain_133 kI1 ?_
                  refine mG_goto (tgt := 138) (pc := 134) C dL_isPlain_134 (by decide) ?_
                  exact mG_sub (mxLe_n (mxLe_n (mxLe_n (mxLe_n (mxLe_n (mxLe_n mxLe_z)))))) (J221 _ (Option.some.inj e223))
            · rw [if_neg q197] at hf
              refine mG_ic (pc := 61) C dL_isPlain_61 kI0 ?_
              obtain ⟨v249, e250, hf⟩ := mx_bind hf
              cases hf
              exact mG_zr2 (pc := 62) C e250 E hX dL_isPlain_62 ⟨Nat.le_of_ble_eq_true rfl, Nat.le_of_ble_eq_true rfl⟩
