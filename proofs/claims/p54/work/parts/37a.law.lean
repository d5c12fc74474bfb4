/-! printed by wip/gen54/emit2.py: for each method its function on the mini machine, and that the machine walks as the function says -/
theorem dL_winner_0 : decode cL_winner 0 = .ok (.aload_n 0, 1) := by decide +kernel
theorem dL_winner_1 : decode cL_winner 1 = .ok (.invokevirtual 223, 3) := by decide +kernel
theorem dL_winner_4 : decode cL_winner 4 = .ok (.ireturn, 1) := by decide +kernel
theorem dL_winner_5 : decode cL_winner 5 = .ok (.astore_n 1, 1) := by decide +kernel
theorem dL_winner_6 : decode cL_winner 6 = .ok (.iconst (-1), 1) := by decide +kernel
theorem dL_winner_7 : decode cL_winner 7 = .ok (.ireturn, 1) := by decide +kernel
def fL_winner (p0 : Nat) (h : mxH) : Option (Int32 × mxH) := Option.bind (isO h p0 9) (fun _ => mxCatch (fX9_winner p0 h) (fun v h1 => some (v, h1)) (fun E h1 => if E = "java/util/NoSuchElementException" then some (-1, h1) else none))
abbrev rmL_winner : Room := { frames := 8, cells := 1, slots := 6, locals := 142 }
set_option maxRecDepth 20000 in
theorem tL_winner {l : Launch} {Z : mxZ} (hl : l.stackTraces = false) {p0 : Nat} {h : mxH} {out : Int32 × mxH} (hf : fL_winner p0 h = some out) : mxMetH l Z yL_winner cL_winner 2 (some .int) [(0, 4, 5, 226)] rmL_winner [.ref p0] h (.inl (some (.int out.1))) out.2 := by
  refine mxMetH_of (by decide) hl (by simp [Value.category]) (Nat.le_of_ble_eq_true rfl) ?_
  intro X C E hX
  unfold fL_winner at hf
  obtain ⟨u2, e3, hf⟩ := mx_bind hf
  refine mG_aload_n (pc := 0) C dL_winner_0 rfl ?_
  rcases mx_catch hf with ⟨v4, h5, e1, hf⟩ | ⟨E6, h5, e1, hf⟩
  · refine mG_cV (pc := 1) (k' := 1) (n' := 6) 9 [] [] C hX dL_winner_1 lkV_L_223 rfl rfl e3 (tX9_winner hl e1) rfl rfl rfl rfl ?_
    cases hf
    exact mG_irH (pc := 4) C E hX dL_winner_4 rfl
  · by_cases q9 : E6 = "java/util/NoSuchElementException"
    · rw [if_pos q9] at hf
      subst q9
      refine mG_cVC (pc := 1) (k' := 1) (n' := 6) (i := 1) (ln := 1) 9 [] [] [] ⟨0, 4, 5, 226⟩ [] C E hX dL_winner_1 lkV_L_223 rfl rfl e3 (tX9_winner hl e1) rfl rfl rfl rfl rfl (fun z hz => absurd hz List.not_mem_nil) rfl (by decide) w1089 w650 (Or.inr ⟨1, rfl, dL_winner_5, rfl⟩) rfl rfl ?_
      refine mG_ic (pc := 6) C dL_winner_6 kIm1 ?_
      cases hf
      exact mG_irH (pc := 7) C E hX dL_winner_7 rfl
    · rw [if_neg q9] at hf
      cases hf
theorem dL_init_0 : decode cL_init 0 = .ok (.aload_n 0, 1) := by decide +kernel
theorem dL_init_1 : decode cL_init 1 = .ok (.invokespecial 1, 3) := by decide +kernel
theorem dL_init_4 : decode cL_init 4 = .ok (.aload_n 0, 1) := by decide +kernel
theorem dL_init_5 : decode cL_init 5 = .ok (.new 7, 3) := by decide +kernel
theorem dL_init_8 : decode cL_init 8 = .ok (.dup, 1) := by decide +kernel
theorem dL_init_9 : decode cL_init 9 = .ok (.invokespecial 9, 3) := by decide +kernel
theorem dL_init_12 : decode cL_init 12 = .ok (.putfield 10, 3) := by decide +kernel
theorem dL_init_15 : decode cL_init 15 = .ok (.aload_n 0, 1) := by decide +kernel
theorem dL_init_16 : decode cL_init 16 = .ok (.iconst 5, 1) := by decide +kernel
theorem dL_init_17 : decode cL_init 17 = .ok (.bipush 20, 2) := by decide +kernel
theorem dL_init_19 : decode cL_init 19 = .ok (.multianewarray 16 2, 4) := by decide +kernel
theorem dL_init_23 : decode cL_init 23 = .ok (.putfield 18, 3) := by decide +kernel
theorem dL_init_26 : decode cL_init 26 = .ok (.aload_n 0, 1) := by decide +kernel
theorem dL_init_27 : decode cL_init 27 = .ok (.iconst 5, 1) := by decide +kernel
theorem dL_init_28 : decode cL_init 28 = .ok (.newarray .int, 2) := by decide +kernel
theorem dL_init_30 : decode cL_init 30 = .ok (.dup, 1) := by decide +kernel
theorem dL_init_31 : decode cL_init 31 = .ok (.iconst 0, 1) := by decide +kernel
theorem dL_init_32 : decode cL_init 32 = .ok (.iconst 1, 1) := by decide +kernel
theorem dL_init_33 : decode cL_init 33 = .ok (.iastore, 1) := by decide +kernel
theorem dL_init_34 : decode cL_init 34 = .ok (.dup, 1) := by decide +kernel
theorem dL_init_35 : decode cL_init 35 = .ok (.iconst 1, 1) := by decide +kernel
theorem dL_init_36 : decode cL_init 36 = .ok (.iconst 1, 1) := by decide +kernel
theorem dL_init_37 : decode cL_init 37 = .ok (.iastore, 1) := by decide +kernel
theorem dL_init_38 : decode cL_init 38 = .ok (.dup, 1) := by decide +kernel
theorem dL_init_39 : decode cL_init 39 = .ok (.iconst 2, 1) := by decide +kernel
theorem dL_init_40 : decode cL_init 40 = .ok (.iconst 1, 1) := by decide +kernel
theorem dL_init_41 : decode cL_init 41 = .ok (.iastore, 1) := by decide +kernel
theorem dL_init_42 : decode cL_init 42 = .ok (.dup, 1) := by decide +kernel
theorem dL_init_43 : decode cL_init 43 = .ok (.iconst 3, 1) := by decide +kernel
theorem dL_init_44 : decode cL_init 44 = .ok (.iconst 1, 1) := by decide +kernel
theorem dL_init_45 : decode cL_init 45 = .ok (.iastore, 1) := by decide +kernel
theorem dL_init_46 : decode cL_init 46 = .ok (.dup, 1) := by decide +kernel
theorem dL_init_47 : decode cL_init 47 = .ok (.iconst 4, 1) := by decide +kernel
theorem dL_init_48 : decode cL_init 48 = .ok (.iconst 1, 1) := by decide +kernel
theorem dL_init_49 : decode cL_init 49 = .ok (.iastore, 1) := by decide +kernel
theorem dL_init_50 : decode cL_init 50 = .ok (.putfield 21, 3) := by decide +kernel
theorem dL_init_53 : decode cL_init 53 = .ok (.aload_n 0, 1) := by decide +kernel
theorem dL_init_54 : decode cL_init 54 = .ok (.aload_n 1, 1) := by decide +kernel
theorem dL_init_55 : decode cL_init 55 = .ok (.putfield 25, 3) := by decide +kernel
theorem dL_init_58 : decode cL_init 58 = .ok (.iconst 0, 1) := by decide +kernel
theorem dL_init_59 : decode cL_init 59 = .ok (.istore_n 2, 1) := by decide +kernel
theorem dL_init_60 : decode cL_init 60 = .ok (.iload_n 2, 1) := by decide +kernel
theorem dL_init_61 : decode cL_init 61 = .ok (.iconst 5, 1) := by decide +kernel
theorem dL_init_62 : decode cL_init 62 = .ok (.if_icmp .ge 32, 3) := by decide +kernel
theorem dL_init_65 : decode cL_init 65 = .ok (.iconst 0, 1) := by decide +kernel
theorem dL_init_66 : decode cL_init 66 = .ok (.istore_n 3, 1) := by decide +kernel
theorem dL_init_67 : decode cL_init 67 = .ok (.iload_n 3, 1) := by decide +kernel
theorem dL_init_68 : decode cL_init 68 = .ok (.bipush 20, 2) := by decide +kernel
theorem dL_init_70 : decode cL_init 70 = .ok (.if_icmp .ge 18, 3) := by decide +kernel
theorem dL_init_73 : decode cL_init 73 = .ok (.aload_n 0, 1) := by decide +kernel
theorem dL_init_74 : decode cL_init 74 = .ok (.getfield 18, 3) := by decide +kernel
theorem dL_init_77 : decode cL_init 77 = .ok (.iload_n 2, 1) := by decide +kernel
theorem dL_init_78 : decode cL_init 78 = .ok (.aaload, 1) := by decide +kernel
theorem dL_init_79 : decode cL_init 79 = .ok (.iload_n 3, 1) := by decide +kernel
theorem dL_init_80 : decode cL_init 80 = .ok (.iconst (-1), 1) := by decide +kernel
theorem dL_init_81 : decode cL_init 81 = .ok (.iastore, 1) := by decide +kernel
theorem dL_init_82 : decode cL_init 82 = .ok (.iinc 3 1, 3) := by decide +kernel
theorem dL_init_85 : decode cL_init 85 = .ok (.goto (-18), 3) := by decide +kernel
theorem dL_init_88 : decode cL_init 88 = .ok (.iinc 2 1, 3) := by decide +kernel
theorem dL_init_91 : decode cL_init 91 = .ok (.goto (-31), 3) := by decide +kernel
theorem dL_init_94 : decode cL_init 94 = .ok (.bipush 10, 2) := by decide +kernel
theorem dL_init_96 : decode cL_init 96 = .ok (.anewarray 29, 3) := by decide +kernel
theorem dL_init_99 : decode cL_init 99 = .ok (.dup, 1) := by decide +kernel
theorem dL_init_100 : decode cL_init 100 = .ok (.iconst 0, 1) := by decide +kernel
theorem dL_init_101 : decode cL_init 101 = .ok (.iconst 3, 1) := by decide +kernel
theorem dL_init_102 : decode cL_init 102 = .ok (.newarray .int, 2) := by decide +kernel
theorem dL_init_104 : decode cL_init 104 = .ok (.dup, 1) := by decide +kernel
theorem dL_init_105 : decode cL_init 105 = .ok (.iconst 0, 1) := by decide +kernel
theorem dL_init_106 : decode cL_init 106 = .ok (.iconst 0, 1) := by decide +kernel
theorem dL_init_107 : decode cL_init 107 = .ok (.iastore, 1) := by decide +kernel
theorem dL_init_108 : decode cL_init 108 = .ok (.dup, 1) := by decide +kernel
theorem dL_init_109 : decode cL_init 109 = .ok (.iconst 1, 1) := by decide +kernel
theorem dL_init_110 : decode cL_init 110 = .ok (.iconst 0, 1) := by decide +kernel
theorem dL_init_111 : decode cL_init 111 = .ok (.iastore, 1) := by decide +kernel
theorem dL_init_112 : decode cL_init 112 = .ok (.dup, 1) := by decide +kernel
theorem dL_init_113 : decode cL_init 113 = .ok (.iconst 2, 1) := by decide +kernel
theorem dL_init_114 : decode cL_init 114 = .ok (.bipush 90, 2) := by decide +kernel
theorem dL_init_116 : decode cL_init 116 = .ok (.iastore, 1) := by decide +kernel
theorem dL_init_117 : decode cL_init 117 = .ok (.aastore, 1) := by decide +kernel
theorem dL_init_118 : decode cL_init 118 = .ok (.dup, 1) := by decide +kernel
theorem dL_init_119 : decode cL_init 119 = .ok (.iconst 1, 1) := by decide +kernel
theorem dL_init_120 : decode cL_init 120 = .ok (.iconst 3, 1) := by decide +kernel
theorem dL_init_121 : decode cL_init 121 = .ok (.newarray .int, 2) := by decide +kernel
theorem dL_init_123 : decode cL_init 123 = .ok (.dup, 1) := by decide +kernel
theorem dL_init_124 : decode cL_init 124 = .ok (.iconst 0, 1) := by decide +kernel
theorem dL_init_125 : decode cL_init 125 = .ok (.iconst 0, 1) := by decide +kernel
theorem dL_init_126 : decode cL_init 126 = .ok (.iastore, 1) := by decide +kernel
theorem dL_init_127 : decode cL_init 127 = .ok (.dup, 1) := by decide +kernel
theorem dL_init_128 : decode cL_init 128 = .ok (.iconst 1, 1) := by decide +kernel
theorem dL_init_129 : decode cL_init 129 = .ok (.iconst 1, 1) := by decide +kernel
theorem dL_init_130 : decode cL_init 130 = .ok (.iastore, 1) := by decide +kernel
theorem dL_init_131 : decode cL_init 131 = .ok (.dup, 1) := by decide +kernel
theorem dL_init_132 : decode cL_init 132 = .ok (.iconst 2, 1) := by decide +kernel
theorem dL_init_133 : decode cL_init 133 = .ok (.bipush 80, 2) := by decide +kernel
theorem dL_init_135 : decode cL_init 135 = .ok (.iastore, 1) := by decide +kernel
theorem dL_init_136 : decode cL_init 136 = .ok (.aastore, 1) := by decide +kernel
theorem dL_init_137 : decode cL_init 137 = .ok (.dup, 1) := by decide +kernel
theorem dL_init_138 : decode cL_init 138 = .ok (.iconst 2, 1) := by decide +kernel
theorem dL_init_139 : decode cL_init 139 = .ok (.iconst 3, 1) := by decide +kernel
theorem dL_init_140 : decode cL_init 140 = .ok (.newarray .int, 2) := by decide +kernel
theorem dL_init_142 : decode cL_init 142 = .ok (.dup, 1) := by decide +kernel
theorem dL_init_143 : decode cL_init 143 = .ok (.iconst 0, 1) := by decide +kernel
theorem dL_init_144 : decode cL_init 144 = .ok (.iconst 0, 1) := by decide +kernel
theorem dL_init_145 : decode cL_init 145 = .ok (.iastore, 1) := by decide +kernel
theorem dL_init_146 : decode cL_init 146 = .ok (.dup, 1) := by decide +kernel
theorem dL_init_147 : decode cL_init 147 = .ok (.iconst 1, 1) := by decide +kernel
theorem dL_init_148 : decode cL_init 148 = .ok (.iconst 2, 1) := by decide +kernel
theorem dL_init_149 : decode cL_init 149 = .ok (.iastore, 1) := by decide +kernel
theorem dL_init_150 : decode cL_init 150 = .ok (.dup, 1) := by decide +kernel
theorem dL_init_151 : decode cL_init 151 = .ok (.iconst 2, 1) := by decide +kernel
theorem dL_init_152 : decode cL_init 152 = .ok (.bipush 70, 2) := by decide +kernel
theorem dL_init_154 : decode cL_init 154 = .ok (.iastore, 1) := by decide +kernel
theorem dL_init_155 : decode cL_init 155 = .ok (.aastore, 1) := by decide +kernel
theorem dL_init_156 : decode cL_init 156 = .ok (.dup, 1) := by decide +kernel
theorem dL_init_157 : decode cL_init 157 = .ok (.iconst 3, 1) := by decide +kernel
theorem dL_init_158 : decode cL_init 158 = .ok (.iconst 3, 1) := by decide +kernel
theorem dL_init_159 : decode cL_init 159 = .ok (.newarray .int, 2) := by decide +kernel
theorem dL_init_161 : decode cL_init 161 = .ok (.dup, 1) := by decide +kernel
theorem dL_init_162 : decode cL_init 162 = .ok (.iconst 0, 1) := by decide +kernel
theorem dL_init_163 : decode cL_init 163 = .ok (.iconst 0, 1) := by decide +kernel
theorem dL_init_164 : decode cL_init 164 = .ok (.iastore, 1) := by decide +kernel
theorem dL_init_165 : decode cL_init 165 = .ok (.dup, 1) := by decide +kernel
theorem dL_init_166 : decode cL_init 166 = .ok (.iconst 1, 1) := by decide +kernel
theorem dL_init_167 : decode cL_init 167 = .ok (.iconst 3, 1) := by decide +kernel
theorem dL_init_168 : decode cL_init 168 = .ok (.iastore, 1) := by decide +kernel
theorem dL_init_169 : decode cL_init 169 = .ok (.dup, 1) := by decide +kernel
theorem dL_init_170 : decode cL_init 170 = .ok (.iconst 2, 1) := by decide +kernel
theorem dL_init_171 : decode cL_init 171 = .ok (.bipush 10, 2) := by decide +kernel
theorem dL_init_173 : decode cL_init 173 = .ok (.iastore, 1) := by decide +kernel
theorem dL_init_174 : decode cL_init 174 = .ok (.aastore, 1) := by decide +kernel
theorem dL_init_175 : decode cL_init 175 = .ok (.dup, 1) := by decide +kernel
theorem dL_init_176 : decode cL_init 176 = .ok (.iconst 4, 1) := by decide +kernel
theorem dL_init_177 : decode cL_init 177 = .ok (.iconst 3, 1) := by decide +kernel
theorem dL_init_178 : decode cL_init 178 = .ok (.newarray .int, 2) := by decide +kernel
theorem dL_init_180 : decode cL_init 180 = .ok (.dup, 1) := by decide +kernel
theorem dL_init_181 : decode cL_init 181 = .ok (.iconst 0, 1) := by decide +kernel
theorem dL_init_182 : decode cL_init 182 = .ok (.iconst 1, 1) := by decide +kernel
theorem dL_init_183 : decode cL_init 183 = .ok (.iastore, 1) := by decide +kernel
theorem dL_init_184 : decode cL_init 184 = .ok (.dup, 1) := by decide +kernel
theorem dL_init_185 : decode cL_init 185 = .ok (.iconst 1, 1) := by decide +kernel
theorem dL_init_186 : decode cL_init 186 = .ok (.iconst 1, 1) := by decide +kernel
theorem dL_init_187 : decode cL_init 187 = .ok (.iastore, 1) := by decide +kernel
theorem dL_init_188 : decode cL_init 188 = .ok (.dup, 1) := by decide +kernel
theorem dL_init_189 : decode cL_init 189 = .ok (.iconst 2, 1) := by decide +kernel
theorem dL_init_190 : decode cL_init 190 = .ok (.bipush 85, 2) := by decide +kernel
theorem dL_init_192 : decode cL_init 192 = .ok (.iastore, 1) := by decide +kernel
theorem dL_init_193 : decode cL_init 193 = .ok (.aastore, 1) := by decide +kernel
theorem dL_init_194 : decode cL_init 194 = .ok (.dup, 1) := by decide +kernel
theorem dL_init_195 : decode cL_init 195 = .ok (.iconst 5, 1) := by decide +kernel
theorem dL_init_196 : decode cL_init 196 = .ok (.iconst 3, 1) := by decide +kernel
theorem dL_init_197 : decode cL_init 197 = .ok (.newarray .int, 2) := by decide +kernel
theorem dL_init_199 : decode cL_init 199 = .ok (.dup, 1) := by decide +kernel
theorem dL_init_200 : decode cL_init 200 = .ok (.iconst 0, 1) := by decide +kernel
theorem dL_init_201 : decode cL_init 201 = .ok (.iconst 1, 1) := by decide +kernel
theorem dL_init_202 : decode cL_init 202 = .ok (.iastore, 1) := by decide +kernel
theorem dL_init_203 : decode cL_init 203 = .ok (.dup, 1) := by decide +kernel
theorem dL_init_204 : decode cL_init 204 = .ok (.iconst 1, 1) := by decide +kernel
theorem dL_init_205 : decode cL_init 205 = .ok (.iconst 2, 1) := by decide +kernel
theorem dL_init_206 : decode cL_init 206 = .ok (.iastore, 1) := by decide +kernel
theorem dL_init_207 : decode cL_init 207 = .ok (.dup, 1) := by decide +kernel
theorem dL_init_208 : decode cL_init 208 = .ok (.iconst 2, 1) := by decide +kernel
theorem dL_init_209 : decode cL_init 209 = .ok (.bipush 75, 2) := by decide +kernel
theorem dL_init_211 : decode cL_init 211 = .ok (.iastore, 1) := by decide +kernel
theorem dL_init_212 : decode cL_init 212 = .ok (.aastore, 1) := by decide +kernel
theorem dL_init_213 : decode cL_init 213 = .ok (.dup, 1) := by decide +kernel
theorem dL_init_214 : decode cL_init 214 = .ok (.bipush 6, 2) := by decide +kernel
theorem dL_init_216 : decode cL_init 216 = .ok (.iconst 3, 1) := by decide +kernel
theorem dL_init_217 : decode cL_init 217 = .ok (.newarray .int, 2) := by decide +kernel
theorem dL_init_219 : decode cL_init 219 = .ok (.dup, 1) := by decide +kernel
theorem dL_init_220 : decode cL_init 220 = .ok (.iconst 0, 1) := by decide +kernel
theorem dL_init_221 : decode cL_init 221 = .ok (.iconst 1, 1) := by decide +kernel
theorem dL_init_222 : decode cL_init 222 = .ok (.iastore, 1) := by decide +kernel
theorem dL_init_223 : decode cL_init 223 = .ok (.dup, 1) := by decide +kernel
theorem dL_init_224 : decode cL_init 224 = .ok (.iconst 1, 1) := by decide +kernel
theorem dL_init_225 : decode cL_init 225 = .ok (.iconst 0, 1) := by decide +kernel
theorem dL_init_226 : decode cL_init 226 = .ok (.iastore, 1) := by decide +kernel
theorem dL_init_227 : decode cL_init 227 = .ok (.dup, 1) := by decide +kernel
theorem dL_init_228 : decode cL_init 228 = .ok (.iconst 2, 1) := by decide +kernel
theorem dL_init_229 : decode cL_init 229 = .ok (.bipush 20, 2) := by decide +kernel
theorem dL_init_231 : decode cL_init 231 = .ok (.iastore, 1) := by decide +kernel
theorem dL_init_232 : decode cL_init 232 = .ok (.aastore, 1) := by decide +kernel
theorem dL_init_233 : decode cL_init 233 = .ok (.dup, 1) := by decide +kernel
theorem dL_init_234 : decode cL_init 234 = .ok (.bipush 7, 2) := by decide +kernel
theorem dL_init_236 : decode cL_init 236 = .ok (.iconst 3, 1) := by decide +kernel
theorem dL_init_237 : decode cL_init 237 = .ok (.newarray .int, 2) := by decide +kernel
theorem dL_init_239 : decode cL_init 239 = .ok (.dup, 1) := by decide +kernel
theorem dL_init_240 : decode cL_init 240 = .ok (.iconst 0, 1) := by decide +kernel
theorem dL_init_241 : decode cL_init 241 = .ok (.iconst 2, 1) := by decide +kernel
theorem dL_init_242 : decode cL_init 242 = .ok (.iastore, 1) := by decide +kernel
theorem dL_init_243 : decode cL_init 243 = .ok (.dup, 1) := by decide +kernel
theorem dL_init_244 : decode cL_init 244 = .ok (.iconst 1, 1) := by decide +kernel
theorem dL_init_245 : decode cL_init 245 = .ok (.iconst 2, 1) := by decide +kernel
theorem dL_init_246 : decode cL_init 246 = .ok (.iastore, 1) := by decide +kernel
theorem dL_init_247 : decode cL_init 247 = .ok (.dup, 1) := by decide +kernel
theorem dL_init_248 : decode cL_init 248 = .ok (.iconst 2, 1) := by decide +kernel
theorem dL_init_249 : decode cL_init 249 = .ok (.bipush 95, 2) := by decide +kernel
theorem dL_init_251 : decode cL_init 251 = .ok (.iastore, 1) := by decide +kernel
theorem dL_init_252 : decode cL_init 252 = .ok (.aastore, 1) := by decide +kernel
theorem dL_init_253 : decode cL_init 253 = .ok (.dup, 1) := by decide +kernel
theorem dL_init_254 : decode cL_init 254 = .ok (.bipush 8, 2) := by decide +kernel
theorem dL_init_256 : decode cL_init 256 = .ok (.iconst 3, 1) := by decide +kernel
theorem dL_init_257 : decode cL_init 257 = .ok (.newarray .int, 2) := by decide +kernel
theorem dL_init_259 : decode cL_init 259 = .ok (.dup, 1) := by decide +kernel
theorem dL_init_260 : decode cL_init 260 = .ok (.iconst 0, 1) := by decide +kernel
theorem dL_init_261 : decode cL_init 261 = .ok (.iconst 2, 1) := by decide +kernel
theorem dL_init_262 : decode cL_init 262 = .ok (.iastore, 1) := by decide +kernel
theorem dL_init_263 : decode cL_init 263 = .ok (.dup, 1) := by decide +kernel
theorem dL_init_264 : decode cL_init 264 = .ok (.iconst 1, 1) := by decide +kernel
theorem dL_init_265 : decode cL_init 265 = .ok (.iconst 0, 1) := by decide +kernel
theorem dL_init_266 : decode cL_init 266 = .ok (.iastore, 1) := by decide +kernel
theorem dL_init_267 : decode cL_init 267 = .ok (.dup, 1) := by decide +kernel
theorem dL_init_268 : decode cL_init 268 = .ok (.iconst 2, 1) := by decide +kernel
theorem dL_init_269 : decode cL_init 269 = .ok (.bipush 60, 2) := by decide +kernel
theorem dL_init_271 : decode cL_init 271 = .ok (.iastore, 1) := by decide +kernel
theorem dL_init_272 : decode cL_init 272 = .ok (.aastore, 1) := by decide +kernel
theorem dL_init_273 : decode cL_init 273 = .ok (.dup, 1) := by decide +kernel
theorem dL_init_274 : decode cL_init 274 = .ok (.bipush 9, 2) := by decide +kernel
theorem dL_init_276 : decode cL_init 276 = .ok (.iconst 3, 1) := by decide +kernel
theorem dL_init_277 : decode cL_init 277 = .ok (.newarray .int, 2) := by decide +kernel
theorem dL_init_279 : decode cL_init 279 = .ok (.dup, 1) := by decide +kernel
theorem dL_init_280 : decode cL_init 280 = .ok (.iconst 0, 1) := by decide +kernel
theorem dL_init_281 : decode cL_init 281 = .ok (.iconst 2, 1) := by decide +kernel
theorem dL_init_282 : decode cL_init 282 = .ok (.iastore, 1) := by decide +kernel
theorem dL_init_283 : decode cL_init 283 = .ok (.dup, 1) := by decide +kernel
theorem dL_init_284 : decode cL_init 284 = .ok (.iconst 1, 1) := by decide +kernel
theorem dL_init_285 : decode cL_init 285 = .ok (.iconst 4, 1) := by decide +kernel
theorem dL_init_286 : decode cL_init 286 = .ok (.iastore, 1) := by decide +kernel
theorem dL_init_287 : decode cL_init 287 = .ok (.dup, 1) := by decide +kernel
theorem dL_init_288 : decode cL_init 288 = .ok (.iconst 2, 1) := by decide +kernel
theorem dL_init_289 : decode cL_init 289 = .ok (.bipush 50, 2) := by decide +kernel
theorem dL_init_291 : decode cL_init 291 = .ok (.iastore, 1) := by decide +kernel
theorem dL_init_292 : decode cL_init 292 = .ok (.aastore, 1) := by decide +kernel
theorem dL_init_293 : decode cL_init 293 = .ok (.astore_n 2, 1) := by decide +kernel
theorem dL_init_294 : decode cL_init 294 = .ok (.aload_n 2, 1) := by decide +kernel
theorem dL_init_295 : decode cL_init 295 = .ok (.astore_n 3, 1) := by decide +kernel
theorem dL_init_296 : decode cL_init 296 = .ok (.aload_n 3, 1) := by decide +kernel
theorem dL_init_297 : decode cL_init 297 = .ok (.arraylength, 1) := by decide +kernel
theorem dL_init_298 : decode cL_init 298 = .ok (.istore 4, 2) := by decide +kernel
theorem dL_init_300 : decode cL_init 300 = .ok (.iconst 0, 1) := by decide +kernel
theorem dL_init_301 : decode cL_init 301 = .ok (.istore 5, 2) := by decide +kernel
theorem dL_init_303 : decode cL_init 303 = .ok (.iload 5, 2) := by decide +kernel
theorem dL_init_305 : decode cL_init 305 = .ok (.iload 4, 2) := by decide +kernel
theorem dL_init_307 : decode cL_init 307 = .ok (.if_icmp .ge 33, 3) := by decide +kernel
theorem dL_init_310 : decode cL_init 310 = .ok (.aload_n 3, 1) := by decide +kernel
theorem dL_init_311 : decode cL_init 311 = .ok (.iload 5, 2) := by decide +kernel
theorem dL_init_313 : decode cL_init 313 = .ok (.aaload, 1) := by decide +kernel
theorem dL_init_314 : decode cL_init 314 = .ok (.astore 6, 2) := by decide +kernel
theorem dL_init_316 : decode cL_init 316 = .ok (.aload_n 0, 1) := by decide +kernel
theorem dL_init_317 : decode cL_init 317 = .ok (.getfield 18, 3) := by decide +kernel
theorem dL_init_320 : decode cL_init 320 = .ok (.aload 6, 2) := by decide +kernel
theorem dL_init_322 : decode cL_init 322 = .ok (.iconst 0, 1) := by decide +kernel
theorem dL_init_323 : decode cL_init 323 = .ok (.iaload, 1) := by decide +kernel
theorem dL_init_324 : decode cL_init 324 = .ok (.aaload, 1) := by decide +kernel
theorem dL_init_325 : decode cL_init 325 = .ok (.aload 6, 2) := by decide +kernel
theorem dL_init_327 : decode cL_init 327 = .ok (.iconst 1, 1) := by decide +kernel
theorem dL_init_328 : decode cL_init 328 = .ok (.iaload, 1) := by decide +kernel
theorem dL_init_329 : decode cL_init 329 = .ok (.aload 6, 2) := by decide +kernel
theorem dL_init_331 : decode cL_init 331 = .ok (.iconst 2, 1) := by decide +kernel
theorem dL_init_332 : decode cL_init 332 = .ok (.iaload, 1) := by decide +kernel
theorem dL_init_333 : decode cL_init 333 = .ok (.iastore, 1) := by decide +kernel
theorem dL_init_334 : decode cL_init 334 = .ok (.iinc 5 1, 3) := by decide +kernel
theorem dL_init_337 : decode cL_init 337 = .ok (.goto (-34), 3) := by decide +kernel
theorem dL_init_340 : decode cL_init 340 = .ok (.return_, 1) := by decide +kernel
def fL_init (p0 : Nat) (p1 : Nat) (h : mxH) : Option mxH := Option.bind (nwO h 9 [.null, .null, .null, .null, .null, .null, .null, .null, .null]) (fun h1 => Option.bind (fX9_init h.2 h1) (fun o4 => Option.bind (pR o4 p0 11 0 h.2) (fun h5 => Option.bind (nwG h5 5 20) (fun h7 => Option.bind (pR h7 p0 11 2 h5.2) (fun h9 => Option.bind (nwV h9 5 5) (fun h11 => Option.bind (stI h11 h9.2 0 1) (fun h13 => Option.bind (stI h13 h9.2 1 1) (fun h15 => Option.bind (stI h15 h9.2 2 1) (fun h17 => Option.bind (stI h17 h9.2 3 1) (fun h19 => Option.bind (stI h19 h9.2 4 1) (fun h21 => Option.bind (pR h21 p0 11 3 h9.2) (fun h23 => Option.bind (pR h23 p0 11 1 p1) (fun h25 => Option.bind (mxLoop (ρ := mxH) (fun s27 : (Int32 × mxH) => (if 5 ≤ s27.1 then some (Sum.inr s27.2) else Option.bind (mxLoop (ρ := mxH) (fun s36 : (Int32 × mxH) => (if 20 ≤ s36.1 then some (Sum.inr s36.2) else Option.bind (gR s36.2 p0 11 2) (fun r45 => Option.bind (ldR s36.2 r45 s27.1) (fun r47 => Option.bind (stI s36.2 r47 s36.1 (-1)) (fun h49 => some (Sum.inl (s36.1 + 1, h49))))))) mxF (0, s27.2)) (fun r51 : mxH => some (Sum.inl (s27.1 + 1, r51))))) mxF (0, h25)) (fun r53 : mxH => Option.bind (nwA r53 10) (fun h54 => Option.bind (nwV h54 3 3) (fun h56 => Option.bind (stI h56 h54.2 0 0) (fun h58 => Option.bind (stI h58 h54.2 1 0) (fun h60 => Option.bind (stI h60 h54.2 2 90) (fun h62 => Option.bind (stA h62 r53.2 0 h54.2) (fun h64 => Option.bind (nwV h64 3 3) (fun h66 => Option.bind (stI h66 h64.2 0 0) (fun h68 => Option.bind (stI h68 h64.2 1 1) (fun h70 => Option.bind (stI h70 h64.2 2 80) (fun h72 => Option.bind (stA h72 r53.2 1 h64.2) (fun h74 => Option.bind (nwV h74 3 3) (fun h76 => Option.bind (stI h76 h74.2 0 0) (fun h78 => Option.bind (stI h78 h74.2 1 2) (fun h80 => Option.bind (stI h80 h74.2 2 70) (fun h82 => Option.bind (stA h82 r53.2 2 h74.2) (fun h84 => Option.bind (nwV h84 3 3) (fun h86 => Option.bind (stI h86 h84.2 0 0) (fun h88 => Option.bind (stI h88 h84.2 1 3) (fun h90 => Option.bind (stI h90 h84.2 2 10) (fun h92 => Option.bind (stA h92 r53.2 3 h84.2) (fun h94 => Option.bind (nwV h94 3 3) (fun h96 => Option.bind (stI h96 h94.2 0 1) (fun h98 => Option.bind (stI h98 h94.2 1 1) (fun h100 => Option.bind (stI h100 h94.2 2 85) (fun h102 => Option.bind (stA h102 r53.2 4 h94.2) (fun h104 => Option.bind (nwV h104 3 3) (fun h106 => Option.bind (stI h106 h104.2 0 1) (fun h108 => Option.bind (stI h108 h104.2 1 2) (fun h110 => Option.bind (stI h110 h104.2 2 75) (fun h112 => Option.bind (stA h112 r53.2 5 h104.2) (fun h114 => Option.bind (nwV h114 3 3) (fun h116 => Option.bind (stI h116 h114.2 0 1) (fun h118 => Option.bind (stI h118 h114.2 1 0) (fun h120 => Option.bind (stI h120 h114.2 2 20) (fun h122 => Option.bind (stA h122 r53.2 6 h114.2) (fun h124 => Option.bind (nwV h124 3 3) (fun h126 => Option.bind (stI h126 h124.2 0 2) (fun h128 => Option.bind (stI h128 h124.2 1 2) (fun h130 => Option.bind (stI h130 h124.2 2 95) (fun h132 => Option.bind (stA h132 r53.2 7 h124.2) (fun h134 => Option.bind (nwV h134 3 3) (fun h136 => Option.bind (stI h136 h134.2 0 2) (fun h138 => Option.bind (stI h138 h134.2 1 0) (fun h140 => Option.bind (stI h140 h134.2 2 60) (fun h142 => Option.bind (stA h142 r53.2 8 h134.2) (fun h144 => Option.bind (nwV h144 3 3) (fun h146 => Option.bind (stI h146 h144.2 0 2) (fun h148 => Option.bind (stI h148 h144.2 1 4) (fun h150 => Option.bind (stI h150 h144.2 2 50) (fun h152 => Option.bind (stA h152 r53.2 9 h144.2) (fun h154 => Option.bind (lenA h154 r53.2) (fun v156 => Option.bind (mxLoop (ρ := mxH) (fun s158 : (Int32 × mxH) => (if v156 ≤ s158.1 then some (Sum.inr s158.2) else Option.bind (ldR s158.2 r53.2 s158.1) (fun r167 => Option.bind (gR s158.2 p0 11 2) (fun r169 => Option.bind (ldI s158.2 r167 0) (fun v171 => Option.bind (ldR s158.2 r169 v171) (fun r173 => Option.bind (ldI s158.2 r167 1) (fun v175 => Option.bind (ldI s158.2 r167 2) (fun v177 => Option.bind (stI s158.2 r173 v175 v177) (fun h179 => some (Sum.inl (s158.1 + 1, h179))))))))))) mxF (0, h154)) (fun r181 : mxH => some r181)))))))))))))))))))))))))))))))))))))))))))))))))))))))))))))))))))
abbrev rmL_init : Room := { frames := 5, cells := 335, slots := 5678, locals := 113 }
set_option maxRecDepth 20000 in
set_option maxHeartbeats 1000000 in
theorem tL_init {l : Launch} {Z : mxZ} (hl : l.stackTraces = false) {p0 : Nat} {p1 : Nat} {h : mxH} {out : mxH} (hf : fL_init p0 p1 h = some out) : mxMet l Z yL_init cL_init 7 (none) rmL_init [.ref p0, .ref p1] h (.inl none) out := by
  refine mxMet_of (by decide) hl (by simp [Value.category]) (Nat.le_of_ble_eq_true rfl) ?_
  intro X C E hX hin
  unfold fL_init at hf
  refine mG_aload_n (pc := 0) C dL_init_0 rfl ?_
  refine mG_oI2 (pc := 1) C hX dL_init_1 oi_L_1 rfl rfl ?_
  refine mG_aload_n (pc := 4) C dL_init_4 rfl ?_
  obtain ⟨h1, e2, hf⟩ := mx_bind hf
  refine mG_nwO2 (pc := 5) (k' := 1) (n' := 9) C hX dL_init_5 mk_L_7 e2 rfl rfl ⟨Nat.le_of_ble_eq_true rfl, Nat.le_of_ble_eq_true rfl⟩ ?_
  refine mG_dup (pc := 8) C dL_init_8 rfl ?_
  obtain ⟨o4, e3, hf⟩ := mx_bind hf
  refine mG_cI2 (pc := 9) (k' := 317) (n' := 5528) (h' := o4) [] [.ref h.2, .ref p0] C hX dL_init_9 lkI_L_9 rfl (tX9_init hl e3) rfl rfl rfl ⟨Nat.le_of_ble_eq_true rfl, Nat.le_of_ble_eq_true rfl⟩ rfl ?_
  obtain ⟨h5, e6, hf⟩ := mx_bind hf
  refine mG_putR (pc := 12) C dL_init_12 fl_L_10 rfl (hin rfl) ⟨_, _, rfl, w499⟩ (fun _ => rfl) (fun _ => rfl) e6 ?_
  refine mG_aload_n (pc := 15) C dL_init_15 rfl ?_
  refine mG_ic (pc := 16) C dL_init_16 kI5 ?_
  refine mG_bp (pc := 17) C dL_init_17 kB20 ?_
  obtain ⟨h7, e8, hf⟩ := mx_bind hf
  refine mG_nwG (N := 5) (K := 20) (pc := 19) (k' := 323) (n' := 5633) C hX dL_init_19 w497 w272 (by decide) (by decide) (by decide) (by decide) rfl rfl e8 rfl rfl rfl ?_
  obtain ⟨h9, e10, hf⟩ := mx_bind hf
  refine mG_putR (pc := 23) C dL_init_23 fl_L_18 rfl (hin rfl) ⟨_, _, rfl, w501⟩ (fun _ => rfl) (fun _ => rfl) e10 ?_
  refine mG_aload_n (pc := 26) C dL_init_26 rfl ?_
  refine mG_ic (pc := 27) C dL_init_27 kI5 ?_
  obtain ⟨h11, e12, hf⟩ := mx_bind hf
  refine mG_nwV (B := 5) (pc := 28) (k' := 324) (n' := 5638) C hX dL_init_28 w272 rfl e12 rfl rfl ⟨Nat.le_of_ble_eq_true rfl, Nat.le_of_ble_eq_true rfl⟩ ?_
  refine mG_dup (pc := 30) C dL_init_30 rfl ?_
  refine mG_ic (pc := 31) C dL_init_31 kI0 ?_
  refine mG_ic (pc := 32) C dL_init_32 kI1 ?_
  obtain ⟨h13, e14, hf⟩ := mx_bind hf
  refine mG_iastore (pc := 33) C dL_init_33 e14 ?_
  refine mG_dup (pc := 34) C dL_init_34 rfl ?_
  refine mG_ic (pc := 35) C dL_init_35 kI1 ?_
  refine mG_ic (pc := 36) C dL_init_36 kI1 ?_
  obtain ⟨h15, e16, hf⟩ := mx_bind hf
  refine mG_iastore (pc := 37) C dL_init_37 e16 ?_
  refine mG_dup (pc := 38) C dL_init_38 rfl ?_
  refine mG_ic (pc := 39) C dL_init_39 kI2 ?_
  refine mG_ic (pc := 40) C dL_init_40 kI1 ?_
  obtain ⟨h17, e18, hf⟩ := mx_bind hf
  refine mG_iastore (pc := 41) C dL_init_41 e18 ?_
  refine mG_dup (pc := 42) C dL_init_42 rfl ?_
  refine mG_ic (pc := 43) C dL_init_43 kI3 ?_
  refine mG_ic (pc := 44) C dL_init_44 kI1 ?_
  obtain ⟨h19, e20, hf⟩ := mx_bind hf
  refine mG_iastore (pc := 45) C dL_init_45 e20 ?_
  refine mG_dup (pc := 46) C dL_init_46 rfl ?_
  refine mG_ic (pc := 47) C dL_init_47 kI4 ?_
  refine mG_ic (pc := 48) C dL_init_48 kI1 ?_
  obtain ⟨h21, e22, hf⟩ := mx_bind hf
  refine mG_iastore (pc := 49) C dL_init_49 e22 ?_
  obtain ⟨h23, e24, hf⟩ := mx_bind hf
  refine mG_putR (pc := 50) C dL_init_50 fl_L_21 rfl (hin rfl) ⟨_, _, rfl, w502⟩ (fun _ => rfl) (fun _ => rfl) e24 ?_
  refine mG_aload_n (pc := 53) C dL_init_53 rfl ?_
  refine mG_aload_n (pc := 54) C dL_init_54 rfl ?_
  obtain ⟨h25, e26, hf⟩ := mx_bind hf
  refine mG_putR (pc := 55) C dL_init_55 fl_L_25 rfl (hin rfl) ⟨_, _, rfl, w500⟩ (fun _ => rfl) (fun _ => rfl) e26 ?_
  refine mG_ic (pc := 58) C dL_init_58 kI0 ?_
  refine mG_isn (ls' := [some (.ref p0), some (.ref p1), some (.int 0), none, none, none, none]) (pc := 59) C dL_init_59 rfl rfl rfl ?_
  obtain ⟨r28, e29, hf⟩ := mx_bind hf
  have J30 : ∀ r53 : mxH, r53 = r28 → mG l Z X 7 324 5638 94 [some (.ref p0), none, none, none, none, none, none] [] r53 := by
    intro r53 q183
    subst q183
    refine mG_bp (pc := 94) C dL_init_94 kB10 ?_
    obtain ⟨h54, e55, hf⟩ := mx_bind hf
    refine mG_nwA (N := 10) (pc := 96) (k' := 325) (n' := 5648) C hX dL_init_96 w498 (by decide) (by decide) rfl e55 rfl rfl ⟨Nat.le_of_ble_eq_true rfl, Nat.le_of_ble_eq_true rfl⟩ ?_
    refine mG_dup (pc := 99) C dL_init_99 rfl ?_
    refine mG_ic (pc := 100) C dL_init_100 kI0 ?_
    refine mG_ic (pc := 101) C dL_init_101 kI3 ?_
    obtain ⟨h56, e57, hf⟩ := mx_bind hf
    refine mG_nwV (B := 3) (pc := 102) (k' := 326) (n' := 5651) C hX dL_init_102 w272 rfl e57 rfl rfl ⟨Nat.le_of_ble_eq_true rfl, Nat.le_of_ble_eq_true rfl⟩ ?_
    refine mG_dup (pc := 104) C dL_init_104 rfl ?_
    refine mG_ic (pc := 105) C dL_init_105 kI0 ?_
    refine mG_ic (pc := 106) C dL_init_106 kI0 ?_
    obtain ⟨h58, e59, hf⟩ := mx_bind hf
    refine mG_iastore (pc := 107) C dL_init_107 e59 ?_
    refine mG_dup (pc := 108) C dL_init_108 rfl ?_
    refine mG_ic (pc := 109) C dL_init_109 kI1 ?_
    refine mG_ic (pc := 110) C dL_init_110 kI0 ?_
    obtain ⟨h60, e61, hf⟩ := mx_bind hf
    refine mG_iastore (pc := 111) C dL_init_111 e61 ?_
    refine mG_dup (pc := 112) C dL_init_112 rfl ?_
    refine mG_ic (pc := 113) C dL_init_113 kI2 ?_
    refine mG_bp (pc := 114) C dL_init_114 kB90 ?_
    obtain ⟨h62, e63, hf⟩ := mx_bind hf
    refine mG_iastore (pc := 116) C dL_init_116 e63 ?_
    obtain ⟨h64, e65, hf⟩ := mx_bind hf
    refine mG_aastA (pc := 117) C dL_init_117 e65 ?_
    refine mG_dup (pc := 118) C dL_init_118 rfl ?_
    refine mG_ic (pc := 119) C dL_init_119 kI1 ?_
    refine mG_ic (pc := 120) C dL_init_120 kI3 ?_
    obtain ⟨h66, e67, hf⟩ := mx_bind hf
    refine mG_nwV (B := 3) (pc := 121) (k' := 327) (n' := 5654) C hX dL_init_121 w272 rfl e67 rfl rfl ⟨Nat.le_of_ble_eq_true rfl, Nat.le_of_ble_eq_true rfl⟩ ?_
    refine mG_dup (pc := 123) C dL_init_123 rfl ?_
    refine mG_ic (pc := 124) C dL_init_124 kI0 ?_
    refine mG_ic (pc := 125) C dL_init_125 kI0 ?_
    obtain ⟨h68, e69, hf⟩ := mx_bind hf
    refine mG_iastore (pc := 126) C dL_init_126 e69 ?_
    refine mG_dup (pc := 127) C dL_init_127 rfl ?_
    refine mG_ic (pc := 128) C dL_init_128 kI1 ?_
    refine mG_ic (pc := 129) C dL_init_129 kI1 ?_
    obtain ⟨h70, e71, hf⟩ := mx_bind hf
    refine mG_iastore (pc := 130) C dL_init_130 e71 ?_
    refine mG_dup (pc := 131) C dL_init_131 rfl ?_
    refine mG_ic (pc := 132) C dL_init_132 kI2 ?_
    refine mG_bp (pc := 133) C dL_init_133 kB80 ?_
    obtain ⟨h72, e73, hf⟩ := mx_bind hf
    refine mG_iastore (pc := 135) C dL_init_135 e73 ?_
    obtain ⟨h74, e75, hf⟩ := mx_bind hf
    refine mG_aastA (pc := 136) C dL_init_136 e75 ?_
    refine mG_dup (pc := 137) C dL_init_137 rfl ?_
    refine mG_ic (pc := 138) C dL_init_138 kI2 ?_
    refine mG_ic (pc := 139) C dL_init_139 kI3 ?_
    obtain ⟨h76, e77, hf⟩ := mx_bind hf
    refine mG_nwV (B := 3) (pc := 140) (k' := 328) (n' := 5657) C hX dL_init_140 w272 rfl e77 rfl rfl ⟨Nat.le_of_ble_eq_true rfl, Nat.le_of_ble_eq_true rfl⟩ ?_
    refine mG_dup (pc := 142) C dL_init_142 rfl ?_
    refine mG_ic (pc := 143) C dL_init_143 kI0 ?_
    refine mG_ic (pc := 144) C dL_init_144 kI0 ?_
    obtain ⟨h78, e79, hf⟩ := mx_bind hf
    refine mG_iastore (pc := 145) C dL_init_145 e79 ?_
    refine mG_dup (pc := 146) C dL_init_146 rfl ?_
    refine mG_ic (pc := 147) C dL_init_147 kI1 ?_
    refine mG_ic (pc := 148) C dL_init_148 kI2 ?_
    obtain ⟨h80, e81, hf⟩ := mx_bind hf
    refine mG_iastore (pc := 149) C dL_init_149 e81 ?_
    refine mG_dup (pc := 150) C dL_init_150 rfl ?_
    refine mG_ic (pc := 151) C dL_init_151 kI2 ?_
    refine mG_bp (pc := 152) C dL_init_152 kB70 ?_
    obtain ⟨h82, e83, hf⟩ := mx_bind hf
    refine mG_iastore (pc := 154) C dL_init_154 e83 ?_
    obtain ⟨h84, e85, hf⟩ := mx_bind hf
    refine mG_aastA (pc := 155) C dL_init_155 e85 ?_
    refine mG_dup (pc := 156) C dL_init_156 rfl ?_
    refine mG_ic (pc := 157) C dL_init_157 kI3 ?_
    refine mG_ic (pc := 158) C dL_init_158 kI3 ?_
    obtain ⟨h86, e87, hf⟩ := mx_bind hf
    refine mG_nwV (B := 3) (pc := 159) (k' := 329) (n' := 5660) C hX dL_init_159 w272 rfl e87 rfl rfl ⟨Nat.le_of_ble_eq_true rfl, Nat.le_of_ble_eq_true rfl⟩ ?_
    refine mG_dup (pc := 161) C dL_init_161 rfl ?_
    refine mG_ic (pc := 162) C dL_init_162 kI0 ?_
    refine mG_ic (pc := 163) C dL_init_163 kI0 ?_
    obtain ⟨h88, e89, hf⟩ := mx_bind hf
    refine mG_iastore (pc := 164) C dL_init_164 e89 ?_
    refine mG_dup (pc := 165) C dL_init_165 rfl ?_
    refine mG_ic (pc := 166) C dL_init_166 kI1 ?_
    refine mG_ic (pc := 167) C dL_init_167 kI3 ?_
    obtain ⟨h90, e91, hf⟩ := mx_bind hf
    refine mG_iastore (pc := 168) C dL_init_168 e91 ?_
    refine mG_dup (pc := 169) C dL_init_169 rfl ?_
    refine mG_ic (pc := 170) C dL_init_170 kI2 ?_
    refine mG_bp (pc := 171) C dL_init_171 kB10 ?_
    obtain ⟨h92, e93, hf⟩ := mx_bind hf
    refine mG_iastore (pc := 173) C dL_init_173 e93 ?_
    obtain ⟨h94, e95, hf⟩ := mx_bind hf
    refine mG_aastA (pc := 174) C dL_init_174 e95 ?_
    refine mG_dup (pc := 175) C dL_init_175 rfl ?_
    refine mG_ic (pc := 176) C dL_init_176 kI4 ?_
    refine mG_ic (pc := 177) C dL_init_177 kI3 ?_
    obtain ⟨h96, e97, hf⟩ := mx_bind hf
    refine mG_nwV (B := 3) (pc := 178) (k' := 330) (n' := 5663) C hX dL_init_178 w272 rfl e97 rfl rfl ⟨Nat.le_of_ble_eq_true rfl, Nat.le_of_ble_eq_true rfl⟩ ?_
    refine mG_dup (pc := 180) C dL_init_180 rfl ?_
    refine mG_ic (pc := 181) C dL_init_181 kI0 ?_
    refine mG_ic (pc := 182) C dL_init_182 kI1 ?_
    obtain ⟨h98, e99, hf⟩ := mx_bind hf
    refine mG_iastore (pc := 183) C dL_init_183 e99 ?_
    refine mG_dup (pc := 184) C dL_init_184 rfl ?_
    refine mG_ic (pc := 185) C dL_init_185 kI1 ?_
    refine mG_ic (pc := 186) C dL_init_186 kI1 ?_
    obtain ⟨h100, e101, hf⟩ := mx_bind hf
    refine mG_iastore (pc := 187) C dL_init_187 e101 ?_
    refine mG_dup (pc := 188) C dL_init_188 rfl ?_
    refine mG_ic (pc := 189) C dL_init_189 kI2 ?_
    refine mG_bp (pc := 190) C dL_init_190 kB85 ?_
    obtain ⟨h102, e103, hf⟩ := mx_bind hf
    refine mG_iastore (pc := 192) C dL_init_192 e103 ?_
    obtain ⟨h104, e105, hf⟩ := mx_bind hf
    refine mG_aastA (pc := 193) C dL_init_193 e105 ?_
    refine mG_dup (pc := 194) C dL_init_194 rfl ?_
    refine mG_ic (pc := 195) C dL_init_195 kI5 ?_
    refine mG_ic (pc := 196) C dL_init_196 kI3 ?_
    obtain ⟨h106, e107, hf⟩ := mx_bind hf
    refine mG_nwV (B := 3) (pc := 197) (k' := 331) (n' := 5666) C hX dL_init_197 w272 rfl e107 rfl rfl ⟨Nat.le_of_ble_eq_true rfl, Nat.le_of_ble_eq_true rfl⟩ ?_
    refine mG_dup (pc := 199) C dL_init_199 rfl ?_
    refine mG_ic (pc := 200) C dL_init_200 kI0 ?_
    refine mG_ic (pc := 201) C dL_init_201 kI1 ?_
    obtain ⟨h108, e109, hf⟩ := mx_bind hf
    refine mG_iastore (pc := 202) C dL_init_202 e109 ?_
    refine mG_dup (pc := 203) C dL_init_203 rfl ?_
    refine mG_ic (pc := 204) C dL_init_204 kI1 ?_
    refine mG_ic (pc := 205) C dL_init_205 kI2 ?_
    obtain ⟨h110, e111, hf⟩ := mx_bind hf
    refine mG_iastore (pc := 206) C dL_init_206 e111 ?_
    refine mG_dup (pc := 207) C dL_init_207 rfl ?_
    refine mG_ic (pc := 208) C dL_init_208 kI2 ?_
    refine mG_bp (pc := 209) C dL_init_209 kB75 ?_
    obtain ⟨h112, e113, hf⟩ := mx_bind hf
    refine mG_iastore (pc := 211) C dL_init_211 e113 ?_
    obtain ⟨h114, e115, hf⟩ := mx_bind hf
    refine mG_aastA (pc := 212) C dL_init_212 e115 ?_
    refine mG_dup (pc := 213) C dL_init_213 rfl ?_
    refine mG_bp (pc := 214) C dL_init_214 kB6 ?_
    refine mG_ic (pc := 216) C dL_init_216 kI3 ?_
    obtain ⟨h116, e117, hf⟩ := mx_bind hf
    refine mG_nwV (B := 3) (pc := 217) (k' := 332) (n' := 5669) C hX dL_init_217 w272 rfl e117 rfl rfl ⟨Nat.le_of_ble_eq_true rfl, Nat.le_of_ble_eq_true rfl⟩ ?_
    refine mG_dup (pc := 219) C dL_init_219 rfl ?_
    refine mG_ic (pc := 220) C dL_init_220 kI0 ?_
    refine mG_ic (pc := 221) C dL_init_221 kI1 ?_
    obtain ⟨h118, e119, hf⟩ := mx_bind hf
    refine mG_iastore (pc := 222) C dL_init_222 e119 ?_
    refine mG_dup (pc := 223) C dL_init_223 rfl ?_
    refine mG_ic (pc := 224) C dL_init_224 kI1 ?_
    refine mG_ic (pc := 225) C dL_init_225 kI0 ?_
    obtain ⟨h120, e121, hf⟩ := mx_bind hf
    refine mG_iastore (pc := 226) C dL_init_226 e121 ?_
    refine mG_dup (pc := 227) C dL_init_227 rfl ?_
    refine mG_ic (pc := 228) C dL_init_228 kI2 ?_
    refine mG_bp (pc := 229) C dL_init_229 kB20 ?_
    obtain ⟨h122, e123, hf⟩ := mx_bind hf
    refine mG_iastore (pc := 231) C dL_init_231 e123 ?_
    obtain ⟨h124, e125, hf⟩ := mx_bind hf
    refine mG_aastA (pc := 232) C dL_init_232 e125 ?_
    refine mG_dup (pc := 233) C dL_init_233 rfl ?_
    refine mG_bp (pc := 234) C dL_init_234 kB7 ?_
    refine mG_ic (pc := 236) C dL_init_236 kI3 ?_
    obtain ⟨h126, e127, hf⟩ := mx_bind hf
    refine mG_nwV (B := 3) (pc := 237) (k' := 333) (n' := 5672) C hX dL_init_237 w272 rfl e127 rfl rfl ⟨Nat.le_of_ble_eq_true rfl, Nat.le_of_ble_eq_true rfl⟩ ?_
    refine mG_dup (pc := 239) C dL_init_239 rfl ?_
    refine mG_ic (pc := 240) C dL_init_240 kI0 ?_
    refine mG_ic (pc := 241) C dL_init_241 kI2 ?_
    obtain ⟨h128, e129, hf⟩ := mx_bind hf
    refine mG_iastore (pc := 242) C dL_init_242 e129 ?_
    refine mG_dup (pc := 243) C dL_init_243 rfl ?_
    refine mG_ic (pc := 244) C dL_init_244 kI1 ?_
    refine mG_ic (pc := 245) C dL_init_245 kI2 ?_
    obtain ⟨h130, e131, hf⟩ := mx_bind hf
    refine mG_iastore (pc := 246) C dL_init_246 e131 ?_
    refine mG_dup (pc := 247) C dL_init_247 rfl ?_
    refine mG_ic (pc := 248) C dL_init_248 kI2 ?_
    refine mG_bp (pc := 249) C dL_init_249 kB95 ?_
    obtain ⟨h132, e133, hf⟩ := mx_bind hf
    refine mG_iastore (pc := 251) C dL_init_251 e133 ?_
    obtain ⟨h134, e135, hf⟩ := mx_bind hf
    refine mG_aastA (pc := 252) C dL_init_252 e135 ?_
    refine mG_dup (pc := 253) C dL_init_253 rfl ?_
    refine mG_bp (pc := 254) C dL_init_254 kB8 ?_
    refine mG_ic (pc := 256) C dL_init_256 kI3 ?_
    obtain ⟨h136, e137, hf⟩ := mx_bind hf
    refine mG_nwV (B := 3) (pc := 257) (k' := 334) (n' := 5675) C hX dL_init_257 w272 rfl e137 rfl rfl ⟨Nat.le_of_ble_eq_true rfl, Nat.le_of_ble_eq_true rfl⟩ ?_
    refine mG_dup (pc := 259) C dL_init_259 rfl ?_
    refine mG_ic (pc := 260) C dL_init_260 kI0 ?_
    refine mG_ic (pc := 261) C dL_init_261 kI2 ?_
    obtain ⟨h138, e139, hf⟩ := mx_bind hf
    refine mG_iastore (pc := 262) C dL_init_262 e139 ?_
    refine mG_dup (pc := 263) C dL_init_263 rfl ?_
    refine mG_ic (pc := 264) C dL_init_264 kI1 ?_
    refine mG_ic (pc := 265) C dL_init_265 kI0 ?_
    obtain ⟨h140, e141, hf⟩ := mx_bind hf
    refine mG_iastore (pc := 266) C dL_init_266 e141 ?_
    refine mG_dup (pc := 267) C dL_init_267 rfl ?_
    refine mG_ic (pc := 268) C dL_init_268 kI2 ?_
    refine mG_bp (pc := 269) C dL_init_269 kB60 ?_
    obtain ⟨h142, e143, hf⟩ := mx_bind hf
    refine mG_iastore (pc := 271) C dL_init_271 e143 ?_
    obtain ⟨h144, e145, hf⟩ := mx_bind hf
    refine mG_aastA (pc := 272) C dL_init_272 e145 ?_
    refine mG_dup (pc := 273) C dL_init_273 rfl ?_
    refine mG_bp (pc := 274) C dL_init_274 kB9 ?_
    refine mG_ic (pc := 276) C dL_init_276 kI3 ?_
    obtain ⟨h146, e147, hf⟩ := mx_bind hf
    refine mG_nwV (B := 3) (pc := 277) (k' := 335) (n' := 5678) C hX dL_init_277 w272 rfl e147 rfl rfl ⟨Nat.le_of_ble_eq_true rfl, Nat.le_of_ble_eq_true rfl⟩ ?_
    refine mG_dup (pc := 279) C dL_init_279 rfl ?_
    refine mG_ic (pc := 280) C dL_init_280 kI0 ?_
    refine mG_ic (pc := 281) C dL_init_281 kI2 ?_
    obtain ⟨h148, e149, hf⟩ := mx_bind hf
    refine mG_iastore (pc := 282) C dL_init_282 e149 ?_
    refine mG_dup (pc := 283) C dL_init_283 rfl ?_
    refine mG_ic (pc := 284) C dL_init_284 kI1 ?_
    refine mG_ic (pc := 285) C dL_init_285 kI4 ?_
    obtain ⟨h150, e151, hf⟩ := mx_bind hf
    refine mG_iastore (pc := 286) C dL_init_286 e151 ?_
    refine mG_dup (pc := 287) C dL_init_287 rfl ?_
    refine mG_ic (pc := 288) C dL_init_288 kI2 ?_
    refine mG_bp (pc := 289) C dL_init_289 kB50 ?_
    obtain ⟨h152, e153, hf⟩ := mx_bind hf
    refine mG_iastore (pc := 291) C dL_init_291 e153 ?_
    obtain ⟨h154, e155, hf⟩ := mx_bind hf
    refine mG_aastA (pc := 292) C dL_init_292 e155 ?_
    refine mG_asn (ls' := [some (.ref p0), none, some (.ref r53.2), none, none, none, none]) (pc := 293) C dL_init_293 rfl rfl rfl ?_
    refine mG_aload_n (pc := 294) C dL_init_294 rfl ?_
    refine mG_asn (ls' := [some (.ref p0), none, some (.ref r53.2), some (.ref r53.2), none, none, none]) (pc := 295) C dL_init_295 rfl rfl rfl ?_
    refine mG_aload_n (pc := 296) C dL_init_296 rfl ?_
    obtain ⟨v156, e157, hf⟩ := mx_bind hf
    refine mG_arraylength (pc := 297) C dL_init_297 e157 ?_
    refine mG_is (ls' := [some (.ref p0), none, some (.ref r53.2), some (.ref r53.2), some (.int v156), none, none]) (pc := 298) C dL_init_298 rfl rfl rfl ?_
    refine mG_ic (pc := 300) C dL_init_300 kI0 ?_
    refine mG_is (ls' := [some (.ref p0), none, some (.ref r53.2), some (.ref r53.2), some (.int v156), some (.int 0), none]) (pc := 301) C dL_init_301 rfl rfl rfl ?_
    obtain ⟨r159, e160, hf⟩ := mx_bind hf
    have J161 : ∀ r181 : mxH, r181 = r159 → mG l Z X 7 335 5678 340 [none, none, none, none, none, none, none] [] r181 := by
      intro r181 q182
      subst q182
      cases hf
      exact mG_vr2 (pc := 340) C E hX dL_init_340 ⟨Nat.le_of_ble_eq_true rfl, Nat.le_of_ble_eq_true rfl⟩
    refine mG_sub (ls' := [some (.ref p0), none, none, some (.ref r53.2), some (.int v156), some (.int 0), none]) (mxLe_s (mxLe_n (mxLe_n (mxLe_s (mxLe_s (mxLe_s (mxLe_n mxLe_z))))))) (mxLoop_ind (K := fun s158 : (Int32 × mxH) => mG l Z X 7 335 5678 303 [some (.ref p0), none, none, some (.ref r53.2), some (.int v156), some (.int s158.1), none] [] s158.2) ?_ _ _ e160)
    intro s158 o164 e165 hK162 hx163
    refine mG_iload (pc := 303) C dL_init_303 rfl ?_
    refine mG_iload (pc := 305) C dL_init_305 rfl ?_
    refine mG_icmp_ge (pc := 307) (tgt := 340) C dL_init_307 (by decide) (fun q166 => ?_) (fun q166 => ?_)
    · rw [if_pos q166] at e165
      exact mG_sub (mxLe_n (mxLe_n (mxLe_n (mxLe_n (mxLe_n (mxLe_n (mxLe_n mxLe_z))))))) (J161 _ (hx163 _ (Option.some.inj e165).symm))
    · rw [if_neg q166] at e165
      refine mG_aload_n (pc := 310) C dL_init_310 rfl ?_
      refine mG_iload (pc := 311) C dL_init_311 rfl ?_
      obtain ⟨r167, e168, e165⟩ := mx_bind e165
      refine mG_aaload (pc := 313) C dL_init_313 e168 ?_
      refine mG_as (ls' := [some (.ref p0), none, none, some (.ref r53.2), some (.int v156), some (.int s158.1), some (.ref r167)]) (pc := 314) C dL_init_314 rfl rfl rfl ?_
      refine mG_aload_n (pc := 316) C dL_init_316 rfl ?_
      obtain ⟨r169, e170, e165⟩ := mx_bind e165
      refine mG_getR (pc := 317) C dL_init_317 fl_L_18 e170 ?_
      refine mG_aload (pc := 320) C dL_init_320 rfl ?_
      refine mG_ic (pc := 322) C dL_init_322 kI0 ?_
      obtain ⟨v171, e172, e165⟩ := mx_bind e165
      refine mG_iaload (pc := 323) C dL_init_323 e172 ?_
      obtain ⟨r173, e174, e165⟩ := mx_bind e165
      refine mG_aaload (pc := 324) C dL_init_324 e174 ?_
      refine mG_aload (pc := 325) C dL_init_325 rfl ?_
      refine mG_ic (pc := 327) C dL_init_327 kI1 ?_
      obtain ⟨v175, e176, e165⟩ := mx_bind e165
      refine mG_iaload (pc := 328) C dL_init_328 e176 ?_
      refine mG_aload (pc := 329) C dL_init_329 rfl ?_
      refine mG_ic (pc := 331) C dL_init_331 kI2 ?_
      obtain ⟨v177, e178, e165⟩ := mx_bind e165
      refine mG_iaload (pc := 332) C dL_init_332 e178 ?_
      obtain ⟨h179, e180, e165⟩ := mx_bind e165
      refine mG_iastore (pc := 333) C dL_init_333 e180 ?_
      refine mG_ii (ls' := [some (.ref p0), none, none, some (.ref r53.2), some (.int v156), some (.int (s158.1 + 1)), some (.ref r167)]) (pc := 334) C dL_init_334 rfl (kinc1 _) rfl rfl rfl ?_
      refine mG_goto (tgt := 303) (pc := 337) C dL_init_337 (by decide) ?_
      exact mG_sub (mxLe_s (mxLe_n (mxLe_n (mxLe_s (mxLe_s (mxLe_s (mxLe_n mxLe_z))))))) (hK162 _ (Option.some.inj e165).symm)
  refine mG_sub (ls' := [some (.ref p0), none, some (.int 0), none, none, none, none]) (mxLe_s (mxLe_n (mxLe_s (mxLe_n (mxLe_n (mxLe_n (mxLe_n mxLe_z))))))) (mxLoop_ind (K := fun s27 : (Int32 × mxH) => mG l Z X 7 324 5638 60 [some (.ref p0), none, some (.int s27.1), none, none, none, none] [] s27.2) ?_ _ _ e29)
  intro s27 o33 e34 hK31 hx32
  refine mG_iload_n (pc := 60) C dL_init_60 rfl ?_
  refine mG_ic (pc := 61) C dL_init_61 kI5 ?_
  refine mG_icmp_ge (pc := 62) (tgt := 94) C dL_init_62 (by decide) (fun q35 => ?_) (fun q35 => ?_)
  · rw [if_pos q35] at e34
    exact mG_sub (mxLe_s (mxLe_n (mxLe_n (mxLe_n (mxLe_n (mxLe_n (mxLe_n mxLe_z))))))) (J30 _ (hx32 _ (Option.some.inj e34).symm))
  · rw [if_neg q35] at e34
    refine mG_ic (pc := 65) C dL_init_65 kI0 ?_
    refine mG_isn (ls' := [some (.ref p0), none, some (.int s27.1), some (.int 0), none, none, none]) (pc := 66) C dL_init_66 rfl rfl rfl ?_
    obtain ⟨r37, e38, e34⟩ := mx_bind e34
    have J39 : ∀ r51 : mxH, r51 = r37 → mG l Z X 7 324 5638 88 [some (.ref p0), none, some (.int s27.1), none, none, none, none] [] r51 := by
      intro r51 q52
      subst q52
      refine mG_ii (ls' := [some (.ref p0), none, some (.int (s27.1 + 1)), none, none, none, none]) (pc := 88) C dL_init_88 rfl (kinc1 _) rfl rfl rfl ?_
      refine mG_goto (tgt := 60) (pc := 91) C dL_init_91 (by decide) ?_
      exact mG_sub (mxLe_s (mxLe_n (mxLe_s (mxLe_n (mxLe_n (mxLe_n (mxLe_n mxLe_z))))))) (hK31 _ (Option.some.inj e34).symm)
    refine mG_sub (ls' := [some (.ref p0), none, some (.int s27.1), some (.int 0), none, none, none]) (mxLe_s (mxLe_n (mxLe_s (mxLe_s (mxLe_n (mxLe_n (mxLe_n mxLe_z))))))) (mxLoop_ind (K := fun s36 : (Int32 × mxH) => mG l Z X 7 324 5638 67 [some (.ref p0), none, some (.int s27.1), some (.int s36.1), none, none, none] [] s36.2) ?_ _ _ e38)
    intro s36 o42 e43 hK40 hx41
    refine mG_iload_n (pc := 67) C dL_init_67 rfl ?_
    refine mG_bp (pc := 68) C dL_init_68 kB20 ?_
    refine mG_icmp_ge (pc := 70) (tgt := 88) C dL_init_70 (by decide) (fun q44 => ?_) (fun q44 => ?_)
    · rw [if_pos q44] at e43
      exact mG_sub (mxLe_s (mxLe_n (mxLe_s (mxLe_n (mxLe_n (mxLe_n (mxLe_n mxLe_z))))))) (J39 _ (hx41 _ (Option.some.inj e43).symm))
    · rw [if_neg q44] at e43
      refine mG_aload_n (pc := 73) C dL_init_73 rfl ?_
      obtain ⟨r45, e46, e43⟩ := mx_bind e43
      refine mG_getR (pc := 74) C dL_init_74 fl_L_18 e46 ?_
      refine mG_iload_n (pc := 77) C dL_init_77 rfl ?_
      obtain ⟨r47, e48, e43⟩ := mx_bind e43
      refine mG_aaload (pc := 78) C dL_init_78 e48 ?_
      refine mG_iload_n (pc := 79) C dL_init_79 rfl ?_
      refine mG_ic (pc := 80) C dL_init_80 kIm1 ?_
      obtain ⟨h49, e50, e43⟩ := mx_bind e43
      refine mG_iastore (pc := 81) C dL_init_81 e50 ?_
      refine mG_ii (ls' := [some (.ref p0), none, some (.int s27.1), some (.int (s36.1 + 1)), none, none, none]) (pc := 82) C dL_init_82 rfl (kinc1 _) rfl rfl rfl ?_
      refine mG_goto (tgt := 67) (pc := 85) C dL_init_85 (by decide) ?_
      exact mG_sub (mxLe_s (mxLe_n (mxLe_s (mxLe_s (mxLe_n (mxLe_n (mxLe_n mxLe_z))))))) (hK40 _ (Option.some.inj e43).symm)
theorem dL_draws_0 : decode cL_draws 0 = .ok (.iconst 4, 1) := by decide +kernel
theorem dL_draws_1 : decode cL_draws 1 = .ok (.aload_n 0, 1) := by decide +kernel
theorem dL_draws_2 : decode cL_draws 2 = .ok (.getfield 25, 3) := by decide +kernel
theorem dL_draws_5 : decode cL_draws 5 = .ok (.bipush 9, 2) := by decide +kernel
theorem dL_draws_7 : decode cL_draws 7 = .ok (.invokevirtual 30, 3) := by decide +kernel
theorem dL_draws_10 : decode cL_draws 10 = .ok (.iadd, 1) := by decide +kernel
theorem dL_draws_11 : decode cL_draws 11 = .ok (.istore_n 1, 1) := by decide +kernel
theorem dL_draws_12 : decode cL_draws 12 = .ok (.aload_n 0, 1) := by decide +kernel
theorem dL_draws_13 : decode cL_draws 13 = .ok (.getfield 25, 3) := by decide +kernel
theorem dL_draws_16 : decode cL_draws 16 = .ok (.iconst 2, 1) := by decide +kernel
theorem dL_draws_17 : decode cL_draws 17 = .ok (.invokevirtual 30, 3) := by decide +kernel
theorem dL_draws_20 : decode cL_draws 20 = .ok (.ifCond .ne 8, 3) := by decide +kernel
theorem dL_draws_23 : decode cL_draws 23 = .ok (.bipush 6, 2) := by decide +kernel
theorem dL_draws_25 : decode cL_draws 25 = .ok (.goto 5, 3) := by decide +kernel
theorem dL_draws_28 : decode cL_draws 28 = .ok (.bipush 100, 2) := by decide +kernel
theorem dL_draws_30 : decode cL_draws 30 = .ok (.istore_n 2, 1) := by decide +kernel
theorem dL_draws_31 : decode cL_draws 31 = .ok (.iconst 0, 1) := by decide +kernel
theorem dL_draws_32 : decode cL_draws 32 = .ok (.istore_n 3, 1) := by decide +kernel
theorem dL_draws_33 : decode cL_draws 33 = .ok (.iload_n 3, 1) := by decide +kernel
theorem dL_draws_34 : decode cL_draws 34 = .ok (.iconst 5, 1) := by decide +kernel
theorem dL_draws_35 : decode cL_draws 35 = .ok (.if_icmp .ge 210, 3) := by decide +kernel
theorem dL_draws_38 : decode cL_draws 38 = .ok (.aload_n 0, 1) := by decide +kernel
theorem dL_draws_39 : decode cL_draws 39 = .ok (.getfield 25, 3) := by decide +kernel
theorem dL_draws_42 : decode cL_draws 42 = .ok (.iconst 4, 1) := by decide +kernel
theorem dL_draws_43 : decode cL_draws 43 = .ok (.invokevirtual 30, 3) := by decide +kernel
theorem dL_draws_46 : decode cL_draws 46 = .ok (.istore 4, 2) := by decide +kernel
theorem dL_draws_48 : decode cL_draws 48 = .ok (.iconst 0, 1) := by decide +kernel
theorem dL_draws_49 : decode cL_draws 49 = .ok (.istore 5, 2) := by decide +kernel
theorem dL_draws_51 : decode cL_draws 51 = .ok (.iload 5, 2) := by decide +kernel
theorem dL_draws_53 : decode cL_draws 53 = .ok (.iload_n 1, 1) := by decide +kernel
theorem dL_draws_54 : decode cL_draws 54 = .ok (.if_icmp .ge 134, 3) := by decide +kernel
theorem dL_draws_57 : decode cL_draws 57 = .ok (.iload 4, 2) := by decide +kernel
theorem dL_draws_59 : decode cL_draws 59 = .ok (.ifCond .le 66, 3) := by decide +kernel
theorem dL_draws_62 : decode cL_draws 62 = .ok (.aload_n 0, 1) := by decide +kernel
theorem dL_draws_63 : decode cL_draws 63 = .ok (.getfield 25, 3) := by decide +kernel
theorem dL_draws_66 : decode cL_draws 66 = .ok (.iconst 3, 1) := by decide +kernel
theorem dL_draws_67 : decode cL_draws 67 = .ok (.invokevirtual 30, 3) := by decide +kernel
theorem dL_draws_70 : decode cL_draws 70 = .ok (.iload 4, 2) := by decide +kernel
theorem dL_draws_72 : decode cL_draws 72 = .ok (.if_icmp .ge 53, 3) := by decide +kernel
theorem dL_draws_75 : decode cL_draws 75 = .ok (.aload_n 0, 1) := by decide +kernel
theorem dL_draws_76 : decode cL_draws 76 = .ok (.getfield 25, 3) := by decide +kernel
theorem dL_draws_79 : decode cL_draws 79 = .ok (.iload_n 2, 1) := by decide +kernel
theorem dL_draws_80 : decode cL_draws 80 = .ok (.invokevirtual 30, 3) := by decide +kernel
theorem dL_draws_83 : decode cL_draws 83 = .ok (.istore 6, 2) := by decide +kernel
theorem dL_draws_85 : decode cL_draws 85 = .ok (.aload_n 0, 1) := by decide +kernel
theorem dL_draws_86 : decode cL_draws 86 = .ok (.getfield 10, 3) := by decide +kernel
theorem dL_draws_89 : decode cL_draws 89 = .ok (.iload_n 3, 1) := by decide +kernel
theorem dL_draws_90 : decode cL_draws 90 = .ok (.iload 5, 2) := by decide +kernel
theorem dL_draws_92 : decode cL_draws 92 = .ok (.iload 6, 2) := by decide +kernel
theorem dL_draws_94 : decode cL_draws 94 = .ok (.invokevirtual 36, 3) := by decide +kernel
theorem dL_draws_97 : decode cL_draws 97 = .ok (.aload_n 0, 1) := by decide +kernel
theorem dL_draws_98 : decode cL_draws 98 = .ok (.getfield 18, 3) := by decide +kernel
theorem dL_draws_101 : decode cL_draws 101 = .ok (.iload_n 3, 1) := by decide +kernel
theorem dL_draws_102 : decode cL_draws 102 = .ok (.aaload, 1) := by decide +kernel
theorem dL_draws_103 : decode cL_draws 103 = .ok (.iload 5, 2) := by decide +kernel
theorem dL_draws_105 : decode cL_draws 105 = .ok (.iaload, 1) := by decide +kernel
theorem dL_draws_106 : decode cL_draws 106 = .ok (.if_icmp .eq 5, 3) := by decide +kernel
theorem dL_draws_109 : decode cL_draws 109 = .ok (.iconst 0, 1) := by decide +kernel
theorem dL_draws_110 : decode cL_draws 110 = .ok (.ireturn, 1) := by decide +kernel
theorem dL_draws_111 : decode cL_draws 111 = .ok (.aload_n 0, 1) := by decide +kernel
theorem dL_draws_112 : decode cL_draws 112 = .ok (.getfield 18, 3) := by decide +kernel
theorem dL_draws_115 : decode cL_draws 115 = .ok (.iload_n 3, 1) := by decide +kernel
theorem dL_draws_116 : decode cL_draws 116 = .ok (.aaload, 1) := by decide +kernel
theorem dL_draws_117 : decode cL_draws 117 = .ok (.iload 5, 2) := by decide +kernel
theorem dL_draws_119 : decode cL_draws 119 = .ok (.iload 6, 2) := by decide +kernel
theorem dL_draws_121 : decode cL_draws 121 = .ok (.iastore, 1) := by decide +kernel
theorem dL_draws_122 : decode cL_draws 122 = .ok (.goto 60, 3) := by decide +kernel
theorem dL_draws_125 : decode cL_draws 125 = .ok (.aload_n 0, 1) := by decide +kernel
theorem dL_draws_126 : decode cL_draws 126 = .ok (.getfield 18, 3) := by decide +kernel
theorem dL_draws_129 : decode cL_draws 129 = .ok (.iload_n 3, 1) := by decide +kernel
theorem dL_draws_130 : decode cL_draws 130 = .ok (.aaload, 1) := by decide +kernel
theorem dL_draws_131 : decode cL_draws 131 = .ok (.iload 5, 2) := by decide +kernel
theorem dL_draws_133 : decode cL_draws 133 = .ok (.iaload, 1) := by decide +kernel
theorem dL_draws_134 : decode cL_draws 134 = .ok (.ifCond .lt 48, 3) := by decide +kernel
theorem dL_draws_137 : decode cL_draws 137 = .ok (.aload_n 0, 1) := by decide +kernel
theorem dL_draws_138 : decode cL_draws 138 = .ok (.getfield 25, 3) := by decide +kernel
theorem dL_draws_141 : decode cL_draws 141 = .ok (.iconst 2, 1) := by decide +kernel
theorem dL_draws_142 : decode cL_draws 142 = .ok (.invokevirtual 30, 3) := by decide +kernel
theorem dL_draws_145 : decode cL_draws 145 = .ok (.ifCond .ne 37, 3) := by decide +kernel
theorem dL_draws_148 : decode cL_draws 148 = .ok (.aload_n 0, 1) := by decide +kernel
theorem dL_draws_149 : decode cL_draws 149 = .ok (.getfield 10, 3) := by decide +kernel
theorem dL_draws_152 : decode cL_draws 152 = .ok (.iload_n 3, 1) := by decide +kernel
theorem dL_draws_153 : decode cL_draws 153 = .ok (.iload 5, 2) := by decide +kernel
theorem dL_draws_155 : decode cL_draws 155 = .ok (.invokevirtual 40, 3) := by decide +kernel
theorem dL_draws_158 : decode cL_draws 158 = .ok (.aload_n 0, 1) := by decide +kernel
theorem dL_draws_159 : decode cL_draws 159 = .ok (.getfield 18, 3) := by decide +kernel
theorem dL_draws_162 : decode cL_draws 162 = .ok (.iload_n 3, 1) := by decide +kernel
theorem dL_draws_163 : decode cL_draws 163 = .ok (.aaload, 1) := by decide +kernel
theorem dL_draws_164 : decode cL_draws 164 = .ok (.iload 5, 2) := by decide +kernel
theorem dL_draws_166 : decode cL_draws 166 = .ok (.iaload, 1) := by decide +kernel
theorem dL_draws_167 : decode cL_draws 167 = .ok (.if_icmp .eq 5, 3) := by decide +kernel
theorem dL_draws_170 : decode cL_draws 170 = .ok (.iconst 0, 1) := by decide +kernel
theorem dL_draws_171 : decode cL_draws 171 = .ok (.ireturn, 1) := by decide +kernel
theorem dL_draws_172 : decode cL_draws 172 = .ok (.aload_n 0, 1) := by decide +kernel
theorem dL_draws_173 : decode cL_draws 173 = .ok (.getfield 18, 3) := by decide +kernel
theorem dL_draws_176 : decode cL_draws 176 = .ok (.iload_n 3, 1) := by decide +kernel
theorem dL_draws_177 : decode cL_draws 177 = .ok (.aaload, 1) := by decide +kernel
theorem dL_draws_178 : decode cL_draws 178 = .ok (.iload 5, 2) := by decide +kernel
theorem dL_draws_180 : decode cL_draws 180 = .ok (.iconst (-1), 1) := by decide +kernel
theorem dL_draws_181 : decode cL_draws 181 = .ok (.iastore, 1) := by decide +kernel
theorem dL_draws_182 : decode cL_draws 182 = .ok (.iinc 5 1, 3) := by decide +kernel
theorem dL_draws_185 : decode cL_draws 185 = .ok (.goto (-134), 3) := by decide +kernel
theorem dL_draws_188 : decode cL_draws 188 = .ok (.aload_n 0, 1) := by decide +kernel
theorem dL_draws_189 : decode cL_draws 189 = .ok (.getfield 25, 3) := by decide +kernel
theorem dL_draws_192 : decode cL_draws 192 = .ok (.iconst 3, 1) := by decide +kernel
theorem dL_draws_193 : decode cL_draws 193 = .ok (.invokevirtual 30, 3) := by decide +kernel
theorem dL_draws_196 : decode cL_draws 196 = .ok (.ifCond .ne 43, 3) := by decide +kernel
theorem dL_draws_199 : decode cL_draws 199 = .ok (.aload_n 0, 1) := by decide +kernel
theorem dL_draws_200 : decode cL_draws 200 = .ok (.getfield 25, 3) := by decide +kernel
theorem dL_draws_203 : decode cL_draws 203 = .ok (.bipush 6, 2) := by decide +kernel
theorem dL_draws_205 : decode cL_draws 205 = .ok (.invokevirtual 30, 3) := by decide +kernel
theorem dL_draws_208 : decode cL_draws 208 = .ok (.istore 5, 2) := by decide +kernel
theorem dL_draws_210 : decode cL_draws 210 = .ok (.aload_n 0, 1) := by decide +kernel
theorem dL_draws_211 : decode cL_draws 211 = .ok (.getfield 10, 3) := by decide +kernel
theorem dL_draws_214 : decode cL_draws 214 = .ok (.iload_n 3, 1) := by decide +kernel
theorem dL_draws_215 : decode cL_draws 215 = .ok (.iload 5, 2) := by decide +kernel
theorem dL_draws_217 : decode cL_draws 217 = .ok (.invokevirtual 44, 3) := by decide +kernel
theorem dL_draws_220 : decode cL_draws 220 = .ok (.aload_n 0, 1) := by decide +kernel
theorem dL_draws_221 : decode cL_draws 221 = .ok (.getfield 21, 3) := by decide +kernel
theorem dL_draws_224 : decode cL_draws 224 = .ok (.iload_n 3, 1) := by decide +kernel
theorem dL_draws_225 : decode cL_draws 225 = .ok (.iaload, 1) := by decide +kernel
theorem dL_draws_226 : decode cL_draws 226 = .ok (.if_icmp .eq 5, 3) := by decide +kernel
theorem dL_draws_229 : decode cL_draws 229 = .ok (.iconst 0, 1) := by decide +kernel
theorem dL_draws_230 : decode cL_draws 230 = .ok (.ireturn, 1) := by decide +kernel
theorem dL_draws_231 : decode cL_draws 231 = .ok (.aload_n 0, 1) := by decide +kernel
theorem dL_draws_232 : decode cL_draws 232 = .ok (.getfield 21, 3) := by decide +kernel
theorem dL_draws_235 : decode cL_draws 235 = .ok (.iload_n 3, 1) := by decide +kernel
theorem dL_draws_236 : decode cL_draws 236 = .ok (.iload 5, 2) := by decide +kernel
theorem dL_draws_238 : decode cL_draws 238 = .ok (.iastore, 1) := by decide +kernel
theorem dL_draws_239 : decode cL_draws 239 = .ok (.iinc 3 1, 3) := by decide +kernel
theorem dL_draws_242 : decode cL_draws 242 = .ok (.goto (-209), 3) := by decide +kernel
theorem dL_draws_245 : decode cL_draws 245 = .ok (.aload_n 0, 1) := by decide +kernel
theorem dL_draws_246 : decode cL_draws 246 = .ok (.aload_n 0, 1) := by decide +kernel
theorem dL_draws_247 : decode cL_draws 247 = .ok (.getfield 25, 3) := by decide +kernel
theorem dL_draws_250 : decode cL_draws 250 = .ok (.iconst 3, 1) := by decide +kernel
theorem dL_draws_251 : decode cL_draws 251 = .ok (.invokevirtual 30, 3) := by decide +kernel
theorem dL_draws_254 : decode cL_draws 254 = .ok (.putfield 47, 3) := by decide +kernel
theorem dL_draws_257 : decode cL_draws 257 = .ok (.aload_n 0, 1) := by decide +kernel
theorem dL_draws_258 : decode cL_draws 258 = .ok (.getfield 10, 3) := by decide +kernel
theorem dL_draws_261 : decode cL_draws 261 = .ok (.aload_n 0, 1) := by decide +kernel
theorem dL_draws_262 : decode cL_draws 262 = .ok (.getfield 47, 3) := by decide +kernel
theorem dL_draws_265 : decode cL_draws 265 = .ok (.invokevirtual 51, 3) := by decide +kernel
theorem dL_draws_268 : decode cL_draws 268 = .ok (.ifCond .ne 7, 3) := by decide +kernel
theorem dL_draws_271 : decode cL_draws 271 = .ok (.iconst 1, 1) := by decide +kernel
theorem dL_draws_272 : decode cL_draws 272 = .ok (.goto 4, 3) := by decide +kernel
theorem dL_draws_275 : decode cL_draws 275 = .ok (.iconst 0, 1) := by decide +kernel
theorem dL_draws_276 : decode cL_draws 276 = .ok (.ireturn, 1) := by decide +kernel
def fL_draws (p0 : Nat) (h : mxH) : Option (Int32 × mxH) := Option.bind (gR h p0 11 1) (fun r1 => Option.bind (isO h r1 10) (fun u3 => Option.bind (fX10_next r1 9 h) (fun o6 => Option.bind (gR o6.2 p0 11 1) (fun r7 => Option.bind (isO o6.2 r7 10) (fun u9 => Option.bind (fX10_next r7 2 o6.2) (fun o12 => Option.bind (α := Int32) (if o12.1 = 0 then some 6 else some 100) (fun jp15' : Int32 => Option.bind (mxLoop (ρ := (mxH ⊕ (mxH ⊕ (mxH ⊕ mxH)))) (fun s294 : (Int32 × mxH) => (if 5 ≤ s294.1 then some (Sum.inr (Sum.inr (Sum.inr (Sum.inr s294.2)))) else Option.bind (gR s294.2 p0 11 1) (fun r311 => Option.bind (isO s294.2 r311 10) (fun u313 => Option.bind (fX10_next r311 4 s294.2) (fun o316 => Option.bind (mxLoop (ρ := (mxH ⊕ (mxH ⊕ mxH))) (fun s427 : (Int32 × mxH) => (if (4 + o6.1) ≤ s427.1 then some (Sum.inr (Sum.inr (Sum.inr s427.2))) else (if o316.1 ≤ 0 then Option.bind (gR s427.2 p0 11 2) (fun r444 => Option.bind (ldR s427.2 r444 s294.1) (fun r446 => Option.bind (ldI s427.2 r446 s427.1) (fun v448 => (if v448 < 0 then some (Sum.inl (s427.1 + 1, s427.2)) else Option.bind (gR s427.2 p0 11 1) (fun r451 => Option.bind (isO s427.2 r451 10) (fun u453 => Option.bind (fX10_next r451 2 s427.2) (fun o456 => (if o456.1 = 0 then Option.bind (gR o456.2 p0 11 0) (fun r458 => Option.bind (isO o456.2 r458 9) (fun u460 => Option.bind (mxOk (fX9_drop r458 s294.1 s427.1 o456.2)) (fun o463 => Option.bind (gR o463.2 p0 11 2) (fun r464 => Option.bind (ldR o463.2 r464 s294.1) (fun r466 => Option.bind (ldI o463.2 r466 s427.1) (fun v468 => (if o463.1 = v468 then Option.bind (gR o463.2 p0 11 2) (fun r471 => Option.bind (ldR o463.2 r471 s294.1) (fun r473 => Option.bind (stI o463.2 r473 s427.1 (-1)) (fun h475 => some (Sum.inl (s427.1 + 1, h475))))) else some (Sum.inr (Sum.inr (Sum.inl o463.2)))))))))) else some (Sum.inl (s427.1 + 1, o456.2)))))))))) else Option.bind (gR s427.2 p0 11 1) (fun r477 => Option.bind (isO s427.2 r477 10) (fun u479 => Option.bind (fX10_next r477 3 s427.2) (fun o482 => (if o316.1 ≤ o482.1 then Option.bind (gR o482.2 p0 11 2) (fun r484 => Option.bind (ldR o482.2 r484 s294.1) (fun r486 => Option.bind (ldI o482.2 r486 s427.1) (fun v488 => (if v488 < 0 then some (Sum.inl (s427.1 + 1, o482.2)) else Option.bind (gR o482.2 p0 11 1) (fun r491 => Option.bind (isO o482.2 r491 10) (fun u493 => Option.bind (fX10_next r491 2 o482.2) (fun o496 => (if o496.1 = 0 then Option.bind (gR o496.2 p0 11 0) (fun r498 => Option.bind (isO o496.2 r498 9) (fun u500 => Option.bind (mxOk (fX9_drop r498 s294.1 s427.1 o496.2)) (fun o503 => Option.bind (gR o503.2 p0 11 2) (fun r504 => Option.bind (ldR o503.2 r504 s294.1) (fun r506 => Option.bind (ldI o503.2 r506 s427.1) (fun v508 => (if o503.1 = v508 then Option.bind (gR o503.2 p0 11 2) (fun r511 => Option.bind (ldR o503.2 r511 s294.1) (fun r513 => Option.bind (stI o503.2 r513 s427.1 (-1)) (fun h515 => some (Sum.inl (s427.1 + 1, h515))))) else some (Sum.inr (Sum.inr (Sum.inl o503.2)))))))))) else some (Sum.inl (s427.1 + 1, o496.2)))))))))) else Option.bind (gR o482.2 p0 11 1) (fun r517 => Option.bind (isO o482.2 r517 10) (fun u519 => Option.bind (fX10_next r517 jp15' o482.2) (fun o522 => Option.bind (gR o522.2 p0 11 0) (fun r523 => Option.bind (isO o522.2 r523 9) (fun u525 => Option.bind (mxOk (fX9_put r523 s294.1 s427.1 o522.1 o522.2)) (fun o528 => Option.bind (gR o528.2 p0 11 2) (fun r529 => Option.bind (ldR o528.2 r529 s294.1) (fun r531 => Option.bind (ldI o528.2 r531 s427.1) (fun v533 => (if o528.1 = v533 then Option.bind (gR o528.2 p0 11 2) (fun r536 => Option.bind (ldR o528.2 r536 s294.1) (fun r538 => Option.bind (stI o528.2 r538 s427.1 o522.1) (fun h540 => some (Sum.inl (s427.1 + 1, h540))))) else some (Sum.inr (Sum.inl o528.2))))))))))))))))))) 13 (0, o316.2)) (Sum.elim (fun r542 : mxH => some (Sum.inr (Sum.inl r542))) (Sum.elim (fun r544 : mxH => some (Sum.inr (Sum.inr (Sum.inl r544)))) (fun r546 : mxH => Option.bind (gR r546 p0 11 1) (fun r547 => Option.bind (isO r546 r547 10) (fun u549 => Option.bind (fX10_next r547 3 r546) (fun o552 => (if o552.1 = 0 then Option.bind (gR o552.2 p0 11 1) (fun r554 => Option.bind (isO o552.2 r554 10) (fun u556 => Option.bind (fX10_next r554 6 o552.2) (fun o559 => Option.bind (gR o559.2 p0 11 0) (fun r560 => Option.bind (isO o559.2 r560 9) (fun u562 => Option.bind (mxOk (fX9_setWeight r560 s294.1 o559.1 o559.2)) (fun o565 => Option.bind (gR o565.2 p0 11 3) (fun r566 => Option.bind (ldI o565.2 r566 s294.1) (fun v568 => (if o565.1 = v568 then Option.bind (gR o565.2 p0 11 3) (fun r571 => Option.bind (stI o565.2 r571 s294.1 o559.1) (fun h573 => some (Sum.inl (s294.1 + 1, h573)))) else some (Sum.inr (Sum.inr (Sum.inr (Sum.inl o565.2))))))))))))) else some (Sum.inl (s294.1 + 1, o552.2)))))))))))))) 6 (0, o12.2)) (Sum.elim (fun r576 : mxH => Option.bind (mxZ1 0) (fun v577 => some (v577, r576))) (Sum.elim (fun r580 : mxH => Option.bind (mxZ1 0) (fun v581 => some (v581, r580))) (Sum.elim (fun r584 : mxH => Option.bind (mxZ1 0) (fun v585 => some (v585, r584))) (fun r588 : mxH => Option.bind (gR r588 p0 11 1) (fun r589 => Option.bind (isO r588 r589 10) (fun u591 => Option.bind (fX10_next r589 3 r588) (fun o594 => Option.bind (pI o594.2 p0 11 4 o594.1) (fun h595 => Option.bind (gR h595 p0 11 0) (fun r597 => Option.bind (gI h595 p0 11 4) (fun v599 => Option.bind (isO h595 r597 9) (fun u601 => Option.bind (mxOk (fX9_setRule r597 v599 h595)) (fun o604 => Option.bind (α := Int32) (if o604.1 = 0 then some 1 else some 0) (fun jp607' : Int32 => Option.bind (mxZ1 jp607') (fun v609 => some (v609, o604.2))))))))))))))))))))))
abbrev rmL_draws : Room := { frames := 8, cells := 247, slots := 1482, locals := 147 }
set_option maxRecDepth 20000 in
set_option maxHeartbeats 1000000 in
theorem tL_draws {l : Launch} {Z : mxZ} (hl : l.stackTraces = false) {p0 : Nat} {h : mxH} {out : (Int32 × mxH)} (hf : fL_draws p0 h = some out) : mxMet l Z yL_draws cL_draws 7 (some .boolean) rmL_draws [.ref p0] h (.inl (some (.int out.1))) out.2 := by
  refine mxMet_of (by decide) hl (by simp [Value.category]) (Nat.le_of_ble_eq_true rfl) ?_
  intro X C E hX hin
  unfold fL_draws at hf
  refine mG_ic (pc := 0) C dL_draws_0 kI4 ?_
  refine mG_aload_n (pc := 1) C dL_draws_1 rfl ?_
  obtain ⟨r1, e2, hf⟩ := mx_bind hf
  refine mG_getR (pc := 2) C dL_draws_2 fl_L_25 e2 ?_
  refine mG_bp (pc := 5) C dL_draws_5 kB9 ?_
  obtain ⟨u3, e4, hf⟩ := mx_bind hf
  obtain ⟨o6, e5, hf⟩ := mx_bind hf
  refine mG_cV2 (pc := 7) (k' := 0) (n' := 0) (h' := o6.2) (v := some (.int o6.1)) 10 [.int 9] [.int 4] C hX dL_draws_7 lkV_L_30 rfl rfl e4 (tX10_next hl e5) rfl rfl rfl ⟨Nat.le_of_ble_eq_true rfl, Nat.le_of_ble_eq_true rfl⟩ rfl ?_
  refine mG_iadd (pc := 10) C dL_draws_10 ?_
  refine mG_isn (ls' := [some (.ref p0), some (.int (4 + o6.1)), none, none, none, none, none]) (pc := 11) C dL_draws_11 rfl rfl rfl ?_
  refine mG_aload_n (pc := 12) C dL_draws_12 rfl ?_
  obtain ⟨r7, e8, hf⟩ := mx_bind hf
  refine mG_getR (pc := 13) C dL_draws_13 fl_L_25 e8 ?_
  refine mG_ic (pc := 16) C dL_draws_16 kI2 ?_
  obtain ⟨u9, e10, hf⟩ := mx_bind hf
  obtain ⟨o12, e11, hf⟩ := mx_bind hf
  refine mG_cV2 (pc := 17) (k' := 0) (n' := 0) (h' := o12.2) (v := some (.int o12.1)) 10 [.int 2] [] C hX dL_draws_17 lkV_L_30 rfl rfl e10 (tX10_next hl e11) rfl rfl rfl ⟨Nat.le_of_ble_eq_true rfl, Nat.le_of_ble_eq_true rfl⟩ rfl ?_
  obtain ⟨jp15, e16, hf⟩ := mx_bind hf
  have J14 : ∀ jp15' : Int32, jp15' = jp15 → mG l Z X 7 0 0 30 [some (.ref p0), some (.int (4 + o6.1)), none, none, none, none, none] [.int jp15'] o12.2 := by
    intro jp15' q613
    subst q613
    refine mG_isn (ls' := [some (.ref p0), some (.int (4 + o6.1)), some (.int jp15'), none, none, none, none]) (pc := 30) C dL_draws_30 rfl rfl rfl ?_
    refine mG_ic (pc := 31) C dL_draws_31 kI0 ?_
    refine mG_isn (ls' := [some (.ref p0), some (.int (4 + o6.1)), some (.int jp15'), some (.int 0), none, none, none]) (pc := 32) C dL_draws_32 rfl rfl rfl ?_
    obtain ⟨r304, e305, hf⟩ := mx_bind hf
    have J298 : ∀ r576 : mxH, Sum.inl r576 = r304 → mG l Z X 7 246 1476 109 [none, none, none, none, none, none, none] [] r576 := by
      intro r576 q579
      subst q579
      rw [Sum.elim_inl] at hf
      refine mG_ic (pc := 109) C dL_draws_109 kI0 ?_
      obtain ⟨v577, e578, hf⟩ := mx_bind hf
      cases hf
      exact mG_zr2 (pc := 110) C e578 E hX dL_draws_110 ⟨Nat.le_of_ble_eq_true rfl, Nat.le_of_ble_eq_true rfl⟩
    have J299 : ∀ r580 : mxH, Sum.inr (Sum.inl r580) = r304 → mG l Z X 7 246 1476 170 [none, none, none, none, none, none, none] [] r580 := by
      intro r580 q583
      subst q583
      rw [Sum.elim_inr, Sum.elim_inl] at hf
      refine mG_ic (pc := 170) C dL_draws_170 kI0 ?_
      obtain ⟨v581, e582, hf⟩ := mx_bind hf
      cases hf
      exact mG_zr2 (pc := 171) C e582 E hX dL_draws_171 ⟨Nat.le_of_ble_eq_true rfl, Nat.le_of_ble_eq_true rfl⟩
    have J300 : ∀ r584 : mxH, Sum.inr (Sum.inr (Sum.inl r584)) = r304 → mG l Z X 7 246 1476 229 [none, none, none, none, none, none, none] [] r584 := by
      intro r584 q587
      subst q587
      rw [Sum.elim_inr, Sum.elim_inr, Sum.elim_inl] at hf
      refine mG_ic (pc := 229) C dL_draws_229 kI0 ?_
      obtain ⟨v585, e586, hf⟩ := mx_bind hf
      cases hf
      exact mG_zr2 (pc := 230) C e586 E hX dL_draws_230 ⟨Nat.le_of_ble_eq_true rfl, Nat.le_of_ble_eq_true rfl⟩
    have J301 : ∀ r588 : mxH, Sum.inr (Sum.inr (Sum.inr r588)) = r304 → mG l Z X 7 246 1476 245 [some (.ref p0), none, none, none, none, none, none] [] r588 := by
      intro r588 q612
      subst q612
      rw [Sum.elim_inr, Sum.elim_inr, Sum.elim_inr] at hf
      refine mG_aload_n (pc := 245) C dL_draws_245 rfl ?_
      refine mG_aload_n (pc := 246) C dL_draws_246 rfl ?_
      obtain ⟨r589, e590, hf⟩ := mx_bind hf
      refine mG_getR (pc := 247) C dL_draws_247 fl_L_25 e590 ?_
      refine mG_ic (pc := 250) C dL_draws_250 kI3 ?_
      obtain ⟨u591, e592, hf⟩ := mx_bind hf
      obtain ⟨o594, e593, hf⟩ := mx_bind hf
      refine mG_cV2 (pc := 251) (k' := 246) (n' := 1476) (h' := o594.2) (v := some (.int o594.1)) 10 [.int 3] [.ref p0] C hX dL_draws_251 lkV_L_30 rfl rfl e592 (tX10_next hl e593) rfl rfl rfl ⟨Nat.le_of_ble_eq_true rfl, Nat.le_of_ble_eq_true rfl⟩ rfl ?_
      obtain ⟨h595, e596, hf⟩ := mx_bind hf
      refine mG_putI (pc := 254) C dL_draws_254 fl_L_47 e596 ?_
      refine mG_aload_n (pc := 257) C dL_draws_257 rfl ?_
      obtain ⟨r597, e598, hf⟩ := mx_bind hf
      refine mG_getR (pc := 258) C dL_draws_258 fl_L_10 e598 ?_
      refine mG_aload_n (pc := 261) C dL_draws_261 rfl ?_
      obtain ⟨v599, e600, hf⟩ := mx_bind hf
      refine mG_getI (pc := 262) C dL_draws_262 fl_L_47 e600 ?_
      obtain ⟨u601, e602, hf⟩ := mx_bind hf
      obtain ⟨o604, e603, hf⟩ := mx_bind hf
      refine mG_cV2 (pc := 265) (k' := 247) (n' := 1482) (h' := o604.2) (v := some (.int o604.1)) 9 [.int v599] [] C hX dL_draws_265 lkV_L_51 rfl rfl e602 (tX9_setRule hl (mxOk_some e603)) rfl rfl rfl ⟨Nat.le_of_ble_eq_true rfl, Nat.le_of_ble_eq_true rfl⟩ rfl ?_
      obtain ⟨jp607, e608, hf⟩ := mx_bind hf
      have J606 : ∀ jp607' : Int32, jp607' = jp607 → mG l Z X 7 247 1482 276 [none, none, none, none, none, none, none] [.int jp607'] o604.2 := by
        intro jp607' q611
        subst q611
        obtain ⟨v609, e610, hf⟩ := mx_bind hf
        cases hf
        exact mG_zr2 (pc := 276) C e610 E hX dL_draws_276 ⟨Nat.le_of_ble_eq_true rfl, Nat.le_of_ble_eq_true rfl⟩
      refine mG_if_ne (pc := 268) (tgt := 275) C dL_draws_268 (by decide) (fun q605 => ?_) (fun q605 => ?_)
      · rw [if_neg q605] at e608
        refine mG_ic (pc := 275) C dL_draws_275 kI0 ?_
        exact mG_sub (mxLe_n (mxLe_n (mxLe_n (mxLe_n (mxLe_n (mxLe_n (mxLe_n mxLe_z))))))) (J606 _ (Option.some.inj e608))
      · rw [if_pos q605] at e608
        refine mG_ic (pc := 271) C dL_draws_271 kI1 ?_
        refine mG_goto (tgt := 276) (pc := 272) C dL_draws_272 (by decide) ?_
        exact mG_sub (mxLe_n (mxLe_n (mxLe_n (mxLe_n (mxLe_n (mxLe_n (mxLe_n mxLe_z))))))) (J606 _ (Option.some.inj e608))
    refine mG_sub (ls' := [some (.ref p0), some (.int (4 + o6.1)), some (.int jp15'), some (.int 0), none, none, none]) (mxLe_s (mxLe_s (mxLe_s (mxLe_s (mxLe_n (mxLe_n (mxLe_n mxLe_z))))))) (mxLoop_indN (K := fun (N297 : Nat) (s294 : (Int32 × mxH)) => ∀ k295 n296 : Nat, k295 + 41 * N297 ≤ 0 + 41 * 6 → n296 + 246 * N297 ≤ 0 + 246 * 6 → mG l Z X 7 k295 n296 33 [some (.ref p0), some (.int (4 + o6.1)), some (.int jp15'), some (.int s294.1), none, none, none] [] s294.2) ?_ _ _ e305 _ _ (Nat.le_refl _) (Nat.le_refl _))
    intro N297 s294 o306 e307 hK302 hx303 k295 n296 hk308 hn309
    refine mG_iload_n (pc := 33) C dL_draws_33 rfl ?_
    refine mG_ic (pc := 34) C dL_draws_34 kI5 ?_
    refine mG_icmp_ge (pc := 35) (tgt := 245) C dL_draws_35 (by decide) (fun q310 => ?_) (fun q310 => ?_)
    · rw [if_pos q310] at e307
      exact mG_wd (by omega) (by omega) (mG_sub (mxLe_s (mxLe_n (mxLe_n (mxLe_n (mxLe_n (mxLe_n (mxLe_n mxLe_z))))))) (J301 _ (hx303 _ (Option.some.inj e307).symm)))
    · rw [if_neg q310] at e307
      refine mG_aload_n (pc := 38) C dL_draws_38 rfl ?_
      obtain ⟨r311, e312, e307⟩ := mx_bind e307
      refine mG_getR (pc := 39) C dL_draws_39 fl_L_25 e312 ?_
      refine mG_ic (pc := 42) C dL_draws_42 kI4 ?_
      obtain ⟨u313, e314, e307⟩ := mx_bind e307
      obtain ⟨o316, e315, e307⟩ := mx_bind e307
      refine mG_cV2 (pc := 43) (k' := k295) (n' := n296) (h' := o316.2) (v := some (.int o316.1)) 10 [.int 4] [] C hX dL_draws_43 lkV_L_30 rfl rfl e314 (tX10_next hl e315) rfl (by show k295 + 0 = k295; omega) (by show n296 + 0 = n296; omega) ⟨by show k295 ≤ 247; omega, by show n296 ≤ 1482; omega⟩ rfl ?_
      refine mG_is (ls' := [some (.ref p0), some (.int (4 + o6.1)), some (.int jp15'), some (.int s294.1), some (.int o316.1), none, none]) (pc := 46) C dL_draws_46 rfl rfl rfl ?_
      refine mG_ic (pc := 48) C dL_draws_48 kI0 ?_
      refine mG_is (ls' := [some (.ref p0), some (.int (4 + o6.1)), some (.int jp15'), some (.int s294.1), some (.int o316.1), some (.int 0), none]) (pc := 49) C dL_draws_49 rfl rfl rfl ?_
      obtain ⟨r436, e437, e307⟩ := mx_bind e307
      have J431 : ∀ r542 : mxH, Sum.inl r542 = r436 → mG l Z X 7 (k295 + 39) (n296 + 234) 109 [none, none, none, none, none, none, none] [] r542 := by
        intro r542 q543
        subst q543
        rw [Sum.elim_inl] at e307
        exact mG_wd (by omega) (by omega) (mG_sub (mxLe_n (mxLe_n (mxLe_n (mxLe_n (mxLe_n (mxLe_n (mxLe_n mxLe_z))))))) (J298 _ (hx303 _ (Option.some.inj e307).symm)))
      have J432 : ∀ r544 : mxH, Sum.inr (Sum.inl r544) = r436 → mG l Z X 7 (k295 + 39) (n296 + 234) 170 [none, none, none, none, none, none, none] [] r544 := by
        intro r544 q545
        subst q545
        rw [Sum.elim_inr, Sum.elim_inl] at e307
        exact mG_wd (by omega) (by omega) (mG_sub (mxLe_n (mxLe_n (mxLe_n (mxLe_n (mxLe_n (mxLe_n (mxLe_n mxLe_z))))))) (J299 _ (hx303 _ (Option.some.inj e307).symm)))
      have J433 : ∀ r546 : mxH, Sum.inr (Sum.inr r546) = r436 → mG l Z X 7 (k295 + 39) (n296 + 234) 188 [some (.ref p0), some (.int (4 + o6.1)), some (.int jp15'), some (.int s294.1), none, none, none] [] r546 := by
        intro r546 q575
        subst q575
        rw [Sum.elim_inr, Sum.elim_inr] at e307
        refine mG_aload_n (pc := 188) C dL_draws_188 rfl ?_
        obtain ⟨r547, e548, e307⟩ := mx_bind e307
        refine mG_getR (pc := 189) C dL_draws_189 fl_L_25 e548 ?_
        refine mG_ic (pc := 192) C dL_draws_192 kI3 ?_
        obtain ⟨u549, e550, e307⟩ := mx_bind e307
        obtain ⟨o552, e551, e307⟩ := mx_bind e307
        refine mG_cV2 (pc := 193) (k' := (k295 + 39)) (n' := (n296 + 234)) (h' := o552.2) (v := some (.int o552.1)) 10 [.int 3] [] C hX dL_draws_193 lkV_L_30 rfl rfl e550 (tX10_next hl e551) rfl (by show (k295 + 39) + 0 = (k295 + 39); omega) (by show (n296 + 234) + 0 = (n296 + 234); omega) ⟨by show (k295 + 39) ≤ 247; omega, by show (n296 + 234) ≤ 1482; omega⟩ rfl ?_
        refine mG_if_ne (pc := 196) (tgt := 239) C dL_draws_196 (by decide) (fun q553 => ?_) (fun q553 => ?_)
        · rw [if_neg q553] at e307
          refine mG_ii (ls' := [some (.ref p0), some (.int (4 + o6.1)), some (.int jp15'), some (.int (s294.1 + 1)), none, none, none]) (pc := 239) C dL_draws_239 rfl (kinc1 _) rfl rfl rfl ?_
          refine mG_goto (tgt := 33) (pc := 242) C dL_draws_242 (by decide) ?_
          exact mG_sub (mxLe_s (mxLe_s (mxLe_s (mxLe_s (mxLe_n (mxLe_n (mxLe_n mxLe_z))))))) (hK302 _ (Option.some.inj e307).symm _ _ (by omega) (by omega))
        · rw [if_pos q553] at e307
          refine mG_aload_n (pc := 199) C dL_draws_199 rfl ?_
          obtain ⟨r554, e555, e307⟩ := mx_bind e307
          refine mG_getR (pc := 200) C dL_draws_200 fl_L_25 e555 ?_
          refine mG_bp (pc := 203) C dL_draws_203 kB6 ?_
          obtain ⟨u556, e557, e307⟩ := mx_bind e307
          obtain ⟨o559, e558, e307⟩ := mx_bind e307
          refine mG_cV2 (pc := 205) (k' := (k295 + 39)) (n' := (n296 + 234)) (h' := o559.2) (v := some (.int o559.1)) 10 [.int 6] [] C hX dL_draws_205 lkV_L_30 rfl rfl e557 (tX10_next hl e558) rfl (by show (k295 + 39) + 0 = (k295 + 39); omega) (by show (n296 + 234) + 0 = (n296 + 234); omega) ⟨by show (k295 + 39) ≤ 247; omega, by show (n296 + 234) ≤ 1482; omega⟩ rfl ?_
          refine mG_is (ls' := [some (.ref p0), some (.int (4 + o6.1)), some (.int jp15'), some (.int s294.1), none, some (.int o559.1), none]) (pc := 208) C dL_draws_208 rfl rfl rfl ?_
          refine mG_aload_n (pc := 210) C dL_draws_210 rfl ?_
          obtain ⟨r560, e561, e307⟩ := mx_bind e307
          refine mG_getR (pc := 211) C dL_draws_211 fl_L_10 e561 ?_
          refine mG_iload_n (pc := 214) C dL_draws_214 rfl ?_
          refine mG_iload (pc := 215) C dL_draws_215 rfl ?_
          obtain ⟨u562, e563, e307⟩ := mx_bind e307
          obtain ⟨o565, e564, e307⟩ := mx_bind e307
          refine mG_cV2 (pc := 217) (k' := (k295 + 41)) (n' := (n296 + 246)) (h' := o565.2) (v := some (.int o565.1)) 9 [.int s294.1, .int o559.1] [] C hX dL_draws_217 lkV_L_44 rfl rfl e563 (tX9_setWeight hl (mxOk_some e564)) rfl (by show (k295 + 39) + 2 = (k295 + 41); omega) (by show (n296 + 234) + 12 = (n296 + 246); omega) ⟨by show (k295 + 41) ≤ 247; omega, by show (n296 + 246) ≤ 1482; omega⟩ rfl ?_
          refine mG_aload_n (pc := 220) C dL_draws_220 rfl ?_
          obtain ⟨r566, e567, e307⟩ := mx_bind e307
          refine mG_getR (pc := 221) C dL_draws_221 fl_L_21 e567 ?_
          refine mG_iload_n (pc := 224) C dL_draws_224 rfl ?_
          obtain ⟨v568, e569, e307⟩ := mx_bind e307
          refine mG_iaload (pc := 225) C dL_draws_225 e569 ?_
          refine mG_icmp_eq (pc := 226) (tgt := 231) C dL_draws_226 (by decide) (fun q570 => ?_) (fun q570 => ?_)
          · rw [if_pos q570] at e307
            refine mG_aload_n (pc := 231) C dL_draws_231 rfl ?_
            obtain ⟨r571, e572, e307⟩ := mx_bind e307
            refine mG_getR (pc := 232) C dL_draws_232 fl_L_21 e572 ?_
            refine mG_iload_n (pc := 235) C dL_draws_235 rfl ?_
            refine mG_iload (pc := 236) C dL_draws_236 rfl ?_
            obtain ⟨h573, e574, e307⟩ := mx_bind e307
            refine mG_iastore (pc := 238) C dL_draws_238 e574 ?_
            refine mG_ii (ls' := [some (.ref p0), some (.int (4 + o6.1)), some (.int jp15'), some (.int (s294.1 + 1)), none, some (.int o559.1), none]) (pc := 239) C dL_draws_239 rfl (kinc1 _) rfl rfl rfl ?_
            refine mG_goto (tgt := 33) (pc := 242) C dL_draws_242 (by decide) ?_
            exact mG_sub (mxLe_s (mxLe_s (mxLe_s (mxLe_s (mxLe_n (mxLe_n (mxLe_n mxLe_z))))))) (hK302 _ (Option.some.inj e307).symm _ _ (by omega) (by omega))
          · rw [if_neg q570] at e307
            exact mG_wd (by omega) (by omega) (mG_sub (mxLe_n (mxLe_n (mxLe_n (mxLe_n (mxLe_n (mxLe_n (mxLe_n mxLe_z))))))) (J300 _ (hx303 _ (Option.some.inj e307).symm)))
      refine mG_sub (ls' := [some (.ref p0), some (.int (4 + o6.1)), some (.int jp15'), some (.int s294.1), some (.int o316.1), some (.int 0), none]) (mxLe_s (mxLe_s (mxLe_s (mxLe_s (mxLe_s (mxLe_s (mxLe_n mxLe_z))))))) (mxLoop_indN (K := fun (N430 : Nat) (s427 : (Int32 × mxH)) => ∀ k428 n429 : Nat, k428 + 3 * N430 ≤ k295 + 3 * 13 → n429 + 18 * N430 ≤ n296 + 18 * 13 → mG l Z X 7 k428 n429 51 [some (.ref p0), some (.int (4 + o6.1)), some (.int jp15'), some (.int s294.1), some (.int o316.1), some (.int s427.1), none] [] s427.2) ?_ _ _ e437 _ _ (Nat.le_refl _) (Nat.le_refl _))
      intro N430 s427 o438 e439 hK434 hx435 k428 n429 hk440 hn441
      refine mG_iload (pc := 51) C dL_draws_51 rfl ?_
      refine mG_iload_n (pc := 53) C dL_draws_53 rfl ?_
      refine mG_icmp_ge (pc := 54) (tgt := 188) C dL_draws_54 (by decide) (fun q442 => ?_) (fun q442 => ?_)
      · rw [if_pos q442] at e439
        exact mG_wd (by omega) (by omega) (mG_sub (mxLe_s (mxLe_s (mxLe_s (mxLe_s (mxLe_n (mxLe_n (mxLe_n mxLe_z))))))) (J433 _ (hx435 _ (Option.some.inj e439).symm)))
      · rw [if_neg q442] at e439
        refine mG_iload (pc := 57) C dL_draws_57 rfl ?_
        refine mG_if_le (pc := 59) (tgt := 125) C dL_draws_59 (by decide) (fun q443 => ?_) (fun q443 => ?_)
        · rw [if_pos q443] at e439
          refine mG_aload_n (pc := 125) C dL_draws_125 rfl ?_
          obtain ⟨r444, e445, e439⟩ := mx_bind e439
          refine mG_getR (pc := 126) C dL_draws_126 fl_L_18 e445 ?_
          refine mG_iload_n (pc := 129) C dL_draws_129 rfl ?_
          obtain ⟨r446, e447, e439⟩ := mx_bind e439
          refine mG_aaload (pc := 130) C dL_draws_130 e447 ?_
          refine mG_iload (pc := 131) C dL_draws_131 rfl ?_
          obtain ⟨v448, e449, e439⟩ := mx_bind e439
          refine mG_iaload (pc := 133) C dL_draws_133 e449 ?_
          refine mG_if_lt (pc := 134) (tgt := 182) C dL_draws_134 (by decide) (fun q450 => ?_) (fun q450 => ?_)
          · rw [if_pos q450] at e439
            refine mG_ii (ls' := [some (.ref p0), some (.int (4 + o6.1)), some (.int jp15'), some (.int s294.1), some (.int o316.1), some (.int (s427.1 + 1)), none]) (pc := 182) C dL_draws_182 rfl (kinc1 _) rfl rfl rfl ?_
            refine mG_goto (tgt := 51) (pc := 185) C dL_draws_185 (by decide) ?_
            exact mG_sub (mxLe_s (mxLe_s (mxLe_s (mxLe_s (mxLe_s (mxLe_s (mxLe_n mxLe_z))))))) (hK434 _ (Option.some.inj e439).symm _ _ (by omega) (by omega))
          · rw [if_neg q450] at e439
            refine mG_aload_n (pc := 137) C dL_draws_137 rfl ?_
            obtain ⟨r451, e452, e439⟩ := mx_bind e439
            refine mG_getR (pc := 138) C dL_draws_138 fl_L_25 e452 ?_
            refine mG_ic (pc := 141) C dL_draws_141 kI2 ?_
            obtain ⟨u453, e454, e439⟩ := mx_bind e439
            obtain ⟨o456, e455, e439⟩ := mx_bind e439
            refine mG_cV2 (pc := 142) (k' := k428) (n' := n429) (h' := o456.2) (v := some (.int o456.1)) 10 [.int 2] [] C hX dL_draws_142 lkV_L_30 rfl rfl e454 (tX10_next hl e455) rfl (by show k428 + 0 = k428; omega) (by show n429 + 0 = n429; omega) ⟨by show k428 ≤ 247; omega, by show n429 ≤ 1482; omega⟩ rfl ?_
            refine mG_if_ne (pc := 145) (tgt := 182) C dL_draws_145 (by decide) (fun q457 => ?_) (fun q457 => ?_)
            · rw [if_neg q457] at e439
              refine mG_ii (ls' := [some (.ref p0), some (.int (4 + o6.1)), some (.int jp15'), some (.int s294.1), some (.int o316.1), some (.int (s427.1 + 1)), none]) (pc := 182) C dL_draws_182 rfl (kinc1 _) rfl rfl rfl ?_
              refine mG_goto (tgt := 51) (pc := 185) C dL_draws_185 (by decide) ?_
              exact mG_sub (mxLe_s (mxLe_s (mxLe_s (mxLe_s (mxLe_s (mxLe_s (mxLe_n mxLe_z))))))) (hK434 _ (Option.some.inj e439).symm _ _ (by omega) (by omega))
            · rw [if_pos q457] at e439
              refine mG_aload_n (pc := 148) C dL_draws_148 rfl ?_
              obtain ⟨r458, e459, e439⟩ := mx_bind e439
              refine mG_getR (pc := 149) C dL_draws_149 fl_L_10 e459 ?_
              refine mG_iload_n (pc := 152) C dL_draws_152 rfl ?_
              refine mG_iload (pc := 153) C dL_draws_153 rfl ?_
              obtain ⟨u460, e461, e439⟩ := mx_bind e439
              obtain ⟨o463, e462, e439⟩ := mx_bind e439
              refine mG_cV2 (pc := 155) (k' := (k428 + 3)) (n' := (n429 + 18)) (h' := o463.2) (v := some (.int o463.1)) 9 [.int s294.1, .int s427.1] [] C hX dL_draws_155 lkV_L_40 rfl rfl e461 (tX9_drop hl (mxOk_some e462)) rfl (by show k428 + 3 = (k428 + 3); omega) (by show n429 + 18 = (n429 + 18); omega) ⟨by show (k428 + 3) ≤ 247; omega, by show (n429 + 18) ≤ 1482; omega⟩ rfl ?_
              refine mG_aload_n (pc := 158) C dL_draws_158 rfl ?_
              obtain ⟨r464, e465, e439⟩ := mx_bind e439
              refine mG_getR (pc := 159) C dL_draws_159 fl_L_18 e465 ?_
              refine mG_iload_n (pc := 162) C dL_draws_162 rfl ?_
              obtain ⟨r466, e467, e439⟩ := mx_bind e439
              refine mG_aaload (pc := 163) C dL_draws_163 e467 ?_
              refine mG_iload (pc := 164) C dL_draws_164 rfl ?_
              obtain ⟨v468, e469, e439⟩ := mx_bind e439
              refine mG_iaload (pc := 166) C dL_draws_166 e469 ?_
              refine mG_icmp_eq (pc := 167) (tgt := 172) C dL_draws_167 (by decide) (fun q470 => ?_) (fun q470 => ?_)
              · rw [if_pos q470] at e439
                refine mG_aload_n (pc := 172) C dL_draws_172 rfl ?_
                obtain ⟨r471, e472, e439⟩ := mx_bind e439
                refine mG_getR (pc := 173) C dL_draws_173 fl_L_18 e472 ?_
                refine mG_iload_n (pc := 176) C dL_draws_176 rfl ?_
                obtain ⟨r473, e474, e439⟩ := mx_bind e439
                refine mG_aaload (pc := 177) C dL_draws_177 e474 ?_
                refine mG_iload (pc := 178) C dL_draws_178 rfl ?_
                refine mG_ic (pc := 180) C dL_draws_180 kIm1 ?_
                obtain ⟨h475, e476, e439⟩ := mx_bind e439
                refine mG_iastore (pc := 181) C dL_draws_181 e476 ?_
                refine mG_ii (ls' := [some (.ref p0), some (.int (4 + o6.1)), some (.int jp15'), some (.int s294.1), some (.int o316.1), some (.int (s427.1 + 1)), none]) (pc := 182) C dL_draws_182 rfl (kinc1 _) rfl rfl rfl ?_
                refine mG_goto (tgt := 51) (pc := 185) C dL_draws_185 (by decide) ?_
                exact mG_sub (mxLe_s (mxLe_s (mxLe_s (mxLe_s (mxLe_s (mxLe_s (mxLe_n mxLe_z))))))) (hK434 _ (Option.some.inj e439).symm _ _ (by omega) (by omega))
              · rw [if_neg q470] at e439
                exact mG_wd (by omega) (by omega) (mG_sub (mxLe_n (mxLe_n (mxLe_n (mxLe_n (mxLe_n (mxLe_n (mxLe_n mxLe_z))))))) (J432 _ (hx435 _ (Option.some.inj e439).symm)))
        · rw [if_neg q443] at e439
          refine mG_aload_n (pc := 62) C dL_draws_62 rfl ?_
          obtain ⟨r477, e478, e439⟩ := mx_bind e439
          refine mG_getR (pc := 63) C dL_draws_63 fl_L_25 e478 ?_
          refine mG_ic (pc := 66) C dL_draws_66 kI3 ?_
          obtain ⟨u479, e480, e439⟩ := mx_bind e439
          obtain ⟨o482, e481, e439⟩ := mx_bind e439
          refine mG_cV2 (pc := 67) (k' := k428) (n' := n429) (h' := o482.2) (v := some (.int o482.1)) 10 [.int 3] [] C hX dL_draws_67 lkV_L_30 rfl rfl e480 (tX10_next hl e481) rfl (by show k428 + 0 = k428; omega) (by show n429 + 0 = n429; omega) ⟨by show k428 ≤ 247; omega, by show n429 ≤ 1482; omega⟩ rfl ?_
          refine mG_iload (pc := 70) C dL_draws_70 rfl ?_
          refine mG_icmp_ge (pc := 72) (tgt := 125) C dL_draws_72 (by decide) (fun q483 => ?_) (fun q483 => ?_)
          · rw [if_pos q483] at e439
            refine mG_aload_n (pc := 125) C dL_draws_125 rfl ?_
            obtain ⟨r484, e485, e439⟩ := mx_bind e439
            refine mG_getR (pc := 126) C dL_draws_126 fl_L_18 e485 ?_
            refine mG_iload_n (pc := 129) C dL_draws_129 rfl ?_
            obtain ⟨r486, e487, e439⟩ := mx_bind e439
            refine mG_aaload (pc := 130) C dL_draws_130 e487 ?_
            refine mG_iload (pc := 131) C dL_draws_131 rfl ?_
            obtain ⟨v488, e489, e439⟩ := mx_bind e439
            refine mG_iaload (pc := 133) C dL_draws_133 e489 ?_
            refine mG_if_lt (pc := 134) (tgt := 182) C dL_draws_134 (by decide) (fun q490 => ?_) (fun q490 => ?_)
            · rw [if_pos q490] at e439
              refine mG_ii (ls' := [some (.ref p0), some (.int (4 + o6.1)), some (.int jp15'), some (.int s294.1), some (.int o316.1), some (.int (s427.1 + 1)), none]) (pc := 182) C dL_draws_182 rfl (kinc1 _) rfl rfl rfl ?_
              refine mG_goto (tgt := 51) (pc := 185) C dL_draws_185 (by decide) ?_
              exact mG_sub (mxLe_s (mxLe_s (mxLe_s (mxLe_s (mxLe_s (mxLe_s (mxLe_n mxLe_z))))))) (hK434 _ (Option.some.inj e439).symm _ _ (by omega) (by omega))
            · rw [if_neg q490] at e439
              refine mG_aload_n (pc := 137) C dL_draws_137 rfl ?_
              obtain ⟨r491, e492, e439⟩ := mx_bind e439
              refine mG_getR (pc := 138) C dL_draws_138 fl_L_25 e492 ?_
              refine mG_ic (pc := 141) C dL_draws_141 kI2 ?_
              obtain ⟨u493, e494, e439⟩ := mx_bind e439
              obtain ⟨o496, e495, e439⟩ := mx_bind e439
              refine mG_cV2 (pc := 142) (k' := k428) (n' := n429) (h' := o496.2) (v := some (.int o496.1)) 10 [.int 2] [] C hX dL_draws_142 lkV_L_30 rfl rfl e494 (tX10_next hl e495) rfl (by show k428 + 0 = k428; omega) (by show n429 + 0 = n429; omega) ⟨by show k428 ≤ 247; omega, by show n429 ≤ 1482; omega⟩ rfl ?_
              refine mG_if_ne (pc := 145) (tgt := 182) C dL_draws_145 (by decide) (fun q497 => ?_) (fun q497 => ?_)
              · rw [if_neg q497] at e439
                refine mG_ii (ls' := [some (.ref p0), some (.int (4 + o6.1)), some (.int jp15'), some (.int s294.1), some (.int o316.1), some (.int (s427.1 + 1)), none]) (pc := 182) C dL_draws_182 rfl (kinc1 _) rfl rfl rfl ?_
                refine mG_goto (tgt := 51) (pc := 185) C dL_draws_185 (by decide) ?_
                exact mG_sub (mxLe_s (mxLe_s (mxLe_s (mxLe_s (mxLe_s (mxLe_s (mxLe_n mxLe_z))))))) (hK434 _ (Option.some.inj e439).symm _ _ (by omega) (by omega))
              · rw [if_pos q497] at e439
                refine mG_aload_n (pc := 148) C dL_draws_148 rfl ?_
                obtain ⟨r498, e499, e439⟩ := mx_bind e439
                refine mG_getR (pc := 149) C dL_draws_149 fl_L_10 e499 ?_
                refine mG_iload_n (pc := 152) C dL_draws_152 rfl ?_
                refine mG_iload (pc := 153) C dL_draws_153 rfl ?_
                obtain ⟨u500, e501, e439⟩ := mx_bind e439
                obtain ⟨o503, e502, e439⟩ := mx_bind e439
                refine mG_cV2 (pc := 155) (k' := (k428 + 3)) (n' := (n429 + 18)) (h' := o503.2) (v := some (.int o503.1)) 9 [.int s294.1, .int s427.1] [] C hX dL_draws_155 lkV_L_40 rfl rfl e501 (tX9_drop hl (mxOk_some e502)) rfl (by show k428 + 3 = (k428 + 3); omega) (by show n429 + 18 = (n429 + 18); omega) ⟨by show (k428 + 3) ≤ 247; omega, by show (n429 + 18) ≤ 1482; omega⟩ rfl ?_
                refine mG_aload_n (pc := 158) C dL_draws_158 rfl ?_
                obtain ⟨r504, e505, e439⟩ := mx_bind e439
                refine mG_getR (pc := 159) C dL_draws_159 fl_L_18 e505 ?_
                refine mG_iload_n (pc := 162) C dL_draws_162 rfl ?_
                obtain ⟨r506, e507, e439⟩ := mx_bind e439
                refine mG_aaload (pc := 163) C dL_draws_163 e507 ?_
                refine mG_iload (pc := 164) C dL_draws_164 rfl ?_
                obtain ⟨v508, e509, e439⟩ := mx_bind e439
                refine mG_iaload (pc := 166) C dL_draws_166 e509 ?_
                refine mG_icmp_eq (pc := 167) (tgt := 172) C dL_draws_167 (by decide) (fun q510 => ?_) (fun q510 => ?_)
                · rw [if_pos q510] at e439
                  refine mG_aload_n (pc := 172) C dL_draws_172 rfl ?_
                  obtain ⟨r511, e512, e439⟩ := mx_bind e439
                  refine mG_getR (pc := 173) C dL_draws_173 fl_L_18 e512 ?_
                  refine mG_iload_n (pc := 176) C dL_draws_176 rfl ?_
                  obtain ⟨r513, e514, e439⟩ := mx_bind e439
                  refine mG_aaload (pc := 177) C dL_draws_177 e514 ?_
                  refine mG_iload (pc := 178) C dL_draws_178 rfl ?_
                  refine mG_ic (pc := 180) C dL_draws_180 kIm1 ?_
                  obtain ⟨h515, e516, e439⟩ := mx_bind e439
                  refine mG_iastore (pc := 181) C dL_draws_181 e516 ?_
                  refine mG_ii (ls' := [some (.ref p0), some (.int (4 + o6.1)), some (.int jp15'), some (.int s294.1), some (.int o316.1), some (.int (s427.1 + 1)), none]) (pc := 182) C dL_draws_182 rfl (kinc1 _) rfl rfl rfl ?_
                  refine mG_goto (tgt := 51) (pc := 185) C dL_draws_185 (by decide) ?_
                  exact mG_sub (mxLe_s (mxLe_s (mxLe_s (mxLe_s (mxLe_s (mxLe_s (mxLe_n mxLe_z))))))) (hK434 _ (Option.some.inj e439).symm _ _ (by omega) (by omega))
                · rw [if_neg q510] at e439
                  exact mG_wd (by omega) (by omega) (mG_sub (mxLe_n (mxLe_n (mxLe_n (mxLe_n (mxLe_n (mxLe_n (mxLe_n mxLe_z))))))) (J432 _ (hx435 _ (Option.some.inj e439).symm)))
          · rw [if_neg q483] at e439
            refine mG_aload_n (pc := 75) C dL_draws_75 rfl ?_
            obtain ⟨r517, e518, e439⟩ := mx_bind e439
            refine mG_getR (pc := 76) C dL_draws_76 fl_L_25 e518 ?_
            refine mG_iload_n (pc := 79) C dL_draws_79 rfl ?_
            obtain ⟨u519, e520, e439⟩ := mx_bind e439
            obtain ⟨o522, e521, e439⟩ := mx_bind e439
            refine mG_cV2 (pc := 80) (k' := k428) (n' := n429) (h' := o522.2) (v := some (.int o522.1)) 10 [.int jp15'] [] C hX dL_draws_80 lkV_L_30 rfl rfl e520 (tX10_next hl e521) rfl (by show k428 + 0 = k428; omega) (by show n429 + 0 = n429; omega) ⟨by show k428 ≤ 247; omega, by show n429 ≤ 1482; omega⟩ rfl ?_
            refine mG_is (ls' := [some (.ref p0), some (.int (4 + o6.1)), some (.int jp15'), some (.int s294.1), some (.int o316.1), some (.int s427.1), some (.int o522.1)]) (pc := 83) C dL_draws_83 rfl rfl rfl ?_
            refine mG_aload_n (pc := 85) C dL_draws_85 rfl ?_
            obtain ⟨r523, e524, e439⟩ := mx_bind e439
            refine mG_getR (pc := 86) C dL_draws_86 fl_L_10 e524 ?_
            refine mG_iload_n (pc := 89) C dL_draws_89 rfl ?_
            refine mG_iload (pc := 90) C dL_draws_90 rfl ?_
            refine mG_iload (pc := 92) C dL_draws_92 rfl ?_
            obtain ⟨u525, e526, e439⟩ := mx_bind e439
            obtain ⟨o528, e527, e439⟩ := mx_bind e439
            refine mG_cV2 (pc := 94) (k' := (k428 + 3)) (n' := (n429 + 18)) (h' := o528.2) (v := some (.int o528.1)) 9 [.int s294.1, .int s427.1, .int o522.1] [] C hX dL_draws_94 lkV_L_36 rfl rfl e526 (tX9_put hl (mxOk_some e527)) rfl (by show k428 + 3 = (k428 + 3); omega) (by show n429 + 18 = (n429 + 18); omega) ⟨by show (k428 + 3) ≤ 247; omega, by show (n429 + 18) ≤ 1482; omega⟩ rfl ?_
            refine mG_aload_n (pc := 97) C dL_draws_97 rfl ?_
            obtain ⟨r529, e530, e439⟩ := mx_bind e439
            refine mG_getR (pc := 98) C dL_draws_98 fl_L_18 e530 ?_
            refine mG_iload_n (pc := 101) C dL_draws_101 rfl ?_
            obtain ⟨r531, e532, e439⟩ := mx_bind e439
            refine mG_aaload (pc := 102) C dL_draws_102 e532 ?_
            refine mG_iload (pc := 103) C dL_draws_103 rfl ?_
            obtain ⟨v533, e534, e439⟩ := mx_bind e439
            refine mG_iaload (pc := 105) C dL_draws_105 e534 ?_
            refine mG_icmp_eq (pc := 106) (tgt := 111) C dL_draws_106 (by decide) (fun q535 => ?_) (fun q535 => ?_)
            · rw [if_pos q535] at e439
              refine mG_aload_n (pc := 111) C dL_draws_111 rfl ?_
              obtain ⟨r536, e537, e439⟩ := mx_bind e439
              refine mG_getR (pc := 112) C dL_draws_112 fl_L_18 e537 ?_
              refine mG_iload_n (pc := 115) C dL_draws_115 rfl ?_
              obtain ⟨r538, e539, e439⟩ := mx_bind e439
              refine mG_aaload (pc := 116) C dL_draws_116 e539 ?_
              refine mG_iload (pc := 117) C dL_draws_117 rfl ?_
              refine mG_iload (pc := 119) C dL_draws_119 rfl ?_
              obtain ⟨h540, e541, e439⟩ := mx_bind e439
              refine mG_iastore (pc := 121) C dL_draws_121 e541 ?_
              refine mG_goto (tgt := 182) (pc := 122) C dL_draws_122 (by decide) ?_
              refine mG_ii (ls' := [some (.ref p0), some (.int (4 + o6.1)), some (.int jp15'), some (.int s294.1), some (.int o316.1), some (.int (s427.1 + 1)), some (.int o522.1)]) (pc := 182) C dL_draws_182 rfl (kinc1 _) rfl rfl rfl ?_
              refine mG_goto (tgt := 51) (pc := 185) C dL_draws_185 (by decide) ?_
              exact mG_sub (mxLe_s (mxLe_s (mxLe_s (mxLe_s (mxLe_s (mxLe_s (mxLe_n mxLe_z))))))) (hK434 _ (Option.some.inj e439).symm _ _ (by omega) (by omega))
            · rw [if_neg q535] at e439
              exact mG_wd (by omega) (by omega) (mG_sub (mxLe_n (mxLe_n (mxLe_n (mxLe_n (mxLe_n (mxLe_n (mxLe_n mxLe_z))))))) (J431 _ (hx435 _ (Option.some.inj e439).symm)))
  refine mG_if_ne (pc := 20) (tgt := 28) C dL_draws_20 (by decide) (fun q13 => ?_) (fun q13 => ?_)
  · rw [if_neg q13] at e16
    refine mG_bp (pc := 28) C dL_draws_28 kB100 ?_
    exact mG_sub (mxLe_s (mxLe_s (mxLe_n (mxLe_n (mxLe_n (mxLe_n (mxLe_n mxLe_z))))))) (J14 _ (Option.some.inj e16))
  · rw [if_pos q13] at e16
    refine mG_bp (pc := 23) C dL_draws_23 kB6 ?_
    refine mG_goto (tgt := 30) (pc := 25) C dL_draws_25 (by decide) ?_
    exact mG_sub (mxLe_s (mxLe_s (mxLe_n (mxLe_n (mxLe_n (mxLe_n (mxLe_n mxLe_z))))))) (J14 _ (Option.some.inj e16))
theorem dL_items_0 : decode cL_items 0 = .ok (.iconst 0, 1) := by decide +kernel
theorem dL_items_1 : decode cL_items 1 = .ok (.istore_n 2, 1) := by decide +kernel
theorem dL_items_2 : decode cL_items 2 = .ok (.iconst 0, 1) := by decide +kernel
theorem dL_items_3 : decode cL_items 3 = .ok (.istore_n 3, 1) := by decide +kernel
theorem dL_items_4 : decode cL_items 4 = .ok (.iload_n 3, 1) := by decide +kernel
theorem dL_items_5 : decode cL_items 5 = .ok (.bipush 20, 2) := by decide +kernel
theorem dL_items_7 : decode cL_items 7 = .ok (.if_icmp .ge 28, 3) := by decide +kernel
theorem dL_items_10 : decode cL_items 10 = .ok (.iload_n 2, 1) := by decide +kernel
theorem dL_items_11 : decode cL_items 11 = .ok (.aload_n 0, 1) := by decide +kernel
theorem dL_items_12 : decode cL_items 12 = .ok (.getfield 18, 3) := by decide +kernel
theorem dL_items_15 : decode cL_items 15 = .ok (.iload_n 1, 1) := by decide +kernel
theorem dL_items_16 : decode cL_items 16 = .ok (.aaload, 1) := by decide +kernel
theorem dL_items_17 : decode cL_items 17 = .ok (.iload_n 3, 1) := by decide +kernel
theorem dL_items_18 : decode cL_items 18 = .ok (.iaload, 1) := by decide +kernel
theorem dL_items_19 : decode cL_items 19 = .ok (.ifCond .lt 7, 3) := by decide +kernel
theorem dL_items_22 : decode cL_items 22 = .ok (.iconst 1, 1) := by decide +kernel
theorem dL_items_23 : decode cL_items 23 = .ok (.goto 4, 3) := by decide +kernel
theorem dL_items_26 : decode cL_items 26 = .ok (.iconst 0, 1) := by decide +kernel
theorem dL_items_27 : decode cL_items 27 = .ok (.iadd, 1) := by decide +kernel
theorem dL_items_28 : decode cL_items 28 = .ok (.istore_n 2, 1) := by decide +kernel
theorem dL_items_29 : decode cL_items 29 = .ok (.iinc 3 1, 3) := by decide +kernel
theorem dL_items_32 : decode cL_items 32 = .ok (.goto (-28), 3) := by decide +kernel
theorem dL_items_35 : decode cL_items 35 = .ok (.iload_n 2, 1) := by decide +kernel
theorem dL_items_36 : decode cL_items 36 = .ok (.ireturn, 1) := by decide +kernel
def fL_items (p0 : Nat) (p1 : Int32) (h : mxH) : Option Int32 := Option.bind (mxLoop (ρ := Int32) (fun s1 : (Int32 × Int32) => (if 20 ≤ s1.2 then some (Sum.inr s1.1) else Option.bind (gR h p0 11 2) (fun r10 => Option.bind (ldR h r10 p1) (fun r12 => Option.bind (ldI h r12 s1.2) (fun v14 => Option.bind (α := Int32) (if v14 < 0 then some 0 else some 1) (fun jp18' : Int32 => some (Sum.inl (s1.1 + jp18', s1.2 + 1)))))))) mxF (0, 0)) (fun r21 : Int32 => some r21)
abbrev rmL_items : Room := { frames := 0, cells := 0, slots := 0, locals := 0 }
set_option maxRecDepth 20000 in
set_option maxHeartbeats 1000000 in
theorem tL_items {l : Launch} {Z : mxZ} (hl : l.stackTraces = false) {p0 : Nat} {p1 : Int32} {h : mxH} {out : Int32} (hf : fL_items p0 p1 h = some out) : mxMet l Z yL_items cL_items 4 (some .int) rmL_items [.ref p0, .int p1] h (.inl (some (.int out))) h := by
  refine mxMet_of (by decide) hl (by simp [Value.category]) (Nat.le_of_ble_eq_true rfl) ?_
  intro X C E hX hin
  unfold fL_items at hf
  refine mG_ic (pc := 0) C dL_items_0 kI0 ?_
  refine mG_isn (ls' := [some (.ref p0), some (.int p1), some (.int 0), none]) (pc := 1) C dL_items_1 rfl rfl rfl ?_
  refine mG_ic (pc := 2) C dL_items_2 kI0 ?_
  refine mG_isn (ls' := [some (.ref p0), some (.int p1), some (.int 0), some (.int 0)]) (pc := 3) C dL_items_3 rfl rfl rfl ?_
  obtain ⟨r2, e3, hf⟩ := mx_bind hf
  have J4 : ∀ r21 : Int32, r21 = r2 → mG l Z X 4 0 0 35 [none, none, some (.int r21), none] [] h := by
    intro r21 q22
    subst q22
    refine mG_iload_n (pc := 35) C dL_items_35 rfl ?_
    cases hf
    exact mG_ir2 (pc := 36) C E hX dL_items_36 ⟨Nat.le_of_ble_eq_true rfl, Nat.le_of_ble_eq_true rfl⟩
  refine mG_sub (ls' := [some (.ref p0), some (.int p1), some (.int 0), some (.int 0)]) (mxLe_s (mxLe_s (mxLe_s (mxLe_s mxLe_z)))) (mxLoop_ind (K := fun s1 : (Int32 × Int32) => mG l Z X 4 0 0 4 [some (.ref p0), some (.int p1), some (.int s1.1), some (.int s1.2)] [] h) ?_ _ _ e3)
  intro s1 o7 e8 hK5 hx6
  refine mG_iload_n (pc := 4) C dL_items_4 rfl ?_
  refine mG_bp (pc := 5) C dL_items_5 kB20 ?_
  refine mG_icmp_ge (pc := 7) (tgt := 35) C dL_items_7 (by decide) (fun q9 => ?_) (fun q9 => ?_)
  · rw [if_pos q9] at e8
    exact mG_sub (mxLe_n (mxLe_n (mxLe_s (mxLe_n mxLe_z)))) (J4 _ (hx6 _ (Option.some.inj e8).symm))
  · rw [if_neg q9] at e8
    refine mG_iload_n (pc := 10) C dL_items_10 rfl ?_
    refine mG_aload_n (pc := 11) C dL_items_11 rfl ?_
    obtain ⟨r10, e11, e8⟩ := mx_bind e8
    refine mG_getR (pc := 12) C dL_items_12 fl_L_18 e11 ?_
    refine mG_iload_n (pc := 15) C dL_items_15 rfl ?_
    obtain ⟨r12, e13, e8⟩ := mx_bind e8
    refine mG_aaload (pc := 16) C dL_items_16 e13 ?_
    refine mG_iload_n (pc := 17) C dL_items_17 rfl ?_
    obtain ⟨v14, e15, e8⟩ := mx_bind e8
    refine mG_iaload (pc := 18) C dL_items_18 e15 ?_
    obtain ⟨jp18, e19, e8⟩ := mx_bind e8
    have J17 : ∀ jp18' : Int32, jp18' = jp18 → mG l Z X 4 0 0 27 [some (.ref p0), some (.int p1), none, some (.int s1.2)] [.int jp18', .int s1.1] h := by
      intro jp18' q20
      subst q20
      refine mG_iadd (pc := 27) C dL_items_27 ?_
      refine mG_isn (ls' := [some (.ref p0), some (.int p1), some (.int (s1.1 + jp18')), some (.int s1.2)]) (pc := 28) C dL_items_28 rfl rfl rfl ?_
      refine mG_ii (ls' := [some (.ref p0), some (.int p1), some (.int (s1.1 + jp18')), some (.int (s1.2 + 1))]) (pc := 29) C dL_items_29 rfl (kinc1 _) rfl rfl rfl ?_
      refine mG_goto (tgt := 4) (pc := 32) C dL_items_32 (by decide) ?_
      exact mG_sub (mxLe_s (mxLe_s (mxLe_s (mxLe_s mxLe_z)))) (hK5 _ (Option.some.inj e8).symm)
    refine mG_if_lt (pc := 19) (tgt := 26) C dL_items_19 (by decide) (fun q16 => ?_) (fun q16 => ?_)
    · rw [if_pos q16] at e19
      refine mG_ic (pc := 26) C dL_items_26 kI0 ?_
      exact mG_sub (mxLe_s (mxLe_s (mxLe_n (mxLe_s mxLe_z)))) (J17 _ (Option.some.inj e19))
    · rw [if_neg q16] at e19
      refine mG_ic (pc := 22) C dL_items_22 kI1 ?_
      refine mG_goto (tgt := 27) (pc := 23) C dL_items_23 (by decide) ?_
      exact mG_sub (mxLe_s (mxLe_s (mxLe_n (mxLe_s mxLe_z)))) (J17 _ (Option.some.inj e19))
theorem dL_isAhead_0 : decode cL_isAhead 0 = .ok (.aload_n 0, 1) := by decide +kernel
theorem dL_isAhead_1 : decode cL_isAhead 1 = .ok (.getfield 18, 3) := by decide +kernel
theorem dL_isAhead_4 : decode cL_isAhead 4 = .ok (.iload_n 1, 1) := by decide +kernel
theorem dL_isAhead_5 : decode cL_isAhead 5 = .ok (.aaload, 1) := by decide +kernel
theorem dL_isAhead_6 : decode cL_isAhead 6 = .ok (.iload_n 2, 1) := by decide +kernel
theorem dL_isAhead_7 : decode cL_isAhead 7 = .ok (.iaload, 1) := by decide +kernel
theorem dL_isAhead_8 : decode cL_isAhead 8 = .ok (.aload_n 0, 1) := by decide +kernel
theorem dL_isAhead_9 : decode cL_isAhead 9 = .ok (.getfield 18, 3) := by decide +kernel
theorem dL_isAhead_12 : decode cL_isAhead 12 = .ok (.iload_n 1, 1) := by decide +kernel
theorem dL_isAhead_13 : decode cL_isAhead 13 = .ok (.aaload, 1) := by decide +kernel
theorem dL_isAhead_14 : decode cL_isAhead 14 = .ok (.iload_n 3, 1) := by decide +kernel
theorem dL_isAhead_15 : decode cL_isAhead 15 = .ok (.iaload, 1) := by decide +kernel
theorem dL_isAhead_16 : decode cL_isAhead 16 = .ok (.if_icmp .gt 27, 3) := by decide +kernel
theorem dL_isAhead_19 : decode cL_isAhead 19 = .ok (.aload_n 0, 1) := by decide +kernel
theorem dL_isAhead_20 : decode cL_isAhead 20 = .ok (.getfield 18, 3) := by decide +kernel
theorem dL_isAhead_23 : decode cL_isAhead 23 = .ok (.iload_n 1, 1) := by decide +kernel
theorem dL_isAhead_24 : decode cL_isAhead 24 = .ok (.aaload, 1) := by decide +kernel
theorem dL_isAhead_25 : decode cL_isAhead 25 = .ok (.iload_n 2, 1) := by decide +kernel
theorem dL_isAhead_26 : decode cL_isAhead 26 = .ok (.iaload, 1) := by decide +kernel
theorem dL_isAhead_27 : decode cL_isAhead 27 = .ok (.aload_n 0, 1) := by decide +kernel
theorem dL_isAhead_28 : decode cL_isAhead 28 = .ok (.getfield 18, 3) := by decide +kernel
theorem dL_isAhead_31 : decode cL_isAhead 31 = .ok (.iload_n 1, 1) := by decide +kernel
theorem dL_isAhead_32 : decode cL_isAhead 32 = .ok (.aaload, 1) := by decide +kernel
theorem dL_isAhead_33 : decode cL_isAhead 33 = .ok (.iload_n 3, 1) := by decide +kernel
theorem dL_isAhead_34 : decode cL_isAhead 34 = .ok (.iaload, 1) := by decide +kernel
theorem dL_isAhead_35 : decode cL_isAhead 35 = .ok (.if_icmp .ne 12, 3) := by decide +kernel
theorem dL_isAhead_38 : decode cL_isAhead 38 = .ok (.iload_n 2, 1) := by decide +kernel
theorem dL_isAhead_39 : decode cL_isAhead 39 = .ok (.iload_n 3, 1) := by decide +kernel
theorem dL_isAhead_40 : decode cL_isAhead 40 = .ok (.if_icmp .ge 7, 3) := by decide +kernel
theorem dL_isAhead_43 : decode cL_isAhead 43 = .ok (.iconst 1, 1) := by decide +kernel
theorem dL_isAhead_44 : decode cL_isAhead 44 = .ok (.goto 4, 3) := by decide +kernel
theorem dL_isAhead_47 : decode cL_isAhead 47 = .ok (.iconst 0, 1) := by decide +kernel
theorem dL_isAhead_48 : decode cL_isAhead 48 = .ok (.ireturn, 1) := by decide +kernel
def fL_isAhead (p0 : Nat) (p1 : Int32) (p2 : Int32) (p3 : Int32) (h : mxH) : Option Int32 := Option.bind (gR h p0 11 2) (fun r1 => Option.bind (ldR h r1 p1) (fun r3 => Option.bind (ldI h r3 p2) (fun v5 => Option.bind (gR h p0 11 2) (fun r7 => Option.bind (ldR h r7 p1) (fun r9 => Option.bind (ldI h r9 p3) (fun v11 => Option.bind (α := Int32) (if v11 < v5 then some 1 else Option.bind (gR h p0 11 2) (fun r31 => Option.bind (ldR h r31 p1) (fun r33 => Option.bind (ldI h r33 p2) (fun v35 => Option.bind (gR h p0 11 2) (fun r37 => Option.bind (ldR h r37 p1) (fun r39 => Option.bind (ldI h r39 p3) (fun v41 => (if v35 = v41 then (if p3 ≤ p2 then some 0 else some 1) else some 0)))))))) (fun jp15' : Int32 => Option.bind (mxZ1 jp15') (fun v45 => some v45))))))))
abbrev rmL_isAhead : Room := { frames := 0, cells := 0, slots := 0, locals := 0 }
set_option maxRecDepth 20000 in
set_option maxHeartbeats 1000000 in
theorem tL_isAhead {l : Launch} {Z : mxZ} (hl : l.stackTraces = false) {p0 : Nat} {p1 : Int32} {p2 : Int32} {p3 : Int32} {h : mxH} {out : Int32} (hf : fL_isAhead p0 p1 p2 p3 h = some out) : mxMet l Z yL_isAhead cL_isAhead 4 (some .boolean) rmL_isAhead [.ref p0, .int p1, .int p2, .int p3] h (.inl (some (.int out))) h := by
  refine mxMet_of (by decide) hl (by simp [Value.category]) (Nat.le_of_ble_eq_true rfl) ?_
  intro X C E hX hin
  unfold fL_isAhead at hf
  refine mG_aload_n (pc := 0) C dL_isAhead_0 rfl ?_
  obtain ⟨r1, e2, hf⟩ := mx_bind hf
  refine mG_getR (pc := 1) C dL_isAhead_1 fl_L_18 e2 ?_
  refine mG_iload_n (pc := 4) C dL_isAhead_4 rfl ?_
  obtain ⟨r3, e4, hf⟩ := mx_bind hf
  refine mG_aaload (pc := 5) C dL_isAhead_5 e4 ?_
  refine mG_iload_n (pc := 6) C dL_isAhead_6 rfl ?_
  obtain ⟨v5, e6, hf⟩ := mx_bind hf
  refine mG_iaload (pc := 7) C dL_isAhead_7 e6 ?_
  refine mG_aload_n (pc := 8) C dL_isAhead_8 rfl ?_
  obtain ⟨r7, e8, hf⟩ := mx_bind hf
  refine mG_getR (pc := 9) C dL_isAhead_9 fl_L_18 e8 ?_
  refine mG_iload_n (pc := 12) C dL_isAhead_12 rfl ?_
  obtain ⟨r9, e10, hf⟩ := mx_bind hf
  refine mG_aaload (pc := 13) C dL_isAhead_13 e10 ?_
  refine mG_iload_n (pc := 14) C dL_isAhead_14 rfl ?_
  obtain ⟨v11, e12, hf⟩ := mx_bind hf
  refine mG_iaload (pc := 15) C dL_isAhead_15 e12 ?_
  obtain ⟨jp15, e16, hf⟩ := mx_bind hf
  have J14 : ∀ jp15' : Int32, jp15' = jp15 → mG l Z X 4 0 0 48 [none, none, none, none] [.int jp15'] h := by
    intro jp15' q47
    subst q47
    obtain ⟨v45, e46, hf⟩ := mx_bind hf
    cases hf
    exact mG_zr2 (pc := 48) C e46 E hX dL_isAhead_48 ⟨Nat.le_of_ble_eq_true rfl, Nat.le_of_ble_eq_true rfl⟩
  refine mG_icmp_gt (pc := 16) (tgt := 43) C dL_isAhead_16 (by decide) (fun q13 => ?_) (fun q13 => ?_)
  · rw [if_pos q13] at e16
    refine mG_ic (pc := 43) C dL_isAhead_43 kI1 ?_
    refine mG_goto (tgt := 48) (pc := 44) C dL_isAhead_44 (by decide) ?_
    exact mG_sub (mxLe_n (mxLe_n (mxLe_n (mxLe_n mxLe_z)))) (J14 _ (Option.some.inj e16))
  · rw [if_neg q13] at e16
    refine mG_aload_n (pc := 19) C dL_isAhead_19 rfl ?_
    obtain ⟨r31, e32, e16⟩ := mx_bind e16
    refine mG_getR (pc := 20) C dL_isAhead_20 fl_L_18 e32 ?_
    refine mG_iload_n (pc := 23) C dL_isAhead_23 rfl ?_
    obtain ⟨r33, e34, e16⟩ := mx_bind e16
    refine mG_aaload (pc := 24) C dL_isAhead_24 e34 ?_
    refine mG_iload_n (pc := 25) C dL_isAhead_25 rfl ?_
    obtain ⟨v35, e36, e16⟩ := mx_bind e16
    refine mG_iaload (pc := 26) C dL_isAhead_26 e36 ?_
    refine mG_aload_n (pc := 27) C dL_isAhead_27 rfl ?_
    obtain ⟨r37, e38, e16⟩ := mx_bind e16
    refine mG_getR (pc := 28) C dL_isAhead_28 fl_L_18 e38 ?_
    refine mG_iload_n (pc := 31) C dL_isAhead_31 rfl ?_
    obtain ⟨r39, e40, e16⟩ := mx_bind e16
    refine mG_aaload (pc := 32) C dL_isAhead_32 e40 ?_
    refine mG_iload_n (pc := 33) C dL_isAhead_33 rfl ?_
    obtain ⟨v41, e42, e16⟩ := mx_bind e16
    refine mG_iaload (pc := 34) C dL_isAhead_34 e42 ?_
    refine mG_icmp_ne (pc := 35) (tgt := 47) C dL_isAhead_35 (by decide) (fun q43 => ?_) (fun q43 => ?_)
    · rw [if_neg q43] at e16
      refine mG_ic (pc := 47) C dL_isAhead_47 kI0 ?_
      exact mG_sub (mxLe_n (mxLe_n (mxLe_n (mxLe_n mxLe_z)))) (J14 _ (Option.some.inj e16))
    · rw [if_pos q43] at e16
      refine mG_iload_n (pc := 38) C dL_isAhead_38 rfl ?_
      refine mG_iload_n (pc := 39) C dL_isAhead_39 rfl ?_
      refine mG_icmp_ge (pc := 40) (tgt := 47) C dL_isAhead_40 (by decide) (fun q44 => ?_) (fun q44 => ?_)
      · rw [if_pos q44] at e16
        refine mG_ic (pc := 47) C dL_isAhead_47 kI0 ?_
        exact mG_sub (mxLe_n (mxLe_n (mxLe_n (mxLe_n mxLe_z)))) (J14 _ (Option.some.inj e16))
      · rw [if_neg q44] at e16
        refine mG_ic (pc := 43) C dL_isAhead_43 kI1 ?_
        refine mG_goto (tgt := 48) (pc := 44) C dL_isAhead_44 (by decide) ?_
        exact mG_sub (mxLe_n (mxLe_n (mxLe_n (mxLe_n mxLe_z)))) (J14 _ (Option.some.inj e16))
theorem dL_place_0 : decode cL_place 0 = .ok (.iconst 0, 1) := by decide +kernel
theorem dL_place_1 : decode cL_place 1 = .ok (.istore_n 3, 1) := by decide +kernel
theorem dL_place_2 : decode cL_place 2 = .ok (.iconst 0, 1) := by decide +kernel
theorem dL_place_3 : decode cL_place 3 = .ok (.istore 4, 2) := by decide +kernel
theorem dL_place_5 : decode cL_place 5 = .ok (.iload 4, 2) := by decide +kernel
theorem dL_place_7 : decode cL_place 7 = .ok (.bipush 20, 2) := by decide +kernel
theorem dL_place_9 : decode cL_place 9 = .ok (.if_icmp .ge 34, 3) := by decide +kernel
theorem dL_place_12 : decode cL_place 12 = .ok (.iload_n 3, 1) := by decide +kernel
theorem dL_place_13 : decode cL_place 13 = .ok (.iload 4, 2) := by decide +kernel
theorem dL_place_15 : decode cL_place 15 = .ok (.iload_n 2, 1) := by decide +kernel
theorem dL_place_16 : decode cL_place 16 = .ok (.if_icmp .eq 18, 3) := by decide +kernel
theorem dL_place_19 : decode cL_place 19 = .ok (.aload_n 0, 1) := by decide +kernel
theorem dL_place_20 : decode cL_place 20 = .ok (.iload_n 1, 1) := by decide +kernel
theorem dL_place_21 : decode cL_place 21 = .ok (.iload 4, 2) := by decide +kernel
theorem dL_place_23 : decode cL_place 23 = .ok (.iload_n 2, 1) := by decide +kernel
theorem dL_place_24 : decode cL_place 24 = .ok (.invokevirtual 54, 3) := by decide +kernel
theorem dL_place_27 : decode cL_place 27 = .ok (.ifCond .eq 7, 3) := by decide +kernel
theorem dL_place_30 : decode cL_place 30 = .ok (.iconst 1, 1) := by decide +kernel
theorem dL_place_31 : decode cL_place 31 = .ok (.goto 4, 3) := by decide +kernel
theorem dL_place_34 : decode cL_place 34 = .ok (.iconst 0, 1) := by decide +kernel
theorem dL_place_35 : decode cL_place 35 = .ok (.iadd, 1) := by decide +kernel
theorem dL_place_36 : decode cL_place 36 = .ok (.istore_n 3, 1) := by decide +kernel
theorem dL_place_37 : decode cL_place 37 = .ok (.iinc 4 1, 3) := by decide +kernel
theorem dL_place_40 : decode cL_place 40 = .ok (.goto (-35), 3) := by decide +kernel
theorem dL_place_43 : decode cL_place 43 = .ok (.iload_n 3, 1) := by decide +kernel
theorem dL_place_44 : decode cL_place 44 = .ok (.ireturn, 1) := by decide +kernel
def fL_place (p0 : Nat) (p1 : Int32) (p2 : Int32) (h : mxH) : Option Int32 := Option.bind (mxLoop (ρ := Int32) (fun s1 : (Int32 × Int32) => (if 20 ≤ s1.2 then some (Sum.inr s1.1) else Option.bind (α := Int32) (if s1.2 = p2 then some 0 else Option.bind (isO h p0 11) (fun u19 => Option.bind (fL_isAhead p0 p1 s1.2 p2 h) (fun o22 => (if o22 = 0 then some 0 else some 1)))) (fun jp12' : Int32 => some (Sum.inl (s1.1 + jp12', s1.2 + 1))))) mxF (0, 0)) (fun r25 : Int32 => some r25)
abbrev rmL_place : Room := { frames := 1, cells := 0, slots := 0, locals := 23 }
set_option maxRecDepth 20000 in
set_option maxHeartbeats 1000000 in
theorem tL_place {l : Launch} {Z : mxZ} (hl : l.stackTraces = false) {p0 : Nat} {p1 : Int32} {p2 : Int32} {h : mxH} {out : Int32} (hf : fL_place p0 p1 p2 h = some out) : mxMet l Z yL_place cL_place 5 (some .int) rmL_place [.ref p0, .int p1, .int p2] h (.inl (some (.int out))) h := by
  refine mxMet_of (by decide) hl (by simp [Value.category]) (Nat.le_of_ble_eq_true rfl) ?_
  intro X C E hX hin
  unfold fL_place at hf
  refine mG_ic (pc := 0) C dL_place_0 kI0 ?_
  refine mG_isn (ls' := [some (.ref p0), some (.int p1), some (.int p2), some (.int 0), none]) (pc := 1) C dL_place_1 rfl rfl rfl ?_
  refine mG_ic (pc := 2) C dL_place_2 kI0 ?_
  refine mG_is (ls' := [some (.ref p0), some (.int p1), some (.int p2), some (.int 0), some (.int 0)]) (pc := 3) C dL_place_3 rfl rfl rfl ?_
  obtain ⟨r2, e3, hf⟩ := mx_bind hf
  have J4 : ∀ r25 : Int32, r25 = r2 → mG l Z X 5 0 0 43 [none, none, none, some (.int r25), none] [] h := by
    intro r25 q26
    subst q26
    refine mG_iload_n (pc := 43) C dL_place_43 rfl ?_
    cases hf
    exact mG_ir2 (pc := 44) C E hX dL_place_44 ⟨Nat.le_of_ble_eq_true rfl, Nat.le_of_ble_eq_true rfl⟩
  refine mG_sub (ls' := [some (.ref p0), some (.int p1), some (.int p2), some (.int 0), some (.int 0)]) (mxLe_s (mxLe_s (mxLe_s (mxLe_s (mxLe_s mxLe_z))))) (mxLoop_ind (K := fun s1 : (Int32 × Int32) => mG l Z X 5 0 0 5 [some (.ref p0), some (.int p1), some (.int p2), some (.int s1.1), some (.int s1.2)] [] h) ?_ _ _ e3)
  intro s1 o7 e8 hK5 hx6
  refine mG_iload (pc := 5) C dL_place_5 rfl ?_
  refine mG_bp (pc := 7) C dL_place_7 kB20 ?_
  refine mG_icmp_ge (pc := 9) (tgt := 43) C dL_place_9 (by decide) (fun q9 => ?_) (fun q9 => ?_)
  · rw [if_pos q9] at e8
    exact mG_sub (mxLe_n (mxLe_n (mxLe_n (mxLe_s (mxLe_n mxLe_z))))) (J4 _ (hx6 _ (Option.some.inj e8).symm))
  · rw [if_neg q9] at e8
    refine mG_iload_n (pc := 12) C dL_place_12 rfl ?_
    refine mG_iload (pc := 13) C dL_place_13 rfl ?_
    refine mG_iload_n (pc := 15) C dL_place_15 rfl ?_
    obtain ⟨jp12, e13, e8⟩ := mx_bind e8
    have J11 : ∀ jp12' : Int32, jp12' = jp12 → mG l Z X 5 0 0 35 [some (.ref p0), some (.int p1), some (.int p2), none, some (.int s1.2)] [.int jp12', .int s1.1] h := by
      intro jp12' q24
      subst q24
      refine mG_iadd (pc := 35) C dL_place_35 ?_
      refine mG_isn (ls' := [some (.ref p0), some (.int p1), some (.int p2), some (.int (s1.1 + jp12')), some (.int s1.2)]) (pc := 36) C dL_place_36 rfl rfl rfl ?_
      refine mG_ii (ls' := [some (.ref p0), some (.int p1), some (.int p2), some (.int (s1.1 + jp12')), some (.int (s1.2 + 1))]) (pc := 37) C dL_place_37 rfl (kinc1 _) rfl rfl rfl ?_
      refine mG_goto (tgt := 5) (pc := 40) C dL_place_40 (by decide) ?_
      exact mG_sub (mxLe_s (mxLe_s (mxLe_s (mxLe_s (mxLe_s mxLe_z))))) (hK5 _ (Option.some.inj e8).symm)
    refine mG_icmp_eq (pc := 16) (tgt := 34) C dL_place_16 (by decide) (fun q10 => ?_) (fun q10 => ?_)
    · rw [if_pos q10] at e13
      refine mG_ic (pc := 34) C dL_place_34 kI0 ?_
      exact mG_sub (mxLe_s (mxLe_s (mxLe_s (mxLe_n (mxLe_s mxLe_z))))) (J11 _ (Option.some.inj e13))
    · rw [if_neg q10] at e13
      refine mG_aload_n (pc := 19) C dL_place_19 rfl ?_
      refine mG_iload_n (pc := 20) C dL_place_20 rfl ?_
      refine mG_iload (pc := 21) C dL_place_21 rfl ?_
      refine mG_iload_n (pc := 23) C dL_place_23 rfl ?_
      obtain ⟨u19, e20, e13⟩ := mx_bind e13
      obtain ⟨o22, e21, e13⟩ := mx_bind e13
      refine mG_cV2 (pc := 24) (k' := 0) (n' := 0) (h' := h) (v := some (.int o22)) 11 [.int p1, .int s1.2, .int p2] [.int s1.1] C hX dL_place_24 lkV_L_54 rfl rfl e20 (tL_isAhead hl e21) rfl rfl rfl ⟨Nat.le_of_ble_eq_true rfl, Nat.le_of_ble_eq_true rfl⟩ rfl ?_
      refine mG_if_eq (pc := 27) (tgt := 34) C dL_place_27 (by decide) (fun q23 => ?_) (fun q23 => ?_)
      · rw [if_pos q23] at e13
        refine mG_ic (pc := 34) C dL_place_34 kI0 ?_
        exact mG_sub (mxLe_s (mxLe_s (mxLe_s (mxLe_n (mxLe_s mxLe_z))))) (J11 _ (Option.some.inj e13))
      · rw [if_neg q23] at e13
        refine mG_ic (pc := 30) C dL_place_30 kI1 ?_
        refine mG_goto (tgt := 35) (pc := 31) C dL_place_31 (by decide) ?_
        exact mG_sub (mxLe_s (mxLe_s (mxLe_s (mxLe_n (mxLe_s mxLe_z))))) (J11 _ (Option.some.inj e13))
theorem dL_isRead_0 : decode cL_isRead 0 = .ok (.aload_n 0, 1) := by decide +kernel
theorem dL_isRead_1 : decode cL_isRead 1 = .ok (.getfield 18, 3) := by decide +kernel
theorem dL_isRead_4 : decode cL_isRead 4 = .ok (.iload_n 1, 1) := by decide +kernel
theorem dL_isRead_5 : decode cL_isRead 5 = .ok (.aaload, 1) := by decide +kernel
theorem dL_isRead_6 : decode cL_isRead 6 = .ok (.iload_n 2, 1) := by decide +kernel
theorem dL_isRead_7 : decode cL_isRead 7 = .ok (.iaload, 1) := by decide +kernel
theorem dL_isRead_8 : decode cL_isRead 8 = .ok (.ifCond .lt 17, 3) := by decide +kernel
theorem dL_isRead_11 : decode cL_isRead 11 = .ok (.aload_n 0, 1) := by decide +kernel
theorem dL_isRead_12 : decode cL_isRead 12 = .ok (.iload_n 1, 1) := by decide +kernel
theorem dL_isRead_13 : decode cL_isRead 13 = .ok (.iload_n 2, 1) := by decide +kernel
theorem dL_isRead_14 : decode cL_isRead 14 = .ok (.invokevirtual 58, 3) := by decide +kernel
theorem dL_isRead_17 : decode cL_isRead 17 = .ok (.iload_n 3, 1) := by decide +kernel
theorem dL_isRead_18 : decode cL_isRead 18 = .ok (.if_icmp .ge 7, 3) := by decide +kernel
theorem dL_isRead_21 : decode cL_isRead 21 = .ok (.iconst 1, 1) := by decide +kernel
theorem dL_isRead_22 : decode cL_isRead 22 = .ok (.goto 4, 3) := by decide +kernel
theorem dL_isRead_25 : decode cL_isRead 25 = .ok (.iconst 0, 1) := by decide +kernel
theorem dL_isRead_26 : decode cL_isRead 26 = .ok (.ireturn, 1) := by decide +kernel
def fL_isRead (p0 : Nat) (p1 : Int32) (p2 : Int32) (p3 : Int32) (h : mxH) : Option Int32 := Option.bind (gR h p0 11 2) (fun r1 => Option.bind (ldR h r1 p1) (fun r3 => Option.bind (ldI h r3 p2) (fun v5 => Option.bind (α := Int32) (if v5 < 0 then some 0 else Option.bind (isO h p0 11) (fun u16 => Option.bind (fL_place p0 p1 p2 h) (fun o19 => (if p3 ≤ o19 then some 0 else some 1)))) (fun jp9' : Int32 => Option.bind (mxZ1 jp9') (fun v21 => some v21)))))
abbrev rmL_isRead : Room := { frames := 2, cells := 0, slots := 0, locals := 47 }
set_option maxRecDepth 20000 in
set_option maxHeartbeats 1000000 in
theorem tL_isRead {l : Launch} {Z : mxZ} (hl : l.stackTraces = false) {p0 : Nat} {p1 : Int32} {p2 : Int32} {p3 : Int32} {h : mxH} {out : Int32} (hf : fL_isRead p0 p1 p2 p3 h = some out) : mxMet l Z yL_isRead cL_isRead 4 (some .boolean) rmL_isRead [.ref p0, .int p1, .int p2, .int p3] h (.inl (some (.int out))) h := by
  refine mxMet_of (by decide) hl (by simp [Value.category]) (Nat.le_of_ble_eq_true rfl) ?_
  intro X C E hX hin
  unfold fL_isRead at hf
  refine mG_aload_n (pc := 0) C dL_isRead_0 rfl ?_
  obtain ⟨r1, e2, hf⟩ := mx_bind hf
  refine mG_getR (pc := 1) C dL_isRead_1 fl_L_18 e2 ?_
  refine mG_iload_n (pc := 4) C dL_isRead_4 rfl ?_
  obtain ⟨r3, e4, hf⟩ := mx_bind hf
  refine mG_aaload (pc := 5) C dL_isRead_5 e4 ?_
  refine mG_iload_n (pc := 6) C dL_isRead_6 rfl ?_
  obtain ⟨v5, e6, hf⟩ := mx_bind hf
  refine mG_iaload (pc := 7) C dL_isRead_7 e6 ?_
  obtain ⟨jp9, e10, hf⟩ := mx_bind hf
  have J8 : ∀ jp9' : Int32, jp9' = jp9 → mG l Z X 4 0 0 26 [none, none, none, none] [.int jp9'] h := by
    intro jp9' q23
    subst q23
    obtain ⟨v21, e22, hf⟩ := mx_bind hf
    cases hf
    exact mG_zr2 (pc := 26) C e22 E hX dL_isRead_26 ⟨Nat.le_of_ble_eq_true rfl, Nat.le_of_ble_eq_true rfl⟩
  refine mG_if_lt (pc := 8) (tgt := 25) C dL_isRead_8 (by decide) (fun q7 => ?_) (fun q7 => ?_)
  · rw [if_pos q7] at e10
    refine mG_ic (pc := 25) C dL_isRead_25 kI0 ?_
    exact mG_sub (mxLe_n (mxLe_n (mxLe_n (mxLe_n mxLe_z)))) (J8 _ (Option.some.inj e10))
  · rw [if_neg q7] at e10
    refine mG_aload_n (pc := 11) C dL_isRead_11 rfl ?_
    refine mG_iload_n (pc := 12) C dL_isRead_12 rfl ?_
    refine mG_iload_n (pc := 13) C dL_isRead_13 rfl ?_
    obtain ⟨u16, e17, e10⟩ := mx_bind e10
    obtain ⟨o19, e18, e10⟩ := mx_bind e10
    refine mG_cV2 (pc := 14) (k' := 0) (n' := 0) (h' := h) (v := some (.int o19)) 11 [.int p1, .int p2] [] C hX dL_isRead_14 lkV_L_58 rfl rfl e17 (tL_place hl e18) rfl rfl rfl ⟨Nat.le_of_ble_eq_true rfl, Nat.le_of_ble_eq_true rfl⟩ rfl ?_
    refine mG_iload_n (pc := 17) C dL_isRead_17 rfl ?_
    refine mG_icmp_ge (pc := 18) (tgt := 25) C dL_isRead_18 (by decide) (fun q20 => ?_) (fun q20 => ?_)
    · rw [if_pos q20] at e10
      refine mG_ic (pc := 25) C dL_isRead_25 kI0 ?_
      exact mG_sub (mxLe_n (mxLe_n (mxLe_n (mxLe_n mxLe_z)))) (J8 _ (Option.some.inj e10))
    · rw [if_neg q20] at e10
      refine mG_ic (pc := 21) C dL_isRead_21 kI1 ?_
      refine mG_goto (tgt := 26) (pc := 22) C dL_isRead_22 (by decide) ?_
      exact mG_sub (mxLe_n (mxLe_n (mxLe_n (mxLe_n mxLe_z)))) (J8 _ (Option.some.inj e10))
theorem dL_isReadAt_0 : decode cL_isReadAt 0 = .ok (.iconst 0, 1) := by decide +kernel
theorem dL_isReadAt_1 : decode cL_isReadAt 1 = .ok (.istore_n 3, 1) := by decide +kernel
theorem dL_isReadAt_2 : decode cL_isReadAt 2 = .ok (.iconst 0, 1) := by decide +kernel
theorem dL_isReadAt_3 : decode cL_isReadAt 3 = .ok (.istore 4, 2) := by decide +kernel
theorem dL_isReadAt_5 : decode cL_isReadAt 5 = .ok (.iload 4, 2) := by decide +kernel
theorem dL_isReadAt_7 : decode cL_isReadAt 7 = .ok (.iconst 5, 1) := by decide +kernel
theorem dL_isReadAt_8 : decode cL_isReadAt 8 = .ok (.if_icmp .ge 30, 3) := by decide +kernel
theorem dL_isReadAt_11 : decode cL_isReadAt 11 = .ok (.iload_n 3, 1) := by decide +kernel
theorem dL_isReadAt_12 : decode cL_isReadAt 12 = .ok (.ifCond .ne 14, 3) := by decide +kernel
theorem dL_isReadAt_15 : decode cL_isReadAt 15 = .ok (.aload_n 0, 1) := by decide +kernel
theorem dL_isReadAt_16 : decode cL_isReadAt 16 = .ok (.iload 4, 2) := by decide +kernel
theorem dL_isReadAt_18 : decode cL_isReadAt 18 = .ok (.iload_n 1, 1) := by decide +kernel
theorem dL_isReadAt_19 : decode cL_isReadAt 19 = .ok (.iload_n 2, 1) := by decide +kernel
theorem dL_isReadAt_20 : decode cL_isReadAt 20 = .ok (.invokevirtual 61, 3) := by decide +kernel
theorem dL_isReadAt_23 : decode cL_isReadAt 23 = .ok (.ifCond .eq 7, 3) := by decide +kernel
theorem dL_isReadAt_26 : decode cL_isReadAt 26 = .ok (.iconst 1, 1) := by decide +kernel
theorem dL_isReadAt_27 : decode cL_isReadAt 27 = .ok (.goto 4, 3) := by decide +kernel
theorem dL_isReadAt_30 : decode cL_isReadAt 30 = .ok (.iconst 0, 1) := by decide +kernel
theorem dL_isReadAt_31 : decode cL_isReadAt 31 = .ok (.istore_n 3, 1) := by decide +kernel
theorem dL_isReadAt_32 : decode cL_isReadAt 32 = .ok (.iinc 4 1, 3) := by decide +kernel
theorem dL_isReadAt_35 : decode cL_isReadAt 35 = .ok (.goto (-30), 3) := by decide +kernel
theorem dL_isReadAt_38 : decode cL_isReadAt 38 = .ok (.iload_n 3, 1) := by decide +kernel
theorem dL_isReadAt_39 : decode cL_isReadAt 39 = .ok (.ireturn, 1) := by decide +kernel
def fL_isReadAt (p0 : Nat) (p1 : Int32) (p2 : Int32) (h : mxH) : Option Int32 := Option.bind (mxLoop (ρ := Int32) (fun s1 : (Int32 × Int32) => (if 5 ≤ s1.2 then some (Sum.inr s1.1) else Option.bind (α := Int32) (if s1.1 = 0 then Option.bind (isO h p0 11) (fun u19 => Option.bind (fL_isRead p0 s1.2 p1 p2 h) (fun o22 => (if o22 = 0 then some 0 else some 1))) else some 1) (fun jp12' : Int32 => some (Sum.inl (jp12', s1.2 + 1))))) mxF (0, 0)) (fun r25 : Int32 => Option.bind (mxZ1 r25) (fun v26 => some v26))
abbrev rmL_isReadAt : Room := { frames := 3, cells := 0, slots := 0, locals := 70 }
set_option maxRecDepth 20000 in
set_option maxHeartbeats 1000000 in
theorem tL_isReadAt {l : Launch} {Z : mxZ} (hl : l.stackTraces = false) {p0 : Nat} {p1 : Int32} {p2 : Int32} {h : mxH} {out : Int32} (hf : fL_isReadAt p0 p1 p2 h = some out) : mxMet l Z yL_isReadAt cL_isReadAt 5 (some .boolean) rmL_isReadAt [.ref p0, .int p1, .int p2] h (.inl (some (.int out))) h := by
  refine mxMet_of (by decide) hl (by simp [Value.category]) (Nat.le_of_ble_eq_true rfl) ?_
  intro X C E hX hin
  unfold fL_isReadAt at hf
  refine mG_ic (pc := 0) C dL_isReadAt_0 kI0 ?_
  refine mG_isn (ls' := [some (.ref p0), some (.int p1), some (.int p2), some (.int 0), none]) (pc := 1) C dL_isReadAt_1 rfl rfl rfl ?_
  refine mG_ic (pc := 2) C dL_isReadAt_2 kI0 ?_
  refine mG_is (ls' := [some (.ref p0), some (.int p1), some (.int p2), some (.int 0), some (.int 0)]) (pc := 3) C dL_isReadAt_3 rfl rfl rfl ?_
  obtain ⟨r2, e3, hf⟩ := mx_bind hf
  have J4 : ∀ r25 : Int32, r25 = r2 → mG l Z X 5 0 0 38 [none, none, none, some (.int r25), none] [] h := by
    intro r25 q28
    subst q28
    refine mG_iload_n (pc := 38) C dL_isReadAt_38 rfl ?_
    obtain ⟨v26, e27, hf⟩ := mx_bind hf
    cases hf
    exact mG_zr2 (pc := 39) C e27 E hX dL_isReadAt_39 ⟨Nat.le_of_ble_eq_true rfl, Nat.le_of_ble_eq_true rfl⟩
  refine mG_sub (ls' := [some (.ref p0), some (.int p1), some (.int p2), some (.int 0), some (.int 0)]) (mxLe_s (mxLe_s (mxLe_s (mxLe_s (mxLe_s mxLe_z))))) (mxLoop_ind (K := fun s1 : (Int32 × Int32) => mG l Z X 5 0 0 5 [some (.ref p0), some (.int p1), some (.int p2), some (.int s1.1), some (.int s1.2)] [] h) ?_ _ _ e3)
  intro s1 o7 e8 hK5 hx6
  refine mG_iload (pc := 5) C dL_isReadAt_5 rfl ?_
  refine mG_ic (pc := 7) C dL_isReadAt_7 kI5 ?_
  refine mG_icmp_ge (pc := 8) (tgt := 38) C dL_isReadAt_8 (by decide) (fun q9 => ?_) (fun q9 => ?_)
  · rw [if_pos q9] at e8
    exact mG_sub (mxLe_n (mxLe_n (mxLe_n (mxLe_s (mxLe_n mxLe_z))))) (J4 _ (hx6 _ (Option.some.inj e8).symm))
  · rw [if_neg q9] at e8
    refine mG_iload_n (pc := 11) C dL_isReadAt_11 rfl ?_
    obtain ⟨jp12, e13, e8⟩ := mx_bind e8
    have J11 : ∀ jp12' : Int32, jp12' = jp12 → mG l Z X 5 0 0 31 [some (.ref p0), some (.int p1), some (.int p2), none, some (.int s1.2)] [.int jp12'] h := by
      intro jp12' q24
      subst q24
      refine mG_isn (ls' := [some (.ref p0), some (.int p1), some (.int p2), some (.int jp12'), some (.int s1.2)]) (pc := 31) C dL_isReadAt_31 rfl rfl rfl ?_
      refine mG_ii (ls' := [some (.ref p0), some (.int p1), some (.int p2), some (.int jp12'), some (.int (s1.2 + 1))]) (pc := 32) C dL_isReadAt_32 rfl (kinc1 _) rfl rfl rfl ?_
      refine mG_goto (tgt := 5) (pc := 35) C dL_isReadAt_35 (by decide) ?_
      exact mG_sub (mxLe_s (mxLe_s (mxLe_s (mxLe_s (mxLe_s mxLe_z))))) (hK5 _ (Option.some.inj e8).symm)
    refine mG_if_ne (pc := 12) (tgt := 26) C dL_isReadAt_12 (by decide) (fun q10 => ?_) (fun q10 => ?_)
    · rw [if_neg q10] at e13
      refine mG_ic (pc := 26) C dL_isReadAt_26 kI1 ?_
      refine mG_goto (tgt := 31) (pc := 27) C dL_isReadAt_27 (by decide) ?_
      exact mG_sub (mxLe_s (mxLe_s (mxLe_s (mxLe_n (mxLe_s mxLe_z))))) (J11 _ (Option.some.inj e13))
    · rw [if_pos q10] at e13
      refine mG_aload_n (pc := 15) C dL_isReadAt_15 rfl ?_
      refine mG_iload (pc := 16) C dL_isReadAt_16 rfl ?_
      refine mG_iload_n (pc := 18) C dL_isReadAt_18 rfl ?_
      refine mG_iload_n (pc := 19) C dL_isReadAt_19 rfl ?_
      obtain ⟨u19, e20, e13⟩ := mx_bind e13
      obtain ⟨o22, e21, e13⟩ := mx_bind e13
      refine mG_cV2 (pc := 20) (k' := 0) (n' := 0) (h' := h) (v := some (.int o22)) 11 [.int s1.2, .int p1, .int p2] [] C hX dL_isReadAt_20 lkV_L_61 rfl rfl e20 (tL_isRead hl e21) rfl rfl rfl ⟨Nat.le_of_ble_eq_true rfl, Nat.le_of_ble_eq_true rfl⟩ rfl ?_
      refine mG_if_eq (pc := 23) (tgt := 30) C dL_isReadAt_23 (by decide) (fun q23 => ?_) (fun q23 => ?_)
      · rw [if_pos q23] at e13
        refine mG_ic (pc := 30) C dL_isReadAt_30 kI0 ?_
        exact mG_sub (mxLe_s (mxLe_s (mxLe_s (mxLe_n (mxLe_s mxLe_z))))) (J11 _ (Option.some.inj e13))
      · rw [if_neg q23] at e13
        refine mG_ic (pc := 26) C dL_isReadAt_26 kI1 ?_
        refine mG_goto (tgt := 31) (pc := 27) C dL_isReadAt_27 (by decide) ?_
        exact mG_sub (mxLe_s (mxLe_s (mxLe_s (mxLe_n (mxLe_s mxLe_z))))) (J11 _ (Option.some.inj e13))
theorem dL_last_0 : decode cL_last 0 = .ok (.iconst 0, 1) := by decide +kernel
theorem dL_last_1 : decode cL_last 1 = .ok (.istore_n 3, 1) := by decide +kernel
theorem dL_last_2 : decode cL_last 2 = .ok (.iload_n 3, 1) := by decide +kernel
theorem dL_last_3 : decode cL_last 3 = .ok (.bipush 20, 2) := by decide +kernel
theorem dL_last_5 : decode cL_last 5 = .ok (.if_icmp .ge 48, 3) := by decide +kernel
theorem dL_last_8 : decode cL_last 8 = .ok (.aload_n 0, 1) := by decide +kernel
theorem dL_last_9 : decode cL_last 9 = .ok (.getfield 18, 3) := by decide +kernel
theorem dL_last_12 : decode cL_last 12 = .ok (.iload_n 1, 1) := by decide +kernel
theorem dL_last_13 : decode cL_last 13 = .ok (.aaload, 1) := by decide +kernel
theorem dL_last_14 : decode cL_last 14 = .ok (.iload_n 3, 1) := by decide +kernel
theorem dL_last_15 : decode cL_last 15 = .ok (.iaload, 1) := by decide +kernel
theorem dL_last_16 : decode cL_last 16 = .ok (.ifCond .lt 31, 3) := by decide +kernel
theorem dL_last_19 : decode cL_last 19 = .ok (.aload_n 0, 1) := by decide +kernel
theorem dL_last_20 : decode cL_last 20 = .ok (.iload_n 1, 1) := by decide +kernel
theorem dL_last_21 : decode cL_last 21 = .ok (.iload_n 3, 1) := by decide +kernel
theorem dL_last_22 : decode cL_last 22 = .ok (.invokevirtual 58, 3) := by decide +kernel
theorem dL_last_25 : decode cL_last 25 = .ok (.iload_n 2, 1) := by decide +kernel
theorem dL_last_26 : decode cL_last 26 = .ok (.iconst 1, 1) := by decide +kernel
theorem dL_last_27 : decode cL_last 27 = .ok (.isub, 1) := by decide +kernel
theorem dL_last_28 : decode cL_last 28 = .ok (.if_icmp .ne 19, 3) := by decide +kernel
theorem dL_last_31 : decode cL_last 31 = .ok (.aload_n 0, 1) := by decide +kernel
theorem dL_last_32 : decode cL_last 32 = .ok (.getfield 21, 3) := by decide +kernel
theorem dL_last_35 : decode cL_last 35 = .ok (.iload_n 1, 1) := by decide +kernel
theorem dL_last_36 : decode cL_last 36 = .ok (.iaload, 1) := by decide +kernel
theorem dL_last_37 : decode cL_last 37 = .ok (.aload_n 0, 1) := by decide +kernel
theorem dL_last_38 : decode cL_last 38 = .ok (.getfield 18, 3) := by decide +kernel
theorem dL_last_41 : decode cL_last 41 = .ok (.iload_n 1, 1) := by decide +kernel
theorem dL_last_42 : decode cL_last 42 = .ok (.aaload, 1) := by decide +kernel
theorem dL_last_43 : decode cL_last 43 = .ok (.iload_n 3, 1) := by decide +kernel
theorem dL_last_44 : decode cL_last 44 = .ok (.iaload, 1) := by decide +kernel
theorem dL_last_45 : decode cL_last 45 = .ok (.imul, 1) := by decide +kernel
theorem dL_last_46 : decode cL_last 46 = .ok (.ireturn, 1) := by decide +kernel
theorem dL_last_47 : decode cL_last 47 = .ok (.iinc 3 1, 3) := by decide +kernel
theorem dL_last_50 : decode cL_last 50 = .ok (.goto (-48), 3) := by decide +kernel
theorem dL_last_53 : decode cL_last 53 = .ok (.iconst 0, 1) := by decide +kernel
theorem dL_last_54 : decode cL_last 54 = .ok (.ireturn, 1) := by decide +kernel
def fL_last (p0 : Nat) (p1 : Int32) (p2 : Int32) (h : mxH) : Option Int32 := Option.bind (mxLoop (ρ := (Int32 ⊕ Unit)) (fun s1 : Int32 => (if 20 ≤ s1 then some (Sum.inr (Sum.inr ())) else Option.bind (gR h p0 11 2) (fun r11 => Option.bind (ldR h r11 p1) (fun r13 => Option.bind (ldI h r13 s1) (fun v15 => (if v15 < 0 then some (Sum.inl (s1 + 1)) else Option.bind (isO h p0 11) (fun u18 => Option.bind (fL_place p0 p1 s1 h) (fun o21 => (if o21 = (p2 - 1) then some (Sum.inr (Sum.inl s1)) else some (Sum.inl (s1 + 1))))))))))) mxF 0) (Sum.elim (fun r23 : Int32 => Option.bind (gR h p0 11 3) (fun r24 => Option.bind (ldI h r24 p1) (fun v26 => Option.bind (gR h p0 11 2) (fun r28 => Option.bind (ldR h r28 p1) (fun r30 => Option.bind (ldI h r30 r23) (fun v32 => some (v26 * v32))))))) (fun r35 : Unit => some 0))
abbrev rmL_last : Room := { frames := 2, cells := 0, slots := 0, locals := 47 }
set_option maxRecDepth 20000 in
set_option maxHeartbeats 1000000 in
theorem tL_last {l : Launch} {Z : mxZ} (hl : l.stackTraces = false) {p0 : Nat} {p1 : Int32} {p2 : Int32} {h : mxH} {out : Int32} (hf : fL_last p0 p1 p2 h = some out) : mxMet l Z yL_last cL_last 4 (some .int) rmL_last [.ref p0, .int p1, .int p2] h (.inl (some (.int out))) h := by
  refine mxMet_of (by decide) hl (by simp [Value.category]) (Nat.le_of_ble_eq_true rfl) ?_
  intro X C E hX hin
  unfold fL_last at hf
  refine mG_ic (pc := 0) C dL_last_0 kI0 ?_
  refine mG_isn (ls' := [some (.ref p0), some (.int p1), some (.int p2), some (.int 0)]) (pc := 1) C dL_last_1 rfl rfl rfl ?_
  obtain ⟨r2, e3, hf⟩ := mx_bind hf
  have J4 : ∀ r23 : Int32, Sum.inl r23 = r2 → mG l Z X 4 0 0 31 [some (.ref p0), some (.int p1), none, some (.int r23)] [] h := by
    intro r23 q34
    subst q34
    rw [Sum.elim_inl] at hf
    refine mG_aload_n (pc := 31) C dL_last_31 rfl ?_
    obtain ⟨r24, e25, hf⟩ := mx_bind hf
    refine mG_getR (pc := 32) C dL_last_32 fl_L_21 e25 ?_
    refine mG_iload_n (pc := 35) C dL_last_35 rfl ?_
    obtain ⟨v26, e27, hf⟩ := mx_bind hf
    refine mG_iaload (pc := 36) C dL_last_36 e27 ?_
    refine mG_aload_n (pc := 37) C dL_last_37 rfl ?_
    obtain ⟨r28, e29, hf⟩ := mx_bind hf
    refine mG_getR (pc := 38) C dL_last_38 fl_L_18 e29 ?_
    refine mG_iload_n (pc := 41) C dL_last_41 rfl ?_
    obtain ⟨r30, e31, hf⟩ := mx_bind hf
    refine mG_aaload (pc := 42) C dL_last_42 e31 ?_
    refine mG_iload_n (pc := 43) C dL_last_43 rfl ?_
    obtain ⟨v32, e33, hf⟩ := mx_bind hf
    refine mG_iaload (pc := 44) C dL_last_44 e33 ?_
    refine mG_imul (pc := 45) C dL_last_45 ?_
    cases hf
    exact mG_ir2 (pc := 46) C E hX dL_last_46 ⟨Nat.le_of_ble_eq_true rfl, Nat.le_of_ble_eq_true rfl⟩
  have J5 : ∀ r35 : Unit, Sum.inr r35 = r2 → mG l Z X 4 0 0 53 [none, none, none, none] [] h := by
    intro r35 q36
    subst q36
    rw [Sum.elim_inr] at hf
    refine mG_ic (pc := 53) C dL_last_53 kI0 ?_
    cases hf
    exact mG_ir2 (pc := 54) C E hX dL_last_54 ⟨Nat.le_of_ble_eq_true rfl, Nat.le_of_ble_eq_true rfl⟩
  refine mG_sub (ls' := [some (.ref p0), some (.int p1), some (.int p2), some (.int 0)]) (mxLe_s (mxLe_s (mxLe_s (mxLe_s mxLe_z)))) (mxLoop_ind (K := fun s1 : Int32 => mG l Z X 4 0 0 2 [some (.ref p0), some (.int p1), some (.int p2), some (.int s1)] [] h) ?_ _ _ e3)
  intro s1 o8 e9 hK6 hx7
  refine mG_iload_n (pc := 2) C dL_last_2 rfl ?_
  refine mG_bp (pc := 3) C dL_last_3 kB20 ?_
  refine mG_icmp_ge (pc := 5) (tgt := 53) C dL_last_5 (by decide) (fun q10 => ?_) (fun q10 => ?_)
  · rw [if_pos q10] at e9
    exact mG_sub (mxLe_n (mxLe_n (mxLe_n (mxLe_n mxLe_z)))) (J5 _ (hx7 _ (Option.some.inj e9).symm))
  · rw [if_neg q10] at e9
    refine mG_aload_n (pc := 8) C dL_last_8 rfl ?_
    obtain ⟨r11, e12, e9⟩ := mx_bind e9
    refine mG_getR (pc := 9) C dL_last_9 fl_L_18 e12 ?_
    refine mG_iload_n (pc := 12) C dL_last_12 rfl ?_
    obtain ⟨r13, e14, e9⟩ := mx_bind e9
    refine mG_aaload (pc := 13) C dL_last_13 e14 ?_
    refine mG_iload_n (pc := 14) C dL_last_14 rfl ?_
    obtain ⟨v15, e16, e9⟩ := mx_bind e9
    refine mG_iaload (pc := 15) C dL_last_15 e16 ?_
    refine mG_if_lt (pc := 16) (tgt := 47) C dL_last_16 (by decide) (fun q17 => ?_) (fun q17 => ?_)
    · rw [if_pos q17] at e9
      refine mG_ii (ls' := [some (.ref p0), some (.int p1), some (.int p2), some (.int (s1 + 1))]) (pc := 47) C dL_last_47 rfl (kinc1 _) rfl rfl rfl ?_
      refine mG_goto (tgt := 2) (pc := 50) C dL_last_50 (by decide) ?_
      exact mG_sub (mxLe_s (mxLe_s (mxLe_s (mxLe_s mxLe_z)))) (hK6 _ (Option.some.inj e9).symm)
    · rw [if_neg q17] at e9
      refine mG_aload_n (pc := 19) C dL_last_19 rfl ?_
      refine mG_iload_n (pc := 20) C dL_last_20 rfl ?_
      refine mG_iload_n (pc := 21) C dL_last_21 rfl ?_
      obtain ⟨u18, e19, e9⟩ := mx_bind e9
      obtain ⟨o21, e20, e9⟩ := mx_bind e9
      refine mG_cV2 (pc := 22) (k' := 0) (n' := 0) (h' := h) (v := some (.int o21)) 11 [.int p1, .int s1] [] C hX dL_last_22 lkV_L_58 rfl rfl e19 (tL_place hl e20) rfl rfl rfl ⟨Nat.le_of_ble_eq_true rfl, Nat.le_of_ble_eq_true rfl⟩ rfl ?_
      refine mG_iload_n (pc := 25) C dL_last_25 rfl ?_
      refine mG_ic (pc := 26) C dL_last_26 kI1 ?_
      refine mG_isub (pc := 27) C dL_last_27 ?_
      refine mG_icmp_ne (pc := 28) (tgt := 47) C dL_last_28 (by decide) (fun q22 => ?_) (fun q22 => ?_)
      · rw [if_neg q22] at e9
        refine mG_ii (ls' := [some (.ref p0), some (.int p1), some (.int p2), some (.int (s1 + 1))]) (pc := 47) C dL_last_47 rfl (kinc1 _) rfl rfl rfl ?_
        refine mG_goto (tgt := 2) (pc := 50) C dL_last_50 (by decide) ?_
        exact mG_sub (mxLe_s (mxLe_s (mxLe_s (mxLe_s mxLe_z)))) (hK6 _ (Option.some.inj e9).symm)
      · rw [if_pos q22] at e9
        exact mG_sub (mxLe_s (mxLe_s (mxLe_n (mxLe_s mxLe_z)))) (J4 _ (hx7 _ (Option.some.inj e9).symm))
