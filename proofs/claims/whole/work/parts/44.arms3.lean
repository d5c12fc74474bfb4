/-! printed by wip/gen/emit_law.py: the arms of the law's switch -/
theorem dL_law_2168 : decode cL_law 2168 = .ok (.aload_n 1, 1) := by decide +kernel
theorem dL_law_2169 : decode cL_law 2169 = .ok (.aload_n 3, 1) := by decide +kernel
theorem dL_law_2170 : decode cL_law 2170 = .ok (.invokestatic 255, 3) := by decide +kernel
theorem dL_law_2173 : decode cL_law 2173 = .ok (.istore 5, 2) := by decide +kernel
theorem dL_law_2175 : decode cL_law 2175 = .ok (.aload_n 2, 1) := by decide +kernel
theorem dL_law_2176 : decode cL_law 2176 = .ok (.invokevirtual 258, 3) := by decide +kernel
theorem dL_law_2179 : decode cL_law 2179 = .ok (.istore 6, 2) := by decide +kernel
theorem dL_law_2181 : decode cL_law 2181 = .ok (.aload_n 2, 1) := by decide +kernel
theorem dL_law_2182 : decode cL_law 2182 = .ok (.invokevirtual 145, 3) := by decide +kernel
theorem dL_law_2185 : decode cL_law 2185 = .ok (.iload 5, 2) := by decide +kernel
theorem dL_law_2187 : decode cL_law 2187 = .ok (.if_icmp .eq 5, 3) := by decide +kernel
theorem dL_law_2190 : decode cL_law 2190 = .ok (.iconst 0, 1) := by decide +kernel
theorem dL_law_2191 : decode cL_law 2191 = .ok (.ireturn, 1) := by decide +kernel
theorem dL_law_2192 : decode cL_law 2192 = .ok (.iload 5, 2) := by decide +kernel
theorem dL_law_2194 : decode cL_law 2194 = .ok (.ifCond .ne 15, 3) := by decide +kernel
theorem dL_law_2197 : decode cL_law 2197 = .ok (.aload_n 3, 1) := by decide +kernel
theorem dL_law_2198 : decode cL_law 2198 = .ok (.iconst 0, 1) := by decide +kernel
theorem dL_law_2199 : decode cL_law 2199 = .ok (.laload, 1) := by decide +kernel
theorem dL_law_2200 : decode cL_law 2200 = .ok (.iload 6, 2) := by decide +kernel
theorem dL_law_2202 : decode cL_law 2202 = .ok (.i2l, 1) := by decide +kernel
theorem dL_law_2203 : decode cL_law 2203 = .ok (.lcmp, 1) := by decide +kernel
theorem dL_law_2204 : decode cL_law 2204 = .ok (.ifCond .eq 5, 3) := by decide +kernel
theorem dL_law_2207 : decode cL_law 2207 = .ok (.iconst 0, 1) := by decide +kernel
theorem dL_law_2208 : decode cL_law 2208 = .ok (.ireturn, 1) := by decide +kernel
theorem dL_law_2209 : decode cL_law 2209 = .ok (.goto 725, 3) := by decide +kernel
def fLa_34 (p0 p1 p2 p3 : Nat) (i : Int32) (h : mxH) : Option (Int32 × mxH) := Option.bind (fL_winner p1 p3 h) (fun o2 => Option.bind (isO o2.2 p2 10) (fun u4 => Option.bind (fX10_winner p2 o2.2) (fun o6 => Option.bind (isO o6.2 p2 10) (fun u8 => Option.bind (fX10_thrown p2 o6.2) (fun v10 => (if v10 = o2.1 then (if o2.1 = 0 then Option.bind (ldJ o6.2 p3 0) (fun r13 => (if (lg_cmp r13 o6.1.toInt64) = 0 then some (i + 5, o6.2) else none)) else some (i + 5, o6.2)) else none))))))
set_option maxRecDepth 20000 in
theorem tLa_34 {l : Launch} {Z : mxZ} {X : mxX} (hl : l.stackTraces = false) (C : mxC l Z X RL cL_law 9) (hX : mxRm X = room_1) {p0 p1 p2 p3 : Nat} {i : Int32} {h : mxH} {o : Int32 × mxH} (hf : fLa_34 p0 p1 p2 p3 i h = some o) {k n : Nat} (hk : k + 8 ≤ 601024) (hn : n + 40 ≤ 7293034) (K : ∀ k2 n2, k2 ≤ k + 8 → n2 ≤ n + 40 → mG l Z X 9 k2 n2 23 [some (.ref p0), some (.ref p1), some (.ref p2), some (.ref p3), some (.int o.1), none, none, none, none] [] o.2) : mG l Z X 9 k n 2168 [some (.ref p0), some (.ref p1), some (.ref p2), some (.ref p3), some (.int i), none, none, none, none] [] h := by
  unfold fLa_34 at hf
  refine mG_aload_n (pc := 2168) C dL_law_2168 rfl ?_
  refine mG_aload_n (pc := 2169) C dL_law_2169 rfl ?_
  obtain ⟨o2, e1, hf⟩ := mx_bind hf
  refine mG_cSH (pc := 2170) (k' := (k + 1)) (n' := (n + 6)) [.ref p1, .ref p3] [] C hX dL_law_2170 lkH_L_255 rfl (tL_winner hl e1) rfl ⟨by show k + 1 ≤ 601024; omega, by show n + 6 ≤ 7293034; omega⟩ rfl rfl rfl ?_
  refine mG_is (ls' := [some (.ref p0), some (.ref p1), some (.ref p2), some (.ref p3), some (.int i), some (.int o2.1), none, none, none]) (pc := 2173) C dL_law_2173 rfl rfl rfl ?_
  refine mG_aload_n (pc := 2175) C dL_law_2175 rfl ?_
  obtain ⟨u4, e5, hf⟩ := mx_bind hf
  obtain ⟨o6, e3, hf⟩ := mx_bind hf
  refine mG_cV2 (pc := 2176) (k' := (k + 1)) (n' := (n + 6)) 10 [] [] C hX dL_law_2176 lkV_L_258 rfl rfl e5 (tX10_winner hl e3) rfl ⟨by show (k + 1) + 0 ≤ 601024; omega, by show (n + 6) + 0 ≤ 7293034; omega⟩ rfl rfl rfl ?_
  refine mG_is (ls' := [some (.ref p0), some (.ref p1), some (.ref p2), some (.ref p3), some (.int i), some (.int o2.1), some (.int o6.1), none, none]) (pc := 2179) C dL_law_2179 rfl rfl rfl ?_
  refine mG_aload_n (pc := 2181) C dL_law_2181 rfl ?_
  obtain ⟨u8, e9, hf⟩ := mx_bind hf
  obtain ⟨v10, e7, hf⟩ := mx_bind hf
  refine mG_cV2 (pc := 2182) (k' := (k + 1)) (n' := (n + 6)) 10 [] [] C hX dL_law_2182 lkV_L_145 rfl rfl e9 (tX10_thrown hl e7) rfl ⟨by show (k + 1) + 0 ≤ 601024; omega, by show (n + 6) + 0 ≤ 7293034; omega⟩ rfl rfl rfl ?_
  refine mG_iload (pc := 2185) C dL_law_2185 rfl ?_
  refine mG_icmp_eq (pc := 2187) (tgt := 2192) C dL_law_2187 (by decide) (fun q11 => ?_) (fun q11 => ?_)
  · rw [if_pos q11] at hf
    refine mG_iload (pc := 2192) C dL_law_2192 rfl ?_
    refine mG_if_ne (pc := 2194) (tgt := 2209) C dL_law_2194 (by decide) (fun q12 => ?_) (fun q12 => ?_)
    · rw [if_neg q12] at hf
      refine mG_goto (tgt := 2934) (pc := 2209) C dL_law_2209 (by decide) ?_
      refine mG_ii (ls' := [some (.ref p0), some (.ref p1), some (.ref p2), some (.ref p3), some (.int (i + 5)), some (.int o2.1), some (.int o6.1), none, none]) (pc := 2934) C dL_law_2934 rfl (kinc5 _) rfl rfl rfl ?_
      refine mG_goto (tgt := 23) (pc := 2937) C dL_law_2937 (by decide) ?_
      cases hf
      exact mG_sub (mxLe_s (mxLe_s (mxLe_s (mxLe_s (mxLe_s (mxLe_n (mxLe_n (mxLe_n (mxLe_n mxLe_z))))))))) (K _ _ (by omega) (by omega))
    · rw [if_pos q12] at hf
      refine mG_aload_n (pc := 2197) C dL_law_2197 rfl ?_
      refine mG_ic (pc := 2198) C dL_law_2198 kI0 ?_
      obtain ⟨r13, e14, hf⟩ := mx_bind hf
      refine mG_laload (pc := 2199) C dL_law_2199 e14 ?_
      refine mG_iload (pc := 2200) C dL_law_2200 rfl ?_
      refine mG_i2l (pc := 2202) C dL_law_2202 ?_
      refine mG_lcmp (pc := 2203) C dL_law_2203 ?_
      refine mG_if_eq (pc := 2204) (tgt := 2209) C dL_law_2204 (by decide) (fun q15 => ?_) (fun q15 => ?_)
      · rw [if_pos q15] at hf
        refine mG_goto (tgt := 2934) (pc := 2209) C dL_law_2209 (by decide) ?_
        refine mG_ii (ls' := [some (.ref p0), some (.ref p1), some (.ref p2), some (.ref p3), some (.int (i + 5)), some (.int o2.1), some (.int o6.1), none, none]) (pc := 2934) C dL_law_2934 rfl (kinc5 _) rfl rfl rfl ?_
        refine mG_goto (tgt := 23) (pc := 2937) C dL_law_2937 (by decide) ?_
        cases hf
        exact mG_sub (mxLe_s (mxLe_s (mxLe_s (mxLe_s (mxLe_s (mxLe_n (mxLe_n (mxLe_n (mxLe_n mxLe_z))))))))) (K _ _ (by omega) (by omega))
      · rw [if_neg q15] at hf
        cases hf
  · rw [if_neg q11] at hf
    cases hf
theorem dL_law_2212 : decode cL_law 2212 = .ok (.aload_n 1, 1) := by decide +kernel
theorem dL_law_2213 : decode cL_law 2213 = .ok (.invokevirtual 259, 3) := by decide +kernel
theorem dL_law_2216 : decode cL_law 2216 = .ok (.aload_n 2, 1) := by decide +kernel
theorem dL_law_2217 : decode cL_law 2217 = .ok (.invokevirtual 262, 3) := by decide +kernel
theorem dL_law_2220 : decode cL_law 2220 = .ok (.if_icmp .eq 714, 3) := by decide +kernel
theorem dL_law_2223 : decode cL_law 2223 = .ok (.iconst 0, 1) := by decide +kernel
theorem dL_law_2224 : decode cL_law 2224 = .ok (.ireturn, 1) := by decide +kernel
def fLa_35 (p0 p1 p2 p3 : Nat) (i : Int32) (h : mxH) : Option (Int32 × mxH) := Option.bind (isO h p1 9) (fun u2 => Option.bind (fX9_ring p1 h) (fun o4 => Option.bind (isO o4.2 p2 10) (fun u6 => Option.bind (fX10_ring p2 o4.2) (fun o8 => (if o4.1 = o8.1 then some (i + 5, o8.2) else none)))))
set_option maxRecDepth 20000 in
theorem tLa_35 {l : Launch} {Z : mxZ} {X : mxX} (hl : l.stackTraces = false) (C : mxC l Z X RL cL_law 9) (hX : mxRm X = room_1) {p0 p1 p2 p3 : Nat} {i : Int32} {h : mxH} {o : Int32 × mxH} (hf : fLa_35 p0 p1 p2 p3 i h = some o) {k n : Nat} (hk : k + 8 ≤ 601024) (hn : n + 40 ≤ 7293034) (K : ∀ k2 n2, k2 ≤ k + 8 → n2 ≤ n + 40 → mG l Z X 9 k2 n2 23 [some (.ref p0), some (.ref p1), some (.ref p2), some (.ref p3), some (.int o.1), none, none, none, none] [] o.2) : mG l Z X 9 k n 2212 [some (.ref p0), some (.ref p1), some (.ref p2), some (.ref p3), some (.int i), none, none, none, none] [] h := by
  unfold fLa_35 at hf
  refine mG_aload_n (pc := 2212) C dL_law_2212 rfl ?_
  obtain ⟨u2, e3, hf⟩ := mx_bind hf
  obtain ⟨o4, e1, hf⟩ := mx_bind hf
  refine mG_cV2 (pc := 2213) (k' := k) (n' := n) 9 [] [] C hX dL_law_2213 lkV_L_259 rfl rfl e3 (tX9_ring hl e1) rfl ⟨by show k + 0 ≤ 601024; omega, by show n + 0 ≤ 7293034; omega⟩ rfl rfl rfl ?_
  refine mG_aload_n (pc := 2216) C dL_law_2216 rfl ?_
  obtain ⟨u6, e7, hf⟩ := mx_bind hf
  obtain ⟨o8, e5, hf⟩ := mx_bind hf
  refine mG_cV2 (pc := 2217) (k' := k) (n' := n) 10 [] [.int o4.1] C hX dL_law_2217 lkV_L_262 rfl rfl e7 (tX10_ring hl e5) rfl ⟨by show k + 0 ≤ 601024; omega, by show n + 0 ≤ 7293034; omega⟩ rfl rfl rfl ?_
  refine mG_icmp_eq (pc := 2220) (tgt := 2934) C dL_law_2220 (by decide) (fun q9 => ?_) (fun q9 => ?_)
  · rw [if_pos q9] at hf
    refine mG_ii (ls' := [some (.ref p0), some (.ref p1), some (.ref p2), some (.ref p3), some (.int (i + 5)), none, none, none, none]) (pc := 2934) C dL_law_2934 rfl (kinc5 _) rfl rfl rfl ?_
    refine mG_goto (tgt := 23) (pc := 2937) C dL_law_2937 (by decide) ?_
    cases hf
    exact mG_sub (mxLe_s (mxLe_s (mxLe_s (mxLe_s (mxLe_s (mxLe_n (mxLe_n (mxLe_n (mxLe_n mxLe_z))))))))) (K _ _ (by omega) (by omega))
  · rw [if_neg q9] at hf
    cases hf
theorem dL_law_2225 : decode cL_law 2225 = .ok (.aload_n 1, 1) := by decide +kernel
theorem dL_law_2226 : decode cL_law 2226 = .ok (.invokevirtual 263, 3) := by decide +kernel
theorem dL_law_2229 : decode cL_law 2229 = .ok (.aload_n 2, 1) := by decide +kernel
theorem dL_law_2230 : decode cL_law 2230 = .ok (.invokevirtual 266, 3) := by decide +kernel
theorem dL_law_2233 : decode cL_law 2233 = .ok (.if_icmp .eq 701, 3) := by decide +kernel
theorem dL_law_2236 : decode cL_law 2236 = .ok (.iconst 0, 1) := by decide +kernel
theorem dL_law_2237 : decode cL_law 2237 = .ok (.ireturn, 1) := by decide +kernel
def fLa_36 (p0 p1 p2 p3 : Nat) (i : Int32) (h : mxH) : Option (Int32 × mxH) := Option.bind (isO h p1 9) (fun u2 => Option.bind (fX9_swaps p1 h) (fun o4 => Option.bind (isO o4.2 p2 10) (fun u6 => Option.bind (fX10_swaps p2 o4.2) (fun o8 => (if o4.1 = o8.1 then some (i + 5, o8.2) else none)))))
set_option maxRecDepth 20000 in
theorem tLa_36 {l : Launch} {Z : mxZ} {X : mxX} (hl : l.stackTraces = false) (C : mxC l Z X RL cL_law 9) (hX : mxRm X = room_1) {p0 p1 p2 p3 : Nat} {i : Int32} {h : mxH} {o : Int32 × mxH} (hf : fLa_36 p0 p1 p2 p3 i h = some o) {k n : Nat} (hk : k + 8 ≤ 601024) (hn : n + 40 ≤ 7293034) (K : ∀ k2 n2, k2 ≤ k + 8 → n2 ≤ n + 40 → mG l Z X 9 k2 n2 23 [some (.ref p0), some (.ref p1), some (.ref p2), some (.ref p3), some (.int o.1), none, none, none, none] [] o.2) : mG l Z X 9 k n 2225 [some (.ref p0), some (.ref p1), some (.ref p2), some (.ref p3), some (.int i), none, none, none, none] [] h := by
  unfold fLa_36 at hf
  refine mG_aload_n (pc := 2225) C dL_law_2225 rfl ?_
  obtain ⟨u2, e3, hf⟩ := mx_bind hf
  obtain ⟨o4, e1, hf⟩ := mx_bind hf
  refine mG_cV2 (pc := 2226) (k' := k) (n' := n) 9 [] [] C hX dL_law_2226 lkV_L_263 rfl rfl e3 (tX9_swaps hl e1) rfl ⟨by show k + 0 ≤ 601024; omega, by show n + 0 ≤ 7293034; omega⟩ rfl rfl rfl ?_
  refine mG_aload_n (pc := 2229) C dL_law_2229 rfl ?_
  obtain ⟨u6, e7, hf⟩ := mx_bind hf
  obtain ⟨o8, e5, hf⟩ := mx_bind hf
  refine mG_cV2 (pc := 2230) (k' := k) (n' := n) 10 [] [.int o4.1] C hX dL_law_2230 lkV_L_266 rfl rfl e7 (tX10_swaps hl e5) rfl ⟨by show k + 0 ≤ 601024; omega, by show n + 0 ≤ 7293034; omega⟩ rfl rfl rfl ?_
  refine mG_icmp_eq (pc := 2233) (tgt := 2934) C dL_law_2233 (by decide) (fun q9 => ?_) (fun q9 => ?_)
  · rw [if_pos q9] at hf
    refine mG_ii (ls' := [some (.ref p0), some (.ref p1), some (.ref p2), some (.ref p3), some (.int (i + 5)), none, none, none, none]) (pc := 2934) C dL_law_2934 rfl (kinc5 _) rfl rfl rfl ?_
    refine mG_goto (tgt := 23) (pc := 2937) C dL_law_2937 (by decide) ?_
    cases hf
    exact mG_sub (mxLe_s (mxLe_s (mxLe_s (mxLe_s (mxLe_s (mxLe_n (mxLe_n (mxLe_n (mxLe_n mxLe_z))))))))) (K _ _ (by omega) (by omega))
  · rw [if_neg q9] at hf
    cases hf
theorem dL_law_2238 : decode cL_law 2238 = .ok (.aload_n 1, 1) := by decide +kernel
theorem dL_law_2239 : decode cL_law 2239 = .ok (.aload_n 0, 1) := by decide +kernel
theorem dL_law_2240 : decode cL_law 2240 = .ok (.iload 4, 2) := by decide +kernel
theorem dL_law_2242 : decode cL_law 2242 = .ok (.iconst 1, 1) := by decide +kernel
theorem dL_law_2243 : decode cL_law 2243 = .ok (.iadd, 1) := by decide +kernel
theorem dL_law_2244 : decode cL_law 2244 = .ok (.iaload, 1) := by decide +kernel
theorem dL_law_2245 : decode cL_law 2245 = .ok (.aload_n 3, 1) := by decide +kernel
theorem dL_law_2246 : decode cL_law 2246 = .ok (.invokestatic 267, 3) := by decide +kernel
theorem dL_law_2249 : decode cL_law 2249 = .ok (.istore 5, 2) := by decide +kernel
theorem dL_law_2251 : decode cL_law 2251 = .ok (.aload_n 2, 1) := by decide +kernel
theorem dL_law_2252 : decode cL_law 2252 = .ok (.aload_n 0, 1) := by decide +kernel
theorem dL_law_2253 : decode cL_law 2253 = .ok (.iload 4, 2) := by decide +kernel
theorem dL_law_2255 : decode cL_law 2255 = .ok (.iconst 1, 1) := by decide +kernel
theorem dL_law_2256 : decode cL_law 2256 = .ok (.iadd, 1) := by decide +kernel
theorem dL_law_2257 : decode cL_law 2257 = .ok (.iaload, 1) := by decide +kernel
theorem dL_law_2258 : decode cL_law 2258 = .ok (.invokevirtual 269, 3) := by decide +kernel
theorem dL_law_2261 : decode cL_law 2261 = .ok (.istore 6, 2) := by decide +kernel
theorem dL_law_2263 : decode cL_law 2263 = .ok (.aload_n 2, 1) := by decide +kernel
theorem dL_law_2264 : decode cL_law 2264 = .ok (.invokevirtual 145, 3) := by decide +kernel
theorem dL_law_2267 : decode cL_law 2267 = .ok (.iload 5, 2) := by decide +kernel
theorem dL_law_2269 : decode cL_law 2269 = .ok (.if_icmp .eq 5, 3) := by decide +kernel
theorem dL_law_2272 : decode cL_law 2272 = .ok (.iconst 0, 1) := by decide +kernel
theorem dL_law_2273 : decode cL_law 2273 = .ok (.ireturn, 1) := by decide +kernel
theorem dL_law_2274 : decode cL_law 2274 = .ok (.iload 5, 2) := by decide +kernel
theorem dL_law_2276 : decode cL_law 2276 = .ok (.ifCond .ne 15, 3) := by decide +kernel
theorem dL_law_2279 : decode cL_law 2279 = .ok (.aload_n 3, 1) := by decide +kernel
theorem dL_law_2280 : decode cL_law 2280 = .ok (.iconst 0, 1) := by decide +kernel
theorem dL_law_2281 : decode cL_law 2281 = .ok (.laload, 1) := by decide +kernel
theorem dL_law_2282 : decode cL_law 2282 = .ok (.iload 6, 2) := by decide +kernel
theorem dL_law_2284 : decode cL_law 2284 = .ok (.i2l, 1) := by decide +kernel
theorem dL_law_2285 : decode cL_law 2285 = .ok (.lcmp, 1) := by decide +kernel
theorem dL_law_2286 : decode cL_law 2286 = .ok (.ifCond .eq 5, 3) := by decide +kernel
theorem dL_law_2289 : decode cL_law 2289 = .ok (.iconst 0, 1) := by decide +kernel
theorem dL_law_2290 : decode cL_law 2290 = .ok (.ireturn, 1) := by decide +kernel
theorem dL_law_2291 : decode cL_law 2291 = .ok (.goto 643, 3) := by decide +kernel
def fLa_37 (p0 p1 p2 p3 : Nat) (i : Int32) (h : mxH) : Option (Int32 × mxH) := Option.bind (ldI h p0 (i + 1)) (fun v1 => Option.bind (fL_orderAt p1 v1 p3 h) (fun o4 => Option.bind (ldI o4.2 p0 (i + 1)) (fun v5 => Option.bind (isO o4.2 p2 10) (fun u8 => Option.bind (fX10_orderAt p2 v5 o4.2) (fun o10 => Option.bind (isO o10.2 p2 10) (fun u12 => Option.bind (fX10_thrown p2 o10.2) (fun v14 => (if v14 = o4.1 then (if o4.1 = 0 then Option.bind (ldJ o10.2 p3 0) (fun r17 => (if (lg_cmp r17 o10.1.toInt64) = 0 then some (i + 5, o10.2) else none)) else some (i + 5, o10.2)) else none))))))))
set_option maxRecDepth 20000 in
theorem tLa_37 {l : Launch} {Z : mxZ} {X : mxX} (hl : l.stackTraces = false) (C : mxC l Z X RL cL_law 9) (hX : mxRm X = room_1) {p0 p1 p2 p3 : Nat} {i : Int32} {h : mxH} {o : Int32 × mxH} (hf : fLa_37 p0 p1 p2 p3 i h = some o) {k n : Nat} (hk : k + 8 ≤ 601024) (hn : n + 40 ≤ 7293034) (K : ∀ k2 n2, k2 ≤ k + 8 → n2 ≤ n + 40 → mG l Z X 9 k2 n2 23 [some (.ref p0), some (.ref p1), some (.ref p2), some (.ref p3), some (.int o.1), none, none, none, none] [] o.2) : mG l Z X 9 k n 2238 [some (.ref p0), some (.ref p1), some (.ref p2), some (.ref p3), some (.int i), none, none, none, none] [] h := by
  unfold fLa_37 at hf
  refine mG_aload_n (pc := 2238) C dL_law_2238 rfl ?_
  refine mG_aload_n (pc := 2239) C dL_law_2239 rfl ?_
  refine mG_iload (pc := 2240) C dL_law_2240 rfl ?_
  refine mG_ic (pc := 2242) C dL_law_2242 kI1 ?_
  refine mG_iadd (pc := 2243) C dL_law_2243 ?_
  obtain ⟨v1, e2, hf⟩ := mx_bind hf
  refine mG_iaload (pc := 2244) C dL_law_2244 e2 ?_
  refine mG_aload_n (pc := 2245) C dL_law_2245 rfl ?_
  obtain ⟨o4, e3, hf⟩ := mx_bind hf
  refine mG_cSH (pc := 2246) (k' := (k + 1)) (n' := (n + 6)) [.ref p1, .int v1, .ref p3] [] C hX dL_law_2246 lkH_L_267 rfl (tL_orderAt hl e3) rfl ⟨by show k + 1 ≤ 601024; omega, by show n + 6 ≤ 7293034; omega⟩ rfl rfl rfl ?_
  refine mG_is (ls' := [some (.ref p0), some (.ref p1), some (.ref p2), some (.ref p3), some (.int i), some (.int o4.1), none, none, none]) (pc := 2249) C dL_law_2249 rfl rfl rfl ?_
  refine mG_aload_n (pc := 2251) C dL_law_2251 rfl ?_
  refine mG_aload_n (pc := 2252) C dL_law_2252 rfl ?_
  refine mG_iload (pc := 2253) C dL_law_2253 rfl ?_
  refine mG_ic (pc := 2255) C dL_law_2255 kI1 ?_
  refine mG_iadd (pc := 2256) C dL_law_2256 ?_
  obtain ⟨v5, e6, hf⟩ := mx_bind hf
  refine mG_iaload (pc := 2257) C dL_law_2257 e6 ?_
  obtain ⟨u8, e9, hf⟩ := mx_bind hf
  obtain ⟨o10, e7, hf⟩ := mx_bind hf
  refine mG_cV2 (pc := 2258) (k' := (k + 1)) (n' := (n + 6)) 10 [.int v5] [] C hX dL_law_2258 lkV_L_269 rfl rfl e9 (tX10_orderAt hl e7) rfl ⟨by show (k + 1) + 0 ≤ 601024; omega, by show (n + 6) + 0 ≤ 7293034; omega⟩ rfl rfl rfl ?_
  refine mG_is (ls' := [some (.ref p0), some (.ref p1), some (.ref p2), some (.ref p3), some (.int i), some (.int o4.1), some (.int o10.1), none, none]) (pc := 2261) C dL_law_2261 rfl rfl rfl ?_
  refine mG_aload_n (pc := 2263) C dL_law_2263 rfl ?_
  obtain ⟨u12, e13, hf⟩ := mx_bind hf
  obtain ⟨v14, e11, hf⟩ := mx_bind hf
  refine mG_cV2 (pc := 2264) (k' := (k + 1)) (n' := (n + 6)) 10 [] [] C hX dL_law_2264 lkV_L_145 rfl rfl e13 (tX10_thrown hl e11) rfl ⟨by show (k + 1) + 0 ≤ 601024; omega, by show (n + 6) + 0 ≤ 7293034; omega⟩ rfl rfl rfl ?_
  refine mG_iload (pc := 2267) C dL_law_2267 rfl ?_
  refine mG_icmp_eq (pc := 2269) (tgt := 2274) C dL_law_2269 (by decide) (fun q15 => ?_) (fun q15 => ?_)
  · rw [if_pos q15] at hf
    refine mG_iload (pc := 2274) C dL_law_2274 rfl ?_
    refine mG_if_ne (pc := 2276) (tgt := 2291) C dL_law_2276 (by decide) (fun q16 => ?_) (fun q16 => ?_)
    · rw [if_neg q16] at hf
      refine mG_goto (tgt := 2934) (pc := 2291) C dL_law_2291 (by decide) ?_
      refine mG_ii (ls' := [some (.ref p0), some (.ref p1), some (.ref p2), some (.ref p3), some (.int (i + 5)), some (.int o4.1), some (.int o10.1), none, none]) (pc := 2934) C dL_law_2934 rfl (kinc5 _) rfl rfl rfl ?_
      refine mG_goto (tgt := 23) (pc := 2937) C dL_law_2937 (by decide) ?_
      cases hf
      exact mG_sub (mxLe_s (mxLe_s (mxLe_s (mxLe_s (mxLe_s (mxLe_n (mxLe_n (mxLe_n (mxLe_n mxLe_z))))))))) (K _ _ (by omega) (by omega))
    · rw [if_pos q16] at hf
      refine mG_aload_n (pc := 2279) C dL_law_2279 rfl ?_
      refine mG_ic (pc := 2280) C dL_law_2280 kI0 ?_
      obtain ⟨r17, e18, hf⟩ := mx_bind hf
      refine mG_laload (pc := 2281) C dL_law_2281 e18 ?_
      refine mG_iload (pc := 2282) C dL_law_2282 rfl ?_
      refine mG_i2l (pc := 2284) C dL_law_2284 ?_
      refine mG_lcmp (pc := 2285) C dL_law_2285 ?_
      refine mG_if_eq (pc := 2286) (tgt := 2291) C dL_law_2286 (by decide) (fun q19 => ?_) (fun q19 => ?_)
      · rw [if_pos q19] at hf
        refine mG_goto (tgt := 2934) (pc := 2291) C dL_law_2291 (by decide) ?_
        refine mG_ii (ls' := [some (.ref p0), some (.ref p1), some (.ref p2), some (.ref p3), some (.int (i + 5)), some (.int o4.1), some (.int o10.1), none, none]) (pc := 2934) C dL_law_2934 rfl (kinc5 _) rfl rfl rfl ?_
        refine mG_goto (tgt := 23) (pc := 2937) C dL_law_2937 (by decide) ?_
        cases hf
        exact mG_sub (mxLe_s (mxLe_s (mxLe_s (mxLe_s (mxLe_s (mxLe_n (mxLe_n (mxLe_n (mxLe_n mxLe_z))))))))) (K _ _ (by omega) (by omega))
      · rw [if_neg q19] at hf
        cases hf
  · rw [if_neg q15] at hf
    cases hf
theorem dL_law_2294 : decode cL_law 2294 = .ok (.aload_n 1, 1) := by decide +kernel
theorem dL_law_2295 : decode cL_law 2295 = .ok (.invokevirtual 270, 3) := by decide +kernel
theorem dL_law_2298 : decode cL_law 2298 = .ok (.aload_n 2, 1) := by decide +kernel
theorem dL_law_2299 : decode cL_law 2299 = .ok (.invokevirtual 273, 3) := by decide +kernel
theorem dL_law_2302 : decode cL_law 2302 = .ok (.if_icmp .eq 632, 3) := by decide +kernel
theorem dL_law_2305 : decode cL_law 2305 = .ok (.iconst 0, 1) := by decide +kernel
theorem dL_law_2306 : decode cL_law 2306 = .ok (.ireturn, 1) := by decide +kernel
def fLa_38 (p0 p1 p2 p3 : Nat) (i : Int32) (h : mxH) : Option (Int32 × mxH) := Option.bind (isO h p1 9) (fun u2 => Option.bind (fX9_windowSize p1 h) (fun v4 => Option.bind (isO h p2 10) (fun u6 => Option.bind (fX10_windowSize p2 h) (fun o8 => (if v4 = o8.1 then some (i + 5, o8.2) else none)))))
set_option maxRecDepth 20000 in
theorem tLa_38 {l : Launch} {Z : mxZ} {X : mxX} (hl : l.stackTraces = false) (C : mxC l Z X RL cL_law 9) (hX : mxRm X = room_1) {p0 p1 p2 p3 : Nat} {i : Int32} {h : mxH} {o : Int32 × mxH} (hf : fLa_38 p0 p1 p2 p3 i h = some o) {k n : Nat} (hk : k + 8 ≤ 601024) (hn : n + 40 ≤ 7293034) (K : ∀ k2 n2, k2 ≤ k + 8 → n2 ≤ n + 40 → mG l Z X 9 k2 n2 23 [some (.ref p0), some (.ref p1), some (.ref p2), some (.ref p3), some (.int o.1), none, none, none, none] [] o.2) : mG l Z X 9 k n 2294 [some (.ref p0), some (.ref p1), some (.ref p2), some (.ref p3), some (.int i), none, none, none, none] [] h := by
  unfold fLa_38 at hf
  refine mG_aload_n (pc := 2294) C dL_law_2294 rfl ?_
  obtain ⟨u2, e3, hf⟩ := mx_bind hf
  obtain ⟨v4, e1, hf⟩ := mx_bind hf
  refine mG_cV2 (pc := 2295) (k' := k) (n' := n) 9 [] [] C hX dL_law_2295 lkV_L_270 rfl rfl e3 (tX9_windowSize hl e1) rfl ⟨by show k + 0 ≤ 601024; omega, by show n + 0 ≤ 7293034; omega⟩ rfl rfl rfl ?_
  refine mG_aload_n (pc := 2298) C dL_law_2298 rfl ?_
  obtain ⟨u6, e7, hf⟩ := mx_bind hf
  obtain ⟨o8, e5, hf⟩ := mx_bind hf
  refine mG_cV2 (pc := 2299) (k' := k) (n' := n) 10 [] [.int v4] C hX dL_law_2299 lkV_L_273 rfl rfl e7 (tX10_windowSize hl e5) rfl ⟨by show k + 0 ≤ 601024; omega, by show n + 0 ≤ 7293034; omega⟩ rfl rfl rfl ?_
  refine mG_icmp_eq (pc := 2302) (tgt := 2934) C dL_law_2302 (by decide) (fun q9 => ?_) (fun q9 => ?_)
  · rw [if_pos q9] at hf
    refine mG_ii (ls' := [some (.ref p0), some (.ref p1), some (.ref p2), some (.ref p3), some (.int (i + 5)), none, none, none, none]) (pc := 2934) C dL_law_2934 rfl (kinc5 _) rfl rfl rfl ?_
    refine mG_goto (tgt := 23) (pc := 2937) C dL_law_2937 (by decide) ?_
    cases hf
    exact mG_sub (mxLe_s (mxLe_s (mxLe_s (mxLe_s (mxLe_s (mxLe_n (mxLe_n (mxLe_n (mxLe_n mxLe_z))))))))) (K _ _ (by omega) (by omega))
  · rw [if_neg q9] at hf
    cases hf
theorem dL_law_2307 : decode cL_law 2307 = .ok (.aload_n 1, 1) := by decide +kernel
theorem dL_law_2308 : decode cL_law 2308 = .ok (.aload_n 0, 1) := by decide +kernel
theorem dL_law_2309 : decode cL_law 2309 = .ok (.iload 4, 2) := by decide +kernel
theorem dL_law_2311 : decode cL_law 2311 = .ok (.iconst 1, 1) := by decide +kernel
theorem dL_law_2312 : decode cL_law 2312 = .ok (.iadd, 1) := by decide +kernel
theorem dL_law_2313 : decode cL_law 2313 = .ok (.iaload, 1) := by decide +kernel
theorem dL_law_2314 : decode cL_law 2314 = .ok (.aload_n 3, 1) := by decide +kernel
theorem dL_law_2315 : decode cL_law 2315 = .ok (.invokestatic 274, 3) := by decide +kernel
theorem dL_law_2318 : decode cL_law 2318 = .ok (.istore 5, 2) := by decide +kernel
theorem dL_law_2320 : decode cL_law 2320 = .ok (.aload_n 2, 1) := by decide +kernel
theorem dL_law_2321 : decode cL_law 2321 = .ok (.aload_n 0, 1) := by decide +kernel
theorem dL_law_2322 : decode cL_law 2322 = .ok (.iload 4, 2) := by decide +kernel
theorem dL_law_2324 : decode cL_law 2324 = .ok (.iconst 1, 1) := by decide +kernel
theorem dL_law_2325 : decode cL_law 2325 = .ok (.iadd, 1) := by decide +kernel
theorem dL_law_2326 : decode cL_law 2326 = .ok (.iaload, 1) := by decide +kernel
theorem dL_law_2327 : decode cL_law 2327 = .ok (.invokevirtual 276, 3) := by decide +kernel
theorem dL_law_2330 : decode cL_law 2330 = .ok (.istore 6, 2) := by decide +kernel
theorem dL_law_2332 : decode cL_law 2332 = .ok (.aload_n 2, 1) := by decide +kernel
theorem dL_law_2333 : decode cL_law 2333 = .ok (.invokevirtual 145, 3) := by decide +kernel
theorem dL_law_2336 : decode cL_law 2336 = .ok (.iload 5, 2) := by decide +kernel
theorem dL_law_2338 : decode cL_law 2338 = .ok (.if_icmp .eq 5, 3) := by decide +kernel
theorem dL_law_2341 : decode cL_law 2341 = .ok (.iconst 0, 1) := by decide +kernel
theorem dL_law_2342 : decode cL_law 2342 = .ok (.ireturn, 1) := by decide +kernel
theorem dL_law_2343 : decode cL_law 2343 = .ok (.iload 5, 2) := by decide +kernel
theorem dL_law_2345 : decode cL_law 2345 = .ok (.ifCond .ne 15, 3) := by decide +kernel
theorem dL_law_2348 : decode cL_law 2348 = .ok (.aload_n 3, 1) := by decide +kernel
theorem dL_law_2349 : decode cL_law 2349 = .ok (.iconst 0, 1) := by decide +kernel
theorem dL_law_2350 : decode cL_law 2350 = .ok (.laload, 1) := by decide +kernel
theorem dL_law_2351 : decode cL_law 2351 = .ok (.iload 6, 2) := by decide +kernel
theorem dL_law_2353 : decode cL_law 2353 = .ok (.i2l, 1) := by decide +kernel
theorem dL_law_2354 : decode cL_law 2354 = .ok (.lcmp, 1) := by decide +kernel
theorem dL_law_2355 : decode cL_law 2355 = .ok (.ifCond .eq 5, 3) := by decide +kernel
theorem dL_law_2358 : decode cL_law 2358 = .ok (.iconst 0, 1) := by decide +kernel
theorem dL_law_2359 : decode cL_law 2359 = .ok (.ireturn, 1) := by decide +kernel
theorem dL_law_2360 : decode cL_law 2360 = .ok (.goto 574, 3) := by decide +kernel
def fLa_39 (p0 p1 p2 p3 : Nat) (i : Int32) (h : mxH) : Option (Int32 × mxH) := Option.bind (ldI h p0 (i + 1)) (fun v1 => Option.bind (fL_windowAt p1 v1 p3 h) (fun o4 => Option.bind (ldI o4.2 p0 (i + 1)) (fun v5 => Option.bind (isO o4.2 p2 10) (fun u8 => Option.bind (fX10_windowAt p2 v5 o4.2) (fun o10 => Option.bind (isO o10.2 p2 10) (fun u12 => Option.bind (fX10_thrown p2 o10.2) (fun v14 => (if v14 = o4.1 then (if o4.1 = 0 then Option.bind (ldJ o10.2 p3 0) (fun r17 => (if (lg_cmp r17 o10.1.toInt64) = 0 then some (i + 5, o10.2) else none)) else some (i + 5, o10.2)) else none))))))))
set_option maxRecDepth 20000 in
theorem tLa_39 {l : Launch} {Z : mxZ} {X : mxX} (hl : l.stackTraces = false) (C : mxC l Z X RL cL_law 9) (hX : mxRm X = room_1) {p0 p1 p2 p3 : Nat} {i : Int32} {h : mxH} {o : Int32 × mxH} (hf : fLa_39 p0 p1 p2 p3 i h = some o) {k n : Nat} (hk : k + 8 ≤ 601024) (hn : n + 40 ≤ 7293034) (K : ∀ k2 n2, k2 ≤ k + 8 → n2 ≤ n + 40 → mG l Z X 9 k2 n2 23 [some (.ref p0), some (.ref p1), some (.ref p2), some (.ref p3), some (.int o.1), none, none, none, none] [] o.2) : mG l Z X 9 k n 2307 [some (.ref p0), some (.ref p1), some (.ref p2), some (.ref p3), some (.int i), none, none, none, none] [] h := by
  unfold fLa_39 at hf
  refine mG_aload_n (pc := 2307) C dL_law_2307 rfl ?_
  refine mG_aload_n (pc := 2308) C dL_law_2308 rfl ?_
  refine mG_iload (pc := 2309) C dL_law_2309 rfl ?_
  refine mG_ic (pc := 2311) C dL_law_2311 kI1 ?_
  refine mG_iadd (pc := 2312) C dL_law_2312 ?_
  obtain ⟨v1, e2, hf⟩ := mx_bind hf
  refine mG_iaload (pc := 2313) C dL_law_2313 e2 ?_
  refine mG_aload_n (pc := 2314) C dL_law_2314 rfl ?_
  obtain ⟨o4, e3, hf⟩ := mx_bind hf
  refine mG_cSH (pc := 2315) (k' := (k + 1)) (n' := (n + 6)) [.ref p1, .int v1, .ref p3] [] C hX dL_law_2315 lkH_L_274 rfl (tL_windowAt hl e3) rfl ⟨by show k + 1 ≤ 601024; omega, by show n + 6 ≤ 7293034; omega⟩ rfl rfl rfl ?_
  refine mG_is (ls' := [some (.ref p0), some (.ref p1), some (.ref p2), some (.ref p3), some (.int i), some (.int o4.1), none, none, none]) (pc := 2318) C dL_law_2318 rfl rfl rfl ?_
  refine mG_aload_n (pc := 2320) C dL_law_2320 rfl ?_
  refine mG_aload_n (pc := 2321) C dL_law_2321 rfl ?_
  refine mG_iload (pc := 2322) C dL_law_2322 rfl ?_
  refine mG_ic (pc := 2324) C dL_law_2324 kI1 ?_
  refine mG_iadd (pc := 2325) C dL_law_2325 ?_
  obtain ⟨v5, e6, hf⟩ := mx_bind hf
  refine mG_iaload (pc := 2326) C dL_law_2326 e6 ?_
  obtain ⟨u8, e9, hf⟩ := mx_bind hf
  obtain ⟨o10, e7, hf⟩ := mx_bind hf
  refine mG_cV2 (pc := 2327) (k' := (k + 1)) (n' := (n + 6)) 10 [.int v5] [] C hX dL_law_2327 lkV_L_276 rfl rfl e9 (tX10_windowAt hl e7) rfl ⟨by show (k + 1) + 0 ≤ 601024; omega, by show (n + 6) + 0 ≤ 7293034; omega⟩ rfl rfl rfl ?_
  refine mG_is (ls' := [some (.ref p0), some (.ref p1), some (.ref p2), some (.ref p3), some (.int i), some (.int o4.1), some (.int o10.1), none, none]) (pc := 2330) C dL_law_2330 rfl rfl rfl ?_
  refine mG_aload_n (pc := 2332) C dL_law_2332 rfl ?_
  obtain ⟨u12, e13, hf⟩ := mx_bind hf
  obtain ⟨v14, e11, hf⟩ := mx_bind hf
  refine mG_cV2 (pc := 2333) (k' := (k + 1)) (n' := (n + 6)) 10 [] [] C hX dL_law_2333 lkV_L_145 rfl rfl e13 (tX10_thrown hl e11) rfl ⟨by show (k + 1) + 0 ≤ 601024; omega, by show (n + 6) + 0 ≤ 7293034; omega⟩ rfl rfl rfl ?_
  refine mG_iload (pc := 2336) C dL_law_2336 rfl ?_
  refine mG_icmp_eq (pc := 2338) (tgt := 2343) C dL_law_2338 (by decide) (fun q15 => ?_) (fun q15 => ?_)
  · rw [if_pos q15] at hf
    refine mG_iload (pc := 2343) C dL_law_2343 rfl ?_
    refine mG_if_ne (pc := 2345) (tgt := 2360) C dL_law_2345 (by decide) (fun q16 => ?_) (fun q16 => ?_)
    · rw [if_neg q16] at hf
      refine mG_goto (tgt := 2934) (pc := 2360) C dL_law_2360 (by decide) ?_
      refine mG_ii (ls' := [some (.ref p0), some (.ref p1), some (.ref p2), some (.ref p3), some (.int (i + 5)), some (.int o4.1), some (.int o10.1), none, none]) (pc := 2934) C dL_law_2934 rfl (kinc5 _) rfl rfl rfl ?_
      refine mG_goto (tgt := 23) (pc := 2937) C dL_law_2937 (by decide) ?_
      cases hf
      exact mG_sub (mxLe_s (mxLe_s (mxLe_s (mxLe_s (mxLe_s (mxLe_n (mxLe_n (mxLe_n (mxLe_n mxLe_z))))))))) (K _ _ (by omega) (by omega))
    · rw [if_pos q16] at hf
      refine mG_aload_n (pc := 2348) C dL_law_2348 rfl ?_
      refine mG_ic (pc := 2349) C dL_law_2349 kI0 ?_
      obtain ⟨r17, e18, hf⟩ := mx_bind hf
      refine mG_laload (pc := 2350) C dL_law_2350 e18 ?_
      refine mG_iload (pc := 2351) C dL_law_2351 rfl ?_
      refine mG_i2l (pc := 2353) C dL_law_2353 ?_
      refine mG_lcmp (pc := 2354) C dL_law_2354 ?_
      refine mG_if_eq (pc := 2355) (tgt := 2360) C dL_law_2355 (by decide) (fun q19 => ?_) (fun q19 => ?_)
      · rw [if_pos q19] at hf
        refine mG_goto (tgt := 2934) (pc := 2360) C dL_law_2360 (by decide) ?_
        refine mG_ii (ls' := [some (.ref p0), some (.ref p1), some (.ref p2), some (.ref p3), some (.int (i + 5)), some (.int o4.1), some (.int o10.1), none, none]) (pc := 2934) C dL_law_2934 rfl (kinc5 _) rfl rfl rfl ?_
        refine mG_goto (tgt := 23) (pc := 2937) C dL_law_2937 (by decide) ?_
        cases hf
        exact mG_sub (mxLe_s (mxLe_s (mxLe_s (mxLe_s (mxLe_s (mxLe_n (mxLe_n (mxLe_n (mxLe_n mxLe_z))))))))) (K _ _ (by omega) (by omega))
      · rw [if_neg q19] at hf
        cases hf
  · rw [if_neg q15] at hf
    cases hf
theorem dL_law_2363 : decode cL_law 2363 = .ok (.aload_n 1, 1) := by decide +kernel
theorem dL_law_2364 : decode cL_law 2364 = .ok (.invokevirtual 277, 3) := by decide +kernel
theorem dL_law_2367 : decode cL_law 2367 = .ok (.aload_n 2, 1) := by decide +kernel
theorem dL_law_2368 : decode cL_law 2368 = .ok (.invokevirtual 280, 3) := by decide +kernel
theorem dL_law_2371 : decode cL_law 2371 = .ok (.if_icmp .eq 563, 3) := by decide +kernel
theorem dL_law_2374 : decode cL_law 2374 = .ok (.iconst 0, 1) := by decide +kernel
theorem dL_law_2375 : decode cL_law 2375 = .ok (.ireturn, 1) := by decide +kernel
def fLa_40 (p0 p1 p2 p3 : Nat) (i : Int32) (h : mxH) : Option (Int32 × mxH) := Option.bind (isO h p1 9) (fun u2 => Option.bind (fX9_unlike p1 h) (fun v4 => Option.bind (isO h p2 10) (fun u6 => Option.bind (fX10_unlike p2 h) (fun o8 => (if v4 = o8.1 then some (i + 5, o8.2) else none)))))
set_option maxRecDepth 20000 in
theorem tLa_40 {l : Launch} {Z : mxZ} {X : mxX} (hl : l.stackTraces = false) (C : mxC l Z X RL cL_law 9) (hX : mxRm X = room_1) {p0 p1 p2 p3 : Nat} {i : Int32} {h : mxH} {o : Int32 × mxH} (hf : fLa_40 p0 p1 p2 p3 i h = some o) {k n : Nat} (hk : k + 8 ≤ 601024) (hn : n + 40 ≤ 7293034) (K : ∀ k2 n2, k2 ≤ k + 8 → n2 ≤ n + 40 → mG l Z X 9 k2 n2 23 [some (.ref p0), some (.ref p1), some (.ref p2), some (.ref p3), some (.int o.1), none, none, none, none] [] o.2) : mG l Z X 9 k n 2363 [some (.ref p0), some (.ref p1), some (.ref p2), some (.ref p3), some (.int i), none, none, none, none] [] h := by
  unfold fLa_40 at hf
  refine mG_aload_n (pc := 2363) C dL_law_2363 rfl ?_
  obtain ⟨u2, e3, hf⟩ := mx_bind hf
  obtain ⟨v4, e1, hf⟩ := mx_bind hf
  refine mG_cV2 (pc := 2364) (k' := k) (n' := n) 9 [] [] C hX dL_law_2364 lkV_L_277 rfl rfl e3 (tX9_unlike hl e1) rfl ⟨by show k + 0 ≤ 601024; omega, by show n + 0 ≤ 7293034; omega⟩ rfl rfl rfl ?_
  refine mG_aload_n (pc := 2367) C dL_law_2367 rfl ?_
  obtain ⟨u6, e7, hf⟩ := mx_bind hf
  obtain ⟨o8, e5, hf⟩ := mx_bind hf
  refine mG_cV2 (pc := 2368) (k' := k) (n' := n) 10 [] [.int v4] C hX dL_law_2368 lkV_L_280 rfl rfl e7 (tX10_unlike hl e5) rfl ⟨by show k + 0 ≤ 601024; omega, by show n + 0 ≤ 7293034; omega⟩ rfl rfl rfl ?_
  refine mG_icmp_eq (pc := 2371) (tgt := 2934) C dL_law_2371 (by decide) (fun q9 => ?_) (fun q9 => ?_)
  · rw [if_pos q9] at hf
    refine mG_ii (ls' := [some (.ref p0), some (.ref p1), some (.ref p2), some (.ref p3), some (.int (i + 5)), none, none, none, none]) (pc := 2934) C dL_law_2934 rfl (kinc5 _) rfl rfl rfl ?_
    refine mG_goto (tgt := 23) (pc := 2937) C dL_law_2937 (by decide) ?_
    cases hf
    exact mG_sub (mxLe_s (mxLe_s (mxLe_s (mxLe_s (mxLe_s (mxLe_n (mxLe_n (mxLe_n (mxLe_n mxLe_z))))))))) (K _ _ (by omega) (by omega))
  · rw [if_neg q9] at hf
    cases hf
theorem dL_law_2376 : decode cL_law 2376 = .ok (.aload_n 1, 1) := by decide +kernel
theorem dL_law_2377 : decode cL_law 2377 = .ok (.aload_n 0, 1) := by decide +kernel
theorem dL_law_2378 : decode cL_law 2378 = .ok (.iload 4, 2) := by decide +kernel
theorem dL_law_2380 : decode cL_law 2380 = .ok (.iconst 1, 1) := by decide +kernel
theorem dL_law_2381 : decode cL_law 2381 = .ok (.iadd, 1) := by decide +kernel
theorem dL_law_2382 : decode cL_law 2382 = .ok (.iaload, 1) := by decide +kernel
theorem dL_law_2383 : decode cL_law 2383 = .ok (.aload_n 3, 1) := by decide +kernel
theorem dL_law_2384 : decode cL_law 2384 = .ok (.invokestatic 281, 3) := by decide +kernel
theorem dL_law_2387 : decode cL_law 2387 = .ok (.istore 5, 2) := by decide +kernel
theorem dL_law_2389 : decode cL_law 2389 = .ok (.aload_n 2, 1) := by decide +kernel
theorem dL_law_2390 : decode cL_law 2390 = .ok (.aload_n 0, 1) := by decide +kernel
theorem dL_law_2391 : decode cL_law 2391 = .ok (.iload 4, 2) := by decide +kernel
theorem dL_law_2393 : decode cL_law 2393 = .ok (.iconst 1, 1) := by decide +kernel
theorem dL_law_2394 : decode cL_law 2394 = .ok (.iadd, 1) := by decide +kernel
theorem dL_law_2395 : decode cL_law 2395 = .ok (.iaload, 1) := by decide +kernel
theorem dL_law_2396 : decode cL_law 2396 = .ok (.invokevirtual 283, 3) := by decide +kernel
theorem dL_law_2399 : decode cL_law 2399 = .ok (.istore 6, 2) := by decide +kernel
theorem dL_law_2401 : decode cL_law 2401 = .ok (.aload_n 2, 1) := by decide +kernel
theorem dL_law_2402 : decode cL_law 2402 = .ok (.invokevirtual 145, 3) := by decide +kernel
theorem dL_law_2405 : decode cL_law 2405 = .ok (.iload 5, 2) := by decide +kernel
theorem dL_law_2407 : decode cL_law 2407 = .ok (.if_icmp .eq 5, 3) := by decide +kernel
theorem dL_law_2410 : decode cL_law 2410 = .ok (.iconst 0, 1) := by decide +kernel
theorem dL_law_2411 : decode cL_law 2411 = .ok (.ireturn, 1) := by decide +kernel
theorem dL_law_2412 : decode cL_law 2412 = .ok (.iload 5, 2) := by decide +kernel
theorem dL_law_2414 : decode cL_law 2414 = .ok (.ifCond .ne 15, 3) := by decide +kernel
theorem dL_law_2417 : decode cL_law 2417 = .ok (.aload_n 3, 1) := by decide +kernel
theorem dL_law_2418 : decode cL_law 2418 = .ok (.iconst 0, 1) := by decide +kernel
theorem dL_law_2419 : decode cL_law 2419 = .ok (.laload, 1) := by decide +kernel
theorem dL_law_2420 : decode cL_law 2420 = .ok (.iload 6, 2) := by decide +kernel
theorem dL_law_2422 : decode cL_law 2422 = .ok (.i2l, 1) := by decide +kernel
theorem dL_law_2423 : decode cL_law 2423 = .ok (.lcmp, 1) := by decide +kernel
theorem dL_law_2424 : decode cL_law 2424 = .ok (.ifCond .eq 5, 3) := by decide +kernel
theorem dL_law_2427 : decode cL_law 2427 = .ok (.iconst 0, 1) := by decide +kernel
theorem dL_law_2428 : decode cL_law 2428 = .ok (.ireturn, 1) := by decide +kernel
theorem dL_law_2429 : decode cL_law 2429 = .ok (.goto 505, 3) := by decide +kernel
def fLa_41 (p0 p1 p2 p3 : Nat) (i : Int32) (h : mxH) : Option (Int32 × mxH) := Option.bind (ldI h p0 (i + 1)) (fun v1 => Option.bind (fL_counted p1 v1 p3 h) (fun o4 => Option.bind (ldI o4.2 p0 (i + 1)) (fun v5 => Option.bind (isO o4.2 p2 10) (fun u8 => Option.bind (fX10_counted p2 v5 o4.2) (fun o10 => Option.bind (isO o10.2 p2 10) (fun u12 => Option.bind (fX10_thrown p2 o10.2) (fun v14 => (if v14 = o4.1 then (if o4.1 = 0 then Option.bind (ldJ o10.2 p3 0) (fun r17 => (if (lg_cmp r17 o10.1.toInt64) = 0 then some (i + 5, o10.2) else none)) else some (i + 5, o10.2)) else none))))))))
set_option maxRecDepth 20000 in
theorem tLa_41 {l : Launch} {Z : mxZ} {X : mxX} (hl : l.stackTraces = false) (C : mxC l Z X RL cL_law 9) (hX : mxRm X = room_1) {p0 p1 p2 p3 : Nat} {i : Int32} {h : mxH} {o : Int32 × mxH} (hf : fLa_41 p0 p1 p2 p3 i h = some o) {k n : Nat} (hk : k + 8 ≤ 601024) (hn : n + 40 ≤ 7293034) (K : ∀ k2 n2, k2 ≤ k + 8 → n2 ≤ n + 40 → mG l Z X 9 k2 n2 23 [some (.ref p0), some (.ref p1), some (.ref p2), some (.ref p3), some (.int o.1), none, none, none, none] [] o.2) : mG l Z X 9 k n 2376 [some (.ref p0), some (.ref p1), some (.ref p2), some (.ref p3), some (.int i), none, none, none, none] [] h := by
  unfold fLa_41 at hf
  refine mG_aload_n (pc := 2376) C dL_law_2376 rfl ?_
  refine mG_aload_n (pc := 2377) C dL_law_2377 rfl ?_
  refine mG_iload (pc := 2378) C dL_law_2378 rfl ?_
  refine mG_ic (pc := 2380) C dL_law_2380 kI1 ?_
  refine mG_iadd (pc := 2381) C dL_law_2381 ?_
  obtain ⟨v1, e2, hf⟩ := mx_bind hf
  refine mG_iaload (pc := 2382) C dL_law_2382 e2 ?_
  refine mG_aload_n (pc := 2383) C dL_law_2383 rfl ?_
  obtain ⟨o4, e3, hf⟩ := mx_bind hf
  refine mG_cSH (pc := 2384) (k' := (k + 1)) (n' := (n + 6)) [.ref p1, .int v1, .ref p3] [] C hX dL_law_2384 lkH_L_281 rfl (tL_counted hl e3) rfl ⟨by show k + 1 ≤ 601024; omega, by show n + 6 ≤ 7293034; omega⟩ rfl rfl rfl ?_
  refine mG_is (ls' := [some (.ref p0), some (.ref p1), some (.ref p2), some (.ref p3), some (.int i), some (.int o4.1), none, none, none]) (pc := 2387) C dL_law_2387 rfl rfl rfl ?_
  refine mG_aload_n (pc := 2389) C dL_law_2389 rfl ?_
  refine mG_aload_n (pc := 2390) C dL_law_2390 rfl ?_
  refine mG_iload (pc := 2391) C dL_law_2391 rfl ?_
  refine mG_ic (pc := 2393) C dL_law_2393 kI1 ?_
  refine mG_iadd (pc := 2394) C dL_law_2394 ?_
  obtain ⟨v5, e6, hf⟩ := mx_bind hf
  refine mG_iaload (pc := 2395) C dL_law_2395 e6 ?_
  obtain ⟨u8, e9, hf⟩ := mx_bind hf
  obtain ⟨o10, e7, hf⟩ := mx_bind hf
  refine mG_cV2 (pc := 2396) (k' := (k + 1)) (n' := (n + 6)) 10 [.int v5] [] C hX dL_law_2396 lkV_L_283 rfl rfl e9 (tX10_counted hl e7) rfl ⟨by show (k + 1) + 0 ≤ 601024; omega, by show (n + 6) + 0 ≤ 7293034; omega⟩ rfl rfl rfl ?_
  refine mG_is (ls' := [some (.ref p0), some (.ref p1), some (.ref p2), some (.ref p3), some (.int i), some (.int o4.1), some (.int o10.1), none, none]) (pc := 2399) C dL_law_2399 rfl rfl rfl ?_
  refine mG_aload_n (pc := 2401) C dL_law_2401 rfl ?_
  obtain ⟨u12, e13, hf⟩ := mx_bind hf
  obtain ⟨v14, e11, hf⟩ := mx_bind hf
  refine mG_cV2 (pc := 2402) (k' := (k + 1)) (n' := (n + 6)) 10 [] [] C hX dL_law_2402 lkV_L_145 rfl rfl e13 (tX10_thrown hl e11) rfl ⟨by show (k + 1) + 0 ≤ 601024; omega, by show (n + 6) + 0 ≤ 7293034; omega⟩ rfl rfl rfl ?_
  refine mG_iload (pc := 2405) C dL_law_2405 rfl ?_
  refine mG_icmp_eq (pc := 2407) (tgt := 2412) C dL_law_2407 (by decide) (fun q15 => ?_) (fun q15 => ?_)
  · rw [if_pos q15] at hf
    refine mG_iload (pc := 2412) C dL_law_2412 rfl ?_
    refine mG_if_ne (pc := 2414) (tgt := 2429) C dL_law_2414 (by decide) (fun q16 => ?_) (fun q16 => ?_)
    · rw [if_neg q16] at hf
      refine mG_goto (tgt := 2934) (pc := 2429) C dL_law_2429 (by decide) ?_
      refine mG_ii (ls' := [some (.ref p0), some (.ref p1), some (.ref p2), some (.ref p3), some (.int (i + 5)), some (.int o4.1), some (.int o10.1), none, none]) (pc := 2934) C dL_law_2934 rfl (kinc5 _) rfl rfl rfl ?_
      refine mG_goto (tgt := 23) (pc := 2937) C dL_law_2937 (by decide) ?_
      cases hf
      exact mG_sub (mxLe_s (mxLe_s (mxLe_s (mxLe_s (mxLe_s (mxLe_n (mxLe_n (mxLe_n (mxLe_n mxLe_z))))))))) (K _ _ (by omega) (by omega))
    · rw [if_pos q16] at hf
      refine mG_aload_n (pc := 2417) C dL_law_2417 rfl ?_
      refine mG_ic (pc := 2418) C dL_law_2418 kI0 ?_
      obtain ⟨r17, e18, hf⟩ := mx_bind hf
      refine mG_laload (pc := 2419) C dL_law_2419 e18 ?_
      refine mG_iload (pc := 2420) C dL_law_2420 rfl ?_
      refine mG_i2l (pc := 2422) C dL_law_2422 ?_
      refine mG_lcmp (pc := 2423) C dL_law_2423 ?_
      refine mG_if_eq (pc := 2424) (tgt := 2429) C dL_law_2424 (by decide) (fun q19 => ?_) (fun q19 => ?_)
      · rw [if_pos q19] at hf
        refine mG_goto (tgt := 2934) (pc := 2429) C dL_law_2429 (by decide) ?_
        refine mG_ii (ls' := [some (.ref p0), some (.ref p1), some (.ref p2), some (.ref p3), some (.int (i + 5)), some (.int o4.1), some (.int o10.1), none, none]) (pc := 2934) C dL_law_2934 rfl (kinc5 _) rfl rfl rfl ?_
        refine mG_goto (tgt := 23) (pc := 2937) C dL_law_2937 (by decide) ?_
        cases hf
        exact mG_sub (mxLe_s (mxLe_s (mxLe_s (mxLe_s (mxLe_s (mxLe_n (mxLe_n (mxLe_n (mxLe_n mxLe_z))))))))) (K _ _ (by omega) (by omega))
      · rw [if_neg q19] at hf
        cases hf
  · rw [if_neg q15] at hf
    cases hf
theorem dL_law_2432 : decode cL_law 2432 = .ok (.aload_n 1, 1) := by decide +kernel
theorem dL_law_2433 : decode cL_law 2433 = .ok (.aload_n 0, 1) := by decide +kernel
theorem dL_law_2434 : decode cL_law 2434 = .ok (.iload 4, 2) := by decide +kernel
theorem dL_law_2436 : decode cL_law 2436 = .ok (.iconst 1, 1) := by decide +kernel
theorem dL_law_2437 : decode cL_law 2437 = .ok (.iadd, 1) := by decide +kernel
theorem dL_law_2438 : decode cL_law 2438 = .ok (.iaload, 1) := by decide +kernel
theorem dL_law_2439 : decode cL_law 2439 = .ok (.aload_n 3, 1) := by decide +kernel
theorem dL_law_2440 : decode cL_law 2440 = .ok (.invokestatic 284, 3) := by decide +kernel
theorem dL_law_2443 : decode cL_law 2443 = .ok (.istore 5, 2) := by decide +kernel
theorem dL_law_2445 : decode cL_law 2445 = .ok (.aload_n 2, 1) := by decide +kernel
theorem dL_law_2446 : decode cL_law 2446 = .ok (.aload_n 0, 1) := by decide +kernel
theorem dL_law_2447 : decode cL_law 2447 = .ok (.iload 4, 2) := by decide +kernel
theorem dL_law_2449 : decode cL_law 2449 = .ok (.iconst 1, 1) := by decide +kernel
theorem dL_law_2450 : decode cL_law 2450 = .ok (.iadd, 1) := by decide +kernel
theorem dL_law_2451 : decode cL_law 2451 = .ok (.iaload, 1) := by decide +kernel
theorem dL_law_2452 : decode cL_law 2452 = .ok (.invokevirtual 286, 3) := by decide +kernel
theorem dL_law_2455 : decode cL_law 2455 = .ok (.istore 6, 2) := by decide +kernel
theorem dL_law_2457 : decode cL_law 2457 = .ok (.aload_n 2, 1) := by decide +kernel
theorem dL_law_2458 : decode cL_law 2458 = .ok (.invokevirtual 145, 3) := by decide +kernel
theorem dL_law_2461 : decode cL_law 2461 = .ok (.iload 5, 2) := by decide +kernel
theorem dL_law_2463 : decode cL_law 2463 = .ok (.if_icmp .eq 5, 3) := by decide +kernel
theorem dL_law_2466 : decode cL_law 2466 = .ok (.iconst 0, 1) := by decide +kernel
theorem dL_law_2467 : decode cL_law 2467 = .ok (.ireturn, 1) := by decide +kernel
theorem dL_law_2468 : decode cL_law 2468 = .ok (.iload 5, 2) := by decide +kernel
theorem dL_law_2470 : decode cL_law 2470 = .ok (.ifCond .ne 15, 3) := by decide +kernel
theorem dL_law_2473 : decode cL_law 2473 = .ok (.aload_n 3, 1) := by decide +kernel
theorem dL_law_2474 : decode cL_law 2474 = .ok (.iconst 0, 1) := by decide +kernel
theorem dL_law_2475 : decode cL_law 2475 = .ok (.laload, 1) := by decide +kernel
theorem dL_law_2476 : decode cL_law 2476 = .ok (.iload 6, 2) := by decide +kernel
theorem dL_law_2478 : decode cL_law 2478 = .ok (.i2l, 1) := by decide +kernel
theorem dL_law_2479 : decode cL_law 2479 = .ok (.lcmp, 1) := by decide +kernel
theorem dL_law_2480 : decode cL_law 2480 = .ok (.ifCond .eq 5, 3) := by decide +kernel
theorem dL_law_2483 : decode cL_law 2483 = .ok (.iconst 0, 1) := by decide +kernel
theorem dL_law_2484 : decode cL_law 2484 = .ok (.ireturn, 1) := by decide +kernel
theorem dL_law_2485 : decode cL_law 2485 = .ok (.goto 449, 3) := by decide +kernel
def fLa_42 (p0 p1 p2 p3 : Nat) (i : Int32) (h : mxH) : Option (Int32 × mxH) := Option.bind (ldI h p0 (i + 1)) (fun v1 => Option.bind (fL_came p1 v1 p3 h) (fun o4 => Option.bind (ldI o4.2 p0 (i + 1)) (fun v5 => Option.bind (isO o4.2 p2 10) (fun u8 => Option.bind (fX10_came p2 v5 o4.2) (fun o10 => Option.bind (isO o10.2 p2 10) (fun u12 => Option.bind (fX10_thrown p2 o10.2) (fun v14 => (if v14 = o4.1 then (if o4.1 = 0 then Option.bind (ldJ o10.2 p3 0) (fun r17 => (if (lg_cmp r17 o10.1.toInt64) = 0 then some (i + 5, o10.2) else none)) else some (i + 5, o10.2)) else none))))))))
set_option maxRecDepth 20000 in
theorem tLa_42 {l : Launch} {Z : mxZ} {X : mxX} (hl : l.stackTraces = false) (C : mxC l Z X RL cL_law 9) (hX : mxRm X = room_1) {p0 p1 p2 p3 : Nat} {i : Int32} {h : mxH} {o : Int32 × mxH} (hf : fLa_42 p0 p1 p2 p3 i h = some o) {k n : Nat} (hk : k + 8 ≤ 601024) (hn : n + 40 ≤ 7293034) (K : ∀ k2 n2, k2 ≤ k + 8 → n2 ≤ n + 40 → mG l Z X 9 k2 n2 23 [some (.ref p0), some (.ref p1), some (.ref p2), some (.ref p3), some (.int o.1), none, none, none, none] [] o.2) : mG l Z X 9 k n 2432 [some (.ref p0), some (.ref p1), some (.ref p2), some (.ref p3), some (.int i), none, none, none, none] [] h := by
  unfold fLa_42 at hf
  refine mG_aload_n (pc := 2432) C dL_law_2432 rfl ?_
  refine mG_aload_n (pc := 2433) C dL_law_2433 rfl ?_
  refine mG_iload (pc := 2434) C dL_law_2434 rfl ?_
  refine mG_ic (pc := 2436) C dL_law_2436 kI1 ?_
  refine mG_iadd (pc := 2437) C dL_law_2437 ?_
  obtain ⟨v1, e2, hf⟩ := mx_bind hf
  refine mG_iaload (pc := 2438) C dL_law_2438 e2 ?_
  refine mG_aload_n (pc := 2439) C dL_law_2439 rfl ?_
  obtain ⟨o4, e3, hf⟩ := mx_bind hf
  refine mG_cSH (pc := 2440) (k' := (k + 1)) (n' := (n + 6)) [.ref p1, .int v1, .ref p3] [] C hX dL_law_2440 lkH_L_284 rfl (tL_came hl e3) rfl ⟨by show k + 1 ≤ 601024; omega, by show n + 6 ≤ 7293034; omega⟩ rfl rfl rfl ?_
  refine mG_is (ls' := [some (.ref p0), some (.ref p1), some (.ref p2), some (.ref p3), some (.int i), some (.int o4.1), none, none, none]) (pc := 2443) C dL_law_2443 rfl rfl rfl ?_
  refine mG_aload_n (pc := 2445) C dL_law_2445 rfl ?_
  refine mG_aload_n (pc := 2446) C dL_law_2446 rfl ?_
  refine mG_iload (pc := 2447) C dL_law_2447 rfl ?_
  refine mG_ic (pc := 2449) C dL_law_2449 kI1 ?_
  refine mG_iadd (pc := 2450) C dL_law_2450 ?_
  obtain ⟨v5, e6, hf⟩ := mx_bind hf
  refine mG_iaload (pc := 2451) C dL_law_2451 e6 ?_
  obtain ⟨u8, e9, hf⟩ := mx_bind hf
  obtain ⟨o10, e7, hf⟩ := mx_bind hf
  refine mG_cV2 (pc := 2452) (k' := (k + 1)) (n' := (n + 6)) 10 [.int v5] [] C hX dL_law_2452 lkV_L_286 rfl rfl e9 (tX10_came hl e7) rfl ⟨by show (k + 1) + 0 ≤ 601024; omega, by show (n + 6) + 0 ≤ 7293034; omega⟩ rfl rfl rfl ?_
  refine mG_is (ls' := [some (.ref p0), some (.ref p1), some (.ref p2), some (.ref p3), some (.int i), some (.int o4.1), some (.int o10.1), none, none]) (pc := 2455) C dL_law_2455 rfl rfl rfl ?_
  refine mG_aload_n (pc := 2457) C dL_law_2457 rfl ?_
  obtain ⟨u12, e13, hf⟩ := mx_bind hf
  obtain ⟨v14, e11, hf⟩ := mx_bind hf
  refine mG_cV2 (pc := 2458) (k' := (k + 1)) (n' := (n + 6)) 10 [] [] C hX dL_law_2458 lkV_L_145 rfl rfl e13 (tX10_thrown hl e11) rfl ⟨by show (k + 1) + 0 ≤ 601024; omega, by show (n + 6) + 0 ≤ 7293034; omega⟩ rfl rfl rfl ?_
  refine mG_iload (pc := 2461) C dL_law_2461 rfl ?_
  refine mG_icmp_eq (pc := 2463) (tgt := 2468) C dL_law_2463 (by decide) (fun q15 => ?_) (fun q15 => ?_)
  · rw [if_pos q15] at hf
    refine mG_iload (pc := 2468) C dL_law_2468 rfl ?_
    refine mG_if_ne (pc := 2470) (tgt := 2485) C dL_law_2470 (by decide) (fun q16 => ?_) (fun q16 => ?_)
    · rw [if_neg q16] at hf
      refine mG_goto (tgt := 2934) (pc := 2485) C dL_law_2485 (by decide) ?_
      refine mG_ii (ls' := [some (.ref p0), some (.ref p1), some (.ref p2), some (.ref p3), some (.int (i + 5)), some (.int o4.1), some (.int o10.1), none, none]) (pc := 2934) C dL_law_2934 rfl (kinc5 _) rfl rfl rfl ?_
      refine mG_goto (tgt := 23) (pc := 2937) C dL_law_2937 (by decide) ?_
      cases hf
      exact mG_sub (mxLe_s (mxLe_s (mxLe_s (mxLe_s (mxLe_s (mxLe_n (mxLe_n (mxLe_n (mxLe_n mxLe_z))))))))) (K _ _ (by omega) (by omega))
    · rw [if_pos q16] at hf
      refine mG_aload_n (pc := 2473) C dL_law_2473 rfl ?_
      refine mG_ic (pc := 2474) C dL_law_2474 kI0 ?_
      obtain ⟨r17, e18, hf⟩ := mx_bind hf
      refine mG_laload (pc := 2475) C dL_law_2475 e18 ?_
      refine mG_iload (pc := 2476) C dL_law_2476 rfl ?_
      refine mG_i2l (pc := 2478) C dL_law_2478 ?_
      refine mG_lcmp (pc := 2479) C dL_law_2479 ?_
      refine mG_if_eq (pc := 2480) (tgt := 2485) C dL_law_2480 (by decide) (fun q19 => ?_) (fun q19 => ?_)
      · rw [if_pos q19] at hf
        refine mG_goto (tgt := 2934) (pc := 2485) C dL_law_2485 (by decide) ?_
        refine mG_ii (ls' := [some (.ref p0), some (.ref p1), some (.ref p2), some (.ref p3), some (.int (i + 5)), some (.int o4.1), some (.int o10.1), none, none]) (pc := 2934) C dL_law_2934 rfl (kinc5 _) rfl rfl rfl ?_
        refine mG_goto (tgt := 23) (pc := 2937) C dL_law_2937 (by decide) ?_
        cases hf
        exact mG_sub (mxLe_s (mxLe_s (mxLe_s (mxLe_s (mxLe_s (mxLe_n (mxLe_n (mxLe_n (mxLe_n mxLe_z))))))))) (K _ _ (by omega) (by omega))
      · rw [if_neg q19] at hf
        cases hf
  · rw [if_neg q15] at hf
    cases hf
theorem dL_law_2488 : decode cL_law 2488 = .ok (.aload_n 1, 1) := by decide +kernel
theorem dL_law_2489 : decode cL_law 2489 = .ok (.invokevirtual 287, 3) := by decide +kernel
theorem dL_law_2492 : decode cL_law 2492 = .ok (.aload_n 2, 1) := by decide +kernel
theorem dL_law_2493 : decode cL_law 2493 = .ok (.invokevirtual 290, 3) := by decide +kernel
theorem dL_law_2496 : decode cL_law 2496 = .ok (.if_icmp .eq 438, 3) := by decide +kernel
theorem dL_law_2499 : decode cL_law 2499 = .ok (.iconst 0, 1) := by decide +kernel
theorem dL_law_2500 : decode cL_law 2500 = .ok (.ireturn, 1) := by decide +kernel
def fLa_43 (p0 p1 p2 p3 : Nat) (i : Int32) (h : mxH) : Option (Int32 × mxH) := Option.bind (isO h p1 9) (fun u2 => Option.bind (fX9_bound p1 h) (fun v4 => Option.bind (isO h p2 10) (fun u6 => Option.bind (fX10_bound p2 h) (fun o8 => (if v4 = o8.1 then some (i + 5, o8.2) else none)))))
set_option maxRecDepth 20000 in
theorem tLa_43 {l : Launch} {Z : mxZ} {X : mxX} (hl : l.stackTraces = false) (C : mxC l Z X RL cL_law 9) (hX : mxRm X = room_1) {p0 p1 p2 p3 : Nat} {i : Int32} {h : mxH} {o : Int32 × mxH} (hf : fLa_43 p0 p1 p2 p3 i h = some o) {k n : Nat} (hk : k + 8 ≤ 601024) (hn : n + 40 ≤ 7293034) (K : ∀ k2 n2, k2 ≤ k + 8 → n2 ≤ n + 40 → mG l Z X 9 k2 n2 23 [some (.ref p0), some (.ref p1), some (.ref p2), some (.ref p3), some (.int o.1), none, none, none, none] [] o.2) : mG l Z X 9 k n 2488 [some (.ref p0), some (.ref p1), some (.ref p2), some (.ref p3), some (.int i), none, none, none, none] [] h := by
  unfold fLa_43 at hf
  refine mG_aload_n (pc := 2488) C dL_law_2488 rfl ?_
  obtain ⟨u2, e3, hf⟩ := mx_bind hf
  obtain ⟨v4, e1, hf⟩ := mx_bind hf
  refine mG_cV2 (pc := 2489) (k' := k) (n' := n) 9 [] [] C hX dL_law_2489 lkV_L_287 rfl rfl e3 (tX9_bound hl e1) rfl ⟨by show k + 0 ≤ 601024; omega, by show n + 0 ≤ 7293034; omega⟩ rfl rfl rfl ?_
  refine mG_aload_n (pc := 2492) C dL_law_2492 rfl ?_
  obtain ⟨u6, e7, hf⟩ := mx_bind hf
  obtain ⟨o8, e5, hf⟩ := mx_bind hf
  refine mG_cV2 (pc := 2493) (k' := k) (n' := n) 10 [] [.int v4] C hX dL_law_2493 lkV_L_290 rfl rfl e7 (tX10_bound hl e5) rfl ⟨by show k + 0 ≤ 601024; omega, by show n + 0 ≤ 7293034; omega⟩ rfl rfl rfl ?_
  refine mG_icmp_eq (pc := 2496) (tgt := 2934) C dL_law_2496 (by decide) (fun q9 => ?_) (fun q9 => ?_)
  · rw [if_pos q9] at hf
    refine mG_ii (ls' := [some (.ref p0), some (.ref p1), some (.ref p2), some (.ref p3), some (.int (i + 5)), none, none, none, none]) (pc := 2934) C dL_law_2934 rfl (kinc5 _) rfl rfl rfl ?_
    refine mG_goto (tgt := 23) (pc := 2937) C dL_law_2937 (by decide) ?_
    cases hf
    exact mG_sub (mxLe_s (mxLe_s (mxLe_s (mxLe_s (mxLe_s (mxLe_n (mxLe_n (mxLe_n (mxLe_n mxLe_z))))))))) (K _ _ (by omega) (by omega))
  · rw [if_neg q9] at hf
    cases hf
theorem dL_law_2501 : decode cL_law 2501 = .ok (.aload_n 1, 1) := by decide +kernel
theorem dL_law_2502 : decode cL_law 2502 = .ok (.aload_n 0, 1) := by decide +kernel
theorem dL_law_2503 : decode cL_law 2503 = .ok (.iload 4, 2) := by decide +kernel
theorem dL_law_2505 : decode cL_law 2505 = .ok (.iconst 1, 1) := by decide +kernel
theorem dL_law_2506 : decode cL_law 2506 = .ok (.iadd, 1) := by decide +kernel
theorem dL_law_2507 : decode cL_law 2507 = .ok (.iaload, 1) := by decide +kernel
theorem dL_law_2508 : decode cL_law 2508 = .ok (.aload_n 0, 1) := by decide +kernel
theorem dL_law_2509 : decode cL_law 2509 = .ok (.iload 4, 2) := by decide +kernel
theorem dL_law_2511 : decode cL_law 2511 = .ok (.iconst 2, 1) := by decide +kernel
theorem dL_law_2512 : decode cL_law 2512 = .ok (.iadd, 1) := by decide +kernel
theorem dL_law_2513 : decode cL_law 2513 = .ok (.iaload, 1) := by decide +kernel
theorem dL_law_2514 : decode cL_law 2514 = .ok (.aload_n 0, 1) := by decide +kernel
theorem dL_law_2515 : decode cL_law 2515 = .ok (.iload 4, 2) := by decide +kernel
theorem dL_law_2517 : decode cL_law 2517 = .ok (.iconst 3, 1) := by decide +kernel
theorem dL_law_2518 : decode cL_law 2518 = .ok (.iadd, 1) := by decide +kernel
theorem dL_law_2519 : decode cL_law 2519 = .ok (.iaload, 1) := by decide +kernel
theorem dL_law_2520 : decode cL_law 2520 = .ok (.aload_n 3, 1) := by decide +kernel
theorem dL_law_2521 : decode cL_law 2521 = .ok (.invokestatic 291, 3) := by decide +kernel
theorem dL_law_2524 : decode cL_law 2524 = .ok (.istore 5, 2) := by decide +kernel
theorem dL_law_2526 : decode cL_law 2526 = .ok (.aload_n 2, 1) := by decide +kernel
theorem dL_law_2527 : decode cL_law 2527 = .ok (.aload_n 0, 1) := by decide +kernel
theorem dL_law_2528 : decode cL_law 2528 = .ok (.iload 4, 2) := by decide +kernel
theorem dL_law_2530 : decode cL_law 2530 = .ok (.iconst 1, 1) := by decide +kernel
theorem dL_law_2531 : decode cL_law 2531 = .ok (.iadd, 1) := by decide +kernel
theorem dL_law_2532 : decode cL_law 2532 = .ok (.iaload, 1) := by decide +kernel
theorem dL_law_2533 : decode cL_law 2533 = .ok (.aload_n 0, 1) := by decide +kernel
theorem dL_law_2534 : decode cL_law 2534 = .ok (.iload 4, 2) := by decide +kernel
theorem dL_law_2536 : decode cL_law 2536 = .ok (.iconst 2, 1) := by decide +kernel
theorem dL_law_2537 : decode cL_law 2537 = .ok (.iadd, 1) := by decide +kernel
theorem dL_law_2538 : decode cL_law 2538 = .ok (.iaload, 1) := by decide +kernel
theorem dL_law_2539 : decode cL_law 2539 = .ok (.aload_n 0, 1) := by decide +kernel
theorem dL_law_2540 : decode cL_law 2540 = .ok (.iload 4, 2) := by decide +kernel
theorem dL_law_2542 : decode cL_law 2542 = .ok (.iconst 3, 1) := by decide +kernel
theorem dL_law_2543 : decode cL_law 2543 = .ok (.iadd, 1) := by decide +kernel
theorem dL_law_2544 : decode cL_law 2544 = .ok (.iaload, 1) := by decide +kernel
theorem dL_law_2545 : decode cL_law 2545 = .ok (.invokevirtual 293, 3) := by decide +kernel
theorem dL_law_2548 : decode cL_law 2548 = .ok (.istore 6, 2) := by decide +kernel
theorem dL_law_2550 : decode cL_law 2550 = .ok (.aload_n 2, 1) := by decide +kernel
theorem dL_law_2551 : decode cL_law 2551 = .ok (.invokevirtual 145, 3) := by decide +kernel
theorem dL_law_2554 : decode cL_law 2554 = .ok (.iload 5, 2) := by decide +kernel
theorem dL_law_2556 : decode cL_law 2556 = .ok (.if_icmp .eq 5, 3) := by decide +kernel
theorem dL_law_2559 : decode cL_law 2559 = .ok (.iconst 0, 1) := by decide +kernel
theorem dL_law_2560 : decode cL_law 2560 = .ok (.ireturn, 1) := by decide +kernel
theorem dL_law_2561 : decode cL_law 2561 = .ok (.iload 5, 2) := by decide +kernel
theorem dL_law_2563 : decode cL_law 2563 = .ok (.ifCond .ne 15, 3) := by decide +kernel
theorem dL_law_2566 : decode cL_law 2566 = .ok (.aload_n 3, 1) := by decide +kernel
theorem dL_law_2567 : decode cL_law 2567 = .ok (.iconst 0, 1) := by decide +kernel
theorem dL_law_2568 : decode cL_law 2568 = .ok (.laload, 1) := by decide +kernel
theorem dL_law_2569 : decode cL_law 2569 = .ok (.iload 6, 2) := by decide +kernel
theorem dL_law_2571 : decode cL_law 2571 = .ok (.i2l, 1) := by decide +kernel
theorem dL_law_2572 : decode cL_law 2572 = .ok (.lcmp, 1) := by decide +kernel
theorem dL_law_2573 : decode cL_law 2573 = .ok (.ifCond .eq 5, 3) := by decide +kernel
theorem dL_law_2576 : decode cL_law 2576 = .ok (.iconst 0, 1) := by decide +kernel
theorem dL_law_2577 : decode cL_law 2577 = .ok (.ireturn, 1) := by decide +kernel
theorem dL_law_2578 : decode cL_law 2578 = .ok (.goto 356, 3) := by decide +kernel
def fLa_44 (p0 p1 p2 p3 : Nat) (i : Int32) (h : mxH) : Option (Int32 × mxH) := Option.bind (ldI h p0 (i + 1)) (fun v1 => Option.bind (ldI h p0 (i + 2)) (fun v3 => Option.bind (ldI h p0 (i + 3)) (fun v5 => Option.bind (fL_pairSum p1 v1 v3 v5 p3 h) (fun o8 => Option.bind (ldI o8.2 p0 (i + 1)) (fun v9 => Option.bind (ldI o8.2 p0 (i + 2)) (fun v11 => Option.bind (ldI o8.2 p0 (i + 3)) (fun v13 => Option.bind (isO o8.2 p2 10) (fun u16 => Option.bind (fX10_pairSum p2 v9 v11 v13 o8.2) (fun o18 => Option.bind (isO o18.2 p2 10) (fun u20 => Option.bind (fX10_thrown p2 o18.2) (fun v22 => (if v22 = o8.1 then (if o8.1 = 0 then Option.bind (ldJ o18.2 p3 0) (fun r25 => (if (lg_cmp r25 o18.1.toInt64) = 0 then some (i + 5, o18.2) else none)) else some (i + 5, o18.2)) else none))))))))))))
set_option maxRecDepth 20000 in
theorem tLa_44 {l : Launch} {Z : mxZ} {X : mxX} (hl : l.stackTraces = false) (C : mxC l Z X RL cL_law 9) (hX : mxRm X = room_1) {p0 p1 p2 p3 : Nat} {i : Int32} {h : mxH} {o : Int32 × mxH} (hf : fLa_44 p0 p1 p2 p3 i h = some o) {k n : Nat} (hk : k + 8 ≤ 601024) (hn : n + 40 ≤ 7293034) (K : ∀ k2 n2, k2 ≤ k + 8 → n2 ≤ n + 40 → mG l Z X 9 k2 n2 23 [some (.ref p0), some (.ref p1), some (.ref p2), some (.ref p3), some (.int o.1), none, none, none, none] [] o.2) : mG l Z X 9 k n 2501 [some (.ref p0), some (.ref p1), some (.ref p2), some (.ref p3), some (.int i), none, none, none, none] [] h := by
  unfold fLa_44 at hf
  refine mG_aload_n (pc := 2501) C dL_law_2501 rfl ?_
  refine mG_aload_n (pc := 2502) C dL_law_2502 rfl ?_
  refine mG_iload (pc := 2503) C dL_law_2503 rfl ?_
  refine mG_ic (pc := 2505) C dL_law_2505 kI1 ?_
  refine mG_iadd (pc := 2506) C dL_law_2506 ?_
  obtain ⟨v1, e2, hf⟩ := mx_bind hf
  refine mG_iaload (pc := 2507) C dL_law_2507 e2 ?_
  refine mG_aload_n (pc := 2508) C dL_law_2508 rfl ?_
  refine mG_iload (pc := 2509) C dL_law_2509 rfl ?_
  refine mG_ic (pc := 2511) C dL_law_2511 kI2 ?_
  refine mG_iadd (pc := 2512) C dL_law_2512 ?_
  obtain ⟨v3, e4, hf⟩ := mx_bind hf
  refine mG_iaload (pc := 2513) C dL_law_2513 e4 ?_
  refine mG_aload_n (pc := 2514) C dL_law_2514 rfl ?_
  refine mG_iload (pc := 2515) C dL_law_2515 rfl ?_
  refine mG_ic (pc := 2517) C dL_law_2517 kI3 ?_
  refine mG_iadd (pc := 2518) C dL_law_2518 ?_
  obtain ⟨v5, e6, hf⟩ := mx_bind hf
  refine mG_iaload (pc := 2519) C dL_law_2519 e6 ?_
  refine mG_aload_n (pc := 2520) C dL_law_2520 rfl ?_
  obtain ⟨o8, e7, hf⟩ := mx_bind hf
  refine mG_cSH (pc := 2521) (k' := (k + 3)) (n' := (n + 18)) [.ref p1, .int v1, .int v3, .int v5, .ref p3] [] C hX dL_law_2521 lkH_L_291 rfl (tL_pairSum hl e7) rfl ⟨by show k + 3 ≤ 601024; omega, by show n + 18 ≤ 7293034; omega⟩ rfl rfl rfl ?_
  refine mG_is (ls' := [some (.ref p0), some (.ref p1), some (.ref p2), some (.ref p3), some (.int i), some (.int o8.1), none, none, none]) (pc := 2524) C dL_law_2524 rfl rfl rfl ?_
  refine mG_aload_n (pc := 2526) C dL_law_2526 rfl ?_
  refine mG_aload_n (pc := 2527) C dL_law_2527 rfl ?_
  refine mG_iload (pc := 2528) C dL_law_2528 rfl ?_
  refine mG_ic (pc := 2530) C dL_law_2530 kI1 ?_
  refine mG_iadd (pc := 2531) C dL_law_2531 ?_
  obtain ⟨v9, e10, hf⟩ := mx_bind hf
  refine mG_iaload (pc := 2532) C dL_law_2532 e10 ?_
  refine mG_aload_n (pc := 2533) C dL_law_2533 rfl ?_
  refine mG_iload (pc := 2534) C dL_law_2534 rfl ?_
  refine mG_ic (pc := 2536) C dL_law_2536 kI2 ?_
  refine mG_iadd (pc := 2537) C dL_law_2537 ?_
  obtain ⟨v11, e12, hf⟩ := mx_bind hf
  refine mG_iaload (pc := 2538) C dL_law_2538 e12 ?_
  refine mG_aload_n (pc := 2539) C dL_law_2539 rfl ?_
  refine mG_iload (pc := 2540) C dL_law_2540 rfl ?_
  refine mG_ic (pc := 2542) C dL_law_2542 kI3 ?_
  refine mG_iadd (pc := 2543) C dL_law_2543 ?_
  obtain ⟨v13, e14, hf⟩ := mx_bind hf
  refine mG_iaload (pc := 2544) C dL_law_2544 e14 ?_
  obtain ⟨u16, e17, hf⟩ := mx_bind hf
  obtain ⟨o18, e15, hf⟩ := mx_bind hf
  refine mG_cV2 (pc := 2545) (k' := (k + 3)) (n' := (n + 18)) 10 [.int v9, .int v11, .int v13] [] C hX dL_law_2545 lkV_L_293 rfl rfl e17 (tX10_pairSum hl e15) rfl ⟨by show (k + 3) + 0 ≤ 601024; omega, by show (n + 18) + 0 ≤ 7293034; omega⟩ rfl rfl rfl ?_
  refine mG_is (ls' := [some (.ref p0), some (.ref p1), some (.ref p2), some (.ref p3), some (.int i), some (.int o8.1), some (.int o18.1), none, none]) (pc := 2548) C dL_law_2548 rfl rfl rfl ?_
  refine mG_aload_n (pc := 2550) C dL_law_2550 rfl ?_
  obtain ⟨u20, e21, hf⟩ := mx_bind hf
  obtain ⟨v22, e19, hf⟩ := mx_bind hf
  refine mG_cV2 (pc := 2551) (k' := (k + 3)) (n' := (n + 18)) 10 [] [] C hX dL_law_2551 lkV_L_145 rfl rfl e21 (tX10_thrown hl e19) rfl ⟨by show (k + 3) + 0 ≤ 601024; omega, by show (n + 18) + 0 ≤ 7293034; omega⟩ rfl rfl rfl ?_
  refine mG_iload (pc := 2554) C dL_law_2554 rfl ?_
  refine mG_icmp_eq (pc := 2556) (tgt := 2561) C dL_law_2556 (by decide) (fun q23 => ?_) (fun q23 => ?_)
  · rw [if_pos q23] at hf
    refine mG_iload (pc := 2561) C dL_law_2561 rfl ?_
    refine mG_if_ne (pc := 2563) (tgt := 2578) C dL_law_2563 (by decide) (fun q24 => ?_) (fun q24 => ?_)
    · rw [if_neg q24] at hf
      refine mG_goto (tgt := 2934) (pc := 2578) C dL_law_2578 (by decide) ?_
      refine mG_ii (ls' := [some (.ref p0), some (.ref p1), some (.ref p2), some (.ref p3), some (.int (i + 5)), some (.int o8.1), some (.int o18.1), none, none]) (pc := 2934) C dL_law_2934 rfl (kinc5 _) rfl rfl rfl ?_
      refine mG_goto (tgt := 23) (pc := 2937) C dL_law_2937 (by decide) ?_
      cases hf
      exact mG_sub (mxLe_s (mxLe_s (mxLe_s (mxLe_s (mxLe_s (mxLe_n (mxLe_n (mxLe_n (mxLe_n mxLe_z))))))))) (K _ _ (by omega) (by omega))
    · rw [if_pos q24] at hf
      refine mG_aload_n (pc := 2566) C dL_law_2566 rfl ?_
      refine mG_ic (pc := 2567) C dL_law_2567 kI0 ?_
      obtain ⟨r25, e26, hf⟩ := mx_bind hf
      refine mG_laload (pc := 2568) C dL_law_2568 e26 ?_
      refine mG_iload (pc := 2569) C dL_law_2569 rfl ?_
      refine mG_i2l (pc := 2571) C dL_law_2571 ?_
      refine mG_lcmp (pc := 2572) C dL_law_2572 ?_
      refine mG_if_eq (pc := 2573) (tgt := 2578) C dL_law_2573 (by decide) (fun q27 => ?_) (fun q27 => ?_)
      · rw [if_pos q27] at hf
        refine mG_goto (tgt := 2934) (pc := 2578) C dL_law_2578 (by decide) ?_
        refine mG_ii (ls' := [some (.ref p0), some (.ref p1), some (.ref p2), some (.ref p3), some (.int (i + 5)), some (.int o8.1), some (.int o18.1), none, none]) (pc := 2934) C dL_law_2934 rfl (kinc5 _) rfl rfl rfl ?_
        refine mG_goto (tgt := 23) (pc := 2937) C dL_law_2937 (by decide) ?_
        cases hf
        exact mG_sub (mxLe_s (mxLe_s (mxLe_s (mxLe_s (mxLe_s (mxLe_n (mxLe_n (mxLe_n (mxLe_n mxLe_z))))))))) (K _ _ (by omega) (by omega))
      · rw [if_neg q27] at hf
        cases hf
  · rw [if_neg q23] at hf
    cases hf
theorem dL_law_2581 : decode cL_law 2581 = .ok (.aload_n 1, 1) := by decide +kernel
theorem dL_law_2582 : decode cL_law 2582 = .ok (.aload_n 0, 1) := by decide +kernel
theorem dL_law_2583 : decode cL_law 2583 = .ok (.iload 4, 2) := by decide +kernel
theorem dL_law_2585 : decode cL_law 2585 = .ok (.iconst 1, 1) := by decide +kernel
theorem dL_law_2586 : decode cL_law 2586 = .ok (.iadd, 1) := by decide +kernel
theorem dL_law_2587 : decode cL_law 2587 = .ok (.iaload, 1) := by decide +kernel
theorem dL_law_2588 : decode cL_law 2588 = .ok (.aload_n 0, 1) := by decide +kernel
theorem dL_law_2589 : decode cL_law 2589 = .ok (.iload 4, 2) := by decide +kernel
theorem dL_law_2591 : decode cL_law 2591 = .ok (.iconst 2, 1) := by decide +kernel
theorem dL_law_2592 : decode cL_law 2592 = .ok (.iadd, 1) := by decide +kernel
theorem dL_law_2593 : decode cL_law 2593 = .ok (.iaload, 1) := by decide +kernel
theorem dL_law_2594 : decode cL_law 2594 = .ok (.aload_n 0, 1) := by decide +kernel
theorem dL_law_2595 : decode cL_law 2595 = .ok (.iload 4, 2) := by decide +kernel
theorem dL_law_2597 : decode cL_law 2597 = .ok (.iconst 3, 1) := by decide +kernel
theorem dL_law_2598 : decode cL_law 2598 = .ok (.iadd, 1) := by decide +kernel
theorem dL_law_2599 : decode cL_law 2599 = .ok (.iaload, 1) := by decide +kernel
theorem dL_law_2600 : decode cL_law 2600 = .ok (.aload_n 0, 1) := by decide +kernel
theorem dL_law_2601 : decode cL_law 2601 = .ok (.iload 4, 2) := by decide +kernel
theorem dL_law_2603 : decode cL_law 2603 = .ok (.iconst 4, 1) := by decide +kernel
theorem dL_law_2604 : decode cL_law 2604 = .ok (.iadd, 1) := by decide +kernel
theorem dL_law_2605 : decode cL_law 2605 = .ok (.iaload, 1) := by decide +kernel
theorem dL_law_2606 : decode cL_law 2606 = .ok (.ifCond .eq 7, 3) := by decide +kernel
theorem dL_law_2609 : decode cL_law 2609 = .ok (.iconst 1, 1) := by decide +kernel
theorem dL_law_2610 : decode cL_law 2610 = .ok (.goto 4, 3) := by decide +kernel
theorem dL_law_2613 : decode cL_law 2613 = .ok (.iconst 0, 1) := by decide +kernel
theorem dL_law_2614 : decode cL_law 2614 = .ok (.aload_n 3, 1) := by decide +kernel
theorem dL_law_2615 : decode cL_law 2615 = .ok (.invokestatic 294, 3) := by decide +kernel
theorem dL_law_2618 : decode cL_law 2618 = .ok (.istore 5, 2) := by decide +kernel
theorem dL_law_2620 : decode cL_law 2620 = .ok (.aload_n 2, 1) := by decide +kernel
theorem dL_law_2621 : decode cL_law 2621 = .ok (.aload_n 0, 1) := by decide +kernel
theorem dL_law_2622 : decode cL_law 2622 = .ok (.iload 4, 2) := by decide +kernel
theorem dL_law_2624 : decode cL_law 2624 = .ok (.iconst 1, 1) := by decide +kernel
theorem dL_law_2625 : decode cL_law 2625 = .ok (.iadd, 1) := by decide +kernel
theorem dL_law_2626 : decode cL_law 2626 = .ok (.iaload, 1) := by decide +kernel
theorem dL_law_2627 : decode cL_law 2627 = .ok (.aload_n 0, 1) := by decide +kernel
theorem dL_law_2628 : decode cL_law 2628 = .ok (.iload 4, 2) := by decide +kernel
theorem dL_law_2630 : decode cL_law 2630 = .ok (.iconst 2, 1) := by decide +kernel
theorem dL_law_2631 : decode cL_law 2631 = .ok (.iadd, 1) := by decide +kernel
theorem dL_law_2632 : decode cL_law 2632 = .ok (.iaload, 1) := by decide +kernel
theorem dL_law_2633 : decode cL_law 2633 = .ok (.aload_n 0, 1) := by decide +kernel
theorem dL_law_2634 : decode cL_law 2634 = .ok (.iload 4, 2) := by decide +kernel
theorem dL_law_2636 : decode cL_law 2636 = .ok (.iconst 3, 1) := by decide +kernel
theorem dL_law_2637 : decode cL_law 2637 = .ok (.iadd, 1) := by decide +kernel
theorem dL_law_2638 : decode cL_law 2638 = .ok (.iaload, 1) := by decide +kernel
theorem dL_law_2639 : decode cL_law 2639 = .ok (.aload_n 0, 1) := by decide +kernel
theorem dL_law_2640 : decode cL_law 2640 = .ok (.iload 4, 2) := by decide +kernel
theorem dL_law_2642 : decode cL_law 2642 = .ok (.iconst 4, 1) := by decide +kernel
theorem dL_law_2643 : decode cL_law 2643 = .ok (.iadd, 1) := by decide +kernel
theorem dL_law_2644 : decode cL_law 2644 = .ok (.iaload, 1) := by decide +kernel
theorem dL_law_2645 : decode cL_law 2645 = .ok (.ifCond .eq 7, 3) := by decide +kernel
theorem dL_law_2648 : decode cL_law 2648 = .ok (.iconst 1, 1) := by decide +kernel
theorem dL_law_2649 : decode cL_law 2649 = .ok (.goto 4, 3) := by decide +kernel
theorem dL_law_2652 : decode cL_law 2652 = .ok (.iconst 0, 1) := by decide +kernel
theorem dL_law_2653 : decode cL_law 2653 = .ok (.invokevirtual 297, 3) := by decide +kernel
theorem dL_law_2656 : decode cL_law 2656 = .ok (.istore 6, 2) := by decide +kernel
theorem dL_law_2658 : decode cL_law 2658 = .ok (.aload_n 2, 1) := by decide +kernel
theorem dL_law_2659 : decode cL_law 2659 = .ok (.invokevirtual 145, 3) := by decide +kernel
theorem dL_law_2662 : decode cL_law 2662 = .ok (.iload 5, 2) := by decide +kernel
theorem dL_law_2664 : decode cL_law 2664 = .ok (.if_icmp .eq 5, 3) := by decide +kernel
theorem dL_law_2667 : decode cL_law 2667 = .ok (.iconst 0, 1) := by decide +kernel
theorem dL_law_2668 : decode cL_law 2668 = .ok (.ireturn, 1) := by decide +kernel
theorem dL_law_2669 : decode cL_law 2669 = .ok (.iload 5, 2) := by decide +kernel
theorem dL_law_2671 : decode cL_law 2671 = .ok (.ifCond .ne 15, 3) := by decide +kernel
theorem dL_law_2674 : decode cL_law 2674 = .ok (.aload_n 3, 1) := by decide +kernel
theorem dL_law_2675 : decode cL_law 2675 = .ok (.iconst 0, 1) := by decide +kernel
theorem dL_law_2676 : decode cL_law 2676 = .ok (.laload, 1) := by decide +kernel
theorem dL_law_2677 : decode cL_law 2677 = .ok (.iload 6, 2) := by decide +kernel
theorem dL_law_2679 : decode cL_law 2679 = .ok (.i2l, 1) := by decide +kernel
theorem dL_law_2680 : decode cL_law 2680 = .ok (.lcmp, 1) := by decide +kernel
theorem dL_law_2681 : decode cL_law 2681 = .ok (.ifCond .eq 5, 3) := by decide +kernel
theorem dL_law_2684 : decode cL_law 2684 = .ok (.iconst 0, 1) := by decide +kernel
theorem dL_law_2685 : decode cL_law 2685 = .ok (.ireturn, 1) := by decide +kernel
theorem dL_law_2686 : decode cL_law 2686 = .ok (.goto 248, 3) := by decide +kernel
def fLa_45 (p0 p1 p2 p3 : Nat) (i : Int32) (h : mxH) : Option (Int32 × mxH) := Option.bind (ldI h p0 (i + 1)) (fun v1 => Option.bind (ldI h p0 (i + 2)) (fun v3 => Option.bind (ldI h p0 (i + 3)) (fun v5 => Option.bind (ldI h p0 (i + 4)) (fun v7 => Option.bind (α := Int32) (if v7 = 0 then some 0 else some 1) (fun p11' : Int32 => Option.bind (fL_pairPlace p1 v1 v3 v5 p11' p3 h) (fun o14 => Option.bind (ldI o14.2 p0 (i + 1)) (fun v15 => Option.bind (ldI o14.2 p0 (i + 2)) (fun v17 => Option.bind (ldI o14.2 p0 (i + 3)) (fun v19 => Option.bind (ldI o14.2 p0 (i + 4)) (fun v21 => Option.bind (α := Int32) (if v21 = 0 then some 0 else some 1) (fun p25' : Int32 => Option.bind (isO o14.2 p2 10) (fun u28 => Option.bind (fX10_pairPlace p2 v15 v17 v19 p25' o14.2) (fun o30 => Option.bind (isO o30.2 p2 10) (fun u32 => Option.bind (fX10_thrown p2 o30.2) (fun v34 => (if v34 = o14.1 then (if o14.1 = 0 then Option.bind (ldJ o30.2 p3 0) (fun r37 => (if (lg_cmp r37 o30.1.toInt64) = 0 then some (i + 5, o30.2) else none)) else some (i + 5, o30.2)) else none))))))))))))))))
set_option maxRecDepth 20000 in
theorem tLa_45 {l : Launch} {Z : mxZ} {X : mxX} (hl : l.stackTraces = false) (C : mxC l Z X RL cL_law 9) (hX : mxRm X = room_1) {p0 p1 p2 p3 : Nat} {i : Int32} {h : mxH} {o : Int32 × mxH} (hf : fLa_45 p0 p1 p2 p3 i h = some o) {k n : Nat} (hk : k + 8 ≤ 601024) (hn : n + 40 ≤ 7293034) (K : ∀ k2 n2, k2 ≤ k + 8 → n2 ≤ n + 40 → mG l Z X 9 k2 n2 23 [some (.ref p0), some (.ref p1), some (.ref p2), some (.ref p3), some (.int o.1), none, none, none, none] [] o.2) : mG l Z X 9 k n 2581 [some (.ref p0), some (.ref p1), some (.ref p2), some (.ref p3), some (.int i), none, none, none, none] [] h := by
  unfold fLa_45 at hf
  refine mG_aload_n (pc := 2581) C dL_law_2581 rfl ?_
  refine mG_aload_n (pc := 2582) C dL_law_2582 rfl ?_
  refine mG_iload (pc := 2583) C dL_law_2583 rfl ?_
  refine mG_ic (pc := 2585) C dL_law_2585 kI1 ?_
  refine mG_iadd (pc := 2586) C dL_law_2586 ?_
  obtain ⟨v1, e2, hf⟩ := mx_bind hf
  refine mG_iaload (pc := 2587) C dL_law_2587 e2 ?_
  refine mG_aload_n (pc := 2588) C dL_law_2588 rfl ?_
  refine mG_iload (pc := 2589) C dL_law_2589 rfl ?_
  refine mG_ic (pc := 2591) C dL_law_2591 kI2 ?_
  refine mG_iadd (pc := 2592) C dL_law_2592 ?_
  obtain ⟨v3, e4, hf⟩ := mx_bind hf
  refine mG_iaload (pc := 2593) C dL_law_2593 e4 ?_
  refine mG_aload_n (pc := 2594) C dL_law_2594 rfl ?_
  refine mG_iload (pc := 2595) C dL_law_2595 rfl ?_
  refine mG_ic (pc := 2597) C dL_law_2597 kI3 ?_
  refine mG_iadd (pc := 2598) C dL_law_2598 ?_
  obtain ⟨v5, e6, hf⟩ := mx_bind hf
  refine mG_iaload (pc := 2599) C dL_law_2599 e6 ?_
  refine mG_aload_n (pc := 2600) C dL_law_2600 rfl ?_
  refine mG_iload (pc := 2601) C dL_law_2601 rfl ?_
  refine mG_ic (pc := 2603) C dL_law_2603 kI4 ?_
  refine mG_iadd (pc := 2604) C dL_law_2604 ?_
  obtain ⟨v7, e8, hf⟩ := mx_bind hf
  refine mG_iaload (pc := 2605) C dL_law_2605 e8 ?_
  obtain ⟨p11, e12, hf⟩ := mx_bind hf
  have J10 : ∀ p11' : Int32, p11' = p11 → mG l Z X 9 k n 2614 [some (.ref p0), some (.ref p1), some (.ref p2), some (.ref p3), some (.int i), none, none, none, none] [.int p11', .int v5, .int v3, .int v1, .ref p1] h := by
    intro p11' q41
    subst q41
    refine mG_aload_n (pc := 2614) C dL_law_2614 rfl ?_
    obtain ⟨o14, e13, hf⟩ := mx_bind hf
    refine mG_cSH (pc := 2615) (k' := (k + 3)) (n' := (n + 18)) [.ref p1, .int v1, .int v3, .int v5, .int p11', .ref p3] [] C hX dL_law_2615 lkH_L_294 rfl (tL_pairPlace hl e13) rfl ⟨by show k + 3 ≤ 601024; omega, by show n + 18 ≤ 7293034; omega⟩ rfl rfl rfl ?_
    refine mG_is (ls' := [some (.ref p0), some (.ref p1), some (.ref p2), some (.ref p3), some (.int i), some (.int o14.1), none, none, none]) (pc := 2618) C dL_law_2618 rfl rfl rfl ?_
    refine mG_aload_n (pc := 2620) C dL_law_2620 rfl ?_
    refine mG_aload_n (pc := 2621) C dL_law_2621 rfl ?_
    refine mG_iload (pc := 2622) C dL_law_2622 rfl ?_
    refine mG_ic (pc := 2624) C dL_law_2624 kI1 ?_
    refine mG_iadd (pc := 2625) C dL_law_2625 ?_
    obtain ⟨v15, e16, hf⟩ := mx_bind hf
    refine mG_iaload (pc := 2626) C dL_law_2626 e16 ?_
    refine mG_aload_n (pc := 2627) C dL_law_2627 rfl ?_
    refine mG_iload (pc := 2628) C dL_law_2628 rfl ?_
    refine mG_ic (pc := 2630) C dL_law_2630 kI2 ?_
    refine mG_iadd (pc := 2631) C dL_law_2631 ?_
    obtain ⟨v17, e18, hf⟩ := mx_bind hf
    refine mG_iaload (pc := 2632) C dL_law_2632 e18 ?_
    refine mG_aload_n (pc := 2633) C dL_law_2633 rfl ?_
    refine mG_iload (pc := 2634) C dL_law_2634 rfl ?_
    refine mG_ic (pc := 2636) C dL_law_2636 kI3 ?_
    refine mG_iadd (pc := 2637) C dL_law_2637 ?_
    obtain ⟨v19, e20, hf⟩ := mx_bind hf
    refine mG_iaload (pc := 2638) C dL_law_2638 e20 ?_
    refine mG_aload_n (pc := 2639) C dL_law_2639 rfl ?_
    refine mG_iload (pc := 2640) C dL_law_2640 rfl ?_
    refine mG_ic (pc := 2642) C dL_law_2642 kI4 ?_
    refine mG_iadd (pc := 2643) C dL_law_2643 ?_
    obtain ⟨v21, e22, hf⟩ := mx_bind hf
    refine mG_iaload (pc := 2644) C dL_law_2644 e22 ?_
    obtain ⟨p25, e26, hf⟩ := mx_bind hf
    have J24 : ∀ p25' : Int32, p25' = p25 → mG l Z X 9 (k + 3) (n + 18) 2653 [some (.ref p0), some (.ref p1), some (.ref p2), some (.ref p3), some (.int i), some (.int o14.1), none, none, none] [.int p25', .int v19, .int v17, .int v15, .ref p2] o14.2 := by
      intro p25' q40
      subst q40
      obtain ⟨u28, e29, hf⟩ := mx_bind hf
      obtain ⟨o30, e27, hf⟩ := mx_bind hf
      refine mG_cV2 (pc := 2653) (k' := (k + 3)) (n' := (n + 18)) 10 [.int v15, .int v17, .int v19, .int p25'] [] C hX dL_law_2653 lkV_L_297 rfl rfl e29 (tX10_pairPlace hl e27) rfl ⟨by show (k + 3) + 0 ≤ 601024; omega, by show (n + 18) + 0 ≤ 7293034; omega⟩ rfl rfl rfl ?_
      refine mG_is (ls' := [some (.ref p0), some (.ref p1), some (.ref p2), some (.ref p3), some (.int i), some (.int o14.1), some (.int o30.1), none, none]) (pc := 2656) C dL_law_2656 rfl rfl rfl ?_
      refine mG_aload_n (pc := 2658) C dL_law_2658 rfl ?_
      obtain ⟨u32, e33, hf⟩ := mx_bind hf
      obtain ⟨v34, e31, hf⟩ := mx_bind hf
      refine mG_cV2 (pc := 2659) (k' := (k + 3)) (n' := (n + 18)) 10 [] [] C hX dL_law_2659 lkV_L_145 rfl rfl e33 (tX10_thrown hl e31) rfl ⟨by show (k + 3) + 0 ≤ 601024; omega, by show (n + 18) + 0 ≤ 7293034; omega⟩ rfl rfl rfl ?_
      refine mG_iload (pc := 2662) C dL_law_2662 rfl ?_
      refine mG_icmp_eq (pc := 2664) (tgt := 2669) C dL_law_2664 (by decide) (fun q35 => ?_) (fun q35 => ?_)
      · rw [if_pos q35] at hf
        refine mG_iload (pc := 2669) C dL_law_2669 rfl ?_
        refine mG_if_ne (pc := 2671) (tgt := 2686) C dL_law_2671 (by decide) (fun q36 => ?_) (fun q36 => ?_)
        · rw [if_neg q36] at hf
          refine mG_goto (tgt := 2934) (pc := 2686) C dL_law_2686 (by decide) ?_
          refine mG_ii (ls' := [some (.ref p0), some (.ref p1), some (.ref p2), some (.ref p3), some (.int (i + 5)), some (.int o14.1), some (.int o30.1), none, none]) (pc := 2934) C dL_law_2934 rfl (kinc5 _) rfl rfl rfl ?_
          refine mG_goto (tgt := 23) (pc := 2937) C dL_law_2937 (by decide) ?_
          cases hf
          exact mG_sub (mxLe_s (mxLe_s (mxLe_s (mxLe_s (mxLe_s (mxLe_n (mxLe_n (mxLe_n (mxLe_n mxLe_z))))))))) (K _ _ (by omega) (by omega))
        · rw [if_pos q36] at hf
          refine mG_aload_n (pc := 2674) C dL_law_2674 rfl ?_
          refine mG_ic (pc := 2675) C dL_law_2675 kI0 ?_
          obtain ⟨r37, e38, hf⟩ := mx_bind hf
          refine mG_laload (pc := 2676) C dL_law_2676 e38 ?_
          refine mG_iload (pc := 2677) C dL_law_2677 rfl ?_
          refine mG_i2l (pc := 2679) C dL_law_2679 ?_
          refine mG_lcmp (pc := 2680) C dL_law_2680 ?_
          refine mG_if_eq (pc := 2681) (tgt := 2686) C dL_law_2681 (by decide) (fun q39 => ?_) (fun q39 => ?_)
          · rw [if_pos q39] at hf
            refine mG_goto (tgt := 2934) (pc := 2686) C dL_law_2686 (by decide) ?_
            refine mG_ii (ls' := [some (.ref p0), some (.ref p1), some (.ref p2), some (.ref p3), some (.int (i + 5)), some (.int o14.1), some (.int o30.1), none, none]) (pc := 2934) C dL_law_2934 rfl (kinc5 _) rfl rfl rfl ?_
            refine mG_goto (tgt := 23) (pc := 2937) C dL_law_2937 (by decide) ?_
            cases hf
            exact mG_sub (mxLe_s (mxLe_s (mxLe_s (mxLe_s (mxLe_s (mxLe_n (mxLe_n (mxLe_n (mxLe_n mxLe_z))))))))) (K _ _ (by omega) (by omega))
          · rw [if_neg q39] at hf
            cases hf
      · rw [if_neg q35] at hf
        cases hf
    refine mG_if_eq (pc := 2645) (tgt := 2652) C dL_law_2645 (by decide) (fun q23 => ?_) (fun q23 => ?_)
    · rw [if_pos q23] at e26
      refine mG_ic (pc := 2652) C dL_law_2652 kI0 ?_
      exact mG_sub (mxLe_s (mxLe_s (mxLe_s (mxLe_s (mxLe_s (mxLe_s (mxLe_n (mxLe_n (mxLe_n mxLe_z))))))))) (J24 _ (Option.some.inj e26))
    · rw [if_neg q23] at e26
      refine mG_ic (pc := 2648) C dL_law_2648 kI1 ?_
      refine mG_goto (tgt := 2653) (pc := 2649) C dL_law_2649 (by decide) ?_
      exact mG_sub (mxLe_s (mxLe_s (mxLe_s (mxLe_s (mxLe_s (mxLe_s (mxLe_n (mxLe_n (mxLe_n mxLe_z))))))))) (J24 _ (Option.some.inj e26))
  refine mG_if_eq (pc := 2606) (tgt := 2613) C dL_law_2606 (by decide) (fun q9 => ?_) (fun q9 => ?_)
  · rw [if_pos q9] at e12
    refine mG_ic (pc := 2613) C dL_law_2613 kI0 ?_
    exact mG_sub (mxLe_s (mxLe_s (mxLe_s (mxLe_s (mxLe_s (mxLe_n (mxLe_n (mxLe_n (mxLe_n mxLe_z))))))))) (J10 _ (Option.some.inj e12))
  · rw [if_neg q9] at e12
    refine mG_ic (pc := 2609) C dL_law_2609 kI1 ?_
    refine mG_goto (tgt := 2614) (pc := 2610) C dL_law_2610 (by decide) ?_
    exact mG_sub (mxLe_s (mxLe_s (mxLe_s (mxLe_s (mxLe_s (mxLe_n (mxLe_n (mxLe_n (mxLe_n mxLe_z))))))))) (J10 _ (Option.some.inj e12))
theorem dL_law_2689 : decode cL_law 2689 = .ok (.aload_n 1, 1) := by decide +kernel
theorem dL_law_2690 : decode cL_law 2690 = .ok (.aload_n 0, 1) := by decide +kernel
theorem dL_law_2691 : decode cL_law 2691 = .ok (.iload 4, 2) := by decide +kernel
theorem dL_law_2693 : decode cL_law 2693 = .ok (.iconst 1, 1) := by decide +kernel
theorem dL_law_2694 : decode cL_law 2694 = .ok (.iadd, 1) := by decide +kernel
theorem dL_law_2695 : decode cL_law 2695 = .ok (.iaload, 1) := by decide +kernel
theorem dL_law_2696 : decode cL_law 2696 = .ok (.aload_n 0, 1) := by decide +kernel
theorem dL_law_2697 : decode cL_law 2697 = .ok (.iload 4, 2) := by decide +kernel
theorem dL_law_2699 : decode cL_law 2699 = .ok (.iconst 2, 1) := by decide +kernel
theorem dL_law_2700 : decode cL_law 2700 = .ok (.iadd, 1) := by decide +kernel
theorem dL_law_2701 : decode cL_law 2701 = .ok (.iaload, 1) := by decide +kernel
theorem dL_law_2702 : decode cL_law 2702 = .ok (.aload_n 3, 1) := by decide +kernel
theorem dL_law_2703 : decode cL_law 2703 = .ok (.invokestatic 298, 3) := by decide +kernel
theorem dL_law_2706 : decode cL_law 2706 = .ok (.istore 5, 2) := by decide +kernel
theorem dL_law_2708 : decode cL_law 2708 = .ok (.aload_n 2, 1) := by decide +kernel
theorem dL_law_2709 : decode cL_law 2709 = .ok (.aload_n 0, 1) := by decide +kernel
theorem dL_law_2710 : decode cL_law 2710 = .ok (.iload 4, 2) := by decide +kernel
theorem dL_law_2712 : decode cL_law 2712 = .ok (.iconst 1, 1) := by decide +kernel
theorem dL_law_2713 : decode cL_law 2713 = .ok (.iadd, 1) := by decide +kernel
theorem dL_law_2714 : decode cL_law 2714 = .ok (.iaload, 1) := by decide +kernel
theorem dL_law_2715 : decode cL_law 2715 = .ok (.aload_n 0, 1) := by decide +kernel
theorem dL_law_2716 : decode cL_law 2716 = .ok (.iload 4, 2) := by decide +kernel
theorem dL_law_2718 : decode cL_law 2718 = .ok (.iconst 2, 1) := by decide +kernel
theorem dL_law_2719 : decode cL_law 2719 = .ok (.iadd, 1) := by decide +kernel
theorem dL_law_2720 : decode cL_law 2720 = .ok (.iaload, 1) := by decide +kernel
theorem dL_law_2721 : decode cL_law 2721 = .ok (.invokevirtual 300, 3) := by decide +kernel
theorem dL_law_2724 : decode cL_law 2724 = .ok (.istore 6, 2) := by decide +kernel
theorem dL_law_2726 : decode cL_law 2726 = .ok (.aload_n 2, 1) := by decide +kernel
theorem dL_law_2727 : decode cL_law 2727 = .ok (.invokevirtual 145, 3) := by decide +kernel
theorem dL_law_2730 : decode cL_law 2730 = .ok (.iload 5, 2) := by decide +kernel
theorem dL_law_2732 : decode cL_law 2732 = .ok (.if_icmp .eq 5, 3) := by decide +kernel
theorem dL_law_2735 : decode cL_law 2735 = .ok (.iconst 0, 1) := by decide +kernel
theorem dL_law_2736 : decode cL_law 2736 = .ok (.ireturn, 1) := by decide +kernel
theorem dL_law_2737 : decode cL_law 2737 = .ok (.iload 5, 2) := by decide +kernel
theorem dL_law_2739 : decode cL_law 2739 = .ok (.ifCond .ne 15, 3) := by decide +kernel
theorem dL_law_2742 : decode cL_law 2742 = .ok (.aload_n 3, 1) := by decide +kernel
theorem dL_law_2743 : decode cL_law 2743 = .ok (.iconst 0, 1) := by decide +kernel
theorem dL_law_2744 : decode cL_law 2744 = .ok (.laload, 1) := by decide +kernel
theorem dL_law_2745 : decode cL_law 2745 = .ok (.iload 6, 2) := by decide +kernel
theorem dL_law_2747 : decode cL_law 2747 = .ok (.i2l, 1) := by decide +kernel
theorem dL_law_2748 : decode cL_law 2748 = .ok (.lcmp, 1) := by decide +kernel
theorem dL_law_2749 : decode cL_law 2749 = .ok (.ifCond .eq 5, 3) := by decide +kernel
theorem dL_law_2752 : decode cL_law 2752 = .ok (.iconst 0, 1) := by decide +kernel
theorem dL_law_2753 : decode cL_law 2753 = .ok (.ireturn, 1) := by decide +kernel
theorem dL_law_2754 : decode cL_law 2754 = .ok (.goto 180, 3) := by decide +kernel
def fLa_46 (p0 p1 p2 p3 : Nat) (i : Int32) (h : mxH) : Option (Int32 × mxH) := Option.bind (ldI h p0 (i + 1)) (fun v1 => Option.bind (ldI h p0 (i + 2)) (fun v3 => Option.bind (fL_common p1 v1 v3 p3 h) (fun o6 => Option.bind (ldI o6.2 p0 (i + 1)) (fun v7 => Option.bind (ldI o6.2 p0 (i + 2)) (fun v9 => Option.bind (isO o6.2 p2 10) (fun u12 => Option.bind (fX10_common p2 v7 v9 o6.2) (fun o14 => Option.bind (isO o14.2 p2 10) (fun u16 => Option.bind (fX10_thrown p2 o14.2) (fun v18 => (if v18 = o6.1 then (if o6.1 = 0 then Option.bind (ldJ o14.2 p3 0) (fun r21 => (if (lg_cmp r21 o14.1.toInt64) = 0 then some (i + 5, o14.2) else none)) else some (i + 5, o14.2)) else none))))))))))
set_option maxRecDepth 20000 in
theorem tLa_46 {l : Launch} {Z : mxZ} {X : mxX} (hl : l.stackTraces = false) (C : mxC l Z X RL cL_law 9) (hX : mxRm X = room_1) {p0 p1 p2 p3 : Nat} {i : Int32} {h : mxH} {o : Int32 × mxH} (hf : fLa_46 p0 p1 p2 p3 i h = some o) {k n : Nat} (hk : k + 8 ≤ 601024) (hn : n + 40 ≤ 7293034) (K : ∀ k2 n2, k2 ≤ k + 8 → n2 ≤ n + 40 → mG l Z X 9 k2 n2 23 [some (.ref p0), some (.ref p1), some (.ref p2), some (.ref p3), some (.int o.1), none, none, none, none] [] o.2) : mG l Z X 9 k n 2689 [some (.ref p0), some (.ref p1), some (.ref p2), some (.ref p3), some (.int i), none, none, none, none] [] h := by
  unfold fLa_46 at hf
  refine mG_aload_n (pc := 2689) C dL_law_2689 rfl ?_
  refine mG_aload_n (pc := 2690) C dL_law_2690 rfl ?_
  refine mG_iload (pc := 2691) C dL_law_2691 rfl ?_
  refine mG_ic (pc := 2693) C dL_law_2693 kI1 ?_
  refine mG_iadd (pc := 2694) C dL_law_2694 ?_
  obtain ⟨v1, e2, hf⟩ := mx_bind hf
  refine mG_iaload (pc := 2695) C dL_law_2695 e2 ?_
  refine mG_aload_n (pc := 2696) C dL_law_2696 rfl ?_
  refine mG_iload (pc := 2697) C dL_law_2697 rfl ?_
  refine mG_ic (pc := 2699) C dL_law_2699 kI2 ?_
  refine mG_iadd (pc := 2700) C dL_law_2700 ?_
  obtain ⟨v3, e4, hf⟩ := mx_bind hf
  refine mG_iaload (pc := 2701) C dL_law_2701 e4 ?_
  refine mG_aload_n (pc := 2702) C dL_law_2702 rfl ?_
  obtain ⟨o6, e5, hf⟩ := mx_bind hf
  refine mG_cSH (pc := 2703) (k' := (k + 2)) (n' := (n + 12)) [.ref p1, .int v1, .int v3, .ref p3] [] C hX dL_law_2703 lkH_L_298 rfl (tL_common hl e5) rfl ⟨by show k + 2 ≤ 601024; omega, by show n + 12 ≤ 7293034; omega⟩ rfl rfl rfl ?_
  refine mG_is (ls' := [some (.ref p0), some (.ref p1), some (.ref p2), some (.ref p3), some (.int i), some (.int o6.1), none, none, none]) (pc := 2706) C dL_law_2706 rfl rfl rfl ?_
  refine mG_aload_n (pc := 2708) C dL_law_2708 rfl ?_
  refine mG_aload_n (pc := 2709) C dL_law_2709 rfl ?_
  refine mG_iload (pc := 2710) C dL_law_2710 rfl ?_
  refine mG_ic (pc := 2712) C dL_law_2712 kI1 ?_
  refine mG_iadd (pc := 2713) C dL_law_2713 ?_
  obtain ⟨v7, e8, hf⟩ := mx_bind hf
  refine mG_iaload (pc := 2714) C dL_law_2714 e8 ?_
  refine mG_aload_n (pc := 2715) C dL_law_2715 rfl ?_
  refine mG_iload (pc := 2716) C dL_law_2716 rfl ?_
  refine mG_ic (pc := 2718) C dL_law_2718 kI2 ?_
  refine mG_iadd (pc := 2719) C dL_law_2719 ?_
  obtain ⟨v9, e10, hf⟩ := mx_bind hf
  refine mG_iaload (pc := 2720) C dL_law_2720 e10 ?_
  obtain ⟨u12, e13, hf⟩ := mx_bind hf
  obtain ⟨o14, e11, hf⟩ := mx_bind hf
  refine mG_cV2 (pc := 2721) (k' := (k + 2)) (n' := (n + 12)) 10 [.int v7, .int v9] [] C hX dL_law_2721 lkV_L_300 rfl rfl e13 (tX10_common hl e11) rfl ⟨by show (k + 2) + 0 ≤ 601024; omega, by show (n + 12) + 0 ≤ 7293034; omega⟩ rfl rfl rfl ?_
  refine mG_is (ls' := [some (.ref p0), some (.ref p1), some (.ref p2), some (.ref p3), some (.int i), some (.int o6.1), some (.int o14.1), none, none]) (pc := 2724) C dL_law_2724 rfl rfl rfl ?_
  refine mG_aload_n (pc := 2726) C dL_law_2726 rfl ?_
  obtain ⟨u16, e17, hf⟩ := mx_bind hf
  obtain ⟨v18, e15, hf⟩ := mx_bind hf
  refine mG_cV2 (pc := 2727) (k' := (k + 2)) (n' := (n + 12)) 10 [] [] C hX dL_law_2727 lkV_L_145 rfl rfl e17 (tX10_thrown hl e15) rfl ⟨by show (k + 2) + 0 ≤ 601024; omega, by show (n + 12) + 0 ≤ 7293034; omega⟩ rfl rfl rfl ?_
  refine mG_iload (pc := 2730) C dL_law_2730 rfl ?_
  refine mG_icmp_eq (pc := 2732) (tgt := 2737) C dL_law_2732 (by decide) (fun q19 => ?_) (fun q19 => ?_)
  · rw [if_pos q19] at hf
    refine mG_iload (pc := 2737) C dL_law_2737 rfl ?_
    refine mG_if_ne (pc := 2739) (tgt := 2754) C dL_law_2739 (by decide) (fun q20 => ?_) (fun q20 => ?_)
    · rw [if_neg q20] at hf
      refine mG_goto (tgt := 2934) (pc := 2754) C dL_law_2754 (by decide) ?_
      refine mG_ii (ls' := [some (.ref p0), some (.ref p1), some (.ref p2), some (.ref p3), some (.int (i + 5)), some (.int o6.1), some (.int o14.1), none, none]) (pc := 2934) C dL_law_2934 rfl (kinc5 _) rfl rfl rfl ?_
      refine mG_goto (tgt := 23) (pc := 2937) C dL_law_2937 (by decide) ?_
      cases hf
      exact mG_sub (mxLe_s (mxLe_s (mxLe_s (mxLe_s (mxLe_s (mxLe_n (mxLe_n (mxLe_n (mxLe_n mxLe_z))))))))) (K _ _ (by omega) (by omega))
    · rw [if_pos q20] at hf
      refine mG_aload_n (pc := 2742) C dL_law_2742 rfl ?_
      refine mG_ic (pc := 2743) C dL_law_2743 kI0 ?_
      obtain ⟨r21, e22, hf⟩ := mx_bind hf
      refine mG_laload (pc := 2744) C dL_law_2744 e22 ?_
      refine mG_iload (pc := 2745) C dL_law_2745 rfl ?_
      refine mG_i2l (pc := 2747) C dL_law_2747 ?_
      refine mG_lcmp (pc := 2748) C dL_law_2748 ?_
      refine mG_if_eq (pc := 2749) (tgt := 2754) C dL_law_2749 (by decide) (fun q23 => ?_) (fun q23 => ?_)
      · rw [if_pos q23] at hf
        refine mG_goto (tgt := 2934) (pc := 2754) C dL_law_2754 (by decide) ?_
        refine mG_ii (ls' := [some (.ref p0), some (.ref p1), some (.ref p2), some (.ref p3), some (.int (i + 5)), some (.int o6.1), some (.int o14.1), none, none]) (pc := 2934) C dL_law_2934 rfl (kinc5 _) rfl rfl rfl ?_
        refine mG_goto (tgt := 23) (pc := 2937) C dL_law_2937 (by decide) ?_
        cases hf
        exact mG_sub (mxLe_s (mxLe_s (mxLe_s (mxLe_s (mxLe_s (mxLe_n (mxLe_n (mxLe_n (mxLe_n mxLe_z))))))))) (K _ _ (by omega) (by omega))
      · rw [if_neg q23] at hf
        cases hf
  · rw [if_neg q19] at hf
    cases hf
theorem dL_law_2757 : decode cL_law 2757 = .ok (.aload_n 1, 1) := by decide +kernel
theorem dL_law_2758 : decode cL_law 2758 = .ok (.aload_n 0, 1) := by decide +kernel
theorem dL_law_2759 : decode cL_law 2759 = .ok (.iload 4, 2) := by decide +kernel
theorem dL_law_2761 : decode cL_law 2761 = .ok (.iconst 1, 1) := by decide +kernel
theorem dL_law_2762 : decode cL_law 2762 = .ok (.iadd, 1) := by decide +kernel
theorem dL_law_2763 : decode cL_law 2763 = .ok (.iaload, 1) := by decide +kernel
theorem dL_law_2764 : decode cL_law 2764 = .ok (.aload_n 0, 1) := by decide +kernel
theorem dL_law_2765 : decode cL_law 2765 = .ok (.iload 4, 2) := by decide +kernel
theorem dL_law_2767 : decode cL_law 2767 = .ok (.iconst 2, 1) := by decide +kernel
theorem dL_law_2768 : decode cL_law 2768 = .ok (.iadd, 1) := by decide +kernel
theorem dL_law_2769 : decode cL_law 2769 = .ok (.iaload, 1) := by decide +kernel
theorem dL_law_2770 : decode cL_law 2770 = .ok (.aload_n 0, 1) := by decide +kernel
theorem dL_law_2771 : decode cL_law 2771 = .ok (.iload 4, 2) := by decide +kernel
theorem dL_law_2773 : decode cL_law 2773 = .ok (.iconst 3, 1) := by decide +kernel
theorem dL_law_2774 : decode cL_law 2774 = .ok (.iadd, 1) := by decide +kernel
theorem dL_law_2775 : decode cL_law 2775 = .ok (.iaload, 1) := by decide +kernel
theorem dL_law_2776 : decode cL_law 2776 = .ok (.aload_n 3, 1) := by decide +kernel
theorem dL_law_2777 : decode cL_law 2777 = .ok (.invokestatic 301, 3) := by decide +kernel
theorem dL_law_2780 : decode cL_law 2780 = .ok (.istore 5, 2) := by decide +kernel
theorem dL_law_2782 : decode cL_law 2782 = .ok (.aload_n 2, 1) := by decide +kernel
theorem dL_law_2783 : decode cL_law 2783 = .ok (.aload_n 0, 1) := by decide +kernel
theorem dL_law_2784 : decode cL_law 2784 = .ok (.iload 4, 2) := by decide +kernel
theorem dL_law_2786 : decode cL_law 2786 = .ok (.iconst 1, 1) := by decide +kernel
theorem dL_law_2787 : decode cL_law 2787 = .ok (.iadd, 1) := by decide +kernel
theorem dL_law_2788 : decode cL_law 2788 = .ok (.iaload, 1) := by decide +kernel
theorem dL_law_2789 : decode cL_law 2789 = .ok (.aload_n 0, 1) := by decide +kernel
theorem dL_law_2790 : decode cL_law 2790 = .ok (.iload 4, 2) := by decide +kernel
theorem dL_law_2792 : decode cL_law 2792 = .ok (.iconst 2, 1) := by decide +kernel
theorem dL_law_2793 : decode cL_law 2793 = .ok (.iadd, 1) := by decide +kernel
theorem dL_law_2794 : decode cL_law 2794 = .ok (.iaload, 1) := by decide +kernel
theorem dL_law_2795 : decode cL_law 2795 = .ok (.aload_n 0, 1) := by decide +kernel
theorem dL_law_2796 : decode cL_law 2796 = .ok (.iload 4, 2) := by decide +kernel
theorem dL_law_2798 : decode cL_law 2798 = .ok (.iconst 3, 1) := by decide +kernel
theorem dL_law_2799 : decode cL_law 2799 = .ok (.iadd, 1) := by decide +kernel
theorem dL_law_2800 : decode cL_law 2800 = .ok (.iaload, 1) := by decide +kernel
theorem dL_law_2801 : decode cL_law 2801 = .ok (.invokevirtual 303, 3) := by decide +kernel
theorem dL_law_2804 : decode cL_law 2804 = .ok (.istore 6, 2) := by decide +kernel
theorem dL_law_2806 : decode cL_law 2806 = .ok (.aload_n 2, 1) := by decide +kernel
theorem dL_law_2807 : decode cL_law 2807 = .ok (.invokevirtual 145, 3) := by decide +kernel
theorem dL_law_2810 : decode cL_law 2810 = .ok (.iload 5, 2) := by decide +kernel
theorem dL_law_2812 : decode cL_law 2812 = .ok (.if_icmp .eq 5, 3) := by decide +kernel
theorem dL_law_2815 : decode cL_law 2815 = .ok (.iconst 0, 1) := by decide +kernel
theorem dL_law_2816 : decode cL_law 2816 = .ok (.ireturn, 1) := by decide +kernel
theorem dL_law_2817 : decode cL_law 2817 = .ok (.iload 5, 2) := by decide +kernel
theorem dL_law_2819 : decode cL_law 2819 = .ok (.ifCond .ne 15, 3) := by decide +kernel
theorem dL_law_2822 : decode cL_law 2822 = .ok (.aload_n 3, 1) := by decide +kernel
theorem dL_law_2823 : decode cL_law 2823 = .ok (.iconst 0, 1) := by decide +kernel
theorem dL_law_2824 : decode cL_law 2824 = .ok (.laload, 1) := by decide +kernel
theorem dL_law_2825 : decode cL_law 2825 = .ok (.iload 6, 2) := by decide +kernel
theorem dL_law_2827 : decode cL_law 2827 = .ok (.i2l, 1) := by decide +kernel
theorem dL_law_2828 : decode cL_law 2828 = .ok (.lcmp, 1) := by decide +kernel
theorem dL_law_2829 : decode cL_law 2829 = .ok (.ifCond .eq 5, 3) := by decide +kernel
theorem dL_law_2832 : decode cL_law 2832 = .ok (.iconst 0, 1) := by decide +kernel
theorem dL_law_2833 : decode cL_law 2833 = .ok (.ireturn, 1) := by decide +kernel
theorem dL_law_2834 : decode cL_law 2834 = .ok (.goto 100, 3) := by decide +kernel
def fLa_47 (p0 p1 p2 p3 : Nat) (i : Int32) (h : mxH) : Option (Int32 × mxH) := Option.bind (ldI h p0 (i + 1)) (fun v1 => Option.bind (ldI h p0 (i + 2)) (fun v3 => Option.bind (ldI h p0 (i + 3)) (fun v5 => Option.bind (fL_commonAt p1 v1 v3 v5 p3 h) (fun o8 => Option.bind (ldI o8.2 p0 (i + 1)) (fun v9 => Option.bind (ldI o8.2 p0 (i + 2)) (fun v11 => Option.bind (ldI o8.2 p0 (i + 3)) (fun v13 => Option.bind (isO o8.2 p2 10) (fun u16 => Option.bind (fX10_commonAt p2 v9 v11 v13 o8.2) (fun o18 => Option.bind (isO o18.2 p2 10) (fun u20 => Option.bind (fX10_thrown p2 o18.2) (fun v22 => (if v22 = o8.1 then (if o8.1 = 0 then Option.bind (ldJ o18.2 p3 0) (fun r25 => (if (lg_cmp r25 o18.1.toInt64) = 0 then some (i + 5, o18.2) else none)) else some (i + 5, o18.2)) else none))))))))))))
set_option maxRecDepth 20000 in
theorem tLa_47 {l : Launch} {Z : mxZ} {X : mxX} (hl : l.stackTraces = false) (C : mxC l Z X RL cL_law 9) (hX : mxRm X = room_1) {p0 p1 p2 p3 : Nat} {i : Int32} {h : mxH} {o : Int32 × mxH} (hf : fLa_47 p0 p1 p2 p3 i h = some o) {k n : Nat} (hk : k + 8 ≤ 601024) (hn : n + 40 ≤ 7293034) (K : ∀ k2 n2, k2 ≤ k + 8 → n2 ≤ n + 40 → mG l Z X 9 k2 n2 23 [some (.ref p0), some (.ref p1), some (.ref p2), some (.ref p3), some (.int o.1), none, none, none, none] [] o.2) : mG l Z X 9 k n 2757 [some (.ref p0), some (.ref p1), some (.ref p2), some (.ref p3), some (.int i), none, none, none, none] [] h := by
  unfold fLa_47 at hf
  refine mG_aload_n (pc := 2757) C dL_law_2757 rfl ?_
  refine mG_aload_n (pc := 2758) C dL_law_2758 rfl ?_
  refine mG_iload (pc := 2759) C dL_law_2759 rfl ?_
  refine mG_ic (pc := 2761) C dL_law_2761 kI1 ?_
  refine mG_iadd (pc := 2762) C dL_law_2762 ?_
  obtain ⟨v1, e2, hf⟩ := mx_bind hf
  refine mG_iaload (pc := 2763) C dL_law_2763 e2 ?_
  refine mG_aload_n (pc := 2764) C dL_law_2764 rfl ?_
  refine mG_iload (pc := 2765) C dL_law_2765 rfl ?_
  refine mG_ic (pc := 2767) C dL_law_2767 kI2 ?_
  refine mG_iadd (pc := 2768) C dL_law_2768 ?_
  obtain ⟨v3, e4, hf⟩ := mx_bind hf
  refine mG_iaload (pc := 2769) C dL_law_2769 e4 ?_
  refine mG_aload_n (pc := 2770) C dL_law_2770 rfl ?_
  refine mG_iload (pc := 2771) C dL_law_2771 rfl ?_
  refine mG_ic (pc := 2773) C dL_law_2773 kI3 ?_
  refine mG_iadd (pc := 2774) C dL_law_2774 ?_
  obtain ⟨v5, e6, hf⟩ := mx_bind hf
  refine mG_iaload (pc := 2775) C dL_law_2775 e6 ?_
  refine mG_aload_n (pc := 2776) C dL_law_2776 rfl ?_
  obtain ⟨o8, e7, hf⟩ := mx_bind hf
  refine mG_cSH (pc := 2777) (k' := (k + 3)) (n' := (n + 18)) [.ref p1, .int v1, .int v3, .int v5, .ref p3] [] C hX dL_law_2777 lkH_L_301 rfl (tL_commonAt hl e7) rfl ⟨by show k + 3 ≤ 601024; omega, by show n + 18 ≤ 7293034; omega⟩ rfl rfl rfl ?_
  refine mG_is (ls' := [some (.ref p0), some (.ref p1), some (.ref p2), some (.ref p3), some (.int i), some (.int o8.1), none, none, none]) (pc := 2780) C dL_law_2780 rfl rfl rfl ?_
  refine mG_aload_n (pc := 2782) C dL_law_2782 rfl ?_
  refine mG_aload_n (pc := 2783) C dL_law_2783 rfl ?_
  refine mG_iload (pc := 2784) C dL_law_2784 rfl ?_
  refine mG_ic (pc := 2786) C dL_law_2786 kI1 ?_
  refine mG_iadd (pc := 2787) C dL_law_2787 ?_
  obtain ⟨v9, e10, hf⟩ := mx_bind hf
  refine mG_iaload (pc := 2788) C dL_law_2788 e10 ?_
  refine mG_aload_n (pc := 2789) C dL_law_2789 rfl ?_
  refine mG_iload (pc := 2790) C dL_law_2790 rfl ?_
  refine mG_ic (pc := 2792) C dL_law_2792 kI2 ?_
  refine mG_iadd (pc := 2793) C dL_law_2793 ?_
  obtain ⟨v11, e12, hf⟩ := mx_bind hf
  refine mG_iaload (pc := 2794) C dL_law_2794 e12 ?_
  refine mG_aload_n (pc := 2795) C dL_law_2795 rfl ?_
  refine mG_iload (pc := 2796) C dL_law_2796 rfl ?_
  refine mG_ic (pc := 2798) C dL_law_2798 kI3 ?_
  refine mG_iadd (pc := 2799) C dL_law_2799 ?_
  obtain ⟨v13, e14, hf⟩ := mx_bind hf
  refine mG_iaload (pc := 2800) C dL_law_2800 e14 ?_
  obtain ⟨u16, e17, hf⟩ := mx_bind hf
  obtain ⟨o18, e15, hf⟩ := mx_bind hf
  refine mG_cV2 (pc := 2801) (k' := (k + 3)) (n' := (n + 18)) 10 [.int v9, .int v11, .int v13] [] C hX dL_law_2801 lkV_L_303 rfl rfl e17 (tX10_commonAt hl e15) rfl ⟨by show (k + 3) + 0 ≤ 601024; omega, by show (n + 18) + 0 ≤ 7293034; omega⟩ rfl rfl rfl ?_
  refine mG_is (ls' := [some (.ref p0), some (.ref p1), some (.ref p2), some (.ref p3), some (.int i), some (.int o8.1), some (.int o18.1), none, none]) (pc := 2804) C dL_law_2804 rfl rfl rfl ?_
  refine mG_aload_n (pc := 2806) C dL_law_2806 rfl ?_
  obtain ⟨u20, e21, hf⟩ := mx_bind hf
  obtain ⟨v22, e19, hf⟩ := mx_bind hf
  refine mG_cV2 (pc := 2807) (k' := (k + 3)) (n' := (n + 18)) 10 [] [] C hX dL_law_2807 lkV_L_145 rfl rfl e21 (tX10_thrown hl e19) rfl ⟨by show (k + 3) + 0 ≤ 601024; omega, by show (n + 18) + 0 ≤ 7293034; omega⟩ rfl rfl rfl ?_
  refine mG_iload (pc := 2810) C dL_law_2810 rfl ?_
  refine mG_icmp_eq (pc := 2812) (tgt := 2817) C dL_law_2812 (by decide) (fun q23 => ?_) (fun q23 => ?_)
  · rw [if_pos q23] at hf
    refine mG_iload (pc := 2817) C dL_law_2817 rfl ?_
    refine mG_if_ne (pc := 2819) (tgt := 2834) C dL_law_2819 (by decide) (fun q24 => ?_) (fun q24 => ?_)
    · rw [if_neg q24] at hf
      refine mG_goto (tgt := 2934) (pc := 2834) C dL_law_2834 (by decide) ?_
      refine mG_ii (ls' := [some (.ref p0), some (.ref p1), some (.ref p2), some (.ref p3), some (.int (i + 5)), some (.int o8.1), some (.int o18.1), none, none]) (pc := 2934) C dL_law_2934 rfl (kinc5 _) rfl rfl rfl ?_
      refine mG_goto (tgt := 23) (pc := 2937) C dL_law_2937 (by decide) ?_
      cases hf
      exact mG_sub (mxLe_s (mxLe_s (mxLe_s (mxLe_s (mxLe_s (mxLe_n (mxLe_n (mxLe_n (mxLe_n mxLe_z))))))))) (K _ _ (by omega) (by omega))
    · rw [if_pos q24] at hf
      refine mG_aload_n (pc := 2822) C dL_law_2822 rfl ?_
      refine mG_ic (pc := 2823) C dL_law_2823 kI0 ?_
      obtain ⟨r25, e26, hf⟩ := mx_bind hf
      refine mG_laload (pc := 2824) C dL_law_2824 e26 ?_
      refine mG_iload (pc := 2825) C dL_law_2825 rfl ?_
      refine mG_i2l (pc := 2827) C dL_law_2827 ?_
      refine mG_lcmp (pc := 2828) C dL_law_2828 ?_
      refine mG_if_eq (pc := 2829) (tgt := 2834) C dL_law_2829 (by decide) (fun q27 => ?_) (fun q27 => ?_)
      · rw [if_pos q27] at hf
        refine mG_goto (tgt := 2934) (pc := 2834) C dL_law_2834 (by decide) ?_
        refine mG_ii (ls' := [some (.ref p0), some (.ref p1), some (.ref p2), some (.ref p3), some (.int (i + 5)), some (.int o8.1), some (.int o18.1), none, none]) (pc := 2934) C dL_law_2934 rfl (kinc5 _) rfl rfl rfl ?_
        refine mG_goto (tgt := 23) (pc := 2937) C dL_law_2937 (by decide) ?_
        cases hf
        exact mG_sub (mxLe_s (mxLe_s (mxLe_s (mxLe_s (mxLe_s (mxLe_n (mxLe_n (mxLe_n (mxLe_n mxLe_z))))))))) (K _ _ (by omega) (by omega))
      · rw [if_neg q27] at hf
        cases hf
  · rw [if_neg q23] at hf
    cases hf
theorem dL_law_2837 : decode cL_law 2837 = .ok (.aload_n 1, 1) := by decide +kernel
theorem dL_law_2838 : decode cL_law 2838 = .ok (.invokevirtual 304, 3) := by decide +kernel
theorem dL_law_2841 : decode cL_law 2841 = .ok (.dstore 5, 2) := by decide +kernel
theorem dL_law_2843 : decode cL_law 2843 = .ok (.aload_n 2, 1) := by decide +kernel
theorem dL_law_2844 : decode cL_law 2844 = .ok (.invokevirtual 308, 3) := by decide +kernel
theorem dL_law_2847 : decode cL_law 2847 = .ok (.dstore 7, 2) := by decide +kernel
theorem dL_law_2849 : decode cL_law 2849 = .ok (.dload 5, 2) := by decide +kernel
theorem dL_law_2851 : decode cL_law 2851 = .ok (.dload 7, 2) := by decide +kernel
theorem dL_law_2853 : decode cL_law 2853 = .ok (.dcmp .l, 1) := by decide +kernel
theorem dL_law_2854 : decode cL_law 2854 = .ok (.ifCond .eq 21, 3) := by decide +kernel
theorem dL_law_2857 : decode cL_law 2857 = .ok (.dload 5, 2) := by decide +kernel
theorem dL_law_2859 : decode cL_law 2859 = .ok (.dload 5, 2) := by decide +kernel
theorem dL_law_2861 : decode cL_law 2861 = .ok (.dcmp .l, 1) := by decide +kernel
theorem dL_law_2862 : decode cL_law 2862 = .ok (.ifCond .eq 11, 3) := by decide +kernel
theorem dL_law_2865 : decode cL_law 2865 = .ok (.dload 7, 2) := by decide +kernel
theorem dL_law_2867 : decode cL_law 2867 = .ok (.dload 7, 2) := by decide +kernel
theorem dL_law_2869 : decode cL_law 2869 = .ok (.dcmp .l, 1) := by decide +kernel
theorem dL_law_2870 : decode cL_law 2870 = .ok (.ifCond .ne 5, 3) := by decide +kernel
theorem dL_law_2873 : decode cL_law 2873 = .ok (.iconst 0, 1) := by decide +kernel
theorem dL_law_2874 : decode cL_law 2874 = .ok (.ireturn, 1) := by decide +kernel
theorem dL_law_2875 : decode cL_law 2875 = .ok (.goto 59, 3) := by decide +kernel
def fLa_48 (p0 p1 p2 p3 : Nat) (i : Int32) (h : mxH) : Option (Int32 × mxH) := Option.bind (isO h p1 9) (fun u2 => Option.bind (fX9_meanMark p1 h) (fun v4 => Option.bind (isO h p2 10) (fun u6 => Option.bind (fX10_meanMark p2 h) (fun o8 => (if (Op.cmpValue (FP.dcmp v4 o8.1) CmpOp.l) = 0 then some (i + 5, o8.2) else (if (Op.cmpValue (FP.dcmp v4 v4) CmpOp.l) = 0 then none else (if (Op.cmpValue (FP.dcmp o8.1 o8.1) CmpOp.l) = 0 then none else some (i + 5, o8.2))))))))
set_option maxRecDepth 20000 in
theorem tLa_48 {l : Launch} {Z : mxZ} {X : mxX} (hl : l.stackTraces = false) (C : mxC l Z X RL cL_law 9) (hX : mxRm X = room_1) {p0 p1 p2 p3 : Nat} {i : Int32} {h : mxH} {o : Int32 × mxH} (hf : fLa_48 p0 p1 p2 p3 i h = some o) {k n : Nat} (hk : k + 8 ≤ 601024) (hn : n + 40 ≤ 7293034) (K : ∀ k2 n2, k2 ≤ k + 8 → n2 ≤ n + 40 → mG l Z X 9 k2 n2 23 [some (.ref p0), some (.ref p1), some (.ref p2), some (.ref p3), some (.int o.1), none, none, none, none] [] o.2) : mG l Z X 9 k n 2837 [some (.ref p0), some (.ref p1), some (.ref p2), some (.ref p3), some (.int i), none, none, none, none] [] h := by
  unfold fLa_48 at hf
  refine mG_aload_n (pc := 2837) C dL_law_2837 rfl ?_
  obtain ⟨u2, e3, hf⟩ := mx_bind hf
  obtain ⟨v4, e1, hf⟩ := mx_bind hf
  refine mG_cV2 (pc := 2838) (k' := k) (n' := n) 9 [] [] C hX dL_law_2838 lkV_L_304 rfl rfl e3 (tX9_meanMark hl e1) rfl ⟨by show k + 0 ≤ 601024; omega, by show n + 0 ≤ 7293034; omega⟩ rfl rfl rfl ?_
  refine mG_ds (ls' := [some (.ref p0), some (.ref p1), some (.ref p2), some (.ref p3), some (.int i), some (.double v4), none, none, none]) (pc := 2841) C dL_law_2841 rfl rfl rfl ?_
  refine mG_aload_n (pc := 2843) C dL_law_2843 rfl ?_
  obtain ⟨u6, e7, hf⟩ := mx_bind hf
  obtain ⟨o8, e5, hf⟩ := mx_bind hf
  refine mG_cV2 (pc := 2844) (k' := k) (n' := n) 10 [] [] C hX dL_law_2844 lkV_L_308 rfl rfl e7 (tX10_meanMark hl e5) rfl ⟨by show k + 0 ≤ 601024; omega, by show n + 0 ≤ 7293034; omega⟩ rfl rfl rfl ?_
  refine mG_ds (ls' := [some (.ref p0), some (.ref p1), some (.ref p2), some (.ref p3), some (.int i), some (.double v4), none, some (.double o8.1), none]) (pc := 2847) C dL_law_2847 rfl rfl rfl ?_
  refine mG_dload (pc := 2849) C dL_law_2849 rfl ?_
  refine mG_dload (pc := 2851) C dL_law_2851 rfl ?_
  refine mG_dcmp (pc := 2853) C dL_law_2853 ?_
  refine mG_if_eq (pc := 2854) (tgt := 2875) C dL_law_2854 (by decide) (fun q9 => ?_) (fun q9 => ?_)
  · rw [if_pos q9] at hf
    refine mG_goto (tgt := 2934) (pc := 2875) C dL_law_2875 (by decide) ?_
    refine mG_ii (ls' := [some (.ref p0), some (.ref p1), some (.ref p2), some (.ref p3), some (.int (i + 5)), some (.double v4), none, some (.double o8.1), none]) (pc := 2934) C dL_law_2934 rfl (kinc5 _) rfl rfl rfl ?_
    refine mG_goto (tgt := 23) (pc := 2937) C dL_law_2937 (by decide) ?_
    cases hf
    exact mG_sub (mxLe_s (mxLe_s (mxLe_s (mxLe_s (mxLe_s (mxLe_n (mxLe_n (mxLe_n (mxLe_n mxLe_z))))))))) (K _ _ (by omega) (by omega))
  · rw [if_neg q9] at hf
    refine mG_dload (pc := 2857) C dL_law_2857 rfl ?_
    refine mG_dload (pc := 2859) C dL_law_2859 rfl ?_
    refine mG_dcmp (pc := 2861) C dL_law_2861 ?_
    refine mG_if_eq (pc := 2862) (tgt := 2873) C dL_law_2862 (by decide) (fun q10 => ?_) (fun q10 => ?_)
    · rw [if_pos q10] at hf
      cases hf
    · rw [if_neg q10] at hf
      refine mG_dload (pc := 2865) C dL_law_2865 rfl ?_
      refine mG_dload (pc := 2867) C dL_law_2867 rfl ?_
      refine mG_dcmp (pc := 2869) C dL_law_2869 ?_
      refine mG_if_ne (pc := 2870) (tgt := 2875) C dL_law_2870 (by decide) (fun q11 => ?_) (fun q11 => ?_)
      · rw [if_neg q11] at hf
        refine mG_goto (tgt := 2934) (pc := 2875) C dL_law_2875 (by decide) ?_
        refine mG_ii (ls' := [some (.ref p0), some (.ref p1), some (.ref p2), some (.ref p3), some (.int (i + 5)), some (.double v4), none, some (.double o8.1), none]) (pc := 2934) C dL_law_2934 rfl (kinc5 _) rfl rfl rfl ?_
        refine mG_goto (tgt := 23) (pc := 2937) C dL_law_2937 (by decide) ?_
        cases hf
        exact mG_sub (mxLe_s (mxLe_s (mxLe_s (mxLe_s (mxLe_s (mxLe_n (mxLe_n (mxLe_n (mxLe_n mxLe_z))))))))) (K _ _ (by omega) (by omega))
      · rw [if_pos q11] at hf
        cases hf
theorem dL_law_2878 : decode cL_law 2878 = .ok (.aload_n 1, 1) := by decide +kernel
theorem dL_law_2879 : decode cL_law 2879 = .ok (.invokevirtual 309, 3) := by decide +kernel
theorem dL_law_2882 : decode cL_law 2882 = .ok (.f2d, 1) := by decide +kernel
theorem dL_law_2883 : decode cL_law 2883 = .ok (.dstore 5, 2) := by decide +kernel
theorem dL_law_2885 : decode cL_law 2885 = .ok (.aload_n 2, 1) := by decide +kernel
theorem dL_law_2886 : decode cL_law 2886 = .ok (.invokevirtual 313, 3) := by decide +kernel
theorem dL_law_2889 : decode cL_law 2889 = .ok (.f2d, 1) := by decide +kernel
theorem dL_law_2890 : decode cL_law 2890 = .ok (.dstore 7, 2) := by decide +kernel
theorem dL_law_2892 : decode cL_law 2892 = .ok (.dload 5, 2) := by decide +kernel
theorem dL_law_2894 : decode cL_law 2894 = .ok (.dload 7, 2) := by decide +kernel
theorem dL_law_2896 : decode cL_law 2896 = .ok (.dcmp .l, 1) := by decide +kernel
theorem dL_law_2897 : decode cL_law 2897 = .ok (.ifCond .eq 21, 3) := by decide +kernel
theorem dL_law_2900 : decode cL_law 2900 = .ok (.dload 5, 2) := by decide +kernel
theorem dL_law_2902 : decode cL_law 2902 = .ok (.dload 5, 2) := by decide +kernel
theorem dL_law_2904 : decode cL_law 2904 = .ok (.dcmp .l, 1) := by decide +kernel
theorem dL_law_2905 : decode cL_law 2905 = .ok (.ifCond .eq 11, 3) := by decide +kernel
theorem dL_law_2908 : decode cL_law 2908 = .ok (.dload 7, 2) := by decide +kernel
theorem dL_law_2910 : decode cL_law 2910 = .ok (.dload 7, 2) := by decide +kernel
theorem dL_law_2912 : decode cL_law 2912 = .ok (.dcmp .l, 1) := by decide +kernel
theorem dL_law_2913 : decode cL_law 2913 = .ok (.ifCond .ne 5, 3) := by decide +kernel
theorem dL_law_2916 : decode cL_law 2916 = .ok (.iconst 0, 1) := by decide +kernel
theorem dL_law_2917 : decode cL_law 2917 = .ok (.ireturn, 1) := by decide +kernel
theorem dL_law_2918 : decode cL_law 2918 = .ok (.goto 16, 3) := by decide +kernel
def fLa_49 (p0 p1 p2 p3 : Nat) (i : Int32) (h : mxH) : Option (Int32 × mxH) := Option.bind (isO h p1 9) (fun u2 => Option.bind (fX9_fill p1 h) (fun v4 => Option.bind (mxF2d v4) (fun v5 => Option.bind (isO h p2 10) (fun u8 => Option.bind (fX10_fill p2 h) (fun o10 => Option.bind (mxF2d o10.1) (fun v11 => (if (Op.cmpValue (FP.dcmp v5 v11) CmpOp.l) = 0 then some (i + 5, o10.2) else (if (Op.cmpValue (FP.dcmp v5 v5) CmpOp.l) = 0 then none else (if (Op.cmpValue (FP.dcmp v11 v11) CmpOp.l) = 0 then none else some (i + 5, o10.2))))))))))
set_option maxRecDepth 20000 in
theorem tLa_49 {l : Launch} {Z : mxZ} {X : mxX} (hl : l.stackTraces = false) (C : mxC l Z X RL cL_law 9) (hX : mxRm X = room_1) {p0 p1 p2 p3 : Nat} {i : Int32} {h : mxH} {o : Int32 × mxH} (hf : fLa_49 p0 p1 p2 p3 i h = some o) {k n : Nat} (hk : k + 8 ≤ 601024) (hn : n + 40 ≤ 7293034) (K : ∀ k2 n2, k2 ≤ k + 8 → n2 ≤ n + 40 → mG l Z X 9 k2 n2 23 [some (.ref p0), some (.ref p1), some (.ref p2), some (.ref p3), some (.int o.1), none, none, none, none] [] o.2) : mG l Z X 9 k n 2878 [some (.ref p0), some (.ref p1), some (.ref p2), some (.ref p3), some (.int i), none, none, none, none] [] h := by
  unfold fLa_49 at hf
  refine mG_aload_n (pc := 2878) C dL_law_2878 rfl ?_
  obtain ⟨u2, e3, hf⟩ := mx_bind hf
  obtain ⟨v4, e1, hf⟩ := mx_bind hf
  refine mG_cV2 (pc := 2879) (k' := k) (n' := n) 9 [] [] C hX dL_law_2879 lkV_L_309 rfl rfl e3 (tX9_fill hl e1) rfl ⟨by show k + 0 ≤ 601024; omega, by show n + 0 ≤ 7293034; omega⟩ rfl rfl rfl ?_
  obtain ⟨v5, e6, hf⟩ := mx_bind hf
  refine mG_f2dv (pc := 2882) C dL_law_2882 e6 ?_
  refine mG_ds (ls' := [some (.ref p0), some (.ref p1), some (.ref p2), some (.ref p3), some (.int i), some (.double v5), none, none, none]) (pc := 2883) C dL_law_2883 rfl rfl rfl ?_
  refine mG_aload_n (pc := 2885) C dL_law_2885 rfl ?_
  obtain ⟨u8, e9, hf⟩ := mx_bind hf
  obtain ⟨o10, e7, hf⟩ := mx_bind hf
  refine mG_cV2 (pc := 2886) (k' := k) (n' := n) 10 [] [] C hX dL_law_2886 lkV_L_313 rfl rfl e9 (tX10_fill hl e7) rfl ⟨by show k + 0 ≤ 601024; omega, by show n + 0 ≤ 7293034; omega⟩ rfl rfl rfl ?_
  obtain ⟨v11, e12, hf⟩ := mx_bind hf
  refine mG_f2dv (pc := 2889) C dL_law_2889 e12 ?_
  refine mG_ds (ls' := [some (.ref p0), some (.ref p1), some (.ref p2), some (.ref p3), some (.int i), some (.double v5), none, some (.double v11), none]) (pc := 2890) C dL_law_2890 rfl rfl rfl ?_
  refine mG_dload (pc := 2892) C dL_law_2892 rfl ?_
  refine mG_dload (pc := 2894) C dL_law_2894 rfl ?_
  refine mG_dcmp (pc := 2896) C dL_law_2896 ?_
  refine mG_if_eq (pc := 2897) (tgt := 2918) C dL_law_2897 (by decide) (fun q13 => ?_) (fun q13 => ?_)
  · rw [if_pos q13] at hf
    refine mG_goto (tgt := 2934) (pc := 2918) C dL_law_2918 (by decide) ?_
    refine mG_ii (ls' := [some (.ref p0), some (.ref p1), some (.ref p2), some (.ref p3), some (.int (i + 5)), some (.double v5), none, some (.double v11), none]) (pc := 2934) C dL_law_2934 rfl (kinc5 _) rfl rfl rfl ?_
    refine mG_goto (tgt := 23) (pc := 2937) C dL_law_2937 (by decide) ?_
    cases hf
    exact mG_sub (mxLe_s (mxLe_s (mxLe_s (mxLe_s (mxLe_s (mxLe_n (mxLe_n (mxLe_n (mxLe_n mxLe_z))))))))) (K _ _ (by omega) (by omega))
  · rw [if_neg q13] at hf
    refine mG_dload (pc := 2900) C dL_law_2900 rfl ?_
    refine mG_dload (pc := 2902) C dL_law_2902 rfl ?_
    refine mG_dcmp (pc := 2904) C dL_law_2904 ?_
    refine mG_if_eq (pc := 2905) (tgt := 2916) C dL_law_2905 (by decide) (fun q14 => ?_) (fun q14 => ?_)
    · rw [if_pos q14] at hf
      cases hf
    · rw [if_neg q14] at hf
      refine mG_dload (pc := 2908) C dL_law_2908 rfl ?_
      refine mG_dload (pc := 2910) C dL_law_2910 rfl ?_
      refine mG_dcmp (pc := 2912) C dL_law_2912 ?_
      refine mG_if_ne (pc := 2913) (tgt := 2918) C dL_law_2913 (by decide) (fun q15 => ?_) (fun q15 => ?_)
      · rw [if_neg q15] at hf
        refine mG_goto (tgt := 2934) (pc := 2918) C dL_law_2918 (by decide) ?_
        refine mG_ii (ls' := [some (.ref p0), some (.ref p1), some (.ref p2), some (.ref p3), some (.int (i + 5)), some (.double v5), none, some (.double v11), none]) (pc := 2934) C dL_law_2934 rfl (kinc5 _) rfl rfl rfl ?_
        refine mG_goto (tgt := 23) (pc := 2937) C dL_law_2937 (by decide) ?_
        cases hf
        exact mG_sub (mxLe_s (mxLe_s (mxLe_s (mxLe_s (mxLe_s (mxLe_n (mxLe_n (mxLe_n (mxLe_n mxLe_z))))))))) (K _ _ (by omega) (by omega))
      · rw [if_pos q15] at hf
        cases hf
theorem dL_law_2921 : decode cL_law 2921 = .ok (.aload_n 1, 1) := by decide +kernel
theorem dL_law_2922 : decode cL_law 2922 = .ok (.invokevirtual 314, 3) := by decide +kernel
theorem dL_law_2925 : decode cL_law 2925 = .ok (.aload_n 2, 1) := by decide +kernel
theorem dL_law_2926 : decode cL_law 2926 = .ok (.invokevirtual 317, 3) := by decide +kernel
theorem dL_law_2929 : decode cL_law 2929 = .ok (.if_icmp .eq 5, 3) := by decide +kernel
theorem dL_law_2932 : decode cL_law 2932 = .ok (.iconst 0, 1) := by decide +kernel
theorem dL_law_2933 : decode cL_law 2933 = .ok (.ireturn, 1) := by decide +kernel
def fLa_50 (p0 p1 p2 p3 : Nat) (i : Int32) (h : mxH) : Option (Int32 × mxH) := Option.bind (isO h p1 9) (fun u2 => Option.bind (fX9_errors p1 h) (fun o4 => Option.bind (isO o4.2 p2 10) (fun u6 => Option.bind (fX10_errors p2 o4.2) (fun o8 => (if o4.1 = o8.1 then some (i + 5, o8.2) else none)))))
set_option maxRecDepth 20000 in
theorem tLa_50 {l : Launch} {Z : mxZ} {X : mxX} (hl : l.stackTraces = false) (C : mxC l Z X RL cL_law 9) (hX : mxRm X = room_1) {p0 p1 p2 p3 : Nat} {i : Int32} {h : mxH} {o : Int32 × mxH} (hf : fLa_50 p0 p1 p2 p3 i h = some o) {k n : Nat} (hk : k + 8 ≤ 601024) (hn : n + 40 ≤ 7293034) (K : ∀ k2 n2, k2 ≤ k + 8 → n2 ≤ n + 40 → mG l Z X 9 k2 n2 23 [some (.ref p0), some (.ref p1), some (.ref p2), some (.ref p3), some (.int o.1), none, none, none, none] [] o.2) : mG l Z X 9 k n 2921 [some (.ref p0), some (.ref p1), some (.ref p2), some (.ref p3), some (.int i), none, none, none, none] [] h := by
  unfold fLa_50 at hf
  refine mG_aload_n (pc := 2921) C dL_law_2921 rfl ?_
  obtain ⟨u2, e3, hf⟩ := mx_bind hf
  obtain ⟨o4, e1, hf⟩ := mx_bind hf
  refine mG_cV2 (pc := 2922) (k' := k) (n' := n) 9 [] [] C hX dL_law_2922 lkV_L_314 rfl rfl e3 (tX9_errors hl e1) rfl ⟨by show k + 0 ≤ 601024; omega, by show n + 0 ≤ 7293034; omega⟩ rfl rfl rfl ?_
  refine mG_aload_n (pc := 2925) C dL_law_2925 rfl ?_
  obtain ⟨u6, e7, hf⟩ := mx_bind hf
  obtain ⟨o8, e5, hf⟩ := mx_bind hf
  refine mG_cV2 (pc := 2926) (k' := k) (n' := n) 10 [] [.int o4.1] C hX dL_law_2926 lkV_L_317 rfl rfl e7 (tX10_errors hl e5) rfl ⟨by show k + 0 ≤ 601024; omega, by show n + 0 ≤ 7293034; omega⟩ rfl rfl rfl ?_
  refine mG_icmp_eq (pc := 2929) (tgt := 2934) C dL_law_2929 (by decide) (fun q9 => ?_) (fun q9 => ?_)
  · rw [if_pos q9] at hf
    refine mG_ii (ls' := [some (.ref p0), some (.ref p1), some (.ref p2), some (.ref p3), some (.int (i + 5)), none, none, none, none]) (pc := 2934) C dL_law_2934 rfl (kinc5 _) rfl rfl rfl ?_
    refine mG_goto (tgt := 23) (pc := 2937) C dL_law_2937 (by decide) ?_
    cases hf
    exact mG_sub (mxLe_s (mxLe_s (mxLe_s (mxLe_s (mxLe_s (mxLe_n (mxLe_n (mxLe_n (mxLe_n mxLe_z))))))))) (K _ _ (by omega) (by omega))
  · rw [if_neg q9] at hf
    cases hf
