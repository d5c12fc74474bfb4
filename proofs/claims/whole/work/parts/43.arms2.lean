/-! printed by wip/gen/emit_law.py: the arms of the law's switch -/
theorem dL_law_1230 : decode cL_law 1230 = .ok (.aload_n 1, 1) := by decide +kernel
theorem dL_law_1231 : decode cL_law 1231 = .ok (.aload_n 0, 1) := by decide +kernel
theorem dL_law_1232 : decode cL_law 1232 = .ok (.iload 4, 2) := by decide +kernel
theorem dL_law_1234 : decode cL_law 1234 = .ok (.iconst 1, 1) := by decide +kernel
theorem dL_law_1235 : decode cL_law 1235 = .ok (.iadd, 1) := by decide +kernel
theorem dL_law_1236 : decode cL_law 1236 = .ok (.iaload, 1) := by decide +kernel
theorem dL_law_1237 : decode cL_law 1237 = .ok (.aload_n 3, 1) := by decide +kernel
theorem dL_law_1238 : decode cL_law 1238 = .ok (.invokestatic 200, 3) := by decide +kernel
theorem dL_law_1241 : decode cL_law 1241 = .ok (.istore 5, 2) := by decide +kernel
theorem dL_law_1243 : decode cL_law 1243 = .ok (.aload_n 2, 1) := by decide +kernel
theorem dL_law_1244 : decode cL_law 1244 = .ok (.aload_n 0, 1) := by decide +kernel
theorem dL_law_1245 : decode cL_law 1245 = .ok (.iload 4, 2) := by decide +kernel
theorem dL_law_1247 : decode cL_law 1247 = .ok (.iconst 1, 1) := by decide +kernel
theorem dL_law_1248 : decode cL_law 1248 = .ok (.iadd, 1) := by decide +kernel
theorem dL_law_1249 : decode cL_law 1249 = .ok (.iaload, 1) := by decide +kernel
theorem dL_law_1250 : decode cL_law 1250 = .ok (.invokevirtual 202, 3) := by decide +kernel
theorem dL_law_1253 : decode cL_law 1253 = .ok (.istore 6, 2) := by decide +kernel
theorem dL_law_1255 : decode cL_law 1255 = .ok (.aload_n 2, 1) := by decide +kernel
theorem dL_law_1256 : decode cL_law 1256 = .ok (.invokevirtual 145, 3) := by decide +kernel
theorem dL_law_1259 : decode cL_law 1259 = .ok (.iload 5, 2) := by decide +kernel
theorem dL_law_1261 : decode cL_law 1261 = .ok (.if_icmp .eq 5, 3) := by decide +kernel
theorem dL_law_1264 : decode cL_law 1264 = .ok (.iconst 0, 1) := by decide +kernel
theorem dL_law_1265 : decode cL_law 1265 = .ok (.ireturn, 1) := by decide +kernel
theorem dL_law_1266 : decode cL_law 1266 = .ok (.iload 5, 2) := by decide +kernel
theorem dL_law_1268 : decode cL_law 1268 = .ok (.ifCond .ne 15, 3) := by decide +kernel
theorem dL_law_1271 : decode cL_law 1271 = .ok (.aload_n 3, 1) := by decide +kernel
theorem dL_law_1272 : decode cL_law 1272 = .ok (.iconst 0, 1) := by decide +kernel
theorem dL_law_1273 : decode cL_law 1273 = .ok (.laload, 1) := by decide +kernel
theorem dL_law_1274 : decode cL_law 1274 = .ok (.iload 6, 2) := by decide +kernel
theorem dL_law_1276 : decode cL_law 1276 = .ok (.i2l, 1) := by decide +kernel
theorem dL_law_1277 : decode cL_law 1277 = .ok (.lcmp, 1) := by decide +kernel
theorem dL_law_1278 : decode cL_law 1278 = .ok (.ifCond .eq 5, 3) := by decide +kernel
theorem dL_law_1281 : decode cL_law 1281 = .ok (.iconst 0, 1) := by decide +kernel
theorem dL_law_1282 : decode cL_law 1282 = .ok (.ireturn, 1) := by decide +kernel
theorem dL_law_1283 : decode cL_law 1283 = .ok (.goto 1651, 3) := by decide +kernel
def fLa_17 (p0 p1 p2 p3 : Nat) (i : Int32) (h : mxH) : Option (Int32 × mxH) := Option.bind (ldI h p0 (i + 1)) (fun v1 => Option.bind (fL_stopDepth p1 v1 p3 h) (fun o4 => Option.bind (ldI o4.2 p0 (i + 1)) (fun v5 => Option.bind (isO o4.2 p2 10) (fun u8 => Option.bind (fX10_stopDepth p2 v5 o4.2) (fun o10 => Option.bind (isO o10.2 p2 10) (fun u12 => Option.bind (fX10_thrown p2 o10.2) (fun v14 => (if v14 = o4.1 then (if o4.1 = 0 then Option.bind (ldJ o10.2 p3 0) (fun r17 => (if (lg_cmp r17 o10.1.toInt64) = 0 then some (i + 5, o10.2) else none)) else some (i + 5, o10.2)) else none))))))))
set_option maxRecDepth 20000 in
theorem tLa_17 {l : Launch} {Z : mxZ} {X : mxX} (hl : l.stackTraces = false) (C : mxC l Z X RL cL_law 9) (hX : mxRm X = room_1) {p0 p1 p2 p3 : Nat} {i : Int32} {h : mxH} {o : Int32 × mxH} (hf : fLa_17 p0 p1 p2 p3 i h = some o) {k n : Nat} (hk : k + 8 ≤ 601024) (hn : n + 40 ≤ 7293034) (K : ∀ k2 n2, k2 ≤ k + 8 → n2 ≤ n + 40 → mG l Z X 9 k2 n2 23 [some (.ref p0), some (.ref p1), some (.ref p2), some (.ref p3), some (.int o.1), none, none, none, none] [] o.2) : mG l Z X 9 k n 1230 [some (.ref p0), some (.ref p1), some (.ref p2), some (.ref p3), some (.int i), none, none, none, none] [] h := by
  unfold fLa_17 at hf
  refine mG_aload_n (pc := 1230) C dL_law_1230 rfl ?_
  refine mG_aload_n (pc := 1231) C dL_law_1231 rfl ?_
  refine mG_iload (pc := 1232) C dL_law_1232 rfl ?_
  refine mG_ic (pc := 1234) C dL_law_1234 kI1 ?_
  refine mG_iadd (pc := 1235) C dL_law_1235 ?_
  obtain ⟨v1, e2, hf⟩ := mx_bind hf
  refine mG_iaload (pc := 1236) C dL_law_1236 e2 ?_
  refine mG_aload_n (pc := 1237) C dL_law_1237 rfl ?_
  obtain ⟨o4, e3, hf⟩ := mx_bind hf
  refine mG_cSH (pc := 1238) (k' := (k + 1)) (n' := (n + 6)) [.ref p1, .int v1, .ref p3] [] C hX dL_law_1238 lkH_L_200 rfl (tL_stopDepth hl e3) rfl ⟨by show k + 1 ≤ 601024; omega, by show n + 6 ≤ 7293034; omega⟩ rfl rfl rfl ?_
  refine mG_is (ls' := [some (.ref p0), some (.ref p1), some (.ref p2), some (.ref p3), some (.int i), some (.int o4.1), none, none, none]) (pc := 1241) C dL_law_1241 rfl rfl rfl ?_
  refine mG_aload_n (pc := 1243) C dL_law_1243 rfl ?_
  refine mG_aload_n (pc := 1244) C dL_law_1244 rfl ?_
  refine mG_iload (pc := 1245) C dL_law_1245 rfl ?_
  refine mG_ic (pc := 1247) C dL_law_1247 kI1 ?_
  refine mG_iadd (pc := 1248) C dL_law_1248 ?_
  obtain ⟨v5, e6, hf⟩ := mx_bind hf
  refine mG_iaload (pc := 1249) C dL_law_1249 e6 ?_
  obtain ⟨u8, e9, hf⟩ := mx_bind hf
  obtain ⟨o10, e7, hf⟩ := mx_bind hf
  refine mG_cV2 (pc := 1250) (k' := (k + 1)) (n' := (n + 6)) 10 [.int v5] [] C hX dL_law_1250 lkV_L_202 rfl rfl e9 (tX10_stopDepth hl e7) rfl ⟨by show (k + 1) + 0 ≤ 601024; omega, by show (n + 6) + 0 ≤ 7293034; omega⟩ rfl rfl rfl ?_
  refine mG_is (ls' := [some (.ref p0), some (.ref p1), some (.ref p2), some (.ref p3), some (.int i), some (.int o4.1), some (.int o10.1), none, none]) (pc := 1253) C dL_law_1253 rfl rfl rfl ?_
  refine mG_aload_n (pc := 1255) C dL_law_1255 rfl ?_
  obtain ⟨u12, e13, hf⟩ := mx_bind hf
  obtain ⟨v14, e11, hf⟩ := mx_bind hf
  refine mG_cV2 (pc := 1256) (k' := (k + 1)) (n' := (n + 6)) 10 [] [] C hX dL_law_1256 lkV_L_145 rfl rfl e13 (tX10_thrown hl e11) rfl ⟨by show (k + 1) + 0 ≤ 601024; omega, by show (n + 6) + 0 ≤ 7293034; omega⟩ rfl rfl rfl ?_
  refine mG_iload (pc := 1259) C dL_law_1259 rfl ?_
  refine mG_icmp_eq (pc := 1261) (tgt := 1266) C dL_law_1261 (by decide) (fun q15 => ?_) (fun q15 => ?_)
  · rw [if_pos q15] at hf
    refine mG_iload (pc := 1266) C dL_law_1266 rfl ?_
    refine mG_if_ne (pc := 1268) (tgt := 1283) C dL_law_1268 (by decide) (fun q16 => ?_) (fun q16 => ?_)
    · rw [if_neg q16] at hf
      refine mG_goto (tgt := 2934) (pc := 1283) C dL_law_1283 (by decide) ?_
      refine mG_ii (ls' := [some (.ref p0), some (.ref p1), some (.ref p2), some (.ref p3), some (.int (i + 5)), some (.int o4.1), some (.int o10.1), none, none]) (pc := 2934) C dL_law_2934 rfl (kinc5 _) rfl rfl rfl ?_
      refine mG_goto (tgt := 23) (pc := 2937) C dL_law_2937 (by decide) ?_
      cases hf
      exact mG_sub (mxLe_s (mxLe_s (mxLe_s (mxLe_s (mxLe_s (mxLe_n (mxLe_n (mxLe_n (mxLe_n mxLe_z))))))))) (K _ _ (by omega) (by omega))
    · rw [if_pos q16] at hf
      refine mG_aload_n (pc := 1271) C dL_law_1271 rfl ?_
      refine mG_ic (pc := 1272) C dL_law_1272 kI0 ?_
      obtain ⟨r17, e18, hf⟩ := mx_bind hf
      refine mG_laload (pc := 1273) C dL_law_1273 e18 ?_
      refine mG_iload (pc := 1274) C dL_law_1274 rfl ?_
      refine mG_i2l (pc := 1276) C dL_law_1276 ?_
      refine mG_lcmp (pc := 1277) C dL_law_1277 ?_
      refine mG_if_eq (pc := 1278) (tgt := 1283) C dL_law_1278 (by decide) (fun q19 => ?_) (fun q19 => ?_)
      · rw [if_pos q19] at hf
        refine mG_goto (tgt := 2934) (pc := 1283) C dL_law_1283 (by decide) ?_
        refine mG_ii (ls' := [some (.ref p0), some (.ref p1), some (.ref p2), some (.ref p3), some (.int (i + 5)), some (.int o4.1), some (.int o10.1), none, none]) (pc := 2934) C dL_law_2934 rfl (kinc5 _) rfl rfl rfl ?_
        refine mG_goto (tgt := 23) (pc := 2937) C dL_law_2937 (by decide) ?_
        cases hf
        exact mG_sub (mxLe_s (mxLe_s (mxLe_s (mxLe_s (mxLe_s (mxLe_n (mxLe_n (mxLe_n (mxLe_n mxLe_z))))))))) (K _ _ (by omega) (by omega))
      · rw [if_neg q19] at hf
        cases hf
  · rw [if_neg q15] at hf
    cases hf
theorem dL_law_1286 : decode cL_law 1286 = .ok (.aload_n 1, 1) := by decide +kernel
theorem dL_law_1287 : decode cL_law 1287 = .ok (.aload_n 0, 1) := by decide +kernel
theorem dL_law_1288 : decode cL_law 1288 = .ok (.iload 4, 2) := by decide +kernel
theorem dL_law_1290 : decode cL_law 1290 = .ok (.iconst 1, 1) := by decide +kernel
theorem dL_law_1291 : decode cL_law 1291 = .ok (.iadd, 1) := by decide +kernel
theorem dL_law_1292 : decode cL_law 1292 = .ok (.iaload, 1) := by decide +kernel
theorem dL_law_1293 : decode cL_law 1293 = .ok (.aload_n 3, 1) := by decide +kernel
theorem dL_law_1294 : decode cL_law 1294 = .ok (.invokestatic 203, 3) := by decide +kernel
theorem dL_law_1297 : decode cL_law 1297 = .ok (.istore 5, 2) := by decide +kernel
theorem dL_law_1299 : decode cL_law 1299 = .ok (.aload_n 2, 1) := by decide +kernel
theorem dL_law_1300 : decode cL_law 1300 = .ok (.aload_n 0, 1) := by decide +kernel
theorem dL_law_1301 : decode cL_law 1301 = .ok (.iload 4, 2) := by decide +kernel
theorem dL_law_1303 : decode cL_law 1303 = .ok (.iconst 1, 1) := by decide +kernel
theorem dL_law_1304 : decode cL_law 1304 = .ok (.iadd, 1) := by decide +kernel
theorem dL_law_1305 : decode cL_law 1305 = .ok (.iaload, 1) := by decide +kernel
theorem dL_law_1306 : decode cL_law 1306 = .ok (.invokevirtual 205, 3) := by decide +kernel
theorem dL_law_1309 : decode cL_law 1309 = .ok (.istore 6, 2) := by decide +kernel
theorem dL_law_1311 : decode cL_law 1311 = .ok (.aload_n 2, 1) := by decide +kernel
theorem dL_law_1312 : decode cL_law 1312 = .ok (.invokevirtual 145, 3) := by decide +kernel
theorem dL_law_1315 : decode cL_law 1315 = .ok (.iload 5, 2) := by decide +kernel
theorem dL_law_1317 : decode cL_law 1317 = .ok (.if_icmp .eq 5, 3) := by decide +kernel
theorem dL_law_1320 : decode cL_law 1320 = .ok (.iconst 0, 1) := by decide +kernel
theorem dL_law_1321 : decode cL_law 1321 = .ok (.ireturn, 1) := by decide +kernel
theorem dL_law_1322 : decode cL_law 1322 = .ok (.iload 5, 2) := by decide +kernel
theorem dL_law_1324 : decode cL_law 1324 = .ok (.ifCond .ne 15, 3) := by decide +kernel
theorem dL_law_1327 : decode cL_law 1327 = .ok (.aload_n 3, 1) := by decide +kernel
theorem dL_law_1328 : decode cL_law 1328 = .ok (.iconst 0, 1) := by decide +kernel
theorem dL_law_1329 : decode cL_law 1329 = .ok (.laload, 1) := by decide +kernel
theorem dL_law_1330 : decode cL_law 1330 = .ok (.iload 6, 2) := by decide +kernel
theorem dL_law_1332 : decode cL_law 1332 = .ok (.i2l, 1) := by decide +kernel
theorem dL_law_1333 : decode cL_law 1333 = .ok (.lcmp, 1) := by decide +kernel
theorem dL_law_1334 : decode cL_law 1334 = .ok (.ifCond .eq 5, 3) := by decide +kernel
theorem dL_law_1337 : decode cL_law 1337 = .ok (.iconst 0, 1) := by decide +kernel
theorem dL_law_1338 : decode cL_law 1338 = .ok (.ireturn, 1) := by decide +kernel
theorem dL_law_1339 : decode cL_law 1339 = .ok (.goto 1595, 3) := by decide +kernel
def fLa_18 (p0 p1 p2 p3 : Nat) (i : Int32) (h : mxH) : Option (Int32 × mxH) := Option.bind (ldI h p0 (i + 1)) (fun v1 => Option.bind (fL_cost p1 v1 p3 h) (fun o4 => Option.bind (ldI o4.2 p0 (i + 1)) (fun v5 => Option.bind (isO o4.2 p2 10) (fun u8 => Option.bind (fX10_cost p2 v5 o4.2) (fun o10 => Option.bind (isO o10.2 p2 10) (fun u12 => Option.bind (fX10_thrown p2 o10.2) (fun v14 => (if v14 = o4.1 then (if o4.1 = 0 then Option.bind (ldJ o10.2 p3 0) (fun r17 => (if (lg_cmp r17 o10.1.toInt64) = 0 then some (i + 5, o10.2) else none)) else some (i + 5, o10.2)) else none))))))))
set_option maxRecDepth 20000 in
theorem tLa_18 {l : Launch} {Z : mxZ} {X : mxX} (hl : l.stackTraces = false) (C : mxC l Z X RL cL_law 9) (hX : mxRm X = room_1) {p0 p1 p2 p3 : Nat} {i : Int32} {h : mxH} {o : Int32 × mxH} (hf : fLa_18 p0 p1 p2 p3 i h = some o) {k n : Nat} (hk : k + 8 ≤ 601024) (hn : n + 40 ≤ 7293034) (K : ∀ k2 n2, k2 ≤ k + 8 → n2 ≤ n + 40 → mG l Z X 9 k2 n2 23 [some (.ref p0), some (.ref p1), some (.ref p2), some (.ref p3), some (.int o.1), none, none, none, none] [] o.2) : mG l Z X 9 k n 1286 [some (.ref p0), some (.ref p1), some (.ref p2), some (.ref p3), some (.int i), none, none, none, none] [] h := by
  unfold fLa_18 at hf
  refine mG_aload_n (pc := 1286) C dL_law_1286 rfl ?_
  refine mG_aload_n (pc := 1287) C dL_law_1287 rfl ?_
  refine mG_iload (pc := 1288) C dL_law_1288 rfl ?_
  refine mG_ic (pc := 1290) C dL_law_1290 kI1 ?_
  refine mG_iadd (pc := 1291) C dL_law_1291 ?_
  obtain ⟨v1, e2, hf⟩ := mx_bind hf
  refine mG_iaload (pc := 1292) C dL_law_1292 e2 ?_
  refine mG_aload_n (pc := 1293) C dL_law_1293 rfl ?_
  obtain ⟨o4, e3, hf⟩ := mx_bind hf
  refine mG_cSH (pc := 1294) (k' := (k + 1)) (n' := (n + 6)) [.ref p1, .int v1, .ref p3] [] C hX dL_law_1294 lkH_L_203 rfl (tL_cost hl e3) rfl ⟨by show k + 1 ≤ 601024; omega, by show n + 6 ≤ 7293034; omega⟩ rfl rfl rfl ?_
  refine mG_is (ls' := [some (.ref p0), some (.ref p1), some (.ref p2), some (.ref p3), some (.int i), some (.int o4.1), none, none, none]) (pc := 1297) C dL_law_1297 rfl rfl rfl ?_
  refine mG_aload_n (pc := 1299) C dL_law_1299 rfl ?_
  refine mG_aload_n (pc := 1300) C dL_law_1300 rfl ?_
  refine mG_iload (pc := 1301) C dL_law_1301 rfl ?_
  refine mG_ic (pc := 1303) C dL_law_1303 kI1 ?_
  refine mG_iadd (pc := 1304) C dL_law_1304 ?_
  obtain ⟨v5, e6, hf⟩ := mx_bind hf
  refine mG_iaload (pc := 1305) C dL_law_1305 e6 ?_
  obtain ⟨u8, e9, hf⟩ := mx_bind hf
  obtain ⟨o10, e7, hf⟩ := mx_bind hf
  refine mG_cV2 (pc := 1306) (k' := (k + 1)) (n' := (n + 6)) 10 [.int v5] [] C hX dL_law_1306 lkV_L_205 rfl rfl e9 (tX10_cost hl e7) rfl ⟨by show (k + 1) + 0 ≤ 601024; omega, by show (n + 6) + 0 ≤ 7293034; omega⟩ rfl rfl rfl ?_
  refine mG_is (ls' := [some (.ref p0), some (.ref p1), some (.ref p2), some (.ref p3), some (.int i), some (.int o4.1), some (.int o10.1), none, none]) (pc := 1309) C dL_law_1309 rfl rfl rfl ?_
  refine mG_aload_n (pc := 1311) C dL_law_1311 rfl ?_
  obtain ⟨u12, e13, hf⟩ := mx_bind hf
  obtain ⟨v14, e11, hf⟩ := mx_bind hf
  refine mG_cV2 (pc := 1312) (k' := (k + 1)) (n' := (n + 6)) 10 [] [] C hX dL_law_1312 lkV_L_145 rfl rfl e13 (tX10_thrown hl e11) rfl ⟨by show (k + 1) + 0 ≤ 601024; omega, by show (n + 6) + 0 ≤ 7293034; omega⟩ rfl rfl rfl ?_
  refine mG_iload (pc := 1315) C dL_law_1315 rfl ?_
  refine mG_icmp_eq (pc := 1317) (tgt := 1322) C dL_law_1317 (by decide) (fun q15 => ?_) (fun q15 => ?_)
  · rw [if_pos q15] at hf
    refine mG_iload (pc := 1322) C dL_law_1322 rfl ?_
    refine mG_if_ne (pc := 1324) (tgt := 1339) C dL_law_1324 (by decide) (fun q16 => ?_) (fun q16 => ?_)
    · rw [if_neg q16] at hf
      refine mG_goto (tgt := 2934) (pc := 1339) C dL_law_1339 (by decide) ?_
      refine mG_ii (ls' := [some (.ref p0), some (.ref p1), some (.ref p2), some (.ref p3), some (.int (i + 5)), some (.int o4.1), some (.int o10.1), none, none]) (pc := 2934) C dL_law_2934 rfl (kinc5 _) rfl rfl rfl ?_
      refine mG_goto (tgt := 23) (pc := 2937) C dL_law_2937 (by decide) ?_
      cases hf
      exact mG_sub (mxLe_s (mxLe_s (mxLe_s (mxLe_s (mxLe_s (mxLe_n (mxLe_n (mxLe_n (mxLe_n mxLe_z))))))))) (K _ _ (by omega) (by omega))
    · rw [if_pos q16] at hf
      refine mG_aload_n (pc := 1327) C dL_law_1327 rfl ?_
      refine mG_ic (pc := 1328) C dL_law_1328 kI0 ?_
      obtain ⟨r17, e18, hf⟩ := mx_bind hf
      refine mG_laload (pc := 1329) C dL_law_1329 e18 ?_
      refine mG_iload (pc := 1330) C dL_law_1330 rfl ?_
      refine mG_i2l (pc := 1332) C dL_law_1332 ?_
      refine mG_lcmp (pc := 1333) C dL_law_1333 ?_
      refine mG_if_eq (pc := 1334) (tgt := 1339) C dL_law_1334 (by decide) (fun q19 => ?_) (fun q19 => ?_)
      · rw [if_pos q19] at hf
        refine mG_goto (tgt := 2934) (pc := 1339) C dL_law_1339 (by decide) ?_
        refine mG_ii (ls' := [some (.ref p0), some (.ref p1), some (.ref p2), some (.ref p3), some (.int (i + 5)), some (.int o4.1), some (.int o10.1), none, none]) (pc := 2934) C dL_law_2934 rfl (kinc5 _) rfl rfl rfl ?_
        refine mG_goto (tgt := 23) (pc := 2937) C dL_law_2937 (by decide) ?_
        cases hf
        exact mG_sub (mxLe_s (mxLe_s (mxLe_s (mxLe_s (mxLe_s (mxLe_n (mxLe_n (mxLe_n (mxLe_n mxLe_z))))))))) (K _ _ (by omega) (by omega))
      · rw [if_neg q19] at hf
        cases hf
  · rw [if_neg q15] at hf
    cases hf
theorem dL_law_1342 : decode cL_law 1342 = .ok (.aload_n 1, 1) := by decide +kernel
theorem dL_law_1343 : decode cL_law 1343 = .ok (.aload_n 0, 1) := by decide +kernel
theorem dL_law_1344 : decode cL_law 1344 = .ok (.iload 4, 2) := by decide +kernel
theorem dL_law_1346 : decode cL_law 1346 = .ok (.iconst 1, 1) := by decide +kernel
theorem dL_law_1347 : decode cL_law 1347 = .ok (.iadd, 1) := by decide +kernel
theorem dL_law_1348 : decode cL_law 1348 = .ok (.iaload, 1) := by decide +kernel
theorem dL_law_1349 : decode cL_law 1349 = .ok (.aload_n 0, 1) := by decide +kernel
theorem dL_law_1350 : decode cL_law 1350 = .ok (.iload 4, 2) := by decide +kernel
theorem dL_law_1352 : decode cL_law 1352 = .ok (.iconst 2, 1) := by decide +kernel
theorem dL_law_1353 : decode cL_law 1353 = .ok (.iadd, 1) := by decide +kernel
theorem dL_law_1354 : decode cL_law 1354 = .ok (.iaload, 1) := by decide +kernel
theorem dL_law_1355 : decode cL_law 1355 = .ok (.aload_n 3, 1) := by decide +kernel
theorem dL_law_1356 : decode cL_law 1356 = .ok (.invokestatic 206, 3) := by decide +kernel
theorem dL_law_1359 : decode cL_law 1359 = .ok (.istore 5, 2) := by decide +kernel
theorem dL_law_1361 : decode cL_law 1361 = .ok (.aload_n 2, 1) := by decide +kernel
theorem dL_law_1362 : decode cL_law 1362 = .ok (.aload_n 0, 1) := by decide +kernel
theorem dL_law_1363 : decode cL_law 1363 = .ok (.iload 4, 2) := by decide +kernel
theorem dL_law_1365 : decode cL_law 1365 = .ok (.iconst 1, 1) := by decide +kernel
theorem dL_law_1366 : decode cL_law 1366 = .ok (.iadd, 1) := by decide +kernel
theorem dL_law_1367 : decode cL_law 1367 = .ok (.iaload, 1) := by decide +kernel
theorem dL_law_1368 : decode cL_law 1368 = .ok (.aload_n 0, 1) := by decide +kernel
theorem dL_law_1369 : decode cL_law 1369 = .ok (.iload 4, 2) := by decide +kernel
theorem dL_law_1371 : decode cL_law 1371 = .ok (.iconst 2, 1) := by decide +kernel
theorem dL_law_1372 : decode cL_law 1372 = .ok (.iadd, 1) := by decide +kernel
theorem dL_law_1373 : decode cL_law 1373 = .ok (.iaload, 1) := by decide +kernel
theorem dL_law_1374 : decode cL_law 1374 = .ok (.invokevirtual 208, 3) := by decide +kernel
theorem dL_law_1377 : decode cL_law 1377 = .ok (.istore 6, 2) := by decide +kernel
theorem dL_law_1379 : decode cL_law 1379 = .ok (.aload_n 2, 1) := by decide +kernel
theorem dL_law_1380 : decode cL_law 1380 = .ok (.invokevirtual 145, 3) := by decide +kernel
theorem dL_law_1383 : decode cL_law 1383 = .ok (.iload 5, 2) := by decide +kernel
theorem dL_law_1385 : decode cL_law 1385 = .ok (.if_icmp .eq 5, 3) := by decide +kernel
theorem dL_law_1388 : decode cL_law 1388 = .ok (.iconst 0, 1) := by decide +kernel
theorem dL_law_1389 : decode cL_law 1389 = .ok (.ireturn, 1) := by decide +kernel
theorem dL_law_1390 : decode cL_law 1390 = .ok (.iload 5, 2) := by decide +kernel
theorem dL_law_1392 : decode cL_law 1392 = .ok (.ifCond .ne 15, 3) := by decide +kernel
theorem dL_law_1395 : decode cL_law 1395 = .ok (.aload_n 3, 1) := by decide +kernel
theorem dL_law_1396 : decode cL_law 1396 = .ok (.iconst 0, 1) := by decide +kernel
theorem dL_law_1397 : decode cL_law 1397 = .ok (.laload, 1) := by decide +kernel
theorem dL_law_1398 : decode cL_law 1398 = .ok (.iload 6, 2) := by decide +kernel
theorem dL_law_1400 : decode cL_law 1400 = .ok (.i2l, 1) := by decide +kernel
theorem dL_law_1401 : decode cL_law 1401 = .ok (.lcmp, 1) := by decide +kernel
theorem dL_law_1402 : decode cL_law 1402 = .ok (.ifCond .eq 5, 3) := by decide +kernel
theorem dL_law_1405 : decode cL_law 1405 = .ok (.iconst 0, 1) := by decide +kernel
theorem dL_law_1406 : decode cL_law 1406 = .ok (.ireturn, 1) := by decide +kernel
theorem dL_law_1407 : decode cL_law 1407 = .ok (.goto 1527, 3) := by decide +kernel
def fLa_19 (p0 p1 p2 p3 : Nat) (i : Int32) (h : mxH) : Option (Int32 × mxH) := Option.bind (ldI h p0 (i + 1)) (fun v1 => Option.bind (ldI h p0 (i + 2)) (fun v3 => Option.bind (fL_best p1 v1 v3 p3 h) (fun o6 => Option.bind (ldI o6.2 p0 (i + 1)) (fun v7 => Option.bind (ldI o6.2 p0 (i + 2)) (fun v9 => Option.bind (isO o6.2 p2 10) (fun u12 => Option.bind (fX10_best p2 v7 v9 o6.2) (fun o14 => Option.bind (isO o14.2 p2 10) (fun u16 => Option.bind (fX10_thrown p2 o14.2) (fun v18 => (if v18 = o6.1 then (if o6.1 = 0 then Option.bind (ldJ o14.2 p3 0) (fun r21 => (if (lg_cmp r21 o14.1.toInt64) = 0 then some (i + 5, o14.2) else none)) else some (i + 5, o14.2)) else none))))))))))
set_option maxRecDepth 20000 in
theorem tLa_19 {l : Launch} {Z : mxZ} {X : mxX} (hl : l.stackTraces = false) (C : mxC l Z X RL cL_law 9) (hX : mxRm X = room_1) {p0 p1 p2 p3 : Nat} {i : Int32} {h : mxH} {o : Int32 × mxH} (hf : fLa_19 p0 p1 p2 p3 i h = some o) {k n : Nat} (hk : k + 8 ≤ 601024) (hn : n + 40 ≤ 7293034) (K : ∀ k2 n2, k2 ≤ k + 8 → n2 ≤ n + 40 → mG l Z X 9 k2 n2 23 [some (.ref p0), some (.ref p1), some (.ref p2), some (.ref p3), some (.int o.1), none, none, none, none] [] o.2) : mG l Z X 9 k n 1342 [some (.ref p0), some (.ref p1), some (.ref p2), some (.ref p3), some (.int i), none, none, none, none] [] h := by
  unfold fLa_19 at hf
  refine mG_aload_n (pc := 1342) C dL_law_1342 rfl ?_
  refine mG_aload_n (pc := 1343) C dL_law_1343 rfl ?_
  refine mG_iload (pc := 1344) C dL_law_1344 rfl ?_
  refine mG_ic (pc := 1346) C dL_law_1346 kI1 ?_
  refine mG_iadd (pc := 1347) C dL_law_1347 ?_
  obtain ⟨v1, e2, hf⟩ := mx_bind hf
  refine mG_iaload (pc := 1348) C dL_law_1348 e2 ?_
  refine mG_aload_n (pc := 1349) C dL_law_1349 rfl ?_
  refine mG_iload (pc := 1350) C dL_law_1350 rfl ?_
  refine mG_ic (pc := 1352) C dL_law_1352 kI2 ?_
  refine mG_iadd (pc := 1353) C dL_law_1353 ?_
  obtain ⟨v3, e4, hf⟩ := mx_bind hf
  refine mG_iaload (pc := 1354) C dL_law_1354 e4 ?_
  refine mG_aload_n (pc := 1355) C dL_law_1355 rfl ?_
  obtain ⟨o6, e5, hf⟩ := mx_bind hf
  refine mG_cSH (pc := 1356) (k' := (k + 2)) (n' := (n + 12)) [.ref p1, .int v1, .int v3, .ref p3] [] C hX dL_law_1356 lkH_L_206 rfl (tL_best hl e5) rfl ⟨by show k + 2 ≤ 601024; omega, by show n + 12 ≤ 7293034; omega⟩ rfl rfl rfl ?_
  refine mG_is (ls' := [some (.ref p0), some (.ref p1), some (.ref p2), some (.ref p3), some (.int i), some (.int o6.1), none, none, none]) (pc := 1359) C dL_law_1359 rfl rfl rfl ?_
  refine mG_aload_n (pc := 1361) C dL_law_1361 rfl ?_
  refine mG_aload_n (pc := 1362) C dL_law_1362 rfl ?_
  refine mG_iload (pc := 1363) C dL_law_1363 rfl ?_
  refine mG_ic (pc := 1365) C dL_law_1365 kI1 ?_
  refine mG_iadd (pc := 1366) C dL_law_1366 ?_
  obtain ⟨v7, e8, hf⟩ := mx_bind hf
  refine mG_iaload (pc := 1367) C dL_law_1367 e8 ?_
  refine mG_aload_n (pc := 1368) C dL_law_1368 rfl ?_
  refine mG_iload (pc := 1369) C dL_law_1369 rfl ?_
  refine mG_ic (pc := 1371) C dL_law_1371 kI2 ?_
  refine mG_iadd (pc := 1372) C dL_law_1372 ?_
  obtain ⟨v9, e10, hf⟩ := mx_bind hf
  refine mG_iaload (pc := 1373) C dL_law_1373 e10 ?_
  obtain ⟨u12, e13, hf⟩ := mx_bind hf
  obtain ⟨o14, e11, hf⟩ := mx_bind hf
  refine mG_cV2 (pc := 1374) (k' := (k + 2)) (n' := (n + 12)) 10 [.int v7, .int v9] [] C hX dL_law_1374 lkV_L_208 rfl rfl e13 (tX10_best hl e11) rfl ⟨by show (k + 2) + 0 ≤ 601024; omega, by show (n + 12) + 0 ≤ 7293034; omega⟩ rfl rfl rfl ?_
  refine mG_is (ls' := [some (.ref p0), some (.ref p1), some (.ref p2), some (.ref p3), some (.int i), some (.int o6.1), some (.int o14.1), none, none]) (pc := 1377) C dL_law_1377 rfl rfl rfl ?_
  refine mG_aload_n (pc := 1379) C dL_law_1379 rfl ?_
  obtain ⟨u16, e17, hf⟩ := mx_bind hf
  obtain ⟨v18, e15, hf⟩ := mx_bind hf
  refine mG_cV2 (pc := 1380) (k' := (k + 2)) (n' := (n + 12)) 10 [] [] C hX dL_law_1380 lkV_L_145 rfl rfl e17 (tX10_thrown hl e15) rfl ⟨by show (k + 2) + 0 ≤ 601024; omega, by show (n + 12) + 0 ≤ 7293034; omega⟩ rfl rfl rfl ?_
  refine mG_iload (pc := 1383) C dL_law_1383 rfl ?_
  refine mG_icmp_eq (pc := 1385) (tgt := 1390) C dL_law_1385 (by decide) (fun q19 => ?_) (fun q19 => ?_)
  · rw [if_pos q19] at hf
    refine mG_iload (pc := 1390) C dL_law_1390 rfl ?_
    refine mG_if_ne (pc := 1392) (tgt := 1407) C dL_law_1392 (by decide) (fun q20 => ?_) (fun q20 => ?_)
    · rw [if_neg q20] at hf
      refine mG_goto (tgt := 2934) (pc := 1407) C dL_law_1407 (by decide) ?_
      refine mG_ii (ls' := [some (.ref p0), some (.ref p1), some (.ref p2), some (.ref p3), some (.int (i + 5)), some (.int o6.1), some (.int o14.1), none, none]) (pc := 2934) C dL_law_2934 rfl (kinc5 _) rfl rfl rfl ?_
      refine mG_goto (tgt := 23) (pc := 2937) C dL_law_2937 (by decide) ?_
      cases hf
      exact mG_sub (mxLe_s (mxLe_s (mxLe_s (mxLe_s (mxLe_s (mxLe_n (mxLe_n (mxLe_n (mxLe_n mxLe_z))))))))) (K _ _ (by omega) (by omega))
    · rw [if_pos q20] at hf
      refine mG_aload_n (pc := 1395) C dL_law_1395 rfl ?_
      refine mG_ic (pc := 1396) C dL_law_1396 kI0 ?_
      obtain ⟨r21, e22, hf⟩ := mx_bind hf
      refine mG_laload (pc := 1397) C dL_law_1397 e22 ?_
      refine mG_iload (pc := 1398) C dL_law_1398 rfl ?_
      refine mG_i2l (pc := 1400) C dL_law_1400 ?_
      refine mG_lcmp (pc := 1401) C dL_law_1401 ?_
      refine mG_if_eq (pc := 1402) (tgt := 1407) C dL_law_1402 (by decide) (fun q23 => ?_) (fun q23 => ?_)
      · rw [if_pos q23] at hf
        refine mG_goto (tgt := 2934) (pc := 1407) C dL_law_1407 (by decide) ?_
        refine mG_ii (ls' := [some (.ref p0), some (.ref p1), some (.ref p2), some (.ref p3), some (.int (i + 5)), some (.int o6.1), some (.int o14.1), none, none]) (pc := 2934) C dL_law_2934 rfl (kinc5 _) rfl rfl rfl ?_
        refine mG_goto (tgt := 23) (pc := 2937) C dL_law_2937 (by decide) ?_
        cases hf
        exact mG_sub (mxLe_s (mxLe_s (mxLe_s (mxLe_s (mxLe_s (mxLe_n (mxLe_n (mxLe_n (mxLe_n mxLe_z))))))))) (K _ _ (by omega) (by omega))
      · rw [if_neg q23] at hf
        cases hf
  · rw [if_neg q19] at hf
    cases hf
theorem dL_law_1410 : decode cL_law 1410 = .ok (.aload_n 1, 1) := by decide +kernel
theorem dL_law_1411 : decode cL_law 1411 = .ok (.aload_n 0, 1) := by decide +kernel
theorem dL_law_1412 : decode cL_law 1412 = .ok (.iload 4, 2) := by decide +kernel
theorem dL_law_1414 : decode cL_law 1414 = .ok (.iconst 1, 1) := by decide +kernel
theorem dL_law_1415 : decode cL_law 1415 = .ok (.iadd, 1) := by decide +kernel
theorem dL_law_1416 : decode cL_law 1416 = .ok (.iaload, 1) := by decide +kernel
theorem dL_law_1417 : decode cL_law 1417 = .ok (.aload_n 0, 1) := by decide +kernel
theorem dL_law_1418 : decode cL_law 1418 = .ok (.iload 4, 2) := by decide +kernel
theorem dL_law_1420 : decode cL_law 1420 = .ok (.iconst 2, 1) := by decide +kernel
theorem dL_law_1421 : decode cL_law 1421 = .ok (.iadd, 1) := by decide +kernel
theorem dL_law_1422 : decode cL_law 1422 = .ok (.iaload, 1) := by decide +kernel
theorem dL_law_1423 : decode cL_law 1423 = .ok (.aload_n 3, 1) := by decide +kernel
theorem dL_law_1424 : decode cL_law 1424 = .ok (.invokestatic 209, 3) := by decide +kernel
theorem dL_law_1427 : decode cL_law 1427 = .ok (.istore 5, 2) := by decide +kernel
theorem dL_law_1429 : decode cL_law 1429 = .ok (.aload_n 2, 1) := by decide +kernel
theorem dL_law_1430 : decode cL_law 1430 = .ok (.aload_n 0, 1) := by decide +kernel
theorem dL_law_1431 : decode cL_law 1431 = .ok (.iload 4, 2) := by decide +kernel
theorem dL_law_1433 : decode cL_law 1433 = .ok (.iconst 1, 1) := by decide +kernel
theorem dL_law_1434 : decode cL_law 1434 = .ok (.iadd, 1) := by decide +kernel
theorem dL_law_1435 : decode cL_law 1435 = .ok (.iaload, 1) := by decide +kernel
theorem dL_law_1436 : decode cL_law 1436 = .ok (.aload_n 0, 1) := by decide +kernel
theorem dL_law_1437 : decode cL_law 1437 = .ok (.iload 4, 2) := by decide +kernel
theorem dL_law_1439 : decode cL_law 1439 = .ok (.iconst 2, 1) := by decide +kernel
theorem dL_law_1440 : decode cL_law 1440 = .ok (.iadd, 1) := by decide +kernel
theorem dL_law_1441 : decode cL_law 1441 = .ok (.iaload, 1) := by decide +kernel
theorem dL_law_1442 : decode cL_law 1442 = .ok (.invokevirtual 211, 3) := by decide +kernel
theorem dL_law_1445 : decode cL_law 1445 = .ok (.istore 6, 2) := by decide +kernel
theorem dL_law_1447 : decode cL_law 1447 = .ok (.aload_n 2, 1) := by decide +kernel
theorem dL_law_1448 : decode cL_law 1448 = .ok (.invokevirtual 145, 3) := by decide +kernel
theorem dL_law_1451 : decode cL_law 1451 = .ok (.iload 5, 2) := by decide +kernel
theorem dL_law_1453 : decode cL_law 1453 = .ok (.if_icmp .eq 5, 3) := by decide +kernel
theorem dL_law_1456 : decode cL_law 1456 = .ok (.iconst 0, 1) := by decide +kernel
theorem dL_law_1457 : decode cL_law 1457 = .ok (.ireturn, 1) := by decide +kernel
theorem dL_law_1458 : decode cL_law 1458 = .ok (.iload 5, 2) := by decide +kernel
theorem dL_law_1460 : decode cL_law 1460 = .ok (.ifCond .ne 15, 3) := by decide +kernel
theorem dL_law_1463 : decode cL_law 1463 = .ok (.aload_n 3, 1) := by decide +kernel
theorem dL_law_1464 : decode cL_law 1464 = .ok (.iconst 0, 1) := by decide +kernel
theorem dL_law_1465 : decode cL_law 1465 = .ok (.laload, 1) := by decide +kernel
theorem dL_law_1466 : decode cL_law 1466 = .ok (.iload 6, 2) := by decide +kernel
theorem dL_law_1468 : decode cL_law 1468 = .ok (.i2l, 1) := by decide +kernel
theorem dL_law_1469 : decode cL_law 1469 = .ok (.lcmp, 1) := by decide +kernel
theorem dL_law_1470 : decode cL_law 1470 = .ok (.ifCond .eq 5, 3) := by decide +kernel
theorem dL_law_1473 : decode cL_law 1473 = .ok (.iconst 0, 1) := by decide +kernel
theorem dL_law_1474 : decode cL_law 1474 = .ok (.ireturn, 1) := by decide +kernel
theorem dL_law_1475 : decode cL_law 1475 = .ok (.goto 1459, 3) := by decide +kernel
def fLa_20 (p0 p1 p2 p3 : Nat) (i : Int32) (h : mxH) : Option (Int32 × mxH) := Option.bind (ldI h p0 (i + 1)) (fun v1 => Option.bind (ldI h p0 (i + 2)) (fun v3 => Option.bind (fL_refute p1 v1 v3 p3 h) (fun o6 => Option.bind (ldI o6.2 p0 (i + 1)) (fun v7 => Option.bind (ldI o6.2 p0 (i + 2)) (fun v9 => Option.bind (isO o6.2 p2 10) (fun u12 => Option.bind (fX10_refute p2 v7 v9 o6.2) (fun o14 => Option.bind (isO o14.2 p2 10) (fun u16 => Option.bind (fX10_thrown p2 o14.2) (fun v18 => (if v18 = o6.1 then (if o6.1 = 0 then Option.bind (ldJ o14.2 p3 0) (fun r21 => (if (lg_cmp r21 o14.1.toInt64) = 0 then some (i + 5, o14.2) else none)) else some (i + 5, o14.2)) else none))))))))))
set_option maxRecDepth 20000 in
theorem tLa_20 {l : Launch} {Z : mxZ} {X : mxX} (hl : l.stackTraces = false) (C : mxC l Z X RL cL_law 9) (hX : mxRm X = room_1) {p0 p1 p2 p3 : Nat} {i : Int32} {h : mxH} {o : Int32 × mxH} (hf : fLa_20 p0 p1 p2 p3 i h = some o) {k n : Nat} (hk : k + 8 ≤ 601024) (hn : n + 40 ≤ 7293034) (K : ∀ k2 n2, k2 ≤ k + 8 → n2 ≤ n + 40 → mG l Z X 9 k2 n2 23 [some (.ref p0), some (.ref p1), some (.ref p2), some (.ref p3), some (.int o.1), none, none, none, none] [] o.2) : mG l Z X 9 k n 1410 [some (.ref p0), some (.ref p1), some (.ref p2), some (.ref p3), some (.int i), none, none, none, none] [] h := by
  unfold fLa_20 at hf
  refine mG_aload_n (pc := 1410) C dL_law_1410 rfl ?_
  refine mG_aload_n (pc := 1411) C dL_law_1411 rfl ?_
  refine mG_iload (pc := 1412) C dL_law_1412 rfl ?_
  refine mG_ic (pc := 1414) C dL_law_1414 kI1 ?_
  refine mG_iadd (pc := 1415) C dL_law_1415 ?_
  obtain ⟨v1, e2, hf⟩ := mx_bind hf
  refine mG_iaload (pc := 1416) C dL_law_1416 e2 ?_
  refine mG_aload_n (pc := 1417) C dL_law_1417 rfl ?_
  refine mG_iload (pc := 1418) C dL_law_1418 rfl ?_
  refine mG_ic (pc := 1420) C dL_law_1420 kI2 ?_
  refine mG_iadd (pc := 1421) C dL_law_1421 ?_
  obtain ⟨v3, e4, hf⟩ := mx_bind hf
  refine mG_iaload (pc := 1422) C dL_law_1422 e4 ?_
  refine mG_aload_n (pc := 1423) C dL_law_1423 rfl ?_
  obtain ⟨o6, e5, hf⟩ := mx_bind hf
  refine mG_cSH (pc := 1424) (k' := (k + 4)) (n' := (n + 24)) [.ref p1, .int v1, .int v3, .ref p3] [] C hX dL_law_1424 lkH_L_209 rfl (tL_refute hl e5) rfl ⟨by show k + 4 ≤ 601024; omega, by show n + 24 ≤ 7293034; omega⟩ rfl rfl rfl ?_
  refine mG_is (ls' := [some (.ref p0), some (.ref p1), some (.ref p2), some (.ref p3), some (.int i), some (.int o6.1), none, none, none]) (pc := 1427) C dL_law_1427 rfl rfl rfl ?_
  refine mG_aload_n (pc := 1429) C dL_law_1429 rfl ?_
  refine mG_aload_n (pc := 1430) C dL_law_1430 rfl ?_
  refine mG_iload (pc := 1431) C dL_law_1431 rfl ?_
  refine mG_ic (pc := 1433) C dL_law_1433 kI1 ?_
  refine mG_iadd (pc := 1434) C dL_law_1434 ?_
  obtain ⟨v7, e8, hf⟩ := mx_bind hf
  refine mG_iaload (pc := 1435) C dL_law_1435 e8 ?_
  refine mG_aload_n (pc := 1436) C dL_law_1436 rfl ?_
  refine mG_iload (pc := 1437) C dL_law_1437 rfl ?_
  refine mG_ic (pc := 1439) C dL_law_1439 kI2 ?_
  refine mG_iadd (pc := 1440) C dL_law_1440 ?_
  obtain ⟨v9, e10, hf⟩ := mx_bind hf
  refine mG_iaload (pc := 1441) C dL_law_1441 e10 ?_
  obtain ⟨u12, e13, hf⟩ := mx_bind hf
  obtain ⟨o14, e11, hf⟩ := mx_bind hf
  refine mG_cV2 (pc := 1442) (k' := (k + 4)) (n' := (n + 24)) 10 [.int v7, .int v9] [] C hX dL_law_1442 lkV_L_211 rfl rfl e13 (tX10_refute hl e11) rfl ⟨by show (k + 4) + 0 ≤ 601024; omega, by show (n + 24) + 0 ≤ 7293034; omega⟩ rfl rfl rfl ?_
  refine mG_is (ls' := [some (.ref p0), some (.ref p1), some (.ref p2), some (.ref p3), some (.int i), some (.int o6.1), some (.int o14.1), none, none]) (pc := 1445) C dL_law_1445 rfl rfl rfl ?_
  refine mG_aload_n (pc := 1447) C dL_law_1447 rfl ?_
  obtain ⟨u16, e17, hf⟩ := mx_bind hf
  obtain ⟨v18, e15, hf⟩ := mx_bind hf
  refine mG_cV2 (pc := 1448) (k' := (k + 4)) (n' := (n + 24)) 10 [] [] C hX dL_law_1448 lkV_L_145 rfl rfl e17 (tX10_thrown hl e15) rfl ⟨by show (k + 4) + 0 ≤ 601024; omega, by show (n + 24) + 0 ≤ 7293034; omega⟩ rfl rfl rfl ?_
  refine mG_iload (pc := 1451) C dL_law_1451 rfl ?_
  refine mG_icmp_eq (pc := 1453) (tgt := 1458) C dL_law_1453 (by decide) (fun q19 => ?_) (fun q19 => ?_)
  · rw [if_pos q19] at hf
    refine mG_iload (pc := 1458) C dL_law_1458 rfl ?_
    refine mG_if_ne (pc := 1460) (tgt := 1475) C dL_law_1460 (by decide) (fun q20 => ?_) (fun q20 => ?_)
    · rw [if_neg q20] at hf
      refine mG_goto (tgt := 2934) (pc := 1475) C dL_law_1475 (by decide) ?_
      refine mG_ii (ls' := [some (.ref p0), some (.ref p1), some (.ref p2), some (.ref p3), some (.int (i + 5)), some (.int o6.1), some (.int o14.1), none, none]) (pc := 2934) C dL_law_2934 rfl (kinc5 _) rfl rfl rfl ?_
      refine mG_goto (tgt := 23) (pc := 2937) C dL_law_2937 (by decide) ?_
      cases hf
      exact mG_sub (mxLe_s (mxLe_s (mxLe_s (mxLe_s (mxLe_s (mxLe_n (mxLe_n (mxLe_n (mxLe_n mxLe_z))))))))) (K _ _ (by omega) (by omega))
    · rw [if_pos q20] at hf
      refine mG_aload_n (pc := 1463) C dL_law_1463 rfl ?_
      refine mG_ic (pc := 1464) C dL_law_1464 kI0 ?_
      obtain ⟨r21, e22, hf⟩ := mx_bind hf
      refine mG_laload (pc := 1465) C dL_law_1465 e22 ?_
      refine mG_iload (pc := 1466) C dL_law_1466 rfl ?_
      refine mG_i2l (pc := 1468) C dL_law_1468 ?_
      refine mG_lcmp (pc := 1469) C dL_law_1469 ?_
      refine mG_if_eq (pc := 1470) (tgt := 1475) C dL_law_1470 (by decide) (fun q23 => ?_) (fun q23 => ?_)
      · rw [if_pos q23] at hf
        refine mG_goto (tgt := 2934) (pc := 1475) C dL_law_1475 (by decide) ?_
        refine mG_ii (ls' := [some (.ref p0), some (.ref p1), some (.ref p2), some (.ref p3), some (.int (i + 5)), some (.int o6.1), some (.int o14.1), none, none]) (pc := 2934) C dL_law_2934 rfl (kinc5 _) rfl rfl rfl ?_
        refine mG_goto (tgt := 23) (pc := 2937) C dL_law_2937 (by decide) ?_
        cases hf
        exact mG_sub (mxLe_s (mxLe_s (mxLe_s (mxLe_s (mxLe_s (mxLe_n (mxLe_n (mxLe_n (mxLe_n mxLe_z))))))))) (K _ _ (by omega) (by omega))
      · rw [if_neg q23] at hf
        cases hf
  · rw [if_neg q19] at hf
    cases hf
theorem dL_law_1478 : decode cL_law 1478 = .ok (.aload_n 1, 1) := by decide +kernel
theorem dL_law_1479 : decode cL_law 1479 = .ok (.aload_n 0, 1) := by decide +kernel
theorem dL_law_1480 : decode cL_law 1480 = .ok (.iload 4, 2) := by decide +kernel
theorem dL_law_1482 : decode cL_law 1482 = .ok (.iconst 1, 1) := by decide +kernel
theorem dL_law_1483 : decode cL_law 1483 = .ok (.iadd, 1) := by decide +kernel
theorem dL_law_1484 : decode cL_law 1484 = .ok (.iaload, 1) := by decide +kernel
theorem dL_law_1485 : decode cL_law 1485 = .ok (.aload_n 0, 1) := by decide +kernel
theorem dL_law_1486 : decode cL_law 1486 = .ok (.iload 4, 2) := by decide +kernel
theorem dL_law_1488 : decode cL_law 1488 = .ok (.iconst 2, 1) := by decide +kernel
theorem dL_law_1489 : decode cL_law 1489 = .ok (.iadd, 1) := by decide +kernel
theorem dL_law_1490 : decode cL_law 1490 = .ok (.iaload, 1) := by decide +kernel
theorem dL_law_1491 : decode cL_law 1491 = .ok (.aload_n 3, 1) := by decide +kernel
theorem dL_law_1492 : decode cL_law 1492 = .ok (.invokestatic 212, 3) := by decide +kernel
theorem dL_law_1495 : decode cL_law 1495 = .ok (.istore 5, 2) := by decide +kernel
theorem dL_law_1497 : decode cL_law 1497 = .ok (.aload_n 2, 1) := by decide +kernel
theorem dL_law_1498 : decode cL_law 1498 = .ok (.aload_n 0, 1) := by decide +kernel
theorem dL_law_1499 : decode cL_law 1499 = .ok (.iload 4, 2) := by decide +kernel
theorem dL_law_1501 : decode cL_law 1501 = .ok (.iconst 1, 1) := by decide +kernel
theorem dL_law_1502 : decode cL_law 1502 = .ok (.iadd, 1) := by decide +kernel
theorem dL_law_1503 : decode cL_law 1503 = .ok (.iaload, 1) := by decide +kernel
theorem dL_law_1504 : decode cL_law 1504 = .ok (.aload_n 0, 1) := by decide +kernel
theorem dL_law_1505 : decode cL_law 1505 = .ok (.iload 4, 2) := by decide +kernel
theorem dL_law_1507 : decode cL_law 1507 = .ok (.iconst 2, 1) := by decide +kernel
theorem dL_law_1508 : decode cL_law 1508 = .ok (.iadd, 1) := by decide +kernel
theorem dL_law_1509 : decode cL_law 1509 = .ok (.iaload, 1) := by decide +kernel
theorem dL_law_1510 : decode cL_law 1510 = .ok (.invokevirtual 214, 3) := by decide +kernel
theorem dL_law_1513 : decode cL_law 1513 = .ok (.istore 6, 2) := by decide +kernel
theorem dL_law_1515 : decode cL_law 1515 = .ok (.aload_n 2, 1) := by decide +kernel
theorem dL_law_1516 : decode cL_law 1516 = .ok (.invokevirtual 145, 3) := by decide +kernel
theorem dL_law_1519 : decode cL_law 1519 = .ok (.iload 5, 2) := by decide +kernel
theorem dL_law_1521 : decode cL_law 1521 = .ok (.if_icmp .eq 5, 3) := by decide +kernel
theorem dL_law_1524 : decode cL_law 1524 = .ok (.iconst 0, 1) := by decide +kernel
theorem dL_law_1525 : decode cL_law 1525 = .ok (.ireturn, 1) := by decide +kernel
theorem dL_law_1526 : decode cL_law 1526 = .ok (.iload 5, 2) := by decide +kernel
theorem dL_law_1528 : decode cL_law 1528 = .ok (.ifCond .ne 15, 3) := by decide +kernel
theorem dL_law_1531 : decode cL_law 1531 = .ok (.aload_n 3, 1) := by decide +kernel
theorem dL_law_1532 : decode cL_law 1532 = .ok (.iconst 0, 1) := by decide +kernel
theorem dL_law_1533 : decode cL_law 1533 = .ok (.laload, 1) := by decide +kernel
theorem dL_law_1534 : decode cL_law 1534 = .ok (.iload 6, 2) := by decide +kernel
theorem dL_law_1536 : decode cL_law 1536 = .ok (.i2l, 1) := by decide +kernel
theorem dL_law_1537 : decode cL_law 1537 = .ok (.lcmp, 1) := by decide +kernel
theorem dL_law_1538 : decode cL_law 1538 = .ok (.ifCond .eq 5, 3) := by decide +kernel
theorem dL_law_1541 : decode cL_law 1541 = .ok (.iconst 0, 1) := by decide +kernel
theorem dL_law_1542 : decode cL_law 1542 = .ok (.ireturn, 1) := by decide +kernel
theorem dL_law_1543 : decode cL_law 1543 = .ok (.goto 1391, 3) := by decide +kernel
def fLa_21 (p0 p1 p2 p3 : Nat) (i : Int32) (h : mxH) : Option (Int32 × mxH) := Option.bind (ldI h p0 (i + 1)) (fun v1 => Option.bind (ldI h p0 (i + 2)) (fun v3 => Option.bind (fL_lower p1 v1 v3 p3 h) (fun o6 => Option.bind (ldI o6.2 p0 (i + 1)) (fun v7 => Option.bind (ldI o6.2 p0 (i + 2)) (fun v9 => Option.bind (isO o6.2 p2 10) (fun u12 => Option.bind (fX10_lower p2 v7 v9 o6.2) (fun o14 => Option.bind (isO o14.2 p2 10) (fun u16 => Option.bind (fX10_thrown p2 o14.2) (fun v18 => (if v18 = o6.1 then (if o6.1 = 0 then Option.bind (ldJ o14.2 p3 0) (fun r21 => (if (lg_cmp r21 o14.1.toInt64) = 0 then some (i + 5, o14.2) else none)) else some (i + 5, o14.2)) else none))))))))))
set_option maxRecDepth 20000 in
theorem tLa_21 {l : Launch} {Z : mxZ} {X : mxX} (hl : l.stackTraces = false) (C : mxC l Z X RL cL_law 9) (hX : mxRm X = room_1) {p0 p1 p2 p3 : Nat} {i : Int32} {h : mxH} {o : Int32 × mxH} (hf : fLa_21 p0 p1 p2 p3 i h = some o) {k n : Nat} (hk : k + 8 ≤ 601024) (hn : n + 40 ≤ 7293034) (K : ∀ k2 n2, k2 ≤ k + 8 → n2 ≤ n + 40 → mG l Z X 9 k2 n2 23 [some (.ref p0), some (.ref p1), some (.ref p2), some (.ref p3), some (.int o.1), none, none, none, none] [] o.2) : mG l Z X 9 k n 1478 [some (.ref p0), some (.ref p1), some (.ref p2), some (.ref p3), some (.int i), none, none, none, none] [] h := by
  unfold fLa_21 at hf
  refine mG_aload_n (pc := 1478) C dL_law_1478 rfl ?_
  refine mG_aload_n (pc := 1479) C dL_law_1479 rfl ?_
  refine mG_iload (pc := 1480) C dL_law_1480 rfl ?_
  refine mG_ic (pc := 1482) C dL_law_1482 kI1 ?_
  refine mG_iadd (pc := 1483) C dL_law_1483 ?_
  obtain ⟨v1, e2, hf⟩ := mx_bind hf
  refine mG_iaload (pc := 1484) C dL_law_1484 e2 ?_
  refine mG_aload_n (pc := 1485) C dL_law_1485 rfl ?_
  refine mG_iload (pc := 1486) C dL_law_1486 rfl ?_
  refine mG_ic (pc := 1488) C dL_law_1488 kI2 ?_
  refine mG_iadd (pc := 1489) C dL_law_1489 ?_
  obtain ⟨v3, e4, hf⟩ := mx_bind hf
  refine mG_iaload (pc := 1490) C dL_law_1490 e4 ?_
  refine mG_aload_n (pc := 1491) C dL_law_1491 rfl ?_
  obtain ⟨o6, e5, hf⟩ := mx_bind hf
  refine mG_cSH (pc := 1492) (k' := (k + 2)) (n' := (n + 12)) [.ref p1, .int v1, .int v3, .ref p3] [] C hX dL_law_1492 lkH_L_212 rfl (tL_lower hl e5) rfl ⟨by show k + 2 ≤ 601024; omega, by show n + 12 ≤ 7293034; omega⟩ rfl rfl rfl ?_
  refine mG_is (ls' := [some (.ref p0), some (.ref p1), some (.ref p2), some (.ref p3), some (.int i), some (.int o6.1), none, none, none]) (pc := 1495) C dL_law_1495 rfl rfl rfl ?_
  refine mG_aload_n (pc := 1497) C dL_law_1497 rfl ?_
  refine mG_aload_n (pc := 1498) C dL_law_1498 rfl ?_
  refine mG_iload (pc := 1499) C dL_law_1499 rfl ?_
  refine mG_ic (pc := 1501) C dL_law_1501 kI1 ?_
  refine mG_iadd (pc := 1502) C dL_law_1502 ?_
  obtain ⟨v7, e8, hf⟩ := mx_bind hf
  refine mG_iaload (pc := 1503) C dL_law_1503 e8 ?_
  refine mG_aload_n (pc := 1504) C dL_law_1504 rfl ?_
  refine mG_iload (pc := 1505) C dL_law_1505 rfl ?_
  refine mG_ic (pc := 1507) C dL_law_1507 kI2 ?_
  refine mG_iadd (pc := 1508) C dL_law_1508 ?_
  obtain ⟨v9, e10, hf⟩ := mx_bind hf
  refine mG_iaload (pc := 1509) C dL_law_1509 e10 ?_
  obtain ⟨u12, e13, hf⟩ := mx_bind hf
  obtain ⟨o14, e11, hf⟩ := mx_bind hf
  refine mG_cV2 (pc := 1510) (k' := (k + 2)) (n' := (n + 12)) 10 [.int v7, .int v9] [] C hX dL_law_1510 lkV_L_214 rfl rfl e13 (tX10_lower hl e11) rfl ⟨by show (k + 2) + 0 ≤ 601024; omega, by show (n + 12) + 0 ≤ 7293034; omega⟩ rfl rfl rfl ?_
  refine mG_is (ls' := [some (.ref p0), some (.ref p1), some (.ref p2), some (.ref p3), some (.int i), some (.int o6.1), some (.int o14.1), none, none]) (pc := 1513) C dL_law_1513 rfl rfl rfl ?_
  refine mG_aload_n (pc := 1515) C dL_law_1515 rfl ?_
  obtain ⟨u16, e17, hf⟩ := mx_bind hf
  obtain ⟨v18, e15, hf⟩ := mx_bind hf
  refine mG_cV2 (pc := 1516) (k' := (k + 2)) (n' := (n + 12)) 10 [] [] C hX dL_law_1516 lkV_L_145 rfl rfl e17 (tX10_thrown hl e15) rfl ⟨by show (k + 2) + 0 ≤ 601024; omega, by show (n + 12) + 0 ≤ 7293034; omega⟩ rfl rfl rfl ?_
  refine mG_iload (pc := 1519) C dL_law_1519 rfl ?_
  refine mG_icmp_eq (pc := 1521) (tgt := 1526) C dL_law_1521 (by decide) (fun q19 => ?_) (fun q19 => ?_)
  · rw [if_pos q19] at hf
    refine mG_iload (pc := 1526) C dL_law_1526 rfl ?_
    refine mG_if_ne (pc := 1528) (tgt := 1543) C dL_law_1528 (by decide) (fun q20 => ?_) (fun q20 => ?_)
    · rw [if_neg q20] at hf
      refine mG_goto (tgt := 2934) (pc := 1543) C dL_law_1543 (by decide) ?_
      refine mG_ii (ls' := [some (.ref p0), some (.ref p1), some (.ref p2), some (.ref p3), some (.int (i + 5)), some (.int o6.1), some (.int o14.1), none, none]) (pc := 2934) C dL_law_2934 rfl (kinc5 _) rfl rfl rfl ?_
      refine mG_goto (tgt := 23) (pc := 2937) C dL_law_2937 (by decide) ?_
      cases hf
      exact mG_sub (mxLe_s (mxLe_s (mxLe_s (mxLe_s (mxLe_s (mxLe_n (mxLe_n (mxLe_n (mxLe_n mxLe_z))))))))) (K _ _ (by omega) (by omega))
    · rw [if_pos q20] at hf
      refine mG_aload_n (pc := 1531) C dL_law_1531 rfl ?_
      refine mG_ic (pc := 1532) C dL_law_1532 kI0 ?_
      obtain ⟨r21, e22, hf⟩ := mx_bind hf
      refine mG_laload (pc := 1533) C dL_law_1533 e22 ?_
      refine mG_iload (pc := 1534) C dL_law_1534 rfl ?_
      refine mG_i2l (pc := 1536) C dL_law_1536 ?_
      refine mG_lcmp (pc := 1537) C dL_law_1537 ?_
      refine mG_if_eq (pc := 1538) (tgt := 1543) C dL_law_1538 (by decide) (fun q23 => ?_) (fun q23 => ?_)
      · rw [if_pos q23] at hf
        refine mG_goto (tgt := 2934) (pc := 1543) C dL_law_1543 (by decide) ?_
        refine mG_ii (ls' := [some (.ref p0), some (.ref p1), some (.ref p2), some (.ref p3), some (.int (i + 5)), some (.int o6.1), some (.int o14.1), none, none]) (pc := 2934) C dL_law_2934 rfl (kinc5 _) rfl rfl rfl ?_
        refine mG_goto (tgt := 23) (pc := 2937) C dL_law_2937 (by decide) ?_
        cases hf
        exact mG_sub (mxLe_s (mxLe_s (mxLe_s (mxLe_s (mxLe_s (mxLe_n (mxLe_n (mxLe_n (mxLe_n mxLe_z))))))))) (K _ _ (by omega) (by omega))
      · rw [if_neg q23] at hf
        cases hf
  · rw [if_neg q19] at hf
    cases hf
theorem dL_law_1546 : decode cL_law 1546 = .ok (.aload_n 1, 1) := by decide +kernel
theorem dL_law_1547 : decode cL_law 1547 = .ok (.aload_n 0, 1) := by decide +kernel
theorem dL_law_1548 : decode cL_law 1548 = .ok (.iload 4, 2) := by decide +kernel
theorem dL_law_1550 : decode cL_law 1550 = .ok (.iconst 1, 1) := by decide +kernel
theorem dL_law_1551 : decode cL_law 1551 = .ok (.iadd, 1) := by decide +kernel
theorem dL_law_1552 : decode cL_law 1552 = .ok (.iaload, 1) := by decide +kernel
theorem dL_law_1553 : decode cL_law 1553 = .ok (.aload_n 0, 1) := by decide +kernel
theorem dL_law_1554 : decode cL_law 1554 = .ok (.iload 4, 2) := by decide +kernel
theorem dL_law_1556 : decode cL_law 1556 = .ok (.iconst 2, 1) := by decide +kernel
theorem dL_law_1557 : decode cL_law 1557 = .ok (.iadd, 1) := by decide +kernel
theorem dL_law_1558 : decode cL_law 1558 = .ok (.iaload, 1) := by decide +kernel
theorem dL_law_1559 : decode cL_law 1559 = .ok (.aload_n 3, 1) := by decide +kernel
theorem dL_law_1560 : decode cL_law 1560 = .ok (.invokestatic 215, 3) := by decide +kernel
theorem dL_law_1563 : decode cL_law 1563 = .ok (.istore 5, 2) := by decide +kernel
theorem dL_law_1565 : decode cL_law 1565 = .ok (.aload_n 2, 1) := by decide +kernel
theorem dL_law_1566 : decode cL_law 1566 = .ok (.aload_n 0, 1) := by decide +kernel
theorem dL_law_1567 : decode cL_law 1567 = .ok (.iload 4, 2) := by decide +kernel
theorem dL_law_1569 : decode cL_law 1569 = .ok (.iconst 1, 1) := by decide +kernel
theorem dL_law_1570 : decode cL_law 1570 = .ok (.iadd, 1) := by decide +kernel
theorem dL_law_1571 : decode cL_law 1571 = .ok (.iaload, 1) := by decide +kernel
theorem dL_law_1572 : decode cL_law 1572 = .ok (.aload_n 0, 1) := by decide +kernel
theorem dL_law_1573 : decode cL_law 1573 = .ok (.iload 4, 2) := by decide +kernel
theorem dL_law_1575 : decode cL_law 1575 = .ok (.iconst 2, 1) := by decide +kernel
theorem dL_law_1576 : decode cL_law 1576 = .ok (.iadd, 1) := by decide +kernel
theorem dL_law_1577 : decode cL_law 1577 = .ok (.iaload, 1) := by decide +kernel
theorem dL_law_1578 : decode cL_law 1578 = .ok (.invokevirtual 217, 3) := by decide +kernel
theorem dL_law_1581 : decode cL_law 1581 = .ok (.istore 6, 2) := by decide +kernel
theorem dL_law_1583 : decode cL_law 1583 = .ok (.aload_n 2, 1) := by decide +kernel
theorem dL_law_1584 : decode cL_law 1584 = .ok (.invokevirtual 145, 3) := by decide +kernel
theorem dL_law_1587 : decode cL_law 1587 = .ok (.iload 5, 2) := by decide +kernel
theorem dL_law_1589 : decode cL_law 1589 = .ok (.if_icmp .eq 5, 3) := by decide +kernel
theorem dL_law_1592 : decode cL_law 1592 = .ok (.iconst 0, 1) := by decide +kernel
theorem dL_law_1593 : decode cL_law 1593 = .ok (.ireturn, 1) := by decide +kernel
theorem dL_law_1594 : decode cL_law 1594 = .ok (.iload 5, 2) := by decide +kernel
theorem dL_law_1596 : decode cL_law 1596 = .ok (.ifCond .ne 15, 3) := by decide +kernel
theorem dL_law_1599 : decode cL_law 1599 = .ok (.aload_n 3, 1) := by decide +kernel
theorem dL_law_1600 : decode cL_law 1600 = .ok (.iconst 0, 1) := by decide +kernel
theorem dL_law_1601 : decode cL_law 1601 = .ok (.laload, 1) := by decide +kernel
theorem dL_law_1602 : decode cL_law 1602 = .ok (.iload 6, 2) := by decide +kernel
theorem dL_law_1604 : decode cL_law 1604 = .ok (.i2l, 1) := by decide +kernel
theorem dL_law_1605 : decode cL_law 1605 = .ok (.lcmp, 1) := by decide +kernel
theorem dL_law_1606 : decode cL_law 1606 = .ok (.ifCond .eq 5, 3) := by decide +kernel
theorem dL_law_1609 : decode cL_law 1609 = .ok (.iconst 0, 1) := by decide +kernel
theorem dL_law_1610 : decode cL_law 1610 = .ok (.ireturn, 1) := by decide +kernel
theorem dL_law_1611 : decode cL_law 1611 = .ok (.goto 1323, 3) := by decide +kernel
def fLa_22 (p0 p1 p2 p3 : Nat) (i : Int32) (h : mxH) : Option (Int32 × mxH) := Option.bind (ldI h p0 (i + 1)) (fun v1 => Option.bind (ldI h p0 (i + 2)) (fun v3 => Option.bind (fL_upper p1 v1 v3 p3 h) (fun o6 => Option.bind (ldI o6.2 p0 (i + 1)) (fun v7 => Option.bind (ldI o6.2 p0 (i + 2)) (fun v9 => Option.bind (isO o6.2 p2 10) (fun u12 => Option.bind (fX10_upper p2 v7 v9 o6.2) (fun o14 => Option.bind (isO o14.2 p2 10) (fun u16 => Option.bind (fX10_thrown p2 o14.2) (fun v18 => (if v18 = o6.1 then (if o6.1 = 0 then Option.bind (ldJ o14.2 p3 0) (fun r21 => (if (lg_cmp r21 o14.1.toInt64) = 0 then some (i + 5, o14.2) else none)) else some (i + 5, o14.2)) else none))))))))))
set_option maxRecDepth 20000 in
theorem tLa_22 {l : Launch} {Z : mxZ} {X : mxX} (hl : l.stackTraces = false) (C : mxC l Z X RL cL_law 9) (hX : mxRm X = room_1) {p0 p1 p2 p3 : Nat} {i : Int32} {h : mxH} {o : Int32 × mxH} (hf : fLa_22 p0 p1 p2 p3 i h = some o) {k n : Nat} (hk : k + 8 ≤ 601024) (hn : n + 40 ≤ 7293034) (K : ∀ k2 n2, k2 ≤ k + 8 → n2 ≤ n + 40 → mG l Z X 9 k2 n2 23 [some (.ref p0), some (.ref p1), some (.ref p2), some (.ref p3), some (.int o.1), none, none, none, none] [] o.2) : mG l Z X 9 k n 1546 [some (.ref p0), some (.ref p1), some (.ref p2), some (.ref p3), some (.int i), none, none, none, none] [] h := by
  unfold fLa_22 at hf
  refine mG_aload_n (pc := 1546) C dL_law_1546 rfl ?_
  refine mG_aload_n (pc := 1547) C dL_law_1547 rfl ?_
  refine mG_iload (pc := 1548) C dL_law_1548 rfl ?_
  refine mG_ic (pc := 1550) C dL_law_1550 kI1 ?_
  refine mG_iadd (pc := 1551) C dL_law_1551 ?_
  obtain ⟨v1, e2, hf⟩ := mx_bind hf
  refine mG_iaload (pc := 1552) C dL_law_1552 e2 ?_
  refine mG_aload_n (pc := 1553) C dL_law_1553 rfl ?_
  refine mG_iload (pc := 1554) C dL_law_1554 rfl ?_
  refine mG_ic (pc := 1556) C dL_law_1556 kI2 ?_
  refine mG_iadd (pc := 1557) C dL_law_1557 ?_
  obtain ⟨v3, e4, hf⟩ := mx_bind hf
  refine mG_iaload (pc := 1558) C dL_law_1558 e4 ?_
  refine mG_aload_n (pc := 1559) C dL_law_1559 rfl ?_
  obtain ⟨o6, e5, hf⟩ := mx_bind hf
  refine mG_cSH (pc := 1560) (k' := (k + 2)) (n' := (n + 12)) [.ref p1, .int v1, .int v3, .ref p3] [] C hX dL_law_1560 lkH_L_215 rfl (tL_upper hl e5) rfl ⟨by show k + 2 ≤ 601024; omega, by show n + 12 ≤ 7293034; omega⟩ rfl rfl rfl ?_
  refine mG_is (ls' := [some (.ref p0), some (.ref p1), some (.ref p2), some (.ref p3), some (.int i), some (.int o6.1), none, none, none]) (pc := 1563) C dL_law_1563 rfl rfl rfl ?_
  refine mG_aload_n (pc := 1565) C dL_law_1565 rfl ?_
  refine mG_aload_n (pc := 1566) C dL_law_1566 rfl ?_
  refine mG_iload (pc := 1567) C dL_law_1567 rfl ?_
  refine mG_ic (pc := 1569) C dL_law_1569 kI1 ?_
  refine mG_iadd (pc := 1570) C dL_law_1570 ?_
  obtain ⟨v7, e8, hf⟩ := mx_bind hf
  refine mG_iaload (pc := 1571) C dL_law_1571 e8 ?_
  refine mG_aload_n (pc := 1572) C dL_law_1572 rfl ?_
  refine mG_iload (pc := 1573) C dL_law_1573 rfl ?_
  refine mG_ic (pc := 1575) C dL_law_1575 kI2 ?_
  refine mG_iadd (pc := 1576) C dL_law_1576 ?_
  obtain ⟨v9, e10, hf⟩ := mx_bind hf
  refine mG_iaload (pc := 1577) C dL_law_1577 e10 ?_
  obtain ⟨u12, e13, hf⟩ := mx_bind hf
  obtain ⟨o14, e11, hf⟩ := mx_bind hf
  refine mG_cV2 (pc := 1578) (k' := (k + 2)) (n' := (n + 12)) 10 [.int v7, .int v9] [] C hX dL_law_1578 lkV_L_217 rfl rfl e13 (tX10_upper hl e11) rfl ⟨by show (k + 2) + 0 ≤ 601024; omega, by show (n + 12) + 0 ≤ 7293034; omega⟩ rfl rfl rfl ?_
  refine mG_is (ls' := [some (.ref p0), some (.ref p1), some (.ref p2), some (.ref p3), some (.int i), some (.int o6.1), some (.int o14.1), none, none]) (pc := 1581) C dL_law_1581 rfl rfl rfl ?_
  refine mG_aload_n (pc := 1583) C dL_law_1583 rfl ?_
  obtain ⟨u16, e17, hf⟩ := mx_bind hf
  obtain ⟨v18, e15, hf⟩ := mx_bind hf
  refine mG_cV2 (pc := 1584) (k' := (k + 2)) (n' := (n + 12)) 10 [] [] C hX dL_law_1584 lkV_L_145 rfl rfl e17 (tX10_thrown hl e15) rfl ⟨by show (k + 2) + 0 ≤ 601024; omega, by show (n + 12) + 0 ≤ 7293034; omega⟩ rfl rfl rfl ?_
  refine mG_iload (pc := 1587) C dL_law_1587 rfl ?_
  refine mG_icmp_eq (pc := 1589) (tgt := 1594) C dL_law_1589 (by decide) (fun q19 => ?_) (fun q19 => ?_)
  · rw [if_pos q19] at hf
    refine mG_iload (pc := 1594) C dL_law_1594 rfl ?_
    refine mG_if_ne (pc := 1596) (tgt := 1611) C dL_law_1596 (by decide) (fun q20 => ?_) (fun q20 => ?_)
    · rw [if_neg q20] at hf
      refine mG_goto (tgt := 2934) (pc := 1611) C dL_law_1611 (by decide) ?_
      refine mG_ii (ls' := [some (.ref p0), some (.ref p1), some (.ref p2), some (.ref p3), some (.int (i + 5)), some (.int o6.1), some (.int o14.1), none, none]) (pc := 2934) C dL_law_2934 rfl (kinc5 _) rfl rfl rfl ?_
      refine mG_goto (tgt := 23) (pc := 2937) C dL_law_2937 (by decide) ?_
      cases hf
      exact mG_sub (mxLe_s (mxLe_s (mxLe_s (mxLe_s (mxLe_s (mxLe_n (mxLe_n (mxLe_n (mxLe_n mxLe_z))))))))) (K _ _ (by omega) (by omega))
    · rw [if_pos q20] at hf
      refine mG_aload_n (pc := 1599) C dL_law_1599 rfl ?_
      refine mG_ic (pc := 1600) C dL_law_1600 kI0 ?_
      obtain ⟨r21, e22, hf⟩ := mx_bind hf
      refine mG_laload (pc := 1601) C dL_law_1601 e22 ?_
      refine mG_iload (pc := 1602) C dL_law_1602 rfl ?_
      refine mG_i2l (pc := 1604) C dL_law_1604 ?_
      refine mG_lcmp (pc := 1605) C dL_law_1605 ?_
      refine mG_if_eq (pc := 1606) (tgt := 1611) C dL_law_1606 (by decide) (fun q23 => ?_) (fun q23 => ?_)
      · rw [if_pos q23] at hf
        refine mG_goto (tgt := 2934) (pc := 1611) C dL_law_1611 (by decide) ?_
        refine mG_ii (ls' := [some (.ref p0), some (.ref p1), some (.ref p2), some (.ref p3), some (.int (i + 5)), some (.int o6.1), some (.int o14.1), none, none]) (pc := 2934) C dL_law_2934 rfl (kinc5 _) rfl rfl rfl ?_
        refine mG_goto (tgt := 23) (pc := 2937) C dL_law_2937 (by decide) ?_
        cases hf
        exact mG_sub (mxLe_s (mxLe_s (mxLe_s (mxLe_s (mxLe_s (mxLe_n (mxLe_n (mxLe_n (mxLe_n mxLe_z))))))))) (K _ _ (by omega) (by omega))
      · rw [if_neg q23] at hf
        cases hf
  · rw [if_neg q19] at hf
    cases hf
theorem dL_law_1614 : decode cL_law 1614 = .ok (.aload_n 1, 1) := by decide +kernel
theorem dL_law_1615 : decode cL_law 1615 = .ok (.aload_n 0, 1) := by decide +kernel
theorem dL_law_1616 : decode cL_law 1616 = .ok (.iload 4, 2) := by decide +kernel
theorem dL_law_1618 : decode cL_law 1618 = .ok (.iconst 1, 1) := by decide +kernel
theorem dL_law_1619 : decode cL_law 1619 = .ok (.iadd, 1) := by decide +kernel
theorem dL_law_1620 : decode cL_law 1620 = .ok (.iaload, 1) := by decide +kernel
theorem dL_law_1621 : decode cL_law 1621 = .ok (.aload_n 3, 1) := by decide +kernel
theorem dL_law_1622 : decode cL_law 1622 = .ok (.invokestatic 218, 3) := by decide +kernel
theorem dL_law_1625 : decode cL_law 1625 = .ok (.istore 5, 2) := by decide +kernel
theorem dL_law_1627 : decode cL_law 1627 = .ok (.aload_n 2, 1) := by decide +kernel
theorem dL_law_1628 : decode cL_law 1628 = .ok (.aload_n 0, 1) := by decide +kernel
theorem dL_law_1629 : decode cL_law 1629 = .ok (.iload 4, 2) := by decide +kernel
theorem dL_law_1631 : decode cL_law 1631 = .ok (.iconst 1, 1) := by decide +kernel
theorem dL_law_1632 : decode cL_law 1632 = .ok (.iadd, 1) := by decide +kernel
theorem dL_law_1633 : decode cL_law 1633 = .ok (.iaload, 1) := by decide +kernel
theorem dL_law_1634 : decode cL_law 1634 = .ok (.invokevirtual 220, 3) := by decide +kernel
theorem dL_law_1637 : decode cL_law 1637 = .ok (.istore 6, 2) := by decide +kernel
theorem dL_law_1639 : decode cL_law 1639 = .ok (.aload_n 2, 1) := by decide +kernel
theorem dL_law_1640 : decode cL_law 1640 = .ok (.invokevirtual 145, 3) := by decide +kernel
theorem dL_law_1643 : decode cL_law 1643 = .ok (.iload 5, 2) := by decide +kernel
theorem dL_law_1645 : decode cL_law 1645 = .ok (.if_icmp .eq 5, 3) := by decide +kernel
theorem dL_law_1648 : decode cL_law 1648 = .ok (.iconst 0, 1) := by decide +kernel
theorem dL_law_1649 : decode cL_law 1649 = .ok (.ireturn, 1) := by decide +kernel
theorem dL_law_1650 : decode cL_law 1650 = .ok (.iload 5, 2) := by decide +kernel
theorem dL_law_1652 : decode cL_law 1652 = .ok (.ifCond .ne 15, 3) := by decide +kernel
theorem dL_law_1655 : decode cL_law 1655 = .ok (.aload_n 3, 1) := by decide +kernel
theorem dL_law_1656 : decode cL_law 1656 = .ok (.iconst 0, 1) := by decide +kernel
theorem dL_law_1657 : decode cL_law 1657 = .ok (.laload, 1) := by decide +kernel
theorem dL_law_1658 : decode cL_law 1658 = .ok (.iload 6, 2) := by decide +kernel
theorem dL_law_1660 : decode cL_law 1660 = .ok (.i2l, 1) := by decide +kernel
theorem dL_law_1661 : decode cL_law 1661 = .ok (.lcmp, 1) := by decide +kernel
theorem dL_law_1662 : decode cL_law 1662 = .ok (.ifCond .eq 5, 3) := by decide +kernel
theorem dL_law_1665 : decode cL_law 1665 = .ok (.iconst 0, 1) := by decide +kernel
theorem dL_law_1666 : decode cL_law 1666 = .ok (.ireturn, 1) := by decide +kernel
theorem dL_law_1667 : decode cL_law 1667 = .ok (.goto 1267, 3) := by decide +kernel
def fLa_23 (p0 p1 p2 p3 : Nat) (i : Int32) (h : mxH) : Option (Int32 × mxH) := Option.bind (ldI h p0 (i + 1)) (fun v1 => Option.bind (fL_plainDepth p1 v1 p3 h) (fun o4 => Option.bind (ldI o4.2 p0 (i + 1)) (fun v5 => Option.bind (isO o4.2 p2 10) (fun u8 => Option.bind (fX10_plainDepth p2 v5 o4.2) (fun o10 => Option.bind (isO o10.2 p2 10) (fun u12 => Option.bind (fX10_thrown p2 o10.2) (fun v14 => (if v14 = o4.1 then (if o4.1 = 0 then Option.bind (ldJ o10.2 p3 0) (fun r17 => (if (lg_cmp r17 o10.1.toInt64) = 0 then some (i + 5, o10.2) else none)) else some (i + 5, o10.2)) else none))))))))
set_option maxRecDepth 20000 in
theorem tLa_23 {l : Launch} {Z : mxZ} {X : mxX} (hl : l.stackTraces = false) (C : mxC l Z X RL cL_law 9) (hX : mxRm X = room_1) {p0 p1 p2 p3 : Nat} {i : Int32} {h : mxH} {o : Int32 × mxH} (hf : fLa_23 p0 p1 p2 p3 i h = some o) {k n : Nat} (hk : k + 8 ≤ 601024) (hn : n + 40 ≤ 7293034) (K : ∀ k2 n2, k2 ≤ k + 8 → n2 ≤ n + 40 → mG l Z X 9 k2 n2 23 [some (.ref p0), some (.ref p1), some (.ref p2), some (.ref p3), some (.int o.1), none, none, none, none] [] o.2) : mG l Z X 9 k n 1614 [some (.ref p0), some (.ref p1), some (.ref p2), some (.ref p3), some (.int i), none, none, none, none] [] h := by
  unfold fLa_23 at hf
  refine mG_aload_n (pc := 1614) C dL_law_1614 rfl ?_
  refine mG_aload_n (pc := 1615) C dL_law_1615 rfl ?_
  refine mG_iload (pc := 1616) C dL_law_1616 rfl ?_
  refine mG_ic (pc := 1618) C dL_law_1618 kI1 ?_
  refine mG_iadd (pc := 1619) C dL_law_1619 ?_
  obtain ⟨v1, e2, hf⟩ := mx_bind hf
  refine mG_iaload (pc := 1620) C dL_law_1620 e2 ?_
  refine mG_aload_n (pc := 1621) C dL_law_1621 rfl ?_
  obtain ⟨o4, e3, hf⟩ := mx_bind hf
  refine mG_cSH (pc := 1622) (k' := (k + 1)) (n' := (n + 6)) [.ref p1, .int v1, .ref p3] [] C hX dL_law_1622 lkH_L_218 rfl (tL_plainDepth hl e3) rfl ⟨by show k + 1 ≤ 601024; omega, by show n + 6 ≤ 7293034; omega⟩ rfl rfl rfl ?_
  refine mG_is (ls' := [some (.ref p0), some (.ref p1), some (.ref p2), some (.ref p3), some (.int i), some (.int o4.1), none, none, none]) (pc := 1625) C dL_law_1625 rfl rfl rfl ?_
  refine mG_aload_n (pc := 1627) C dL_law_1627 rfl ?_
  refine mG_aload_n (pc := 1628) C dL_law_1628 rfl ?_
  refine mG_iload (pc := 1629) C dL_law_1629 rfl ?_
  refine mG_ic (pc := 1631) C dL_law_1631 kI1 ?_
  refine mG_iadd (pc := 1632) C dL_law_1632 ?_
  obtain ⟨v5, e6, hf⟩ := mx_bind hf
  refine mG_iaload (pc := 1633) C dL_law_1633 e6 ?_
  obtain ⟨u8, e9, hf⟩ := mx_bind hf
  obtain ⟨o10, e7, hf⟩ := mx_bind hf
  refine mG_cV2 (pc := 1634) (k' := (k + 1)) (n' := (n + 6)) 10 [.int v5] [] C hX dL_law_1634 lkV_L_220 rfl rfl e9 (tX10_plainDepth hl e7) rfl ⟨by show (k + 1) + 0 ≤ 601024; omega, by show (n + 6) + 0 ≤ 7293034; omega⟩ rfl rfl rfl ?_
  refine mG_is (ls' := [some (.ref p0), some (.ref p1), some (.ref p2), some (.ref p3), some (.int i), some (.int o4.1), some (.int o10.1), none, none]) (pc := 1637) C dL_law_1637 rfl rfl rfl ?_
  refine mG_aload_n (pc := 1639) C dL_law_1639 rfl ?_
  obtain ⟨u12, e13, hf⟩ := mx_bind hf
  obtain ⟨v14, e11, hf⟩ := mx_bind hf
  refine mG_cV2 (pc := 1640) (k' := (k + 1)) (n' := (n + 6)) 10 [] [] C hX dL_law_1640 lkV_L_145 rfl rfl e13 (tX10_thrown hl e11) rfl ⟨by show (k + 1) + 0 ≤ 601024; omega, by show (n + 6) + 0 ≤ 7293034; omega⟩ rfl rfl rfl ?_
  refine mG_iload (pc := 1643) C dL_law_1643 rfl ?_
  refine mG_icmp_eq (pc := 1645) (tgt := 1650) C dL_law_1645 (by decide) (fun q15 => ?_) (fun q15 => ?_)
  · rw [if_pos q15] at hf
    refine mG_iload (pc := 1650) C dL_law_1650 rfl ?_
    refine mG_if_ne (pc := 1652) (tgt := 1667) C dL_law_1652 (by decide) (fun q16 => ?_) (fun q16 => ?_)
    · rw [if_neg q16] at hf
      refine mG_goto (tgt := 2934) (pc := 1667) C dL_law_1667 (by decide) ?_
      refine mG_ii (ls' := [some (.ref p0), some (.ref p1), some (.ref p2), some (.ref p3), some (.int (i + 5)), some (.int o4.1), some (.int o10.1), none, none]) (pc := 2934) C dL_law_2934 rfl (kinc5 _) rfl rfl rfl ?_
      refine mG_goto (tgt := 23) (pc := 2937) C dL_law_2937 (by decide) ?_
      cases hf
      exact mG_sub (mxLe_s (mxLe_s (mxLe_s (mxLe_s (mxLe_s (mxLe_n (mxLe_n (mxLe_n (mxLe_n mxLe_z))))))))) (K _ _ (by omega) (by omega))
    · rw [if_pos q16] at hf
      refine mG_aload_n (pc := 1655) C dL_law_1655 rfl ?_
      refine mG_ic (pc := 1656) C dL_law_1656 kI0 ?_
      obtain ⟨r17, e18, hf⟩ := mx_bind hf
      refine mG_laload (pc := 1657) C dL_law_1657 e18 ?_
      refine mG_iload (pc := 1658) C dL_law_1658 rfl ?_
      refine mG_i2l (pc := 1660) C dL_law_1660 ?_
      refine mG_lcmp (pc := 1661) C dL_law_1661 ?_
      refine mG_if_eq (pc := 1662) (tgt := 1667) C dL_law_1662 (by decide) (fun q19 => ?_) (fun q19 => ?_)
      · rw [if_pos q19] at hf
        refine mG_goto (tgt := 2934) (pc := 1667) C dL_law_1667 (by decide) ?_
        refine mG_ii (ls' := [some (.ref p0), some (.ref p1), some (.ref p2), some (.ref p3), some (.int (i + 5)), some (.int o4.1), some (.int o10.1), none, none]) (pc := 2934) C dL_law_2934 rfl (kinc5 _) rfl rfl rfl ?_
        refine mG_goto (tgt := 23) (pc := 2937) C dL_law_2937 (by decide) ?_
        cases hf
        exact mG_sub (mxLe_s (mxLe_s (mxLe_s (mxLe_s (mxLe_s (mxLe_n (mxLe_n (mxLe_n (mxLe_n mxLe_z))))))))) (K _ _ (by omega) (by omega))
      · rw [if_neg q19] at hf
        cases hf
  · rw [if_neg q15] at hf
    cases hf
theorem dL_law_1670 : decode cL_law 1670 = .ok (.aload_n 1, 1) := by decide +kernel
theorem dL_law_1671 : decode cL_law 1671 = .ok (.aload_n 0, 1) := by decide +kernel
theorem dL_law_1672 : decode cL_law 1672 = .ok (.iload 4, 2) := by decide +kernel
theorem dL_law_1674 : decode cL_law 1674 = .ok (.iconst 1, 1) := by decide +kernel
theorem dL_law_1675 : decode cL_law 1675 = .ok (.iadd, 1) := by decide +kernel
theorem dL_law_1676 : decode cL_law 1676 = .ok (.iaload, 1) := by decide +kernel
theorem dL_law_1677 : decode cL_law 1677 = .ok (.aload_n 3, 1) := by decide +kernel
theorem dL_law_1678 : decode cL_law 1678 = .ok (.invokestatic 221, 3) := by decide +kernel
theorem dL_law_1681 : decode cL_law 1681 = .ok (.istore 5, 2) := by decide +kernel
theorem dL_law_1683 : decode cL_law 1683 = .ok (.aload_n 2, 1) := by decide +kernel
theorem dL_law_1684 : decode cL_law 1684 = .ok (.aload_n 0, 1) := by decide +kernel
theorem dL_law_1685 : decode cL_law 1685 = .ok (.iload 4, 2) := by decide +kernel
theorem dL_law_1687 : decode cL_law 1687 = .ok (.iconst 1, 1) := by decide +kernel
theorem dL_law_1688 : decode cL_law 1688 = .ok (.iadd, 1) := by decide +kernel
theorem dL_law_1689 : decode cL_law 1689 = .ok (.iaload, 1) := by decide +kernel
theorem dL_law_1690 : decode cL_law 1690 = .ok (.invokevirtual 223, 3) := by decide +kernel
theorem dL_law_1693 : decode cL_law 1693 = .ok (.istore 6, 2) := by decide +kernel
theorem dL_law_1695 : decode cL_law 1695 = .ok (.aload_n 2, 1) := by decide +kernel
theorem dL_law_1696 : decode cL_law 1696 = .ok (.invokevirtual 145, 3) := by decide +kernel
theorem dL_law_1699 : decode cL_law 1699 = .ok (.iload 5, 2) := by decide +kernel
theorem dL_law_1701 : decode cL_law 1701 = .ok (.if_icmp .eq 5, 3) := by decide +kernel
theorem dL_law_1704 : decode cL_law 1704 = .ok (.iconst 0, 1) := by decide +kernel
theorem dL_law_1705 : decode cL_law 1705 = .ok (.ireturn, 1) := by decide +kernel
theorem dL_law_1706 : decode cL_law 1706 = .ok (.iload 5, 2) := by decide +kernel
theorem dL_law_1708 : decode cL_law 1708 = .ok (.ifCond .ne 15, 3) := by decide +kernel
theorem dL_law_1711 : decode cL_law 1711 = .ok (.aload_n 3, 1) := by decide +kernel
theorem dL_law_1712 : decode cL_law 1712 = .ok (.iconst 0, 1) := by decide +kernel
theorem dL_law_1713 : decode cL_law 1713 = .ok (.laload, 1) := by decide +kernel
theorem dL_law_1714 : decode cL_law 1714 = .ok (.iload 6, 2) := by decide +kernel
theorem dL_law_1716 : decode cL_law 1716 = .ok (.i2l, 1) := by decide +kernel
theorem dL_law_1717 : decode cL_law 1717 = .ok (.lcmp, 1) := by decide +kernel
theorem dL_law_1718 : decode cL_law 1718 = .ok (.ifCond .eq 5, 3) := by decide +kernel
theorem dL_law_1721 : decode cL_law 1721 = .ok (.iconst 0, 1) := by decide +kernel
theorem dL_law_1722 : decode cL_law 1722 = .ok (.ireturn, 1) := by decide +kernel
theorem dL_law_1723 : decode cL_law 1723 = .ok (.goto 1211, 3) := by decide +kernel
def fLa_24 (p0 p1 p2 p3 : Nat) (i : Int32) (h : mxH) : Option (Int32 × mxH) := Option.bind (ldI h p0 (i + 1)) (fun v1 => Option.bind (fL_plainCost p1 v1 p3 h) (fun o4 => Option.bind (ldI o4.2 p0 (i + 1)) (fun v5 => Option.bind (isO o4.2 p2 10) (fun u8 => Option.bind (fX10_plainCost p2 v5 o4.2) (fun o10 => Option.bind (isO o10.2 p2 10) (fun u12 => Option.bind (fX10_thrown p2 o10.2) (fun v14 => (if v14 = o4.1 then (if o4.1 = 0 then Option.bind (ldJ o10.2 p3 0) (fun r17 => (if (lg_cmp r17 o10.1.toInt64) = 0 then some (i + 5, o10.2) else none)) else some (i + 5, o10.2)) else none))))))))
set_option maxRecDepth 20000 in
theorem tLa_24 {l : Launch} {Z : mxZ} {X : mxX} (hl : l.stackTraces = false) (C : mxC l Z X RL cL_law 9) (hX : mxRm X = room_1) {p0 p1 p2 p3 : Nat} {i : Int32} {h : mxH} {o : Int32 × mxH} (hf : fLa_24 p0 p1 p2 p3 i h = some o) {k n : Nat} (hk : k + 8 ≤ 601024) (hn : n + 40 ≤ 7293034) (K : ∀ k2 n2, k2 ≤ k + 8 → n2 ≤ n + 40 → mG l Z X 9 k2 n2 23 [some (.ref p0), some (.ref p1), some (.ref p2), some (.ref p3), some (.int o.1), none, none, none, none] [] o.2) : mG l Z X 9 k n 1670 [some (.ref p0), some (.ref p1), some (.ref p2), some (.ref p3), some (.int i), none, none, none, none] [] h := by
  unfold fLa_24 at hf
  refine mG_aload_n (pc := 1670) C dL_law_1670 rfl ?_
  refine mG_aload_n (pc := 1671) C dL_law_1671 rfl ?_
  refine mG_iload (pc := 1672) C dL_law_1672 rfl ?_
  refine mG_ic (pc := 1674) C dL_law_1674 kI1 ?_
  refine mG_iadd (pc := 1675) C dL_law_1675 ?_
  obtain ⟨v1, e2, hf⟩ := mx_bind hf
  refine mG_iaload (pc := 1676) C dL_law_1676 e2 ?_
  refine mG_aload_n (pc := 1677) C dL_law_1677 rfl ?_
  obtain ⟨o4, e3, hf⟩ := mx_bind hf
  refine mG_cSH (pc := 1678) (k' := (k + 1)) (n' := (n + 6)) [.ref p1, .int v1, .ref p3] [] C hX dL_law_1678 lkH_L_221 rfl (tL_plainCost hl e3) rfl ⟨by show k + 1 ≤ 601024; omega, by show n + 6 ≤ 7293034; omega⟩ rfl rfl rfl ?_
  refine mG_is (ls' := [some (.ref p0), some (.ref p1), some (.ref p2), some (.ref p3), some (.int i), some (.int o4.1), none, none, none]) (pc := 1681) C dL_law_1681 rfl rfl rfl ?_
  refine mG_aload_n (pc := 1683) C dL_law_1683 rfl ?_
  refine mG_aload_n (pc := 1684) C dL_law_1684 rfl ?_
  refine mG_iload (pc := 1685) C dL_law_1685 rfl ?_
  refine mG_ic (pc := 1687) C dL_law_1687 kI1 ?_
  refine mG_iadd (pc := 1688) C dL_law_1688 ?_
  obtain ⟨v5, e6, hf⟩ := mx_bind hf
  refine mG_iaload (pc := 1689) C dL_law_1689 e6 ?_
  obtain ⟨u8, e9, hf⟩ := mx_bind hf
  obtain ⟨o10, e7, hf⟩ := mx_bind hf
  refine mG_cV2 (pc := 1690) (k' := (k + 1)) (n' := (n + 6)) 10 [.int v5] [] C hX dL_law_1690 lkV_L_223 rfl rfl e9 (tX10_plainCost hl e7) rfl ⟨by show (k + 1) + 0 ≤ 601024; omega, by show (n + 6) + 0 ≤ 7293034; omega⟩ rfl rfl rfl ?_
  refine mG_is (ls' := [some (.ref p0), some (.ref p1), some (.ref p2), some (.ref p3), some (.int i), some (.int o4.1), some (.int o10.1), none, none]) (pc := 1693) C dL_law_1693 rfl rfl rfl ?_
  refine mG_aload_n (pc := 1695) C dL_law_1695 rfl ?_
  obtain ⟨u12, e13, hf⟩ := mx_bind hf
  obtain ⟨v14, e11, hf⟩ := mx_bind hf
  refine mG_cV2 (pc := 1696) (k' := (k + 1)) (n' := (n + 6)) 10 [] [] C hX dL_law_1696 lkV_L_145 rfl rfl e13 (tX10_thrown hl e11) rfl ⟨by show (k + 1) + 0 ≤ 601024; omega, by show (n + 6) + 0 ≤ 7293034; omega⟩ rfl rfl rfl ?_
  refine mG_iload (pc := 1699) C dL_law_1699 rfl ?_
  refine mG_icmp_eq (pc := 1701) (tgt := 1706) C dL_law_1701 (by decide) (fun q15 => ?_) (fun q15 => ?_)
  · rw [if_pos q15] at hf
    refine mG_iload (pc := 1706) C dL_law_1706 rfl ?_
    refine mG_if_ne (pc := 1708) (tgt := 1723) C dL_law_1708 (by decide) (fun q16 => ?_) (fun q16 => ?_)
    · rw [if_neg q16] at hf
      refine mG_goto (tgt := 2934) (pc := 1723) C dL_law_1723 (by decide) ?_
      refine mG_ii (ls' := [some (.ref p0), some (.ref p1), some (.ref p2), some (.ref p3), some (.int (i + 5)), some (.int o4.1), some (.int o10.1), none, none]) (pc := 2934) C dL_law_2934 rfl (kinc5 _) rfl rfl rfl ?_
      refine mG_goto (tgt := 23) (pc := 2937) C dL_law_2937 (by decide) ?_
      cases hf
      exact mG_sub (mxLe_s (mxLe_s (mxLe_s (mxLe_s (mxLe_s (mxLe_n (mxLe_n (mxLe_n (mxLe_n mxLe_z))))))))) (K _ _ (by omega) (by omega))
    · rw [if_pos q16] at hf
      refine mG_aload_n (pc := 1711) C dL_law_1711 rfl ?_
      refine mG_ic (pc := 1712) C dL_law_1712 kI0 ?_
      obtain ⟨r17, e18, hf⟩ := mx_bind hf
      refine mG_laload (pc := 1713) C dL_law_1713 e18 ?_
      refine mG_iload (pc := 1714) C dL_law_1714 rfl ?_
      refine mG_i2l (pc := 1716) C dL_law_1716 ?_
      refine mG_lcmp (pc := 1717) C dL_law_1717 ?_
      refine mG_if_eq (pc := 1718) (tgt := 1723) C dL_law_1718 (by decide) (fun q19 => ?_) (fun q19 => ?_)
      · rw [if_pos q19] at hf
        refine mG_goto (tgt := 2934) (pc := 1723) C dL_law_1723 (by decide) ?_
        refine mG_ii (ls' := [some (.ref p0), some (.ref p1), some (.ref p2), some (.ref p3), some (.int (i + 5)), some (.int o4.1), some (.int o10.1), none, none]) (pc := 2934) C dL_law_2934 rfl (kinc5 _) rfl rfl rfl ?_
        refine mG_goto (tgt := 23) (pc := 2937) C dL_law_2937 (by decide) ?_
        cases hf
        exact mG_sub (mxLe_s (mxLe_s (mxLe_s (mxLe_s (mxLe_s (mxLe_n (mxLe_n (mxLe_n (mxLe_n mxLe_z))))))))) (K _ _ (by omega) (by omega))
      · rw [if_neg q19] at hf
        cases hf
  · rw [if_neg q15] at hf
    cases hf
theorem dL_law_1726 : decode cL_law 1726 = .ok (.aload_n 1, 1) := by decide +kernel
theorem dL_law_1727 : decode cL_law 1727 = .ok (.aload_n 0, 1) := by decide +kernel
theorem dL_law_1728 : decode cL_law 1728 = .ok (.iload 4, 2) := by decide +kernel
theorem dL_law_1730 : decode cL_law 1730 = .ok (.iconst 1, 1) := by decide +kernel
theorem dL_law_1731 : decode cL_law 1731 = .ok (.iadd, 1) := by decide +kernel
theorem dL_law_1732 : decode cL_law 1732 = .ok (.iaload, 1) := by decide +kernel
theorem dL_law_1733 : decode cL_law 1733 = .ok (.aload_n 0, 1) := by decide +kernel
theorem dL_law_1734 : decode cL_law 1734 = .ok (.iload 4, 2) := by decide +kernel
theorem dL_law_1736 : decode cL_law 1736 = .ok (.iconst 2, 1) := by decide +kernel
theorem dL_law_1737 : decode cL_law 1737 = .ok (.iadd, 1) := by decide +kernel
theorem dL_law_1738 : decode cL_law 1738 = .ok (.iaload, 1) := by decide +kernel
theorem dL_law_1739 : decode cL_law 1739 = .ok (.aload_n 0, 1) := by decide +kernel
theorem dL_law_1740 : decode cL_law 1740 = .ok (.iload 4, 2) := by decide +kernel
theorem dL_law_1742 : decode cL_law 1742 = .ok (.iconst 3, 1) := by decide +kernel
theorem dL_law_1743 : decode cL_law 1743 = .ok (.iadd, 1) := by decide +kernel
theorem dL_law_1744 : decode cL_law 1744 = .ok (.iaload, 1) := by decide +kernel
theorem dL_law_1745 : decode cL_law 1745 = .ok (.aload_n 0, 1) := by decide +kernel
theorem dL_law_1746 : decode cL_law 1746 = .ok (.iload 4, 2) := by decide +kernel
theorem dL_law_1748 : decode cL_law 1748 = .ok (.iconst 4, 1) := by decide +kernel
theorem dL_law_1749 : decode cL_law 1749 = .ok (.iadd, 1) := by decide +kernel
theorem dL_law_1750 : decode cL_law 1750 = .ok (.iaload, 1) := by decide +kernel
theorem dL_law_1751 : decode cL_law 1751 = .ok (.aload_n 3, 1) := by decide +kernel
theorem dL_law_1752 : decode cL_law 1752 = .ok (.invokestatic 224, 3) := by decide +kernel
theorem dL_law_1755 : decode cL_law 1755 = .ok (.istore 5, 2) := by decide +kernel
theorem dL_law_1757 : decode cL_law 1757 = .ok (.aload_n 2, 1) := by decide +kernel
theorem dL_law_1758 : decode cL_law 1758 = .ok (.aload_n 0, 1) := by decide +kernel
theorem dL_law_1759 : decode cL_law 1759 = .ok (.iload 4, 2) := by decide +kernel
theorem dL_law_1761 : decode cL_law 1761 = .ok (.iconst 1, 1) := by decide +kernel
theorem dL_law_1762 : decode cL_law 1762 = .ok (.iadd, 1) := by decide +kernel
theorem dL_law_1763 : decode cL_law 1763 = .ok (.iaload, 1) := by decide +kernel
theorem dL_law_1764 : decode cL_law 1764 = .ok (.aload_n 0, 1) := by decide +kernel
theorem dL_law_1765 : decode cL_law 1765 = .ok (.iload 4, 2) := by decide +kernel
theorem dL_law_1767 : decode cL_law 1767 = .ok (.iconst 2, 1) := by decide +kernel
theorem dL_law_1768 : decode cL_law 1768 = .ok (.iadd, 1) := by decide +kernel
theorem dL_law_1769 : decode cL_law 1769 = .ok (.iaload, 1) := by decide +kernel
theorem dL_law_1770 : decode cL_law 1770 = .ok (.aload_n 0, 1) := by decide +kernel
theorem dL_law_1771 : decode cL_law 1771 = .ok (.iload 4, 2) := by decide +kernel
theorem dL_law_1773 : decode cL_law 1773 = .ok (.iconst 3, 1) := by decide +kernel
theorem dL_law_1774 : decode cL_law 1774 = .ok (.iadd, 1) := by decide +kernel
theorem dL_law_1775 : decode cL_law 1775 = .ok (.iaload, 1) := by decide +kernel
theorem dL_law_1776 : decode cL_law 1776 = .ok (.aload_n 0, 1) := by decide +kernel
theorem dL_law_1777 : decode cL_law 1777 = .ok (.iload 4, 2) := by decide +kernel
theorem dL_law_1779 : decode cL_law 1779 = .ok (.iconst 4, 1) := by decide +kernel
theorem dL_law_1780 : decode cL_law 1780 = .ok (.iadd, 1) := by decide +kernel
theorem dL_law_1781 : decode cL_law 1781 = .ok (.iaload, 1) := by decide +kernel
theorem dL_law_1782 : decode cL_law 1782 = .ok (.invokevirtual 227, 3) := by decide +kernel
theorem dL_law_1785 : decode cL_law 1785 = .ok (.istore 6, 2) := by decide +kernel
theorem dL_law_1787 : decode cL_law 1787 = .ok (.aload_n 2, 1) := by decide +kernel
theorem dL_law_1788 : decode cL_law 1788 = .ok (.invokevirtual 145, 3) := by decide +kernel
theorem dL_law_1791 : decode cL_law 1791 = .ok (.iload 5, 2) := by decide +kernel
theorem dL_law_1793 : decode cL_law 1793 = .ok (.if_icmp .eq 5, 3) := by decide +kernel
theorem dL_law_1796 : decode cL_law 1796 = .ok (.iconst 0, 1) := by decide +kernel
theorem dL_law_1797 : decode cL_law 1797 = .ok (.ireturn, 1) := by decide +kernel
theorem dL_law_1798 : decode cL_law 1798 = .ok (.iload 5, 2) := by decide +kernel
theorem dL_law_1800 : decode cL_law 1800 = .ok (.ifCond .ne 22, 3) := by decide +kernel
theorem dL_law_1803 : decode cL_law 1803 = .ok (.aload_n 3, 1) := by decide +kernel
theorem dL_law_1804 : decode cL_law 1804 = .ok (.iconst 0, 1) := by decide +kernel
theorem dL_law_1805 : decode cL_law 1805 = .ok (.laload, 1) := by decide +kernel
theorem dL_law_1806 : decode cL_law 1806 = .ok (.iload 6, 2) := by decide +kernel
theorem dL_law_1808 : decode cL_law 1808 = .ok (.ifCond .eq 7, 3) := by decide +kernel
theorem dL_law_1811 : decode cL_law 1811 = .ok (.lconst 1, 1) := by decide +kernel
theorem dL_law_1812 : decode cL_law 1812 = .ok (.goto 4, 3) := by decide +kernel
theorem dL_law_1815 : decode cL_law 1815 = .ok (.lconst 0, 1) := by decide +kernel
theorem dL_law_1816 : decode cL_law 1816 = .ok (.lcmp, 1) := by decide +kernel
theorem dL_law_1817 : decode cL_law 1817 = .ok (.ifCond .eq 5, 3) := by decide +kernel
theorem dL_law_1820 : decode cL_law 1820 = .ok (.iconst 0, 1) := by decide +kernel
theorem dL_law_1821 : decode cL_law 1821 = .ok (.ireturn, 1) := by decide +kernel
theorem dL_law_1822 : decode cL_law 1822 = .ok (.goto 1112, 3) := by decide +kernel
def fLa_25 (p0 p1 p2 p3 : Nat) (i : Int32) (h : mxH) : Option (Int32 × mxH) := Option.bind (ldI h p0 (i + 1)) (fun v1 => Option.bind (ldI h p0 (i + 2)) (fun v3 => Option.bind (ldI h p0 (i + 3)) (fun v5 => Option.bind (ldI h p0 (i + 4)) (fun v7 => Option.bind (fL_holds p1 v1 v3 v5 v7 p3 h) (fun o10 => Option.bind (ldI o10.2 p0 (i + 1)) (fun v11 => Option.bind (ldI o10.2 p0 (i + 2)) (fun v13 => Option.bind (ldI o10.2 p0 (i + 3)) (fun v15 => Option.bind (ldI o10.2 p0 (i + 4)) (fun v17 => Option.bind (isO o10.2 p2 10) (fun u20 => Option.bind (fX10_holds p2 v11 v13 v15 v17 o10.2) (fun o22 => Option.bind (isO o22.2 p2 10) (fun u24 => Option.bind (fX10_thrown p2 o22.2) (fun v26 => (if v26 = o10.1 then (if o10.1 = 0 then Option.bind (ldJ o22.2 p3 0) (fun r29 => Option.bind (α := Int64) (if o22.1 = 0 then some 0 else some 1) (fun p33' : Int64 => (if (lg_cmp r29 p33') = 0 then some (i + 5, o22.2) else none))) else some (i + 5, o22.2)) else none))))))))))))))
set_option maxRecDepth 20000 in
theorem tLa_25 {l : Launch} {Z : mxZ} {X : mxX} (hl : l.stackTraces = false) (C : mxC l Z X RL cL_law 9) (hX : mxRm X = room_1) {p0 p1 p2 p3 : Nat} {i : Int32} {h : mxH} {o : Int32 × mxH} (hf : fLa_25 p0 p1 p2 p3 i h = some o) {k n : Nat} (hk : k + 8 ≤ 601024) (hn : n + 40 ≤ 7293034) (K : ∀ k2 n2, k2 ≤ k + 8 → n2 ≤ n + 40 → mG l Z X 9 k2 n2 23 [some (.ref p0), some (.ref p1), some (.ref p2), some (.ref p3), some (.int o.1), none, none, none, none] [] o.2) : mG l Z X 9 k n 1726 [some (.ref p0), some (.ref p1), some (.ref p2), some (.ref p3), some (.int i), none, none, none, none] [] h := by
  unfold fLa_25 at hf
  refine mG_aload_n (pc := 1726) C dL_law_1726 rfl ?_
  refine mG_aload_n (pc := 1727) C dL_law_1727 rfl ?_
  refine mG_iload (pc := 1728) C dL_law_1728 rfl ?_
  refine mG_ic (pc := 1730) C dL_law_1730 kI1 ?_
  refine mG_iadd (pc := 1731) C dL_law_1731 ?_
  obtain ⟨v1, e2, hf⟩ := mx_bind hf
  refine mG_iaload (pc := 1732) C dL_law_1732 e2 ?_
  refine mG_aload_n (pc := 1733) C dL_law_1733 rfl ?_
  refine mG_iload (pc := 1734) C dL_law_1734 rfl ?_
  refine mG_ic (pc := 1736) C dL_law_1736 kI2 ?_
  refine mG_iadd (pc := 1737) C dL_law_1737 ?_
  obtain ⟨v3, e4, hf⟩ := mx_bind hf
  refine mG_iaload (pc := 1738) C dL_law_1738 e4 ?_
  refine mG_aload_n (pc := 1739) C dL_law_1739 rfl ?_
  refine mG_iload (pc := 1740) C dL_law_1740 rfl ?_
  refine mG_ic (pc := 1742) C dL_law_1742 kI3 ?_
  refine mG_iadd (pc := 1743) C dL_law_1743 ?_
  obtain ⟨v5, e6, hf⟩ := mx_bind hf
  refine mG_iaload (pc := 1744) C dL_law_1744 e6 ?_
  refine mG_aload_n (pc := 1745) C dL_law_1745 rfl ?_
  refine mG_iload (pc := 1746) C dL_law_1746 rfl ?_
  refine mG_ic (pc := 1748) C dL_law_1748 kI4 ?_
  refine mG_iadd (pc := 1749) C dL_law_1749 ?_
  obtain ⟨v7, e8, hf⟩ := mx_bind hf
  refine mG_iaload (pc := 1750) C dL_law_1750 e8 ?_
  refine mG_aload_n (pc := 1751) C dL_law_1751 rfl ?_
  obtain ⟨o10, e9, hf⟩ := mx_bind hf
  refine mG_cSH (pc := 1752) (k' := (k + 4)) (n' := (n + 24)) [.ref p1, .int v1, .int v3, .int v5, .int v7, .ref p3] [] C hX dL_law_1752 lkH_L_224 rfl (tL_holds hl e9) rfl ⟨by show k + 4 ≤ 601024; omega, by show n + 24 ≤ 7293034; omega⟩ rfl rfl rfl ?_
  refine mG_is (ls' := [some (.ref p0), some (.ref p1), some (.ref p2), some (.ref p3), some (.int i), some (.int o10.1), none, none, none]) (pc := 1755) C dL_law_1755 rfl rfl rfl ?_
  refine mG_aload_n (pc := 1757) C dL_law_1757 rfl ?_
  refine mG_aload_n (pc := 1758) C dL_law_1758 rfl ?_
  refine mG_iload (pc := 1759) C dL_law_1759 rfl ?_
  refine mG_ic (pc := 1761) C dL_law_1761 kI1 ?_
  refine mG_iadd (pc := 1762) C dL_law_1762 ?_
  obtain ⟨v11, e12, hf⟩ := mx_bind hf
  refine mG_iaload (pc := 1763) C dL_law_1763 e12 ?_
  refine mG_aload_n (pc := 1764) C dL_law_1764 rfl ?_
  refine mG_iload (pc := 1765) C dL_law_1765 rfl ?_
  refine mG_ic (pc := 1767) C dL_law_1767 kI2 ?_
  refine mG_iadd (pc := 1768) C dL_law_1768 ?_
  obtain ⟨v13, e14, hf⟩ := mx_bind hf
  refine mG_iaload (pc := 1769) C dL_law_1769 e14 ?_
  refine mG_aload_n (pc := 1770) C dL_law_1770 rfl ?_
  refine mG_iload (pc := 1771) C dL_law_1771 rfl ?_
  refine mG_ic (pc := 1773) C dL_law_1773 kI3 ?_
  refine mG_iadd (pc := 1774) C dL_law_1774 ?_
  obtain ⟨v15, e16, hf⟩ := mx_bind hf
  refine mG_iaload (pc := 1775) C dL_law_1775 e16 ?_
  refine mG_aload_n (pc := 1776) C dL_law_1776 rfl ?_
  refine mG_iload (pc := 1777) C dL_law_1777 rfl ?_
  refine mG_ic (pc := 1779) C dL_law_1779 kI4 ?_
  refine mG_iadd (pc := 1780) C dL_law_1780 ?_
  obtain ⟨v17, e18, hf⟩ := mx_bind hf
  refine mG_iaload (pc := 1781) C dL_law_1781 e18 ?_
  obtain ⟨u20, e21, hf⟩ := mx_bind hf
  obtain ⟨o22, e19, hf⟩ := mx_bind hf
  refine mG_cV2 (pc := 1782) (k' := (k + 4)) (n' := (n + 24)) 10 [.int v11, .int v13, .int v15, .int v17] [] C hX dL_law_1782 lkV_L_227 rfl rfl e21 (tX10_holds hl e19) rfl ⟨by show (k + 4) + 0 ≤ 601024; omega, by show (n + 24) + 0 ≤ 7293034; omega⟩ rfl rfl rfl ?_
  refine mG_is (ls' := [some (.ref p0), some (.ref p1), some (.ref p2), some (.ref p3), some (.int i), some (.int o10.1), some (.int o22.1), none, none]) (pc := 1785) C dL_law_1785 rfl rfl rfl ?_
  refine mG_aload_n (pc := 1787) C dL_law_1787 rfl ?_
  obtain ⟨u24, e25, hf⟩ := mx_bind hf
  obtain ⟨v26, e23, hf⟩ := mx_bind hf
  refine mG_cV2 (pc := 1788) (k' := (k + 4)) (n' := (n + 24)) 10 [] [] C hX dL_law_1788 lkV_L_145 rfl rfl e25 (tX10_thrown hl e23) rfl ⟨by show (k + 4) + 0 ≤ 601024; omega, by show (n + 24) + 0 ≤ 7293034; omega⟩ rfl rfl rfl ?_
  refine mG_iload (pc := 1791) C dL_law_1791 rfl ?_
  refine mG_icmp_eq (pc := 1793) (tgt := 1798) C dL_law_1793 (by decide) (fun q27 => ?_) (fun q27 => ?_)
  · rw [if_pos q27] at hf
    refine mG_iload (pc := 1798) C dL_law_1798 rfl ?_
    refine mG_if_ne (pc := 1800) (tgt := 1822) C dL_law_1800 (by decide) (fun q28 => ?_) (fun q28 => ?_)
    · rw [if_neg q28] at hf
      refine mG_goto (tgt := 2934) (pc := 1822) C dL_law_1822 (by decide) ?_
      refine mG_ii (ls' := [some (.ref p0), some (.ref p1), some (.ref p2), some (.ref p3), some (.int (i + 5)), some (.int o10.1), some (.int o22.1), none, none]) (pc := 2934) C dL_law_2934 rfl (kinc5 _) rfl rfl rfl ?_
      refine mG_goto (tgt := 23) (pc := 2937) C dL_law_2937 (by decide) ?_
      cases hf
      exact mG_sub (mxLe_s (mxLe_s (mxLe_s (mxLe_s (mxLe_s (mxLe_n (mxLe_n (mxLe_n (mxLe_n mxLe_z))))))))) (K _ _ (by omega) (by omega))
    · rw [if_pos q28] at hf
      refine mG_aload_n (pc := 1803) C dL_law_1803 rfl ?_
      refine mG_ic (pc := 1804) C dL_law_1804 kI0 ?_
      obtain ⟨r29, e30, hf⟩ := mx_bind hf
      refine mG_laload (pc := 1805) C dL_law_1805 e30 ?_
      refine mG_iload (pc := 1806) C dL_law_1806 rfl ?_
      obtain ⟨p33, e34, hf⟩ := mx_bind hf
      have J32 : ∀ p33' : Int64, p33' = p33 → mG l Z X 9 (k + 4) (n + 24) 1816 [some (.ref p0), some (.ref p1), some (.ref p2), some (.ref p3), some (.int i), none, none, none, none] [.long p33', .long r29] o22.2 := by
        intro p33' q36
        subst q36
        refine mG_lcmp (pc := 1816) C dL_law_1816 ?_
        refine mG_if_eq (pc := 1817) (tgt := 1822) C dL_law_1817 (by decide) (fun q35 => ?_) (fun q35 => ?_)
        · rw [if_pos q35] at hf
          refine mG_goto (tgt := 2934) (pc := 1822) C dL_law_1822 (by decide) ?_
          refine mG_ii (ls' := [some (.ref p0), some (.ref p1), some (.ref p2), some (.ref p3), some (.int (i + 5)), none, none, none, none]) (pc := 2934) C dL_law_2934 rfl (kinc5 _) rfl rfl rfl ?_
          refine mG_goto (tgt := 23) (pc := 2937) C dL_law_2937 (by decide) ?_
          cases hf
          exact mG_sub (mxLe_s (mxLe_s (mxLe_s (mxLe_s (mxLe_s (mxLe_n (mxLe_n (mxLe_n (mxLe_n mxLe_z))))))))) (K _ _ (by omega) (by omega))
        · rw [if_neg q35] at hf
          cases hf
      refine mG_if_eq (pc := 1808) (tgt := 1815) C dL_law_1808 (by decide) (fun q31 => ?_) (fun q31 => ?_)
      · rw [if_pos q31] at e34
        refine mG_lc (pc := 1815) C dL_law_1815 klc0 ?_
        exact mG_sub (mxLe_s (mxLe_s (mxLe_s (mxLe_s (mxLe_s (mxLe_n (mxLe_n (mxLe_n (mxLe_n mxLe_z))))))))) (J32 _ (Option.some.inj e34))
      · rw [if_neg q31] at e34
        refine mG_lc (pc := 1811) C dL_law_1811 klc1 ?_
        refine mG_goto (tgt := 1816) (pc := 1812) C dL_law_1812 (by decide) ?_
        exact mG_sub (mxLe_s (mxLe_s (mxLe_s (mxLe_s (mxLe_s (mxLe_n (mxLe_n (mxLe_n (mxLe_n mxLe_z))))))))) (J32 _ (Option.some.inj e34))
  · rw [if_neg q27] at hf
    cases hf
theorem dL_law_1825 : decode cL_law 1825 = .ok (.aload_n 1, 1) := by decide +kernel
theorem dL_law_1826 : decode cL_law 1826 = .ok (.invokevirtual 228, 3) := by decide +kernel
theorem dL_law_1829 : decode cL_law 1829 = .ok (.aload_n 2, 1) := by decide +kernel
theorem dL_law_1830 : decode cL_law 1830 = .ok (.invokevirtual 231, 3) := by decide +kernel
theorem dL_law_1833 : decode cL_law 1833 = .ok (.if_icmp .eq 1101, 3) := by decide +kernel
theorem dL_law_1836 : decode cL_law 1836 = .ok (.iconst 0, 1) := by decide +kernel
theorem dL_law_1837 : decode cL_law 1837 = .ok (.ireturn, 1) := by decide +kernel
def fLa_26 (p0 p1 p2 p3 : Nat) (i : Int32) (h : mxH) : Option (Int32 × mxH) := Option.bind (isO h p1 9) (fun u2 => Option.bind (fX9_mergedCount p1 h) (fun v4 => Option.bind (isO h p2 10) (fun u6 => Option.bind (fX10_mergedCount p2 h) (fun o8 => (if v4 = o8.1 then some (i + 5, o8.2) else none)))))
set_option maxRecDepth 20000 in
theorem tLa_26 {l : Launch} {Z : mxZ} {X : mxX} (hl : l.stackTraces = false) (C : mxC l Z X RL cL_law 9) (hX : mxRm X = room_1) {p0 p1 p2 p3 : Nat} {i : Int32} {h : mxH} {o : Int32 × mxH} (hf : fLa_26 p0 p1 p2 p3 i h = some o) {k n : Nat} (hk : k + 8 ≤ 601024) (hn : n + 40 ≤ 7293034) (K : ∀ k2 n2, k2 ≤ k + 8 → n2 ≤ n + 40 → mG l Z X 9 k2 n2 23 [some (.ref p0), some (.ref p1), some (.ref p2), some (.ref p3), some (.int o.1), none, none, none, none] [] o.2) : mG l Z X 9 k n 1825 [some (.ref p0), some (.ref p1), some (.ref p2), some (.ref p3), some (.int i), none, none, none, none] [] h := by
  unfold fLa_26 at hf
  refine mG_aload_n (pc := 1825) C dL_law_1825 rfl ?_
  obtain ⟨u2, e3, hf⟩ := mx_bind hf
  obtain ⟨v4, e1, hf⟩ := mx_bind hf
  refine mG_cV2 (pc := 1826) (k' := k) (n' := n) 9 [] [] C hX dL_law_1826 lkV_L_228 rfl rfl e3 (tX9_mergedCount hl e1) rfl ⟨by show k + 0 ≤ 601024; omega, by show n + 0 ≤ 7293034; omega⟩ rfl rfl rfl ?_
  refine mG_aload_n (pc := 1829) C dL_law_1829 rfl ?_
  obtain ⟨u6, e7, hf⟩ := mx_bind hf
  obtain ⟨o8, e5, hf⟩ := mx_bind hf
  refine mG_cV2 (pc := 1830) (k' := k) (n' := n) 10 [] [.int v4] C hX dL_law_1830 lkV_L_231 rfl rfl e7 (tX10_mergedCount hl e5) rfl ⟨by show k + 0 ≤ 601024; omega, by show n + 0 ≤ 7293034; omega⟩ rfl rfl rfl ?_
  refine mG_icmp_eq (pc := 1833) (tgt := 2934) C dL_law_1833 (by decide) (fun q9 => ?_) (fun q9 => ?_)
  · rw [if_pos q9] at hf
    refine mG_ii (ls' := [some (.ref p0), some (.ref p1), some (.ref p2), some (.ref p3), some (.int (i + 5)), none, none, none, none]) (pc := 2934) C dL_law_2934 rfl (kinc5 _) rfl rfl rfl ?_
    refine mG_goto (tgt := 23) (pc := 2937) C dL_law_2937 (by decide) ?_
    cases hf
    exact mG_sub (mxLe_s (mxLe_s (mxLe_s (mxLe_s (mxLe_s (mxLe_n (mxLe_n (mxLe_n (mxLe_n mxLe_z))))))))) (K _ _ (by omega) (by omega))
  · rw [if_neg q9] at hf
    cases hf
theorem dL_law_1838 : decode cL_law 1838 = .ok (.aload_n 1, 1) := by decide +kernel
theorem dL_law_1839 : decode cL_law 1839 = .ok (.aload_n 0, 1) := by decide +kernel
theorem dL_law_1840 : decode cL_law 1840 = .ok (.iload 4, 2) := by decide +kernel
theorem dL_law_1842 : decode cL_law 1842 = .ok (.iconst 1, 1) := by decide +kernel
theorem dL_law_1843 : decode cL_law 1843 = .ok (.iadd, 1) := by decide +kernel
theorem dL_law_1844 : decode cL_law 1844 = .ok (.iaload, 1) := by decide +kernel
theorem dL_law_1845 : decode cL_law 1845 = .ok (.aload_n 3, 1) := by decide +kernel
theorem dL_law_1846 : decode cL_law 1846 = .ok (.invokestatic 232, 3) := by decide +kernel
theorem dL_law_1849 : decode cL_law 1849 = .ok (.istore 5, 2) := by decide +kernel
theorem dL_law_1851 : decode cL_law 1851 = .ok (.aload_n 2, 1) := by decide +kernel
theorem dL_law_1852 : decode cL_law 1852 = .ok (.aload_n 0, 1) := by decide +kernel
theorem dL_law_1853 : decode cL_law 1853 = .ok (.iload 4, 2) := by decide +kernel
theorem dL_law_1855 : decode cL_law 1855 = .ok (.iconst 1, 1) := by decide +kernel
theorem dL_law_1856 : decode cL_law 1856 = .ok (.iadd, 1) := by decide +kernel
theorem dL_law_1857 : decode cL_law 1857 = .ok (.iaload, 1) := by decide +kernel
theorem dL_law_1858 : decode cL_law 1858 = .ok (.invokevirtual 234, 3) := by decide +kernel
theorem dL_law_1861 : decode cL_law 1861 = .ok (.istore 6, 2) := by decide +kernel
theorem dL_law_1863 : decode cL_law 1863 = .ok (.aload_n 2, 1) := by decide +kernel
theorem dL_law_1864 : decode cL_law 1864 = .ok (.invokevirtual 145, 3) := by decide +kernel
theorem dL_law_1867 : decode cL_law 1867 = .ok (.iload 5, 2) := by decide +kernel
theorem dL_law_1869 : decode cL_law 1869 = .ok (.if_icmp .eq 5, 3) := by decide +kernel
theorem dL_law_1872 : decode cL_law 1872 = .ok (.iconst 0, 1) := by decide +kernel
theorem dL_law_1873 : decode cL_law 1873 = .ok (.ireturn, 1) := by decide +kernel
theorem dL_law_1874 : decode cL_law 1874 = .ok (.iload 5, 2) := by decide +kernel
theorem dL_law_1876 : decode cL_law 1876 = .ok (.ifCond .ne 15, 3) := by decide +kernel
theorem dL_law_1879 : decode cL_law 1879 = .ok (.aload_n 3, 1) := by decide +kernel
theorem dL_law_1880 : decode cL_law 1880 = .ok (.iconst 0, 1) := by decide +kernel
theorem dL_law_1881 : decode cL_law 1881 = .ok (.laload, 1) := by decide +kernel
theorem dL_law_1882 : decode cL_law 1882 = .ok (.iload 6, 2) := by decide +kernel
theorem dL_law_1884 : decode cL_law 1884 = .ok (.i2l, 1) := by decide +kernel
theorem dL_law_1885 : decode cL_law 1885 = .ok (.lcmp, 1) := by decide +kernel
theorem dL_law_1886 : decode cL_law 1886 = .ok (.ifCond .eq 5, 3) := by decide +kernel
theorem dL_law_1889 : decode cL_law 1889 = .ok (.iconst 0, 1) := by decide +kernel
theorem dL_law_1890 : decode cL_law 1890 = .ok (.ireturn, 1) := by decide +kernel
theorem dL_law_1891 : decode cL_law 1891 = .ok (.goto 1043, 3) := by decide +kernel
def fLa_27 (p0 p1 p2 p3 : Nat) (i : Int32) (h : mxH) : Option (Int32 × mxH) := Option.bind (ldI h p0 (i + 1)) (fun v1 => Option.bind (fL_mergedThing p1 v1 p3 h) (fun o4 => Option.bind (ldI o4.2 p0 (i + 1)) (fun v5 => Option.bind (isO o4.2 p2 10) (fun u8 => Option.bind (fX10_mergedThing p2 v5 o4.2) (fun o10 => Option.bind (isO o10.2 p2 10) (fun u12 => Option.bind (fX10_thrown p2 o10.2) (fun v14 => (if v14 = o4.1 then (if o4.1 = 0 then Option.bind (ldJ o10.2 p3 0) (fun r17 => (if (lg_cmp r17 o10.1.toInt64) = 0 then some (i + 5, o10.2) else none)) else some (i + 5, o10.2)) else none))))))))
set_option maxRecDepth 20000 in
theorem tLa_27 {l : Launch} {Z : mxZ} {X : mxX} (hl : l.stackTraces = false) (C : mxC l Z X RL cL_law 9) (hX : mxRm X = room_1) {p0 p1 p2 p3 : Nat} {i : Int32} {h : mxH} {o : Int32 × mxH} (hf : fLa_27 p0 p1 p2 p3 i h = some o) {k n : Nat} (hk : k + 8 ≤ 601024) (hn : n + 40 ≤ 7293034) (K : ∀ k2 n2, k2 ≤ k + 8 → n2 ≤ n + 40 → mG l Z X 9 k2 n2 23 [some (.ref p0), some (.ref p1), some (.ref p2), some (.ref p3), some (.int o.1), none, none, none, none] [] o.2) : mG l Z X 9 k n 1838 [some (.ref p0), some (.ref p1), some (.ref p2), some (.ref p3), some (.int i), none, none, none, none] [] h := by
  unfold fLa_27 at hf
  refine mG_aload_n (pc := 1838) C dL_law_1838 rfl ?_
  refine mG_aload_n (pc := 1839) C dL_law_1839 rfl ?_
  refine mG_iload (pc := 1840) C dL_law_1840 rfl ?_
  refine mG_ic (pc := 1842) C dL_law_1842 kI1 ?_
  refine mG_iadd (pc := 1843) C dL_law_1843 ?_
  obtain ⟨v1, e2, hf⟩ := mx_bind hf
  refine mG_iaload (pc := 1844) C dL_law_1844 e2 ?_
  refine mG_aload_n (pc := 1845) C dL_law_1845 rfl ?_
  obtain ⟨o4, e3, hf⟩ := mx_bind hf
  refine mG_cSH (pc := 1846) (k' := (k + 1)) (n' := (n + 6)) [.ref p1, .int v1, .ref p3] [] C hX dL_law_1846 lkH_L_232 rfl (tL_mergedThing hl e3) rfl ⟨by show k + 1 ≤ 601024; omega, by show n + 6 ≤ 7293034; omega⟩ rfl rfl rfl ?_
  refine mG_is (ls' := [some (.ref p0), some (.ref p1), some (.ref p2), some (.ref p3), some (.int i), some (.int o4.1), none, none, none]) (pc := 1849) C dL_law_1849 rfl rfl rfl ?_
  refine mG_aload_n (pc := 1851) C dL_law_1851 rfl ?_
  refine mG_aload_n (pc := 1852) C dL_law_1852 rfl ?_
  refine mG_iload (pc := 1853) C dL_law_1853 rfl ?_
  refine mG_ic (pc := 1855) C dL_law_1855 kI1 ?_
  refine mG_iadd (pc := 1856) C dL_law_1856 ?_
  obtain ⟨v5, e6, hf⟩ := mx_bind hf
  refine mG_iaload (pc := 1857) C dL_law_1857 e6 ?_
  obtain ⟨u8, e9, hf⟩ := mx_bind hf
  obtain ⟨o10, e7, hf⟩ := mx_bind hf
  refine mG_cV2 (pc := 1858) (k' := (k + 1)) (n' := (n + 6)) 10 [.int v5] [] C hX dL_law_1858 lkV_L_234 rfl rfl e9 (tX10_mergedThing hl e7) rfl ⟨by show (k + 1) + 0 ≤ 601024; omega, by show (n + 6) + 0 ≤ 7293034; omega⟩ rfl rfl rfl ?_
  refine mG_is (ls' := [some (.ref p0), some (.ref p1), some (.ref p2), some (.ref p3), some (.int i), some (.int o4.1), some (.int o10.1), none, none]) (pc := 1861) C dL_law_1861 rfl rfl rfl ?_
  refine mG_aload_n (pc := 1863) C dL_law_1863 rfl ?_
  obtain ⟨u12, e13, hf⟩ := mx_bind hf
  obtain ⟨v14, e11, hf⟩ := mx_bind hf
  refine mG_cV2 (pc := 1864) (k' := (k + 1)) (n' := (n + 6)) 10 [] [] C hX dL_law_1864 lkV_L_145 rfl rfl e13 (tX10_thrown hl e11) rfl ⟨by show (k + 1) + 0 ≤ 601024; omega, by show (n + 6) + 0 ≤ 7293034; omega⟩ rfl rfl rfl ?_
  refine mG_iload (pc := 1867) C dL_law_1867 rfl ?_
  refine mG_icmp_eq (pc := 1869) (tgt := 1874) C dL_law_1869 (by decide) (fun q15 => ?_) (fun q15 => ?_)
  · rw [if_pos q15] at hf
    refine mG_iload (pc := 1874) C dL_law_1874 rfl ?_
    refine mG_if_ne (pc := 1876) (tgt := 1891) C dL_law_1876 (by decide) (fun q16 => ?_) (fun q16 => ?_)
    · rw [if_neg q16] at hf
      refine mG_goto (tgt := 2934) (pc := 1891) C dL_law_1891 (by decide) ?_
      refine mG_ii (ls' := [some (.ref p0), some (.ref p1), some (.ref p2), some (.ref p3), some (.int (i + 5)), some (.int o4.1), some (.int o10.1), none, none]) (pc := 2934) C dL_law_2934 rfl (kinc5 _) rfl rfl rfl ?_
      refine mG_goto (tgt := 23) (pc := 2937) C dL_law_2937 (by decide) ?_
      cases hf
      exact mG_sub (mxLe_s (mxLe_s (mxLe_s (mxLe_s (mxLe_s (mxLe_n (mxLe_n (mxLe_n (mxLe_n mxLe_z))))))))) (K _ _ (by omega) (by omega))
    · rw [if_pos q16] at hf
      refine mG_aload_n (pc := 1879) C dL_law_1879 rfl ?_
      refine mG_ic (pc := 1880) C dL_law_1880 kI0 ?_
      obtain ⟨r17, e18, hf⟩ := mx_bind hf
      refine mG_laload (pc := 1881) C dL_law_1881 e18 ?_
      refine mG_iload (pc := 1882) C dL_law_1882 rfl ?_
      refine mG_i2l (pc := 1884) C dL_law_1884 ?_
      refine mG_lcmp (pc := 1885) C dL_law_1885 ?_
      refine mG_if_eq (pc := 1886) (tgt := 1891) C dL_law_1886 (by decide) (fun q19 => ?_) (fun q19 => ?_)
      · rw [if_pos q19] at hf
        refine mG_goto (tgt := 2934) (pc := 1891) C dL_law_1891 (by decide) ?_
        refine mG_ii (ls' := [some (.ref p0), some (.ref p1), some (.ref p2), some (.ref p3), some (.int (i + 5)), some (.int o4.1), some (.int o10.1), none, none]) (pc := 2934) C dL_law_2934 rfl (kinc5 _) rfl rfl rfl ?_
        refine mG_goto (tgt := 23) (pc := 2937) C dL_law_2937 (by decide) ?_
        cases hf
        exact mG_sub (mxLe_s (mxLe_s (mxLe_s (mxLe_s (mxLe_s (mxLe_n (mxLe_n (mxLe_n (mxLe_n mxLe_z))))))))) (K _ _ (by omega) (by omega))
      · rw [if_neg q19] at hf
        cases hf
  · rw [if_neg q15] at hf
    cases hf
theorem dL_law_1894 : decode cL_law 1894 = .ok (.aload_n 1, 1) := by decide +kernel
theorem dL_law_1895 : decode cL_law 1895 = .ok (.aload_n 0, 1) := by decide +kernel
theorem dL_law_1896 : decode cL_law 1896 = .ok (.iload 4, 2) := by decide +kernel
theorem dL_law_1898 : decode cL_law 1898 = .ok (.iconst 1, 1) := by decide +kernel
theorem dL_law_1899 : decode cL_law 1899 = .ok (.iadd, 1) := by decide +kernel
theorem dL_law_1900 : decode cL_law 1900 = .ok (.iaload, 1) := by decide +kernel
theorem dL_law_1901 : decode cL_law 1901 = .ok (.aload_n 3, 1) := by decide +kernel
theorem dL_law_1902 : decode cL_law 1902 = .ok (.invokestatic 235, 3) := by decide +kernel
theorem dL_law_1905 : decode cL_law 1905 = .ok (.istore 5, 2) := by decide +kernel
theorem dL_law_1907 : decode cL_law 1907 = .ok (.aload_n 2, 1) := by decide +kernel
theorem dL_law_1908 : decode cL_law 1908 = .ok (.aload_n 0, 1) := by decide +kernel
theorem dL_law_1909 : decode cL_law 1909 = .ok (.iload 4, 2) := by decide +kernel
theorem dL_law_1911 : decode cL_law 1911 = .ok (.iconst 1, 1) := by decide +kernel
theorem dL_law_1912 : decode cL_law 1912 = .ok (.iadd, 1) := by decide +kernel
theorem dL_law_1913 : decode cL_law 1913 = .ok (.iaload, 1) := by decide +kernel
theorem dL_law_1914 : decode cL_law 1914 = .ok (.invokevirtual 237, 3) := by decide +kernel
theorem dL_law_1917 : decode cL_law 1917 = .ok (.istore 6, 2) := by decide +kernel
theorem dL_law_1919 : decode cL_law 1919 = .ok (.aload_n 2, 1) := by decide +kernel
theorem dL_law_1920 : decode cL_law 1920 = .ok (.invokevirtual 145, 3) := by decide +kernel
theorem dL_law_1923 : decode cL_law 1923 = .ok (.iload 5, 2) := by decide +kernel
theorem dL_law_1925 : decode cL_law 1925 = .ok (.if_icmp .eq 5, 3) := by decide +kernel
theorem dL_law_1928 : decode cL_law 1928 = .ok (.iconst 0, 1) := by decide +kernel
theorem dL_law_1929 : decode cL_law 1929 = .ok (.ireturn, 1) := by decide +kernel
theorem dL_law_1930 : decode cL_law 1930 = .ok (.iload 5, 2) := by decide +kernel
theorem dL_law_1932 : decode cL_law 1932 = .ok (.ifCond .ne 15, 3) := by decide +kernel
theorem dL_law_1935 : decode cL_law 1935 = .ok (.aload_n 3, 1) := by decide +kernel
theorem dL_law_1936 : decode cL_law 1936 = .ok (.iconst 0, 1) := by decide +kernel
theorem dL_law_1937 : decode cL_law 1937 = .ok (.laload, 1) := by decide +kernel
theorem dL_law_1938 : decode cL_law 1938 = .ok (.iload 6, 2) := by decide +kernel
theorem dL_law_1940 : decode cL_law 1940 = .ok (.i2l, 1) := by decide +kernel
theorem dL_law_1941 : decode cL_law 1941 = .ok (.lcmp, 1) := by decide +kernel
theorem dL_law_1942 : decode cL_law 1942 = .ok (.ifCond .eq 5, 3) := by decide +kernel
theorem dL_law_1945 : decode cL_law 1945 = .ok (.iconst 0, 1) := by decide +kernel
theorem dL_law_1946 : decode cL_law 1946 = .ok (.ireturn, 1) := by decide +kernel
theorem dL_law_1947 : decode cL_law 1947 = .ok (.goto 987, 3) := by decide +kernel
def fLa_28 (p0 p1 p2 p3 : Nat) (i : Int32) (h : mxH) : Option (Int32 × mxH) := Option.bind (ldI h p0 (i + 1)) (fun v1 => Option.bind (fL_mergedRow p1 v1 p3 h) (fun o4 => Option.bind (ldI o4.2 p0 (i + 1)) (fun v5 => Option.bind (isO o4.2 p2 10) (fun u8 => Option.bind (fX10_mergedRow p2 v5 o4.2) (fun o10 => Option.bind (isO o10.2 p2 10) (fun u12 => Option.bind (fX10_thrown p2 o10.2) (fun v14 => (if v14 = o4.1 then (if o4.1 = 0 then Option.bind (ldJ o10.2 p3 0) (fun r17 => (if (lg_cmp r17 o10.1.toInt64) = 0 then some (i + 5, o10.2) else none)) else some (i + 5, o10.2)) else none))))))))
set_option maxRecDepth 20000 in
theorem tLa_28 {l : Launch} {Z : mxZ} {X : mxX} (hl : l.stackTraces = false) (C : mxC l Z X RL cL_law 9) (hX : mxRm X = room_1) {p0 p1 p2 p3 : Nat} {i : Int32} {h : mxH} {o : Int32 × mxH} (hf : fLa_28 p0 p1 p2 p3 i h = some o) {k n : Nat} (hk : k + 8 ≤ 601024) (hn : n + 40 ≤ 7293034) (K : ∀ k2 n2, k2 ≤ k + 8 → n2 ≤ n + 40 → mG l Z X 9 k2 n2 23 [some (.ref p0), some (.ref p1), some (.ref p2), some (.ref p3), some (.int o.1), none, none, none, none] [] o.2) : mG l Z X 9 k n 1894 [some (.ref p0), some (.ref p1), some (.ref p2), some (.ref p3), some (.int i), none, none, none, none] [] h := by
  unfold fLa_28 at hf
  refine mG_aload_n (pc := 1894) C dL_law_1894 rfl ?_
  refine mG_aload_n (pc := 1895) C dL_law_1895 rfl ?_
  refine mG_iload (pc := 1896) C dL_law_1896 rfl ?_
  refine mG_ic (pc := 1898) C dL_law_1898 kI1 ?_
  refine mG_iadd (pc := 1899) C dL_law_1899 ?_
  obtain ⟨v1, e2, hf⟩ := mx_bind hf
  refine mG_iaload (pc := 1900) C dL_law_1900 e2 ?_
  refine mG_aload_n (pc := 1901) C dL_law_1901 rfl ?_
  obtain ⟨o4, e3, hf⟩ := mx_bind hf
  refine mG_cSH (pc := 1902) (k' := (k + 1)) (n' := (n + 6)) [.ref p1, .int v1, .ref p3] [] C hX dL_law_1902 lkH_L_235 rfl (tL_mergedRow hl e3) rfl ⟨by show k + 1 ≤ 601024; omega, by show n + 6 ≤ 7293034; omega⟩ rfl rfl rfl ?_
  refine mG_is (ls' := [some (.ref p0), some (.ref p1), some (.ref p2), some (.ref p3), some (.int i), some (.int o4.1), none, none, none]) (pc := 1905) C dL_law_1905 rfl rfl rfl ?_
  refine mG_aload_n (pc := 1907) C dL_law_1907 rfl ?_
  refine mG_aload_n (pc := 1908) C dL_law_1908 rfl ?_
  refine mG_iload (pc := 1909) C dL_law_1909 rfl ?_
  refine mG_ic (pc := 1911) C dL_law_1911 kI1 ?_
  refine mG_iadd (pc := 1912) C dL_law_1912 ?_
  obtain ⟨v5, e6, hf⟩ := mx_bind hf
  refine mG_iaload (pc := 1913) C dL_law_1913 e6 ?_
  obtain ⟨u8, e9, hf⟩ := mx_bind hf
  obtain ⟨o10, e7, hf⟩ := mx_bind hf
  refine mG_cV2 (pc := 1914) (k' := (k + 1)) (n' := (n + 6)) 10 [.int v5] [] C hX dL_law_1914 lkV_L_237 rfl rfl e9 (tX10_mergedRow hl e7) rfl ⟨by show (k + 1) + 0 ≤ 601024; omega, by show (n + 6) + 0 ≤ 7293034; omega⟩ rfl rfl rfl ?_
  refine mG_is (ls' := [some (.ref p0), some (.ref p1), some (.ref p2), some (.ref p3), some (.int i), some (.int o4.1), some (.int o10.1), none, none]) (pc := 1917) C dL_law_1917 rfl rfl rfl ?_
  refine mG_aload_n (pc := 1919) C dL_law_1919 rfl ?_
  obtain ⟨u12, e13, hf⟩ := mx_bind hf
  obtain ⟨v14, e11, hf⟩ := mx_bind hf
  refine mG_cV2 (pc := 1920) (k' := (k + 1)) (n' := (n + 6)) 10 [] [] C hX dL_law_1920 lkV_L_145 rfl rfl e13 (tX10_thrown hl e11) rfl ⟨by show (k + 1) + 0 ≤ 601024; omega, by show (n + 6) + 0 ≤ 7293034; omega⟩ rfl rfl rfl ?_
  refine mG_iload (pc := 1923) C dL_law_1923 rfl ?_
  refine mG_icmp_eq (pc := 1925) (tgt := 1930) C dL_law_1925 (by decide) (fun q15 => ?_) (fun q15 => ?_)
  · rw [if_pos q15] at hf
    refine mG_iload (pc := 1930) C dL_law_1930 rfl ?_
    refine mG_if_ne (pc := 1932) (tgt := 1947) C dL_law_1932 (by decide) (fun q16 => ?_) (fun q16 => ?_)
    · rw [if_neg q16] at hf
      refine mG_goto (tgt := 2934) (pc := 1947) C dL_law_1947 (by decide) ?_
      refine mG_ii (ls' := [some (.ref p0), some (.ref p1), some (.ref p2), some (.ref p3), some (.int (i + 5)), some (.int o4.1), some (.int o10.1), none, none]) (pc := 2934) C dL_law_2934 rfl (kinc5 _) rfl rfl rfl ?_
      refine mG_goto (tgt := 23) (pc := 2937) C dL_law_2937 (by decide) ?_
      cases hf
      exact mG_sub (mxLe_s (mxLe_s (mxLe_s (mxLe_s (mxLe_s (mxLe_n (mxLe_n (mxLe_n (mxLe_n mxLe_z))))))))) (K _ _ (by omega) (by omega))
    · rw [if_pos q16] at hf
      refine mG_aload_n (pc := 1935) C dL_law_1935 rfl ?_
      refine mG_ic (pc := 1936) C dL_law_1936 kI0 ?_
      obtain ⟨r17, e18, hf⟩ := mx_bind hf
      refine mG_laload (pc := 1937) C dL_law_1937 e18 ?_
      refine mG_iload (pc := 1938) C dL_law_1938 rfl ?_
      refine mG_i2l (pc := 1940) C dL_law_1940 ?_
      refine mG_lcmp (pc := 1941) C dL_law_1941 ?_
      refine mG_if_eq (pc := 1942) (tgt := 1947) C dL_law_1942 (by decide) (fun q19 => ?_) (fun q19 => ?_)
      · rw [if_pos q19] at hf
        refine mG_goto (tgt := 2934) (pc := 1947) C dL_law_1947 (by decide) ?_
        refine mG_ii (ls' := [some (.ref p0), some (.ref p1), some (.ref p2), some (.ref p3), some (.int (i + 5)), some (.int o4.1), some (.int o10.1), none, none]) (pc := 2934) C dL_law_2934 rfl (kinc5 _) rfl rfl rfl ?_
        refine mG_goto (tgt := 23) (pc := 2937) C dL_law_2937 (by decide) ?_
        cases hf
        exact mG_sub (mxLe_s (mxLe_s (mxLe_s (mxLe_s (mxLe_s (mxLe_n (mxLe_n (mxLe_n (mxLe_n mxLe_z))))))))) (K _ _ (by omega) (by omega))
      · rw [if_neg q19] at hf
        cases hf
  · rw [if_neg q15] at hf
    cases hf
theorem dL_law_1950 : decode cL_law 1950 = .ok (.aload_n 1, 1) := by decide +kernel
theorem dL_law_1951 : decode cL_law 1951 = .ok (.aload_n 0, 1) := by decide +kernel
theorem dL_law_1952 : decode cL_law 1952 = .ok (.iload 4, 2) := by decide +kernel
theorem dL_law_1954 : decode cL_law 1954 = .ok (.iconst 1, 1) := by decide +kernel
theorem dL_law_1955 : decode cL_law 1955 = .ok (.iadd, 1) := by decide +kernel
theorem dL_law_1956 : decode cL_law 1956 = .ok (.iaload, 1) := by decide +kernel
theorem dL_law_1957 : decode cL_law 1957 = .ok (.aload_n 0, 1) := by decide +kernel
theorem dL_law_1958 : decode cL_law 1958 = .ok (.iload 4, 2) := by decide +kernel
theorem dL_law_1960 : decode cL_law 1960 = .ok (.iconst 2, 1) := by decide +kernel
theorem dL_law_1961 : decode cL_law 1961 = .ok (.iadd, 1) := by decide +kernel
theorem dL_law_1962 : decode cL_law 1962 = .ok (.iaload, 1) := by decide +kernel
theorem dL_law_1963 : decode cL_law 1963 = .ok (.aload_n 3, 1) := by decide +kernel
theorem dL_law_1964 : decode cL_law 1964 = .ok (.invokestatic 238, 3) := by decide +kernel
theorem dL_law_1967 : decode cL_law 1967 = .ok (.istore 5, 2) := by decide +kernel
theorem dL_law_1969 : decode cL_law 1969 = .ok (.aload_n 2, 1) := by decide +kernel
theorem dL_law_1970 : decode cL_law 1970 = .ok (.aload_n 0, 1) := by decide +kernel
theorem dL_law_1971 : decode cL_law 1971 = .ok (.iload 4, 2) := by decide +kernel
theorem dL_law_1973 : decode cL_law 1973 = .ok (.iconst 1, 1) := by decide +kernel
theorem dL_law_1974 : decode cL_law 1974 = .ok (.iadd, 1) := by decide +kernel
theorem dL_law_1975 : decode cL_law 1975 = .ok (.iaload, 1) := by decide +kernel
theorem dL_law_1976 : decode cL_law 1976 = .ok (.aload_n 0, 1) := by decide +kernel
theorem dL_law_1977 : decode cL_law 1977 = .ok (.iload 4, 2) := by decide +kernel
theorem dL_law_1979 : decode cL_law 1979 = .ok (.iconst 2, 1) := by decide +kernel
theorem dL_law_1980 : decode cL_law 1980 = .ok (.iadd, 1) := by decide +kernel
theorem dL_law_1981 : decode cL_law 1981 = .ok (.iaload, 1) := by decide +kernel
theorem dL_law_1982 : decode cL_law 1982 = .ok (.invokevirtual 240, 3) := by decide +kernel
theorem dL_law_1985 : decode cL_law 1985 = .ok (.istore 6, 2) := by decide +kernel
theorem dL_law_1987 : decode cL_law 1987 = .ok (.aload_n 2, 1) := by decide +kernel
theorem dL_law_1988 : decode cL_law 1988 = .ok (.invokevirtual 145, 3) := by decide +kernel
theorem dL_law_1991 : decode cL_law 1991 = .ok (.iload 5, 2) := by decide +kernel
theorem dL_law_1993 : decode cL_law 1993 = .ok (.if_icmp .eq 5, 3) := by decide +kernel
theorem dL_law_1996 : decode cL_law 1996 = .ok (.iconst 0, 1) := by decide +kernel
theorem dL_law_1997 : decode cL_law 1997 = .ok (.ireturn, 1) := by decide +kernel
theorem dL_law_1998 : decode cL_law 1998 = .ok (.iload 5, 2) := by decide +kernel
theorem dL_law_2000 : decode cL_law 2000 = .ok (.ifCond .ne 15, 3) := by decide +kernel
theorem dL_law_2003 : decode cL_law 2003 = .ok (.aload_n 3, 1) := by decide +kernel
theorem dL_law_2004 : decode cL_law 2004 = .ok (.iconst 0, 1) := by decide +kernel
theorem dL_law_2005 : decode cL_law 2005 = .ok (.laload, 1) := by decide +kernel
theorem dL_law_2006 : decode cL_law 2006 = .ok (.iload 6, 2) := by decide +kernel
theorem dL_law_2008 : decode cL_law 2008 = .ok (.i2l, 1) := by decide +kernel
theorem dL_law_2009 : decode cL_law 2009 = .ok (.lcmp, 1) := by decide +kernel
theorem dL_law_2010 : decode cL_law 2010 = .ok (.ifCond .eq 5, 3) := by decide +kernel
theorem dL_law_2013 : decode cL_law 2013 = .ok (.iconst 0, 1) := by decide +kernel
theorem dL_law_2014 : decode cL_law 2014 = .ok (.ireturn, 1) := by decide +kernel
theorem dL_law_2015 : decode cL_law 2015 = .ok (.goto 919, 3) := by decide +kernel
def fLa_29 (p0 p1 p2 p3 : Nat) (i : Int32) (h : mxH) : Option (Int32 × mxH) := Option.bind (ldI h p0 (i + 1)) (fun v1 => Option.bind (ldI h p0 (i + 2)) (fun v3 => Option.bind (fL_comparisons p1 v1 v3 p3 h) (fun o6 => Option.bind (ldI o6.2 p0 (i + 1)) (fun v7 => Option.bind (ldI o6.2 p0 (i + 2)) (fun v9 => Option.bind (isO o6.2 p2 10) (fun u12 => Option.bind (fX10_comparisons p2 v7 v9 o6.2) (fun o14 => Option.bind (isO o14.2 p2 10) (fun u16 => Option.bind (fX10_thrown p2 o14.2) (fun v18 => (if v18 = o6.1 then (if o6.1 = 0 then Option.bind (ldJ o14.2 p3 0) (fun r21 => (if (lg_cmp r21 o14.1.toInt64) = 0 then some (i + 5, o14.2) else none)) else some (i + 5, o14.2)) else none))))))))))
set_option maxRecDepth 20000 in
theorem tLa_29 {l : Launch} {Z : mxZ} {X : mxX} (hl : l.stackTraces = false) (C : mxC l Z X RL cL_law 9) (hX : mxRm X = room_1) {p0 p1 p2 p3 : Nat} {i : Int32} {h : mxH} {o : Int32 × mxH} (hf : fLa_29 p0 p1 p2 p3 i h = some o) {k n : Nat} (hk : k + 8 ≤ 601024) (hn : n + 40 ≤ 7293034) (K : ∀ k2 n2, k2 ≤ k + 8 → n2 ≤ n + 40 → mG l Z X 9 k2 n2 23 [some (.ref p0), some (.ref p1), some (.ref p2), some (.ref p3), some (.int o.1), none, none, none, none] [] o.2) : mG l Z X 9 k n 1950 [some (.ref p0), some (.ref p1), some (.ref p2), some (.ref p3), some (.int i), none, none, none, none] [] h := by
  unfold fLa_29 at hf
  refine mG_aload_n (pc := 1950) C dL_law_1950 rfl ?_
  refine mG_aload_n (pc := 1951) C dL_law_1951 rfl ?_
  refine mG_iload (pc := 1952) C dL_law_1952 rfl ?_
  refine mG_ic (pc := 1954) C dL_law_1954 kI1 ?_
  refine mG_iadd (pc := 1955) C dL_law_1955 ?_
  obtain ⟨v1, e2, hf⟩ := mx_bind hf
  refine mG_iaload (pc := 1956) C dL_law_1956 e2 ?_
  refine mG_aload_n (pc := 1957) C dL_law_1957 rfl ?_
  refine mG_iload (pc := 1958) C dL_law_1958 rfl ?_
  refine mG_ic (pc := 1960) C dL_law_1960 kI2 ?_
  refine mG_iadd (pc := 1961) C dL_law_1961 ?_
  obtain ⟨v3, e4, hf⟩ := mx_bind hf
  refine mG_iaload (pc := 1962) C dL_law_1962 e4 ?_
  refine mG_aload_n (pc := 1963) C dL_law_1963 rfl ?_
  obtain ⟨o6, e5, hf⟩ := mx_bind hf
  refine mG_cSH (pc := 1964) (k' := (k + 3)) (n' := (n + 18)) [.ref p1, .int v1, .int v3, .ref p3] [] C hX dL_law_1964 lkH_L_238 rfl (tL_comparisons hl e5) rfl ⟨by show k + 3 ≤ 601024; omega, by show n + 18 ≤ 7293034; omega⟩ rfl rfl rfl ?_
  refine mG_is (ls' := [some (.ref p0), some (.ref p1), some (.ref p2), some (.ref p3), some (.int i), some (.int o6.1), none, none, none]) (pc := 1967) C dL_law_1967 rfl rfl rfl ?_
  refine mG_aload_n (pc := 1969) C dL_law_1969 rfl ?_
  refine mG_aload_n (pc := 1970) C dL_law_1970 rfl ?_
  refine mG_iload (pc := 1971) C dL_law_1971 rfl ?_
  refine mG_ic (pc := 1973) C dL_law_1973 kI1 ?_
  refine mG_iadd (pc := 1974) C dL_law_1974 ?_
  obtain ⟨v7, e8, hf⟩ := mx_bind hf
  refine mG_iaload (pc := 1975) C dL_law_1975 e8 ?_
  refine mG_aload_n (pc := 1976) C dL_law_1976 rfl ?_
  refine mG_iload (pc := 1977) C dL_law_1977 rfl ?_
  refine mG_ic (pc := 1979) C dL_law_1979 kI2 ?_
  refine mG_iadd (pc := 1980) C dL_law_1980 ?_
  obtain ⟨v9, e10, hf⟩ := mx_bind hf
  refine mG_iaload (pc := 1981) C dL_law_1981 e10 ?_
  obtain ⟨u12, e13, hf⟩ := mx_bind hf
  obtain ⟨o14, e11, hf⟩ := mx_bind hf
  refine mG_cV2 (pc := 1982) (k' := (k + 3)) (n' := (n + 18)) 10 [.int v7, .int v9] [] C hX dL_law_1982 lkV_L_240 rfl rfl e13 (tX10_comparisons hl e11) rfl ⟨by show (k + 3) + 0 ≤ 601024; omega, by show (n + 18) + 0 ≤ 7293034; omega⟩ rfl rfl rfl ?_
  refine mG_is (ls' := [some (.ref p0), some (.ref p1), some (.ref p2), some (.ref p3), some (.int i), some (.int o6.1), some (.int o14.1), none, none]) (pc := 1985) C dL_law_1985 rfl rfl rfl ?_
  refine mG_aload_n (pc := 1987) C dL_law_1987 rfl ?_
  obtain ⟨u16, e17, hf⟩ := mx_bind hf
  obtain ⟨v18, e15, hf⟩ := mx_bind hf
  refine mG_cV2 (pc := 1988) (k' := (k + 3)) (n' := (n + 18)) 10 [] [] C hX dL_law_1988 lkV_L_145 rfl rfl e17 (tX10_thrown hl e15) rfl ⟨by show (k + 3) + 0 ≤ 601024; omega, by show (n + 18) + 0 ≤ 7293034; omega⟩ rfl rfl rfl ?_
  refine mG_iload (pc := 1991) C dL_law_1991 rfl ?_
  refine mG_icmp_eq (pc := 1993) (tgt := 1998) C dL_law_1993 (by decide) (fun q19 => ?_) (fun q19 => ?_)
  · rw [if_pos q19] at hf
    refine mG_iload (pc := 1998) C dL_law_1998 rfl ?_
    refine mG_if_ne (pc := 2000) (tgt := 2015) C dL_law_2000 (by decide) (fun q20 => ?_) (fun q20 => ?_)
    · rw [if_neg q20] at hf
      refine mG_goto (tgt := 2934) (pc := 2015) C dL_law_2015 (by decide) ?_
      refine mG_ii (ls' := [some (.ref p0), some (.ref p1), some (.ref p2), some (.ref p3), some (.int (i + 5)), some (.int o6.1), some (.int o14.1), none, none]) (pc := 2934) C dL_law_2934 rfl (kinc5 _) rfl rfl rfl ?_
      refine mG_goto (tgt := 23) (pc := 2937) C dL_law_2937 (by decide) ?_
      cases hf
      exact mG_sub (mxLe_s (mxLe_s (mxLe_s (mxLe_s (mxLe_s (mxLe_n (mxLe_n (mxLe_n (mxLe_n mxLe_z))))))))) (K _ _ (by omega) (by omega))
    · rw [if_pos q20] at hf
      refine mG_aload_n (pc := 2003) C dL_law_2003 rfl ?_
      refine mG_ic (pc := 2004) C dL_law_2004 kI0 ?_
      obtain ⟨r21, e22, hf⟩ := mx_bind hf
      refine mG_laload (pc := 2005) C dL_law_2005 e22 ?_
      refine mG_iload (pc := 2006) C dL_law_2006 rfl ?_
      refine mG_i2l (pc := 2008) C dL_law_2008 ?_
      refine mG_lcmp (pc := 2009) C dL_law_2009 ?_
      refine mG_if_eq (pc := 2010) (tgt := 2015) C dL_law_2010 (by decide) (fun q23 => ?_) (fun q23 => ?_)
      · rw [if_pos q23] at hf
        refine mG_goto (tgt := 2934) (pc := 2015) C dL_law_2015 (by decide) ?_
        refine mG_ii (ls' := [some (.ref p0), some (.ref p1), some (.ref p2), some (.ref p3), some (.int (i + 5)), some (.int o6.1), some (.int o14.1), none, none]) (pc := 2934) C dL_law_2934 rfl (kinc5 _) rfl rfl rfl ?_
        refine mG_goto (tgt := 23) (pc := 2937) C dL_law_2937 (by decide) ?_
        cases hf
        exact mG_sub (mxLe_s (mxLe_s (mxLe_s (mxLe_s (mxLe_s (mxLe_n (mxLe_n (mxLe_n (mxLe_n mxLe_z))))))))) (K _ _ (by omega) (by omega))
      · rw [if_neg q23] at hf
        cases hf
  · rw [if_neg q19] at hf
    cases hf
theorem dL_law_2018 : decode cL_law 2018 = .ok (.aload_n 1, 1) := by decide +kernel
theorem dL_law_2019 : decode cL_law 2019 = .ok (.invokevirtual 241, 3) := by decide +kernel
theorem dL_law_2022 : decode cL_law 2022 = .ok (.aload_n 2, 1) := by decide +kernel
theorem dL_law_2023 : decode cL_law 2023 = .ok (.invokevirtual 244, 3) := by decide +kernel
theorem dL_law_2026 : decode cL_law 2026 = .ok (.if_icmp .eq 908, 3) := by decide +kernel
theorem dL_law_2029 : decode cL_law 2029 = .ok (.iconst 0, 1) := by decide +kernel
theorem dL_law_2030 : decode cL_law 2030 = .ok (.ireturn, 1) := by decide +kernel
def fLa_30 (p0 p1 p2 p3 : Nat) (i : Int32) (h : mxH) : Option (Int32 × mxH) := Option.bind (isO h p1 9) (fun u2 => Option.bind (fX9_allComparisons p1 h) (fun o4 => Option.bind (isO o4.2 p2 10) (fun u6 => Option.bind (fX10_allComparisons p2 o4.2) (fun o8 => (if o4.1 = o8.1 then some (i + 5, o8.2) else none)))))
set_option maxRecDepth 20000 in
theorem tLa_30 {l : Launch} {Z : mxZ} {X : mxX} (hl : l.stackTraces = false) (C : mxC l Z X RL cL_law 9) (hX : mxRm X = room_1) {p0 p1 p2 p3 : Nat} {i : Int32} {h : mxH} {o : Int32 × mxH} (hf : fLa_30 p0 p1 p2 p3 i h = some o) {k n : Nat} (hk : k + 8 ≤ 601024) (hn : n + 40 ≤ 7293034) (K : ∀ k2 n2, k2 ≤ k + 8 → n2 ≤ n + 40 → mG l Z X 9 k2 n2 23 [some (.ref p0), some (.ref p1), some (.ref p2), some (.ref p3), some (.int o.1), none, none, none, none] [] o.2) : mG l Z X 9 k n 2018 [some (.ref p0), some (.ref p1), some (.ref p2), some (.ref p3), some (.int i), none, none, none, none] [] h := by
  unfold fLa_30 at hf
  refine mG_aload_n (pc := 2018) C dL_law_2018 rfl ?_
  obtain ⟨u2, e3, hf⟩ := mx_bind hf
  obtain ⟨o4, e1, hf⟩ := mx_bind hf
  refine mG_cV2 (pc := 2019) (k' := k) (n' := n) 9 [] [] C hX dL_law_2019 lkV_L_241 rfl rfl e3 (tX9_allComparisons hl e1) rfl ⟨by show k + 0 ≤ 601024; omega, by show n + 0 ≤ 7293034; omega⟩ rfl rfl rfl ?_
  refine mG_aload_n (pc := 2022) C dL_law_2022 rfl ?_
  obtain ⟨u6, e7, hf⟩ := mx_bind hf
  obtain ⟨o8, e5, hf⟩ := mx_bind hf
  refine mG_cV2 (pc := 2023) (k' := k) (n' := n) 10 [] [.int o4.1] C hX dL_law_2023 lkV_L_244 rfl rfl e7 (tX10_allComparisons hl e5) rfl ⟨by show k + 0 ≤ 601024; omega, by show n + 0 ≤ 7293034; omega⟩ rfl rfl rfl ?_
  refine mG_icmp_eq (pc := 2026) (tgt := 2934) C dL_law_2026 (by decide) (fun q9 => ?_) (fun q9 => ?_)
  · rw [if_pos q9] at hf
    refine mG_ii (ls' := [some (.ref p0), some (.ref p1), some (.ref p2), some (.ref p3), some (.int (i + 5)), none, none, none, none]) (pc := 2934) C dL_law_2934 rfl (kinc5 _) rfl rfl rfl ?_
    refine mG_goto (tgt := 23) (pc := 2937) C dL_law_2937 (by decide) ?_
    cases hf
    exact mG_sub (mxLe_s (mxLe_s (mxLe_s (mxLe_s (mxLe_s (mxLe_n (mxLe_n (mxLe_n (mxLe_n mxLe_z))))))))) (K _ _ (by omega) (by omega))
  · rw [if_neg q9] at hf
    cases hf
theorem dL_law_2031 : decode cL_law 2031 = .ok (.aload_n 1, 1) := by decide +kernel
theorem dL_law_2032 : decode cL_law 2032 = .ok (.aload_n 0, 1) := by decide +kernel
theorem dL_law_2033 : decode cL_law 2033 = .ok (.iload 4, 2) := by decide +kernel
theorem dL_law_2035 : decode cL_law 2035 = .ok (.iconst 1, 1) := by decide +kernel
theorem dL_law_2036 : decode cL_law 2036 = .ok (.iadd, 1) := by decide +kernel
theorem dL_law_2037 : decode cL_law 2037 = .ok (.iaload, 1) := by decide +kernel
theorem dL_law_2038 : decode cL_law 2038 = .ok (.aload_n 3, 1) := by decide +kernel
theorem dL_law_2039 : decode cL_law 2039 = .ok (.invokestatic 245, 3) := by decide +kernel
theorem dL_law_2042 : decode cL_law 2042 = .ok (.istore 5, 2) := by decide +kernel
theorem dL_law_2044 : decode cL_law 2044 = .ok (.aload_n 2, 1) := by decide +kernel
theorem dL_law_2045 : decode cL_law 2045 = .ok (.aload_n 0, 1) := by decide +kernel
theorem dL_law_2046 : decode cL_law 2046 = .ok (.iload 4, 2) := by decide +kernel
theorem dL_law_2048 : decode cL_law 2048 = .ok (.iconst 1, 1) := by decide +kernel
theorem dL_law_2049 : decode cL_law 2049 = .ok (.iadd, 1) := by decide +kernel
theorem dL_law_2050 : decode cL_law 2050 = .ok (.iaload, 1) := by decide +kernel
theorem dL_law_2051 : decode cL_law 2051 = .ok (.invokevirtual 247, 3) := by decide +kernel
theorem dL_law_2054 : decode cL_law 2054 = .ok (.istore 6, 2) := by decide +kernel
theorem dL_law_2056 : decode cL_law 2056 = .ok (.aload_n 2, 1) := by decide +kernel
theorem dL_law_2057 : decode cL_law 2057 = .ok (.invokevirtual 145, 3) := by decide +kernel
theorem dL_law_2060 : decode cL_law 2060 = .ok (.iload 5, 2) := by decide +kernel
theorem dL_law_2062 : decode cL_law 2062 = .ok (.if_icmp .eq 5, 3) := by decide +kernel
theorem dL_law_2065 : decode cL_law 2065 = .ok (.iconst 0, 1) := by decide +kernel
theorem dL_law_2066 : decode cL_law 2066 = .ok (.ireturn, 1) := by decide +kernel
theorem dL_law_2067 : decode cL_law 2067 = .ok (.iload 5, 2) := by decide +kernel
theorem dL_law_2069 : decode cL_law 2069 = .ok (.ifCond .ne 15, 3) := by decide +kernel
theorem dL_law_2072 : decode cL_law 2072 = .ok (.aload_n 3, 1) := by decide +kernel
theorem dL_law_2073 : decode cL_law 2073 = .ok (.iconst 0, 1) := by decide +kernel
theorem dL_law_2074 : decode cL_law 2074 = .ok (.laload, 1) := by decide +kernel
theorem dL_law_2075 : decode cL_law 2075 = .ok (.iload 6, 2) := by decide +kernel
theorem dL_law_2077 : decode cL_law 2077 = .ok (.i2l, 1) := by decide +kernel
theorem dL_law_2078 : decode cL_law 2078 = .ok (.lcmp, 1) := by decide +kernel
theorem dL_law_2079 : decode cL_law 2079 = .ok (.ifCond .eq 5, 3) := by decide +kernel
theorem dL_law_2082 : decode cL_law 2082 = .ok (.iconst 0, 1) := by decide +kernel
theorem dL_law_2083 : decode cL_law 2083 = .ok (.ireturn, 1) := by decide +kernel
theorem dL_law_2084 : decode cL_law 2084 = .ok (.goto 850, 3) := by decide +kernel
def fLa_31 (p0 p1 p2 p3 : Nat) (i : Int32) (h : mxH) : Option (Int32 × mxH) := Option.bind (ldI h p0 (i + 1)) (fun v1 => Option.bind (fL_quantile p1 v1 p3 h) (fun o4 => Option.bind (ldI o4.2 p0 (i + 1)) (fun v5 => Option.bind (isO o4.2 p2 10) (fun u8 => Option.bind (fX10_quantile p2 v5 o4.2) (fun o10 => Option.bind (isO o10.2 p2 10) (fun u12 => Option.bind (fX10_thrown p2 o10.2) (fun v14 => (if v14 = o4.1 then (if o4.1 = 0 then Option.bind (ldJ o10.2 p3 0) (fun r17 => (if (lg_cmp r17 o10.1.toInt64) = 0 then some (i + 5, o10.2) else none)) else some (i + 5, o10.2)) else none))))))))
set_option maxRecDepth 20000 in
theorem tLa_31 {l : Launch} {Z : mxZ} {X : mxX} (hl : l.stackTraces = false) (C : mxC l Z X RL cL_law 9) (hX : mxRm X = room_1) {p0 p1 p2 p3 : Nat} {i : Int32} {h : mxH} {o : Int32 × mxH} (hf : fLa_31 p0 p1 p2 p3 i h = some o) {k n : Nat} (hk : k + 8 ≤ 601024) (hn : n + 40 ≤ 7293034) (K : ∀ k2 n2, k2 ≤ k + 8 → n2 ≤ n + 40 → mG l Z X 9 k2 n2 23 [some (.ref p0), some (.ref p1), some (.ref p2), some (.ref p3), some (.int o.1), none, none, none, none] [] o.2) : mG l Z X 9 k n 2031 [some (.ref p0), some (.ref p1), some (.ref p2), some (.ref p3), some (.int i), none, none, none, none] [] h := by
  unfold fLa_31 at hf
  refine mG_aload_n (pc := 2031) C dL_law_2031 rfl ?_
  refine mG_aload_n (pc := 2032) C dL_law_2032 rfl ?_
  refine mG_iload (pc := 2033) C dL_law_2033 rfl ?_
  refine mG_ic (pc := 2035) C dL_law_2035 kI1 ?_
  refine mG_iadd (pc := 2036) C dL_law_2036 ?_
  obtain ⟨v1, e2, hf⟩ := mx_bind hf
  refine mG_iaload (pc := 2037) C dL_law_2037 e2 ?_
  refine mG_aload_n (pc := 2038) C dL_law_2038 rfl ?_
  obtain ⟨o4, e3, hf⟩ := mx_bind hf
  refine mG_cSH (pc := 2039) (k' := (k + 2)) (n' := (n + 12)) [.ref p1, .int v1, .ref p3] [] C hX dL_law_2039 lkH_L_245 rfl (tL_quantile hl e3) rfl ⟨by show k + 2 ≤ 601024; omega, by show n + 12 ≤ 7293034; omega⟩ rfl rfl rfl ?_
  refine mG_is (ls' := [some (.ref p0), some (.ref p1), some (.ref p2), some (.ref p3), some (.int i), some (.int o4.1), none, none, none]) (pc := 2042) C dL_law_2042 rfl rfl rfl ?_
  refine mG_aload_n (pc := 2044) C dL_law_2044 rfl ?_
  refine mG_aload_n (pc := 2045) C dL_law_2045 rfl ?_
  refine mG_iload (pc := 2046) C dL_law_2046 rfl ?_
  refine mG_ic (pc := 2048) C dL_law_2048 kI1 ?_
  refine mG_iadd (pc := 2049) C dL_law_2049 ?_
  obtain ⟨v5, e6, hf⟩ := mx_bind hf
  refine mG_iaload (pc := 2050) C dL_law_2050 e6 ?_
  obtain ⟨u8, e9, hf⟩ := mx_bind hf
  obtain ⟨o10, e7, hf⟩ := mx_bind hf
  refine mG_cV2 (pc := 2051) (k' := (k + 2)) (n' := (n + 12)) 10 [.int v5] [] C hX dL_law_2051 lkV_L_247 rfl rfl e9 (tX10_quantile hl e7) rfl ⟨by show (k + 2) + 0 ≤ 601024; omega, by show (n + 12) + 0 ≤ 7293034; omega⟩ rfl rfl rfl ?_
  refine mG_is (ls' := [some (.ref p0), some (.ref p1), some (.ref p2), some (.ref p3), some (.int i), some (.int o4.1), some (.int o10.1), none, none]) (pc := 2054) C dL_law_2054 rfl rfl rfl ?_
  refine mG_aload_n (pc := 2056) C dL_law_2056 rfl ?_
  obtain ⟨u12, e13, hf⟩ := mx_bind hf
  obtain ⟨v14, e11, hf⟩ := mx_bind hf
  refine mG_cV2 (pc := 2057) (k' := (k + 2)) (n' := (n + 12)) 10 [] [] C hX dL_law_2057 lkV_L_145 rfl rfl e13 (tX10_thrown hl e11) rfl ⟨by show (k + 2) + 0 ≤ 601024; omega, by show (n + 12) + 0 ≤ 7293034; omega⟩ rfl rfl rfl ?_
  refine mG_iload (pc := 2060) C dL_law_2060 rfl ?_
  refine mG_icmp_eq (pc := 2062) (tgt := 2067) C dL_law_2062 (by decide) (fun q15 => ?_) (fun q15 => ?_)
  · rw [if_pos q15] at hf
    refine mG_iload (pc := 2067) C dL_law_2067 rfl ?_
    refine mG_if_ne (pc := 2069) (tgt := 2084) C dL_law_2069 (by decide) (fun q16 => ?_) (fun q16 => ?_)
    · rw [if_neg q16] at hf
      refine mG_goto (tgt := 2934) (pc := 2084) C dL_law_2084 (by decide) ?_
      refine mG_ii (ls' := [some (.ref p0), some (.ref p1), some (.ref p2), some (.ref p3), some (.int (i + 5)), some (.int o4.1), some (.int o10.1), none, none]) (pc := 2934) C dL_law_2934 rfl (kinc5 _) rfl rfl rfl ?_
      refine mG_goto (tgt := 23) (pc := 2937) C dL_law_2937 (by decide) ?_
      cases hf
      exact mG_sub (mxLe_s (mxLe_s (mxLe_s (mxLe_s (mxLe_s (mxLe_n (mxLe_n (mxLe_n (mxLe_n mxLe_z))))))))) (K _ _ (by omega) (by omega))
    · rw [if_pos q16] at hf
      refine mG_aload_n (pc := 2072) C dL_law_2072 rfl ?_
      refine mG_ic (pc := 2073) C dL_law_2073 kI0 ?_
      obtain ⟨r17, e18, hf⟩ := mx_bind hf
      refine mG_laload (pc := 2074) C dL_law_2074 e18 ?_
      refine mG_iload (pc := 2075) C dL_law_2075 rfl ?_
      refine mG_i2l (pc := 2077) C dL_law_2077 ?_
      refine mG_lcmp (pc := 2078) C dL_law_2078 ?_
      refine mG_if_eq (pc := 2079) (tgt := 2084) C dL_law_2079 (by decide) (fun q19 => ?_) (fun q19 => ?_)
      · rw [if_pos q19] at hf
        refine mG_goto (tgt := 2934) (pc := 2084) C dL_law_2084 (by decide) ?_
        refine mG_ii (ls' := [some (.ref p0), some (.ref p1), some (.ref p2), some (.ref p3), some (.int (i + 5)), some (.int o4.1), some (.int o10.1), none, none]) (pc := 2934) C dL_law_2934 rfl (kinc5 _) rfl rfl rfl ?_
        refine mG_goto (tgt := 23) (pc := 2937) C dL_law_2937 (by decide) ?_
        cases hf
        exact mG_sub (mxLe_s (mxLe_s (mxLe_s (mxLe_s (mxLe_s (mxLe_n (mxLe_n (mxLe_n (mxLe_n mxLe_z))))))))) (K _ _ (by omega) (by omega))
      · rw [if_neg q19] at hf
        cases hf
  · rw [if_neg q15] at hf
    cases hf
theorem dL_law_2087 : decode cL_law 2087 = .ok (.aload_n 1, 1) := by decide +kernel
theorem dL_law_2088 : decode cL_law 2088 = .ok (.invokevirtual 248, 3) := by decide +kernel
theorem dL_law_2091 : decode cL_law 2091 = .ok (.aload_n 2, 1) := by decide +kernel
theorem dL_law_2092 : decode cL_law 2092 = .ok (.invokevirtual 251, 3) := by decide +kernel
theorem dL_law_2095 : decode cL_law 2095 = .ok (.if_icmp .eq 839, 3) := by decide +kernel
theorem dL_law_2098 : decode cL_law 2098 = .ok (.iconst 0, 1) := by decide +kernel
theorem dL_law_2099 : decode cL_law 2099 = .ok (.ireturn, 1) := by decide +kernel
def fLa_32 (p0 p1 p2 p3 : Nat) (i : Int32) (h : mxH) : Option (Int32 × mxH) := Option.bind (isO h p1 9) (fun u2 => Option.bind (fX9_candidates p1 h) (fun o4 => Option.bind (isO o4.2 p2 10) (fun u6 => Option.bind (fX10_candidates p2 o4.2) (fun o8 => (if o4.1 = o8.1 then some (i + 5, o8.2) else none)))))
set_option maxRecDepth 20000 in
theorem tLa_32 {l : Launch} {Z : mxZ} {X : mxX} (hl : l.stackTraces = false) (C : mxC l Z X RL cL_law 9) (hX : mxRm X = room_1) {p0 p1 p2 p3 : Nat} {i : Int32} {h : mxH} {o : Int32 × mxH} (hf : fLa_32 p0 p1 p2 p3 i h = some o) {k n : Nat} (hk : k + 8 ≤ 601024) (hn : n + 40 ≤ 7293034) (K : ∀ k2 n2, k2 ≤ k + 8 → n2 ≤ n + 40 → mG l Z X 9 k2 n2 23 [some (.ref p0), some (.ref p1), some (.ref p2), some (.ref p3), some (.int o.1), none, none, none, none] [] o.2) : mG l Z X 9 k n 2087 [some (.ref p0), some (.ref p1), some (.ref p2), some (.ref p3), some (.int i), none, none, none, none] [] h := by
  unfold fLa_32 at hf
  refine mG_aload_n (pc := 2087) C dL_law_2087 rfl ?_
  obtain ⟨u2, e3, hf⟩ := mx_bind hf
  obtain ⟨o4, e1, hf⟩ := mx_bind hf
  refine mG_cV2 (pc := 2088) (k' := k) (n' := n) 9 [] [] C hX dL_law_2088 lkV_L_248 rfl rfl e3 (tX9_candidates hl e1) rfl ⟨by show k + 0 ≤ 601024; omega, by show n + 0 ≤ 7293034; omega⟩ rfl rfl rfl ?_
  refine mG_aload_n (pc := 2091) C dL_law_2091 rfl ?_
  obtain ⟨u6, e7, hf⟩ := mx_bind hf
  obtain ⟨o8, e5, hf⟩ := mx_bind hf
  refine mG_cV2 (pc := 2092) (k' := k) (n' := n) 10 [] [.int o4.1] C hX dL_law_2092 lkV_L_251 rfl rfl e7 (tX10_candidates hl e5) rfl ⟨by show k + 0 ≤ 601024; omega, by show n + 0 ≤ 7293034; omega⟩ rfl rfl rfl ?_
  refine mG_icmp_eq (pc := 2095) (tgt := 2934) C dL_law_2095 (by decide) (fun q9 => ?_) (fun q9 => ?_)
  · rw [if_pos q9] at hf
    refine mG_ii (ls' := [some (.ref p0), some (.ref p1), some (.ref p2), some (.ref p3), some (.int (i + 5)), none, none, none, none]) (pc := 2934) C dL_law_2934 rfl (kinc5 _) rfl rfl rfl ?_
    refine mG_goto (tgt := 23) (pc := 2937) C dL_law_2937 (by decide) ?_
    cases hf
    exact mG_sub (mxLe_s (mxLe_s (mxLe_s (mxLe_s (mxLe_s (mxLe_n (mxLe_n (mxLe_n (mxLe_n mxLe_z))))))))) (K _ _ (by omega) (by omega))
  · rw [if_neg q9] at hf
    cases hf
theorem dL_law_2100 : decode cL_law 2100 = .ok (.aload_n 1, 1) := by decide +kernel
theorem dL_law_2101 : decode cL_law 2101 = .ok (.aload_n 0, 1) := by decide +kernel
theorem dL_law_2102 : decode cL_law 2102 = .ok (.iload 4, 2) := by decide +kernel
theorem dL_law_2104 : decode cL_law 2104 = .ok (.iconst 1, 1) := by decide +kernel
theorem dL_law_2105 : decode cL_law 2105 = .ok (.iadd, 1) := by decide +kernel
theorem dL_law_2106 : decode cL_law 2106 = .ok (.iaload, 1) := by decide +kernel
theorem dL_law_2107 : decode cL_law 2107 = .ok (.aload_n 0, 1) := by decide +kernel
theorem dL_law_2108 : decode cL_law 2108 = .ok (.iload 4, 2) := by decide +kernel
theorem dL_law_2110 : decode cL_law 2110 = .ok (.iconst 2, 1) := by decide +kernel
theorem dL_law_2111 : decode cL_law 2111 = .ok (.iadd, 1) := by decide +kernel
theorem dL_law_2112 : decode cL_law 2112 = .ok (.iaload, 1) := by decide +kernel
theorem dL_law_2113 : decode cL_law 2113 = .ok (.aload_n 3, 1) := by decide +kernel
theorem dL_law_2114 : decode cL_law 2114 = .ok (.invokestatic 252, 3) := by decide +kernel
theorem dL_law_2117 : decode cL_law 2117 = .ok (.istore 5, 2) := by decide +kernel
theorem dL_law_2119 : decode cL_law 2119 = .ok (.aload_n 2, 1) := by decide +kernel
theorem dL_law_2120 : decode cL_law 2120 = .ok (.aload_n 0, 1) := by decide +kernel
theorem dL_law_2121 : decode cL_law 2121 = .ok (.iload 4, 2) := by decide +kernel
theorem dL_law_2123 : decode cL_law 2123 = .ok (.iconst 1, 1) := by decide +kernel
theorem dL_law_2124 : decode cL_law 2124 = .ok (.iadd, 1) := by decide +kernel
theorem dL_law_2125 : decode cL_law 2125 = .ok (.iaload, 1) := by decide +kernel
theorem dL_law_2126 : decode cL_law 2126 = .ok (.aload_n 0, 1) := by decide +kernel
theorem dL_law_2127 : decode cL_law 2127 = .ok (.iload 4, 2) := by decide +kernel
theorem dL_law_2129 : decode cL_law 2129 = .ok (.iconst 2, 1) := by decide +kernel
theorem dL_law_2130 : decode cL_law 2130 = .ok (.iadd, 1) := by decide +kernel
theorem dL_law_2131 : decode cL_law 2131 = .ok (.iaload, 1) := by decide +kernel
theorem dL_law_2132 : decode cL_law 2132 = .ok (.invokevirtual 254, 3) := by decide +kernel
theorem dL_law_2135 : decode cL_law 2135 = .ok (.istore 6, 2) := by decide +kernel
theorem dL_law_2137 : decode cL_law 2137 = .ok (.aload_n 2, 1) := by decide +kernel
theorem dL_law_2138 : decode cL_law 2138 = .ok (.invokevirtual 145, 3) := by decide +kernel
theorem dL_law_2141 : decode cL_law 2141 = .ok (.iload 5, 2) := by decide +kernel
theorem dL_law_2143 : decode cL_law 2143 = .ok (.if_icmp .eq 5, 3) := by decide +kernel
theorem dL_law_2146 : decode cL_law 2146 = .ok (.iconst 0, 1) := by decide +kernel
theorem dL_law_2147 : decode cL_law 2147 = .ok (.ireturn, 1) := by decide +kernel
theorem dL_law_2148 : decode cL_law 2148 = .ok (.iload 5, 2) := by decide +kernel
theorem dL_law_2150 : decode cL_law 2150 = .ok (.ifCond .ne 15, 3) := by decide +kernel
theorem dL_law_2153 : decode cL_law 2153 = .ok (.aload_n 3, 1) := by decide +kernel
theorem dL_law_2154 : decode cL_law 2154 = .ok (.iconst 0, 1) := by decide +kernel
theorem dL_law_2155 : decode cL_law 2155 = .ok (.laload, 1) := by decide +kernel
theorem dL_law_2156 : decode cL_law 2156 = .ok (.iload 6, 2) := by decide +kernel
theorem dL_law_2158 : decode cL_law 2158 = .ok (.i2l, 1) := by decide +kernel
theorem dL_law_2159 : decode cL_law 2159 = .ok (.lcmp, 1) := by decide +kernel
theorem dL_law_2160 : decode cL_law 2160 = .ok (.ifCond .eq 5, 3) := by decide +kernel
theorem dL_law_2163 : decode cL_law 2163 = .ok (.iconst 0, 1) := by decide +kernel
theorem dL_law_2164 : decode cL_law 2164 = .ok (.ireturn, 1) := by decide +kernel
theorem dL_law_2165 : decode cL_law 2165 = .ok (.goto 769, 3) := by decide +kernel
def fLa_33 (p0 p1 p2 p3 : Nat) (i : Int32) (h : mxH) : Option (Int32 × mxH) := Option.bind (ldI h p0 (i + 1)) (fun v1 => Option.bind (ldI h p0 (i + 2)) (fun v3 => Option.bind (fL_prefer p1 v1 v3 p3 h) (fun o6 => Option.bind (ldI o6.2 p0 (i + 1)) (fun v7 => Option.bind (ldI o6.2 p0 (i + 2)) (fun v9 => Option.bind (isO o6.2 p2 10) (fun u12 => Option.bind (fX10_prefer p2 v7 v9 o6.2) (fun o14 => Option.bind (isO o14.2 p2 10) (fun u16 => Option.bind (fX10_thrown p2 o14.2) (fun v18 => (if v18 = o6.1 then (if o6.1 = 0 then Option.bind (ldJ o14.2 p3 0) (fun r21 => (if (lg_cmp r21 o14.1.toInt64) = 0 then some (i + 5, o14.2) else none)) else some (i + 5, o14.2)) else none))))))))))
set_option maxRecDepth 20000 in
theorem tLa_33 {l : Launch} {Z : mxZ} {X : mxX} (hl : l.stackTraces = false) (C : mxC l Z X RL cL_law 9) (hX : mxRm X = room_1) {p0 p1 p2 p3 : Nat} {i : Int32} {h : mxH} {o : Int32 × mxH} (hf : fLa_33 p0 p1 p2 p3 i h = some o) {k n : Nat} (hk : k + 8 ≤ 601024) (hn : n + 40 ≤ 7293034) (K : ∀ k2 n2, k2 ≤ k + 8 → n2 ≤ n + 40 → mG l Z X 9 k2 n2 23 [some (.ref p0), some (.ref p1), some (.ref p2), some (.ref p3), some (.int o.1), none, none, none, none] [] o.2) : mG l Z X 9 k n 2100 [some (.ref p0), some (.ref p1), some (.ref p2), some (.ref p3), some (.int i), none, none, none, none] [] h := by
  unfold fLa_33 at hf
  refine mG_aload_n (pc := 2100) C dL_law_2100 rfl ?_
  refine mG_aload_n (pc := 2101) C dL_law_2101 rfl ?_
  refine mG_iload (pc := 2102) C dL_law_2102 rfl ?_
  refine mG_ic (pc := 2104) C dL_law_2104 kI1 ?_
  refine mG_iadd (pc := 2105) C dL_law_2105 ?_
  obtain ⟨v1, e2, hf⟩ := mx_bind hf
  refine mG_iaload (pc := 2106) C dL_law_2106 e2 ?_
  refine mG_aload_n (pc := 2107) C dL_law_2107 rfl ?_
  refine mG_iload (pc := 2108) C dL_law_2108 rfl ?_
  refine mG_ic (pc := 2110) C dL_law_2110 kI2 ?_
  refine mG_iadd (pc := 2111) C dL_law_2111 ?_
  obtain ⟨v3, e4, hf⟩ := mx_bind hf
  refine mG_iaload (pc := 2112) C dL_law_2112 e4 ?_
  refine mG_aload_n (pc := 2113) C dL_law_2113 rfl ?_
  obtain ⟨o6, e5, hf⟩ := mx_bind hf
  refine mG_cSH (pc := 2114) (k' := (k + 2)) (n' := (n + 12)) [.ref p1, .int v1, .int v3, .ref p3] [] C hX dL_law_2114 lkH_L_252 rfl (tL_prefer hl e5) rfl ⟨by show k + 2 ≤ 601024; omega, by show n + 12 ≤ 7293034; omega⟩ rfl rfl rfl ?_
  refine mG_is (ls' := [some (.ref p0), some (.ref p1), some (.ref p2), some (.ref p3), some (.int i), some (.int o6.1), none, none, none]) (pc := 2117) C dL_law_2117 rfl rfl rfl ?_
  refine mG_aload_n (pc := 2119) C dL_law_2119 rfl ?_
  refine mG_aload_n (pc := 2120) C dL_law_2120 rfl ?_
  refine mG_iload (pc := 2121) C dL_law_2121 rfl ?_
  refine mG_ic (pc := 2123) C dL_law_2123 kI1 ?_
  refine mG_iadd (pc := 2124) C dL_law_2124 ?_
  obtain ⟨v7, e8, hf⟩ := mx_bind hf
  refine mG_iaload (pc := 2125) C dL_law_2125 e8 ?_
  refine mG_aload_n (pc := 2126) C dL_law_2126 rfl ?_
  refine mG_iload (pc := 2127) C dL_law_2127 rfl ?_
  refine mG_ic (pc := 2129) C dL_law_2129 kI2 ?_
  refine mG_iadd (pc := 2130) C dL_law_2130 ?_
  obtain ⟨v9, e10, hf⟩ := mx_bind hf
  refine mG_iaload (pc := 2131) C dL_law_2131 e10 ?_
  obtain ⟨u12, e13, hf⟩ := mx_bind hf
  obtain ⟨o14, e11, hf⟩ := mx_bind hf
  refine mG_cV2 (pc := 2132) (k' := (k + 2)) (n' := (n + 12)) 10 [.int v7, .int v9] [] C hX dL_law_2132 lkV_L_254 rfl rfl e13 (tX10_prefer hl e11) rfl ⟨by show (k + 2) + 0 ≤ 601024; omega, by show (n + 12) + 0 ≤ 7293034; omega⟩ rfl rfl rfl ?_
  refine mG_is (ls' := [some (.ref p0), some (.ref p1), some (.ref p2), some (.ref p3), some (.int i), some (.int o6.1), some (.int o14.1), none, none]) (pc := 2135) C dL_law_2135 rfl rfl rfl ?_
  refine mG_aload_n (pc := 2137) C dL_law_2137 rfl ?_
  obtain ⟨u16, e17, hf⟩ := mx_bind hf
  obtain ⟨v18, e15, hf⟩ := mx_bind hf
  refine mG_cV2 (pc := 2138) (k' := (k + 2)) (n' := (n + 12)) 10 [] [] C hX dL_law_2138 lkV_L_145 rfl rfl e17 (tX10_thrown hl e15) rfl ⟨by show (k + 2) + 0 ≤ 601024; omega, by show (n + 12) + 0 ≤ 7293034; omega⟩ rfl rfl rfl ?_
  refine mG_iload (pc := 2141) C dL_law_2141 rfl ?_
  refine mG_icmp_eq (pc := 2143) (tgt := 2148) C dL_law_2143 (by decide) (fun q19 => ?_) (fun q19 => ?_)
  · rw [if_pos q19] at hf
    refine mG_iload (pc := 2148) C dL_law_2148 rfl ?_
    refine mG_if_ne (pc := 2150) (tgt := 2165) C dL_law_2150 (by decide) (fun q20 => ?_) (fun q20 => ?_)
    · rw [if_neg q20] at hf
      refine mG_goto (tgt := 2934) (pc := 2165) C dL_law_2165 (by decide) ?_
      refine mG_ii (ls' := [some (.ref p0), some (.ref p1), some (.ref p2), some (.ref p3), some (.int (i + 5)), some (.int o6.1), some (.int o14.1), none, none]) (pc := 2934) C dL_law_2934 rfl (kinc5 _) rfl rfl rfl ?_
      refine mG_goto (tgt := 23) (pc := 2937) C dL_law_2937 (by decide) ?_
      cases hf
      exact mG_sub (mxLe_s (mxLe_s (mxLe_s (mxLe_s (mxLe_s (mxLe_n (mxLe_n (mxLe_n (mxLe_n mxLe_z))))))))) (K _ _ (by omega) (by omega))
    · rw [if_pos q20] at hf
      refine mG_aload_n (pc := 2153) C dL_law_2153 rfl ?_
      refine mG_ic (pc := 2154) C dL_law_2154 kI0 ?_
      obtain ⟨r21, e22, hf⟩ := mx_bind hf
      refine mG_laload (pc := 2155) C dL_law_2155 e22 ?_
      refine mG_iload (pc := 2156) C dL_law_2156 rfl ?_
      refine mG_i2l (pc := 2158) C dL_law_2158 ?_
      refine mG_lcmp (pc := 2159) C dL_law_2159 ?_
      refine mG_if_eq (pc := 2160) (tgt := 2165) C dL_law_2160 (by decide) (fun q23 => ?_) (fun q23 => ?_)
      · rw [if_pos q23] at hf
        refine mG_goto (tgt := 2934) (pc := 2165) C dL_law_2165 (by decide) ?_
        refine mG_ii (ls' := [some (.ref p0), some (.ref p1), some (.ref p2), some (.ref p3), some (.int (i + 5)), some (.int o6.1), some (.int o14.1), none, none]) (pc := 2934) C dL_law_2934 rfl (kinc5 _) rfl rfl rfl ?_
        refine mG_goto (tgt := 23) (pc := 2937) C dL_law_2937 (by decide) ?_
        cases hf
        exact mG_sub (mxLe_s (mxLe_s (mxLe_s (mxLe_s (mxLe_s (mxLe_n (mxLe_n (mxLe_n (mxLe_n mxLe_z))))))))) (K _ _ (by omega) (by omega))
      · rw [if_neg q23] at hf
        cases hf
  · rw [if_neg q19] at hf
    cases hf
