/-! printed by wip/gen/emit_law.py: the arms of the law's switch -/
theorem dL_law_256 : decode cL_law 256 = .ok (.aload_n 1, 1) := by decide +kernel
theorem dL_law_257 : decode cL_law 257 = .ok (.aload_n 0, 1) := by decide +kernel
theorem dL_law_258 : decode cL_law 258 = .ok (.iload 4, 2) := by decide +kernel
theorem dL_law_260 : decode cL_law 260 = .ok (.iconst 1, 1) := by decide +kernel
theorem dL_law_261 : decode cL_law 261 = .ok (.iadd, 1) := by decide +kernel
theorem dL_law_262 : decode cL_law 262 = .ok (.iaload, 1) := by decide +kernel
theorem dL_law_263 : decode cL_law 263 = .ok (.aload_n 0, 1) := by decide +kernel
theorem dL_law_264 : decode cL_law 264 = .ok (.iload 4, 2) := by decide +kernel
theorem dL_law_266 : decode cL_law 266 = .ok (.iconst 2, 1) := by decide +kernel
theorem dL_law_267 : decode cL_law 267 = .ok (.iadd, 1) := by decide +kernel
theorem dL_law_268 : decode cL_law 268 = .ok (.iaload, 1) := by decide +kernel
theorem dL_law_269 : decode cL_law 269 = .ok (.aload_n 0, 1) := by decide +kernel
theorem dL_law_270 : decode cL_law 270 = .ok (.iload 4, 2) := by decide +kernel
theorem dL_law_272 : decode cL_law 272 = .ok (.iconst 3, 1) := by decide +kernel
theorem dL_law_273 : decode cL_law 273 = .ok (.iadd, 1) := by decide +kernel
theorem dL_law_274 : decode cL_law 274 = .ok (.iaload, 1) := by decide +kernel
theorem dL_law_275 : decode cL_law 275 = .ok (.aload_n 3, 1) := by decide +kernel
theorem dL_law_276 : decode cL_law 276 = .ok (.invokestatic 139, 3) := by decide +kernel
theorem dL_law_279 : decode cL_law 279 = .ok (.istore 5, 2) := by decide +kernel
theorem dL_law_281 : decode cL_law 281 = .ok (.aload_n 2, 1) := by decide +kernel
theorem dL_law_282 : decode cL_law 282 = .ok (.aload_n 0, 1) := by decide +kernel
theorem dL_law_283 : decode cL_law 283 = .ok (.iload 4, 2) := by decide +kernel
theorem dL_law_285 : decode cL_law 285 = .ok (.iconst 1, 1) := by decide +kernel
theorem dL_law_286 : decode cL_law 286 = .ok (.iadd, 1) := by decide +kernel
theorem dL_law_287 : decode cL_law 287 = .ok (.iaload, 1) := by decide +kernel
theorem dL_law_288 : decode cL_law 288 = .ok (.aload_n 0, 1) := by decide +kernel
theorem dL_law_289 : decode cL_law 289 = .ok (.iload 4, 2) := by decide +kernel
theorem dL_law_291 : decode cL_law 291 = .ok (.iconst 2, 1) := by decide +kernel
theorem dL_law_292 : decode cL_law 292 = .ok (.iadd, 1) := by decide +kernel
theorem dL_law_293 : decode cL_law 293 = .ok (.iaload, 1) := by decide +kernel
theorem dL_law_294 : decode cL_law 294 = .ok (.aload_n 0, 1) := by decide +kernel
theorem dL_law_295 : decode cL_law 295 = .ok (.iload 4, 2) := by decide +kernel
theorem dL_law_297 : decode cL_law 297 = .ok (.iconst 3, 1) := by decide +kernel
theorem dL_law_298 : decode cL_law 298 = .ok (.iadd, 1) := by decide +kernel
theorem dL_law_299 : decode cL_law 299 = .ok (.iaload, 1) := by decide +kernel
theorem dL_law_300 : decode cL_law 300 = .ok (.invokevirtual 144, 3) := by decide +kernel
theorem dL_law_303 : decode cL_law 303 = .ok (.istore 6, 2) := by decide +kernel
theorem dL_law_305 : decode cL_law 305 = .ok (.aload_n 2, 1) := by decide +kernel
theorem dL_law_306 : decode cL_law 306 = .ok (.invokevirtual 145, 3) := by decide +kernel
theorem dL_law_309 : decode cL_law 309 = .ok (.iload 5, 2) := by decide +kernel
theorem dL_law_311 : decode cL_law 311 = .ok (.if_icmp .eq 5, 3) := by decide +kernel
theorem dL_law_314 : decode cL_law 314 = .ok (.iconst 0, 1) := by decide +kernel
theorem dL_law_315 : decode cL_law 315 = .ok (.ireturn, 1) := by decide +kernel
theorem dL_law_316 : decode cL_law 316 = .ok (.iload 5, 2) := by decide +kernel
theorem dL_law_318 : decode cL_law 318 = .ok (.ifCond .ne 15, 3) := by decide +kernel
theorem dL_law_321 : decode cL_law 321 = .ok (.aload_n 3, 1) := by decide +kernel
theorem dL_law_322 : decode cL_law 322 = .ok (.iconst 0, 1) := by decide +kernel
theorem dL_law_323 : decode cL_law 323 = .ok (.laload, 1) := by decide +kernel
theorem dL_law_324 : decode cL_law 324 = .ok (.iload 6, 2) := by decide +kernel
theorem dL_law_326 : decode cL_law 326 = .ok (.i2l, 1) := by decide +kernel
theorem dL_law_327 : decode cL_law 327 = .ok (.lcmp, 1) := by decide +kernel
theorem dL_law_328 : decode cL_law 328 = .ok (.ifCond .eq 5, 3) := by decide +kernel
theorem dL_law_331 : decode cL_law 331 = .ok (.iconst 0, 1) := by decide +kernel
theorem dL_law_332 : decode cL_law 332 = .ok (.ireturn, 1) := by decide +kernel
theorem dL_law_333 : decode cL_law 333 = .ok (.goto 2601, 3) := by decide +kernel
theorem dL_law_2934 : decode cL_law 2934 = .ok (.iinc 4 5, 3) := by decide +kernel
theorem dL_law_2937 : decode cL_law 2937 = .ok (.goto (-2914), 3) := by decide +kernel
def fLa_0 (p0 p1 p2 p3 : Nat) (i : Int32) (h : mxH) : Option (Int32 × mxH) := Option.bind (ldI h p0 (i + 1)) (fun v1 => Option.bind (ldI h p0 (i + 2)) (fun v3 => Option.bind (ldI h p0 (i + 3)) (fun v5 => Option.bind (fL_put p1 v1 v3 v5 p3 h) (fun o8 => Option.bind (ldI o8.2 p0 (i + 1)) (fun v9 => Option.bind (ldI o8.2 p0 (i + 2)) (fun v11 => Option.bind (ldI o8.2 p0 (i + 3)) (fun v13 => Option.bind (isO o8.2 p2 10) (fun u16 => Option.bind (fX10_put p2 v9 v11 v13 o8.2) (fun o18 => Option.bind (isO o18.2 p2 10) (fun u20 => Option.bind (fX10_thrown p2 o18.2) (fun v22 => (if v22 = o8.1 then (if o8.1 = 0 then Option.bind (ldJ o18.2 p3 0) (fun r25 => (if (lg_cmp r25 o18.1.toInt64) = 0 then some (i + 5, o18.2) else none)) else some (i + 5, o18.2)) else none))))))))))))
set_option maxRecDepth 20000 in
theorem tLa_0 {l : Launch} {Z : mxZ} {X : mxX} (hl : l.stackTraces = false) (C : mxC l Z X RL cL_law 9) (hX : mxRm X = room_1) {p0 p1 p2 p3 : Nat} {i : Int32} {h : mxH} {o : Int32 × mxH} (hf : fLa_0 p0 p1 p2 p3 i h = some o) {k n : Nat} (hk : k + 8 ≤ 601024) (hn : n + 40 ≤ 7293034) (K : ∀ k2 n2, k2 ≤ k + 8 → n2 ≤ n + 40 → mG l Z X 9 k2 n2 23 [some (.ref p0), some (.ref p1), some (.ref p2), some (.ref p3), some (.int o.1), none, none, none, none] [] o.2) : mG l Z X 9 k n 256 [some (.ref p0), some (.ref p1), some (.ref p2), some (.ref p3), some (.int i), none, none, none, none] [] h := by
  unfold fLa_0 at hf
  refine mG_aload_n (pc := 256) C dL_law_256 rfl ?_
  refine mG_aload_n (pc := 257) C dL_law_257 rfl ?_
  refine mG_iload (pc := 258) C dL_law_258 rfl ?_
  refine mG_ic (pc := 260) C dL_law_260 kI1 ?_
  refine mG_iadd (pc := 261) C dL_law_261 ?_
  obtain ⟨v1, e2, hf⟩ := mx_bind hf
  refine mG_iaload (pc := 262) C dL_law_262 e2 ?_
  refine mG_aload_n (pc := 263) C dL_law_263 rfl ?_
  refine mG_iload (pc := 264) C dL_law_264 rfl ?_
  refine mG_ic (pc := 266) C dL_law_266 kI2 ?_
  refine mG_iadd (pc := 267) C dL_law_267 ?_
  obtain ⟨v3, e4, hf⟩ := mx_bind hf
  refine mG_iaload (pc := 268) C dL_law_268 e4 ?_
  refine mG_aload_n (pc := 269) C dL_law_269 rfl ?_
  refine mG_iload (pc := 270) C dL_law_270 rfl ?_
  refine mG_ic (pc := 272) C dL_law_272 kI3 ?_
  refine mG_iadd (pc := 273) C dL_law_273 ?_
  obtain ⟨v5, e6, hf⟩ := mx_bind hf
  refine mG_iaload (pc := 274) C dL_law_274 e6 ?_
  refine mG_aload_n (pc := 275) C dL_law_275 rfl ?_
  obtain ⟨o8, e7, hf⟩ := mx_bind hf
  refine mG_cSH (pc := 276) (k' := (k + 3)) (n' := (n + 18)) [.ref p1, .int v1, .int v3, .int v5, .ref p3] [] C hX dL_law_276 lkH_L_139 rfl (tL_put hl e7) rfl ⟨by show k + 3 ≤ 601024; omega, by show n + 18 ≤ 7293034; omega⟩ rfl rfl rfl ?_
  refine mG_is (ls' := [some (.ref p0), some (.ref p1), some (.ref p2), some (.ref p3), some (.int i), some (.int o8.1), none, none, none]) (pc := 279) C dL_law_279 rfl rfl rfl ?_
  refine mG_aload_n (pc := 281) C dL_law_281 rfl ?_
  refine mG_aload_n (pc := 282) C dL_law_282 rfl ?_
  refine mG_iload (pc := 283) C dL_law_283 rfl ?_
  refine mG_ic (pc := 285) C dL_law_285 kI1 ?_
  refine mG_iadd (pc := 286) C dL_law_286 ?_
  obtain ⟨v9, e10, hf⟩ := mx_bind hf
  refine mG_iaload (pc := 287) C dL_law_287 e10 ?_
  refine mG_aload_n (pc := 288) C dL_law_288 rfl ?_
  refine mG_iload (pc := 289) C dL_law_289 rfl ?_
  refine mG_ic (pc := 291) C dL_law_291 kI2 ?_
  refine mG_iadd (pc := 292) C dL_law_292 ?_
  obtain ⟨v11, e12, hf⟩ := mx_bind hf
  refine mG_iaload (pc := 293) C dL_law_293 e12 ?_
  refine mG_aload_n (pc := 294) C dL_law_294 rfl ?_
  refine mG_iload (pc := 295) C dL_law_295 rfl ?_
  refine mG_ic (pc := 297) C dL_law_297 kI3 ?_
  refine mG_iadd (pc := 298) C dL_law_298 ?_
  obtain ⟨v13, e14, hf⟩ := mx_bind hf
  refine mG_iaload (pc := 299) C dL_law_299 e14 ?_
  obtain ⟨u16, e17, hf⟩ := mx_bind hf
  obtain ⟨o18, e15, hf⟩ := mx_bind hf
  refine mG_cV2 (pc := 300) (k' := (k + 3)) (n' := (n + 18)) 10 [.int v9, .int v11, .int v13] [] C hX dL_law_300 lkV_L_144 rfl rfl e17 (tX10_put hl e15) rfl ⟨by show (k + 3) + 0 ≤ 601024; omega, by show (n + 18) + 0 ≤ 7293034; omega⟩ rfl rfl rfl ?_
  refine mG_is (ls' := [some (.ref p0), some (.ref p1), some (.ref p2), some (.ref p3), some (.int i), some (.int o8.1), some (.int o18.1), none, none]) (pc := 303) C dL_law_303 rfl rfl rfl ?_
  refine mG_aload_n (pc := 305) C dL_law_305 rfl ?_
  obtain ⟨u20, e21, hf⟩ := mx_bind hf
  obtain ⟨v22, e19, hf⟩ := mx_bind hf
  refine mG_cV2 (pc := 306) (k' := (k + 3)) (n' := (n + 18)) 10 [] [] C hX dL_law_306 lkV_L_145 rfl rfl e21 (tX10_thrown hl e19) rfl ⟨by show (k + 3) + 0 ≤ 601024; omega, by show (n + 18) + 0 ≤ 7293034; omega⟩ rfl rfl rfl ?_
  refine mG_iload (pc := 309) C dL_law_309 rfl ?_
  refine mG_icmp_eq (pc := 311) (tgt := 316) C dL_law_311 (by decide) (fun q23 => ?_) (fun q23 => ?_)
  · rw [if_pos q23] at hf
    refine mG_iload (pc := 316) C dL_law_316 rfl ?_
    refine mG_if_ne (pc := 318) (tgt := 333) C dL_law_318 (by decide) (fun q24 => ?_) (fun q24 => ?_)
    · rw [if_neg q24] at hf
      refine mG_goto (tgt := 2934) (pc := 333) C dL_law_333 (by decide) ?_
      refine mG_ii (ls' := [some (.ref p0), some (.ref p1), some (.ref p2), some (.ref p3), some (.int (i + 5)), some (.int o8.1), some (.int o18.1), none, none]) (pc := 2934) C dL_law_2934 rfl (kinc5 _) rfl rfl rfl ?_
      refine mG_goto (tgt := 23) (pc := 2937) C dL_law_2937 (by decide) ?_
      cases hf
      exact mG_sub (mxLe_s (mxLe_s (mxLe_s (mxLe_s (mxLe_s (mxLe_n (mxLe_n (mxLe_n (mxLe_n mxLe_z))))))))) (K _ _ (by omega) (by omega))
    · rw [if_pos q24] at hf
      refine mG_aload_n (pc := 321) C dL_law_321 rfl ?_
      refine mG_ic (pc := 322) C dL_law_322 kI0 ?_
      obtain ⟨r25, e26, hf⟩ := mx_bind hf
      refine mG_laload (pc := 323) C dL_law_323 e26 ?_
      refine mG_iload (pc := 324) C dL_law_324 rfl ?_
      refine mG_i2l (pc := 326) C dL_law_326 ?_
      refine mG_lcmp (pc := 327) C dL_law_327 ?_
      refine mG_if_eq (pc := 328) (tgt := 333) C dL_law_328 (by decide) (fun q27 => ?_) (fun q27 => ?_)
      · rw [if_pos q27] at hf
        refine mG_goto (tgt := 2934) (pc := 333) C dL_law_333 (by decide) ?_
        refine mG_ii (ls' := [some (.ref p0), some (.ref p1), some (.ref p2), some (.ref p3), some (.int (i + 5)), some (.int o8.1), some (.int o18.1), none, none]) (pc := 2934) C dL_law_2934 rfl (kinc5 _) rfl rfl rfl ?_
        refine mG_goto (tgt := 23) (pc := 2937) C dL_law_2937 (by decide) ?_
        cases hf
        exact mG_sub (mxLe_s (mxLe_s (mxLe_s (mxLe_s (mxLe_s (mxLe_n (mxLe_n (mxLe_n (mxLe_n mxLe_z))))))))) (K _ _ (by omega) (by omega))
      · rw [if_neg q27] at hf
        cases hf
  · rw [if_neg q23] at hf
    cases hf
theorem dL_law_336 : decode cL_law 336 = .ok (.aload_n 1, 1) := by decide +kernel
theorem dL_law_337 : decode cL_law 337 = .ok (.aload_n 0, 1) := by decide +kernel
theorem dL_law_338 : decode cL_law 338 = .ok (.iload 4, 2) := by decide +kernel
theorem dL_law_340 : decode cL_law 340 = .ok (.iconst 1, 1) := by decide +kernel
theorem dL_law_341 : decode cL_law 341 = .ok (.iadd, 1) := by decide +kernel
theorem dL_law_342 : decode cL_law 342 = .ok (.iaload, 1) := by decide +kernel
theorem dL_law_343 : decode cL_law 343 = .ok (.aload_n 0, 1) := by decide +kernel
theorem dL_law_344 : decode cL_law 344 = .ok (.iload 4, 2) := by decide +kernel
theorem dL_law_346 : decode cL_law 346 = .ok (.iconst 2, 1) := by decide +kernel
theorem dL_law_347 : decode cL_law 347 = .ok (.iadd, 1) := by decide +kernel
theorem dL_law_348 : decode cL_law 348 = .ok (.iaload, 1) := by decide +kernel
theorem dL_law_349 : decode cL_law 349 = .ok (.aload_n 3, 1) := by decide +kernel
theorem dL_law_350 : decode cL_law 350 = .ok (.invokestatic 148, 3) := by decide +kernel
theorem dL_law_353 : decode cL_law 353 = .ok (.istore 5, 2) := by decide +kernel
theorem dL_law_355 : decode cL_law 355 = .ok (.aload_n 2, 1) := by decide +kernel
theorem dL_law_356 : decode cL_law 356 = .ok (.aload_n 0, 1) := by decide +kernel
theorem dL_law_357 : decode cL_law 357 = .ok (.iload 4, 2) := by decide +kernel
theorem dL_law_359 : decode cL_law 359 = .ok (.iconst 1, 1) := by decide +kernel
theorem dL_law_360 : decode cL_law 360 = .ok (.iadd, 1) := by decide +kernel
theorem dL_law_361 : decode cL_law 361 = .ok (.iaload, 1) := by decide +kernel
theorem dL_law_362 : decode cL_law 362 = .ok (.aload_n 0, 1) := by decide +kernel
theorem dL_law_363 : decode cL_law 363 = .ok (.iload 4, 2) := by decide +kernel
theorem dL_law_365 : decode cL_law 365 = .ok (.iconst 2, 1) := by decide +kernel
theorem dL_law_366 : decode cL_law 366 = .ok (.iadd, 1) := by decide +kernel
theorem dL_law_367 : decode cL_law 367 = .ok (.iaload, 1) := by decide +kernel
theorem dL_law_368 : decode cL_law 368 = .ok (.invokevirtual 151, 3) := by decide +kernel
theorem dL_law_371 : decode cL_law 371 = .ok (.istore 6, 2) := by decide +kernel
theorem dL_law_373 : decode cL_law 373 = .ok (.aload_n 2, 1) := by decide +kernel
theorem dL_law_374 : decode cL_law 374 = .ok (.invokevirtual 145, 3) := by decide +kernel
theorem dL_law_377 : decode cL_law 377 = .ok (.iload 5, 2) := by decide +kernel
theorem dL_law_379 : decode cL_law 379 = .ok (.if_icmp .eq 5, 3) := by decide +kernel
theorem dL_law_382 : decode cL_law 382 = .ok (.iconst 0, 1) := by decide +kernel
theorem dL_law_383 : decode cL_law 383 = .ok (.ireturn, 1) := by decide +kernel
theorem dL_law_384 : decode cL_law 384 = .ok (.iload 5, 2) := by decide +kernel
theorem dL_law_386 : decode cL_law 386 = .ok (.ifCond .ne 15, 3) := by decide +kernel
theorem dL_law_389 : decode cL_law 389 = .ok (.aload_n 3, 1) := by decide +kernel
theorem dL_law_390 : decode cL_law 390 = .ok (.iconst 0, 1) := by decide +kernel
theorem dL_law_391 : decode cL_law 391 = .ok (.laload, 1) := by decide +kernel
theorem dL_law_392 : decode cL_law 392 = .ok (.iload 6, 2) := by decide +kernel
theorem dL_law_394 : decode cL_law 394 = .ok (.i2l, 1) := by decide +kernel
theorem dL_law_395 : decode cL_law 395 = .ok (.lcmp, 1) := by decide +kernel
theorem dL_law_396 : decode cL_law 396 = .ok (.ifCond .eq 5, 3) := by decide +kernel
theorem dL_law_399 : decode cL_law 399 = .ok (.iconst 0, 1) := by decide +kernel
theorem dL_law_400 : decode cL_law 400 = .ok (.ireturn, 1) := by decide +kernel
theorem dL_law_401 : decode cL_law 401 = .ok (.goto 2533, 3) := by decide +kernel
def fLa_1 (p0 p1 p2 p3 : Nat) (i : Int32) (h : mxH) : Option (Int32 × mxH) := Option.bind (ldI h p0 (i + 1)) (fun v1 => Option.bind (ldI h p0 (i + 2)) (fun v3 => Option.bind (fL_drop p1 v1 v3 p3 h) (fun o6 => Option.bind (ldI o6.2 p0 (i + 1)) (fun v7 => Option.bind (ldI o6.2 p0 (i + 2)) (fun v9 => Option.bind (isO o6.2 p2 10) (fun u12 => Option.bind (fX10_drop p2 v7 v9 o6.2) (fun o14 => Option.bind (isO o14.2 p2 10) (fun u16 => Option.bind (fX10_thrown p2 o14.2) (fun v18 => (if v18 = o6.1 then (if o6.1 = 0 then Option.bind (ldJ o14.2 p3 0) (fun r21 => (if (lg_cmp r21 o14.1.toInt64) = 0 then some (i + 5, o14.2) else none)) else some (i + 5, o14.2)) else none))))))))))
set_option maxRecDepth 20000 in
theorem tLa_1 {l : Launch} {Z : mxZ} {X : mxX} (hl : l.stackTraces = false) (C : mxC l Z X RL cL_law 9) (hX : mxRm X = room_1) {p0 p1 p2 p3 : Nat} {i : Int32} {h : mxH} {o : Int32 × mxH} (hf : fLa_1 p0 p1 p2 p3 i h = some o) {k n : Nat} (hk : k + 8 ≤ 601024) (hn : n + 40 ≤ 7293034) (K : ∀ k2 n2, k2 ≤ k + 8 → n2 ≤ n + 40 → mG l Z X 9 k2 n2 23 [some (.ref p0), some (.ref p1), some (.ref p2), some (.ref p3), some (.int o.1), none, none, none, none] [] o.2) : mG l Z X 9 k n 336 [some (.ref p0), some (.ref p1), some (.ref p2), some (.ref p3), some (.int i), none, none, none, none] [] h := by
  unfold fLa_1 at hf
  refine mG_aload_n (pc := 336) C dL_law_336 rfl ?_
  refine mG_aload_n (pc := 337) C dL_law_337 rfl ?_
  refine mG_iload (pc := 338) C dL_law_338 rfl ?_
  refine mG_ic (pc := 340) C dL_law_340 kI1 ?_
  refine mG_iadd (pc := 341) C dL_law_341 ?_
  obtain ⟨v1, e2, hf⟩ := mx_bind hf
  refine mG_iaload (pc := 342) C dL_law_342 e2 ?_
  refine mG_aload_n (pc := 343) C dL_law_343 rfl ?_
  refine mG_iload (pc := 344) C dL_law_344 rfl ?_
  refine mG_ic (pc := 346) C dL_law_346 kI2 ?_
  refine mG_iadd (pc := 347) C dL_law_347 ?_
  obtain ⟨v3, e4, hf⟩ := mx_bind hf
  refine mG_iaload (pc := 348) C dL_law_348 e4 ?_
  refine mG_aload_n (pc := 349) C dL_law_349 rfl ?_
  obtain ⟨o6, e5, hf⟩ := mx_bind hf
  refine mG_cSH (pc := 350) (k' := (k + 3)) (n' := (n + 18)) [.ref p1, .int v1, .int v3, .ref p3] [] C hX dL_law_350 lkH_L_148 rfl (tL_drop hl e5) rfl ⟨by show k + 3 ≤ 601024; omega, by show n + 18 ≤ 7293034; omega⟩ rfl rfl rfl ?_
  refine mG_is (ls' := [some (.ref p0), some (.ref p1), some (.ref p2), some (.ref p3), some (.int i), some (.int o6.1), none, none, none]) (pc := 353) C dL_law_353 rfl rfl rfl ?_
  refine mG_aload_n (pc := 355) C dL_law_355 rfl ?_
  refine mG_aload_n (pc := 356) C dL_law_356 rfl ?_
  refine mG_iload (pc := 357) C dL_law_357 rfl ?_
  refine mG_ic (pc := 359) C dL_law_359 kI1 ?_
  refine mG_iadd (pc := 360) C dL_law_360 ?_
  obtain ⟨v7, e8, hf⟩ := mx_bind hf
  refine mG_iaload (pc := 361) C dL_law_361 e8 ?_
  refine mG_aload_n (pc := 362) C dL_law_362 rfl ?_
  refine mG_iload (pc := 363) C dL_law_363 rfl ?_
  refine mG_ic (pc := 365) C dL_law_365 kI2 ?_
  refine mG_iadd (pc := 366) C dL_law_366 ?_
  obtain ⟨v9, e10, hf⟩ := mx_bind hf
  refine mG_iaload (pc := 367) C dL_law_367 e10 ?_
  obtain ⟨u12, e13, hf⟩ := mx_bind hf
  obtain ⟨o14, e11, hf⟩ := mx_bind hf
  refine mG_cV2 (pc := 368) (k' := (k + 3)) (n' := (n + 18)) 10 [.int v7, .int v9] [] C hX dL_law_368 lkV_L_151 rfl rfl e13 (tX10_drop hl e11) rfl ⟨by show (k + 3) + 0 ≤ 601024; omega, by show (n + 18) + 0 ≤ 7293034; omega⟩ rfl rfl rfl ?_
  refine mG_is (ls' := [some (.ref p0), some (.ref p1), some (.ref p2), some (.ref p3), some (.int i), some (.int o6.1), some (.int o14.1), none, none]) (pc := 371) C dL_law_371 rfl rfl rfl ?_
  refine mG_aload_n (pc := 373) C dL_law_373 rfl ?_
  obtain ⟨u16, e17, hf⟩ := mx_bind hf
  obtain ⟨v18, e15, hf⟩ := mx_bind hf
  refine mG_cV2 (pc := 374) (k' := (k + 3)) (n' := (n + 18)) 10 [] [] C hX dL_law_374 lkV_L_145 rfl rfl e17 (tX10_thrown hl e15) rfl ⟨by show (k + 3) + 0 ≤ 601024; omega, by show (n + 18) + 0 ≤ 7293034; omega⟩ rfl rfl rfl ?_
  refine mG_iload (pc := 377) C dL_law_377 rfl ?_
  refine mG_icmp_eq (pc := 379) (tgt := 384) C dL_law_379 (by decide) (fun q19 => ?_) (fun q19 => ?_)
  · rw [if_pos q19] at hf
    refine mG_iload (pc := 384) C dL_law_384 rfl ?_
    refine mG_if_ne (pc := 386) (tgt := 401) C dL_law_386 (by decide) (fun q20 => ?_) (fun q20 => ?_)
    · rw [if_neg q20] at hf
      refine mG_goto (tgt := 2934) (pc := 401) C dL_law_401 (by decide) ?_
      refine mG_ii (ls' := [some (.ref p0), some (.ref p1), some (.ref p2), some (.ref p3), some (.int (i + 5)), some (.int o6.1), some (.int o14.1), none, none]) (pc := 2934) C dL_law_2934 rfl (kinc5 _) rfl rfl rfl ?_
      refine mG_goto (tgt := 23) (pc := 2937) C dL_law_2937 (by decide) ?_
      cases hf
      exact mG_sub (mxLe_s (mxLe_s (mxLe_s (mxLe_s (mxLe_s (mxLe_n (mxLe_n (mxLe_n (mxLe_n mxLe_z))))))))) (K _ _ (by omega) (by omega))
    · rw [if_pos q20] at hf
      refine mG_aload_n (pc := 389) C dL_law_389 rfl ?_
      refine mG_ic (pc := 390) C dL_law_390 kI0 ?_
      obtain ⟨r21, e22, hf⟩ := mx_bind hf
      refine mG_laload (pc := 391) C dL_law_391 e22 ?_
      refine mG_iload (pc := 392) C dL_law_392 rfl ?_
      refine mG_i2l (pc := 394) C dL_law_394 ?_
      refine mG_lcmp (pc := 395) C dL_law_395 ?_
      refine mG_if_eq (pc := 396) (tgt := 401) C dL_law_396 (by decide) (fun q23 => ?_) (fun q23 => ?_)
      · rw [if_pos q23] at hf
        refine mG_goto (tgt := 2934) (pc := 401) C dL_law_401 (by decide) ?_
        refine mG_ii (ls' := [some (.ref p0), some (.ref p1), some (.ref p2), some (.ref p3), some (.int (i + 5)), some (.int o6.1), some (.int o14.1), none, none]) (pc := 2934) C dL_law_2934 rfl (kinc5 _) rfl rfl rfl ?_
        refine mG_goto (tgt := 23) (pc := 2937) C dL_law_2937 (by decide) ?_
        cases hf
        exact mG_sub (mxLe_s (mxLe_s (mxLe_s (mxLe_s (mxLe_s (mxLe_n (mxLe_n (mxLe_n (mxLe_n mxLe_z))))))))) (K _ _ (by omega) (by omega))
      · rw [if_neg q23] at hf
        cases hf
  · rw [if_neg q19] at hf
    cases hf
theorem dL_law_404 : decode cL_law 404 = .ok (.aload_n 1, 1) := by decide +kernel
theorem dL_law_405 : decode cL_law 405 = .ok (.aload_n 0, 1) := by decide +kernel
theorem dL_law_406 : decode cL_law 406 = .ok (.iload 4, 2) := by decide +kernel
theorem dL_law_408 : decode cL_law 408 = .ok (.iconst 1, 1) := by decide +kernel
theorem dL_law_409 : decode cL_law 409 = .ok (.iadd, 1) := by decide +kernel
theorem dL_law_410 : decode cL_law 410 = .ok (.iaload, 1) := by decide +kernel
theorem dL_law_411 : decode cL_law 411 = .ok (.aload_n 0, 1) := by decide +kernel
theorem dL_law_412 : decode cL_law 412 = .ok (.iload 4, 2) := by decide +kernel
theorem dL_law_414 : decode cL_law 414 = .ok (.iconst 2, 1) := by decide +kernel
theorem dL_law_415 : decode cL_law 415 = .ok (.iadd, 1) := by decide +kernel
theorem dL_law_416 : decode cL_law 416 = .ok (.iaload, 1) := by decide +kernel
theorem dL_law_417 : decode cL_law 417 = .ok (.aload_n 3, 1) := by decide +kernel
theorem dL_law_418 : decode cL_law 418 = .ok (.invokestatic 152, 3) := by decide +kernel
theorem dL_law_421 : decode cL_law 421 = .ok (.istore 5, 2) := by decide +kernel
theorem dL_law_423 : decode cL_law 423 = .ok (.aload_n 2, 1) := by decide +kernel
theorem dL_law_424 : decode cL_law 424 = .ok (.aload_n 0, 1) := by decide +kernel
theorem dL_law_425 : decode cL_law 425 = .ok (.iload 4, 2) := by decide +kernel
theorem dL_law_427 : decode cL_law 427 = .ok (.iconst 1, 1) := by decide +kernel
theorem dL_law_428 : decode cL_law 428 = .ok (.iadd, 1) := by decide +kernel
theorem dL_law_429 : decode cL_law 429 = .ok (.iaload, 1) := by decide +kernel
theorem dL_law_430 : decode cL_law 430 = .ok (.aload_n 0, 1) := by decide +kernel
theorem dL_law_431 : decode cL_law 431 = .ok (.iload 4, 2) := by decide +kernel
theorem dL_law_433 : decode cL_law 433 = .ok (.iconst 2, 1) := by decide +kernel
theorem dL_law_434 : decode cL_law 434 = .ok (.iadd, 1) := by decide +kernel
theorem dL_law_435 : decode cL_law 435 = .ok (.iaload, 1) := by decide +kernel
theorem dL_law_436 : decode cL_law 436 = .ok (.invokevirtual 154, 3) := by decide +kernel
theorem dL_law_439 : decode cL_law 439 = .ok (.istore 6, 2) := by decide +kernel
theorem dL_law_441 : decode cL_law 441 = .ok (.aload_n 2, 1) := by decide +kernel
theorem dL_law_442 : decode cL_law 442 = .ok (.invokevirtual 145, 3) := by decide +kernel
theorem dL_law_445 : decode cL_law 445 = .ok (.iload 5, 2) := by decide +kernel
theorem dL_law_447 : decode cL_law 447 = .ok (.if_icmp .eq 5, 3) := by decide +kernel
theorem dL_law_450 : decode cL_law 450 = .ok (.iconst 0, 1) := by decide +kernel
theorem dL_law_451 : decode cL_law 451 = .ok (.ireturn, 1) := by decide +kernel
theorem dL_law_452 : decode cL_law 452 = .ok (.iload 5, 2) := by decide +kernel
theorem dL_law_454 : decode cL_law 454 = .ok (.ifCond .ne 15, 3) := by decide +kernel
theorem dL_law_457 : decode cL_law 457 = .ok (.aload_n 3, 1) := by decide +kernel
theorem dL_law_458 : decode cL_law 458 = .ok (.iconst 0, 1) := by decide +kernel
theorem dL_law_459 : decode cL_law 459 = .ok (.laload, 1) := by decide +kernel
theorem dL_law_460 : decode cL_law 460 = .ok (.iload 6, 2) := by decide +kernel
theorem dL_law_462 : decode cL_law 462 = .ok (.i2l, 1) := by decide +kernel
theorem dL_law_463 : decode cL_law 463 = .ok (.lcmp, 1) := by decide +kernel
theorem dL_law_464 : decode cL_law 464 = .ok (.ifCond .eq 5, 3) := by decide +kernel
theorem dL_law_467 : decode cL_law 467 = .ok (.iconst 0, 1) := by decide +kernel
theorem dL_law_468 : decode cL_law 468 = .ok (.ireturn, 1) := by decide +kernel
theorem dL_law_469 : decode cL_law 469 = .ok (.goto 2465, 3) := by decide +kernel
def fLa_2 (p0 p1 p2 p3 : Nat) (i : Int32) (h : mxH) : Option (Int32 × mxH) := Option.bind (ldI h p0 (i + 1)) (fun v1 => Option.bind (ldI h p0 (i + 2)) (fun v3 => Option.bind (fL_setWeight p1 v1 v3 p3 h) (fun o6 => Option.bind (ldI o6.2 p0 (i + 1)) (fun v7 => Option.bind (ldI o6.2 p0 (i + 2)) (fun v9 => Option.bind (isO o6.2 p2 10) (fun u12 => Option.bind (fX10_setWeight p2 v7 v9 o6.2) (fun o14 => Option.bind (isO o14.2 p2 10) (fun u16 => Option.bind (fX10_thrown p2 o14.2) (fun v18 => (if v18 = o6.1 then (if o6.1 = 0 then Option.bind (ldJ o14.2 p3 0) (fun r21 => (if (lg_cmp r21 o14.1.toInt64) = 0 then some (i + 5, o14.2) else none)) else some (i + 5, o14.2)) else none))))))))))
set_option maxRecDepth 20000 in
theorem tLa_2 {l : Launch} {Z : mxZ} {X : mxX} (hl : l.stackTraces = false) (C : mxC l Z X RL cL_law 9) (hX : mxRm X = room_1) {p0 p1 p2 p3 : Nat} {i : Int32} {h : mxH} {o : Int32 × mxH} (hf : fLa_2 p0 p1 p2 p3 i h = some o) {k n : Nat} (hk : k + 8 ≤ 601024) (hn : n + 40 ≤ 7293034) (K : ∀ k2 n2, k2 ≤ k + 8 → n2 ≤ n + 40 → mG l Z X 9 k2 n2 23 [some (.ref p0), some (.ref p1), some (.ref p2), some (.ref p3), some (.int o.1), none, none, none, none] [] o.2) : mG l Z X 9 k n 404 [some (.ref p0), some (.ref p1), some (.ref p2), some (.ref p3), some (.int i), none, none, none, none] [] h := by
  unfold fLa_2 at hf
  refine mG_aload_n (pc := 404) C dL_law_404 rfl ?_
  refine mG_aload_n (pc := 405) C dL_law_405 rfl ?_
  refine mG_iload (pc := 406) C dL_law_406 rfl ?_
  refine mG_ic (pc := 408) C dL_law_408 kI1 ?_
  refine mG_iadd (pc := 409) C dL_law_409 ?_
  obtain ⟨v1, e2, hf⟩ := mx_bind hf
  refine mG_iaload (pc := 410) C dL_law_410 e2 ?_
  refine mG_aload_n (pc := 411) C dL_law_411 rfl ?_
  refine mG_iload (pc := 412) C dL_law_412 rfl ?_
  refine mG_ic (pc := 414) C dL_law_414 kI2 ?_
  refine mG_iadd (pc := 415) C dL_law_415 ?_
  obtain ⟨v3, e4, hf⟩ := mx_bind hf
  refine mG_iaload (pc := 416) C dL_law_416 e4 ?_
  refine mG_aload_n (pc := 417) C dL_law_417 rfl ?_
  obtain ⟨o6, e5, hf⟩ := mx_bind hf
  refine mG_cSH (pc := 418) (k' := (k + 2)) (n' := (n + 12)) [.ref p1, .int v1, .int v3, .ref p3] [] C hX dL_law_418 lkH_L_152 rfl (tL_setWeight hl e5) rfl ⟨by show k + 2 ≤ 601024; omega, by show n + 12 ≤ 7293034; omega⟩ rfl rfl rfl ?_
  refine mG_is (ls' := [some (.ref p0), some (.ref p1), some (.ref p2), some (.ref p3), some (.int i), some (.int o6.1), none, none, none]) (pc := 421) C dL_law_421 rfl rfl rfl ?_
  refine mG_aload_n (pc := 423) C dL_law_423 rfl ?_
  refine mG_aload_n (pc := 424) C dL_law_424 rfl ?_
  refine mG_iload (pc := 425) C dL_law_425 rfl ?_
  refine mG_ic (pc := 427) C dL_law_427 kI1 ?_
  refine mG_iadd (pc := 428) C dL_law_428 ?_
  obtain ⟨v7, e8, hf⟩ := mx_bind hf
  refine mG_iaload (pc := 429) C dL_law_429 e8 ?_
  refine mG_aload_n (pc := 430) C dL_law_430 rfl ?_
  refine mG_iload (pc := 431) C dL_law_431 rfl ?_
  refine mG_ic (pc := 433) C dL_law_433 kI2 ?_
  refine mG_iadd (pc := 434) C dL_law_434 ?_
  obtain ⟨v9, e10, hf⟩ := mx_bind hf
  refine mG_iaload (pc := 435) C dL_law_435 e10 ?_
  obtain ⟨u12, e13, hf⟩ := mx_bind hf
  obtain ⟨o14, e11, hf⟩ := mx_bind hf
  refine mG_cV2 (pc := 436) (k' := (k + 2)) (n' := (n + 12)) 10 [.int v7, .int v9] [] C hX dL_law_436 lkV_L_154 rfl rfl e13 (tX10_setWeight hl e11) rfl ⟨by show (k + 2) + 0 ≤ 601024; omega, by show (n + 12) + 0 ≤ 7293034; omega⟩ rfl rfl rfl ?_
  refine mG_is (ls' := [some (.ref p0), some (.ref p1), some (.ref p2), some (.ref p3), some (.int i), some (.int o6.1), some (.int o14.1), none, none]) (pc := 439) C dL_law_439 rfl rfl rfl ?_
  refine mG_aload_n (pc := 441) C dL_law_441 rfl ?_
  obtain ⟨u16, e17, hf⟩ := mx_bind hf
  obtain ⟨v18, e15, hf⟩ := mx_bind hf
  refine mG_cV2 (pc := 442) (k' := (k + 2)) (n' := (n + 12)) 10 [] [] C hX dL_law_442 lkV_L_145 rfl rfl e17 (tX10_thrown hl e15) rfl ⟨by show (k + 2) + 0 ≤ 601024; omega, by show (n + 12) + 0 ≤ 7293034; omega⟩ rfl rfl rfl ?_
  refine mG_iload (pc := 445) C dL_law_445 rfl ?_
  refine mG_icmp_eq (pc := 447) (tgt := 452) C dL_law_447 (by decide) (fun q19 => ?_) (fun q19 => ?_)
  · rw [if_pos q19] at hf
    refine mG_iload (pc := 452) C dL_law_452 rfl ?_
    refine mG_if_ne (pc := 454) (tgt := 469) C dL_law_454 (by decide) (fun q20 => ?_) (fun q20 => ?_)
    · rw [if_neg q20] at hf
      refine mG_goto (tgt := 2934) (pc := 469) C dL_law_469 (by decide) ?_
      refine mG_ii (ls' := [some (.ref p0), some (.ref p1), some (.ref p2), some (.ref p3), some (.int (i + 5)), some (.int o6.1), some (.int o14.1), none, none]) (pc := 2934) C dL_law_2934 rfl (kinc5 _) rfl rfl rfl ?_
      refine mG_goto (tgt := 23) (pc := 2937) C dL_law_2937 (by decide) ?_
      cases hf
      exact mG_sub (mxLe_s (mxLe_s (mxLe_s (mxLe_s (mxLe_s (mxLe_n (mxLe_n (mxLe_n (mxLe_n mxLe_z))))))))) (K _ _ (by omega) (by omega))
    · rw [if_pos q20] at hf
      refine mG_aload_n (pc := 457) C dL_law_457 rfl ?_
      refine mG_ic (pc := 458) C dL_law_458 kI0 ?_
      obtain ⟨r21, e22, hf⟩ := mx_bind hf
      refine mG_laload (pc := 459) C dL_law_459 e22 ?_
      refine mG_iload (pc := 460) C dL_law_460 rfl ?_
      refine mG_i2l (pc := 462) C dL_law_462 ?_
      refine mG_lcmp (pc := 463) C dL_law_463 ?_
      refine mG_if_eq (pc := 464) (tgt := 469) C dL_law_464 (by decide) (fun q23 => ?_) (fun q23 => ?_)
      · rw [if_pos q23] at hf
        refine mG_goto (tgt := 2934) (pc := 469) C dL_law_469 (by decide) ?_
        refine mG_ii (ls' := [some (.ref p0), some (.ref p1), some (.ref p2), some (.ref p3), some (.int (i + 5)), some (.int o6.1), some (.int o14.1), none, none]) (pc := 2934) C dL_law_2934 rfl (kinc5 _) rfl rfl rfl ?_
        refine mG_goto (tgt := 23) (pc := 2937) C dL_law_2937 (by decide) ?_
        cases hf
        exact mG_sub (mxLe_s (mxLe_s (mxLe_s (mxLe_s (mxLe_s (mxLe_n (mxLe_n (mxLe_n (mxLe_n mxLe_z))))))))) (K _ _ (by omega) (by omega))
      · rw [if_neg q23] at hf
        cases hf
  · rw [if_neg q19] at hf
    cases hf
theorem dL_law_472 : decode cL_law 472 = .ok (.aload_n 1, 1) := by decide +kernel
theorem dL_law_473 : decode cL_law 473 = .ok (.aload_n 0, 1) := by decide +kernel
theorem dL_law_474 : decode cL_law 474 = .ok (.iload 4, 2) := by decide +kernel
theorem dL_law_476 : decode cL_law 476 = .ok (.iconst 1, 1) := by decide +kernel
theorem dL_law_477 : decode cL_law 477 = .ok (.iadd, 1) := by decide +kernel
theorem dL_law_478 : decode cL_law 478 = .ok (.iaload, 1) := by decide +kernel
theorem dL_law_479 : decode cL_law 479 = .ok (.aload_n 3, 1) := by decide +kernel
theorem dL_law_480 : decode cL_law 480 = .ok (.invokestatic 155, 3) := by decide +kernel
theorem dL_law_483 : decode cL_law 483 = .ok (.istore 5, 2) := by decide +kernel
theorem dL_law_485 : decode cL_law 485 = .ok (.aload_n 2, 1) := by decide +kernel
theorem dL_law_486 : decode cL_law 486 = .ok (.aload_n 0, 1) := by decide +kernel
theorem dL_law_487 : decode cL_law 487 = .ok (.iload 4, 2) := by decide +kernel
theorem dL_law_489 : decode cL_law 489 = .ok (.iconst 1, 1) := by decide +kernel
theorem dL_law_490 : decode cL_law 490 = .ok (.iadd, 1) := by decide +kernel
theorem dL_law_491 : decode cL_law 491 = .ok (.iaload, 1) := by decide +kernel
theorem dL_law_492 : decode cL_law 492 = .ok (.invokevirtual 158, 3) := by decide +kernel
theorem dL_law_495 : decode cL_law 495 = .ok (.istore 6, 2) := by decide +kernel
theorem dL_law_497 : decode cL_law 497 = .ok (.aload_n 2, 1) := by decide +kernel
theorem dL_law_498 : decode cL_law 498 = .ok (.invokevirtual 145, 3) := by decide +kernel
theorem dL_law_501 : decode cL_law 501 = .ok (.iload 5, 2) := by decide +kernel
theorem dL_law_503 : decode cL_law 503 = .ok (.if_icmp .eq 5, 3) := by decide +kernel
theorem dL_law_506 : decode cL_law 506 = .ok (.iconst 0, 1) := by decide +kernel
theorem dL_law_507 : decode cL_law 507 = .ok (.ireturn, 1) := by decide +kernel
theorem dL_law_508 : decode cL_law 508 = .ok (.iload 5, 2) := by decide +kernel
theorem dL_law_510 : decode cL_law 510 = .ok (.ifCond .ne 15, 3) := by decide +kernel
theorem dL_law_513 : decode cL_law 513 = .ok (.aload_n 3, 1) := by decide +kernel
theorem dL_law_514 : decode cL_law 514 = .ok (.iconst 0, 1) := by decide +kernel
theorem dL_law_515 : decode cL_law 515 = .ok (.laload, 1) := by decide +kernel
theorem dL_law_516 : decode cL_law 516 = .ok (.iload 6, 2) := by decide +kernel
theorem dL_law_518 : decode cL_law 518 = .ok (.i2l, 1) := by decide +kernel
theorem dL_law_519 : decode cL_law 519 = .ok (.lcmp, 1) := by decide +kernel
theorem dL_law_520 : decode cL_law 520 = .ok (.ifCond .eq 5, 3) := by decide +kernel
theorem dL_law_523 : decode cL_law 523 = .ok (.iconst 0, 1) := by decide +kernel
theorem dL_law_524 : decode cL_law 524 = .ok (.ireturn, 1) := by decide +kernel
theorem dL_law_525 : decode cL_law 525 = .ok (.goto 2409, 3) := by decide +kernel
def fLa_3 (p0 p1 p2 p3 : Nat) (i : Int32) (h : mxH) : Option (Int32 × mxH) := Option.bind (ldI h p0 (i + 1)) (fun v1 => Option.bind (fL_setRule p1 v1 p3 h) (fun o4 => Option.bind (ldI o4.2 p0 (i + 1)) (fun v5 => Option.bind (isO o4.2 p2 10) (fun u8 => Option.bind (fX10_setRule p2 v5 o4.2) (fun o10 => Option.bind (isO o10.2 p2 10) (fun u12 => Option.bind (fX10_thrown p2 o10.2) (fun v14 => (if v14 = o4.1 then (if o4.1 = 0 then Option.bind (ldJ o10.2 p3 0) (fun r17 => (if (lg_cmp r17 o10.1.toInt64) = 0 then some (i + 5, o10.2) else none)) else some (i + 5, o10.2)) else none))))))))
set_option maxRecDepth 20000 in
theorem tLa_3 {l : Launch} {Z : mxZ} {X : mxX} (hl : l.stackTraces = false) (C : mxC l Z X RL cL_law 9) (hX : mxRm X = room_1) {p0 p1 p2 p3 : Nat} {i : Int32} {h : mxH} {o : Int32 × mxH} (hf : fLa_3 p0 p1 p2 p3 i h = some o) {k n : Nat} (hk : k + 8 ≤ 601024) (hn : n + 40 ≤ 7293034) (K : ∀ k2 n2, k2 ≤ k + 8 → n2 ≤ n + 40 → mG l Z X 9 k2 n2 23 [some (.ref p0), some (.ref p1), some (.ref p2), some (.ref p3), some (.int o.1), none, none, none, none] [] o.2) : mG l Z X 9 k n 472 [some (.ref p0), some (.ref p1), some (.ref p2), some (.ref p3), some (.int i), none, none, none, none] [] h := by
  unfold fLa_3 at hf
  refine mG_aload_n (pc := 472) C dL_law_472 rfl ?_
  refine mG_aload_n (pc := 473) C dL_law_473 rfl ?_
  refine mG_iload (pc := 474) C dL_law_474 rfl ?_
  refine mG_ic (pc := 476) C dL_law_476 kI1 ?_
  refine mG_iadd (pc := 477) C dL_law_477 ?_
  obtain ⟨v1, e2, hf⟩ := mx_bind hf
  refine mG_iaload (pc := 478) C dL_law_478 e2 ?_
  refine mG_aload_n (pc := 479) C dL_law_479 rfl ?_
  obtain ⟨o4, e3, hf⟩ := mx_bind hf
  refine mG_cSH (pc := 480) (k' := (k + 1)) (n' := (n + 6)) [.ref p1, .int v1, .ref p3] [] C hX dL_law_480 lkH_L_155 rfl (tL_setRule hl e3) rfl ⟨by show k + 1 ≤ 601024; omega, by show n + 6 ≤ 7293034; omega⟩ rfl rfl rfl ?_
  refine mG_is (ls' := [some (.ref p0), some (.ref p1), some (.ref p2), some (.ref p3), some (.int i), some (.int o4.1), none, none, none]) (pc := 483) C dL_law_483 rfl rfl rfl ?_
  refine mG_aload_n (pc := 485) C dL_law_485 rfl ?_
  refine mG_aload_n (pc := 486) C dL_law_486 rfl ?_
  refine mG_iload (pc := 487) C dL_law_487 rfl ?_
  refine mG_ic (pc := 489) C dL_law_489 kI1 ?_
  refine mG_iadd (pc := 490) C dL_law_490 ?_
  obtain ⟨v5, e6, hf⟩ := mx_bind hf
  refine mG_iaload (pc := 491) C dL_law_491 e6 ?_
  obtain ⟨u8, e9, hf⟩ := mx_bind hf
  obtain ⟨o10, e7, hf⟩ := mx_bind hf
  refine mG_cV2 (pc := 492) (k' := (k + 1)) (n' := (n + 6)) 10 [.int v5] [] C hX dL_law_492 lkV_L_158 rfl rfl e9 (tX10_setRule hl e7) rfl ⟨by show (k + 1) + 0 ≤ 601024; omega, by show (n + 6) + 0 ≤ 7293034; omega⟩ rfl rfl rfl ?_
  refine mG_is (ls' := [some (.ref p0), some (.ref p1), some (.ref p2), some (.ref p3), some (.int i), some (.int o4.1), some (.int o10.1), none, none]) (pc := 495) C dL_law_495 rfl rfl rfl ?_
  refine mG_aload_n (pc := 497) C dL_law_497 rfl ?_
  obtain ⟨u12, e13, hf⟩ := mx_bind hf
  obtain ⟨v14, e11, hf⟩ := mx_bind hf
  refine mG_cV2 (pc := 498) (k' := (k + 1)) (n' := (n + 6)) 10 [] [] C hX dL_law_498 lkV_L_145 rfl rfl e13 (tX10_thrown hl e11) rfl ⟨by show (k + 1) + 0 ≤ 601024; omega, by show (n + 6) + 0 ≤ 7293034; omega⟩ rfl rfl rfl ?_
  refine mG_iload (pc := 501) C dL_law_501 rfl ?_
  refine mG_icmp_eq (pc := 503) (tgt := 508) C dL_law_503 (by decide) (fun q15 => ?_) (fun q15 => ?_)
  · rw [if_pos q15] at hf
    refine mG_iload (pc := 508) C dL_law_508 rfl ?_
    refine mG_if_ne (pc := 510) (tgt := 525) C dL_law_510 (by decide) (fun q16 => ?_) (fun q16 => ?_)
    · rw [if_neg q16] at hf
      refine mG_goto (tgt := 2934) (pc := 525) C dL_law_525 (by decide) ?_
      refine mG_ii (ls' := [some (.ref p0), some (.ref p1), some (.ref p2), some (.ref p3), some (.int (i + 5)), some (.int o4.1), some (.int o10.1), none, none]) (pc := 2934) C dL_law_2934 rfl (kinc5 _) rfl rfl rfl ?_
      refine mG_goto (tgt := 23) (pc := 2937) C dL_law_2937 (by decide) ?_
      cases hf
      exact mG_sub (mxLe_s (mxLe_s (mxLe_s (mxLe_s (mxLe_s (mxLe_n (mxLe_n (mxLe_n (mxLe_n mxLe_z))))))))) (K _ _ (by omega) (by omega))
    · rw [if_pos q16] at hf
      refine mG_aload_n (pc := 513) C dL_law_513 rfl ?_
      refine mG_ic (pc := 514) C dL_law_514 kI0 ?_
      obtain ⟨r17, e18, hf⟩ := mx_bind hf
      refine mG_laload (pc := 515) C dL_law_515 e18 ?_
      refine mG_iload (pc := 516) C dL_law_516 rfl ?_
      refine mG_i2l (pc := 518) C dL_law_518 ?_
      refine mG_lcmp (pc := 519) C dL_law_519 ?_
      refine mG_if_eq (pc := 520) (tgt := 525) C dL_law_520 (by decide) (fun q19 => ?_) (fun q19 => ?_)
      · rw [if_pos q19] at hf
        refine mG_goto (tgt := 2934) (pc := 525) C dL_law_525 (by decide) ?_
        refine mG_ii (ls' := [some (.ref p0), some (.ref p1), some (.ref p2), some (.ref p3), some (.int (i + 5)), some (.int o4.1), some (.int o10.1), none, none]) (pc := 2934) C dL_law_2934 rfl (kinc5 _) rfl rfl rfl ?_
        refine mG_goto (tgt := 23) (pc := 2937) C dL_law_2937 (by decide) ?_
        cases hf
        exact mG_sub (mxLe_s (mxLe_s (mxLe_s (mxLe_s (mxLe_s (mxLe_n (mxLe_n (mxLe_n (mxLe_n mxLe_z))))))))) (K _ _ (by omega) (by omega))
      · rw [if_neg q19] at hf
        cases hf
  · rw [if_neg q15] at hf
    cases hf
theorem dL_law_528 : decode cL_law 528 = .ok (.aload_n 1, 1) := by decide +kernel
theorem dL_law_529 : decode cL_law 529 = .ok (.aload_n 0, 1) := by decide +kernel
theorem dL_law_530 : decode cL_law 530 = .ok (.iload 4, 2) := by decide +kernel
theorem dL_law_532 : decode cL_law 532 = .ok (.iconst 1, 1) := by decide +kernel
theorem dL_law_533 : decode cL_law 533 = .ok (.iadd, 1) := by decide +kernel
theorem dL_law_534 : decode cL_law 534 = .ok (.iaload, 1) := by decide +kernel
theorem dL_law_535 : decode cL_law 535 = .ok (.aload_n 0, 1) := by decide +kernel
theorem dL_law_536 : decode cL_law 536 = .ok (.iload 4, 2) := by decide +kernel
theorem dL_law_538 : decode cL_law 538 = .ok (.iconst 2, 1) := by decide +kernel
theorem dL_law_539 : decode cL_law 539 = .ok (.iadd, 1) := by decide +kernel
theorem dL_law_540 : decode cL_law 540 = .ok (.iaload, 1) := by decide +kernel
theorem dL_law_541 : decode cL_law 541 = .ok (.aload_n 3, 1) := by decide +kernel
theorem dL_law_542 : decode cL_law 542 = .ok (.invokestatic 159, 3) := by decide +kernel
theorem dL_law_545 : decode cL_law 545 = .ok (.istore 5, 2) := by decide +kernel
theorem dL_law_547 : decode cL_law 547 = .ok (.aload_n 2, 1) := by decide +kernel
theorem dL_law_548 : decode cL_law 548 = .ok (.aload_n 0, 1) := by decide +kernel
theorem dL_law_549 : decode cL_law 549 = .ok (.iload 4, 2) := by decide +kernel
theorem dL_law_551 : decode cL_law 551 = .ok (.iconst 1, 1) := by decide +kernel
theorem dL_law_552 : decode cL_law 552 = .ok (.iadd, 1) := by decide +kernel
theorem dL_law_553 : decode cL_law 553 = .ok (.iaload, 1) := by decide +kernel
theorem dL_law_554 : decode cL_law 554 = .ok (.aload_n 0, 1) := by decide +kernel
theorem dL_law_555 : decode cL_law 555 = .ok (.iload 4, 2) := by decide +kernel
theorem dL_law_557 : decode cL_law 557 = .ok (.iconst 2, 1) := by decide +kernel
theorem dL_law_558 : decode cL_law 558 = .ok (.iadd, 1) := by decide +kernel
theorem dL_law_559 : decode cL_law 559 = .ok (.iaload, 1) := by decide +kernel
theorem dL_law_560 : decode cL_law 560 = .ok (.invokevirtual 161, 3) := by decide +kernel
theorem dL_law_563 : decode cL_law 563 = .ok (.istore 6, 2) := by decide +kernel
theorem dL_law_565 : decode cL_law 565 = .ok (.aload_n 2, 1) := by decide +kernel
theorem dL_law_566 : decode cL_law 566 = .ok (.invokevirtual 145, 3) := by decide +kernel
theorem dL_law_569 : decode cL_law 569 = .ok (.iload 5, 2) := by decide +kernel
theorem dL_law_571 : decode cL_law 571 = .ok (.if_icmp .eq 5, 3) := by decide +kernel
theorem dL_law_574 : decode cL_law 574 = .ok (.iconst 0, 1) := by decide +kernel
theorem dL_law_575 : decode cL_law 575 = .ok (.ireturn, 1) := by decide +kernel
theorem dL_law_576 : decode cL_law 576 = .ok (.iload 5, 2) := by decide +kernel
theorem dL_law_578 : decode cL_law 578 = .ok (.ifCond .ne 15, 3) := by decide +kernel
theorem dL_law_581 : decode cL_law 581 = .ok (.aload_n 3, 1) := by decide +kernel
theorem dL_law_582 : decode cL_law 582 = .ok (.iconst 0, 1) := by decide +kernel
theorem dL_law_583 : decode cL_law 583 = .ok (.laload, 1) := by decide +kernel
theorem dL_law_584 : decode cL_law 584 = .ok (.iload 6, 2) := by decide +kernel
theorem dL_law_586 : decode cL_law 586 = .ok (.i2l, 1) := by decide +kernel
theorem dL_law_587 : decode cL_law 587 = .ok (.lcmp, 1) := by decide +kernel
theorem dL_law_588 : decode cL_law 588 = .ok (.ifCond .eq 5, 3) := by decide +kernel
theorem dL_law_591 : decode cL_law 591 = .ok (.iconst 0, 1) := by decide +kernel
theorem dL_law_592 : decode cL_law 592 = .ok (.ireturn, 1) := by decide +kernel
theorem dL_law_593 : decode cL_law 593 = .ok (.goto 2341, 3) := by decide +kernel
def fLa_4 (p0 p1 p2 p3 : Nat) (i : Int32) (h : mxH) : Option (Int32 × mxH) := Option.bind (ldI h p0 (i + 1)) (fun v1 => Option.bind (ldI h p0 (i + 2)) (fun v3 => Option.bind (fL_setCosts p1 v1 v3 p3 h) (fun o6 => Option.bind (ldI o6.2 p0 (i + 1)) (fun v7 => Option.bind (ldI o6.2 p0 (i + 2)) (fun v9 => Option.bind (isO o6.2 p2 10) (fun u12 => Option.bind (fX10_setCosts p2 v7 v9 o6.2) (fun o14 => Option.bind (isO o14.2 p2 10) (fun u16 => Option.bind (fX10_thrown p2 o14.2) (fun v18 => (if v18 = o6.1 then (if o6.1 = 0 then Option.bind (ldJ o14.2 p3 0) (fun r21 => (if (lg_cmp r21 o14.1.toInt64) = 0 then some (i + 5, o14.2) else none)) else some (i + 5, o14.2)) else none))))))))))
set_option maxRecDepth 20000 in
theorem tLa_4 {l : Launch} {Z : mxZ} {X : mxX} (hl : l.stackTraces = false) (C : mxC l Z X RL cL_law 9) (hX : mxRm X = room_1) {p0 p1 p2 p3 : Nat} {i : Int32} {h : mxH} {o : Int32 × mxH} (hf : fLa_4 p0 p1 p2 p3 i h = some o) {k n : Nat} (hk : k + 8 ≤ 601024) (hn : n + 40 ≤ 7293034) (K : ∀ k2 n2, k2 ≤ k + 8 → n2 ≤ n + 40 → mG l Z X 9 k2 n2 23 [some (.ref p0), some (.ref p1), some (.ref p2), some (.ref p3), some (.int o.1), none, none, none, none] [] o.2) : mG l Z X 9 k n 528 [some (.ref p0), some (.ref p1), some (.ref p2), some (.ref p3), some (.int i), none, none, none, none] [] h := by
  unfold fLa_4 at hf
  refine mG_aload_n (pc := 528) C dL_law_528 rfl ?_
  refine mG_aload_n (pc := 529) C dL_law_529 rfl ?_
  refine mG_iload (pc := 530) C dL_law_530 rfl ?_
  refine mG_ic (pc := 532) C dL_law_532 kI1 ?_
  refine mG_iadd (pc := 533) C dL_law_533 ?_
  obtain ⟨v1, e2, hf⟩ := mx_bind hf
  refine mG_iaload (pc := 534) C dL_law_534 e2 ?_
  refine mG_aload_n (pc := 535) C dL_law_535 rfl ?_
  refine mG_iload (pc := 536) C dL_law_536 rfl ?_
  refine mG_ic (pc := 538) C dL_law_538 kI2 ?_
  refine mG_iadd (pc := 539) C dL_law_539 ?_
  obtain ⟨v3, e4, hf⟩ := mx_bind hf
  refine mG_iaload (pc := 540) C dL_law_540 e4 ?_
  refine mG_aload_n (pc := 541) C dL_law_541 rfl ?_
  obtain ⟨o6, e5, hf⟩ := mx_bind hf
  refine mG_cSH (pc := 542) (k' := (k + 2)) (n' := (n + 12)) [.ref p1, .int v1, .int v3, .ref p3] [] C hX dL_law_542 lkH_L_159 rfl (tL_setCosts hl e5) rfl ⟨by show k + 2 ≤ 601024; omega, by show n + 12 ≤ 7293034; omega⟩ rfl rfl rfl ?_
  refine mG_is (ls' := [some (.ref p0), some (.ref p1), some (.ref p2), some (.ref p3), some (.int i), some (.int o6.1), none, none, none]) (pc := 545) C dL_law_545 rfl rfl rfl ?_
  refine mG_aload_n (pc := 547) C dL_law_547 rfl ?_
  refine mG_aload_n (pc := 548) C dL_law_548 rfl ?_
  refine mG_iload (pc := 549) C dL_law_549 rfl ?_
  refine mG_ic (pc := 551) C dL_law_551 kI1 ?_
  refine mG_iadd (pc := 552) C dL_law_552 ?_
  obtain ⟨v7, e8, hf⟩ := mx_bind hf
  refine mG_iaload (pc := 553) C dL_law_553 e8 ?_
  refine mG_aload_n (pc := 554) C dL_law_554 rfl ?_
  refine mG_iload (pc := 555) C dL_law_555 rfl ?_
  refine mG_ic (pc := 557) C dL_law_557 kI2 ?_
  refine mG_iadd (pc := 558) C dL_law_558 ?_
  obtain ⟨v9, e10, hf⟩ := mx_bind hf
  refine mG_iaload (pc := 559) C dL_law_559 e10 ?_
  obtain ⟨u12, e13, hf⟩ := mx_bind hf
  obtain ⟨o14, e11, hf⟩ := mx_bind hf
  refine mG_cV2 (pc := 560) (k' := (k + 2)) (n' := (n + 12)) 10 [.int v7, .int v9] [] C hX dL_law_560 lkV_L_161 rfl rfl e13 (tX10_setCosts hl e11) rfl ⟨by show (k + 2) + 0 ≤ 601024; omega, by show (n + 12) + 0 ≤ 7293034; omega⟩ rfl rfl rfl ?_
  refine mG_is (ls' := [some (.ref p0), some (.ref p1), some (.ref p2), some (.ref p3), some (.int i), some (.int o6.1), some (.int o14.1), none, none]) (pc := 563) C dL_law_563 rfl rfl rfl ?_
  refine mG_aload_n (pc := 565) C dL_law_565 rfl ?_
  obtain ⟨u16, e17, hf⟩ := mx_bind hf
  obtain ⟨v18, e15, hf⟩ := mx_bind hf
  refine mG_cV2 (pc := 566) (k' := (k + 2)) (n' := (n + 12)) 10 [] [] C hX dL_law_566 lkV_L_145 rfl rfl e17 (tX10_thrown hl e15) rfl ⟨by show (k + 2) + 0 ≤ 601024; omega, by show (n + 12) + 0 ≤ 7293034; omega⟩ rfl rfl rfl ?_
  refine mG_iload (pc := 569) C dL_law_569 rfl ?_
  refine mG_icmp_eq (pc := 571) (tgt := 576) C dL_law_571 (by decide) (fun q19 => ?_) (fun q19 => ?_)
  · rw [if_pos q19] at hf
    refine mG_iload (pc := 576) C dL_law_576 rfl ?_
    refine mG_if_ne (pc := 578) (tgt := 593) C dL_law_578 (by decide) (fun q20 => ?_) (fun q20 => ?_)
    · rw [if_neg q20] at hf
      refine mG_goto (tgt := 2934) (pc := 593) C dL_law_593 (by decide) ?_
      refine mG_ii (ls' := [some (.ref p0), some (.ref p1), some (.ref p2), some (.ref p3), some (.int (i + 5)), some (.int o6.1), some (.int o14.1), none, none]) (pc := 2934) C dL_law_2934 rfl (kinc5 _) rfl rfl rfl ?_
      refine mG_goto (tgt := 23) (pc := 2937) C dL_law_2937 (by decide) ?_
      cases hf
      exact mG_sub (mxLe_s (mxLe_s (mxLe_s (mxLe_s (mxLe_s (mxLe_n (mxLe_n (mxLe_n (mxLe_n mxLe_z))))))))) (K _ _ (by omega) (by omega))
    · rw [if_pos q20] at hf
      refine mG_aload_n (pc := 581) C dL_law_581 rfl ?_
      refine mG_ic (pc := 582) C dL_law_582 kI0 ?_
      obtain ⟨r21, e22, hf⟩ := mx_bind hf
      refine mG_laload (pc := 583) C dL_law_583 e22 ?_
      refine mG_iload (pc := 584) C dL_law_584 rfl ?_
      refine mG_i2l (pc := 586) C dL_law_586 ?_
      refine mG_lcmp (pc := 587) C dL_law_587 ?_
      refine mG_if_eq (pc := 588) (tgt := 593) C dL_law_588 (by decide) (fun q23 => ?_) (fun q23 => ?_)
      · rw [if_pos q23] at hf
        refine mG_goto (tgt := 2934) (pc := 593) C dL_law_593 (by decide) ?_
        refine mG_ii (ls' := [some (.ref p0), some (.ref p1), some (.ref p2), some (.ref p3), some (.int (i + 5)), some (.int o6.1), some (.int o14.1), none, none]) (pc := 2934) C dL_law_2934 rfl (kinc5 _) rfl rfl rfl ?_
        refine mG_goto (tgt := 23) (pc := 2937) C dL_law_2937 (by decide) ?_
        cases hf
        exact mG_sub (mxLe_s (mxLe_s (mxLe_s (mxLe_s (mxLe_s (mxLe_n (mxLe_n (mxLe_n (mxLe_n mxLe_z))))))))) (K _ _ (by omega) (by omega))
      · rw [if_neg q23] at hf
        cases hf
  · rw [if_neg q19] at hf
    cases hf
theorem dL_law_596 : decode cL_law 596 = .ok (.aload_n 1, 1) := by decide +kernel
theorem dL_law_597 : decode cL_law 597 = .ok (.aload_n 0, 1) := by decide +kernel
theorem dL_law_598 : decode cL_law 598 = .ok (.iload 4, 2) := by decide +kernel
theorem dL_law_600 : decode cL_law 600 = .ok (.iconst 1, 1) := by decide +kernel
theorem dL_law_601 : decode cL_law 601 = .ok (.iadd, 1) := by decide +kernel
theorem dL_law_602 : decode cL_law 602 = .ok (.iaload, 1) := by decide +kernel
theorem dL_law_603 : decode cL_law 603 = .ok (.aload_n 0, 1) := by decide +kernel
theorem dL_law_604 : decode cL_law 604 = .ok (.iload 4, 2) := by decide +kernel
theorem dL_law_606 : decode cL_law 606 = .ok (.iconst 2, 1) := by decide +kernel
theorem dL_law_607 : decode cL_law 607 = .ok (.iadd, 1) := by decide +kernel
theorem dL_law_608 : decode cL_law 608 = .ok (.iaload, 1) := by decide +kernel
theorem dL_law_609 : decode cL_law 609 = .ok (.aload_n 3, 1) := by decide +kernel
theorem dL_law_610 : decode cL_law 610 = .ok (.invokestatic 162, 3) := by decide +kernel
theorem dL_law_613 : decode cL_law 613 = .ok (.istore 5, 2) := by decide +kernel
theorem dL_law_615 : decode cL_law 615 = .ok (.aload_n 2, 1) := by decide +kernel
theorem dL_law_616 : decode cL_law 616 = .ok (.aload_n 0, 1) := by decide +kernel
theorem dL_law_617 : decode cL_law 617 = .ok (.iload 4, 2) := by decide +kernel
theorem dL_law_619 : decode cL_law 619 = .ok (.iconst 1, 1) := by decide +kernel
theorem dL_law_620 : decode cL_law 620 = .ok (.iadd, 1) := by decide +kernel
theorem dL_law_621 : decode cL_law 621 = .ok (.iaload, 1) := by decide +kernel
theorem dL_law_622 : decode cL_law 622 = .ok (.aload_n 0, 1) := by decide +kernel
theorem dL_law_623 : decode cL_law 623 = .ok (.iload 4, 2) := by decide +kernel
theorem dL_law_625 : decode cL_law 625 = .ok (.iconst 2, 1) := by decide +kernel
theorem dL_law_626 : decode cL_law 626 = .ok (.iadd, 1) := by decide +kernel
theorem dL_law_627 : decode cL_law 627 = .ok (.iaload, 1) := by decide +kernel
theorem dL_law_628 : decode cL_law 628 = .ok (.invokevirtual 164, 3) := by decide +kernel
theorem dL_law_631 : decode cL_law 631 = .ok (.istore 6, 2) := by decide +kernel
theorem dL_law_633 : decode cL_law 633 = .ok (.aload_n 2, 1) := by decide +kernel
theorem dL_law_634 : decode cL_law 634 = .ok (.invokevirtual 145, 3) := by decide +kernel
theorem dL_law_637 : decode cL_law 637 = .ok (.iload 5, 2) := by decide +kernel
theorem dL_law_639 : decode cL_law 639 = .ok (.if_icmp .eq 5, 3) := by decide +kernel
theorem dL_law_642 : decode cL_law 642 = .ok (.iconst 0, 1) := by decide +kernel
theorem dL_law_643 : decode cL_law 643 = .ok (.ireturn, 1) := by decide +kernel
theorem dL_law_644 : decode cL_law 644 = .ok (.iload 5, 2) := by decide +kernel
theorem dL_law_646 : decode cL_law 646 = .ok (.ifCond .ne 15, 3) := by decide +kernel
theorem dL_law_649 : decode cL_law 649 = .ok (.aload_n 3, 1) := by decide +kernel
theorem dL_law_650 : decode cL_law 650 = .ok (.iconst 0, 1) := by decide +kernel
theorem dL_law_651 : decode cL_law 651 = .ok (.laload, 1) := by decide +kernel
theorem dL_law_652 : decode cL_law 652 = .ok (.iload 6, 2) := by decide +kernel
theorem dL_law_654 : decode cL_law 654 = .ok (.i2l, 1) := by decide +kernel
theorem dL_law_655 : decode cL_law 655 = .ok (.lcmp, 1) := by decide +kernel
theorem dL_law_656 : decode cL_law 656 = .ok (.ifCond .eq 5, 3) := by decide +kernel
theorem dL_law_659 : decode cL_law 659 = .ok (.iconst 0, 1) := by decide +kernel
theorem dL_law_660 : decode cL_law 660 = .ok (.ireturn, 1) := by decide +kernel
theorem dL_law_661 : decode cL_law 661 = .ok (.goto 2273, 3) := by decide +kernel
def fLa_5 (p0 p1 p2 p3 : Nat) (i : Int32) (h : mxH) : Option (Int32 × mxH) := Option.bind (ldI h p0 (i + 1)) (fun v1 => Option.bind (ldI h p0 (i + 2)) (fun v3 => Option.bind (fL_setWindow p1 v1 v3 p3 h) (fun o6 => Option.bind (ldI o6.2 p0 (i + 1)) (fun v7 => Option.bind (ldI o6.2 p0 (i + 2)) (fun v9 => Option.bind (isO o6.2 p2 10) (fun u12 => Option.bind (fX10_setWindow p2 v7 v9 o6.2) (fun o14 => Option.bind (isO o14.2 p2 10) (fun u16 => Option.bind (fX10_thrown p2 o14.2) (fun v18 => (if v18 = o6.1 then (if o6.1 = 0 then Option.bind (ldJ o14.2 p3 0) (fun r21 => (if (lg_cmp r21 o14.1.toInt64) = 0 then some (i + 5, o14.2) else none)) else some (i + 5, o14.2)) else none))))))))))
set_option maxRecDepth 20000 in
theorem tLa_5 {l : Launch} {Z : mxZ} {X : mxX} (hl : l.stackTraces = false) (C : mxC l Z X RL cL_law 9) (hX : mxRm X = room_1) {p0 p1 p2 p3 : Nat} {i : Int32} {h : mxH} {o : Int32 × mxH} (hf : fLa_5 p0 p1 p2 p3 i h = some o) {k n : Nat} (hk : k + 8 ≤ 601024) (hn : n + 40 ≤ 7293034) (K : ∀ k2 n2, k2 ≤ k + 8 → n2 ≤ n + 40 → mG l Z X 9 k2 n2 23 [some (.ref p0), some (.ref p1), some (.ref p2), some (.ref p3), some (.int o.1), none, none, none, none] [] o.2) : mG l Z X 9 k n 596 [some (.ref p0), some (.ref p1), some (.ref p2), some (.ref p3), some (.int i), none, none, none, none] [] h := by
  unfold fLa_5 at hf
  refine mG_aload_n (pc := 596) C dL_law_596 rfl ?_
  refine mG_aload_n (pc := 597) C dL_law_597 rfl ?_
  refine mG_iload (pc := 598) C dL_law_598 rfl ?_
  refine mG_ic (pc := 600) C dL_law_600 kI1 ?_
  refine mG_iadd (pc := 601) C dL_law_601 ?_
  obtain ⟨v1, e2, hf⟩ := mx_bind hf
  refine mG_iaload (pc := 602) C dL_law_602 e2 ?_
  refine mG_aload_n (pc := 603) C dL_law_603 rfl ?_
  refine mG_iload (pc := 604) C dL_law_604 rfl ?_
  refine mG_ic (pc := 606) C dL_law_606 kI2 ?_
  refine mG_iadd (pc := 607) C dL_law_607 ?_
  obtain ⟨v3, e4, hf⟩ := mx_bind hf
  refine mG_iaload (pc := 608) C dL_law_608 e4 ?_
  refine mG_aload_n (pc := 609) C dL_law_609 rfl ?_
  obtain ⟨o6, e5, hf⟩ := mx_bind hf
  refine mG_cSH (pc := 610) (k' := (k + 2)) (n' := (n + 12)) [.ref p1, .int v1, .int v3, .ref p3] [] C hX dL_law_610 lkH_L_162 rfl (tL_setWindow hl e5) rfl ⟨by show k + 2 ≤ 601024; omega, by show n + 12 ≤ 7293034; omega⟩ rfl rfl rfl ?_
  refine mG_is (ls' := [some (.ref p0), some (.ref p1), some (.ref p2), some (.ref p3), some (.int i), some (.int o6.1), none, none, none]) (pc := 613) C dL_law_613 rfl rfl rfl ?_
  refine mG_aload_n (pc := 615) C dL_law_615 rfl ?_
  refine mG_aload_n (pc := 616) C dL_law_616 rfl ?_
  refine mG_iload (pc := 617) C dL_law_617 rfl ?_
  refine mG_ic (pc := 619) C dL_law_619 kI1 ?_
  refine mG_iadd (pc := 620) C dL_law_620 ?_
  obtain ⟨v7, e8, hf⟩ := mx_bind hf
  refine mG_iaload (pc := 621) C dL_law_621 e8 ?_
  refine mG_aload_n (pc := 622) C dL_law_622 rfl ?_
  refine mG_iload (pc := 623) C dL_law_623 rfl ?_
  refine mG_ic (pc := 625) C dL_law_625 kI2 ?_
  refine mG_iadd (pc := 626) C dL_law_626 ?_
  obtain ⟨v9, e10, hf⟩ := mx_bind hf
  refine mG_iaload (pc := 627) C dL_law_627 e10 ?_
  obtain ⟨u12, e13, hf⟩ := mx_bind hf
  obtain ⟨o14, e11, hf⟩ := mx_bind hf
  refine mG_cV2 (pc := 628) (k' := (k + 2)) (n' := (n + 12)) 10 [.int v7, .int v9] [] C hX dL_law_628 lkV_L_164 rfl rfl e13 (tX10_setWindow hl e11) rfl ⟨by show (k + 2) + 0 ≤ 601024; omega, by show (n + 12) + 0 ≤ 7293034; omega⟩ rfl rfl rfl ?_
  refine mG_is (ls' := [some (.ref p0), some (.ref p1), some (.ref p2), some (.ref p3), some (.int i), some (.int o6.1), some (.int o14.1), none, none]) (pc := 631) C dL_law_631 rfl rfl rfl ?_
  refine mG_aload_n (pc := 633) C dL_law_633 rfl ?_
  obtain ⟨u16, e17, hf⟩ := mx_bind hf
  obtain ⟨v18, e15, hf⟩ := mx_bind hf
  refine mG_cV2 (pc := 634) (k' := (k + 2)) (n' := (n + 12)) 10 [] [] C hX dL_law_634 lkV_L_145 rfl rfl e17 (tX10_thrown hl e15) rfl ⟨by show (k + 2) + 0 ≤ 601024; omega, by show (n + 12) + 0 ≤ 7293034; omega⟩ rfl rfl rfl ?_
  refine mG_iload (pc := 637) C dL_law_637 rfl ?_
  refine mG_icmp_eq (pc := 639) (tgt := 644) C dL_law_639 (by decide) (fun q19 => ?_) (fun q19 => ?_)
  · rw [if_pos q19] at hf
    refine mG_iload (pc := 644) C dL_law_644 rfl ?_
    refine mG_if_ne (pc := 646) (tgt := 661) C dL_law_646 (by decide) (fun q20 => ?_) (fun q20 => ?_)
    · rw [if_neg q20] at hf
      refine mG_goto (tgt := 2934) (pc := 661) C dL_law_661 (by decide) ?_
      refine mG_ii (ls' := [some (.ref p0), some (.ref p1), some (.ref p2), some (.ref p3), some (.int (i + 5)), some (.int o6.1), some (.int o14.1), none, none]) (pc := 2934) C dL_law_2934 rfl (kinc5 _) rfl rfl rfl ?_
      refine mG_goto (tgt := 23) (pc := 2937) C dL_law_2937 (by decide) ?_
      cases hf
      exact mG_sub (mxLe_s (mxLe_s (mxLe_s (mxLe_s (mxLe_s (mxLe_n (mxLe_n (mxLe_n (mxLe_n mxLe_z))))))))) (K _ _ (by omega) (by omega))
    · rw [if_pos q20] at hf
      refine mG_aload_n (pc := 649) C dL_law_649 rfl ?_
      refine mG_ic (pc := 650) C dL_law_650 kI0 ?_
      obtain ⟨r21, e22, hf⟩ := mx_bind hf
      refine mG_laload (pc := 651) C dL_law_651 e22 ?_
      refine mG_iload (pc := 652) C dL_law_652 rfl ?_
      refine mG_i2l (pc := 654) C dL_law_654 ?_
      refine mG_lcmp (pc := 655) C dL_law_655 ?_
      refine mG_if_eq (pc := 656) (tgt := 661) C dL_law_656 (by decide) (fun q23 => ?_) (fun q23 => ?_)
      · rw [if_pos q23] at hf
        refine mG_goto (tgt := 2934) (pc := 661) C dL_law_661 (by decide) ?_
        refine mG_ii (ls' := [some (.ref p0), some (.ref p1), some (.ref p2), some (.ref p3), some (.int (i + 5)), some (.int o6.1), some (.int o14.1), none, none]) (pc := 2934) C dL_law_2934 rfl (kinc5 _) rfl rfl rfl ?_
        refine mG_goto (tgt := 23) (pc := 2937) C dL_law_2937 (by decide) ?_
        cases hf
        exact mG_sub (mxLe_s (mxLe_s (mxLe_s (mxLe_s (mxLe_s (mxLe_n (mxLe_n (mxLe_n (mxLe_n mxLe_z))))))))) (K _ _ (by omega) (by omega))
      · rw [if_neg q23] at hf
        cases hf
  · rw [if_neg q19] at hf
    cases hf
theorem dL_law_664 : decode cL_law 664 = .ok (.aload_n 1, 1) := by decide +kernel
theorem dL_law_665 : decode cL_law 665 = .ok (.aload_n 0, 1) := by decide +kernel
theorem dL_law_666 : decode cL_law 666 = .ok (.iload 4, 2) := by decide +kernel
theorem dL_law_668 : decode cL_law 668 = .ok (.iconst 1, 1) := by decide +kernel
theorem dL_law_669 : decode cL_law 669 = .ok (.iadd, 1) := by decide +kernel
theorem dL_law_670 : decode cL_law 670 = .ok (.iaload, 1) := by decide +kernel
theorem dL_law_671 : decode cL_law 671 = .ok (.aload_n 3, 1) := by decide +kernel
theorem dL_law_672 : decode cL_law 672 = .ok (.invokestatic 165, 3) := by decide +kernel
theorem dL_law_675 : decode cL_law 675 = .ok (.istore 5, 2) := by decide +kernel
theorem dL_law_677 : decode cL_law 677 = .ok (.aload_n 2, 1) := by decide +kernel
theorem dL_law_678 : decode cL_law 678 = .ok (.aload_n 0, 1) := by decide +kernel
theorem dL_law_679 : decode cL_law 679 = .ok (.iload 4, 2) := by decide +kernel
theorem dL_law_681 : decode cL_law 681 = .ok (.iconst 1, 1) := by decide +kernel
theorem dL_law_682 : decode cL_law 682 = .ok (.iadd, 1) := by decide +kernel
theorem dL_law_683 : decode cL_law 683 = .ok (.iaload, 1) := by decide +kernel
theorem dL_law_684 : decode cL_law 684 = .ok (.invokevirtual 167, 3) := by decide +kernel
theorem dL_law_687 : decode cL_law 687 = .ok (.istore 6, 2) := by decide +kernel
theorem dL_law_689 : decode cL_law 689 = .ok (.aload_n 2, 1) := by decide +kernel
theorem dL_law_690 : decode cL_law 690 = .ok (.invokevirtual 145, 3) := by decide +kernel
theorem dL_law_693 : decode cL_law 693 = .ok (.iload 5, 2) := by decide +kernel
theorem dL_law_695 : decode cL_law 695 = .ok (.if_icmp .eq 5, 3) := by decide +kernel
theorem dL_law_698 : decode cL_law 698 = .ok (.iconst 0, 1) := by decide +kernel
theorem dL_law_699 : decode cL_law 699 = .ok (.ireturn, 1) := by decide +kernel
theorem dL_law_700 : decode cL_law 700 = .ok (.iload 5, 2) := by decide +kernel
theorem dL_law_702 : decode cL_law 702 = .ok (.ifCond .ne 15, 3) := by decide +kernel
theorem dL_law_705 : decode cL_law 705 = .ok (.aload_n 3, 1) := by decide +kernel
theorem dL_law_706 : decode cL_law 706 = .ok (.iconst 0, 1) := by decide +kernel
theorem dL_law_707 : decode cL_law 707 = .ok (.laload, 1) := by decide +kernel
theorem dL_law_708 : decode cL_law 708 = .ok (.iload 6, 2) := by decide +kernel
theorem dL_law_710 : decode cL_law 710 = .ok (.i2l, 1) := by decide +kernel
theorem dL_law_711 : decode cL_law 711 = .ok (.lcmp, 1) := by decide +kernel
theorem dL_law_712 : decode cL_law 712 = .ok (.ifCond .eq 5, 3) := by decide +kernel
theorem dL_law_715 : decode cL_law 715 = .ok (.iconst 0, 1) := by decide +kernel
theorem dL_law_716 : decode cL_law 716 = .ok (.ireturn, 1) := by decide +kernel
theorem dL_law_717 : decode cL_law 717 = .ok (.goto 2217, 3) := by decide +kernel
def fLa_6 (p0 p1 p2 p3 : Nat) (i : Int32) (h : mxH) : Option (Int32 × mxH) := Option.bind (ldI h p0 (i + 1)) (fun v1 => Option.bind (fL_push p1 v1 p3 h) (fun o4 => Option.bind (ldI o4.2 p0 (i + 1)) (fun v5 => Option.bind (isO o4.2 p2 10) (fun u8 => Option.bind (fX10_push p2 v5 o4.2) (fun o10 => Option.bind (isO o10.2 p2 10) (fun u12 => Option.bind (fX10_thrown p2 o10.2) (fun v14 => (if v14 = o4.1 then (if o4.1 = 0 then Option.bind (ldJ o10.2 p3 0) (fun r17 => (if (lg_cmp r17 o10.1.toInt64) = 0 then some (i + 5, o10.2) else none)) else some (i + 5, o10.2)) else none))))))))
set_option maxRecDepth 20000 in
theorem tLa_6 {l : Launch} {Z : mxZ} {X : mxX} (hl : l.stackTraces = false) (C : mxC l Z X RL cL_law 9) (hX : mxRm X = room_1) {p0 p1 p2 p3 : Nat} {i : Int32} {h : mxH} {o : Int32 × mxH} (hf : fLa_6 p0 p1 p2 p3 i h = some o) {k n : Nat} (hk : k + 8 ≤ 601024) (hn : n + 40 ≤ 7293034) (K : ∀ k2 n2, k2 ≤ k + 8 → n2 ≤ n + 40 → mG l Z X 9 k2 n2 23 [some (.ref p0), some (.ref p1), some (.ref p2), some (.ref p3), some (.int o.1), none, none, none, none] [] o.2) : mG l Z X 9 k n 664 [some (.ref p0), some (.ref p1), some (.ref p2), some (.ref p3), some (.int i), none, none, none, none] [] h := by
  unfold fLa_6 at hf
  refine mG_aload_n (pc := 664) C dL_law_664 rfl ?_
  refine mG_aload_n (pc := 665) C dL_law_665 rfl ?_
  refine mG_iload (pc := 666) C dL_law_666 rfl ?_
  refine mG_ic (pc := 668) C dL_law_668 kI1 ?_
  refine mG_iadd (pc := 669) C dL_law_669 ?_
  obtain ⟨v1, e2, hf⟩ := mx_bind hf
  refine mG_iaload (pc := 670) C dL_law_670 e2 ?_
  refine mG_aload_n (pc := 671) C dL_law_671 rfl ?_
  obtain ⟨o4, e3, hf⟩ := mx_bind hf
  refine mG_cSH (pc := 672) (k' := (k + 1)) (n' := (n + 6)) [.ref p1, .int v1, .ref p3] [] C hX dL_law_672 lkH_L_165 rfl (tL_push hl e3) rfl ⟨by show k + 1 ≤ 601024; omega, by show n + 6 ≤ 7293034; omega⟩ rfl rfl rfl ?_
  refine mG_is (ls' := [some (.ref p0), some (.ref p1), some (.ref p2), some (.ref p3), some (.int i), some (.int o4.1), none, none, none]) (pc := 675) C dL_law_675 rfl rfl rfl ?_
  refine mG_aload_n (pc := 677) C dL_law_677 rfl ?_
  refine mG_aload_n (pc := 678) C dL_law_678 rfl ?_
  refine mG_iload (pc := 679) C dL_law_679 rfl ?_
  refine mG_ic (pc := 681) C dL_law_681 kI1 ?_
  refine mG_iadd (pc := 682) C dL_law_682 ?_
  obtain ⟨v5, e6, hf⟩ := mx_bind hf
  refine mG_iaload (pc := 683) C dL_law_683 e6 ?_
  obtain ⟨u8, e9, hf⟩ := mx_bind hf
  obtain ⟨o10, e7, hf⟩ := mx_bind hf
  refine mG_cV2 (pc := 684) (k' := (k + 1)) (n' := (n + 6)) 10 [.int v5] [] C hX dL_law_684 lkV_L_167 rfl rfl e9 (tX10_push hl e7) rfl ⟨by show (k + 1) + 0 ≤ 601024; omega, by show (n + 6) + 0 ≤ 7293034; omega⟩ rfl rfl rfl ?_
  refine mG_is (ls' := [some (.ref p0), some (.ref p1), some (.ref p2), some (.ref p3), some (.int i), some (.int o4.1), some (.int o10.1), none, none]) (pc := 687) C dL_law_687 rfl rfl rfl ?_
  refine mG_aload_n (pc := 689) C dL_law_689 rfl ?_
  obtain ⟨u12, e13, hf⟩ := mx_bind hf
  obtain ⟨v14, e11, hf⟩ := mx_bind hf
  refine mG_cV2 (pc := 690) (k' := (k + 1)) (n' := (n + 6)) 10 [] [] C hX dL_law_690 lkV_L_145 rfl rfl e13 (tX10_thrown hl e11) rfl ⟨by show (k + 1) + 0 ≤ 601024; omega, by show (n + 6) + 0 ≤ 7293034; omega⟩ rfl rfl rfl ?_
  refine mG_iload (pc := 693) C dL_law_693 rfl ?_
  refine mG_icmp_eq (pc := 695) (tgt := 700) C dL_law_695 (by decide) (fun q15 => ?_) (fun q15 => ?_)
  · rw [if_pos q15] at hf
    refine mG_iload (pc := 700) C dL_law_700 rfl ?_
    refine mG_if_ne (pc := 702) (tgt := 717) C dL_law_702 (by decide) (fun q16 => ?_) (fun q16 => ?_)
    · rw [if_neg q16] at hf
      refine mG_goto (tgt := 2934) (pc := 717) C dL_law_717 (by decide) ?_
      refine mG_ii (ls' := [some (.ref p0), some (.ref p1), some (.ref p2), some (.ref p3), some (.int (i + 5)), some (.int o4.1), some (.int o10.1), none, none]) (pc := 2934) C dL_law_2934 rfl (kinc5 _) rfl rfl rfl ?_
      refine mG_goto (tgt := 23) (pc := 2937) C dL_law_2937 (by decide) ?_
      cases hf
      exact mG_sub (mxLe_s (mxLe_s (mxLe_s (mxLe_s (mxLe_s (mxLe_n (mxLe_n (mxLe_n (mxLe_n mxLe_z))))))))) (K _ _ (by omega) (by omega))
    · rw [if_pos q16] at hf
      refine mG_aload_n (pc := 705) C dL_law_705 rfl ?_
      refine mG_ic (pc := 706) C dL_law_706 kI0 ?_
      obtain ⟨r17, e18, hf⟩ := mx_bind hf
      refine mG_laload (pc := 707) C dL_law_707 e18 ?_
      refine mG_iload (pc := 708) C dL_law_708 rfl ?_
      refine mG_i2l (pc := 710) C dL_law_710 ?_
      refine mG_lcmp (pc := 711) C dL_law_711 ?_
      refine mG_if_eq (pc := 712) (tgt := 717) C dL_law_712 (by decide) (fun q19 => ?_) (fun q19 => ?_)
      · rw [if_pos q19] at hf
        refine mG_goto (tgt := 2934) (pc := 717) C dL_law_717 (by decide) ?_
        refine mG_ii (ls' := [some (.ref p0), some (.ref p1), some (.ref p2), some (.ref p3), some (.int (i + 5)), some (.int o4.1), some (.int o10.1), none, none]) (pc := 2934) C dL_law_2934 rfl (kinc5 _) rfl rfl rfl ?_
        refine mG_goto (tgt := 23) (pc := 2937) C dL_law_2937 (by decide) ?_
        cases hf
        exact mG_sub (mxLe_s (mxLe_s (mxLe_s (mxLe_s (mxLe_s (mxLe_n (mxLe_n (mxLe_n (mxLe_n mxLe_z))))))))) (K _ _ (by omega) (by omega))
      · rw [if_neg q19] at hf
        cases hf
  · rw [if_neg q15] at hf
    cases hf
theorem dL_law_720 : decode cL_law 720 = .ok (.aload_n 1, 1) := by decide +kernel
theorem dL_law_721 : decode cL_law 721 = .ok (.invokevirtual 168, 3) := by decide +kernel
theorem dL_law_724 : decode cL_law 724 = .ok (.aload_n 2, 1) := by decide +kernel
theorem dL_law_725 : decode cL_law 725 = .ok (.invokevirtual 171, 3) := by decide +kernel
theorem dL_law_728 : decode cL_law 728 = .ok (.if_icmp .eq 2206, 3) := by decide +kernel
theorem dL_law_731 : decode cL_law 731 = .ok (.iconst 0, 1) := by decide +kernel
theorem dL_law_732 : decode cL_law 732 = .ok (.ireturn, 1) := by decide +kernel
def fLa_7 (p0 p1 p2 p3 : Nat) (i : Int32) (h : mxH) : Option (Int32 × mxH) := Option.bind (isO h p1 9) (fun u2 => Option.bind (fX9_undo p1 h) (fun o4 => Option.bind (isO o4.2 p2 10) (fun u6 => Option.bind (fX10_undo p2 o4.2) (fun o8 => (if o4.1 = o8.1 then some (i + 5, o8.2) else none)))))
set_option maxRecDepth 20000 in
theorem tLa_7 {l : Launch} {Z : mxZ} {X : mxX} (hl : l.stackTraces = false) (C : mxC l Z X RL cL_law 9) (hX : mxRm X = room_1) {p0 p1 p2 p3 : Nat} {i : Int32} {h : mxH} {o : Int32 × mxH} (hf : fLa_7 p0 p1 p2 p3 i h = some o) {k n : Nat} (hk : k + 8 ≤ 601024) (hn : n + 40 ≤ 7293034) (K : ∀ k2 n2, k2 ≤ k + 8 → n2 ≤ n + 40 → mG l Z X 9 k2 n2 23 [some (.ref p0), some (.ref p1), some (.ref p2), some (.ref p3), some (.int o.1), none, none, none, none] [] o.2) : mG l Z X 9 k n 720 [some (.ref p0), some (.ref p1), some (.ref p2), some (.ref p3), some (.int i), none, none, none, none] [] h := by
  unfold fLa_7 at hf
  refine mG_aload_n (pc := 720) C dL_law_720 rfl ?_
  obtain ⟨u2, e3, hf⟩ := mx_bind hf
  obtain ⟨o4, e1, hf⟩ := mx_bind hf
  refine mG_cV2 (pc := 721) (k' := k) (n' := n) 9 [] [] C hX dL_law_721 lkV_L_168 rfl rfl e3 (tX9_undo hl e1) rfl ⟨by show k + 0 ≤ 601024; omega, by show n + 0 ≤ 7293034; omega⟩ rfl rfl rfl ?_
  refine mG_aload_n (pc := 724) C dL_law_724 rfl ?_
  obtain ⟨u6, e7, hf⟩ := mx_bind hf
  obtain ⟨o8, e5, hf⟩ := mx_bind hf
  refine mG_cV2 (pc := 725) (k' := k) (n' := n) 10 [] [.int o4.1] C hX dL_law_725 lkV_L_171 rfl rfl e7 (tX10_undo hl e5) rfl ⟨by show k + 0 ≤ 601024; omega, by show n + 0 ≤ 7293034; omega⟩ rfl rfl rfl ?_
  refine mG_icmp_eq (pc := 728) (tgt := 2934) C dL_law_728 (by decide) (fun q9 => ?_) (fun q9 => ?_)
  · rw [if_pos q9] at hf
    refine mG_ii (ls' := [some (.ref p0), some (.ref p1), some (.ref p2), some (.ref p3), some (.int (i + 5)), none, none, none, none]) (pc := 2934) C dL_law_2934 rfl (kinc5 _) rfl rfl rfl ?_
    refine mG_goto (tgt := 23) (pc := 2937) C dL_law_2937 (by decide) ?_
    cases hf
    exact mG_sub (mxLe_s (mxLe_s (mxLe_s (mxLe_s (mxLe_s (mxLe_n (mxLe_n (mxLe_n (mxLe_n mxLe_z))))))))) (K _ _ (by omega) (by omega))
  · rw [if_neg q9] at hf
    cases hf
theorem dL_law_733 : decode cL_law 733 = .ok (.aload_n 1, 1) := by decide +kernel
theorem dL_law_734 : decode cL_law 734 = .ok (.aload_n 0, 1) := by decide +kernel
theorem dL_law_735 : decode cL_law 735 = .ok (.iload 4, 2) := by decide +kernel
theorem dL_law_737 : decode cL_law 737 = .ok (.iconst 1, 1) := by decide +kernel
theorem dL_law_738 : decode cL_law 738 = .ok (.iadd, 1) := by decide +kernel
theorem dL_law_739 : decode cL_law 739 = .ok (.iaload, 1) := by decide +kernel
theorem dL_law_740 : decode cL_law 740 = .ok (.aload_n 3, 1) := by decide +kernel
theorem dL_law_741 : decode cL_law 741 = .ok (.invokestatic 172, 3) := by decide +kernel
theorem dL_law_744 : decode cL_law 744 = .ok (.istore 5, 2) := by decide +kernel
theorem dL_law_746 : decode cL_law 746 = .ok (.aload_n 2, 1) := by decide +kernel
theorem dL_law_747 : decode cL_law 747 = .ok (.aload_n 0, 1) := by decide +kernel
theorem dL_law_748 : decode cL_law 748 = .ok (.iload 4, 2) := by decide +kernel
theorem dL_law_750 : decode cL_law 750 = .ok (.iconst 1, 1) := by decide +kernel
theorem dL_law_751 : decode cL_law 751 = .ok (.iadd, 1) := by decide +kernel
theorem dL_law_752 : decode cL_law 752 = .ok (.iaload, 1) := by decide +kernel
theorem dL_law_753 : decode cL_law 753 = .ok (.invokevirtual 174, 3) := by decide +kernel
theorem dL_law_756 : decode cL_law 756 = .ok (.istore 6, 2) := by decide +kernel
theorem dL_law_758 : decode cL_law 758 = .ok (.aload_n 2, 1) := by decide +kernel
theorem dL_law_759 : decode cL_law 759 = .ok (.invokevirtual 145, 3) := by decide +kernel
theorem dL_law_762 : decode cL_law 762 = .ok (.iload 5, 2) := by decide +kernel
theorem dL_law_764 : decode cL_law 764 = .ok (.if_icmp .eq 5, 3) := by decide +kernel
theorem dL_law_767 : decode cL_law 767 = .ok (.iconst 0, 1) := by decide +kernel
theorem dL_law_768 : decode cL_law 768 = .ok (.ireturn, 1) := by decide +kernel
theorem dL_law_769 : decode cL_law 769 = .ok (.iload 5, 2) := by decide +kernel
theorem dL_law_771 : decode cL_law 771 = .ok (.ifCond .ne 15, 3) := by decide +kernel
theorem dL_law_774 : decode cL_law 774 = .ok (.aload_n 3, 1) := by decide +kernel
theorem dL_law_775 : decode cL_law 775 = .ok (.iconst 0, 1) := by decide +kernel
theorem dL_law_776 : decode cL_law 776 = .ok (.laload, 1) := by decide +kernel
theorem dL_law_777 : decode cL_law 777 = .ok (.iload 6, 2) := by decide +kernel
theorem dL_law_779 : decode cL_law 779 = .ok (.i2l, 1) := by decide +kernel
theorem dL_law_780 : decode cL_law 780 = .ok (.lcmp, 1) := by decide +kernel
theorem dL_law_781 : decode cL_law 781 = .ok (.ifCond .eq 5, 3) := by decide +kernel
theorem dL_law_784 : decode cL_law 784 = .ok (.iconst 0, 1) := by decide +kernel
theorem dL_law_785 : decode cL_law 785 = .ok (.ireturn, 1) := by decide +kernel
theorem dL_law_786 : decode cL_law 786 = .ok (.goto 2148, 3) := by decide +kernel
def fLa_8 (p0 p1 p2 p3 : Nat) (i : Int32) (h : mxH) : Option (Int32 × mxH) := Option.bind (ldI h p0 (i + 1)) (fun v1 => Option.bind (fL_itemCount p1 v1 p3 h) (fun o4 => Option.bind (ldI o4.2 p0 (i + 1)) (fun v5 => Option.bind (isO o4.2 p2 10) (fun u8 => Option.bind (fX10_itemCount p2 v5 o4.2) (fun o10 => Option.bind (isO o10.2 p2 10) (fun u12 => Option.bind (fX10_thrown p2 o10.2) (fun v14 => (if v14 = o4.1 then (if o4.1 = 0 then Option.bind (ldJ o10.2 p3 0) (fun r17 => (if (lg_cmp r17 o10.1.toInt64) = 0 then some (i + 5, o10.2) else none)) else some (i + 5, o10.2)) else none))))))))
set_option maxRecDepth 20000 in
theorem tLa_8 {l : Launch} {Z : mxZ} {X : mxX} (hl : l.stackTraces = false) (C : mxC l Z X RL cL_law 9) (hX : mxRm X = room_1) {p0 p1 p2 p3 : Nat} {i : Int32} {h : mxH} {o : Int32 × mxH} (hf : fLa_8 p0 p1 p2 p3 i h = some o) {k n : Nat} (hk : k + 8 ≤ 601024) (hn : n + 40 ≤ 7293034) (K : ∀ k2 n2, k2 ≤ k + 8 → n2 ≤ n + 40 → mG l Z X 9 k2 n2 23 [some (.ref p0), some (.ref p1), some (.ref p2), some (.ref p3), some (.int o.1), none, none, none, none] [] o.2) : mG l Z X 9 k n 733 [some (.ref p0), some (.ref p1), some (.ref p2), some (.ref p3), some (.int i), none, none, none, none] [] h := by
  unfold fLa_8 at hf
  refine mG_aload_n (pc := 733) C dL_law_733 rfl ?_
  refine mG_aload_n (pc := 734) C dL_law_734 rfl ?_
  refine mG_iload (pc := 735) C dL_law_735 rfl ?_
  refine mG_ic (pc := 737) C dL_law_737 kI1 ?_
  refine mG_iadd (pc := 738) C dL_law_738 ?_
  obtain ⟨v1, e2, hf⟩ := mx_bind hf
  refine mG_iaload (pc := 739) C dL_law_739 e2 ?_
  refine mG_aload_n (pc := 740) C dL_law_740 rfl ?_
  obtain ⟨o4, e3, hf⟩ := mx_bind hf
  refine mG_cSH (pc := 741) (k' := (k + 1)) (n' := (n + 6)) [.ref p1, .int v1, .ref p3] [] C hX dL_law_741 lkH_L_172 rfl (tL_itemCount hl e3) rfl ⟨by show k + 1 ≤ 601024; omega, by show n + 6 ≤ 7293034; omega⟩ rfl rfl rfl ?_
  refine mG_is (ls' := [some (.ref p0), some (.ref p1), some (.ref p2), some (.ref p3), some (.int i), some (.int o4.1), none, none, none]) (pc := 744) C dL_law_744 rfl rfl rfl ?_
  refine mG_aload_n (pc := 746) C dL_law_746 rfl ?_
  refine mG_aload_n (pc := 747) C dL_law_747 rfl ?_
  refine mG_iload (pc := 748) C dL_law_748 rfl ?_
  refine mG_ic (pc := 750) C dL_law_750 kI1 ?_
  refine mG_iadd (pc := 751) C dL_law_751 ?_
  obtain ⟨v5, e6, hf⟩ := mx_bind hf
  refine mG_iaload (pc := 752) C dL_law_752 e6 ?_
  obtain ⟨u8, e9, hf⟩ := mx_bind hf
  obtain ⟨o10, e7, hf⟩ := mx_bind hf
  refine mG_cV2 (pc := 753) (k' := (k + 1)) (n' := (n + 6)) 10 [.int v5] [] C hX dL_law_753 lkV_L_174 rfl rfl e9 (tX10_itemCount hl e7) rfl ⟨by show (k + 1) + 0 ≤ 601024; omega, by show (n + 6) + 0 ≤ 7293034; omega⟩ rfl rfl rfl ?_
  refine mG_is (ls' := [some (.ref p0), some (.ref p1), some (.ref p2), some (.ref p3), some (.int i), some (.int o4.1), some (.int o10.1), none, none]) (pc := 756) C dL_law_756 rfl rfl rfl ?_
  refine mG_aload_n (pc := 758) C dL_law_758 rfl ?_
  obtain ⟨u12, e13, hf⟩ := mx_bind hf
  obtain ⟨v14, e11, hf⟩ := mx_bind hf
  refine mG_cV2 (pc := 759) (k' := (k + 1)) (n' := (n + 6)) 10 [] [] C hX dL_law_759 lkV_L_145 rfl rfl e13 (tX10_thrown hl e11) rfl ⟨by show (k + 1) + 0 ≤ 601024; omega, by show (n + 6) + 0 ≤ 7293034; omega⟩ rfl rfl rfl ?_
  refine mG_iload (pc := 762) C dL_law_762 rfl ?_
  refine mG_icmp_eq (pc := 764) (tgt := 769) C dL_law_764 (by decide) (fun q15 => ?_) (fun q15 => ?_)
  · rw [if_pos q15] at hf
    refine mG_iload (pc := 769) C dL_law_769 rfl ?_
    refine mG_if_ne (pc := 771) (tgt := 786) C dL_law_771 (by decide) (fun q16 => ?_) (fun q16 => ?_)
    · rw [if_neg q16] at hf
      refine mG_goto (tgt := 2934) (pc := 786) C dL_law_786 (by decide) ?_
      refine mG_ii (ls' := [some (.ref p0), some (.ref p1), some (.ref p2), some (.ref p3), some (.int (i + 5)), some (.int o4.1), some (.int o10.1), none, none]) (pc := 2934) C dL_law_2934 rfl (kinc5 _) rfl rfl rfl ?_
      refine mG_goto (tgt := 23) (pc := 2937) C dL_law_2937 (by decide) ?_
      cases hf
      exact mG_sub (mxLe_s (mxLe_s (mxLe_s (mxLe_s (mxLe_s (mxLe_n (mxLe_n (mxLe_n (mxLe_n mxLe_z))))))))) (K _ _ (by omega) (by omega))
    · rw [if_pos q16] at hf
      refine mG_aload_n (pc := 774) C dL_law_774 rfl ?_
      refine mG_ic (pc := 775) C dL_law_775 kI0 ?_
      obtain ⟨r17, e18, hf⟩ := mx_bind hf
      refine mG_laload (pc := 776) C dL_law_776 e18 ?_
      refine mG_iload (pc := 777) C dL_law_777 rfl ?_
      refine mG_i2l (pc := 779) C dL_law_779 ?_
      refine mG_lcmp (pc := 780) C dL_law_780 ?_
      refine mG_if_eq (pc := 781) (tgt := 786) C dL_law_781 (by decide) (fun q19 => ?_) (fun q19 => ?_)
      · rw [if_pos q19] at hf
        refine mG_goto (tgt := 2934) (pc := 786) C dL_law_786 (by decide) ?_
        refine mG_ii (ls' := [some (.ref p0), some (.ref p1), some (.ref p2), some (.ref p3), some (.int (i + 5)), some (.int o4.1), some (.int o10.1), none, none]) (pc := 2934) C dL_law_2934 rfl (kinc5 _) rfl rfl rfl ?_
        refine mG_goto (tgt := 23) (pc := 2937) C dL_law_2937 (by decide) ?_
        cases hf
        exact mG_sub (mxLe_s (mxLe_s (mxLe_s (mxLe_s (mxLe_s (mxLe_n (mxLe_n (mxLe_n (mxLe_n mxLe_z))))))))) (K _ _ (by omega) (by omega))
      · rw [if_neg q19] at hf
        cases hf
  · rw [if_neg q15] at hf
    cases hf
theorem dL_law_789 : decode cL_law 789 = .ok (.aload_n 1, 1) := by decide +kernel
theorem dL_law_790 : decode cL_law 790 = .ok (.aload_n 0, 1) := by decide +kernel
theorem dL_law_791 : decode cL_law 791 = .ok (.iload 4, 2) := by decide +kernel
theorem dL_law_793 : decode cL_law 793 = .ok (.iconst 1, 1) := by decide +kernel
theorem dL_law_794 : decode cL_law 794 = .ok (.iadd, 1) := by decide +kernel
theorem dL_law_795 : decode cL_law 795 = .ok (.iaload, 1) := by decide +kernel
theorem dL_law_796 : decode cL_law 796 = .ok (.aload_n 0, 1) := by decide +kernel
theorem dL_law_797 : decode cL_law 797 = .ok (.iload 4, 2) := by decide +kernel
theorem dL_law_799 : decode cL_law 799 = .ok (.iconst 2, 1) := by decide +kernel
theorem dL_law_800 : decode cL_law 800 = .ok (.iadd, 1) := by decide +kernel
theorem dL_law_801 : decode cL_law 801 = .ok (.iaload, 1) := by decide +kernel
theorem dL_law_802 : decode cL_law 802 = .ok (.aload_n 3, 1) := by decide +kernel
theorem dL_law_803 : decode cL_law 803 = .ok (.invokestatic 175, 3) := by decide +kernel
theorem dL_law_806 : decode cL_law 806 = .ok (.istore 5, 2) := by decide +kernel
theorem dL_law_808 : decode cL_law 808 = .ok (.aload_n 2, 1) := by decide +kernel
theorem dL_law_809 : decode cL_law 809 = .ok (.aload_n 0, 1) := by decide +kernel
theorem dL_law_810 : decode cL_law 810 = .ok (.iload 4, 2) := by decide +kernel
theorem dL_law_812 : decode cL_law 812 = .ok (.iconst 1, 1) := by decide +kernel
theorem dL_law_813 : decode cL_law 813 = .ok (.iadd, 1) := by decide +kernel
theorem dL_law_814 : decode cL_law 814 = .ok (.iaload, 1) := by decide +kernel
theorem dL_law_815 : decode cL_law 815 = .ok (.aload_n 0, 1) := by decide +kernel
theorem dL_law_816 : decode cL_law 816 = .ok (.iload 4, 2) := by decide +kernel
theorem dL_law_818 : decode cL_law 818 = .ok (.iconst 2, 1) := by decide +kernel
theorem dL_law_819 : decode cL_law 819 = .ok (.iadd, 1) := by decide +kernel
theorem dL_law_820 : decode cL_law 820 = .ok (.iaload, 1) := by decide +kernel
theorem dL_law_821 : decode cL_law 821 = .ok (.invokevirtual 177, 3) := by decide +kernel
theorem dL_law_824 : decode cL_law 824 = .ok (.istore 6, 2) := by decide +kernel
theorem dL_law_826 : decode cL_law 826 = .ok (.aload_n 2, 1) := by decide +kernel
theorem dL_law_827 : decode cL_law 827 = .ok (.invokevirtual 145, 3) := by decide +kernel
theorem dL_law_830 : decode cL_law 830 = .ok (.iload 5, 2) := by decide +kernel
theorem dL_law_832 : decode cL_law 832 = .ok (.if_icmp .eq 5, 3) := by decide +kernel
theorem dL_law_835 : decode cL_law 835 = .ok (.iconst 0, 1) := by decide +kernel
theorem dL_law_836 : decode cL_law 836 = .ok (.ireturn, 1) := by decide +kernel
theorem dL_law_837 : decode cL_law 837 = .ok (.iload 5, 2) := by decide +kernel
theorem dL_law_839 : decode cL_law 839 = .ok (.ifCond .ne 15, 3) := by decide +kernel
theorem dL_law_842 : decode cL_law 842 = .ok (.aload_n 3, 1) := by decide +kernel
theorem dL_law_843 : decode cL_law 843 = .ok (.iconst 0, 1) := by decide +kernel
theorem dL_law_844 : decode cL_law 844 = .ok (.laload, 1) := by decide +kernel
theorem dL_law_845 : decode cL_law 845 = .ok (.iload 6, 2) := by decide +kernel
theorem dL_law_847 : decode cL_law 847 = .ok (.i2l, 1) := by decide +kernel
theorem dL_law_848 : decode cL_law 848 = .ok (.lcmp, 1) := by decide +kernel
theorem dL_law_849 : decode cL_law 849 = .ok (.ifCond .eq 5, 3) := by decide +kernel
theorem dL_law_852 : decode cL_law 852 = .ok (.iconst 0, 1) := by decide +kernel
theorem dL_law_853 : decode cL_law 853 = .ok (.ireturn, 1) := by decide +kernel
theorem dL_law_854 : decode cL_law 854 = .ok (.goto 2080, 3) := by decide +kernel
def fLa_9 (p0 p1 p2 p3 : Nat) (i : Int32) (h : mxH) : Option (Int32 × mxH) := Option.bind (ldI h p0 (i + 1)) (fun v1 => Option.bind (ldI h p0 (i + 2)) (fun v3 => Option.bind (fL_thingAt p1 v1 v3 p3 h) (fun o6 => Option.bind (ldI o6.2 p0 (i + 1)) (fun v7 => Option.bind (ldI o6.2 p0 (i + 2)) (fun v9 => Option.bind (isO o6.2 p2 10) (fun u12 => Option.bind (fX10_thingAt p2 v7 v9 o6.2) (fun o14 => Option.bind (isO o14.2 p2 10) (fun u16 => Option.bind (fX10_thrown p2 o14.2) (fun v18 => (if v18 = o6.1 then (if o6.1 = 0 then Option.bind (ldJ o14.2 p3 0) (fun r21 => (if (lg_cmp r21 o14.1.toInt64) = 0 then some (i + 5, o14.2) else none)) else some (i + 5, o14.2)) else none))))))))))
set_option maxRecDepth 20000 in
theorem tLa_9 {l : Launch} {Z : mxZ} {X : mxX} (hl : l.stackTraces = false) (C : mxC l Z X RL cL_law 9) (hX : mxRm X = room_1) {p0 p1 p2 p3 : Nat} {i : Int32} {h : mxH} {o : Int32 × mxH} (hf : fLa_9 p0 p1 p2 p3 i h = some o) {k n : Nat} (hk : k + 8 ≤ 601024) (hn : n + 40 ≤ 7293034) (K : ∀ k2 n2, k2 ≤ k + 8 → n2 ≤ n + 40 → mG l Z X 9 k2 n2 23 [some (.ref p0), some (.ref p1), some (.ref p2), some (.ref p3), some (.int o.1), none, none, none, none] [] o.2) : mG l Z X 9 k n 789 [some (.ref p0), some (.ref p1), some (.ref p2), some (.ref p3), some (.int i), none, none, none, none] [] h := by
  unfold fLa_9 at hf
  refine mG_aload_n (pc := 789) C dL_law_789 rfl ?_
  refine mG_aload_n (pc := 790) C dL_law_790 rfl ?_
  refine mG_iload (pc := 791) C dL_law_791 rfl ?_
  refine mG_ic (pc := 793) C dL_law_793 kI1 ?_
  refine mG_iadd (pc := 794) C dL_law_794 ?_
  obtain ⟨v1, e2, hf⟩ := mx_bind hf
  refine mG_iaload (pc := 795) C dL_law_795 e2 ?_
  refine mG_aload_n (pc := 796) C dL_law_796 rfl ?_
  refine mG_iload (pc := 797) C dL_law_797 rfl ?_
  refine mG_ic (pc := 799) C dL_law_799 kI2 ?_
  refine mG_iadd (pc := 800) C dL_law_800 ?_
  obtain ⟨v3, e4, hf⟩ := mx_bind hf
  refine mG_iaload (pc := 801) C dL_law_801 e4 ?_
  refine mG_aload_n (pc := 802) C dL_law_802 rfl ?_
  obtain ⟨o6, e5, hf⟩ := mx_bind hf
  refine mG_cSH (pc := 803) (k' := (k + 2)) (n' := (n + 12)) [.ref p1, .int v1, .int v3, .ref p3] [] C hX dL_law_803 lkH_L_175 rfl (tL_thingAt hl e5) rfl ⟨by show k + 2 ≤ 601024; omega, by show n + 12 ≤ 7293034; omega⟩ rfl rfl rfl ?_
  refine mG_is (ls' := [some (.ref p0), some (.ref p1), some (.ref p2), some (.ref p3), some (.int i), some (.int o6.1), none, none, none]) (pc := 806) C dL_law_806 rfl rfl rfl ?_
  refine mG_aload_n (pc := 808) C dL_law_808 rfl ?_
  refine mG_aload_n (pc := 809) C dL_law_809 rfl ?_
  refine mG_iload (pc := 810) C dL_law_810 rfl ?_
  refine mG_ic (pc := 812) C dL_law_812 kI1 ?_
  refine mG_iadd (pc := 813) C dL_law_813 ?_
  obtain ⟨v7, e8, hf⟩ := mx_bind hf
  refine mG_iaload (pc := 814) C dL_law_814 e8 ?_
  refine mG_aload_n (pc := 815) C dL_law_815 rfl ?_
  refine mG_iload (pc := 816) C dL_law_816 rfl ?_
  refine mG_ic (pc := 818) C dL_law_818 kI2 ?_
  refine mG_iadd (pc := 819) C dL_law_819 ?_
  obtain ⟨v9, e10, hf⟩ := mx_bind hf
  refine mG_iaload (pc := 820) C dL_law_820 e10 ?_
  obtain ⟨u12, e13, hf⟩ := mx_bind hf
  obtain ⟨o14, e11, hf⟩ := mx_bind hf
  refine mG_cV2 (pc := 821) (k' := (k + 2)) (n' := (n + 12)) 10 [.int v7, .int v9] [] C hX dL_law_821 lkV_L_177 rfl rfl e13 (tX10_thingAt hl e11) rfl ⟨by show (k + 2) + 0 ≤ 601024; omega, by show (n + 12) + 0 ≤ 7293034; omega⟩ rfl rfl rfl ?_
  refine mG_is (ls' := [some (.ref p0), some (.ref p1), some (.ref p2), some (.ref p3), some (.int i), some (.int o6.1), some (.int o14.1), none, none]) (pc := 824) C dL_law_824 rfl rfl rfl ?_
  refine mG_aload_n (pc := 826) C dL_law_826 rfl ?_
  obtain ⟨u16, e17, hf⟩ := mx_bind hf
  obtain ⟨v18, e15, hf⟩ := mx_bind hf
  refine mG_cV2 (pc := 827) (k' := (k + 2)) (n' := (n + 12)) 10 [] [] C hX dL_law_827 lkV_L_145 rfl rfl e17 (tX10_thrown hl e15) rfl ⟨by show (k + 2) + 0 ≤ 601024; omega, by show (n + 12) + 0 ≤ 7293034; omega⟩ rfl rfl rfl ?_
  refine mG_iload (pc := 830) C dL_law_830 rfl ?_
  refine mG_icmp_eq (pc := 832) (tgt := 837) C dL_law_832 (by decide) (fun q19 => ?_) (fun q19 => ?_)
  · rw [if_pos q19] at hf
    refine mG_iload (pc := 837) C dL_law_837 rfl ?_
    refine mG_if_ne (pc := 839) (tgt := 854) C dL_law_839 (by decide) (fun q20 => ?_) (fun q20 => ?_)
    · rw [if_neg q20] at hf
      refine mG_goto (tgt := 2934) (pc := 854) C dL_law_854 (by decide) ?_
      refine mG_ii (ls' := [some (.ref p0), some (.ref p1), some (.ref p2), some (.ref p3), some (.int (i + 5)), some (.int o6.1), some (.int o14.1), none, none]) (pc := 2934) C dL_law_2934 rfl (kinc5 _) rfl rfl rfl ?_
      refine mG_goto (tgt := 23) (pc := 2937) C dL_law_2937 (by decide) ?_
      cases hf
      exact mG_sub (mxLe_s (mxLe_s (mxLe_s (mxLe_s (mxLe_s (mxLe_n (mxLe_n (mxLe_n (mxLe_n mxLe_z))))))))) (K _ _ (by omega) (by omega))
    · rw [if_pos q20] at hf
      refine mG_aload_n (pc := 842) C dL_law_842 rfl ?_
      refine mG_ic (pc := 843) C dL_law_843 kI0 ?_
      obtain ⟨r21, e22, hf⟩ := mx_bind hf
      refine mG_laload (pc := 844) C dL_law_844 e22 ?_
      refine mG_iload (pc := 845) C dL_law_845 rfl ?_
      refine mG_i2l (pc := 847) C dL_law_847 ?_
      refine mG_lcmp (pc := 848) C dL_law_848 ?_
      refine mG_if_eq (pc := 849) (tgt := 854) C dL_law_849 (by decide) (fun q23 => ?_) (fun q23 => ?_)
      · rw [if_pos q23] at hf
        refine mG_goto (tgt := 2934) (pc := 854) C dL_law_854 (by decide) ?_
        refine mG_ii (ls' := [some (.ref p0), some (.ref p1), some (.ref p2), some (.ref p3), some (.int (i + 5)), some (.int o6.1), some (.int o14.1), none, none]) (pc := 2934) C dL_law_2934 rfl (kinc5 _) rfl rfl rfl ?_
        refine mG_goto (tgt := 23) (pc := 2937) C dL_law_2937 (by decide) ?_
        cases hf
        exact mG_sub (mxLe_s (mxLe_s (mxLe_s (mxLe_s (mxLe_s (mxLe_n (mxLe_n (mxLe_n (mxLe_n mxLe_z))))))))) (K _ _ (by omega) (by omega))
      · rw [if_neg q23] at hf
        cases hf
  · rw [if_neg q19] at hf
    cases hf
theorem dL_law_857 : decode cL_law 857 = .ok (.aload_n 1, 1) := by decide +kernel
theorem dL_law_858 : decode cL_law 858 = .ok (.aload_n 0, 1) := by decide +kernel
theorem dL_law_859 : decode cL_law 859 = .ok (.iload 4, 2) := by decide +kernel
theorem dL_law_861 : decode cL_law 861 = .ok (.iconst 1, 1) := by decide +kernel
theorem dL_law_862 : decode cL_law 862 = .ok (.iadd, 1) := by decide +kernel
theorem dL_law_863 : decode cL_law 863 = .ok (.iaload, 1) := by decide +kernel
theorem dL_law_864 : decode cL_law 864 = .ok (.aload_n 0, 1) := by decide +kernel
theorem dL_law_865 : decode cL_law 865 = .ok (.iload 4, 2) := by decide +kernel
theorem dL_law_867 : decode cL_law 867 = .ok (.iconst 2, 1) := by decide +kernel
theorem dL_law_868 : decode cL_law 868 = .ok (.iadd, 1) := by decide +kernel
theorem dL_law_869 : decode cL_law 869 = .ok (.iaload, 1) := by decide +kernel
theorem dL_law_870 : decode cL_law 870 = .ok (.aload_n 3, 1) := by decide +kernel
theorem dL_law_871 : decode cL_law 871 = .ok (.invokestatic 178, 3) := by decide +kernel
theorem dL_law_874 : decode cL_law 874 = .ok (.istore 5, 2) := by decide +kernel
theorem dL_law_876 : decode cL_law 876 = .ok (.aload_n 2, 1) := by decide +kernel
theorem dL_law_877 : decode cL_law 877 = .ok (.aload_n 0, 1) := by decide +kernel
theorem dL_law_878 : decode cL_law 878 = .ok (.iload 4, 2) := by decide +kernel
theorem dL_law_880 : decode cL_law 880 = .ok (.iconst 1, 1) := by decide +kernel
theorem dL_law_881 : decode cL_law 881 = .ok (.iadd, 1) := by decide +kernel
theorem dL_law_882 : decode cL_law 882 = .ok (.iaload, 1) := by decide +kernel
theorem dL_law_883 : decode cL_law 883 = .ok (.aload_n 0, 1) := by decide +kernel
theorem dL_law_884 : decode cL_law 884 = .ok (.iload 4, 2) := by decide +kernel
theorem dL_law_886 : decode cL_law 886 = .ok (.iconst 2, 1) := by decide +kernel
theorem dL_law_887 : decode cL_law 887 = .ok (.iadd, 1) := by decide +kernel
theorem dL_law_888 : decode cL_law 888 = .ok (.iaload, 1) := by decide +kernel
theorem dL_law_889 : decode cL_law 889 = .ok (.invokevirtual 180, 3) := by decide +kernel
theorem dL_law_892 : decode cL_law 892 = .ok (.istore 6, 2) := by decide +kernel
theorem dL_law_894 : decode cL_law 894 = .ok (.aload_n 2, 1) := by decide +kernel
theorem dL_law_895 : decode cL_law 895 = .ok (.invokevirtual 145, 3) := by decide +kernel
theorem dL_law_898 : decode cL_law 898 = .ok (.iload 5, 2) := by decide +kernel
theorem dL_law_900 : decode cL_law 900 = .ok (.if_icmp .eq 5, 3) := by decide +kernel
theorem dL_law_903 : decode cL_law 903 = .ok (.iconst 0, 1) := by decide +kernel
theorem dL_law_904 : decode cL_law 904 = .ok (.ireturn, 1) := by decide +kernel
theorem dL_law_905 : decode cL_law 905 = .ok (.iload 5, 2) := by decide +kernel
theorem dL_law_907 : decode cL_law 907 = .ok (.ifCond .ne 15, 3) := by decide +kernel
theorem dL_law_910 : decode cL_law 910 = .ok (.aload_n 3, 1) := by decide +kernel
theorem dL_law_911 : decode cL_law 911 = .ok (.iconst 0, 1) := by decide +kernel
theorem dL_law_912 : decode cL_law 912 = .ok (.laload, 1) := by decide +kernel
theorem dL_law_913 : decode cL_law 913 = .ok (.iload 6, 2) := by decide +kernel
theorem dL_law_915 : decode cL_law 915 = .ok (.i2l, 1) := by decide +kernel
theorem dL_law_916 : decode cL_law 916 = .ok (.lcmp, 1) := by decide +kernel
theorem dL_law_917 : decode cL_law 917 = .ok (.ifCond .eq 5, 3) := by decide +kernel
theorem dL_law_920 : decode cL_law 920 = .ok (.iconst 0, 1) := by decide +kernel
theorem dL_law_921 : decode cL_law 921 = .ok (.ireturn, 1) := by decide +kernel
theorem dL_law_922 : decode cL_law 922 = .ok (.goto 2012, 3) := by decide +kernel
def fLa_10 (p0 p1 p2 p3 : Nat) (i : Int32) (h : mxH) : Option (Int32 × mxH) := Option.bind (ldI h p0 (i + 1)) (fun v1 => Option.bind (ldI h p0 (i + 2)) (fun v3 => Option.bind (fL_markAt p1 v1 v3 p3 h) (fun o6 => Option.bind (ldI o6.2 p0 (i + 1)) (fun v7 => Option.bind (ldI o6.2 p0 (i + 2)) (fun v9 => Option.bind (isO o6.2 p2 10) (fun u12 => Option.bind (fX10_markAt p2 v7 v9 o6.2) (fun o14 => Option.bind (isO o14.2 p2 10) (fun u16 => Option.bind (fX10_thrown p2 o14.2) (fun v18 => (if v18 = o6.1 then (if o6.1 = 0 then Option.bind (ldJ o14.2 p3 0) (fun r21 => (if (lg_cmp r21 o14.1.toInt64) = 0 then some (i + 5, o14.2) else none)) else some (i + 5, o14.2)) else none))))))))))
set_option maxRecDepth 20000 in
theorem tLa_10 {l : Launch} {Z : mxZ} {X : mxX} (hl : l.stackTraces = false) (C : mxC l Z X RL cL_law 9) (hX : mxRm X = room_1) {p0 p1 p2 p3 : Nat} {i : Int32} {h : mxH} {o : Int32 × mxH} (hf : fLa_10 p0 p1 p2 p3 i h = some o) {k n : Nat} (hk : k + 8 ≤ 601024) (hn : n + 40 ≤ 7293034) (K : ∀ k2 n2, k2 ≤ k + 8 → n2 ≤ n + 40 → mG l Z X 9 k2 n2 23 [some (.ref p0), some (.ref p1), some (.ref p2), some (.ref p3), some (.int o.1), none, none, none, none] [] o.2) : mG l Z X 9 k n 857 [some (.ref p0), some (.ref p1), some (.ref p2), some (.ref p3), some (.int i), none, none, none, none] [] h := by
  unfold fLa_10 at hf
  refine mG_aload_n (pc := 857) C dL_law_857 rfl ?_
  refine mG_aload_n (pc := 858) C dL_law_858 rfl ?_
  refine mG_iload (pc := 859) C dL_law_859 rfl ?_
  refine mG_ic (pc := 861) C dL_law_861 kI1 ?_
  refine mG_iadd (pc := 862) C dL_law_862 ?_
  obtain ⟨v1, e2, hf⟩ := mx_bind hf
  refine mG_iaload (pc := 863) C dL_law_863 e2 ?_
  refine mG_aload_n (pc := 864) C dL_law_864 rfl ?_
  refine mG_iload (pc := 865) C dL_law_865 rfl ?_
  refine mG_ic (pc := 867) C dL_law_867 kI2 ?_
  refine mG_iadd (pc := 868) C dL_law_868 ?_
  obtain ⟨v3, e4, hf⟩ := mx_bind hf
  refine mG_iaload (pc := 869) C dL_law_869 e4 ?_
  refine mG_aload_n (pc := 870) C dL_law_870 rfl ?_
  obtain ⟨o6, e5, hf⟩ := mx_bind hf
  refine mG_cSH (pc := 871) (k' := (k + 2)) (n' := (n + 12)) [.ref p1, .int v1, .int v3, .ref p3] [] C hX dL_law_871 lkH_L_178 rfl (tL_markAt hl e5) rfl ⟨by show k + 2 ≤ 601024; omega, by show n + 12 ≤ 7293034; omega⟩ rfl rfl rfl ?_
  refine mG_is (ls' := [some (.ref p0), some (.ref p1), some (.ref p2), some (.ref p3), some (.int i), some (.int o6.1), none, none, none]) (pc := 874) C dL_law_874 rfl rfl rfl ?_
  refine mG_aload_n (pc := 876) C dL_law_876 rfl ?_
  refine mG_aload_n (pc := 877) C dL_law_877 rfl ?_
  refine mG_iload (pc := 878) C dL_law_878 rfl ?_
  refine mG_ic (pc := 880) C dL_law_880 kI1 ?_
  refine mG_iadd (pc := 881) C dL_law_881 ?_
  obtain ⟨v7, e8, hf⟩ := mx_bind hf
  refine mG_iaload (pc := 882) C dL_law_882 e8 ?_
  refine mG_aload_n (pc := 883) C dL_law_883 rfl ?_
  refine mG_iload (pc := 884) C dL_law_884 rfl ?_
  refine mG_ic (pc := 886) C dL_law_886 kI2 ?_
  refine mG_iadd (pc := 887) C dL_law_887 ?_
  obtain ⟨v9, e10, hf⟩ := mx_bind hf
  refine mG_iaload (pc := 888) C dL_law_888 e10 ?_
  obtain ⟨u12, e13, hf⟩ := mx_bind hf
  obtain ⟨o14, e11, hf⟩ := mx_bind hf
  refine mG_cV2 (pc := 889) (k' := (k + 2)) (n' := (n + 12)) 10 [.int v7, .int v9] [] C hX dL_law_889 lkV_L_180 rfl rfl e13 (tX10_markAt hl e11) rfl ⟨by show (k + 2) + 0 ≤ 601024; omega, by show (n + 12) + 0 ≤ 7293034; omega⟩ rfl rfl rfl ?_
  refine mG_is (ls' := [some (.ref p0), some (.ref p1), some (.ref p2), some (.ref p3), some (.int i), some (.int o6.1), some (.int o14.1), none, none]) (pc := 892) C dL_law_892 rfl rfl rfl ?_
  refine mG_aload_n (pc := 894) C dL_law_894 rfl ?_
  obtain ⟨u16, e17, hf⟩ := mx_bind hf
  obtain ⟨v18, e15, hf⟩ := mx_bind hf
  refine mG_cV2 (pc := 895) (k' := (k + 2)) (n' := (n + 12)) 10 [] [] C hX dL_law_895 lkV_L_145 rfl rfl e17 (tX10_thrown hl e15) rfl ⟨by show (k + 2) + 0 ≤ 601024; omega, by show (n + 12) + 0 ≤ 7293034; omega⟩ rfl rfl rfl ?_
  refine mG_iload (pc := 898) C dL_law_898 rfl ?_
  refine mG_icmp_eq (pc := 900) (tgt := 905) C dL_law_900 (by decide) (fun q19 => ?_) (fun q19 => ?_)
  · rw [if_pos q19] at hf
    refine mG_iload (pc := 905) C dL_law_905 rfl ?_
    refine mG_if_ne (pc := 907) (tgt := 922) C dL_law_907 (by decide) (fun q20 => ?_) (fun q20 => ?_)
    · rw [if_neg q20] at hf
      refine mG_goto (tgt := 2934) (pc := 922) C dL_law_922 (by decide) ?_
      refine mG_ii (ls' := [some (.ref p0), some (.ref p1), some (.ref p2), some (.ref p3), some (.int (i + 5)), some (.int o6.1), some (.int o14.1), none, none]) (pc := 2934) C dL_law_2934 rfl (kinc5 _) rfl rfl rfl ?_
      refine mG_goto (tgt := 23) (pc := 2937) C dL_law_2937 (by decide) ?_
      cases hf
      exact mG_sub (mxLe_s (mxLe_s (mxLe_s (mxLe_s (mxLe_s (mxLe_n (mxLe_n (mxLe_n (mxLe_n mxLe_z))))))))) (K _ _ (by omega) (by omega))
    · rw [if_pos q20] at hf
      refine mG_aload_n (pc := 910) C dL_law_910 rfl ?_
      refine mG_ic (pc := 911) C dL_law_911 kI0 ?_
      obtain ⟨r21, e22, hf⟩ := mx_bind hf
      refine mG_laload (pc := 912) C dL_law_912 e22 ?_
      refine mG_iload (pc := 913) C dL_law_913 rfl ?_
      refine mG_i2l (pc := 915) C dL_law_915 ?_
      refine mG_lcmp (pc := 916) C dL_law_916 ?_
      refine mG_if_eq (pc := 917) (tgt := 922) C dL_law_917 (by decide) (fun q23 => ?_) (fun q23 => ?_)
      · rw [if_pos q23] at hf
        refine mG_goto (tgt := 2934) (pc := 922) C dL_law_922 (by decide) ?_
        refine mG_ii (ls' := [some (.ref p0), some (.ref p1), some (.ref p2), some (.ref p3), some (.int (i + 5)), some (.int o6.1), some (.int o14.1), none, none]) (pc := 2934) C dL_law_2934 rfl (kinc5 _) rfl rfl rfl ?_
        refine mG_goto (tgt := 23) (pc := 2937) C dL_law_2937 (by decide) ?_
        cases hf
        exact mG_sub (mxLe_s (mxLe_s (mxLe_s (mxLe_s (mxLe_s (mxLe_n (mxLe_n (mxLe_n (mxLe_n mxLe_z))))))))) (K _ _ (by omega) (by omega))
      · rw [if_neg q23] at hf
        cases hf
  · rw [if_neg q19] at hf
    cases hf
theorem dL_law_925 : decode cL_law 925 = .ok (.aload_n 1, 1) := by decide +kernel
theorem dL_law_926 : decode cL_law 926 = .ok (.aload_n 0, 1) := by decide +kernel
theorem dL_law_927 : decode cL_law 927 = .ok (.iload 4, 2) := by decide +kernel
theorem dL_law_929 : decode cL_law 929 = .ok (.iconst 1, 1) := by decide +kernel
theorem dL_law_930 : decode cL_law 930 = .ok (.iadd, 1) := by decide +kernel
theorem dL_law_931 : decode cL_law 931 = .ok (.iaload, 1) := by decide +kernel
theorem dL_law_932 : decode cL_law 932 = .ok (.aload_n 0, 1) := by decide +kernel
theorem dL_law_933 : decode cL_law 933 = .ok (.iload 4, 2) := by decide +kernel
theorem dL_law_935 : decode cL_law 935 = .ok (.iconst 2, 1) := by decide +kernel
theorem dL_law_936 : decode cL_law 936 = .ok (.iadd, 1) := by decide +kernel
theorem dL_law_937 : decode cL_law 937 = .ok (.iaload, 1) := by decide +kernel
theorem dL_law_938 : decode cL_law 938 = .ok (.aload_n 3, 1) := by decide +kernel
theorem dL_law_939 : decode cL_law 939 = .ok (.invokestatic 181, 3) := by decide +kernel
theorem dL_law_942 : decode cL_law 942 = .ok (.istore 5, 2) := by decide +kernel
theorem dL_law_944 : decode cL_law 944 = .ok (.aload_n 2, 1) := by decide +kernel
theorem dL_law_945 : decode cL_law 945 = .ok (.aload_n 0, 1) := by decide +kernel
theorem dL_law_946 : decode cL_law 946 = .ok (.iload 4, 2) := by decide +kernel
theorem dL_law_948 : decode cL_law 948 = .ok (.iconst 1, 1) := by decide +kernel
theorem dL_law_949 : decode cL_law 949 = .ok (.iadd, 1) := by decide +kernel
theorem dL_law_950 : decode cL_law 950 = .ok (.iaload, 1) := by decide +kernel
theorem dL_law_951 : decode cL_law 951 = .ok (.aload_n 0, 1) := by decide +kernel
theorem dL_law_952 : decode cL_law 952 = .ok (.iload 4, 2) := by decide +kernel
theorem dL_law_954 : decode cL_law 954 = .ok (.iconst 2, 1) := by decide +kernel
theorem dL_law_955 : decode cL_law 955 = .ok (.iadd, 1) := by decide +kernel
theorem dL_law_956 : decode cL_law 956 = .ok (.iaload, 1) := by decide +kernel
theorem dL_law_957 : decode cL_law 957 = .ok (.invokevirtual 183, 3) := by decide +kernel
theorem dL_law_960 : decode cL_law 960 = .ok (.istore 6, 2) := by decide +kernel
theorem dL_law_962 : decode cL_law 962 = .ok (.aload_n 2, 1) := by decide +kernel
theorem dL_law_963 : decode cL_law 963 = .ok (.invokevirtual 145, 3) := by decide +kernel
theorem dL_law_966 : decode cL_law 966 = .ok (.iload 5, 2) := by decide +kernel
theorem dL_law_968 : decode cL_law 968 = .ok (.if_icmp .eq 5, 3) := by decide +kernel
theorem dL_law_971 : decode cL_law 971 = .ok (.iconst 0, 1) := by decide +kernel
theorem dL_law_972 : decode cL_law 972 = .ok (.ireturn, 1) := by decide +kernel
theorem dL_law_973 : decode cL_law 973 = .ok (.iload 5, 2) := by decide +kernel
theorem dL_law_975 : decode cL_law 975 = .ok (.ifCond .ne 15, 3) := by decide +kernel
theorem dL_law_978 : decode cL_law 978 = .ok (.aload_n 3, 1) := by decide +kernel
theorem dL_law_979 : decode cL_law 979 = .ok (.iconst 0, 1) := by decide +kernel
theorem dL_law_980 : decode cL_law 980 = .ok (.laload, 1) := by decide +kernel
theorem dL_law_981 : decode cL_law 981 = .ok (.iload 6, 2) := by decide +kernel
theorem dL_law_983 : decode cL_law 983 = .ok (.i2l, 1) := by decide +kernel
theorem dL_law_984 : decode cL_law 984 = .ok (.lcmp, 1) := by decide +kernel
theorem dL_law_985 : decode cL_law 985 = .ok (.ifCond .eq 5, 3) := by decide +kernel
theorem dL_law_988 : decode cL_law 988 = .ok (.iconst 0, 1) := by decide +kernel
theorem dL_law_989 : decode cL_law 989 = .ok (.ireturn, 1) := by decide +kernel
theorem dL_law_990 : decode cL_law 990 = .ok (.goto 1944, 3) := by decide +kernel
def fLa_11 (p0 p1 p2 p3 : Nat) (i : Int32) (h : mxH) : Option (Int32 × mxH) := Option.bind (ldI h p0 (i + 1)) (fun v1 => Option.bind (ldI h p0 (i + 2)) (fun v3 => Option.bind (fL_placeOf p1 v1 v3 p3 h) (fun o6 => Option.bind (ldI o6.2 p0 (i + 1)) (fun v7 => Option.bind (ldI o6.2 p0 (i + 2)) (fun v9 => Option.bind (isO o6.2 p2 10) (fun u12 => Option.bind (fX10_placeOf p2 v7 v9 o6.2) (fun o14 => Option.bind (isO o14.2 p2 10) (fun u16 => Option.bind (fX10_thrown p2 o14.2) (fun v18 => (if v18 = o6.1 then (if o6.1 = 0 then Option.bind (ldJ o14.2 p3 0) (fun r21 => (if (lg_cmp r21 o14.1.toInt64) = 0 then some (i + 5, o14.2) else none)) else some (i + 5, o14.2)) else none))))))))))
set_option maxRecDepth 20000 in
theorem tLa_11 {l : Launch} {Z : mxZ} {X : mxX} (hl : l.stackTraces = false) (C : mxC l Z X RL cL_law 9) (hX : mxRm X = room_1) {p0 p1 p2 p3 : Nat} {i : Int32} {h : mxH} {o : Int32 × mxH} (hf : fLa_11 p0 p1 p2 p3 i h = some o) {k n : Nat} (hk : k + 8 ≤ 601024) (hn : n + 40 ≤ 7293034) (K : ∀ k2 n2, k2 ≤ k + 8 → n2 ≤ n + 40 → mG l Z X 9 k2 n2 23 [some (.ref p0), some (.ref p1), some (.ref p2), some (.ref p3), some (.int o.1), none, none, none, none] [] o.2) : mG l Z X 9 k n 925 [some (.ref p0), some (.ref p1), some (.ref p2), some (.ref p3), some (.int i), none, none, none, none] [] h := by
  unfold fLa_11 at hf
  refine mG_aload_n (pc := 925) C dL_law_925 rfl ?_
  refine mG_aload_n (pc := 926) C dL_law_926 rfl ?_
  refine mG_iload (pc := 927) C dL_law_927 rfl ?_
  refine mG_ic (pc := 929) C dL_law_929 kI1 ?_
  refine mG_iadd (pc := 930) C dL_law_930 ?_
  obtain ⟨v1, e2, hf⟩ := mx_bind hf
  refine mG_iaload (pc := 931) C dL_law_931 e2 ?_
  refine mG_aload_n (pc := 932) C dL_law_932 rfl ?_
  refine mG_iload (pc := 933) C dL_law_933 rfl ?_
  refine mG_ic (pc := 935) C dL_law_935 kI2 ?_
  refine mG_iadd (pc := 936) C dL_law_936 ?_
  obtain ⟨v3, e4, hf⟩ := mx_bind hf
  refine mG_iaload (pc := 937) C dL_law_937 e4 ?_
  refine mG_aload_n (pc := 938) C dL_law_938 rfl ?_
  obtain ⟨o6, e5, hf⟩ := mx_bind hf
  refine mG_cSH (pc := 939) (k' := (k + 3)) (n' := (n + 18)) [.ref p1, .int v1, .int v3, .ref p3] [] C hX dL_law_939 lkH_L_181 rfl (tL_placeOf hl e5) rfl ⟨by show k + 3 ≤ 601024; omega, by show n + 18 ≤ 7293034; omega⟩ rfl rfl rfl ?_
  refine mG_is (ls' := [some (.ref p0), some (.ref p1), some (.ref p2), some (.ref p3), some (.int i), some (.int o6.1), none, none, none]) (pc := 942) C dL_law_942 rfl rfl rfl ?_
  refine mG_aload_n (pc := 944) C dL_law_944 rfl ?_
  refine mG_aload_n (pc := 945) C dL_law_945 rfl ?_
  refine mG_iload (pc := 946) C dL_law_946 rfl ?_
  refine mG_ic (pc := 948) C dL_law_948 kI1 ?_
  refine mG_iadd (pc := 949) C dL_law_949 ?_
  obtain ⟨v7, e8, hf⟩ := mx_bind hf
  refine mG_iaload (pc := 950) C dL_law_950 e8 ?_
  refine mG_aload_n (pc := 951) C dL_law_951 rfl ?_
  refine mG_iload (pc := 952) C dL_law_952 rfl ?_
  refine mG_ic (pc := 954) C dL_law_954 kI2 ?_
  refine mG_iadd (pc := 955) C dL_law_955 ?_
  obtain ⟨v9, e10, hf⟩ := mx_bind hf
  refine mG_iaload (pc := 956) C dL_law_956 e10 ?_
  obtain ⟨u12, e13, hf⟩ := mx_bind hf
  obtain ⟨o14, e11, hf⟩ := mx_bind hf
  refine mG_cV2 (pc := 957) (k' := (k + 3)) (n' := (n + 18)) 10 [.int v7, .int v9] [] C hX dL_law_957 lkV_L_183 rfl rfl e13 (tX10_placeOf hl e11) rfl ⟨by show (k + 3) + 0 ≤ 601024; omega, by show (n + 18) + 0 ≤ 7293034; omega⟩ rfl rfl rfl ?_
  refine mG_is (ls' := [some (.ref p0), some (.ref p1), some (.ref p2), some (.ref p3), some (.int i), some (.int o6.1), some (.int o14.1), none, none]) (pc := 960) C dL_law_960 rfl rfl rfl ?_
  refine mG_aload_n (pc := 962) C dL_law_962 rfl ?_
  obtain ⟨u16, e17, hf⟩ := mx_bind hf
  obtain ⟨v18, e15, hf⟩ := mx_bind hf
  refine mG_cV2 (pc := 963) (k' := (k + 3)) (n' := (n + 18)) 10 [] [] C hX dL_law_963 lkV_L_145 rfl rfl e17 (tX10_thrown hl e15) rfl ⟨by show (k + 3) + 0 ≤ 601024; omega, by show (n + 18) + 0 ≤ 7293034; omega⟩ rfl rfl rfl ?_
  refine mG_iload (pc := 966) C dL_law_966 rfl ?_
  refine mG_icmp_eq (pc := 968) (tgt := 973) C dL_law_968 (by decide) (fun q19 => ?_) (fun q19 => ?_)
  · rw [if_pos q19] at hf
    refine mG_iload (pc := 973) C dL_law_973 rfl ?_
    refine mG_if_ne (pc := 975) (tgt := 990) C dL_law_975 (by decide) (fun q20 => ?_) (fun q20 => ?_)
    · rw [if_neg q20] at hf
      refine mG_goto (tgt := 2934) (pc := 990) C dL_law_990 (by decide) ?_
      refine mG_ii (ls' := [some (.ref p0), some (.ref p1), some (.ref p2), some (.ref p3), some (.int (i + 5)), some (.int o6.1), some (.int o14.1), none, none]) (pc := 2934) C dL_law_2934 rfl (kinc5 _) rfl rfl rfl ?_
      refine mG_goto (tgt := 23) (pc := 2937) C dL_law_2937 (by decide) ?_
      cases hf
      exact mG_sub (mxLe_s (mxLe_s (mxLe_s (mxLe_s (mxLe_s (mxLe_n (mxLe_n (mxLe_n (mxLe_n mxLe_z))))))))) (K _ _ (by omega) (by omega))
    · rw [if_pos q20] at hf
      refine mG_aload_n (pc := 978) C dL_law_978 rfl ?_
      refine mG_ic (pc := 979) C dL_law_979 kI0 ?_
      obtain ⟨r21, e22, hf⟩ := mx_bind hf
      refine mG_laload (pc := 980) C dL_law_980 e22 ?_
      refine mG_iload (pc := 981) C dL_law_981 rfl ?_
      refine mG_i2l (pc := 983) C dL_law_983 ?_
      refine mG_lcmp (pc := 984) C dL_law_984 ?_
      refine mG_if_eq (pc := 985) (tgt := 990) C dL_law_985 (by decide) (fun q23 => ?_) (fun q23 => ?_)
      · rw [if_pos q23] at hf
        refine mG_goto (tgt := 2934) (pc := 990) C dL_law_990 (by decide) ?_
        refine mG_ii (ls' := [some (.ref p0), some (.ref p1), some (.ref p2), some (.ref p3), some (.int (i + 5)), some (.int o6.1), some (.int o14.1), none, none]) (pc := 2934) C dL_law_2934 rfl (kinc5 _) rfl rfl rfl ?_
        refine mG_goto (tgt := 23) (pc := 2937) C dL_law_2937 (by decide) ?_
        cases hf
        exact mG_sub (mxLe_s (mxLe_s (mxLe_s (mxLe_s (mxLe_s (mxLe_n (mxLe_n (mxLe_n (mxLe_n mxLe_z))))))))) (K _ _ (by omega) (by omega))
      · rw [if_neg q23] at hf
        cases hf
  · rw [if_neg q19] at hf
    cases hf
theorem dL_law_993 : decode cL_law 993 = .ok (.aload_n 1, 1) := by decide +kernel
theorem dL_law_994 : decode cL_law 994 = .ok (.aload_n 0, 1) := by decide +kernel
theorem dL_law_995 : decode cL_law 995 = .ok (.iload 4, 2) := by decide +kernel
theorem dL_law_997 : decode cL_law 997 = .ok (.iconst 1, 1) := by decide +kernel
theorem dL_law_998 : decode cL_law 998 = .ok (.iadd, 1) := by decide +kernel
theorem dL_law_999 : decode cL_law 999 = .ok (.iaload, 1) := by decide +kernel
theorem dL_law_1000 : decode cL_law 1000 = .ok (.aload_n 3, 1) := by decide +kernel
theorem dL_law_1001 : decode cL_law 1001 = .ok (.invokestatic 184, 3) := by decide +kernel
theorem dL_law_1004 : decode cL_law 1004 = .ok (.istore 5, 2) := by decide +kernel
theorem dL_law_1006 : decode cL_law 1006 = .ok (.aload_n 2, 1) := by decide +kernel
theorem dL_law_1007 : decode cL_law 1007 = .ok (.aload_n 0, 1) := by decide +kernel
theorem dL_law_1008 : decode cL_law 1008 = .ok (.iload 4, 2) := by decide +kernel
theorem dL_law_1010 : decode cL_law 1010 = .ok (.iconst 1, 1) := by decide +kernel
theorem dL_law_1011 : decode cL_law 1011 = .ok (.iadd, 1) := by decide +kernel
theorem dL_law_1012 : decode cL_law 1012 = .ok (.iaload, 1) := by decide +kernel
theorem dL_law_1013 : decode cL_law 1013 = .ok (.invokevirtual 186, 3) := by decide +kernel
theorem dL_law_1016 : decode cL_law 1016 = .ok (.istore 6, 2) := by decide +kernel
theorem dL_law_1018 : decode cL_law 1018 = .ok (.aload_n 2, 1) := by decide +kernel
theorem dL_law_1019 : decode cL_law 1019 = .ok (.invokevirtual 145, 3) := by decide +kernel
theorem dL_law_1022 : decode cL_law 1022 = .ok (.iload 5, 2) := by decide +kernel
theorem dL_law_1024 : decode cL_law 1024 = .ok (.if_icmp .eq 5, 3) := by decide +kernel
theorem dL_law_1027 : decode cL_law 1027 = .ok (.iconst 0, 1) := by decide +kernel
theorem dL_law_1028 : decode cL_law 1028 = .ok (.ireturn, 1) := by decide +kernel
theorem dL_law_1029 : decode cL_law 1029 = .ok (.iload 5, 2) := by decide +kernel
theorem dL_law_1031 : decode cL_law 1031 = .ok (.ifCond .ne 15, 3) := by decide +kernel
theorem dL_law_1034 : decode cL_law 1034 = .ok (.aload_n 3, 1) := by decide +kernel
theorem dL_law_1035 : decode cL_law 1035 = .ok (.iconst 0, 1) := by decide +kernel
theorem dL_law_1036 : decode cL_law 1036 = .ok (.laload, 1) := by decide +kernel
theorem dL_law_1037 : decode cL_law 1037 = .ok (.iload 6, 2) := by decide +kernel
theorem dL_law_1039 : decode cL_law 1039 = .ok (.i2l, 1) := by decide +kernel
theorem dL_law_1040 : decode cL_law 1040 = .ok (.lcmp, 1) := by decide +kernel
theorem dL_law_1041 : decode cL_law 1041 = .ok (.ifCond .eq 5, 3) := by decide +kernel
theorem dL_law_1044 : decode cL_law 1044 = .ok (.iconst 0, 1) := by decide +kernel
theorem dL_law_1045 : decode cL_law 1045 = .ok (.ireturn, 1) := by decide +kernel
theorem dL_law_1046 : decode cL_law 1046 = .ok (.goto 1888, 3) := by decide +kernel
def fLa_12 (p0 p1 p2 p3 : Nat) (i : Int32) (h : mxH) : Option (Int32 × mxH) := Option.bind (ldI h p0 (i + 1)) (fun v1 => Option.bind (fL_value p1 v1 p3 h) (fun o4 => Option.bind (ldI o4.2 p0 (i + 1)) (fun v5 => Option.bind (isO o4.2 p2 10) (fun u8 => Option.bind (fX10_value p2 v5 o4.2) (fun o10 => Option.bind (isO o10.2 p2 10) (fun u12 => Option.bind (fX10_thrown p2 o10.2) (fun v14 => (if v14 = o4.1 then (if o4.1 = 0 then Option.bind (ldJ o10.2 p3 0) (fun r17 => (if (lg_cmp r17 o10.1.toInt64) = 0 then some (i + 5, o10.2) else none)) else some (i + 5, o10.2)) else none))))))))
set_option maxRecDepth 20000 in
theorem tLa_12 {l : Launch} {Z : mxZ} {X : mxX} (hl : l.stackTraces = false) (C : mxC l Z X RL cL_law 9) (hX : mxRm X = room_1) {p0 p1 p2 p3 : Nat} {i : Int32} {h : mxH} {o : Int32 × mxH} (hf : fLa_12 p0 p1 p2 p3 i h = some o) {k n : Nat} (hk : k + 8 ≤ 601024) (hn : n + 40 ≤ 7293034) (K : ∀ k2 n2, k2 ≤ k + 8 → n2 ≤ n + 40 → mG l Z X 9 k2 n2 23 [some (.ref p0), some (.ref p1), some (.ref p2), some (.ref p3), some (.int o.1), none, none, none, none] [] o.2) : mG l Z X 9 k n 993 [some (.ref p0), some (.ref p1), some (.ref p2), some (.ref p3), some (.int i), none, none, none, none] [] h := by
  unfold fLa_12 at hf
  refine mG_aload_n (pc := 993) C dL_law_993 rfl ?_
  refine mG_aload_n (pc := 994) C dL_law_994 rfl ?_
  refine mG_iload (pc := 995) C dL_law_995 rfl ?_
  refine mG_ic (pc := 997) C dL_law_997 kI1 ?_
  refine mG_iadd (pc := 998) C dL_law_998 ?_
  obtain ⟨v1, e2, hf⟩ := mx_bind hf
  refine mG_iaload (pc := 999) C dL_law_999 e2 ?_
  refine mG_aload_n (pc := 1000) C dL_law_1000 rfl ?_
  obtain ⟨o4, e3, hf⟩ := mx_bind hf
  refine mG_cSH (pc := 1001) (k' := (k + 1)) (n' := (n + 6)) [.ref p1, .int v1, .ref p3] [] C hX dL_law_1001 lkH_L_184 rfl (tL_value hl e3) rfl ⟨by show k + 1 ≤ 601024; omega, by show n + 6 ≤ 7293034; omega⟩ rfl rfl rfl ?_
  refine mG_is (ls' := [some (.ref p0), some (.ref p1), some (.ref p2), some (.ref p3), some (.int i), some (.int o4.1), none, none, none]) (pc := 1004) C dL_law_1004 rfl rfl rfl ?_
  refine mG_aload_n (pc := 1006) C dL_law_1006 rfl ?_
  refine mG_aload_n (pc := 1007) C dL_law_1007 rfl ?_
  refine mG_iload (pc := 1008) C dL_law_1008 rfl ?_
  refine mG_ic (pc := 1010) C dL_law_1010 kI1 ?_
  refine mG_iadd (pc := 1011) C dL_law_1011 ?_
  obtain ⟨v5, e6, hf⟩ := mx_bind hf
  refine mG_iaload (pc := 1012) C dL_law_1012 e6 ?_
  obtain ⟨u8, e9, hf⟩ := mx_bind hf
  obtain ⟨o10, e7, hf⟩ := mx_bind hf
  refine mG_cV2 (pc := 1013) (k' := (k + 1)) (n' := (n + 6)) 10 [.int v5] [] C hX dL_law_1013 lkV_L_186 rfl rfl e9 (tX10_value hl e7) rfl ⟨by show (k + 1) + 0 ≤ 601024; omega, by show (n + 6) + 0 ≤ 7293034; omega⟩ rfl rfl rfl ?_
  refine mG_is (ls' := [some (.ref p0), some (.ref p1), some (.ref p2), some (.ref p3), some (.int i), some (.int o4.1), some (.int o10.1), none, none]) (pc := 1016) C dL_law_1016 rfl rfl rfl ?_
  refine mG_aload_n (pc := 1018) C dL_law_1018 rfl ?_
  obtain ⟨u12, e13, hf⟩ := mx_bind hf
  obtain ⟨v14, e11, hf⟩ := mx_bind hf
  refine mG_cV2 (pc := 1019) (k' := (k + 1)) (n' := (n + 6)) 10 [] [] C hX dL_law_1019 lkV_L_145 rfl rfl e13 (tX10_thrown hl e11) rfl ⟨by show (k + 1) + 0 ≤ 601024; omega, by show (n + 6) + 0 ≤ 7293034; omega⟩ rfl rfl rfl ?_
  refine mG_iload (pc := 1022) C dL_law_1022 rfl ?_
  refine mG_icmp_eq (pc := 1024) (tgt := 1029) C dL_law_1024 (by decide) (fun q15 => ?_) (fun q15 => ?_)
  · rw [if_pos q15] at hf
    refine mG_iload (pc := 1029) C dL_law_1029 rfl ?_
    refine mG_if_ne (pc := 1031) (tgt := 1046) C dL_law_1031 (by decide) (fun q16 => ?_) (fun q16 => ?_)
    · rw [if_neg q16] at hf
      refine mG_goto (tgt := 2934) (pc := 1046) C dL_law_1046 (by decide) ?_
      refine mG_ii (ls' := [some (.ref p0), some (.ref p1), some (.ref p2), some (.ref p3), some (.int (i + 5)), some (.int o4.1), some (.int o10.1), none, none]) (pc := 2934) C dL_law_2934 rfl (kinc5 _) rfl rfl rfl ?_
      refine mG_goto (tgt := 23) (pc := 2937) C dL_law_2937 (by decide) ?_
      cases hf
      exact mG_sub (mxLe_s (mxLe_s (mxLe_s (mxLe_s (mxLe_s (mxLe_n (mxLe_n (mxLe_n (mxLe_n mxLe_z))))))))) (K _ _ (by omega) (by omega))
    · rw [if_pos q16] at hf
      refine mG_aload_n (pc := 1034) C dL_law_1034 rfl ?_
      refine mG_ic (pc := 1035) C dL_law_1035 kI0 ?_
      obtain ⟨r17, e18, hf⟩ := mx_bind hf
      refine mG_laload (pc := 1036) C dL_law_1036 e18 ?_
      refine mG_iload (pc := 1037) C dL_law_1037 rfl ?_
      refine mG_i2l (pc := 1039) C dL_law_1039 ?_
      refine mG_lcmp (pc := 1040) C dL_law_1040 ?_
      refine mG_if_eq (pc := 1041) (tgt := 1046) C dL_law_1041 (by decide) (fun q19 => ?_) (fun q19 => ?_)
      · rw [if_pos q19] at hf
        refine mG_goto (tgt := 2934) (pc := 1046) C dL_law_1046 (by decide) ?_
        refine mG_ii (ls' := [some (.ref p0), some (.ref p1), some (.ref p2), some (.ref p3), some (.int (i + 5)), some (.int o4.1), some (.int o10.1), none, none]) (pc := 2934) C dL_law_2934 rfl (kinc5 _) rfl rfl rfl ?_
        refine mG_goto (tgt := 23) (pc := 2937) C dL_law_2937 (by decide) ?_
        cases hf
        exact mG_sub (mxLe_s (mxLe_s (mxLe_s (mxLe_s (mxLe_s (mxLe_n (mxLe_n (mxLe_n (mxLe_n mxLe_z))))))))) (K _ _ (by omega) (by omega))
      · rw [if_neg q19] at hf
        cases hf
  · rw [if_neg q15] at hf
    cases hf
theorem dL_law_1049 : decode cL_law 1049 = .ok (.aload_n 1, 1) := by decide +kernel
theorem dL_law_1050 : decode cL_law 1050 = .ok (.invokevirtual 187, 3) := by decide +kernel
theorem dL_law_1053 : decode cL_law 1053 = .ok (.aload_n 2, 1) := by decide +kernel
theorem dL_law_1054 : decode cL_law 1054 = .ok (.invokevirtual 190, 3) := by decide +kernel
theorem dL_law_1057 : decode cL_law 1057 = .ok (.if_icmp .eq 1877, 3) := by decide +kernel
theorem dL_law_1060 : decode cL_law 1060 = .ok (.iconst 0, 1) := by decide +kernel
theorem dL_law_1061 : decode cL_law 1061 = .ok (.ireturn, 1) := by decide +kernel
def fLa_13 (p0 p1 p2 p3 : Nat) (i : Int32) (h : mxH) : Option (Int32 × mxH) := Option.bind (isO h p1 9) (fun u2 => Option.bind (fX9_knownCount p1 h) (fun o4 => Option.bind (isO o4.2 p2 10) (fun u6 => Option.bind (fX10_knownCount p2 o4.2) (fun o8 => (if o4.1 = o8.1 then some (i + 5, o8.2) else none)))))
set_option maxRecDepth 20000 in
theorem tLa_13 {l : Launch} {Z : mxZ} {X : mxX} (hl : l.stackTraces = false) (C : mxC l Z X RL cL_law 9) (hX : mxRm X = room_1) {p0 p1 p2 p3 : Nat} {i : Int32} {h : mxH} {o : Int32 × mxH} (hf : fLa_13 p0 p1 p2 p3 i h = some o) {k n : Nat} (hk : k + 8 ≤ 601024) (hn : n + 40 ≤ 7293034) (K : ∀ k2 n2, k2 ≤ k + 8 → n2 ≤ n + 40 → mG l Z X 9 k2 n2 23 [some (.ref p0), some (.ref p1), some (.ref p2), some (.ref p3), some (.int o.1), none, none, none, none] [] o.2) : mG l Z X 9 k n 1049 [some (.ref p0), some (.ref p1), some (.ref p2), some (.ref p3), some (.int i), none, none, none, none] [] h := by
  unfold fLa_13 at hf
  refine mG_aload_n (pc := 1049) C dL_law_1049 rfl ?_
  obtain ⟨u2, e3, hf⟩ := mx_bind hf
  obtain ⟨o4, e1, hf⟩ := mx_bind hf
  refine mG_cV2 (pc := 1050) (k' := k) (n' := n) 9 [] [] C hX dL_law_1050 lkV_L_187 rfl rfl e3 (tX9_knownCount hl e1) rfl ⟨by show k + 0 ≤ 601024; omega, by show n + 0 ≤ 7293034; omega⟩ rfl rfl rfl ?_
  refine mG_aload_n (pc := 1053) C dL_law_1053 rfl ?_
  obtain ⟨u6, e7, hf⟩ := mx_bind hf
  obtain ⟨o8, e5, hf⟩ := mx_bind hf
  refine mG_cV2 (pc := 1054) (k' := k) (n' := n) 10 [] [.int o4.1] C hX dL_law_1054 lkV_L_190 rfl rfl e7 (tX10_knownCount hl e5) rfl ⟨by show k + 0 ≤ 601024; omega, by show n + 0 ≤ 7293034; omega⟩ rfl rfl rfl ?_
  refine mG_icmp_eq (pc := 1057) (tgt := 2934) C dL_law_1057 (by decide) (fun q9 => ?_) (fun q9 => ?_)
  · rw [if_pos q9] at hf
    refine mG_ii (ls' := [some (.ref p0), some (.ref p1), some (.ref p2), some (.ref p3), some (.int (i + 5)), none, none, none, none]) (pc := 2934) C dL_law_2934 rfl (kinc5 _) rfl rfl rfl ?_
    refine mG_goto (tgt := 23) (pc := 2937) C dL_law_2937 (by decide) ?_
    cases hf
    exact mG_sub (mxLe_s (mxLe_s (mxLe_s (mxLe_s (mxLe_s (mxLe_n (mxLe_n (mxLe_n (mxLe_n mxLe_z))))))))) (K _ _ (by omega) (by omega))
  · rw [if_neg q9] at hf
    cases hf
theorem dL_law_1062 : decode cL_law 1062 = .ok (.aload_n 1, 1) := by decide +kernel
theorem dL_law_1063 : decode cL_law 1063 = .ok (.aload_n 0, 1) := by decide +kernel
theorem dL_law_1064 : decode cL_law 1064 = .ok (.iload 4, 2) := by decide +kernel
theorem dL_law_1066 : decode cL_law 1066 = .ok (.iconst 1, 1) := by decide +kernel
theorem dL_law_1067 : decode cL_law 1067 = .ok (.iadd, 1) := by decide +kernel
theorem dL_law_1068 : decode cL_law 1068 = .ok (.iaload, 1) := by decide +kernel
theorem dL_law_1069 : decode cL_law 1069 = .ok (.aload_n 3, 1) := by decide +kernel
theorem dL_law_1070 : decode cL_law 1070 = .ok (.invokestatic 191, 3) := by decide +kernel
theorem dL_law_1073 : decode cL_law 1073 = .ok (.istore 5, 2) := by decide +kernel
theorem dL_law_1075 : decode cL_law 1075 = .ok (.aload_n 2, 1) := by decide +kernel
theorem dL_law_1076 : decode cL_law 1076 = .ok (.aload_n 0, 1) := by decide +kernel
theorem dL_law_1077 : decode cL_law 1077 = .ok (.iload 4, 2) := by decide +kernel
theorem dL_law_1079 : decode cL_law 1079 = .ok (.iconst 1, 1) := by decide +kernel
theorem dL_law_1080 : decode cL_law 1080 = .ok (.iadd, 1) := by decide +kernel
theorem dL_law_1081 : decode cL_law 1081 = .ok (.iaload, 1) := by decide +kernel
theorem dL_law_1082 : decode cL_law 1082 = .ok (.invokevirtual 193, 3) := by decide +kernel
theorem dL_law_1085 : decode cL_law 1085 = .ok (.istore 6, 2) := by decide +kernel
theorem dL_law_1087 : decode cL_law 1087 = .ok (.aload_n 2, 1) := by decide +kernel
theorem dL_law_1088 : decode cL_law 1088 = .ok (.invokevirtual 145, 3) := by decide +kernel
theorem dL_law_1091 : decode cL_law 1091 = .ok (.iload 5, 2) := by decide +kernel
theorem dL_law_1093 : decode cL_law 1093 = .ok (.if_icmp .eq 5, 3) := by decide +kernel
theorem dL_law_1096 : decode cL_law 1096 = .ok (.iconst 0, 1) := by decide +kernel
theorem dL_law_1097 : decode cL_law 1097 = .ok (.ireturn, 1) := by decide +kernel
theorem dL_law_1098 : decode cL_law 1098 = .ok (.iload 5, 2) := by decide +kernel
theorem dL_law_1100 : decode cL_law 1100 = .ok (.ifCond .ne 15, 3) := by decide +kernel
theorem dL_law_1103 : decode cL_law 1103 = .ok (.aload_n 3, 1) := by decide +kernel
theorem dL_law_1104 : decode cL_law 1104 = .ok (.iconst 0, 1) := by decide +kernel
theorem dL_law_1105 : decode cL_law 1105 = .ok (.laload, 1) := by decide +kernel
theorem dL_law_1106 : decode cL_law 1106 = .ok (.iload 6, 2) := by decide +kernel
theorem dL_law_1108 : decode cL_law 1108 = .ok (.i2l, 1) := by decide +kernel
theorem dL_law_1109 : decode cL_law 1109 = .ok (.lcmp, 1) := by decide +kernel
theorem dL_law_1110 : decode cL_law 1110 = .ok (.ifCond .eq 5, 3) := by decide +kernel
theorem dL_law_1113 : decode cL_law 1113 = .ok (.iconst 0, 1) := by decide +kernel
theorem dL_law_1114 : decode cL_law 1114 = .ok (.ireturn, 1) := by decide +kernel
theorem dL_law_1115 : decode cL_law 1115 = .ok (.goto 1819, 3) := by decide +kernel
def fLa_14 (p0 p1 p2 p3 : Nat) (i : Int32) (h : mxH) : Option (Int32 × mxH) := Option.bind (ldI h p0 (i + 1)) (fun v1 => Option.bind (fL_ranked p1 v1 p3 h) (fun o4 => Option.bind (ldI o4.2 p0 (i + 1)) (fun v5 => Option.bind (isO o4.2 p2 10) (fun u8 => Option.bind (fX10_ranked p2 v5 o4.2) (fun o10 => Option.bind (isO o10.2 p2 10) (fun u12 => Option.bind (fX10_thrown p2 o10.2) (fun v14 => (if v14 = o4.1 then (if o4.1 = 0 then Option.bind (ldJ o10.2 p3 0) (fun r17 => (if (lg_cmp r17 o10.1.toInt64) = 0 then some (i + 5, o10.2) else none)) else some (i + 5, o10.2)) else none))))))))
set_option maxRecDepth 20000 in
theorem tLa_14 {l : Launch} {Z : mxZ} {X : mxX} (hl : l.stackTraces = false) (C : mxC l Z X RL cL_law 9) (hX : mxRm X = room_1) {p0 p1 p2 p3 : Nat} {i : Int32} {h : mxH} {o : Int32 × mxH} (hf : fLa_14 p0 p1 p2 p3 i h = some o) {k n : Nat} (hk : k + 8 ≤ 601024) (hn : n + 40 ≤ 7293034) (K : ∀ k2 n2, k2 ≤ k + 8 → n2 ≤ n + 40 → mG l Z X 9 k2 n2 23 [some (.ref p0), some (.ref p1), some (.ref p2), some (.ref p3), some (.int o.1), none, none, none, none] [] o.2) : mG l Z X 9 k n 1062 [some (.ref p0), some (.ref p1), some (.ref p2), some (.ref p3), some (.int i), none, none, none, none] [] h := by
  unfold fLa_14 at hf
  refine mG_aload_n (pc := 1062) C dL_law_1062 rfl ?_
  refine mG_aload_n (pc := 1063) C dL_law_1063 rfl ?_
  refine mG_iload (pc := 1064) C dL_law_1064 rfl ?_
  refine mG_ic (pc := 1066) C dL_law_1066 kI1 ?_
  refine mG_iadd (pc := 1067) C dL_law_1067 ?_
  obtain ⟨v1, e2, hf⟩ := mx_bind hf
  refine mG_iaload (pc := 1068) C dL_law_1068 e2 ?_
  refine mG_aload_n (pc := 1069) C dL_law_1069 rfl ?_
  obtain ⟨o4, e3, hf⟩ := mx_bind hf
  refine mG_cSH (pc := 1070) (k' := (k + 1)) (n' := (n + 6)) [.ref p1, .int v1, .ref p3] [] C hX dL_law_1070 lkH_L_191 rfl (tL_ranked hl e3) rfl ⟨by show k + 1 ≤ 601024; omega, by show n + 6 ≤ 7293034; omega⟩ rfl rfl rfl ?_
  refine mG_is (ls' := [some (.ref p0), some (.ref p1), some (.ref p2), some (.ref p3), some (.int i), some (.int o4.1), none, none, none]) (pc := 1073) C dL_law_1073 rfl rfl rfl ?_
  refine mG_aload_n (pc := 1075) C dL_law_1075 rfl ?_
  refine mG_aload_n (pc := 1076) C dL_law_1076 rfl ?_
  refine mG_iload (pc := 1077) C dL_law_1077 rfl ?_
  refine mG_ic (pc := 1079) C dL_law_1079 kI1 ?_
  refine mG_iadd (pc := 1080) C dL_law_1080 ?_
  obtain ⟨v5, e6, hf⟩ := mx_bind hf
  refine mG_iaload (pc := 1081) C dL_law_1081 e6 ?_
  obtain ⟨u8, e9, hf⟩ := mx_bind hf
  obtain ⟨o10, e7, hf⟩ := mx_bind hf
  refine mG_cV2 (pc := 1082) (k' := (k + 1)) (n' := (n + 6)) 10 [.int v5] [] C hX dL_law_1082 lkV_L_193 rfl rfl e9 (tX10_ranked hl e7) rfl ⟨by show (k + 1) + 0 ≤ 601024; omega, by show (n + 6) + 0 ≤ 7293034; omega⟩ rfl rfl rfl ?_
  refine mG_is (ls' := [some (.ref p0), some (.ref p1), some (.ref p2), some (.ref p3), some (.int i), some (.int o4.1), some (.int o10.1), none, none]) (pc := 1085) C dL_law_1085 rfl rfl rfl ?_
  refine mG_aload_n (pc := 1087) C dL_law_1087 rfl ?_
  obtain ⟨u12, e13, hf⟩ := mx_bind hf
  obtain ⟨v14, e11, hf⟩ := mx_bind hf
  refine mG_cV2 (pc := 1088) (k' := (k + 1)) (n' := (n + 6)) 10 [] [] C hX dL_law_1088 lkV_L_145 rfl rfl e13 (tX10_thrown hl e11) rfl ⟨by show (k + 1) + 0 ≤ 601024; omega, by show (n + 6) + 0 ≤ 7293034; omega⟩ rfl rfl rfl ?_
  refine mG_iload (pc := 1091) C dL_law_1091 rfl ?_
  refine mG_icmp_eq (pc := 1093) (tgt := 1098) C dL_law_1093 (by decide) (fun q15 => ?_) (fun q15 => ?_)
  · rw [if_pos q15] at hf
    refine mG_iload (pc := 1098) C dL_law_1098 rfl ?_
    refine mG_if_ne (pc := 1100) (tgt := 1115) C dL_law_1100 (by decide) (fun q16 => ?_) (fun q16 => ?_)
    · rw [if_neg q16] at hf
      refine mG_goto (tgt := 2934) (pc := 1115) C dL_law_1115 (by decide) ?_
      refine mG_ii (ls' := [some (.ref p0), some (.ref p1), some (.ref p2), some (.ref p3), some (.int (i + 5)), some (.int o4.1), some (.int o10.1), none, none]) (pc := 2934) C dL_law_2934 rfl (kinc5 _) rfl rfl rfl ?_
      refine mG_goto (tgt := 23) (pc := 2937) C dL_law_2937 (by decide) ?_
      cases hf
      exact mG_sub (mxLe_s (mxLe_s (mxLe_s (mxLe_s (mxLe_s (mxLe_n (mxLe_n (mxLe_n (mxLe_n mxLe_z))))))))) (K _ _ (by omega) (by omega))
    · rw [if_pos q16] at hf
      refine mG_aload_n (pc := 1103) C dL_law_1103 rfl ?_
      refine mG_ic (pc := 1104) C dL_law_1104 kI0 ?_
      obtain ⟨r17, e18, hf⟩ := mx_bind hf
      refine mG_laload (pc := 1105) C dL_law_1105 e18 ?_
      refine mG_iload (pc := 1106) C dL_law_1106 rfl ?_
      refine mG_i2l (pc := 1108) C dL_law_1108 ?_
      refine mG_lcmp (pc := 1109) C dL_law_1109 ?_
      refine mG_if_eq (pc := 1110) (tgt := 1115) C dL_law_1110 (by decide) (fun q19 => ?_) (fun q19 => ?_)
      · rw [if_pos q19] at hf
        refine mG_goto (tgt := 2934) (pc := 1115) C dL_law_1115 (by decide) ?_
        refine mG_ii (ls' := [some (.ref p0), some (.ref p1), some (.ref p2), some (.ref p3), some (.int (i + 5)), some (.int o4.1), some (.int o10.1), none, none]) (pc := 2934) C dL_law_2934 rfl (kinc5 _) rfl rfl rfl ?_
        refine mG_goto (tgt := 23) (pc := 2937) C dL_law_2937 (by decide) ?_
        cases hf
        exact mG_sub (mxLe_s (mxLe_s (mxLe_s (mxLe_s (mxLe_s (mxLe_n (mxLe_n (mxLe_n (mxLe_n mxLe_z))))))))) (K _ _ (by omega) (by omega))
      · rw [if_neg q19] at hf
        cases hf
  · rw [if_neg q15] at hf
    cases hf
theorem dL_law_1118 : decode cL_law 1118 = .ok (.aload_n 1, 1) := by decide +kernel
theorem dL_law_1119 : decode cL_law 1119 = .ok (.aload_n 0, 1) := by decide +kernel
theorem dL_law_1120 : decode cL_law 1120 = .ok (.iload 4, 2) := by decide +kernel
theorem dL_law_1122 : decode cL_law 1122 = .ok (.iconst 1, 1) := by decide +kernel
theorem dL_law_1123 : decode cL_law 1123 = .ok (.iadd, 1) := by decide +kernel
theorem dL_law_1124 : decode cL_law 1124 = .ok (.iaload, 1) := by decide +kernel
theorem dL_law_1125 : decode cL_law 1125 = .ok (.aload_n 3, 1) := by decide +kernel
theorem dL_law_1126 : decode cL_law 1126 = .ok (.invokestatic 194, 3) := by decide +kernel
theorem dL_law_1129 : decode cL_law 1129 = .ok (.istore 5, 2) := by decide +kernel
theorem dL_law_1131 : decode cL_law 1131 = .ok (.aload_n 2, 1) := by decide +kernel
theorem dL_law_1132 : decode cL_law 1132 = .ok (.aload_n 0, 1) := by decide +kernel
theorem dL_law_1133 : decode cL_law 1133 = .ok (.iload 4, 2) := by decide +kernel
theorem dL_law_1135 : decode cL_law 1135 = .ok (.iconst 1, 1) := by decide +kernel
theorem dL_law_1136 : decode cL_law 1136 = .ok (.iadd, 1) := by decide +kernel
theorem dL_law_1137 : decode cL_law 1137 = .ok (.iaload, 1) := by decide +kernel
theorem dL_law_1138 : decode cL_law 1138 = .ok (.invokevirtual 196, 3) := by decide +kernel
theorem dL_law_1141 : decode cL_law 1141 = .ok (.istore 6, 2) := by decide +kernel
theorem dL_law_1143 : decode cL_law 1143 = .ok (.aload_n 2, 1) := by decide +kernel
theorem dL_law_1144 : decode cL_law 1144 = .ok (.invokevirtual 145, 3) := by decide +kernel
theorem dL_law_1147 : decode cL_law 1147 = .ok (.iload 5, 2) := by decide +kernel
theorem dL_law_1149 : decode cL_law 1149 = .ok (.if_icmp .eq 5, 3) := by decide +kernel
theorem dL_law_1152 : decode cL_law 1152 = .ok (.iconst 0, 1) := by decide +kernel
theorem dL_law_1153 : decode cL_law 1153 = .ok (.ireturn, 1) := by decide +kernel
theorem dL_law_1154 : decode cL_law 1154 = .ok (.iload 5, 2) := by decide +kernel
theorem dL_law_1156 : decode cL_law 1156 = .ok (.ifCond .ne 15, 3) := by decide +kernel
theorem dL_law_1159 : decode cL_law 1159 = .ok (.aload_n 3, 1) := by decide +kernel
theorem dL_law_1160 : decode cL_law 1160 = .ok (.iconst 0, 1) := by decide +kernel
theorem dL_law_1161 : decode cL_law 1161 = .ok (.laload, 1) := by decide +kernel
theorem dL_law_1162 : decode cL_law 1162 = .ok (.iload 6, 2) := by decide +kernel
theorem dL_law_1164 : decode cL_law 1164 = .ok (.i2l, 1) := by decide +kernel
theorem dL_law_1165 : decode cL_law 1165 = .ok (.lcmp, 1) := by decide +kernel
theorem dL_law_1166 : decode cL_law 1166 = .ok (.ifCond .eq 5, 3) := by decide +kernel
theorem dL_law_1169 : decode cL_law 1169 = .ok (.iconst 0, 1) := by decide +kernel
theorem dL_law_1170 : decode cL_law 1170 = .ok (.ireturn, 1) := by decide +kernel
theorem dL_law_1171 : decode cL_law 1171 = .ok (.goto 1763, 3) := by decide +kernel
def fLa_15 (p0 p1 p2 p3 : Nat) (i : Int32) (h : mxH) : Option (Int32 × mxH) := Option.bind (ldI h p0 (i + 1)) (fun v1 => Option.bind (fL_rankOf p1 v1 p3 h) (fun o4 => Option.bind (ldI o4.2 p0 (i + 1)) (fun v5 => Option.bind (isO o4.2 p2 10) (fun u8 => Option.bind (fX10_rankOf p2 v5 o4.2) (fun o10 => Option.bind (isO o10.2 p2 10) (fun u12 => Option.bind (fX10_thrown p2 o10.2) (fun v14 => (if v14 = o4.1 then (if o4.1 = 0 then Option.bind (ldJ o10.2 p3 0) (fun r17 => (if (lg_cmp r17 o10.1.toInt64) = 0 then some (i + 5, o10.2) else none)) else some (i + 5, o10.2)) else none))))))))
set_option maxRecDepth 20000 in
theorem tLa_15 {l : Launch} {Z : mxZ} {X : mxX} (hl : l.stackTraces = false) (C : mxC l Z X RL cL_law 9) (hX : mxRm X = room_1) {p0 p1 p2 p3 : Nat} {i : Int32} {h : mxH} {o : Int32 × mxH} (hf : fLa_15 p0 p1 p2 p3 i h = some o) {k n : Nat} (hk : k + 8 ≤ 601024) (hn : n + 40 ≤ 7293034) (K : ∀ k2 n2, k2 ≤ k + 8 → n2 ≤ n + 40 → mG l Z X 9 k2 n2 23 [some (.ref p0), some (.ref p1), some (.ref p2), some (.ref p3), some (.int o.1), none, none, none, none] [] o.2) : mG l Z X 9 k n 1118 [some (.ref p0), some (.ref p1), some (.ref p2), some (.ref p3), some (.int i), none, none, none, none] [] h := by
  unfold fLa_15 at hf
  refine mG_aload_n (pc := 1118) C dL_law_1118 rfl ?_
  refine mG_aload_n (pc := 1119) C dL_law_1119 rfl ?_
  refine mG_iload (pc := 1120) C dL_law_1120 rfl ?_
  refine mG_ic (pc := 1122) C dL_law_1122 kI1 ?_
  refine mG_iadd (pc := 1123) C dL_law_1123 ?_
  obtain ⟨v1, e2, hf⟩ := mx_bind hf
  refine mG_iaload (pc := 1124) C dL_law_1124 e2 ?_
  refine mG_aload_n (pc := 1125) C dL_law_1125 rfl ?_
  obtain ⟨o4, e3, hf⟩ := mx_bind hf
  refine mG_cSH (pc := 1126) (k' := (k + 2)) (n' := (n + 12)) [.ref p1, .int v1, .ref p3] [] C hX dL_law_1126 lkH_L_194 rfl (tL_rankOf hl e3) rfl ⟨by show k + 2 ≤ 601024; omega, by show n + 12 ≤ 7293034; omega⟩ rfl rfl rfl ?_
  refine mG_is (ls' := [some (.ref p0), some (.ref p1), some (.ref p2), some (.ref p3), some (.int i), some (.int o4.1), none, none, none]) (pc := 1129) C dL_law_1129 rfl rfl rfl ?_
  refine mG_aload_n (pc := 1131) C dL_law_1131 rfl ?_
  refine mG_aload_n (pc := 1132) C dL_law_1132 rfl ?_
  refine mG_iload (pc := 1133) C dL_law_1133 rfl ?_
  refine mG_ic (pc := 1135) C dL_law_1135 kI1 ?_
  refine mG_iadd (pc := 1136) C dL_law_1136 ?_
  obtain ⟨v5, e6, hf⟩ := mx_bind hf
  refine mG_iaload (pc := 1137) C dL_law_1137 e6 ?_
  obtain ⟨u8, e9, hf⟩ := mx_bind hf
  obtain ⟨o10, e7, hf⟩ := mx_bind hf
  refine mG_cV2 (pc := 1138) (k' := (k + 2)) (n' := (n + 12)) 10 [.int v5] [] C hX dL_law_1138 lkV_L_196 rfl rfl e9 (tX10_rankOf hl e7) rfl ⟨by show (k + 2) + 0 ≤ 601024; omega, by show (n + 12) + 0 ≤ 7293034; omega⟩ rfl rfl rfl ?_
  refine mG_is (ls' := [some (.ref p0), some (.ref p1), some (.ref p2), some (.ref p3), some (.int i), some (.int o4.1), some (.int o10.1), none, none]) (pc := 1141) C dL_law_1141 rfl rfl rfl ?_
  refine mG_aload_n (pc := 1143) C dL_law_1143 rfl ?_
  obtain ⟨u12, e13, hf⟩ := mx_bind hf
  obtain ⟨v14, e11, hf⟩ := mx_bind hf
  refine mG_cV2 (pc := 1144) (k' := (k + 2)) (n' := (n + 12)) 10 [] [] C hX dL_law_1144 lkV_L_145 rfl rfl e13 (tX10_thrown hl e11) rfl ⟨by show (k + 2) + 0 ≤ 601024; omega, by show (n + 12) + 0 ≤ 7293034; omega⟩ rfl rfl rfl ?_
  refine mG_iload (pc := 1147) C dL_law_1147 rfl ?_
  refine mG_icmp_eq (pc := 1149) (tgt := 1154) C dL_law_1149 (by decide) (fun q15 => ?_) (fun q15 => ?_)
  · rw [if_pos q15] at hf
    refine mG_iload (pc := 1154) C dL_law_1154 rfl ?_
    refine mG_if_ne (pc := 1156) (tgt := 1171) C dL_law_1156 (by decide) (fun q16 => ?_) (fun q16 => ?_)
    · rw [if_neg q16] at hf
      refine mG_goto (tgt := 2934) (pc := 1171) C dL_law_1171 (by decide) ?_
      refine mG_ii (ls' := [some (.ref p0), some (.ref p1), some (.ref p2), some (.ref p3), some (.int (i + 5)), some (.int o4.1), some (.int o10.1), none, none]) (pc := 2934) C dL_law_2934 rfl (kinc5 _) rfl rfl rfl ?_
      refine mG_goto (tgt := 23) (pc := 2937) C dL_law_2937 (by decide) ?_
      cases hf
      exact mG_sub (mxLe_s (mxLe_s (mxLe_s (mxLe_s (mxLe_s (mxLe_n (mxLe_n (mxLe_n (mxLe_n mxLe_z))))))))) (K _ _ (by omega) (by omega))
    · rw [if_pos q16] at hf
      refine mG_aload_n (pc := 1159) C dL_law_1159 rfl ?_
      refine mG_ic (pc := 1160) C dL_law_1160 kI0 ?_
      obtain ⟨r17, e18, hf⟩ := mx_bind hf
      refine mG_laload (pc := 1161) C dL_law_1161 e18 ?_
      refine mG_iload (pc := 1162) C dL_law_1162 rfl ?_
      refine mG_i2l (pc := 1164) C dL_law_1164 ?_
      refine mG_lcmp (pc := 1165) C dL_law_1165 ?_
      refine mG_if_eq (pc := 1166) (tgt := 1171) C dL_law_1166 (by decide) (fun q19 => ?_) (fun q19 => ?_)
      · rw [if_pos q19] at hf
        refine mG_goto (tgt := 2934) (pc := 1171) C dL_law_1171 (by decide) ?_
        refine mG_ii (ls' := [some (.ref p0), some (.ref p1), some (.ref p2), some (.ref p3), some (.int (i + 5)), some (.int o4.1), some (.int o10.1), none, none]) (pc := 2934) C dL_law_2934 rfl (kinc5 _) rfl rfl rfl ?_
        refine mG_goto (tgt := 23) (pc := 2937) C dL_law_2937 (by decide) ?_
        cases hf
        exact mG_sub (mxLe_s (mxLe_s (mxLe_s (mxLe_s (mxLe_s (mxLe_n (mxLe_n (mxLe_n (mxLe_n mxLe_z))))))))) (K _ _ (by omega) (by omega))
      · rw [if_neg q19] at hf
        cases hf
  · rw [if_neg q15] at hf
    cases hf
theorem dL_law_1174 : decode cL_law 1174 = .ok (.aload_n 1, 1) := by decide +kernel
theorem dL_law_1175 : decode cL_law 1175 = .ok (.aload_n 0, 1) := by decide +kernel
theorem dL_law_1176 : decode cL_law 1176 = .ok (.iload 4, 2) := by decide +kernel
theorem dL_law_1178 : decode cL_law 1178 = .ok (.iconst 1, 1) := by decide +kernel
theorem dL_law_1179 : decode cL_law 1179 = .ok (.iadd, 1) := by decide +kernel
theorem dL_law_1180 : decode cL_law 1180 = .ok (.iaload, 1) := by decide +kernel
theorem dL_law_1181 : decode cL_law 1181 = .ok (.aload_n 3, 1) := by decide +kernel
theorem dL_law_1182 : decode cL_law 1182 = .ok (.invokestatic 197, 3) := by decide +kernel
theorem dL_law_1185 : decode cL_law 1185 = .ok (.istore 5, 2) := by decide +kernel
theorem dL_law_1187 : decode cL_law 1187 = .ok (.aload_n 2, 1) := by decide +kernel
theorem dL_law_1188 : decode cL_law 1188 = .ok (.aload_n 0, 1) := by decide +kernel
theorem dL_law_1189 : decode cL_law 1189 = .ok (.iload 4, 2) := by decide +kernel
theorem dL_law_1191 : decode cL_law 1191 = .ok (.iconst 1, 1) := by decide +kernel
theorem dL_law_1192 : decode cL_law 1192 = .ok (.iadd, 1) := by decide +kernel
theorem dL_law_1193 : decode cL_law 1193 = .ok (.iaload, 1) := by decide +kernel
theorem dL_law_1194 : decode cL_law 1194 = .ok (.invokevirtual 199, 3) := by decide +kernel
theorem dL_law_1197 : decode cL_law 1197 = .ok (.istore 6, 2) := by decide +kernel
theorem dL_law_1199 : decode cL_law 1199 = .ok (.aload_n 2, 1) := by decide +kernel
theorem dL_law_1200 : decode cL_law 1200 = .ok (.invokevirtual 145, 3) := by decide +kernel
theorem dL_law_1203 : decode cL_law 1203 = .ok (.iload 5, 2) := by decide +kernel
theorem dL_law_1205 : decode cL_law 1205 = .ok (.if_icmp .eq 5, 3) := by decide +kernel
theorem dL_law_1208 : decode cL_law 1208 = .ok (.iconst 0, 1) := by decide +kernel
theorem dL_law_1209 : decode cL_law 1209 = .ok (.ireturn, 1) := by decide +kernel
theorem dL_law_1210 : decode cL_law 1210 = .ok (.iload 5, 2) := by decide +kernel
theorem dL_law_1212 : decode cL_law 1212 = .ok (.ifCond .ne 15, 3) := by decide +kernel
theorem dL_law_1215 : decode cL_law 1215 = .ok (.aload_n 3, 1) := by decide +kernel
theorem dL_law_1216 : decode cL_law 1216 = .ok (.iconst 0, 1) := by decide +kernel
theorem dL_law_1217 : decode cL_law 1217 = .ok (.laload, 1) := by decide +kernel
theorem dL_law_1218 : decode cL_law 1218 = .ok (.iload 6, 2) := by decide +kernel
theorem dL_law_1220 : decode cL_law 1220 = .ok (.i2l, 1) := by decide +kernel
theorem dL_law_1221 : decode cL_law 1221 = .ok (.lcmp, 1) := by decide +kernel
theorem dL_law_1222 : decode cL_law 1222 = .ok (.ifCond .eq 5, 3) := by decide +kernel
theorem dL_law_1225 : decode cL_law 1225 = .ok (.iconst 0, 1) := by decide +kernel
theorem dL_law_1226 : decode cL_law 1226 = .ok (.ireturn, 1) := by decide +kernel
theorem dL_law_1227 : decode cL_law 1227 = .ok (.goto 1707, 3) := by decide +kernel
def fLa_16 (p0 p1 p2 p3 : Nat) (i : Int32) (h : mxH) : Option (Int32 × mxH) := Option.bind (ldI h p0 (i + 1)) (fun v1 => Option.bind (fL_limit p1 v1 p3 h) (fun o4 => Option.bind (ldI o4.2 p0 (i + 1)) (fun v5 => Option.bind (isO o4.2 p2 10) (fun u8 => Option.bind (fX10_limit p2 v5 o4.2) (fun o10 => Option.bind (isO o10.2 p2 10) (fun u12 => Option.bind (fX10_thrown p2 o10.2) (fun v14 => (if v14 = o4.1 then (if o4.1 = 0 then Option.bind (ldJ o10.2 p3 0) (fun r17 => (if (lg_cmp r17 o10.1.toInt64) = 0 then some (i + 5, o10.2) else none)) else some (i + 5, o10.2)) else none))))))))
set_option maxRecDepth 20000 in
theorem tLa_16 {l : Launch} {Z : mxZ} {X : mxX} (hl : l.stackTraces = false) (C : mxC l Z X RL cL_law 9) (hX : mxRm X = room_1) {p0 p1 p2 p3 : Nat} {i : Int32} {h : mxH} {o : Int32 × mxH} (hf : fLa_16 p0 p1 p2 p3 i h = some o) {k n : Nat} (hk : k + 8 ≤ 601024) (hn : n + 40 ≤ 7293034) (K : ∀ k2 n2, k2 ≤ k + 8 → n2 ≤ n + 40 → mG l Z X 9 k2 n2 23 [some (.ref p0), some (.ref p1), some (.ref p2), some (.ref p3), some (.int o.1), none, none, none, none] [] o.2) : mG l Z X 9 k n 1174 [some (.ref p0), some (.ref p1), some (.ref p2), some (.ref p3), some (.int i), none, none, none, none] [] h := by
  unfold fLa_16 at hf
  refine mG_aload_n (pc := 1174) C dL_law_1174 rfl ?_
  refine mG_aload_n (pc := 1175) C dL_law_1175 rfl ?_
  refine mG_iload (pc := 1176) C dL_law_1176 rfl ?_
  refine mG_ic (pc := 1178) C dL_law_1178 kI1 ?_
  refine mG_iadd (pc := 1179) C dL_law_1179 ?_
  obtain ⟨v1, e2, hf⟩ := mx_bind hf
  refine mG_iaload (pc := 1180) C dL_law_1180 e2 ?_
  refine mG_aload_n (pc := 1181) C dL_law_1181 rfl ?_
  obtain ⟨o4, e3, hf⟩ := mx_bind hf
  refine mG_cSH (pc := 1182) (k' := (k + 1)) (n' := (n + 6)) [.ref p1, .int v1, .ref p3] [] C hX dL_law_1182 lkH_L_197 rfl (tL_limit hl e3) rfl ⟨by show k + 1 ≤ 601024; omega, by show n + 6 ≤ 7293034; omega⟩ rfl rfl rfl ?_
  refine mG_is (ls' := [some (.ref p0), some (.ref p1), some (.ref p2), some (.ref p3), some (.int i), some (.int o4.1), none, none, none]) (pc := 1185) C dL_law_1185 rfl rfl rfl ?_
  refine mG_aload_n (pc := 1187) C dL_law_1187 rfl ?_
  refine mG_aload_n (pc := 1188) C dL_law_1188 rfl ?_
  refine mG_iload (pc := 1189) C dL_law_1189 rfl ?_
  refine mG_ic (pc := 1191) C dL_law_1191 kI1 ?_
  refine mG_iadd (pc := 1192) C dL_law_1192 ?_
  obtain ⟨v5, e6, hf⟩ := mx_bind hf
  refine mG_iaload (pc := 1193) C dL_law_1193 e6 ?_
  obtain ⟨u8, e9, hf⟩ := mx_bind hf
  obtain ⟨o10, e7, hf⟩ := mx_bind hf
  refine mG_cV2 (pc := 1194) (k' := (k + 1)) (n' := (n + 6)) 10 [.int v5] [] C hX dL_law_1194 lkV_L_199 rfl rfl e9 (tX10_limit hl e7) rfl ⟨by show (k + 1) + 0 ≤ 601024; omega, by show (n + 6) + 0 ≤ 7293034; omega⟩ rfl rfl rfl ?_
  refine mG_is (ls' := [some (.ref p0), some (.ref p1), some (.ref p2), some (.ref p3), some (.int i), some (.int o4.1), some (.int o10.1), none, none]) (pc := 1197) C dL_law_1197 rfl rfl rfl ?_
  refine mG_aload_n (pc := 1199) C dL_law_1199 rfl ?_
  obtain ⟨u12, e13, hf⟩ := mx_bind hf
  obtain ⟨v14, e11, hf⟩ := mx_bind hf
  refine mG_cV2 (pc := 1200) (k' := (k + 1)) (n' := (n + 6)) 10 [] [] C hX dL_law_1200 lkV_L_145 rfl rfl e13 (tX10_thrown hl e11) rfl ⟨by show (k + 1) + 0 ≤ 601024; omega, by show (n + 6) + 0 ≤ 7293034; omega⟩ rfl rfl rfl ?_
  refine mG_iload (pc := 1203) C dL_law_1203 rfl ?_
  refine mG_icmp_eq (pc := 1205) (tgt := 1210) C dL_law_1205 (by decide) (fun q15 => ?_) (fun q15 => ?_)
  · rw [if_pos q15] at hf
    refine mG_iload (pc := 1210) C dL_law_1210 rfl ?_
    refine mG_if_ne (pc := 1212) (tgt := 1227) C dL_law_1212 (by decide) (fun q16 => ?_) (fun q16 => ?_)
    · rw [if_neg q16] at hf
      refine mG_goto (tgt := 2934) (pc := 1227) C dL_law_1227 (by decide) ?_
      refine mG_ii (ls' := [some (.ref p0), some (.ref p1), some (.ref p2), some (.ref p3), some (.int (i + 5)), some (.int o4.1), some (.int o10.1), none, none]) (pc := 2934) C dL_law_2934 rfl (kinc5 _) rfl rfl rfl ?_
      refine mG_goto (tgt := 23) (pc := 2937) C dL_law_2937 (by decide) ?_
      cases hf
      exact mG_sub (mxLe_s (mxLe_s (mxLe_s (mxLe_s (mxLe_s (mxLe_n (mxLe_n (mxLe_n (mxLe_n mxLe_z))))))))) (K _ _ (by omega) (by omega))
    · rw [if_pos q16] at hf
      refine mG_aload_n (pc := 1215) C dL_law_1215 rfl ?_
      refine mG_ic (pc := 1216) C dL_law_1216 kI0 ?_
      obtain ⟨r17, e18, hf⟩ := mx_bind hf
      refine mG_laload (pc := 1217) C dL_law_1217 e18 ?_
      refine mG_iload (pc := 1218) C dL_law_1218 rfl ?_
      refine mG_i2l (pc := 1220) C dL_law_1220 ?_
      refine mG_lcmp (pc := 1221) C dL_law_1221 ?_
      refine mG_if_eq (pc := 1222) (tgt := 1227) C dL_law_1222 (by decide) (fun q19 => ?_) (fun q19 => ?_)
      · rw [if_pos q19] at hf
        refine mG_goto (tgt := 2934) (pc := 1227) C dL_law_1227 (by decide) ?_
        refine mG_ii (ls' := [some (.ref p0), some (.ref p1), some (.ref p2), some (.ref p3), some (.int (i + 5)), some (.int o4.1), some (.int o10.1), none, none]) (pc := 2934) C dL_law_2934 rfl (kinc5 _) rfl rfl rfl ?_
        refine mG_goto (tgt := 23) (pc := 2937) C dL_law_2937 (by decide) ?_
        cases hf
        exact mG_sub (mxLe_s (mxLe_s (mxLe_s (mxLe_s (mxLe_s (mxLe_n (mxLe_n (mxLe_n (mxLe_n mxLe_z))))))))) (K _ _ (by omega) (by omega))
      · rw [if_neg q19] at hf
        cases hf
  · rw [if_neg q15] at hf
    cases hf
