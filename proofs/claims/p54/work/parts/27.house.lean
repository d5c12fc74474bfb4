/-! printed by wip/gen/emit.py: for each method its function on the mini machine, and that the machine walks as the function says -/
theorem dX9_requireRange_0 : decode cX9_requireRange 0 = .ok (.iload_n 0, 1) := by decide +kernel
theorem dX9_requireRange_1 : decode cX9_requireRange 1 = .ok (.iload_n 1, 1) := by decide +kernel
theorem dX9_requireRange_2 : decode cX9_requireRange 2 = .ok (.if_icmp .lt 8, 3) := by decide +kernel
theorem dX9_requireRange_5 : decode cX9_requireRange 5 = .ok (.iload_n 0, 1) := by decide +kernel
theorem dX9_requireRange_6 : decode cX9_requireRange 6 = .ok (.iload_n 2, 1) := by decide +kernel
theorem dX9_requireRange_7 : decode cX9_requireRange 7 = .ok (.if_icmp .le 14, 3) := by decide +kernel
theorem dX9_requireRange_10 : decode cX9_requireRange 10 = .ok (.new 216, 3) := by decide +kernel
theorem dX9_requireRange_13 : decode cX9_requireRange 13 = .ok (.dup, 1) := by decide +kernel
theorem dX9_requireRange_14 : decode cX9_requireRange 14 = .ok (.ldc_w 322, 3) := by decide +kernel
theorem dX9_requireRange_17 : decode cX9_requireRange 17 = .ok (.invokespecial 220, 3) := by decide +kernel
theorem dX9_requireRange_20 : decode cX9_requireRange 20 = .ok (.athrow, 1) := by decide +kernel
theorem dX9_requireRange_21 : decode cX9_requireRange 21 = .ok (.return_, 1) := by decide +kernel
def fX9_requireRange (p0 : Int32) (p1 : Int32) (p2 : Int32) (h : mxH) : Option ((Unit ⊕ String) × mxH) := (if p0 < p1 then some (Sum.inr "java/lang/IllegalArgumentException", mxThr h) else (if p0 ≤ p2 then some (Sum.inl (), h) else some (Sum.inr "java/lang/IllegalArgumentException", mxThr h)))
abbrev rmX9_requireRange : Room := { frames := 6, cells := 1, slots := 6, locals := 101 }
set_option maxRecDepth 20000 in
theorem tX9_requireRange {l : Launch} {Z : mxZ} (hl : l.stackTraces = false) {p0 : Int32} {p1 : Int32} {p2 : Int32} {h : mxH} {out : ((Unit ⊕ String) × mxH)} (hf : fX9_requireRange p0 p1 p2 h = some out) : mxMet l Z yX9_requireRange cX9_requireRange 3 (none) rmX9_requireRange [.int p0, .int p1, .int p2] h (mxRU out.1) out.2 := by
  refine mxMet_of (by decide) hl (by simp [Value.category]) (Nat.le_of_ble_eq_true rfl) ?_
  intro X C E hX hin
  unfold fX9_requireRange at hf
  refine mG_iload_n (pc := 0) C dX9_requireRange_0 rfl ?_
  refine mG_iload_n (pc := 1) C dX9_requireRange_1 rfl ?_
  refine mG_icmp_lt (pc := 2) (tgt := 10) C dX9_requireRange_2 (by decide) (fun q1 => ?_) (fun q1 => ?_)
  · rw [if_pos q1] at hf
    cases hf
    exact mG_th (pc := 10) C E hX thw_216_220 tx322 dX9_requireRange_10 dX9_requireRange_13 dX9_requireRange_14 dX9_requireRange_17 dX9_requireRange_20 rfl rfl
  · rw [if_neg q1] at hf
    refine mG_iload_n (pc := 5) C dX9_requireRange_5 rfl ?_
    refine mG_iload_n (pc := 6) C dX9_requireRange_6 rfl ?_
    refine mG_icmp_le (pc := 7) (tgt := 21) C dX9_requireRange_7 (by decide) (fun q2 => ?_) (fun q2 => ?_)
    · rw [if_pos q2] at hf
      cases hf
      exact mG_vr (pc := 21) C E hX dX9_requireRange_21 rfl
    · rw [if_neg q2] at hf
      cases hf
      exact mG_th (pc := 10) C E hX thw_216_220 tx322 dX9_requireRange_10 dX9_requireRange_13 dX9_requireRange_14 dX9_requireRange_17 dX9_requireRange_20 rfl rfl
theorem dX9_requireRow_0 : decode cX9_requireRow 0 = .ok (.iload_n 0, 1) := by decide +kernel
theorem dX9_requireRow_1 : decode cX9_requireRow 1 = .ok (.invokestatic 306, 3) := by decide +kernel
theorem dX9_requireRow_4 : decode cX9_requireRow 4 = .ok (.ifCond .ne 14, 3) := by decide +kernel
theorem dX9_requireRow_7 : decode cX9_requireRow 7 = .ok (.new 310, 3) := by decide +kernel
theorem dX9_requireRow_10 : decode cX9_requireRow 10 = .ok (.dup, 1) := by decide +kernel
theorem dX9_requireRow_11 : decode cX9_requireRow 11 = .ok (.ldc_w 312, 3) := by decide +kernel
theorem dX9_requireRow_14 : decode cX9_requireRow 14 = .ok (.invokespecial 314, 3) := by decide +kernel
theorem dX9_requireRow_17 : decode cX9_requireRow 17 = .ok (.athrow, 1) := by decide +kernel
theorem dX9_requireRow_18 : decode cX9_requireRow 18 = .ok (.return_, 1) := by decide +kernel
def fX9_requireRow (p0 : Int32) (h : mxH) : Option ((Unit ⊕ String) × mxH) := Option.bind (fX9_isRow p0 h) (fun v2 => (if v2 = 0 then some (Sum.inr "java/lang/IndexOutOfBoundsException", mxThr h) else some (Sum.inl (), h)))
abbrev rmX9_requireRow : Room := { frames := 6, cells := 1, slots := 6, locals := 101 }
set_option maxRecDepth 20000 in
theorem tX9_requireRow {l : Launch} {Z : mxZ} (hl : l.stackTraces = false) {p0 : Int32} {h : mxH} {out : ((Unit ⊕ String) × mxH)} (hf : fX9_requireRow p0 h = some out) : mxMet l Z yX9_requireRow cX9_requireRow 1 (none) rmX9_requireRow [.int p0] h (mxRU out.1) out.2 := by
  refine mxMet_of (by decide) hl (by simp [Value.category]) (Nat.le_of_ble_eq_true rfl) ?_
  intro X C E hX hin
  unfold fX9_requireRow at hf
  refine mG_iload_n (pc := 0) C dX9_requireRow_0 rfl ?_
  obtain ⟨v2, e1, hf⟩ := mx_bind hf
  refine mG_cS (pc := 1) (k' := 0) (n' := 0) [.int p0] [] C hX dX9_requireRow_1 lkS_X9_306 rfl (tX9_isRow hl e1) rfl rfl rfl rfl ?_
  refine mG_if_ne (pc := 4) (tgt := 18) C dX9_requireRow_4 (by decide) (fun q3 => ?_) (fun q3 => ?_)
  · rw [if_neg q3] at hf
    cases hf
    exact mG_vr (pc := 18) C E hX dX9_requireRow_18 rfl
  · rw [if_pos q3] at hf
    cases hf
    exact mG_th (pc := 7) C E hX thw_310_314 tx312 dX9_requireRow_7 dX9_requireRow_10 dX9_requireRow_11 dX9_requireRow_14 dX9_requireRow_17 rfl rfl
theorem dX9_requireThing_0 : decode cX9_requireThing 0 = .ok (.iload_n 0, 1) := by decide +kernel
theorem dX9_requireThing_1 : decode cX9_requireThing 1 = .ok (.invokestatic 315, 3) := by decide +kernel
theorem dX9_requireThing_4 : decode cX9_requireThing 4 = .ok (.ifCond .ne 14, 3) := by decide +kernel
theorem dX9_requireThing_7 : decode cX9_requireThing 7 = .ok (.new 310, 3) := by decide +kernel
theorem dX9_requireThing_10 : decode cX9_requireThing 10 = .ok (.dup, 1) := by decide +kernel
theorem dX9_requireThing_11 : decode cX9_requireThing 11 = .ok (.ldc_w 318, 3) := by decide +kernel
theorem dX9_requireThing_14 : decode cX9_requireThing 14 = .ok (.invokespecial 314, 3) := by decide +kernel
theorem dX9_requireThing_17 : decode cX9_requireThing 17 = .ok (.athrow, 1) := by decide +kernel
theorem dX9_requireThing_18 : decode cX9_requireThing 18 = .ok (.return_, 1) := by decide +kernel
def fX9_requireThing (p0 : Int32) (h : mxH) : Option ((Unit ⊕ String) × mxH) := Option.bind (fX9_isThing p0 h) (fun v2 => (if v2 = 0 then some (Sum.inr "java/lang/IndexOutOfBoundsException", mxThr h) else some (Sum.inl (), h)))
abbrev rmX9_requireThing : Room := { frames := 6, cells := 1, slots := 6, locals := 101 }
set_option maxRecDepth 20000 in
theorem tX9_requireThing {l : Launch} {Z : mxZ} (hl : l.stackTraces = false) {p0 : Int32} {h : mxH} {out : ((Unit ⊕ String) × mxH)} (hf : fX9_requireThing p0 h = some out) : mxMet l Z yX9_requireThing cX9_requireThing 1 (none) rmX9_requireThing [.int p0] h (mxRU out.1) out.2 := by
  refine mxMet_of (by decide) hl (by simp [Value.category]) (Nat.le_of_ble_eq_true rfl) ?_
  intro X C E hX hin
  unfold fX9_requireThing at hf
  refine mG_iload_n (pc := 0) C dX9_requireThing_0 rfl ?_
  obtain ⟨v2, e1, hf⟩ := mx_bind hf
  refine mG_cS (pc := 1) (k' := 0) (n' := 0) [.int p0] [] C hX dX9_requireThing_1 lkS_X9_315 rfl (tX9_isThing hl e1) rfl rfl rfl rfl ?_
  refine mG_if_ne (pc := 4) (tgt := 18) C dX9_requireThing_4 (by decide) (fun q3 => ?_) (fun q3 => ?_)
  · rw [if_neg q3] at hf
    cases hf
    exact mG_vr (pc := 18) C E hX dX9_requireThing_18 rfl
  · rw [if_pos q3] at hf
    cases hf
    exact mG_th (pc := 7) C E hX thw_310_314 tx318 dX9_requireThing_7 dX9_requireThing_10 dX9_requireThing_11 dX9_requireThing_14 dX9_requireThing_17 rfl rfl
theorem dX9_put_0 : decode cX9_put 0 = .ok (.iload_n 1, 1) := by decide +kernel
theorem dX9_put_1 : decode cX9_put 1 = .ok (.invokestatic 79, 3) := by decide +kernel
theorem dX9_put_4 : decode cX9_put 4 = .ok (.iload_n 2, 1) := by decide +kernel
theorem dX9_put_5 : decode cX9_put 5 = .ok (.invokestatic 83, 3) := by decide +kernel
theorem dX9_put_8 : decode cX9_put 8 = .ok (.iload_n 3, 1) := by decide +kernel
theorem dX9_put_9 : decode cX9_put 9 = .ok (.iconst 0, 1) := by decide +kernel
theorem dX9_put_10 : decode cX9_put 10 = .ok (.bipush 99, 2) := by decide +kernel
theorem dX9_put_12 : decode cX9_put 12 = .ok (.invokestatic 86, 3) := by decide +kernel
theorem dX9_put_15 : decode cX9_put 15 = .ok (.aload_n 0, 1) := by decide +kernel
theorem dX9_put_16 : decode cX9_put 16 = .ok (.getfield 19, 3) := by decide +kernel
theorem dX9_put_19 : decode cX9_put 19 = .ok (.aload_n 0, 1) := by decide +kernel
theorem dX9_put_20 : decode cX9_put 20 = .ok (.getfield 12, 3) := by decide +kernel
theorem dX9_put_23 : decode cX9_put 23 = .ok (.invokevirtual 89, 3) := by decide +kernel
theorem dX9_put_26 : decode cX9_put 26 = .ok (.aload_n 0, 1) := by decide +kernel
theorem dX9_put_27 : decode cX9_put 27 = .ok (.getfield 12, 3) := by decide +kernel
theorem dX9_put_30 : decode cX9_put 30 = .ok (.getfield 72, 3) := by decide +kernel
theorem dX9_put_33 : decode cX9_put 33 = .ok (.iload_n 1, 1) := by decide +kernel
theorem dX9_put_34 : decode cX9_put 34 = .ok (.iload_n 2, 1) := by decide +kernel
theorem dX9_put_35 : decode cX9_put 35 = .ok (.invokevirtual 93, 3) := by decide +kernel
theorem dX9_put_38 : decode cX9_put 38 = .ok (.istore 4, 2) := by decide +kernel
theorem dX9_put_40 : decode cX9_put 40 = .ok (.aload_n 0, 1) := by decide +kernel
theorem dX9_put_41 : decode cX9_put 41 = .ok (.getfield 12, 3) := by decide +kernel
theorem dX9_put_44 : decode cX9_put 44 = .ok (.getfield 72, 3) := by decide +kernel
theorem dX9_put_47 : decode cX9_put 47 = .ok (.iload_n 1, 1) := by decide +kernel
theorem dX9_put_48 : decode cX9_put 48 = .ok (.iload_n 2, 1) := by decide +kernel
theorem dX9_put_49 : decode cX9_put 49 = .ok (.iload_n 3, 1) := by decide +kernel
theorem dX9_put_50 : decode cX9_put 50 = .ok (.invokevirtual 75, 3) := by decide +kernel
theorem dX9_put_53 : decode cX9_put 53 = .ok (.iload 4, 2) := by decide +kernel
theorem dX9_put_55 : decode cX9_put 55 = .ok (.ireturn, 1) := by decide +kernel
def fX9_put (p0 : Nat) (p1 : Int32) (p2 : Int32) (p3 : Int32) (h : mxH) : Option ((Int32 ⊕ String) × mxH) := mxThen (fX9_requireRow p1 h) (fun v2 h3 => mxThen (fX9_requireThing p2 h3) (fun v6 h7 => mxThen (fX9_requireRange p3 0 99 h7) (fun v10 h11 => Option.bind (gR h11 p0 9 1) (fun r13 => Option.bind (gR h11 p0 9 0) (fun r15 => Option.bind (isO h11 r13 0) (fun u17 => Option.bind (fX0_save r13 r15 h11) (fun o20 => Option.bind (gR o20 p0 9 0) (fun r21 => Option.bind (gR o20 r21 7 0) (fun r23 => Option.bind (isO o20 r23 6) (fun u25 => Option.bind (fX6_markOf r23 p1 p2 o20) (fun v28 => Option.bind (gR o20 p0 9 0) (fun r29 => Option.bind (gR o20 r29 7 0) (fun r31 => Option.bind (isO o20 r31 6) (fun u33 => Option.bind (fX6_setMark r31 p1 p2 p3 o20) (fun o36 => some (Sum.inl v28, o36))))))))))))))))
abbrev rmX9_put : Room := { frames := 7, cells := 3, slots := 18, locals := 123 }
set_option maxRecDepth 20000 in
theorem tX9_put {l : Launch} {Z : mxZ} (hl : l.stackTraces = false) {p0 : Nat} {p1 : Int32} {p2 : Int32} {p3 : Int32} {h : mxH} {out : ((Int32 ⊕ String) × mxH)} (hf : fX9_put p0 p1 p2 p3 h = some out) : mxMet l Z yX9_put cX9_put 5 (some .int) rmX9_put [.ref p0, .int p1, .int p2, .int p3] h (mxRI out.1) out.2 := by
  refine mxMet_of (by decide) hl (by simp [Value.category]) (Nat.le_of_ble_eq_true rfl) ?_
  intro X C E hX hin
  unfold fX9_put at hf
  refine mG_iload_n (pc := 0) C dX9_put_0 rfl ?_
  rcases mx_then hf with ⟨v2, h3, e1, hf⟩ | ⟨E4, h3, e1, hf⟩
  · refine mG_cS (pc := 1) (k' := 1) (n' := 6) [.int p1] [] C hX dX9_put_1 lkS_X9_79 rfl (tX9_requireRow hl e1) rfl rfl rfl rfl ?_
    refine mG_iload_n (pc := 4) C dX9_put_4 rfl ?_
    rcases mx_then hf with ⟨v6, h7, e5, hf⟩ | ⟨E8, h7, e5, hf⟩
    · refine mG_cS (pc := 5) (k' := 2) (n' := 12) [.int p2] [] C hX dX9_put_5 lkS_X9_83 rfl (tX9_requireThing hl e5) rfl rfl rfl rfl ?_
      refine mG_iload_n (pc := 8) C dX9_put_8 rfl ?_
      refine mG_ic (pc := 9) C dX9_put_9 kI0 ?_
      refine mG_bp (pc := 10) C dX9_put_10 kB99 ?_
      rcases mx_then hf with ⟨v10, h11, e9, hf⟩ | ⟨E12, h11, e9, hf⟩
      · refine mG_cS (pc := 12) (k' := 3) (n' := 18) [.int p3, .int 0, .int 99] [] C hX dX9_put_12 lkS_X9_86 rfl (tX9_requireRange hl e9) rfl rfl rfl rfl ?_
        refine mG_aload_n (pc := 15) C dX9_put_15 rfl ?_
        obtain ⟨r13, e14, hf⟩ := mx_bind hf
        refine mG_getR (pc := 16) C dX9_put_16 fl_X9_19 e14 ?_
        refine mG_aload_n (pc := 19) C dX9_put_19 rfl ?_
        obtain ⟨r15, e16, hf⟩ := mx_bind hf
        refine mG_getR (pc := 20) C dX9_put_20 fl_X9_12 e16 ?_
        obtain ⟨u17, e18, hf⟩ := mx_bind hf
        obtain ⟨o20, e19, hf⟩ := mx_bind hf
        refine mG_cV (pc := 23) (k' := 3) (n' := 18) 0 [.ref r15] [] C hX dX9_put_23 lkV_X9_89 rfl rfl e18 (tX0_save hl e19) rfl rfl rfl rfl ?_
        refine mG_aload_n (pc := 26) C dX9_put_26 rfl ?_
        obtain ⟨r21, e22, hf⟩ := mx_bind hf
        refine mG_getR (pc := 27) C dX9_put_27 fl_X9_12 e22 ?_
        obtain ⟨r23, e24, hf⟩ := mx_bind hf
        refine mG_getR (pc := 30) C dX9_put_30 fl_X9_72 e24 ?_
        refine mG_iload_n (pc := 33) C dX9_put_33 rfl ?_
        refine mG_iload_n (pc := 34) C dX9_put_34 rfl ?_
        obtain ⟨u25, e26, hf⟩ := mx_bind hf
        obtain ⟨v28, e27, hf⟩ := mx_bind hf
        refine mG_cV (pc := 35) (k' := 3) (n' := 18) 6 [.int p1, .int p2] [] C hX dX9_put_35 lkV_X9_93 rfl rfl e26 (tX6_markOf hl e27) rfl rfl rfl rfl ?_
        refine mG_is (ls' := [some (.ref p0), some (.int p1), some (.int p2), some (.int p3), some (.int v28)]) (pc := 38) C dX9_put_38 rfl rfl rfl ?_
        refine mG_aload_n (pc := 40) C dX9_put_40 rfl ?_
        obtain ⟨r29, e30, hf⟩ := mx_bind hf
        refine mG_getR (pc := 41) C dX9_put_41 fl_X9_12 e30 ?_
        obtain ⟨r31, e32, hf⟩ := mx_bind hf
        refine mG_getR (pc := 44) C dX9_put_44 fl_X9_72 e32 ?_
        refine mG_iload_n (pc := 47) C dX9_put_47 rfl ?_
        refine mG_iload_n (pc := 48) C dX9_put_48 rfl ?_
        refine mG_iload_n (pc := 49) C dX9_put_49 rfl ?_
        obtain ⟨u33, e34, hf⟩ := mx_bind hf
        obtain ⟨o36, e35, hf⟩ := mx_bind hf
        refine mG_cV (pc := 50) (k' := 3) (n' := 18) 6 [.int p1, .int p2, .int p3] [] C hX dX9_put_50 lkV_X9_75 rfl rfl e34 (tX6_setMark hl e35) rfl rfl rfl rfl ?_
        refine mG_iload (pc := 53) C dX9_put_53 rfl ?_
        cases hf
        exact mG_ir (pc := 55) C E hX dX9_put_55 rfl
      · cases hf
        exact mG_cSX (pc := 12) [.int p3, .int 0, .int 99] [] C E hX dX9_put_12 lkS_X9_86 rfl (tX9_requireRange hl e9) rfl rfl
    · cases hf
      exact mG_cSX (pc := 5) [.int p2] [] C E hX dX9_put_5 lkS_X9_83 rfl (tX9_requireThing hl e5) rfl rfl
  · cases hf
    exact mG_cSX (pc := 1) [.int p1] [] C E hX dX9_put_1 lkS_X9_79 rfl (tX9_requireRow hl e1) rfl rfl
theorem dX9_requireFound_0 : decode cX9_requireFound 0 = .ok (.iload_n 0, 1) := by decide +kernel
theorem dX9_requireFound_1 : decode cX9_requireFound 1 = .ok (.ifCond .ne 14, 3) := by decide +kernel
theorem dX9_requireFound_4 : decode cX9_requireFound 4 = .ok (.new 324, 3) := by decide +kernel
theorem dX9_requireFound_7 : decode cX9_requireFound 7 = .ok (.dup, 1) := by decide +kernel
theorem dX9_requireFound_8 : decode cX9_requireFound 8 = .ok (.ldc_w 326, 3) := by decide +kernel
theorem dX9_requireFound_11 : decode cX9_requireFound 11 = .ok (.invokespecial 328, 3) := by decide +kernel
theorem dX9_requireFound_14 : decode cX9_requireFound 14 = .ok (.athrow, 1) := by decide +kernel
theorem dX9_requireFound_15 : decode cX9_requireFound 15 = .ok (.return_, 1) := by decide +kernel
def fX9_requireFound (p0 : Int32) (h : mxH) : Option ((Unit ⊕ String) × mxH) := (if p0 = 0 then Option.bind (nwX h) (fun h2 => some (Sum.inr "java/util/NoSuchElementException", h2)) else some (Sum.inl (), h))
abbrev rmX9_requireFound : Room := { frames := 6, cells := 1, slots := 6, locals := 101 }
set_option maxRecDepth 20000 in
theorem tX9_requireFound {l : Launch} {Z : mxZ} (hl : l.stackTraces = false) {p0 : Int32} {h : mxH} {out : ((Unit ⊕ String) × mxH)} (hf : fX9_requireFound p0 h = some out) : mxMet l Z yX9_requireFound cX9_requireFound 1 (none) rmX9_requireFound [.int p0] h (mxRU out.1) out.2 := by
  refine mxMet_of (by decide) hl (by simp [Value.category]) (Nat.le_of_ble_eq_true rfl) ?_
  intro X C E hX hin
  unfold fX9_requireFound at hf
  refine mG_iload_n (pc := 0) C dX9_requireFound_0 rfl ?_
  refine mG_if_ne (pc := 1) (tgt := 15) C dX9_requireFound_1 (by decide) (fun q1 => ?_) (fun q1 => ?_)
  · rw [if_neg q1] at hf
    cases hf
    exact mG_vr (pc := 15) C E hX dX9_requireFound_15 rfl
  · rw [if_pos q1] at hf
    obtain ⟨h2, e3, hf⟩ := mx_bind hf
    cases hf
    exact mG_thNS (pc := 4) C E e3 hX dX9_requireFound_4 dX9_requireFound_7 dX9_requireFound_8 dX9_requireFound_11 dX9_requireFound_14 rfl rfl
theorem dX9_drop_0 : decode cX9_drop 0 = .ok (.iload_n 1, 1) := by decide +kernel
theorem dX9_drop_1 : decode cX9_drop 1 = .ok (.invokestatic 79, 3) := by decide +kernel
theorem dX9_drop_4 : decode cX9_drop 4 = .ok (.iload_n 2, 1) := by decide +kernel
theorem dX9_drop_5 : decode cX9_drop 5 = .ok (.invokestatic 83, 3) := by decide +kernel
theorem dX9_drop_8 : decode cX9_drop 8 = .ok (.aload_n 0, 1) := by decide +kernel
theorem dX9_drop_9 : decode cX9_drop 9 = .ok (.getfield 12, 3) := by decide +kernel
theorem dX9_drop_12 : decode cX9_drop 12 = .ok (.getfield 72, 3) := by decide +kernel
theorem dX9_drop_15 : decode cX9_drop 15 = .ok (.iload_n 1, 1) := by decide +kernel
theorem dX9_drop_16 : decode cX9_drop 16 = .ok (.iload_n 2, 1) := by decide +kernel
theorem dX9_drop_17 : decode cX9_drop 17 = .ok (.invokevirtual 93, 3) := by decide +kernel
theorem dX9_drop_20 : decode cX9_drop 20 = .ok (.istore_n 3, 1) := by decide +kernel
theorem dX9_drop_21 : decode cX9_drop 21 = .ok (.iload_n 3, 1) := by decide +kernel
theorem dX9_drop_22 : decode cX9_drop 22 = .ok (.iconst (-1), 1) := by decide +kernel
theorem dX9_drop_23 : decode cX9_drop 23 = .ok (.if_icmp .eq 7, 3) := by decide +kernel
theorem dX9_drop_26 : decode cX9_drop 26 = .ok (.iconst 1, 1) := by decide +kernel
theorem dX9_drop_27 : decode cX9_drop 27 = .ok (.goto 4, 3) := by decide +kernel
theorem dX9_drop_30 : decode cX9_drop 30 = .ok (.iconst 0, 1) := by decide +kernel
theorem dX9_drop_31 : decode cX9_drop 31 = .ok (.invokestatic 97, 3) := by decide +kernel
theorem dX9_drop_34 : decode cX9_drop 34 = .ok (.aload_n 0, 1) := by decide +kernel
theorem dX9_drop_35 : decode cX9_drop 35 = .ok (.getfield 19, 3) := by decide +kernel
theorem dX9_drop_38 : decode cX9_drop 38 = .ok (.aload_n 0, 1) := by decide +kernel
theorem dX9_drop_39 : decode cX9_drop 39 = .ok (.getfield 12, 3) := by decide +kernel
theorem dX9_drop_42 : decode cX9_drop 42 = .ok (.invokevirtual 89, 3) := by decide +kernel
theorem dX9_drop_45 : decode cX9_drop 45 = .ok (.aload_n 0, 1) := by decide +kernel
theorem dX9_drop_46 : decode cX9_drop 46 = .ok (.getfield 12, 3) := by decide +kernel
theorem dX9_drop_49 : decode cX9_drop 49 = .ok (.getfield 72, 3) := by decide +kernel
theorem dX9_drop_52 : decode cX9_drop 52 = .ok (.iload_n 1, 1) := by decide +kernel
theorem dX9_drop_53 : decode cX9_drop 53 = .ok (.iload_n 2, 1) := by decide +kernel
theorem dX9_drop_54 : decode cX9_drop 54 = .ok (.iconst (-1), 1) := by decide +kernel
theorem dX9_drop_55 : decode cX9_drop 55 = .ok (.invokevirtual 75, 3) := by decide +kernel
theorem dX9_drop_58 : decode cX9_drop 58 = .ok (.iload_n 3, 1) := by decide +kernel
theorem dX9_drop_59 : decode cX9_drop 59 = .ok (.ireturn, 1) := by decide +kernel
def fX9_drop (p0 : Nat) (p1 : Int32) (p2 : Int32) (h : mxH) : Option ((Int32 ⊕ String) × mxH) := mxThen (fX9_requireRow p1 h) (fun v2 h3 => mxThen (fX9_requireThing p2 h3) (fun v6 h7 => Option.bind (gR h7 p0 9 0) (fun r9 => Option.bind (gR h7 r9 7 0) (fun r11 => Option.bind (isO h7 r11 6) (fun u13 => Option.bind (fX6_markOf r11 p1 p2 h7) (fun v16 => Option.bind (α := Int32) (if v16 = (-1) then some 0 else some 1) (fun p19' : Int32 => mxThen (fX9_requireFound p19' h7) (fun v22 h23 => Option.bind (gR h23 p0 9 1) (fun r25 => Option.bind (gR h23 p0 9 0) (fun r27 => Option.bind (isO h23 r25 0) (fun u29 => Option.bind (fX0_save r25 r27 h23) (fun o32 => Option.bind (gR o32 p0 9 0) (fun r33 => Option.bind (gR o32 r33 7 0) (fun r35 => Option.bind (isO o32 r35 6) (fun u37 => Option.bind (fX6_setMark r35 p1 p2 (-1) o32) (fun o40 => some (Sum.inl v16, o40)))))))))))))))))
abbrev rmX9_drop : Room := { frames := 7, cells := 3, slots := 18, locals := 121 }
set_option maxRecDepth 20000 in
theorem tX9_drop {l : Launch} {Z : mxZ} (hl : l.stackTraces = false) {p0 : Nat} {p1 : Int32} {p2 : Int32} {h : mxH} {out : ((Int32 ⊕ String) × mxH)} (hf : fX9_drop p0 p1 p2 h = some out) : mxMet l Z yX9_drop cX9_drop 4 (some .int) rmX9_drop [.ref p0, .int p1, .int p2] h (mxRI out.1) out.2 := by
  refine mxMet_of (by decide) hl (by simp [Value.category]) (Nat.le_of_ble_eq_true rfl) ?_
  intro X C E hX hin
  unfold fX9_drop at hf
  refine mG_iload_n (pc := 0) C dX9_drop_0 rfl ?_
  rcases mx_then hf with ⟨v2, h3, e1, hf⟩ | ⟨E4, h3, e1, hf⟩
  · refine mG_cS (pc := 1) (k' := 1) (n' := 6) [.int p1] [] C hX dX9_drop_1 lkS_X9_79 rfl (tX9_requireRow hl e1) rfl rfl rfl rfl ?_
    refine mG_iload_n (pc := 4) C dX9_drop_4 rfl ?_
    rcases mx_then hf with ⟨v6, h7, e5, hf⟩ | ⟨E8, h7, e5, hf⟩
    · refine mG_cS (pc := 5) (k' := 2) (n' := 12) [.int p2] [] C hX dX9_drop_5 lkS_X9_83 rfl (tX9_requireThing hl e5) rfl rfl rfl rfl ?_
      refine mG_aload_n (pc := 8) C dX9_drop_8 rfl ?_
      obtain ⟨r9, e10, hf⟩ := mx_bind hf
      refine mG_getR (pc := 9) C dX9_drop_9 fl_X9_12 e10 ?_
      obtain ⟨r11, e12, hf⟩ := mx_bind hf
      refine mG_getR (pc := 12) C dX9_drop_12 fl_X9_72 e12 ?_
      refine mG_iload_n (pc := 15) C dX9_drop_15 rfl ?_
      refine mG_iload_n (pc := 16) C dX9_drop_16 rfl ?_
      obtain ⟨u13, e14, hf⟩ := mx_bind hf
      obtain ⟨v16, e15, hf⟩ := mx_bind hf
      refine mG_cV (pc := 17) (k' := 2) (n' := 12) 6 [.int p1, .int p2] [] C hX dX9_drop_17 lkV_X9_93 rfl rfl e14 (tX6_markOf hl e15) rfl rfl rfl rfl ?_
      refine mG_isn (ls' := [some (.ref p0), some (.int p1), some (.int p2), some (.int v16)]) (pc := 20) C dX9_drop_20 rfl rfl rfl ?_
      refine mG_iload_n (pc := 21) C dX9_drop_21 rfl ?_
      refine mG_ic (pc := 22) C dX9_drop_22 kIm1 ?_
      obtain ⟨p19, e20, hf⟩ := mx_bind hf
      have J18 : ∀ p19' : Int32, p19' = p19 → mG l Z X 4 2 12 31 [some (.ref p0), some (.int p1), some (.int p2), some (.int v16)] [.int p19'] h7 := by
        intro p19' q41
        subst q41
        rcases mx_then hf with ⟨v22, h23, e21, hf⟩ | ⟨E24, h23, e21, hf⟩
        · refine mG_cS (pc := 31) (k' := 3) (n' := 18) [.int p19'] [] C hX dX9_drop_31 lkS_X9_97 rfl (tX9_requireFound hl e21) rfl rfl rfl rfl ?_
          refine mG_aload_n (pc := 34) C dX9_drop_34 rfl ?_
          obtain ⟨r25, e26, hf⟩ := mx_bind hf
          refine mG_getR (pc := 35) C dX9_drop_35 fl_X9_19 e26 ?_
          refine mG_aload_n (pc := 38) C dX9_drop_38 rfl ?_
          obtain ⟨r27, e28, hf⟩ := mx_bind hf
          refine mG_getR (pc := 39) C dX9_drop_39 fl_X9_12 e28 ?_
          obtain ⟨u29, e30, hf⟩ := mx_bind hf
          obtain ⟨o32, e31, hf⟩ := mx_bind hf
          refine mG_cV (pc := 42) (k' := 3) (n' := 18) 0 [.ref r27] [] C hX dX9_drop_42 lkV_X9_89 rfl rfl e30 (tX0_save hl e31) rfl rfl rfl rfl ?_
          refine mG_aload_n (pc := 45) C dX9_drop_45 rfl ?_
          obtain ⟨r33, e34, hf⟩ := mx_bind hf
          refine mG_getR (pc := 46) C dX9_drop_46 fl_X9_12 e34 ?_
          obtain ⟨r35, e36, hf⟩ := mx_bind hf
          refine mG_getR (pc := 49) C dX9_drop_49 fl_X9_72 e36 ?_
          refine mG_iload_n (pc := 52) C dX9_drop_52 rfl ?_
          refine mG_iload_n (pc := 53) C dX9_drop_53 rfl ?_
          refine mG_ic (pc := 54) C dX9_drop_54 kIm1 ?_
          obtain ⟨u37, e38, hf⟩ := mx_bind hf
          obtain ⟨o40, e39, hf⟩ := mx_bind hf
          refine mG_cV (pc := 55) (k' := 3) (n' := 18) 6 [.int p1, .int p2, .int (-1)] [] C hX dX9_drop_55 lkV_X9_75 rfl rfl e38 (tX6_setMark hl e39) rfl rfl rfl rfl ?_
          refine mG_iload_n (pc := 58) C dX9_drop_58 rfl ?_
          cases hf
          exact mG_ir (pc := 59) C E hX dX9_drop_59 rfl
        · cases hf
          exact mG_cSX (pc := 31) [.int p19'] [] C E hX dX9_drop_31 lkS_X9_97 rfl (tX9_requireFound hl e21) rfl rfl
      refine mG_icmp_eq (pc := 23) (tgt := 30) C dX9_drop_23 (by decide) (fun q17 => ?_) (fun q17 => ?_)
      · rw [if_pos q17] at e20
        refine mG_ic (pc := 30) C dX9_drop_30 kI0 ?_
        exact mG_sub (mxLe_s (mxLe_s (mxLe_s (mxLe_s mxLe_z)))) (J18 _ (Option.some.inj e20))
      · rw [if_neg q17] at e20
        refine mG_ic (pc := 26) C dX9_drop_26 kI1 ?_
        refine mG_goto (tgt := 31) (pc := 27) C dX9_drop_27 (by decide) ?_
        exact mG_sub (mxLe_s (mxLe_s (mxLe_s (mxLe_s mxLe_z)))) (J18 _ (Option.some.inj e20))
    · cases hf
      exact mG_cSX (pc := 5) [.int p2] [] C E hX dX9_drop_5 lkS_X9_83 rfl (tX9_requireThing hl e5) rfl rfl
  · cases hf
    exact mG_cSX (pc := 1) [.int p1] [] C E hX dX9_drop_1 lkS_X9_79 rfl (tX9_requireRow hl e1) rfl rfl
theorem dX9_setWeight_0 : decode cX9_setWeight 0 = .ok (.iload_n 1, 1) := by decide +kernel
theorem dX9_setWeight_1 : decode cX9_setWeight 1 = .ok (.invokestatic 79, 3) := by decide +kernel
theorem dX9_setWeight_4 : decode cX9_setWeight 4 = .ok (.iload_n 2, 1) := by decide +kernel
theorem dX9_setWeight_5 : decode cX9_setWeight 5 = .ok (.iconst 0, 1) := by decide +kernel
theorem dX9_setWeight_6 : decode cX9_setWeight 6 = .ok (.iconst 5, 1) := by decide +kernel
theorem dX9_setWeight_7 : decode cX9_setWeight 7 = .ok (.invokestatic 86, 3) := by decide +kernel
theorem dX9_setWeight_10 : decode cX9_setWeight 10 = .ok (.aload_n 0, 1) := by decide +kernel
theorem dX9_setWeight_11 : decode cX9_setWeight 11 = .ok (.getfield 19, 3) := by decide +kernel
theorem dX9_setWeight_14 : decode cX9_setWeight 14 = .ok (.aload_n 0, 1) := by decide +kernel
theorem dX9_setWeight_15 : decode cX9_setWeight 15 = .ok (.getfield 12, 3) := by decide +kernel
theorem dX9_setWeight_18 : decode cX9_setWeight 18 = .ok (.invokevirtual 89, 3) := by decide +kernel
theorem dX9_setWeight_21 : decode cX9_setWeight 21 = .ok (.aload_n 0, 1) := by decide +kernel
theorem dX9_setWeight_22 : decode cX9_setWeight 22 = .ok (.getfield 12, 3) := by decide +kernel
theorem dX9_setWeight_25 : decode cX9_setWeight 25 = .ok (.getfield 72, 3) := by decide +kernel
theorem dX9_setWeight_28 : decode cX9_setWeight 28 = .ok (.iload_n 1, 1) := by decide +kernel
theorem dX9_setWeight_29 : decode cX9_setWeight 29 = .ok (.iload_n 2, 1) := by decide +kernel
theorem dX9_setWeight_30 : decode cX9_setWeight 30 = .ok (.invokevirtual 101, 3) := by decide +kernel
theorem dX9_setWeight_33 : decode cX9_setWeight 33 = .ok (.ireturn, 1) := by decide +kernel
def fX9_setWeight (p0 : Nat) (p1 : Int32) (p2 : Int32) (h : mxH) : Option ((Int32 ⊕ String) × mxH) := mxThen (fX9_requireRow p1 h) (fun v2 h3 => mxThen (fX9_requireRange p2 0 5 h3) (fun v6 h7 => Option.bind (gR h7 p0 9 1) (fun r9 => Option.bind (gR h7 p0 9 0) (fun r11 => Option.bind (isO h7 r9 0) (fun u13 => Option.bind (fX0_save r9 r11 h7) (fun o16 => Option.bind (gR o16 p0 9 0) (fun r17 => Option.bind (gR o16 r17 7 0) (fun r19 => Option.bind (isO o16 r19 6) (fun u21 => Option.bind (fX6_changeWeight r19 p1 p2 o16) (fun o24 => some (Sum.inl o24.1, o24.2)))))))))))
abbrev rmX9_setWeight : Room := { frames := 7, cells := 2, slots := 12, locals := 123 }
set_option maxRecDepth 20000 in
theorem tX9_setWeight {l : Launch} {Z : mxZ} (hl : l.stackTraces = false) {p0 : Nat} {p1 : Int32} {p2 : Int32} {h : mxH} {out : ((Int32 ⊕ String) × mxH)} (hf : fX9_setWeight p0 p1 p2 h = some out) : mxMet l Z yX9_setWeight cX9_setWeight 3 (some .int) rmX9_setWeight [.ref p0, .int p1, .int p2] h (mxRI out.1) out.2 := by
  refine mxMet_of (by decide) hl (by simp [Value.category]) (Nat.le_of_ble_eq_true rfl) ?_
  intro X C E hX hin
  unfold fX9_setWeight at hf
  refine mG_iload_n (pc := 0) C dX9_setWeight_0 rfl ?_
  rcases mx_then hf with ⟨v2, h3, e1, hf⟩ | ⟨E4, h3, e1, hf⟩
  · refine mG_cS (pc := 1) (k' := 1) (n' := 6) [.int p1] [] C hX dX9_setWeight_1 lkS_X9_79 rfl (tX9_requireRow hl e1) rfl rfl rfl rfl ?_
    refine mG_iload_n (pc := 4) C dX9_setWeight_4 rfl ?_
    refine mG_ic (pc := 5) C dX9_setWeight_5 kI0 ?_
    refine mG_ic (pc := 6) C dX9_setWeight_6 kI5 ?_
    rcases mx_then hf with ⟨v6, h7, e5, hf⟩ | ⟨E8, h7, e5, hf⟩
    · refine mG_cS (pc := 7) (k' := 2) (n' := 12) [.int p2, .int 0, .int 5] [] C hX dX9_setWeight_7 lkS_X9_86 rfl (tX9_requireRange hl e5) rfl rfl rfl rfl ?_
      refine mG_aload_n (pc := 10) C dX9_setWeight_10 rfl ?_
      obtain ⟨r9, e10, hf⟩ := mx_bind hf
      refine mG_getR (pc := 11) C dX9_setWeight_11 fl_X9_19 e10 ?_
      refine mG_aload_n (pc := 14) C dX9_setWeight_14 rfl ?_
      obtain ⟨r11, e12, hf⟩ := mx_bind hf
      refine mG_getR (pc := 15) C dX9_setWeight_15 fl_X9_12 e12 ?_
      obtain ⟨u13, e14, hf⟩ := mx_bind hf
      obtain ⟨o16, e15, hf⟩ := mx_bind hf
      refine mG_cV (pc := 18) (k' := 2) (n' := 12) 0 [.ref r11] [] C hX dX9_setWeight_18 lkV_X9_89 rfl rfl e14 (tX0_save hl e15) rfl rfl rfl rfl ?_
      refine mG_aload_n (pc := 21) C dX9_setWeight_21 rfl ?_
      obtain ⟨r17, e18, hf⟩ := mx_bind hf
      refine mG_getR (pc := 22) C dX9_setWeight_22 fl_X9_12 e18 ?_
      obtain ⟨r19, e20, hf⟩ := mx_bind hf
      refine mG_getR (pc := 25) C dX9_setWeight_25 fl_X9_72 e20 ?_
      refine mG_iload_n (pc := 28) C dX9_setWeight_28 rfl ?_
      refine mG_iload_n (pc := 29) C dX9_setWeight_29 rfl ?_
      obtain ⟨u21, e22, hf⟩ := mx_bind hf
      obtain ⟨o24, e23, hf⟩ := mx_bind hf
      refine mG_cV (pc := 30) (k' := 2) (n' := 12) 6 [.int p1, .int p2] [] C hX dX9_setWeight_30 lkV_X9_101 rfl rfl e22 (tX6_changeWeight hl e23) rfl rfl rfl rfl ?_
      cases hf
      exact mG_ir (pc := 33) C E hX dX9_setWeight_33 rfl
    · cases hf
      exact mG_cSX (pc := 7) [.int p2, .int 0, .int 5] [] C E hX dX9_setWeight_7 lkS_X9_86 rfl (tX9_requireRange hl e5) rfl rfl
  · cases hf
    exact mG_cSX (pc := 1) [.int p1] [] C E hX dX9_setWeight_1 lkS_X9_79 rfl (tX9_requireRow hl e1) rfl rfl
theorem dX9_setRule_0 : decode cX9_setRule 0 = .ok (.iload_n 1, 1) := by decide +kernel
theorem dX9_setRule_1 : decode cX9_setRule 1 = .ok (.iconst 0, 1) := by decide +kernel
theorem dX9_setRule_2 : decode cX9_setRule 2 = .ok (.iconst 2, 1) := by decide +kernel
theorem dX9_setRule_3 : decode cX9_setRule 3 = .ok (.invokestatic 86, 3) := by decide +kernel
theorem dX9_setRule_6 : decode cX9_setRule 6 = .ok (.aload_n 0, 1) := by decide +kernel
theorem dX9_setRule_7 : decode cX9_setRule 7 = .ok (.getfield 19, 3) := by decide +kernel
theorem dX9_setRule_10 : decode cX9_setRule 10 = .ok (.aload_n 0, 1) := by decide +kernel
theorem dX9_setRule_11 : decode cX9_setRule 11 = .ok (.getfield 12, 3) := by decide +kernel
theorem dX9_setRule_14 : decode cX9_setRule 14 = .ok (.invokevirtual 89, 3) := by decide +kernel
theorem dX9_setRule_17 : decode cX9_setRule 17 = .ok (.aload_n 0, 1) := by decide +kernel
theorem dX9_setRule_18 : decode cX9_setRule 18 = .ok (.getfield 12, 3) := by decide +kernel
theorem dX9_setRule_21 : decode cX9_setRule 21 = .ok (.getfield 72, 3) := by decide +kernel
theorem dX9_setRule_24 : decode cX9_setRule 24 = .ok (.getfield 104, 3) := by decide +kernel
theorem dX9_setRule_27 : decode cX9_setRule 27 = .ok (.istore_n 2, 1) := by decide +kernel
theorem dX9_setRule_28 : decode cX9_setRule 28 = .ok (.aload_n 0, 1) := by decide +kernel
theorem dX9_setRule_29 : decode cX9_setRule 29 = .ok (.getfield 12, 3) := by decide +kernel
theorem dX9_setRule_32 : decode cX9_setRule 32 = .ok (.getfield 72, 3) := by decide +kernel
theorem dX9_setRule_35 : decode cX9_setRule 35 = .ok (.iload_n 1, 1) := by decide +kernel
theorem dX9_setRule_36 : decode cX9_setRule 36 = .ok (.putfield 104, 3) := by decide +kernel
theorem dX9_setRule_39 : decode cX9_setRule 39 = .ok (.iload_n 2, 1) := by decide +kernel
theorem dX9_setRule_40 : decode cX9_setRule 40 = .ok (.ireturn, 1) := by decide +kernel
def fX9_setRule (p0 : Nat) (p1 : Int32) (h : mxH) : Option ((Int32 ⊕ String) × mxH) := mxThen (fX9_requireRange p1 0 2 h) (fun v2 h3 => Option.bind (gR h3 p0 9 1) (fun r5 => Option.bind (gR h3 p0 9 0) (fun r7 => Option.bind (isO h3 r5 0) (fun u9 => Option.bind (fX0_save r5 r7 h3) (fun o12 => Option.bind (gR o12 p0 9 0) (fun r13 => Option.bind (gR o12 r13 7 0) (fun r15 => Option.bind (gI o12 r15 6 6) (fun v17 => Option.bind (gR o12 p0 9 0) (fun r19 => Option.bind (gR o12 r19 7 0) (fun r21 => Option.bind (pI o12 r21 6 6 p1) (fun h23 => some (Sum.inl v17, h23))))))))))))
abbrev rmX9_setRule : Room := { frames := 7, cells := 1, slots := 6, locals := 123 }
set_option maxRecDepth 20000 in
theorem tX9_setRule {l : Launch} {Z : mxZ} (hl : l.stackTraces = false) {p0 : Nat} {p1 : Int32} {h : mxH} {out : ((Int32 ⊕ String) × mxH)} (hf : fX9_setRule p0 p1 h = some out) : mxMet l Z yX9_setRule cX9_setRule 3 (some .int) rmX9_setRule [.ref p0, .int p1] h (mxRI out.1) out.2 := by
  refine mxMet_of (by decide) hl (by simp [Value.category]) (Nat.le_of_ble_eq_true rfl) ?_
  intro X C E hX hin
  unfold fX9_setRule at hf
  refine mG_iload_n (pc := 0) C dX9_setRule_0 rfl ?_
  refine mG_ic (pc := 1) C dX9_setRule_1 kI0 ?_
  refine mG_ic (pc := 2) C dX9_setRule_2 kI2 ?_
  rcases mx_then hf with ⟨v2, h3, e1, hf⟩ | ⟨E4, h3, e1, hf⟩
  · refine mG_cS (pc := 3) (k' := 1) (n' := 6) [.int p1, .int 0, .int 2] [] C hX dX9_setRule_3 lkS_X9_86 rfl (tX9_requireRange hl e1) rfl rfl rfl rfl ?_
    refine mG_aload_n (pc := 6) C dX9_setRule_6 rfl ?_
    obtain ⟨r5, e6, hf⟩ := mx_bind hf
    refine mG_getR (pc := 7) C dX9_setRule_7 fl_X9_19 e6 ?_
    refine mG_aload_n (pc := 10) C dX9_setRule_10 rfl ?_
    obtain ⟨r7, e8, hf⟩ := mx_bind hf
    refine mG_getR (pc := 11) C dX9_setRule_11 fl_X9_12 e8 ?_
    obtain ⟨u9, e10, hf⟩ := mx_bind hf
    obtain ⟨o12, e11, hf⟩ := mx_bind hf
    refine mG_cV (pc := 14) (k' := 1) (n' := 6) 0 [.ref r7] [] C hX dX9_setRule_14 lkV_X9_89 rfl rfl e10 (tX0_save hl e11) rfl rfl rfl rfl ?_
    refine mG_aload_n (pc := 17) C dX9_setRule_17 rfl ?_
    obtain ⟨r13, e14, hf⟩ := mx_bind hf
    refine mG_getR (pc := 18) C dX9_setRule_18 fl_X9_12 e14 ?_
    obtain ⟨r15, e16, hf⟩ := mx_bind hf
    refine mG_getR (pc := 21) C dX9_setRule_21 fl_X9_72 e16 ?_
    obtain ⟨v17, e18, hf⟩ := mx_bind hf
    refine mG_getI (pc := 24) C dX9_setRule_24 fl_X9_104 e18 ?_
    refine mG_isn (ls' := [some (.ref p0), some (.int p1), some (.int v17)]) (pc := 27) C dX9_setRule_27 rfl rfl rfl ?_
    refine mG_aload_n (pc := 28) C dX9_setRule_28 rfl ?_
    obtain ⟨r19, e20, hf⟩ := mx_bind hf
    refine mG_getR (pc := 29) C dX9_setRule_29 fl_X9_12 e20 ?_
    obtain ⟨r21, e22, hf⟩ := mx_bind hf
    refine mG_getR (pc := 32) C dX9_setRule_32 fl_X9_72 e22 ?_
    refine mG_iload_n (pc := 35) C dX9_setRule_35 rfl ?_
    obtain ⟨h23, e24, hf⟩ := mx_bind hf
    refine mG_putI (pc := 36) C dX9_setRule_36 fl_X9_104 e24 ?_
    refine mG_iload_n (pc := 39) C dX9_setRule_39 rfl ?_
    cases hf
    exact mG_ir (pc := 40) C E hX dX9_setRule_40 rfl
  · cases hf
    exact mG_cSX (pc := 3) [.int p1, .int 0, .int 2] [] C E hX dX9_setRule_3 lkS_X9_86 rfl (tX9_requireRange hl e1) rfl rfl
theorem dX9_setWindow_0 : decode cX9_setWindow 0 = .ok (.iload_n 1, 1) := by decide +kernel
theorem dX9_setWindow_1 : decode cX9_setWindow 1 = .ok (.iconst 1, 1) := by decide +kernel
theorem dX9_setWindow_2 : decode cX9_setWindow 2 = .ok (.bipush 10, 2) := by decide +kernel
theorem dX9_setWindow_4 : decode cX9_setWindow 4 = .ok (.invokestatic 86, 3) := by decide +kernel
theorem dX9_setWindow_7 : decode cX9_setWindow 7 = .ok (.iload_n 2, 1) := by decide +kernel
theorem dX9_setWindow_8 : decode cX9_setWindow 8 = .ok (.iconst 1, 1) := by decide +kernel
theorem dX9_setWindow_9 : decode cX9_setWindow 9 = .ok (.iconst 4, 1) := by decide +kernel
theorem dX9_setWindow_10 : decode cX9_setWindow 10 = .ok (.invokestatic 86, 3) := by decide +kernel
theorem dX9_setWindow_13 : decode cX9_setWindow 13 = .ok (.aload_n 0, 1) := by decide +kernel
theorem dX9_setWindow_14 : decode cX9_setWindow 14 = .ok (.getfield 19, 3) := by decide +kernel
theorem dX9_setWindow_17 : decode cX9_setWindow 17 = .ok (.aload_n 0, 1) := by decide +kernel
theorem dX9_setWindow_18 : decode cX9_setWindow 18 = .ok (.getfield 12, 3) := by decide +kernel
theorem dX9_setWindow_21 : decode cX9_setWindow 21 = .ok (.invokevirtual 89, 3) := by decide +kernel
theorem dX9_setWindow_24 : decode cX9_setWindow 24 = .ok (.aload_n 0, 1) := by decide +kernel
theorem dX9_setWindow_25 : decode cX9_setWindow 25 = .ok (.getfield 12, 3) := by decide +kernel
theorem dX9_setWindow_28 : decode cX9_setWindow 28 = .ok (.getfield 114, 3) := by decide +kernel
theorem dX9_setWindow_31 : decode cX9_setWindow 31 = .ok (.getfield 118, 3) := by decide +kernel
theorem dX9_setWindow_34 : decode cX9_setWindow 34 = .ok (.istore_n 3, 1) := by decide +kernel
theorem dX9_setWindow_35 : decode cX9_setWindow 35 = .ok (.aload_n 0, 1) := by decide +kernel
theorem dX9_setWindow_36 : decode cX9_setWindow 36 = .ok (.getfield 12, 3) := by decide +kernel
theorem dX9_setWindow_39 : decode cX9_setWindow 39 = .ok (.getfield 114, 3) := by decide +kernel
theorem dX9_setWindow_42 : decode cX9_setWindow 42 = .ok (.iload_n 1, 1) := by decide +kernel
theorem dX9_setWindow_43 : decode cX9_setWindow 43 = .ok (.iload_n 2, 1) := by decide +kernel
theorem dX9_setWindow_44 : decode cX9_setWindow 44 = .ok (.invokevirtual 123, 3) := by decide +kernel
theorem dX9_setWindow_47 : decode cX9_setWindow 47 = .ok (.iload_n 3, 1) := by decide +kernel
theorem dX9_setWindow_48 : decode cX9_setWindow 48 = .ok (.ireturn, 1) := by decide +kernel
def fX9_setWindow (p0 : Nat) (p1 : Int32) (p2 : Int32) (h : mxH) : Option ((Int32 ⊕ String) × mxH) := mxThen (fX9_requireRange p1 1 10 h) (fun v2 h3 => mxThen (fX9_requireRange p2 1 4 h3) (fun v6 h7 => Option.bind (gR h7 p0 9 1) (fun r9 => Option.bind (gR h7 p0 9 0) (fun r11 => Option.bind (isO h7 r9 0) (fun u13 => Option.bind (fX0_save r9 r11 h7) (fun o16 => Option.bind (gR o16 p0 9 0) (fun r17 => Option.bind (gR o16 r17 7 1) (fun r19 => Option.bind (gI o16 r19 2 4) (fun v21 => Option.bind (gR o16 p0 9 0) (fun r23 => Option.bind (gR o16 r23 7 1) (fun r25 => Option.bind (isO o16 r25 2) (fun u27 => Option.bind (fX2_beginAnew r25 p1 p2 o16) (fun o30 => some (Sum.inl v21, o30))))))))))))))
abbrev rmX9_setWindow : Room := { frames := 7, cells := 2, slots := 12, locals := 123 }
set_option maxRecDepth 20000 in
theorem tX9_setWindow {l : Launch} {Z : mxZ} (hl : l.stackTraces = false) {p0 : Nat} {p1 : Int32} {p2 : Int32} {h : mxH} {out : ((Int32 ⊕ String) × mxH)} (hf : fX9_setWindow p0 p1 p2 h = some out) : mxMet l Z yX9_setWindow cX9_setWindow 4 (some .int) rmX9_setWindow [.ref p0, .int p1, .int p2] h (mxRI out.1) out.2 := by
  refine mxMet_of (by decide) hl (by simp [Value.category]) (Nat.le_of_ble_eq_true rfl) ?_
  intro X C E hX hin
  unfold fX9_setWindow at hf
  refine mG_iload_n (pc := 0) C dX9_setWindow_0 rfl ?_
  refine mG_ic (pc := 1) C dX9_setWindow_1 kI1 ?_
  refine mG_bp (pc := 2) C dX9_setWindow_2 kB10 ?_
  rcases mx_then hf with ⟨v2, h3, e1, hf⟩ | ⟨E4, h3, e1, hf⟩
  · refine mG_cS (pc := 4) (k' := 1) (n' := 6) [.int p1, .int 1, .int 10] [] C hX dX9_setWindow_4 lkS_X9_86 rfl (tX9_requireRange hl e1) rfl rfl rfl rfl ?_
    refine mG_iload_n (pc := 7) C dX9_setWindow_7 rfl ?_
    refine mG_ic (pc := 8) C dX9_setWindow_8 kI1 ?_
    refine mG_ic (pc := 9) C dX9_setWindow_9 kI4 ?_
    rcases mx_then hf with ⟨v6, h7, e5, hf⟩ | ⟨E8, h7, e5, hf⟩
    · refine mG_cS (pc := 10) (k' := 2) (n' := 12) [.int p2, .int 1, .int 4] [] C hX dX9_setWindow_10 lkS_X9_86 rfl (tX9_requireRange hl e5) rfl rfl rfl rfl ?_
      refine mG_aload_n (pc := 13) C dX9_setWindow_13 rfl ?_
      obtain ⟨r9, e10, hf⟩ := mx_bind hf
      refine mG_getR (pc := 14) C dX9_setWindow_14 fl_X9_19 e10 ?_
      refine mG_aload_n (pc := 17) C dX9_setWindow_17 rfl ?_
      obtain ⟨r11, e12, hf⟩ := mx_bind hf
      refine mG_getR (pc := 18) C dX9_setWindow_18 fl_X9_12 e12 ?_
      obtain ⟨u13, e14, hf⟩ := mx_bind hf
      obtain ⟨o16, e15, hf⟩ := mx_bind hf
      refine mG_cV (pc := 21) (k' := 2) (n' := 12) 0 [.ref r11] [] C hX dX9_setWindow_21 lkV_X9_89 rfl rfl e14 (tX0_save hl e15) rfl rfl rfl rfl ?_
      refine mG_aload_n (pc := 24) C dX9_setWindow_24 rfl ?_
      obtain ⟨r17, e18, hf⟩ := mx_bind hf
      refine mG_getR (pc := 25) C dX9_setWindow_25 fl_X9_12 e18 ?_
      obtain ⟨r19, e20, hf⟩ := mx_bind hf
      refine mG_getR (pc := 28) C dX9_setWindow_28 fl_X9_114 e20 ?_
      obtain ⟨v21, e22, hf⟩ := mx_bind hf
      refine mG_getI (pc := 31) C dX9_setWindow_31 fl_X9_118 e22 ?_
      refine mG_isn (ls' := [some (.ref p0), some (.int p1), some (.int p2), some (.int v21)]) (pc := 34) C dX9_setWindow_34 rfl rfl rfl ?_
      refine mG_aload_n (pc := 35) C dX9_setWindow_35 rfl ?_
      obtain ⟨r23, e24, hf⟩ := mx_bind hf
      refine mG_getR (pc := 36) C dX9_setWindow_36 fl_X9_12 e24 ?_
      obtain ⟨r25, e26, hf⟩ := mx_bind hf
      refine mG_getR (pc := 39) C dX9_setWindow_39 fl_X9_114 e26 ?_
      refine mG_iload_n (pc := 42) C dX9_setWindow_42 rfl ?_
      refine mG_iload_n (pc := 43) C dX9_setWindow_43 rfl ?_
      obtain ⟨u27, e28, hf⟩ := mx_bind hf
      obtain ⟨o30, e29, hf⟩ := mx_bind hf
      refine mG_cV (pc := 44) (k' := 2) (n' := 12) 2 [.int p1, .int p2] [] C hX dX9_setWindow_44 lkV_X9_123 rfl rfl e28 (tX2_beginAnew hl e29) rfl rfl rfl rfl ?_
      refine mG_iload_n (pc := 47) C dX9_setWindow_47 rfl ?_
      cases hf
      exact mG_ir (pc := 48) C E hX dX9_setWindow_48 rfl
    · cases hf
      exact mG_cSX (pc := 10) [.int p2, .int 1, .int 4] [] C E hX dX9_setWindow_10 lkS_X9_86 rfl (tX9_requireRange hl e5) rfl rfl
  · cases hf
    exact mG_cSX (pc := 4) [.int p1, .int 1, .int 10] [] C E hX dX9_setWindow_4 lkS_X9_86 rfl (tX9_requireRange hl e1) rfl rfl
theorem dX9_push_0 : decode cX9_push 0 = .ok (.iload_n 1, 1) := by decide +kernel
theorem dX9_push_1 : decode cX9_push 1 = .ok (.iconst 0, 1) := by decide +kernel
theorem dX9_push_2 : decode cX9_push 2 = .ok (.bipush 99, 2) := by decide +kernel
theorem dX9_push_4 : decode cX9_push 4 = .ok (.invokestatic 86, 3) := by decide +kernel
theorem dX9_push_7 : decode cX9_push 7 = .ok (.aload_n 0, 1) := by decide +kernel
theorem dX9_push_8 : decode cX9_push 8 = .ok (.getfield 19, 3) := by decide +kernel
theorem dX9_push_11 : decode cX9_push 11 = .ok (.aload_n 0, 1) := by decide +kernel
theorem dX9_push_12 : decode cX9_push 12 = .ok (.getfield 12, 3) := by decide +kernel
theorem dX9_push_15 : decode cX9_push 15 = .ok (.invokevirtual 89, 3) := by decide +kernel
theorem dX9_push_18 : decode cX9_push 18 = .ok (.aload_n 0, 1) := by decide +kernel
theorem dX9_push_19 : decode cX9_push 19 = .ok (.getfield 12, 3) := by decide +kernel
theorem dX9_push_22 : decode cX9_push 22 = .ok (.getfield 114, 3) := by decide +kernel
theorem dX9_push_25 : decode cX9_push 25 = .ok (.iload_n 1, 1) := by decide +kernel
theorem dX9_push_26 : decode cX9_push 26 = .ok (.invokevirtual 127, 3) := by decide +kernel
theorem dX9_push_29 : decode cX9_push 29 = .ok (.ireturn, 1) := by decide +kernel
def fX9_push (p0 : Nat) (p1 : Int32) (h : mxH) : Option ((Int32 ⊕ String) × mxH) := mxThen (fX9_requireRange p1 0 99 h) (fun v2 h3 => Option.bind (gR h3 p0 9 1) (fun r5 => Option.bind (gR h3 p0 9 0) (fun r7 => Option.bind (isO h3 r5 0) (fun u9 => Option.bind (fX0_save r5 r7 h3) (fun o12 => Option.bind (gR o12 p0 9 0) (fun r13 => Option.bind (gR o12 r13 7 1) (fun r15 => Option.bind (isO o12 r15 2) (fun u17 => Option.bind (fX2_take r15 p1 o12) (fun o20 => some (Sum.inl o20.1, o20.2))))))))))
abbrev rmX9_push : Room := { frames := 7, cells := 1, slots := 6, locals := 123 }
set_option maxRecDepth 20000 in
theorem tX9_push {l : Launch} {Z : mxZ} (hl : l.stackTraces = false) {p0 : Nat} {p1 : Int32} {h : mxH} {out : ((Int32 ⊕ String) × mxH)} (hf : fX9_push p0 p1 h = some out) : mxMet l Z yX9_push cX9_push 2 (some .int) rmX9_push [.ref p0, .int p1] h (mxRI out.1) out.2 := by
  refine mxMet_of (by decide) hl (by simp [Value.category]) (Nat.le_of_ble_eq_true rfl) ?_
  intro X C E hX hin
  unfold fX9_push at hf
  refine mG_iload_n (pc := 0) C dX9_push_0 rfl ?_
  refine mG_ic (pc := 1) C dX9_push_1 kI0 ?_
  refine mG_bp (pc := 2) C dX9_push_2 kB99 ?_
  rcases mx_then hf with ⟨v2, h3, e1, hf⟩ | ⟨E4, h3, e1, hf⟩
  · refine mG_cS (pc := 4) (k' := 1) (n' := 6) [.int p1, .int 0, .int 99] [] C hX dX9_push_4 lkS_X9_86 rfl (tX9_requireRange hl e1) rfl rfl rfl rfl ?_
    refine mG_aload_n (pc := 7) C dX9_push_7 rfl ?_
    obtain ⟨r5, e6, hf⟩ := mx_bind hf
    refine mG_getR (pc := 8) C dX9_push_8 fl_X9_19 e6 ?_
    refine mG_aload_n (pc := 11) C dX9_push_11 rfl ?_
    obtain ⟨r7, e8, hf⟩ := mx_bind hf
    refine mG_getR (pc := 12) C dX9_push_12 fl_X9_12 e8 ?_
    obtain ⟨u9, e10, hf⟩ := mx_bind hf
    obtain ⟨o12, e11, hf⟩ := mx_bind hf
    refine mG_cV (pc := 15) (k' := 1) (n' := 6) 0 [.ref r7] [] C hX dX9_push_15 lkV_X9_89 rfl rfl e10 (tX0_save hl e11) rfl rfl rfl rfl ?_
    refine mG_aload_n (pc := 18) C dX9_push_18 rfl ?_
    obtain ⟨r13, e14, hf⟩ := mx_bind hf
    refine mG_getR (pc := 19) C dX9_push_19 fl_X9_12 e14 ?_
    obtain ⟨r15, e16, hf⟩ := mx_bind hf
    refine mG_getR (pc := 22) C dX9_push_22 fl_X9_114 e16 ?_
    refine mG_iload_n (pc := 25) C dX9_push_25 rfl ?_
    obtain ⟨u17, e18, hf⟩ := mx_bind hf
    obtain ⟨o20, e19, hf⟩ := mx_bind hf
    refine mG_cV (pc := 26) (k' := 1) (n' := 6) 2 [.int p1] [] C hX dX9_push_26 lkV_X9_127 rfl rfl e18 (tX2_take hl e19) rfl rfl rfl rfl ?_
    cases hf
    exact mG_ir (pc := 29) C E hX dX9_push_29 rfl
  · cases hf
    exact mG_cSX (pc := 4) [.int p1, .int 0, .int 99] [] C E hX dX9_push_4 lkS_X9_86 rfl (tX9_requireRange hl e1) rfl rfl
theorem dX9_undo_0 : decode cX9_undo 0 = .ok (.aload_n 0, 1) := by decide +kernel
theorem dX9_undo_1 : decode cX9_undo 1 = .ok (.getfield 19, 3) := by decide +kernel
theorem dX9_undo_4 : decode cX9_undo 4 = .ok (.aload_n 0, 1) := by decide +kernel
theorem dX9_undo_5 : decode cX9_undo 5 = .ok (.getfield 12, 3) := by decide +kernel
theorem dX9_undo_8 : decode cX9_undo 8 = .ok (.invokevirtual 131, 3) := by decide +kernel
theorem dX9_undo_11 : decode cX9_undo 11 = .ok (.ireturn, 1) := by decide +kernel
def fX9_undo (p0 : Nat) (h : mxH) : Option (Int32 × mxH) := Option.bind (gR h p0 9 1) (fun r1 => Option.bind (gR h p0 9 0) (fun r3 => Option.bind (isO h r1 0) (fun u5 => Option.bind (fX0_restore r1 r3 h) (fun o8 => some (o8.1, o8.2)))))
abbrev rmX9_undo : Room := { frames := 4, cells := 0, slots := 0, locals := 107 }
set_option maxRecDepth 20000 in
theorem tX9_undo {l : Launch} {Z : mxZ} (hl : l.stackTraces = false) {p0 : Nat} {h : mxH} {out : (Int32 × mxH)} (hf : fX9_undo p0 h = some out) : mxMet l Z yX9_undo cX9_undo 1 (some .int) rmX9_undo [.ref p0] h (.inl (some (.int out.1))) out.2 := by
  refine mxMet_of (by decide) hl (by simp [Value.category]) (Nat.le_of_ble_eq_true rfl) ?_
  intro X C E hX hin
  unfold fX9_undo at hf
  refine mG_aload_n (pc := 0) C dX9_undo_0 rfl ?_
  obtain ⟨r1, e2, hf⟩ := mx_bind hf
  refine mG_getR (pc := 1) C dX9_undo_1 fl_X9_19 e2 ?_
  refine mG_aload_n (pc := 4) C dX9_undo_4 rfl ?_
  obtain ⟨r3, e4, hf⟩ := mx_bind hf
  refine mG_getR (pc := 5) C dX9_undo_5 fl_X9_12 e4 ?_
  obtain ⟨u5, e6, hf⟩ := mx_bind hf
  obtain ⟨o8, e7, hf⟩ := mx_bind hf
  refine mG_cV (pc := 8) (k' := 0) (n' := 0) 0 [.ref r3] [] C hX dX9_undo_8 lkV_X9_131 rfl rfl e6 (tX0_restore hl e7) rfl rfl rfl rfl ?_
  cases hf
  exact mG_ir (pc := 11) C E hX dX9_undo_11 rfl
theorem dX9_itemCount_0 : decode cX9_itemCount 0 = .ok (.iload_n 1, 1) := by decide +kernel
theorem dX9_itemCount_1 : decode cX9_itemCount 1 = .ok (.invokestatic 79, 3) := by decide +kernel
theorem dX9_itemCount_4 : decode cX9_itemCount 4 = .ok (.aload_n 0, 1) := by decide +kernel
theorem dX9_itemCount_5 : decode cX9_itemCount 5 = .ok (.getfield 12, 3) := by decide +kernel
theorem dX9_itemCount_8 : decode cX9_itemCount 8 = .ok (.getfield 72, 3) := by decide +kernel
theorem dX9_itemCount_11 : decode cX9_itemCount 11 = .ok (.iload_n 1, 1) := by decide +kernel
theorem dX9_itemCount_12 : decode cX9_itemCount 12 = .ok (.invokevirtual 135, 3) := by decide +kernel
theorem dX9_itemCount_15 : decode cX9_itemCount 15 = .ok (.ireturn, 1) := by decide +kernel
def fX9_itemCount (p0 : Nat) (p1 : Int32) (h : mxH) : Option ((Int32 ⊕ String) × mxH) := mxThen (fX9_requireRow p1 h) (fun v2 h3 => Option.bind (gR h3 p0 9 0) (fun r5 => Option.bind (gR h3 r5 7 0) (fun r7 => Option.bind (isO h3 r7 6) (fun u9 => Option.bind (fX6_sizeOf r7 p1 h3) (fun v12 => some (Sum.inl v12, h3))))))
abbrev rmX9_itemCount : Room := { frames := 7, cells := 1, slots := 6, locals := 121 }
set_option maxRecDepth 20000 in
theorem tX9_itemCount {l : Launch} {Z : mxZ} (hl : l.stackTraces = false) {p0 : Nat} {p1 : Int32} {h : mxH} {out : ((Int32 ⊕ String) × mxH)} (hf : fX9_itemCount p0 p1 h = some out) : mxMet l Z yX9_itemCount cX9_itemCount 2 (some .int) rmX9_itemCount [.ref p0, .int p1] h (mxRI out.1) out.2 := by
  refine mxMet_of (by decide) hl (by simp [Value.category]) (Nat.le_of_ble_eq_true rfl) ?_
  intro X C E hX hin
  unfold fX9_itemCount at hf
  refine mG_iload_n (pc := 0) C dX9_itemCount_0 rfl ?_
  rcases mx_then hf with ⟨v2, h3, e1, hf⟩ | ⟨E4, h3, e1, hf⟩
  · refine mG_cS (pc := 1) (k' := 1) (n' := 6) [.int p1] [] C hX dX9_itemCount_1 lkS_X9_79 rfl (tX9_requireRow hl e1) rfl rfl rfl rfl ?_
    refine mG_aload_n (pc := 4) C dX9_itemCount_4 rfl ?_
    obtain ⟨r5, e6, hf⟩ := mx_bind hf
    refine mG_getR (pc := 5) C dX9_itemCount_5 fl_X9_12 e6 ?_
    obtain ⟨r7, e8, hf⟩ := mx_bind hf
    refine mG_getR (pc := 8) C dX9_itemCount_8 fl_X9_72 e8 ?_
    refine mG_iload_n (pc := 11) C dX9_itemCount_11 rfl ?_
    obtain ⟨u9, e10, hf⟩ := mx_bind hf
    obtain ⟨v12, e11, hf⟩ := mx_bind hf
    refine mG_cV (pc := 12) (k' := 1) (n' := 6) 6 [.int p1] [] C hX dX9_itemCount_12 lkV_X9_135 rfl rfl e10 (tX6_sizeOf hl e11) rfl rfl rfl rfl ?_
    cases hf
    exact mG_ir (pc := 15) C E hX dX9_itemCount_15 rfl
  · cases hf
    exact mG_cSX (pc := 1) [.int p1] [] C E hX dX9_itemCount_1 lkS_X9_79 rfl (tX9_requireRow hl e1) rfl rfl
theorem dX9_requirePlace_0 : decode cX9_requirePlace 0 = .ok (.iload_n 0, 1) := by decide +kernel
theorem dX9_requirePlace_1 : decode cX9_requirePlace 1 = .ok (.ifCond .lt 8, 3) := by decide +kernel
theorem dX9_requirePlace_4 : decode cX9_requirePlace 4 = .ok (.iload_n 0, 1) := by decide +kernel
theorem dX9_requirePlace_5 : decode cX9_requirePlace 5 = .ok (.iload_n 1, 1) := by decide +kernel
theorem dX9_requirePlace_6 : decode cX9_requirePlace 6 = .ok (.if_icmp .lt 14, 3) := by decide +kernel
theorem dX9_requirePlace_9 : decode cX9_requirePlace 9 = .ok (.new 310, 3) := by decide +kernel
theorem dX9_requirePlace_12 : decode cX9_requirePlace 12 = .ok (.dup, 1) := by decide +kernel
theorem dX9_requirePlace_13 : decode cX9_requirePlace 13 = .ok (.ldc_w 320, 3) := by decide +kernel
theorem dX9_requirePlace_16 : decode cX9_requirePlace 16 = .ok (.invokespecial 314, 3) := by decide +kernel
theorem dX9_requirePlace_19 : decode cX9_requirePlace 19 = .ok (.athrow, 1) := by decide +kernel
theorem dX9_requirePlace_20 : decode cX9_requirePlace 20 = .ok (.return_, 1) := by decide +kernel
def fX9_requirePlace (p0 : Int32) (p1 : Int32) (h : mxH) : Option ((Unit ⊕ String) × mxH) := (if p0 < 0 then some (Sum.inr "java/lang/IndexOutOfBoundsException", mxThr h) else (if p0 < p1 then some (Sum.inl (), h) else some (Sum.inr "java/lang/IndexOutOfBoundsException", mxThr h)))
abbrev rmX9_requirePlace : Room := { frames := 6, cells := 1, slots := 6, locals := 101 }
set_option maxRecDepth 20000 in
theorem tX9_requirePlace {l : Launch} {Z : mxZ} (hl : l.stackTraces = false) {p0 : Int32} {p1 : Int32} {h : mxH} {out : ((Unit ⊕ String) × mxH)} (hf : fX9_requirePlace p0 p1 h = some out) : mxMet l Z yX9_requirePlace cX9_requirePlace 2 (none) rmX9_requirePlace [.int p0, .int p1] h (mxRU out.1) out.2 := by
  refine mxMet_of (by decide) hl (by simp [Value.category]) (Nat.le_of_ble_eq_true rfl) ?_
  intro X C E hX hin
  unfold fX9_requirePlace at hf
  refine mG_iload_n (pc := 0) C dX9_requirePlace_0 rfl ?_
  refine mG_if_lt (pc := 1) (tgt := 9) C dX9_requirePlace_1 (by decide) (fun q1 => ?_) (fun q1 => ?_)
  · rw [if_pos q1] at hf
    cases hf
    exact mG_th (pc := 9) C E hX thw_310_314 tx320 dX9_requirePlace_9 dX9_requirePlace_12 dX9_requirePlace_13 dX9_requirePlace_16 dX9_requirePlace_19 rfl rfl
  · rw [if_neg q1] at hf
    refine mG_iload_n (pc := 4) C dX9_requirePlace_4 rfl ?_
    refine mG_iload_n (pc := 5) C dX9_requirePlace_5 rfl ?_
    refine mG_icmp_lt (pc := 6) (tgt := 20) C dX9_requirePlace_6 (by decide) (fun q2 => ?_) (fun q2 => ?_)
    · rw [if_pos q2] at hf
      cases hf
      exact mG_vr (pc := 20) C E hX dX9_requirePlace_20 rfl
    · rw [if_neg q2] at hf
      cases hf
      exact mG_th (pc := 9) C E hX thw_310_314 tx320 dX9_requirePlace_9 dX9_requirePlace_12 dX9_requirePlace_13 dX9_requirePlace_16 dX9_requirePlace_19 rfl rfl
theorem dX9_thingAt_0 : decode cX9_thingAt 0 = .ok (.iload_n 1, 1) := by decide +kernel
theorem dX9_thingAt_1 : decode cX9_thingAt 1 = .ok (.invokestatic 79, 3) := by decide +kernel
theorem dX9_thingAt_4 : decode cX9_thingAt 4 = .ok (.iload_n 2, 1) := by decide +kernel
theorem dX9_thingAt_5 : decode cX9_thingAt 5 = .ok (.aload_n 0, 1) := by decide +kernel
theorem dX9_thingAt_6 : decode cX9_thingAt 6 = .ok (.getfield 12, 3) := by decide +kernel
theorem dX9_thingAt_9 : decode cX9_thingAt 9 = .ok (.getfield 72, 3) := by decide +kernel
theorem dX9_thingAt_12 : decode cX9_thingAt 12 = .ok (.iload_n 1, 1) := by decide +kernel
theorem dX9_thingAt_13 : decode cX9_thingAt 13 = .ok (.invokevirtual 135, 3) := by decide +kernel
theorem dX9_thingAt_16 : decode cX9_thingAt 16 = .ok (.invokestatic 138, 3) := by decide +kernel
theorem dX9_thingAt_19 : decode cX9_thingAt 19 = .ok (.aload_n 0, 1) := by decide +kernel
theorem dX9_thingAt_20 : decode cX9_thingAt 20 = .ok (.getfield 12, 3) := by decide +kernel
theorem dX9_thingAt_23 : decode cX9_thingAt 23 = .ok (.getfield 72, 3) := by decide +kernel
theorem dX9_thingAt_26 : decode cX9_thingAt 26 = .ok (.iload_n 1, 1) := by decide +kernel
theorem dX9_thingAt_27 : decode cX9_thingAt 27 = .ok (.iload_n 2, 1) := by decide +kernel
theorem dX9_thingAt_28 : decode cX9_thingAt 28 = .ok (.invokevirtual 141, 3) := by decide +kernel
theorem dX9_thingAt_31 : decode cX9_thingAt 31 = .ok (.ireturn, 1) := by decide +kernel
def fX9_thingAt (p0 : Nat) (p1 : Int32) (p2 : Int32) (h : mxH) : Option ((Int32 ⊕ String) × mxH) := mxThen (fX9_requireRow p1 h) (fun v2 h3 => Option.bind (gR h3 p0 9 0) (fun r5 => Option.bind (gR h3 r5 7 0) (fun r7 => Option.bind (isO h3 r7 6) (fun u9 => Option.bind (fX6_sizeOf r7 p1 h3) (fun v12 => mxThen (fX9_requirePlace p2 v12 h3) (fun v14 h15 => Option.bind (gR h15 p0 9 0) (fun r17 => Option.bind (gR h15 r17 7 0) (fun r19 => Option.bind (isO h15 r19 6) (fun u21 => Option.bind (fX6_thingOn r19 p1 p2 h15) (fun v24 => some (Sum.inl v24, h15)))))))))))
abbrev rmX9_thingAt : Room := { frames := 7, cells := 2, slots := 12, locals := 122 }
set_option maxRecDepth 20000 in
theorem tX9_thingAt {l : Launch} {Z : mxZ} (hl : l.stackTraces = false) {p0 : Nat} {p1 : Int32} {p2 : Int32} {h : mxH} {out : ((Int32 ⊕ String) × mxH)} (hf : fX9_thingAt p0 p1 p2 h = some out) : mxMet l Z yX9_thingAt cX9_thingAt 3 (some .int) rmX9_thingAt [.ref p0, .int p1, .int p2] h (mxRI out.1) out.2 := by
  refine mxMet_of (by decide) hl (by simp [Value.category]) (Nat.le_of_ble_eq_true rfl) ?_
  intro X C E hX hin
  unfold fX9_thingAt at hf
  refine mG_iload_n (pc := 0) C dX9_thingAt_0 rfl ?_
  rcases mx_then hf with ⟨v2, h3, e1, hf⟩ | ⟨E4, h3, e1, hf⟩
  · refine mG_cS (pc := 1) (k' := 1) (n' := 6) [.int p1] [] C hX dX9_thingAt_1 lkS_X9_79 rfl (tX9_requireRow hl e1) rfl rfl rfl rfl ?_
    refine mG_iload_n (pc := 4) C dX9_thingAt_4 rfl ?_
    refine mG_aload_n (pc := 5) C dX9_thingAt_5 rfl ?_
    obtain ⟨r5, e6, hf⟩ := mx_bind hf
    refine mG_getR (pc := 6) C dX9_thingAt_6 fl_X9_12 e6 ?_
    obtain ⟨r7, e8, hf⟩ := mx_bind hf
    refine mG_getR (pc := 9) C dX9_thingAt_9 fl_X9_72 e8 ?_
    refine mG_iload_n (pc := 12) C dX9_thingAt_12 rfl ?_
    obtain ⟨u9, e10, hf⟩ := mx_bind hf
    obtain ⟨v12, e11, hf⟩ := mx_bind hf
    refine mG_cV (pc := 13) (k' := 1) (n' := 6) 6 [.int p1] [.int p2] C hX dX9_thingAt_13 lkV_X9_135 rfl rfl e10 (tX6_sizeOf hl e11) rfl rfl rfl rfl ?_
    rcases mx_then hf with ⟨v14, h15, e13, hf⟩ | ⟨E16, h15, e13, hf⟩
    · refine mG_cS (pc := 16) (k' := 2) (n' := 12) [.int p2, .int v12] [] C hX dX9_thingAt_16 lkS_X9_138 rfl (tX9_requirePlace hl e13) rfl rfl rfl rfl ?_
      refine mG_aload_n (pc := 19) C dX9_thingAt_19 rfl ?_
      obtain ⟨r17, e18, hf⟩ := mx_bind hf
      refine mG_getR (pc := 20) C dX9_thingAt_20 fl_X9_12 e18 ?_
      obtain ⟨r19, e20, hf⟩ := mx_bind hf
      refine mG_getR (pc := 23) C dX9_thingAt_23 fl_X9_72 e20 ?_
      refine mG_iload_n (pc := 26) C dX9_thingAt_26 rfl ?_
      refine mG_iload_n (pc := 27) C dX9_thingAt_27 rfl ?_
      obtain ⟨u21, e22, hf⟩ := mx_bind hf
      obtain ⟨v24, e23, hf⟩ := mx_bind hf
      refine mG_cV (pc := 28) (k' := 2) (n' := 12) 6 [.int p1, .int p2] [] C hX dX9_thingAt_28 lkV_X9_141 rfl rfl e22 (tX6_thingOn hl e23) rfl rfl rfl rfl ?_
      cases hf
      exact mG_ir (pc := 31) C E hX dX9_thingAt_31 rfl
    · cases hf
      exact mG_cSX (pc := 16) [.int p2, .int v12] [] C E hX dX9_thingAt_16 lkS_X9_138 rfl (tX9_requirePlace hl e13) rfl rfl
  · cases hf
    exact mG_cSX (pc := 1) [.int p1] [] C E hX dX9_thingAt_1 lkS_X9_79 rfl (tX9_requireRow hl e1) rfl rfl
theorem dX9_markAt_0 : decode cX9_markAt 0 = .ok (.iload_n 1, 1) := by decide +kernel
theorem dX9_markAt_1 : decode cX9_markAt 1 = .ok (.invokestatic 79, 3) := by decide +kernel
theorem dX9_markAt_4 : decode cX9_markAt 4 = .ok (.iload_n 2, 1) := by decide +kernel
theorem dX9_markAt_5 : decode cX9_markAt 5 = .ok (.aload_n 0, 1) := by decide +kernel
theorem dX9_markAt_6 : decode cX9_markAt 6 = .ok (.getfield 12, 3) := by decide +kernel
theorem dX9_markAt_9 : decode cX9_markAt 9 = .ok (.getfield 72, 3) := by decide +kernel
theorem dX9_markAt_12 : decode cX9_markAt 12 = .ok (.iload_n 1, 1) := by decide +kernel
theorem dX9_markAt_13 : decode cX9_markAt 13 = .ok (.invokevirtual 135, 3) := by decide +kernel
theorem dX9_markAt_16 : decode cX9_markAt 16 = .ok (.invokestatic 138, 3) := by decide +kernel
theorem dX9_markAt_19 : decode cX9_markAt 19 = .ok (.aload_n 0, 1) := by decide +kernel
theorem dX9_markAt_20 : decode cX9_markAt 20 = .ok (.getfield 12, 3) := by decide +kernel
theorem dX9_markAt_23 : decode cX9_markAt 23 = .ok (.getfield 72, 3) := by decide +kernel
theorem dX9_markAt_26 : decode cX9_markAt 26 = .ok (.iload_n 1, 1) := by decide +kernel
theorem dX9_markAt_27 : decode cX9_markAt 27 = .ok (.iload_n 2, 1) := by decide +kernel
theorem dX9_markAt_28 : decode cX9_markAt 28 = .ok (.invokevirtual 144, 3) := by decide +kernel
theorem dX9_markAt_31 : decode cX9_markAt 31 = .ok (.ireturn, 1) := by decide +kernel
def fX9_markAt (p0 : Nat) (p1 : Int32) (p2 : Int32) (h : mxH) : Option ((Int32 ⊕ String) × mxH) := mxThen (fX9_requireRow p1 h) (fun v2 h3 => Option.bind (gR h3 p0 9 0) (fun r5 => Option.bind (gR h3 r5 7 0) (fun r7 => Option.bind (isO h3 r7 6) (fun u9 => Option.bind (fX6_sizeOf r7 p1 h3) (fun v12 => mxThen (fX9_requirePlace p2 v12 h3) (fun v14 h15 => Option.bind (gR h15 p0 9 0) (fun r17 => Option.bind (gR h15 r17 7 0) (fun r19 => Option.bind (isO h15 r19 6) (fun u21 => Option.bind (fX6_markOn r19 p1 p2 h15) (fun v24 => some (Sum.inl v24, h15)))))))))))
abbrev rmX9_markAt : Room := { frames := 7, cells := 2, slots := 12, locals := 122 }
set_option maxRecDepth 20000 in
theorem tX9_markAt {l : Launch} {Z : mxZ} (hl : l.stackTraces = false) {p0 : Nat} {p1 : Int32} {p2 : Int32} {h : mxH} {out : ((Int32 ⊕ String) × mxH)} (hf : fX9_markAt p0 p1 p2 h = some out) : mxMet l Z yX9_markAt cX9_markAt 3 (some .int) rmX9_markAt [.ref p0, .int p1, .int p2] h (mxRI out.1) out.2 := by
  refine mxMet_of (by decide) hl (by simp [Value.category]) (Nat.le_of_ble_eq_true rfl) ?_
  intro X C E hX hin
  unfold fX9_markAt at hf
  refine mG_iload_n (pc := 0) C dX9_markAt_0 rfl ?_
  rcases mx_then hf with ⟨v2, h3, e1, hf⟩ | ⟨E4, h3, e1, hf⟩
  · refine mG_cS (pc := 1) (k' := 1) (n' := 6) [.int p1] [] C hX dX9_markAt_1 lkS_X9_79 rfl (tX9_requireRow hl e1) rfl rfl rfl rfl ?_
    refine mG_iload_n (pc := 4) C dX9_markAt_4 rfl ?_
    refine mG_aload_n (pc := 5) C dX9_markAt_5 rfl ?_
    obtain ⟨r5, e6, hf⟩ := mx_bind hf
    refine mG_getR (pc := 6) C dX9_markAt_6 fl_X9_12 e6 ?_
    obtain ⟨r7, e8, hf⟩ := mx_bind hf
    refine mG_getR (pc := 9) C dX9_markAt_9 fl_X9_72 e8 ?_
    refine mG_iload_n (pc := 12) C dX9_markAt_12 rfl ?_
    obtain ⟨u9, e10, hf⟩ := mx_bind hf
    obtain ⟨v12, e11, hf⟩ := mx_bind hf
    refine mG_cV (pc := 13) (k' := 1) (n' := 6) 6 [.int p1] [.int p2] C hX dX9_markAt_13 lkV_X9_135 rfl rfl e10 (tX6_sizeOf hl e11) rfl rfl rfl rfl ?_
    rcases mx_then hf with ⟨v14, h15, e13, hf⟩ | ⟨E16, h15, e13, hf⟩
    · refine mG_cS (pc := 16) (k' := 2) (n' := 12) [.int p2, .int v12] [] C hX dX9_markAt_16 lkS_X9_138 rfl (tX9_requirePlace hl e13) rfl rfl rfl rfl ?_
      refine mG_aload_n (pc := 19) C dX9_markAt_19 rfl ?_
      obtain ⟨r17, e18, hf⟩ := mx_bind hf
      refine mG_getR (pc := 20) C dX9_markAt_20 fl_X9_12 e18 ?_
      obtain ⟨r19, e20, hf⟩ := mx_bind hf
      refine mG_getR (pc := 23) C dX9_markAt_23 fl_X9_72 e20 ?_
      refine mG_iload_n (pc := 26) C dX9_markAt_26 rfl ?_
      refine mG_iload_n (pc := 27) C dX9_markAt_27 rfl ?_
      obtain ⟨u21, e22, hf⟩ := mx_bind hf
      obtain ⟨v24, e23, hf⟩ := mx_bind hf
      refine mG_cV (pc := 28) (k' := 2) (n' := 12) 6 [.int p1, .int p2] [] C hX dX9_markAt_28 lkV_X9_144 rfl rfl e22 (tX6_markOn hl e23) rfl rfl rfl rfl ?_
      cases hf
      exact mG_ir (pc := 31) C E hX dX9_markAt_31 rfl
    · cases hf
      exact mG_cSX (pc := 16) [.int p2, .int v12] [] C E hX dX9_markAt_16 lkS_X9_138 rfl (tX9_requirePlace hl e13) rfl rfl
  · cases hf
    exact mG_cSX (pc := 1) [.int p1] [] C E hX dX9_markAt_1 lkS_X9_79 rfl (tX9_requireRow hl e1) rfl rfl
theorem dX9_placeOf_0 : decode cX9_placeOf 0 = .ok (.iload_n 1, 1) := by decide +kernel
theorem dX9_placeOf_1 : decode cX9_placeOf 1 = .ok (.invokestatic 79, 3) := by decide +kernel
theorem dX9_placeOf_4 : decode cX9_placeOf 4 = .ok (.iload_n 2, 1) := by decide +kernel
theorem dX9_placeOf_5 : decode cX9_placeOf 5 = .ok (.invokestatic 83, 3) := by decide +kernel
theorem dX9_placeOf_8 : decode cX9_placeOf 8 = .ok (.aload_n 0, 1) := by decide +kernel
theorem dX9_placeOf_9 : decode cX9_placeOf 9 = .ok (.getfield 12, 3) := by decide +kernel
theorem dX9_placeOf_12 : decode cX9_placeOf 12 = .ok (.getfield 72, 3) := by decide +kernel
theorem dX9_placeOf_15 : decode cX9_placeOf 15 = .ok (.iload_n 1, 1) := by decide +kernel
theorem dX9_placeOf_16 : decode cX9_placeOf 16 = .ok (.iload_n 2, 1) := by decide +kernel
theorem dX9_placeOf_17 : decode cX9_placeOf 17 = .ok (.invokevirtual 147, 3) := by decide +kernel
theorem dX9_placeOf_20 : decode cX9_placeOf 20 = .ok (.istore_n 3, 1) := by decide +kernel
theorem dX9_placeOf_21 : decode cX9_placeOf 21 = .ok (.iload_n 3, 1) := by decide +kernel
theorem dX9_placeOf_22 : decode cX9_placeOf 22 = .ok (.iconst (-1), 1) := by decide +kernel
theorem dX9_placeOf_23 : decode cX9_placeOf 23 = .ok (.if_icmp .eq 7, 3) := by decide +kernel
theorem dX9_placeOf_26 : decode cX9_placeOf 26 = .ok (.iconst 1, 1) := by decide +kernel
theorem dX9_placeOf_27 : decode cX9_placeOf 27 = .ok (.goto 4, 3) := by decide +kernel
theorem dX9_placeOf_30 : decode cX9_placeOf 30 = .ok (.iconst 0, 1) := by decide +kernel
theorem dX9_placeOf_31 : decode cX9_placeOf 31 = .ok (.invokestatic 97, 3) := by decide +kernel
theorem dX9_placeOf_34 : decode cX9_placeOf 34 = .ok (.iload_n 3, 1) := by decide +kernel
theorem dX9_placeOf_35 : decode cX9_placeOf 35 = .ok (.ireturn, 1) := by decide +kernel
def fX9_placeOf (p0 : Nat) (p1 : Int32) (p2 : Int32) (h : mxH) : Option ((Int32 ⊕ String) × mxH) := mxThen (fX9_requireRow p1 h) (fun v2 h3 => mxThen (fX9_requireThing p2 h3) (fun v6 h7 => Option.bind (gR h7 p0 9 0) (fun r9 => Option.bind (gR h7 r9 7 0) (fun r11 => Option.bind (isO h7 r11 6) (fun u13 => Option.bind (fX6_placeIn r11 p1 p2 h7) (fun v16 => Option.bind (α := Int32) (if v16 = (-1) then some 0 else some 1) (fun p19' : Int32 => mxThen (fX9_requireFound p19' h7) (fun v22 h23 => some (Sum.inl v16, h23)))))))))
abbrev rmX9_placeOf : Room := { frames := 7, cells := 3, slots := 18, locals := 121 }
set_option maxRecDepth 20000 in
theorem tX9_placeOf {l : Launch} {Z : mxZ} (hl : l.stackTraces = false) {p0 : Nat} {p1 : Int32} {p2 : Int32} {h : mxH} {out : ((Int32 ⊕ String) × mxH)} (hf : fX9_placeOf p0 p1 p2 h = some out) : mxMet l Z yX9_placeOf cX9_placeOf 4 (some .int) rmX9_placeOf [.ref p0, .int p1, .int p2] h (mxRI out.1) out.2 := by
  refine mxMet_of (by decide) hl (by simp [Value.category]) (Nat.le_of_ble_eq_true rfl) ?_
  intro X C E hX hin
  unfold fX9_placeOf at hf
  refine mG_iload_n (pc := 0) C dX9_placeOf_0 rfl ?_
  rcases mx_then hf with ⟨v2, h3, e1, hf⟩ | ⟨E4, h3, e1, hf⟩
  · refine mG_cS (pc := 1) (k' := 1) (n' := 6) [.int p1] [] C hX dX9_placeOf_1 lkS_X9_79 rfl (tX9_requireRow hl e1) rfl rfl rfl rfl ?_
    refine mG_iload_n (pc := 4) C dX9_placeOf_4 rfl ?_
    rcases mx_then hf with ⟨v6, h7, e5, hf⟩ | ⟨E8, h7, e5, hf⟩
    · refine mG_cS (pc := 5) (k' := 2) (n' := 12) [.int p2] [] C hX dX9_placeOf_5 lkS_X9_83 rfl (tX9_requireThing hl e5) rfl rfl rfl rfl ?_
      refine mG_aload_n (pc := 8) C dX9_placeOf_8 rfl ?_
      obtain ⟨r9, e10, hf⟩ := mx_bind hf
      refine mG_getR (pc := 9) C dX9_placeOf_9 fl_X9_12 e10 ?_
      obtain ⟨r11, e12, hf⟩ := mx_bind hf
      refine mG_getR (pc := 12) C dX9_placeOf_12 fl_X9_72 e12 ?_
      refine mG_iload_n (pc := 15) C dX9_placeOf_15 rfl ?_
      refine mG_iload_n (pc := 16) C dX9_placeOf_16 rfl ?_
      obtain ⟨u13, e14, hf⟩ := mx_bind hf
      obtain ⟨v16, e15, hf⟩ := mx_bind hf
      refine mG_cV (pc := 17) (k' := 2) (n' := 12) 6 [.int p1, .int p2] [] C hX dX9_placeOf_17 lkV_X9_147 rfl rfl e14 (tX6_placeIn hl e15) rfl rfl rfl rfl ?_
      refine mG_isn (ls' := [some (.ref p0), some (.int p1), some (.int p2), some (.int v16)]) (pc := 20) C dX9_placeOf_20 rfl rfl rfl ?_
      refine mG_iload_n (pc := 21) C dX9_placeOf_21 rfl ?_
      refine mG_ic (pc := 22) C dX9_placeOf_22 kIm1 ?_
      obtain ⟨p19, e20, hf⟩ := mx_bind hf
      have J18 : ∀ p19' : Int32, p19' = p19 → mG l Z X 4 2 12 31 [none, none, none, some (.int v16)] [.int p19'] h7 := by
        intro p19' q25
        subst q25
        rcases mx_then hf with ⟨v22, h23, e21, hf⟩ | ⟨E24, h23, e21, hf⟩
        · refine mG_cS (pc := 31) (k' := 3) (n' := 18) [.int p19'] [] C hX dX9_placeOf_31 lkS_X9_97 rfl (tX9_requireFound hl e21) rfl rfl rfl rfl ?_
          refine mG_iload_n (pc := 34) C dX9_placeOf_34 rfl ?_
          cases hf
          exact mG_ir (pc := 35) C E hX dX9_placeOf_35 rfl
        · cases hf
          exact mG_cSX (pc := 31) [.int p19'] [] C E hX dX9_placeOf_31 lkS_X9_97 rfl (tX9_requireFound hl e21) rfl rfl
      refine mG_icmp_eq (pc := 23) (tgt := 30) C dX9_placeOf_23 (by decide) (fun q17 => ?_) (fun q17 => ?_)
      · rw [if_pos q17] at e20
        refine mG_ic (pc := 30) C dX9_placeOf_30 kI0 ?_
        exact mG_sub (mxLe_n (mxLe_n (mxLe_n (mxLe_s mxLe_z)))) (J18 _ (Option.some.inj e20))
      · rw [if_neg q17] at e20
        refine mG_ic (pc := 26) C dX9_placeOf_26 kI1 ?_
        refine mG_goto (tgt := 31) (pc := 27) C dX9_placeOf_27 (by decide) ?_
        exact mG_sub (mxLe_n (mxLe_n (mxLe_n (mxLe_s mxLe_z)))) (J18 _ (Option.some.inj e20))
    · cases hf
      exact mG_cSX (pc := 5) [.int p2] [] C E hX dX9_placeOf_5 lkS_X9_83 rfl (tX9_requireThing hl e5) rfl rfl
  · cases hf
    exact mG_cSX (pc := 1) [.int p1] [] C E hX dX9_placeOf_1 lkS_X9_79 rfl (tX9_requireRow hl e1) rfl rfl
theorem dX9_value_0 : decode cX9_value 0 = .ok (.iload_n 1, 1) := by decide +kernel
theorem dX9_value_1 : decode cX9_value 1 = .ok (.invokestatic 83, 3) := by decide +kernel
theorem dX9_value_4 : decode cX9_value 4 = .ok (.aload_n 0, 1) := by decide +kernel
theorem dX9_value_5 : decode cX9_value 5 = .ok (.getfield 12, 3) := by decide +kernel
theorem dX9_value_8 : decode cX9_value 8 = .ok (.getfield 72, 3) := by decide +kernel
theorem dX9_value_11 : decode cX9_value 11 = .ok (.iload_n 1, 1) := by decide +kernel
theorem dX9_value_12 : decode cX9_value 12 = .ok (.invokevirtual 150, 3) := by decide +kernel
theorem dX9_value_15 : decode cX9_value 15 = .ok (.ireturn, 1) := by decide +kernel
def fX9_value (p0 : Nat) (p1 : Int32) (h : mxH) : Option ((Int32 ⊕ String) × mxH) := mxThen (fX9_requireThing p1 h) (fun v2 h3 => Option.bind (gR h3 p0 9 0) (fun r5 => Option.bind (gR h3 r5 7 0) (fun r7 => Option.bind (isO h3 r7 6) (fun u9 => Option.bind (fX6_valueOf r7 p1 h3) (fun o12 => some (Sum.inl o12.1, o12.2))))))
abbrev rmX9_value : Room := { frames := 7, cells := 1, slots := 6, locals := 121 }
set_option maxRecDepth 20000 in
theorem tX9_value {l : Launch} {Z : mxZ} (hl : l.stackTraces = false) {p0 : Nat} {p1 : Int32} {h : mxH} {out : ((Int32 ⊕ String) × mxH)} (hf : fX9_value p0 p1 h = some out) : mxMet l Z yX9_value cX9_value 2 (some .int) rmX9_value [.ref p0, .int p1] h (mxRI out.1) out.2 := by
  refine mxMet_of (by decide) hl (by simp [Value.category]) (Nat.le_of_ble_eq_true rfl) ?_
  intro X C E hX hin
  unfold fX9_value at hf
  refine mG_iload_n (pc := 0) C dX9_value_0 rfl ?_
  rcases mx_then hf with ⟨v2, h3, e1, hf⟩ | ⟨E4, h3, e1, hf⟩
  · refine mG_cS (pc := 1) (k' := 1) (n' := 6) [.int p1] [] C hX dX9_value_1 lkS_X9_83 rfl (tX9_requireThing hl e1) rfl rfl rfl rfl ?_
    refine mG_aload_n (pc := 4) C dX9_value_4 rfl ?_
    obtain ⟨r5, e6, hf⟩ := mx_bind hf
    refine mG_getR (pc := 5) C dX9_value_5 fl_X9_12 e6 ?_
    obtain ⟨r7, e8, hf⟩ := mx_bind hf
    refine mG_getR (pc := 8) C dX9_value_8 fl_X9_72 e8 ?_
    refine mG_iload_n (pc := 11) C dX9_value_11 rfl ?_
    obtain ⟨u9, e10, hf⟩ := mx_bind hf
    obtain ⟨o12, e11, hf⟩ := mx_bind hf
    refine mG_cV (pc := 12) (k' := 1) (n' := 6) 6 [.int p1] [] C hX dX9_value_12 lkV_X9_150 rfl rfl e10 (tX6_valueOf hl e11) rfl rfl rfl rfl ?_
    cases hf
    exact mG_ir (pc := 15) C E hX dX9_value_15 rfl
  · cases hf
    exact mG_cSX (pc := 1) [.int p1] [] C E hX dX9_value_1 lkS_X9_83 rfl (tX9_requireThing hl e1) rfl rfl
theorem dX9_knownCount_0 : decode cX9_knownCount 0 = .ok (.aload_n 0, 1) := by decide +kernel
theorem dX9_knownCount_1 : decode cX9_knownCount 1 = .ok (.getfield 33, 3) := by decide +kernel
theorem dX9_knownCount_4 : decode cX9_knownCount 4 = .ok (.aload_n 0, 1) := by decide +kernel
theorem dX9_knownCount_5 : decode cX9_knownCount 5 = .ok (.getfield 12, 3) := by decide +kernel
theorem dX9_knownCount_8 : decode cX9_knownCount 8 = .ok (.getfield 72, 3) := by decide +kernel
theorem dX9_knownCount_11 : decode cX9_knownCount 11 = .ok (.invokevirtual 153, 3) := by decide +kernel
theorem dX9_knownCount_14 : decode cX9_knownCount 14 = .ok (.aload_n 0, 1) := by decide +kernel
theorem dX9_knownCount_15 : decode cX9_knownCount 15 = .ok (.getfield 33, 3) := by decide +kernel
theorem dX9_knownCount_18 : decode cX9_knownCount 18 = .ok (.getfield 157, 3) := by decide +kernel
theorem dX9_knownCount_21 : decode cX9_knownCount 21 = .ok (.ireturn, 1) := by decide +kernel
def fX9_knownCount (p0 : Nat) (h : mxH) : Option (Int32 × mxH) := Option.bind (gR h p0 9 3) (fun r1 => Option.bind (gR h p0 9 0) (fun r3 => Option.bind (gR h r3 7 0) (fun r5 => Option.bind (isO h r1 4) (fun u7 => Option.bind (fX4_rankAll r1 r5 h) (fun o10 => Option.bind (gR o10 p0 9 3) (fun r11 => Option.bind (gI o10 r11 4 3) (fun v13 => some (v13, o10))))))))
abbrev rmX9_knownCount : Room := { frames := 4, cells := 0, slots := 0, locals := 92 }
set_option maxRecDepth 20000 in
theorem tX9_knownCount {l : Launch} {Z : mxZ} (hl : l.stackTraces = false) {p0 : Nat} {h : mxH} {out : (Int32 × mxH)} (hf : fX9_knownCount p0 h = some out) : mxMet l Z yX9_knownCount cX9_knownCount 1 (some .int) rmX9_knownCount [.ref p0] h (.inl (some (.int out.1))) out.2 := by
  refine mxMet_of (by decide) hl (by simp [Value.category]) (Nat.le_of_ble_eq_true rfl) ?_
  intro X C E hX hin
  unfold fX9_knownCount at hf
  refine mG_aload_n (pc := 0) C dX9_knownCount_0 rfl ?_
  obtain ⟨r1, e2, hf⟩ := mx_bind hf
  refine mG_getR (pc := 1) C dX9_knownCount_1 fl_X9_33 e2 ?_
  refine mG_aload_n (pc := 4) C dX9_knownCount_4 rfl ?_
  obtain ⟨r3, e4, hf⟩ := mx_bind hf
  refine mG_getR (pc := 5) C dX9_knownCount_5 fl_X9_12 e4 ?_
  obtain ⟨r5, e6, hf⟩ := mx_bind hf
  refine mG_getR (pc := 8) C dX9_knownCount_8 fl_X9_72 e6 ?_
  obtain ⟨u7, e8, hf⟩ := mx_bind hf
  obtain ⟨o10, e9, hf⟩ := mx_bind hf
  refine mG_cV (pc := 11) (k' := 0) (n' := 0) 4 [.ref r5] [] C hX dX9_knownCount_11 lkV_X9_153 rfl rfl e8 (tX4_rankAll hl e9) rfl rfl rfl rfl ?_
  refine mG_aload_n (pc := 14) C dX9_knownCount_14 rfl ?_
  obtain ⟨r11, e12, hf⟩ := mx_bind hf
  refine mG_getR (pc := 15) C dX9_knownCount_15 fl_X9_33 e12 ?_
  obtain ⟨v13, e14, hf⟩ := mx_bind hf
  refine mG_getI (pc := 18) C dX9_knownCount_18 fl_X9_157 e14 ?_
  cases hf
  exact mG_ir (pc := 21) C E hX dX9_knownCount_21 rfl
theorem dX9_ranked_0 : decode cX9_ranked 0 = .ok (.aload_n 0, 1) := by decide +kernel
theorem dX9_ranked_1 : decode cX9_ranked 1 = .ok (.getfield 33, 3) := by decide +kernel
theorem dX9_ranked_4 : decode cX9_ranked 4 = .ok (.aload_n 0, 1) := by decide +kernel
theorem dX9_ranked_5 : decode cX9_ranked 5 = .ok (.getfield 12, 3) := by decide +kernel
theorem dX9_ranked_8 : decode cX9_ranked 8 = .ok (.getfield 72, 3) := by decide +kernel
theorem dX9_ranked_11 : decode cX9_ranked 11 = .ok (.invokevirtual 153, 3) := by decide +kernel
theorem dX9_ranked_14 : decode cX9_ranked 14 = .ok (.iload_n 1, 1) := by decide +kernel
theorem dX9_ranked_15 : decode cX9_ranked 15 = .ok (.aload_n 0, 1) := by decide +kernel
theorem dX9_ranked_16 : decode cX9_ranked 16 = .ok (.getfield 33, 3) := by decide +kernel
theorem dX9_ranked_19 : decode cX9_ranked 19 = .ok (.getfield 157, 3) := by decide +kernel
theorem dX9_ranked_22 : decode cX9_ranked 22 = .ok (.invokestatic 138, 3) := by decide +kernel
theorem dX9_ranked_25 : decode cX9_ranked 25 = .ok (.aload_n 0, 1) := by decide +kernel
theorem dX9_ranked_26 : decode cX9_ranked 26 = .ok (.getfield 33, 3) := by decide +kernel
theorem dX9_ranked_29 : decode cX9_ranked 29 = .ok (.iload_n 1, 1) := by decide +kernel
theorem dX9_ranked_30 : decode cX9_ranked 30 = .ok (.invokevirtual 160, 3) := by decide +kernel
theorem dX9_ranked_33 : decode cX9_ranked 33 = .ok (.ireturn, 1) := by decide +kernel
def fX9_ranked (p0 : Nat) (p1 : Int32) (h : mxH) : Option ((Int32 ⊕ String) × mxH) := Option.bind (gR h p0 9 3) (fun r1 => Option.bind (gR h p0 9 0) (fun r3 => Option.bind (gR h r3 7 0) (fun r5 => Option.bind (isO h r1 4) (fun u7 => Option.bind (fX4_rankAll r1 r5 h) (fun o10 => Option.bind (gR o10 p0 9 3) (fun r11 => Option.bind (gI o10 r11 4 3) (fun v13 => mxThen (fX9_requirePlace p1 v13 o10) (fun v16 h17 => Option.bind (gR h17 p0 9 3) (fun r19 => Option.bind (isO h17 r19 4) (fun u21 => Option.bind (fX4_thingOn r19 p1 h17) (fun v24 => some (Sum.inl v24, h17))))))))))))
abbrev rmX9_ranked : Room := { frames := 7, cells := 1, slots := 6, locals := 122 }
set_option maxRecDepth 20000 in
theorem tX9_ranked {l : Launch} {Z : mxZ} (hl : l.stackTraces = false) {p0 : Nat} {p1 : Int32} {h : mxH} {out : ((Int32 ⊕ String) × mxH)} (hf : fX9_ranked p0 p1 h = some out) : mxMet l Z yX9_ranked cX9_ranked 2 (some .int) rmX9_ranked [.ref p0, .int p1] h (mxRI out.1) out.2 := by
  refine mxMet_of (by decide) hl (by simp [Value.category]) (Nat.le_of_ble_eq_true rfl) ?_
  intro X C E hX hin
  unfold fX9_ranked at hf
  refine mG_aload_n (pc := 0) C dX9_ranked_0 rfl ?_
  obtain ⟨r1, e2, hf⟩ := mx_bind hf
  refine mG_getR (pc := 1) C dX9_ranked_1 fl_X9_33 e2 ?_
  refine mG_aload_n (pc := 4) C dX9_ranked_4 rfl ?_
  obtain ⟨r3, e4, hf⟩ := mx_bind hf
  refine mG_getR (pc := 5) C dX9_ranked_5 fl_X9_12 e4 ?_
  obtain ⟨r5, e6, hf⟩ := mx_bind hf
  refine mG_getR (pc := 8) C dX9_ranked_8 fl_X9_72 e6 ?_
  obtain ⟨u7, e8, hf⟩ := mx_bind hf
  obtain ⟨o10, e9, hf⟩ := mx_bind hf
  refine mG_cV (pc := 11) (k' := 0) (n' := 0) 4 [.ref r5] [] C hX dX9_ranked_11 lkV_X9_153 rfl rfl e8 (tX4_rankAll hl e9) rfl rfl rfl rfl ?_
  refine mG_iload_n (pc := 14) C dX9_ranked_14 rfl ?_
  refine mG_aload_n (pc := 15) C dX9_ranked_15 rfl ?_
  obtain ⟨r11, e12, hf⟩ := mx_bind hf
  refine mG_getR (pc := 16) C dX9_ranked_16 fl_X9_33 e12 ?_
  obtain ⟨v13, e14, hf⟩ := mx_bind hf
  refine mG_getI (pc := 19) C dX9_ranked_19 fl_X9_157 e14 ?_
  rcases mx_then hf with ⟨v16, h17, e15, hf⟩ | ⟨E18, h17, e15, hf⟩
  · refine mG_cS (pc := 22) (k' := 1) (n' := 6) [.int p1, .int v13] [] C hX dX9_ranked_22 lkS_X9_138 rfl (tX9_requirePlace hl e15) rfl rfl rfl rfl ?_
    refine mG_aload_n (pc := 25) C dX9_ranked_25 rfl ?_
    obtain ⟨r19, e20, hf⟩ := mx_bind hf
    refine mG_getR (pc := 26) C dX9_ranked_26 fl_X9_33 e20 ?_
    refine mG_iload_n (pc := 29) C dX9_ranked_29 rfl ?_
    obtain ⟨u21, e22, hf⟩ := mx_bind hf
    obtain ⟨v24, e23, hf⟩ := mx_bind hf
    refine mG_cV (pc := 30) (k' := 1) (n' := 6) 4 [.int p1] [] C hX dX9_ranked_30 lkV_X9_160 rfl rfl e22 (tX4_thingOn hl e23) rfl rfl rfl rfl ?_
    cases hf
    exact mG_ir (pc := 33) C E hX dX9_ranked_33 rfl
  · cases hf
    exact mG_cSX (pc := 22) [.int p1, .int v13] [] C E hX dX9_ranked_22 lkS_X9_138 rfl (tX9_requirePlace hl e15) rfl rfl
theorem dX9_rankOf_0 : decode cX9_rankOf 0 = .ok (.iload_n 1, 1) := by decide +kernel
theorem dX9_rankOf_1 : decode cX9_rankOf 1 = .ok (.invokestatic 83, 3) := by decide +kernel
theorem dX9_rankOf_4 : decode cX9_rankOf 4 = .ok (.aload_n 0, 1) := by decide +kernel
theorem dX9_rankOf_5 : decode cX9_rankOf 5 = .ok (.getfield 33, 3) := by decide +kernel
theorem dX9_rankOf_8 : decode cX9_rankOf 8 = .ok (.aload_n 0, 1) := by decide +kernel
theorem dX9_rankOf_9 : decode cX9_rankOf 9 = .ok (.getfield 12, 3) := by decide +kernel
theorem dX9_rankOf_12 : decode cX9_rankOf 12 = .ok (.getfield 72, 3) := by decide +kernel
theorem dX9_rankOf_15 : decode cX9_rankOf 15 = .ok (.invokevirtual 153, 3) := by decide +kernel
theorem dX9_rankOf_18 : decode cX9_rankOf 18 = .ok (.aload_n 0, 1) := by decide +kernel
theorem dX9_rankOf_19 : decode cX9_rankOf 19 = .ok (.getfield 33, 3) := by decide +kernel
theorem dX9_rankOf_22 : decode cX9_rankOf 22 = .ok (.iload_n 1, 1) := by decide +kernel
theorem dX9_rankOf_23 : decode cX9_rankOf 23 = .ok (.invokevirtual 162, 3) := by decide +kernel
theorem dX9_rankOf_26 : decode cX9_rankOf 26 = .ok (.istore_n 2, 1) := by decide +kernel
theorem dX9_rankOf_27 : decode cX9_rankOf 27 = .ok (.iload_n 2, 1) := by decide +kernel
theorem dX9_rankOf_28 : decode cX9_rankOf 28 = .ok (.iconst (-1), 1) := by decide +kernel
theorem dX9_rankOf_29 : decode cX9_rankOf 29 = .ok (.if_icmp .eq 7, 3) := by decide +kernel
theorem dX9_rankOf_32 : decode cX9_rankOf 32 = .ok (.iconst 1, 1) := by decide +kernel
theorem dX9_rankOf_33 : decode cX9_rankOf 33 = .ok (.goto 4, 3) := by decide +kernel
theorem dX9_rankOf_36 : decode cX9_rankOf 36 = .ok (.iconst 0, 1) := by decide +kernel
theorem dX9_rankOf_37 : decode cX9_rankOf 37 = .ok (.invokestatic 97, 3) := by decide +kernel
theorem dX9_rankOf_40 : decode cX9_rankOf 40 = .ok (.iload_n 2, 1) := by decide +kernel
theorem dX9_rankOf_41 : decode cX9_rankOf 41 = .ok (.ireturn, 1) := by decide +kernel
def fX9_rankOf (p0 : Nat) (p1 : Int32) (h : mxH) : Option ((Int32 ⊕ String) × mxH) := mxThen (fX9_requireThing p1 h) (fun v2 h3 => Option.bind (gR h3 p0 9 3) (fun r5 => Option.bind (gR h3 p0 9 0) (fun r7 => Option.bind (gR h3 r7 7 0) (fun r9 => Option.bind (isO h3 r5 4) (fun u11 => Option.bind (fX4_rankAll r5 r9 h3) (fun o14 => Option.bind (gR o14 p0 9 3) (fun r15 => Option.bind (isO o14 r15 4) (fun u17 => Option.bind (fX4_rankIn r15 p1 o14) (fun v20 => Option.bind (α := Int32) (if v20 = (-1) then some 0 else some 1) (fun p23' : Int32 => mxThen (fX9_requireFound p23' o14) (fun v26 h27 => some (Sum.inl v20, h27))))))))))))
abbrev rmX9_rankOf : Room := { frames := 7, cells := 2, slots := 12, locals := 121 }
set_option maxRecDepth 20000 in
theorem tX9_rankOf {l : Launch} {Z : mxZ} (hl : l.stackTraces = false) {p0 : Nat} {p1 : Int32} {h : mxH} {out : ((Int32 ⊕ String) × mxH)} (hf : fX9_rankOf p0 p1 h = some out) : mxMet l Z yX9_rankOf cX9_rankOf 3 (some .int) rmX9_rankOf [.ref p0, .int p1] h (mxRI out.1) out.2 := by
  refine mxMet_of (by decide) hl (by simp [Value.category]) (Nat.le_of_ble_eq_true rfl) ?_
  intro X C E hX hin
  unfold fX9_rankOf at hf
  refine mG_iload_n (pc := 0) C dX9_rankOf_0 rfl ?_
  rcases mx_then hf with ⟨v2, h3, e1, hf⟩ | ⟨E4, h3, e1, hf⟩
  · refine mG_cS (pc := 1) (k' := 1) (n' := 6) [.int p1] [] C hX dX9_rankOf_1 lkS_X9_83 rfl (tX9_requireThing hl e1) rfl rfl rfl rfl ?_
    refine mG_aload_n (pc := 4) C dX9_rankOf_4 rfl ?_
    obtain ⟨r5, e6, hf⟩ := mx_bind hf
    refine mG_getR (pc := 5) C dX9_rankOf_5 fl_X9_33 e6 ?_
    refine mG_aload_n (pc := 8) C dX9_rankOf_8 rfl ?_
    obtain ⟨r7, e8, hf⟩ := mx_bind hf
    refine mG_getR (pc := 9) C dX9_rankOf_9 fl_X9_12 e8 ?_
    obtain ⟨r9, e10, hf⟩ := mx_bind hf
    refine mG_getR (pc := 12) C dX9_rankOf_12 fl_X9_72 e10 ?_
    obtain ⟨u11, e12, hf⟩ := mx_bind hf
    obtain ⟨o14, e13, hf⟩ := mx_bind hf
    refine mG_cV (pc := 15) (k' := 1) (n' := 6) 4 [.ref r9] [] C hX dX9_rankOf_15 lkV_X9_153 rfl rfl e12 (tX4_rankAll hl e13) rfl rfl rfl rfl ?_
    refine mG_aload_n (pc := 18) C dX9_rankOf_18 rfl ?_
    obtain ⟨r15, e16, hf⟩ := mx_bind hf
    refine mG_getR (pc := 19) C dX9_rankOf_19 fl_X9_33 e16 ?_
    refine mG_iload_n (pc := 22) C dX9_rankOf_22 rfl ?_
    obtain ⟨u17, e18, hf⟩ := mx_bind hf
    obtain ⟨v20, e19, hf⟩ := mx_bind hf
    refine mG_cV (pc := 23) (k' := 1) (n' := 6) 4 [.int p1] [] C hX dX9_rankOf_23 lkV_X9_162 rfl rfl e18 (tX4_rankIn hl e19) rfl rfl rfl rfl ?_
    refine mG_isn (ls' := [some (.ref p0), some (.int p1), some (.int v20)]) (pc := 26) C dX9_rankOf_26 rfl rfl rfl ?_
    refine mG_iload_n (pc := 27) C dX9_rankOf_27 rfl ?_
    refine mG_ic (pc := 28) C dX9_rankOf_28 kIm1 ?_
    obtain ⟨p23, e24, hf⟩ := mx_bind hf
    have J22 : ∀ p23' : Int32, p23' = p23 → mG l Z X 3 1 6 37 [none, none, some (.int v20)] [.int p23'] o14 := by
      intro p23' q29
      subst q29
      rcases mx_then hf with ⟨v26, h27, e25, hf⟩ | ⟨E28, h27, e25, hf⟩
      · refine mG_cS (pc := 37) (k' := 2) (n' := 12) [.int p23'] [] C hX dX9_rankOf_37 lkS_X9_97 rfl (tX9_requireFound hl e25) rfl rfl rfl rfl ?_
        refine mG_iload_n (pc := 40) C dX9_rankOf_40 rfl ?_
        cases hf
        exact mG_ir (pc := 41) C E hX dX9_rankOf_41 rfl
      · cases hf
        exact mG_cSX (pc := 37) [.int p23'] [] C E hX dX9_rankOf_37 lkS_X9_97 rfl (tX9_requireFound hl e25) rfl rfl
    refine mG_icmp_eq (pc := 29) (tgt := 36) C dX9_rankOf_29 (by decide) (fun q21 => ?_) (fun q21 => ?_)
    · rw [if_pos q21] at e24
      refine mG_ic (pc := 36) C dX9_rankOf_36 kI0 ?_
      exact mG_sub (mxLe_n (mxLe_n (mxLe_s mxLe_z))) (J22 _ (Option.some.inj e24))
    · rw [if_neg q21] at e24
      refine mG_ic (pc := 32) C dX9_rankOf_32 kI1 ?_
      refine mG_goto (tgt := 37) (pc := 33) C dX9_rankOf_33 (by decide) ?_
      exact mG_sub (mxLe_n (mxLe_n (mxLe_s mxLe_z))) (J22 _ (Option.some.inj e24))
  · cases hf
    exact mG_cSX (pc := 1) [.int p1] [] C E hX dX9_rankOf_1 lkS_X9_83 rfl (tX9_requireThing hl e1) rfl rfl
theorem dX9_limit_0 : decode cX9_limit 0 = .ok (.iload_n 1, 1) := by decide +kernel
theorem dX9_limit_1 : decode cX9_limit 1 = .ok (.iconst 1, 1) := by decide +kernel
theorem dX9_limit_2 : decode cX9_limit 2 = .ok (.bipush 20, 2) := by decide +kernel
theorem dX9_limit_4 : decode cX9_limit 4 = .ok (.invokestatic 86, 3) := by decide +kernel
theorem dX9_limit_7 : decode cX9_limit 7 = .ok (.aload_n 0, 1) := by decide +kernel
theorem dX9_limit_8 : decode cX9_limit 8 = .ok (.getfield 12, 3) := by decide +kernel
theorem dX9_limit_11 : decode cX9_limit 11 = .ok (.getfield 72, 3) := by decide +kernel
theorem dX9_limit_14 : decode cX9_limit 14 = .ok (.iload_n 1, 1) := by decide +kernel
theorem dX9_limit_15 : decode cX9_limit 15 = .ok (.invokevirtual 165, 3) := by decide +kernel
theorem dX9_limit_18 : decode cX9_limit 18 = .ok (.ireturn, 1) := by decide +kernel
def fX9_limit (p0 : Nat) (p1 : Int32) (h : mxH) : Option ((Int32 ⊕ String) × mxH) := mxThen (fX9_requireRange p1 1 20 h) (fun v2 h3 => Option.bind (gR h3 p0 9 0) (fun r5 => Option.bind (gR h3 r5 7 0) (fun r7 => Option.bind (isO h3 r7 6) (fun u9 => Option.bind (fX6_limitAt r7 p1 h3) (fun o12 => some (Sum.inl o12.1, o12.2))))))
abbrev rmX9_limit : Room := { frames := 7, cells := 1, slots := 6, locals := 123 }
set_option maxRecDepth 20000 in
theorem tX9_limit {l : Launch} {Z : mxZ} (hl : l.stackTraces = false) {p0 : Nat} {p1 : Int32} {h : mxH} {out : ((Int32 ⊕ String) × mxH)} (hf : fX9_limit p0 p1 h = some out) : mxMet l Z yX9_limit cX9_limit 2 (some .int) rmX9_limit [.ref p0, .int p1] h (mxRI out.1) out.2 := by
  refine mxMet_of (by decide) hl (by simp [Value.category]) (Nat.le_of_ble_eq_true rfl) ?_
  intro X C E hX hin
  unfold fX9_limit at hf
  refine mG_iload_n (pc := 0) C dX9_limit_0 rfl ?_
  refine mG_ic (pc := 1) C dX9_limit_1 kI1 ?_
  refine mG_bp (pc := 2) C dX9_limit_2 kB20 ?_
  rcases mx_then hf with ⟨v2, h3, e1, hf⟩ | ⟨E4, h3, e1, hf⟩
  · refine mG_cS (pc := 4) (k' := 1) (n' := 6) [.int p1, .int 1, .int 20] [] C hX dX9_limit_4 lkS_X9_86 rfl (tX9_requireRange hl e1) rfl rfl rfl rfl ?_
    refine mG_aload_n (pc := 7) C dX9_limit_7 rfl ?_
    obtain ⟨r5, e6, hf⟩ := mx_bind hf
    refine mG_getR (pc := 8) C dX9_limit_8 fl_X9_12 e6 ?_
    obtain ⟨r7, e8, hf⟩ := mx_bind hf
    refine mG_getR (pc := 11) C dX9_limit_11 fl_X9_72 e8 ?_
    refine mG_iload_n (pc := 14) C dX9_limit_14 rfl ?_
    obtain ⟨u9, e10, hf⟩ := mx_bind hf
    obtain ⟨o12, e11, hf⟩ := mx_bind hf
    refine mG_cV (pc := 15) (k' := 1) (n' := 6) 6 [.int p1] [] C hX dX9_limit_15 lkV_X9_165 rfl rfl e10 (tX6_limitAt hl e11) rfl rfl rfl rfl ?_
    cases hf
    exact mG_ir (pc := 18) C E hX dX9_limit_18 rfl
  · cases hf
    exact mG_cSX (pc := 4) [.int p1, .int 1, .int 20] [] C E hX dX9_limit_4 lkS_X9_86 rfl (tX9_requireRange hl e1) rfl rfl
theorem dX9_findStop_0 : decode cX9_findStop 0 = .ok (.aload_n 0, 1) := by decide +kernel
theorem dX9_findStop_1 : decode cX9_findStop 1 = .ok (.getfield 33, 3) := by decide +kernel
theorem dX9_findStop_4 : decode cX9_findStop 4 = .ok (.aload_n 0, 1) := by decide +kernel
theorem dX9_findStop_5 : decode cX9_findStop 5 = .ok (.getfield 12, 3) := by decide +kernel
theorem dX9_findStop_8 : decode cX9_findStop 8 = .ok (.getfield 72, 3) := by decide +kernel
theorem dX9_findStop_11 : decode cX9_findStop 11 = .ok (.invokevirtual 153, 3) := by decide +kernel
theorem dX9_findStop_14 : decode cX9_findStop 14 = .ok (.aload_n 0, 1) := by decide +kernel
theorem dX9_findStop_15 : decode cX9_findStop 15 = .ok (.getfield 43, 3) := by decide +kernel
theorem dX9_findStop_18 : decode cX9_findStop 18 = .ok (.aload_n 0, 1) := by decide +kernel
theorem dX9_findStop_19 : decode cX9_findStop 19 = .ok (.getfield 12, 3) := by decide +kernel
theorem dX9_findStop_22 : decode cX9_findStop 22 = .ok (.getfield 72, 3) := by decide +kernel
theorem dX9_findStop_25 : decode cX9_findStop 25 = .ok (.aload_n 0, 1) := by decide +kernel
theorem dX9_findStop_26 : decode cX9_findStop 26 = .ok (.getfield 33, 3) := by decide +kernel
theorem dX9_findStop_29 : decode cX9_findStop 29 = .ok (.invokevirtual 288, 3) := by decide +kernel
theorem dX9_findStop_32 : decode cX9_findStop 32 = .ok (.aload_n 0, 1) := by decide +kernel
theorem dX9_findStop_33 : decode cX9_findStop 33 = .ok (.getfield 43, 3) := by decide +kernel
theorem dX9_findStop_36 : decode cX9_findStop 36 = .ok (.iload_n 1, 1) := by decide +kernel
theorem dX9_findStop_37 : decode cX9_findStop 37 = .ok (.invokevirtual 299, 3) := by decide +kernel
theorem dX9_findStop_40 : decode cX9_findStop 40 = .ok (.ireturn, 1) := by decide +kernel
def fX9_findStop (p0 : Nat) (p1 : Int32) (h : mxH) : Option (Int32 × mxH) := Option.bind (gR h p0 9 3) (fun r1 => Option.bind (gR h p0 9 0) (fun r3 => Option.bind (gR h r3 7 0) (fun r5 => Option.bind (isO h r1 4) (fun u7 => Option.bind (fX4_rankAll r1 r5 h) (fun o10 => Option.bind (gR o10 p0 9 5) (fun r11 => Option.bind (gR o10 p0 9 0) (fun r13 => Option.bind (gR o10 r13 7 0) (fun r15 => Option.bind (gR o10 p0 9 3) (fun r17 => Option.bind (isO o10 r11 5) (fun u19 => Option.bind (fX5_findStops r11 r15 r17 o10) (fun o22 => Option.bind (gR o22 p0 9 5) (fun r23 => Option.bind (isO o22 r23 5) (fun u25 => Option.bind (fX5_stopOf r23 p1 o22) (fun v28 => some (v28, o22)))))))))))))))
abbrev rmX9_findStop : Room := { frames := 5, cells := 0, slots := 0, locals := 111 }
set_option maxRecDepth 20000 in
theorem tX9_findStop {l : Launch} {Z : mxZ} (hl : l.stackTraces = false) {p0 : Nat} {p1 : Int32} {h : mxH} {out : (Int32 × mxH)} (hf : fX9_findStop p0 p1 h = some out) : mxMet l Z yX9_findStop cX9_findStop 2 (some .int) rmX9_findStop [.ref p0, .int p1] h (.inl (some (.int out.1))) out.2 := by
  refine mxMet_of (by decide) hl (by simp [Value.category]) (Nat.le_of_ble_eq_true rfl) ?_
  intro X C E hX hin
  unfold fX9_findStop at hf
  refine mG_aload_n (pc := 0) C dX9_findStop_0 rfl ?_
  obtain ⟨r1, e2, hf⟩ := mx_bind hf
  refine mG_getR (pc := 1) C dX9_findStop_1 fl_X9_33 e2 ?_
  refine mG_aload_n (pc := 4) C dX9_findStop_4 rfl ?_
  obtain ⟨r3, e4, hf⟩ := mx_bind hf
  refine mG_getR (pc := 5) C dX9_findStop_5 fl_X9_12 e4 ?_
  obtain ⟨r5, e6, hf⟩ := mx_bind hf
  refine mG_getR (pc := 8) C dX9_findStop_8 fl_X9_72 e6 ?_
  obtain ⟨u7, e8, hf⟩ := mx_bind hf
  obtain ⟨o10, e9, hf⟩ := mx_bind hf
  refine mG_cV (pc := 11) (k' := 0) (n' := 0) 4 [.ref r5] [] C hX dX9_findStop_11 lkV_X9_153 rfl rfl e8 (tX4_rankAll hl e9) rfl rfl rfl rfl ?_
  refine mG_aload_n (pc := 14) C dX9_findStop_14 rfl ?_
  obtain ⟨r11, e12, hf⟩ := mx_bind hf
  refine mG_getR (pc := 15) C dX9_findStop_15 fl_X9_43 e12 ?_
  refine mG_aload_n (pc := 18) C dX9_findStop_18 rfl ?_
  obtain ⟨r13, e14, hf⟩ := mx_bind hf
  refine mG_getR (pc := 19) C dX9_findStop_19 fl_X9_12 e14 ?_
  obtain ⟨r15, e16, hf⟩ := mx_bind hf
  refine mG_getR (pc := 22) C dX9_findStop_22 fl_X9_72 e16 ?_
  refine mG_aload_n (pc := 25) C dX9_findStop_25 rfl ?_
  obtain ⟨r17, e18, hf⟩ := mx_bind hf
  refine mG_getR (pc := 26) C dX9_findStop_26 fl_X9_33 e18 ?_
  obtain ⟨u19, e20, hf⟩ := mx_bind hf
  obtain ⟨o22, e21, hf⟩ := mx_bind hf
  refine mG_cV (pc := 29) (k' := 0) (n' := 0) 5 [.ref r15, .ref r17] [] C hX dX9_findStop_29 lkV_X9_288 rfl rfl e20 (tX5_findStops hl e21) rfl rfl rfl rfl ?_
  refine mG_aload_n (pc := 32) C dX9_findStop_32 rfl ?_
  obtain ⟨r23, e24, hf⟩ := mx_bind hf
  refine mG_getR (pc := 33) C dX9_findStop_33 fl_X9_43 e24 ?_
  refine mG_iload_n (pc := 36) C dX9_findStop_36 rfl ?_
  obtain ⟨u25, e26, hf⟩ := mx_bind hf
  obtain ⟨v28, e27, hf⟩ := mx_bind hf
  refine mG_cV (pc := 37) (k' := 0) (n' := 0) 5 [.int p1] [] C hX dX9_findStop_37 lkV_X9_299 rfl rfl e26 (tX5_stopOf hl e27) rfl rfl rfl rfl ?_
  cases hf
  exact mG_ir (pc := 40) C E hX dX9_findStop_40 rfl
theorem dX9_stopDepth_0 : decode cX9_stopDepth 0 = .ok (.iload_n 1, 1) := by decide +kernel
theorem dX9_stopDepth_1 : decode cX9_stopDepth 1 = .ok (.iconst 1, 1) := by decide +kernel
theorem dX9_stopDepth_2 : decode cX9_stopDepth 2 = .ok (.bipush 20, 2) := by decide +kernel
theorem dX9_stopDepth_4 : decode cX9_stopDepth 4 = .ok (.invokestatic 86, 3) := by decide +kernel
theorem dX9_stopDepth_7 : decode cX9_stopDepth 7 = .ok (.aload_n 0, 1) := by decide +kernel
theorem dX9_stopDepth_8 : decode cX9_stopDepth 8 = .ok (.iload_n 1, 1) := by decide +kernel
theorem dX9_stopDepth_9 : decode cX9_stopDepth 9 = .ok (.invokevirtual 168, 3) := by decide +kernel
theorem dX9_stopDepth_12 : decode cX9_stopDepth 12 = .ok (.ireturn, 1) := by decide +kernel
def fX9_stopDepth (p0 : Nat) (p1 : Int32) (h : mxH) : Option ((Int32 ⊕ String) × mxH) := mxThen (fX9_requireRange p1 1 20 h) (fun v2 h3 => Option.bind (isO h3 p0 9) (fun u5 => Option.bind (fX9_findStop p0 p1 h3) (fun o8 => some (Sum.inl o8.1, o8.2))))
abbrev rmX9_stopDepth : Room := { frames := 7, cells := 1, slots := 6, locals := 132 }
set_option maxRecDepth 20000 in
theorem tX9_stopDepth {l : Launch} {Z : mxZ} (hl : l.stackTraces = false) {p0 : Nat} {p1 : Int32} {h : mxH} {out : ((Int32 ⊕ String) × mxH)} (hf : fX9_stopDepth p0 p1 h = some out) : mxMet l Z yX9_stopDepth cX9_stopDepth 2 (some .int) rmX9_stopDepth [.ref p0, .int p1] h (mxRI out.1) out.2 := by
  refine mxMet_of (by decide) hl (by simp [Value.category]) (Nat.le_of_ble_eq_true rfl) ?_
  intro X C E hX hin
  unfold fX9_stopDepth at hf
  refine mG_iload_n (pc := 0) C dX9_stopDepth_0 rfl ?_
  refine mG_ic (pc := 1) C dX9_stopDepth_1 kI1 ?_
  refine mG_bp (pc := 2) C dX9_stopDepth_2 kB20 ?_
  rcases mx_then hf with ⟨v2, h3, e1, hf⟩ | ⟨E4, h3, e1, hf⟩
  · refine mG_cS (pc := 4) (k' := 1) (n' := 6) [.int p1, .int 1, .int 20] [] C hX dX9_stopDepth_4 lkS_X9_86 rfl (tX9_requireRange hl e1) rfl rfl rfl rfl ?_
    refine mG_aload_n (pc := 7) C dX9_stopDepth_7 rfl ?_
    refine mG_iload_n (pc := 8) C dX9_stopDepth_8 rfl ?_
    obtain ⟨u5, e6, hf⟩ := mx_bind hf
    obtain ⟨o8, e7, hf⟩ := mx_bind hf
    refine mG_cV (pc := 9) (k' := 1) (n' := 6) 9 [.int p1] [] C hX dX9_stopDepth_9 lkV_X9_168 rfl rfl e6 (tX9_findStop hl e7) rfl rfl rfl rfl ?_
    cases hf
    exact mG_ir (pc := 12) C E hX dX9_stopDepth_12 rfl
  · cases hf
    exact mG_cSX (pc := 4) [.int p1, .int 1, .int 20] [] C E hX dX9_stopDepth_4 lkS_X9_86 rfl (tX9_requireRange hl e1) rfl rfl
theorem dX9_cost_0 : decode cX9_cost 0 = .ok (.iload_n 1, 1) := by decide +kernel
theorem dX9_cost_1 : decode cX9_cost 1 = .ok (.iconst 1, 1) := by decide +kernel
theorem dX9_cost_2 : decode cX9_cost 2 = .ok (.bipush 20, 2) := by decide +kernel
theorem dX9_cost_4 : decode cX9_cost 4 = .ok (.invokestatic 86, 3) := by decide +kernel
theorem dX9_cost_7 : decode cX9_cost 7 = .ok (.aload_n 0, 1) := by decide +kernel
theorem dX9_cost_8 : decode cX9_cost 8 = .ok (.iload_n 1, 1) := by decide +kernel
theorem dX9_cost_9 : decode cX9_cost 9 = .ok (.invokevirtual 168, 3) := by decide +kernel
theorem dX9_cost_12 : decode cX9_cost 12 = .ok (.istore_n 2, 1) := by decide +kernel
theorem dX9_cost_13 : decode cX9_cost 13 = .ok (.iconst 4, 1) := by decide +kernel
theorem dX9_cost_14 : decode cX9_cost 14 = .ok (.aload_n 0, 1) := by decide +kernel
theorem dX9_cost_15 : decode cX9_cost 15 = .ok (.getfield 12, 3) := by decide +kernel
theorem dX9_cost_18 : decode cX9_cost 18 = .ok (.getfield 72, 3) := by decide +kernel
theorem dX9_cost_21 : decode cX9_cost 21 = .ok (.iload_n 2, 1) := by decide +kernel
theorem dX9_cost_22 : decode cX9_cost 22 = .ok (.invokevirtual 171, 3) := by decide +kernel
theorem dX9_cost_25 : decode cX9_cost 25 = .ok (.imul, 1) := by decide +kernel
theorem dX9_cost_26 : decode cX9_cost 26 = .ok (.istore_n 3, 1) := by decide +kernel
theorem dX9_cost_27 : decode cX9_cost 27 = .ok (.aload_n 0, 1) := by decide +kernel
theorem dX9_cost_28 : decode cX9_cost 28 = .ok (.getfield 12, 3) := by decide +kernel
theorem dX9_cost_31 : decode cX9_cost 31 = .ok (.getfield 72, 3) := by decide +kernel
theorem dX9_cost_34 : decode cX9_cost 34 = .ok (.iload_n 2, 1) := by decide +kernel
theorem dX9_cost_35 : decode cX9_cost 35 = .ok (.invokevirtual 174, 3) := by decide +kernel
theorem dX9_cost_38 : decode cX9_cost 38 = .ok (.aload_n 0, 1) := by decide +kernel
theorem dX9_cost_39 : decode cX9_cost 39 = .ok (.getfield 12, 3) := by decide +kernel
theorem dX9_cost_42 : decode cX9_cost 42 = .ok (.getfield 108, 3) := by decide +kernel
theorem dX9_cost_45 : decode cX9_cost 45 = .ok (.imul, 1) := by decide +kernel
theorem dX9_cost_46 : decode cX9_cost 46 = .ok (.iload_n 3, 1) := by decide +kernel
theorem dX9_cost_47 : decode cX9_cost 47 = .ok (.aload_n 0, 1) := by decide +kernel
theorem dX9_cost_48 : decode cX9_cost 48 = .ok (.getfield 12, 3) := by decide +kernel
theorem dX9_cost_51 : decode cX9_cost 51 = .ok (.getfield 111, 3) := by decide +kernel
theorem dX9_cost_54 : decode cX9_cost 54 = .ok (.imul, 1) := by decide +kernel
theorem dX9_cost_55 : decode cX9_cost 55 = .ok (.iadd, 1) := by decide +kernel
theorem dX9_cost_56 : decode cX9_cost 56 = .ok (.ireturn, 1) := by decide +kernel
def fX9_cost (p0 : Nat) (p1 : Int32) (h : mxH) : Option ((Int32 ⊕ String) × mxH) := mxThen (fX9_requireRange p1 1 20 h) (fun v2 h3 => Option.bind (isO h3 p0 9) (fun u5 => Option.bind (fX9_findStop p0 p1 h3) (fun o8 => Option.bind (gR o8.2 p0 9 0) (fun r9 => Option.bind (gR o8.2 r9 7 0) (fun r11 => Option.bind (isO o8.2 r11 6) (fun u13 => Option.bind (fX6_thingsRead r11 o8.1 o8.2) (fun v16 => Option.bind (gR o8.2 p0 9 0) (fun r17 => Option.bind (gR o8.2 r17 7 0) (fun r19 => Option.bind (isO o8.2 r19 6) (fun u21 => Option.bind (fX6_itemsRead r19 o8.1 o8.2) (fun v24 => Option.bind (gR o8.2 p0 9 0) (fun r25 => Option.bind (gI o8.2 r25 7 2) (fun v27 => Option.bind (gR o8.2 p0 9 0) (fun r29 => Option.bind (gI o8.2 r29 7 3) (fun v31 => some (Sum.inl ((v24 * v27) + ((4 * v16) * v31)), o8.2))))))))))))))))
abbrev rmX9_cost : Room := { frames := 7, cells := 1, slots := 6, locals := 132 }
set_option maxRecDepth 20000 in
theorem tX9_cost {l : Launch} {Z : mxZ} (hl : l.stackTraces = false) {p0 : Nat} {p1 : Int32} {h : mxH} {out : ((Int32 ⊕ String) × mxH)} (hf : fX9_cost p0 p1 h = some out) : mxMet l Z yX9_cost cX9_cost 4 (some .int) rmX9_cost [.ref p0, .int p1] h (mxRI out.1) out.2 := by
  refine mxMet_of (by decide) hl (by simp [Value.category]) (Nat.le_of_ble_eq_true rfl) ?_
  intro X C E hX hin
  unfold fX9_cost at hf
  refine mG_iload_n (pc := 0) C dX9_cost_0 rfl ?_
  refine mG_ic (pc := 1) C dX9_cost_1 kI1 ?_
  refine mG_bp (pc := 2) C dX9_cost_2 kB20 ?_
  rcases mx_then hf with ⟨v2, h3, e1, hf⟩ | ⟨E4, h3, e1, hf⟩
  · refine mG_cS (pc := 4) (k' := 1) (n' := 6) [.int p1, .int 1, .int 20] [] C hX dX9_cost_4 lkS_X9_86 rfl (tX9_requireRange hl e1) rfl rfl rfl rfl ?_
    refine mG_aload_n (pc := 7) C dX9_cost_7 rfl ?_
    refine mG_iload_n (pc := 8) C dX9_cost_8 rfl ?_
    obtain ⟨u5, e6, hf⟩ := mx_bind hf
    obtain ⟨o8, e7, hf⟩ := mx_bind hf
    refine mG_cV (pc := 9) (k' := 1) (n' := 6) 9 [.int p1] [] C hX dX9_cost_9 lkV_X9_168 rfl rfl e6 (tX9_findStop hl e7) rfl rfl rfl rfl ?_
    refine mG_isn (ls' := [some (.ref p0), some (.int p1), some (.int o8.1), none]) (pc := 12) C dX9_cost_12 rfl rfl rfl ?_
    refine mG_ic (pc := 13) C dX9_cost_13 kI4 ?_
    refine mG_aload_n (pc := 14) C dX9_cost_14 rfl ?_
    obtain ⟨r9, e10, hf⟩ := mx_bind hf
    refine mG_getR (pc := 15) C dX9_cost_15 fl_X9_12 e10 ?_
    obtain ⟨r11, e12, hf⟩ := mx_bind hf
    refine mG_getR (pc := 18) C dX9_cost_18 fl_X9_72 e12 ?_
    refine mG_iload_n (pc := 21) C dX9_cost_21 rfl ?_
    obtain ⟨u13, e14, hf⟩ := mx_bind hf
    obtain ⟨v16, e15, hf⟩ := mx_bind hf
    refine mG_cV (pc := 22) (k' := 1) (n' := 6) 6 [.int o8.1] [.int 4] C hX dX9_cost_22 lkV_X9_171 rfl rfl e14 (tX6_thingsRead hl e15) rfl rfl rfl rfl ?_
    refine mG_imul (pc := 25) C dX9_cost_25 ?_
    refine mG_isn (ls' := [some (.ref p0), some (.int p1), some (.int o8.1), some (.int (4 * v16))]) (pc := 26) C dX9_cost_26 rfl rfl rfl ?_
    refine mG_aload_n (pc := 27) C dX9_cost_27 rfl ?_
    obtain ⟨r17, e18, hf⟩ := mx_bind hf
    refine mG_getR (pc := 28) C dX9_cost_28 fl_X9_12 e18 ?_
    obtain ⟨r19, e20, hf⟩ := mx_bind hf
    refine mG_getR (pc := 31) C dX9_cost_31 fl_X9_72 e20 ?_
    refine mG_iload_n (pc := 34) C dX9_cost_34 rfl ?_
    obtain ⟨u21, e22, hf⟩ := mx_bind hf
    obtain ⟨v24, e23, hf⟩ := mx_bind hf
    refine mG_cV (pc := 35) (k' := 1) (n' := 6) 6 [.int o8.1] [] C hX dX9_cost_35 lkV_X9_174 rfl rfl e22 (tX6_itemsRead hl e23) rfl rfl rfl rfl ?_
    refine mG_aload_n (pc := 38) C dX9_cost_38 rfl ?_
    obtain ⟨r25, e26, hf⟩ := mx_bind hf
    refine mG_getR (pc := 39) C dX9_cost_39 fl_X9_12 e26 ?_
    obtain ⟨v27, e28, hf⟩ := mx_bind hf
    refine mG_getI (pc := 42) C dX9_cost_42 fl_X9_108 e28 ?_
    refine mG_imul (pc := 45) C dX9_cost_45 ?_
    refine mG_iload_n (pc := 46) C dX9_cost_46 rfl ?_
    refine mG_aload_n (pc := 47) C dX9_cost_47 rfl ?_
    obtain ⟨r29, e30, hf⟩ := mx_bind hf
    refine mG_getR (pc := 48) C dX9_cost_48 fl_X9_12 e30 ?_
    obtain ⟨v31, e32, hf⟩ := mx_bind hf
    refine mG_getI (pc := 51) C dX9_cost_51 fl_X9_111 e32 ?_
    refine mG_imul (pc := 54) C dX9_cost_54 ?_
    refine mG_iadd (pc := 55) C dX9_cost_55 ?_
    cases hf
    exact mG_ir (pc := 56) C E hX dX9_cost_56 rfl
  · cases hf
    exact mG_cSX (pc := 4) [.int p1, .int 1, .int 20] [] C E hX dX9_cost_4 lkS_X9_86 rfl (tX9_requireRange hl e1) rfl rfl
theorem dX9_best_0 : decode cX9_best 0 = .ok (.iload_n 1, 1) := by decide +kernel
theorem dX9_best_1 : decode cX9_best 1 = .ok (.iconst 1, 1) := by decide +kernel
theorem dX9_best_2 : decode cX9_best 2 = .ok (.bipush 20, 2) := by decide +kernel
theorem dX9_best_4 : decode cX9_best 4 = .ok (.invokestatic 86, 3) := by decide +kernel
theorem dX9_best_7 : decode cX9_best 7 = .ok (.aload_n 0, 1) := by decide +kernel
theorem dX9_best_8 : decode cX9_best 8 = .ok (.iload_n 1, 1) := by decide +kernel
theorem dX9_best_9 : decode cX9_best 9 = .ok (.invokevirtual 168, 3) := by decide +kernel
theorem dX9_best_12 : decode cX9_best 12 = .ok (.istore_n 3, 1) := by decide +kernel
theorem dX9_best_13 : decode cX9_best 13 = .ok (.iload_n 2, 1) := by decide +kernel
theorem dX9_best_14 : decode cX9_best 14 = .ok (.iload_n 1, 1) := by decide +kernel
theorem dX9_best_15 : decode cX9_best 15 = .ok (.aload_n 0, 1) := by decide +kernel
theorem dX9_best_16 : decode cX9_best 16 = .ok (.getfield 12, 3) := by decide +kernel
theorem dX9_best_19 : decode cX9_best 19 = .ok (.getfield 72, 3) := by decide +kernel
theorem dX9_best_22 : decode cX9_best 22 = .ok (.iload_n 3, 1) := by decide +kernel
theorem dX9_best_23 : decode cX9_best 23 = .ok (.invokevirtual 171, 3) := by decide +kernel
theorem dX9_best_26 : decode cX9_best 26 = .ok (.invokestatic 177, 3) := by decide +kernel
theorem dX9_best_29 : decode cX9_best 29 = .ok (.invokestatic 138, 3) := by decide +kernel
theorem dX9_best_32 : decode cX9_best 32 = .ok (.aload_n 0, 1) := by decide +kernel
theorem dX9_best_33 : decode cX9_best 33 = .ok (.getfield 33, 3) := by decide +kernel
theorem dX9_best_36 : decode cX9_best 36 = .ok (.iload_n 2, 1) := by decide +kernel
theorem dX9_best_37 : decode cX9_best 37 = .ok (.iload_n 3, 1) := by decide +kernel
theorem dX9_best_38 : decode cX9_best 38 = .ok (.aload_n 0, 1) := by decide +kernel
theorem dX9_best_39 : decode cX9_best 39 = .ok (.getfield 12, 3) := by decide +kernel
theorem dX9_best_42 : decode cX9_best 42 = .ok (.getfield 72, 3) := by decide +kernel
theorem dX9_best_45 : decode cX9_best 45 = .ok (.invokevirtual 182, 3) := by decide +kernel
theorem dX9_best_48 : decode cX9_best 48 = .ok (.ireturn, 1) := by decide +kernel
def fX9_best (p0 : Nat) (p1 : Int32) (p2 : Int32) (h : mxH) : Option ((Int32 ⊕ String) × mxH) := mxThen (fX9_requireRange p1 1 20 h) (fun v2 h3 => Option.bind (isO h3 p0 9) (fun u5 => Option.bind (fX9_findStop p0 p1 h3) (fun o8 => Option.bind (gR o8.2 p0 9 0) (fun r9 => Option.bind (gR o8.2 r9 7 0) (fun r11 => Option.bind (isO o8.2 r11 6) (fun u13 => Option.bind (fX6_thingsRead r11 o8.1 o8.2) (fun v16 => mxThen (fX9_requirePlace p2 (mxMin p1 v16) o8.2) (fun v18 h19 => Option.bind (gR h19 p0 9 3) (fun r21 => Option.bind (gR h19 p0 9 0) (fun r23 => Option.bind (gR h19 r23 7 0) (fun r25 => Option.bind (isO h19 r21 4) (fun u27 => Option.bind (fX4_readThingOn r21 p2 o8.1 r25 h19) (fun v30 => some (Sum.inl v30, h19))))))))))))))
abbrev rmX9_best : Room := { frames := 7, cells := 2, slots := 12, locals := 132 }
set_option maxRecDepth 20000 in
theorem tX9_best {l : Launch} {Z : mxZ} (hl : l.stackTraces = false) {p0 : Nat} {p1 : Int32} {p2 : Int32} {h : mxH} {out : ((Int32 ⊕ String) × mxH)} (hf : fX9_best p0 p1 p2 h = some out) : mxMet l Z yX9_best cX9_best 4 (some .int) rmX9_best [.ref p0, .int p1, .int p2] h (mxRI out.1) out.2 := by
  refine mxMet_of (by decide) hl (by simp [Value.category]) (Nat.le_of_ble_eq_true rfl) ?_
  intro X C E hX hin
  unfold fX9_best at hf
  refine mG_iload_n (pc := 0) C dX9_best_0 rfl ?_
  refine mG_ic (pc := 1) C dX9_best_1 kI1 ?_
  refine mG_bp (pc := 2) C dX9_best_2 kB20 ?_
  rcases mx_then hf with ⟨v2, h3, e1, hf⟩ | ⟨E4, h3, e1, hf⟩
  · refine mG_cS (pc := 4) (k' := 1) (n' := 6) [.int p1, .int 1, .int 20] [] C hX dX9_best_4 lkS_X9_86 rfl (tX9_requireRange hl e1) rfl rfl rfl rfl ?_
    refine mG_aload_n (pc := 7) C dX9_best_7 rfl ?_
    refine mG_iload_n (pc := 8) C dX9_best_8 rfl ?_
    obtain ⟨u5, e6, hf⟩ := mx_bind hf
    obtain ⟨o8, e7, hf⟩ := mx_bind hf
    refine mG_cV (pc := 9) (k' := 1) (n' := 6) 9 [.int p1] [] C hX dX9_best_9 lkV_X9_168 rfl rfl e6 (tX9_findStop hl e7) rfl rfl rfl rfl ?_
    refine mG_isn (ls' := [some (.ref p0), some (.int p1), some (.int p2), some (.int o8.1)]) (pc := 12) C dX9_best_12 rfl rfl rfl ?_
    refine mG_iload_n (pc := 13) C dX9_best_13 rfl ?_
    refine mG_iload_n (pc := 14) C dX9_best_14 rfl ?_
    refine mG_aload_n (pc := 15) C dX9_best_15 rfl ?_
    obtain ⟨r9, e10, hf⟩ := mx_bind hf
    refine mG_getR (pc := 16) C dX9_best_16 fl_X9_12 e10 ?_
    obtain ⟨r11, e12, hf⟩ := mx_bind hf
    refine mG_getR (pc := 19) C dX9_best_19 fl_X9_72 e12 ?_
    refine mG_iload_n (pc := 22) C dX9_best_22 rfl ?_
    obtain ⟨u13, e14, hf⟩ := mx_bind hf
    obtain ⟨v16, e15, hf⟩ := mx_bind hf
    refine mG_cV (pc := 23) (k' := 1) (n' := 6) 6 [.int o8.1] [.int p1, .int p2] C hX dX9_best_23 lkV_X9_171 rfl rfl e14 (tX6_thingsRead hl e15) rfl rfl rfl rfl ?_
    refine mG_mn (pc := 26) C hX dX9_best_26 w806 wmin rfl rfl ?_
    rcases mx_then hf with ⟨v18, h19, e17, hf⟩ | ⟨E20, h19, e17, hf⟩
    · refine mG_cS (pc := 29) (k' := 2) (n' := 12) [.int p2, .int (mxMin p1 v16)] [] C hX dX9_best_29 lkS_X9_138 rfl (tX9_requirePlace hl e17) rfl rfl rfl rfl ?_
      refine mG_aload_n (pc := 32) C dX9_best_32 rfl ?_
      obtain ⟨r21, e22, hf⟩ := mx_bind hf
      refine mG_getR (pc := 33) C dX9_best_33 fl_X9_33 e22 ?_
      refine mG_iload_n (pc := 36) C dX9_best_36 rfl ?_
      refine mG_iload_n (pc := 37) C dX9_best_37 rfl ?_
      refine mG_aload_n (pc := 38) C dX9_best_38 rfl ?_
      obtain ⟨r23, e24, hf⟩ := mx_bind hf
      refine mG_getR (pc := 39) C dX9_best_39 fl_X9_12 e24 ?_
      obtain ⟨r25, e26, hf⟩ := mx_bind hf
      refine mG_getR (pc := 42) C dX9_best_42 fl_X9_72 e26 ?_
      obtain ⟨u27, e28, hf⟩ := mx_bind hf
      obtain ⟨v30, e29, hf⟩ := mx_bind hf
      refine mG_cV (pc := 45) (k' := 2) (n' := 12) 4 [.int p2, .int o8.1, .ref r25] [] C hX dX9_best_45 lkV_X9_182 rfl rfl e28 (tX4_readThingOn hl e29) rfl rfl rfl rfl ?_
      cases hf
      exact mG_ir (pc := 48) C E hX dX9_best_48 rfl
    · cases hf
      exact mG_cSX (pc := 29) [.int p2, .int (mxMin p1 v16)] [] C E hX dX9_best_29 lkS_X9_138 rfl (tX9_requirePlace hl e17) rfl rfl
  · cases hf
    exact mG_cSX (pc := 4) [.int p1, .int 1, .int 20] [] C E hX dX9_best_4 lkS_X9_86 rfl (tX9_requireRange hl e1) rfl rfl
theorem dX9_refute_0 : decode cX9_refute 0 = .ok (.iload_n 1, 1) := by decide +kernel
theorem dX9_refute_1 : decode cX9_refute 1 = .ok (.iconst 1, 1) := by decide +kernel
theorem dX9_refute_2 : decode cX9_refute 2 = .ok (.bipush 20, 2) := by decide +kernel
theorem dX9_refute_4 : decode cX9_refute 4 = .ok (.invokestatic 86, 3) := by decide +kernel
theorem dX9_refute_7 : decode cX9_refute 7 = .ok (.iload_n 2, 1) := by decide +kernel
theorem dX9_refute_8 : decode cX9_refute 8 = .ok (.iconst 0, 1) := by decide +kernel
theorem dX9_refute_9 : decode cX9_refute 9 = .ok (.bipush 20, 2) := by decide +kernel
theorem dX9_refute_11 : decode cX9_refute 11 = .ok (.invokestatic 86, 3) := by decide +kernel
theorem dX9_refute_14 : decode cX9_refute 14 = .ok (.iload_n 2, 1) := by decide +kernel
theorem dX9_refute_15 : decode cX9_refute 15 = .ok (.aload_n 0, 1) := by decide +kernel
theorem dX9_refute_16 : decode cX9_refute 16 = .ok (.iload_n 1, 1) := by decide +kernel
theorem dX9_refute_17 : decode cX9_refute 17 = .ok (.invokevirtual 168, 3) := by decide +kernel
theorem dX9_refute_20 : decode cX9_refute 20 = .ok (.if_icmp .ge 7, 3) := by decide +kernel
theorem dX9_refute_23 : decode cX9_refute 23 = .ok (.iconst 1, 1) := by decide +kernel
theorem dX9_refute_24 : decode cX9_refute 24 = .ok (.goto 4, 3) := by decide +kernel
theorem dX9_refute_27 : decode cX9_refute 27 = .ok (.iconst 0, 1) := by decide +kernel
theorem dX9_refute_28 : decode cX9_refute 28 = .ok (.invokestatic 97, 3) := by decide +kernel
theorem dX9_refute_31 : decode cX9_refute 31 = .ok (.aload_n 0, 1) := by decide +kernel
theorem dX9_refute_32 : decode cX9_refute 32 = .ok (.getfield 12, 3) := by decide +kernel
theorem dX9_refute_35 : decode cX9_refute 35 = .ok (.getfield 72, 3) := by decide +kernel
theorem dX9_refute_38 : decode cX9_refute 38 = .ok (.iload_n 2, 1) := by decide +kernel
theorem dX9_refute_39 : decode cX9_refute 39 = .ok (.invokevirtual 186, 3) := by decide +kernel
theorem dX9_refute_42 : decode cX9_refute 42 = .ok (.istore_n 3, 1) := by decide +kernel
theorem dX9_refute_43 : decode cX9_refute 43 = .ok (.iload_n 3, 1) := by decide +kernel
theorem dX9_refute_44 : decode cX9_refute 44 = .ok (.iconst (-1), 1) := by decide +kernel
theorem dX9_refute_45 : decode cX9_refute 45 = .ok (.if_icmp .eq 7, 3) := by decide +kernel
theorem dX9_refute_48 : decode cX9_refute 48 = .ok (.iconst 1, 1) := by decide +kernel
theorem dX9_refute_49 : decode cX9_refute 49 = .ok (.goto 4, 3) := by decide +kernel
theorem dX9_refute_52 : decode cX9_refute 52 = .ok (.iconst 0, 1) := by decide +kernel
theorem dX9_refute_53 : decode cX9_refute 53 = .ok (.invokestatic 97, 3) := by decide +kernel
theorem dX9_refute_56 : decode cX9_refute 56 = .ok (.iload_n 3, 1) := by decide +kernel
theorem dX9_refute_57 : decode cX9_refute 57 = .ok (.ireturn, 1) := by decide +kernel
def fX9_refute (p0 : Nat) (p1 : Int32) (p2 : Int32) (h : mxH) : Option ((Int32 ⊕ String) × mxH) := mxThen (fX9_requireRange p1 1 20 h) (fun v2 h3 => mxThen (fX9_requireRange p2 0 20 h3) (fun v6 h7 => Option.bind (isO h7 p0 9) (fun u9 => Option.bind (fX9_findStop p0 p1 h7) (fun o12 => Option.bind (α := Int32) (if o12.1 ≤ p2 then some 0 else some 1) (fun p15' : Int32 => mxThen (fX9_requireFound p15' o12.2) (fun v18 h19 => Option.bind (gR h19 p0 9 0) (fun r21 => Option.bind (gR h19 r21 7 0) (fun r23 => Option.bind (isO h19 r23 6) (fun u25 => Option.bind (fX6_leastUnread r23 p2 h19) (fun v28 => Option.bind (α := Int32) (if v28 = (-1) then some 0 else some 1) (fun p31' : Int32 => mxThen (fX9_requireFound p31' h19) (fun v34 h35 => some (Sum.inl v28, h35)))))))))))))
abbrev rmX9_refute : Room := { frames := 7, cells := 4, slots := 24, locals := 132 }
set_option maxRecDepth 20000 in
theorem tX9_refute {l : Launch} {Z : mxZ} (hl : l.stackTraces = false) {p0 : Nat} {p1 : Int32} {p2 : Int32} {h : mxH} {out : ((Int32 ⊕ String) × mxH)} (hf : fX9_refute p0 p1 p2 h = some out) : mxMet l Z yX9_refute cX9_refute 4 (some .int) rmX9_refute [.ref p0, .int p1, .int p2] h (mxRI out.1) out.2 := by
  refine mxMet_of (by decide) hl (by simp [Value.category]) (Nat.le_of_ble_eq_true rfl) ?_
  intro X C E hX hin
  unfold fX9_refute at hf
  refine mG_iload_n (pc := 0) C dX9_refute_0 rfl ?_
  refine mG_ic (pc := 1) C dX9_refute_1 kI1 ?_
  refine mG_bp (pc := 2) C dX9_refute_2 kB20 ?_
  rcases mx_then hf with ⟨v2, h3, e1, hf⟩ | ⟨E4, h3, e1, hf⟩
  · refine mG_cS (pc := 4) (k' := 1) (n' := 6) [.int p1, .int 1, .int 20] [] C hX dX9_refute_4 lkS_X9_86 rfl (tX9_requireRange hl e1) rfl rfl rfl rfl ?_
    refine mG_iload_n (pc := 7) C dX9_refute_7 rfl ?_
    refine mG_ic (pc := 8) C dX9_refute_8 kI0 ?_
    refine mG_bp (pc := 9) C dX9_refute_9 kB20 ?_
    rcases mx_then hf with ⟨v6, h7, e5, hf⟩ | ⟨E8, h7, e5, hf⟩
    · refine mG_cS (pc := 11) (k' := 2) (n' := 12) [.int p2, .int 0, .int 20] [] C hX dX9_refute_11 lkS_X9_86 rfl (tX9_requireRange hl e5) rfl rfl rfl rfl ?_
      refine mG_iload_n (pc := 14) C dX9_refute_14 rfl ?_
      refine mG_aload_n (pc := 15) C dX9_refute_15 rfl ?_
      refine mG_iload_n (pc := 16) C dX9_refute_16 rfl ?_
      obtain ⟨u9, e10, hf⟩ := mx_bind hf
      obtain ⟨o12, e11, hf⟩ := mx_bind hf
      refine mG_cV (pc := 17) (k' := 2) (n' := 12) 9 [.int p1] [.int p2] C hX dX9_refute_17 lkV_X9_168 rfl rfl e10 (tX9_findStop hl e11) rfl rfl rfl rfl ?_
      obtain ⟨p15, e16, hf⟩ := mx_bind hf
      have J14 : ∀ p15' : Int32, p15' = p15 → mG l Z X 4 2 12 28 [some (.ref p0), none, some (.int p2), none] [.int p15'] o12.2 := by
        intro p15' q38
        subst q38
        rcases mx_then hf with ⟨v18, h19, e17, hf⟩ | ⟨E20, h19, e17, hf⟩
        · refine mG_cS (pc := 28) (k' := 3) (n' := 18) [.int p15'] [] C hX dX9_refute_28 lkS_X9_97 rfl (tX9_requireFound hl e17) rfl rfl rfl rfl ?_
          refine mG_aload_n (pc := 31) C dX9_refute_31 rfl ?_
          obtain ⟨r21, e22, hf⟩ := mx_bind hf
          refine mG_getR (pc := 32) C dX9_refute_32 fl_X9_12 e22 ?_
          obtain ⟨r23, e24, hf⟩ := mx_bind hf
          refine mG_getR (pc := 35) C dX9_refute_35 fl_X9_72 e24 ?_
          refine mG_iload_n (pc := 38) C dX9_refute_38 rfl ?_
          obtain ⟨u25, e26, hf⟩ := mx_bind hf
          obtain ⟨v28, e27, hf⟩ := mx_bind hf
          refine mG_cV (pc := 39) (k' := 3) (n' := 18) 6 [.int p2] [] C hX dX9_refute_39 lkV_X9_186 rfl rfl e26 (tX6_leastUnread hl e27) rfl rfl rfl rfl ?_
          refine mG_isn (ls' := [some (.ref p0), none, some (.int p2), some (.int v28)]) (pc := 42) C dX9_refute_42 rfl rfl rfl ?_
          refine mG_iload_n (pc := 43) C dX9_refute_43 rfl ?_
          refine mG_ic (pc := 44) C dX9_refute_44 kIm1 ?_
          obtain ⟨p31, e32, hf⟩ := mx_bind hf
          have J30 : ∀ p31' : Int32, p31' = p31 → mG l Z X 4 3 18 53 [none, none, none, some (.int v28)] [.int p31'] h19 := by
            intro p31' q37
            subst q37
            rcases mx_then hf with ⟨v34, h35, e33, hf⟩ | ⟨E36, h35, e33, hf⟩
            · refine mG_cS (pc := 53) (k' := 4) (n' := 24) [.int p31'] [] C hX dX9_refute_53 lkS_X9_97 rfl (tX9_requireFound hl e33) rfl rfl rfl rfl ?_
              refine mG_iload_n (pc := 56) C dX9_refute_56 rfl ?_
              cases hf
              exact mG_ir (pc := 57) C E hX dX9_refute_57 rfl
            · cases hf
              exact mG_cSX (pc := 53) [.int p31'] [] C E hX dX9_refute_53 lkS_X9_97 rfl (tX9_requireFound hl e33) rfl rfl
          refine mG_icmp_eq (pc := 45) (tgt := 52) C dX9_refute_45 (by decide) (fun q29 => ?_) (fun q29 => ?_)
          · rw [if_pos q29] at e32
            refine mG_ic (pc := 52) C dX9_refute_52 kI0 ?_
            exact mG_sub (mxLe_n (mxLe_n (mxLe_n (mxLe_s mxLe_z)))) (J30 _ (Option.some.inj e32))
          · rw [if_neg q29] at e32
            refine mG_ic (pc := 48) C dX9_refute_48 kI1 ?_
            refine mG_goto (tgt := 53) (pc := 49) C dX9_refute_49 (by decide) ?_
            exact mG_sub (mxLe_n (mxLe_n (mxLe_n (mxLe_s mxLe_z)))) (J30 _ (Option.some.inj e32))
        · cases hf
          exact mG_cSX (pc := 28) [.int p15'] [] C E hX dX9_refute_28 lkS_X9_97 rfl (tX9_requireFound hl e17) rfl rfl
      refine mG_icmp_ge (pc := 20) (tgt := 27) C dX9_refute_20 (by decide) (fun q13 => ?_) (fun q13 => ?_)
      · rw [if_pos q13] at e16
        refine mG_ic (pc := 27) C dX9_refute_27 kI0 ?_
        exact mG_sub (mxLe_s (mxLe_n (mxLe_s (mxLe_n mxLe_z)))) (J14 _ (Option.some.inj e16))
      · rw [if_neg q13] at e16
        refine mG_ic (pc := 23) C dX9_refute_23 kI1 ?_
        refine mG_goto (tgt := 28) (pc := 24) C dX9_refute_24 (by decide) ?_
        exact mG_sub (mxLe_s (mxLe_n (mxLe_s (mxLe_n mxLe_z)))) (J14 _ (Option.some.inj e16))
    · cases hf
      exact mG_cSX (pc := 11) [.int p2, .int 0, .int 20] [] C E hX dX9_refute_11 lkS_X9_86 rfl (tX9_requireRange hl e5) rfl rfl
  · cases hf
    exact mG_cSX (pc := 4) [.int p1, .int 1, .int 20] [] C E hX dX9_refute_4 lkS_X9_86 rfl (tX9_requireRange hl e1) rfl rfl
theorem dX9_lower_0 : decode cX9_lower 0 = .ok (.iload_n 1, 1) := by decide +kernel
theorem dX9_lower_1 : decode cX9_lower 1 = .ok (.invokestatic 83, 3) := by decide +kernel
theorem dX9_lower_4 : decode cX9_lower 4 = .ok (.iload_n 2, 1) := by decide +kernel
theorem dX9_lower_5 : decode cX9_lower 5 = .ok (.iconst 1, 1) := by decide +kernel
theorem dX9_lower_6 : decode cX9_lower 6 = .ok (.bipush 20, 2) := by decide +kernel
theorem dX9_lower_8 : decode cX9_lower 8 = .ok (.invokestatic 86, 3) := by decide +kernel
theorem dX9_lower_11 : decode cX9_lower 11 = .ok (.aload_n 0, 1) := by decide +kernel
theorem dX9_lower_12 : decode cX9_lower 12 = .ok (.getfield 12, 3) := by decide +kernel
theorem dX9_lower_15 : decode cX9_lower 15 = .ok (.getfield 72, 3) := by decide +kernel
theorem dX9_lower_18 : decode cX9_lower 18 = .ok (.iload_n 1, 1) := by decide +kernel
theorem dX9_lower_19 : decode cX9_lower 19 = .ok (.iload_n 2, 1) := by decide +kernel
theorem dX9_lower_20 : decode cX9_lower 20 = .ok (.invokevirtual 189, 3) := by decide +kernel
theorem dX9_lower_23 : decode cX9_lower 23 = .ok (.ireturn, 1) := by decide +kernel
def fX9_lower (p0 : Nat) (p1 : Int32) (p2 : Int32) (h : mxH) : Option ((Int32 ⊕ String) × mxH) := mxThen (fX9_requireThing p1 h) (fun v2 h3 => mxThen (fX9_requireRange p2 1 20 h3) (fun v6 h7 => Option.bind (gR h7 p0 9 0) (fun r9 => Option.bind (gR h7 r9 7 0) (fun r11 => Option.bind (isO h7 r11 6) (fun u13 => Option.bind (fX6_lowerOf r11 p1 p2 h7) (fun o16 => some (Sum.inl o16.1, o16.2)))))))
abbrev rmX9_lower : Room := { frames := 7, cells := 2, slots := 12, locals := 123 }
set_option maxRecDepth 20000 in
theorem tX9_lower {l : Launch} {Z : mxZ} (hl : l.stackTraces = false) {p0 : Nat} {p1 : Int32} {p2 : Int32} {h : mxH} {out : ((Int32 ⊕ String) × mxH)} (hf : fX9_lower p0 p1 p2 h = some out) : mxMet l Z yX9_lower cX9_lower 3 (some .int) rmX9_lower [.ref p0, .int p1, .int p2] h (mxRI out.1) out.2 := by
  refine mxMet_of (by decide) hl (by simp [Value.category]) (Nat.le_of_ble_eq_true rfl) ?_
  intro X C E hX hin
  unfold fX9_lower at hf
  refine mG_iload_n (pc := 0) C dX9_lower_0 rfl ?_
  rcases mx_then hf with ⟨v2, h3, e1, hf⟩ | ⟨E4, h3, e1, hf⟩
  · refine mG_cS (pc := 1) (k' := 1) (n' := 6) [.int p1] [] C hX dX9_lower_1 lkS_X9_83 rfl (tX9_requireThing hl e1) rfl rfl rfl rfl ?_
    refine mG_iload_n (pc := 4) C dX9_lower_4 rfl ?_
    refine mG_ic (pc := 5) C dX9_lower_5 kI1 ?_
    refine mG_bp (pc := 6) C dX9_lower_6 kB20 ?_
    rcases mx_then hf with ⟨v6, h7, e5, hf⟩ | ⟨E8, h7, e5, hf⟩
    · refine mG_cS (pc := 8) (k' := 2) (n' := 12) [.int p2, .int 1, .int 20] [] C hX dX9_lower_8 lkS_X9_86 rfl (tX9_requireRange hl e5) rfl rfl rfl rfl ?_
      refine mG_aload_n (pc := 11) C dX9_lower_11 rfl ?_
      obtain ⟨r9, e10, hf⟩ := mx_bind hf
      refine mG_getR (pc := 12) C dX9_lower_12 fl_X9_12 e10 ?_
      obtain ⟨r11, e12, hf⟩ := mx_bind hf
      refine mG_getR (pc := 15) C dX9_lower_15 fl_X9_72 e12 ?_
      refine mG_iload_n (pc := 18) C dX9_lower_18 rfl ?_
      refine mG_iload_n (pc := 19) C dX9_lower_19 rfl ?_
      obtain ⟨u13, e14, hf⟩ := mx_bind hf
      obtain ⟨o16, e15, hf⟩ := mx_bind hf
      refine mG_cV (pc := 20) (k' := 2) (n' := 12) 6 [.int p1, .int p2] [] C hX dX9_lower_20 lkV_X9_189 rfl rfl e14 (tX6_lowerOf hl e15) rfl rfl rfl rfl ?_
      cases hf
      exact mG_ir (pc := 23) C E hX dX9_lower_23 rfl
    · cases hf
      exact mG_cSX (pc := 8) [.int p2, .int 1, .int 20] [] C E hX dX9_lower_8 lkS_X9_86 rfl (tX9_requireRange hl e5) rfl rfl
  · cases hf
    exact mG_cSX (pc := 1) [.int p1] [] C E hX dX9_lower_1 lkS_X9_83 rfl (tX9_requireThing hl e1) rfl rfl
theorem dX9_upper_0 : decode cX9_upper 0 = .ok (.iload_n 1, 1) := by decide +kernel
theorem dX9_upper_1 : decode cX9_upper 1 = .ok (.invokestatic 83, 3) := by decide +kernel
theorem dX9_upper_4 : decode cX9_upper 4 = .ok (.iload_n 2, 1) := by decide +kernel
theorem dX9_upper_5 : decode cX9_upper 5 = .ok (.iconst 1, 1) := by decide +kernel
theorem dX9_upper_6 : decode cX9_upper 6 = .ok (.bipush 20, 2) := by decide +kernel
theorem dX9_upper_8 : decode cX9_upper 8 = .ok (.invokestatic 86, 3) := by decide +kernel
theorem dX9_upper_11 : decode cX9_upper 11 = .ok (.aload_n 0, 1) := by decide +kernel
theorem dX9_upper_12 : decode cX9_upper 12 = .ok (.getfield 12, 3) := by decide +kernel
theorem dX9_upper_15 : decode cX9_upper 15 = .ok (.getfield 72, 3) := by decide +kernel
theorem dX9_upper_18 : decode cX9_upper 18 = .ok (.iload_n 1, 1) := by decide +kernel
theorem dX9_upper_19 : decode cX9_upper 19 = .ok (.iload_n 2, 1) := by decide +kernel
theorem dX9_upper_20 : decode cX9_upper 20 = .ok (.invokevirtual 192, 3) := by decide +kernel
theorem dX9_upper_23 : decode cX9_upper 23 = .ok (.ireturn, 1) := by decide +kernel
def fX9_upper (p0 : Nat) (p1 : Int32) (p2 : Int32) (h : mxH) : Option ((Int32 ⊕ String) × mxH) := mxThen (fX9_requireThing p1 h) (fun v2 h3 => mxThen (fX9_requireRange p2 1 20 h3) (fun v6 h7 => Option.bind (gR h7 p0 9 0) (fun r9 => Option.bind (gR h7 r9 7 0) (fun r11 => Option.bind (isO h7 r11 6) (fun u13 => Option.bind (fX6_upperOf r11 p1 p2 h7) (fun o16 => some (Sum.inl o16.1, o16.2)))))))
abbrev rmX9_upper : Room := { frames := 7, cells := 2, slots := 12, locals := 123 }
set_option maxRecDepth 20000 in
theorem tX9_upper {l : Launch} {Z : mxZ} (hl : l.stackTraces = false) {p0 : Nat} {p1 : Int32} {p2 : Int32} {h : mxH} {out : ((Int32 ⊕ String) × mxH)} (hf : fX9_upper p0 p1 p2 h = some out) : mxMet l Z yX9_upper cX9_upper 3 (some .int) rmX9_upper [.ref p0, .int p1, .int p2] h (mxRI out.1) out.2 := by
  refine mxMet_of (by decide) hl (by simp [Value.category]) (Nat.le_of_ble_eq_true rfl) ?_
  intro X C E hX hin
  unfold fX9_upper at hf
  refine mG_iload_n (pc := 0) C dX9_upper_0 rfl ?_
  rcases mx_then hf with ⟨v2, h3, e1, hf⟩ | ⟨E4, h3, e1, hf⟩
  · refine mG_cS (pc := 1) (k' := 1) (n' := 6) [.int p1] [] C hX dX9_upper_1 lkS_X9_83 rfl (tX9_requireThing hl e1) rfl rfl rfl rfl ?_
    refine mG_iload_n (pc := 4) C dX9_upper_4 rfl ?_
    refine mG_ic (pc := 5) C dX9_upper_5 kI1 ?_
    refine mG_bp (pc := 6) C dX9_upper_6 kB20 ?_
    rcases mx_then hf with ⟨v6, h7, e5, hf⟩ | ⟨E8, h7, e5, hf⟩
    · refine mG_cS (pc := 8) (k' := 2) (n' := 12) [.int p2, .int 1, .int 20] [] C hX dX9_upper_8 lkS_X9_86 rfl (tX9_requireRange hl e5) rfl rfl rfl rfl ?_
      refine mG_aload_n (pc := 11) C dX9_upper_11 rfl ?_
      obtain ⟨r9, e10, hf⟩ := mx_bind hf
      refine mG_getR (pc := 12) C dX9_upper_12 fl_X9_12 e10 ?_
      obtain ⟨r11, e12, hf⟩ := mx_bind hf
      refine mG_getR (pc := 15) C dX9_upper_15 fl_X9_72 e12 ?_
      refine mG_iload_n (pc := 18) C dX9_upper_18 rfl ?_
      refine mG_iload_n (pc := 19) C dX9_upper_19 rfl ?_
      obtain ⟨u13, e14, hf⟩ := mx_bind hf
      obtain ⟨o16, e15, hf⟩ := mx_bind hf
      refine mG_cV (pc := 20) (k' := 2) (n' := 12) 6 [.int p1, .int p2] [] C hX dX9_upper_20 lkV_X9_192 rfl rfl e14 (tX6_upperOf hl e15) rfl rfl rfl rfl ?_
      cases hf
      exact mG_ir (pc := 23) C E hX dX9_upper_23 rfl
    · cases hf
      exact mG_cSX (pc := 8) [.int p2, .int 1, .int 20] [] C E hX dX9_upper_8 lkS_X9_86 rfl (tX9_requireRange hl e5) rfl rfl
  · cases hf
    exact mG_cSX (pc := 1) [.int p1] [] C E hX dX9_upper_1 lkS_X9_83 rfl (tX9_requireThing hl e1) rfl rfl
theorem dX9_plainDepth_0 : decode cX9_plainDepth 0 = .ok (.iload_n 1, 1) := by decide +kernel
theorem dX9_plainDepth_1 : decode cX9_plainDepth 1 = .ok (.iconst 1, 1) := by decide +kernel
theorem dX9_plainDepth_2 : decode cX9_plainDepth 2 = .ok (.bipush 20, 2) := by decide +kernel
theorem dX9_plainDepth_4 : decode cX9_plainDepth 4 = .ok (.invokestatic 86, 3) := by decide +kernel
theorem dX9_plainDepth_7 : decode cX9_plainDepth 7 = .ok (.aload_n 0, 1) := by decide +kernel
theorem dX9_plainDepth_8 : decode cX9_plainDepth 8 = .ok (.getfield 43, 3) := by decide +kernel
theorem dX9_plainDepth_11 : decode cX9_plainDepth 11 = .ok (.aload_n 0, 1) := by decide +kernel
theorem dX9_plainDepth_12 : decode cX9_plainDepth 12 = .ok (.getfield 12, 3) := by decide +kernel
theorem dX9_plainDepth_15 : decode cX9_plainDepth 15 = .ok (.getfield 72, 3) := by decide +kernel
theorem dX9_plainDepth_18 : decode cX9_plainDepth 18 = .ok (.invokevirtual 195, 3) := by decide +kernel
theorem dX9_plainDepth_21 : decode cX9_plainDepth 21 = .ok (.aload_n 0, 1) := by decide +kernel
theorem dX9_plainDepth_22 : decode cX9_plainDepth 22 = .ok (.getfield 43, 3) := by decide +kernel
theorem dX9_plainDepth_25 : decode cX9_plainDepth 25 = .ok (.iload_n 1, 1) := by decide +kernel
theorem dX9_plainDepth_26 : decode cX9_plainDepth 26 = .ok (.invokevirtual 198, 3) := by decide +kernel
theorem dX9_plainDepth_29 : decode cX9_plainDepth 29 = .ok (.ireturn, 1) := by decide +kernel
def fX9_plainDepth (p0 : Nat) (p1 : Int32) (h : mxH) : Option ((Int32 ⊕ String) × mxH) := mxThen (fX9_requireRange p1 1 20 h) (fun v2 h3 => Option.bind (gR h3 p0 9 5) (fun r5 => Option.bind (gR h3 p0 9 0) (fun r7 => Option.bind (gR h3 r7 7 0) (fun r9 => Option.bind (isO h3 r5 5) (fun u11 => Option.bind (fX5_findPlainStops r5 r9 h3) (fun o14 => Option.bind (gR o14 p0 9 5) (fun r15 => Option.bind (isO o14 r15 5) (fun u17 => Option.bind (fX5_plainStopOf r15 p1 o14) (fun v20 => some (Sum.inl v20, o14))))))))))
abbrev rmX9_plainDepth : Room := { frames := 7, cells := 1, slots := 6, locals := 135 }
set_option maxRecDepth 20000 in
theorem tX9_plainDepth {l : Launch} {Z : mxZ} (hl : l.stackTraces = false) {p0 : Nat} {p1 : Int32} {h : mxH} {out : ((Int32 ⊕ String) × mxH)} (hf : fX9_plainDepth p0 p1 h = some out) : mxMet l Z yX9_plainDepth cX9_plainDepth 2 (some .int) rmX9_plainDepth [.ref p0, .int p1] h (mxRI out.1) out.2 := by
  refine mxMet_of (by decide) hl (by simp [Value.category]) (Nat.le_of_ble_eq_true rfl) ?_
  intro X C E hX hin
  unfold fX9_plainDepth at hf
  refine mG_iload_n (pc := 0) C dX9_plainDepth_0 rfl ?_
  refine mG_ic (pc := 1) C dX9_plainDepth_1 kI1 ?_
  refine mG_bp (pc := 2) C dX9_plainDepth_2 kB20 ?_
  rcases mx_then hf with ⟨v2, h3, e1, hf⟩ | ⟨E4, h3, e1, hf⟩
  · refine mG_cS (pc := 4) (k' := 1) (n' := 6) [.int p1, .int 1, .int 20] [] C hX dX9_plainDepth_4 lkS_X9_86 rfl (tX9_requireRange hl e1) rfl rfl rfl rfl ?_
    refine mG_aload_n (pc := 7) C dX9_plainDepth_7 rfl ?_
    obtain ⟨r5, e6, hf⟩ := mx_bind hf
    refine mG_getR (pc := 8) C dX9_plainDepth_8 fl_X9_43 e6 ?_
    refine mG_aload_n (pc := 11) C dX9_plainDepth_11 rfl ?_
    obtain ⟨r7, e8, hf⟩ := mx_bind hf
    refine mG_getR (pc := 12) C dX9_plainDepth_12 fl_X9_12 e8 ?_
    obtain ⟨r9, e10, hf⟩ := mx_bind hf
    refine mG_getR (pc := 15) C dX9_plainDepth_15 fl_X9_72 e10 ?_
    obtain ⟨u11, e12, hf⟩ := mx_bind hf
    obtain ⟨o14, e13, hf⟩ := mx_bind hf
    refine mG_cV (pc := 18) (k' := 1) (n' := 6) 5 [.ref r9] [] C hX dX9_plainDepth_18 lkV_X9_195 rfl rfl e12 (tX5_findPlainStops hl e13) rfl rfl rfl rfl ?_
    refine mG_aload_n (pc := 21) C dX9_plainDepth_21 rfl ?_
    obtain ⟨r15, e16, hf⟩ := mx_bind hf
    refine mG_getR (pc := 22) C dX9_plainDepth_22 fl_X9_43 e16 ?_
    refine mG_iload_n (pc := 25) C dX9_plainDepth_25 rfl ?_
    obtain ⟨u17, e18, hf⟩ := mx_bind hf
    obtain ⟨v20, e19, hf⟩ := mx_bind hf
    refine mG_cV (pc := 26) (k' := 1) (n' := 6) 5 [.int p1] [] C hX dX9_plainDepth_26 lkV_X9_198 rfl rfl e18 (tX5_plainStopOf hl e19) rfl rfl rfl rfl ?_
    cases hf
    exact mG_ir (pc := 29) C E hX dX9_plainDepth_29 rfl
  · cases hf
    exact mG_cSX (pc := 4) [.int p1, .int 1, .int 20] [] C E hX dX9_plainDepth_4 lkS_X9_86 rfl (tX9_requireRange hl e1) rfl rfl
theorem dX9_holds_0 : decode cX9_holds 0 = .ok (.iload_n 2, 1) := by decide +kernel
theorem dX9_holds_1 : decode cX9_holds 1 = .ok (.invokestatic 79, 3) := by decide +kernel
theorem dX9_holds_4 : decode cX9_holds 4 = .ok (.iload_n 3, 1) := by decide +kernel
theorem dX9_holds_5 : decode cX9_holds 5 = .ok (.invokestatic 83, 3) := by decide +kernel
theorem dX9_holds_8 : decode cX9_holds 8 = .ok (.iload_n 1, 1) := by decide +kernel
theorem dX9_holds_9 : decode cX9_holds 9 = .ok (.iconst 1, 1) := by decide +kernel
theorem dX9_holds_10 : decode cX9_holds 10 = .ok (.bipush 20, 2) := by decide +kernel
theorem dX9_holds_12 : decode cX9_holds 12 = .ok (.invokestatic 86, 3) := by decide +kernel
theorem dX9_holds_15 : decode cX9_holds 15 = .ok (.iload 4, 2) := by decide +kernel
theorem dX9_holds_17 : decode cX9_holds 17 = .ok (.iconst 0, 1) := by decide +kernel
theorem dX9_holds_18 : decode cX9_holds 18 = .ok (.bipush 99, 2) := by decide +kernel
theorem dX9_holds_20 : decode cX9_holds 20 = .ok (.invokestatic 86, 3) := by decide +kernel
theorem dX9_holds_23 : decode cX9_holds 23 = .ok (.aload_n 0, 1) := by decide +kernel
theorem dX9_holds_24 : decode cX9_holds 24 = .ok (.getfield 26, 3) := by decide +kernel
theorem dX9_holds_27 : decode cX9_holds 27 = .ok (.aload_n 0, 1) := by decide +kernel
theorem dX9_holds_28 : decode cX9_holds 28 = .ok (.getfield 12, 3) := by decide +kernel
theorem dX9_holds_31 : decode cX9_holds 31 = .ok (.getfield 72, 3) := by decide +kernel
theorem dX9_holds_34 : decode cX9_holds 34 = .ok (.invokevirtual 201, 3) := by decide +kernel
theorem dX9_holds_37 : decode cX9_holds 37 = .ok (.aload_n 0, 1) := by decide +kernel
theorem dX9_holds_38 : decode cX9_holds 38 = .ok (.getfield 26, 3) := by decide +kernel
theorem dX9_holds_41 : decode cX9_holds 41 = .ok (.iload_n 2, 1) := by decide +kernel
theorem dX9_holds_42 : decode cX9_holds 42 = .ok (.iload_n 3, 1) := by decide +kernel
theorem dX9_holds_43 : decode cX9_holds 43 = .ok (.iload 4, 2) := by decide +kernel
theorem dX9_holds_45 : decode cX9_holds 45 = .ok (.invokevirtual 75, 3) := by decide +kernel
theorem dX9_holds_48 : decode cX9_holds 48 = .ok (.aload_n 0, 1) := by decide +kernel
theorem dX9_holds_49 : decode cX9_holds 49 = .ok (.getfield 33, 3) := by decide +kernel
theorem dX9_holds_52 : decode cX9_holds 52 = .ok (.aload_n 0, 1) := by decide +kernel
theorem dX9_holds_53 : decode cX9_holds 53 = .ok (.getfield 12, 3) := by decide +kernel
theorem dX9_holds_56 : decode cX9_holds 56 = .ok (.getfield 72, 3) := by decide +kernel
theorem dX9_holds_59 : decode cX9_holds 59 = .ok (.invokevirtual 153, 3) := by decide +kernel
theorem dX9_holds_62 : decode cX9_holds 62 = .ok (.aload_n 0, 1) := by decide +kernel
theorem dX9_holds_63 : decode cX9_holds 63 = .ok (.getfield 37, 3) := by decide +kernel
theorem dX9_holds_66 : decode cX9_holds 66 = .ok (.aload_n 0, 1) := by decide +kernel
theorem dX9_holds_67 : decode cX9_holds 67 = .ok (.getfield 26, 3) := by decide +kernel
theorem dX9_holds_70 : decode cX9_holds 70 = .ok (.invokevirtual 153, 3) := by decide +kernel
theorem dX9_holds_73 : decode cX9_holds 73 = .ok (.aload_n 0, 1) := by decide +kernel
theorem dX9_holds_74 : decode cX9_holds 74 = .ok (.getfield 33, 3) := by decide +kernel
theorem dX9_holds_77 : decode cX9_holds 77 = .ok (.iload_n 1, 1) := by decide +kernel
theorem dX9_holds_78 : decode cX9_holds 78 = .ok (.aload_n 0, 1) := by decide +kernel
theorem dX9_holds_79 : decode cX9_holds 79 = .ok (.getfield 37, 3) := by decide +kernel
theorem dX9_holds_82 : decode cX9_holds 82 = .ok (.invokevirtual 204, 3) := by decide +kernel
theorem dX9_holds_85 : decode cX9_holds 85 = .ok (.ireturn, 1) := by decide +kernel
def fX9_holds (p0 : Nat) (p1 : Int32) (p2 : Int32) (p3 : Int32) (p4 : Int32) (h : mxH) : Option ((Int32 ⊕ String) × mxH) := mxThen (fX9_requireRow p2 h) (fun v2 h3 => mxThen (fX9_requireThing p3 h3) (fun v6 h7 => mxThen (fX9_requireRange p1 1 20 h7) (fun v10 h11 => mxThen (fX9_requireRange p4 0 99 h11) (fun v14 h15 => Option.bind (gR h15 p0 9 2) (fun r17 => Option.bind (gR h15 p0 9 0) (fun r19 => Option.bind (gR h15 r19 7 0) (fun r21 => Option.bind (isO h15 r17 6) (fun u23 => Option.bind (fX6_copyFrom r17 r21 h15) (fun o26 => Option.bind (gR o26 p0 9 2) (fun r27 => Option.bind (isO o26 r27 6) (fun u29 => Option.bind (fX6_setMark r27 p2 p3 p4 o26) (fun o32 => Option.bind (gR o32 p0 9 3) (fun r33 => Option.bind (gR o32 p0 9 0) (fun r35 => Option.bind (gR o32 r35 7 0) (fun r37 => Option.bind (isO o32 r33 4) (fun u39 => Option.bind (fX4_rankAll r33 r37 o32) (fun o42 => Option.bind (gR o42 p0 9 4) (fun r43 => Option.bind (gR o42 p0 9 2) (fun r45 => Option.bind (isO o42 r43 4) (fun u47 => Option.bind (fX4_rankAll r43 r45 o42) (fun o50 => Option.bind (gR o50 p0 9 3) (fun r51 => Option.bind (gR o50 p0 9 4) (fun r53 => Option.bind (isO o50 r51 4) (fun u55 => Option.bind (fX4_hasSameFirst r51 p1 r53 o50) (fun v58 => Option.bind (mxZ1 v58) (fun v59 => some (Sum.inl v59, o50)))))))))))))))))))))))))))
abbrev rmX9_holds : Room := { frames := 7, cells := 4, slots := 24, locals := 123 }
set_option maxRecDepth 20000 in
theorem tX9_holds {l : Launch} {Z : mxZ} (hl : l.stackTraces = false) {p0 : Nat} {p1 : Int32} {p2 : Int32} {p3 : Int32} {p4 : Int32} {h : mxH} {out : ((Int32 ⊕ String) × mxH)} (hf : fX9_holds p0 p1 p2 p3 p4 h = some out) : mxMet l Z yX9_holds cX9_holds 5 (some .boolean) rmX9_holds [.ref p0, .int p1, .int p2, .int p3, .int p4] h (mxRI out.1) out.2 := by
  refine mxMet_of (by decide) hl (by simp [Value.category]) (Nat.le_of_ble_eq_true rfl) ?_
  intro X C E hX hin
  unfold fX9_holds at hf
  refine mG_iload_n (pc := 0) C dX9_holds_0 rfl ?_
  rcases mx_then hf with ⟨v2, h3, e1, hf⟩ | ⟨E4, h3, e1, hf⟩
  · refine mG_cS (pc := 1) (k' := 1) (n' := 6) [.int p2] [] C hX dX9_holds_1 lkS_X9_79 rfl (tX9_requireRow hl e1) rfl rfl rfl rfl ?_
    refine mG_iload_n (pc := 4) C dX9_holds_4 rfl ?_
    rcases mx_then hf with ⟨v6, h7, e5, hf⟩ | ⟨E8, h7, e5, hf⟩
    · refine mG_cS (pc := 5) (k' := 2) (n' := 12) [.int p3] [] C hX dX9_holds_5 lkS_X9_83 rfl (tX9_requireThing hl e5) rfl rfl rfl rfl ?_
      refine mG_iload_n (pc := 8) C dX9_holds_8 rfl ?_
      refine mG_ic (pc := 9) C dX9_holds_9 kI1 ?_
      refine mG_bp (pc := 10) C dX9_holds_10 kB20 ?_
      rcases mx_then hf with ⟨v10, h11, e9, hf⟩ | ⟨E12, h11, e9, hf⟩
      · refine mG_cS (pc := 12) (k' := 3) (n' := 18) [.int p1, .int 1, .int 20] [] C hX dX9_holds_12 lkS_X9_86 rfl (tX9_requireRange hl e9) rfl rfl rfl rfl ?_
        refine mG_iload (pc := 15) C dX9_holds_15 rfl ?_
        refine mG_ic (pc := 17) C dX9_holds_17 kI0 ?_
        refine mG_bp (pc := 18) C dX9_holds_18 kB99 ?_
        rcases mx_then hf with ⟨v14, h15, e13, hf⟩ | ⟨E16, h15, e13, hf⟩
        · refine mG_cS (pc := 20) (k' := 4) (n' := 24) [.int p4, .int 0, .int 99] [] C hX dX9_holds_20 lkS_X9_86 rfl (tX9_requireRange hl e13) rfl rfl rfl rfl ?_
          refine mG_aload_n (pc := 23) C dX9_holds_23 rfl ?_
          obtain ⟨r17, e18, hf⟩ := mx_bind hf
          refine mG_getR (pc := 24) C dX9_holds_24 fl_X9_26 e18 ?_
          refine mG_aload_n (pc := 27) C dX9_holds_27 rfl ?_
          obtain ⟨r19, e20, hf⟩ := mx_bind hf
          refine mG_getR (pc := 28) C dX9_holds_28 fl_X9_12 e20 ?_
          obtain ⟨r21, e22, hf⟩ := mx_bind hf
          refine mG_getR (pc := 31) C dX9_holds_31 fl_X9_72 e22 ?_
          obtain ⟨u23, e24, hf⟩ := mx_bind hf
          obtain ⟨o26, e25, hf⟩ := mx_bind hf
          refine mG_cV (pc := 34) (k' := 4) (n' := 24) 6 [.ref r21] [] C hX dX9_holds_34 lkV_X9_201 rfl rfl e24 (tX6_copyFrom hl e25) rfl rfl rfl rfl ?_
          refine mG_aload_n (pc := 37) C dX9_holds_37 rfl ?_
          obtain ⟨r27, e28, hf⟩ := mx_bind hf
          refine mG_getR (pc := 38) C dX9_holds_38 fl_X9_26 e28 ?_
          refine mG_iload_n (pc := 41) C dX9_holds_41 rfl ?_
          refine mG_iload_n (pc := 42) C dX9_holds_42 rfl ?_
          refine mG_iload (pc := 43) C dX9_holds_43 rfl ?_
          obtain ⟨u29, e30, hf⟩ := mx_bind hf
          obtain ⟨o32, e31, hf⟩ := mx_bind hf
          refine mG_cV (pc := 45) (k' := 4) (n' := 24) 6 [.int p2, .int p3, .int p4] [] C hX dX9_holds_45 lkV_X9_75 rfl rfl e30 (tX6_setMark hl e31) rfl rfl rfl rfl ?_
          refine mG_aload_n (pc := 48) C dX9_holds_48 rfl ?_
          obtain ⟨r33, e34, hf⟩ := mx_bind hf
          refine mG_getR (pc := 49) C dX9_holds_49 fl_X9_33 e34 ?_
          refine mG_aload_n (pc := 52) C dX9_holds_52 rfl ?_
          obtain ⟨r35, e36, hf⟩ := mx_bind hf
          refine mG_getR (pc := 53) C dX9_holds_53 fl_X9_12 e36 ?_
          obtain ⟨r37, e38, hf⟩ := mx_bind hf
          refine mG_getR (pc := 56) C dX9_holds_56 fl_X9_72 e38 ?_
          obtain ⟨u39, e40, hf⟩ := mx_bind hf
          obtain ⟨o42, e41, hf⟩ := mx_bind hf
          refine mG_cV (pc := 59) (k' := 4) (n' := 24) 4 [.ref r37] [] C hX dX9_holds_59 lkV_X9_153 rfl rfl e40 (tX4_rankAll hl e41) rfl rfl rfl rfl ?_
          refine mG_aload_n (pc := 62) C dX9_holds_62 rfl ?_
          obtain ⟨r43, e44, hf⟩ := mx_bind hf
          refine mG_getR (pc := 63) C dX9_holds_63 fl_X9_37 e44 ?_
          refine mG_aload_n (pc := 66) C dX9_holds_66 rfl ?_
          obtain ⟨r45, e46, hf⟩ := mx_bind hf
          refine mG_getR (pc := 67) C dX9_holds_67 fl_X9_26 e46 ?_
          obtain ⟨u47, e48, hf⟩ := mx_bind hf
          obtain ⟨o50, e49, hf⟩ := mx_bind hf
          refine mG_cV (pc := 70) (k' := 4) (n' := 24) 4 [.ref r45] [] C hX dX9_holds_70 lkV_X9_153 rfl rfl e48 (tX4_rankAll hl e49) rfl rfl rfl rfl ?_
          refine mG_aload_n (pc := 73) C dX9_holds_73 rfl ?_
          obtain ⟨r51, e52, hf⟩ := mx_bind hf
          refine mG_getR (pc := 74) C dX9_holds_74 fl_X9_33 e52 ?_
          refine mG_iload_n (pc := 77) C dX9_holds_77 rfl ?_
          refine mG_aload_n (pc := 78) C dX9_holds_78 rfl ?_
          obtain ⟨r53, e54, hf⟩ := mx_bind hf
          refine mG_getR (pc := 79) C dX9_holds_79 fl_X9_37 e54 ?_
          obtain ⟨u55, e56, hf⟩ := mx_bind hf
          obtain ⟨v58, e57, hf⟩ := mx_bind hf
          refine mG_cV (pc := 82) (k' := 4) (n' := 24) 4 [.int p1, .ref r53] [] C hX dX9_holds_82 lkV_X9_204 rfl rfl e56 (tX4_hasSameFirst hl e57) rfl rfl rfl rfl ?_
          obtain ⟨v59, e60, hf⟩ := mx_bind hf
          cases hf
          exact mG_zr (pc := 85) C e60 E hX dX9_holds_85 rfl
        · cases hf
          exact mG_cSX (pc := 20) [.int p4, .int 0, .int 99] [] C E hX dX9_holds_20 lkS_X9_86 rfl (tX9_requireRange hl e13) rfl rfl
      · cases hf
        exact mG_cSX (pc := 12) [.int p1, .int 1, .int 20] [] C E hX dX9_holds_12 lkS_X9_86 rfl (tX9_requireRange hl e9) rfl rfl
    · cases hf
      exact mG_cSX (pc := 5) [.int p3] [] C E hX dX9_holds_5 lkS_X9_83 rfl (tX9_requireThing hl e5) rfl rfl
  · cases hf
    exact mG_cSX (pc := 1) [.int p2] [] C E hX dX9_holds_1 lkS_X9_79 rfl (tX9_requireRow hl e1) rfl rfl
theorem dX9_mergedCount_0 : decode cX9_mergedCount 0 = .ok (.aload_n 0, 1) := by decide +kernel
theorem dX9_mergedCount_1 : decode cX9_mergedCount 1 = .ok (.getfield 12, 3) := by decide +kernel
theorem dX9_mergedCount_4 : decode cX9_mergedCount 4 = .ok (.getfield 72, 3) := by decide +kernel
theorem dX9_mergedCount_7 : decode cX9_mergedCount 7 = .ok (.bipush 20, 2) := by decide +kernel
theorem dX9_mergedCount_9 : decode cX9_mergedCount 9 = .ok (.invokevirtual 174, 3) := by decide +kernel
theorem dX9_mergedCount_12 : decode cX9_mergedCount 12 = .ok (.ireturn, 1) := by decide +kernel
def fX9_mergedCount (p0 : Nat) (h : mxH) : Option Int32 := Option.bind (gR h p0 9 0) (fun r1 => Option.bind (gR h r1 7 0) (fun r3 => Option.bind (isO h r3 6) (fun u5 => Option.bind (fX6_itemsRead r3 20 h) (fun v8 => some v8))))
abbrev rmX9_mergedCount : Room := { frames := 2, cells := 0, slots := 0, locals := 47 }
set_option maxRecDepth 20000 in
theorem tX9_mergedCount {l : Launch} {Z : mxZ} (hl : l.stackTraces = false) {p0 : Nat} {h : mxH} {out : Int32} (hf : fX9_mergedCount p0 h = some out) : mxMet l Z yX9_mergedCount cX9_mergedCount 1 (some .int) rmX9_mergedCount [.ref p0] h (.inl (some (.int out))) h := by
  refine mxMet_of (by decide) hl (by simp [Value.category]) (Nat.le_of_ble_eq_true rfl) ?_
  intro X C E hX hin
  unfold fX9_mergedCount at hf
  refine mG_aload_n (pc := 0) C dX9_mergedCount_0 rfl ?_
  obtain ⟨r1, e2, hf⟩ := mx_bind hf
  refine mG_getR (pc := 1) C dX9_mergedCount_1 fl_X9_12 e2 ?_
  obtain ⟨r3, e4, hf⟩ := mx_bind hf
  refine mG_getR (pc := 4) C dX9_mergedCount_4 fl_X9_72 e4 ?_
  refine mG_bp (pc := 7) C dX9_mergedCount_7 kB20 ?_
  obtain ⟨u5, e6, hf⟩ := mx_bind hf
  obtain ⟨v8, e7, hf⟩ := mx_bind hf
  refine mG_cV (pc := 9) (k' := 0) (n' := 0) 6 [.int 20] [] C hX dX9_mergedCount_9 lkV_X9_174 rfl rfl e6 (tX6_itemsRead hl e7) rfl rfl rfl rfl ?_
  cases hf
  exact mG_ir (pc := 12) C E hX dX9_mergedCount_12 rfl
theorem dX9_mergedThing_0 : decode cX9_mergedThing 0 = .ok (.aload_n 0, 1) := by decide +kernel
theorem dX9_mergedThing_1 : decode cX9_mergedThing 1 = .ok (.getfield 50, 3) := by decide +kernel
theorem dX9_mergedThing_4 : decode cX9_mergedThing 4 = .ok (.aload_n 0, 1) := by decide +kernel
theorem dX9_mergedThing_5 : decode cX9_mergedThing 5 = .ok (.getfield 12, 3) := by decide +kernel
theorem dX9_mergedThing_8 : decode cX9_mergedThing 8 = .ok (.getfield 72, 3) := by decide +kernel
theorem dX9_mergedThing_11 : decode cX9_mergedThing 11 = .ok (.invokevirtual 208, 3) := by decide +kernel
theorem dX9_mergedThing_14 : decode cX9_mergedThing 14 = .ok (.iload_n 1, 1) := by decide +kernel
theorem dX9_mergedThing_15 : decode cX9_mergedThing 15 = .ok (.aload_n 0, 1) := by decide +kernel
theorem dX9_mergedThing_16 : decode cX9_mergedThing 16 = .ok (.getfield 50, 3) := by decide +kernel
theorem dX9_mergedThing_19 : decode cX9_mergedThing 19 = .ok (.getfield 211, 3) := by decide +kernel
theorem dX9_mergedThing_22 : decode cX9_mergedThing 22 = .ok (.invokestatic 138, 3) := by decide +kernel
theorem dX9_mergedThing_25 : decode cX9_mergedThing 25 = .ok (.aload_n 0, 1) := by decide +kernel
theorem dX9_mergedThing_26 : decode cX9_mergedThing 26 = .ok (.getfield 50, 3) := by decide +kernel
theorem dX9_mergedThing_29 : decode cX9_mergedThing 29 = .ok (.iload_n 1, 1) := by decide +kernel
theorem dX9_mergedThing_30 : decode cX9_mergedThing 30 = .ok (.invokevirtual 212, 3) := by decide +kernel
theorem dX9_mergedThing_33 : decode cX9_mergedThing 33 = .ok (.ireturn, 1) := by decide +kernel
def fX9_mergedThing (p0 : Nat) (p1 : Int32) (h : mxH) : Option ((Int32 ⊕ String) × mxH) := Option.bind (gR h p0 9 6) (fun r1 => Option.bind (gR h p0 9 0) (fun r3 => Option.bind (gR h r3 7 0) (fun r5 => Option.bind (isO h r1 1) (fun u7 => Option.bind (fX1_mergeAll r1 r5 h) (fun o10 => Option.bind (gR o10 p0 9 6) (fun r11 => Option.bind (gI o10 r11 1 2) (fun v13 => mxThen (fX9_requirePlace p1 v13 o10) (fun v16 h17 => Option.bind (gR h17 p0 9 6) (fun r19 => Option.bind (isO h17 r19 1) (fun u21 => Option.bind (fX1_thingOn r19 p1 h17) (fun v24 => some (Sum.inl v24, h17))))))))))))
abbrev rmX9_mergedThing : Room := { frames := 7, cells := 1, slots := 6, locals := 122 }
set_option maxRecDepth 20000 in
theorem tX9_mergedThing {l : Launch} {Z : mxZ} (hl : l.stackTraces = false) {p0 : Nat} {p1 : Int32} {h : mxH} {out : ((Int32 ⊕ String) × mxH)} (hf : fX9_mergedThing p0 p1 h = some out) : mxMet l Z yX9_mergedThing cX9_mergedThing 2 (some .int) rmX9_mergedThing [.ref p0, .int p1] h (mxRI out.1) out.2 := by
  refine mxMet_of (by decide) hl (by simp [Value.category]) (Nat.le_of_ble_eq_true rfl) ?_
  intro X C E hX hin
  unfold fX9_mergedThing at hf
  refine mG_aload_n (pc := 0) C dX9_mergedThing_0 rfl ?_
  obtain ⟨r1, e2, hf⟩ := mx_bind hf
  refine mG_getR (pc := 1) C dX9_mergedThing_1 fl_X9_50 e2 ?_
  refine mG_aload_n (pc := 4) C dX9_mergedThing_4 rfl ?_
  obtain ⟨r3, e4, hf⟩ := mx_bind hf
  refine mG_getR (pc := 5) C dX9_mergedThing_5 fl_X9_12 e4 ?_
  obtain ⟨r5, e6, hf⟩ := mx_bind hf
  refine mG_getR (pc := 8) C dX9_mergedThing_8 fl_X9_72 e6 ?_
  obtain ⟨u7, e8, hf⟩ := mx_bind hf
  obtain ⟨o10, e9, hf⟩ := mx_bind hf
  refine mG_cV (pc := 11) (k' := 0) (n' := 0) 1 [.ref r5] [] C hX dX9_mergedThing_11 lkV_X9_208 rfl rfl e8 (tX1_mergeAll hl e9) rfl rfl rfl rfl ?_
  refine mG_iload_n (pc := 14) C dX9_mergedThing_14 rfl ?_
  refine mG_aload_n (pc := 15) C dX9_mergedThing_15 rfl ?_
  obtain ⟨r11, e12, hf⟩ := mx_bind hf
  refine mG_getR (pc := 16) C dX9_mergedThing_16 fl_X9_50 e12 ?_
  obtain ⟨v13, e14, hf⟩ := mx_bind hf
  refine mG_getI (pc := 19) C dX9_mergedThing_19 fl_X9_211 e14 ?_
  rcases mx_then hf with ⟨v16, h17, e15, hf⟩ | ⟨E18, h17, e15, hf⟩
  · refine mG_cS (pc := 22) (k' := 1) (n' := 6) [.int p1, .int v13] [] C hX dX9_mergedThing_22 lkS_X9_138 rfl (tX9_requirePlace hl e15) rfl rfl rfl rfl ?_
    refine mG_aload_n (pc := 25) C dX9_mergedThing_25 rfl ?_
    obtain ⟨r19, e20, hf⟩ := mx_bind hf
    refine mG_getR (pc := 26) C dX9_mergedThing_26 fl_X9_50 e20 ?_
    refine mG_iload_n (pc := 29) C dX9_mergedThing_29 rfl ?_
    obtain ⟨u21, e22, hf⟩ := mx_bind hf
    obtain ⟨v24, e23, hf⟩ := mx_bind hf
    refine mG_cV (pc := 30) (k' := 1) (n' := 6) 1 [.int p1] [] C hX dX9_mergedThing_30 lkV_X9_212 rfl rfl e22 (tX1_thingOn hl e23) rfl rfl rfl rfl ?_
    cases hf
    exact mG_ir (pc := 33) C E hX dX9_mergedThing_33 rfl
  · cases hf
    exact mG_cSX (pc := 22) [.int p1, .int v13] [] C E hX dX9_mergedThing_22 lkS_X9_138 rfl (tX9_requirePlace hl e15) rfl rfl
theorem dX9_mergedRow_0 : decode cX9_mergedRow 0 = .ok (.aload_n 0, 1) := by decide +kernel
theorem dX9_mergedRow_1 : decode cX9_mergedRow 1 = .ok (.getfield 50, 3) := by decide +kernel
theorem dX9_mergedRow_4 : decode cX9_mergedRow 4 = .ok (.aload_n 0, 1) := by decide +kernel
theorem dX9_mergedRow_5 : decode cX9_mergedRow 5 = .ok (.getfield 12, 3) := by decide +kernel
theorem dX9_mergedRow_8 : decode cX9_mergedRow 8 = .ok (.getfield 72, 3) := by decide +kernel
theorem dX9_mergedRow_11 : decode cX9_mergedRow 11 = .ok (.invokevirtual 208, 3) := by decide +kernel
theorem dX9_mergedRow_14 : decode cX9_mergedRow 14 = .ok (.iload_n 1, 1) := by decide +kernel
theorem dX9_mergedRow_15 : decode cX9_mergedRow 15 = .ok (.aload_n 0, 1) := by decide +kernel
theorem dX9_mergedRow_16 : decode cX9_mergedRow 16 = .ok (.getfield 50, 3) := by decide +kernel
theorem dX9_mergedRow_19 : decode cX9_mergedRow 19 = .ok (.getfield 211, 3) := by decide +kernel
theorem dX9_mergedRow_22 : decode cX9_mergedRow 22 = .ok (.invokestatic 138, 3) := by decide +kernel
theorem dX9_mergedRow_25 : decode cX9_mergedRow 25 = .ok (.aload_n 0, 1) := by decide +kernel
theorem dX9_mergedRow_26 : decode cX9_mergedRow 26 = .ok (.getfield 50, 3) := by decide +kernel
theorem dX9_mergedRow_29 : decode cX9_mergedRow 29 = .ok (.iload_n 1, 1) := by decide +kernel
theorem dX9_mergedRow_30 : decode cX9_mergedRow 30 = .ok (.invokevirtual 213, 3) := by decide +kernel
theorem dX9_mergedRow_33 : decode cX9_mergedRow 33 = .ok (.ireturn, 1) := by decide +kernel
def fX9_mergedRow (p0 : Nat) (p1 : Int32) (h : mxH) : Option ((Int32 ⊕ String) × mxH) := Option.bind (gR h p0 9 6) (fun r1 => Option.bind (gR h p0 9 0) (fun r3 => Option.bind (gR h r3 7 0) (fun r5 => Option.bind (isO h r1 1) (fun u7 => Option.bind (fX1_mergeAll r1 r5 h) (fun o10 => Option.bind (gR o10 p0 9 6) (fun r11 => Option.bind (gI o10 r11 1 2) (fun v13 => mxThen (fX9_requirePlace p1 v13 o10) (fun v16 h17 => Option.bind (gR h17 p0 9 6) (fun r19 => Option.bind (isO h17 r19 1) (fun u21 => Option.bind (fX1_rowOn r19 p1 h17) (fun v24 => some (Sum.inl v24, h17))))))))))))
abbrev rmX9_mergedRow : Room := { frames := 7, cells := 1, slots := 6, locals := 122 }
set_option maxRecDepth 20000 in
theorem tX9_mergedRow {l : Launch} {Z : mxZ} (hl : l.stackTraces = false) {p0 : Nat} {p1 : Int32} {h : mxH} {out : ((Int32 ⊕ String) × mxH)} (hf : fX9_mergedRow p0 p1 h = some out) : mxMet l Z yX9_mergedRow cX9_mergedRow 2 (some .int) rmX9_mergedRow [.ref p0, .int p1] h (mxRI out.1) out.2 := by
  refine mxMet_of (by decide) hl (by simp [Value.category]) (Nat.le_of_ble_eq_true rfl) ?_
  intro X C E hX hin
  unfold fX9_mergedRow at hf
  refine mG_aload_n (pc := 0) C dX9_mergedRow_0 rfl ?_
  obtain ⟨r1, e2, hf⟩ := mx_bind hf
  refine mG_getR (pc := 1) C dX9_mergedRow_1 fl_X9_50 e2 ?_
  refine mG_aload_n (pc := 4) C dX9_mergedRow_4 rfl ?_
  obtain ⟨r3, e4, hf⟩ := mx_bind hf
  refine mG_getR (pc := 5) C dX9_mergedRow_5 fl_X9_12 e4 ?_
  obtain ⟨r5, e6, hf⟩ := mx_bind hf
  refine mG_getR (pc := 8) C dX9_mergedRow_8 fl_X9_72 e6 ?_
  obtain ⟨u7, e8, hf⟩ := mx_bind hf
  obtain ⟨o10, e9, hf⟩ := mx_bind hf
  refine mG_cV (pc := 11) (k' := 0) (n' := 0) 1 [.ref r5] [] C hX dX9_mergedRow_11 lkV_X9_208 rfl rfl e8 (tX1_mergeAll hl e9) rfl rfl rfl rfl ?_
  refine mG_iload_n (pc := 14) C dX9_mergedRow_14 rfl ?_
  refine mG_aload_n (pc := 15) C dX9_mergedRow_15 rfl ?_
  obtain ⟨r11, e12, hf⟩ := mx_bind hf
  refine mG_getR (pc := 16) C dX9_mergedRow_16 fl_X9_50 e12 ?_
  obtain ⟨v13, e14, hf⟩ := mx_bind hf
  refine mG_getI (pc := 19) C dX9_mergedRow_19 fl_X9_211 e14 ?_
  rcases mx_then hf with ⟨v16, h17, e15, hf⟩ | ⟨E18, h17, e15, hf⟩
  · refine mG_cS (pc := 22) (k' := 1) (n' := 6) [.int p1, .int v13] [] C hX dX9_mergedRow_22 lkS_X9_138 rfl (tX9_requirePlace hl e15) rfl rfl rfl rfl ?_
    refine mG_aload_n (pc := 25) C dX9_mergedRow_25 rfl ?_
    obtain ⟨r19, e20, hf⟩ := mx_bind hf
    refine mG_getR (pc := 26) C dX9_mergedRow_26 fl_X9_50 e20 ?_
    refine mG_iload_n (pc := 29) C dX9_mergedRow_29 rfl ?_
    obtain ⟨u21, e22, hf⟩ := mx_bind hf
    obtain ⟨v24, e23, hf⟩ := mx_bind hf
    refine mG_cV (pc := 30) (k' := 1) (n' := 6) 1 [.int p1] [] C hX dX9_mergedRow_30 lkV_X9_213 rfl rfl e22 (tX1_rowOn hl e23) rfl rfl rfl rfl ?_
    cases hf
    exact mG_ir (pc := 33) C E hX dX9_mergedRow_33 rfl
  · cases hf
    exact mG_cSX (pc := 22) [.int p1, .int v13] [] C E hX dX9_mergedRow_22 lkS_X9_138 rfl (tX9_requirePlace hl e15) rfl rfl
theorem dX9_comparisons_0 : decode cX9_comparisons 0 = .ok (.iload_n 1, 1) := by decide +kernel
theorem dX9_comparisons_1 : decode cX9_comparisons 1 = .ok (.invokestatic 79, 3) := by decide +kernel
theorem dX9_comparisons_4 : decode cX9_comparisons 4 = .ok (.iload_n 2, 1) := by decide +kernel
theorem dX9_comparisons_5 : decode cX9_comparisons 5 = .ok (.invokestatic 79, 3) := by decide +kernel
theorem dX9_comparisons_8 : decode cX9_comparisons 8 = .ok (.iload_n 1, 1) := by decide +kernel
theorem dX9_comparisons_9 : decode cX9_comparisons 9 = .ok (.iload_n 2, 1) := by decide +kernel
theorem dX9_comparisons_10 : decode cX9_comparisons 10 = .ok (.if_icmp .ne 13, 3) := by decide +kernel
theorem dX9_comparisons_13 : decode cX9_comparisons 13 = .ok (.new 216, 3) := by decide +kernel
theorem dX9_comparisons_16 : decode cX9_comparisons 16 = .ok (.dup, 1) := by decide +kernel
theorem dX9_comparisons_17 : decode cX9_comparisons 17 = .ok (.ldc 218, 2) := by decide +kernel
theorem dX9_comparisons_19 : decode cX9_comparisons 19 = .ok (.invokespecial 220, 3) := by decide +kernel
theorem dX9_comparisons_22 : decode cX9_comparisons 22 = .ok (.athrow, 1) := by decide +kernel
theorem dX9_comparisons_23 : decode cX9_comparisons 23 = .ok (.aload_n 0, 1) := by decide +kernel
theorem dX9_comparisons_24 : decode cX9_comparisons 24 = .ok (.getfield 50, 3) := by decide +kernel
theorem dX9_comparisons_27 : decode cX9_comparisons 27 = .ok (.aload_n 0, 1) := by decide +kernel
theorem dX9_comparisons_28 : decode cX9_comparisons 28 = .ok (.getfield 12, 3) := by decide +kernel
theorem dX9_comparisons_31 : decode cX9_comparisons 31 = .ok (.getfield 72, 3) := by decide +kernel
theorem dX9_comparisons_34 : decode cX9_comparisons 34 = .ok (.invokevirtual 208, 3) := by decide +kernel
theorem dX9_comparisons_37 : decode cX9_comparisons 37 = .ok (.aload_n 0, 1) := by decide +kernel
theorem dX9_comparisons_38 : decode cX9_comparisons 38 = .ok (.getfield 50, 3) := by decide +kernel
theorem dX9_comparisons_41 : decode cX9_comparisons 41 = .ok (.iconst 1, 1) := by decide +kernel
theorem dX9_comparisons_42 : decode cX9_comparisons 42 = .ok (.iload_n 1, 1) := by decide +kernel
theorem dX9_comparisons_43 : decode cX9_comparisons 43 = .ok (.ishl, 1) := by decide +kernel
theorem dX9_comparisons_44 : decode cX9_comparisons 44 = .ok (.iconst 1, 1) := by decide +kernel
theorem dX9_comparisons_45 : decode cX9_comparisons 45 = .ok (.iload_n 2, 1) := by decide +kernel
theorem dX9_comparisons_46 : decode cX9_comparisons 46 = .ok (.ishl, 1) := by decide +kernel
theorem dX9_comparisons_47 : decode cX9_comparisons 47 = .ok (.invokevirtual 223, 3) := by decide +kernel
theorem dX9_comparisons_50 : decode cX9_comparisons 50 = .ok (.ireturn, 1) := by decide +kernel
def fX9_comparisons (p0 : Nat) (p1 : Int32) (p2 : Int32) (h : mxH) : Option ((Int32 ⊕ String) × mxH) := mxThen (fX9_requireRow p1 h) (fun v2 h3 => mxThen (fX9_requireRow p2 h3) (fun v6 h7 => (if p1 = p2 then some (Sum.inr "java/lang/IllegalArgumentException", mxThr h7) else Option.bind (gR h7 p0 9 6) (fun r10 => Option.bind (gR h7 p0 9 0) (fun r12 => Option.bind (gR h7 r12 7 0) (fun r14 => Option.bind (isO h7 r10 1) (fun u16 => Option.bind (fX1_mergeAll r10 r14 h7) (fun o19 => Option.bind (gR o19 p0 9 6) (fun r20 => Option.bind (isO o19 r20 1) (fun u22 => Option.bind (fX1_countComparisons r20 (1 <<< (p1 &&& 31)) (1 <<< (p2 &&& 31)) o19) (fun v25 => some (Sum.inl v25, o19))))))))))))
abbrev rmX9_comparisons : Room := { frames := 7, cells := 3, slots := 18, locals := 121 }
set_option maxRecDepth 20000 in
theorem tX9_comparisons {l : Launch} {Z : mxZ} (hl : l.stackTraces = false) {p0 : Nat} {p1 : Int32} {p2 : Int32} {h : mxH} {out : ((Int32 ⊕ String) × mxH)} (hf : fX9_comparisons p0 p1 p2 h = some out) : mxMet l Z yX9_comparisons cX9_comparisons 3 (some .int) rmX9_comparisons [.ref p0, .int p1, .int p2] h (mxRI out.1) out.2 := by
  refine mxMet_of (by decide) hl (by simp [Value.category]) (Nat.le_of_ble_eq_true rfl) ?_
  intro X C E hX hin
  unfold fX9_comparisons at hf
  refine mG_iload_n (pc := 0) C dX9_comparisons_0 rfl ?_
  rcases mx_then hf with ⟨v2, h3, e1, hf⟩ | ⟨E4, h3, e1, hf⟩
  · refine mG_cS (pc := 1) (k' := 1) (n' := 6) [.int p1] [] C hX dX9_comparisons_1 lkS_X9_79 rfl (tX9_requireRow hl e1) rfl rfl rfl rfl ?_
    refine mG_iload_n (pc := 4) C dX9_comparisons_4 rfl ?_
    rcases mx_then hf with ⟨v6, h7, e5, hf⟩ | ⟨E8, h7, e5, hf⟩
    · refine mG_cS (pc := 5) (k' := 2) (n' := 12) [.int p2] [] C hX dX9_comparisons_5 lkS_X9_79 rfl (tX9_requireRow hl e5) rfl rfl rfl rfl ?_
      refine mG_iload_n (pc := 8) C dX9_comparisons_8 rfl ?_
      refine mG_iload_n (pc := 9) C dX9_comparisons_9 rfl ?_
      refine mG_icmp_ne (pc := 10) (tgt := 23) C dX9_comparisons_10 (by decide) (fun q9 => ?_) (fun q9 => ?_)
      · rw [if_neg q9] at hf
        refine mG_aload_n (pc := 23) C dX9_comparisons_23 rfl ?_
        obtain ⟨r10, e11, hf⟩ := mx_bind hf
        refine mG_getR (pc := 24) C dX9_comparisons_24 fl_X9_50 e11 ?_
        refine mG_aload_n (pc := 27) C dX9_comparisons_27 rfl ?_
        obtain ⟨r12, e13, hf⟩ := mx_bind hf
        refine mG_getR (pc := 28) C dX9_comparisons_28 fl_X9_12 e13 ?_
        obtain ⟨r14, e15, hf⟩ := mx_bind hf
        refine mG_getR (pc := 31) C dX9_comparisons_31 fl_X9_72 e15 ?_
        obtain ⟨u16, e17, hf⟩ := mx_bind hf
        obtain ⟨o19, e18, hf⟩ := mx_bind hf
        refine mG_cV (pc := 34) (k' := 2) (n' := 12) 1 [.ref r14] [] C hX dX9_comparisons_34 lkV_X9_208 rfl rfl e17 (tX1_mergeAll hl e18) rfl rfl rfl rfl ?_
        refine mG_aload_n (pc := 37) C dX9_comparisons_37 rfl ?_
        obtain ⟨r20, e21, hf⟩ := mx_bind hf
        refine mG_getR (pc := 38) C dX9_comparisons_38 fl_X9_50 e21 ?_
        refine mG_ic (pc := 41) C dX9_comparisons_41 kI1 ?_
        refine mG_iload_n (pc := 42) C dX9_comparisons_42 rfl ?_
        refine mG_ishl (pc := 43) C dX9_comparisons_43 ?_
        refine mG_ic (pc := 44) C dX9_comparisons_44 kI1 ?_
        refine mG_iload_n (pc := 45) C dX9_comparisons_45 rfl ?_
        refine mG_ishl (pc := 46) C dX9_comparisons_46 ?_
        obtain ⟨u22, e23, hf⟩ := mx_bind hf
        obtain ⟨v25, e24, hf⟩ := mx_bind hf
        refine mG_cV (pc := 47) (k' := 2) (n' := 12) 1 [.int (1 <<< (p1 &&& 31)), .int (1 <<< (p2 &&& 31))] [] C hX dX9_comparisons_47 lkV_X9_223 rfl rfl e23 (tX1_countComparisons hl e24) rfl rfl rfl rfl ?_
        cases hf
        exact mG_ir (pc := 50) C E hX dX9_comparisons_50 rfl
      · rw [if_pos q9] at hf
        cases hf
        exact mG_thn (pc := 13) C E hX thw_216_220 tx218 dX9_comparisons_13 dX9_comparisons_16 dX9_comparisons_17 dX9_comparisons_19 dX9_comparisons_22 rfl rfl
    · cases hf
      exact mG_cSX (pc := 5) [.int p2] [] C E hX dX9_comparisons_5 lkS_X9_79 rfl (tX9_requireRow hl e5) rfl rfl
  · cases hf
    exact mG_cSX (pc := 1) [.int p1] [] C E hX dX9_comparisons_1 lkS_X9_79 rfl (tX9_requireRow hl e1) rfl rfl
theorem dX9_allComparisons_0 : decode cX9_allComparisons 0 = .ok (.aload_n 0, 1) := by decide +kernel
theorem dX9_allComparisons_1 : decode cX9_allComparisons 1 = .ok (.getfield 50, 3) := by decide +kernel
theorem dX9_allComparisons_4 : decode cX9_allComparisons 4 = .ok (.aload_n 0, 1) := by decide +kernel
theorem dX9_allComparisons_5 : decode cX9_allComparisons 5 = .ok (.getfield 12, 3) := by decide +kernel
theorem dX9_allComparisons_8 : decode cX9_allComparisons 8 = .ok (.getfield 72, 3) := by decide +kernel
theorem dX9_allComparisons_11 : decode cX9_allComparisons 11 = .ok (.invokevirtual 208, 3) := by decide +kernel
theorem dX9_allComparisons_14 : decode cX9_allComparisons 14 = .ok (.aload_n 0, 1) := by decide +kernel
theorem dX9_allComparisons_15 : decode cX9_allComparisons 15 = .ok (.getfield 50, 3) := by decide +kernel
theorem dX9_allComparisons_18 : decode cX9_allComparisons 18 = .ok (.invokevirtual 226, 3) := by decide +kernel
theorem dX9_allComparisons_21 : decode cX9_allComparisons 21 = .ok (.ireturn, 1) := by decide +kernel
def fX9_allComparisons (p0 : Nat) (h : mxH) : Option (Int32 × mxH) := Option.bind (gR h p0 9 6) (fun r1 => Option.bind (gR h p0 9 0) (fun r3 => Option.bind (gR h r3 7 0) (fun r5 => Option.bind (isO h r1 1) (fun u7 => Option.bind (fX1_mergeAll r1 r5 h) (fun o10 => Option.bind (gR o10 p0 9 6) (fun r11 => Option.bind (isO o10 r11 1) (fun u13 => Option.bind (fX1_countAllComparisons r11 o10) (fun v16 => some (v16, o10)))))))))
abbrev rmX9_allComparisons : Room := { frames := 5, cells := 0, slots := 0, locals := 113 }
set_option maxRecDepth 20000 in
theorem tX9_allComparisons {l : Launch} {Z : mxZ} (hl : l.stackTraces = false) {p0 : Nat} {h : mxH} {out : (Int32 × mxH)} (hf : fX9_allComparisons p0 h = some out) : mxMet l Z yX9_allComparisons cX9_allComparisons 1 (some .int) rmX9_allComparisons [.ref p0] h (.inl (some (.int out.1))) out.2 := by
  refine mxMet_of (by decide) hl (by simp [Value.category]) (Nat.le_of_ble_eq_true rfl) ?_
  intro X C E hX hin
  unfold fX9_allComparisons at hf
  refine mG_aload_n (pc := 0) C dX9_allComparisons_0 rfl ?_
  obtain ⟨r1, e2, hf⟩ := mx_bind hf
  refine mG_getR (pc := 1) C dX9_allComparisons_1 fl_X9_50 e2 ?_
  refine mG_aload_n (pc := 4) C dX9_allComparisons_4 rfl ?_
  obtain ⟨r3, e4, hf⟩ := mx_bind hf
  refine mG_getR (pc := 5) C dX9_allComparisons_5 fl_X9_12 e4 ?_
  obtain ⟨r5, e6, hf⟩ := mx_bind hf
  refine mG_getR (pc := 8) C dX9_allComparisons_8 fl_X9_72 e6 ?_
  obtain ⟨u7, e8, hf⟩ := mx_bind hf
  obtain ⟨o10, e9, hf⟩ := mx_bind hf
  refine mG_cV (pc := 11) (k' := 0) (n' := 0) 1 [.ref r5] [] C hX dX9_allComparisons_11 lkV_X9_208 rfl rfl e8 (tX1_mergeAll hl e9) rfl rfl rfl rfl ?_
  refine mG_aload_n (pc := 14) C dX9_allComparisons_14 rfl ?_
  obtain ⟨r11, e12, hf⟩ := mx_bind hf
  refine mG_getR (pc := 15) C dX9_allComparisons_15 fl_X9_50 e12 ?_
  obtain ⟨u13, e14, hf⟩ := mx_bind hf
  obtain ⟨v16, e15, hf⟩ := mx_bind hf
  refine mG_cV (pc := 18) (k' := 0) (n' := 0) 1 [] [] C hX dX9_allComparisons_18 lkV_X9_226 rfl rfl e14 (tX1_countAllComparisons hl e15) rfl rfl rfl rfl ?_
  cases hf
  exact mG_ir (pc := 21) C E hX dX9_allComparisons_21 rfl
theorem dX9_quantile_0 : decode cX9_quantile 0 = .ok (.iload_n 1, 1) := by decide +kernel
theorem dX9_quantile_1 : decode cX9_quantile 1 = .ok (.iconst 0, 1) := by decide +kernel
theorem dX9_quantile_2 : decode cX9_quantile 2 = .ok (.sipush 1000, 3) := by decide +kernel
theorem dX9_quantile_5 : decode cX9_quantile 5 = .ok (.invokestatic 86, 3) := by decide +kernel
theorem dX9_quantile_8 : decode cX9_quantile 8 = .ok (.aload_n 0, 1) := by decide +kernel
theorem dX9_quantile_9 : decode cX9_quantile 9 = .ok (.getfield 50, 3) := by decide +kernel
theorem dX9_quantile_12 : decode cX9_quantile 12 = .ok (.aload_n 0, 1) := by decide +kernel
theorem dX9_quantile_13 : decode cX9_quantile 13 = .ok (.getfield 12, 3) := by decide +kernel
theorem dX9_quantile_16 : decode cX9_quantile 16 = .ok (.getfield 72, 3) := by decide +kernel
theorem dX9_quantile_19 : decode cX9_quantile 19 = .ok (.invokevirtual 208, 3) := by decide +kernel
theorem dX9_quantile_22 : decode cX9_quantile 22 = .ok (.aload_n 0, 1) := by decide +kernel
theorem dX9_quantile_23 : decode cX9_quantile 23 = .ok (.getfield 50, 3) := by decide +kernel
theorem dX9_quantile_26 : decode cX9_quantile 26 = .ok (.getfield 211, 3) := by decide +kernel
theorem dX9_quantile_29 : decode cX9_quantile 29 = .ok (.ifCond .le 7, 3) := by decide +kernel
theorem dX9_quantile_32 : decode cX9_quantile 32 = .ok (.iconst 1, 1) := by decide +kernel
theorem dX9_quantile_33 : decode cX9_quantile 33 = .ok (.goto 4, 3) := by decide +kernel
theorem dX9_quantile_36 : decode cX9_quantile 36 = .ok (.iconst 0, 1) := by decide +kernel
theorem dX9_quantile_37 : decode cX9_quantile 37 = .ok (.invokestatic 97, 3) := by decide +kernel
theorem dX9_quantile_40 : decode cX9_quantile 40 = .ok (.aload_n 0, 1) := by decide +kernel
theorem dX9_quantile_41 : decode cX9_quantile 41 = .ok (.getfield 50, 3) := by decide +kernel
theorem dX9_quantile_44 : decode cX9_quantile 44 = .ok (.getfield 211, 3) := by decide +kernel
theorem dX9_quantile_47 : decode cX9_quantile 47 = .ok (.iconst 1, 1) := by decide +kernel
theorem dX9_quantile_48 : decode cX9_quantile 48 = .ok (.isub, 1) := by decide +kernel
theorem dX9_quantile_49 : decode cX9_quantile 49 = .ok (.iload_n 1, 1) := by decide +kernel
theorem dX9_quantile_50 : decode cX9_quantile 50 = .ok (.imul, 1) := by decide +kernel
theorem dX9_quantile_51 : decode cX9_quantile 51 = .ok (.sipush 1000, 3) := by decide +kernel
theorem dX9_quantile_54 : decode cX9_quantile 54 = .ok (.idiv, 1) := by decide +kernel
theorem dX9_quantile_55 : decode cX9_quantile 55 = .ok (.istore_n 2, 1) := by decide +kernel
theorem dX9_quantile_56 : decode cX9_quantile 56 = .ok (.aload_n 0, 1) := by decide +kernel
theorem dX9_quantile_57 : decode cX9_quantile 57 = .ok (.getfield 12, 3) := by decide +kernel
theorem dX9_quantile_60 : decode cX9_quantile 60 = .ok (.getfield 72, 3) := by decide +kernel
theorem dX9_quantile_63 : decode cX9_quantile 63 = .ok (.aload_n 0, 1) := by decide +kernel
theorem dX9_quantile_64 : decode cX9_quantile 64 = .ok (.getfield 50, 3) := by decide +kernel
theorem dX9_quantile_67 : decode cX9_quantile 67 = .ok (.iload_n 2, 1) := by decide +kernel
theorem dX9_quantile_68 : decode cX9_quantile 68 = .ok (.invokevirtual 213, 3) := by decide +kernel
theorem dX9_quantile_71 : decode cX9_quantile 71 = .ok (.aload_n 0, 1) := by decide +kernel
theorem dX9_quantile_72 : decode cX9_quantile 72 = .ok (.getfield 50, 3) := by decide +kernel
theorem dX9_quantile_75 : decode cX9_quantile 75 = .ok (.iload_n 2, 1) := by decide +kernel
theorem dX9_quantile_76 : decode cX9_quantile 76 = .ok (.invokevirtual 212, 3) := by decide +kernel
theorem dX9_quantile_79 : decode cX9_quantile 79 = .ok (.invokevirtual 93, 3) := by decide +kernel
theorem dX9_quantile_82 : decode cX9_quantile 82 = .ok (.ireturn, 1) := by decide +kernel
def fX9_quantile (p0 : Nat) (p1 : Int32) (h : mxH) : Option ((Int32 ⊕ String) × mxH) := mxThen (fX9_requireRange p1 0 1000 h) (fun v2 h3 => Option.bind (gR h3 p0 9 6) (fun r5 => Option.bind (gR h3 p0 9 0) (fun r7 => Option.bind (gR h3 r7 7 0) (fun r9 => Option.bind (isO h3 r5 1) (fun u11 => Option.bind (fX1_mergeAll r5 r9 h3) (fun o14 => Option.bind (gR o14 p0 9 6) (fun r15 => Option.bind (gI o14 r15 1 2) (fun v17 => Option.bind (α := Int32) (if v17 ≤ 0 then some 0 else some 1) (fun p21' : Int32 => mxThen (fX9_requireFound p21' o14) (fun v24 h25 => Option.bind (gR h25 p0 9 6) (fun r27 => Option.bind (gI h25 r27 1 2) (fun v29 => Option.bind (gR h25 p0 9 0) (fun r31 => Option.bind (gR h25 r31 7 0) (fun r33 => Option.bind (gR h25 p0 9 6) (fun r35 => Option.bind (isO h25 r35 1) (fun u37 => Option.bind (fX1_rowOn r35 (((v29 - 1) * p1) / 1000) h25) (fun v40 => Option.bind (gR h25 p0 9 6) (fun r41 => Option.bind (isO h25 r41 1) (fun u43 => Option.bind (fX1_thingOn r41 (((v29 - 1) * p1) / 1000) h25) (fun v46 => Option.bind (isO h25 r33 6) (fun u47 => Option.bind (fX6_markOf r33 v40 v46 h25) (fun v50 => some (Sum.inl v50, h25)))))))))))))))))))))))
abbrev rmX9_quantile : Room := { frames := 7, cells := 2, slots := 12, locals := 123 }
set_option maxRecDepth 20000 in
theorem tX9_quantile {l : Launch} {Z : mxZ} (hl : l.stackTraces = false) {p0 : Nat} {p1 : Int32} {h : mxH} {out : ((Int32 ⊕ String) × mxH)} (hf : fX9_quantile p0 p1 h = some out) : mxMet l Z yX9_quantile cX9_quantile 3 (some .int) rmX9_quantile [.ref p0, .int p1] h (mxRI out.1) out.2 := by
  refine mxMet_of (by decide) hl (by simp [Value.category]) (Nat.le_of_ble_eq_true rfl) ?_
  intro X C E hX hin
  unfold fX9_quantile at hf
  refine mG_iload_n (pc := 0) C dX9_quantile_0 rfl ?_
  refine mG_ic (pc := 1) C dX9_quantile_1 kI0 ?_
  refine mG_sp (pc := 2) C dX9_quantile_2 kS1000 ?_
  rcases mx_then hf with ⟨v2, h3, e1, hf⟩ | ⟨E4, h3, e1, hf⟩
  · refine mG_cS (pc := 5) (k' := 1) (n' := 6) [.int p1, .int 0, .int 1000] [] C hX dX9_quantile_5 lkS_X9_86 rfl (tX9_requireRange hl e1) rfl rfl rfl rfl ?_
    refine mG_aload_n (pc := 8) C dX9_quantile_8 rfl ?_
    obtain ⟨r5, e6, hf⟩ := mx_bind hf
    refine mG_getR (pc := 9) C dX9_quantile_9 fl_X9_50 e6 ?_
    refine mG_aload_n (pc := 12) C dX9_quantile_12 rfl ?_
    obtain ⟨r7, e8, hf⟩ := mx_bind hf
    refine mG_getR (pc := 13) C dX9_quantile_13 fl_X9_12 e8 ?_
    obtain ⟨r9, e10, hf⟩ := mx_bind hf
    refine mG_getR (pc := 16) C dX9_quantile_16 fl_X9_72 e10 ?_
    obtain ⟨u11, e12, hf⟩ := mx_bind hf
    obtain ⟨o14, e13, hf⟩ := mx_bind hf
    refine mG_cV (pc := 19) (k' := 1) (n' := 6) 1 [.ref r9] [] C hX dX9_quantile_19 lkV_X9_208 rfl rfl e12 (tX1_mergeAll hl e13) rfl rfl rfl rfl ?_
    refine mG_aload_n (pc := 22) C dX9_quantile_22 rfl ?_
    obtain ⟨r15, e16, hf⟩ := mx_bind hf
    refine mG_getR (pc := 23) C dX9_quantile_23 fl_X9_50 e16 ?_
    obtain ⟨v17, e18, hf⟩ := mx_bind hf
    refine mG_getI (pc := 26) C dX9_quantile_26 fl_X9_211 e18 ?_
    obtain ⟨p21, e22, hf⟩ := mx_bind hf
    have J20 : ∀ p21' : Int32, p21' = p21 → mG l Z X 3 1 6 37 [some (.ref p0), some (.int p1), none] [.int p21'] o14 := by
      intro p21' q51
      subst q51
      rcases mx_then hf with ⟨v24, h25, e23, hf⟩ | ⟨E26, h25, e23, hf⟩
      · refine mG_cS (pc := 37) (k' := 2) (n' := 12) [.int p21'] [] C hX dX9_quantile_37 lkS_X9_97 rfl (tX9_requireFound hl e23) rfl rfl rfl rfl ?_
        refine mG_aload_n (pc := 40) C dX9_quantile_40 rfl ?_
        obtain ⟨r27, e28, hf⟩ := mx_bind hf
        refine mG_getR (pc := 41) C dX9_quantile_41 fl_X9_50 e28 ?_
        obtain ⟨v29, e30, hf⟩ := mx_bind hf
        refine mG_getI (pc := 44) C dX9_quantile_44 fl_X9_211 e30 ?_
        refine mG_ic (pc := 47) C dX9_quantile_47 kI1 ?_
        refine mG_isub (pc := 48) C dX9_quantile_48 ?_
        refine mG_iload_n (pc := 49) C dX9_quantile_49 rfl ?_
        refine mG_imul (pc := 50) C dX9_quantile_50 ?_
        refine mG_sp (pc := 51) C dX9_quantile_51 kS1000 ?_
        refine mG_idiv (pc := 54) C dX9_quantile_54 (by decide) ?_
        refine mG_isn (ls' := [some (.ref p0), some (.int p1), some (.int (((v29 - 1) * p1) / 1000))]) (pc := 55) C dX9_quantile_55 rfl rfl rfl ?_
        refine mG_aload_n (pc := 56) C dX9_quantile_56 rfl ?_
        obtain ⟨r31, e32, hf⟩ := mx_bind hf
        refine mG_getR (pc := 57) C dX9_quantile_57 fl_X9_12 e32 ?_
        obtain ⟨r33, e34, hf⟩ := mx_bind hf
        refine mG_getR (pc := 60) C dX9_quantile_60 fl_X9_72 e34 ?_
        refine mG_aload_n (pc := 63) C dX9_quantile_63 rfl ?_
        obtain ⟨r35, e36, hf⟩ := mx_bind hf
        refine mG_getR (pc := 64) C dX9_quantile_64 fl_X9_50 e36 ?_
        refine mG_iload_n (pc := 67) C dX9_quantile_67 rfl ?_
        obtain ⟨u37, e38, hf⟩ := mx_bind hf
        obtain ⟨v40, e39, hf⟩ := mx_bind hf
        refine mG_cV (pc := 68) (k' := 2) (n' := 12) 1 [.int (((v29 - 1) * p1) / 1000)] [.ref r33] C hX dX9_quantile_68 lkV_X9_213 rfl rfl e38 (tX1_rowOn hl e39) rfl rfl rfl rfl ?_
        refine mG_aload_n (pc := 71) C dX9_quantile_71 rfl ?_
        obtain ⟨r41, e42, hf⟩ := mx_bind hf
        refine mG_getR (pc := 72) C dX9_quantile_72 fl_X9_50 e42 ?_
        refine mG_iload_n (pc := 75) C dX9_quantile_75 rfl ?_
        obtain ⟨u43, e44, hf⟩ := mx_bind hf
        obtain ⟨v46, e45, hf⟩ := mx_bind hf
        refine mG_cV (pc := 76) (k' := 2) (n' := 12) 1 [.int (((v29 - 1) * p1) / 1000)] [.int v40, .ref r33] C hX dX9_quantile_76 lkV_X9_212 rfl rfl e44 (tX1_thingOn hl e45) rfl rfl rfl rfl ?_
        obtain ⟨u47, e48, hf⟩ := mx_bind hf
        obtain ⟨v50, e49, hf⟩ := mx_bind hf
        refine mG_cV (pc := 79) (k' := 2) (n' := 12) 6 [.int v40, .int v46] [] C hX dX9_quantile_79 lkV_X9_93 rfl rfl e48 (tX6_markOf hl e49) rfl rfl rfl rfl ?_
        cases hf
        exact mG_ir (pc := 82) C E hX dX9_quantile_82 rfl
      · cases hf
        exact mG_cSX (pc := 37) [.int p21'] [] C E hX dX9_quantile_37 lkS_X9_97 rfl (tX9_requireFound hl e23) rfl rfl
    refine mG_if_le (pc := 29) (tgt := 36) C dX9_quantile_29 (by decide) (fun q19 => ?_) (fun q19 => ?_)
    · rw [if_pos q19] at e22
      refine mG_ic (pc := 36) C dX9_quantile_36 kI0 ?_
      exact mG_sub (mxLe_s (mxLe_s (mxLe_n mxLe_z))) (J20 _ (Option.some.inj e22))
    · rw [if_neg q19] at e22
      refine mG_ic (pc := 32) C dX9_quantile_32 kI1 ?_
      refine mG_goto (tgt := 37) (pc := 33) C dX9_quantile_33 (by decide) ?_
      exact mG_sub (mxLe_s (mxLe_s (mxLe_n mxLe_z))) (J20 _ (Option.some.inj e22))
  · cases hf
    exact mG_cSX (pc := 5) [.int p1, .int 0, .int 1000] [] C E hX dX9_quantile_5 lkS_X9_86 rfl (tX9_requireRange hl e1) rfl rfl
theorem dX9_candidates_0 : decode cX9_candidates 0 = .ok (.aload_n 0, 1) := by decide +kernel
theorem dX9_candidates_1 : decode cX9_candidates 1 = .ok (.getfield 57, 3) := by decide +kernel
theorem dX9_candidates_4 : decode cX9_candidates 4 = .ok (.aload_n 0, 1) := by decide +kernel
theorem dX9_candidates_5 : decode cX9_candidates 5 = .ok (.getfield 12, 3) := by decide +kernel
theorem dX9_candidates_8 : decode cX9_candidates 8 = .ok (.getfield 72, 3) := by decide +kernel
theorem dX9_candidates_11 : decode cX9_candidates 11 = .ok (.invokevirtual 230, 3) := by decide +kernel
theorem dX9_candidates_14 : decode cX9_candidates 14 = .ok (.aload_n 0, 1) := by decide +kernel
theorem dX9_candidates_15 : decode cX9_candidates 15 = .ok (.getfield 57, 3) := by decide +kernel
theorem dX9_candidates_18 : decode cX9_candidates 18 = .ok (.getfield 233, 3) := by decide +kernel
theorem dX9_candidates_21 : decode cX9_candidates 21 = .ok (.ireturn, 1) := by decide +kernel
def fX9_candidates (p0 : Nat) (h : mxH) : Option (Int32 × mxH) := Option.bind (gR h p0 9 7) (fun r1 => Option.bind (gR h p0 9 0) (fun r3 => Option.bind (gR h r3 7 0) (fun r5 => Option.bind (isO h r1 8) (fun u7 => Option.bind (fX8_gather r1 r5 h) (fun o10 => Option.bind (gR o10 p0 9 7) (fun r11 => Option.bind (gI o10 r11 8 1) (fun v13 => some (v13, o10))))))))
abbrev rmX9_candidates : Room := { frames := 4, cells := 0, slots := 0, locals := 91 }
set_option maxRecDepth 20000 in
theorem tX9_candidates {l : Launch} {Z : mxZ} (hl : l.stackTraces = false) {p0 : Nat} {h : mxH} {out : (Int32 × mxH)} (hf : fX9_candidates p0 h = some out) : mxMet l Z yX9_candidates cX9_candidates 1 (some .int) rmX9_candidates [.ref p0] h (.inl (some (.int out.1))) out.2 := by
  refine mxMet_of (by decide) hl (by simp [Value.category]) (Nat.le_of_ble_eq_true rfl) ?_
  intro X C E hX hin
  unfold fX9_candidates at hf
  refine mG_aload_n (pc := 0) C dX9_candidates_0 rfl ?_
  obtain ⟨r1, e2, hf⟩ := mx_bind hf
  refine mG_getR (pc := 1) C dX9_candidates_1 fl_X9_57 e2 ?_
  refine mG_aload_n (pc := 4) C dX9_candidates_4 rfl ?_
  obtain ⟨r3, e4, hf⟩ := mx_bind hf
  refine mG_getR (pc := 5) C dX9_candidates_5 fl_X9_12 e4 ?_
  obtain ⟨r5, e6, hf⟩ := mx_bind hf
  refine mG_getR (pc := 8) C dX9_candidates_8 fl_X9_72 e6 ?_
  obtain ⟨u7, e8, hf⟩ := mx_bind hf
  obtain ⟨o10, e9, hf⟩ := mx_bind hf
  refine mG_cV (pc := 11) (k' := 0) (n' := 0) 8 [.ref r5] [] C hX dX9_candidates_11 lkV_X9_230 rfl rfl e8 (tX8_gather hl e9) rfl rfl rfl rfl ?_
  refine mG_aload_n (pc := 14) C dX9_candidates_14 rfl ?_
  obtain ⟨r11, e12, hf⟩ := mx_bind hf
  refine mG_getR (pc := 15) C dX9_candidates_15 fl_X9_57 e12 ?_
  obtain ⟨v13, e14, hf⟩ := mx_bind hf
  refine mG_getI (pc := 18) C dX9_candidates_18 fl_X9_233 e14 ?_
  cases hf
  exact mG_ir (pc := 21) C E hX dX9_candidates_21 rfl
theorem dX9_winner_0 : decode cX9_winner 0 = .ok (.aload_n 0, 1) := by decide +kernel
theorem dX9_winner_1 : decode cX9_winner 1 = .ok (.getfield 57, 3) := by decide +kernel
theorem dX9_winner_4 : decode cX9_winner 4 = .ok (.aload_n 0, 1) := by decide +kernel
theorem dX9_winner_5 : decode cX9_winner 5 = .ok (.getfield 12, 3) := by decide +kernel
theorem dX9_winner_8 : decode cX9_winner 8 = .ok (.getfield 72, 3) := by decide +kernel
theorem dX9_winner_11 : decode cX9_winner 11 = .ok (.invokevirtual 230, 3) := by decide +kernel
theorem dX9_winner_14 : decode cX9_winner 14 = .ok (.aload_n 0, 1) := by decide +kernel
theorem dX9_winner_15 : decode cX9_winner 15 = .ok (.getfield 57, 3) := by decide +kernel
theorem dX9_winner_18 : decode cX9_winner 18 = .ok (.invokevirtual 237, 3) := by decide +kernel
theorem dX9_winner_21 : decode cX9_winner 21 = .ok (.istore_n 1, 1) := by decide +kernel
theorem dX9_winner_22 : decode cX9_winner 22 = .ok (.iload_n 1, 1) := by decide +kernel
theorem dX9_winner_23 : decode cX9_winner 23 = .ok (.iconst (-1), 1) := by decide +kernel
theorem dX9_winner_24 : decode cX9_winner 24 = .ok (.if_icmp .eq 7, 3) := by decide +kernel
theorem dX9_winner_27 : decode cX9_winner 27 = .ok (.iconst 1, 1) := by decide +kernel
theorem dX9_winner_28 : decode cX9_winner 28 = .ok (.goto 4, 3) := by decide +kernel
theorem dX9_winner_31 : decode cX9_winner 31 = .ok (.iconst 0, 1) := by decide +kernel
theorem dX9_winner_32 : decode cX9_winner 32 = .ok (.invokestatic 97, 3) := by decide +kernel
theorem dX9_winner_35 : decode cX9_winner 35 = .ok (.iload_n 1, 1) := by decide +kernel
theorem dX9_winner_36 : decode cX9_winner 36 = .ok (.ireturn, 1) := by decide +kernel
def fX9_winner (p0 : Nat) (h : mxH) : Option ((Int32 ⊕ String) × mxH) := Option.bind (gR h p0 9 7) (fun r1 => Option.bind (gR h p0 9 0) (fun r3 => Option.bind (gR h r3 7 0) (fun r5 => Option.bind (isO h r1 8) (fun u7 => Option.bind (fX8_gather r1 r5 h) (fun o10 => Option.bind (gR o10 p0 9 7) (fun r11 => Option.bind (isO o10 r11 8) (fun u13 => Option.bind (fX8_findWinner r11 o10) (fun v16 => Option.bind (α := Int32) (if v16 = (-1) then some 0 else some 1) (fun p19' : Int32 => mxThen (fX9_requireFound p19' o10) (fun v22 h23 => some (Sum.inl v16, h23)))))))))))
abbrev rmX9_winner : Room := { frames := 7, cells := 1, slots := 6, locals := 121 }
set_option maxRecDepth 20000 in
theorem tX9_winner {l : Launch} {Z : mxZ} (hl : l.stackTraces = false) {p0 : Nat} {h : mxH} {out : ((Int32 ⊕ String) × mxH)} (hf : fX9_winner p0 h = some out) : mxMet l Z yX9_winner cX9_winner 2 (some .int) rmX9_winner [.ref p0] h (mxRI out.1) out.2 := by
  refine mxMet_of (by decide) hl (by simp [Value.category]) (Nat.le_of_ble_eq_true rfl) ?_
  intro X C E hX hin
  unfold fX9_winner at hf
  refine mG_aload_n (pc := 0) C dX9_winner_0 rfl ?_
  obtain ⟨r1, e2, hf⟩ := mx_bind hf
  refine mG_getR (pc := 1) C dX9_winner_1 fl_X9_57 e2 ?_
  refine mG_aload_n (pc := 4) C dX9_winner_4 rfl ?_
  obtain ⟨r3, e4, hf⟩ := mx_bind hf
  refine mG_getR (pc := 5) C dX9_winner_5 fl_X9_12 e4 ?_
  obtain ⟨r5, e6, hf⟩ := mx_bind hf
  refine mG_getR (pc := 8) C dX9_winner_8 fl_X9_72 e6 ?_
  obtain ⟨u7, e8, hf⟩ := mx_bind hf
  obtain ⟨o10, e9, hf⟩ := mx_bind hf
  refine mG_cV (pc := 11) (k' := 0) (n' := 0) 8 [.ref r5] [] C hX dX9_winner_11 lkV_X9_230 rfl rfl e8 (tX8_gather hl e9) rfl rfl rfl rfl ?_
  refine mG_aload_n (pc := 14) C dX9_winner_14 rfl ?_
  obtain ⟨r11, e12, hf⟩ := mx_bind hf
  refine mG_getR (pc := 15) C dX9_winner_15 fl_X9_57 e12 ?_
  obtain ⟨u13, e14, hf⟩ := mx_bind hf
  obtain ⟨v16, e15, hf⟩ := mx_bind hf
  refine mG_cV (pc := 18) (k' := 0) (n' := 0) 8 [] [] C hX dX9_winner_18 lkV_X9_237 rfl rfl e14 (tX8_findWinner hl e15) rfl rfl rfl rfl ?_
  refine mG_isn (ls' := [some (.ref p0), some (.int v16)]) (pc := 21) C dX9_winner_21 rfl rfl rfl ?_
  refine mG_iload_n (pc := 22) C dX9_winner_22 rfl ?_
  refine mG_ic (pc := 23) C dX9_winner_23 kIm1 ?_
  obtain ⟨p19, e20, hf⟩ := mx_bind hf
  have J18 : ∀ p19' : Int32, p19' = p19 → mG l Z X 2 0 0 32 [none, some (.int v16)] [.int p19'] o10 := by
    intro p19' q25
    subst q25
    rcases mx_then hf with ⟨v22, h23, e21, hf⟩ | ⟨E24, h23, e21, hf⟩
    · refine mG_cS (pc := 32) (k' := 1) (n' := 6) [.int p19'] [] C hX dX9_winner_32 lkS_X9_97 rfl (tX9_requireFound hl e21) rfl rfl rfl rfl ?_
      refine mG_iload_n (pc := 35) C dX9_winner_35 rfl ?_
      cases hf
      exact mG_ir (pc := 36) C E hX dX9_winner_36 rfl
    · cases hf
      exact mG_cSX (pc := 32) [.int p19'] [] C E hX dX9_winner_32 lkS_X9_97 rfl (tX9_requireFound hl e21) rfl rfl
  refine mG_icmp_eq (pc := 24) (tgt := 31) C dX9_winner_24 (by decide) (fun q17 => ?_) (fun q17 => ?_)
  · rw [if_pos q17] at e20
    refine mG_ic (pc := 31) C dX9_winner_31 kI0 ?_
    exact mG_sub (mxLe_n (mxLe_s mxLe_z)) (J18 _ (Option.some.inj e20))
  · rw [if_neg q17] at e20
    refine mG_ic (pc := 27) C dX9_winner_27 kI1 ?_
    refine mG_goto (tgt := 32) (pc := 28) C dX9_winner_28 (by decide) ?_
    exact mG_sub (mxLe_n (mxLe_s mxLe_z)) (J18 _ (Option.some.inj e20))
theorem dX9_ring_0 : decode cX9_ring 0 = .ok (.aload_n 0, 1) := by decide +kernel
theorem dX9_ring_1 : decode cX9_ring 1 = .ok (.getfield 57, 3) := by decide +kernel
theorem dX9_ring_4 : decode cX9_ring 4 = .ok (.aload_n 0, 1) := by decide +kernel
theorem dX9_ring_5 : decode cX9_ring 5 = .ok (.getfield 12, 3) := by decide +kernel
theorem dX9_ring_8 : decode cX9_ring 8 = .ok (.getfield 72, 3) := by decide +kernel
theorem dX9_ring_11 : decode cX9_ring 11 = .ok (.invokevirtual 230, 3) := by decide +kernel
theorem dX9_ring_14 : decode cX9_ring 14 = .ok (.aload_n 0, 1) := by decide +kernel
theorem dX9_ring_15 : decode cX9_ring 15 = .ok (.getfield 57, 3) := by decide +kernel
theorem dX9_ring_18 : decode cX9_ring 18 = .ok (.invokevirtual 240, 3) := by decide +kernel
theorem dX9_ring_21 : decode cX9_ring 21 = .ok (.ireturn, 1) := by decide +kernel
def fX9_ring (p0 : Nat) (h : mxH) : Option (Int32 × mxH) := Option.bind (gR h p0 9 7) (fun r1 => Option.bind (gR h p0 9 0) (fun r3 => Option.bind (gR h r3 7 0) (fun r5 => Option.bind (isO h r1 8) (fun u7 => Option.bind (fX8_gather r1 r5 h) (fun o10 => Option.bind (gR o10 p0 9 7) (fun r11 => Option.bind (isO o10 r11 8) (fun u13 => Option.bind (fX8_shortestRing r11 o10) (fun v16 => some (v16, o10)))))))))
abbrev rmX9_ring : Room := { frames := 5, cells := 0, slots := 0, locals := 112 }
set_option maxRecDepth 20000 in
theorem tX9_ring {l : Launch} {Z : mxZ} (hl : l.stackTraces = false) {p0 : Nat} {h : mxH} {out : (Int32 × mxH)} (hf : fX9_ring p0 h = some out) : mxMet l Z yX9_ring cX9_ring 1 (some .int) rmX9_ring [.ref p0] h (.inl (some (.int out.1))) out.2 := by
  refine mxMet_of (by decide) hl (by simp [Value.category]) (Nat.le_of_ble_eq_true rfl) ?_
  intro X C E hX hin
  unfold fX9_ring at hf
  refine mG_aload_n (pc := 0) C dX9_ring_0 rfl ?_
  obtain ⟨r1, e2, hf⟩ := mx_bind hf
  refine mG_getR (pc := 1) C dX9_ring_1 fl_X9_57 e2 ?_
  refine mG_aload_n (pc := 4) C dX9_ring_4 rfl ?_
  obtain ⟨r3, e4, hf⟩ := mx_bind hf
  refine mG_getR (pc := 5) C dX9_ring_5 fl_X9_12 e4 ?_
  obtain ⟨r5, e6, hf⟩ := mx_bind hf
  refine mG_getR (pc := 8) C dX9_ring_8 fl_X9_72 e6 ?_
  obtain ⟨u7, e8, hf⟩ := mx_bind hf
  obtain ⟨o10, e9, hf⟩ := mx_bind hf
  refine mG_cV (pc := 11) (k' := 0) (n' := 0) 8 [.ref r5] [] C hX dX9_ring_11 lkV_X9_230 rfl rfl e8 (tX8_gather hl e9) rfl rfl rfl rfl ?_
  refine mG_aload_n (pc := 14) C dX9_ring_14 rfl ?_
  obtain ⟨r11, e12, hf⟩ := mx_bind hf
  refine mG_getR (pc := 15) C dX9_ring_15 fl_X9_57 e12 ?_
  obtain ⟨u13, e14, hf⟩ := mx_bind hf
  obtain ⟨v16, e15, hf⟩ := mx_bind hf
  refine mG_cV (pc := 18) (k' := 0) (n' := 0) 8 [] [] C hX dX9_ring_18 lkV_X9_240 rfl rfl e14 (tX8_shortestRing hl e15) rfl rfl rfl rfl ?_
  cases hf
  exact mG_ir (pc := 21) C E hX dX9_ring_21 rfl
theorem dX9_swaps_0 : decode cX9_swaps 0 = .ok (.aload_n 0, 1) := by decide +kernel
theorem dX9_swaps_1 : decode cX9_swaps 1 = .ok (.getfield 57, 3) := by decide +kernel
theorem dX9_swaps_4 : decode cX9_swaps 4 = .ok (.aload_n 0, 1) := by decide +kernel
theorem dX9_swaps_5 : decode cX9_swaps 5 = .ok (.getfield 12, 3) := by decide +kernel
theorem dX9_swaps_8 : decode cX9_swaps 8 = .ok (.getfield 72, 3) := by decide +kernel
theorem dX9_swaps_11 : decode cX9_swaps 11 = .ok (.invokevirtual 230, 3) := by decide +kernel
theorem dX9_swaps_14 : decode cX9_swaps 14 = .ok (.aload_n 0, 1) := by decide +kernel
theorem dX9_swaps_15 : decode cX9_swaps 15 = .ok (.getfield 57, 3) := by decide +kernel
theorem dX9_swaps_18 : decode cX9_swaps 18 = .ok (.invokevirtual 243, 3) := by decide +kernel
theorem dX9_swaps_21 : decode cX9_swaps 21 = .ok (.ireturn, 1) := by decide +kernel
def fX9_swaps (p0 : Nat) (h : mxH) : Option (Int32 × mxH) := Option.bind (gR h p0 9 7) (fun r1 => Option.bind (gR h p0 9 0) (fun r3 => Option.bind (gR h r3 7 0) (fun r5 => Option.bind (isO h r1 8) (fun u7 => Option.bind (fX8_gather r1 r5 h) (fun o10 => Option.bind (gR o10 p0 9 7) (fun r11 => Option.bind (isO o10 r11 8) (fun u13 => Option.bind (fX8_arrange r11 o10) (fun o16 => some (o16.1, o16.2)))))))))
abbrev rmX9_swaps : Room := { frames := 4, cells := 0, slots := 0, locals := 92 }
set_option maxRecDepth 20000 in
theorem tX9_swaps {l : Launch} {Z : mxZ} (hl : l.stackTraces = false) {p0 : Nat} {h : mxH} {out : (Int32 × mxH)} (hf : fX9_swaps p0 h = some out) : mxMet l Z yX9_swaps cX9_swaps 1 (some .int) rmX9_swaps [.ref p0] h (.inl (some (.int out.1))) out.2 := by
  refine mxMet_of (by decide) hl (by simp [Value.category]) (Nat.le_of_ble_eq_true rfl) ?_
  intro X C E hX hin
  unfold fX9_swaps at hf
  refine mG_aload_n (pc := 0) C dX9_swaps_0 rfl ?_
  obtain ⟨r1, e2, hf⟩ := mx_bind hf
  refine mG_getR (pc := 1) C dX9_swaps_1 fl_X9_57 e2 ?_
  refine mG_aload_n (pc := 4) C dX9_swaps_4 rfl ?_
  obtain ⟨r3, e4, hf⟩ := mx_bind hf
  refine mG_getR (pc := 5) C dX9_swaps_5 fl_X9_12 e4 ?_
  obtain ⟨r5, e6, hf⟩ := mx_bind hf
  refine mG_getR (pc := 8) C dX9_swaps_8 fl_X9_72 e6 ?_
  obtain ⟨u7, e8, hf⟩ := mx_bind hf
  obtain ⟨o10, e9, hf⟩ := mx_bind hf
  refine mG_cV (pc := 11) (k' := 0) (n' := 0) 8 [.ref r5] [] C hX dX9_swaps_11 lkV_X9_230 rfl rfl e8 (tX8_gather hl e9) rfl rfl rfl rfl ?_
  refine mG_aload_n (pc := 14) C dX9_swaps_14 rfl ?_
  obtain ⟨r11, e12, hf⟩ := mx_bind hf
  refine mG_getR (pc := 15) C dX9_swaps_15 fl_X9_57 e12 ?_
  obtain ⟨u13, e14, hf⟩ := mx_bind hf
  obtain ⟨o16, e15, hf⟩ := mx_bind hf
  refine mG_cV (pc := 18) (k' := 0) (n' := 0) 8 [] [] C hX dX9_swaps_18 lkV_X9_243 rfl rfl e14 (tX8_arrange hl e15) rfl rfl rfl rfl ?_
  cases hf
  exact mG_ir (pc := 21) C E hX dX9_swaps_21 rfl
theorem dX9_orderAt_0 : decode cX9_orderAt 0 = .ok (.aload_n 0, 1) := by decide +kernel
theorem dX9_orderAt_1 : decode cX9_orderAt 1 = .ok (.getfield 57, 3) := by decide +kernel
theorem dX9_orderAt_4 : decode cX9_orderAt 4 = .ok (.aload_n 0, 1) := by decide +kernel
theorem dX9_orderAt_5 : decode cX9_orderAt 5 = .ok (.getfield 12, 3) := by decide +kernel
theorem dX9_orderAt_8 : decode cX9_orderAt 8 = .ok (.getfield 72, 3) := by decide +kernel
theorem dX9_orderAt_11 : decode cX9_orderAt 11 = .ok (.invokevirtual 230, 3) := by decide +kernel
theorem dX9_orderAt_14 : decode cX9_orderAt 14 = .ok (.iload_n 1, 1) := by decide +kernel
theorem dX9_orderAt_15 : decode cX9_orderAt 15 = .ok (.aload_n 0, 1) := by decide +kernel
theorem dX9_orderAt_16 : decode cX9_orderAt 16 = .ok (.getfield 57, 3) := by decide +kernel
theorem dX9_orderAt_19 : decode cX9_orderAt 19 = .ok (.getfield 233, 3) := by decide +kernel
theorem dX9_orderAt_22 : decode cX9_orderAt 22 = .ok (.invokestatic 138, 3) := by decide +kernel
theorem dX9_orderAt_25 : decode cX9_orderAt 25 = .ok (.aload_n 0, 1) := by decide +kernel
theorem dX9_orderAt_26 : decode cX9_orderAt 26 = .ok (.getfield 57, 3) := by decide +kernel
theorem dX9_orderAt_29 : decode cX9_orderAt 29 = .ok (.invokevirtual 243, 3) := by decide +kernel
theorem dX9_orderAt_32 : decode cX9_orderAt 32 = .ok (.pop, 1) := by decide +kernel
theorem dX9_orderAt_33 : decode cX9_orderAt 33 = .ok (.aload_n 0, 1) := by decide +kernel
theorem dX9_orderAt_34 : decode cX9_orderAt 34 = .ok (.getfield 57, 3) := by decide +kernel
theorem dX9_orderAt_37 : decode cX9_orderAt 37 = .ok (.iload_n 1, 1) := by decide +kernel
theorem dX9_orderAt_38 : decode cX9_orderAt 38 = .ok (.invokevirtual 246, 3) := by decide +kernel
theorem dX9_orderAt_41 : decode cX9_orderAt 41 = .ok (.ireturn, 1) := by decide +kernel
def fX9_orderAt (p0 : Nat) (p1 : Int32) (h : mxH) : Option ((Int32 ⊕ String) × mxH) := Option.bind (gR h p0 9 7) (fun r1 => Option.bind (gR h p0 9 0) (fun r3 => Option.bind (gR h r3 7 0) (fun r5 => Option.bind (isO h r1 8) (fun u7 => Option.bind (fX8_gather r1 r5 h) (fun o10 => Option.bind (gR o10 p0 9 7) (fun r11 => Option.bind (gI o10 r11 8 1) (fun v13 => mxThen (fX9_requirePlace p1 v13 o10) (fun v16 h17 => Option.bind (gR h17 p0 9 7) (fun r19 => Option.bind (isO h17 r19 8) (fun u21 => Option.bind (fX8_arrange r19 h17) (fun o24 => Option.bind (gR o24.2 p0 9 7) (fun r25 => Option.bind (isO o24.2 r25 8) (fun u27 => Option.bind (fX8_thingOn r25 p1 o24.2) (fun v30 => some (Sum.inl v30, o24.2)))))))))))))))
abbrev rmX9_orderAt : Room := { frames := 7, cells := 1, slots := 6, locals := 122 }
set_option maxRecDepth 20000 in
theorem tX9_orderAt {l : Launch} {Z : mxZ} (hl : l.stackTraces = false) {p0 : Nat} {p1 : Int32} {h : mxH} {out : ((Int32 ⊕ String) × mxH)} (hf : fX9_orderAt p0 p1 h = some out) : mxMet l Z yX9_orderAt cX9_orderAt 2 (some .int) rmX9_orderAt [.ref p0, .int p1] h (mxRI out.1) out.2 := by
  refine mxMet_of (by decide) hl (by simp [Value.category]) (Nat.le_of_ble_eq_true rfl) ?_
  intro X C E hX hin
  unfold fX9_orderAt at hf
  refine mG_aload_n (pc := 0) C dX9_orderAt_0 rfl ?_
  obtain ⟨r1, e2, hf⟩ := mx_bind hf
  refine mG_getR (pc := 1) C dX9_orderAt_1 fl_X9_57 e2 ?_
  refine mG_aload_n (pc := 4) C dX9_orderAt_4 rfl ?_
  obtain ⟨r3, e4, hf⟩ := mx_bind hf
  refine mG_getR (pc := 5) C dX9_orderAt_5 fl_X9_12 e4 ?_
  obtain ⟨r5, e6, hf⟩ := mx_bind hf
  refine mG_getR (pc := 8) C dX9_orderAt_8 fl_X9_72 e6 ?_
  obtain ⟨u7, e8, hf⟩ := mx_bind hf
  obtain ⟨o10, e9, hf⟩ := mx_bind hf
  refine mG_cV (pc := 11) (k' := 0) (n' := 0) 8 [.ref r5] [] C hX dX9_orderAt_11 lkV_X9_230 rfl rfl e8 (tX8_gather hl e9) rfl rfl rfl rfl ?_
  refine mG_iload_n (pc := 14) C dX9_orderAt_14 rfl ?_
  refine mG_aload_n (pc := 15) C dX9_orderAt_15 rfl ?_
  obtain ⟨r11, e12, hf⟩ := mx_bind hf
  refine mG_getR (pc := 16) C dX9_orderAt_16 fl_X9_57 e12 ?_
  obtain ⟨v13, e14, hf⟩ := mx_bind hf
  refine mG_getI (pc := 19) C dX9_orderAt_19 fl_X9_233 e14 ?_
  rcases mx_then hf with ⟨v16, h17, e15, hf⟩ | ⟨E18, h17, e15, hf⟩
  · refine mG_cS (pc := 22) (k' := 1) (n' := 6) [.int p1, .int v13] [] C hX dX9_orderAt_22 lkS_X9_138 rfl (tX9_requirePlace hl e15) rfl rfl rfl rfl ?_
    refine mG_aload_n (pc := 25) C dX9_orderAt_25 rfl ?_
    obtain ⟨r19, e20, hf⟩ := mx_bind hf
    refine mG_getR (pc := 26) C dX9_orderAt_26 fl_X9_57 e20 ?_
    obtain ⟨u21, e22, hf⟩ := mx_bind hf
    obtain ⟨o24, e23, hf⟩ := mx_bind hf
    refine mG_cV (pc := 29) (k' := 1) (n' := 6) 8 [] [] C hX dX9_orderAt_29 lkV_X9_243 rfl rfl e22 (tX8_arrange hl e23) rfl rfl rfl rfl ?_
    refine mG_pop (pc := 32) C dX9_orderAt_32 rfl ?_
    refine mG_aload_n (pc := 33) C dX9_orderAt_33 rfl ?_
    obtain ⟨r25, e26, hf⟩ := mx_bind hf
    refine mG_getR (pc := 34) C dX9_orderAt_34 fl_X9_57 e26 ?_
    refine mG_iload_n (pc := 37) C dX9_orderAt_37 rfl ?_
    obtain ⟨u27, e28, hf⟩ := mx_bind hf
    obtain ⟨v30, e29, hf⟩ := mx_bind hf
    refine mG_cV (pc := 38) (k' := 1) (n' := 6) 8 [.int p1] [] C hX dX9_orderAt_38 lkV_X9_246 rfl rfl e28 (tX8_thingOn hl e29) rfl rfl rfl rfl ?_
    cases hf
    exact mG_ir (pc := 41) C E hX dX9_orderAt_41 rfl
  · cases hf
    exact mG_cSX (pc := 22) [.int p1, .int v13] [] C E hX dX9_orderAt_22 lkS_X9_138 rfl (tX9_requirePlace hl e15) rfl rfl
theorem dX9_windowSize_0 : decode cX9_windowSize 0 = .ok (.aload_n 0, 1) := by decide +kernel
theorem dX9_windowSize_1 : decode cX9_windowSize 1 = .ok (.getfield 12, 3) := by decide +kernel
theorem dX9_windowSize_4 : decode cX9_windowSize 4 = .ok (.getfield 114, 3) := by decide +kernel
theorem dX9_windowSize_7 : decode cX9_windowSize 7 = .ok (.getfield 247, 3) := by decide +kernel
theorem dX9_windowSize_10 : decode cX9_windowSize 10 = .ok (.ireturn, 1) := by decide +kernel
def fX9_windowSize (p0 : Nat) (h : mxH) : Option Int32 := Option.bind (gR h p0 9 0) (fun r1 => Option.bind (gR h r1 7 1) (fun r3 => Option.bind (gI h r3 2 2) (fun v5 => some v5)))
abbrev rmX9_windowSize : Room := { frames := 0, cells := 0, slots := 0, locals := 0 }
set_option maxRecDepth 20000 in
theorem tX9_windowSize {l : Launch} {Z : mxZ} (hl : l.stackTraces = false) {p0 : Nat} {h : mxH} {out : Int32} (hf : fX9_windowSize p0 h = some out) : mxMet l Z yX9_windowSize cX9_windowSize 1 (some .int) rmX9_windowSize [.ref p0] h (.inl (some (.int out))) h := by
  refine mxMet_of (by decide) hl (by simp [Value.category]) (Nat.le_of_ble_eq_true rfl) ?_
  intro X C E hX hin
  unfold fX9_windowSize at hf
  refine mG_aload_n (pc := 0) C dX9_windowSize_0 rfl ?_
  obtain ⟨r1, e2, hf⟩ := mx_bind hf
  refine mG_getR (pc := 1) C dX9_windowSize_1 fl_X9_12 e2 ?_
  obtain ⟨r3, e4, hf⟩ := mx_bind hf
  refine mG_getR (pc := 4) C dX9_windowSize_4 fl_X9_114 e4 ?_
  obtain ⟨v5, e6, hf⟩ := mx_bind hf
  refine mG_getI (pc := 7) C dX9_windowSize_7 fl_X9_247 e6 ?_
  cases hf
  exact mG_ir (pc := 10) C E hX dX9_windowSize_10 rfl
theorem dX9_windowAt_0 : decode cX9_windowAt 0 = .ok (.iload_n 1, 1) := by decide +kernel
theorem dX9_windowAt_1 : decode cX9_windowAt 1 = .ok (.aload_n 0, 1) := by decide +kernel
theorem dX9_windowAt_2 : decode cX9_windowAt 2 = .ok (.getfield 12, 3) := by decide +kernel
theorem dX9_windowAt_5 : decode cX9_windowAt 5 = .ok (.getfield 114, 3) := by decide +kernel
theorem dX9_windowAt_8 : decode cX9_windowAt 8 = .ok (.getfield 247, 3) := by decide +kernel
theorem dX9_windowAt_11 : decode cX9_windowAt 11 = .ok (.invokestatic 138, 3) := by decide +kernel
theorem dX9_windowAt_14 : decode cX9_windowAt 14 = .ok (.aload_n 0, 1) := by decide +kernel
theorem dX9_windowAt_15 : decode cX9_windowAt 15 = .ok (.getfield 12, 3) := by decide +kernel
theorem dX9_windowAt_18 : decode cX9_windowAt 18 = .ok (.getfield 114, 3) := by decide +kernel
theorem dX9_windowAt_21 : decode cX9_windowAt 21 = .ok (.iload_n 1, 1) := by decide +kernel
theorem dX9_windowAt_22 : decode cX9_windowAt 22 = .ok (.invokevirtual 250, 3) := by decide +kernel
theorem dX9_windowAt_25 : decode cX9_windowAt 25 = .ok (.ireturn, 1) := by decide +kernel
def fX9_windowAt (p0 : Nat) (p1 : Int32) (h : mxH) : Option ((Int32 ⊕ String) × mxH) := Option.bind (gR h p0 9 0) (fun r1 => Option.bind (gR h r1 7 1) (fun r3 => Option.bind (gI h r3 2 2) (fun v5 => mxThen (fX9_requirePlace p1 v5 h) (fun v8 h9 => Option.bind (gR h9 p0 9 0) (fun r11 => Option.bind (gR h9 r11 7 1) (fun r13 => Option.bind (isO h9 r13 2) (fun u15 => Option.bind (fX2_bySize r13 p1 h9) (fun v18 => some (Sum.inl v18, h9)))))))))
abbrev rmX9_windowAt : Room := { frames := 7, cells := 1, slots := 6, locals := 122 }
set_option maxRecDepth 20000 in
theorem tX9_windowAt {l : Launch} {Z : mxZ} (hl : l.stackTraces = false) {p0 : Nat} {p1 : Int32} {h : mxH} {out : ((Int32 ⊕ String) × mxH)} (hf : fX9_windowAt p0 p1 h = some out) : mxMet l Z yX9_windowAt cX9_windowAt 2 (some .int) rmX9_windowAt [.ref p0, .int p1] h (mxRI out.1) out.2 := by
  refine mxMet_of (by decide) hl (by simp [Value.category]) (Nat.le_of_ble_eq_true rfl) ?_
  intro X C E hX hin
  unfold fX9_windowAt at hf
  refine mG_iload_n (pc := 0) C dX9_windowAt_0 rfl ?_
  refine mG_aload_n (pc := 1) C dX9_windowAt_1 rfl ?_
  obtain ⟨r1, e2, hf⟩ := mx_bind hf
  refine mG_getR (pc := 2) C dX9_windowAt_2 fl_X9_12 e2 ?_
  obtain ⟨r3, e4, hf⟩ := mx_bind hf
  refine mG_getR (pc := 5) C dX9_windowAt_5 fl_X9_114 e4 ?_
  obtain ⟨v5, e6, hf⟩ := mx_bind hf
  refine mG_getI (pc := 8) C dX9_windowAt_8 fl_X9_247 e6 ?_
  rcases mx_then hf with ⟨v8, h9, e7, hf⟩ | ⟨E10, h9, e7, hf⟩
  · refine mG_cS (pc := 11) (k' := 1) (n' := 6) [.int p1, .int v5] [] C hX dX9_windowAt_11 lkS_X9_138 rfl (tX9_requirePlace hl e7) rfl rfl rfl rfl ?_
    refine mG_aload_n (pc := 14) C dX9_windowAt_14 rfl ?_
    obtain ⟨r11, e12, hf⟩ := mx_bind hf
    refine mG_getR (pc := 15) C dX9_windowAt_15 fl_X9_12 e12 ?_
    obtain ⟨r13, e14, hf⟩ := mx_bind hf
    refine mG_getR (pc := 18) C dX9_windowAt_18 fl_X9_114 e14 ?_
    refine mG_iload_n (pc := 21) C dX9_windowAt_21 rfl ?_
    obtain ⟨u15, e16, hf⟩ := mx_bind hf
    obtain ⟨v18, e17, hf⟩ := mx_bind hf
    refine mG_cV (pc := 22) (k' := 1) (n' := 6) 2 [.int p1] [] C hX dX9_windowAt_22 lkV_X9_250 rfl rfl e16 (tX2_bySize hl e17) rfl rfl rfl rfl ?_
    cases hf
    exact mG_ir (pc := 25) C E hX dX9_windowAt_25 rfl
  · cases hf
    exact mG_cSX (pc := 11) [.int p1, .int v5] [] C E hX dX9_windowAt_11 lkS_X9_138 rfl (tX9_requirePlace hl e7) rfl rfl
theorem dX9_unlike_0 : decode cX9_unlike 0 = .ok (.aload_n 0, 1) := by decide +kernel
theorem dX9_unlike_1 : decode cX9_unlike 1 = .ok (.getfield 12, 3) := by decide +kernel
theorem dX9_unlike_4 : decode cX9_unlike 4 = .ok (.getfield 114, 3) := by decide +kernel
theorem dX9_unlike_7 : decode cX9_unlike 7 = .ok (.invokevirtual 253, 3) := by decide +kernel
theorem dX9_unlike_10 : decode cX9_unlike 10 = .ok (.ireturn, 1) := by decide +kernel
def fX9_unlike (p0 : Nat) (h : mxH) : Option Int32 := Option.bind (gR h p0 9 0) (fun r1 => Option.bind (gR h r1 7 1) (fun r3 => Option.bind (isO h r3 2) (fun u5 => Option.bind (fX2_countUnlike r3 h) (fun v8 => some v8))))
abbrev rmX9_unlike : Room := { frames := 2, cells := 0, slots := 0, locals := 44 }
set_option maxRecDepth 20000 in
theorem tX9_unlike {l : Launch} {Z : mxZ} (hl : l.stackTraces = false) {p0 : Nat} {h : mxH} {out : Int32} (hf : fX9_unlike p0 h = some out) : mxMet l Z yX9_unlike cX9_unlike 1 (some .int) rmX9_unlike [.ref p0] h (.inl (some (.int out))) h := by
  refine mxMet_of (by decide) hl (by simp [Value.category]) (Nat.le_of_ble_eq_true rfl) ?_
  intro X C E hX hin
  unfold fX9_unlike at hf
  refine mG_aload_n (pc := 0) C dX9_unlike_0 rfl ?_
  obtain ⟨r1, e2, hf⟩ := mx_bind hf
  refine mG_getR (pc := 1) C dX9_unlike_1 fl_X9_12 e2 ?_
  obtain ⟨r3, e4, hf⟩ := mx_bind hf
  refine mG_getR (pc := 4) C dX9_unlike_4 fl_X9_114 e4 ?_
  obtain ⟨u5, e6, hf⟩ := mx_bind hf
  obtain ⟨v8, e7, hf⟩ := mx_bind hf
  refine mG_cV (pc := 7) (k' := 0) (n' := 0) 2 [] [] C hX dX9_unlike_7 lkV_X9_253 rfl rfl e6 (tX2_countUnlike hl e7) rfl rfl rfl rfl ?_
  cases hf
  exact mG_ir (pc := 10) C E hX dX9_unlike_10 rfl
theorem dX9_counted_0 : decode cX9_counted 0 = .ok (.iload_n 1, 1) := by decide +kernel
theorem dX9_counted_1 : decode cX9_counted 1 = .ok (.iconst 0, 1) := by decide +kernel
theorem dX9_counted_2 : decode cX9_counted 2 = .ok (.bipush 99, 2) := by decide +kernel
theorem dX9_counted_4 : decode cX9_counted 4 = .ok (.invokestatic 86, 3) := by decide +kernel
theorem dX9_counted_7 : decode cX9_counted 7 = .ok (.aload_n 0, 1) := by decide +kernel
theorem dX9_counted_8 : decode cX9_counted 8 = .ok (.getfield 12, 3) := by decide +kernel
theorem dX9_counted_11 : decode cX9_counted 11 = .ok (.getfield 114, 3) := by decide +kernel
theorem dX9_counted_14 : decode cX9_counted 14 = .ok (.iload_n 1, 1) := by decide +kernel
theorem dX9_counted_15 : decode cX9_counted 15 = .ok (.invokevirtual 256, 3) := by decide +kernel
theorem dX9_counted_18 : decode cX9_counted 18 = .ok (.ireturn, 1) := by decide +kernel
def fX9_counted (p0 : Nat) (p1 : Int32) (h : mxH) : Option ((Int32 ⊕ String) × mxH) := mxThen (fX9_requireRange p1 0 99 h) (fun v2 h3 => Option.bind (gR h3 p0 9 0) (fun r5 => Option.bind (gR h3 r5 7 1) (fun r7 => Option.bind (isO h3 r7 2) (fun u9 => Option.bind (fX2_countOf r7 p1 h3) (fun v12 => some (Sum.inl v12, h3))))))
abbrev rmX9_counted : Room := { frames := 7, cells := 1, slots := 6, locals := 123 }
set_option maxRecDepth 20000 in
theorem tX9_counted {l : Launch} {Z : mxZ} (hl : l.stackTraces = false) {p0 : Nat} {p1 : Int32} {h : mxH} {out : ((Int32 ⊕ String) × mxH)} (hf : fX9_counted p0 p1 h = some out) : mxMet l Z yX9_counted cX9_counted 2 (some .int) rmX9_counted [.ref p0, .int p1] h (mxRI out.1) out.2 := by
  refine mxMet_of (by decide) hl (by simp [Value.category]) (Nat.le_of_ble_eq_true rfl) ?_
  intro X C E hX hin
  unfold fX9_counted at hf
  refine mG_iload_n (pc := 0) C dX9_counted_0 rfl ?_
  refine mG_ic (pc := 1) C dX9_counted_1 kI0 ?_
  refine mG_bp (pc := 2) C dX9_counted_2 kB99 ?_
  rcases mx_then hf with ⟨v2, h3, e1, hf⟩ | ⟨E4, h3, e1, hf⟩
  · refine mG_cS (pc := 4) (k' := 1) (n' := 6) [.int p1, .int 0, .int 99] [] C hX dX9_counted_4 lkS_X9_86 rfl (tX9_requireRange hl e1) rfl rfl rfl rfl ?_
    refine mG_aload_n (pc := 7) C dX9_counted_7 rfl ?_
    obtain ⟨r5, e6, hf⟩ := mx_bind hf
    refine mG_getR (pc := 8) C dX9_counted_8 fl_X9_12 e6 ?_
    obtain ⟨r7, e8, hf⟩ := mx_bind hf
    refine mG_getR (pc := 11) C dX9_counted_11 fl_X9_114 e8 ?_
    refine mG_iload_n (pc := 14) C dX9_counted_14 rfl ?_
    obtain ⟨u9, e10, hf⟩ := mx_bind hf
    obtain ⟨v12, e11, hf⟩ := mx_bind hf
    refine mG_cV (pc := 15) (k' := 1) (n' := 6) 2 [.int p1] [] C hX dX9_counted_15 lkV_X9_256 rfl rfl e10 (tX2_countOf hl e11) rfl rfl rfl rfl ?_
    cases hf
    exact mG_ir (pc := 18) C E hX dX9_counted_18 rfl
  · cases hf
    exact mG_cSX (pc := 4) [.int p1, .int 0, .int 99] [] C E hX dX9_counted_4 lkS_X9_86 rfl (tX9_requireRange hl e1) rfl rfl
theorem dX9_came_0 : decode cX9_came 0 = .ok (.iload_n 1, 1) := by decide +kernel
theorem dX9_came_1 : decode cX9_came 1 = .ok (.iconst 0, 1) := by decide +kernel
theorem dX9_came_2 : decode cX9_came 2 = .ok (.bipush 99, 2) := by decide +kernel
theorem dX9_came_4 : decode cX9_came 4 = .ok (.invokestatic 86, 3) := by decide +kernel
theorem dX9_came_7 : decode cX9_came 7 = .ok (.aload_n 0, 1) := by decide +kernel
theorem dX9_came_8 : decode cX9_came 8 = .ok (.getfield 12, 3) := by decide +kernel
theorem dX9_came_11 : decode cX9_came 11 = .ok (.getfield 114, 3) := by decide +kernel
theorem dX9_came_14 : decode cX9_came 14 = .ok (.iload_n 1, 1) := by decide +kernel
theorem dX9_came_15 : decode cX9_came 15 = .ok (.invokevirtual 259, 3) := by decide +kernel
theorem dX9_came_18 : decode cX9_came 18 = .ok (.ireturn, 1) := by decide +kernel
def fX9_came (p0 : Nat) (p1 : Int32) (h : mxH) : Option ((Int32 ⊕ String) × mxH) := mxThen (fX9_requireRange p1 0 99 h) (fun v2 h3 => Option.bind (gR h3 p0 9 0) (fun r5 => Option.bind (gR h3 r5 7 1) (fun r7 => Option.bind (isO h3 r7 2) (fun u9 => Option.bind (fX2_timesOf r7 p1 h3) (fun v12 => some (Sum.inl v12, h3))))))
abbrev rmX9_came : Room := { frames := 7, cells := 1, slots := 6, locals := 123 }
set_option maxRecDepth 20000 in
theorem tX9_came {l : Launch} {Z : mxZ} (hl : l.stackTraces = false) {p0 : Nat} {p1 : Int32} {h : mxH} {out : ((Int32 ⊕ String) × mxH)} (hf : fX9_came p0 p1 h = some out) : mxMet l Z yX9_came cX9_came 2 (some .int) rmX9_came [.ref p0, .int p1] h (mxRI out.1) out.2 := by
  refine mxMet_of (by decide) hl (by simp [Value.category]) (Nat.le_of_ble_eq_true rfl) ?_
  intro X C E hX hin
  unfold fX9_came at hf
  refine mG_iload_n (pc := 0) C dX9_came_0 rfl ?_
  refine mG_ic (pc := 1) C dX9_came_1 kI0 ?_
  refine mG_bp (pc := 2) C dX9_came_2 kB99 ?_
  rcases mx_then hf with ⟨v2, h3, e1, hf⟩ | ⟨E4, h3, e1, hf⟩
  · refine mG_cS (pc := 4) (k' := 1) (n' := 6) [.int p1, .int 0, .int 99] [] C hX dX9_came_4 lkS_X9_86 rfl (tX9_requireRange hl e1) rfl rfl rfl rfl ?_
    refine mG_aload_n (pc := 7) C dX9_came_7 rfl ?_
    obtain ⟨r5, e6, hf⟩ := mx_bind hf
    refine mG_getR (pc := 8) C dX9_came_8 fl_X9_12 e6 ?_
    obtain ⟨r7, e8, hf⟩ := mx_bind hf
    refine mG_getR (pc := 11) C dX9_came_11 fl_X9_114 e8 ?_
    refine mG_iload_n (pc := 14) C dX9_came_14 rfl ?_
    obtain ⟨u9, e10, hf⟩ := mx_bind hf
    obtain ⟨v12, e11, hf⟩ := mx_bind hf
    refine mG_cV (pc := 15) (k' := 1) (n' := 6) 2 [.int p1] [] C hX dX9_came_15 lkV_X9_259 rfl rfl e10 (tX2_timesOf hl e11) rfl rfl rfl rfl ?_
    cases hf
    exact mG_ir (pc := 18) C E hX dX9_came_18 rfl
  · cases hf
    exact mG_cSX (pc := 4) [.int p1, .int 0, .int 99] [] C E hX dX9_came_4 lkS_X9_86 rfl (tX9_requireRange hl e1) rfl rfl
theorem dX9_bound_0 : decode cX9_bound 0 = .ok (.aload_n 0, 1) := by decide +kernel
theorem dX9_bound_1 : decode cX9_bound 1 = .ok (.getfield 12, 3) := by decide +kernel
theorem dX9_bound_4 : decode cX9_bound 4 = .ok (.getfield 114, 3) := by decide +kernel
theorem dX9_bound_7 : decode cX9_bound 7 = .ok (.getfield 262, 3) := by decide +kernel
theorem dX9_bound_10 : decode cX9_bound 10 = .ok (.ireturn, 1) := by decide +kernel
def fX9_bound (p0 : Nat) (h : mxH) : Option Int32 := Option.bind (gR h p0 9 0) (fun r1 => Option.bind (gR h r1 7 1) (fun r3 => Option.bind (gI h r3 2 8) (fun v5 => some v5)))
abbrev rmX9_bound : Room := { frames := 0, cells := 0, slots := 0, locals := 0 }
set_option maxRecDepth 20000 in
theorem tX9_bound {l : Launch} {Z : mxZ} (hl : l.stackTraces = false) {p0 : Nat} {h : mxH} {out : Int32} (hf : fX9_bound p0 h = some out) : mxMet l Z yX9_bound cX9_bound 1 (some .int) rmX9_bound [.ref p0] h (.inl (some (.int out))) h := by
  refine mxMet_of (by decide) hl (by simp [Value.category]) (Nat.le_of_ble_eq_true rfl) ?_
  intro X C E hX hin
  unfold fX9_bound at hf
  refine mG_aload_n (pc := 0) C dX9_bound_0 rfl ?_
  obtain ⟨r1, e2, hf⟩ := mx_bind hf
  refine mG_getR (pc := 1) C dX9_bound_1 fl_X9_12 e2 ?_
  obtain ⟨r3, e4, hf⟩ := mx_bind hf
  refine mG_getR (pc := 4) C dX9_bound_4 fl_X9_114 e4 ?_
  obtain ⟨v5, e6, hf⟩ := mx_bind hf
  refine mG_getI (pc := 7) C dX9_bound_7 fl_X9_262 e6 ?_
  cases hf
  exact mG_ir (pc := 10) C E hX dX9_bound_10 rfl
theorem dX9_findPair_0 : decode cX9_findPair 0 = .ok (.iload_n 1, 1) := by decide +kernel
theorem dX9_findPair_1 : decode cX9_findPair 1 = .ok (.invokestatic 79, 3) := by decide +kernel
theorem dX9_findPair_4 : decode cX9_findPair 4 = .ok (.iload_n 2, 1) := by decide +kernel
theorem dX9_findPair_5 : decode cX9_findPair 5 = .ok (.invokestatic 79, 3) := by decide +kernel
theorem dX9_findPair_8 : decode cX9_findPair 8 = .ok (.iload_n 3, 1) := by decide +kernel
theorem dX9_findPair_9 : decode cX9_findPair 9 = .ok (.aload_n 0, 1) := by decide +kernel
theorem dX9_findPair_10 : decode cX9_findPair 10 = .ok (.getfield 12, 3) := by decide +kernel
theorem dX9_findPair_13 : decode cX9_findPair 13 = .ok (.getfield 72, 3) := by decide +kernel
theorem dX9_findPair_16 : decode cX9_findPair 16 = .ok (.iload_n 1, 1) := by decide +kernel
theorem dX9_findPair_17 : decode cX9_findPair 17 = .ok (.invokevirtual 135, 3) := by decide +kernel
theorem dX9_findPair_20 : decode cX9_findPair 20 = .ok (.aload_n 0, 1) := by decide +kernel
theorem dX9_findPair_21 : decode cX9_findPair 21 = .ok (.getfield 12, 3) := by decide +kernel
theorem dX9_findPair_24 : decode cX9_findPair 24 = .ok (.getfield 72, 3) := by decide +kernel
theorem dX9_findPair_27 : decode cX9_findPair 27 = .ok (.iload_n 2, 1) := by decide +kernel
theorem dX9_findPair_28 : decode cX9_findPair 28 = .ok (.invokevirtual 135, 3) := by decide +kernel
theorem dX9_findPair_31 : decode cX9_findPair 31 = .ok (.imul, 1) := by decide +kernel
theorem dX9_findPair_32 : decode cX9_findPair 32 = .ok (.invokestatic 138, 3) := by decide +kernel
theorem dX9_findPair_35 : decode cX9_findPair 35 = .ok (.aload_n 0, 1) := by decide +kernel
theorem dX9_findPair_36 : decode cX9_findPair 36 = .ok (.getfield 64, 3) := by decide +kernel
theorem dX9_findPair_39 : decode cX9_findPair 39 = .ok (.aload_n 0, 1) := by decide +kernel
theorem dX9_findPair_40 : decode cX9_findPair 40 = .ok (.getfield 12, 3) := by decide +kernel
theorem dX9_findPair_43 : decode cX9_findPair 43 = .ok (.getfield 72, 3) := by decide +kernel
theorem dX9_findPair_46 : decode cX9_findPair 46 = .ok (.iload_n 1, 1) := by decide +kernel
theorem dX9_findPair_47 : decode cX9_findPair 47 = .ok (.iload_n 2, 1) := by decide +kernel
theorem dX9_findPair_48 : decode cX9_findPair 48 = .ok (.iload_n 3, 1) := by decide +kernel
theorem dX9_findPair_49 : decode cX9_findPair 49 = .ok (.invokevirtual 302, 3) := by decide +kernel
theorem dX9_findPair_52 : decode cX9_findPair 52 = .ok (.return_, 1) := by decide +kernel
def fX9_findPair (p0 : Nat) (p1 : Int32) (p2 : Int32) (p3 : Int32) (h : mxH) : Option ((Unit ⊕ String) × mxH) := mxThen (fX9_requireRow p1 h) (fun v2 h3 => mxThen (fX9_requireRow p2 h3) (fun v6 h7 => Option.bind (gR h7 p0 9 0) (fun r9 => Option.bind (gR h7 r9 7 0) (fun r11 => Option.bind (isO h7 r11 6) (fun u13 => Option.bind (fX6_sizeOf r11 p1 h7) (fun v16 => Option.bind (gR h7 p0 9 0) (fun r17 => Option.bind (gR h7 r17 7 0) (fun r19 => Option.bind (isO h7 r19 6) (fun u21 => Option.bind (fX6_sizeOf r19 p2 h7) (fun v24 => mxThen (fX9_requirePlace p3 (v16 * v24) h7) (fun v26 h27 => Option.bind (gR h27 p0 9 8) (fun r29 => Option.bind (gR h27 p0 9 0) (fun r31 => Option.bind (gR h27 r31 7 0) (fun r33 => Option.bind (isO h27 r29 3) (fun u35 => Option.bind (fX3_find r29 r33 p1 p2 p3 h27) (fun o38 => some (Sum.inl (), o38)))))))))))))))))
abbrev rmX9_findPair : Room := { frames := 7, cells := 3, slots := 18, locals := 122 }
set_option maxRecDepth 20000 in
theorem tX9_findPair {l : Launch} {Z : mxZ} (hl : l.stackTraces = false) {p0 : Nat} {p1 : Int32} {p2 : Int32} {p3 : Int32} {h : mxH} {out : ((Unit ⊕ String) × mxH)} (hf : fX9_findPair p0 p1 p2 p3 h = some out) : mxMet l Z yX9_findPair cX9_findPair 4 (none) rmX9_findPair [.ref p0, .int p1, .int p2, .int p3] h (mxRU out.1) out.2 := by
  refine mxMet_of (by decide) hl (by simp [Value.category]) (Nat.le_of_ble_eq_true rfl) ?_
  intro X C E hX hin
  unfold fX9_findPair at hf
  refine mG_iload_n (pc := 0) C dX9_findPair_0 rfl ?_
  rcases mx_then hf with ⟨v2, h3, e1, hf⟩ | ⟨E4, h3, e1, hf⟩
  · refine mG_cS (pc := 1) (k' := 1) (n' := 6) [.int p1] [] C hX dX9_findPair_1 lkS_X9_79 rfl (tX9_requireRow hl e1) rfl rfl rfl rfl ?_
    refine mG_iload_n (pc := 4) C dX9_findPair_4 rfl ?_
    rcases mx_then hf with ⟨v6, h7, e5, hf⟩ | ⟨E8, h7, e5, hf⟩
    · refine mG_cS (pc := 5) (k' := 2) (n' := 12) [.int p2] [] C hX dX9_findPair_5 lkS_X9_79 rfl (tX9_requireRow hl e5) rfl rfl rfl rfl ?_
      refine mG_iload_n (pc := 8) C dX9_findPair_8 rfl ?_
      refine mG_aload_n (pc := 9) C dX9_findPair_9 rfl ?_
      obtain ⟨r9, e10, hf⟩ := mx_bind hf
      refine mG_getR (pc := 10) C dX9_findPair_10 fl_X9_12 e10 ?_
      obtain ⟨r11, e12, hf⟩ := mx_bind hf
      refine mG_getR (pc := 13) C dX9_findPair_13 fl_X9_72 e12 ?_
      refine mG_iload_n (pc := 16) C dX9_findPair_16 rfl ?_
      obtain ⟨u13, e14, hf⟩ := mx_bind hf
      obtain ⟨v16, e15, hf⟩ := mx_bind hf
      refine mG_cV (pc := 17) (k' := 2) (n' := 12) 6 [.int p1] [.int p3] C hX dX9_findPair_17 lkV_X9_135 rfl rfl e14 (tX6_sizeOf hl e15) rfl rfl rfl rfl ?_
      refine mG_aload_n (pc := 20) C dX9_findPair_20 rfl ?_
      obtain ⟨r17, e18, hf⟩ := mx_bind hf
      refine mG_getR (pc := 21) C dX9_findPair_21 fl_X9_12 e18 ?_
      obtain ⟨r19, e20, hf⟩ := mx_bind hf
      refine mG_getR (pc := 24) C dX9_findPair_24 fl_X9_72 e20 ?_
      refine mG_iload_n (pc := 27) C dX9_findPair_27 rfl ?_
      obtain ⟨u21, e22, hf⟩ := mx_bind hf
      obtain ⟨v24, e23, hf⟩ := mx_bind hf
      refine mG_cV (pc := 28) (k' := 2) (n' := 12) 6 [.int p2] [.int v16, .int p3] C hX dX9_findPair_28 lkV_X9_135 rfl rfl e22 (tX6_sizeOf hl e23) rfl rfl rfl rfl ?_
      refine mG_imul (pc := 31) C dX9_findPair_31 ?_
      rcases mx_then hf with ⟨v26, h27, e25, hf⟩ | ⟨E28, h27, e25, hf⟩
      · refine mG_cS (pc := 32) (k' := 3) (n' := 18) [.int p3, .int (v16 * v24)] [] C hX dX9_findPair_32 lkS_X9_138 rfl (tX9_requirePlace hl e25) rfl rfl rfl rfl ?_
        refine mG_aload_n (pc := 35) C dX9_findPair_35 rfl ?_
        obtain ⟨r29, e30, hf⟩ := mx_bind hf
        refine mG_getR (pc := 36) C dX9_findPair_36 fl_X9_64 e30 ?_
        refine mG_aload_n (pc := 39) C dX9_findPair_39 rfl ?_
        obtain ⟨r31, e32, hf⟩ := mx_bind hf
        refine mG_getR (pc := 40) C dX9_findPair_40 fl_X9_12 e32 ?_
        obtain ⟨r33, e34, hf⟩ := mx_bind hf
        refine mG_getR (pc := 43) C dX9_findPair_43 fl_X9_72 e34 ?_
        refine mG_iload_n (pc := 46) C dX9_findPair_46 rfl ?_
        refine mG_iload_n (pc := 47) C dX9_findPair_47 rfl ?_
        refine mG_iload_n (pc := 48) C dX9_findPair_48 rfl ?_
        obtain ⟨u35, e36, hf⟩ := mx_bind hf
        obtain ⟨o38, e37, hf⟩ := mx_bind hf
        refine mG_cV (pc := 49) (k' := 3) (n' := 18) 3 [.ref r33, .int p1, .int p2, .int p3] [] C hX dX9_findPair_49 lkV_X9_302 rfl rfl e36 (tX3_find hl e37) rfl rfl rfl rfl ?_
        cases hf
        exact mG_vr (pc := 52) C E hX dX9_findPair_52 rfl
      · cases hf
        exact mG_cSX (pc := 32) [.int p3, .int (v16 * v24)] [] C E hX dX9_findPair_32 lkS_X9_138 rfl (tX9_requirePlace hl e25) rfl rfl
    · cases hf
      exact mG_cSX (pc := 5) [.int p2] [] C E hX dX9_findPair_5 lkS_X9_79 rfl (tX9_requireRow hl e5) rfl rfl
  · cases hf
    exact mG_cSX (pc := 1) [.int p1] [] C E hX dX9_findPair_1 lkS_X9_79 rfl (tX9_requireRow hl e1) rfl rfl
theorem dX9_pairSum_0 : decode cX9_pairSum 0 = .ok (.aload_n 0, 1) := by decide +kernel
theorem dX9_pairSum_1 : decode cX9_pairSum 1 = .ok (.iload_n 1, 1) := by decide +kernel
theorem dX9_pairSum_2 : decode cX9_pairSum 2 = .ok (.iload_n 2, 1) := by decide +kernel
theorem dX9_pairSum_3 : decode cX9_pairSum 3 = .ok (.iload_n 3, 1) := by decide +kernel
theorem dX9_pairSum_4 : decode cX9_pairSum 4 = .ok (.invokevirtual 265, 3) := by decide +kernel
theorem dX9_pairSum_7 : decode cX9_pairSum 7 = .ok (.aload_n 0, 1) := by decide +kernel
theorem dX9_pairSum_8 : decode cX9_pairSum 8 = .ok (.getfield 64, 3) := by decide +kernel
theorem dX9_pairSum_11 : decode cX9_pairSum 11 = .ok (.getfield 268, 3) := by decide +kernel
theorem dX9_pairSum_14 : decode cX9_pairSum 14 = .ok (.ireturn, 1) := by decide +kernel
def fX9_pairSum (p0 : Nat) (p1 : Int32) (p2 : Int32) (p3 : Int32) (h : mxH) : Option ((Int32 ⊕ String) × mxH) := Option.bind (isO h p0 9) (fun u1 => mxThen (fX9_findPair p0 p1 p2 p3 h) (fun v4 h5 => Option.bind (gR h5 p0 9 8) (fun r7 => Option.bind (gI h5 r7 3 1) (fun v9 => some (Sum.inl v9, h5)))))
abbrev rmX9_pairSum : Room := { frames := 8, cells := 3, slots := 18, locals := 145 }
set_option maxRecDepth 20000 in
theorem tX9_pairSum {l : Launch} {Z : mxZ} (hl : l.stackTraces = false) {p0 : Nat} {p1 : Int32} {p2 : Int32} {p3 : Int32} {h : mxH} {out : ((Int32 ⊕ String) × mxH)} (hf : fX9_pairSum p0 p1 p2 p3 h = some out) : mxMet l Z yX9_pairSum cX9_pairSum 4 (some .int) rmX9_pairSum [.ref p0, .int p1, .int p2, .int p3] h (mxRI out.1) out.2 := by
  refine mxMet_of (by decide) hl (by simp [Value.category]) (Nat.le_of_ble_eq_true rfl) ?_
  intro X C E hX hin
  unfold fX9_pairSum at hf
  refine mG_aload_n (pc := 0) C dX9_pairSum_0 rfl ?_
  refine mG_iload_n (pc := 1) C dX9_pairSum_1 rfl ?_
  refine mG_iload_n (pc := 2) C dX9_pairSum_2 rfl ?_
  refine mG_iload_n (pc := 3) C dX9_pairSum_3 rfl ?_
  obtain ⟨u1, e2, hf⟩ := mx_bind hf
  rcases mx_then hf with ⟨v4, h5, e3, hf⟩ | ⟨E6, h5, e3, hf⟩
  · refine mG_cV (pc := 4) (k' := 3) (n' := 18) 9 [.int p1, .int p2, .int p3] [] C hX dX9_pairSum_4 lkV_X9_265 rfl rfl e2 (tX9_findPair hl e3) rfl rfl rfl rfl ?_
    refine mG_aload_n (pc := 7) C dX9_pairSum_7 rfl ?_
    obtain ⟨r7, e8, hf⟩ := mx_bind hf
    refine mG_getR (pc := 8) C dX9_pairSum_8 fl_X9_64 e8 ?_
    obtain ⟨v9, e10, hf⟩ := mx_bind hf
    refine mG_getI (pc := 11) C dX9_pairSum_11 fl_X9_268 e10 ?_
    cases hf
    exact mG_ir (pc := 14) C E hX dX9_pairSum_14 rfl
  · cases hf
    exact mG_cVX (pc := 4) 9 [.int p1, .int p2, .int p3] [] C E hX dX9_pairSum_4 lkV_X9_265 rfl rfl e2 (tX9_findPair hl e3) rfl rfl
theorem dX9_pairPlace_0 : decode cX9_pairPlace 0 = .ok (.aload_n 0, 1) := by decide +kernel
theorem dX9_pairPlace_1 : decode cX9_pairPlace 1 = .ok (.iload_n 1, 1) := by decide +kernel
theorem dX9_pairPlace_2 : decode cX9_pairPlace 2 = .ok (.iload_n 2, 1) := by decide +kernel
theorem dX9_pairPlace_3 : decode cX9_pairPlace 3 = .ok (.iload_n 3, 1) := by decide +kernel
theorem dX9_pairPlace_4 : decode cX9_pairPlace 4 = .ok (.invokevirtual 265, 3) := by decide +kernel
theorem dX9_pairPlace_7 : decode cX9_pairPlace 7 = .ok (.iload 4, 2) := by decide +kernel
theorem dX9_pairPlace_9 : decode cX9_pairPlace 9 = .ok (.ifCond .eq 13, 3) := by decide +kernel
theorem dX9_pairPlace_12 : decode cX9_pairPlace 12 = .ok (.aload_n 0, 1) := by decide +kernel
theorem dX9_pairPlace_13 : decode cX9_pairPlace 13 = .ok (.getfield 64, 3) := by decide +kernel
theorem dX9_pairPlace_16 : decode cX9_pairPlace 16 = .ok (.getfield 271, 3) := by decide +kernel
theorem dX9_pairPlace_19 : decode cX9_pairPlace 19 = .ok (.goto 10, 3) := by decide +kernel
theorem dX9_pairPlace_22 : decode cX9_pairPlace 22 = .ok (.aload_n 0, 1) := by decide +kernel
theorem dX9_pairPlace_23 : decode cX9_pairPlace 23 = .ok (.getfield 64, 3) := by decide +kernel
theorem dX9_pairPlace_26 : decode cX9_pairPlace 26 = .ok (.getfield 274, 3) := by decide +kernel
theorem dX9_pairPlace_29 : decode cX9_pairPlace 29 = .ok (.ireturn, 1) := by decide +kernel
def fX9_pairPlace (p0 : Nat) (p1 : Int32) (p2 : Int32) (p3 : Int32) (p4 : Int32) (h : mxH) : Option ((Int32 ⊕ String) × mxH) := Option.bind (isO h p0 9) (fun u1 => mxThen (fX9_findPair p0 p1 p2 p3 h) (fun v4 h5 => Option.bind (α := Int32) (if p4 = 0 then Option.bind (gR h5 p0 9 8) (fun r11 => Option.bind (gI h5 r11 3 2) (fun v13 => some v13)) else Option.bind (gR h5 p0 9 8) (fun r15 => Option.bind (gI h5 r15 3 3) (fun v17 => some v17))) (fun p9' : Int32 => some (Sum.inl p9', h5))))
abbrev rmX9_pairPlace : Room := { frames := 8, cells := 3, slots := 18, locals := 145 }
set_option maxRecDepth 20000 in
theorem tX9_pairPlace {l : Launch} {Z : mxZ} (hl : l.stackTraces = false) {p0 : Nat} {p1 : Int32} {p2 : Int32} {p3 : Int32} {p4 : Int32} {h : mxH} {out : ((Int32 ⊕ String) × mxH)} (hf : fX9_pairPlace p0 p1 p2 p3 p4 h = some out) : mxMet l Z yX9_pairPlace cX9_pairPlace 5 (some .int) rmX9_pairPlace [.ref p0, .int p1, .int p2, .int p3, .int p4] h (mxRI out.1) out.2 := by
  refine mxMet_of (by decide) hl (by simp [Value.category]) (Nat.le_of_ble_eq_true rfl) ?_
  intro X C E hX hin
  unfold fX9_pairPlace at hf
  refine mG_aload_n (pc := 0) C dX9_pairPlace_0 rfl ?_
  refine mG_iload_n (pc := 1) C dX9_pairPlace_1 rfl ?_
  refine mG_iload_n (pc := 2) C dX9_pairPlace_2 rfl ?_
  refine mG_iload_n (pc := 3) C dX9_pairPlace_3 rfl ?_
  obtain ⟨u1, e2, hf⟩ := mx_bind hf
  rcases mx_then hf with ⟨v4, h5, e3, hf⟩ | ⟨E6, h5, e3, hf⟩
  · refine mG_cV (pc := 4) (k' := 3) (n' := 18) 9 [.int p1, .int p2, .int p3] [] C hX dX9_pairPlace_4 lkV_X9_265 rfl rfl e2 (tX9_findPair hl e3) rfl rfl rfl rfl ?_
    refine mG_iload (pc := 7) C dX9_pairPlace_7 rfl ?_
    obtain ⟨p9, e10, hf⟩ := mx_bind hf
    have J8 : ∀ p9' : Int32, p9' = p9 → mG l Z X 5 3 18 29 [none, none, none, none, none] [.int p9'] h5 := by
      intro p9' q19
      subst q19
      cases hf
      exact mG_ir (pc := 29) C E hX dX9_pairPlace_29 rfl
    refine mG_if_eq (pc := 9) (tgt := 22) C dX9_pairPlace_9 (by decide) (fun q7 => ?_) (fun q7 => ?_)
    · rw [if_pos q7] at e10
      refine mG_aload_n (pc := 22) C dX9_pairPlace_22 rfl ?_
      obtain ⟨r11, e12, e10⟩ := mx_bind e10
      refine mG_getR (pc := 23) C dX9_pairPlace_23 fl_X9_64 e12 ?_
      obtain ⟨v13, e14, e10⟩ := mx_bind e10
      refine mG_getI (pc := 26) C dX9_pairPlace_26 fl_X9_274 e14 ?_
      exact mG_sub (mxLe_n (mxLe_n (mxLe_n (mxLe_n (mxLe_n mxLe_z))))) (J8 _ (Option.some.inj e10))
    · rw [if_neg q7] at e10
      refine mG_aload_n (pc := 12) C dX9_pairPlace_12 rfl ?_
      obtain ⟨r15, e16, e10⟩ := mx_bind e10
      refine mG_getR (pc := 13) C dX9_pairPlace_13 fl_X9_64 e16 ?_
      obtain ⟨v17, e18, e10⟩ := mx_bind e10
      refine mG_getI (pc := 16) C dX9_pairPlace_16 fl_X9_271 e18 ?_
      refine mG_goto (tgt := 29) (pc := 19) C dX9_pairPlace_19 (by decide) ?_
      exact mG_sub (mxLe_n (mxLe_n (mxLe_n (mxLe_n (mxLe_n mxLe_z))))) (J8 _ (Option.some.inj e10))
  · cases hf
    exact mG_cVX (pc := 4) 9 [.int p1, .int p2, .int p3] [] C E hX dX9_pairPlace_4 lkV_X9_265 rfl rfl e2 (tX9_findPair hl e3) rfl rfl
theorem dX9_common_0 : decode cX9_common 0 = .ok (.iload_n 1, 1) := by decide +kernel
theorem dX9_common_1 : decode cX9_common 1 = .ok (.invokestatic 79, 3) := by decide +kernel
theorem dX9_common_4 : decode cX9_common 4 = .ok (.iload_n 2, 1) := by decide +kernel
theorem dX9_common_5 : decode cX9_common 5 = .ok (.invokestatic 79, 3) := by decide +kernel
theorem dX9_common_8 : decode cX9_common 8 = .ok (.aload_n 0, 1) := by decide +kernel
theorem dX9_common_9 : decode cX9_common 9 = .ok (.getfield 12, 3) := by decide +kernel
theorem dX9_common_12 : decode cX9_common 12 = .ok (.getfield 72, 3) := by decide +kernel
theorem dX9_common_15 : decode cX9_common 15 = .ok (.iload_n 1, 1) := by decide +kernel
theorem dX9_common_16 : decode cX9_common 16 = .ok (.iload_n 2, 1) := by decide +kernel
theorem dX9_common_17 : decode cX9_common 17 = .ok (.invokevirtual 277, 3) := by decide +kernel
theorem dX9_common_20 : decode cX9_common 20 = .ok (.ireturn, 1) := by decide +kernel
def fX9_common (p0 : Nat) (p1 : Int32) (p2 : Int32) (h : mxH) : Option ((Int32 ⊕ String) × mxH) := mxThen (fX9_requireRow p1 h) (fun v2 h3 => mxThen (fX9_requireRow p2 h3) (fun v6 h7 => Option.bind (gR h7 p0 9 0) (fun r9 => Option.bind (gR h7 r9 7 0) (fun r11 => Option.bind (isO h7 r11 6) (fun u13 => Option.bind (fX6_countCommon r11 p1 p2 h7) (fun v16 => some (Sum.inl v16, h7)))))))
abbrev rmX9_common : Room := { frames := 7, cells := 2, slots := 12, locals := 121 }
set_option maxRecDepth 20000 in
theorem tX9_common {l : Launch} {Z : mxZ} (hl : l.stackTraces = false) {p0 : Nat} {p1 : Int32} {p2 : Int32} {h : mxH} {out : ((Int32 ⊕ String) × mxH)} (hf : fX9_common p0 p1 p2 h = some out) : mxMet l Z yX9_common cX9_common 3 (some .int) rmX9_common [.ref p0, .int p1, .int p2] h (mxRI out.1) out.2 := by
  refine mxMet_of (by decide) hl (by simp [Value.category]) (Nat.le_of_ble_eq_true rfl) ?_
  intro X C E hX hin
  unfold fX9_common at hf
  refine mG_iload_n (pc := 0) C dX9_common_0 rfl ?_
  rcases mx_then hf with ⟨v2, h3, e1, hf⟩ | ⟨E4, h3, e1, hf⟩
  · refine mG_cS (pc := 1) (k' := 1) (n' := 6) [.int p1] [] C hX dX9_common_1 lkS_X9_79 rfl (tX9_requireRow hl e1) rfl rfl rfl rfl ?_
    refine mG_iload_n (pc := 4) C dX9_common_4 rfl ?_
    rcases mx_then hf with ⟨v6, h7, e5, hf⟩ | ⟨E8, h7, e5, hf⟩
    · refine mG_cS (pc := 5) (k' := 2) (n' := 12) [.int p2] [] C hX dX9_common_5 lkS_X9_79 rfl (tX9_requireRow hl e5) rfl rfl rfl rfl ?_
      refine mG_aload_n (pc := 8) C dX9_common_8 rfl ?_
      obtain ⟨r9, e10, hf⟩ := mx_bind hf
      refine mG_getR (pc := 9) C dX9_common_9 fl_X9_12 e10 ?_
      obtain ⟨r11, e12, hf⟩ := mx_bind hf
      refine mG_getR (pc := 12) C dX9_common_12 fl_X9_72 e12 ?_
      refine mG_iload_n (pc := 15) C dX9_common_15 rfl ?_
      refine mG_iload_n (pc := 16) C dX9_common_16 rfl ?_
      obtain ⟨u13, e14, hf⟩ := mx_bind hf
      obtain ⟨v16, e15, hf⟩ := mx_bind hf
      refine mG_cV (pc := 17) (k' := 2) (n' := 12) 6 [.int p1, .int p2] [] C hX dX9_common_17 lkV_X9_277 rfl rfl e14 (tX6_countCommon hl e15) rfl rfl rfl rfl ?_
      cases hf
      exact mG_ir (pc := 20) C E hX dX9_common_20 rfl
    · cases hf
      exact mG_cSX (pc := 5) [.int p2] [] C E hX dX9_common_5 lkS_X9_79 rfl (tX9_requireRow hl e5) rfl rfl
  · cases hf
    exact mG_cSX (pc := 1) [.int p1] [] C E hX dX9_common_1 lkS_X9_79 rfl (tX9_requireRow hl e1) rfl rfl
theorem dX9_commonAt_0 : decode cX9_commonAt 0 = .ok (.iload_n 1, 1) := by decide +kernel
theorem dX9_commonAt_1 : decode cX9_commonAt 1 = .ok (.invokestatic 79, 3) := by decide +kernel
theorem dX9_commonAt_4 : decode cX9_commonAt 4 = .ok (.iload_n 2, 1) := by decide +kernel
theorem dX9_commonAt_5 : decode cX9_commonAt 5 = .ok (.invokestatic 79, 3) := by decide +kernel
theorem dX9_commonAt_8 : decode cX9_commonAt 8 = .ok (.iload_n 3, 1) := by decide +kernel
theorem dX9_commonAt_9 : decode cX9_commonAt 9 = .ok (.aload_n 0, 1) := by decide +kernel
theorem dX9_commonAt_10 : decode cX9_commonAt 10 = .ok (.getfield 12, 3) := by decide +kernel
theorem dX9_commonAt_13 : decode cX9_commonAt 13 = .ok (.getfield 72, 3) := by decide +kernel
theorem dX9_commonAt_16 : decode cX9_commonAt 16 = .ok (.iload_n 1, 1) := by decide +kernel
theorem dX9_commonAt_17 : decode cX9_commonAt 17 = .ok (.iload_n 2, 1) := by decide +kernel
theorem dX9_commonAt_18 : decode cX9_commonAt 18 = .ok (.invokevirtual 277, 3) := by decide +kernel
theorem dX9_commonAt_21 : decode cX9_commonAt 21 = .ok (.invokestatic 138, 3) := by decide +kernel
theorem dX9_commonAt_24 : decode cX9_commonAt 24 = .ok (.aload_n 0, 1) := by decide +kernel
theorem dX9_commonAt_25 : decode cX9_commonAt 25 = .ok (.getfield 12, 3) := by decide +kernel
theorem dX9_commonAt_28 : decode cX9_commonAt 28 = .ok (.getfield 72, 3) := by decide +kernel
theorem dX9_commonAt_31 : decode cX9_commonAt 31 = .ok (.iload_n 1, 1) := by decide +kernel
theorem dX9_commonAt_32 : decode cX9_commonAt 32 = .ok (.iload_n 2, 1) := by decide +kernel
theorem dX9_commonAt_33 : decode cX9_commonAt 33 = .ok (.iload_n 3, 1) := by decide +kernel
theorem dX9_commonAt_34 : decode cX9_commonAt 34 = .ok (.invokevirtual 280, 3) := by decide +kernel
theorem dX9_commonAt_37 : decode cX9_commonAt 37 = .ok (.ireturn, 1) := by decide +kernel
def fX9_commonAt (p0 : Nat) (p1 : Int32) (p2 : Int32) (p3 : Int32) (h : mxH) : Option ((Int32 ⊕ String) × mxH) := mxThen (fX9_requireRow p1 h) (fun v2 h3 => mxThen (fX9_requireRow p2 h3) (fun v6 h7 => Option.bind (gR h7 p0 9 0) (fun r9 => Option.bind (gR h7 r9 7 0) (fun r11 => Option.bind (isO h7 r11 6) (fun u13 => Option.bind (fX6_countCommon r11 p1 p2 h7) (fun v16 => mxThen (fX9_requirePlace p3 v16 h7) (fun v18 h19 => Option.bind (gR h19 p0 9 0) (fun r21 => Option.bind (gR h19 r21 7 0) (fun r23 => Option.bind (isO h19 r23 6) (fun u25 => Option.bind (fX6_commonOn r23 p1 p2 p3 h19) (fun v28 => some (Sum.inl v28, h19))))))))))))
abbrev rmX9_commonAt : Room := { frames := 7, cells := 3, slots := 18, locals := 122 }
set_option maxRecDepth 20000 in
theorem tX9_commonAt {l : Launch} {Z : mxZ} (hl : l.stackTraces = false) {p0 : Nat} {p1 : Int32} {p2 : Int32} {p3 : Int32} {h : mxH} {out : ((Int32 ⊕ String) × mxH)} (hf : fX9_commonAt p0 p1 p2 p3 h = some out) : mxMet l Z yX9_commonAt cX9_commonAt 4 (some .int) rmX9_commonAt [.ref p0, .int p1, .int p2, .int p3] h (mxRI out.1) out.2 := by
  refine mxMet_of (by decide) hl (by simp [Value.category]) (Nat.le_of_ble_eq_true rfl) ?_
  intro X C E hX hin
  unfold fX9_commonAt at hf
  refine mG_iload_n (pc := 0) C dX9_commonAt_0 rfl ?_
  rcases mx_then hf with ⟨v2, h3, e1, hf⟩ | ⟨E4, h3, e1, hf⟩
  · refine mG_cS (pc := 1) (k' := 1) (n' := 6) [.int p1] [] C hX dX9_commonAt_1 lkS_X9_79 rfl (tX9_requireRow hl e1) rfl rfl rfl rfl ?_
    refine mG_iload_n (pc := 4) C dX9_commonAt_4 rfl ?_
    rcases mx_then hf with ⟨v6, h7, e5, hf⟩ | ⟨E8, h7, e5, hf⟩
    · refine mG_cS (pc := 5) (k' := 2) (n' := 12) [.int p2] [] C hX dX9_commonAt_5 lkS_X9_79 rfl (tX9_requireRow hl e5) rfl rfl rfl rfl ?_
      refine mG_iload_n (pc := 8) C dX9_commonAt_8 rfl ?_
      refine mG_aload_n (pc := 9) C dX9_commonAt_9 rfl ?_
      obtain ⟨r9, e10, hf⟩ := mx_bind hf
      refine mG_getR (pc := 10) C dX9_commonAt_10 fl_X9_12 e10 ?_
      obtain ⟨r11, e12, hf⟩ := mx_bind hf
      refine mG_getR (pc := 13) C dX9_commonAt_13 fl_X9_72 e12 ?_
      refine mG_iload_n (pc := 16) C dX9_commonAt_16 rfl ?_
      refine mG_iload_n (pc := 17) C dX9_commonAt_17 rfl ?_
      obtain ⟨u13, e14, hf⟩ := mx_bind hf
      obtain ⟨v16, e15, hf⟩ := mx_bind hf
      refine mG_cV (pc := 18) (k' := 2) (n' := 12) 6 [.int p1, .int p2] [.int p3] C hX dX9_commonAt_18 lkV_X9_277 rfl rfl e14 (tX6_countCommon hl e15) rfl rfl rfl rfl ?_
      rcases mx_then hf with ⟨v18, h19, e17, hf⟩ | ⟨E20, h19, e17, hf⟩
      · refine mG_cS (pc := 21) (k' := 3) (n' := 18) [.int p3, .int v16] [] C hX dX9_commonAt_21 lkS_X9_138 rfl (tX9_requirePlace hl e17) rfl rfl rfl rfl ?_
        refine mG_aload_n (pc := 24) C dX9_commonAt_24 rfl ?_
        obtain ⟨r21, e22, hf⟩ := mx_bind hf
        refine mG_getR (pc := 25) C dX9_commonAt_25 fl_X9_12 e22 ?_
        obtain ⟨r23, e24, hf⟩ := mx_bind hf
        refine mG_getR (pc := 28) C dX9_commonAt_28 fl_X9_72 e24 ?_
        refine mG_iload_n (pc := 31) C dX9_commonAt_31 rfl ?_
        refine mG_iload_n (pc := 32) C dX9_commonAt_32 rfl ?_
        refine mG_iload_n (pc := 33) C dX9_commonAt_33 rfl ?_
        obtain ⟨u25, e26, hf⟩ := mx_bind hf
        obtain ⟨v28, e27, hf⟩ := mx_bind hf
        refine mG_cV (pc := 34) (k' := 3) (n' := 18) 6 [.int p1, .int p2, .int p3] [] C hX dX9_commonAt_34 lkV_X9_280 rfl rfl e26 (tX6_commonOn hl e27) rfl rfl rfl rfl ?_
        cases hf
        exact mG_ir (pc := 37) C E hX dX9_commonAt_37 rfl
      · cases hf
        exact mG_cSX (pc := 21) [.int p3, .int v16] [] C E hX dX9_commonAt_21 lkS_X9_138 rfl (tX9_requirePlace hl e17) rfl rfl
    · cases hf
      exact mG_cSX (pc := 5) [.int p2] [] C E hX dX9_commonAt_5 lkS_X9_79 rfl (tX9_requireRow hl e5) rfl rfl
  · cases hf
    exact mG_cSX (pc := 1) [.int p1] [] C E hX dX9_commonAt_1 lkS_X9_79 rfl (tX9_requireRow hl e1) rfl rfl
theorem dX9_errors_0 : decode cX9_errors 0 = .ok (.aload_n 0, 1) := by decide +kernel
theorem dX9_errors_1 : decode cX9_errors 1 = .ok (.getfield 33, 3) := by decide +kernel
theorem dX9_errors_4 : decode cX9_errors 4 = .ok (.aload_n 0, 1) := by decide +kernel
theorem dX9_errors_5 : decode cX9_errors 5 = .ok (.getfield 12, 3) := by decide +kernel
theorem dX9_errors_8 : decode cX9_errors 8 = .ok (.getfield 72, 3) := by decide +kernel
theorem dX9_errors_11 : decode cX9_errors 11 = .ok (.invokevirtual 153, 3) := by decide +kernel
theorem dX9_errors_14 : decode cX9_errors 14 = .ok (.aload_n 0, 1) := by decide +kernel
theorem dX9_errors_15 : decode cX9_errors 15 = .ok (.getfield 43, 3) := by decide +kernel
theorem dX9_errors_18 : decode cX9_errors 18 = .ok (.aload_n 0, 1) := by decide +kernel
theorem dX9_errors_19 : decode cX9_errors 19 = .ok (.getfield 12, 3) := by decide +kernel
theorem dX9_errors_22 : decode cX9_errors 22 = .ok (.getfield 72, 3) := by decide +kernel
theorem dX9_errors_25 : decode cX9_errors 25 = .ok (.aload_n 0, 1) := by decide +kernel
theorem dX9_errors_26 : decode cX9_errors 26 = .ok (.getfield 33, 3) := by decide +kernel
theorem dX9_errors_29 : decode cX9_errors 29 = .ok (.invokevirtual 288, 3) := by decide +kernel
theorem dX9_errors_32 : decode cX9_errors 32 = .ok (.aload_n 0, 1) := by decide +kernel
theorem dX9_errors_33 : decode cX9_errors 33 = .ok (.getfield 43, 3) := by decide +kernel
theorem dX9_errors_36 : decode cX9_errors 36 = .ok (.aload_n 0, 1) := by decide +kernel
theorem dX9_errors_37 : decode cX9_errors 37 = .ok (.getfield 12, 3) := by decide +kernel
theorem dX9_errors_40 : decode cX9_errors 40 = .ok (.getfield 72, 3) := by decide +kernel
theorem dX9_errors_43 : decode cX9_errors 43 = .ok (.invokevirtual 195, 3) := by decide +kernel
theorem dX9_errors_46 : decode cX9_errors 46 = .ok (.aload_n 0, 1) := by decide +kernel
theorem dX9_errors_47 : decode cX9_errors 47 = .ok (.getfield 50, 3) := by decide +kernel
theorem dX9_errors_50 : decode cX9_errors 50 = .ok (.aload_n 0, 1) := by decide +kernel
theorem dX9_errors_51 : decode cX9_errors 51 = .ok (.getfield 12, 3) := by decide +kernel
theorem dX9_errors_54 : decode cX9_errors 54 = .ok (.getfield 72, 3) := by decide +kernel
theorem dX9_errors_57 : decode cX9_errors 57 = .ok (.invokevirtual 208, 3) := by decide +kernel
theorem dX9_errors_60 : decode cX9_errors 60 = .ok (.aload_n 0, 1) := by decide +kernel
theorem dX9_errors_61 : decode cX9_errors 61 = .ok (.getfield 43, 3) := by decide +kernel
theorem dX9_errors_64 : decode cX9_errors 64 = .ok (.aload_n 0, 1) := by decide +kernel
theorem dX9_errors_65 : decode cX9_errors 65 = .ok (.getfield 12, 3) := by decide +kernel
theorem dX9_errors_68 : decode cX9_errors 68 = .ok (.getfield 72, 3) := by decide +kernel
theorem dX9_errors_71 : decode cX9_errors 71 = .ok (.aload_n 0, 1) := by decide +kernel
theorem dX9_errors_72 : decode cX9_errors 72 = .ok (.getfield 33, 3) := by decide +kernel
theorem dX9_errors_75 : decode cX9_errors 75 = .ok (.invokevirtual 292, 3) := by decide +kernel
theorem dX9_errors_78 : decode cX9_errors 78 = .ok (.aload_n 0, 1) := by decide +kernel
theorem dX9_errors_79 : decode cX9_errors 79 = .ok (.getfield 50, 3) := by decide +kernel
theorem dX9_errors_82 : decode cX9_errors 82 = .ok (.aload_n 0, 1) := by decide +kernel
theorem dX9_errors_83 : decode cX9_errors 83 = .ok (.getfield 12, 3) := by decide +kernel
theorem dX9_errors_86 : decode cX9_errors 86 = .ok (.getfield 72, 3) := by decide +kernel
theorem dX9_errors_89 : decode cX9_errors 89 = .ok (.invokevirtual 296, 3) := by decide +kernel
theorem dX9_errors_92 : decode cX9_errors 92 = .ok (.iadd, 1) := by decide +kernel
theorem dX9_errors_93 : decode cX9_errors 93 = .ok (.ireturn, 1) := by decide +kernel
def fX9_errors (p0 : Nat) (h : mxH) : Option (Int32 × mxH) := Option.bind (gR h p0 9 3) (fun r1 => Option.bind (gR h p0 9 0) (fun r3 => Option.bind (gR h r3 7 0) (fun r5 => Option.bind (isO h r1 4) (fun u7 => Option.bind (fX4_rankAll r1 r5 h) (fun o10 => Option.bind (gR o10 p0 9 5) (fun r11 => Option.bind (gR o10 p0 9 0) (fun r13 => Option.bind (gR o10 r13 7 0) (fun r15 => Option.bind (gR o10 p0 9 3) (fun r17 => Option.bind (isO o10 r11 5) (fun u19 => Option.bind (fX5_findStops r11 r15 r17 o10) (fun o22 => Option.bind (gR o22 p0 9 5) (fun r23 => Option.bind (gR o22 p0 9 0) (fun r25 => Option.bind (gR o22 r25 7 0) (fun r27 => Option.bind (isO o22 r23 5) (fun u29 => Option.bind (fX5_findPlainStops r23 r27 o22) (fun o32 => Option.bind (gR o32 p0 9 6) (fun r33 => Option.bind (gR o32 p0 9 0) (fun r35 => Option.bind (gR o32 r35 7 0) (fun r37 => Option.bind (isO o32 r33 1) (fun u39 => Option.bind (fX1_mergeAll r33 r37 o32) (fun o42 => Option.bind (gR o42 p0 9 5) (fun r43 => Option.bind (gR o42 p0 9 0) (fun r45 => Option.bind (gR o42 r45 7 0) (fun r47 => Option.bind (gR o42 p0 9 3) (fun r49 => Option.bind (isO o42 r43 5) (fun u51 => Option.bind (fX5_countFaults r43 r47 r49 o42) (fun v54 => Option.bind (gR o42 p0 9 6) (fun r55 => Option.bind (gR o42 p0 9 0) (fun r57 => Option.bind (gR o42 r57 7 0) (fun r59 => Option.bind (isO o42 r55 1) (fun u61 => Option.bind (fX1_countFaults r55 r59 o42) (fun v64 => some (v54 + v64, o42)))))))))))))))))))))))))))))))))
abbrev rmX9_errors : Room := { frames := 6, cells := 0, slots := 0, locals := 135 }
set_option maxRecDepth 20000 in
theorem tX9_errors {l : Launch} {Z : mxZ} (hl : l.stackTraces = false) {p0 : Nat} {h : mxH} {out : (Int32 × mxH)} (hf : fX9_errors p0 h = some out) : mxMet l Z yX9_errors cX9_errors 1 (some .int) rmX9_errors [.ref p0] h (.inl (some (.int out.1))) out.2 := by
  refine mxMet_of (by decide) hl (by simp [Value.category]) (Nat.le_of_ble_eq_true rfl) ?_
  intro X C E hX hin
  unfold fX9_errors at hf
  refine mG_aload_n (pc := 0) C dX9_errors_0 rfl ?_
  obtain ⟨r1, e2, hf⟩ := mx_bind hf
  refine mG_getR (pc := 1) C dX9_errors_1 fl_X9_33 e2 ?_
  refine mG_aload_n (pc := 4) C dX9_errors_4 rfl ?_
  obtain ⟨r3, e4, hf⟩ := mx_bind hf
  refine mG_getR (pc := 5) C dX9_errors_5 fl_X9_12 e4 ?_
  obtain ⟨r5, e6, hf⟩ := mx_bind hf
  refine mG_getR (pc := 8) C dX9_errors_8 fl_X9_72 e6 ?_
  obtain ⟨u7, e8, hf⟩ := mx_bind hf
  obtain ⟨o10, e9, hf⟩ := mx_bind hf
  refine mG_cV (pc := 11) (k' := 0) (n' := 0) 4 [.ref r5] [] C hX dX9_errors_11 lkV_X9_153 rfl rfl e8 (tX4_rankAll hl e9) rfl rfl rfl rfl ?_
  refine mG_aload_n (pc := 14) C dX9_errors_14 rfl ?_
  obtain ⟨r11, e12, hf⟩ := mx_bind hf
  refine mG_getR (pc := 15) C dX9_errors_15 fl_X9_43 e12 ?_
  refine mG_aload_n (pc := 18) C dX9_errors_18 rfl ?_
  obtain ⟨r13, e14, hf⟩ := mx_bind hf
  refine mG_getR (pc := 19) C dX9_errors_19 fl_X9_12 e14 ?_
  obtain ⟨r15, e16, hf⟩ := mx_bind hf
  refine mG_getR (pc := 22) C dX9_errors_22 fl_X9_72 e16 ?_
  refine mG_aload_n (pc := 25) C dX9_errors_25 rfl ?_
  obtain ⟨r17, e18, hf⟩ := mx_bind hf
  refine mG_getR (pc := 26) C dX9_errors_26 fl_X9_33 e18 ?_
  obtain ⟨u19, e20, hf⟩ := mx_bind hf
  obtain ⟨o22, e21, hf⟩ := mx_bind hf
  refine mG_cV (pc := 29) (k' := 0) (n' := 0) 5 [.ref r15, .ref r17] [] C hX dX9_errors_29 lkV_X9_288 rfl rfl e20 (tX5_findStops hl e21) rfl rfl rfl rfl ?_
  refine mG_aload_n (pc := 32) C dX9_errors_32 rfl ?_
  obtain ⟨r23, e24, hf⟩ := mx_bind hf
  refine mG_getR (pc := 33) C dX9_errors_33 fl_X9_43 e24 ?_
  refine mG_aload_n (pc := 36) C dX9_errors_36 rfl ?_
  obtain ⟨r25, e26, hf⟩ := mx_bind hf
  refine mG_getR (pc := 37) C dX9_errors_37 fl_X9_12 e26 ?_
  obtain ⟨r27, e28, hf⟩ := mx_bind hf
  refine mG_getR (pc := 40) C dX9_errors_40 fl_X9_72 e28 ?_
  obtain ⟨u29, e30, hf⟩ := mx_bind hf
  obtain ⟨o32, e31, hf⟩ := mx_bind hf
  refine mG_cV (pc := 43) (k' := 0) (n' := 0) 5 [.ref r27] [] C hX dX9_errors_43 lkV_X9_195 rfl rfl e30 (tX5_findPlainStops hl e31) rfl rfl rfl rfl ?_
  refine mG_aload_n (pc := 46) C dX9_errors_46 rfl ?_
  obtain ⟨r33, e34, hf⟩ := mx_bind hf
  refine mG_getR (pc := 47) C dX9_errors_47 fl_X9_50 e34 ?_
  refine mG_aload_n (pc := 50) C dX9_errors_50 rfl ?_
  obtain ⟨r35, e36, hf⟩ := mx_bind hf
  refine mG_getR (pc := 51) C dX9_errors_51 fl_X9_12 e36 ?_
  obtain ⟨r37, e38, hf⟩ := mx_bind hf
  refine mG_getR (pc := 54) C dX9_errors_54 fl_X9_72 e38 ?_
  obtain ⟨u39, e40, hf⟩ := mx_bind hf
  obtain ⟨o42, e41, hf⟩ := mx_bind hf
  refine mG_cV (pc := 57) (k' := 0) (n' := 0) 1 [.ref r37] [] C hX dX9_errors_57 lkV_X9_208 rfl rfl e40 (tX1_mergeAll hl e41) rfl rfl rfl rfl ?_
  refine mG_aload_n (pc := 60) C dX9_errors_60 rfl ?_
  obtain ⟨r43, e44, hf⟩ := mx_bind hf
  refine mG_getR (pc := 61) C dX9_errors_61 fl_X9_43 e44 ?_
  refine mG_aload_n (pc := 64) C dX9_errors_64 rfl ?_
  obtain ⟨r45, e46, hf⟩ := mx_bind hf
  refine mG_getR (pc := 65) C dX9_errors_65 fl_X9_12 e46 ?_
  obtain ⟨r47, e48, hf⟩ := mx_bind hf
  refine mG_getR (pc := 68) C dX9_errors_68 fl_X9_72 e48 ?_
  refine mG_aload_n (pc := 71) C dX9_errors_71 rfl ?_
  obtain ⟨r49, e50, hf⟩ := mx_bind hf
  refine mG_getR (pc := 72) C dX9_errors_72 fl_X9_33 e50 ?_
  obtain ⟨u51, e52, hf⟩ := mx_bind hf
  obtain ⟨v54, e53, hf⟩ := mx_bind hf
  refine mG_cV (pc := 75) (k' := 0) (n' := 0) 5 [.ref r47, .ref r49] [] C hX dX9_errors_75 lkV_X9_292 rfl rfl e52 (tX5_countFaults hl e53) rfl rfl rfl rfl ?_
  refine mG_aload_n (pc := 78) C dX9_errors_78 rfl ?_
  obtain ⟨r55, e56, hf⟩ := mx_bind hf
  refine mG_getR (pc := 79) C dX9_errors_79 fl_X9_50 e56 ?_
  refine mG_aload_n (pc := 82) C dX9_errors_82 rfl ?_
  obtain ⟨r57, e58, hf⟩ := mx_bind hf
  refine mG_getR (pc := 83) C dX9_errors_83 fl_X9_12 e58 ?_
  obtain ⟨r59, e60, hf⟩ := mx_bind hf
  refine mG_getR (pc := 86) C dX9_errors_86 fl_X9_72 e60 ?_
  obtain ⟨u61, e62, hf⟩ := mx_bind hf
  obtain ⟨v64, e63, hf⟩ := mx_bind hf
  refine mG_cV (pc := 89) (k' := 0) (n' := 0) 1 [.ref r59] [.int v54] C hX dX9_errors_89 lkV_X9_296 rfl rfl e62 (tX1_countFaults hl e63) rfl rfl rfl rfl ?_
  refine mG_iadd (pc := 92) C dX9_errors_92 ?_
  cases hf
  exact mG_ir (pc := 93) C E hX dX9_errors_93 rfl
