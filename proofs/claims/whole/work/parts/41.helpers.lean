/-! printed by wip/gen/emit_law.py: the law's helpers -/
theorem dL_put_0 : decode cL_put 0 = .ok (.aload 4, 2) := by decide +kernel
theorem dL_put_2 : decode cL_put 2 = .ok (.iconst 0, 1) := by decide +kernel
theorem dL_put_3 : decode cL_put 3 = .ok (.aload_n 0, 1) := by decide +kernel
theorem dL_put_4 : decode cL_put 4 = .ok (.iload_n 1, 1) := by decide +kernel
theorem dL_put_5 : decode cL_put 5 = .ok (.iload_n 2, 1) := by decide +kernel
theorem dL_put_6 : decode cL_put 6 = .ok (.iload_n 3, 1) := by decide +kernel
theorem dL_put_7 : decode cL_put 7 = .ok (.invokevirtual 7, 3) := by decide +kernel
theorem dL_put_10 : decode cL_put 10 = .ok (.i2l, 1) := by decide +kernel
theorem dL_put_11 : decode cL_put 11 = .ok (.lastore, 1) := by decide +kernel
theorem dL_put_12 : decode cL_put 12 = .ok (.goto 11, 3) := by decide +kernel
theorem dL_put_15 : decode cL_put 15 = .ok (.astore 5, 2) := by decide +kernel
theorem dL_put_17 : decode cL_put 17 = .ok (.iconst 1, 1) := by decide +kernel
theorem dL_put_18 : decode cL_put 18 = .ok (.ireturn, 1) := by decide +kernel
theorem dL_put_19 : decode cL_put 19 = .ok (.astore 5, 2) := by decide +kernel
theorem dL_put_21 : decode cL_put 21 = .ok (.iconst 2, 1) := by decide +kernel
theorem dL_put_22 : decode cL_put 22 = .ok (.ireturn, 1) := by decide +kernel
theorem dL_put_23 : decode cL_put 23 = .ok (.iconst 0, 1) := by decide +kernel
theorem dL_put_24 : decode cL_put 24 = .ok (.ireturn, 1) := by decide +kernel
def fL_put (p0 : Nat) (p1 : Int32) (p2 : Int32) (p3 : Int32) (p4 : Nat) (h : mxH) : Option (Int32 × mxH) := Option.bind (isO h p0 9) (fun u2 => mxCatch (fX9_put p0 p1 p2 p3 h) (fun v4 h5 => Option.bind (stJ h5 p4 0 v4.toInt64) (fun h7 => some (0, h7))) (fun E6 h5 => (if E6 = "java/lang/IndexOutOfBoundsException" then some (1, h5) else (if E6 = "java/lang/IllegalArgumentException" then some (2, h5) else none))))
abbrev rmL_put : Room := { frames := 8, cells := 3, slots := 18, locals := 147 }
set_option maxRecDepth 20000 in
theorem tL_put {l : Launch} {Z : mxZ} (hl : l.stackTraces = false) {p0 : Nat} {p1 : Int32} {p2 : Int32} {p3 : Int32} {p4 : Nat} {h : mxH} {out : Int32 × mxH} (hf : fL_put p0 p1 p2 p3 p4 h = some out) : mxMetH l Z yL_put cL_put 6 (some .int) [(0, 12, 15, 13), (0, 12, 19, 15)] rmL_put [.ref p0, .int p1, .int p2, .int p3, .ref p4] h (.inl (some (.int out.1))) out.2 := by
  refine mxMetH_of (by decide) hl (by simp [Value.category]) (Nat.le_of_ble_eq_true rfl) ?_
  intro X C E hX
  unfold fL_put at hf
  refine mG_aload (pc := 0) C dL_put_0 rfl ?_
  refine mG_ic (pc := 2) C dL_put_2 kI0 ?_
  refine mG_aload_n (pc := 3) C dL_put_3 rfl ?_
  refine mG_iload_n (pc := 4) C dL_put_4 rfl ?_
  refine mG_iload_n (pc := 5) C dL_put_5 rfl ?_
  refine mG_iload_n (pc := 6) C dL_put_6 rfl ?_
  obtain ⟨u2, e3, hf⟩ := mx_bind hf
  rcases mx_catch hf with ⟨v4, h5, e1, hf⟩ | ⟨E6, h5, e1, hf⟩
  · refine mG_cV (pc := 7) (k' := 3) (n' := 18) 9 [.int p1, .int p2, .int p3] [.int 0, .ref p4] C hX dL_put_7 lkV_L_7 rfl rfl e3 (tX9_put hl e1) rfl rfl rfl rfl ?_
    refine mG_i2l (pc := 10) C dL_put_10 ?_
    obtain ⟨h7, e8, hf⟩ := mx_bind hf
    refine mG_lastore (pc := 11) C dL_put_11 e8 ?_
    refine mG_goto (tgt := 23) (pc := 12) C dL_put_12 (by decide) ?_
    refine mG_ic (pc := 23) C dL_put_23 kI0 ?_
    cases hf
    exact mG_irH (pc := 24) C E hX dL_put_24 rfl
  · skip
    by_cases q9 : E6 = "java/lang/IndexOutOfBoundsException"
    · rw [if_pos q9] at hf
      subst q9
      refine mG_cVC (pc := 7) (k' := 3) (n' := 18) (i := 5) (ln := 2) 9 [.int p1, .int p2, .int p3] [.int 0, .ref p4] [] ⟨0, 12, 15, 13⟩ [⟨0, 12, 19, 15⟩] C E hX dL_put_7 lkV_L_7 rfl rfl e3 (tX9_put hl e1) rfl rfl rfl rfl rfl (fun z hz => absurd hz List.not_mem_nil) rfl (by decide) w616 w628 (Or.inl ⟨dL_put_15, rfl⟩) rfl rfl ?_
      refine mG_ic (pc := 17) C dL_put_17 kI1 ?_
      cases hf
      exact mG_irH (pc := 18) C E hX dL_put_18 rfl
    · rw [if_neg q9] at hf
      by_cases q10 : E6 = "java/lang/IllegalArgumentException"
      · rw [if_pos q10] at hf
        subst q10
        refine mG_cVC (pc := 7) (k' := 3) (n' := 18) (i := 5) (ln := 2) 9 [.int p1, .int p2, .int p3] [.int 0, .ref p4] [⟨0, 12, 15, 13⟩] ⟨0, 12, 19, 15⟩ [] C E hX dL_put_7 lkV_L_7 rfl rfl e3 (tX9_put hl e1) rfl rfl rfl rfl rfl (fun z hz => by rw [List.mem_singleton.mp hz]; exact ⟨by decide, _, w616, xs1, xs0, xn10⟩) rfl (by decide) w617 w704 (Or.inl ⟨dL_put_19, rfl⟩) rfl rfl ?_
        refine mG_ic (pc := 21) C dL_put_21 kI2 ?_
        cases hf
        exact mG_irH (pc := 22) C E hX dL_put_22 rfl
      · rw [if_neg q10] at hf
        cases hf
theorem dL_drop_0 : decode cL_drop 0 = .ok (.aload_n 3, 1) := by decide +kernel
theorem dL_drop_1 : decode cL_drop 1 = .ok (.iconst 0, 1) := by decide +kernel
theorem dL_drop_2 : decode cL_drop 2 = .ok (.aload_n 0, 1) := by decide +kernel
theorem dL_drop_3 : decode cL_drop 3 = .ok (.iload_n 1, 1) := by decide +kernel
theorem dL_drop_4 : decode cL_drop 4 = .ok (.iload_n 2, 1) := by decide +kernel
theorem dL_drop_5 : decode cL_drop 5 = .ok (.invokevirtual 17, 3) := by decide +kernel
theorem dL_drop_8 : decode cL_drop 8 = .ok (.i2l, 1) := by decide +kernel
theorem dL_drop_9 : decode cL_drop 9 = .ok (.lastore, 1) := by decide +kernel
theorem dL_drop_10 : decode cL_drop 10 = .ok (.goto 11, 3) := by decide +kernel
theorem dL_drop_13 : decode cL_drop 13 = .ok (.astore 4, 2) := by decide +kernel
theorem dL_drop_15 : decode cL_drop 15 = .ok (.iconst 1, 1) := by decide +kernel
theorem dL_drop_16 : decode cL_drop 16 = .ok (.ireturn, 1) := by decide +kernel
theorem dL_drop_17 : decode cL_drop 17 = .ok (.astore 4, 2) := by decide +kernel
theorem dL_drop_19 : decode cL_drop 19 = .ok (.iconst 2, 1) := by decide +kernel
theorem dL_drop_20 : decode cL_drop 20 = .ok (.ireturn, 1) := by decide +kernel
theorem dL_drop_21 : decode cL_drop 21 = .ok (.iconst 0, 1) := by decide +kernel
theorem dL_drop_22 : decode cL_drop 22 = .ok (.ireturn, 1) := by decide +kernel
def fL_drop (p0 : Nat) (p1 : Int32) (p2 : Int32) (p3 : Nat) (h : mxH) : Option (Int32 × mxH) := Option.bind (isO h p0 9) (fun u2 => mxCatch (fX9_drop p0 p1 p2 h) (fun v4 h5 => Option.bind (stJ h5 p3 0 v4.toInt64) (fun h7 => some (0, h7))) (fun E6 h5 => (if E6 = "java/lang/IndexOutOfBoundsException" then some (1, h5) else (if E6 = "java/util/NoSuchElementException" then some (2, h5) else none))))
abbrev rmL_drop : Room := { frames := 8, cells := 3, slots := 18, locals := 144 }
set_option maxRecDepth 20000 in
theorem tL_drop {l : Launch} {Z : mxZ} (hl : l.stackTraces = false) {p0 : Nat} {p1 : Int32} {p2 : Int32} {p3 : Nat} {h : mxH} {out : Int32 × mxH} (hf : fL_drop p0 p1 p2 p3 h = some out) : mxMetH l Z yL_drop cL_drop 5 (some .int) [(0, 10, 13, 13), (0, 10, 17, 21)] rmL_drop [.ref p0, .int p1, .int p2, .ref p3] h (.inl (some (.int out.1))) out.2 := by
  refine mxMetH_of (by decide) hl (by simp [Value.category]) (Nat.le_of_ble_eq_true rfl) ?_
  intro X C E hX
  unfold fL_drop at hf
  refine mG_aload_n (pc := 0) C dL_drop_0 rfl ?_
  refine mG_ic (pc := 1) C dL_drop_1 kI0 ?_
  refine mG_aload_n (pc := 2) C dL_drop_2 rfl ?_
  refine mG_iload_n (pc := 3) C dL_drop_3 rfl ?_
  refine mG_iload_n (pc := 4) C dL_drop_4 rfl ?_
  obtain ⟨u2, e3, hf⟩ := mx_bind hf
  rcases mx_catch hf with ⟨v4, h5, e1, hf⟩ | ⟨E6, h5, e1, hf⟩
  · refine mG_cV (pc := 5) (k' := 3) (n' := 18) 9 [.int p1, .int p2] [.int 0, .ref p3] C hX dL_drop_5 lkV_L_17 rfl rfl e3 (tX9_drop hl e1) rfl rfl rfl rfl ?_
    refine mG_i2l (pc := 8) C dL_drop_8 ?_
    obtain ⟨h7, e8, hf⟩ := mx_bind hf
    refine mG_lastore (pc := 9) C dL_drop_9 e8 ?_
    refine mG_goto (tgt := 21) (pc := 10) C dL_drop_10 (by decide) ?_
    refine mG_ic (pc := 21) C dL_drop_21 kI0 ?_
    cases hf
    exact mG_irH (pc := 22) C E hX dL_drop_22 rfl
  · skip
    by_cases q9 : E6 = "java/lang/IndexOutOfBoundsException"
    · rw [if_pos q9] at hf
      subst q9
      refine mG_cVC (pc := 5) (k' := 3) (n' := 18) (i := 4) (ln := 2) 9 [.int p1, .int p2] [.int 0, .ref p3] [] ⟨0, 10, 13, 13⟩ [⟨0, 10, 17, 21⟩] C E hX dL_drop_5 lkV_L_17 rfl rfl e3 (tX9_drop hl e1) rfl rfl rfl rfl rfl (fun z hz => absurd hz List.not_mem_nil) rfl (by decide) w616 w628 (Or.inl ⟨dL_drop_13, rfl⟩) rfl rfl ?_
      refine mG_ic (pc := 15) C dL_drop_15 kI1 ?_
      cases hf
      exact mG_irH (pc := 16) C E hX dL_drop_16 rfl
    · rw [if_neg q9] at hf
      by_cases q10 : E6 = "java/util/NoSuchElementException"
      · rw [if_pos q10] at hf
        subst q10
        refine mG_cVC (pc := 5) (k' := 3) (n' := 18) (i := 4) (ln := 2) 9 [.int p1, .int p2] [.int 0, .ref p3] [⟨0, 10, 13, 13⟩] ⟨0, 10, 17, 21⟩ [] C E hX dL_drop_5 lkV_L_17 rfl rfl e3 (tX9_drop hl e1) rfl rfl rfl rfl rfl (fun z hz => by rw [List.mem_singleton.mp hz]; exact ⟨by decide, _, w616, xs2, xs0, xn20⟩) rfl (by decide) w727 w737 (Or.inl ⟨dL_drop_17, rfl⟩) rfl rfl ?_
        refine mG_ic (pc := 19) C dL_drop_19 kI2 ?_
        cases hf
        exact mG_irH (pc := 20) C E hX dL_drop_20 rfl
      · rw [if_neg q10] at hf
        cases hf
theorem dL_setWeight_0 : decode cL_setWeight 0 = .ok (.aload_n 3, 1) := by decide +kernel
theorem dL_setWeight_1 : decode cL_setWeight 1 = .ok (.iconst 0, 1) := by decide +kernel
theorem dL_setWeight_2 : decode cL_setWeight 2 = .ok (.aload_n 0, 1) := by decide +kernel
theorem dL_setWeight_3 : decode cL_setWeight 3 = .ok (.iload_n 1, 1) := by decide +kernel
theorem dL_setWeight_4 : decode cL_setWeight 4 = .ok (.iload_n 2, 1) := by decide +kernel
theorem dL_setWeight_5 : decode cL_setWeight 5 = .ok (.invokevirtual 23, 3) := by decide +kernel
theorem dL_setWeight_8 : decode cL_setWeight 8 = .ok (.i2l, 1) := by decide +kernel
theorem dL_setWeight_9 : decode cL_setWeight 9 = .ok (.lastore, 1) := by decide +kernel
theorem dL_setWeight_10 : decode cL_setWeight 10 = .ok (.goto 11, 3) := by decide +kernel
theorem dL_setWeight_13 : decode cL_setWeight 13 = .ok (.astore 4, 2) := by decide +kernel
theorem dL_setWeight_15 : decode cL_setWeight 15 = .ok (.iconst 1, 1) := by decide +kernel
theorem dL_setWeight_16 : decode cL_setWeight 16 = .ok (.ireturn, 1) := by decide +kernel
theorem dL_setWeight_17 : decode cL_setWeight 17 = .ok (.astore 4, 2) := by decide +kernel
theorem dL_setWeight_19 : decode cL_setWeight 19 = .ok (.iconst 2, 1) := by decide +kernel
theorem dL_setWeight_20 : decode cL_setWeight 20 = .ok (.ireturn, 1) := by decide +kernel
theorem dL_setWeight_21 : decode cL_setWeight 21 = .ok (.iconst 0, 1) := by decide +kernel
theorem dL_setWeight_22 : decode cL_setWeight 22 = .ok (.ireturn, 1) := by decide +kernel
def fL_setWeight (p0 : Nat) (p1 : Int32) (p2 : Int32) (p3 : Nat) (h : mxH) : Option (Int32 × mxH) := Option.bind (isO h p0 9) (fun u2 => mxCatch (fX9_setWeight p0 p1 p2 h) (fun v4 h5 => Option.bind (stJ h5 p3 0 v4.toInt64) (fun h7 => some (0, h7))) (fun E6 h5 => (if E6 = "java/lang/IndexOutOfBoundsException" then some (1, h5) else (if E6 = "java/lang/IllegalArgumentException" then some (2, h5) else none))))
abbrev rmL_setWeight : Room := { frames := 8, cells := 2, slots := 12, locals := 145 }
set_option maxRecDepth 20000 in
theorem tL_setWeight {l : Launch} {Z : mxZ} (hl : l.stackTraces = false) {p0 : Nat} {p1 : Int32} {p2 : Int32} {p3 : Nat} {h : mxH} {out : Int32 × mxH} (hf : fL_setWeight p0 p1 p2 p3 h = some out) : mxMetH l Z yL_setWeight cL_setWeight 5 (some .int) [(0, 10, 13, 13), (0, 10, 17, 15)] rmL_setWeight [.ref p0, .int p1, .int p2, .ref p3] h (.inl (some (.int out.1))) out.2 := by
  refine mxMetH_of (by decide) hl (by simp [Value.category]) (Nat.le_of_ble_eq_true rfl) ?_
  intro X C E hX
  unfold fL_setWeight at hf
  refine mG_aload_n (pc := 0) C dL_setWeight_0 rfl ?_
  refine mG_ic (pc := 1) C dL_setWeight_1 kI0 ?_
  refine mG_aload_n (pc := 2) C dL_setWeight_2 rfl ?_
  refine mG_iload_n (pc := 3) C dL_setWeight_3 rfl ?_
  refine mG_iload_n (pc := 4) C dL_setWeight_4 rfl ?_
  obtain ⟨u2, e3, hf⟩ := mx_bind hf
  rcases mx_catch hf with ⟨v4, h5, e1, hf⟩ | ⟨E6, h5, e1, hf⟩
  · refine mG_cV (pc := 5) (k' := 2) (n' := 12) 9 [.int p1, .int p2] [.int 0, .ref p3] C hX dL_setWeight_5 lkV_L_23 rfl rfl e3 (tX9_setWeight hl e1) rfl rfl rfl rfl ?_
    refine mG_i2l (pc := 8) C dL_setWeight_8 ?_
    obtain ⟨h7, e8, hf⟩ := mx_bind hf
    refine mG_lastore (pc := 9) C dL_setWeight_9 e8 ?_
    refine mG_goto (tgt := 21) (pc := 10) C dL_setWeight_10 (by decide) ?_
    refine mG_ic (pc := 21) C dL_setWeight_21 kI0 ?_
    cases hf
    exact mG_irH (pc := 22) C E hX dL_setWeight_22 rfl
  · skip
    by_cases q9 : E6 = "java/lang/IndexOutOfBoundsException"
    · rw [if_pos q9] at hf
      subst q9
      refine mG_cVC (pc := 5) (k' := 2) (n' := 12) (i := 4) (ln := 2) 9 [.int p1, .int p2] [.int 0, .ref p3] [] ⟨0, 10, 13, 13⟩ [⟨0, 10, 17, 15⟩] C E hX dL_setWeight_5 lkV_L_23 rfl rfl e3 (tX9_setWeight hl e1) rfl rfl rfl rfl rfl (fun z hz => absurd hz List.not_mem_nil) rfl (by decide) w616 w628 (Or.inl ⟨dL_setWeight_13, rfl⟩) rfl rfl ?_
      refine mG_ic (pc := 15) C dL_setWeight_15 kI1 ?_
      cases hf
      exact mG_irH (pc := 16) C E hX dL_setWeight_16 rfl
    · rw [if_neg q9] at hf
      by_cases q10 : E6 = "java/lang/IllegalArgumentException"
      · rw [if_pos q10] at hf
        subst q10
        refine mG_cVC (pc := 5) (k' := 2) (n' := 12) (i := 4) (ln := 2) 9 [.int p1, .int p2] [.int 0, .ref p3] [⟨0, 10, 13, 13⟩] ⟨0, 10, 17, 15⟩ [] C E hX dL_setWeight_5 lkV_L_23 rfl rfl e3 (tX9_setWeight hl e1) rfl rfl rfl rfl rfl (fun z hz => by rw [List.mem_singleton.mp hz]; exact ⟨by decide, _, w616, xs1, xs0, xn10⟩) rfl (by decide) w617 w704 (Or.inl ⟨dL_setWeight_17, rfl⟩) rfl rfl ?_
        refine mG_ic (pc := 19) C dL_setWeight_19 kI2 ?_
        cases hf
        exact mG_irH (pc := 20) C E hX dL_setWeight_20 rfl
      · rw [if_neg q10] at hf
        cases hf
theorem dL_setRule_0 : decode cL_setRule 0 = .ok (.aload_n 2, 1) := by decide +kernel
theorem dL_setRule_1 : decode cL_setRule 1 = .ok (.iconst 0, 1) := by decide +kernel
theorem dL_setRule_2 : decode cL_setRule 2 = .ok (.aload_n 0, 1) := by decide +kernel
theorem dL_setRule_3 : decode cL_setRule 3 = .ok (.iload_n 1, 1) := by decide +kernel
theorem dL_setRule_4 : decode cL_setRule 4 = .ok (.invokevirtual 26, 3) := by decide +kernel
theorem dL_setRule_7 : decode cL_setRule 7 = .ok (.i2l, 1) := by decide +kernel
theorem dL_setRule_8 : decode cL_setRule 8 = .ok (.lastore, 1) := by decide +kernel
theorem dL_setRule_9 : decode cL_setRule 9 = .ok (.goto 6, 3) := by decide +kernel
theorem dL_setRule_12 : decode cL_setRule 12 = .ok (.astore_n 3, 1) := by decide +kernel
theorem dL_setRule_13 : decode cL_setRule 13 = .ok (.iconst 1, 1) := by decide +kernel
theorem dL_setRule_14 : decode cL_setRule 14 = .ok (.ireturn, 1) := by decide +kernel
theorem dL_setRule_15 : decode cL_setRule 15 = .ok (.iconst 0, 1) := by decide +kernel
theorem dL_setRule_16 : decode cL_setRule 16 = .ok (.ireturn, 1) := by decide +kernel
def fL_setRule (p0 : Nat) (p1 : Int32) (p2 : Nat) (h : mxH) : Option (Int32 × mxH) := Option.bind (isO h p0 9) (fun u2 => mxCatch (fX9_setRule p0 p1 h) (fun v4 h5 => Option.bind (stJ h5 p2 0 v4.toInt64) (fun h7 => some (0, h7))) (fun E6 h5 => (if E6 = "java/lang/IllegalArgumentException" then some (1, h5) else none)))
abbrev rmL_setRule : Room := { frames := 8, cells := 1, slots := 6, locals := 145 }
set_option maxRecDepth 20000 in
theorem tL_setRule {l : Launch} {Z : mxZ} (hl : l.stackTraces = false) {p0 : Nat} {p1 : Int32} {p2 : Nat} {h : mxH} {out : Int32 × mxH} (hf : fL_setRule p0 p1 p2 h = some out) : mxMetH l Z yL_setRule cL_setRule 4 (some .int) [(0, 9, 12, 15)] rmL_setRule [.ref p0, .int p1, .ref p2] h (.inl (some (.int out.1))) out.2 := by
  refine mxMetH_of (by decide) hl (by simp [Value.category]) (Nat.le_of_ble_eq_true rfl) ?_
  intro X C E hX
  unfold fL_setRule at hf
  refine mG_aload_n (pc := 0) C dL_setRule_0 rfl ?_
  refine mG_ic (pc := 1) C dL_setRule_1 kI0 ?_
  refine mG_aload_n (pc := 2) C dL_setRule_2 rfl ?_
  refine mG_iload_n (pc := 3) C dL_setRule_3 rfl ?_
  obtain ⟨u2, e3, hf⟩ := mx_bind hf
  rcases mx_catch hf with ⟨v4, h5, e1, hf⟩ | ⟨E6, h5, e1, hf⟩
  · refine mG_cV (pc := 4) (k' := 1) (n' := 6) 9 [.int p1] [.int 0, .ref p2] C hX dL_setRule_4 lkV_L_26 rfl rfl e3 (tX9_setRule hl e1) rfl rfl rfl rfl ?_
    refine mG_i2l (pc := 7) C dL_setRule_7 ?_
    obtain ⟨h7, e8, hf⟩ := mx_bind hf
    refine mG_lastore (pc := 8) C dL_setRule_8 e8 ?_
    refine mG_goto (tgt := 15) (pc := 9) C dL_setRule_9 (by decide) ?_
    refine mG_ic (pc := 15) C dL_setRule_15 kI0 ?_
    cases hf
    exact mG_irH (pc := 16) C E hX dL_setRule_16 rfl
  · skip
    by_cases q9 : E6 = "java/lang/IllegalArgumentException"
    · rw [if_pos q9] at hf
      subst q9
      refine mG_cVC (pc := 4) (k' := 1) (n' := 6) (i := 3) (ln := 1) 9 [.int p1] [.int 0, .ref p2] [] ⟨0, 9, 12, 15⟩ [] C E hX dL_setRule_4 lkV_L_26 rfl rfl e3 (tX9_setRule hl e1) rfl rfl rfl rfl rfl (fun z hz => absurd hz List.not_mem_nil) rfl (by decide) w617 w704 (Or.inr ⟨3, rfl, dL_setRule_12, rfl⟩) rfl rfl ?_
      refine mG_ic (pc := 13) C dL_setRule_13 kI1 ?_
      cases hf
      exact mG_irH (pc := 14) C E hX dL_setRule_14 rfl
    · rw [if_neg q9] at hf
      cases hf
theorem dL_setCosts_0 : decode cL_setCosts 0 = .ok (.aload_n 3, 1) := by decide +kernel
theorem dL_setCosts_1 : decode cL_setCosts 1 = .ok (.iconst 0, 1) := by decide +kernel
theorem dL_setCosts_2 : decode cL_setCosts 2 = .ok (.aload_n 0, 1) := by decide +kernel
theorem dL_setCosts_3 : decode cL_setCosts 3 = .ok (.iload_n 1, 1) := by decide +kernel
theorem dL_setCosts_4 : decode cL_setCosts 4 = .ok (.iload_n 2, 1) := by decide +kernel
theorem dL_setCosts_5 : decode cL_setCosts 5 = .ok (.invokevirtual 30, 3) := by decide +kernel
theorem dL_setCosts_8 : decode cL_setCosts 8 = .ok (.i2l, 1) := by decide +kernel
theorem dL_setCosts_9 : decode cL_setCosts 9 = .ok (.lastore, 1) := by decide +kernel
theorem dL_setCosts_10 : decode cL_setCosts 10 = .ok (.goto 7, 3) := by decide +kernel
theorem dL_setCosts_13 : decode cL_setCosts 13 = .ok (.astore 4, 2) := by decide +kernel
theorem dL_setCosts_15 : decode cL_setCosts 15 = .ok (.iconst 1, 1) := by decide +kernel
theorem dL_setCosts_16 : decode cL_setCosts 16 = .ok (.ireturn, 1) := by decide +kernel
theorem dL_setCosts_17 : decode cL_setCosts 17 = .ok (.iconst 0, 1) := by decide +kernel
theorem dL_setCosts_18 : decode cL_setCosts 18 = .ok (.ireturn, 1) := by decide +kernel
def fL_setCosts (p0 : Nat) (p1 : Int32) (p2 : Int32) (p3 : Nat) (h : mxH) : Option (Int32 × mxH) := Option.bind (isO h p0 9) (fun u2 => mxCatch (fX9_setCosts p0 p1 p2 h) (fun v4 h5 => Option.bind (stJ h5 p3 0 v4.toInt64) (fun h7 => some (0, h7))) (fun E6 h5 => (if E6 = "java/lang/IllegalArgumentException" then some (1, h5) else none)))
abbrev rmL_setCosts : Room := { frames := 8, cells := 2, slots := 12, locals := 146 }
set_option maxRecDepth 20000 in
theorem tL_setCosts {l : Launch} {Z : mxZ} (hl : l.stackTraces = false) {p0 : Nat} {p1 : Int32} {p2 : Int32} {p3 : Nat} {h : mxH} {out : Int32 × mxH} (hf : fL_setCosts p0 p1 p2 p3 h = some out) : mxMetH l Z yL_setCosts cL_setCosts 5 (some .int) [(0, 10, 13, 15)] rmL_setCosts [.ref p0, .int p1, .int p2, .ref p3] h (.inl (some (.int out.1))) out.2 := by
  refine mxMetH_of (by decide) hl (by simp [Value.category]) (Nat.le_of_ble_eq_true rfl) ?_
  intro X C E hX
  unfold fL_setCosts at hf
  refine mG_aload_n (pc := 0) C dL_setCosts_0 rfl ?_
  refine mG_ic (pc := 1) C dL_setCosts_1 kI0 ?_
  refine mG_aload_n (pc := 2) C dL_setCosts_2 rfl ?_
  refine mG_iload_n (pc := 3) C dL_setCosts_3 rfl ?_
  refine mG_iload_n (pc := 4) C dL_setCosts_4 rfl ?_
  obtain ⟨u2, e3, hf⟩ := mx_bind hf
  rcases mx_catch hf with ⟨v4, h5, e1, hf⟩ | ⟨E6, h5, e1, hf⟩
  · refine mG_cV (pc := 5) (k' := 2) (n' := 12) 9 [.int p1, .int p2] [.int 0, .ref p3] C hX dL_setCosts_5 lkV_L_30 rfl rfl e3 (tX9_setCosts hl e1) rfl rfl rfl rfl ?_
    refine mG_i2l (pc := 8) C dL_setCosts_8 ?_
    obtain ⟨h7, e8, hf⟩ := mx_bind hf
    refine mG_lastore (pc := 9) C dL_setCosts_9 e8 ?_
    refine mG_goto (tgt := 17) (pc := 10) C dL_setCosts_10 (by decide) ?_
    refine mG_ic (pc := 17) C dL_setCosts_17 kI0 ?_
    cases hf
    exact mG_irH (pc := 18) C E hX dL_setCosts_18 rfl
  · skip
    by_cases q9 : E6 = "java/lang/IllegalArgumentException"
    · rw [if_pos q9] at hf
      subst q9
      refine mG_cVC (pc := 5) (k' := 2) (n' := 12) (i := 4) (ln := 2) 9 [.int p1, .int p2] [.int 0, .ref p3] [] ⟨0, 10, 13, 15⟩ [] C E hX dL_setCosts_5 lkV_L_30 rfl rfl e3 (tX9_setCosts hl e1) rfl rfl rfl rfl rfl (fun z hz => absurd hz List.not_mem_nil) rfl (by decide) w617 w704 (Or.inl ⟨dL_setCosts_13, rfl⟩) rfl rfl ?_
      refine mG_ic (pc := 15) C dL_setCosts_15 kI1 ?_
      cases hf
      exact mG_irH (pc := 16) C E hX dL_setCosts_16 rfl
    · rw [if_neg q9] at hf
      cases hf
theorem dL_setWindow_0 : decode cL_setWindow 0 = .ok (.aload_n 3, 1) := by decide +kernel
theorem dL_setWindow_1 : decode cL_setWindow 1 = .ok (.iconst 0, 1) := by decide +kernel
theorem dL_setWindow_2 : decode cL_setWindow 2 = .ok (.aload_n 0, 1) := by decide +kernel
theorem dL_setWindow_3 : decode cL_setWindow 3 = .ok (.iload_n 1, 1) := by decide +kernel
theorem dL_setWindow_4 : decode cL_setWindow 4 = .ok (.iload_n 2, 1) := by decide +kernel
theorem dL_setWindow_5 : decode cL_setWindow 5 = .ok (.invokevirtual 33, 3) := by decide +kernel
theorem dL_setWindow_8 : decode cL_setWindow 8 = .ok (.i2l, 1) := by decide +kernel
theorem dL_setWindow_9 : decode cL_setWindow 9 = .ok (.lastore, 1) := by decide +kernel
theorem dL_setWindow_10 : decode cL_setWindow 10 = .ok (.goto 7, 3) := by decide +kernel
theorem dL_setWindow_13 : decode cL_setWindow 13 = .ok (.astore 4, 2) := by decide +kernel
theorem dL_setWindow_15 : decode cL_setWindow 15 = .ok (.iconst 1, 1) := by decide +kernel
theorem dL_setWindow_16 : decode cL_setWindow 16 = .ok (.ireturn, 1) := by decide +kernel
theorem dL_setWindow_17 : decode cL_setWindow 17 = .ok (.iconst 0, 1) := by decide +kernel
theorem dL_setWindow_18 : decode cL_setWindow 18 = .ok (.ireturn, 1) := by decide +kernel
def fL_setWindow (p0 : Nat) (p1 : Int32) (p2 : Int32) (p3 : Nat) (h : mxH) : Option (Int32 × mxH) := Option.bind (isO h p0 9) (fun u2 => mxCatch (fX9_setWindow p0 p1 p2 h) (fun v4 h5 => Option.bind (stJ h5 p3 0 v4.toInt64) (fun h7 => some (0, h7))) (fun E6 h5 => (if E6 = "java/lang/IllegalArgumentException" then some (1, h5) else none)))
abbrev rmL_setWindow : Room := { frames := 8, cells := 2, slots := 12, locals := 146 }
set_option maxRecDepth 20000 in
theorem tL_setWindow {l : Launch} {Z : mxZ} (hl : l.stackTraces = false) {p0 : Nat} {p1 : Int32} {p2 : Int32} {p3 : Nat} {h : mxH} {out : Int32 × mxH} (hf : fL_setWindow p0 p1 p2 p3 h = some out) : mxMetH l Z yL_setWindow cL_setWindow 5 (some .int) [(0, 10, 13, 15)] rmL_setWindow [.ref p0, .int p1, .int p2, .ref p3] h (.inl (some (.int out.1))) out.2 := by
  refine mxMetH_of (by decide) hl (by simp [Value.category]) (Nat.le_of_ble_eq_true rfl) ?_
  intro X C E hX
  unfold fL_setWindow at hf
  refine mG_aload_n (pc := 0) C dL_setWindow_0 rfl ?_
  refine mG_ic (pc := 1) C dL_setWindow_1 kI0 ?_
  refine mG_aload_n (pc := 2) C dL_setWindow_2 rfl ?_
  refine mG_iload_n (pc := 3) C dL_setWindow_3 rfl ?_
  refine mG_iload_n (pc := 4) C dL_setWindow_4 rfl ?_
  obtain ⟨u2, e3, hf⟩ := mx_bind hf
  rcases mx_catch hf with ⟨v4, h5, e1, hf⟩ | ⟨E6, h5, e1, hf⟩
  · refine mG_cV (pc := 5) (k' := 2) (n' := 12) 9 [.int p1, .int p2] [.int 0, .ref p3] C hX dL_setWindow_5 lkV_L_33 rfl rfl e3 (tX9_setWindow hl e1) rfl rfl rfl rfl ?_
    refine mG_i2l (pc := 8) C dL_setWindow_8 ?_
    obtain ⟨h7, e8, hf⟩ := mx_bind hf
    refine mG_lastore (pc := 9) C dL_setWindow_9 e8 ?_
    refine mG_goto (tgt := 17) (pc := 10) C dL_setWindow_10 (by decide) ?_
    refine mG_ic (pc := 17) C dL_setWindow_17 kI0 ?_
    cases hf
    exact mG_irH (pc := 18) C E hX dL_setWindow_18 rfl
  · skip
    by_cases q9 : E6 = "java/lang/IllegalArgumentException"
    · rw [if_pos q9] at hf
      subst q9
      refine mG_cVC (pc := 5) (k' := 2) (n' := 12) (i := 4) (ln := 2) 9 [.int p1, .int p2] [.int 0, .ref p3] [] ⟨0, 10, 13, 15⟩ [] C E hX dL_setWindow_5 lkV_L_33 rfl rfl e3 (tX9_setWindow hl e1) rfl rfl rfl rfl rfl (fun z hz => absurd hz List.not_mem_nil) rfl (by decide) w617 w704 (Or.inl ⟨dL_setWindow_13, rfl⟩) rfl rfl ?_
      refine mG_ic (pc := 15) C dL_setWindow_15 kI1 ?_
      cases hf
      exact mG_irH (pc := 16) C E hX dL_setWindow_16 rfl
    · rw [if_neg q9] at hf
      cases hf
theorem dL_push_0 : decode cL_push 0 = .ok (.aload_n 2, 1) := by decide +kernel
theorem dL_push_1 : decode cL_push 1 = .ok (.iconst 0, 1) := by decide +kernel
theorem dL_push_2 : decode cL_push 2 = .ok (.aload_n 0, 1) := by decide +kernel
theorem dL_push_3 : decode cL_push 3 = .ok (.iload_n 1, 1) := by decide +kernel
theorem dL_push_4 : decode cL_push 4 = .ok (.invokevirtual 36, 3) := by decide +kernel
theorem dL_push_7 : decode cL_push 7 = .ok (.i2l, 1) := by decide +kernel
theorem dL_push_8 : decode cL_push 8 = .ok (.lastore, 1) := by decide +kernel
theorem dL_push_9 : decode cL_push 9 = .ok (.goto 6, 3) := by decide +kernel
theorem dL_push_12 : decode cL_push 12 = .ok (.astore_n 3, 1) := by decide +kernel
theorem dL_push_13 : decode cL_push 13 = .ok (.iconst 1, 1) := by decide +kernel
theorem dL_push_14 : decode cL_push 14 = .ok (.ireturn, 1) := by decide +kernel
theorem dL_push_15 : decode cL_push 15 = .ok (.iconst 0, 1) := by decide +kernel
theorem dL_push_16 : decode cL_push 16 = .ok (.ireturn, 1) := by decide +kernel
def fL_push (p0 : Nat) (p1 : Int32) (p2 : Nat) (h : mxH) : Option (Int32 × mxH) := Option.bind (isO h p0 9) (fun u2 => mxCatch (fX9_push p0 p1 h) (fun v4 h5 => Option.bind (stJ h5 p2 0 v4.toInt64) (fun h7 => some (0, h7))) (fun E6 h5 => (if E6 = "java/lang/IllegalArgumentException" then some (1, h5) else none)))
abbrev rmL_push : Room := { frames := 8, cells := 1, slots := 6, locals := 144 }
set_option maxRecDepth 20000 in
theorem tL_push {l : Launch} {Z : mxZ} (hl : l.stackTraces = false) {p0 : Nat} {p1 : Int32} {p2 : Nat} {h : mxH} {out : Int32 × mxH} (hf : fL_push p0 p1 p2 h = some out) : mxMetH l Z yL_push cL_push 4 (some .int) [(0, 9, 12, 15)] rmL_push [.ref p0, .int p1, .ref p2] h (.inl (some (.int out.1))) out.2 := by
  refine mxMetH_of (by decide) hl (by simp [Value.category]) (Nat.le_of_ble_eq_true rfl) ?_
  intro X C E hX
  unfold fL_push at hf
  refine mG_aload_n (pc := 0) C dL_push_0 rfl ?_
  refine mG_ic (pc := 1) C dL_push_1 kI0 ?_
  refine mG_aload_n (pc := 2) C dL_push_2 rfl ?_
  refine mG_iload_n (pc := 3) C dL_push_3 rfl ?_
  obtain ⟨u2, e3, hf⟩ := mx_bind hf
  rcases mx_catch hf with ⟨v4, h5, e1, hf⟩ | ⟨E6, h5, e1, hf⟩
  · refine mG_cV (pc := 4) (k' := 1) (n' := 6) 9 [.int p1] [.int 0, .ref p2] C hX dL_push_4 lkV_L_36 rfl rfl e3 (tX9_push hl e1) rfl rfl rfl rfl ?_
    refine mG_i2l (pc := 7) C dL_push_7 ?_
    obtain ⟨h7, e8, hf⟩ := mx_bind hf
    refine mG_lastore (pc := 8) C dL_push_8 e8 ?_
    refine mG_goto (tgt := 15) (pc := 9) C dL_push_9 (by decide) ?_
    refine mG_ic (pc := 15) C dL_push_15 kI0 ?_
    cases hf
    exact mG_irH (pc := 16) C E hX dL_push_16 rfl
  · skip
    by_cases q9 : E6 = "java/lang/IllegalArgumentException"
    · rw [if_pos q9] at hf
      subst q9
      refine mG_cVC (pc := 4) (k' := 1) (n' := 6) (i := 3) (ln := 1) 9 [.int p1] [.int 0, .ref p2] [] ⟨0, 9, 12, 15⟩ [] C E hX dL_push_4 lkV_L_36 rfl rfl e3 (tX9_push hl e1) rfl rfl rfl rfl rfl (fun z hz => absurd hz List.not_mem_nil) rfl (by decide) w617 w704 (Or.inr ⟨3, rfl, dL_push_12, rfl⟩) rfl rfl ?_
      refine mG_ic (pc := 13) C dL_push_13 kI1 ?_
      cases hf
      exact mG_irH (pc := 14) C E hX dL_push_14 rfl
    · rw [if_neg q9] at hf
      cases hf
theorem dL_itemCount_0 : decode cL_itemCount 0 = .ok (.aload_n 2, 1) := by decide +kernel
theorem dL_itemCount_1 : decode cL_itemCount 1 = .ok (.iconst 0, 1) := by decide +kernel
theorem dL_itemCount_2 : decode cL_itemCount 2 = .ok (.aload_n 0, 1) := by decide +kernel
theorem dL_itemCount_3 : decode cL_itemCount 3 = .ok (.iload_n 1, 1) := by decide +kernel
theorem dL_itemCount_4 : decode cL_itemCount 4 = .ok (.invokevirtual 39, 3) := by decide +kernel
theorem dL_itemCount_7 : decode cL_itemCount 7 = .ok (.i2l, 1) := by decide +kernel
theorem dL_itemCount_8 : decode cL_itemCount 8 = .ok (.lastore, 1) := by decide +kernel
theorem dL_itemCount_9 : decode cL_itemCount 9 = .ok (.goto 6, 3) := by decide +kernel
theorem dL_itemCount_12 : decode cL_itemCount 12 = .ok (.astore_n 3, 1) := by decide +kernel
theorem dL_itemCount_13 : decode cL_itemCount 13 = .ok (.iconst 1, 1) := by decide +kernel
theorem dL_itemCount_14 : decode cL_itemCount 14 = .ok (.ireturn, 1) := by decide +kernel
theorem dL_itemCount_15 : decode cL_itemCount 15 = .ok (.iconst 0, 1) := by decide +kernel
theorem dL_itemCount_16 : decode cL_itemCount 16 = .ok (.ireturn, 1) := by decide +kernel
def fL_itemCount (p0 : Nat) (p1 : Int32) (p2 : Nat) (h : mxH) : Option (Int32 × mxH) := Option.bind (isO h p0 9) (fun u2 => mxCatch (fX9_itemCount p0 p1 h) (fun v4 h5 => Option.bind (stJ h5 p2 0 v4.toInt64) (fun h7 => some (0, h7))) (fun E6 h5 => (if E6 = "java/lang/IndexOutOfBoundsException" then some (1, h5) else none)))
abbrev rmL_itemCount : Room := { frames := 8, cells := 1, slots := 6, locals := 142 }
set_option maxRecDepth 20000 in
theorem tL_itemCount {l : Launch} {Z : mxZ} (hl : l.stackTraces = false) {p0 : Nat} {p1 : Int32} {p2 : Nat} {h : mxH} {out : Int32 × mxH} (hf : fL_itemCount p0 p1 p2 h = some out) : mxMetH l Z yL_itemCount cL_itemCount 4 (some .int) [(0, 9, 12, 13)] rmL_itemCount [.ref p0, .int p1, .ref p2] h (.inl (some (.int out.1))) out.2 := by
  refine mxMetH_of (by decide) hl (by simp [Value.category]) (Nat.le_of_ble_eq_true rfl) ?_
  intro X C E hX
  unfold fL_itemCount at hf
  refine mG_aload_n (pc := 0) C dL_itemCount_0 rfl ?_
  refine mG_ic (pc := 1) C dL_itemCount_1 kI0 ?_
  refine mG_aload_n (pc := 2) C dL_itemCount_2 rfl ?_
  refine mG_iload_n (pc := 3) C dL_itemCount_3 rfl ?_
  obtain ⟨u2, e3, hf⟩ := mx_bind hf
  rcases mx_catch hf with ⟨v4, h5, e1, hf⟩ | ⟨E6, h5, e1, hf⟩
  · refine mG_cV (pc := 4) (k' := 1) (n' := 6) 9 [.int p1] [.int 0, .ref p2] C hX dL_itemCount_4 lkV_L_39 rfl rfl e3 (tX9_itemCount hl e1) rfl rfl rfl rfl ?_
    refine mG_i2l (pc := 7) C dL_itemCount_7 ?_
    obtain ⟨h7, e8, hf⟩ := mx_bind hf
    refine mG_lastore (pc := 8) C dL_itemCount_8 e8 ?_
    refine mG_goto (tgt := 15) (pc := 9) C dL_itemCount_9 (by decide) ?_
    refine mG_ic (pc := 15) C dL_itemCount_15 kI0 ?_
    cases hf
    exact mG_irH (pc := 16) C E hX dL_itemCount_16 rfl
  · skip
    by_cases q9 : E6 = "java/lang/IndexOutOfBoundsException"
    · rw [if_pos q9] at hf
      subst q9
      refine mG_cVC (pc := 4) (k' := 1) (n' := 6) (i := 3) (ln := 1) 9 [.int p1] [.int 0, .ref p2] [] ⟨0, 9, 12, 13⟩ [] C E hX dL_itemCount_4 lkV_L_39 rfl rfl e3 (tX9_itemCount hl e1) rfl rfl rfl rfl rfl (fun z hz => absurd hz List.not_mem_nil) rfl (by decide) w616 w628 (Or.inr ⟨3, rfl, dL_itemCount_12, rfl⟩) rfl rfl ?_
      refine mG_ic (pc := 13) C dL_itemCount_13 kI1 ?_
      cases hf
      exact mG_irH (pc := 14) C E hX dL_itemCount_14 rfl
    · rw [if_neg q9] at hf
      cases hf
theorem dL_thingAt_0 : decode cL_thingAt 0 = .ok (.aload_n 3, 1) := by decide +kernel
theorem dL_thingAt_1 : decode cL_thingAt 1 = .ok (.iconst 0, 1) := by decide +kernel
theorem dL_thingAt_2 : decode cL_thingAt 2 = .ok (.aload_n 0, 1) := by decide +kernel
theorem dL_thingAt_3 : decode cL_thingAt 3 = .ok (.iload_n 1, 1) := by decide +kernel
theorem dL_thingAt_4 : decode cL_thingAt 4 = .ok (.iload_n 2, 1) := by decide +kernel
theorem dL_thingAt_5 : decode cL_thingAt 5 = .ok (.invokevirtual 42, 3) := by decide +kernel
theorem dL_thingAt_8 : decode cL_thingAt 8 = .ok (.i2l, 1) := by decide +kernel
theorem dL_thingAt_9 : decode cL_thingAt 9 = .ok (.lastore, 1) := by decide +kernel
theorem dL_thingAt_10 : decode cL_thingAt 10 = .ok (.goto 7, 3) := by decide +kernel
theorem dL_thingAt_13 : decode cL_thingAt 13 = .ok (.astore 4, 2) := by decide +kernel
theorem dL_thingAt_15 : decode cL_thingAt 15 = .ok (.iconst 1, 1) := by decide +kernel
theorem dL_thingAt_16 : decode cL_thingAt 16 = .ok (.ireturn, 1) := by decide +kernel
theorem dL_thingAt_17 : decode cL_thingAt 17 = .ok (.iconst 0, 1) := by decide +kernel
theorem dL_thingAt_18 : decode cL_thingAt 18 = .ok (.ireturn, 1) := by decide +kernel
def fL_thingAt (p0 : Nat) (p1 : Int32) (p2 : Int32) (p3 : Nat) (h : mxH) : Option (Int32 × mxH) := Option.bind (isO h p0 9) (fun u2 => mxCatch (fX9_thingAt p0 p1 p2 h) (fun v4 h5 => Option.bind (stJ h5 p3 0 v4.toInt64) (fun h7 => some (0, h7))) (fun E6 h5 => (if E6 = "java/lang/IndexOutOfBoundsException" then some (1, h5) else none)))
abbrev rmL_thingAt : Room := { frames := 8, cells := 2, slots := 12, locals := 144 }
set_option maxRecDepth 20000 in
theorem tL_thingAt {l : Launch} {Z : mxZ} (hl : l.stackTraces = false) {p0 : Nat} {p1 : Int32} {p2 : Int32} {p3 : Nat} {h : mxH} {out : Int32 × mxH} (hf : fL_thingAt p0 p1 p2 p3 h = some out) : mxMetH l Z yL_thingAt cL_thingAt 5 (some .int) [(0, 10, 13, 13)] rmL_thingAt [.ref p0, .int p1, .int p2, .ref p3] h (.inl (some (.int out.1))) out.2 := by
  refine mxMetH_of (by decide) hl (by simp [Value.category]) (Nat.le_of_ble_eq_true rfl) ?_
  intro X C E hX
  unfold fL_thingAt at hf
  refine mG_aload_n (pc := 0) C dL_thingAt_0 rfl ?_
  refine mG_ic (pc := 1) C dL_thingAt_1 kI0 ?_
  refine mG_aload_n (pc := 2) C dL_thingAt_2 rfl ?_
  refine mG_iload_n (pc := 3) C dL_thingAt_3 rfl ?_
  refine mG_iload_n (pc := 4) C dL_thingAt_4 rfl ?_
  obtain ⟨u2, e3, hf⟩ := mx_bind hf
  rcases mx_catch hf with ⟨v4, h5, e1, hf⟩ | ⟨E6, h5, e1, hf⟩
  · refine mG_cV (pc := 5) (k' := 2) (n' := 12) 9 [.int p1, .int p2] [.int 0, .ref p3] C hX dL_thingAt_5 lkV_L_42 rfl rfl e3 (tX9_thingAt hl e1) rfl rfl rfl rfl ?_
    refine mG_i2l (pc := 8) C dL_thingAt_8 ?_
    obtain ⟨h7, e8, hf⟩ := mx_bind hf
    refine mG_lastore (pc := 9) C dL_thingAt_9 e8 ?_
    refine mG_goto (tgt := 17) (pc := 10) C dL_thingAt_10 (by decide) ?_
    refine mG_ic (pc := 17) C dL_thingAt_17 kI0 ?_
    cases hf
    exact mG_irH (pc := 18) C E hX dL_thingAt_18 rfl
  · skip
    by_cases q9 : E6 = "java/lang/IndexOutOfBoundsException"
    · rw [if_pos q9] at hf
      subst q9
      refine mG_cVC (pc := 5) (k' := 2) (n' := 12) (i := 4) (ln := 2) 9 [.int p1, .int p2] [.int 0, .ref p3] [] ⟨0, 10, 13, 13⟩ [] C E hX dL_thingAt_5 lkV_L_42 rfl rfl e3 (tX9_thingAt hl e1) rfl rfl rfl rfl rfl (fun z hz => absurd hz List.not_mem_nil) rfl (by decide) w616 w628 (Or.inl ⟨dL_thingAt_13, rfl⟩) rfl rfl ?_
      refine mG_ic (pc := 15) C dL_thingAt_15 kI1 ?_
      cases hf
      exact mG_irH (pc := 16) C E hX dL_thingAt_16 rfl
    · rw [if_neg q9] at hf
      cases hf
theorem dL_markAt_0 : decode cL_markAt 0 = .ok (.aload_n 3, 1) := by decide +kernel
theorem dL_markAt_1 : decode cL_markAt 1 = .ok (.iconst 0, 1) := by decide +kernel
theorem dL_markAt_2 : decode cL_markAt 2 = .ok (.aload_n 0, 1) := by decide +kernel
theorem dL_markAt_3 : decode cL_markAt 3 = .ok (.iload_n 1, 1) := by decide +kernel
theorem dL_markAt_4 : decode cL_markAt 4 = .ok (.iload_n 2, 1) := by decide +kernel
theorem dL_markAt_5 : decode cL_markAt 5 = .ok (.invokevirtual 45, 3) := by decide +kernel
theorem dL_markAt_8 : decode cL_markAt 8 = .ok (.i2l, 1) := by decide +kernel
theorem dL_markAt_9 : decode cL_markAt 9 = .ok (.lastore, 1) := by decide +kernel
theorem dL_markAt_10 : decode cL_markAt 10 = .ok (.goto 7, 3) := by decide +kernel
theorem dL_markAt_13 : decode cL_markAt 13 = .ok (.astore 4, 2) := by decide +kernel
theorem dL_markAt_15 : decode cL_markAt 15 = .ok (.iconst 1, 1) := by decide +kernel
theorem dL_markAt_16 : decode cL_markAt 16 = .ok (.ireturn, 1) := by decide +kernel
theorem dL_markAt_17 : decode cL_markAt 17 = .ok (.iconst 0, 1) := by decide +kernel
theorem dL_markAt_18 : decode cL_markAt 18 = .ok (.ireturn, 1) := by decide +kernel
def fL_markAt (p0 : Nat) (p1 : Int32) (p2 : Int32) (p3 : Nat) (h : mxH) : Option (Int32 × mxH) := Option.bind (isO h p0 9) (fun u2 => mxCatch (fX9_markAt p0 p1 p2 h) (fun v4 h5 => Option.bind (stJ h5 p3 0 v4.toInt64) (fun h7 => some (0, h7))) (fun E6 h5 => (if E6 = "java/lang/IndexOutOfBoundsException" then some (1, h5) else none)))
abbrev rmL_markAt : Room := { frames := 8, cells := 2, slots := 12, locals := 144 }
set_option maxRecDepth 20000 in
theorem tL_markAt {l : Launch} {Z : mxZ} (hl : l.stackTraces = false) {p0 : Nat} {p1 : Int32} {p2 : Int32} {p3 : Nat} {h : mxH} {out : Int32 × mxH} (hf : fL_markAt p0 p1 p2 p3 h = some out) : mxMetH l Z yL_markAt cL_markAt 5 (some .int) [(0, 10, 13, 13)] rmL_markAt [.ref p0, .int p1, .int p2, .ref p3] h (.inl (some (.int out.1))) out.2 := by
  refine mxMetH_of (by decide) hl (by simp [Value.category]) (Nat.le_of_ble_eq_true rfl) ?_
  intro X C E hX
  unfold fL_markAt at hf
  refine mG_aload_n (pc := 0) C dL_markAt_0 rfl ?_
  refine mG_ic (pc := 1) C dL_markAt_1 kI0 ?_
  refine mG_aload_n (pc := 2) C dL_markAt_2 rfl ?_
  refine mG_iload_n (pc := 3) C dL_markAt_3 rfl ?_
  refine mG_iload_n (pc := 4) C dL_markAt_4 rfl ?_
  obtain ⟨u2, e3, hf⟩ := mx_bind hf
  rcases mx_catch hf with ⟨v4, h5, e1, hf⟩ | ⟨E6, h5, e1, hf⟩
  · refine mG_cV (pc := 5) (k' := 2) (n' := 12) 9 [.int p1, .int p2] [.int 0, .ref p3] C hX dL_markAt_5 lkV_L_45 rfl rfl e3 (tX9_markAt hl e1) rfl rfl rfl rfl ?_
    refine mG_i2l (pc := 8) C dL_markAt_8 ?_
    obtain ⟨h7, e8, hf⟩ := mx_bind hf
    refine mG_lastore (pc := 9) C dL_markAt_9 e8 ?_
    refine mG_goto (tgt := 17) (pc := 10) C dL_markAt_10 (by decide) ?_
    refine mG_ic (pc := 17) C dL_markAt_17 kI0 ?_
    cases hf
    exact mG_irH (pc := 18) C E hX dL_markAt_18 rfl
  · skip
    by_cases q9 : E6 = "java/lang/IndexOutOfBoundsException"
    · rw [if_pos q9] at hf
      subst q9
      refine mG_cVC (pc := 5) (k' := 2) (n' := 12) (i := 4) (ln := 2) 9 [.int p1, .int p2] [.int 0, .ref p3] [] ⟨0, 10, 13, 13⟩ [] C E hX dL_markAt_5 lkV_L_45 rfl rfl e3 (tX9_markAt hl e1) rfl rfl rfl rfl rfl (fun z hz => absurd hz List.not_mem_nil) rfl (by decide) w616 w628 (Or.inl ⟨dL_markAt_13, rfl⟩) rfl rfl ?_
      refine mG_ic (pc := 15) C dL_markAt_15 kI1 ?_
      cases hf
      exact mG_irH (pc := 16) C E hX dL_markAt_16 rfl
    · rw [if_neg q9] at hf
      cases hf
theorem dL_placeOf_0 : decode cL_placeOf 0 = .ok (.aload_n 3, 1) := by decide +kernel
theorem dL_placeOf_1 : decode cL_placeOf 1 = .ok (.iconst 0, 1) := by decide +kernel
theorem dL_placeOf_2 : decode cL_placeOf 2 = .ok (.aload_n 0, 1) := by decide +kernel
theorem dL_placeOf_3 : decode cL_placeOf 3 = .ok (.iload_n 1, 1) := by decide +kernel
theorem dL_placeOf_4 : decode cL_placeOf 4 = .ok (.iload_n 2, 1) := by decide +kernel
theorem dL_placeOf_5 : decode cL_placeOf 5 = .ok (.invokevirtual 48, 3) := by decide +kernel
theorem dL_placeOf_8 : decode cL_placeOf 8 = .ok (.i2l, 1) := by decide +kernel
theorem dL_placeOf_9 : decode cL_placeOf 9 = .ok (.lastore, 1) := by decide +kernel
theorem dL_placeOf_10 : decode cL_placeOf 10 = .ok (.goto 11, 3) := by decide +kernel
theorem dL_placeOf_13 : decode cL_placeOf 13 = .ok (.astore 4, 2) := by decide +kernel
theorem dL_placeOf_15 : decode cL_placeOf 15 = .ok (.iconst 1, 1) := by decide +kernel
theorem dL_placeOf_16 : decode cL_placeOf 16 = .ok (.ireturn, 1) := by decide +kernel
theorem dL_placeOf_17 : decode cL_placeOf 17 = .ok (.astore 4, 2) := by decide +kernel
theorem dL_placeOf_19 : decode cL_placeOf 19 = .ok (.iconst 2, 1) := by decide +kernel
theorem dL_placeOf_20 : decode cL_placeOf 20 = .ok (.ireturn, 1) := by decide +kernel
theorem dL_placeOf_21 : decode cL_placeOf 21 = .ok (.iconst 0, 1) := by decide +kernel
theorem dL_placeOf_22 : decode cL_placeOf 22 = .ok (.ireturn, 1) := by decide +kernel
def fL_placeOf (p0 : Nat) (p1 : Int32) (p2 : Int32) (p3 : Nat) (h : mxH) : Option (Int32 × mxH) := Option.bind (isO h p0 9) (fun u2 => mxCatch (fX9_placeOf p0 p1 p2 h) (fun v4 h5 => Option.bind (stJ h5 p3 0 v4.toInt64) (fun h7 => some (0, h7))) (fun E6 h5 => (if E6 = "java/lang/IndexOutOfBoundsException" then some (1, h5) else (if E6 = "java/util/NoSuchElementException" then some (2, h5) else none))))
abbrev rmL_placeOf : Room := { frames := 8, cells := 3, slots := 18, locals := 144 }
set_option maxRecDepth 20000 in
theorem tL_placeOf {l : Launch} {Z : mxZ} (hl : l.stackTraces = false) {p0 : Nat} {p1 : Int32} {p2 : Int32} {p3 : Nat} {h : mxH} {out : Int32 × mxH} (hf : fL_placeOf p0 p1 p2 p3 h = some out) : mxMetH l Z yL_placeOf cL_placeOf 5 (some .int) [(0, 10, 13, 13), (0, 10, 17, 21)] rmL_placeOf [.ref p0, .int p1, .int p2, .ref p3] h (.inl (some (.int out.1))) out.2 := by
  refine mxMetH_of (by decide) hl (by simp [Value.category]) (Nat.le_of_ble_eq_true rfl) ?_
  intro X C E hX
  unfold fL_placeOf at hf
  refine mG_aload_n (pc := 0) C dL_placeOf_0 rfl ?_
  refine mG_ic (pc := 1) C dL_placeOf_1 kI0 ?_
  refine mG_aload_n (pc := 2) C dL_placeOf_2 rfl ?_
  refine mG_iload_n (pc := 3) C dL_placeOf_3 rfl ?_
  refine mG_iload_n (pc := 4) C dL_placeOf_4 rfl ?_
  obtain ⟨u2, e3, hf⟩ := mx_bind hf
  rcases mx_catch hf with ⟨v4, h5, e1, hf⟩ | ⟨E6, h5, e1, hf⟩
  · refine mG_cV (pc := 5) (k' := 3) (n' := 18) 9 [.int p1, .int p2] [.int 0, .ref p3] C hX dL_placeOf_5 lkV_L_48 rfl rfl e3 (tX9_placeOf hl e1) rfl rfl rfl rfl ?_
    refine mG_i2l (pc := 8) C dL_placeOf_8 ?_
    obtain ⟨h7, e8, hf⟩ := mx_bind hf
    refine mG_lastore (pc := 9) C dL_placeOf_9 e8 ?_
    refine mG_goto (tgt := 21) (pc := 10) C dL_placeOf_10 (by decide) ?_
    refine mG_ic (pc := 21) C dL_placeOf_21 kI0 ?_
    cases hf
    exact mG_irH (pc := 22) C E hX dL_placeOf_22 rfl
  · skip
    by_cases q9 : E6 = "java/lang/IndexOutOfBoundsException"
    · rw [if_pos q9] at hf
      subst q9
      refine mG_cVC (pc := 5) (k' := 3) (n' := 18) (i := 4) (ln := 2) 9 [.int p1, .int p2] [.int 0, .ref p3] [] ⟨0, 10, 13, 13⟩ [⟨0, 10, 17, 21⟩] C E hX dL_placeOf_5 lkV_L_48 rfl rfl e3 (tX9_placeOf hl e1) rfl rfl rfl rfl rfl (fun z hz => absurd hz List.not_mem_nil) rfl (by decide) w616 w628 (Or.inl ⟨dL_placeOf_13, rfl⟩) rfl rfl ?_
      refine mG_ic (pc := 15) C dL_placeOf_15 kI1 ?_
      cases hf
      exact mG_irH (pc := 16) C E hX dL_placeOf_16 rfl
    · rw [if_neg q9] at hf
      by_cases q10 : E6 = "java/util/NoSuchElementException"
      · rw [if_pos q10] at hf
        subst q10
        refine mG_cVC (pc := 5) (k' := 3) (n' := 18) (i := 4) (ln := 2) 9 [.int p1, .int p2] [.int 0, .ref p3] [⟨0, 10, 13, 13⟩] ⟨0, 10, 17, 21⟩ [] C E hX dL_placeOf_5 lkV_L_48 rfl rfl e3 (tX9_placeOf hl e1) rfl rfl rfl rfl rfl (fun z hz => by rw [List.mem_singleton.mp hz]; exact ⟨by decide, _, w616, xs2, xs0, xn20⟩) rfl (by decide) w727 w737 (Or.inl ⟨dL_placeOf_17, rfl⟩) rfl rfl ?_
        refine mG_ic (pc := 19) C dL_placeOf_19 kI2 ?_
        cases hf
        exact mG_irH (pc := 20) C E hX dL_placeOf_20 rfl
      · rw [if_neg q10] at hf
        cases hf
theorem dL_value_0 : decode cL_value 0 = .ok (.aload_n 2, 1) := by decide +kernel
theorem dL_value_1 : decode cL_value 1 = .ok (.iconst 0, 1) := by decide +kernel
theorem dL_value_2 : decode cL_value 2 = .ok (.aload_n 0, 1) := by decide +kernel
theorem dL_value_3 : decode cL_value 3 = .ok (.iload_n 1, 1) := by decide +kernel
theorem dL_value_4 : decode cL_value 4 = .ok (.invokevirtual 51, 3) := by decide +kernel
theorem dL_value_7 : decode cL_value 7 = .ok (.i2l, 1) := by decide +kernel
theorem dL_value_8 : decode cL_value 8 = .ok (.lastore, 1) := by decide +kernel
theorem dL_value_9 : decode cL_value 9 = .ok (.goto 6, 3) := by decide +kernel
theorem dL_value_12 : decode cL_value 12 = .ok (.astore_n 3, 1) := by decide +kernel
theorem dL_value_13 : decode cL_value 13 = .ok (.iconst 1, 1) := by decide +kernel
theorem dL_value_14 : decode cL_value 14 = .ok (.ireturn, 1) := by decide +kernel
theorem dL_value_15 : decode cL_value 15 = .ok (.iconst 0, 1) := by decide +kernel
theorem dL_value_16 : decode cL_value 16 = .ok (.ireturn, 1) := by decide +kernel
def fL_value (p0 : Nat) (p1 : Int32) (p2 : Nat) (h : mxH) : Option (Int32 × mxH) := Option.bind (isO h p0 9) (fun u2 => mxCatch (fX9_value p0 p1 h) (fun v4 h5 => Option.bind (stJ h5 p2 0 v4.toInt64) (fun h7 => some (0, h7))) (fun E6 h5 => (if E6 = "java/lang/IndexOutOfBoundsException" then some (1, h5) else none)))
abbrev rmL_value : Room := { frames := 8, cells := 1, slots := 6, locals := 142 }
set_option maxRecDepth 20000 in
theorem tL_value {l : Launch} {Z : mxZ} (hl : l.stackTraces = false) {p0 : Nat} {p1 : Int32} {p2 : Nat} {h : mxH} {out : Int32 × mxH} (hf : fL_value p0 p1 p2 h = some out) : mxMetH l Z yL_value cL_value 4 (some .int) [(0, 9, 12, 13)] rmL_value [.ref p0, .int p1, .ref p2] h (.inl (some (.int out.1))) out.2 := by
  refine mxMetH_of (by decide) hl (by simp [Value.category]) (Nat.le_of_ble_eq_true rfl) ?_
  intro X C E hX
  unfold fL_value at hf
  refine mG_aload_n (pc := 0) C dL_value_0 rfl ?_
  refine mG_ic (pc := 1) C dL_value_1 kI0 ?_
  refine mG_aload_n (pc := 2) C dL_value_2 rfl ?_
  refine mG_iload_n (pc := 3) C dL_value_3 rfl ?_
  obtain ⟨u2, e3, hf⟩ := mx_bind hf
  rcases mx_catch hf with ⟨v4, h5, e1, hf⟩ | ⟨E6, h5, e1, hf⟩
  · refine mG_cV (pc := 4) (k' := 1) (n' := 6) 9 [.int p1] [.int 0, .ref p2] C hX dL_value_4 lkV_L_51 rfl rfl e3 (tX9_value hl e1) rfl rfl rfl rfl ?_
    refine mG_i2l (pc := 7) C dL_value_7 ?_
    obtain ⟨h7, e8, hf⟩ := mx_bind hf
    refine mG_lastore (pc := 8) C dL_value_8 e8 ?_
    refine mG_goto (tgt := 15) (pc := 9) C dL_value_9 (by decide) ?_
    refine mG_ic (pc := 15) C dL_value_15 kI0 ?_
    cases hf
    exact mG_irH (pc := 16) C E hX dL_value_16 rfl
  · skip
    by_cases q9 : E6 = "java/lang/IndexOutOfBoundsException"
    · rw [if_pos q9] at hf
      subst q9
      refine mG_cVC (pc := 4) (k' := 1) (n' := 6) (i := 3) (ln := 1) 9 [.int p1] [.int 0, .ref p2] [] ⟨0, 9, 12, 13⟩ [] C E hX dL_value_4 lkV_L_51 rfl rfl e3 (tX9_value hl e1) rfl rfl rfl rfl rfl (fun z hz => absurd hz List.not_mem_nil) rfl (by decide) w616 w628 (Or.inr ⟨3, rfl, dL_value_12, rfl⟩) rfl rfl ?_
      refine mG_ic (pc := 13) C dL_value_13 kI1 ?_
      cases hf
      exact mG_irH (pc := 14) C E hX dL_value_14 rfl
    · rw [if_neg q9] at hf
      cases hf
theorem dL_ranked_0 : decode cL_ranked 0 = .ok (.aload_n 2, 1) := by decide +kernel
theorem dL_ranked_1 : decode cL_ranked 1 = .ok (.iconst 0, 1) := by decide +kernel
theorem dL_ranked_2 : decode cL_ranked 2 = .ok (.aload_n 0, 1) := by decide +kernel
theorem dL_ranked_3 : decode cL_ranked 3 = .ok (.iload_n 1, 1) := by decide +kernel
theorem dL_ranked_4 : decode cL_ranked 4 = .ok (.invokevirtual 54, 3) := by decide +kernel
theorem dL_ranked_7 : decode cL_ranked 7 = .ok (.i2l, 1) := by decide +kernel
theorem dL_ranked_8 : decode cL_ranked 8 = .ok (.lastore, 1) := by decide +kernel
theorem dL_ranked_9 : decode cL_ranked 9 = .ok (.goto 6, 3) := by decide +kernel
theorem dL_ranked_12 : decode cL_ranked 12 = .ok (.astore_n 3, 1) := by decide +kernel
theorem dL_ranked_13 : decode cL_ranked 13 = .ok (.iconst 1, 1) := by decide +kernel
theorem dL_ranked_14 : decode cL_ranked 14 = .ok (.ireturn, 1) := by decide +kernel
theorem dL_ranked_15 : decode cL_ranked 15 = .ok (.iconst 0, 1) := by decide +kernel
theorem dL_ranked_16 : decode cL_ranked 16 = .ok (.ireturn, 1) := by decide +kernel
def fL_ranked (p0 : Nat) (p1 : Int32) (p2 : Nat) (h : mxH) : Option (Int32 × mxH) := Option.bind (isO h p0 9) (fun u2 => mxCatch (fX9_ranked p0 p1 h) (fun v4 h5 => Option.bind (stJ h5 p2 0 v4.toInt64) (fun h7 => some (0, h7))) (fun E6 h5 => (if E6 = "java/lang/IndexOutOfBoundsException" then some (1, h5) else none)))
abbrev rmL_ranked : Room := { frames := 8, cells := 1, slots := 6, locals := 143 }
set_option maxRecDepth 20000 in
theorem tL_ranked {l : Launch} {Z : mxZ} (hl : l.stackTraces = false) {p0 : Nat} {p1 : Int32} {p2 : Nat} {h : mxH} {out : Int32 × mxH} (hf : fL_ranked p0 p1 p2 h = some out) : mxMetH l Z yL_ranked cL_ranked 4 (some .int) [(0, 9, 12, 13)] rmL_ranked [.ref p0, .int p1, .ref p2] h (.inl (some (.int out.1))) out.2 := by
  refine mxMetH_of (by decide) hl (by simp [Value.category]) (Nat.le_of_ble_eq_true rfl) ?_
  intro X C E hX
  unfold fL_ranked at hf
  refine mG_aload_n (pc := 0) C dL_ranked_0 rfl ?_
  refine mG_ic (pc := 1) C dL_ranked_1 kI0 ?_
  refine mG_aload_n (pc := 2) C dL_ranked_2 rfl ?_
  refine mG_iload_n (pc := 3) C dL_ranked_3 rfl ?_
  obtain ⟨u2, e3, hf⟩ := mx_bind hf
  rcases mx_catch hf with ⟨v4, h5, e1, hf⟩ | ⟨E6, h5, e1, hf⟩
  · refine mG_cV (pc := 4) (k' := 1) (n' := 6) 9 [.int p1] [.int 0, .ref p2] C hX dL_ranked_4 lkV_L_54 rfl rfl e3 (tX9_ranked hl e1) rfl rfl rfl rfl ?_
    refine mG_i2l (pc := 7) C dL_ranked_7 ?_
    obtain ⟨h7, e8, hf⟩ := mx_bind hf
    refine mG_lastore (pc := 8) C dL_ranked_8 e8 ?_
    refine mG_goto (tgt := 15) (pc := 9) C dL_ranked_9 (by decide) ?_
    refine mG_ic (pc := 15) C dL_ranked_15 kI0 ?_
    cases hf
    exact mG_irH (pc := 16) C E hX dL_ranked_16 rfl
  · skip
    by_cases q9 : E6 = "java/lang/IndexOutOfBoundsException"
    · rw [if_pos q9] at hf
      subst q9
      refine mG_cVC (pc := 4) (k' := 1) (n' := 6) (i := 3) (ln := 1) 9 [.int p1] [.int 0, .ref p2] [] ⟨0, 9, 12, 13⟩ [] C E hX dL_ranked_4 lkV_L_54 rfl rfl e3 (tX9_ranked hl e1) rfl rfl rfl rfl rfl (fun z hz => absurd hz List.not_mem_nil) rfl (by decide) w616 w628 (Or.inr ⟨3, rfl, dL_ranked_12, rfl⟩) rfl rfl ?_
      refine mG_ic (pc := 13) C dL_ranked_13 kI1 ?_
      cases hf
      exact mG_irH (pc := 14) C E hX dL_ranked_14 rfl
    · rw [if_neg q9] at hf
      cases hf
theorem dL_rankOf_0 : decode cL_rankOf 0 = .ok (.aload_n 2, 1) := by decide +kernel
theorem dL_rankOf_1 : decode cL_rankOf 1 = .ok (.iconst 0, 1) := by decide +kernel
theorem dL_rankOf_2 : decode cL_rankOf 2 = .ok (.aload_n 0, 1) := by decide +kernel
theorem dL_rankOf_3 : decode cL_rankOf 3 = .ok (.iload_n 1, 1) := by decide +kernel
theorem dL_rankOf_4 : decode cL_rankOf 4 = .ok (.invokevirtual 57, 3) := by decide +kernel
theorem dL_rankOf_7 : decode cL_rankOf 7 = .ok (.i2l, 1) := by decide +kernel
theorem dL_rankOf_8 : decode cL_rankOf 8 = .ok (.lastore, 1) := by decide +kernel
theorem dL_rankOf_9 : decode cL_rankOf 9 = .ok (.goto 9, 3) := by decide +kernel
theorem dL_rankOf_12 : decode cL_rankOf 12 = .ok (.astore_n 3, 1) := by decide +kernel
theorem dL_rankOf_13 : decode cL_rankOf 13 = .ok (.iconst 1, 1) := by decide +kernel
theorem dL_rankOf_14 : decode cL_rankOf 14 = .ok (.ireturn, 1) := by decide +kernel
theorem dL_rankOf_15 : decode cL_rankOf 15 = .ok (.astore_n 3, 1) := by decide +kernel
theorem dL_rankOf_16 : decode cL_rankOf 16 = .ok (.iconst 2, 1) := by decide +kernel
theorem dL_rankOf_17 : decode cL_rankOf 17 = .ok (.ireturn, 1) := by decide +kernel
theorem dL_rankOf_18 : decode cL_rankOf 18 = .ok (.iconst 0, 1) := by decide +kernel
theorem dL_rankOf_19 : decode cL_rankOf 19 = .ok (.ireturn, 1) := by decide +kernel
def fL_rankOf (p0 : Nat) (p1 : Int32) (p2 : Nat) (h : mxH) : Option (Int32 × mxH) := Option.bind (isO h p0 9) (fun u2 => mxCatch (fX9_rankOf p0 p1 h) (fun v4 h5 => Option.bind (stJ h5 p2 0 v4.toInt64) (fun h7 => some (0, h7))) (fun E6 h5 => (if E6 = "java/lang/IndexOutOfBoundsException" then some (1, h5) else (if E6 = "java/util/NoSuchElementException" then some (2, h5) else none))))
abbrev rmL_rankOf : Room := { frames := 8, cells := 2, slots := 12, locals := 143 }
set_option maxRecDepth 20000 in
theorem tL_rankOf {l : Launch} {Z : mxZ} (hl : l.stackTraces = false) {p0 : Nat} {p1 : Int32} {p2 : Nat} {h : mxH} {out : Int32 × mxH} (hf : fL_rankOf p0 p1 p2 h = some out) : mxMetH l Z yL_rankOf cL_rankOf 4 (some .int) [(0, 9, 12, 13), (0, 9, 15, 21)] rmL_rankOf [.ref p0, .int p1, .ref p2] h (.inl (some (.int out.1))) out.2 := by
  refine mxMetH_of (by decide) hl (by simp [Value.category]) (Nat.le_of_ble_eq_true rfl) ?_
  intro X C E hX
  unfold fL_rankOf at hf
  refine mG_aload_n (pc := 0) C dL_rankOf_0 rfl ?_
  refine mG_ic (pc := 1) C dL_rankOf_1 kI0 ?_
  refine mG_aload_n (pc := 2) C dL_rankOf_2 rfl ?_
  refine mG_iload_n (pc := 3) C dL_rankOf_3 rfl ?_
  obtain ⟨u2, e3, hf⟩ := mx_bind hf
  rcases mx_catch hf with ⟨v4, h5, e1, hf⟩ | ⟨E6, h5, e1, hf⟩
  · refine mG_cV (pc := 4) (k' := 2) (n' := 12) 9 [.int p1] [.int 0, .ref p2] C hX dL_rankOf_4 lkV_L_57 rfl rfl e3 (tX9_rankOf hl e1) rfl rfl rfl rfl ?_
    refine mG_i2l (pc := 7) C dL_rankOf_7 ?_
    obtain ⟨h7, e8, hf⟩ := mx_bind hf
    refine mG_lastore (pc := 8) C dL_rankOf_8 e8 ?_
    refine mG_goto (tgt := 18) (pc := 9) C dL_rankOf_9 (by decide) ?_
    refine mG_ic (pc := 18) C dL_rankOf_18 kI0 ?_
    cases hf
    exact mG_irH (pc := 19) C E hX dL_rankOf_19 rfl
  · skip
    by_cases q9 : E6 = "java/lang/IndexOutOfBoundsException"
    · rw [if_pos q9] at hf
      subst q9
      refine mG_cVC (pc := 4) (k' := 2) (n' := 12) (i := 3) (ln := 1) 9 [.int p1] [.int 0, .ref p2] [] ⟨0, 9, 12, 13⟩ [⟨0, 9, 15, 21⟩] C E hX dL_rankOf_4 lkV_L_57 rfl rfl e3 (tX9_rankOf hl e1) rfl rfl rfl rfl rfl (fun z hz => absurd hz List.not_mem_nil) rfl (by decide) w616 w628 (Or.inr ⟨3, rfl, dL_rankOf_12, rfl⟩) rfl rfl ?_
      refine mG_ic (pc := 13) C dL_rankOf_13 kI1 ?_
      cases hf
      exact mG_irH (pc := 14) C E hX dL_rankOf_14 rfl
    · rw [if_neg q9] at hf
      by_cases q10 : E6 = "java/util/NoSuchElementException"
      · rw [if_pos q10] at hf
        subst q10
        refine mG_cVC (pc := 4) (k' := 2) (n' := 12) (i := 3) (ln := 1) 9 [.int p1] [.int 0, .ref p2] [⟨0, 9, 12, 13⟩] ⟨0, 9, 15, 21⟩ [] C E hX dL_rankOf_4 lkV_L_57 rfl rfl e3 (tX9_rankOf hl e1) rfl rfl rfl rfl rfl (fun z hz => by rw [List.mem_singleton.mp hz]; exact ⟨by decide, _, w616, xs2, xs0, xn20⟩) rfl (by decide) w727 w737 (Or.inr ⟨3, rfl, dL_rankOf_15, rfl⟩) rfl rfl ?_
        refine mG_ic (pc := 16) C dL_rankOf_16 kI2 ?_
        cases hf
        exact mG_irH (pc := 17) C E hX dL_rankOf_17 rfl
      · rw [if_neg q10] at hf
        cases hf
theorem dL_limit_0 : decode cL_limit 0 = .ok (.aload_n 2, 1) := by decide +kernel
theorem dL_limit_1 : decode cL_limit 1 = .ok (.iconst 0, 1) := by decide +kernel
theorem dL_limit_2 : decode cL_limit 2 = .ok (.aload_n 0, 1) := by decide +kernel
theorem dL_limit_3 : decode cL_limit 3 = .ok (.iload_n 1, 1) := by decide +kernel
theorem dL_limit_4 : decode cL_limit 4 = .ok (.invokevirtual 60, 3) := by decide +kernel
theorem dL_limit_7 : decode cL_limit 7 = .ok (.i2l, 1) := by decide +kernel
theorem dL_limit_8 : decode cL_limit 8 = .ok (.lastore, 1) := by decide +kernel
theorem dL_limit_9 : decode cL_limit 9 = .ok (.goto 6, 3) := by decide +kernel
theorem dL_limit_12 : decode cL_limit 12 = .ok (.astore_n 3, 1) := by decide +kernel
theorem dL_limit_13 : decode cL_limit 13 = .ok (.iconst 1, 1) := by decide +kernel
theorem dL_limit_14 : decode cL_limit 14 = .ok (.ireturn, 1) := by decide +kernel
theorem dL_limit_15 : decode cL_limit 15 = .ok (.iconst 0, 1) := by decide +kernel
theorem dL_limit_16 : decode cL_limit 16 = .ok (.ireturn, 1) := by decide +kernel
def fL_limit (p0 : Nat) (p1 : Int32) (p2 : Nat) (h : mxH) : Option (Int32 × mxH) := Option.bind (isO h p0 9) (fun u2 => mxCatch (fX9_limit p0 p1 h) (fun v4 h5 => Option.bind (stJ h5 p2 0 v4.toInt64) (fun h7 => some (0, h7))) (fun E6 h5 => (if E6 = "java/lang/IllegalArgumentException" then some (1, h5) else none)))
abbrev rmL_limit : Room := { frames := 8, cells := 1, slots := 6, locals := 144 }
set_option maxRecDepth 20000 in
theorem tL_limit {l : Launch} {Z : mxZ} (hl : l.stackTraces = false) {p0 : Nat} {p1 : Int32} {p2 : Nat} {h : mxH} {out : Int32 × mxH} (hf : fL_limit p0 p1 p2 h = some out) : mxMetH l Z yL_limit cL_limit 4 (some .int) [(0, 9, 12, 15)] rmL_limit [.ref p0, .int p1, .ref p2] h (.inl (some (.int out.1))) out.2 := by
  refine mxMetH_of (by decide) hl (by simp [Value.category]) (Nat.le_of_ble_eq_true rfl) ?_
  intro X C E hX
  unfold fL_limit at hf
  refine mG_aload_n (pc := 0) C dL_limit_0 rfl ?_
  refine mG_ic (pc := 1) C dL_limit_1 kI0 ?_
  refine mG_aload_n (pc := 2) C dL_limit_2 rfl ?_
  refine mG_iload_n (pc := 3) C dL_limit_3 rfl ?_
  obtain ⟨u2, e3, hf⟩ := mx_bind hf
  rcases mx_catch hf with ⟨v4, h5, e1, hf⟩ | ⟨E6, h5, e1, hf⟩
  · refine mG_cV (pc := 4) (k' := 1) (n' := 6) 9 [.int p1] [.int 0, .ref p2] C hX dL_limit_4 lkV_L_60 rfl rfl e3 (tX9_limit hl e1) rfl rfl rfl rfl ?_
    refine mG_i2l (pc := 7) C dL_limit_7 ?_
    obtain ⟨h7, e8, hf⟩ := mx_bind hf
    refine mG_lastore (pc := 8) C dL_limit_8 e8 ?_
    refine mG_goto (tgt := 15) (pc := 9) C dL_limit_9 (by decide) ?_
    refine mG_ic (pc := 15) C dL_limit_15 kI0 ?_
    cases hf
    exact mG_irH (pc := 16) C E hX dL_limit_16 rfl
  · skip
    by_cases q9 : E6 = "java/lang/IllegalArgumentException"
    · rw [if_pos q9] at hf
      subst q9
      refine mG_cVC (pc := 4) (k' := 1) (n' := 6) (i := 3) (ln := 1) 9 [.int p1] [.int 0, .ref p2] [] ⟨0, 9, 12, 15⟩ [] C E hX dL_limit_4 lkV_L_60 rfl rfl e3 (tX9_limit hl e1) rfl rfl rfl rfl rfl (fun z hz => absurd hz List.not_mem_nil) rfl (by decide) w617 w704 (Or.inr ⟨3, rfl, dL_limit_12, rfl⟩) rfl rfl ?_
      refine mG_ic (pc := 13) C dL_limit_13 kI1 ?_
      cases hf
      exact mG_irH (pc := 14) C E hX dL_limit_14 rfl
    · rw [if_neg q9] at hf
      cases hf
theorem dL_stopDepth_0 : decode cL_stopDepth 0 = .ok (.aload_n 2, 1) := by decide +kernel
theorem dL_stopDepth_1 : decode cL_stopDepth 1 = .ok (.iconst 0, 1) := by decide +kernel
theorem dL_stopDepth_2 : decode cL_stopDepth 2 = .ok (.aload_n 0, 1) := by decide +kernel
theorem dL_stopDepth_3 : decode cL_stopDepth 3 = .ok (.iload_n 1, 1) := by decide +kernel
theorem dL_stopDepth_4 : decode cL_stopDepth 4 = .ok (.invokevirtual 63, 3) := by decide +kernel
theorem dL_stopDepth_7 : decode cL_stopDepth 7 = .ok (.i2l, 1) := by decide +kernel
theorem dL_stopDepth_8 : decode cL_stopDepth 8 = .ok (.lastore, 1) := by decide +kernel
theorem dL_stopDepth_9 : decode cL_stopDepth 9 = .ok (.goto 6, 3) := by decide +kernel
theorem dL_stopDepth_12 : decode cL_stopDepth 12 = .ok (.astore_n 3, 1) := by decide +kernel
theorem dL_stopDepth_13 : decode cL_stopDepth 13 = .ok (.iconst 1, 1) := by decide +kernel
theorem dL_stopDepth_14 : decode cL_stopDepth 14 = .ok (.ireturn, 1) := by decide +kernel
theorem dL_stopDepth_15 : decode cL_stopDepth 15 = .ok (.iconst 0, 1) := by decide +kernel
theorem dL_stopDepth_16 : decode cL_stopDepth 16 = .ok (.ireturn, 1) := by decide +kernel
def fL_stopDepth (p0 : Nat) (p1 : Int32) (p2 : Nat) (h : mxH) : Option (Int32 × mxH) := Option.bind (isO h p0 9) (fun u2 => mxCatch (fX9_stopDepth p0 p1 h) (fun v4 h5 => Option.bind (stJ h5 p2 0 v4.toInt64) (fun h7 => some (0, h7))) (fun E6 h5 => (if E6 = "java/lang/IllegalArgumentException" then some (1, h5) else none)))
abbrev rmL_stopDepth : Room := { frames := 8, cells := 1, slots := 6, locals := 153 }
set_option maxRecDepth 20000 in
theorem tL_stopDepth {l : Launch} {Z : mxZ} (hl : l.stackTraces = false) {p0 : Nat} {p1 : Int32} {p2 : Nat} {h : mxH} {out : Int32 × mxH} (hf : fL_stopDepth p0 p1 p2 h = some out) : mxMetH l Z yL_stopDepth cL_stopDepth 4 (some .int) [(0, 9, 12, 15)] rmL_stopDepth [.ref p0, .int p1, .ref p2] h (.inl (some (.int out.1))) out.2 := by
  refine mxMetH_of (by decide) hl (by simp [Value.category]) (Nat.le_of_ble_eq_true rfl) ?_
  intro X C E hX
  unfold fL_stopDepth at hf
  refine mG_aload_n (pc := 0) C dL_stopDepth_0 rfl ?_
  refine mG_ic (pc := 1) C dL_stopDepth_1 kI0 ?_
  refine mG_aload_n (pc := 2) C dL_stopDepth_2 rfl ?_
  refine mG_iload_n (pc := 3) C dL_stopDepth_3 rfl ?_
  obtain ⟨u2, e3, hf⟩ := mx_bind hf
  rcases mx_catch hf with ⟨v4, h5, e1, hf⟩ | ⟨E6, h5, e1, hf⟩
  · refine mG_cV (pc := 4) (k' := 1) (n' := 6) 9 [.int p1] [.int 0, .ref p2] C hX dL_stopDepth_4 lkV_L_63 rfl rfl e3 (tX9_stopDepth hl e1) rfl rfl rfl rfl ?_
    refine mG_i2l (pc := 7) C dL_stopDepth_7 ?_
    obtain ⟨h7, e8, hf⟩ := mx_bind hf
    refine mG_lastore (pc := 8) C dL_stopDepth_8 e8 ?_
    refine mG_goto (tgt := 15) (pc := 9) C dL_stopDepth_9 (by decide) ?_
    refine mG_ic (pc := 15) C dL_stopDepth_15 kI0 ?_
    cases hf
    exact mG_irH (pc := 16) C E hX dL_stopDepth_16 rfl
  · skip
    by_cases q9 : E6 = "java/lang/IllegalArgumentException"
    · rw [if_pos q9] at hf
      subst q9
      refine mG_cVC (pc := 4) (k' := 1) (n' := 6) (i := 3) (ln := 1) 9 [.int p1] [.int 0, .ref p2] [] ⟨0, 9, 12, 15⟩ [] C E hX dL_stopDepth_4 lkV_L_63 rfl rfl e3 (tX9_stopDepth hl e1) rfl rfl rfl rfl rfl (fun z hz => absurd hz List.not_mem_nil) rfl (by decide) w617 w704 (Or.inr ⟨3, rfl, dL_stopDepth_12, rfl⟩) rfl rfl ?_
      refine mG_ic (pc := 13) C dL_stopDepth_13 kI1 ?_
      cases hf
      exact mG_irH (pc := 14) C E hX dL_stopDepth_14 rfl
    · rw [if_neg q9] at hf
      cases hf
theorem dL_cost_0 : decode cL_cost 0 = .ok (.aload_n 2, 1) := by decide +kernel
theorem dL_cost_1 : decode cL_cost 1 = .ok (.iconst 0, 1) := by decide +kernel
theorem dL_cost_2 : decode cL_cost 2 = .ok (.aload_n 0, 1) := by decide +kernel
theorem dL_cost_3 : decode cL_cost 3 = .ok (.iload_n 1, 1) := by decide +kernel
theorem dL_cost_4 : decode cL_cost 4 = .ok (.invokevirtual 66, 3) := by decide +kernel
theorem dL_cost_7 : decode cL_cost 7 = .ok (.i2l, 1) := by decide +kernel
theorem dL_cost_8 : decode cL_cost 8 = .ok (.lastore, 1) := by decide +kernel
theorem dL_cost_9 : decode cL_cost 9 = .ok (.goto 6, 3) := by decide +kernel
theorem dL_cost_12 : decode cL_cost 12 = .ok (.astore_n 3, 1) := by decide +kernel
theorem dL_cost_13 : decode cL_cost 13 = .ok (.iconst 1, 1) := by decide +kernel
theorem dL_cost_14 : decode cL_cost 14 = .ok (.ireturn, 1) := by decide +kernel
theorem dL_cost_15 : decode cL_cost 15 = .ok (.iconst 0, 1) := by decide +kernel
theorem dL_cost_16 : decode cL_cost 16 = .ok (.ireturn, 1) := by decide +kernel
def fL_cost (p0 : Nat) (p1 : Int32) (p2 : Nat) (h : mxH) : Option (Int32 × mxH) := Option.bind (isO h p0 9) (fun u2 => mxCatch (fX9_cost p0 p1 h) (fun v4 h5 => Option.bind (stJ h5 p2 0 v4.toInt64) (fun h7 => some (0, h7))) (fun E6 h5 => (if E6 = "java/lang/IllegalArgumentException" then some (1, h5) else none)))
abbrev rmL_cost : Room := { frames := 8, cells := 1, slots := 6, locals := 155 }
set_option maxRecDepth 20000 in
theorem tL_cost {l : Launch} {Z : mxZ} (hl : l.stackTraces = false) {p0 : Nat} {p1 : Int32} {p2 : Nat} {h : mxH} {out : Int32 × mxH} (hf : fL_cost p0 p1 p2 h = some out) : mxMetH l Z yL_cost cL_cost 4 (some .int) [(0, 9, 12, 15)] rmL_cost [.ref p0, .int p1, .ref p2] h (.inl (some (.int out.1))) out.2 := by
  refine mxMetH_of (by decide) hl (by simp [Value.category]) (Nat.le_of_ble_eq_true rfl) ?_
  intro X C E hX
  unfold fL_cost at hf
  refine mG_aload_n (pc := 0) C dL_cost_0 rfl ?_
  refine mG_ic (pc := 1) C dL_cost_1 kI0 ?_
  refine mG_aload_n (pc := 2) C dL_cost_2 rfl ?_
  refine mG_iload_n (pc := 3) C dL_cost_3 rfl ?_
  obtain ⟨u2, e3, hf⟩ := mx_bind hf
  rcases mx_catch hf with ⟨v4, h5, e1, hf⟩ | ⟨E6, h5, e1, hf⟩
  · refine mG_cV (pc := 4) (k' := 1) (n' := 6) 9 [.int p1] [.int 0, .ref p2] C hX dL_cost_4 lkV_L_66 rfl rfl e3 (tX9_cost hl e1) rfl rfl rfl rfl ?_
    refine mG_i2l (pc := 7) C dL_cost_7 ?_
    obtain ⟨h7, e8, hf⟩ := mx_bind hf
    refine mG_lastore (pc := 8) C dL_cost_8 e8 ?_
    refine mG_goto (tgt := 15) (pc := 9) C dL_cost_9 (by decide) ?_
    refine mG_ic (pc := 15) C dL_cost_15 kI0 ?_
    cases hf
    exact mG_irH (pc := 16) C E hX dL_cost_16 rfl
  · skip
    by_cases q9 : E6 = "java/lang/IllegalArgumentException"
    · rw [if_pos q9] at hf
      subst q9
      refine mG_cVC (pc := 4) (k' := 1) (n' := 6) (i := 3) (ln := 1) 9 [.int p1] [.int 0, .ref p2] [] ⟨0, 9, 12, 15⟩ [] C E hX dL_cost_4 lkV_L_66 rfl rfl e3 (tX9_cost hl e1) rfl rfl rfl rfl rfl (fun z hz => absurd hz List.not_mem_nil) rfl (by decide) w617 w704 (Or.inr ⟨3, rfl, dL_cost_12, rfl⟩) rfl rfl ?_
      refine mG_ic (pc := 13) C dL_cost_13 kI1 ?_
      cases hf
      exact mG_irH (pc := 14) C E hX dL_cost_14 rfl
    · rw [if_neg q9] at hf
      cases hf
theorem dL_best_0 : decode cL_best 0 = .ok (.aload_n 3, 1) := by decide +kernel
theorem dL_best_1 : decode cL_best 1 = .ok (.iconst 0, 1) := by decide +kernel
theorem dL_best_2 : decode cL_best 2 = .ok (.aload_n 0, 1) := by decide +kernel
theorem dL_best_3 : decode cL_best 3 = .ok (.iload_n 1, 1) := by decide +kernel
theorem dL_best_4 : decode cL_best 4 = .ok (.iload_n 2, 1) := by decide +kernel
theorem dL_best_5 : decode cL_best 5 = .ok (.invokevirtual 69, 3) := by decide +kernel
theorem dL_best_8 : decode cL_best 8 = .ok (.i2l, 1) := by decide +kernel
theorem dL_best_9 : decode cL_best 9 = .ok (.lastore, 1) := by decide +kernel
theorem dL_best_10 : decode cL_best 10 = .ok (.goto 11, 3) := by decide +kernel
theorem dL_best_13 : decode cL_best 13 = .ok (.astore 4, 2) := by decide +kernel
theorem dL_best_15 : decode cL_best 15 = .ok (.iconst 1, 1) := by decide +kernel
theorem dL_best_16 : decode cL_best 16 = .ok (.ireturn, 1) := by decide +kernel
theorem dL_best_17 : decode cL_best 17 = .ok (.astore 4, 2) := by decide +kernel
theorem dL_best_19 : decode cL_best 19 = .ok (.iconst 2, 1) := by decide +kernel
theorem dL_best_20 : decode cL_best 20 = .ok (.ireturn, 1) := by decide +kernel
theorem dL_best_21 : decode cL_best 21 = .ok (.iconst 0, 1) := by decide +kernel
theorem dL_best_22 : decode cL_best 22 = .ok (.ireturn, 1) := by decide +kernel
def fL_best (p0 : Nat) (p1 : Int32) (p2 : Int32) (p3 : Nat) (h : mxH) : Option (Int32 × mxH) := Option.bind (isO h p0 9) (fun u2 => mxCatch (fX9_best p0 p1 p2 h) (fun v4 h5 => Option.bind (stJ h5 p3 0 v4.toInt64) (fun h7 => some (0, h7))) (fun E6 h5 => (if E6 = "java/lang/IllegalArgumentException" then some (1, h5) else (if E6 = "java/lang/IndexOutOfBoundsException" then some (2, h5) else none))))
abbrev rmL_best : Room := { frames := 8, cells := 2, slots := 12, locals := 155 }
set_option maxRecDepth 20000 in
theorem tL_best {l : Launch} {Z : mxZ} (hl : l.stackTraces = false) {p0 : Nat} {p1 : Int32} {p2 : Int32} {p3 : Nat} {h : mxH} {out : Int32 × mxH} (hf : fL_best p0 p1 p2 p3 h = some out) : mxMetH l Z yL_best cL_best 5 (some .int) [(0, 10, 13, 15), (0, 10, 17, 13)] rmL_best [.ref p0, .int p1, .int p2, .ref p3] h (.inl (some (.int out.1))) out.2 := by
  refine mxMetH_of (by decide) hl (by simp [Value.category]) (Nat.le_of_ble_eq_true rfl) ?_
  intro X C E hX
  unfold fL_best at hf
  refine mG_aload_n (pc := 0) C dL_best_0 rfl ?_
  refine mG_ic (pc := 1) C dL_best_1 kI0 ?_
  refine mG_aload_n (pc := 2) C dL_best_2 rfl ?_
  refine mG_iload_n (pc := 3) C dL_best_3 rfl ?_
  refine mG_iload_n (pc := 4) C dL_best_4 rfl ?_
  obtain ⟨u2, e3, hf⟩ := mx_bind hf
  rcases mx_catch hf with ⟨v4, h5, e1, hf⟩ | ⟨E6, h5, e1, hf⟩
  · refine mG_cV (pc := 5) (k' := 2) (n' := 12) 9 [.int p1, .int p2] [.int 0, .ref p3] C hX dL_best_5 lkV_L_69 rfl rfl e3 (tX9_best hl e1) rfl rfl rfl rfl ?_
    refine mG_i2l (pc := 8) C dL_best_8 ?_
    obtain ⟨h7, e8, hf⟩ := mx_bind hf
    refine mG_lastore (pc := 9) C dL_best_9 e8 ?_
    refine mG_goto (tgt := 21) (pc := 10) C dL_best_10 (by decide) ?_
    refine mG_ic (pc := 21) C dL_best_21 kI0 ?_
    cases hf
    exact mG_irH (pc := 22) C E hX dL_best_22 rfl
  · skip
    by_cases q9 : E6 = "java/lang/IllegalArgumentException"
    · rw [if_pos q9] at hf
      subst q9
      refine mG_cVC (pc := 5) (k' := 2) (n' := 12) (i := 4) (ln := 2) 9 [.int p1, .int p2] [.int 0, .ref p3] [] ⟨0, 10, 13, 15⟩ [⟨0, 10, 17, 13⟩] C E hX dL_best_5 lkV_L_69 rfl rfl e3 (tX9_best hl e1) rfl rfl rfl rfl rfl (fun z hz => absurd hz List.not_mem_nil) rfl (by decide) w617 w704 (Or.inl ⟨dL_best_13, rfl⟩) rfl rfl ?_
      refine mG_ic (pc := 15) C dL_best_15 kI1 ?_
      cases hf
      exact mG_irH (pc := 16) C E hX dL_best_16 rfl
    · rw [if_neg q9] at hf
      by_cases q10 : E6 = "java/lang/IndexOutOfBoundsException"
      · rw [if_pos q10] at hf
        subst q10
        refine mG_cVC (pc := 5) (k' := 2) (n' := 12) (i := 4) (ln := 2) 9 [.int p1, .int p2] [.int 0, .ref p3] [⟨0, 10, 13, 15⟩] ⟨0, 10, 17, 13⟩ [] C E hX dL_best_5 lkV_L_69 rfl rfl e3 (tX9_best hl e1) rfl rfl rfl rfl rfl (fun z hz => by rw [List.mem_singleton.mp hz]; exact ⟨by decide, _, w617, xs0, xs1, xn01⟩) rfl (by decide) w616 w628 (Or.inl ⟨dL_best_17, rfl⟩) rfl rfl ?_
        refine mG_ic (pc := 19) C dL_best_19 kI2 ?_
        cases hf
        exact mG_irH (pc := 20) C E hX dL_best_20 rfl
      · rw [if_neg q10] at hf
        cases hf
theorem dL_refute_0 : decode cL_refute 0 = .ok (.aload_n 3, 1) := by decide +kernel
theorem dL_refute_1 : decode cL_refute 1 = .ok (.iconst 0, 1) := by decide +kernel
theorem dL_refute_2 : decode cL_refute 2 = .ok (.aload_n 0, 1) := by decide +kernel
theorem dL_refute_3 : decode cL_refute 3 = .ok (.iload_n 1, 1) := by decide +kernel
theorem dL_refute_4 : decode cL_refute 4 = .ok (.iload_n 2, 1) := by decide +kernel
theorem dL_refute_5 : decode cL_refute 5 = .ok (.invokevirtual 72, 3) := by decide +kernel
theorem dL_refute_8 : decode cL_refute 8 = .ok (.i2l, 1) := by decide +kernel
theorem dL_refute_9 : decode cL_refute 9 = .ok (.lastore, 1) := by decide +kernel
theorem dL_refute_10 : decode cL_refute 10 = .ok (.goto 11, 3) := by decide +kernel
theorem dL_refute_13 : decode cL_refute 13 = .ok (.astore 4, 2) := by decide +kernel
theorem dL_refute_15 : decode cL_refute 15 = .ok (.iconst 1, 1) := by decide +kernel
theorem dL_refute_16 : decode cL_refute 16 = .ok (.ireturn, 1) := by decide +kernel
theorem dL_refute_17 : decode cL_refute 17 = .ok (.astore 4, 2) := by decide +kernel
theorem dL_refute_19 : decode cL_refute 19 = .ok (.iconst 2, 1) := by decide +kernel
theorem dL_refute_20 : decode cL_refute 20 = .ok (.ireturn, 1) := by decide +kernel
theorem dL_refute_21 : decode cL_refute 21 = .ok (.iconst 0, 1) := by decide +kernel
theorem dL_refute_22 : decode cL_refute 22 = .ok (.ireturn, 1) := by decide +kernel
def fL_refute (p0 : Nat) (p1 : Int32) (p2 : Int32) (p3 : Nat) (h : mxH) : Option (Int32 × mxH) := Option.bind (isO h p0 9) (fun u2 => mxCatch (fX9_refute p0 p1 p2 h) (fun v4 h5 => Option.bind (stJ h5 p3 0 v4.toInt64) (fun h7 => some (0, h7))) (fun E6 h5 => (if E6 = "java/lang/IllegalArgumentException" then some (1, h5) else (if E6 = "java/util/NoSuchElementException" then some (2, h5) else none))))
abbrev rmL_refute : Room := { frames := 8, cells := 4, slots := 24, locals := 155 }
set_option maxRecDepth 20000 in
theorem tL_refute {l : Launch} {Z : mxZ} (hl : l.stackTraces = false) {p0 : Nat} {p1 : Int32} {p2 : Int32} {p3 : Nat} {h : mxH} {out : Int32 × mxH} (hf : fL_refute p0 p1 p2 p3 h = some out) : mxMetH l Z yL_refute cL_refute 5 (some .int) [(0, 10, 13, 15), (0, 10, 17, 21)] rmL_refute [.ref p0, .int p1, .int p2, .ref p3] h (.inl (some (.int out.1))) out.2 := by
  refine mxMetH_of (by decide) hl (by simp [Value.category]) (Nat.le_of_ble_eq_true rfl) ?_
  intro X C E hX
  unfold fL_refute at hf
  refine mG_aload_n (pc := 0) C dL_refute_0 rfl ?_
  refine mG_ic (pc := 1) C dL_refute_1 kI0 ?_
  refine mG_aload_n (pc := 2) C dL_refute_2 rfl ?_
  refine mG_iload_n (pc := 3) C dL_refute_3 rfl ?_
  refine mG_iload_n (pc := 4) C dL_refute_4 rfl ?_
  obtain ⟨u2, e3, hf⟩ := mx_bind hf
  rcases mx_catch hf with ⟨v4, h5, e1, hf⟩ | ⟨E6, h5, e1, hf⟩
  · refine mG_cV (pc := 5) (k' := 4) (n' := 24) 9 [.int p1, .int p2] [.int 0, .ref p3] C hX dL_refute_5 lkV_L_72 rfl rfl e3 (tX9_refute hl e1) rfl rfl rfl rfl ?_
    refine mG_i2l (pc := 8) C dL_refute_8 ?_
    obtain ⟨h7, e8, hf⟩ := mx_bind hf
    refine mG_lastore (pc := 9) C dL_refute_9 e8 ?_
    refine mG_goto (tgt := 21) (pc := 10) C dL_refute_10 (by decide) ?_
    refine mG_ic (pc := 21) C dL_refute_21 kI0 ?_
    cases hf
    exact mG_irH (pc := 22) C E hX dL_refute_22 rfl
  · skip
    by_cases q9 : E6 = "java/lang/IllegalArgumentException"
    · rw [if_pos q9] at hf
      subst q9
      refine mG_cVC (pc := 5) (k' := 4) (n' := 24) (i := 4) (ln := 2) 9 [.int p1, .int p2] [.int 0, .ref p3] [] ⟨0, 10, 13, 15⟩ [⟨0, 10, 17, 21⟩] C E hX dL_refute_5 lkV_L_72 rfl rfl e3 (tX9_refute hl e1) rfl rfl rfl rfl rfl (fun z hz => absurd hz List.not_mem_nil) rfl (by decide) w617 w704 (Or.inl ⟨dL_refute_13, rfl⟩) rfl rfl ?_
      refine mG_ic (pc := 15) C dL_refute_15 kI1 ?_
      cases hf
      exact mG_irH (pc := 16) C E hX dL_refute_16 rfl
    · rw [if_neg q9] at hf
      by_cases q10 : E6 = "java/util/NoSuchElementException"
      · rw [if_pos q10] at hf
        subst q10
        refine mG_cVC (pc := 5) (k' := 4) (n' := 24) (i := 4) (ln := 2) 9 [.int p1, .int p2] [.int 0, .ref p3] [⟨0, 10, 13, 15⟩] ⟨0, 10, 17, 21⟩ [] C E hX dL_refute_5 lkV_L_72 rfl rfl e3 (tX9_refute hl e1) rfl rfl rfl rfl rfl (fun z hz => by rw [List.mem_singleton.mp hz]; exact ⟨by decide, _, w617, xs2, xs1, xn21⟩) rfl (by decide) w727 w737 (Or.inl ⟨dL_refute_17, rfl⟩) rfl rfl ?_
        refine mG_ic (pc := 19) C dL_refute_19 kI2 ?_
        cases hf
        exact mG_irH (pc := 20) C E hX dL_refute_20 rfl
      · rw [if_neg q10] at hf
        cases hf
theorem dL_lower_0 : decode cL_lower 0 = .ok (.aload_n 3, 1) := by decide +kernel
theorem dL_lower_1 : decode cL_lower 1 = .ok (.iconst 0, 1) := by decide +kernel
theorem dL_lower_2 : decode cL_lower 2 = .ok (.aload_n 0, 1) := by decide +kernel
theorem dL_lower_3 : decode cL_lower 3 = .ok (.iload_n 1, 1) := by decide +kernel
theorem dL_lower_4 : decode cL_lower 4 = .ok (.iload_n 2, 1) := by decide +kernel
theorem dL_lower_5 : decode cL_lower 5 = .ok (.invokevirtual 75, 3) := by decide +kernel
theorem dL_lower_8 : decode cL_lower 8 = .ok (.i2l, 1) := by decide +kernel
theorem dL_lower_9 : decode cL_lower 9 = .ok (.lastore, 1) := by decide +kernel
theorem dL_lower_10 : decode cL_lower 10 = .ok (.goto 11, 3) := by decide +kernel
theorem dL_lower_13 : decode cL_lower 13 = .ok (.astore 4, 2) := by decide +kernel
theorem dL_lower_15 : decode cL_lower 15 = .ok (.iconst 1, 1) := by decide +kernel
theorem dL_lower_16 : decode cL_lower 16 = .ok (.ireturn, 1) := by decide +kernel
theorem dL_lower_17 : decode cL_lower 17 = .ok (.astore 4, 2) := by decide +kernel
theorem dL_lower_19 : decode cL_lower 19 = .ok (.iconst 2, 1) := by decide +kernel
theorem dL_lower_20 : decode cL_lower 20 = .ok (.ireturn, 1) := by decide +kernel
theorem dL_lower_21 : decode cL_lower 21 = .ok (.iconst 0, 1) := by decide +kernel
theorem dL_lower_22 : decode cL_lower 22 = .ok (.ireturn, 1) := by decide +kernel
def fL_lower (p0 : Nat) (p1 : Int32) (p2 : Int32) (p3 : Nat) (h : mxH) : Option (Int32 × mxH) := Option.bind (isO h p0 9) (fun u2 => mxCatch (fX9_lower p0 p1 p2 h) (fun v4 h5 => Option.bind (stJ h5 p3 0 v4.toInt64) (fun h7 => some (0, h7))) (fun E6 h5 => (if E6 = "java/lang/IndexOutOfBoundsException" then some (1, h5) else (if E6 = "java/lang/IllegalArgumentException" then some (2, h5) else none))))
abbrev rmL_lower : Room := { frames := 8, cells := 2, slots := 12, locals := 145 }
set_option maxRecDepth 20000 in
theorem tL_lower {l : Launch} {Z : mxZ} (hl : l.stackTraces = false) {p0 : Nat} {p1 : Int32} {p2 : Int32} {p3 : Nat} {h : mxH} {out : Int32 × mxH} (hf : fL_lower p0 p1 p2 p3 h = some out) : mxMetH l Z yL_lower cL_lower 5 (some .int) [(0, 10, 13, 13), (0, 10, 17, 15)] rmL_lower [.ref p0, .int p1, .int p2, .ref p3] h (.inl (some (.int out.1))) out.2 := by
  refine mxMetH_of (by decide) hl (by simp [Value.category]) (Nat.le_of_ble_eq_true rfl) ?_
  intro X C E hX
  unfold fL_lower at hf
  refine mG_aload_n (pc := 0) C dL_lower_0 rfl ?_
  refine mG_ic (pc := 1) C dL_lower_1 kI0 ?_
  refine mG_aload_n (pc := 2) C dL_lower_2 rfl ?_
  refine mG_iload_n (pc := 3) C dL_lower_3 rfl ?_
  refine mG_iload_n (pc := 4) C dL_lower_4 rfl ?_
  obtain ⟨u2, e3, hf⟩ := mx_bind hf
  rcases mx_catch hf with ⟨v4, h5, e1, hf⟩ | ⟨E6, h5, e1, hf⟩
  · refine mG_cV (pc := 5) (k' := 2) (n' := 12) 9 [.int p1, .int p2] [.int 0, .ref p3] C hX dL_lower_5 lkV_L_75 rfl rfl e3 (tX9_lower hl e1) rfl rfl rfl rfl ?_
    refine mG_i2l (pc := 8) C dL_lower_8 ?_
    obtain ⟨h7, e8, hf⟩ := mx_bind hf
    refine mG_lastore (pc := 9) C dL_lower_9 e8 ?_
    refine mG_goto (tgt := 21) (pc := 10) C dL_lower_10 (by decide) ?_
    refine mG_ic (pc := 21) C dL_lower_21 kI0 ?_
    cases hf
    exact mG_irH (pc := 22) C E hX dL_lower_22 rfl
  · skip
    by_cases q9 : E6 = "java/lang/IndexOutOfBoundsException"
    · rw [if_pos q9] at hf
      subst q9
      refine mG_cVC (pc := 5) (k' := 2) (n' := 12) (i := 4) (ln := 2) 9 [.int p1, .int p2] [.int 0, .ref p3] [] ⟨0, 10, 13, 13⟩ [⟨0, 10, 17, 15⟩] C E hX dL_lower_5 lkV_L_75 rfl rfl e3 (tX9_lower hl e1) rfl rfl rfl rfl rfl (fun z hz => absurd hz List.not_mem_nil) rfl (by decide) w616 w628 (Or.inl ⟨dL_lower_13, rfl⟩) rfl rfl ?_
      refine mG_ic (pc := 15) C dL_lower_15 kI1 ?_
      cases hf
      exact mG_irH (pc := 16) C E hX dL_lower_16 rfl
    · rw [if_neg q9] at hf
      by_cases q10 : E6 = "java/lang/IllegalArgumentException"
      · rw [if_pos q10] at hf
        subst q10
        refine mG_cVC (pc := 5) (k' := 2) (n' := 12) (i := 4) (ln := 2) 9 [.int p1, .int p2] [.int 0, .ref p3] [⟨0, 10, 13, 13⟩] ⟨0, 10, 17, 15⟩ [] C E hX dL_lower_5 lkV_L_75 rfl rfl e3 (tX9_lower hl e1) rfl rfl rfl rfl rfl (fun z hz => by rw [List.mem_singleton.mp hz]; exact ⟨by decide, _, w616, xs1, xs0, xn10⟩) rfl (by decide) w617 w704 (Or.inl ⟨dL_lower_17, rfl⟩) rfl rfl ?_
        refine mG_ic (pc := 19) C dL_lower_19 kI2 ?_
        cases hf
        exact mG_irH (pc := 20) C E hX dL_lower_20 rfl
      · rw [if_neg q10] at hf
        cases hf
theorem dL_upper_0 : decode cL_upper 0 = .ok (.aload_n 3, 1) := by decide +kernel
theorem dL_upper_1 : decode cL_upper 1 = .ok (.iconst 0, 1) := by decide +kernel
theorem dL_upper_2 : decode cL_upper 2 = .ok (.aload_n 0, 1) := by decide +kernel
theorem dL_upper_3 : decode cL_upper 3 = .ok (.iload_n 1, 1) := by decide +kernel
theorem dL_upper_4 : decode cL_upper 4 = .ok (.iload_n 2, 1) := by decide +kernel
theorem dL_upper_5 : decode cL_upper 5 = .ok (.invokevirtual 78, 3) := by decide +kernel
theorem dL_upper_8 : decode cL_upper 8 = .ok (.i2l, 1) := by decide +kernel
theorem dL_upper_9 : decode cL_upper 9 = .ok (.lastore, 1) := by decide +kernel
theorem dL_upper_10 : decode cL_upper 10 = .ok (.goto 11, 3) := by decide +kernel
theorem dL_upper_13 : decode cL_upper 13 = .ok (.astore 4, 2) := by decide +kernel
theorem dL_upper_15 : decode cL_upper 15 = .ok (.iconst 1, 1) := by decide +kernel
theorem dL_upper_16 : decode cL_upper 16 = .ok (.ireturn, 1) := by decide +kernel
theorem dL_upper_17 : decode cL_upper 17 = .ok (.astore 4, 2) := by decide +kernel
theorem dL_upper_19 : decode cL_upper 19 = .ok (.iconst 2, 1) := by decide +kernel
theorem dL_upper_20 : decode cL_upper 20 = .ok (.ireturn, 1) := by decide +kernel
theorem dL_upper_21 : decode cL_upper 21 = .ok (.iconst 0, 1) := by decide +kernel
theorem dL_upper_22 : decode cL_upper 22 = .ok (.ireturn, 1) := by decide +kernel
def fL_upper (p0 : Nat) (p1 : Int32) (p2 : Int32) (p3 : Nat) (h : mxH) : Option (Int32 × mxH) := Option.bind (isO h p0 9) (fun u2 => mxCatch (fX9_upper p0 p1 p2 h) (fun v4 h5 => Option.bind (stJ h5 p3 0 v4.toInt64) (fun h7 => some (0, h7))) (fun E6 h5 => (if E6 = "java/lang/IndexOutOfBoundsException" then some (1, h5) else (if E6 = "java/lang/IllegalArgumentException" then some (2, h5) else none))))
abbrev rmL_upper : Room := { frames := 8, cells := 2, slots := 12, locals := 145 }
set_option maxRecDepth 20000 in
theorem tL_upper {l : Launch} {Z : mxZ} (hl : l.stackTraces = false) {p0 : Nat} {p1 : Int32} {p2 : Int32} {p3 : Nat} {h : mxH} {out : Int32 × mxH} (hf : fL_upper p0 p1 p2 p3 h = some out) : mxMetH l Z yL_upper cL_upper 5 (some .int) [(0, 10, 13, 13), (0, 10, 17, 15)] rmL_upper [.ref p0, .int p1, .int p2, .ref p3] h (.inl (some (.int out.1))) out.2 := by
  refine mxMetH_of (by decide) hl (by simp [Value.category]) (Nat.le_of_ble_eq_true rfl) ?_
  intro X C E hX
  unfold fL_upper at hf
  refine mG_aload_n (pc := 0) C dL_upper_0 rfl ?_
  refine mG_ic (pc := 1) C dL_upper_1 kI0 ?_
  refine mG_aload_n (pc := 2) C dL_upper_2 rfl ?_
  refine mG_iload_n (pc := 3) C dL_upper_3 rfl ?_
  refine mG_iload_n (pc := 4) C dL_upper_4 rfl ?_
  obtain ⟨u2, e3, hf⟩ := mx_bind hf
  rcases mx_catch hf with ⟨v4, h5, e1, hf⟩ | ⟨E6, h5, e1, hf⟩
  · refine mG_cV (pc := 5) (k' := 2) (n' := 12) 9 [.int p1, .int p2] [.int 0, .ref p3] C hX dL_upper_5 lkV_L_78 rfl rfl e3 (tX9_upper hl e1) rfl rfl rfl rfl ?_
    refine mG_i2l (pc := 8) C dL_upper_8 ?_
    obtain ⟨h7, e8, hf⟩ := mx_bind hf
    refine mG_lastore (pc := 9) C dL_upper_9 e8 ?_
    refine mG_goto (tgt := 21) (pc := 10) C dL_upper_10 (by decide) ?_
    refine mG_ic (pc := 21) C dL_upper_21 kI0 ?_
    cases hf
    exact mG_irH (pc := 22) C E hX dL_upper_22 rfl
  · skip
    by_cases q9 : E6 = "java/lang/IndexOutOfBoundsException"
    · rw [if_pos q9] at hf
      subst q9
      refine mG_cVC (pc := 5) (k' := 2) (n' := 12) (i := 4) (ln := 2) 9 [.int p1, .int p2] [.int 0, .ref p3] [] ⟨0, 10, 13, 13⟩ [⟨0, 10, 17, 15⟩] C E hX dL_upper_5 lkV_L_78 rfl rfl e3 (tX9_upper hl e1) rfl rfl rfl rfl rfl (fun z hz => absurd hz List.not_mem_nil) rfl (by decide) w616 w628 (Or.inl ⟨dL_upper_13, rfl⟩) rfl rfl ?_
      refine mG_ic (pc := 15) C dL_upper_15 kI1 ?_
      cases hf
      exact mG_irH (pc := 16) C E hX dL_upper_16 rfl
    · rw [if_neg q9] at hf
      by_cases q10 : E6 = "java/lang/IllegalArgumentException"
      · rw [if_pos q10] at hf
        subst q10
        refine mG_cVC (pc := 5) (k' := 2) (n' := 12) (i := 4) (ln := 2) 9 [.int p1, .int p2] [.int 0, .ref p3] [⟨0, 10, 13, 13⟩] ⟨0, 10, 17, 15⟩ [] C E hX dL_upper_5 lkV_L_78 rfl rfl e3 (tX9_upper hl e1) rfl rfl rfl rfl rfl (fun z hz => by rw [List.mem_singleton.mp hz]; exact ⟨by decide, _, w616, xs1, xs0, xn10⟩) rfl (by decide) w617 w704 (Or.inl ⟨dL_upper_17, rfl⟩) rfl rfl ?_
        refine mG_ic (pc := 19) C dL_upper_19 kI2 ?_
        cases hf
        exact mG_irH (pc := 20) C E hX dL_upper_20 rfl
      · rw [if_neg q10] at hf
        cases hf
theorem dL_plainDepth_0 : decode cL_plainDepth 0 = .ok (.aload_n 2, 1) := by decide +kernel
theorem dL_plainDepth_1 : decode cL_plainDepth 1 = .ok (.iconst 0, 1) := by decide +kernel
theorem dL_plainDepth_2 : decode cL_plainDepth 2 = .ok (.aload_n 0, 1) := by decide +kernel
theorem dL_plainDepth_3 : decode cL_plainDepth 3 = .ok (.iload_n 1, 1) := by decide +kernel
theorem dL_plainDepth_4 : decode cL_plainDepth 4 = .ok (.invokevirtual 81, 3) := by decide +kernel
theorem dL_plainDepth_7 : decode cL_plainDepth 7 = .ok (.i2l, 1) := by decide +kernel
theorem dL_plainDepth_8 : decode cL_plainDepth 8 = .ok (.lastore, 1) := by decide +kernel
theorem dL_plainDepth_9 : decode cL_plainDepth 9 = .ok (.goto 6, 3) := by decide +kernel
theorem dL_plainDepth_12 : decode cL_plainDepth 12 = .ok (.astore_n 3, 1) := by decide +kernel
theorem dL_plainDepth_13 : decode cL_plainDepth 13 = .ok (.iconst 1, 1) := by decide +kernel
theorem dL_plainDepth_14 : decode cL_plainDepth 14 = .ok (.ireturn, 1) := by decide +kernel
theorem dL_plainDepth_15 : decode cL_plainDepth 15 = .ok (.iconst 0, 1) := by decide +kernel
theorem dL_plainDepth_16 : decode cL_plainDepth 16 = .ok (.ireturn, 1) := by decide +kernel
def fL_plainDepth (p0 : Nat) (p1 : Int32) (p2 : Nat) (h : mxH) : Option (Int32 × mxH) := Option.bind (isO h p0 9) (fun u2 => mxCatch (fX9_plainDepth p0 p1 h) (fun v4 h5 => Option.bind (stJ h5 p2 0 v4.toInt64) (fun h7 => some (0, h7))) (fun E6 h5 => (if E6 = "java/lang/IllegalArgumentException" then some (1, h5) else none)))
abbrev rmL_plainDepth : Room := { frames := 8, cells := 1, slots := 6, locals := 156 }
set_option maxRecDepth 20000 in
theorem tL_plainDepth {l : Launch} {Z : mxZ} (hl : l.stackTraces = false) {p0 : Nat} {p1 : Int32} {p2 : Nat} {h : mxH} {out : Int32 × mxH} (hf : fL_plainDepth p0 p1 p2 h = some out) : mxMetH l Z yL_plainDepth cL_plainDepth 4 (some .int) [(0, 9, 12, 15)] rmL_plainDepth [.ref p0, .int p1, .ref p2] h (.inl (some (.int out.1))) out.2 := by
  refine mxMetH_of (by decide) hl (by simp [Value.category]) (Nat.le_of_ble_eq_true rfl) ?_
  intro X C E hX
  unfold fL_plainDepth at hf
  refine mG_aload_n (pc := 0) C dL_plainDepth_0 rfl ?_
  refine mG_ic (pc := 1) C dL_plainDepth_1 kI0 ?_
  refine mG_aload_n (pc := 2) C dL_plainDepth_2 rfl ?_
  refine mG_iload_n (pc := 3) C dL_plainDepth_3 rfl ?_
  obtain ⟨u2, e3, hf⟩ := mx_bind hf
  rcases mx_catch hf with ⟨v4, h5, e1, hf⟩ | ⟨E6, h5, e1, hf⟩
  · refine mG_cV (pc := 4) (k' := 1) (n' := 6) 9 [.int p1] [.int 0, .ref p2] C hX dL_plainDepth_4 lkV_L_81 rfl rfl e3 (tX9_plainDepth hl e1) rfl rfl rfl rfl ?_
    refine mG_i2l (pc := 7) C dL_plainDepth_7 ?_
    obtain ⟨h7, e8, hf⟩ := mx_bind hf
    refine mG_lastore (pc := 8) C dL_plainDepth_8 e8 ?_
    refine mG_goto (tgt := 15) (pc := 9) C dL_plainDepth_9 (by decide) ?_
    refine mG_ic (pc := 15) C dL_plainDepth_15 kI0 ?_
    cases hf
    exact mG_irH (pc := 16) C E hX dL_plainDepth_16 rfl
  · skip
    by_cases q9 : E6 = "java/lang/IllegalArgumentException"
    · rw [if_pos q9] at hf
      subst q9
      refine mG_cVC (pc := 4) (k' := 1) (n' := 6) (i := 3) (ln := 1) 9 [.int p1] [.int 0, .ref p2] [] ⟨0, 9, 12, 15⟩ [] C E hX dL_plainDepth_4 lkV_L_81 rfl rfl e3 (tX9_plainDepth hl e1) rfl rfl rfl rfl rfl (fun z hz => absurd hz List.not_mem_nil) rfl (by decide) w617 w704 (Or.inr ⟨3, rfl, dL_plainDepth_12, rfl⟩) rfl rfl ?_
      refine mG_ic (pc := 13) C dL_plainDepth_13 kI1 ?_
      cases hf
      exact mG_irH (pc := 14) C E hX dL_plainDepth_14 rfl
    · rw [if_neg q9] at hf
      cases hf
theorem dL_plainCost_0 : decode cL_plainCost 0 = .ok (.aload_n 2, 1) := by decide +kernel
theorem dL_plainCost_1 : decode cL_plainCost 1 = .ok (.iconst 0, 1) := by decide +kernel
theorem dL_plainCost_2 : decode cL_plainCost 2 = .ok (.aload_n 0, 1) := by decide +kernel
theorem dL_plainCost_3 : decode cL_plainCost 3 = .ok (.iload_n 1, 1) := by decide +kernel
theorem dL_plainCost_4 : decode cL_plainCost 4 = .ok (.invokevirtual 84, 3) := by decide +kernel
theorem dL_plainCost_7 : decode cL_plainCost 7 = .ok (.i2l, 1) := by decide +kernel
theorem dL_plainCost_8 : decode cL_plainCost 8 = .ok (.lastore, 1) := by decide +kernel
theorem dL_plainCost_9 : decode cL_plainCost 9 = .ok (.goto 6, 3) := by decide +kernel
theorem dL_plainCost_12 : decode cL_plainCost 12 = .ok (.astore_n 3, 1) := by decide +kernel
theorem dL_plainCost_13 : decode cL_plainCost 13 = .ok (.iconst 1, 1) := by decide +kernel
theorem dL_plainCost_14 : decode cL_plainCost 14 = .ok (.ireturn, 1) := by decide +kernel
theorem dL_plainCost_15 : decode cL_plainCost 15 = .ok (.iconst 0, 1) := by decide +kernel
theorem dL_plainCost_16 : decode cL_plainCost 16 = .ok (.ireturn, 1) := by decide +kernel
def fL_plainCost (p0 : Nat) (p1 : Int32) (p2 : Nat) (h : mxH) : Option (Int32 × mxH) := Option.bind (isO h p0 9) (fun u2 => mxCatch (fX9_plainCost p0 p1 h) (fun v4 h5 => Option.bind (stJ h5 p2 0 v4.toInt64) (fun h7 => some (0, h7))) (fun E6 h5 => (if E6 = "java/lang/IllegalArgumentException" then some (1, h5) else none)))
abbrev rmL_plainCost : Room := { frames := 8, cells := 1, slots := 6, locals := 156 }
set_option maxRecDepth 20000 in
theorem tL_plainCost {l : Launch} {Z : mxZ} (hl : l.stackTraces = false) {p0 : Nat} {p1 : Int32} {p2 : Nat} {h : mxH} {out : Int32 × mxH} (hf : fL_plainCost p0 p1 p2 h = some out) : mxMetH l Z yL_plainCost cL_plainCost 4 (some .int) [(0, 9, 12, 15)] rmL_plainCost [.ref p0, .int p1, .ref p2] h (.inl (some (.int out.1))) out.2 := by
  refine mxMetH_of (by decide) hl (by simp [Value.category]) (Nat.le_of_ble_eq_true rfl) ?_
  intro X C E hX
  unfold fL_plainCost at hf
  refine mG_aload_n (pc := 0) C dL_plainCost_0 rfl ?_
  refine mG_ic (pc := 1) C dL_plainCost_1 kI0 ?_
  refine mG_aload_n (pc := 2) C dL_plainCost_2 rfl ?_
  refine mG_iload_n (pc := 3) C dL_plainCost_3 rfl ?_
  obtain ⟨u2, e3, hf⟩ := mx_bind hf
  rcases mx_catch hf with ⟨v4, h5, e1, hf⟩ | ⟨E6, h5, e1, hf⟩
  · refine mG_cV (pc := 4) (k' := 1) (n' := 6) 9 [.int p1] [.int 0, .ref p2] C hX dL_plainCost_4 lkV_L_84 rfl rfl e3 (tX9_plainCost hl e1) rfl rfl rfl rfl ?_
    refine mG_i2l (pc := 7) C dL_plainCost_7 ?_
    obtain ⟨h7, e8, hf⟩ := mx_bind hf
    refine mG_lastore (pc := 8) C dL_plainCost_8 e8 ?_
    refine mG_goto (tgt := 15) (pc := 9) C dL_plainCost_9 (by decide) ?_
    refine mG_ic (pc := 15) C dL_plainCost_15 kI0 ?_
    cases hf
    exact mG_irH (pc := 16) C E hX dL_plainCost_16 rfl
  · skip
    by_cases q9 : E6 = "java/lang/IllegalArgumentException"
    · rw [if_pos q9] at hf
      subst q9
      refine mG_cVC (pc := 4) (k' := 1) (n' := 6) (i := 3) (ln := 1) 9 [.int p1] [.int 0, .ref p2] [] ⟨0, 9, 12, 15⟩ [] C E hX dL_plainCost_4 lkV_L_84 rfl rfl e3 (tX9_plainCost hl e1) rfl rfl rfl rfl rfl (fun z hz => absurd hz List.not_mem_nil) rfl (by decide) w617 w704 (Or.inr ⟨3, rfl, dL_plainCost_12, rfl⟩) rfl rfl ?_
      refine mG_ic (pc := 13) C dL_plainCost_13 kI1 ?_
      cases hf
      exact mG_irH (pc := 14) C E hX dL_plainCost_14 rfl
    · rw [if_neg q9] at hf
      cases hf
theorem dL_holds_0 : decode cL_holds 0 = .ok (.aload 5, 2) := by decide +kernel
theorem dL_holds_2 : decode cL_holds 2 = .ok (.iconst 0, 1) := by decide +kernel
theorem dL_holds_3 : decode cL_holds 3 = .ok (.aload_n 0, 1) := by decide +kernel
theorem dL_holds_4 : decode cL_holds 4 = .ok (.iload_n 1, 1) := by decide +kernel
theorem dL_holds_5 : decode cL_holds 5 = .ok (.iload_n 2, 1) := by decide +kernel
theorem dL_holds_6 : decode cL_holds 6 = .ok (.iload_n 3, 1) := by decide +kernel
theorem dL_holds_7 : decode cL_holds 7 = .ok (.iload 4, 2) := by decide +kernel
theorem dL_holds_9 : decode cL_holds 9 = .ok (.invokevirtual 87, 3) := by decide +kernel
theorem dL_holds_12 : decode cL_holds 12 = .ok (.ifCond .eq 7, 3) := by decide +kernel
theorem dL_holds_15 : decode cL_holds 15 = .ok (.lconst 1, 1) := by decide +kernel
theorem dL_holds_16 : decode cL_holds 16 = .ok (.goto 4, 3) := by decide +kernel
theorem dL_holds_19 : decode cL_holds 19 = .ok (.lconst 0, 1) := by decide +kernel
theorem dL_holds_20 : decode cL_holds 20 = .ok (.lastore, 1) := by decide +kernel
theorem dL_holds_21 : decode cL_holds 21 = .ok (.goto 11, 3) := by decide +kernel
theorem dL_holds_24 : decode cL_holds 24 = .ok (.astore 6, 2) := by decide +kernel
theorem dL_holds_26 : decode cL_holds 26 = .ok (.iconst 1, 1) := by decide +kernel
theorem dL_holds_27 : decode cL_holds 27 = .ok (.ireturn, 1) := by decide +kernel
theorem dL_holds_28 : decode cL_holds 28 = .ok (.astore 6, 2) := by decide +kernel
theorem dL_holds_30 : decode cL_holds 30 = .ok (.iconst 2, 1) := by decide +kernel
theorem dL_holds_31 : decode cL_holds 31 = .ok (.ireturn, 1) := by decide +kernel
theorem dL_holds_32 : decode cL_holds 32 = .ok (.iconst 0, 1) := by decide +kernel
theorem dL_holds_33 : decode cL_holds 33 = .ok (.ireturn, 1) := by decide +kernel
def fL_holds (p0 : Nat) (p1 : Int32) (p2 : Int32) (p3 : Int32) (p4 : Int32) (p5 : Nat) (h : mxH) : Option (Int32 × mxH) := Option.bind (isO h p0 9) (fun u2 => mxCatch (fX9_holds p0 p1 p2 p3 p4 h) (fun v4 h5 => Option.bind (α := Int64) (if v4 = 0 then some 0 else some 1) (fun p9' : Int64 => Option.bind (stJ h5 p5 0 p9') (fun h11 => some (0, h11)))) (fun E6 h5 => (if E6 = "java/lang/IndexOutOfBoundsException" then some (1, h5) else (if E6 = "java/lang/IllegalArgumentException" then some (2, h5) else none))))
abbrev rmL_holds : Room := { frames := 8, cells := 4, slots := 24, locals := 147 }
set_option maxRecDepth 20000 in
theorem tL_holds {l : Launch} {Z : mxZ} (hl : l.stackTraces = false) {p0 : Nat} {p1 : Int32} {p2 : Int32} {p3 : Int32} {p4 : Int32} {p5 : Nat} {h : mxH} {out : Int32 × mxH} (hf : fL_holds p0 p1 p2 p3 p4 p5 h = some out) : mxMetH l Z yL_holds cL_holds 7 (some .int) [(0, 21, 24, 13), (0, 21, 28, 15)] rmL_holds [.ref p0, .int p1, .int p2, .int p3, .int p4, .ref p5] h (.inl (some (.int out.1))) out.2 := by
  refine mxMetH_of (by decide) hl (by simp [Value.category]) (Nat.le_of_ble_eq_true rfl) ?_
  intro X C E hX
  unfold fL_holds at hf
  refine mG_aload (pc := 0) C dL_holds_0 rfl ?_
  refine mG_ic (pc := 2) C dL_holds_2 kI0 ?_
  refine mG_aload_n (pc := 3) C dL_holds_3 rfl ?_
  refine mG_iload_n (pc := 4) C dL_holds_4 rfl ?_
  refine mG_iload_n (pc := 5) C dL_holds_5 rfl ?_
  refine mG_iload_n (pc := 6) C dL_holds_6 rfl ?_
  refine mG_iload (pc := 7) C dL_holds_7 rfl ?_
  obtain ⟨u2, e3, hf⟩ := mx_bind hf
  rcases mx_catch hf with ⟨v4, h5, e1, hf⟩ | ⟨E6, h5, e1, hf⟩
  · refine mG_cV (pc := 9) (k' := 4) (n' := 24) 9 [.int p1, .int p2, .int p3, .int p4] [.int 0, .ref p5] C hX dL_holds_9 lkV_L_87 rfl rfl e3 (tX9_holds hl e1) rfl rfl rfl rfl ?_
    obtain ⟨p9, e10, hf⟩ := mx_bind hf
    have J8 : ∀ p9' : Int64, p9' = p9 → mG l Z X 7 4 24 20 [none, none, none, none, none, none, none] [.long p9', .int 0, .ref p5] h5 := by
      intro p9' q13
      subst q13
      obtain ⟨h11, e12, hf⟩ := mx_bind hf
      refine mG_lastore (pc := 20) C dL_holds_20 e12 ?_
      refine mG_goto (tgt := 32) (pc := 21) C dL_holds_21 (by decide) ?_
      refine mG_ic (pc := 32) C dL_holds_32 kI0 ?_
      cases hf
      exact mG_irH (pc := 33) C E hX dL_holds_33 rfl
    refine mG_if_eq (pc := 12) (tgt := 19) C dL_holds_12 (by decide) (fun q7 => ?_) (fun q7 => ?_)
    · rw [if_pos q7] at e10
      refine mG_lc (pc := 19) C dL_holds_19 klc0 ?_
      exact mG_sub (mxLe_n (mxLe_n (mxLe_n (mxLe_n (mxLe_n (mxLe_n (mxLe_n mxLe_z))))))) (J8 _ (Option.some.inj e10))
    · rw [if_neg q7] at e10
      refine mG_lc (pc := 15) C dL_holds_15 klc1 ?_
      refine mG_goto (tgt := 20) (pc := 16) C dL_holds_16 (by decide) ?_
      exact mG_sub (mxLe_n (mxLe_n (mxLe_n (mxLe_n (mxLe_n (mxLe_n (mxLe_n mxLe_z))))))) (J8 _ (Option.some.inj e10))
  · skip
    by_cases q14 : E6 = "java/lang/IndexOutOfBoundsException"
    · rw [if_pos q14] at hf
      subst q14
      refine mG_cVC (pc := 9) (k' := 4) (n' := 24) (i := 6) (ln := 2) 9 [.int p1, .int p2, .int p3, .int p4] [.int 0, .ref p5] [] ⟨0, 21, 24, 13⟩ [⟨0, 21, 28, 15⟩] C E hX dL_holds_9 lkV_L_87 rfl rfl e3 (tX9_holds hl e1) rfl rfl rfl rfl rfl (fun z hz => absurd hz List.not_mem_nil) rfl (by decide) w616 w628 (Or.inl ⟨dL_holds_24, rfl⟩) rfl rfl ?_
      refine mG_ic (pc := 26) C dL_holds_26 kI1 ?_
      cases hf
      exact mG_irH (pc := 27) C E hX dL_holds_27 rfl
    · rw [if_neg q14] at hf
      by_cases q15 : E6 = "java/lang/IllegalArgumentException"
      · rw [if_pos q15] at hf
        subst q15
        refine mG_cVC (pc := 9) (k' := 4) (n' := 24) (i := 6) (ln := 2) 9 [.int p1, .int p2, .int p3, .int p4] [.int 0, .ref p5] [⟨0, 21, 24, 13⟩] ⟨0, 21, 28, 15⟩ [] C E hX dL_holds_9 lkV_L_87 rfl rfl e3 (tX9_holds hl e1) rfl rfl rfl rfl rfl (fun z hz => by rw [List.mem_singleton.mp hz]; exact ⟨by decide, _, w616, xs1, xs0, xn10⟩) rfl (by decide) w617 w704 (Or.inl ⟨dL_holds_28, rfl⟩) rfl rfl ?_
        refine mG_ic (pc := 30) C dL_holds_30 kI2 ?_
        cases hf
        exact mG_irH (pc := 31) C E hX dL_holds_31 rfl
      · rw [if_neg q15] at hf
        cases hf
theorem dL_mergedThing_0 : decode cL_mergedThing 0 = .ok (.aload_n 2, 1) := by decide +kernel
theorem dL_mergedThing_1 : decode cL_mergedThing 1 = .ok (.iconst 0, 1) := by decide +kernel
theorem dL_mergedThing_2 : decode cL_mergedThing 2 = .ok (.aload_n 0, 1) := by decide +kernel
theorem dL_mergedThing_3 : decode cL_mergedThing 3 = .ok (.iload_n 1, 1) := by decide +kernel
theorem dL_mergedThing_4 : decode cL_mergedThing 4 = .ok (.invokevirtual 91, 3) := by decide +kernel
theorem dL_mergedThing_7 : decode cL_mergedThing 7 = .ok (.i2l, 1) := by decide +kernel
theorem dL_mergedThing_8 : decode cL_mergedThing 8 = .ok (.lastore, 1) := by decide +kernel
theorem dL_mergedThing_9 : decode cL_mergedThing 9 = .ok (.goto 6, 3) := by decide +kernel
theorem dL_mergedThing_12 : decode cL_mergedThing 12 = .ok (.astore_n 3, 1) := by decide +kernel
theorem dL_mergedThing_13 : decode cL_mergedThing 13 = .ok (.iconst 1, 1) := by decide +kernel
theorem dL_mergedThing_14 : decode cL_mergedThing 14 = .ok (.ireturn, 1) := by decide +kernel
theorem dL_mergedThing_15 : decode cL_mergedThing 15 = .ok (.iconst 0, 1) := by decide +kernel
theorem dL_mergedThing_16 : decode cL_mergedThing 16 = .ok (.ireturn, 1) := by decide +kernel
def fL_mergedThing (p0 : Nat) (p1 : Int32) (p2 : Nat) (h : mxH) : Option (Int32 × mxH) := Option.bind (isO h p0 9) (fun u2 => mxCatch (fX9_mergedThing p0 p1 h) (fun v4 h5 => Option.bind (stJ h5 p2 0 v4.toInt64) (fun h7 => some (0, h7))) (fun E6 h5 => (if E6 = "java/lang/IndexOutOfBoundsException" then some (1, h5) else none)))
abbrev rmL_mergedThing : Room := { frames := 8, cells := 1, slots := 6, locals := 143 }
set_option maxRecDepth 20000 in
theorem tL_mergedThing {l : Launch} {Z : mxZ} (hl : l.stackTraces = false) {p0 : Nat} {p1 : Int32} {p2 : Nat} {h : mxH} {out : Int32 × mxH} (hf : fL_mergedThing p0 p1 p2 h = some out) : mxMetH l Z yL_mergedThing cL_mergedThing 4 (some .int) [(0, 9, 12, 13)] rmL_mergedThing [.ref p0, .int p1, .ref p2] h (.inl (some (.int out.1))) out.2 := by
  refine mxMetH_of (by decide) hl (by simp [Value.category]) (Nat.le_of_ble_eq_true rfl) ?_
  intro X C E hX
  unfold fL_mergedThing at hf
  refine mG_aload_n (pc := 0) C dL_mergedThing_0 rfl ?_
  refine mG_ic (pc := 1) C dL_mergedThing_1 kI0 ?_
  refine mG_aload_n (pc := 2) C dL_mergedThing_2 rfl ?_
  refine mG_iload_n (pc := 3) C dL_mergedThing_3 rfl ?_
  obtain ⟨u2, e3, hf⟩ := mx_bind hf
  rcases mx_catch hf with ⟨v4, h5, e1, hf⟩ | ⟨E6, h5, e1, hf⟩
  · refine mG_cV (pc := 4) (k' := 1) (n' := 6) 9 [.int p1] [.int 0, .ref p2] C hX dL_mergedThing_4 lkV_L_91 rfl rfl e3 (tX9_mergedThing hl e1) rfl rfl rfl rfl ?_
    refine mG_i2l (pc := 7) C dL_mergedThing_7 ?_
    obtain ⟨h7, e8, hf⟩ := mx_bind hf
    refine mG_lastore (pc := 8) C dL_mergedThing_8 e8 ?_
    refine mG_goto (tgt := 15) (pc := 9) C dL_mergedThing_9 (by decide) ?_
    refine mG_ic (pc := 15) C dL_mergedThing_15 kI0 ?_
    cases hf
    exact mG_irH (pc := 16) C E hX dL_mergedThing_16 rfl
  · skip
    by_cases q9 : E6 = "java/lang/IndexOutOfBoundsException"
    · rw [if_pos q9] at hf
      subst q9
      refine mG_cVC (pc := 4) (k' := 1) (n' := 6) (i := 3) (ln := 1) 9 [.int p1] [.int 0, .ref p2] [] ⟨0, 9, 12, 13⟩ [] C E hX dL_mergedThing_4 lkV_L_91 rfl rfl e3 (tX9_mergedThing hl e1) rfl rfl rfl rfl rfl (fun z hz => absurd hz List.not_mem_nil) rfl (by decide) w616 w628 (Or.inr ⟨3, rfl, dL_mergedThing_12, rfl⟩) rfl rfl ?_
      refine mG_ic (pc := 13) C dL_mergedThing_13 kI1 ?_
      cases hf
      exact mG_irH (pc := 14) C E hX dL_mergedThing_14 rfl
    · rw [if_neg q9] at hf
      cases hf
theorem dL_mergedRow_0 : decode cL_mergedRow 0 = .ok (.aload_n 2, 1) := by decide +kernel
theorem dL_mergedRow_1 : decode cL_mergedRow 1 = .ok (.iconst 0, 1) := by decide +kernel
theorem dL_mergedRow_2 : decode cL_mergedRow 2 = .ok (.aload_n 0, 1) := by decide +kernel
theorem dL_mergedRow_3 : decode cL_mergedRow 3 = .ok (.iload_n 1, 1) := by decide +kernel
theorem dL_mergedRow_4 : decode cL_mergedRow 4 = .ok (.invokevirtual 94, 3) := by decide +kernel
theorem dL_mergedRow_7 : decode cL_mergedRow 7 = .ok (.i2l, 1) := by decide +kernel
theorem dL_mergedRow_8 : decode cL_mergedRow 8 = .ok (.lastore, 1) := by decide +kernel
theorem dL_mergedRow_9 : decode cL_mergedRow 9 = .ok (.goto 6, 3) := by decide +kernel
theorem dL_mergedRow_12 : decode cL_mergedRow 12 = .ok (.astore_n 3, 1) := by decide +kernel
theorem dL_mergedRow_13 : decode cL_mergedRow 13 = .ok (.iconst 1, 1) := by decide +kernel
theorem dL_mergedRow_14 : decode cL_mergedRow 14 = .ok (.ireturn, 1) := by decide +kernel
theorem dL_mergedRow_15 : decode cL_mergedRow 15 = .ok (.iconst 0, 1) := by decide +kernel
theorem dL_mergedRow_16 : decode cL_mergedRow 16 = .ok (.ireturn, 1) := by decide +kernel
def fL_mergedRow (p0 : Nat) (p1 : Int32) (p2 : Nat) (h : mxH) : Option (Int32 × mxH) := Option.bind (isO h p0 9) (fun u2 => mxCatch (fX9_mergedRow p0 p1 h) (fun v4 h5 => Option.bind (stJ h5 p2 0 v4.toInt64) (fun h7 => some (0, h7))) (fun E6 h5 => (if E6 = "java/lang/IndexOutOfBoundsException" then some (1, h5) else none)))
abbrev rmL_mergedRow : Room := { frames := 8, cells := 1, slots := 6, locals := 143 }
set_option maxRecDepth 20000 in
theorem tL_mergedRow {l : Launch} {Z : mxZ} (hl : l.stackTraces = false) {p0 : Nat} {p1 : Int32} {p2 : Nat} {h : mxH} {out : Int32 × mxH} (hf : fL_mergedRow p0 p1 p2 h = some out) : mxMetH l Z yL_mergedRow cL_mergedRow 4 (some .int) [(0, 9, 12, 13)] rmL_mergedRow [.ref p0, .int p1, .ref p2] h (.inl (some (.int out.1))) out.2 := by
  refine mxMetH_of (by decide) hl (by simp [Value.category]) (Nat.le_of_ble_eq_true rfl) ?_
  intro X C E hX
  unfold fL_mergedRow at hf
  refine mG_aload_n (pc := 0) C dL_mergedRow_0 rfl ?_
  refine mG_ic (pc := 1) C dL_mergedRow_1 kI0 ?_
  refine mG_aload_n (pc := 2) C dL_mergedRow_2 rfl ?_
  refine mG_iload_n (pc := 3) C dL_mergedRow_3 rfl ?_
  obtain ⟨u2, e3, hf⟩ := mx_bind hf
  rcases mx_catch hf with ⟨v4, h5, e1, hf⟩ | ⟨E6, h5, e1, hf⟩
  · refine mG_cV (pc := 4) (k' := 1) (n' := 6) 9 [.int p1] [.int 0, .ref p2] C hX dL_mergedRow_4 lkV_L_94 rfl rfl e3 (tX9_mergedRow hl e1) rfl rfl rfl rfl ?_
    refine mG_i2l (pc := 7) C dL_mergedRow_7 ?_
    obtain ⟨h7, e8, hf⟩ := mx_bind hf
    refine mG_lastore (pc := 8) C dL_mergedRow_8 e8 ?_
    refine mG_goto (tgt := 15) (pc := 9) C dL_mergedRow_9 (by decide) ?_
    refine mG_ic (pc := 15) C dL_mergedRow_15 kI0 ?_
    cases hf
    exact mG_irH (pc := 16) C E hX dL_mergedRow_16 rfl
  · skip
    by_cases q9 : E6 = "java/lang/IndexOutOfBoundsException"
    · rw [if_pos q9] at hf
      subst q9
      refine mG_cVC (pc := 4) (k' := 1) (n' := 6) (i := 3) (ln := 1) 9 [.int p1] [.int 0, .ref p2] [] ⟨0, 9, 12, 13⟩ [] C E hX dL_mergedRow_4 lkV_L_94 rfl rfl e3 (tX9_mergedRow hl e1) rfl rfl rfl rfl rfl (fun z hz => absurd hz List.not_mem_nil) rfl (by decide) w616 w628 (Or.inr ⟨3, rfl, dL_mergedRow_12, rfl⟩) rfl rfl ?_
      refine mG_ic (pc := 13) C dL_mergedRow_13 kI1 ?_
      cases hf
      exact mG_irH (pc := 14) C E hX dL_mergedRow_14 rfl
    · rw [if_neg q9] at hf
      cases hf
theorem dL_comparisons_0 : decode cL_comparisons 0 = .ok (.aload_n 3, 1) := by decide +kernel
theorem dL_comparisons_1 : decode cL_comparisons 1 = .ok (.iconst 0, 1) := by decide +kernel
theorem dL_comparisons_2 : decode cL_comparisons 2 = .ok (.aload_n 0, 1) := by decide +kernel
theorem dL_comparisons_3 : decode cL_comparisons 3 = .ok (.iload_n 1, 1) := by decide +kernel
theorem dL_comparisons_4 : decode cL_comparisons 4 = .ok (.iload_n 2, 1) := by decide +kernel
theorem dL_comparisons_5 : decode cL_comparisons 5 = .ok (.invokevirtual 97, 3) := by decide +kernel
theorem dL_comparisons_8 : decode cL_comparisons 8 = .ok (.i2l, 1) := by decide +kernel
theorem dL_comparisons_9 : decode cL_comparisons 9 = .ok (.lastore, 1) := by decide +kernel
theorem dL_comparisons_10 : decode cL_comparisons 10 = .ok (.goto 11, 3) := by decide +kernel
theorem dL_comparisons_13 : decode cL_comparisons 13 = .ok (.astore 4, 2) := by decide +kernel
theorem dL_comparisons_15 : decode cL_comparisons 15 = .ok (.iconst 1, 1) := by decide +kernel
theorem dL_comparisons_16 : decode cL_comparisons 16 = .ok (.ireturn, 1) := by decide +kernel
theorem dL_comparisons_17 : decode cL_comparisons 17 = .ok (.astore 4, 2) := by decide +kernel
theorem dL_comparisons_19 : decode cL_comparisons 19 = .ok (.iconst 2, 1) := by decide +kernel
theorem dL_comparisons_20 : decode cL_comparisons 20 = .ok (.ireturn, 1) := by decide +kernel
theorem dL_comparisons_21 : decode cL_comparisons 21 = .ok (.iconst 0, 1) := by decide +kernel
theorem dL_comparisons_22 : decode cL_comparisons 22 = .ok (.ireturn, 1) := by decide +kernel
def fL_comparisons (p0 : Nat) (p1 : Int32) (p2 : Int32) (p3 : Nat) (h : mxH) : Option (Int32 × mxH) := Option.bind (isO h p0 9) (fun u2 => mxCatch (fX9_comparisons p0 p1 p2 h) (fun v4 h5 => Option.bind (stJ h5 p3 0 v4.toInt64) (fun h7 => some (0, h7))) (fun E6 h5 => (if E6 = "java/lang/IndexOutOfBoundsException" then some (1, h5) else (if E6 = "java/lang/IllegalArgumentException" then some (2, h5) else none))))
abbrev rmL_comparisons : Room := { frames := 8, cells := 3, slots := 18, locals := 143 }
set_option maxRecDepth 20000 in
theorem tL_comparisons {l : Launch} {Z : mxZ} (hl : l.stackTraces = false) {p0 : Nat} {p1 : Int32} {p2 : Int32} {p3 : Nat} {h : mxH} {out : Int32 × mxH} (hf : fL_comparisons p0 p1 p2 p3 h = some out) : mxMetH l Z yL_comparisons cL_comparisons 5 (some .int) [(0, 10, 13, 13), (0, 10, 17, 15)] rmL_comparisons [.ref p0, .int p1, .int p2, .ref p3] h (.inl (some (.int out.1))) out.2 := by
  refine mxMetH_of (by decide) hl (by simp [Value.category]) (Nat.le_of_ble_eq_true rfl) ?_
  intro X C E hX
  unfold fL_comparisons at hf
  refine mG_aload_n (pc := 0) C dL_comparisons_0 rfl ?_
  refine mG_ic (pc := 1) C dL_comparisons_1 kI0 ?_
  refine mG_aload_n (pc := 2) C dL_comparisons_2 rfl ?_
  refine mG_iload_n (pc := 3) C dL_comparisons_3 rfl ?_
  refine mG_iload_n (pc := 4) C dL_comparisons_4 rfl ?_
  obtain ⟨u2, e3, hf⟩ := mx_bind hf
  rcases mx_catch hf with ⟨v4, h5, e1, hf⟩ | ⟨E6, h5, e1, hf⟩
  · refine mG_cV (pc := 5) (k' := 3) (n' := 18) 9 [.int p1, .int p2] [.int 0, .ref p3] C hX dL_comparisons_5 lkV_L_97 rfl rfl e3 (tX9_comparisons hl e1) rfl rfl rfl rfl ?_
    refine mG_i2l (pc := 8) C dL_comparisons_8 ?_
    obtain ⟨h7, e8, hf⟩ := mx_bind hf
    refine mG_lastore (pc := 9) C dL_comparisons_9 e8 ?_
    refine mG_goto (tgt := 21) (pc := 10) C dL_comparisons_10 (by decide) ?_
    refine mG_ic (pc := 21) C dL_comparisons_21 kI0 ?_
    cases hf
    exact mG_irH (pc := 22) C E hX dL_comparisons_22 rfl
  · skip
    by_cases q9 : E6 = "java/lang/IndexOutOfBoundsException"
    · rw [if_pos q9] at hf
      subst q9
      refine mG_cVC (pc := 5) (k' := 3) (n' := 18) (i := 4) (ln := 2) 9 [.int p1, .int p2] [.int 0, .ref p3] [] ⟨0, 10, 13, 13⟩ [⟨0, 10, 17, 15⟩] C E hX dL_comparisons_5 lkV_L_97 rfl rfl e3 (tX9_comparisons hl e1) rfl rfl rfl rfl rfl (fun z hz => absurd hz List.not_mem_nil) rfl (by decide) w616 w628 (Or.inl ⟨dL_comparisons_13, rfl⟩) rfl rfl ?_
      refine mG_ic (pc := 15) C dL_comparisons_15 kI1 ?_
      cases hf
      exact mG_irH (pc := 16) C E hX dL_comparisons_16 rfl
    · rw [if_neg q9] at hf
      by_cases q10 : E6 = "java/lang/IllegalArgumentException"
      · rw [if_pos q10] at hf
        subst q10
        refine mG_cVC (pc := 5) (k' := 3) (n' := 18) (i := 4) (ln := 2) 9 [.int p1, .int p2] [.int 0, .ref p3] [⟨0, 10, 13, 13⟩] ⟨0, 10, 17, 15⟩ [] C E hX dL_comparisons_5 lkV_L_97 rfl rfl e3 (tX9_comparisons hl e1) rfl rfl rfl rfl rfl (fun z hz => by rw [List.mem_singleton.mp hz]; exact ⟨by decide, _, w616, xs1, xs0, xn10⟩) rfl (by decide) w617 w704 (Or.inl ⟨dL_comparisons_17, rfl⟩) rfl rfl ?_
        refine mG_ic (pc := 19) C dL_comparisons_19 kI2 ?_
        cases hf
        exact mG_irH (pc := 20) C E hX dL_comparisons_20 rfl
      · rw [if_neg q10] at hf
        cases hf
theorem dL_quantile_0 : decode cL_quantile 0 = .ok (.aload_n 2, 1) := by decide +kernel
theorem dL_quantile_1 : decode cL_quantile 1 = .ok (.iconst 0, 1) := by decide +kernel
theorem dL_quantile_2 : decode cL_quantile 2 = .ok (.aload_n 0, 1) := by decide +kernel
theorem dL_quantile_3 : decode cL_quantile 3 = .ok (.iload_n 1, 1) := by decide +kernel
theorem dL_quantile_4 : decode cL_quantile 4 = .ok (.invokevirtual 100, 3) := by decide +kernel
theorem dL_quantile_7 : decode cL_quantile 7 = .ok (.i2l, 1) := by decide +kernel
theorem dL_quantile_8 : decode cL_quantile 8 = .ok (.lastore, 1) := by decide +kernel
theorem dL_quantile_9 : decode cL_quantile 9 = .ok (.goto 9, 3) := by decide +kernel
theorem dL_quantile_12 : decode cL_quantile 12 = .ok (.astore_n 3, 1) := by decide +kernel
theorem dL_quantile_13 : decode cL_quantile 13 = .ok (.iconst 1, 1) := by decide +kernel
theorem dL_quantile_14 : decode cL_quantile 14 = .ok (.ireturn, 1) := by decide +kernel
theorem dL_quantile_15 : decode cL_quantile 15 = .ok (.astore_n 3, 1) := by decide +kernel
theorem dL_quantile_16 : decode cL_quantile 16 = .ok (.iconst 2, 1) := by decide +kernel
theorem dL_quantile_17 : decode cL_quantile 17 = .ok (.ireturn, 1) := by decide +kernel
theorem dL_quantile_18 : decode cL_quantile 18 = .ok (.iconst 0, 1) := by decide +kernel
theorem dL_quantile_19 : decode cL_quantile 19 = .ok (.ireturn, 1) := by decide +kernel
def fL_quantile (p0 : Nat) (p1 : Int32) (p2 : Nat) (h : mxH) : Option (Int32 × mxH) := Option.bind (isO h p0 9) (fun u2 => mxCatch (fX9_quantile p0 p1 h) (fun v4 h5 => Option.bind (stJ h5 p2 0 v4.toInt64) (fun h7 => some (0, h7))) (fun E6 h5 => (if E6 = "java/lang/IllegalArgumentException" then some (1, h5) else (if E6 = "java/util/NoSuchElementException" then some (2, h5) else none))))
abbrev rmL_quantile : Room := { frames := 8, cells := 2, slots := 12, locals := 145 }
set_option maxRecDepth 20000 in
theorem tL_quantile {l : Launch} {Z : mxZ} (hl : l.stackTraces = false) {p0 : Nat} {p1 : Int32} {p2 : Nat} {h : mxH} {out : Int32 × mxH} (hf : fL_quantile p0 p1 p2 h = some out) : mxMetH l Z yL_quantile cL_quantile 4 (some .int) [(0, 9, 12, 15), (0, 9, 15, 21)] rmL_quantile [.ref p0, .int p1, .ref p2] h (.inl (some (.int out.1))) out.2 := by
  refine mxMetH_of (by decide) hl (by simp [Value.category]) (Nat.le_of_ble_eq_true rfl) ?_
  intro X C E hX
  unfold fL_quantile at hf
  refine mG_aload_n (pc := 0) C dL_quantile_0 rfl ?_
  refine mG_ic (pc := 1) C dL_quantile_1 kI0 ?_
  refine mG_aload_n (pc := 2) C dL_quantile_2 rfl ?_
  refine mG_iload_n (pc := 3) C dL_quantile_3 rfl ?_
  obtain ⟨u2, e3, hf⟩ := mx_bind hf
  rcases mx_catch hf with ⟨v4, h5, e1, hf⟩ | ⟨E6, h5, e1, hf⟩
  · refine mG_cV (pc := 4) (k' := 2) (n' := 12) 9 [.int p1] [.int 0, .ref p2] C hX dL_quantile_4 lkV_L_100 rfl rfl e3 (tX9_quantile hl e1) rfl rfl rfl rfl ?_
    refine mG_i2l (pc := 7) C dL_quantile_7 ?_
    obtain ⟨h7, e8, hf⟩ := mx_bind hf
    refine mG_lastore (pc := 8) C dL_quantile_8 e8 ?_
    refine mG_goto (tgt := 18) (pc := 9) C dL_quantile_9 (by decide) ?_
    refine mG_ic (pc := 18) C dL_quantile_18 kI0 ?_
    cases hf
    exact mG_irH (pc := 19) C E hX dL_quantile_19 rfl
  · skip
    by_cases q9 : E6 = "java/lang/IllegalArgumentException"
    · rw [if_pos q9] at hf
      subst q9
      refine mG_cVC (pc := 4) (k' := 2) (n' := 12) (i := 3) (ln := 1) 9 [.int p1] [.int 0, .ref p2] [] ⟨0, 9, 12, 15⟩ [⟨0, 9, 15, 21⟩] C E hX dL_quantile_4 lkV_L_100 rfl rfl e3 (tX9_quantile hl e1) rfl rfl rfl rfl rfl (fun z hz => absurd hz List.not_mem_nil) rfl (by decide) w617 w704 (Or.inr ⟨3, rfl, dL_quantile_12, rfl⟩) rfl rfl ?_
      refine mG_ic (pc := 13) C dL_quantile_13 kI1 ?_
      cases hf
      exact mG_irH (pc := 14) C E hX dL_quantile_14 rfl
    · rw [if_neg q9] at hf
      by_cases q10 : E6 = "java/util/NoSuchElementException"
      · rw [if_pos q10] at hf
        subst q10
        refine mG_cVC (pc := 4) (k' := 2) (n' := 12) (i := 3) (ln := 1) 9 [.int p1] [.int 0, .ref p2] [⟨0, 9, 12, 15⟩] ⟨0, 9, 15, 21⟩ [] C E hX dL_quantile_4 lkV_L_100 rfl rfl e3 (tX9_quantile hl e1) rfl rfl rfl rfl rfl (fun z hz => by rw [List.mem_singleton.mp hz]; exact ⟨by decide, _, w617, xs2, xs1, xn21⟩) rfl (by decide) w727 w737 (Or.inr ⟨3, rfl, dL_quantile_15, rfl⟩) rfl rfl ?_
        refine mG_ic (pc := 16) C dL_quantile_16 kI2 ?_
        cases hf
        exact mG_irH (pc := 17) C E hX dL_quantile_17 rfl
      · rw [if_neg q10] at hf
        cases hf
theorem dL_prefer_0 : decode cL_prefer 0 = .ok (.aload_n 3, 1) := by decide +kernel
theorem dL_prefer_1 : decode cL_prefer 1 = .ok (.iconst 0, 1) := by decide +kernel
theorem dL_prefer_2 : decode cL_prefer 2 = .ok (.aload_n 0, 1) := by decide +kernel
theorem dL_prefer_3 : decode cL_prefer 3 = .ok (.iload_n 1, 1) := by decide +kernel
theorem dL_prefer_4 : decode cL_prefer 4 = .ok (.iload_n 2, 1) := by decide +kernel
theorem dL_prefer_5 : decode cL_prefer 5 = .ok (.invokevirtual 103, 3) := by decide +kernel
theorem dL_prefer_8 : decode cL_prefer 8 = .ok (.i2l, 1) := by decide +kernel
theorem dL_prefer_9 : decode cL_prefer 9 = .ok (.lastore, 1) := by decide +kernel
theorem dL_prefer_10 : decode cL_prefer 10 = .ok (.goto 7, 3) := by decide +kernel
theorem dL_prefer_13 : decode cL_prefer 13 = .ok (.astore 4, 2) := by decide +kernel
theorem dL_prefer_15 : decode cL_prefer 15 = .ok (.iconst 1, 1) := by decide +kernel
theorem dL_prefer_16 : decode cL_prefer 16 = .ok (.ireturn, 1) := by decide +kernel
theorem dL_prefer_17 : decode cL_prefer 17 = .ok (.iconst 0, 1) := by decide +kernel
theorem dL_prefer_18 : decode cL_prefer 18 = .ok (.ireturn, 1) := by decide +kernel
def fL_prefer (p0 : Nat) (p1 : Int32) (p2 : Int32) (p3 : Nat) (h : mxH) : Option (Int32 × mxH) := Option.bind (isO h p0 9) (fun u2 => mxCatch (fX9_prefer p0 p1 p2 h) (fun v4 h5 => Option.bind (stJ h5 p3 0 v4.toInt64) (fun h7 => some (0, h7))) (fun E6 h5 => (if E6 = "java/lang/IndexOutOfBoundsException" then some (1, h5) else none)))
abbrev rmL_prefer : Room := { frames := 8, cells := 2, slots := 12, locals := 143 }
set_option maxRecDepth 20000 in
theorem tL_prefer {l : Launch} {Z : mxZ} (hl : l.stackTraces = false) {p0 : Nat} {p1 : Int32} {p2 : Int32} {p3 : Nat} {h : mxH} {out : Int32 × mxH} (hf : fL_prefer p0 p1 p2 p3 h = some out) : mxMetH l Z yL_prefer cL_prefer 5 (some .int) [(0, 10, 13, 13)] rmL_prefer [.ref p0, .int p1, .int p2, .ref p3] h (.inl (some (.int out.1))) out.2 := by
  refine mxMetH_of (by decide) hl (by simp [Value.category]) (Nat.le_of_ble_eq_true rfl) ?_
  intro X C E hX
  unfold fL_prefer at hf
  refine mG_aload_n (pc := 0) C dL_prefer_0 rfl ?_
  refine mG_ic (pc := 1) C dL_prefer_1 kI0 ?_
  refine mG_aload_n (pc := 2) C dL_prefer_2 rfl ?_
  refine mG_iload_n (pc := 3) C dL_prefer_3 rfl ?_
  refine mG_iload_n (pc := 4) C dL_prefer_4 rfl ?_
  obtain ⟨u2, e3, hf⟩ := mx_bind hf
  rcases mx_catch hf with ⟨v4, h5, e1, hf⟩ | ⟨E6, h5, e1, hf⟩
  · refine mG_cV (pc := 5) (k' := 2) (n' := 12) 9 [.int p1, .int p2] [.int 0, .ref p3] C hX dL_prefer_5 lkV_L_103 rfl rfl e3 (tX9_prefer hl e1) rfl rfl rfl rfl ?_
    refine mG_i2l (pc := 8) C dL_prefer_8 ?_
    obtain ⟨h7, e8, hf⟩ := mx_bind hf
    refine mG_lastore (pc := 9) C dL_prefer_9 e8 ?_
    refine mG_goto (tgt := 17) (pc := 10) C dL_prefer_10 (by decide) ?_
    refine mG_ic (pc := 17) C dL_prefer_17 kI0 ?_
    cases hf
    exact mG_irH (pc := 18) C E hX dL_prefer_18 rfl
  · skip
    by_cases q9 : E6 = "java/lang/IndexOutOfBoundsException"
    · rw [if_pos q9] at hf
      subst q9
      refine mG_cVC (pc := 5) (k' := 2) (n' := 12) (i := 4) (ln := 2) 9 [.int p1, .int p2] [.int 0, .ref p3] [] ⟨0, 10, 13, 13⟩ [] C E hX dL_prefer_5 lkV_L_103 rfl rfl e3 (tX9_prefer hl e1) rfl rfl rfl rfl rfl (fun z hz => absurd hz List.not_mem_nil) rfl (by decide) w616 w628 (Or.inl ⟨dL_prefer_13, rfl⟩) rfl rfl ?_
      refine mG_ic (pc := 15) C dL_prefer_15 kI1 ?_
      cases hf
      exact mG_irH (pc := 16) C E hX dL_prefer_16 rfl
    · rw [if_neg q9] at hf
      cases hf
theorem dL_winner_0 : decode cL_winner 0 = .ok (.aload_n 1, 1) := by decide +kernel
theorem dL_winner_1 : decode cL_winner 1 = .ok (.iconst 0, 1) := by decide +kernel
theorem dL_winner_2 : decode cL_winner 2 = .ok (.aload_n 0, 1) := by decide +kernel
theorem dL_winner_3 : decode cL_winner 3 = .ok (.invokevirtual 106, 3) := by decide +kernel
theorem dL_winner_6 : decode cL_winner 6 = .ok (.i2l, 1) := by decide +kernel
theorem dL_winner_7 : decode cL_winner 7 = .ok (.lastore, 1) := by decide +kernel
theorem dL_winner_8 : decode cL_winner 8 = .ok (.goto 6, 3) := by decide +kernel
theorem dL_winner_11 : decode cL_winner 11 = .ok (.astore_n 2, 1) := by decide +kernel
theorem dL_winner_12 : decode cL_winner 12 = .ok (.iconst 1, 1) := by decide +kernel
theorem dL_winner_13 : decode cL_winner 13 = .ok (.ireturn, 1) := by decide +kernel
theorem dL_winner_14 : decode cL_winner 14 = .ok (.iconst 0, 1) := by decide +kernel
theorem dL_winner_15 : decode cL_winner 15 = .ok (.ireturn, 1) := by decide +kernel
def fL_winner (p0 : Nat) (p1 : Nat) (h : mxH) : Option (Int32 × mxH) := Option.bind (isO h p0 9) (fun u2 => mxCatch (fX9_winner p0 h) (fun v4 h5 => Option.bind (stJ h5 p1 0 v4.toInt64) (fun h7 => some (0, h7))) (fun E6 h5 => (if E6 = "java/util/NoSuchElementException" then some (1, h5) else none)))
abbrev rmL_winner : Room := { frames := 8, cells := 1, slots := 6, locals := 142 }
set_option maxRecDepth 20000 in
theorem tL_winner {l : Launch} {Z : mxZ} (hl : l.stackTraces = false) {p0 : Nat} {p1 : Nat} {h : mxH} {out : Int32 × mxH} (hf : fL_winner p0 p1 h = some out) : mxMetH l Z yL_winner cL_winner 3 (some .int) [(0, 8, 11, 21)] rmL_winner [.ref p0, .ref p1] h (.inl (some (.int out.1))) out.2 := by
  refine mxMetH_of (by decide) hl (by simp [Value.category]) (Nat.le_of_ble_eq_true rfl) ?_
  intro X C E hX
  unfold fL_winner at hf
  refine mG_aload_n (pc := 0) C dL_winner_0 rfl ?_
  refine mG_ic (pc := 1) C dL_winner_1 kI0 ?_
  refine mG_aload_n (pc := 2) C dL_winner_2 rfl ?_
  obtain ⟨u2, e3, hf⟩ := mx_bind hf
  rcases mx_catch hf with ⟨v4, h5, e1, hf⟩ | ⟨E6, h5, e1, hf⟩
  · refine mG_cV (pc := 3) (k' := 1) (n' := 6) 9 [] [.int 0, .ref p1] C hX dL_winner_3 lkV_L_106 rfl rfl e3 (tX9_winner hl e1) rfl rfl rfl rfl ?_
    refine mG_i2l (pc := 6) C dL_winner_6 ?_
    obtain ⟨h7, e8, hf⟩ := mx_bind hf
    refine mG_lastore (pc := 7) C dL_winner_7 e8 ?_
    refine mG_goto (tgt := 14) (pc := 8) C dL_winner_8 (by decide) ?_
    refine mG_ic (pc := 14) C dL_winner_14 kI0 ?_
    cases hf
    exact mG_irH (pc := 15) C E hX dL_winner_15 rfl
  · skip
    by_cases q9 : E6 = "java/util/NoSuchElementException"
    · rw [if_pos q9] at hf
      subst q9
      refine mG_cVC (pc := 3) (k' := 1) (n' := 6) (i := 2) (ln := 1) 9 [] [.int 0, .ref p1] [] ⟨0, 8, 11, 21⟩ [] C E hX dL_winner_3 lkV_L_106 rfl rfl e3 (tX9_winner hl e1) rfl rfl rfl rfl rfl (fun z hz => absurd hz List.not_mem_nil) rfl (by decide) w727 w737 (Or.inr ⟨2, rfl, dL_winner_11, rfl⟩) rfl rfl ?_
      refine mG_ic (pc := 12) C dL_winner_12 kI1 ?_
      cases hf
      exact mG_irH (pc := 13) C E hX dL_winner_13 rfl
    · rw [if_neg q9] at hf
      cases hf
theorem dL_orderAt_0 : decode cL_orderAt 0 = .ok (.aload_n 2, 1) := by decide +kernel
theorem dL_orderAt_1 : decode cL_orderAt 1 = .ok (.iconst 0, 1) := by decide +kernel
theorem dL_orderAt_2 : decode cL_orderAt 2 = .ok (.aload_n 0, 1) := by decide +kernel
theorem dL_orderAt_3 : decode cL_orderAt 3 = .ok (.iload_n 1, 1) := by decide +kernel
theorem dL_orderAt_4 : decode cL_orderAt 4 = .ok (.invokevirtual 110, 3) := by decide +kernel
theorem dL_orderAt_7 : decode cL_orderAt 7 = .ok (.i2l, 1) := by decide +kernel
theorem dL_orderAt_8 : decode cL_orderAt 8 = .ok (.lastore, 1) := by decide +kernel
theorem dL_orderAt_9 : decode cL_orderAt 9 = .ok (.goto 6, 3) := by decide +kernel
theorem dL_orderAt_12 : decode cL_orderAt 12 = .ok (.astore_n 3, 1) := by decide +kernel
theorem dL_orderAt_13 : decode cL_orderAt 13 = .ok (.iconst 1, 1) := by decide +kernel
theorem dL_orderAt_14 : decode cL_orderAt 14 = .ok (.ireturn, 1) := by decide +kernel
theorem dL_orderAt_15 : decode cL_orderAt 15 = .ok (.iconst 0, 1) := by decide +kernel
theorem dL_orderAt_16 : decode cL_orderAt 16 = .ok (.ireturn, 1) := by decide +kernel
def fL_orderAt (p0 : Nat) (p1 : Int32) (p2 : Nat) (h : mxH) : Option (Int32 × mxH) := Option.bind (isO h p0 9) (fun u2 => mxCatch (fX9_orderAt p0 p1 h) (fun v4 h5 => Option.bind (stJ h5 p2 0 v4.toInt64) (fun h7 => some (0, h7))) (fun E6 h5 => (if E6 = "java/lang/IndexOutOfBoundsException" then some (1, h5) else none)))
abbrev rmL_orderAt : Room := { frames := 8, cells := 1, slots := 6, locals := 143 }
set_option maxRecDepth 20000 in
theorem tL_orderAt {l : Launch} {Z : mxZ} (hl : l.stackTraces = false) {p0 : Nat} {p1 : Int32} {p2 : Nat} {h : mxH} {out : Int32 × mxH} (hf : fL_orderAt p0 p1 p2 h = some out) : mxMetH l Z yL_orderAt cL_orderAt 4 (some .int) [(0, 9, 12, 13)] rmL_orderAt [.ref p0, .int p1, .ref p2] h (.inl (some (.int out.1))) out.2 := by
  refine mxMetH_of (by decide) hl (by simp [Value.category]) (Nat.le_of_ble_eq_true rfl) ?_
  intro X C E hX
  unfold fL_orderAt at hf
  refine mG_aload_n (pc := 0) C dL_orderAt_0 rfl ?_
  refine mG_ic (pc := 1) C dL_orderAt_1 kI0 ?_
  refine mG_aload_n (pc := 2) C dL_orderAt_2 rfl ?_
  refine mG_iload_n (pc := 3) C dL_orderAt_3 rfl ?_
  obtain ⟨u2, e3, hf⟩ := mx_bind hf
  rcases mx_catch hf with ⟨v4, h5, e1, hf⟩ | ⟨E6, h5, e1, hf⟩
  · refine mG_cV (pc := 4) (k' := 1) (n' := 6) 9 [.int p1] [.int 0, .ref p2] C hX dL_orderAt_4 lkV_L_110 rfl rfl e3 (tX9_orderAt hl e1) rfl rfl rfl rfl ?_
    refine mG_i2l (pc := 7) C dL_orderAt_7 ?_
    obtain ⟨h7, e8, hf⟩ := mx_bind hf
    refine mG_lastore (pc := 8) C dL_orderAt_8 e8 ?_
    refine mG_goto (tgt := 15) (pc := 9) C dL_orderAt_9 (by decide) ?_
    refine mG_ic (pc := 15) C dL_orderAt_15 kI0 ?_
    cases hf
    exact mG_irH (pc := 16) C E hX dL_orderAt_16 rfl
  · skip
    by_cases q9 : E6 = "java/lang/IndexOutOfBoundsException"
    · rw [if_pos q9] at hf
      subst q9
      refine mG_cVC (pc := 4) (k' := 1) (n' := 6) (i := 3) (ln := 1) 9 [.int p1] [.int 0, .ref p2] [] ⟨0, 9, 12, 13⟩ [] C E hX dL_orderAt_4 lkV_L_110 rfl rfl e3 (tX9_orderAt hl e1) rfl rfl rfl rfl rfl (fun z hz => absurd hz List.not_mem_nil) rfl (by decide) w616 w628 (Or.inr ⟨3, rfl, dL_orderAt_12, rfl⟩) rfl rfl ?_
      refine mG_ic (pc := 13) C dL_orderAt_13 kI1 ?_
      cases hf
      exact mG_irH (pc := 14) C E hX dL_orderAt_14 rfl
    · rw [if_neg q9] at hf
      cases hf
theorem dL_windowAt_0 : decode cL_windowAt 0 = .ok (.aload_n 2, 1) := by decide +kernel
theorem dL_windowAt_1 : decode cL_windowAt 1 = .ok (.iconst 0, 1) := by decide +kernel
theorem dL_windowAt_2 : decode cL_windowAt 2 = .ok (.aload_n 0, 1) := by decide +kernel
theorem dL_windowAt_3 : decode cL_windowAt 3 = .ok (.iload_n 1, 1) := by decide +kernel
theorem dL_windowAt_4 : decode cL_windowAt 4 = .ok (.invokevirtual 113, 3) := by decide +kernel
theorem dL_windowAt_7 : decode cL_windowAt 7 = .ok (.i2l, 1) := by decide +kernel
theorem dL_windowAt_8 : decode cL_windowAt 8 = .ok (.lastore, 1) := by decide +kernel
theorem dL_windowAt_9 : decode cL_windowAt 9 = .ok (.goto 6, 3) := by decide +kernel
theorem dL_windowAt_12 : decode cL_windowAt 12 = .ok (.astore_n 3, 1) := by decide +kernel
theorem dL_windowAt_13 : decode cL_windowAt 13 = .ok (.iconst 1, 1) := by decide +kernel
theorem dL_windowAt_14 : decode cL_windowAt 14 = .ok (.ireturn, 1) := by decide +kernel
theorem dL_windowAt_15 : decode cL_windowAt 15 = .ok (.iconst 0, 1) := by decide +kernel
theorem dL_windowAt_16 : decode cL_windowAt 16 = .ok (.ireturn, 1) := by decide +kernel
def fL_windowAt (p0 : Nat) (p1 : Int32) (p2 : Nat) (h : mxH) : Option (Int32 × mxH) := Option.bind (isO h p0 9) (fun u2 => mxCatch (fX9_windowAt p0 p1 h) (fun v4 h5 => Option.bind (stJ h5 p2 0 v4.toInt64) (fun h7 => some (0, h7))) (fun E6 h5 => (if E6 = "java/lang/IndexOutOfBoundsException" then some (1, h5) else none)))
abbrev rmL_windowAt : Room := { frames := 8, cells := 1, slots := 6, locals := 143 }
set_option maxRecDepth 20000 in
theorem tL_windowAt {l : Launch} {Z : mxZ} (hl : l.stackTraces = false) {p0 : Nat} {p1 : Int32} {p2 : Nat} {h : mxH} {out : Int32 × mxH} (hf : fL_windowAt p0 p1 p2 h = some out) : mxMetH l Z yL_windowAt cL_windowAt 4 (some .int) [(0, 9, 12, 13)] rmL_windowAt [.ref p0, .int p1, .ref p2] h (.inl (some (.int out.1))) out.2 := by
  refine mxMetH_of (by decide) hl (by simp [Value.category]) (Nat.le_of_ble_eq_true rfl) ?_
  intro X C E hX
  unfold fL_windowAt at hf
  refine mG_aload_n (pc := 0) C dL_windowAt_0 rfl ?_
  refine mG_ic (pc := 1) C dL_windowAt_1 kI0 ?_
  refine mG_aload_n (pc := 2) C dL_windowAt_2 rfl ?_
  refine mG_iload_n (pc := 3) C dL_windowAt_3 rfl ?_
  obtain ⟨u2, e3, hf⟩ := mx_bind hf
  rcases mx_catch hf with ⟨v4, h5, e1, hf⟩ | ⟨E6, h5, e1, hf⟩
  · refine mG_cV (pc := 4) (k' := 1) (n' := 6) 9 [.int p1] [.int 0, .ref p2] C hX dL_windowAt_4 lkV_L_113 rfl rfl e3 (tX9_windowAt hl e1) rfl rfl rfl rfl ?_
    refine mG_i2l (pc := 7) C dL_windowAt_7 ?_
    obtain ⟨h7, e8, hf⟩ := mx_bind hf
    refine mG_lastore (pc := 8) C dL_windowAt_8 e8 ?_
    refine mG_goto (tgt := 15) (pc := 9) C dL_windowAt_9 (by decide) ?_
    refine mG_ic (pc := 15) C dL_windowAt_15 kI0 ?_
    cases hf
    exact mG_irH (pc := 16) C E hX dL_windowAt_16 rfl
  · skip
    by_cases q9 : E6 = "java/lang/IndexOutOfBoundsException"
    · rw [if_pos q9] at hf
      subst q9
      refine mG_cVC (pc := 4) (k' := 1) (n' := 6) (i := 3) (ln := 1) 9 [.int p1] [.int 0, .ref p2] [] ⟨0, 9, 12, 13⟩ [] C E hX dL_windowAt_4 lkV_L_113 rfl rfl e3 (tX9_windowAt hl e1) rfl rfl rfl rfl rfl (fun z hz => absurd hz List.not_mem_nil) rfl (by decide) w616 w628 (Or.inr ⟨3, rfl, dL_windowAt_12, rfl⟩) rfl rfl ?_
      refine mG_ic (pc := 13) C dL_windowAt_13 kI1 ?_
      cases hf
      exact mG_irH (pc := 14) C E hX dL_windowAt_14 rfl
    · rw [if_neg q9] at hf
      cases hf
theorem dL_counted_0 : decode cL_counted 0 = .ok (.aload_n 2, 1) := by decide +kernel
theorem dL_counted_1 : decode cL_counted 1 = .ok (.iconst 0, 1) := by decide +kernel
theorem dL_counted_2 : decode cL_counted 2 = .ok (.aload_n 0, 1) := by decide +kernel
theorem dL_counted_3 : decode cL_counted 3 = .ok (.iload_n 1, 1) := by decide +kernel
theorem dL_counted_4 : decode cL_counted 4 = .ok (.invokevirtual 116, 3) := by decide +kernel
theorem dL_counted_7 : decode cL_counted 7 = .ok (.i2l, 1) := by decide +kernel
theorem dL_counted_8 : decode cL_counted 8 = .ok (.lastore, 1) := by decide +kernel
theorem dL_counted_9 : decode cL_counted 9 = .ok (.goto 6, 3) := by decide +kernel
theorem dL_counted_12 : decode cL_counted 12 = .ok (.astore_n 3, 1) := by decide +kernel
theorem dL_counted_13 : decode cL_counted 13 = .ok (.iconst 1, 1) := by decide +kernel
theorem dL_counted_14 : decode cL_counted 14 = .ok (.ireturn, 1) := by decide +kernel
theorem dL_counted_15 : decode cL_counted 15 = .ok (.iconst 0, 1) := by decide +kernel
theorem dL_counted_16 : decode cL_counted 16 = .ok (.ireturn, 1) := by decide +kernel
def fL_counted (p0 : Nat) (p1 : Int32) (p2 : Nat) (h : mxH) : Option (Int32 × mxH) := Option.bind (isO h p0 9) (fun u2 => mxCatch (fX9_counted p0 p1 h) (fun v4 h5 => Option.bind (stJ h5 p2 0 v4.toInt64) (fun h7 => some (0, h7))) (fun E6 h5 => (if E6 = "java/lang/IllegalArgumentException" then some (1, h5) else none)))
abbrev rmL_counted : Room := { frames := 8, cells := 1, slots := 6, locals := 144 }
set_option maxRecDepth 20000 in
theorem tL_counted {l : Launch} {Z : mxZ} (hl : l.stackTraces = false) {p0 : Nat} {p1 : Int32} {p2 : Nat} {h : mxH} {out : Int32 × mxH} (hf : fL_counted p0 p1 p2 h = some out) : mxMetH l Z yL_counted cL_counted 4 (some .int) [(0, 9, 12, 15)] rmL_counted [.ref p0, .int p1, .ref p2] h (.inl (some (.int out.1))) out.2 := by
  refine mxMetH_of (by decide) hl (by simp [Value.category]) (Nat.le_of_ble_eq_true rfl) ?_
  intro X C E hX
  unfold fL_counted at hf
  refine mG_aload_n (pc := 0) C dL_counted_0 rfl ?_
  refine mG_ic (pc := 1) C dL_counted_1 kI0 ?_
  refine mG_aload_n (pc := 2) C dL_counted_2 rfl ?_
  refine mG_iload_n (pc := 3) C dL_counted_3 rfl ?_
  obtain ⟨u2, e3, hf⟩ := mx_bind hf
  rcases mx_catch hf with ⟨v4, h5, e1, hf⟩ | ⟨E6, h5, e1, hf⟩
  · refine mG_cV (pc := 4) (k' := 1) (n' := 6) 9 [.int p1] [.int 0, .ref p2] C hX dL_counted_4 lkV_L_116 rfl rfl e3 (tX9_counted hl e1) rfl rfl rfl rfl ?_
    refine mG_i2l (pc := 7) C dL_counted_7 ?_
    obtain ⟨h7, e8, hf⟩ := mx_bind hf
    refine mG_lastore (pc := 8) C dL_counted_8 e8 ?_
    refine mG_goto (tgt := 15) (pc := 9) C dL_counted_9 (by decide) ?_
    refine mG_ic (pc := 15) C dL_counted_15 kI0 ?_
    cases hf
    exact mG_irH (pc := 16) C E hX dL_counted_16 rfl
  · skip
    by_cases q9 : E6 = "java/lang/IllegalArgumentException"
    · rw [if_pos q9] at hf
      subst q9
      refine mG_cVC (pc := 4) (k' := 1) (n' := 6) (i := 3) (ln := 1) 9 [.int p1] [.int 0, .ref p2] [] ⟨0, 9, 12, 15⟩ [] C E hX dL_counted_4 lkV_L_116 rfl rfl e3 (tX9_counted hl e1) rfl rfl rfl rfl rfl (fun z hz => absurd hz List.not_mem_nil) rfl (by decide) w617 w704 (Or.inr ⟨3, rfl, dL_counted_12, rfl⟩) rfl rfl ?_
      refine mG_ic (pc := 13) C dL_counted_13 kI1 ?_
      cases hf
      exact mG_irH (pc := 14) C E hX dL_counted_14 rfl
    · rw [if_neg q9] at hf
      cases hf
theorem dL_came_0 : decode cL_came 0 = .ok (.aload_n 2, 1) := by decide +kernel
theorem dL_came_1 : decode cL_came 1 = .ok (.iconst 0, 1) := by decide +kernel
theorem dL_came_2 : decode cL_came 2 = .ok (.aload_n 0, 1) := by decide +kernel
theorem dL_came_3 : decode cL_came 3 = .ok (.iload_n 1, 1) := by decide +kernel
theorem dL_came_4 : decode cL_came 4 = .ok (.invokevirtual 119, 3) := by decide +kernel
theorem dL_came_7 : decode cL_came 7 = .ok (.i2l, 1) := by decide +kernel
theorem dL_came_8 : decode cL_came 8 = .ok (.lastore, 1) := by decide +kernel
theorem dL_came_9 : decode cL_came 9 = .ok (.goto 6, 3) := by decide +kernel
theorem dL_came_12 : decode cL_came 12 = .ok (.astore_n 3, 1) := by decide +kernel
theorem dL_came_13 : decode cL_came 13 = .ok (.iconst 1, 1) := by decide +kernel
theorem dL_came_14 : decode cL_came 14 = .ok (.ireturn, 1) := by decide +kernel
theorem dL_came_15 : decode cL_came 15 = .ok (.iconst 0, 1) := by decide +kernel
theorem dL_came_16 : decode cL_came 16 = .ok (.ireturn, 1) := by decide +kernel
def fL_came (p0 : Nat) (p1 : Int32) (p2 : Nat) (h : mxH) : Option (Int32 × mxH) := Option.bind (isO h p0 9) (fun u2 => mxCatch (fX9_came p0 p1 h) (fun v4 h5 => Option.bind (stJ h5 p2 0 v4.toInt64) (fun h7 => some (0, h7))) (fun E6 h5 => (if E6 = "java/lang/IllegalArgumentException" then some (1, h5) else none)))
abbrev rmL_came : Room := { frames := 8, cells := 1, slots := 6, locals := 144 }
set_option maxRecDepth 20000 in
theorem tL_came {l : Launch} {Z : mxZ} (hl : l.stackTraces = false) {p0 : Nat} {p1 : Int32} {p2 : Nat} {h : mxH} {out : Int32 × mxH} (hf : fL_came p0 p1 p2 h = some out) : mxMetH l Z yL_came cL_came 4 (some .int) [(0, 9, 12, 15)] rmL_came [.ref p0, .int p1, .ref p2] h (.inl (some (.int out.1))) out.2 := by
  refine mxMetH_of (by decide) hl (by simp [Value.category]) (Nat.le_of_ble_eq_true rfl) ?_
  intro X C E hX
  unfold fL_came at hf
  refine mG_aload_n (pc := 0) C dL_came_0 rfl ?_
  refine mG_ic (pc := 1) C dL_came_1 kI0 ?_
  refine mG_aload_n (pc := 2) C dL_came_2 rfl ?_
  refine mG_iload_n (pc := 3) C dL_came_3 rfl ?_
  obtain ⟨u2, e3, hf⟩ := mx_bind hf
  rcases mx_catch hf with ⟨v4, h5, e1, hf⟩ | ⟨E6, h5, e1, hf⟩
  · refine mG_cV (pc := 4) (k' := 1) (n' := 6) 9 [.int p1] [.int 0, .ref p2] C hX dL_came_4 lkV_L_119 rfl rfl e3 (tX9_came hl e1) rfl rfl rfl rfl ?_
    refine mG_i2l (pc := 7) C dL_came_7 ?_
    obtain ⟨h7, e8, hf⟩ := mx_bind hf
    refine mG_lastore (pc := 8) C dL_came_8 e8 ?_
    refine mG_goto (tgt := 15) (pc := 9) C dL_came_9 (by decide) ?_
    refine mG_ic (pc := 15) C dL_came_15 kI0 ?_
    cases hf
    exact mG_irH (pc := 16) C E hX dL_came_16 rfl
  · skip
    by_cases q9 : E6 = "java/lang/IllegalArgumentException"
    · rw [if_pos q9] at hf
      subst q9
      refine mG_cVC (pc := 4) (k' := 1) (n' := 6) (i := 3) (ln := 1) 9 [.int p1] [.int 0, .ref p2] [] ⟨0, 9, 12, 15⟩ [] C E hX dL_came_4 lkV_L_119 rfl rfl e3 (tX9_came hl e1) rfl rfl rfl rfl rfl (fun z hz => absurd hz List.not_mem_nil) rfl (by decide) w617 w704 (Or.inr ⟨3, rfl, dL_came_12, rfl⟩) rfl rfl ?_
      refine mG_ic (pc := 13) C dL_came_13 kI1 ?_
      cases hf
      exact mG_irH (pc := 14) C E hX dL_came_14 rfl
    · rw [if_neg q9] at hf
      cases hf
theorem dL_pairSum_0 : decode cL_pairSum 0 = .ok (.aload 4, 2) := by decide +kernel
theorem dL_pairSum_2 : decode cL_pairSum 2 = .ok (.iconst 0, 1) := by decide +kernel
theorem dL_pairSum_3 : decode cL_pairSum 3 = .ok (.aload_n 0, 1) := by decide +kernel
theorem dL_pairSum_4 : decode cL_pairSum 4 = .ok (.iload_n 1, 1) := by decide +kernel
theorem dL_pairSum_5 : decode cL_pairSum 5 = .ok (.iload_n 2, 1) := by decide +kernel
theorem dL_pairSum_6 : decode cL_pairSum 6 = .ok (.iload_n 3, 1) := by decide +kernel
theorem dL_pairSum_7 : decode cL_pairSum 7 = .ok (.invokevirtual 122, 3) := by decide +kernel
theorem dL_pairSum_10 : decode cL_pairSum 10 = .ok (.i2l, 1) := by decide +kernel
theorem dL_pairSum_11 : decode cL_pairSum 11 = .ok (.lastore, 1) := by decide +kernel
theorem dL_pairSum_12 : decode cL_pairSum 12 = .ok (.goto 7, 3) := by decide +kernel
theorem dL_pairSum_15 : decode cL_pairSum 15 = .ok (.astore 5, 2) := by decide +kernel
theorem dL_pairSum_17 : decode cL_pairSum 17 = .ok (.iconst 1, 1) := by decide +kernel
theorem dL_pairSum_18 : decode cL_pairSum 18 = .ok (.ireturn, 1) := by decide +kernel
theorem dL_pairSum_19 : decode cL_pairSum 19 = .ok (.iconst 0, 1) := by decide +kernel
theorem dL_pairSum_20 : decode cL_pairSum 20 = .ok (.ireturn, 1) := by decide +kernel
def fL_pairSum (p0 : Nat) (p1 : Int32) (p2 : Int32) (p3 : Int32) (p4 : Nat) (h : mxH) : Option (Int32 × mxH) := Option.bind (isO h p0 9) (fun u2 => mxCatch (fX9_pairSum p0 p1 p2 p3 h) (fun v4 h5 => Option.bind (stJ h5 p4 0 v4.toInt64) (fun h7 => some (0, h7))) (fun E6 h5 => (if E6 = "java/lang/IndexOutOfBoundsException" then some (1, h5) else none)))
abbrev rmL_pairSum : Room := { frames := 9, cells := 3, slots := 18, locals := 168 }
set_option maxRecDepth 20000 in
theorem tL_pairSum {l : Launch} {Z : mxZ} (hl : l.stackTraces = false) {p0 : Nat} {p1 : Int32} {p2 : Int32} {p3 : Int32} {p4 : Nat} {h : mxH} {out : Int32 × mxH} (hf : fL_pairSum p0 p1 p2 p3 p4 h = some out) : mxMetH l Z yL_pairSum cL_pairSum 6 (some .int) [(0, 12, 15, 13)] rmL_pairSum [.ref p0, .int p1, .int p2, .int p3, .ref p4] h (.inl (some (.int out.1))) out.2 := by
  refine mxMetH_of (by decide) hl (by simp [Value.category]) (Nat.le_of_ble_eq_true rfl) ?_
  intro X C E hX
  unfold fL_pairSum at hf
  refine mG_aload (pc := 0) C dL_pairSum_0 rfl ?_
  refine mG_ic (pc := 2) C dL_pairSum_2 kI0 ?_
  refine mG_aload_n (pc := 3) C dL_pairSum_3 rfl ?_
  refine mG_iload_n (pc := 4) C dL_pairSum_4 rfl ?_
  refine mG_iload_n (pc := 5) C dL_pairSum_5 rfl ?_
  refine mG_iload_n (pc := 6) C dL_pairSum_6 rfl ?_
  obtain ⟨u2, e3, hf⟩ := mx_bind hf
  rcases mx_catch hf with ⟨v4, h5, e1, hf⟩ | ⟨E6, h5, e1, hf⟩
  · refine mG_cV (pc := 7) (k' := 3) (n' := 18) 9 [.int p1, .int p2, .int p3] [.int 0, .ref p4] C hX dL_pairSum_7 lkV_L_122 rfl rfl e3 (tX9_pairSum hl e1) rfl rfl rfl rfl ?_
    refine mG_i2l (pc := 10) C dL_pairSum_10 ?_
    obtain ⟨h7, e8, hf⟩ := mx_bind hf
    refine mG_lastore (pc := 11) C dL_pairSum_11 e8 ?_
    refine mG_goto (tgt := 19) (pc := 12) C dL_pairSum_12 (by decide) ?_
    refine mG_ic (pc := 19) C dL_pairSum_19 kI0 ?_
    cases hf
    exact mG_irH (pc := 20) C E hX dL_pairSum_20 rfl
  · skip
    by_cases q9 : E6 = "java/lang/IndexOutOfBoundsException"
    · rw [if_pos q9] at hf
      subst q9
      refine mG_cVC (pc := 7) (k' := 3) (n' := 18) (i := 5) (ln := 2) 9 [.int p1, .int p2, .int p3] [.int 0, .ref p4] [] ⟨0, 12, 15, 13⟩ [] C E hX dL_pairSum_7 lkV_L_122 rfl rfl e3 (tX9_pairSum hl e1) rfl rfl rfl rfl rfl (fun z hz => absurd hz List.not_mem_nil) rfl (by decide) w616 w628 (Or.inl ⟨dL_pairSum_15, rfl⟩) rfl rfl ?_
      refine mG_ic (pc := 17) C dL_pairSum_17 kI1 ?_
      cases hf
      exact mG_irH (pc := 18) C E hX dL_pairSum_18 rfl
    · rw [if_neg q9] at hf
      cases hf
theorem dL_pairPlace_0 : decode cL_pairPlace 0 = .ok (.aload 5, 2) := by decide +kernel
theorem dL_pairPlace_2 : decode cL_pairPlace 2 = .ok (.iconst 0, 1) := by decide +kernel
theorem dL_pairPlace_3 : decode cL_pairPlace 3 = .ok (.aload_n 0, 1) := by decide +kernel
theorem dL_pairPlace_4 : decode cL_pairPlace 4 = .ok (.iload_n 1, 1) := by decide +kernel
theorem dL_pairPlace_5 : decode cL_pairPlace 5 = .ok (.iload_n 2, 1) := by decide +kernel
theorem dL_pairPlace_6 : decode cL_pairPlace 6 = .ok (.iload_n 3, 1) := by decide +kernel
theorem dL_pairPlace_7 : decode cL_pairPlace 7 = .ok (.iload 4, 2) := by decide +kernel
theorem dL_pairPlace_9 : decode cL_pairPlace 9 = .ok (.invokevirtual 125, 3) := by decide +kernel
theorem dL_pairPlace_12 : decode cL_pairPlace 12 = .ok (.i2l, 1) := by decide +kernel
theorem dL_pairPlace_13 : decode cL_pairPlace 13 = .ok (.lastore, 1) := by decide +kernel
theorem dL_pairPlace_14 : decode cL_pairPlace 14 = .ok (.goto 7, 3) := by decide +kernel
theorem dL_pairPlace_17 : decode cL_pairPlace 17 = .ok (.astore 6, 2) := by decide +kernel
theorem dL_pairPlace_19 : decode cL_pairPlace 19 = .ok (.iconst 1, 1) := by decide +kernel
theorem dL_pairPlace_20 : decode cL_pairPlace 20 = .ok (.ireturn, 1) := by decide +kernel
theorem dL_pairPlace_21 : decode cL_pairPlace 21 = .ok (.iconst 0, 1) := by decide +kernel
theorem dL_pairPlace_22 : decode cL_pairPlace 22 = .ok (.ireturn, 1) := by decide +kernel
def fL_pairPlace (p0 : Nat) (p1 : Int32) (p2 : Int32) (p3 : Int32) (p4 : Int32) (p5 : Nat) (h : mxH) : Option (Int32 × mxH) := Option.bind (isO h p0 9) (fun u2 => mxCatch (fX9_pairPlace p0 p1 p2 p3 p4 h) (fun v4 h5 => Option.bind (stJ h5 p5 0 v4.toInt64) (fun h7 => some (0, h7))) (fun E6 h5 => (if E6 = "java/lang/IndexOutOfBoundsException" then some (1, h5) else none)))
abbrev rmL_pairPlace : Room := { frames := 9, cells := 3, slots := 18, locals := 169 }
set_option maxRecDepth 20000 in
theorem tL_pairPlace {l : Launch} {Z : mxZ} (hl : l.stackTraces = false) {p0 : Nat} {p1 : Int32} {p2 : Int32} {p3 : Int32} {p4 : Int32} {p5 : Nat} {h : mxH} {out : Int32 × mxH} (hf : fL_pairPlace p0 p1 p2 p3 p4 p5 h = some out) : mxMetH l Z yL_pairPlace cL_pairPlace 7 (some .int) [(0, 14, 17, 13)] rmL_pairPlace [.ref p0, .int p1, .int p2, .int p3, .int p4, .ref p5] h (.inl (some (.int out.1))) out.2 := by
  refine mxMetH_of (by decide) hl (by simp [Value.category]) (Nat.le_of_ble_eq_true rfl) ?_
  intro X C E hX
  unfold fL_pairPlace at hf
  refine mG_aload (pc := 0) C dL_pairPlace_0 rfl ?_
  refine mG_ic (pc := 2) C dL_pairPlace_2 kI0 ?_
  refine mG_aload_n (pc := 3) C dL_pairPlace_3 rfl ?_
  refine mG_iload_n (pc := 4) C dL_pairPlace_4 rfl ?_
  refine mG_iload_n (pc := 5) C dL_pairPlace_5 rfl ?_
  refine mG_iload_n (pc := 6) C dL_pairPlace_6 rfl ?_
  refine mG_iload (pc := 7) C dL_pairPlace_7 rfl ?_
  obtain ⟨u2, e3, hf⟩ := mx_bind hf
  rcases mx_catch hf with ⟨v4, h5, e1, hf⟩ | ⟨E6, h5, e1, hf⟩
  · refine mG_cV (pc := 9) (k' := 3) (n' := 18) 9 [.int p1, .int p2, .int p3, .int p4] [.int 0, .ref p5] C hX dL_pairPlace_9 lkV_L_125 rfl rfl e3 (tX9_pairPlace hl e1) rfl rfl rfl rfl ?_
    refine mG_i2l (pc := 12) C dL_pairPlace_12 ?_
    obtain ⟨h7, e8, hf⟩ := mx_bind hf
    refine mG_lastore (pc := 13) C dL_pairPlace_13 e8 ?_
    refine mG_goto (tgt := 21) (pc := 14) C dL_pairPlace_14 (by decide) ?_
    refine mG_ic (pc := 21) C dL_pairPlace_21 kI0 ?_
    cases hf
    exact mG_irH (pc := 22) C E hX dL_pairPlace_22 rfl
  · skip
    by_cases q9 : E6 = "java/lang/IndexOutOfBoundsException"
    · rw [if_pos q9] at hf
      subst q9
      refine mG_cVC (pc := 9) (k' := 3) (n' := 18) (i := 6) (ln := 2) 9 [.int p1, .int p2, .int p3, .int p4] [.int 0, .ref p5] [] ⟨0, 14, 17, 13⟩ [] C E hX dL_pairPlace_9 lkV_L_125 rfl rfl e3 (tX9_pairPlace hl e1) rfl rfl rfl rfl rfl (fun z hz => absurd hz List.not_mem_nil) rfl (by decide) w616 w628 (Or.inl ⟨dL_pairPlace_17, rfl⟩) rfl rfl ?_
      refine mG_ic (pc := 19) C dL_pairPlace_19 kI1 ?_
      cases hf
      exact mG_irH (pc := 20) C E hX dL_pairPlace_20 rfl
    · rw [if_neg q9] at hf
      cases hf
theorem dL_common_0 : decode cL_common 0 = .ok (.aload_n 3, 1) := by decide +kernel
theorem dL_common_1 : decode cL_common 1 = .ok (.iconst 0, 1) := by decide +kernel
theorem dL_common_2 : decode cL_common 2 = .ok (.aload_n 0, 1) := by decide +kernel
theorem dL_common_3 : decode cL_common 3 = .ok (.iload_n 1, 1) := by decide +kernel
theorem dL_common_4 : decode cL_common 4 = .ok (.iload_n 2, 1) := by decide +kernel
theorem dL_common_5 : decode cL_common 5 = .ok (.invokevirtual 129, 3) := by decide +kernel
theorem dL_common_8 : decode cL_common 8 = .ok (.i2l, 1) := by decide +kernel
theorem dL_common_9 : decode cL_common 9 = .ok (.lastore, 1) := by decide +kernel
theorem dL_common_10 : decode cL_common 10 = .ok (.goto 7, 3) := by decide +kernel
theorem dL_common_13 : decode cL_common 13 = .ok (.astore 4, 2) := by decide +kernel
theorem dL_common_15 : decode cL_common 15 = .ok (.iconst 1, 1) := by decide +kernel
theorem dL_common_16 : decode cL_common 16 = .ok (.ireturn, 1) := by decide +kernel
theorem dL_common_17 : decode cL_common 17 = .ok (.iconst 0, 1) := by decide +kernel
theorem dL_common_18 : decode cL_common 18 = .ok (.ireturn, 1) := by decide +kernel
def fL_common (p0 : Nat) (p1 : Int32) (p2 : Int32) (p3 : Nat) (h : mxH) : Option (Int32 × mxH) := Option.bind (isO h p0 9) (fun u2 => mxCatch (fX9_common p0 p1 p2 h) (fun v4 h5 => Option.bind (stJ h5 p3 0 v4.toInt64) (fun h7 => some (0, h7))) (fun E6 h5 => (if E6 = "java/lang/IndexOutOfBoundsException" then some (1, h5) else none)))
abbrev rmL_common : Room := { frames := 8, cells := 2, slots := 12, locals := 143 }
set_option maxRecDepth 20000 in
theorem tL_common {l : Launch} {Z : mxZ} (hl : l.stackTraces = false) {p0 : Nat} {p1 : Int32} {p2 : Int32} {p3 : Nat} {h : mxH} {out : Int32 × mxH} (hf : fL_common p0 p1 p2 p3 h = some out) : mxMetH l Z yL_common cL_common 5 (some .int) [(0, 10, 13, 13)] rmL_common [.ref p0, .int p1, .int p2, .ref p3] h (.inl (some (.int out.1))) out.2 := by
  refine mxMetH_of (by decide) hl (by simp [Value.category]) (Nat.le_of_ble_eq_true rfl) ?_
  intro X C E hX
  unfold fL_common at hf
  refine mG_aload_n (pc := 0) C dL_common_0 rfl ?_
  refine mG_ic (pc := 1) C dL_common_1 kI0 ?_
  refine mG_aload_n (pc := 2) C dL_common_2 rfl ?_
  refine mG_iload_n (pc := 3) C dL_common_3 rfl ?_
  refine mG_iload_n (pc := 4) C dL_common_4 rfl ?_
  obtain ⟨u2, e3, hf⟩ := mx_bind hf
  rcases mx_catch hf with ⟨v4, h5, e1, hf⟩ | ⟨E6, h5, e1, hf⟩
  · refine mG_cV (pc := 5) (k' := 2) (n' := 12) 9 [.int p1, .int p2] [.int 0, .ref p3] C hX dL_common_5 lkV_L_129 rfl rfl e3 (tX9_common hl e1) rfl rfl rfl rfl ?_
    refine mG_i2l (pc := 8) C dL_common_8 ?_
    obtain ⟨h7, e8, hf⟩ := mx_bind hf
    refine mG_lastore (pc := 9) C dL_common_9 e8 ?_
    refine mG_goto (tgt := 17) (pc := 10) C dL_common_10 (by decide) ?_
    refine mG_ic (pc := 17) C dL_common_17 kI0 ?_
    cases hf
    exact mG_irH (pc := 18) C E hX dL_common_18 rfl
  · skip
    by_cases q9 : E6 = "java/lang/IndexOutOfBoundsException"
    · rw [if_pos q9] at hf
      subst q9
      refine mG_cVC (pc := 5) (k' := 2) (n' := 12) (i := 4) (ln := 2) 9 [.int p1, .int p2] [.int 0, .ref p3] [] ⟨0, 10, 13, 13⟩ [] C E hX dL_common_5 lkV_L_129 rfl rfl e3 (tX9_common hl e1) rfl rfl rfl rfl rfl (fun z hz => absurd hz List.not_mem_nil) rfl (by decide) w616 w628 (Or.inl ⟨dL_common_13, rfl⟩) rfl rfl ?_
      refine mG_ic (pc := 15) C dL_common_15 kI1 ?_
      cases hf
      exact mG_irH (pc := 16) C E hX dL_common_16 rfl
    · rw [if_neg q9] at hf
      cases hf
theorem dL_commonAt_0 : decode cL_commonAt 0 = .ok (.aload 4, 2) := by decide +kernel
theorem dL_commonAt_2 : decode cL_commonAt 2 = .ok (.iconst 0, 1) := by decide +kernel
theorem dL_commonAt_3 : decode cL_commonAt 3 = .ok (.aload_n 0, 1) := by decide +kernel
theorem dL_commonAt_4 : decode cL_commonAt 4 = .ok (.iload_n 1, 1) := by decide +kernel
theorem dL_commonAt_5 : decode cL_commonAt 5 = .ok (.iload_n 2, 1) := by decide +kernel
theorem dL_commonAt_6 : decode cL_commonAt 6 = .ok (.iload_n 3, 1) := by decide +kernel
theorem dL_commonAt_7 : decode cL_commonAt 7 = .ok (.invokevirtual 132, 3) := by decide +kernel
theorem dL_commonAt_10 : decode cL_commonAt 10 = .ok (.i2l, 1) := by decide +kernel
theorem dL_commonAt_11 : decode cL_commonAt 11 = .ok (.lastore, 1) := by decide +kernel
theorem dL_commonAt_12 : decode cL_commonAt 12 = .ok (.goto 7, 3) := by decide +kernel
theorem dL_commonAt_15 : decode cL_commonAt 15 = .ok (.astore 5, 2) := by decide +kernel
theorem dL_commonAt_17 : decode cL_commonAt 17 = .ok (.iconst 1, 1) := by decide +kernel
theorem dL_commonAt_18 : decode cL_commonAt 18 = .ok (.ireturn, 1) := by decide +kernel
theorem dL_commonAt_19 : decode cL_commonAt 19 = .ok (.iconst 0, 1) := by decide +kernel
theorem dL_commonAt_20 : decode cL_commonAt 20 = .ok (.ireturn, 1) := by decide +kernel
def fL_commonAt (p0 : Nat) (p1 : Int32) (p2 : Int32) (p3 : Int32) (p4 : Nat) (h : mxH) : Option (Int32 × mxH) := Option.bind (isO h p0 9) (fun u2 => mxCatch (fX9_commonAt p0 p1 p2 p3 h) (fun v4 h5 => Option.bind (stJ h5 p4 0 v4.toInt64) (fun h7 => some (0, h7))) (fun E6 h5 => (if E6 = "java/lang/IndexOutOfBoundsException" then some (1, h5) else none)))
abbrev rmL_commonAt : Room := { frames := 8, cells := 3, slots := 18, locals := 145 }
set_option maxRecDepth 20000 in
theorem tL_commonAt {l : Launch} {Z : mxZ} (hl : l.stackTraces = false) {p0 : Nat} {p1 : Int32} {p2 : Int32} {p3 : Int32} {p4 : Nat} {h : mxH} {out : Int32 × mxH} (hf : fL_commonAt p0 p1 p2 p3 p4 h = some out) : mxMetH l Z yL_commonAt cL_commonAt 6 (some .int) [(0, 12, 15, 13)] rmL_commonAt [.ref p0, .int p1, .int p2, .int p3, .ref p4] h (.inl (some (.int out.1))) out.2 := by
  refine mxMetH_of (by decide) hl (by simp [Value.category]) (Nat.le_of_ble_eq_true rfl) ?_
  intro X C E hX
  unfold fL_commonAt at hf
  refine mG_aload (pc := 0) C dL_commonAt_0 rfl ?_
  refine mG_ic (pc := 2) C dL_commonAt_2 kI0 ?_
  refine mG_aload_n (pc := 3) C dL_commonAt_3 rfl ?_
  refine mG_iload_n (pc := 4) C dL_commonAt_4 rfl ?_
  refine mG_iload_n (pc := 5) C dL_commonAt_5 rfl ?_
  refine mG_iload_n (pc := 6) C dL_commonAt_6 rfl ?_
  obtain ⟨u2, e3, hf⟩ := mx_bind hf
  rcases mx_catch hf with ⟨v4, h5, e1, hf⟩ | ⟨E6, h5, e1, hf⟩
  · refine mG_cV (pc := 7) (k' := 3) (n' := 18) 9 [.int p1, .int p2, .int p3] [.int 0, .ref p4] C hX dL_commonAt_7 lkV_L_132 rfl rfl e3 (tX9_commonAt hl e1) rfl rfl rfl rfl ?_
    refine mG_i2l (pc := 10) C dL_commonAt_10 ?_
    obtain ⟨h7, e8, hf⟩ := mx_bind hf
    refine mG_lastore (pc := 11) C dL_commonAt_11 e8 ?_
    refine mG_goto (tgt := 19) (pc := 12) C dL_commonAt_12 (by decide) ?_
    refine mG_ic (pc := 19) C dL_commonAt_19 kI0 ?_
    cases hf
    exact mG_irH (pc := 20) C E hX dL_commonAt_20 rfl
  · skip
    by_cases q9 : E6 = "java/lang/IndexOutOfBoundsException"
    · rw [if_pos q9] at hf
      subst q9
      refine mG_cVC (pc := 7) (k' := 3) (n' := 18) (i := 5) (ln := 2) 9 [.int p1, .int p2, .int p3] [.int 0, .ref p4] [] ⟨0, 12, 15, 13⟩ [] C E hX dL_commonAt_7 lkV_L_132 rfl rfl e3 (tX9_commonAt hl e1) rfl rfl rfl rfl rfl (fun z hz => absurd hz List.not_mem_nil) rfl (by decide) w616 w628 (Or.inl ⟨dL_commonAt_15, rfl⟩) rfl rfl ?_
      refine mG_ic (pc := 17) C dL_commonAt_17 kI1 ?_
      cases hf
      exact mG_irH (pc := 18) C E hX dL_commonAt_18 rfl
    · rw [if_neg q9] at hf
      cases hf
