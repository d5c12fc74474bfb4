/-! printed by wip/gen/emit.py: for each method its function on the mini machine, and that the machine walks as the function says -/
theorem dX5_countSure_0 : decode cX5_countSure 0 = .ok (.iconst 0, 1) := by decide +kernel
theorem dX5_countSure_1 : decode cX5_countSure 1 = .ok (.istore 4, 2) := by decide +kernel
theorem dX5_countSure_3 : decode cX5_countSure 3 = .ok (.iconst 0, 1) := by decide +kernel
theorem dX5_countSure_4 : decode cX5_countSure 4 = .ok (.istore 5, 2) := by decide +kernel
theorem dX5_countSure_6 : decode cX5_countSure 6 = .ok (.iload 5, 2) := by decide +kernel
theorem dX5_countSure_8 : decode cX5_countSure 8 = .ok (.bipush 20, 2) := by decide +kernel
theorem dX5_countSure_10 : decode cX5_countSure 10 = .ok (.if_icmp .ge 32, 3) := by decide +kernel
theorem dX5_countSure_13 : decode cX5_countSure 13 = .ok (.aload_n 3, 1) := by decide +kernel
theorem dX5_countSure_14 : decode cX5_countSure 14 = .ok (.iload 5, 2) := by decide +kernel
theorem dX5_countSure_16 : decode cX5_countSure 16 = .ok (.invokevirtual 52, 3) := by decide +kernel
theorem dX5_countSure_19 : decode cX5_countSure 19 = .ok (.iload_n 1, 1) := by decide +kernel
theorem dX5_countSure_20 : decode cX5_countSure 20 = .ok (.if_icmp .lt 16, 3) := by decide +kernel
theorem dX5_countSure_23 : decode cX5_countSure 23 = .ok (.aload_n 2, 1) := by decide +kernel
theorem dX5_countSure_24 : decode cX5_countSure 24 = .ok (.iload 5, 2) := by decide +kernel
theorem dX5_countSure_26 : decode cX5_countSure 26 = .ok (.iload_n 0, 1) := by decide +kernel
theorem dX5_countSure_27 : decode cX5_countSure 27 = .ok (.invokevirtual 57, 3) := by decide +kernel
theorem dX5_countSure_30 : decode cX5_countSure 30 = .ok (.ifCond .eq 6, 3) := by decide +kernel
theorem dX5_countSure_33 : decode cX5_countSure 33 = .ok (.iinc 4 1, 3) := by decide +kernel
theorem dX5_countSure_36 : decode cX5_countSure 36 = .ok (.iinc 5 1, 3) := by decide +kernel
theorem dX5_countSure_39 : decode cX5_countSure 39 = .ok (.goto (-33), 3) := by decide +kernel
theorem dX5_countSure_42 : decode cX5_countSure 42 = .ok (.iload 4, 2) := by decide +kernel
theorem dX5_countSure_44 : decode cX5_countSure 44 = .ok (.ireturn, 1) := by decide +kernel
def fX5_countSure (p0 : Int32) (p1 : Int32) (p2 : Nat) (p3 : Nat) (h : mxH) : Option Int32 := Option.bind (mxLoop (ρ := Int32) (fun s1 : (Int32 × Int32) => (if 20 ≤ s1.2 then some (Sum.inr s1.1) else Option.bind (isO h p3 4) (fun u10 => Option.bind (fX4_valueIn p3 s1.2 h) (fun v13 => Option.bind (α := Int32) (if v13 < p1 then some s1.1 else Option.bind (isO h p2 6) (fun u18 => Option.bind (fX6_isRead p2 s1.2 p0 h) (fun v21 => (if v21 = 0 then some s1.1 else some (s1.1 + 1))))) (fun p16' : Int32 => some (Sum.inl (p16', s1.2 + 1))))))) mxF (0, 0)) (fun r24 : Int32 => some r24)
abbrev rmX5_countSure : Room := { frames := 2, cells := 0, slots := 0, locals := 42 }
set_option maxRecDepth 20000 in
theorem tX5_countSure {l : Launch} {Z : mxZ} (hl : l.stackTraces = false) {p0 : Int32} {p1 : Int32} {p2 : Nat} {p3 : Nat} {h : mxH} {out : Int32} (hf : fX5_countSure p0 p1 p2 p3 h = some out) : mxMet l Z yX5_countSure cX5_countSure 6 (some .int) rmX5_countSure [.int p0, .int p1, .ref p2, .ref p3] h (.inl (some (.int out))) h := by
  refine mxMet_of (by decide) hl (by simp [Value.category]) (Nat.le_of_ble_eq_true rfl) ?_
  intro X C E hX hin
  unfold fX5_countSure at hf
  refine mG_ic (pc := 0) C dX5_countSure_0 kI0 ?_
  refine mG_is (ls' := [some (.int p0), some (.int p1), some (.ref p2), some (.ref p3), some (.int 0), none]) (pc := 1) C dX5_countSure_1 rfl rfl rfl ?_
  refine mG_ic (pc := 3) C dX5_countSure_3 kI0 ?_
  refine mG_is (ls' := [some (.int p0), some (.int p1), some (.ref p2), some (.ref p3), some (.int 0), some (.int 0)]) (pc := 4) C dX5_countSure_4 rfl rfl rfl ?_
  obtain ⟨r2, e3, hf⟩ := mx_bind hf
  have J4 : ∀ r24 : Int32, r24 = r2 → mG l Z X 6 0 0 42 [none, none, none, none, some (.int r24), none] [] h := by
    intro r24 q25
    subst q25
    refine mG_iload (pc := 42) C dX5_countSure_42 rfl ?_
    cases hf
    exact mG_ir (pc := 44) C E hX dX5_countSure_44 rfl
  refine mG_sub (ls' := [some (.int p0), some (.int p1), some (.ref p2), some (.ref p3), some (.int 0), some (.int 0)]) (mxLe_s (mxLe_s (mxLe_s (mxLe_s (mxLe_s (mxLe_s mxLe_z)))))) (mxLoop_ind (K := fun s1 : (Int32 × Int32) => mG l Z X 6 0 0 6 [some (.int p0), some (.int p1), some (.ref p2), some (.ref p3), some (.int s1.1), some (.int s1.2)] [] h) ?_ _ _ e3)
  intro s1 o7 e8 hK5 hx6
  refine mG_iload (pc := 6) C dX5_countSure_6 rfl ?_
  refine mG_bp (pc := 8) C dX5_countSure_8 kB20 ?_
  refine mG_icmp_ge (pc := 10) (tgt := 42) C dX5_countSure_10 (by decide) (fun q9 => ?_) (fun q9 => ?_)
  · rw [if_pos q9] at e8
    exact mG_sub (mxLe_n (mxLe_n (mxLe_n (mxLe_n (mxLe_s (mxLe_n mxLe_z)))))) (J4 _ (hx6 _ (Option.some.inj e8).symm))
  · rw [if_neg q9] at e8
    refine mG_aload_n (pc := 13) C dX5_countSure_13 rfl ?_
    refine mG_iload (pc := 14) C dX5_countSure_14 rfl ?_
    obtain ⟨u10, e11, e8⟩ := mx_bind e8
    obtain ⟨v13, e12, e8⟩ := mx_bind e8
    refine mG_cV (pc := 16) (k' := 0) (n' := 0) 4 [.int s1.2] [] C hX dX5_countSure_16 lkV_X5_52 rfl rfl e11 (tX4_valueIn hl e12) rfl rfl rfl rfl ?_
    refine mG_iload_n (pc := 19) C dX5_countSure_19 rfl ?_
    obtain ⟨p16, e17, e8⟩ := mx_bind e8
    have J15 : ∀ p16' : Int32, p16' = p16 → mG l Z X 6 0 0 36 [some (.int p0), some (.int p1), some (.ref p2), some (.ref p3), some (.int p16'), some (.int s1.2)] [] h := by
      intro p16' q23
      subst q23
      refine mG_ii (ls' := [some (.int p0), some (.int p1), some (.ref p2), some (.ref p3), some (.int p16'), some (.int (s1.2 + 1))]) (pc := 36) C dX5_countSure_36 rfl (kinc1 _) rfl rfl rfl ?_
      refine mG_goto (tgt := 6) (pc := 39) C dX5_countSure_39 (by decide) ?_
      exact mG_sub (mxLe_s (mxLe_s (mxLe_s (mxLe_s (mxLe_s (mxLe_s mxLe_z)))))) (hK5 _ (Option.some.inj e8).symm)
    refine mG_icmp_lt (pc := 20) (tgt := 36) C dX5_countSure_20 (by decide) (fun q14 => ?_) (fun q14 => ?_)
    · rw [if_pos q14] at e17
      exact mG_sub (mxLe_s (mxLe_s (mxLe_s (mxLe_s (mxLe_s (mxLe_s mxLe_z)))))) (J15 _ (Option.some.inj e17))
    · rw [if_neg q14] at e17
      refine mG_aload_n (pc := 23) C dX5_countSure_23 rfl ?_
      refine mG_iload (pc := 24) C dX5_countSure_24 rfl ?_
      refine mG_iload_n (pc := 26) C dX5_countSure_26 rfl ?_
      obtain ⟨u18, e19, e17⟩ := mx_bind e17
      obtain ⟨v21, e20, e17⟩ := mx_bind e17
      refine mG_cV (pc := 27) (k' := 0) (n' := 0) 6 [.int s1.2, .int p0] [] C hX dX5_countSure_27 lkV_X5_57 rfl rfl e19 (tX6_isRead hl e20) rfl rfl rfl rfl ?_
      refine mG_if_eq (pc := 30) (tgt := 36) C dX5_countSure_30 (by decide) (fun q22 => ?_) (fun q22 => ?_)
      · rw [if_pos q22] at e17
        exact mG_sub (mxLe_s (mxLe_s (mxLe_s (mxLe_s (mxLe_s (mxLe_s mxLe_z)))))) (J15 _ (Option.some.inj e17))
      · rw [if_neg q22] at e17
        refine mG_ii (ls' := [some (.int p0), some (.int p1), some (.ref p2), some (.ref p3), some (.int (s1.1 + 1)), some (.int s1.2)]) (pc := 33) C dX5_countSure_33 rfl (kinc1 _) rfl rfl rfl ?_
        exact mG_sub (mxLe_s (mxLe_s (mxLe_s (mxLe_s (mxLe_s (mxLe_s mxLe_z)))))) (J15 _ (Option.some.inj e17))
theorem dX5_stopUpTo_0 : decode cX5_stopUpTo 0 = .ok (.iconst 1, 1) := by decide +kernel
theorem dX5_stopUpTo_1 : decode cX5_stopUpTo 1 = .ok (.istore_n 3, 1) := by decide +kernel
theorem dX5_stopUpTo_2 : decode cX5_stopUpTo 2 = .ok (.iload_n 3, 1) := by decide +kernel
theorem dX5_stopUpTo_3 : decode cX5_stopUpTo 3 = .ok (.iload_n 1, 1) := by decide +kernel
theorem dX5_stopUpTo_4 : decode cX5_stopUpTo 4 = .ok (.if_icmp .gt 32, 3) := by decide +kernel
theorem dX5_stopUpTo_7 : decode cX5_stopUpTo 7 = .ok (.iload_n 3, 1) := by decide +kernel
theorem dX5_stopUpTo_8 : decode cX5_stopUpTo 8 = .ok (.bipush 20, 2) := by decide +kernel
theorem dX5_stopUpTo_10 : decode cX5_stopUpTo 10 = .ok (.if_icmp .gt 26, 3) := by decide +kernel
theorem dX5_stopUpTo_13 : decode cX5_stopUpTo 13 = .ok (.aload_n 0, 1) := by decide +kernel
theorem dX5_stopUpTo_14 : decode cX5_stopUpTo 14 = .ok (.getfield 9, 3) := by decide +kernel
theorem dX5_stopUpTo_17 : decode cX5_stopUpTo 17 = .ok (.iload_n 3, 1) := by decide +kernel
theorem dX5_stopUpTo_18 : decode cX5_stopUpTo 18 = .ok (.iaload, 1) := by decide +kernel
theorem dX5_stopUpTo_19 : decode cX5_stopUpTo 19 = .ok (.iconst (-1), 1) := by decide +kernel
theorem dX5_stopUpTo_20 : decode cX5_stopUpTo 20 = .ok (.if_icmp .ne 10, 3) := by decide +kernel
theorem dX5_stopUpTo_23 : decode cX5_stopUpTo 23 = .ok (.aload_n 0, 1) := by decide +kernel
theorem dX5_stopUpTo_24 : decode cX5_stopUpTo 24 = .ok (.getfield 9, 3) := by decide +kernel
theorem dX5_stopUpTo_27 : decode cX5_stopUpTo 27 = .ok (.iload_n 3, 1) := by decide +kernel
theorem dX5_stopUpTo_28 : decode cX5_stopUpTo 28 = .ok (.iload_n 2, 1) := by decide +kernel
theorem dX5_stopUpTo_29 : decode cX5_stopUpTo 29 = .ok (.iastore, 1) := by decide +kernel
theorem dX5_stopUpTo_30 : decode cX5_stopUpTo 30 = .ok (.iinc 3 1, 3) := by decide +kernel
theorem dX5_stopUpTo_33 : decode cX5_stopUpTo 33 = .ok (.goto (-31), 3) := by decide +kernel
theorem dX5_stopUpTo_36 : decode cX5_stopUpTo 36 = .ok (.return_, 1) := by decide +kernel
def fX5_stopUpTo (p0 : Nat) (p1 : Int32) (p2 : Int32) (h : mxH) : Option mxH := Option.bind (mxLoop (ρ := mxH) (fun s1 : (Int32 × mxH) => (if p1 < s1.1 then some (Sum.inr s1.2) else (if 20 < s1.1 then some (Sum.inr s1.2) else Option.bind (gR s1.2 p0 5 0) (fun r11 => Option.bind (ldI s1.2 r11 s1.1) (fun v13 => Option.bind (α := mxH) (if v13 = (-1) then Option.bind (gR s1.2 p0 5 0) (fun r19 => Option.bind (stI s1.2 r19 s1.1 p2) (fun h21 => some h21)) else some s1.2) (fun p17' : mxH => some (Sum.inl (s1.1 + 1, p17')))))))) mxF (1, h)) (fun r24 : mxH => some r24)
abbrev rmX5_stopUpTo : Room := { frames := 0, cells := 0, slots := 0, locals := 0 }
set_option maxRecDepth 20000 in
theorem tX5_stopUpTo {l : Launch} {Z : mxZ} (hl : l.stackTraces = false) {p0 : Nat} {p1 : Int32} {p2 : Int32} {h : mxH} {out : mxH} (hf : fX5_stopUpTo p0 p1 p2 h = some out) : mxMet l Z yX5_stopUpTo cX5_stopUpTo 4 (none) rmX5_stopUpTo [.ref p0, .int p1, .int p2] h (.inl none) out := by
  refine mxMet_of (by decide) hl (by simp [Value.category]) (Nat.le_of_ble_eq_true rfl) ?_
  intro X C E hX hin
  unfold fX5_stopUpTo at hf
  refine mG_ic (pc := 0) C dX5_stopUpTo_0 kI1 ?_
  refine mG_isn (ls' := [some (.ref p0), some (.int p1), some (.int p2), some (.int 1)]) (pc := 1) C dX5_stopUpTo_1 rfl rfl rfl ?_
  obtain ⟨r2, e3, hf⟩ := mx_bind hf
  have J4 : ∀ r24 : mxH, r24 = r2 → mG l Z X 4 0 0 36 [none, none, none, none] [] r24 := by
    intro r24 q25
    subst q25
    cases hf
    exact mG_vr (pc := 36) C E hX dX5_stopUpTo_36 rfl
  refine mG_sub (ls' := [some (.ref p0), some (.int p1), some (.int p2), some (.int 1)]) (mxLe_s (mxLe_s (mxLe_s (mxLe_s mxLe_z)))) (mxLoop_ind (K := fun s1 : (Int32 × mxH) => mG l Z X 4 0 0 2 [some (.ref p0), some (.int p1), some (.int p2), some (.int s1.1)] [] s1.2) ?_ _ _ e3)
  intro s1 o7 e8 hK5 hx6
  refine mG_iload_n (pc := 2) C dX5_stopUpTo_2 rfl ?_
  refine mG_iload_n (pc := 3) C dX5_stopUpTo_3 rfl ?_
  refine mG_icmp_gt (pc := 4) (tgt := 36) C dX5_stopUpTo_4 (by decide) (fun q9 => ?_) (fun q9 => ?_)
  · rw [if_pos q9] at e8
    exact mG_sub (mxLe_n (mxLe_n (mxLe_n (mxLe_n mxLe_z)))) (J4 _ (hx6 _ (Option.some.inj e8).symm))
  · rw [if_neg q9] at e8
    refine mG_iload_n (pc := 7) C dX5_stopUpTo_7 rfl ?_
    refine mG_bp (pc := 8) C dX5_stopUpTo_8 kB20 ?_
    refine mG_icmp_gt (pc := 10) (tgt := 36) C dX5_stopUpTo_10 (by decide) (fun q10 => ?_) (fun q10 => ?_)
    · rw [if_pos q10] at e8
      exact mG_sub (mxLe_n (mxLe_n (mxLe_n (mxLe_n mxLe_z)))) (J4 _ (hx6 _ (Option.some.inj e8).symm))
    · rw [if_neg q10] at e8
      refine mG_aload_n (pc := 13) C dX5_stopUpTo_13 rfl ?_
      obtain ⟨r11, e12, e8⟩ := mx_bind e8
      refine mG_getR (pc := 14) C dX5_stopUpTo_14 fl_X5_9 e12 ?_
      refine mG_iload_n (pc := 17) C dX5_stopUpTo_17 rfl ?_
      obtain ⟨v13, e14, e8⟩ := mx_bind e8
      refine mG_iaload (pc := 18) C dX5_stopUpTo_18 e14 ?_
      refine mG_ic (pc := 19) C dX5_stopUpTo_19 kIm1 ?_
      obtain ⟨p17, e18, e8⟩ := mx_bind e8
      have J16 : ∀ p17' : mxH, p17' = p17 → mG l Z X 4 0 0 30 [some (.ref p0), some (.int p1), some (.int p2), some (.int s1.1)] [] p17' := by
        intro p17' q23
        subst q23
        refine mG_ii (ls' := [some (.ref p0), some (.int p1), some (.int p2), some (.int (s1.1 + 1))]) (pc := 30) C dX5_stopUpTo_30 rfl (kinc1 _) rfl rfl rfl ?_
        refine mG_goto (tgt := 2) (pc := 33) C dX5_stopUpTo_33 (by decide) ?_
        exact mG_sub (mxLe_s (mxLe_s (mxLe_s (mxLe_s mxLe_z)))) (hK5 _ (Option.some.inj e8).symm)
      refine mG_icmp_ne (pc := 20) (tgt := 30) C dX5_stopUpTo_20 (by decide) (fun q15 => ?_) (fun q15 => ?_)
      · rw [if_neg q15] at e18
        exact mG_sub (mxLe_s (mxLe_s (mxLe_s (mxLe_s mxLe_z)))) (J16 _ (Option.some.inj e18))
      · rw [if_pos q15] at e18
        refine mG_aload_n (pc := 23) C dX5_stopUpTo_23 rfl ?_
        obtain ⟨r19, e20, e18⟩ := mx_bind e18
        refine mG_getR (pc := 24) C dX5_stopUpTo_24 fl_X5_9 e20 ?_
        refine mG_iload_n (pc := 27) C dX5_stopUpTo_27 rfl ?_
        refine mG_iload_n (pc := 28) C dX5_stopUpTo_28 rfl ?_
        obtain ⟨h21, e22, e18⟩ := mx_bind e18
        refine mG_iastore (pc := 29) C dX5_stopUpTo_29 e22 ?_
        exact mG_sub (mxLe_s (mxLe_s (mxLe_s (mxLe_s mxLe_z)))) (J16 _ (Option.some.inj e18))
theorem dX5_findStops_0 : decode cX5_findStops 0 = .ok (.aload_n 0, 1) := by decide +kernel
theorem dX5_findStops_1 : decode cX5_findStops 1 = .ok (.getfield 9, 3) := by decide +kernel
theorem dX5_findStops_4 : decode cX5_findStops 4 = .ok (.iconst (-1), 1) := by decide +kernel
theorem dX5_findStops_5 : decode cX5_findStops 5 = .ok (.invokestatic 28, 3) := by decide +kernel
theorem dX5_findStops_8 : decode cX5_findStops 8 = .ok (.aload_n 1, 1) := by decide +kernel
theorem dX5_findStops_9 : decode cX5_findStops 9 = .ok (.invokevirtual 34, 3) := by decide +kernel
theorem dX5_findStops_12 : decode cX5_findStops 12 = .ok (.istore_n 3, 1) := by decide +kernel
theorem dX5_findStops_13 : decode cX5_findStops 13 = .ok (.iconst 1, 1) := by decide +kernel
theorem dX5_findStops_14 : decode cX5_findStops 14 = .ok (.istore 4, 2) := by decide +kernel
theorem dX5_findStops_16 : decode cX5_findStops 16 = .ok (.iload 4, 2) := by decide +kernel
theorem dX5_findStops_18 : decode cX5_findStops 18 = .ok (.iload_n 3, 1) := by decide +kernel
theorem dX5_findStops_19 : decode cX5_findStops 19 = .ok (.if_icmp .ge 28, 3) := by decide +kernel
theorem dX5_findStops_22 : decode cX5_findStops 22 = .ok (.aload_n 0, 1) := by decide +kernel
theorem dX5_findStops_23 : decode cX5_findStops 23 = .ok (.iload 4, 2) := by decide +kernel
theorem dX5_findStops_25 : decode cX5_findStops 25 = .ok (.aload_n 1, 1) := by decide +kernel
theorem dX5_findStops_26 : decode cX5_findStops 26 = .ok (.iload 4, 2) := by decide +kernel
theorem dX5_findStops_28 : decode cX5_findStops 28 = .ok (.invokevirtual 40, 3) := by decide +kernel
theorem dX5_findStops_31 : decode cX5_findStops 31 = .ok (.aload_n 1, 1) := by decide +kernel
theorem dX5_findStops_32 : decode cX5_findStops 32 = .ok (.aload_n 2, 1) := by decide +kernel
theorem dX5_findStops_33 : decode cX5_findStops 33 = .ok (.invokestatic 44, 3) := by decide +kernel
theorem dX5_findStops_36 : decode cX5_findStops 36 = .ok (.iload 4, 2) := by decide +kernel
theorem dX5_findStops_38 : decode cX5_findStops 38 = .ok (.invokevirtual 48, 3) := by decide +kernel
theorem dX5_findStops_41 : decode cX5_findStops 41 = .ok (.iinc 4 1, 3) := by decide +kernel
theorem dX5_findStops_44 : decode cX5_findStops 44 = .ok (.goto (-28), 3) := by decide +kernel
theorem dX5_findStops_47 : decode cX5_findStops 47 = .ok (.aload_n 0, 1) := by decide +kernel
theorem dX5_findStops_48 : decode cX5_findStops 48 = .ok (.bipush 20, 2) := by decide +kernel
theorem dX5_findStops_50 : decode cX5_findStops 50 = .ok (.iload_n 3, 1) := by decide +kernel
theorem dX5_findStops_51 : decode cX5_findStops 51 = .ok (.invokevirtual 48, 3) := by decide +kernel
theorem dX5_findStops_54 : decode cX5_findStops 54 = .ok (.return_, 1) := by decide +kernel
def fX5_findStops (p0 : Nat) (p1 : Nat) (p2 : Nat) (h : mxH) : Option mxH := Option.bind (gR h p0 5 0) (fun r1 => Option.bind (fJ7_fill_53178 r1 (-1) h) (fun o4 => Option.bind (isO o4 p1 6) (fun u5 => Option.bind (fX6_deepest p1 o4) (fun v8 => Option.bind (mxLoop (ρ := mxH) (fun s9 : (Int32 × mxH) => (if v8 ≤ s9.1 then some (Sum.inr s9.2) else Option.bind (isO s9.2 p1 6) (fun u18 => Option.bind (fX6_limitAt p1 s9.1 s9.2) (fun o21 => Option.bind (fX5_countSure s9.1 o21.1 p1 p2 o21.2) (fun v23 => Option.bind (isO o21.2 p0 5) (fun u24 => Option.bind (fX5_stopUpTo p0 v23 s9.1 o21.2) (fun o27 => some (Sum.inl (s9.1 + 1, o27))))))))) mxF (1, o4)) (fun r28 : mxH => Option.bind (isO r28 p0 5) (fun u29 => Option.bind (fX5_stopUpTo p0 20 v8 r28) (fun o32 => some o32)))))))
abbrev rmX5_findStops : Room := { frames := 4, cells := 0, slots := 0, locals := 87 }
set_option maxRecDepth 20000 in
theorem tX5_findStops {l : Launch} {Z : mxZ} (hl : l.stackTraces = false) {p0 : Nat} {p1 : Nat} {p2 : Nat} {h : mxH} {out : mxH} (hf : fX5_findStops p0 p1 p2 h = some out) : mxMet l Z yX5_findStops cX5_findStops 5 (none) rmX5_findStops [.ref p0, .ref p1, .ref p2] h (.inl none) out := by
  refine mxMet_of (by decide) hl (by simp [Value.category]) (Nat.le_of_ble_eq_true rfl) ?_
  intro X C E hX hin
  unfold fX5_findStops at hf
  refine mG_aload_n (pc := 0) C dX5_findStops_0 rfl ?_
  obtain ⟨r1, e2, hf⟩ := mx_bind hf
  refine mG_getR (pc := 1) C dX5_findStops_1 fl_X5_9 e2 ?_
  refine mG_ic (pc := 4) C dX5_findStops_4 kIm1 ?_
  obtain ⟨o4, e3, hf⟩ := mx_bind hf
  refine mG_cS (pc := 5) (k' := 0) (n' := 0) [.ref r1, .int (-1)] [] C hX dX5_findStops_5 lkS_X5_28 rfl (tJ7_fill_53178 hl e3) rfl rfl rfl rfl ?_
  refine mG_aload_n (pc := 8) C dX5_findStops_8 rfl ?_
  obtain ⟨u5, e6, hf⟩ := mx_bind hf
  obtain ⟨v8, e7, hf⟩ := mx_bind hf
  refine mG_cV (pc := 9) (k' := 0) (n' := 0) 6 [] [] C hX dX5_findStops_9 lkV_X5_34 rfl rfl e6 (tX6_deepest hl e7) rfl rfl rfl rfl ?_
  refine mG_isn (ls' := [some (.ref p0), some (.ref p1), some (.ref p2), some (.int v8), none]) (pc := 12) C dX5_findStops_12 rfl rfl rfl ?_
  refine mG_ic (pc := 13) C dX5_findStops_13 kI1 ?_
  refine mG_is (ls' := [some (.ref p0), some (.ref p1), some (.ref p2), some (.int v8), some (.int 1)]) (pc := 14) C dX5_findStops_14 rfl rfl rfl ?_
  obtain ⟨r10, e11, hf⟩ := mx_bind hf
  have J12 : ∀ r28 : mxH, r28 = r10 → mG l Z X 5 0 0 47 [some (.ref p0), none, none, some (.int v8), none] [] r28 := by
    intro r28 q33
    subst q33
    refine mG_aload_n (pc := 47) C dX5_findStops_47 rfl ?_
    refine mG_bp (pc := 48) C dX5_findStops_48 kB20 ?_
    refine mG_iload_n (pc := 50) C dX5_findStops_50 rfl ?_
    obtain ⟨u29, e30, hf⟩ := mx_bind hf
    obtain ⟨o32, e31, hf⟩ := mx_bind hf
    refine mG_cV (pc := 51) (k' := 0) (n' := 0) 5 [.int 20, .int v8] [] C hX dX5_findStops_51 lkV_X5_48 rfl rfl e30 (tX5_stopUpTo hl e31) rfl rfl rfl rfl ?_
    cases hf
    exact mG_vr (pc := 54) C E hX dX5_findStops_54 rfl
  refine mG_sub (ls' := [some (.ref p0), some (.ref p1), some (.ref p2), some (.int v8), some (.int 1)]) (mxLe_s (mxLe_s (mxLe_s (mxLe_s (mxLe_s mxLe_z))))) (mxLoop_ind (K := fun s9 : (Int32 × mxH) => mG l Z X 5 0 0 16 [some (.ref p0), some (.ref p1), some (.ref p2), some (.int v8), some (.int s9.1)] [] s9.2) ?_ _ _ e11)
  intro s9 o15 e16 hK13 hx14
  refine mG_iload (pc := 16) C dX5_findStops_16 rfl ?_
  refine mG_iload_n (pc := 18) C dX5_findStops_18 rfl ?_
  refine mG_icmp_ge (pc := 19) (tgt := 47) C dX5_findStops_19 (by decide) (fun q17 => ?_) (fun q17 => ?_)
  · rw [if_pos q17] at e16
    exact mG_sub (mxLe_s (mxLe_n (mxLe_n (mxLe_s (mxLe_n mxLe_z))))) (J12 _ (hx14 _ (Option.some.inj e16).symm))
  · rw [if_neg q17] at e16
    refine mG_aload_n (pc := 22) C dX5_findStops_22 rfl ?_
    refine mG_iload (pc := 23) C dX5_findStops_23 rfl ?_
    refine mG_aload_n (pc := 25) C dX5_findStops_25 rfl ?_
    refine mG_iload (pc := 26) C dX5_findStops_26 rfl ?_
    obtain ⟨u18, e19, e16⟩ := mx_bind e16
    obtain ⟨o21, e20, e16⟩ := mx_bind e16
    refine mG_cV (pc := 28) (k' := 0) (n' := 0) 6 [.int s9.1] [.int s9.1, .ref p0] C hX dX5_findStops_28 lkV_X5_40 rfl rfl e19 (tX6_limitAt hl e20) rfl rfl rfl rfl ?_
    refine mG_aload_n (pc := 31) C dX5_findStops_31 rfl ?_
    refine mG_aload_n (pc := 32) C dX5_findStops_32 rfl ?_
    obtain ⟨v23, e22, e16⟩ := mx_bind e16
    refine mG_cS (pc := 33) (k' := 0) (n' := 0) [.int s9.1, .int o21.1, .ref p1, .ref p2] [.ref p0] C hX dX5_findStops_33 lkS_X5_44 rfl (tX5_countSure hl e22) rfl rfl rfl rfl ?_
    refine mG_iload (pc := 36) C dX5_findStops_36 rfl ?_
    obtain ⟨u24, e25, e16⟩ := mx_bind e16
    obtain ⟨o27, e26, e16⟩ := mx_bind e16
    refine mG_cV (pc := 38) (k' := 0) (n' := 0) 5 [.int v23, .int s9.1] [] C hX dX5_findStops_38 lkV_X5_48 rfl rfl e25 (tX5_stopUpTo hl e26) rfl rfl rfl rfl ?_
    refine mG_ii (ls' := [some (.ref p0), some (.ref p1), some (.ref p2), some (.int v8), some (.int (s9.1 + 1))]) (pc := 41) C dX5_findStops_41 rfl (kinc1 _) rfl rfl rfl ?_
    refine mG_goto (tgt := 16) (pc := 44) C dX5_findStops_44 (by decide) ?_
    exact mG_sub (mxLe_s (mxLe_s (mxLe_s (mxLe_s (mxLe_s mxLe_z))))) (hK13 _ (Option.some.inj e16).symm)
theorem dX5_isLess_0 : decode cX5_isLess 0 = .ok (.iload_n 0, 1) := by decide +kernel
theorem dX5_isLess_1 : decode cX5_isLess 1 = .ok (.iload_n 2, 1) := by decide +kernel
theorem dX5_isLess_2 : decode cX5_isLess 2 = .ok (.if_icmp .lt 13, 3) := by decide +kernel
theorem dX5_isLess_5 : decode cX5_isLess 5 = .ok (.iload_n 0, 1) := by decide +kernel
theorem dX5_isLess_6 : decode cX5_isLess 6 = .ok (.iload_n 2, 1) := by decide +kernel
theorem dX5_isLess_7 : decode cX5_isLess 7 = .ok (.if_icmp .ne 12, 3) := by decide +kernel
theorem dX5_isLess_10 : decode cX5_isLess 10 = .ok (.iload_n 1, 1) := by decide +kernel
theorem dX5_isLess_11 : decode cX5_isLess 11 = .ok (.iload_n 3, 1) := by decide +kernel
theorem dX5_isLess_12 : decode cX5_isLess 12 = .ok (.if_icmp .ge 7, 3) := by decide +kernel
theorem dX5_isLess_15 : decode cX5_isLess 15 = .ok (.iconst 1, 1) := by decide +kernel
theorem dX5_isLess_16 : decode cX5_isLess 16 = .ok (.goto 4, 3) := by decide +kernel
theorem dX5_isLess_19 : decode cX5_isLess 19 = .ok (.iconst 0, 1) := by decide +kernel
theorem dX5_isLess_20 : decode cX5_isLess 20 = .ok (.ireturn, 1) := by decide +kernel
def fX5_isLess (p0 : Int32) (p1 : Int32) (p2 : Int32) (p3 : Int32) (h : mxH) : Option Int32 := Option.bind (α := Int32) (if p0 < p2 then some 1 else (if p0 = p2 then (if p3 ≤ p1 then some 0 else some 1) else some 0)) (fun p3' : Int32 => Option.bind (mxZ1 p3') (fun v7 => some v7))
abbrev rmX5_isLess : Room := { frames := 0, cells := 0, slots := 0, locals := 0 }
set_option maxRecDepth 20000 in
theorem tX5_isLess {l : Launch} {Z : mxZ} (hl : l.stackTraces = false) {p0 : Int32} {p1 : Int32} {p2 : Int32} {p3 : Int32} {h : mxH} {out : Int32} (hf : fX5_isLess p0 p1 p2 p3 h = some out) : mxMet l Z yX5_isLess cX5_isLess 4 (some .boolean) rmX5_isLess [.int p0, .int p1, .int p2, .int p3] h (.inl (some (.int out))) h := by
  refine mxMet_of (by decide) hl (by simp [Value.category]) (Nat.le_of_ble_eq_true rfl) ?_
  intro X C E hX hin
  unfold fX5_isLess at hf
  refine mG_iload_n (pc := 0) C dX5_isLess_0 rfl ?_
  refine mG_iload_n (pc := 1) C dX5_isLess_1 rfl ?_
  obtain ⟨p3, e4, hf⟩ := mx_bind hf
  have J2 : ∀ p3' : Int32, p3' = p3 → mG l Z X 4 0 0 20 [none, none, none, none] [.int p3'] h := by
    intro p3' q9
    subst q9
    obtain ⟨v7, e8, hf⟩ := mx_bind hf
    cases hf
    exact mG_zr (pc := 20) C e8 E hX dX5_isLess_20 rfl
  refine mG_icmp_lt (pc := 2) (tgt := 15) C dX5_isLess_2 (by decide) (fun q1 => ?_) (fun q1 => ?_)
  · rw [if_pos q1] at e4
    refine mG_ic (pc := 15) C dX5_isLess_15 kI1 ?_
    refine mG_goto (tgt := 20) (pc := 16) C dX5_isLess_16 (by decide) ?_
    exact mG_sub (mxLe_n (mxLe_n (mxLe_n (mxLe_n mxLe_z)))) (J2 _ (Option.some.inj e4))
  · rw [if_neg q1] at e4
    refine mG_iload_n (pc := 5) C dX5_isLess_5 rfl ?_
    refine mG_iload_n (pc := 6) C dX5_isLess_6 rfl ?_
    refine mG_icmp_ne (pc := 7) (tgt := 19) C dX5_isLess_7 (by decide) (fun q5 => ?_) (fun q5 => ?_)
    · rw [if_neg q5] at e4
      refine mG_ic (pc := 19) C dX5_isLess_19 kI0 ?_
      exact mG_sub (mxLe_n (mxLe_n (mxLe_n (mxLe_n mxLe_z)))) (J2 _ (Option.some.inj e4))
    · rw [if_pos q5] at e4
      refine mG_iload_n (pc := 10) C dX5_isLess_10 rfl ?_
      refine mG_iload_n (pc := 11) C dX5_isLess_11 rfl ?_
      refine mG_icmp_ge (pc := 12) (tgt := 19) C dX5_isLess_12 (by decide) (fun q6 => ?_) (fun q6 => ?_)
      · rw [if_pos q6] at e4
        refine mG_ic (pc := 19) C dX5_isLess_19 kI0 ?_
        exact mG_sub (mxLe_n (mxLe_n (mxLe_n (mxLe_n mxLe_z)))) (J2 _ (Option.some.inj e4))
      · rw [if_neg q6] at e4
        refine mG_ic (pc := 15) C dX5_isLess_15 kI1 ?_
        refine mG_goto (tgt := 20) (pc := 16) C dX5_isLess_16 (by decide) ?_
        exact mG_sub (mxLe_n (mxLe_n (mxLe_n (mxLe_n mxLe_z)))) (J2 _ (Option.some.inj e4))
theorem dX5_insertBounds_0 : decode cX5_insertBounds 0 = .ok (.aload_n 0, 1) := by decide +kernel
theorem dX5_insertBounds_1 : decode cX5_insertBounds 1 = .ok (.getfield 24, 3) := by decide +kernel
theorem dX5_insertBounds_4 : decode cX5_insertBounds 4 = .ok (.invokestatic 78, 3) := by decide +kernel
theorem dX5_insertBounds_7 : decode cX5_insertBounds 7 = .ok (.ifCond .ne 4, 3) := by decide +kernel
theorem dX5_insertBounds_10 : decode cX5_insertBounds 10 = .ok (.return_, 1) := by decide +kernel
theorem dX5_insertBounds_11 : decode cX5_insertBounds 11 = .ok (.aload_n 0, 1) := by decide +kernel
theorem dX5_insertBounds_12 : decode cX5_insertBounds 12 = .ok (.getfield 24, 3) := by decide +kernel
theorem dX5_insertBounds_15 : decode cX5_insertBounds 15 = .ok (.istore_n 3, 1) := by decide +kernel
theorem dX5_insertBounds_16 : decode cX5_insertBounds 16 = .ok (.iload_n 3, 1) := by decide +kernel
theorem dX5_insertBounds_17 : decode cX5_insertBounds 17 = .ok (.ifCond .le 61, 3) := by decide +kernel
theorem dX5_insertBounds_20 : decode cX5_insertBounds 20 = .ok (.aload_n 0, 1) := by decide +kernel
theorem dX5_insertBounds_21 : decode cX5_insertBounds 21 = .ok (.getfield 18, 3) := by decide +kernel
theorem dX5_insertBounds_24 : decode cX5_insertBounds 24 = .ok (.iload_n 3, 1) := by decide +kernel
theorem dX5_insertBounds_25 : decode cX5_insertBounds 25 = .ok (.iconst 1, 1) := by decide +kernel
theorem dX5_insertBounds_26 : decode cX5_insertBounds 26 = .ok (.isub, 1) := by decide +kernel
theorem dX5_insertBounds_27 : decode cX5_insertBounds 27 = .ok (.iaload, 1) := by decide +kernel
theorem dX5_insertBounds_28 : decode cX5_insertBounds 28 = .ok (.aload_n 0, 1) := by decide +kernel
theorem dX5_insertBounds_29 : decode cX5_insertBounds 29 = .ok (.getfield 21, 3) := by decide +kernel
theorem dX5_insertBounds_32 : decode cX5_insertBounds 32 = .ok (.iload_n 3, 1) := by decide +kernel
theorem dX5_insertBounds_33 : decode cX5_insertBounds 33 = .ok (.iconst 1, 1) := by decide +kernel
theorem dX5_insertBounds_34 : decode cX5_insertBounds 34 = .ok (.isub, 1) := by decide +kernel
theorem dX5_insertBounds_35 : decode cX5_insertBounds 35 = .ok (.iaload, 1) := by decide +kernel
theorem dX5_insertBounds_36 : decode cX5_insertBounds 36 = .ok (.iload_n 1, 1) := by decide +kernel
theorem dX5_insertBounds_37 : decode cX5_insertBounds 37 = .ok (.iload_n 2, 1) := by decide +kernel
theorem dX5_insertBounds_38 : decode cX5_insertBounds 38 = .ok (.invokestatic 82, 3) := by decide +kernel
theorem dX5_insertBounds_41 : decode cX5_insertBounds 41 = .ok (.ifCond .eq 37, 3) := by decide +kernel
theorem dX5_insertBounds_44 : decode cX5_insertBounds 44 = .ok (.aload_n 0, 1) := by decide +kernel
theorem dX5_insertBounds_45 : decode cX5_insertBounds 45 = .ok (.getfield 18, 3) := by decide +kernel
theorem dX5_insertBounds_48 : decode cX5_insertBounds 48 = .ok (.iload_n 3, 1) := by decide +kernel
theorem dX5_insertBounds_49 : decode cX5_insertBounds 49 = .ok (.aload_n 0, 1) := by decide +kernel
theorem dX5_insertBounds_50 : decode cX5_insertBounds 50 = .ok (.getfield 18, 3) := by decide +kernel
theorem dX5_insertBounds_53 : decode cX5_insertBounds 53 = .ok (.iload_n 3, 1) := by decide +kernel
theorem dX5_insertBounds_54 : decode cX5_insertBounds 54 = .ok (.iconst 1, 1) := by decide +kernel
theorem dX5_insertBounds_55 : decode cX5_insertBounds 55 = .ok (.isub, 1) := by decide +kernel
theorem dX5_insertBounds_56 : decode cX5_insertBounds 56 = .ok (.iaload, 1) := by decide +kernel
theorem dX5_insertBounds_57 : decode cX5_insertBounds 57 = .ok (.iastore, 1) := by decide +kernel
theorem dX5_insertBounds_58 : decode cX5_insertBounds 58 = .ok (.aload_n 0, 1) := by decide +kernel
theorem dX5_insertBounds_59 : decode cX5_insertBounds 59 = .ok (.getfield 21, 3) := by decide +kernel
theorem dX5_insertBounds_62 : decode cX5_insertBounds 62 = .ok (.iload_n 3, 1) := by decide +kernel
theorem dX5_insertBounds_63 : decode cX5_insertBounds 63 = .ok (.aload_n 0, 1) := by decide +kernel
theorem dX5_insertBounds_64 : decode cX5_insertBounds 64 = .ok (.getfield 21, 3) := by decide +kernel
theorem dX5_insertBounds_67 : decode cX5_insertBounds 67 = .ok (.iload_n 3, 1) := by decide +kernel
theorem dX5_insertBounds_68 : decode cX5_insertBounds 68 = .ok (.iconst 1, 1) := by decide +kernel
theorem dX5_insertBounds_69 : decode cX5_insertBounds 69 = .ok (.isub, 1) := by decide +kernel
theorem dX5_insertBounds_70 : decode cX5_insertBounds 70 = .ok (.iaload, 1) := by decide +kernel
theorem dX5_insertBounds_71 : decode cX5_insertBounds 71 = .ok (.iastore, 1) := by decide +kernel
theorem dX5_insertBounds_72 : decode cX5_insertBounds 72 = .ok (.iinc 3 (-1), 3) := by decide +kernel
theorem dX5_insertBounds_75 : decode cX5_insertBounds 75 = .ok (.goto (-59), 3) := by decide +kernel
theorem dX5_insertBounds_78 : decode cX5_insertBounds 78 = .ok (.aload_n 0, 1) := by decide +kernel
theorem dX5_insertBounds_79 : decode cX5_insertBounds 79 = .ok (.getfield 18, 3) := by decide +kernel
theorem dX5_insertBounds_82 : decode cX5_insertBounds 82 = .ok (.iload_n 3, 1) := by decide +kernel
theorem dX5_insertBounds_83 : decode cX5_insertBounds 83 = .ok (.iload_n 1, 1) := by decide +kernel
theorem dX5_insertBounds_84 : decode cX5_insertBounds 84 = .ok (.iastore, 1) := by decide +kernel
theorem dX5_insertBounds_85 : decode cX5_insertBounds 85 = .ok (.aload_n 0, 1) := by decide +kernel
theorem dX5_insertBounds_86 : decode cX5_insertBounds 86 = .ok (.getfield 21, 3) := by decide +kernel
theorem dX5_insertBounds_89 : decode cX5_insertBounds 89 = .ok (.iload_n 3, 1) := by decide +kernel
theorem dX5_insertBounds_90 : decode cX5_insertBounds 90 = .ok (.iload_n 2, 1) := by decide +kernel
theorem dX5_insertBounds_91 : decode cX5_insertBounds 91 = .ok (.iastore, 1) := by decide +kernel
theorem dX5_insertBounds_92 : decode cX5_insertBounds 92 = .ok (.aload_n 0, 1) := by decide +kernel
theorem dX5_insertBounds_93 : decode cX5_insertBounds 93 = .ok (.dup, 1) := by decide +kernel
theorem dX5_insertBounds_94 : decode cX5_insertBounds 94 = .ok (.getfield 24, 3) := by decide +kernel
theorem dX5_insertBounds_97 : decode cX5_insertBounds 97 = .ok (.iconst 1, 1) := by decide +kernel
theorem dX5_insertBounds_98 : decode cX5_insertBounds 98 = .ok (.iadd, 1) := by decide +kernel
theorem dX5_insertBounds_99 : decode cX5_insertBounds 99 = .ok (.putfield 24, 3) := by decide +kernel
theorem dX5_insertBounds_102 : decode cX5_insertBounds 102 = .ok (.return_, 1) := by decide +kernel
def fX5_insertBounds (p0 : Nat) (p1 : Int32) (p2 : Int32) (h : mxH) : Option mxH := Option.bind (gI h p0 5 4) (fun v1 => Option.bind (fX9_isThing v1 h) (fun v4 => (if v4 = 0 then some h else Option.bind (gI h p0 5 4) (fun v6 => Option.bind (mxLoop (ρ := (Int32 × mxH)) (fun s8 : (Int32 × mxH) => (if s8.1 ≤ 0 then some (Sum.inr (s8.1, s8.2)) else Option.bind (gR s8.2 p0 5 2) (fun r17 => Option.bind (ldI s8.2 r17 (s8.1 - 1)) (fun v19 => Option.bind (gR s8.2 p0 5 3) (fun r21 => Option.bind (ldI s8.2 r21 (s8.1 - 1)) (fun v23 => Option.bind (fX5_isLess v19 v23 p1 p2 s8.2) (fun v26 => (if v26 = 0 then some (Sum.inr (s8.1, s8.2)) else Option.bind (gR s8.2 p0 5 2) (fun r28 => Option.bind (gR s8.2 p0 5 2) (fun r30 => Option.bind (ldI s8.2 r30 (s8.1 - 1)) (fun v32 => Option.bind (stI s8.2 r28 s8.1 v32) (fun h34 => Option.bind (gR h34 p0 5 3) (fun r36 => Option.bind (gR h34 p0 5 3) (fun r38 => Option.bind (ldI h34 r38 (s8.1 - 1)) (fun v40 => Option.bind (stI h34 r36 s8.1 v40) (fun h42 => some (Sum.inl (s8.1 - 1, h42)))))))))))))))))) mxF (v6, h)) (fun r44 : (Int32 × mxH) => Option.bind (gR r44.2 p0 5 2) (fun r45 => Option.bind (stI r44.2 r45 r44.1 p1) (fun h47 => Option.bind (gR h47 p0 5 3) (fun r49 => Option.bind (stI h47 r49 r44.1 p2) (fun h51 => Option.bind (gI h51 p0 5 4) (fun v53 => Option.bind (pI h51 p0 5 4 (v53 + 1)) (fun h55 => some h55)))))))))))
abbrev rmX5_insertBounds : Room := { frames := 1, cells := 0, slots := 0, locals := 23 }
set_option maxRecDepth 20000 in
theorem tX5_insertBounds {l : Launch} {Z : mxZ} (hl : l.stackTraces = false) {p0 : Nat} {p1 : Int32} {p2 : Int32} {h : mxH} {out : mxH} (hf : fX5_insertBounds p0 p1 p2 h = some out) : mxMet l Z yX5_insertBounds cX5_insertBounds 4 (none) rmX5_insertBounds [.ref p0, .int p1, .int p2] h (.inl none) out := by
  refine mxMet_of (by decide) hl (by simp [Value.category]) (Nat.le_of_ble_eq_true rfl) ?_
  intro X C E hX hin
  unfold fX5_insertBounds at hf
  refine mG_aload_n (pc := 0) C dX5_insertBounds_0 rfl ?_
  obtain ⟨v1, e2, hf⟩ := mx_bind hf
  refine mG_getI (pc := 1) C dX5_insertBounds_1 fl_X5_24 e2 ?_
  obtain ⟨v4, e3, hf⟩ := mx_bind hf
  refine mG_cS (pc := 4) (k' := 0) (n' := 0) [.int v1] [] C hX dX5_insertBounds_4 lkS_X5_78 rfl (tX9_isThing hl e3) rfl rfl rfl rfl ?_
  refine mG_if_ne (pc := 7) (tgt := 11) C dX5_insertBounds_7 (by decide) (fun q5 => ?_) (fun q5 => ?_)
  · rw [if_neg q5] at hf
    refine mG_aload_n (pc := 11) C dX5_insertBounds_11 rfl ?_
    obtain ⟨v6, e7, hf⟩ := mx_bind hf
    refine mG_getI (pc := 12) C dX5_insertBounds_12 fl_X5_24 e7 ?_
    refine mG_isn (ls' := [some (.ref p0), some (.int p1), some (.int p2), some (.int v6)]) (pc := 15) C dX5_insertBounds_15 rfl rfl rfl ?_
    obtain ⟨r9, e10, hf⟩ := mx_bind hf
    have J11 : ∀ r44 : (Int32 × mxH), r44 = r9 → mG l Z X 4 0 0 78 [some (.ref p0), some (.int p1), some (.int p2), some (.int r44.1)] [] r44.2 := by
      intro r44 q57
      subst q57
      refine mG_aload_n (pc := 78) C dX5_insertBounds_78 rfl ?_
      obtain ⟨r45, e46, hf⟩ := mx_bind hf
      refine mG_getR (pc := 79) C dX5_insertBounds_79 fl_X5_18 e46 ?_
      refine mG_iload_n (pc := 82) C dX5_insertBounds_82 rfl ?_
      refine mG_iload_n (pc := 83) C dX5_insertBounds_83 rfl ?_
      obtain ⟨h47, e48, hf⟩ := mx_bind hf
      refine mG_iastore (pc := 84) C dX5_insertBounds_84 e48 ?_
      refine mG_aload_n (pc := 85) C dX5_insertBounds_85 rfl ?_
      obtain ⟨r49, e50, hf⟩ := mx_bind hf
      refine mG_getR (pc := 86) C dX5_insertBounds_86 fl_X5_21 e50 ?_
      refine mG_iload_n (pc := 89) C dX5_insertBounds_89 rfl ?_
      refine mG_iload_n (pc := 90) C dX5_insertBounds_90 rfl ?_
      obtain ⟨h51, e52, hf⟩ := mx_bind hf
      refine mG_iastore (pc := 91) C dX5_insertBounds_91 e52 ?_
      refine mG_aload_n (pc := 92) C dX5_insertBounds_92 rfl ?_
      refine mG_dup (pc := 93) C dX5_insertBounds_93 rfl ?_
      obtain ⟨v53, e54, hf⟩ := mx_bind hf
      refine mG_getI (pc := 94) C dX5_insertBounds_94 fl_X5_24 e54 ?_
      refine mG_ic (pc := 97) C dX5_insertBounds_97 kI1 ?_
      refine mG_iadd (pc := 98) C dX5_insertBounds_98 ?_
      obtain ⟨h55, e56, hf⟩ := mx_bind hf
      refine mG_putI (pc := 99) C dX5_insertBounds_99 fl_X5_24 e56 ?_
      cases hf
      exact mG_vr (pc := 102) C E hX dX5_insertBounds_102 rfl
    refine mG_sub (ls' := [some (.ref p0), some (.int p1), some (.int p2), some (.int v6)]) (mxLe_s (mxLe_s (mxLe_s (mxLe_s mxLe_z)))) (mxLoop_ind (K := fun s8 : (Int32 × mxH) => mG l Z X 4 0 0 16 [some (.ref p0), some (.int p1), some (.int p2), some (.int s8.1)] [] s8.2) ?_ _ _ e10)
    intro s8 o14 e15 hK12 hx13
    refine mG_iload_n (pc := 16) C dX5_insertBounds_16 rfl ?_
    refine mG_if_le (pc := 17) (tgt := 78) C dX5_insertBounds_17 (by decide) (fun q16 => ?_) (fun q16 => ?_)
    · rw [if_pos q16] at e15
      exact mG_sub (mxLe_s (mxLe_s (mxLe_s (mxLe_s mxLe_z)))) (J11 _ (hx13 _ (Option.some.inj e15).symm))
    · rw [if_neg q16] at e15
      refine mG_aload_n (pc := 20) C dX5_insertBounds_20 rfl ?_
      obtain ⟨r17, e18, e15⟩ := mx_bind e15
      refine mG_getR (pc := 21) C dX5_insertBounds_21 fl_X5_18 e18 ?_
      refine mG_iload_n (pc := 24) C dX5_insertBounds_24 rfl ?_
      refine mG_ic (pc := 25) C dX5_insertBounds_25 kI1 ?_
      refine mG_isub (pc := 26) C dX5_insertBounds_26 ?_
      obtain ⟨v19, e20, e15⟩ := mx_bind e15
      refine mG_iaload (pc := 27) C dX5_insertBounds_27 e20 ?_
      refine mG_aload_n (pc := 28) C dX5_insertBounds_28 rfl ?_
      obtain ⟨r21, e22, e15⟩ := mx_bind e15
      refine mG_getR (pc := 29) C dX5_insertBounds_29 fl_X5_21 e22 ?_
      refine mG_iload_n (pc := 32) C dX5_insertBounds_32 rfl ?_
      refine mG_ic (pc := 33) C dX5_insertBounds_33 kI1 ?_
      refine mG_isub (pc := 34) C dX5_insertBounds_34 ?_
      obtain ⟨v23, e24, e15⟩ := mx_bind e15
      refine mG_iaload (pc := 35) C dX5_insertBounds_35 e24 ?_
      refine mG_iload_n (pc := 36) C dX5_insertBounds_36 rfl ?_
      refine mG_iload_n (pc := 37) C dX5_insertBounds_37 rfl ?_
      obtain ⟨v26, e25, e15⟩ := mx_bind e15
      refine mG_cS (pc := 38) (k' := 0) (n' := 0) [.int v19, .int v23, .int p1, .int p2] [] C hX dX5_insertBounds_38 lkS_X5_82 rfl (tX5_isLess hl e25) rfl rfl rfl rfl ?_
      refine mG_if_eq (pc := 41) (tgt := 78) C dX5_insertBounds_41 (by decide) (fun q27 => ?_) (fun q27 => ?_)
      · rw [if_pos q27] at e15
        exact mG_sub (mxLe_s (mxLe_s (mxLe_s (mxLe_s mxLe_z)))) (J11 _ (hx13 _ (Option.some.inj e15).symm))
      · rw [if_neg q27] at e15
        refine mG_aload_n (pc := 44) C dX5_insertBounds_44 rfl ?_
        obtain ⟨r28, e29, e15⟩ := mx_bind e15
        refine mG_getR (pc := 45) C dX5_insertBounds_45 fl_X5_18 e29 ?_
        refine mG_iload_n (pc := 48) C dX5_insertBounds_48 rfl ?_
        refine mG_aload_n (pc := 49) C dX5_insertBounds_49 rfl ?_
        obtain ⟨r30, e31, e15⟩ := mx_bind e15
        refine mG_getR (pc := 50) C dX5_insertBounds_50 fl_X5_18 e31 ?_
        refine mG_iload_n (pc := 53) C dX5_insertBounds_53 rfl ?_
        refine mG_ic (pc := 54) C dX5_insertBounds_54 kI1 ?_
        refine mG_isub (pc := 55) C dX5_insertBounds_55 ?_
        obtain ⟨v32, e33, e15⟩ := mx_bind e15
        refine mG_iaload (pc := 56) C dX5_insertBounds_56 e33 ?_
        obtain ⟨h34, e35, e15⟩ := mx_bind e15
        refine mG_iastore (pc := 57) C dX5_insertBounds_57 e35 ?_
        refine mG_aload_n (pc := 58) C dX5_insertBounds_58 rfl ?_
        obtain ⟨r36, e37, e15⟩ := mx_bind e15
        refine mG_getR (pc := 59) C dX5_insertBounds_59 fl_X5_21 e37 ?_
        refine mG_iload_n (pc := 62) C dX5_insertBounds_62 rfl ?_
        refine mG_aload_n (pc := 63) C dX5_insertBounds_63 rfl ?_
        obtain ⟨r38, e39, e15⟩ := mx_bind e15
        refine mG_getR (pc := 64) C dX5_insertBounds_64 fl_X5_21 e39 ?_
        refine mG_iload_n (pc := 67) C dX5_insertBounds_67 rfl ?_
        refine mG_ic (pc := 68) C dX5_insertBounds_68 kI1 ?_
        refine mG_isub (pc := 69) C dX5_insertBounds_69 ?_
        obtain ⟨v40, e41, e15⟩ := mx_bind e15
        refine mG_iaload (pc := 70) C dX5_insertBounds_70 e41 ?_
        obtain ⟨h42, e43, e15⟩ := mx_bind e15
        refine mG_iastore (pc := 71) C dX5_insertBounds_71 e43 ?_
        refine mG_ii (ls' := [some (.ref p0), some (.int p1), some (.int p2), some (.int (s8.1 - 1))]) (pc := 72) C dX5_insertBounds_72 rfl (kincm1 _) rfl rfl rfl ?_
        refine mG_goto (tgt := 16) (pc := 75) C dX5_insertBounds_75 (by decide) ?_
        exact mG_sub (mxLe_s (mxLe_s (mxLe_s (mxLe_s mxLe_z)))) (hK12 _ (Option.some.inj e15).symm)
  · rw [if_pos q5] at hf
    cases hf
    exact mG_vr (pc := 10) C E hX dX5_insertBounds_10 rfl
theorem dX5_gatherBounds_0 : decode cX5_gatherBounds 0 = .ok (.aload_n 0, 1) := by decide +kernel
theorem dX5_gatherBounds_1 : decode cX5_gatherBounds 1 = .ok (.iconst 0, 1) := by decide +kernel
theorem dX5_gatherBounds_2 : decode cX5_gatherBounds 2 = .ok (.putfield 24, 3) := by decide +kernel
theorem dX5_gatherBounds_5 : decode cX5_gatherBounds 5 = .ok (.iconst 0, 1) := by decide +kernel
theorem dX5_gatherBounds_6 : decode cX5_gatherBounds 6 = .ok (.istore_n 3, 1) := by decide +kernel
theorem dX5_gatherBounds_7 : decode cX5_gatherBounds 7 = .ok (.iload_n 3, 1) := by decide +kernel
theorem dX5_gatherBounds_8 : decode cX5_gatherBounds 8 = .ok (.bipush 20, 2) := by decide +kernel
theorem dX5_gatherBounds_10 : decode cX5_gatherBounds 10 = .ok (.if_icmp .ge 34, 3) := by decide +kernel
theorem dX5_gatherBounds_13 : decode cX5_gatherBounds 13 = .ok (.aload_n 2, 1) := by decide +kernel
theorem dX5_gatherBounds_14 : decode cX5_gatherBounds 14 = .ok (.iload_n 3, 1) := by decide +kernel
theorem dX5_gatherBounds_15 : decode cX5_gatherBounds 15 = .ok (.iload_n 1, 1) := by decide +kernel
theorem dX5_gatherBounds_16 : decode cX5_gatherBounds 16 = .ok (.invokevirtual 57, 3) := by decide +kernel
theorem dX5_gatherBounds_19 : decode cX5_gatherBounds 19 = .ok (.ifCond .eq 19, 3) := by decide +kernel
theorem dX5_gatherBounds_22 : decode cX5_gatherBounds 22 = .ok (.aload_n 0, 1) := by decide +kernel
theorem dX5_gatherBounds_23 : decode cX5_gatherBounds 23 = .ok (.aload_n 2, 1) := by decide +kernel
theorem dX5_gatherBounds_24 : decode cX5_gatherBounds 24 = .ok (.iload_n 3, 1) := by decide +kernel
theorem dX5_gatherBounds_25 : decode cX5_gatherBounds 25 = .ok (.iload_n 1, 1) := by decide +kernel
theorem dX5_gatherBounds_26 : decode cX5_gatherBounds 26 = .ok (.invokevirtual 68, 3) := by decide +kernel
theorem dX5_gatherBounds_29 : decode cX5_gatherBounds 29 = .ok (.aload_n 2, 1) := by decide +kernel
theorem dX5_gatherBounds_30 : decode cX5_gatherBounds 30 = .ok (.iload_n 3, 1) := by decide +kernel
theorem dX5_gatherBounds_31 : decode cX5_gatherBounds 31 = .ok (.iload_n 1, 1) := by decide +kernel
theorem dX5_gatherBounds_32 : decode cX5_gatherBounds 32 = .ok (.invokevirtual 72, 3) := by decide +kernel
theorem dX5_gatherBounds_35 : decode cX5_gatherBounds 35 = .ok (.invokevirtual 75, 3) := by decide +kernel
theorem dX5_gatherBounds_38 : decode cX5_gatherBounds 38 = .ok (.iinc 3 1, 3) := by decide +kernel
theorem dX5_gatherBounds_41 : decode cX5_gatherBounds 41 = .ok (.goto (-34), 3) := by decide +kernel
theorem dX5_gatherBounds_44 : decode cX5_gatherBounds 44 = .ok (.return_, 1) := by decide +kernel
def fX5_gatherBounds (p0 : Nat) (p1 : Int32) (p2 : Nat) (h : mxH) : Option mxH := Option.bind (pI h p0 5 4 0) (fun h1 => Option.bind (mxLoop (ρ := mxH) (fun s3 : (Int32 × mxH) => (if 20 ≤ s3.1 then some (Sum.inr s3.2) else Option.bind (isO s3.2 p2 6) (fun u12 => Option.bind (fX6_isRead p2 s3.1 p1 s3.2) (fun v15 => Option.bind (α := mxH) (if v15 = 0 then some s3.2 else Option.bind (isO s3.2 p2 6) (fun u20 => Option.bind (fX6_lowerOf p2 s3.1 p1 s3.2) (fun o23 => Option.bind (isO o23.2 p2 6) (fun u24 => Option.bind (fX6_upperOf p2 s3.1 p1 o23.2) (fun o27 => Option.bind (isO o27.2 p0 5) (fun u28 => Option.bind (fX5_insertBounds p0 o23.1 o27.1 o27.2) (fun o31 => some o31))))))) (fun p18' : mxH => some (Sum.inl (s3.1 + 1, p18'))))))) mxF (0, h1)) (fun r33 : mxH => some r33))
abbrev rmX5_gatherBounds : Room := { frames := 4, cells := 0, slots := 0, locals := 89 }
set_option maxRecDepth 20000 in
theorem tX5_gatherBounds {l : Launch} {Z : mxZ} (hl : l.stackTraces = false) {p0 : Nat} {p1 : Int32} {p2 : Nat} {h : mxH} {out : mxH} (hf : fX5_gatherBounds p0 p1 p2 h = some out) : mxMet l Z yX5_gatherBounds cX5_gatherBounds 4 (none) rmX5_gatherBounds [.ref p0, .int p1, .ref p2] h (.inl none) out := by
  refine mxMet_of (by decide) hl (by simp [Value.category]) (Nat.le_of_ble_eq_true rfl) ?_
  intro X C E hX hin
  unfold fX5_gatherBounds at hf
  refine mG_aload_n (pc := 0) C dX5_gatherBounds_0 rfl ?_
  refine mG_ic (pc := 1) C dX5_gatherBounds_1 kI0 ?_
  obtain ⟨h1, e2, hf⟩ := mx_bind hf
  refine mG_putI (pc := 2) C dX5_gatherBounds_2 fl_X5_24 e2 ?_
  refine mG_ic (pc := 5) C dX5_gatherBounds_5 kI0 ?_
  refine mG_isn (ls' := [some (.ref p0), some (.int p1), some (.ref p2), some (.int 0)]) (pc := 6) C dX5_gatherBounds_6 rfl rfl rfl ?_
  obtain ⟨r4, e5, hf⟩ := mx_bind hf
  have J6 : ∀ r33 : mxH, r33 = r4 → mG l Z X 4 0 0 44 [none, none, none, none] [] r33 := by
    intro r33 q34
    subst q34
    cases hf
    exact mG_vr (pc := 44) C E hX dX5_gatherBounds_44 rfl
  refine mG_sub (ls' := [some (.ref p0), some (.int p1), some (.ref p2), some (.int 0)]) (mxLe_s (mxLe_s (mxLe_s (mxLe_s mxLe_z)))) (mxLoop_ind (K := fun s3 : (Int32 × mxH) => mG l Z X 4 0 0 7 [some (.ref p0), some (.int p1), some (.ref p2), some (.int s3.1)] [] s3.2) ?_ _ _ e5)
  intro s3 o9 e10 hK7 hx8
  refine mG_iload_n (pc := 7) C dX5_gatherBounds_7 rfl ?_
  refine mG_bp (pc := 8) C dX5_gatherBounds_8 kB20 ?_
  refine mG_icmp_ge (pc := 10) (tgt := 44) C dX5_gatherBounds_10 (by decide) (fun q11 => ?_) (fun q11 => ?_)
  · rw [if_pos q11] at e10
    exact mG_sub (mxLe_n (mxLe_n (mxLe_n (mxLe_n mxLe_z)))) (J6 _ (hx8 _ (Option.some.inj e10).symm))
  · rw [if_neg q11] at e10
    refine mG_aload_n (pc := 13) C dX5_gatherBounds_13 rfl ?_
    refine mG_iload_n (pc := 14) C dX5_gatherBounds_14 rfl ?_
    refine mG_iload_n (pc := 15) C dX5_gatherBounds_15 rfl ?_
    obtain ⟨u12, e13, e10⟩ := mx_bind e10
    obtain ⟨v15, e14, e10⟩ := mx_bind e10
    refine mG_cV (pc := 16) (k' := 0) (n' := 0) 6 [.int s3.1, .int p1] [] C hX dX5_gatherBounds_16 lkV_X5_57 rfl rfl e13 (tX6_isRead hl e14) rfl rfl rfl rfl ?_
    obtain ⟨p18, e19, e10⟩ := mx_bind e10
    have J17 : ∀ p18' : mxH, p18' = p18 → mG l Z X 4 0 0 38 [some (.ref p0), some (.int p1), some (.ref p2), some (.int s3.1)] [] p18' := by
      intro p18' q32
      subst q32
      refine mG_ii (ls' := [some (.ref p0), some (.int p1), some (.ref p2), some (.int (s3.1 + 1))]) (pc := 38) C dX5_gatherBounds_38 rfl (kinc1 _) rfl rfl rfl ?_
      refine mG_goto (tgt := 7) (pc := 41) C dX5_gatherBounds_41 (by decide) ?_
      exact mG_sub (mxLe_s (mxLe_s (mxLe_s (mxLe_s mxLe_z)))) (hK7 _ (Option.some.inj e10).symm)
    refine mG_if_eq (pc := 19) (tgt := 38) C dX5_gatherBounds_19 (by decide) (fun q16 => ?_) (fun q16 => ?_)
    · rw [if_pos q16] at e19
      exact mG_sub (mxLe_s (mxLe_s (mxLe_s (mxLe_s mxLe_z)))) (J17 _ (Option.some.inj e19))
    · rw [if_neg q16] at e19
      refine mG_aload_n (pc := 22) C dX5_gatherBounds_22 rfl ?_
      refine mG_aload_n (pc := 23) C dX5_gatherBounds_23 rfl ?_
      refine mG_iload_n (pc := 24) C dX5_gatherBounds_24 rfl ?_
      refine mG_iload_n (pc := 25) C dX5_gatherBounds_25 rfl ?_
      obtain ⟨u20, e21, e19⟩ := mx_bind e19
      obtain ⟨o23, e22, e19⟩ := mx_bind e19
      refine mG_cV (pc := 26) (k' := 0) (n' := 0) 6 [.int s3.1, .int p1] [.ref p0] C hX dX5_gatherBounds_26 lkV_X5_68 rfl rfl e21 (tX6_lowerOf hl e22) rfl rfl rfl rfl ?_
      refine mG_aload_n (pc := 29) C dX5_gatherBounds_29 rfl ?_
      refine mG_iload_n (pc := 30) C dX5_gatherBounds_30 rfl ?_
      refine mG_iload_n (pc := 31) C dX5_gatherBounds_31 rfl ?_
      obtain ⟨u24, e25, e19⟩ := mx_bind e19
      obtain ⟨o27, e26, e19⟩ := mx_bind e19
      refine mG_cV (pc := 32) (k' := 0) (n' := 0) 6 [.int s3.1, .int p1] [.int o23.1, .ref p0] C hX dX5_gatherBounds_32 lkV_X5_72 rfl rfl e25 (tX6_upperOf hl e26) rfl rfl rfl rfl ?_
      obtain ⟨u28, e29, e19⟩ := mx_bind e19
      obtain ⟨o31, e30, e19⟩ := mx_bind e19
      refine mG_cV (pc := 35) (k' := 0) (n' := 0) 5 [.int o23.1, .int o27.1] [] C hX dX5_gatherBounds_35 lkV_X5_75 rfl rfl e29 (tX5_insertBounds hl e30) rfl rfl rfl rfl ?_
      exact mG_sub (mxLe_s (mxLe_s (mxLe_s (mxLe_s mxLe_z)))) (J17 _ (Option.some.inj e19))
theorem dX5_stopSettled_0 : decode cX5_stopSettled 0 = .ok (.iload_n 2, 1) := by decide +kernel
theorem dX5_stopSettled_1 : decode cX5_stopSettled 1 = .ok (.istore_n 3, 1) := by decide +kernel
theorem dX5_stopSettled_2 : decode cX5_stopSettled 2 = .ok (.aload_n 0, 1) := by decide +kernel
theorem dX5_stopSettled_3 : decode cX5_stopSettled 3 = .ok (.getfield 24, 3) := by decide +kernel
theorem dX5_stopSettled_6 : decode cX5_stopSettled 6 = .ok (.bipush 20, 2) := by decide +kernel
theorem dX5_stopSettled_8 : decode cX5_stopSettled 8 = .ok (.invokestatic 86, 3) := by decide +kernel
theorem dX5_stopSettled_11 : decode cX5_stopSettled 11 = .ok (.istore 4, 2) := by decide +kernel
theorem dX5_stopSettled_13 : decode cX5_stopSettled 13 = .ok (.iload 4, 2) := by decide +kernel
theorem dX5_stopSettled_15 : decode cX5_stopSettled 15 = .ok (.iconst 1, 1) := by decide +kernel
theorem dX5_stopSettled_16 : decode cX5_stopSettled 16 = .ok (.if_icmp .lt 55, 3) := by decide +kernel
theorem dX5_stopSettled_19 : decode cX5_stopSettled 19 = .ok (.aload_n 0, 1) := by decide +kernel
theorem dX5_stopSettled_20 : decode cX5_stopSettled 20 = .ok (.getfield 15, 3) := by decide +kernel
theorem dX5_stopSettled_23 : decode cX5_stopSettled 23 = .ok (.iload 4, 2) := by decide +kernel
theorem dX5_stopSettled_25 : decode cX5_stopSettled 25 = .ok (.iaload, 1) := by decide +kernel
theorem dX5_stopSettled_26 : decode cX5_stopSettled 26 = .ok (.iconst (-1), 1) := by decide +kernel
theorem dX5_stopSettled_27 : decode cX5_stopSettled 27 = .ok (.if_icmp .ne 24, 3) := by decide +kernel
theorem dX5_stopSettled_30 : decode cX5_stopSettled 30 = .ok (.aload_n 0, 1) := by decide +kernel
theorem dX5_stopSettled_31 : decode cX5_stopSettled 31 = .ok (.getfield 18, 3) := by decide +kernel
theorem dX5_stopSettled_34 : decode cX5_stopSettled 34 = .ok (.iload 4, 2) := by decide +kernel
theorem dX5_stopSettled_36 : decode cX5_stopSettled 36 = .ok (.iconst 1, 1) := by decide +kernel
theorem dX5_stopSettled_37 : decode cX5_stopSettled 37 = .ok (.isub, 1) := by decide +kernel
theorem dX5_stopSettled_38 : decode cX5_stopSettled 38 = .ok (.iaload, 1) := by decide +kernel
theorem dX5_stopSettled_39 : decode cX5_stopSettled 39 = .ok (.iload_n 3, 1) := by decide +kernel
theorem dX5_stopSettled_40 : decode cX5_stopSettled 40 = .ok (.if_icmp .lt 11, 3) := by decide +kernel
theorem dX5_stopSettled_43 : decode cX5_stopSettled 43 = .ok (.aload_n 0, 1) := by decide +kernel
theorem dX5_stopSettled_44 : decode cX5_stopSettled 44 = .ok (.getfield 15, 3) := by decide +kernel
theorem dX5_stopSettled_47 : decode cX5_stopSettled 47 = .ok (.iload 4, 2) := by decide +kernel
theorem dX5_stopSettled_49 : decode cX5_stopSettled 49 = .ok (.iload_n 1, 1) := by decide +kernel
theorem dX5_stopSettled_50 : decode cX5_stopSettled 50 = .ok (.iastore, 1) := by decide +kernel
theorem dX5_stopSettled_51 : decode cX5_stopSettled 51 = .ok (.iload_n 3, 1) := by decide +kernel
theorem dX5_stopSettled_52 : decode cX5_stopSettled 52 = .ok (.aload_n 0, 1) := by decide +kernel
theorem dX5_stopSettled_53 : decode cX5_stopSettled 53 = .ok (.getfield 21, 3) := by decide +kernel
theorem dX5_stopSettled_56 : decode cX5_stopSettled 56 = .ok (.iload 4, 2) := by decide +kernel
theorem dX5_stopSettled_58 : decode cX5_stopSettled 58 = .ok (.iconst 1, 1) := by decide +kernel
theorem dX5_stopSettled_59 : decode cX5_stopSettled 59 = .ok (.isub, 1) := by decide +kernel
theorem dX5_stopSettled_60 : decode cX5_stopSettled 60 = .ok (.iaload, 1) := by decide +kernel
theorem dX5_stopSettled_61 : decode cX5_stopSettled 61 = .ok (.invokestatic 91, 3) := by decide +kernel
theorem dX5_stopSettled_64 : decode cX5_stopSettled 64 = .ok (.istore_n 3, 1) := by decide +kernel
theorem dX5_stopSettled_65 : decode cX5_stopSettled 65 = .ok (.iinc 4 (-1), 3) := by decide +kernel
theorem dX5_stopSettled_68 : decode cX5_stopSettled 68 = .ok (.goto (-55), 3) := by decide +kernel
theorem dX5_stopSettled_71 : decode cX5_stopSettled 71 = .ok (.return_, 1) := by decide +kernel
def fX5_stopSettled (p0 : Nat) (p1 : Int32) (p2 : Int32) (h : mxH) : Option mxH := Option.bind (gI h p0 5 4) (fun v1 => Option.bind (mxLoop (ρ := mxH) (fun s3 : (Int32 × Int32 × mxH) => (if s3.2.1 < 1 then some (Sum.inr s3.2.2) else Option.bind (gR s3.2.2 p0 5 1) (fun r12 => Option.bind (ldI s3.2.2 r12 s3.2.1) (fun v14 => Option.bind (α := mxH) (if v14 = (-1) then Option.bind (gR s3.2.2 p0 5 2) (fun r20 => Option.bind (ldI s3.2.2 r20 (s3.2.1 - 1)) (fun v22 => (if v22 < s3.1 then some s3.2.2 else Option.bind (gR s3.2.2 p0 5 1) (fun r25 => Option.bind (stI s3.2.2 r25 s3.2.1 p1) (fun h27 => some h27))))) else some s3.2.2) (fun p18' : mxH => Option.bind (gR p18' p0 5 3) (fun r29 => Option.bind (ldI p18' r29 (s3.2.1 - 1)) (fun v31 => some (Sum.inl (mxMax s3.1 v31, s3.2.1 - 1, p18'))))))))) mxF (p2, mxMin v1 20, h)) (fun r34 : mxH => some r34))
abbrev rmX5_stopSettled : Room := { frames := 1, cells := 0, slots := 0, locals := 21 }
set_option maxRecDepth 20000 in
theorem tX5_stopSettled {l : Launch} {Z : mxZ} (hl : l.stackTraces = false) {p0 : Nat} {p1 : Int32} {p2 : Int32} {h : mxH} {out : mxH} (hf : fX5_stopSettled p0 p1 p2 h = some out) : mxMet l Z yX5_stopSettled cX5_stopSettled 5 (none) rmX5_stopSettled [.ref p0, .int p1, .int p2] h (.inl none) out := by
  refine mxMet_of (by decide) hl (by simp [Value.category]) (Nat.le_of_ble_eq_true rfl) ?_
  intro X C E hX hin
  unfold fX5_stopSettled at hf
  refine mG_iload_n (pc := 0) C dX5_stopSettled_0 rfl ?_
  refine mG_isn (ls' := [some (.ref p0), some (.int p1), some (.int p2), some (.int p2), none]) (pc := 1) C dX5_stopSettled_1 rfl rfl rfl ?_
  refine mG_aload_n (pc := 2) C dX5_stopSettled_2 rfl ?_
  obtain ⟨v1, e2, hf⟩ := mx_bind hf
  refine mG_getI (pc := 3) C dX5_stopSettled_3 fl_X5_24 e2 ?_
  refine mG_bp (pc := 6) C dX5_stopSettled_6 kB20 ?_
  refine mG_mn (pc := 8) C hX dX5_stopSettled_8 w144 wmin rfl rfl ?_
  refine mG_is (ls' := [some (.ref p0), some (.int p1), some (.int p2), some (.int p2), some (.int (mxMin v1 20))]) (pc := 11) C dX5_stopSettled_11 rfl rfl rfl ?_
  obtain ⟨r4, e5, hf⟩ := mx_bind hf
  have J6 : ∀ r34 : mxH, r34 = r4 → mG l Z X 5 0 0 71 [none, none, none, none, none] [] r34 := by
    intro r34 q35
    subst q35
    cases hf
    exact mG_vr (pc := 71) C E hX dX5_stopSettled_71 rfl
  refine mG_sub (ls' := [some (.ref p0), some (.int p1), none, some (.int p2), some (.int (mxMin v1 20))]) (mxLe_s (mxLe_s (mxLe_n (mxLe_s (mxLe_s mxLe_z))))) (mxLoop_ind (K := fun s3 : (Int32 × Int32 × mxH) => mG l Z X 5 0 0 13 [some (.ref p0), some (.int p1), none, some (.int s3.1), some (.int s3.2.1)] [] s3.2.2) ?_ _ _ e5)
  intro s3 o9 e10 hK7 hx8
  refine mG_iload (pc := 13) C dX5_stopSettled_13 rfl ?_
  refine mG_ic (pc := 15) C dX5_stopSettled_15 kI1 ?_
  refine mG_icmp_lt (pc := 16) (tgt := 71) C dX5_stopSettled_16 (by decide) (fun q11 => ?_) (fun q11 => ?_)
  · rw [if_pos q11] at e10
    exact mG_sub (mxLe_n (mxLe_n (mxLe_n (mxLe_n (mxLe_n mxLe_z))))) (J6 _ (hx8 _ (Option.some.inj e10).symm))
  · rw [if_neg q11] at e10
    refine mG_aload_n (pc := 19) C dX5_stopSettled_19 rfl ?_
    obtain ⟨r12, e13, e10⟩ := mx_bind e10
    refine mG_getR (pc := 20) C dX5_stopSettled_20 fl_X5_15 e13 ?_
    refine mG_iload (pc := 23) C dX5_stopSettled_23 rfl ?_
    obtain ⟨v14, e15, e10⟩ := mx_bind e10
    refine mG_iaload (pc := 25) C dX5_stopSettled_25 e15 ?_
    refine mG_ic (pc := 26) C dX5_stopSettled_26 kIm1 ?_
    obtain ⟨p18, e19, e10⟩ := mx_bind e10
    have J17 : ∀ p18' : mxH, p18' = p18 → mG l Z X 5 0 0 51 [some (.ref p0), some (.int p1), none, some (.int s3.1), some (.int s3.2.1)] [] p18' := by
      intro p18' q33
      subst q33
      refine mG_iload_n (pc := 51) C dX5_stopSettled_51 rfl ?_
      refine mG_aload_n (pc := 52) C dX5_stopSettled_52 rfl ?_
      obtain ⟨r29, e30, e10⟩ := mx_bind e10
      refine mG_getR (pc := 53) C dX5_stopSettled_53 fl_X5_21 e30 ?_
      refine mG_iload (pc := 56) C dX5_stopSettled_56 rfl ?_
      refine mG_ic (pc := 58) C dX5_stopSettled_58 kI1 ?_
      refine mG_isub (pc := 59) C dX5_stopSettled_59 ?_
      obtain ⟨v31, e32, e10⟩ := mx_bind e10
      refine mG_iaload (pc := 60) C dX5_stopSettled_60 e32 ?_
      refine mG_mx (pc := 61) C hX dX5_stopSettled_61 w147 wmax rfl rfl ?_
      refine mG_isn (ls' := [some (.ref p0), some (.int p1), none, some (.int (mxMax s3.1 v31)), some (.int s3.2.1)]) (pc := 64) C dX5_stopSettled_64 rfl rfl rfl ?_
      refine mG_ii (ls' := [some (.ref p0), some (.int p1), none, some (.int (mxMax s3.1 v31)), some (.int (s3.2.1 - 1))]) (pc := 65) C dX5_stopSettled_65 rfl (kincm1 _) rfl rfl rfl ?_
      refine mG_goto (tgt := 13) (pc := 68) C dX5_stopSettled_68 (by decide) ?_
      exact mG_sub (mxLe_s (mxLe_s (mxLe_n (mxLe_s (mxLe_s mxLe_z))))) (hK7 _ (Option.some.inj e10).symm)
    refine mG_icmp_ne (pc := 27) (tgt := 51) C dX5_stopSettled_27 (by decide) (fun q16 => ?_) (fun q16 => ?_)
    · rw [if_neg q16] at e19
      exact mG_sub (mxLe_s (mxLe_s (mxLe_n (mxLe_s (mxLe_s mxLe_z))))) (J17 _ (Option.some.inj e19))
    · rw [if_pos q16] at e19
      refine mG_aload_n (pc := 30) C dX5_stopSettled_30 rfl ?_
      obtain ⟨r20, e21, e19⟩ := mx_bind e19
      refine mG_getR (pc := 31) C dX5_stopSettled_31 fl_X5_18 e21 ?_
      refine mG_iload (pc := 34) C dX5_stopSettled_34 rfl ?_
      refine mG_ic (pc := 36) C dX5_stopSettled_36 kI1 ?_
      refine mG_isub (pc := 37) C dX5_stopSettled_37 ?_
      obtain ⟨v22, e23, e19⟩ := mx_bind e19
      refine mG_iaload (pc := 38) C dX5_stopSettled_38 e23 ?_
      refine mG_iload_n (pc := 39) C dX5_stopSettled_39 rfl ?_
      refine mG_icmp_lt (pc := 40) (tgt := 51) C dX5_stopSettled_40 (by decide) (fun q24 => ?_) (fun q24 => ?_)
      · rw [if_pos q24] at e19
        exact mG_sub (mxLe_s (mxLe_s (mxLe_n (mxLe_s (mxLe_s mxLe_z))))) (J17 _ (Option.some.inj e19))
      · rw [if_neg q24] at e19
        refine mG_aload_n (pc := 43) C dX5_stopSettled_43 rfl ?_
        obtain ⟨r25, e26, e19⟩ := mx_bind e19
        refine mG_getR (pc := 44) C dX5_stopSettled_44 fl_X5_15 e26 ?_
        refine mG_iload (pc := 47) C dX5_stopSettled_47 rfl ?_
        refine mG_iload_n (pc := 49) C dX5_stopSettled_49 rfl ?_
        obtain ⟨h27, e28, e19⟩ := mx_bind e19
        refine mG_iastore (pc := 50) C dX5_stopSettled_50 e28 ?_
        exact mG_sub (mxLe_s (mxLe_s (mxLe_n (mxLe_s (mxLe_s mxLe_z))))) (J17 _ (Option.some.inj e19))
theorem dX5_findPlainStops_0 : decode cX5_findPlainStops 0 = .ok (.aload_n 0, 1) := by decide +kernel
theorem dX5_findPlainStops_1 : decode cX5_findPlainStops 1 = .ok (.getfield 15, 3) := by decide +kernel
theorem dX5_findPlainStops_4 : decode cX5_findPlainStops 4 = .ok (.iconst (-1), 1) := by decide +kernel
theorem dX5_findPlainStops_5 : decode cX5_findPlainStops 5 = .ok (.invokestatic 28, 3) := by decide +kernel
theorem dX5_findPlainStops_8 : decode cX5_findPlainStops 8 = .ok (.aload_n 1, 1) := by decide +kernel
theorem dX5_findPlainStops_9 : decode cX5_findPlainStops 9 = .ok (.invokevirtual 34, 3) := by decide +kernel
theorem dX5_findPlainStops_12 : decode cX5_findPlainStops 12 = .ok (.istore_n 2, 1) := by decide +kernel
theorem dX5_findPlainStops_13 : decode cX5_findPlainStops 13 = .ok (.iconst 1, 1) := by decide +kernel
theorem dX5_findPlainStops_14 : decode cX5_findPlainStops 14 = .ok (.istore_n 3, 1) := by decide +kernel
theorem dX5_findPlainStops_15 : decode cX5_findPlainStops 15 = .ok (.iload_n 3, 1) := by decide +kernel
theorem dX5_findPlainStops_16 : decode cX5_findPlainStops 16 = .ok (.iload_n 2, 1) := by decide +kernel
theorem dX5_findPlainStops_17 : decode cX5_findPlainStops 17 = .ok (.if_icmp .ge 25, 3) := by decide +kernel
theorem dX5_findPlainStops_20 : decode cX5_findPlainStops 20 = .ok (.aload_n 0, 1) := by decide +kernel
theorem dX5_findPlainStops_21 : decode cX5_findPlainStops 21 = .ok (.iload_n 3, 1) := by decide +kernel
theorem dX5_findPlainStops_22 : decode cX5_findPlainStops 22 = .ok (.aload_n 1, 1) := by decide +kernel
theorem dX5_findPlainStops_23 : decode cX5_findPlainStops 23 = .ok (.invokevirtual 61, 3) := by decide +kernel
theorem dX5_findPlainStops_26 : decode cX5_findPlainStops 26 = .ok (.aload_n 0, 1) := by decide +kernel
theorem dX5_findPlainStops_27 : decode cX5_findPlainStops 27 = .ok (.iload_n 3, 1) := by decide +kernel
theorem dX5_findPlainStops_28 : decode cX5_findPlainStops 28 = .ok (.aload_n 1, 1) := by decide +kernel
theorem dX5_findPlainStops_29 : decode cX5_findPlainStops 29 = .ok (.iload_n 3, 1) := by decide +kernel
theorem dX5_findPlainStops_30 : decode cX5_findPlainStops 30 = .ok (.invokevirtual 40, 3) := by decide +kernel
theorem dX5_findPlainStops_33 : decode cX5_findPlainStops 33 = .ok (.invokevirtual 65, 3) := by decide +kernel
theorem dX5_findPlainStops_36 : decode cX5_findPlainStops 36 = .ok (.iinc 3 1, 3) := by decide +kernel
theorem dX5_findPlainStops_39 : decode cX5_findPlainStops 39 = .ok (.goto (-24), 3) := by decide +kernel
theorem dX5_findPlainStops_42 : decode cX5_findPlainStops 42 = .ok (.iconst 1, 1) := by decide +kernel
theorem dX5_findPlainStops_43 : decode cX5_findPlainStops 43 = .ok (.istore_n 3, 1) := by decide +kernel
theorem dX5_findPlainStops_44 : decode cX5_findPlainStops 44 = .ok (.iload_n 3, 1) := by decide +kernel
theorem dX5_findPlainStops_45 : decode cX5_findPlainStops 45 = .ok (.bipush 20, 2) := by decide +kernel
theorem dX5_findPlainStops_47 : decode cX5_findPlainStops 47 = .ok (.if_icmp .gt 26, 3) := by decide +kernel
theorem dX5_findPlainStops_50 : decode cX5_findPlainStops 50 = .ok (.aload_n 0, 1) := by decide +kernel
theorem dX5_findPlainStops_51 : decode cX5_findPlainStops 51 = .ok (.getfield 15, 3) := by decide +kernel
theorem dX5_findPlainStops_54 : decode cX5_findPlainStops 54 = .ok (.iload_n 3, 1) := by decide +kernel
theorem dX5_findPlainStops_55 : decode cX5_findPlainStops 55 = .ok (.iaload, 1) := by decide +kernel
theorem dX5_findPlainStops_56 : decode cX5_findPlainStops 56 = .ok (.iconst (-1), 1) := by decide +kernel
theorem dX5_findPlainStops_57 : decode cX5_findPlainStops 57 = .ok (.if_icmp .ne 10, 3) := by decide +kernel
theorem dX5_findPlainStops_60 : decode cX5_findPlainStops 60 = .ok (.aload_n 0, 1) := by decide +kernel
theorem dX5_findPlainStops_61 : decode cX5_findPlainStops 61 = .ok (.getfield 15, 3) := by decide +kernel
theorem dX5_findPlainStops_64 : decode cX5_findPlainStops 64 = .ok (.iload_n 3, 1) := by decide +kernel
theorem dX5_findPlainStops_65 : decode cX5_findPlainStops 65 = .ok (.iload_n 2, 1) := by decide +kernel
theorem dX5_findPlainStops_66 : decode cX5_findPlainStops 66 = .ok (.iastore, 1) := by decide +kernel
theorem dX5_findPlainStops_67 : decode cX5_findPlainStops 67 = .ok (.iinc 3 1, 3) := by decide +kernel
theorem dX5_findPlainStops_70 : decode cX5_findPlainStops 70 = .ok (.goto (-26), 3) := by decide +kernel
theorem dX5_findPlainStops_73 : decode cX5_findPlainStops 73 = .ok (.return_, 1) := by decide +kernel
def fX5_findPlainStops (p0 : Nat) (p1 : Nat) (h : mxH) : Option mxH := Option.bind (gR h p0 5 1) (fun r1 => Option.bind (fJ7_fill_53178 r1 (-1) h) (fun o4 => Option.bind (isO o4 p1 6) (fun u5 => Option.bind (fX6_deepest p1 o4) (fun v8 => Option.bind (mxLoop (ρ := mxH) (fun s9 : (Int32 × mxH) => (if v8 ≤ s9.1 then some (Sum.inr s9.2) else Option.bind (isO s9.2 p0 5) (fun u18 => Option.bind (fX5_gatherBounds p0 s9.1 p1 s9.2) (fun o21 => Option.bind (isO o21 p1 6) (fun u22 => Option.bind (fX6_limitAt p1 s9.1 o21) (fun o25 => Option.bind (isO o25.2 p0 5) (fun u26 => Option.bind (fX5_stopSettled p0 s9.1 o25.1 o25.2) (fun o29 => some (Sum.inl (s9.1 + 1, o29)))))))))) mxF (1, o4)) (fun r30 : mxH => Option.bind (mxLoop (ρ := mxH) (fun s31 : (Int32 × mxH) => (if 20 < s31.1 then some (Sum.inr s31.2) else Option.bind (gR s31.2 p0 5 1) (fun r40 => Option.bind (ldI s31.2 r40 s31.1) (fun v42 => Option.bind (α := mxH) (if v42 = (-1) then Option.bind (gR s31.2 p0 5 1) (fun r48 => Option.bind (stI s31.2 r48 s31.1 v8) (fun h50 => some h50)) else some s31.2) (fun p46' : mxH => some (Sum.inl (s31.1 + 1, p46'))))))) mxF (1, r30)) (fun r53 : mxH => some r53))))))
abbrev rmX5_findPlainStops : Room := { frames := 5, cells := 0, slots := 0, locals := 112 }
set_option maxRecDepth 20000 in
theorem tX5_findPlainStops {l : Launch} {Z : mxZ} (hl : l.stackTraces = false) {p0 : Nat} {p1 : Nat} {h : mxH} {out : mxH} (hf : fX5_findPlainStops p0 p1 h = some out) : mxMet l Z yX5_findPlainStops cX5_findPlainStops 4 (none) rmX5_findPlainStops [.ref p0, .ref p1] h (.inl none) out := by
  refine mxMet_of (by decide) hl (by simp [Value.category]) (Nat.le_of_ble_eq_true rfl) ?_
  intro X C E hX hin
  unfold fX5_findPlainStops at hf
  refine mG_aload_n (pc := 0) C dX5_findPlainStops_0 rfl ?_
  obtain ⟨r1, e2, hf⟩ := mx_bind hf
  refine mG_getR (pc := 1) C dX5_findPlainStops_1 fl_X5_15 e2 ?_
  refine mG_ic (pc := 4) C dX5_findPlainStops_4 kIm1 ?_
  obtain ⟨o4, e3, hf⟩ := mx_bind hf
  refine mG_cS (pc := 5) (k' := 0) (n' := 0) [.ref r1, .int (-1)] [] C hX dX5_findPlainStops_5 lkS_X5_28 rfl (tJ7_fill_53178 hl e3) rfl rfl rfl rfl ?_
  refine mG_aload_n (pc := 8) C dX5_findPlainStops_8 rfl ?_
  obtain ⟨u5, e6, hf⟩ := mx_bind hf
  obtain ⟨v8, e7, hf⟩ := mx_bind hf
  refine mG_cV (pc := 9) (k' := 0) (n' := 0) 6 [] [] C hX dX5_findPlainStops_9 lkV_X5_34 rfl rfl e6 (tX6_deepest hl e7) rfl rfl rfl rfl ?_
  refine mG_isn (ls' := [some (.ref p0), some (.ref p1), some (.int v8), none]) (pc := 12) C dX5_findPlainStops_12 rfl rfl rfl ?_
  refine mG_ic (pc := 13) C dX5_findPlainStops_13 kI1 ?_
  refine mG_isn (ls' := [some (.ref p0), some (.ref p1), some (.int v8), some (.int 1)]) (pc := 14) C dX5_findPlainStops_14 rfl rfl rfl ?_
  obtain ⟨r10, e11, hf⟩ := mx_bind hf
  have J12 : ∀ r30 : mxH, r30 = r10 → mG l Z X 4 0 0 42 [some (.ref p0), none, some (.int v8), none] [] r30 := by
    intro r30 q55
    subst q55
    refine mG_ic (pc := 42) C dX5_findPlainStops_42 kI1 ?_
    refine mG_isn (ls' := [some (.ref p0), none, some (.int v8), some (.int 1)]) (pc := 43) C dX5_findPlainStops_43 rfl rfl rfl ?_
    obtain ⟨r32, e33, hf⟩ := mx_bind hf
    have J34 : ∀ r53 : mxH, r53 = r32 → mG l Z X 4 0 0 73 [none, none, none, none] [] r53 := by
      intro r53 q54
      subst q54
      cases hf
      exact mG_vr (pc := 73) C E hX dX5_findPlainStops_73 rfl
    refine mG_sub (ls' := [some (.ref p0), none, some (.int v8), some (.int 1)]) (mxLe_s (mxLe_n (mxLe_s (mxLe_s mxLe_z)))) (mxLoop_ind (K := fun s31 : (Int32 × mxH) => mG l Z X 4 0 0 44 [some (.ref p0), none, some (.int v8), some (.int s31.1)] [] s31.2) ?_ _ _ e33)
    intro s31 o37 e38 hK35 hx36
    refine mG_iload_n (pc := 44) C dX5_findPlainStops_44 rfl ?_
    refine mG_bp (pc := 45) C dX5_findPlainStops_45 kB20 ?_
    refine mG_icmp_gt (pc := 47) (tgt := 73) C dX5_findPlainStops_47 (by decide) (fun q39 => ?_) (fun q39 => ?_)
    · rw [if_pos q39] at e38
      exact mG_sub (mxLe_n (mxLe_n (mxLe_n (mxLe_n mxLe_z)))) (J34 _ (hx36 _ (Option.some.inj e38).symm))
    · rw [if_neg q39] at e38
      refine mG_aload_n (pc := 50) C dX5_findPlainStops_50 rfl ?_
      obtain ⟨r40, e41, e38⟩ := mx_bind e38
      refine mG_getR (pc := 51) C dX5_findPlainStops_51 fl_X5_15 e41 ?_
      refine mG_iload_n (pc := 54) C dX5_findPlainStops_54 rfl ?_
      obtain ⟨v42, e43, e38⟩ := mx_bind e38
      refine mG_iaload (pc := 55) C dX5_findPlainStops_55 e43 ?_
      refine mG_ic (pc := 56) C dX5_findPlainStops_56 kIm1 ?_
      obtain ⟨p46, e47, e38⟩ := mx_bind e38
      have J45 : ∀ p46' : mxH, p46' = p46 → mG l Z X 4 0 0 67 [some (.ref p0), none, some (.int v8), some (.int s31.1)] [] p46' := by
        intro p46' q52
        subst q52
        refine mG_ii (ls' := [some (.ref p0), none, some (.int v8), some (.int (s31.1 + 1))]) (pc := 67) C dX5_findPlainStops_67 rfl (kinc1 _) rfl rfl rfl ?_
        refine mG_goto (tgt := 44) (pc := 70) C dX5_findPlainStops_70 (by decide) ?_
        exact mG_sub (mxLe_s (mxLe_n (mxLe_s (mxLe_s mxLe_z)))) (hK35 _ (Option.some.inj e38).symm)
      refine mG_icmp_ne (pc := 57) (tgt := 67) C dX5_findPlainStops_57 (by decide) (fun q44 => ?_) (fun q44 => ?_)
      · rw [if_neg q44] at e47
        exact mG_sub (mxLe_s (mxLe_n (mxLe_s (mxLe_s mxLe_z)))) (J45 _ (Option.some.inj e47))
      · rw [if_pos q44] at e47
        refine mG_aload_n (pc := 60) C dX5_findPlainStops_60 rfl ?_
        obtain ⟨r48, e49, e47⟩ := mx_bind e47
        refine mG_getR (pc := 61) C dX5_findPlainStops_61 fl_X5_15 e49 ?_
        refine mG_iload_n (pc := 64) C dX5_findPlainStops_64 rfl ?_
        refine mG_iload_n (pc := 65) C dX5_findPlainStops_65 rfl ?_
        obtain ⟨h50, e51, e47⟩ := mx_bind e47
        refine mG_iastore (pc := 66) C dX5_findPlainStops_66 e51 ?_
        exact mG_sub (mxLe_s (mxLe_n (mxLe_s (mxLe_s mxLe_z)))) (J45 _ (Option.some.inj e47))
  refine mG_sub (ls' := [some (.ref p0), some (.ref p1), some (.int v8), some (.int 1)]) (mxLe_s (mxLe_s (mxLe_s (mxLe_s mxLe_z)))) (mxLoop_ind (K := fun s9 : (Int32 × mxH) => mG l Z X 4 0 0 15 [some (.ref p0), some (.ref p1), some (.int v8), some (.int s9.1)] [] s9.2) ?_ _ _ e11)
  intro s9 o15 e16 hK13 hx14
  refine mG_iload_n (pc := 15) C dX5_findPlainStops_15 rfl ?_
  refine mG_iload_n (pc := 16) C dX5_findPlainStops_16 rfl ?_
  refine mG_icmp_ge (pc := 17) (tgt := 42) C dX5_findPlainStops_17 (by decide) (fun q17 => ?_) (fun q17 => ?_)
  · rw [if_pos q17] at e16
    exact mG_sub (mxLe_s (mxLe_n (mxLe_s (mxLe_n mxLe_z)))) (J12 _ (hx14 _ (Option.some.inj e16).symm))
  · rw [if_neg q17] at e16
    refine mG_aload_n (pc := 20) C dX5_findPlainStops_20 rfl ?_
    refine mG_iload_n (pc := 21) C dX5_findPlainStops_21 rfl ?_
    refine mG_aload_n (pc := 22) C dX5_findPlainStops_22 rfl ?_
    obtain ⟨u18, e19, e16⟩ := mx_bind e16
    obtain ⟨o21, e20, e16⟩ := mx_bind e16
    refine mG_cV (pc := 23) (k' := 0) (n' := 0) 5 [.int s9.1, .ref p1] [] C hX dX5_findPlainStops_23 lkV_X5_61 rfl rfl e19 (tX5_gatherBounds hl e20) rfl rfl rfl rfl ?_
    refine mG_aload_n (pc := 26) C dX5_findPlainStops_26 rfl ?_
    refine mG_iload_n (pc := 27) C dX5_findPlainStops_27 rfl ?_
    refine mG_aload_n (pc := 28) C dX5_findPlainStops_28 rfl ?_
    refine mG_iload_n (pc := 29) C dX5_findPlainStops_29 rfl ?_
    obtain ⟨u22, e23, e16⟩ := mx_bind e16
    obtain ⟨o25, e24, e16⟩ := mx_bind e16
    refine mG_cV (pc := 30) (k' := 0) (n' := 0) 6 [.int s9.1] [.int s9.1, .ref p0] C hX dX5_findPlainStops_30 lkV_X5_40 rfl rfl e23 (tX6_limitAt hl e24) rfl rfl rfl rfl ?_
    obtain ⟨u26, e27, e16⟩ := mx_bind e16
    obtain ⟨o29, e28, e16⟩ := mx_bind e16
    refine mG_cV (pc := 33) (k' := 0) (n' := 0) 5 [.int s9.1, .int o25.1] [] C hX dX5_findPlainStops_33 lkV_X5_65 rfl rfl e27 (tX5_stopSettled hl e28) rfl rfl rfl rfl ?_
    refine mG_ii (ls' := [some (.ref p0), some (.ref p1), some (.int v8), some (.int (s9.1 + 1))]) (pc := 36) C dX5_findPlainStops_36 rfl (kinc1 _) rfl rfl rfl ?_
    refine mG_goto (tgt := 15) (pc := 39) C dX5_findPlainStops_39 (by decide) ?_
    exact mG_sub (mxLe_s (mxLe_s (mxLe_s (mxLe_s mxLe_z)))) (hK13 _ (Option.some.inj e16).symm)
theorem dX5_stopOf_0 : decode cX5_stopOf 0 = .ok (.iload_n 1, 1) := by decide +kernel
theorem dX5_stopOf_1 : decode cX5_stopOf 1 = .ok (.iconst 1, 1) := by decide +kernel
theorem dX5_stopOf_2 : decode cX5_stopOf 2 = .ok (.isub, 1) := by decide +kernel
theorem dX5_stopOf_3 : decode cX5_stopOf 3 = .ok (.invokestatic 78, 3) := by decide +kernel
theorem dX5_stopOf_6 : decode cX5_stopOf 6 = .ok (.ifCond .eq 12, 3) := by decide +kernel
theorem dX5_stopOf_9 : decode cX5_stopOf 9 = .ok (.aload_n 0, 1) := by decide +kernel
theorem dX5_stopOf_10 : decode cX5_stopOf 10 = .ok (.getfield 9, 3) := by decide +kernel
theorem dX5_stopOf_13 : decode cX5_stopOf 13 = .ok (.iload_n 1, 1) := by decide +kernel
theorem dX5_stopOf_14 : decode cX5_stopOf 14 = .ok (.iaload, 1) := by decide +kernel
theorem dX5_stopOf_15 : decode cX5_stopOf 15 = .ok (.goto 4, 3) := by decide +kernel
theorem dX5_stopOf_18 : decode cX5_stopOf 18 = .ok (.iconst (-1), 1) := by decide +kernel
theorem dX5_stopOf_19 : decode cX5_stopOf 19 = .ok (.ireturn, 1) := by decide +kernel
def fX5_stopOf (p0 : Nat) (p1 : Int32) (h : mxH) : Option Int32 := Option.bind (fX9_isThing (p1 - 1) h) (fun v2 => Option.bind (α := Int32) (if v2 = 0 then some (-1) else Option.bind (gR h p0 5 0) (fun r7 => Option.bind (ldI h r7 p1) (fun v9 => some v9))) (fun p5' : Int32 => some p5'))
abbrev rmX5_stopOf : Room := { frames := 1, cells := 0, slots := 0, locals := 20 }
set_option maxRecDepth 20000 in
theorem tX5_stopOf {l : Launch} {Z : mxZ} (hl : l.stackTraces = false) {p0 : Nat} {p1 : Int32} {h : mxH} {out : Int32} (hf : fX5_stopOf p0 p1 h = some out) : mxMet l Z yX5_stopOf cX5_stopOf 2 (some .int) rmX5_stopOf [.ref p0, .int p1] h (.inl (some (.int out))) h := by
  refine mxMet_of (by decide) hl (by simp [Value.category]) (Nat.le_of_ble_eq_true rfl) ?_
  intro X C E hX hin
  unfold fX5_stopOf at hf
  refine mG_iload_n (pc := 0) C dX5_stopOf_0 rfl ?_
  refine mG_ic (pc := 1) C dX5_stopOf_1 kI1 ?_
  refine mG_isub (pc := 2) C dX5_stopOf_2 ?_
  obtain ⟨v2, e1, hf⟩ := mx_bind hf
  refine mG_cS (pc := 3) (k' := 0) (n' := 0) [.int (p1 - 1)] [] C hX dX5_stopOf_3 lkS_X5_78 rfl (tX9_isThing hl e1) rfl rfl rfl rfl ?_
  obtain ⟨p5, e6, hf⟩ := mx_bind hf
  have J4 : ∀ p5' : Int32, p5' = p5 → mG l Z X 2 0 0 19 [none, none] [.int p5'] h := by
    intro p5' q11
    subst q11
    cases hf
    exact mG_ir (pc := 19) C E hX dX5_stopOf_19 rfl
  refine mG_if_eq (pc := 6) (tgt := 18) C dX5_stopOf_6 (by decide) (fun q3 => ?_) (fun q3 => ?_)
  · rw [if_pos q3] at e6
    refine mG_ic (pc := 18) C dX5_stopOf_18 kIm1 ?_
    exact mG_sub (mxLe_n (mxLe_n mxLe_z)) (J4 _ (Option.some.inj e6))
  · rw [if_neg q3] at e6
    refine mG_aload_n (pc := 9) C dX5_stopOf_9 rfl ?_
    obtain ⟨r7, e8, e6⟩ := mx_bind e6
    refine mG_getR (pc := 10) C dX5_stopOf_10 fl_X5_9 e8 ?_
    refine mG_iload_n (pc := 13) C dX5_stopOf_13 rfl ?_
    obtain ⟨v9, e10, e6⟩ := mx_bind e6
    refine mG_iaload (pc := 14) C dX5_stopOf_14 e10 ?_
    refine mG_goto (tgt := 19) (pc := 15) C dX5_stopOf_15 (by decide) ?_
    exact mG_sub (mxLe_n (mxLe_n mxLe_z)) (J4 _ (Option.some.inj e6))
theorem dX5_plainStopOf_0 : decode cX5_plainStopOf 0 = .ok (.iload_n 1, 1) := by decide +kernel
theorem dX5_plainStopOf_1 : decode cX5_plainStopOf 1 = .ok (.iconst 1, 1) := by decide +kernel
theorem dX5_plainStopOf_2 : decode cX5_plainStopOf 2 = .ok (.isub, 1) := by decide +kernel
theorem dX5_plainStopOf_3 : decode cX5_plainStopOf 3 = .ok (.invokestatic 78, 3) := by decide +kernel
theorem dX5_plainStopOf_6 : decode cX5_plainStopOf 6 = .ok (.ifCond .eq 12, 3) := by decide +kernel
theorem dX5_plainStopOf_9 : decode cX5_plainStopOf 9 = .ok (.aload_n 0, 1) := by decide +kernel
theorem dX5_plainStopOf_10 : decode cX5_plainStopOf 10 = .ok (.getfield 15, 3) := by decide +kernel
theorem dX5_plainStopOf_13 : decode cX5_plainStopOf 13 = .ok (.iload_n 1, 1) := by decide +kernel
theorem dX5_plainStopOf_14 : decode cX5_plainStopOf 14 = .ok (.iaload, 1) := by decide +kernel
theorem dX5_plainStopOf_15 : decode cX5_plainStopOf 15 = .ok (.goto 4, 3) := by decide +kernel
theorem dX5_plainStopOf_18 : decode cX5_plainStopOf 18 = .ok (.iconst (-1), 1) := by decide +kernel
theorem dX5_plainStopOf_19 : decode cX5_plainStopOf 19 = .ok (.ireturn, 1) := by decide +kernel
def fX5_plainStopOf (p0 : Nat) (p1 : Int32) (h : mxH) : Option Int32 := Option.bind (fX9_isThing (p1 - 1) h) (fun v2 => Option.bind (α := Int32) (if v2 = 0 then some (-1) else Option.bind (gR h p0 5 1) (fun r7 => Option.bind (ldI h r7 p1) (fun v9 => some v9))) (fun p5' : Int32 => some p5'))
abbrev rmX5_plainStopOf : Room := { frames := 1, cells := 0, slots := 0, locals := 20 }
set_option maxRecDepth 20000 in
theorem tX5_plainStopOf {l : Launch} {Z : mxZ} (hl : l.stackTraces = false) {p0 : Nat} {p1 : Int32} {h : mxH} {out : Int32} (hf : fX5_plainStopOf p0 p1 h = some out) : mxMet l Z yX5_plainStopOf cX5_plainStopOf 2 (some .int) rmX5_plainStopOf [.ref p0, .int p1] h (.inl (some (.int out))) h := by
  refine mxMet_of (by decide) hl (by simp [Value.category]) (Nat.le_of_ble_eq_true rfl) ?_
  intro X C E hX hin
  unfold fX5_plainStopOf at hf
  refine mG_iload_n (pc := 0) C dX5_plainStopOf_0 rfl ?_
  refine mG_ic (pc := 1) C dX5_plainStopOf_1 kI1 ?_
  refine mG_isub (pc := 2) C dX5_plainStopOf_2 ?_
  obtain ⟨v2, e1, hf⟩ := mx_bind hf
  refine mG_cS (pc := 3) (k' := 0) (n' := 0) [.int (p1 - 1)] [] C hX dX5_plainStopOf_3 lkS_X5_78 rfl (tX9_isThing hl e1) rfl rfl rfl rfl ?_
  obtain ⟨p5, e6, hf⟩ := mx_bind hf
  have J4 : ∀ p5' : Int32, p5' = p5 → mG l Z X 2 0 0 19 [none, none] [.int p5'] h := by
    intro p5' q11
    subst q11
    cases hf
    exact mG_ir (pc := 19) C E hX dX5_plainStopOf_19 rfl
  refine mG_if_eq (pc := 6) (tgt := 18) C dX5_plainStopOf_6 (by decide) (fun q3 => ?_) (fun q3 => ?_)
  · rw [if_pos q3] at e6
    refine mG_ic (pc := 18) C dX5_plainStopOf_18 kIm1 ?_
    exact mG_sub (mxLe_n (mxLe_n mxLe_z)) (J4 _ (Option.some.inj e6))
  · rw [if_neg q3] at e6
    refine mG_aload_n (pc := 9) C dX5_plainStopOf_9 rfl ?_
    obtain ⟨r7, e8, e6⟩ := mx_bind e6
    refine mG_getR (pc := 10) C dX5_plainStopOf_10 fl_X5_15 e8 ?_
    refine mG_iload_n (pc := 13) C dX5_plainStopOf_13 rfl ?_
    obtain ⟨v9, e10, e6⟩ := mx_bind e6
    refine mG_iaload (pc := 14) C dX5_plainStopOf_14 e10 ?_
    refine mG_goto (tgt := 19) (pc := 15) C dX5_plainStopOf_15 (by decide) ?_
    exact mG_sub (mxLe_n (mxLe_n mxLe_z)) (J4 _ (Option.some.inj e6))
theorem dX5_isAnswerBest_0 : decode cX5_isAnswerBest 0 = .ok (.aload_n 0, 1) := by decide +kernel
theorem dX5_isAnswerBest_1 : decode cX5_isAnswerBest 1 = .ok (.iload_n 1, 1) := by decide +kernel
theorem dX5_isAnswerBest_2 : decode cX5_isAnswerBest 2 = .ok (.invokevirtual 98, 3) := by decide +kernel
theorem dX5_isAnswerBest_5 : decode cX5_isAnswerBest 5 = .ok (.istore 4, 2) := by decide +kernel
theorem dX5_isAnswerBest_7 : decode cX5_isAnswerBest 7 = .ok (.iconst 0, 1) := by decide +kernel
theorem dX5_isAnswerBest_8 : decode cX5_isAnswerBest 8 = .ok (.istore 5, 2) := by decide +kernel
theorem dX5_isAnswerBest_10 : decode cX5_isAnswerBest 10 = .ok (.iconst 0, 1) := by decide +kernel
theorem dX5_isAnswerBest_11 : decode cX5_isAnswerBest 11 = .ok (.istore 6, 2) := by decide +kernel
theorem dX5_isAnswerBest_13 : decode cX5_isAnswerBest 13 = .ok (.iload 6, 2) := by decide +kernel
theorem dX5_isAnswerBest_15 : decode cX5_isAnswerBest 15 = .ok (.aload_n 3, 1) := by decide +kernel
theorem dX5_isAnswerBest_16 : decode cX5_isAnswerBest 16 = .ok (.getfield 101, 3) := by decide +kernel
theorem dX5_isAnswerBest_19 : decode cX5_isAnswerBest 19 = .ok (.if_icmp .ge 58, 3) := by decide +kernel
theorem dX5_isAnswerBest_22 : decode cX5_isAnswerBest 22 = .ok (.iload 5, 2) := by decide +kernel
theorem dX5_isAnswerBest_24 : decode cX5_isAnswerBest 24 = .ok (.iload_n 1, 1) := by decide +kernel
theorem dX5_isAnswerBest_25 : decode cX5_isAnswerBest 25 = .ok (.if_icmp .ge 52, 3) := by decide +kernel
theorem dX5_isAnswerBest_28 : decode cX5_isAnswerBest 28 = .ok (.aload_n 3, 1) := by decide +kernel
theorem dX5_isAnswerBest_29 : decode cX5_isAnswerBest 29 = .ok (.iload 6, 2) := by decide +kernel
theorem dX5_isAnswerBest_31 : decode cX5_isAnswerBest 31 = .ok (.invokevirtual 104, 3) := by decide +kernel
theorem dX5_isAnswerBest_34 : decode cX5_isAnswerBest 34 = .ok (.istore 7, 2) := by decide +kernel
theorem dX5_isAnswerBest_36 : decode cX5_isAnswerBest 36 = .ok (.aload_n 2, 1) := by decide +kernel
theorem dX5_isAnswerBest_37 : decode cX5_isAnswerBest 37 = .ok (.iload 7, 2) := by decide +kernel
theorem dX5_isAnswerBest_39 : decode cX5_isAnswerBest 39 = .ok (.iload 4, 2) := by decide +kernel
theorem dX5_isAnswerBest_41 : decode cX5_isAnswerBest 41 = .ok (.invokevirtual 57, 3) := by decide +kernel
theorem dX5_isAnswerBest_44 : decode cX5_isAnswerBest 44 = .ok (.ifCond .eq 27, 3) := by decide +kernel
theorem dX5_isAnswerBest_47 : decode cX5_isAnswerBest 47 = .ok (.aload_n 3, 1) := by decide +kernel
theorem dX5_isAnswerBest_48 : decode cX5_isAnswerBest 48 = .ok (.iload 7, 2) := by decide +kernel
theorem dX5_isAnswerBest_50 : decode cX5_isAnswerBest 50 = .ok (.invokevirtual 52, 3) := by decide +kernel
theorem dX5_isAnswerBest_53 : decode cX5_isAnswerBest 53 = .ok (.aload_n 3, 1) := by decide +kernel
theorem dX5_isAnswerBest_54 : decode cX5_isAnswerBest 54 = .ok (.aload_n 3, 1) := by decide +kernel
theorem dX5_isAnswerBest_55 : decode cX5_isAnswerBest 55 = .ok (.iload 5, 2) := by decide +kernel
theorem dX5_isAnswerBest_57 : decode cX5_isAnswerBest 57 = .ok (.invokevirtual 104, 3) := by decide +kernel
theorem dX5_isAnswerBest_60 : decode cX5_isAnswerBest 60 = .ok (.invokevirtual 52, 3) := by decide +kernel
theorem dX5_isAnswerBest_63 : decode cX5_isAnswerBest 63 = .ok (.if_icmp .eq 5, 3) := by decide +kernel
theorem dX5_isAnswerBest_66 : decode cX5_isAnswerBest 66 = .ok (.iconst 0, 1) := by decide +kernel
theorem dX5_isAnswerBest_67 : decode cX5_isAnswerBest 67 = .ok (.ireturn, 1) := by decide +kernel
theorem dX5_isAnswerBest_68 : decode cX5_isAnswerBest 68 = .ok (.iinc 5 1, 3) := by decide +kernel
theorem dX5_isAnswerBest_71 : decode cX5_isAnswerBest 71 = .ok (.iinc 6 1, 3) := by decide +kernel
theorem dX5_isAnswerBest_74 : decode cX5_isAnswerBest 74 = .ok (.goto (-61), 3) := by decide +kernel
theorem dX5_isAnswerBest_77 : decode cX5_isAnswerBest 77 = .ok (.iload 5, 2) := by decide +kernel
theorem dX5_isAnswerBest_79 : decode cX5_isAnswerBest 79 = .ok (.iload_n 1, 1) := by decide +kernel
theorem dX5_isAnswerBest_80 : decode cX5_isAnswerBest 80 = .ok (.aload_n 3, 1) := by decide +kernel
theorem dX5_isAnswerBest_81 : decode cX5_isAnswerBest 81 = .ok (.getfield 101, 3) := by decide +kernel
theorem dX5_isAnswerBest_84 : decode cX5_isAnswerBest 84 = .ok (.invokestatic 86, 3) := by decide +kernel
theorem dX5_isAnswerBest_87 : decode cX5_isAnswerBest 87 = .ok (.if_icmp .ne 7, 3) := by decide +kernel
theorem dX5_isAnswerBest_90 : decode cX5_isAnswerBest 90 = .ok (.iconst 1, 1) := by decide +kernel
theorem dX5_isAnswerBest_91 : decode cX5_isAnswerBest 91 = .ok (.goto 4, 3) := by decide +kernel
theorem dX5_isAnswerBest_94 : decode cX5_isAnswerBest 94 = .ok (.iconst 0, 1) := by decide +kernel
theorem dX5_isAnswerBest_95 : decode cX5_isAnswerBest 95 = .ok (.ireturn, 1) := by decide +kernel
def fX5_isAnswerBest (p0 : Nat) (p1 : Int32) (p2 : Nat) (p3 : Nat) (h : mxH) : Option Int32 := Option.bind (isO h p0 5) (fun u1 => Option.bind (fX5_stopOf p0 p1 h) (fun v4 => Option.bind (mxLoop (ρ := (Unit ⊕ Int32)) (fun s5 : (Int32 × Int32) => Option.bind (gI h p3 4 3) (fun v14 => (if v14 ≤ s5.2 then some (Sum.inr (Sum.inr s5.1)) else (if p1 ≤ s5.1 then some (Sum.inr (Sum.inr s5.1)) else Option.bind (isO h p3 4) (fun u18 => Option.bind (fX4_thingOn p3 s5.2 h) (fun v21 => Option.bind (isO h p2 6) (fun u22 => Option.bind (fX6_isRead p2 v21 v4 h) (fun v25 => (if v25 = 0 then some (Sum.inl (s5.1, s5.2 + 1)) else Option.bind (isO h p3 4) (fun u27 => Option.bind (fX4_valueIn p3 v21 h) (fun v30 => Option.bind (isO h p3 4) (fun u31 => Option.bind (fX4_thingOn p3 s5.1 h) (fun v34 => Option.bind (isO h p3 4) (fun u35 => Option.bind (fX4_valueIn p3 v34 h) (fun v38 => (if v30 = v38 then some (Sum.inl (s5.1 + 1, s5.2 + 1)) else some (Sum.inr (Sum.inl ())))))))))))))))))) mxF (0, 0)) (Sum.elim (fun r40 : Unit => Option.bind (mxZ1 0) (fun v41 => some v41)) (fun r44 : Int32 => Option.bind (gI h p3 4 3) (fun v45 => Option.bind (α := Int32) (if r44 = (mxMin p1 v45) then some 1 else some 0) (fun p49' : Int32 => Option.bind (mxZ1 p49') (fun v51 => some v51)))))))
abbrev rmX5_isAnswerBest : Room := { frames := 2, cells := 0, slots := 0, locals := 42 }
set_option maxRecDepth 20000 in
theorem tX5_isAnswerBest {l : Launch} {Z : mxZ} (hl : l.stackTraces = false) {p0 : Nat} {p1 : Int32} {p2 : Nat} {p3 : Nat} {h : mxH} {out : Int32} (hf : fX5_isAnswerBest p0 p1 p2 p3 h = some out) : mxMet l Z yX5_isAnswerBest cX5_isAnswerBest 8 (some .boolean) rmX5_isAnswerBest [.ref p0, .int p1, .ref p2, .ref p3] h (.inl (some (.int out))) h := by
  refine mxMet_of (by decide) hl (by simp [Value.category]) (Nat.le_of_ble_eq_true rfl) ?_
  intro X C E hX hin
  unfold fX5_isAnswerBest at hf
  refine mG_aload_n (pc := 0) C dX5_isAnswerBest_0 rfl ?_
  refine mG_iload_n (pc := 1) C dX5_isAnswerBest_1 rfl ?_
  obtain ⟨u1, e2, hf⟩ := mx_bind hf
  obtain ⟨v4, e3, hf⟩ := mx_bind hf
  refine mG_cV (pc := 2) (k' := 0) (n' := 0) 5 [.int p1] [] C hX dX5_isAnswerBest_2 lkV_X5_98 rfl rfl e2 (tX5_stopOf hl e3) rfl rfl rfl rfl ?_
  refine mG_is (ls' := [some (.ref p0), some (.int p1), some (.ref p2), some (.ref p3), some (.int v4), none, none, none]) (pc := 5) C dX5_isAnswerBest_5 rfl rfl rfl ?_
  refine mG_ic (pc := 7) C dX5_isAnswerBest_7 kI0 ?_
  refine mG_is (ls' := [some (.ref p0), some (.int p1), some (.ref p2), some (.ref p3), some (.int v4), some (.int 0), none, none]) (pc := 8) C dX5_isAnswerBest_8 rfl rfl rfl ?_
  refine mG_ic (pc := 10) C dX5_isAnswerBest_10 kI0 ?_
  refine mG_is (ls' := [some (.ref p0), some (.int p1), some (.ref p2), some (.ref p3), some (.int v4), some (.int 0), some (.int 0), none]) (pc := 11) C dX5_isAnswerBest_11 rfl rfl rfl ?_
  obtain ⟨r6, e7, hf⟩ := mx_bind hf
  have J8 : ∀ r40 : Unit, Sum.inl r40 = r6 → mG l Z X 8 0 0 66 [none, none, none, none, none, none, none, none] [] h := by
    intro r40 q43
    subst q43
    rw [Sum.elim_inl] at hf
    refine mG_ic (pc := 66) C dX5_isAnswerBest_66 kI0 ?_
    obtain ⟨v41, e42, hf⟩ := mx_bind hf
    cases hf
    exact mG_zr (pc := 67) C e42 E hX dX5_isAnswerBest_67 rfl
  have J9 : ∀ r44 : Int32, Sum.inr r44 = r6 → mG l Z X 8 0 0 77 [none, some (.int p1), none, some (.ref p3), none, some (.int r44), none, none] [] h := by
    intro r44 q54
    subst q54
    rw [Sum.elim_inr] at hf
    refine mG_iload (pc := 77) C dX5_isAnswerBest_77 rfl ?_
    refine mG_iload_n (pc := 79) C dX5_isAnswerBest_79 rfl ?_
    refine mG_aload_n (pc := 80) C dX5_isAnswerBest_80 rfl ?_
    obtain ⟨v45, e46, hf⟩ := mx_bind hf
    refine mG_getI (pc := 81) C dX5_isAnswerBest_81 fl_X5_101 e46 ?_
    refine mG_mn (pc := 84) C hX dX5_isAnswerBest_84 w144 wmin rfl rfl ?_
    obtain ⟨p49, e50, hf⟩ := mx_bind hf
    have J48 : ∀ p49' : Int32, p49' = p49 → mG l Z X 8 0 0 95 [none, none, none, none, none, none, none, none] [.int p49'] h := by
      intro p49' q53
      subst q53
      obtain ⟨v51, e52, hf⟩ := mx_bind hf
      cases hf
      exact mG_zr (pc := 95) C e52 E hX dX5_isAnswerBest_95 rfl
    refine mG_icmp_ne (pc := 87) (tgt := 94) C dX5_isAnswerBest_87 (by decide) (fun q47 => ?_) (fun q47 => ?_)
    · rw [if_neg q47] at e50
      refine mG_ic (pc := 94) C dX5_isAnswerBest_94 kI0 ?_
      exact mG_sub (mxLe_n (mxLe_n (mxLe_n (mxLe_n (mxLe_n (mxLe_n (mxLe_n (mxLe_n mxLe_z)))))))) (J48 _ (Option.some.inj e50))
    · rw [if_pos q47] at e50
      refine mG_ic (pc := 90) C dX5_isAnswerBest_90 kI1 ?_
      refine mG_goto (tgt := 95) (pc := 91) C dX5_isAnswerBest_91 (by decide) ?_
      exact mG_sub (mxLe_n (mxLe_n (mxLe_n (mxLe_n (mxLe_n (mxLe_n (mxLe_n (mxLe_n mxLe_z)))))))) (J48 _ (Option.some.inj e50))
  refine mG_sub (ls' := [none, some (.int p1), some (.ref p2), some (.ref p3), some (.int v4), some (.int 0), some (.int 0), none]) (mxLe_n (mxLe_s (mxLe_s (mxLe_s (mxLe_s (mxLe_s (mxLe_s (mxLe_n mxLe_z)))))))) (mxLoop_ind (K := fun s5 : (Int32 × Int32) => mG l Z X 8 0 0 13 [none, some (.int p1), some (.ref p2), some (.ref p3), some (.int v4), some (.int s5.1), some (.int s5.2), none] [] h) ?_ _ _ e7)
  intro s5 o12 e13 hK10 hx11
  refine mG_iload (pc := 13) C dX5_isAnswerBest_13 rfl ?_
  refine mG_aload_n (pc := 15) C dX5_isAnswerBest_15 rfl ?_
  obtain ⟨v14, e15, e13⟩ := mx_bind e13
  refine mG_getI (pc := 16) C dX5_isAnswerBest_16 fl_X5_101 e15 ?_
  refine mG_icmp_ge (pc := 19) (tgt := 77) C dX5_isAnswerBest_19 (by decide) (fun q16 => ?_) (fun q16 => ?_)
  · rw [if_pos q16] at e13
    exact mG_sub (mxLe_n (mxLe_s (mxLe_n (mxLe_s (mxLe_n (mxLe_s (mxLe_n (mxLe_n mxLe_z)))))))) (J9 _ (hx11 _ (Option.some.inj e13).symm))
  · rw [if_neg q16] at e13
    refine mG_iload (pc := 22) C dX5_isAnswerBest_22 rfl ?_
    refine mG_iload_n (pc := 24) C dX5_isAnswerBest_24 rfl ?_
    refine mG_icmp_ge (pc := 25) (tgt := 77) C dX5_isAnswerBest_25 (by decide) (fun q17 => ?_) (fun q17 => ?_)
    · rw [if_pos q17] at e13
      exact mG_sub (mxLe_n (mxLe_s (mxLe_n (mxLe_s (mxLe_n (mxLe_s (mxLe_n (mxLe_n mxLe_z)))))))) (J9 _ (hx11 _ (Option.some.inj e13).symm))
    · rw [if_neg q17] at e13
      refine mG_aload_n (pc := 28) C dX5_isAnswerBest_28 rfl ?_
      refine mG_iload (pc := 29) C dX5_isAnswerBest_29 rfl ?_
      obtain ⟨u18, e19, e13⟩ := mx_bind e13
      obtain ⟨v21, e20, e13⟩ := mx_bind e13
      refine mG_cV (pc := 31) (k' := 0) (n' := 0) 4 [.int s5.2] [] C hX dX5_isAnswerBest_31 lkV_X5_104 rfl rfl e19 (tX4_thingOn hl e20) rfl rfl rfl rfl ?_
      refine mG_is (ls' := [none, some (.int p1), some (.ref p2), some (.ref p3), some (.int v4), some (.int s5.1), some (.int s5.2), some (.int v21)]) (pc := 34) C dX5_isAnswerBest_34 rfl rfl rfl ?_
      refine mG_aload_n (pc := 36) C dX5_isAnswerBest_36 rfl ?_
      refine mG_iload (pc := 37) C dX5_isAnswerBest_37 rfl ?_
      refine mG_iload (pc := 39) C dX5_isAnswerBest_39 rfl ?_
      obtain ⟨u22, e23, e13⟩ := mx_bind e13
      obtain ⟨v25, e24, e13⟩ := mx_bind e13
      refine mG_cV (pc := 41) (k' := 0) (n' := 0) 6 [.int v21, .int v4] [] C hX dX5_isAnswerBest_41 lkV_X5_57 rfl rfl e23 (tX6_isRead hl e24) rfl rfl rfl rfl ?_
      refine mG_if_eq (pc := 44) (tgt := 71) C dX5_isAnswerBest_44 (by decide) (fun q26 => ?_) (fun q26 => ?_)
      · rw [if_pos q26] at e13
        refine mG_ii (ls' := [none, some (.int p1), some (.ref p2), some (.ref p3), some (.int v4), some (.int s5.1), some (.int (s5.2 + 1)), some (.int v21)]) (pc := 71) C dX5_isAnswerBest_71 rfl (kinc1 _) rfl rfl rfl ?_
        refine mG_goto (tgt := 13) (pc := 74) C dX5_isAnswerBest_74 (by decide) ?_
        exact mG_sub (mxLe_n (mxLe_s (mxLe_s (mxLe_s (mxLe_s (mxLe_s (mxLe_s (mxLe_n mxLe_z)))))))) (hK10 _ (Option.some.inj e13).symm)
      · rw [if_neg q26] at e13
        refine mG_aload_n (pc := 47) C dX5_isAnswerBest_47 rfl ?_
        refine mG_iload (pc := 48) C dX5_isAnswerBest_48 rfl ?_
        obtain ⟨u27, e28, e13⟩ := mx_bind e13
        obtain ⟨v30, e29, e13⟩ := mx_bind e13
        refine mG_cV (pc := 50) (k' := 0) (n' := 0) 4 [.int v21] [] C hX dX5_isAnswerBest_50 lkV_X5_52 rfl rfl e28 (tX4_valueIn hl e29) rfl rfl rfl rfl ?_
        refine mG_aload_n (pc := 53) C dX5_isAnswerBest_53 rfl ?_
        refine mG_aload_n (pc := 54) C dX5_isAnswerBest_54 rfl ?_
        refine mG_iload (pc := 55) C dX5_isAnswerBest_55 rfl ?_
        obtain ⟨u31, e32, e13⟩ := mx_bind e13
        obtain ⟨v34, e33, e13⟩ := mx_bind e13
        refine mG_cV (pc := 57) (k' := 0) (n' := 0) 4 [.int s5.1] [.ref p3, .int v30] C hX dX5_isAnswerBest_57 lkV_X5_104 rfl rfl e32 (tX4_thingOn hl e33) rfl rfl rfl rfl ?_
        obtain ⟨u35, e36, e13⟩ := mx_bind e13
        obtain ⟨v38, e37, e13⟩ := mx_bind e13
        refine mG_cV (pc := 60) (k' := 0) (n' := 0) 4 [.int v34] [.int v30] C hX dX5_isAnswerBest_60 lkV_X5_52 rfl rfl e36 (tX4_valueIn hl e37) rfl rfl rfl rfl ?_
        refine mG_icmp_eq (pc := 63) (tgt := 68) C dX5_isAnswerBest_63 (by decide) (fun q39 => ?_) (fun q39 => ?_)
        · rw [if_pos q39] at e13
          refine mG_ii (ls' := [none, some (.int p1), some (.ref p2), some (.ref p3), some (.int v4), some (.int (s5.1 + 1)), some (.int s5.2), some (.int v21)]) (pc := 68) C dX5_isAnswerBest_68 rfl (kinc1 _) rfl rfl rfl ?_
          refine mG_ii (ls' := [none, some (.int p1), some (.ref p2), some (.ref p3), some (.int v4), some (.int (s5.1 + 1)), some (.int (s5.2 + 1)), some (.int v21)]) (pc := 71) C dX5_isAnswerBest_71 rfl (kinc1 _) rfl rfl rfl ?_
          refine mG_goto (tgt := 13) (pc := 74) C dX5_isAnswerBest_74 (by decide) ?_
          exact mG_sub (mxLe_n (mxLe_s (mxLe_s (mxLe_s (mxLe_s (mxLe_s (mxLe_s (mxLe_n mxLe_z)))))))) (hK10 _ (Option.some.inj e13).symm)
        · rw [if_neg q39] at e13
          exact mG_sub (mxLe_n (mxLe_n (mxLe_n (mxLe_n (mxLe_n (mxLe_n (mxLe_n (mxLe_n mxLe_z)))))))) (J8 _ (hx11 _ (Option.some.inj e13).symm))
theorem dX5_countFaults_0 : decode cX5_countFaults 0 = .ok (.iconst 0, 1) := by decide +kernel
theorem dX5_countFaults_1 : decode cX5_countFaults 1 = .ok (.istore_n 3, 1) := by decide +kernel
theorem dX5_countFaults_2 : decode cX5_countFaults 2 = .ok (.iconst 1, 1) := by decide +kernel
theorem dX5_countFaults_3 : decode cX5_countFaults 3 = .ok (.istore 4, 2) := by decide +kernel
theorem dX5_countFaults_5 : decode cX5_countFaults 5 = .ok (.iload 4, 2) := by decide +kernel
theorem dX5_countFaults_7 : decode cX5_countFaults 7 = .ok (.bipush 20, 2) := by decide +kernel
theorem dX5_countFaults_9 : decode cX5_countFaults 9 = .ok (.if_icmp .gt 53, 3) := by decide +kernel
theorem dX5_countFaults_12 : decode cX5_countFaults 12 = .ok (.iload_n 3, 1) := by decide +kernel
theorem dX5_countFaults_13 : decode cX5_countFaults 13 = .ok (.aload_n 0, 1) := by decide +kernel
theorem dX5_countFaults_14 : decode cX5_countFaults 14 = .ok (.iload 4, 2) := by decide +kernel
theorem dX5_countFaults_16 : decode cX5_countFaults 16 = .ok (.aload_n 1, 1) := by decide +kernel
theorem dX5_countFaults_17 : decode cX5_countFaults 17 = .ok (.aload_n 2, 1) := by decide +kernel
theorem dX5_countFaults_18 : decode cX5_countFaults 18 = .ok (.invokevirtual 94, 3) := by decide +kernel
theorem dX5_countFaults_21 : decode cX5_countFaults 21 = .ok (.ifCond .eq 7, 3) := by decide +kernel
theorem dX5_countFaults_24 : decode cX5_countFaults 24 = .ok (.iconst 0, 1) := by decide +kernel
theorem dX5_countFaults_25 : decode cX5_countFaults 25 = .ok (.goto 4, 3) := by decide +kernel
theorem dX5_countFaults_28 : decode cX5_countFaults 28 = .ok (.iconst 1, 1) := by decide +kernel
theorem dX5_countFaults_29 : decode cX5_countFaults 29 = .ok (.iadd, 1) := by decide +kernel
theorem dX5_countFaults_30 : decode cX5_countFaults 30 = .ok (.istore_n 3, 1) := by decide +kernel
theorem dX5_countFaults_31 : decode cX5_countFaults 31 = .ok (.iload_n 3, 1) := by decide +kernel
theorem dX5_countFaults_32 : decode cX5_countFaults 32 = .ok (.aload_n 0, 1) := by decide +kernel
theorem dX5_countFaults_33 : decode cX5_countFaults 33 = .ok (.getfield 15, 3) := by decide +kernel
theorem dX5_countFaults_36 : decode cX5_countFaults 36 = .ok (.iload 4, 2) := by decide +kernel
theorem dX5_countFaults_38 : decode cX5_countFaults 38 = .ok (.iaload, 1) := by decide +kernel
theorem dX5_countFaults_39 : decode cX5_countFaults 39 = .ok (.aload_n 0, 1) := by decide +kernel
theorem dX5_countFaults_40 : decode cX5_countFaults 40 = .ok (.getfield 9, 3) := by decide +kernel
theorem dX5_countFaults_43 : decode cX5_countFaults 43 = .ok (.iload 4, 2) := by decide +kernel
theorem dX5_countFaults_45 : decode cX5_countFaults 45 = .ok (.iaload, 1) := by decide +kernel
theorem dX5_countFaults_46 : decode cX5_countFaults 46 = .ok (.if_icmp .ge 7, 3) := by decide +kernel
theorem dX5_countFaults_49 : decode cX5_countFaults 49 = .ok (.iconst 1, 1) := by decide +kernel
theorem dX5_countFaults_50 : decode cX5_countFaults 50 = .ok (.goto 4, 3) := by decide +kernel
theorem dX5_countFaults_53 : decode cX5_countFaults 53 = .ok (.iconst 0, 1) := by decide +kernel
theorem dX5_countFaults_54 : decode cX5_countFaults 54 = .ok (.iadd, 1) := by decide +kernel
theorem dX5_countFaults_55 : decode cX5_countFaults 55 = .ok (.istore_n 3, 1) := by decide +kernel
theorem dX5_countFaults_56 : decode cX5_countFaults 56 = .ok (.iinc 4 1, 3) := by decide +kernel
theorem dX5_countFaults_59 : decode cX5_countFaults 59 = .ok (.goto (-54), 3) := by decide +kernel
theorem dX5_countFaults_62 : decode cX5_countFaults 62 = .ok (.iload_n 3, 1) := by decide +kernel
theorem dX5_countFaults_63 : decode cX5_countFaults 63 = .ok (.ireturn, 1) := by decide +kernel
def fX5_countFaults (p0 : Nat) (p1 : Nat) (p2 : Nat) (h : mxH) : Option Int32 := Option.bind (mxLoop (ρ := Int32) (fun s1 : (Int32 × Int32) => (if 20 < s1.2 then some (Sum.inr s1.1) else Option.bind (isO h p0 5) (fun u10 => Option.bind (fX5_isAnswerBest p0 s1.2 p1 p2 h) (fun v13 => Option.bind (α := Int32) (if v13 = 0 then some 1 else some 0) (fun p16' : Int32 => Option.bind (gR h p0 5 1) (fun r18 => Option.bind (ldI h r18 s1.2) (fun v20 => Option.bind (gR h p0 5 0) (fun r22 => Option.bind (ldI h r22 s1.2) (fun v24 => Option.bind (α := Int32) (if v24 ≤ v20 then some 0 else some 1) (fun p28' : Int32 => some (Sum.inl ((s1.1 + p16') + p28', s1.2 + 1)))))))))))) mxF (0, 1)) (fun r32 : Int32 => some r32)
abbrev rmX5_countFaults : Room := { frames := 3, cells := 0, slots := 0, locals := 69 }
set_option maxRecDepth 20000 in
theorem tX5_countFaults {l : Launch} {Z : mxZ} (hl : l.stackTraces = false) {p0 : Nat} {p1 : Nat} {p2 : Nat} {h : mxH} {out : Int32} (hf : fX5_countFaults p0 p1 p2 h = some out) : mxMet l Z yX5_countFaults cX5_countFaults 5 (some .int) rmX5_countFaults [.ref p0, .ref p1, .ref p2] h (.inl (some (.int out))) h := by
  refine mxMet_of (by decide) hl (by simp [Value.category]) (Nat.le_of_ble_eq_true rfl) ?_
  intro X C E hX hin
  unfold fX5_countFaults at hf
  refine mG_ic (pc := 0) C dX5_countFaults_0 kI0 ?_
  refine mG_isn (ls' := [some (.ref p0), some (.ref p1), some (.ref p2), some (.int 0), none]) (pc := 1) C dX5_countFaults_1 rfl rfl rfl ?_
  refine mG_ic (pc := 2) C dX5_countFaults_2 kI1 ?_
  refine mG_is (ls' := [some (.ref p0), some (.ref p1), some (.ref p2), some (.int 0), some (.int 1)]) (pc := 3) C dX5_countFaults_3 rfl rfl rfl ?_
  obtain ⟨r2, e3, hf⟩ := mx_bind hf
  have J4 : ∀ r32 : Int32, r32 = r2 → mG l Z X 5 0 0 62 [none, none, none, some (.int r32), none] [] h := by
    intro r32 q33
    subst q33
    refine mG_iload_n (pc := 62) C dX5_countFaults_62 rfl ?_
    cases hf
    exact mG_ir (pc := 63) C E hX dX5_countFaults_63 rfl
  refine mG_sub (ls' := [some (.ref p0), some (.ref p1), some (.ref p2), some (.int 0), some (.int 1)]) (mxLe_s (mxLe_s (mxLe_s (mxLe_s (mxLe_s mxLe_z))))) (mxLoop_ind (K := fun s1 : (Int32 × Int32) => mG l Z X 5 0 0 5 [some (.ref p0), some (.ref p1), some (.ref p2), some (.int s1.1), some (.int s1.2)] [] h) ?_ _ _ e3)
  intro s1 o7 e8 hK5 hx6
  refine mG_iload (pc := 5) C dX5_countFaults_5 rfl ?_
  refine mG_bp (pc := 7) C dX5_countFaults_7 kB20 ?_
  refine mG_icmp_gt (pc := 9) (tgt := 62) C dX5_countFaults_9 (by decide) (fun q9 => ?_) (fun q9 => ?_)
  · rw [if_pos q9] at e8
    exact mG_sub (mxLe_n (mxLe_n (mxLe_n (mxLe_s (mxLe_n mxLe_z))))) (J4 _ (hx6 _ (Option.some.inj e8).symm))
  · rw [if_neg q9] at e8
    refine mG_iload_n (pc := 12) C dX5_countFaults_12 rfl ?_
    refine mG_aload_n (pc := 13) C dX5_countFaults_13 rfl ?_
    refine mG_iload (pc := 14) C dX5_countFaults_14 rfl ?_
    refine mG_aload_n (pc := 16) C dX5_countFaults_16 rfl ?_
    refine mG_aload_n (pc := 17) C dX5_countFaults_17 rfl ?_
    obtain ⟨u10, e11, e8⟩ := mx_bind e8
    obtain ⟨v13, e12, e8⟩ := mx_bind e8
    refine mG_cV (pc := 18) (k' := 0) (n' := 0) 5 [.int s1.2, .ref p1, .ref p2] [.int s1.1] C hX dX5_countFaults_18 lkV_X5_94 rfl rfl e11 (tX5_isAnswerBest hl e12) rfl rfl rfl rfl ?_
    obtain ⟨p16, e17, e8⟩ := mx_bind e8
    have J15 : ∀ p16' : Int32, p16' = p16 → mG l Z X 5 0 0 29 [some (.ref p0), some (.ref p1), some (.ref p2), none, some (.int s1.2)] [.int p16', .int s1.1] h := by
      intro p16' q31
      subst q31
      refine mG_iadd (pc := 29) C dX5_countFaults_29 ?_
      refine mG_isn (ls' := [some (.ref p0), some (.ref p1), some (.ref p2), some (.int (s1.1 + p16')), some (.int s1.2)]) (pc := 30) C dX5_countFaults_30 rfl rfl rfl ?_
      refine mG_iload_n (pc := 31) C dX5_countFaults_31 rfl ?_
      refine mG_aload_n (pc := 32) C dX5_countFaults_32 rfl ?_
      obtain ⟨r18, e19, e8⟩ := mx_bind e8
      refine mG_getR (pc := 33) C dX5_countFaults_33 fl_X5_15 e19 ?_
      refine mG_iload (pc := 36) C dX5_countFaults_36 rfl ?_
      obtain ⟨v20, e21, e8⟩ := mx_bind e8
      refine mG_iaload (pc := 38) C dX5_countFaults_38 e21 ?_
      refine mG_aload_n (pc := 39) C dX5_countFaults_39 rfl ?_
      obtain ⟨r22, e23, e8⟩ := mx_bind e8
      refine mG_getR (pc := 40) C dX5_countFaults_40 fl_X5_9 e23 ?_
      refine mG_iload (pc := 43) C dX5_countFaults_43 rfl ?_
      obtain ⟨v24, e25, e8⟩ := mx_bind e8
      refine mG_iaload (pc := 45) C dX5_countFaults_45 e25 ?_
      obtain ⟨p28, e29, e8⟩ := mx_bind e8
      have J27 : ∀ p28' : Int32, p28' = p28 → mG l Z X 5 0 0 54 [some (.ref p0), some (.ref p1), some (.ref p2), none, some (.int s1.2)] [.int p28', .int (s1.1 + p16')] h := by
        intro p28' q30
        subst q30
        refine mG_iadd (pc := 54) C dX5_countFaults_54 ?_
        refine mG_isn (ls' := [some (.ref p0), some (.ref p1), some (.ref p2), some (.int ((s1.1 + p16') + p28')), some (.int s1.2)]) (pc := 55) C dX5_countFaults_55 rfl rfl rfl ?_
        refine mG_ii (ls' := [some (.ref p0), some (.ref p1), some (.ref p2), some (.int ((s1.1 + p16') + p28')), some (.int (s1.2 + 1))]) (pc := 56) C dX5_countFaults_56 rfl (kinc1 _) rfl rfl rfl ?_
        refine mG_goto (tgt := 5) (pc := 59) C dX5_countFaults_59 (by decide) ?_
        exact mG_sub (mxLe_s (mxLe_s (mxLe_s (mxLe_s (mxLe_s mxLe_z))))) (hK5 _ (Option.some.inj e8).symm)
      refine mG_icmp_ge (pc := 46) (tgt := 53) C dX5_countFaults_46 (by decide) (fun q26 => ?_) (fun q26 => ?_)
      · rw [if_pos q26] at e29
        refine mG_ic (pc := 53) C dX5_countFaults_53 kI0 ?_
        exact mG_sub (mxLe_s (mxLe_s (mxLe_s (mxLe_n (mxLe_s mxLe_z))))) (J27 _ (Option.some.inj e29))
      · rw [if_neg q26] at e29
        refine mG_ic (pc := 49) C dX5_countFaults_49 kI1 ?_
        refine mG_goto (tgt := 54) (pc := 50) C dX5_countFaults_50 (by decide) ?_
        exact mG_sub (mxLe_s (mxLe_s (mxLe_s (mxLe_n (mxLe_s mxLe_z))))) (J27 _ (Option.some.inj e29))
    refine mG_if_eq (pc := 21) (tgt := 28) C dX5_countFaults_21 (by decide) (fun q14 => ?_) (fun q14 => ?_)
    · rw [if_pos q14] at e17
      refine mG_ic (pc := 28) C dX5_countFaults_28 kI1 ?_
      exact mG_sub (mxLe_s (mxLe_s (mxLe_s (mxLe_n (mxLe_s mxLe_z))))) (J15 _ (Option.some.inj e17))
    · rw [if_neg q14] at e17
      refine mG_ic (pc := 24) C dX5_countFaults_24 kI0 ?_
      refine mG_goto (tgt := 29) (pc := 25) C dX5_countFaults_25 (by decide) ?_
      exact mG_sub (mxLe_s (mxLe_s (mxLe_s (mxLe_n (mxLe_s mxLe_z))))) (J15 _ (Option.some.inj e17))
