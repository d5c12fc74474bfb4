/-! printed by wip/gen/emit.py: for each method its function on the mini machine, and that the machine walks as the function says -/
theorem dX1_rowAhead_0 : decode cX1_rowAhead 0 = .ok (.iconst (-1), 1) := by decide +kernel
theorem dX1_rowAhead_1 : decode cX1_rowAhead 1 = .ok (.istore_n 2, 1) := by decide +kernel
theorem dX1_rowAhead_2 : decode cX1_rowAhead 2 = .ok (.iconst (-1), 1) := by decide +kernel
theorem dX1_rowAhead_3 : decode cX1_rowAhead 3 = .ok (.istore_n 3, 1) := by decide +kernel
theorem dX1_rowAhead_4 : decode cX1_rowAhead 4 = .ok (.iconst 0, 1) := by decide +kernel
theorem dX1_rowAhead_5 : decode cX1_rowAhead 5 = .ok (.istore 4, 2) := by decide +kernel
theorem dX1_rowAhead_7 : decode cX1_rowAhead 7 = .ok (.iload 4, 2) := by decide +kernel
theorem dX1_rowAhead_9 : decode cX1_rowAhead 9 = .ok (.iconst 5, 1) := by decide +kernel
theorem dX1_rowAhead_10 : decode cX1_rowAhead 10 = .ok (.if_icmp .ge 36, 3) := by decide +kernel
theorem dX1_rowAhead_13 : decode cX1_rowAhead 13 = .ok (.aload_n 1, 1) := by decide +kernel
theorem dX1_rowAhead_14 : decode cX1_rowAhead 14 = .ok (.iload 4, 2) := by decide +kernel
theorem dX1_rowAhead_16 : decode cX1_rowAhead 16 = .ok (.aload_n 0, 1) := by decide +kernel
theorem dX1_rowAhead_17 : decode cX1_rowAhead 17 = .ok (.getfield 22, 3) := by decide +kernel
theorem dX1_rowAhead_20 : decode cX1_rowAhead 20 = .ok (.iload 4, 2) := by decide +kernel
theorem dX1_rowAhead_22 : decode cX1_rowAhead 22 = .ok (.iaload, 1) := by decide +kernel
theorem dX1_rowAhead_23 : decode cX1_rowAhead 23 = .ok (.invokevirtual 45, 3) := by decide +kernel
theorem dX1_rowAhead_26 : decode cX1_rowAhead 26 = .ok (.istore 5, 2) := by decide +kernel
theorem dX1_rowAhead_28 : decode cX1_rowAhead 28 = .ok (.iload 5, 2) := by decide +kernel
theorem dX1_rowAhead_30 : decode cX1_rowAhead 30 = .ok (.iload_n 3, 1) := by decide +kernel
theorem dX1_rowAhead_31 : decode cX1_rowAhead 31 = .ok (.if_icmp .le 9, 3) := by decide +kernel
theorem dX1_rowAhead_34 : decode cX1_rowAhead 34 = .ok (.iload 4, 2) := by decide +kernel
theorem dX1_rowAhead_36 : decode cX1_rowAhead 36 = .ok (.istore_n 2, 1) := by decide +kernel
theorem dX1_rowAhead_37 : decode cX1_rowAhead 37 = .ok (.iload 5, 2) := by decide +kernel
theorem dX1_rowAhead_39 : decode cX1_rowAhead 39 = .ok (.istore_n 3, 1) := by decide +kernel
theorem dX1_rowAhead_40 : decode cX1_rowAhead 40 = .ok (.iinc 4 1, 3) := by decide +kernel
theorem dX1_rowAhead_43 : decode cX1_rowAhead 43 = .ok (.goto (-36), 3) := by decide +kernel
theorem dX1_rowAhead_46 : decode cX1_rowAhead 46 = .ok (.iload_n 2, 1) := by decide +kernel
theorem dX1_rowAhead_47 : decode cX1_rowAhead 47 = .ok (.ireturn, 1) := by decide +kernel
def fX1_rowAhead (p0 : Nat) (p1 : Nat) (h : mxH) : Option Int32 := Option.bind (mxLoop (ρ := Int32) (fun s1 : (Int32 × Int32 × Int32) => (if 5 ≤ s1.2.2 then some (Sum.inr s1.1) else Option.bind (gR h p0 1 3) (fun r10 => Option.bind (ldI h r10 s1.2.2) (fun v12 => Option.bind (isO h p1 6) (fun u14 => Option.bind (fX6_markOn p1 s1.2.2 v12 h) (fun v17 => Option.bind (α := (Int32 × Int32)) (if v17 ≤ s1.2.1 then some (s1.1, s1.2.1) else some (s1.2.2, v17)) (fun p20' : (Int32 × Int32) => some (Sum.inl (p20'.1, p20'.2, s1.2.2 + 1))))))))) mxF ((-1), (-1), 0)) (fun r23 : Int32 => some r23)
abbrev rmX1_rowAhead : Room := { frames := 3, cells := 0, slots := 0, locals := 64 }
set_option maxRecDepth 20000 in
theorem tX1_rowAhead {l : Launch} {Z : mxZ} (hl : l.stackTraces = false) {p0 : Nat} {p1 : Nat} {h : mxH} {out : Int32} (hf : fX1_rowAhead p0 p1 h = some out) : mxMet l Z yX1_rowAhead cX1_rowAhead 6 (some .int) rmX1_rowAhead [.ref p0, .ref p1] h (.inl (some (.int out))) h := by
  refine mxMet_of (by decide) hl (by simp [Value.category]) (Nat.le_of_ble_eq_true rfl) ?_
  intro X C E hX hin
  unfold fX1_rowAhead at hf
  refine mG_ic (pc := 0) C dX1_rowAhead_0 kIm1 ?_
  refine mG_isn (ls' := [some (.ref p0), some (.ref p1), some (.int (-1)), none, none, none]) (pc := 1) C dX1_rowAhead_1 rfl rfl rfl ?_
  refine mG_ic (pc := 2) C dX1_rowAhead_2 kIm1 ?_
  refine mG_isn (ls' := [some (.ref p0), some (.ref p1), some (.int (-1)), some (.int (-1)), none, none]) (pc := 3) C dX1_rowAhead_3 rfl rfl rfl ?_
  refine mG_ic (pc := 4) C dX1_rowAhead_4 kI0 ?_
  refine mG_is (ls' := [some (.ref p0), some (.ref p1), some (.int (-1)), some (.int (-1)), some (.int 0), none]) (pc := 5) C dX1_rowAhead_5 rfl rfl rfl ?_
  obtain ⟨r2, e3, hf⟩ := mx_bind hf
  have J4 : ∀ r23 : Int32, r23 = r2 → mG l Z X 6 0 0 46 [none, none, some (.int r23), none, none, none] [] h := by
    intro r23 q24
    subst q24
    refine mG_iload_n (pc := 46) C dX1_rowAhead_46 rfl ?_
    cases hf
    exact mG_ir (pc := 47) C E hX dX1_rowAhead_47 rfl
  refine mG_sub (ls' := [some (.ref p0), some (.ref p1), some (.int (-1)), some (.int (-1)), some (.int 0), none]) (mxLe_s (mxLe_s (mxLe_s (mxLe_s (mxLe_s (mxLe_n mxLe_z)))))) (mxLoop_ind (K := fun s1 : (Int32 × Int32 × Int32) => mG l Z X 6 0 0 7 [some (.ref p0), some (.ref p1), some (.int s1.1), some (.int s1.2.1), some (.int s1.2.2), none] [] h) ?_ _ _ e3)
  intro s1 o7 e8 hK5 hx6
  refine mG_iload (pc := 7) C dX1_rowAhead_7 rfl ?_
  refine mG_ic (pc := 9) C dX1_rowAhead_9 kI5 ?_
  refine mG_icmp_ge (pc := 10) (tgt := 46) C dX1_rowAhead_10 (by decide) (fun q9 => ?_) (fun q9 => ?_)
  · rw [if_pos q9] at e8
    exact mG_sub (mxLe_n (mxLe_n (mxLe_s (mxLe_n (mxLe_n (mxLe_n mxLe_z)))))) (J4 _ (hx6 _ (Option.some.inj e8).symm))
  · rw [if_neg q9] at e8
    refine mG_aload_n (pc := 13) C dX1_rowAhead_13 rfl ?_
    refine mG_iload (pc := 14) C dX1_rowAhead_14 rfl ?_
    refine mG_aload_n (pc := 16) C dX1_rowAhead_16 rfl ?_
    obtain ⟨r10, e11, e8⟩ := mx_bind e8
    refine mG_getR (pc := 17) C dX1_rowAhead_17 fl_X1_22 e11 ?_
    refine mG_iload (pc := 20) C dX1_rowAhead_20 rfl ?_
    obtain ⟨v12, e13, e8⟩ := mx_bind e8
    refine mG_iaload (pc := 22) C dX1_rowAhead_22 e13 ?_
    obtain ⟨u14, e15, e8⟩ := mx_bind e8
    obtain ⟨v17, e16, e8⟩ := mx_bind e8
    refine mG_cV (pc := 23) (k' := 0) (n' := 0) 6 [.int s1.2.2, .int v12] [] C hX dX1_rowAhead_23 lkV_X1_45 rfl rfl e15 (tX6_markOn hl e16) rfl rfl rfl rfl ?_
    refine mG_is (ls' := [some (.ref p0), some (.ref p1), some (.int s1.1), some (.int s1.2.1), some (.int s1.2.2), some (.int v17)]) (pc := 26) C dX1_rowAhead_26 rfl rfl rfl ?_
    refine mG_iload (pc := 28) C dX1_rowAhead_28 rfl ?_
    refine mG_iload_n (pc := 30) C dX1_rowAhead_30 rfl ?_
    obtain ⟨p20, e21, e8⟩ := mx_bind e8
    have J19 : ∀ p20' : (Int32 × Int32), p20' = p20 → mG l Z X 6 0 0 40 [some (.ref p0), some (.ref p1), some (.int p20'.1), some (.int p20'.2), some (.int s1.2.2), none] [] h := by
      intro p20' q22
      subst q22
      refine mG_ii (ls' := [some (.ref p0), some (.ref p1), some (.int p20'.1), some (.int p20'.2), some (.int (s1.2.2 + 1)), none]) (pc := 40) C dX1_rowAhead_40 rfl (kinc1 _) rfl rfl rfl ?_
      refine mG_goto (tgt := 7) (pc := 43) C dX1_rowAhead_43 (by decide) ?_
      exact mG_sub (mxLe_s (mxLe_s (mxLe_s (mxLe_s (mxLe_s (mxLe_n mxLe_z)))))) (hK5 _ (Option.some.inj e8).symm)
    refine mG_icmp_le (pc := 31) (tgt := 40) C dX1_rowAhead_31 (by decide) (fun q18 => ?_) (fun q18 => ?_)
    · rw [if_pos q18] at e21
      exact mG_sub (mxLe_s (mxLe_s (mxLe_s (mxLe_s (mxLe_s (mxLe_n mxLe_z)))))) (J19 _ (Option.some.inj e21))
    · rw [if_neg q18] at e21
      refine mG_iload (pc := 34) C dX1_rowAhead_34 rfl ?_
      refine mG_isn (ls' := [some (.ref p0), some (.ref p1), some (.int s1.2.2), some (.int s1.2.1), some (.int s1.2.2), some (.int v17)]) (pc := 36) C dX1_rowAhead_36 rfl rfl rfl ?_
      refine mG_iload (pc := 37) C dX1_rowAhead_37 rfl ?_
      refine mG_isn (ls' := [some (.ref p0), some (.ref p1), some (.int s1.2.2), some (.int v17), some (.int s1.2.2), some (.int v17)]) (pc := 39) C dX1_rowAhead_39 rfl rfl rfl ?_
      exact mG_sub (mxLe_s (mxLe_s (mxLe_s (mxLe_s (mxLe_s (mxLe_n mxLe_z)))))) (J19 _ (Option.some.inj e21))
theorem dX1_mergeAll_0 : decode cX1_mergeAll 0 = .ok (.aload_n 0, 1) := by decide +kernel
theorem dX1_mergeAll_1 : decode cX1_mergeAll 1 = .ok (.getfield 22, 3) := by decide +kernel
theorem dX1_mergeAll_4 : decode cX1_mergeAll 4 = .ok (.iconst 0, 1) := by decide +kernel
theorem dX1_mergeAll_5 : decode cX1_mergeAll 5 = .ok (.invokestatic 25, 3) := by decide +kernel
theorem dX1_mergeAll_8 : decode cX1_mergeAll 8 = .ok (.aload_n 0, 1) := by decide +kernel
theorem dX1_mergeAll_9 : decode cX1_mergeAll 9 = .ok (.iconst 0, 1) := by decide +kernel
theorem dX1_mergeAll_10 : decode cX1_mergeAll 10 = .ok (.putfield 18, 3) := by decide +kernel
theorem dX1_mergeAll_13 : decode cX1_mergeAll 13 = .ok (.iconst 0, 1) := by decide +kernel
theorem dX1_mergeAll_14 : decode cX1_mergeAll 14 = .ok (.istore_n 2, 1) := by decide +kernel
theorem dX1_mergeAll_15 : decode cX1_mergeAll 15 = .ok (.iload_n 2, 1) := by decide +kernel
theorem dX1_mergeAll_16 : decode cX1_mergeAll 16 = .ok (.bipush 100, 2) := by decide +kernel
theorem dX1_mergeAll_18 : decode cX1_mergeAll 18 = .ok (.if_icmp .ge 67, 3) := by decide +kernel
theorem dX1_mergeAll_21 : decode cX1_mergeAll 21 = .ok (.aload_n 0, 1) := by decide +kernel
theorem dX1_mergeAll_22 : decode cX1_mergeAll 22 = .ok (.aload_n 1, 1) := by decide +kernel
theorem dX1_mergeAll_23 : decode cX1_mergeAll 23 = .ok (.invokevirtual 31, 3) := by decide +kernel
theorem dX1_mergeAll_26 : decode cX1_mergeAll 26 = .ok (.istore_n 3, 1) := by decide +kernel
theorem dX1_mergeAll_27 : decode cX1_mergeAll 27 = .ok (.iload_n 3, 1) := by decide +kernel
theorem dX1_mergeAll_28 : decode cX1_mergeAll 28 = .ok (.invokestatic 35, 3) := by decide +kernel
theorem dX1_mergeAll_31 : decode cX1_mergeAll 31 = .ok (.ifCond .ne 4, 3) := by decide +kernel
theorem dX1_mergeAll_34 : decode cX1_mergeAll 34 = .ok (.return_, 1) := by decide +kernel
theorem dX1_mergeAll_35 : decode cX1_mergeAll 35 = .ok (.aload_n 0, 1) := by decide +kernel
theorem dX1_mergeAll_36 : decode cX1_mergeAll 36 = .ok (.getfield 9, 3) := by decide +kernel
theorem dX1_mergeAll_39 : decode cX1_mergeAll 39 = .ok (.iload_n 2, 1) := by decide +kernel
theorem dX1_mergeAll_40 : decode cX1_mergeAll 40 = .ok (.iload_n 3, 1) := by decide +kernel
theorem dX1_mergeAll_41 : decode cX1_mergeAll 41 = .ok (.iastore, 1) := by decide +kernel
theorem dX1_mergeAll_42 : decode cX1_mergeAll 42 = .ok (.aload_n 0, 1) := by decide +kernel
theorem dX1_mergeAll_43 : decode cX1_mergeAll 43 = .ok (.getfield 15, 3) := by decide +kernel
theorem dX1_mergeAll_46 : decode cX1_mergeAll 46 = .ok (.iload_n 2, 1) := by decide +kernel
theorem dX1_mergeAll_47 : decode cX1_mergeAll 47 = .ok (.aload_n 1, 1) := by decide +kernel
theorem dX1_mergeAll_48 : decode cX1_mergeAll 48 = .ok (.iload_n 3, 1) := by decide +kernel
theorem dX1_mergeAll_49 : decode cX1_mergeAll 49 = .ok (.aload_n 0, 1) := by decide +kernel
theorem dX1_mergeAll_50 : decode cX1_mergeAll 50 = .ok (.getfield 22, 3) := by decide +kernel
theorem dX1_mergeAll_53 : decode cX1_mergeAll 53 = .ok (.iload_n 3, 1) := by decide +kernel
theorem dX1_mergeAll_54 : decode cX1_mergeAll 54 = .ok (.iaload, 1) := by decide +kernel
theorem dX1_mergeAll_55 : decode cX1_mergeAll 55 = .ok (.invokevirtual 39, 3) := by decide +kernel
theorem dX1_mergeAll_58 : decode cX1_mergeAll 58 = .ok (.iastore, 1) := by decide +kernel
theorem dX1_mergeAll_59 : decode cX1_mergeAll 59 = .ok (.aload_n 0, 1) := by decide +kernel
theorem dX1_mergeAll_60 : decode cX1_mergeAll 60 = .ok (.getfield 22, 3) := by decide +kernel
theorem dX1_mergeAll_63 : decode cX1_mergeAll 63 = .ok (.iload_n 3, 1) := by decide +kernel
theorem dX1_mergeAll_64 : decode cX1_mergeAll 64 = .ok (.dup2, 1) := by decide +kernel
theorem dX1_mergeAll_65 : decode cX1_mergeAll 65 = .ok (.iaload, 1) := by decide +kernel
theorem dX1_mergeAll_66 : decode cX1_mergeAll 66 = .ok (.iconst 1, 1) := by decide +kernel
theorem dX1_mergeAll_67 : decode cX1_mergeAll 67 = .ok (.iadd, 1) := by decide +kernel
theorem dX1_mergeAll_68 : decode cX1_mergeAll 68 = .ok (.iastore, 1) := by decide +kernel
theorem dX1_mergeAll_69 : decode cX1_mergeAll 69 = .ok (.aload_n 0, 1) := by decide +kernel
theorem dX1_mergeAll_70 : decode cX1_mergeAll 70 = .ok (.dup, 1) := by decide +kernel
theorem dX1_mergeAll_71 : decode cX1_mergeAll 71 = .ok (.getfield 18, 3) := by decide +kernel
theorem dX1_mergeAll_74 : decode cX1_mergeAll 74 = .ok (.iconst 1, 1) := by decide +kernel
theorem dX1_mergeAll_75 : decode cX1_mergeAll 75 = .ok (.iadd, 1) := by decide +kernel
theorem dX1_mergeAll_76 : decode cX1_mergeAll 76 = .ok (.putfield 18, 3) := by decide +kernel
theorem dX1_mergeAll_79 : decode cX1_mergeAll 79 = .ok (.iinc 2 1, 3) := by decide +kernel
theorem dX1_mergeAll_82 : decode cX1_mergeAll 82 = .ok (.goto (-67), 3) := by decide +kernel
theorem dX1_mergeAll_85 : decode cX1_mergeAll 85 = .ok (.return_, 1) := by decide +kernel
def fX1_mergeAll (p0 : Nat) (p1 : Nat) (h : mxH) : Option mxH := Option.bind (gR h p0 1 3) (fun r1 => Option.bind (fJ7_fill_53178 r1 0 h) (fun o4 => Option.bind (pI o4 p0 1 2 0) (fun h5 => Option.bind (mxLoop (ρ := (mxH ⊕ mxH)) (fun s7 : (Int32 × mxH) => (if 100 ≤ s7.1 then some (Sum.inr (Sum.inr s7.2)) else Option.bind (isO s7.2 p0 1) (fun u17 => Option.bind (fX1_rowAhead p0 p1 s7.2) (fun v20 => Option.bind (fX9_isRow v20 s7.2) (fun v22 => (if v22 = 0 then some (Sum.inr (Sum.inl s7.2)) else Option.bind (gR s7.2 p0 1 0) (fun r24 => Option.bind (stI s7.2 r24 s7.1 v20) (fun h26 => Option.bind (gR h26 p0 1 1) (fun r28 => Option.bind (gR h26 p0 1 3) (fun r30 => Option.bind (ldI h26 r30 v20) (fun v32 => Option.bind (isO h26 p1 6) (fun u34 => Option.bind (fX6_thingOn p1 v20 v32 h26) (fun v37 => Option.bind (stI h26 r28 s7.1 v37) (fun h38 => Option.bind (gR h38 p0 1 3) (fun r40 => Option.bind (ldI h38 r40 v20) (fun v42 => Option.bind (stI h38 r40 v20 (v42 + 1)) (fun h44 => Option.bind (gI h44 p0 1 2) (fun v46 => Option.bind (pI h44 p0 1 2 (v46 + 1)) (fun h48 => some (Sum.inl (s7.1 + 1, h48))))))))))))))))))))) mxF (0, h5)) (Sum.elim (fun r50 : mxH => some r50) (fun r52 : mxH => some r52)))))
abbrev rmX1_mergeAll : Room := { frames := 4, cells := 0, slots := 0, locals := 89 }
set_option maxRecDepth 20000 in
theorem tX1_mergeAll {l : Launch} {Z : mxZ} (hl : l.stackTraces = false) {p0 : Nat} {p1 : Nat} {h : mxH} {out : mxH} (hf : fX1_mergeAll p0 p1 h = some out) : mxMet l Z yX1_mergeAll cX1_mergeAll 4 (none) rmX1_mergeAll [.ref p0, .ref p1] h (.inl none) out := by
  refine mxMet_of (by decide) hl (by simp [Value.category]) (Nat.le_of_ble_eq_true rfl) ?_
  intro X C E hX hin
  unfold fX1_mergeAll at hf
  refine mG_aload_n (pc := 0) C dX1_mergeAll_0 rfl ?_
  obtain ⟨r1, e2, hf⟩ := mx_bind hf
  refine mG_getR (pc := 1) C dX1_mergeAll_1 fl_X1_22 e2 ?_
  refine mG_ic (pc := 4) C dX1_mergeAll_4 kI0 ?_
  obtain ⟨o4, e3, hf⟩ := mx_bind hf
  refine mG_cS (pc := 5) (k' := 0) (n' := 0) [.ref r1, .int 0] [] C hX dX1_mergeAll_5 lkS_X1_25 rfl (tJ7_fill_53178 hl e3) rfl rfl rfl rfl ?_
  refine mG_aload_n (pc := 8) C dX1_mergeAll_8 rfl ?_
  refine mG_ic (pc := 9) C dX1_mergeAll_9 kI0 ?_
  obtain ⟨h5, e6, hf⟩ := mx_bind hf
  refine mG_putI (pc := 10) C dX1_mergeAll_10 fl_X1_18 e6 ?_
  refine mG_ic (pc := 13) C dX1_mergeAll_13 kI0 ?_
  refine mG_isn (ls' := [some (.ref p0), some (.ref p1), some (.int 0), none]) (pc := 14) C dX1_mergeAll_14 rfl rfl rfl ?_
  obtain ⟨r8, e9, hf⟩ := mx_bind hf
  have J10 : ∀ r50 : mxH, Sum.inl r50 = r8 → mG l Z X 4 0 0 34 [none, none, none, none] [] r50 := by
    intro r50 q51
    subst q51
    rw [Sum.elim_inl] at hf
    cases hf
    exact mG_vr (pc := 34) C E hX dX1_mergeAll_34 rfl
  have J11 : ∀ r52 : mxH, Sum.inr r52 = r8 → mG l Z X 4 0 0 85 [none, none, none, none] [] r52 := by
    intro r52 q53
    subst q53
    rw [Sum.elim_inr] at hf
    cases hf
    exact mG_vr (pc := 85) C E hX dX1_mergeAll_85 rfl
  refine mG_sub (ls' := [some (.ref p0), some (.ref p1), some (.int 0), none]) (mxLe_s (mxLe_s (mxLe_s (mxLe_n mxLe_z)))) (mxLoop_ind (K := fun s7 : (Int32 × mxH) => mG l Z X 4 0 0 15 [some (.ref p0), some (.ref p1), some (.int s7.1), none] [] s7.2) ?_ _ _ e9)
  intro s7 o14 e15 hK12 hx13
  refine mG_iload_n (pc := 15) C dX1_mergeAll_15 rfl ?_
  refine mG_bp (pc := 16) C dX1_mergeAll_16 kB100 ?_
  refine mG_icmp_ge (pc := 18) (tgt := 85) C dX1_mergeAll_18 (by decide) (fun q16 => ?_) (fun q16 => ?_)
  · rw [if_pos q16] at e15
    exact mG_sub (mxLe_n (mxLe_n (mxLe_n (mxLe_n mxLe_z)))) (J11 _ (hx13 _ (Option.some.inj e15).symm))
  · rw [if_neg q16] at e15
    refine mG_aload_n (pc := 21) C dX1_mergeAll_21 rfl ?_
    refine mG_aload_n (pc := 22) C dX1_mergeAll_22 rfl ?_
    obtain ⟨u17, e18, e15⟩ := mx_bind e15
    obtain ⟨v20, e19, e15⟩ := mx_bind e15
    refine mG_cV (pc := 23) (k' := 0) (n' := 0) 1 [.ref p1] [] C hX dX1_mergeAll_23 lkV_X1_31 rfl rfl e18 (tX1_rowAhead hl e19) rfl rfl rfl rfl ?_
    refine mG_isn (ls' := [some (.ref p0), some (.ref p1), some (.int s7.1), some (.int v20)]) (pc := 26) C dX1_mergeAll_26 rfl rfl rfl ?_
    refine mG_iload_n (pc := 27) C dX1_mergeAll_27 rfl ?_
    obtain ⟨v22, e21, e15⟩ := mx_bind e15
    refine mG_cS (pc := 28) (k' := 0) (n' := 0) [.int v20] [] C hX dX1_mergeAll_28 lkS_X1_35 rfl (tX9_isRow hl e21) rfl rfl rfl rfl ?_
    refine mG_if_ne (pc := 31) (tgt := 35) C dX1_mergeAll_31 (by decide) (fun q23 => ?_) (fun q23 => ?_)
    · rw [if_neg q23] at e15
      refine mG_aload_n (pc := 35) C dX1_mergeAll_35 rfl ?_
      obtain ⟨r24, e25, e15⟩ := mx_bind e15
      refine mG_getR (pc := 36) C dX1_mergeAll_36 fl_X1_9 e25 ?_
      refine mG_iload_n (pc := 39) C dX1_mergeAll_39 rfl ?_
      refine mG_iload_n (pc := 40) C dX1_mergeAll_40 rfl ?_
      obtain ⟨h26, e27, e15⟩ := mx_bind e15
      refine mG_iastore (pc := 41) C dX1_mergeAll_41 e27 ?_
      refine mG_aload_n (pc := 42) C dX1_mergeAll_42 rfl ?_
      obtain ⟨r28, e29, e15⟩ := mx_bind e15
      refine mG_getR (pc := 43) C dX1_mergeAll_43 fl_X1_15 e29 ?_
      refine mG_iload_n (pc := 46) C dX1_mergeAll_46 rfl ?_
      refine mG_aload_n (pc := 47) C dX1_mergeAll_47 rfl ?_
      refine mG_iload_n (pc := 48) C dX1_mergeAll_48 rfl ?_
      refine mG_aload_n (pc := 49) C dX1_mergeAll_49 rfl ?_
      obtain ⟨r30, e31, e15⟩ := mx_bind e15
      refine mG_getR (pc := 50) C dX1_mergeAll_50 fl_X1_22 e31 ?_
      refine mG_iload_n (pc := 53) C dX1_mergeAll_53 rfl ?_
      obtain ⟨v32, e33, e15⟩ := mx_bind e15
      refine mG_iaload (pc := 54) C dX1_mergeAll_54 e33 ?_
      obtain ⟨u34, e35, e15⟩ := mx_bind e15
      obtain ⟨v37, e36, e15⟩ := mx_bind e15
      refine mG_cV (pc := 55) (k' := 0) (n' := 0) 6 [.int v20, .int v32] [.int s7.1, .ref r28] C hX dX1_mergeAll_55 lkV_X1_39 rfl rfl e35 (tX6_thingOn hl e36) rfl rfl rfl rfl ?_
      obtain ⟨h38, e39, e15⟩ := mx_bind e15
      refine mG_iastore (pc := 58) C dX1_mergeAll_58 e39 ?_
      refine mG_aload_n (pc := 59) C dX1_mergeAll_59 rfl ?_
      obtain ⟨r40, e41, e15⟩ := mx_bind e15
      refine mG_getR (pc := 60) C dX1_mergeAll_60 fl_X1_22 e41 ?_
      refine mG_iload_n (pc := 63) C dX1_mergeAll_63 rfl ?_
      refine mG_dup2 (pc := 64) C dX1_mergeAll_64 rfl rfl ?_
      obtain ⟨v42, e43, e15⟩ := mx_bind e15
      refine mG_iaload (pc := 65) C dX1_mergeAll_65 e43 ?_
      refine mG_ic (pc := 66) C dX1_mergeAll_66 kI1 ?_
      refine mG_iadd (pc := 67) C dX1_mergeAll_67 ?_
      obtain ⟨h44, e45, e15⟩ := mx_bind e15
      refine mG_iastore (pc := 68) C dX1_mergeAll_68 e45 ?_
      refine mG_aload_n (pc := 69) C dX1_mergeAll_69 rfl ?_
      refine mG_dup (pc := 70) C dX1_mergeAll_70 rfl ?_
      obtain ⟨v46, e47, e15⟩ := mx_bind e15
      refine mG_getI (pc := 71) C dX1_mergeAll_71 fl_X1_18 e47 ?_
      refine mG_ic (pc := 74) C dX1_mergeAll_74 kI1 ?_
      refine mG_iadd (pc := 75) C dX1_mergeAll_75 ?_
      obtain ⟨h48, e49, e15⟩ := mx_bind e15
      refine mG_putI (pc := 76) C dX1_mergeAll_76 fl_X1_18 e49 ?_
      refine mG_ii (ls' := [some (.ref p0), some (.ref p1), some (.int (s7.1 + 1)), some (.int v20)]) (pc := 79) C dX1_mergeAll_79 rfl (kinc1 _) rfl rfl rfl ?_
      refine mG_goto (tgt := 15) (pc := 82) C dX1_mergeAll_82 (by decide) ?_
      exact mG_sub (mxLe_s (mxLe_s (mxLe_s (mxLe_n mxLe_z)))) (hK12 _ (Option.some.inj e15).symm)
    · rw [if_pos q23] at e15
      exact mG_sub (mxLe_n (mxLe_n (mxLe_n (mxLe_n mxLe_z)))) (J10 _ (hx13 _ (Option.some.inj e15).symm))
theorem dX1_rowOn_0 : decode cX1_rowOn 0 = .ok (.iload_n 1, 1) := by decide +kernel
theorem dX1_rowOn_1 : decode cX1_rowOn 1 = .ok (.ifCond .lt 18, 3) := by decide +kernel
theorem dX1_rowOn_4 : decode cX1_rowOn 4 = .ok (.iload_n 1, 1) := by decide +kernel
theorem dX1_rowOn_5 : decode cX1_rowOn 5 = .ok (.bipush 100, 2) := by decide +kernel
theorem dX1_rowOn_7 : decode cX1_rowOn 7 = .ok (.if_icmp .ge 12, 3) := by decide +kernel
theorem dX1_rowOn_10 : decode cX1_rowOn 10 = .ok (.aload_n 0, 1) := by decide +kernel
theorem dX1_rowOn_11 : decode cX1_rowOn 11 = .ok (.getfield 9, 3) := by decide +kernel
theorem dX1_rowOn_14 : decode cX1_rowOn 14 = .ok (.iload_n 1, 1) := by decide +kernel
theorem dX1_rowOn_15 : decode cX1_rowOn 15 = .ok (.iaload, 1) := by decide +kernel
theorem dX1_rowOn_16 : decode cX1_rowOn 16 = .ok (.goto 4, 3) := by decide +kernel
theorem dX1_rowOn_19 : decode cX1_rowOn 19 = .ok (.iconst (-1), 1) := by decide +kernel
theorem dX1_rowOn_20 : decode cX1_rowOn 20 = .ok (.ireturn, 1) := by decide +kernel
def fX1_rowOn (p0 : Nat) (p1 : Int32) (h : mxH) : Option Int32 := Option.bind (α := Int32) (if p1 < 0 then some (-1) else (if 100 ≤ p1 then some (-1) else Option.bind (gR h p0 1 0) (fun r6 => Option.bind (ldI h r6 p1) (fun v8 => some v8)))) (fun p3' : Int32 => some p3')
abbrev rmX1_rowOn : Room := { frames := 0, cells := 0, slots := 0, locals := 0 }
set_option maxRecDepth 20000 in
theorem tX1_rowOn {l : Launch} {Z : mxZ} (hl : l.stackTraces = false) {p0 : Nat} {p1 : Int32} {h : mxH} {out : Int32} (hf : fX1_rowOn p0 p1 h = some out) : mxMet l Z yX1_rowOn cX1_rowOn 2 (some .int) rmX1_rowOn [.ref p0, .int p1] h (.inl (some (.int out))) h := by
  refine mxMet_of (by decide) hl (by simp [Value.category]) (Nat.le_of_ble_eq_true rfl) ?_
  intro X C E hX hin
  unfold fX1_rowOn at hf
  refine mG_iload_n (pc := 0) C dX1_rowOn_0 rfl ?_
  obtain ⟨p3, e4, hf⟩ := mx_bind hf
  have J2 : ∀ p3' : Int32, p3' = p3 → mG l Z X 2 0 0 20 [none, none] [.int p3'] h := by
    intro p3' q10
    subst q10
    cases hf
    exact mG_ir (pc := 20) C E hX dX1_rowOn_20 rfl
  refine mG_if_lt (pc := 1) (tgt := 19) C dX1_rowOn_1 (by decide) (fun q1 => ?_) (fun q1 => ?_)
  · rw [if_pos q1] at e4
    refine mG_ic (pc := 19) C dX1_rowOn_19 kIm1 ?_
    exact mG_sub (mxLe_n (mxLe_n mxLe_z)) (J2 _ (Option.some.inj e4))
  · rw [if_neg q1] at e4
    refine mG_iload_n (pc := 4) C dX1_rowOn_4 rfl ?_
    refine mG_bp (pc := 5) C dX1_rowOn_5 kB100 ?_
    refine mG_icmp_ge (pc := 7) (tgt := 19) C dX1_rowOn_7 (by decide) (fun q5 => ?_) (fun q5 => ?_)
    · rw [if_pos q5] at e4
      refine mG_ic (pc := 19) C dX1_rowOn_19 kIm1 ?_
      exact mG_sub (mxLe_n (mxLe_n mxLe_z)) (J2 _ (Option.some.inj e4))
    · rw [if_neg q5] at e4
      refine mG_aload_n (pc := 10) C dX1_rowOn_10 rfl ?_
      obtain ⟨r6, e7, e4⟩ := mx_bind e4
      refine mG_getR (pc := 11) C dX1_rowOn_11 fl_X1_9 e7 ?_
      refine mG_iload_n (pc := 14) C dX1_rowOn_14 rfl ?_
      obtain ⟨v8, e9, e4⟩ := mx_bind e4
      refine mG_iaload (pc := 15) C dX1_rowOn_15 e9 ?_
      refine mG_goto (tgt := 20) (pc := 16) C dX1_rowOn_16 (by decide) ?_
      exact mG_sub (mxLe_n (mxLe_n mxLe_z)) (J2 _ (Option.some.inj e4))
theorem dX1_thingOn_0 : decode cX1_thingOn 0 = .ok (.iload_n 1, 1) := by decide +kernel
theorem dX1_thingOn_1 : decode cX1_thingOn 1 = .ok (.ifCond .lt 18, 3) := by decide +kernel
theorem dX1_thingOn_4 : decode cX1_thingOn 4 = .ok (.iload_n 1, 1) := by decide +kernel
theorem dX1_thingOn_5 : decode cX1_thingOn 5 = .ok (.bipush 100, 2) := by decide +kernel
theorem dX1_thingOn_7 : decode cX1_thingOn 7 = .ok (.if_icmp .ge 12, 3) := by decide +kernel
theorem dX1_thingOn_10 : decode cX1_thingOn 10 = .ok (.aload_n 0, 1) := by decide +kernel
theorem dX1_thingOn_11 : decode cX1_thingOn 11 = .ok (.getfield 15, 3) := by decide +kernel
theorem dX1_thingOn_14 : decode cX1_thingOn 14 = .ok (.iload_n 1, 1) := by decide +kernel
theorem dX1_thingOn_15 : decode cX1_thingOn 15 = .ok (.iaload, 1) := by decide +kernel
theorem dX1_thingOn_16 : decode cX1_thingOn 16 = .ok (.goto 4, 3) := by decide +kernel
theorem dX1_thingOn_19 : decode cX1_thingOn 19 = .ok (.iconst (-1), 1) := by decide +kernel
theorem dX1_thingOn_20 : decode cX1_thingOn 20 = .ok (.ireturn, 1) := by decide +kernel
def fX1_thingOn (p0 : Nat) (p1 : Int32) (h : mxH) : Option Int32 := Option.bind (α := Int32) (if p1 < 0 then some (-1) else (if 100 ≤ p1 then some (-1) else Option.bind (gR h p0 1 1) (fun r6 => Option.bind (ldI h r6 p1) (fun v8 => some v8)))) (fun p3' : Int32 => some p3')
abbrev rmX1_thingOn : Room := { frames := 0, cells := 0, slots := 0, locals := 0 }
set_option maxRecDepth 20000 in
theorem tX1_thingOn {l : Launch} {Z : mxZ} (hl : l.stackTraces = false) {p0 : Nat} {p1 : Int32} {h : mxH} {out : Int32} (hf : fX1_thingOn p0 p1 h = some out) : mxMet l Z yX1_thingOn cX1_thingOn 2 (some .int) rmX1_thingOn [.ref p0, .int p1] h (.inl (some (.int out))) h := by
  refine mxMet_of (by decide) hl (by simp [Value.category]) (Nat.le_of_ble_eq_true rfl) ?_
  intro X C E hX hin
  unfold fX1_thingOn at hf
  refine mG_iload_n (pc := 0) C dX1_thingOn_0 rfl ?_
  obtain ⟨p3, e4, hf⟩ := mx_bind hf
  have J2 : ∀ p3' : Int32, p3' = p3 → mG l Z X 2 0 0 20 [none, none] [.int p3'] h := by
    intro p3' q10
    subst q10
    cases hf
    exact mG_ir (pc := 20) C E hX dX1_thingOn_20 rfl
  refine mG_if_lt (pc := 1) (tgt := 19) C dX1_thingOn_1 (by decide) (fun q1 => ?_) (fun q1 => ?_)
  · rw [if_pos q1] at e4
    refine mG_ic (pc := 19) C dX1_thingOn_19 kIm1 ?_
    exact mG_sub (mxLe_n (mxLe_n mxLe_z)) (J2 _ (Option.some.inj e4))
  · rw [if_neg q1] at e4
    refine mG_iload_n (pc := 4) C dX1_thingOn_4 rfl ?_
    refine mG_bp (pc := 5) C dX1_thingOn_5 kB100 ?_
    refine mG_icmp_ge (pc := 7) (tgt := 19) C dX1_thingOn_7 (by decide) (fun q5 => ?_) (fun q5 => ?_)
    · rw [if_pos q5] at e4
      refine mG_ic (pc := 19) C dX1_thingOn_19 kIm1 ?_
      exact mG_sub (mxLe_n (mxLe_n mxLe_z)) (J2 _ (Option.some.inj e4))
    · rw [if_neg q5] at e4
      refine mG_aload_n (pc := 10) C dX1_thingOn_10 rfl ?_
      obtain ⟨r6, e7, e4⟩ := mx_bind e4
      refine mG_getR (pc := 11) C dX1_thingOn_11 fl_X1_15 e7 ?_
      refine mG_iload_n (pc := 14) C dX1_thingOn_14 rfl ?_
      obtain ⟨v8, e9, e4⟩ := mx_bind e4
      refine mG_iaload (pc := 15) C dX1_thingOn_15 e9 ?_
      refine mG_goto (tgt := 20) (pc := 16) C dX1_thingOn_16 (by decide) ?_
      exact mG_sub (mxLe_n (mxLe_n mxLe_z)) (J2 _ (Option.some.inj e4))
theorem dX1_isAmong_0 : decode cX1_isAmong 0 = .ok (.aload_n 0, 1) := by decide +kernel
theorem dX1_isAmong_1 : decode cX1_isAmong 1 = .ok (.iload_n 2, 1) := by decide +kernel
theorem dX1_isAmong_2 : decode cX1_isAmong 2 = .ok (.invokevirtual 59, 3) := by decide +kernel
theorem dX1_isAmong_5 : decode cX1_isAmong 5 = .ok (.istore_n 3, 1) := by decide +kernel
theorem dX1_isAmong_6 : decode cX1_isAmong 6 = .ok (.iload_n 3, 1) := by decide +kernel
theorem dX1_isAmong_7 : decode cX1_isAmong 7 = .ok (.invokestatic 35, 3) := by decide +kernel
theorem dX1_isAmong_10 : decode cX1_isAmong 10 = .ok (.ifCond .eq 16, 3) := by decide +kernel
theorem dX1_isAmong_13 : decode cX1_isAmong 13 = .ok (.iload_n 1, 1) := by decide +kernel
theorem dX1_isAmong_14 : decode cX1_isAmong 14 = .ok (.iload_n 3, 1) := by decide +kernel
theorem dX1_isAmong_15 : decode cX1_isAmong 15 = .ok (.ishr, 1) := by decide +kernel
theorem dX1_isAmong_16 : decode cX1_isAmong 16 = .ok (.iconst 1, 1) := by decide +kernel
theorem dX1_isAmong_17 : decode cX1_isAmong 17 = .ok (.iand, 1) := by decide +kernel
theorem dX1_isAmong_18 : decode cX1_isAmong 18 = .ok (.iconst 1, 1) := by decide +kernel
theorem dX1_isAmong_19 : decode cX1_isAmong 19 = .ok (.if_icmp .ne 7, 3) := by decide +kernel
theorem dX1_isAmong_22 : decode cX1_isAmong 22 = .ok (.iconst 1, 1) := by decide +kernel
theorem dX1_isAmong_23 : decode cX1_isAmong 23 = .ok (.goto 4, 3) := by decide +kernel
theorem dX1_isAmong_26 : decode cX1_isAmong 26 = .ok (.iconst 0, 1) := by decide +kernel
theorem dX1_isAmong_27 : decode cX1_isAmong 27 = .ok (.ireturn, 1) := by decide +kernel
def fX1_isAmong (p0 : Nat) (p1 : Int32) (p2 : Int32) (h : mxH) : Option Int32 := Option.bind (isO h p0 1) (fun u1 => Option.bind (fX1_rowOn p0 p2 h) (fun v4 => Option.bind (fX9_isRow v4 h) (fun v6 => Option.bind (α := Int32) (if v6 = 0 then some 0 else (if ((p1 >>> (v4 &&& 31)) &&& 1) = 1 then some 1 else some 0)) (fun p9' : Int32 => Option.bind (mxZ1 p9') (fun v12 => some v12)))))
abbrev rmX1_isAmong : Room := { frames := 1, cells := 0, slots := 0, locals := 21 }
set_option maxRecDepth 20000 in
theorem tX1_isAmong {l : Launch} {Z : mxZ} (hl : l.stackTraces = false) {p0 : Nat} {p1 : Int32} {p2 : Int32} {h : mxH} {out : Int32} (hf : fX1_isAmong p0 p1 p2 h = some out) : mxMet l Z yX1_isAmong cX1_isAmong 4 (some .boolean) rmX1_isAmong [.ref p0, .int p1, .int p2] h (.inl (some (.int out))) h := by
  refine mxMet_of (by decide) hl (by simp [Value.category]) (Nat.le_of_ble_eq_true rfl) ?_
  intro X C E hX hin
  unfold fX1_isAmong at hf
  refine mG_aload_n (pc := 0) C dX1_isAmong_0 rfl ?_
  refine mG_iload_n (pc := 1) C dX1_isAmong_1 rfl ?_
  obtain ⟨u1, e2, hf⟩ := mx_bind hf
  obtain ⟨v4, e3, hf⟩ := mx_bind hf
  refine mG_cV (pc := 2) (k' := 0) (n' := 0) 1 [.int p2] [] C hX dX1_isAmong_2 lkV_X1_59 rfl rfl e2 (tX1_rowOn hl e3) rfl rfl rfl rfl ?_
  refine mG_isn (ls' := [some (.ref p0), some (.int p1), some (.int p2), some (.int v4)]) (pc := 5) C dX1_isAmong_5 rfl rfl rfl ?_
  refine mG_iload_n (pc := 6) C dX1_isAmong_6 rfl ?_
  obtain ⟨v6, e5, hf⟩ := mx_bind hf
  refine mG_cS (pc := 7) (k' := 0) (n' := 0) [.int v4] [] C hX dX1_isAmong_7 lkS_X1_35 rfl (tX9_isRow hl e5) rfl rfl rfl rfl ?_
  obtain ⟨p9, e10, hf⟩ := mx_bind hf
  have J8 : ∀ p9' : Int32, p9' = p9 → mG l Z X 4 0 0 27 [none, none, none, none] [.int p9'] h := by
    intro p9' q14
    subst q14
    obtain ⟨v12, e13, hf⟩ := mx_bind hf
    cases hf
    exact mG_zr (pc := 27) C e13 E hX dX1_isAmong_27 rfl
  refine mG_if_eq (pc := 10) (tgt := 26) C dX1_isAmong_10 (by decide) (fun q7 => ?_) (fun q7 => ?_)
  · rw [if_pos q7] at e10
    refine mG_ic (pc := 26) C dX1_isAmong_26 kI0 ?_
    exact mG_sub (mxLe_n (mxLe_n (mxLe_n (mxLe_n mxLe_z)))) (J8 _ (Option.some.inj e10))
  · rw [if_neg q7] at e10
    refine mG_iload_n (pc := 13) C dX1_isAmong_13 rfl ?_
    refine mG_iload_n (pc := 14) C dX1_isAmong_14 rfl ?_
    refine mG_ishr (pc := 15) C dX1_isAmong_15 ?_
    refine mG_ic (pc := 16) C dX1_isAmong_16 kI1 ?_
    refine mG_iand (pc := 17) C dX1_isAmong_17 ?_
    refine mG_ic (pc := 18) C dX1_isAmong_18 kI1 ?_
    refine mG_icmp_ne (pc := 19) (tgt := 26) C dX1_isAmong_19 (by decide) (fun q11 => ?_) (fun q11 => ?_)
    · rw [if_neg q11] at e10
      refine mG_ic (pc := 26) C dX1_isAmong_26 kI0 ?_
      exact mG_sub (mxLe_n (mxLe_n (mxLe_n (mxLe_n mxLe_z)))) (J8 _ (Option.some.inj e10))
    · rw [if_pos q11] at e10
      refine mG_ic (pc := 22) C dX1_isAmong_22 kI1 ?_
      refine mG_goto (tgt := 27) (pc := 23) C dX1_isAmong_23 (by decide) ?_
      exact mG_sub (mxLe_n (mxLe_n (mxLe_n (mxLe_n mxLe_z)))) (J8 _ (Option.some.inj e10))
theorem dX1_countItems_0 : decode cX1_countItems 0 = .ok (.iconst 0, 1) := by decide +kernel
theorem dX1_countItems_1 : decode cX1_countItems 1 = .ok (.istore_n 2, 1) := by decide +kernel
theorem dX1_countItems_2 : decode cX1_countItems 2 = .ok (.iconst 0, 1) := by decide +kernel
theorem dX1_countItems_3 : decode cX1_countItems 3 = .ok (.istore_n 3, 1) := by decide +kernel
theorem dX1_countItems_4 : decode cX1_countItems 4 = .ok (.iload_n 3, 1) := by decide +kernel
theorem dX1_countItems_5 : decode cX1_countItems 5 = .ok (.aload_n 0, 1) := by decide +kernel
theorem dX1_countItems_6 : decode cX1_countItems 6 = .ok (.getfield 18, 3) := by decide +kernel
theorem dX1_countItems_9 : decode cX1_countItems 9 = .ok (.if_icmp .ge 21, 3) := by decide +kernel
theorem dX1_countItems_12 : decode cX1_countItems 12 = .ok (.aload_n 0, 1) := by decide +kernel
theorem dX1_countItems_13 : decode cX1_countItems 13 = .ok (.iload_n 1, 1) := by decide +kernel
theorem dX1_countItems_14 : decode cX1_countItems 14 = .ok (.iload_n 3, 1) := by decide +kernel
theorem dX1_countItems_15 : decode cX1_countItems 15 = .ok (.invokevirtual 55, 3) := by decide +kernel
theorem dX1_countItems_18 : decode cX1_countItems 18 = .ok (.ifCond .eq 6, 3) := by decide +kernel
theorem dX1_countItems_21 : decode cX1_countItems 21 = .ok (.iinc 2 1, 3) := by decide +kernel
theorem dX1_countItems_24 : decode cX1_countItems 24 = .ok (.iinc 3 1, 3) := by decide +kernel
theorem dX1_countItems_27 : decode cX1_countItems 27 = .ok (.goto (-23), 3) := by decide +kernel
theorem dX1_countItems_30 : decode cX1_countItems 30 = .ok (.iload_n 2, 1) := by decide +kernel
theorem dX1_countItems_31 : decode cX1_countItems 31 = .ok (.ireturn, 1) := by decide +kernel
def fX1_countItems (p0 : Nat) (p1 : Int32) (h : mxH) : Option Int32 := Option.bind (mxLoop (ρ := Int32) (fun s1 : (Int32 × Int32) => Option.bind (gI h p0 1 2) (fun v9 => (if v9 ≤ s1.2 then some (Sum.inr s1.1) else Option.bind (isO h p0 1) (fun u12 => Option.bind (fX1_isAmong p0 p1 s1.2 h) (fun v15 => Option.bind (α := Int32) (if v15 = 0 then some s1.1 else some (s1.1 + 1)) (fun p18' : Int32 => some (Sum.inl (p18', s1.2 + 1)))))))) mxF (0, 0)) (fun r21 : Int32 => some r21)
abbrev rmX1_countItems : Room := { frames := 2, cells := 0, slots := 0, locals := 44 }
set_option maxRecDepth 20000 in
theorem tX1_countItems {l : Launch} {Z : mxZ} (hl : l.stackTraces = false) {p0 : Nat} {p1 : Int32} {h : mxH} {out : Int32} (hf : fX1_countItems p0 p1 h = some out) : mxMet l Z yX1_countItems cX1_countItems 4 (some .int) rmX1_countItems [.ref p0, .int p1] h (.inl (some (.int out))) h := by
  refine mxMet_of (by decide) hl (by simp [Value.category]) (Nat.le_of_ble_eq_true rfl) ?_
  intro X C E hX hin
  unfold fX1_countItems at hf
  refine mG_ic (pc := 0) C dX1_countItems_0 kI0 ?_
  refine mG_isn (ls' := [some (.ref p0), some (.int p1), some (.int 0), none]) (pc := 1) C dX1_countItems_1 rfl rfl rfl ?_
  refine mG_ic (pc := 2) C dX1_countItems_2 kI0 ?_
  refine mG_isn (ls' := [some (.ref p0), some (.int p1), some (.int 0), some (.int 0)]) (pc := 3) C dX1_countItems_3 rfl rfl rfl ?_
  obtain ⟨r2, e3, hf⟩ := mx_bind hf
  have J4 : ∀ r21 : Int32, r21 = r2 → mG l Z X 4 0 0 30 [none, none, some (.int r21), none] [] h := by
    intro r21 q22
    subst q22
    refine mG_iload_n (pc := 30) C dX1_countItems_30 rfl ?_
    cases hf
    exact mG_ir (pc := 31) C E hX dX1_countItems_31 rfl
  refine mG_sub (ls' := [some (.ref p0), some (.int p1), some (.int 0), some (.int 0)]) (mxLe_s (mxLe_s (mxLe_s (mxLe_s mxLe_z)))) (mxLoop_ind (K := fun s1 : (Int32 × Int32) => mG l Z X 4 0 0 4 [some (.ref p0), some (.int p1), some (.int s1.1), some (.int s1.2)] [] h) ?_ _ _ e3)
  intro s1 o7 e8 hK5 hx6
  refine mG_iload_n (pc := 4) C dX1_countItems_4 rfl ?_
  refine mG_aload_n (pc := 5) C dX1_countItems_5 rfl ?_
  obtain ⟨v9, e10, e8⟩ := mx_bind e8
  refine mG_getI (pc := 6) C dX1_countItems_6 fl_X1_18 e10 ?_
  refine mG_icmp_ge (pc := 9) (tgt := 30) C dX1_countItems_9 (by decide) (fun q11 => ?_) (fun q11 => ?_)
  · rw [if_pos q11] at e8
    exact mG_sub (mxLe_n (mxLe_n (mxLe_s (mxLe_n mxLe_z)))) (J4 _ (hx6 _ (Option.some.inj e8).symm))
  · rw [if_neg q11] at e8
    refine mG_aload_n (pc := 12) C dX1_countItems_12 rfl ?_
    refine mG_iload_n (pc := 13) C dX1_countItems_13 rfl ?_
    refine mG_iload_n (pc := 14) C dX1_countItems_14 rfl ?_
    obtain ⟨u12, e13, e8⟩ := mx_bind e8
    obtain ⟨v15, e14, e8⟩ := mx_bind e8
    refine mG_cV (pc := 15) (k' := 0) (n' := 0) 1 [.int p1, .int s1.2] [] C hX dX1_countItems_15 lkV_X1_55 rfl rfl e13 (tX1_isAmong hl e14) rfl rfl rfl rfl ?_
    obtain ⟨p18, e19, e8⟩ := mx_bind e8
    have J17 : ∀ p18' : Int32, p18' = p18 → mG l Z X 4 0 0 24 [some (.ref p0), some (.int p1), some (.int p18'), some (.int s1.2)] [] h := by
      intro p18' q20
      subst q20
      refine mG_ii (ls' := [some (.ref p0), some (.int p1), some (.int p18'), some (.int (s1.2 + 1))]) (pc := 24) C dX1_countItems_24 rfl (kinc1 _) rfl rfl rfl ?_
      refine mG_goto (tgt := 4) (pc := 27) C dX1_countItems_27 (by decide) ?_
      exact mG_sub (mxLe_s (mxLe_s (mxLe_s (mxLe_s mxLe_z)))) (hK5 _ (Option.some.inj e8).symm)
    refine mG_if_eq (pc := 18) (tgt := 24) C dX1_countItems_18 (by decide) (fun q16 => ?_) (fun q16 => ?_)
    · rw [if_pos q16] at e19
      exact mG_sub (mxLe_s (mxLe_s (mxLe_s (mxLe_s mxLe_z)))) (J17 _ (Option.some.inj e19))
    · rw [if_neg q16] at e19
      refine mG_ii (ls' := [some (.ref p0), some (.int p1), some (.int (s1.1 + 1)), some (.int s1.2)]) (pc := 21) C dX1_countItems_21 rfl (kinc1 _) rfl rfl rfl ?_
      exact mG_sub (mxLe_s (mxLe_s (mxLe_s (mxLe_s mxLe_z)))) (J17 _ (Option.some.inj e19))
theorem dX1_countComparisons_0 : decode cX1_countComparisons 0 = .ok (.aload_n 0, 1) := by decide +kernel
theorem dX1_countComparisons_1 : decode cX1_countComparisons 1 = .ok (.iload_n 1, 1) := by decide +kernel
theorem dX1_countComparisons_2 : decode cX1_countComparisons 2 = .ok (.invokevirtual 51, 3) := by decide +kernel
theorem dX1_countComparisons_5 : decode cX1_countComparisons 5 = .ok (.istore_n 3, 1) := by decide +kernel
theorem dX1_countComparisons_6 : decode cX1_countComparisons 6 = .ok (.aload_n 0, 1) := by decide +kernel
theorem dX1_countComparisons_7 : decode cX1_countComparisons 7 = .ok (.iload_n 2, 1) := by decide +kernel
theorem dX1_countComparisons_8 : decode cX1_countComparisons 8 = .ok (.invokevirtual 51, 3) := by decide +kernel
theorem dX1_countComparisons_11 : decode cX1_countComparisons 11 = .ok (.istore 4, 2) := by decide +kernel
theorem dX1_countComparisons_13 : decode cX1_countComparisons 13 = .ok (.iconst 0, 1) := by decide +kernel
theorem dX1_countComparisons_14 : decode cX1_countComparisons 14 = .ok (.istore 5, 2) := by decide +kernel
theorem dX1_countComparisons_16 : decode cX1_countComparisons 16 = .ok (.iconst 0, 1) := by decide +kernel
theorem dX1_countComparisons_17 : decode cX1_countComparisons 17 = .ok (.istore 6, 2) := by decide +kernel
theorem dX1_countComparisons_19 : decode cX1_countComparisons 19 = .ok (.iload 6, 2) := by decide +kernel
theorem dX1_countComparisons_21 : decode cX1_countComparisons 21 = .ok (.aload_n 0, 1) := by decide +kernel
theorem dX1_countComparisons_22 : decode cX1_countComparisons 22 = .ok (.getfield 18, 3) := by decide +kernel
theorem dX1_countComparisons_25 : decode cX1_countComparisons 25 = .ok (.if_icmp .ge 53, 3) := by decide +kernel
theorem dX1_countComparisons_28 : decode cX1_countComparisons 28 = .ok (.iload_n 3, 1) := by decide +kernel
theorem dX1_countComparisons_29 : decode cX1_countComparisons 29 = .ok (.ifCond .le 49, 3) := by decide +kernel
theorem dX1_countComparisons_32 : decode cX1_countComparisons 32 = .ok (.iload 4, 2) := by decide +kernel
theorem dX1_countComparisons_34 : decode cX1_countComparisons 34 = .ok (.ifCond .le 44, 3) := by decide +kernel
theorem dX1_countComparisons_37 : decode cX1_countComparisons 37 = .ok (.aload_n 0, 1) := by decide +kernel
theorem dX1_countComparisons_38 : decode cX1_countComparisons 38 = .ok (.iload_n 1, 1) := by decide +kernel
theorem dX1_countComparisons_39 : decode cX1_countComparisons 39 = .ok (.iload 6, 2) := by decide +kernel
theorem dX1_countComparisons_41 : decode cX1_countComparisons 41 = .ok (.invokevirtual 55, 3) := by decide +kernel
theorem dX1_countComparisons_44 : decode cX1_countComparisons 44 = .ok (.ifCond .eq 12, 3) := by decide +kernel
theorem dX1_countComparisons_47 : decode cX1_countComparisons 47 = .ok (.iinc 3 (-1), 3) := by decide +kernel
theorem dX1_countComparisons_50 : decode cX1_countComparisons 50 = .ok (.iinc 5 1, 3) := by decide +kernel
theorem dX1_countComparisons_53 : decode cX1_countComparisons 53 = .ok (.goto 19, 3) := by decide +kernel
theorem dX1_countComparisons_56 : decode cX1_countComparisons 56 = .ok (.aload_n 0, 1) := by decide +kernel
theorem dX1_countComparisons_57 : decode cX1_countComparisons 57 = .ok (.iload_n 2, 1) := by decide +kernel
theorem dX1_countComparisons_58 : decode cX1_countComparisons 58 = .ok (.iload 6, 2) := by decide +kernel
theorem dX1_countComparisons_60 : decode cX1_countComparisons 60 = .ok (.invokevirtual 55, 3) := by decide +kernel
theorem dX1_countComparisons_63 : decode cX1_countComparisons 63 = .ok (.ifCond .eq 9, 3) := by decide +kernel
theorem dX1_countComparisons_66 : decode cX1_countComparisons 66 = .ok (.iinc 4 (-1), 3) := by decide +kernel
theorem dX1_countComparisons_69 : decode cX1_countComparisons 69 = .ok (.iinc 5 1, 3) := by decide +kernel
theorem dX1_countComparisons_72 : decode cX1_countComparisons 72 = .ok (.iinc 6 1, 3) := by decide +kernel
theorem dX1_countComparisons_75 : decode cX1_countComparisons 75 = .ok (.goto (-56), 3) := by decide +kernel
theorem dX1_countComparisons_78 : decode cX1_countComparisons 78 = .ok (.iload 5, 2) := by decide +kernel
theorem dX1_countComparisons_80 : decode cX1_countComparisons 80 = .ok (.ireturn, 1) := by decide +kernel
def fX1_countComparisons (p0 : Nat) (p1 : Int32) (p2 : Int32) (h : mxH) : Option Int32 := Option.bind (isO h p0 1) (fun u1 => Option.bind (fX1_countItems p0 p1 h) (fun v4 => Option.bind (isO h p0 1) (fun u5 => Option.bind (fX1_countItems p0 p2 h) (fun v8 => Option.bind (mxLoop (ρ := Int32) (fun s9 : (Int32 × Int32 × Int32 × Int32) => Option.bind (gI h p0 1 2) (fun v17 => (if v17 ≤ s9.2.2.2 then some (Sum.inr s9.2.2.1) else (if s9.1 ≤ 0 then some (Sum.inr s9.2.2.1) else (if s9.2.1 ≤ 0 then some (Sum.inr s9.2.2.1) else Option.bind (isO h p0 1) (fun u22 => Option.bind (fX1_isAmong p0 p1 s9.2.2.2 h) (fun v25 => Option.bind (α := (Int32 × Int32 × Int32)) (if v25 = 0 then Option.bind (isO h p0 1) (fun u30 => Option.bind (fX1_isAmong p0 p2 s9.2.2.2 h) (fun v33 => (if v33 = 0 then some (s9.1, s9.2.1, s9.2.2.1) else some (s9.1, s9.2.1 - 1, s9.2.2.1 + 1)))) else some (s9.1 - 1, s9.2.1, s9.2.2.1 + 1)) (fun p28' : (Int32 × Int32 × Int32) => some (Sum.inl (p28'.1, p28'.2.1, p28'.2.2, s9.2.2.2 + 1)))))))))) mxF (v4, v8, 0, 0)) (fun r36 : Int32 => some r36)))))
abbrev rmX1_countComparisons : Room := { frames := 3, cells := 0, slots := 0, locals := 67 }
set_option maxRecDepth 20000 in
theorem tX1_countComparisons {l : Launch} {Z : mxZ} (hl : l.stackTraces = false) {p0 : Nat} {p1 : Int32} {p2 : Int32} {h : mxH} {out : Int32} (hf : fX1_countComparisons p0 p1 p2 h = some out) : mxMet l Z yX1_countComparisons cX1_countComparisons 7 (some .int) rmX1_countComparisons [.ref p0, .int p1, .int p2] h (.inl (some (.int out))) h := by
  refine mxMet_of (by decide) hl (by simp [Value.category]) (Nat.le_of_ble_eq_true rfl) ?_
  intro X C E hX hin
  unfold fX1_countComparisons at hf
  refine mG_aload_n (pc := 0) C dX1_countComparisons_0 rfl ?_
  refine mG_iload_n (pc := 1) C dX1_countComparisons_1 rfl ?_
  obtain ⟨u1, e2, hf⟩ := mx_bind hf
  obtain ⟨v4, e3, hf⟩ := mx_bind hf
  refine mG_cV (pc := 2) (k' := 0) (n' := 0) 1 [.int p1] [] C hX dX1_countComparisons_2 lkV_X1_51 rfl rfl e2 (tX1_countItems hl e3) rfl rfl rfl rfl ?_
  refine mG_isn (ls' := [some (.ref p0), some (.int p1), some (.int p2), some (.int v4), none, none, none]) (pc := 5) C dX1_countComparisons_5 rfl rfl rfl ?_
  refine mG_aload_n (pc := 6) C dX1_countComparisons_6 rfl ?_
  refine mG_iload_n (pc := 7) C dX1_countComparisons_7 rfl ?_
  obtain ⟨u5, e6, hf⟩ := mx_bind hf
  obtain ⟨v8, e7, hf⟩ := mx_bind hf
  refine mG_cV (pc := 8) (k' := 0) (n' := 0) 1 [.int p2] [] C hX dX1_countComparisons_8 lkV_X1_51 rfl rfl e6 (tX1_countItems hl e7) rfl rfl rfl rfl ?_
  refine mG_is (ls' := [some (.ref p0), some (.int p1), some (.int p2), some (.int v4), some (.int v8), none, none]) (pc := 11) C dX1_countComparisons_11 rfl rfl rfl ?_
  refine mG_ic (pc := 13) C dX1_countComparisons_13 kI0 ?_
  refine mG_is (ls' := [some (.ref p0), some (.int p1), some (.int p2), some (.int v4), some (.int v8), some (.int 0), none]) (pc := 14) C dX1_countComparisons_14 rfl rfl rfl ?_
  refine mG_ic (pc := 16) C dX1_countComparisons_16 kI0 ?_
  refine mG_is (ls' := [some (.ref p0), some (.int p1), some (.int p2), some (.int v4), some (.int v8), some (.int 0), some (.int 0)]) (pc := 17) C dX1_countComparisons_17 rfl rfl rfl ?_
  obtain ⟨r10, e11, hf⟩ := mx_bind hf
  have J12 : ∀ r36 : Int32, r36 = r10 → mG l Z X 7 0 0 78 [none, none, none, none, none, some (.int r36), none] [] h := by
    intro r36 q37
    subst q37
    refine mG_iload (pc := 78) C dX1_countComparisons_78 rfl ?_
    cases hf
    exact mG_ir (pc := 80) C E hX dX1_countComparisons_80 rfl
  refine mG_sub (ls' := [some (.ref p0), some (.int p1), some (.int p2), some (.int v4), some (.int v8), some (.int 0), some (.int 0)]) (mxLe_s (mxLe_s (mxLe_s (mxLe_s (mxLe_s (mxLe_s (mxLe_s mxLe_z))))))) (mxLoop_ind (K := fun s9 : (Int32 × Int32 × Int32 × Int32) => mG l Z X 7 0 0 19 [some (.ref p0), some (.int p1), some (.int p2), some (.int s9.1), some (.int s9.2.1), some (.int s9.2.2.1), some (.int s9.2.2.2)] [] h) ?_ _ _ e11)
  intro s9 o15 e16 hK13 hx14
  refine mG_iload (pc := 19) C dX1_countComparisons_19 rfl ?_
  refine mG_aload_n (pc := 21) C dX1_countComparisons_21 rfl ?_
  obtain ⟨v17, e18, e16⟩ := mx_bind e16
  refine mG_getI (pc := 22) C dX1_countComparisons_22 fl_X1_18 e18 ?_
  refine mG_icmp_ge (pc := 25) (tgt := 78) C dX1_countComparisons_25 (by decide) (fun q19 => ?_) (fun q19 => ?_)
  · rw [if_pos q19] at e16
    exact mG_sub (mxLe_n (mxLe_n (mxLe_n (mxLe_n (mxLe_n (mxLe_s (mxLe_n mxLe_z))))))) (J12 _ (hx14 _ (Option.some.inj e16).symm))
  · rw [if_neg q19] at e16
    refine mG_iload_n (pc := 28) C dX1_countComparisons_28 rfl ?_
    refine mG_if_le (pc := 29) (tgt := 78) C dX1_countComparisons_29 (by decide) (fun q20 => ?_) (fun q20 => ?_)
    · rw [if_pos q20] at e16
      exact mG_sub (mxLe_n (mxLe_n (mxLe_n (mxLe_n (mxLe_n (mxLe_s (mxLe_n mxLe_z))))))) (J12 _ (hx14 _ (Option.some.inj e16).symm))
    · rw [if_neg q20] at e16
      refine mG_iload (pc := 32) C dX1_countComparisons_32 rfl ?_
      refine mG_if_le (pc := 34) (tgt := 78) C dX1_countComparisons_34 (by decide) (fun q21 => ?_) (fun q21 => ?_)
      · rw [if_pos q21] at e16
        exact mG_sub (mxLe_n (mxLe_n (mxLe_n (mxLe_n (mxLe_n (mxLe_s (mxLe_n mxLe_z))))))) (J12 _ (hx14 _ (Option.some.inj e16).symm))
      · rw [if_neg q21] at e16
        refine mG_aload_n (pc := 37) C dX1_countComparisons_37 rfl ?_
        refine mG_iload_n (pc := 38) C dX1_countComparisons_38 rfl ?_
        refine mG_iload (pc := 39) C dX1_countComparisons_39 rfl ?_
        obtain ⟨u22, e23, e16⟩ := mx_bind e16
        obtain ⟨v25, e24, e16⟩ := mx_bind e16
        refine mG_cV (pc := 41) (k' := 0) (n' := 0) 1 [.int p1, .int s9.2.2.2] [] C hX dX1_countComparisons_41 lkV_X1_55 rfl rfl e23 (tX1_isAmong hl e24) rfl rfl rfl rfl ?_
        obtain ⟨p28, e29, e16⟩ := mx_bind e16
        have J27 : ∀ p28' : (Int32 × Int32 × Int32), p28' = p28 → mG l Z X 7 0 0 72 [some (.ref p0), some (.int p1), some (.int p2), some (.int p28'.1), some (.int p28'.2.1), some (.int p28'.2.2), some (.int s9.2.2.2)] [] h := by
          intro p28' q35
          subst q35
          refine mG_ii (ls' := [some (.ref p0), some (.int p1), some (.int p2), some (.int p28'.1), some (.int p28'.2.1), some (.int p28'.2.2), some (.int (s9.2.2.2 + 1))]) (pc := 72) C dX1_countComparisons_72 rfl (kinc1 _) rfl rfl rfl ?_
          refine mG_goto (tgt := 19) (pc := 75) C dX1_countComparisons_75 (by decide) ?_
          exact mG_sub (mxLe_s (mxLe_s (mxLe_s (mxLe_s (mxLe_s (mxLe_s (mxLe_s mxLe_z))))))) (hK13 _ (Option.some.inj e16).symm)
        refine mG_if_eq (pc := 44) (tgt := 56) C dX1_countComparisons_44 (by decide) (fun q26 => ?_) (fun q26 => ?_)
        · rw [if_pos q26] at e29
          refine mG_aload_n (pc := 56) C dX1_countComparisons_56 rfl ?_
          refine mG_iload_n (pc := 57) C dX1_countComparisons_57 rfl ?_
          refine mG_iload (pc := 58) C dX1_countComparisons_58 rfl ?_
          obtain ⟨u30, e31, e29⟩ := mx_bind e29
          obtain ⟨v33, e32, e29⟩ := mx_bind e29
          refine mG_cV (pc := 60) (k' := 0) (n' := 0) 1 [.int p2, .int s9.2.2.2] [] C hX dX1_countComparisons_60 lkV_X1_55 rfl rfl e31 (tX1_isAmong hl e32) rfl rfl rfl rfl ?_
          refine mG_if_eq (pc := 63) (tgt := 72) C dX1_countComparisons_63 (by decide) (fun q34 => ?_) (fun q34 => ?_)
          · rw [if_pos q34] at e29
            exact mG_sub (mxLe_s (mxLe_s (mxLe_s (mxLe_s (mxLe_s (mxLe_s (mxLe_s mxLe_z))))))) (J27 _ (Option.some.inj e29))
          · rw [if_neg q34] at e29
            refine mG_ii (ls' := [some (.ref p0), some (.int p1), some (.int p2), some (.int s9.1), some (.int (s9.2.1 - 1)), some (.int s9.2.2.1), some (.int s9.2.2.2)]) (pc := 66) C dX1_countComparisons_66 rfl (kincm1 _) rfl rfl rfl ?_
            refine mG_ii (ls' := [some (.ref p0), some (.int p1), some (.int p2), some (.int s9.1), some (.int (s9.2.1 - 1)), some (.int (s9.2.2.1 + 1)), some (.int s9.2.2.2)]) (pc := 69) C dX1_countComparisons_69 rfl (kinc1 _) rfl rfl rfl ?_
            exact mG_sub (mxLe_s (mxLe_s (mxLe_s (mxLe_s (mxLe_s (mxLe_s (mxLe_s mxLe_z))))))) (J27 _ (Option.some.inj e29))
        · rw [if_neg q26] at e29
          refine mG_ii (ls' := [some (.ref p0), some (.int p1), some (.int p2), some (.int (s9.1 - 1)), some (.int s9.2.1), some (.int s9.2.2.1), some (.int s9.2.2.2)]) (pc := 47) C dX1_countComparisons_47 rfl (kincm1 _) rfl rfl rfl ?_
          refine mG_ii (ls' := [some (.ref p0), some (.int p1), some (.int p2), some (.int (s9.1 - 1)), some (.int s9.2.1), some (.int (s9.2.2.1 + 1)), some (.int s9.2.2.2)]) (pc := 50) C dX1_countComparisons_50 rfl (kinc1 _) rfl rfl rfl ?_
          refine mG_goto (tgt := 72) (pc := 53) C dX1_countComparisons_53 (by decide) ?_
          exact mG_sub (mxLe_s (mxLe_s (mxLe_s (mxLe_s (mxLe_s (mxLe_s (mxLe_s mxLe_z))))))) (J27 _ (Option.some.inj e29))
theorem dX1_countAllComparisons_0 : decode cX1_countAllComparisons 0 = .ok (.aload_n 0, 1) := by decide +kernel
theorem dX1_countAllComparisons_1 : decode cX1_countAllComparisons 1 = .ok (.iconst 1, 1) := by decide +kernel
theorem dX1_countAllComparisons_2 : decode cX1_countAllComparisons 2 = .ok (.iconst 2, 1) := by decide +kernel
theorem dX1_countAllComparisons_3 : decode cX1_countAllComparisons 3 = .ok (.invokevirtual 48, 3) := by decide +kernel
theorem dX1_countAllComparisons_6 : decode cX1_countAllComparisons 6 = .ok (.aload_n 0, 1) := by decide +kernel
theorem dX1_countAllComparisons_7 : decode cX1_countAllComparisons 7 = .ok (.iconst 4, 1) := by decide +kernel
theorem dX1_countAllComparisons_8 : decode cX1_countAllComparisons 8 = .ok (.bipush 8, 2) := by decide +kernel
theorem dX1_countAllComparisons_10 : decode cX1_countAllComparisons 10 = .ok (.invokevirtual 48, 3) := by decide +kernel
theorem dX1_countAllComparisons_13 : decode cX1_countAllComparisons 13 = .ok (.iadd, 1) := by decide +kernel
theorem dX1_countAllComparisons_14 : decode cX1_countAllComparisons 14 = .ok (.aload_n 0, 1) := by decide +kernel
theorem dX1_countAllComparisons_15 : decode cX1_countAllComparisons 15 = .ok (.iconst 3, 1) := by decide +kernel
theorem dX1_countAllComparisons_16 : decode cX1_countAllComparisons 16 = .ok (.bipush 12, 2) := by decide +kernel
theorem dX1_countAllComparisons_18 : decode cX1_countAllComparisons 18 = .ok (.invokevirtual 48, 3) := by decide +kernel
theorem dX1_countAllComparisons_21 : decode cX1_countAllComparisons 21 = .ok (.iadd, 1) := by decide +kernel
theorem dX1_countAllComparisons_22 : decode cX1_countAllComparisons 22 = .ok (.aload_n 0, 1) := by decide +kernel
theorem dX1_countAllComparisons_23 : decode cX1_countAllComparisons 23 = .ok (.bipush 15, 2) := by decide +kernel
theorem dX1_countAllComparisons_25 : decode cX1_countAllComparisons 25 = .ok (.bipush 16, 2) := by decide +kernel
theorem dX1_countAllComparisons_27 : decode cX1_countAllComparisons 27 = .ok (.invokevirtual 48, 3) := by decide +kernel
theorem dX1_countAllComparisons_30 : decode cX1_countAllComparisons 30 = .ok (.iadd, 1) := by decide +kernel
theorem dX1_countAllComparisons_31 : decode cX1_countAllComparisons 31 = .ok (.ireturn, 1) := by decide +kernel
def fX1_countAllComparisons (p0 : Nat) (h : mxH) : Option Int32 := Option.bind (isO h p0 1) (fun u1 => Option.bind (fX1_countComparisons p0 1 2 h) (fun v4 => Option.bind (isO h p0 1) (fun u5 => Option.bind (fX1_countComparisons p0 4 8 h) (fun v8 => Option.bind (isO h p0 1) (fun u9 => Option.bind (fX1_countComparisons p0 3 12 h) (fun v12 => Option.bind (isO h p0 1) (fun u13 => Option.bind (fX1_countComparisons p0 15 16 h) (fun v16 => some (((v4 + v8) + v12) + v16)))))))))
abbrev rmX1_countAllComparisons : Room := { frames := 4, cells := 0, slots := 0, locals := 93 }
set_option maxRecDepth 20000 in
theorem tX1_countAllComparisons {l : Launch} {Z : mxZ} (hl : l.stackTraces = false) {p0 : Nat} {h : mxH} {out : Int32} (hf : fX1_countAllComparisons p0 h = some out) : mxMet l Z yX1_countAllComparisons cX1_countAllComparisons 1 (some .int) rmX1_countAllComparisons [.ref p0] h (.inl (some (.int out))) h := by
  refine mxMet_of (by decide) hl (by simp [Value.category]) (Nat.le_of_ble_eq_true rfl) ?_
  intro X C E hX hin
  unfold fX1_countAllComparisons at hf
  refine mG_aload_n (pc := 0) C dX1_countAllComparisons_0 rfl ?_
  refine mG_ic (pc := 1) C dX1_countAllComparisons_1 kI1 ?_
  refine mG_ic (pc := 2) C dX1_countAllComparisons_2 kI2 ?_
  obtain ⟨u1, e2, hf⟩ := mx_bind hf
  obtain ⟨v4, e3, hf⟩ := mx_bind hf
  refine mG_cV (pc := 3) (k' := 0) (n' := 0) 1 [.int 1, .int 2] [] C hX dX1_countAllComparisons_3 lkV_X1_48 rfl rfl e2 (tX1_countComparisons hl e3) rfl rfl rfl rfl ?_
  refine mG_aload_n (pc := 6) C dX1_countAllComparisons_6 rfl ?_
  refine mG_ic (pc := 7) C dX1_countAllComparisons_7 kI4 ?_
  refine mG_bp (pc := 8) C dX1_countAllComparisons_8 kB8 ?_
  obtain ⟨u5, e6, hf⟩ := mx_bind hf
  obtain ⟨v8, e7, hf⟩ := mx_bind hf
  refine mG_cV (pc := 10) (k' := 0) (n' := 0) 1 [.int 4, .int 8] [.int v4] C hX dX1_countAllComparisons_10 lkV_X1_48 rfl rfl e6 (tX1_countComparisons hl e7) rfl rfl rfl rfl ?_
  refine mG_iadd (pc := 13) C dX1_countAllComparisons_13 ?_
  refine mG_aload_n (pc := 14) C dX1_countAllComparisons_14 rfl ?_
  refine mG_ic (pc := 15) C dX1_countAllComparisons_15 kI3 ?_
  refine mG_bp (pc := 16) C dX1_countAllComparisons_16 kB12 ?_
  obtain ⟨u9, e10, hf⟩ := mx_bind hf
  obtain ⟨v12, e11, hf⟩ := mx_bind hf
  refine mG_cV (pc := 18) (k' := 0) (n' := 0) 1 [.int 3, .int 12] [.int (v4 + v8)] C hX dX1_countAllComparisons_18 lkV_X1_48 rfl rfl e10 (tX1_countComparisons hl e11) rfl rfl rfl rfl ?_
  refine mG_iadd (pc := 21) C dX1_countAllComparisons_21 ?_
  refine mG_aload_n (pc := 22) C dX1_countAllComparisons_22 rfl ?_
  refine mG_bp (pc := 23) C dX1_countAllComparisons_23 kB15 ?_
  refine mG_bp (pc := 25) C dX1_countAllComparisons_25 kB16 ?_
  obtain ⟨u13, e14, hf⟩ := mx_bind hf
  obtain ⟨v16, e15, hf⟩ := mx_bind hf
  refine mG_cV (pc := 27) (k' := 0) (n' := 0) 1 [.int 15, .int 16] [.int ((v4 + v8) + v12)] C hX dX1_countAllComparisons_27 lkV_X1_48 rfl rfl e14 (tX1_countComparisons hl e15) rfl rfl rfl rfl ?_
  refine mG_iadd (pc := 30) C dX1_countAllComparisons_30 ?_
  cases hf
  exact mG_ir (pc := 31) C E hX dX1_countAllComparisons_31 rfl
theorem dX1_isAhead_0 : decode cX1_isAhead 0 = .ok (.aload_n 3, 1) := by decide +kernel
theorem dX1_isAhead_1 : decode cX1_isAhead 1 = .ok (.aload_n 0, 1) := by decide +kernel
theorem dX1_isAhead_2 : decode cX1_isAhead 2 = .ok (.iload_n 1, 1) := by decide +kernel
theorem dX1_isAhead_3 : decode cX1_isAhead 3 = .ok (.invokevirtual 59, 3) := by decide +kernel
theorem dX1_isAhead_6 : decode cX1_isAhead 6 = .ok (.aload_n 0, 1) := by decide +kernel
theorem dX1_isAhead_7 : decode cX1_isAhead 7 = .ok (.iload_n 1, 1) := by decide +kernel
theorem dX1_isAhead_8 : decode cX1_isAhead 8 = .ok (.invokevirtual 66, 3) := by decide +kernel
theorem dX1_isAhead_11 : decode cX1_isAhead 11 = .ok (.invokevirtual 68, 3) := by decide +kernel
theorem dX1_isAhead_14 : decode cX1_isAhead 14 = .ok (.istore 4, 2) := by decide +kernel
theorem dX1_isAhead_16 : decode cX1_isAhead 16 = .ok (.aload_n 3, 1) := by decide +kernel
theorem dX1_isAhead_17 : decode cX1_isAhead 17 = .ok (.aload_n 0, 1) := by decide +kernel
theorem dX1_isAhead_18 : decode cX1_isAhead 18 = .ok (.iload_n 2, 1) := by decide +kernel
theorem dX1_isAhead_19 : decode cX1_isAhead 19 = .ok (.invokevirtual 59, 3) := by decide +kernel
theorem dX1_isAhead_22 : decode cX1_isAhead 22 = .ok (.aload_n 0, 1) := by decide +kernel
theorem dX1_isAhead_23 : decode cX1_isAhead 23 = .ok (.iload_n 2, 1) := by decide +kernel
theorem dX1_isAhead_24 : decode cX1_isAhead 24 = .ok (.invokevirtual 66, 3) := by decide +kernel
theorem dX1_isAhead_27 : decode cX1_isAhead 27 = .ok (.invokevirtual 68, 3) := by decide +kernel
theorem dX1_isAhead_30 : decode cX1_isAhead 30 = .ok (.istore 5, 2) := by decide +kernel
theorem dX1_isAhead_32 : decode cX1_isAhead 32 = .ok (.iload 4, 2) := by decide +kernel
theorem dX1_isAhead_34 : decode cX1_isAhead 34 = .ok (.iload 5, 2) := by decide +kernel
theorem dX1_isAhead_36 : decode cX1_isAhead 36 = .ok (.if_icmp .eq 16, 3) := by decide +kernel
theorem dX1_isAhead_39 : decode cX1_isAhead 39 = .ok (.iload 4, 2) := by decide +kernel
theorem dX1_isAhead_41 : decode cX1_isAhead 41 = .ok (.iload 5, 2) := by decide +kernel
theorem dX1_isAhead_43 : decode cX1_isAhead 43 = .ok (.if_icmp .le 7, 3) := by decide +kernel
theorem dX1_isAhead_46 : decode cX1_isAhead 46 = .ok (.iconst 1, 1) := by decide +kernel
theorem dX1_isAhead_47 : decode cX1_isAhead 47 = .ok (.goto 4, 3) := by decide +kernel
theorem dX1_isAhead_50 : decode cX1_isAhead 50 = .ok (.iconst 0, 1) := by decide +kernel
theorem dX1_isAhead_51 : decode cX1_isAhead 51 = .ok (.ireturn, 1) := by decide +kernel
theorem dX1_isAhead_52 : decode cX1_isAhead 52 = .ok (.aload_n 0, 1) := by decide +kernel
theorem dX1_isAhead_53 : decode cX1_isAhead 53 = .ok (.iload_n 1, 1) := by decide +kernel
theorem dX1_isAhead_54 : decode cX1_isAhead 54 = .ok (.invokevirtual 59, 3) := by decide +kernel
theorem dX1_isAhead_57 : decode cX1_isAhead 57 = .ok (.aload_n 0, 1) := by decide +kernel
theorem dX1_isAhead_58 : decode cX1_isAhead 58 = .ok (.iload_n 2, 1) := by decide +kernel
theorem dX1_isAhead_59 : decode cX1_isAhead 59 = .ok (.invokevirtual 59, 3) := by decide +kernel
theorem dX1_isAhead_62 : decode cX1_isAhead 62 = .ok (.if_icmp .eq 22, 3) := by decide +kernel
theorem dX1_isAhead_65 : decode cX1_isAhead 65 = .ok (.aload_n 0, 1) := by decide +kernel
theorem dX1_isAhead_66 : decode cX1_isAhead 66 = .ok (.iload_n 1, 1) := by decide +kernel
theorem dX1_isAhead_67 : decode cX1_isAhead 67 = .ok (.invokevirtual 59, 3) := by decide +kernel
theorem dX1_isAhead_70 : decode cX1_isAhead 70 = .ok (.aload_n 0, 1) := by decide +kernel
theorem dX1_isAhead_71 : decode cX1_isAhead 71 = .ok (.iload_n 2, 1) := by decide +kernel
theorem dX1_isAhead_72 : decode cX1_isAhead 72 = .ok (.invokevirtual 59, 3) := by decide +kernel
theorem dX1_isAhead_75 : decode cX1_isAhead 75 = .ok (.if_icmp .ge 7, 3) := by decide +kernel
theorem dX1_isAhead_78 : decode cX1_isAhead 78 = .ok (.iconst 1, 1) := by decide +kernel
theorem dX1_isAhead_79 : decode cX1_isAhead 79 = .ok (.goto 4, 3) := by decide +kernel
theorem dX1_isAhead_82 : decode cX1_isAhead 82 = .ok (.iconst 0, 1) := by decide +kernel
theorem dX1_isAhead_83 : decode cX1_isAhead 83 = .ok (.ireturn, 1) := by decide +kernel
theorem dX1_isAhead_84 : decode cX1_isAhead 84 = .ok (.aload_n 0, 1) := by decide +kernel
theorem dX1_isAhead_85 : decode cX1_isAhead 85 = .ok (.iload_n 1, 1) := by decide +kernel
theorem dX1_isAhead_86 : decode cX1_isAhead 86 = .ok (.invokevirtual 66, 3) := by decide +kernel
theorem dX1_isAhead_89 : decode cX1_isAhead 89 = .ok (.aload_n 0, 1) := by decide +kernel
theorem dX1_isAhead_90 : decode cX1_isAhead 90 = .ok (.iload_n 2, 1) := by decide +kernel
theorem dX1_isAhead_91 : decode cX1_isAhead 91 = .ok (.invokevirtual 66, 3) := by decide +kernel
theorem dX1_isAhead_94 : decode cX1_isAhead 94 = .ok (.if_icmp .ge 7, 3) := by decide +kernel
theorem dX1_isAhead_97 : decode cX1_isAhead 97 = .ok (.iconst 1, 1) := by decide +kernel
theorem dX1_isAhead_98 : decode cX1_isAhead 98 = .ok (.goto 4, 3) := by decide +kernel
theorem dX1_isAhead_101 : decode cX1_isAhead 101 = .ok (.iconst 0, 1) := by decide +kernel
theorem dX1_isAhead_102 : decode cX1_isAhead 102 = .ok (.ireturn, 1) := by decide +kernel
def fX1_isAhead (p0 : Nat) (p1 : Int32) (p2 : Int32) (p3 : Nat) (h : mxH) : Option Int32 := Option.bind (isO h p0 1) (fun u1 => Option.bind (fX1_rowOn p0 p1 h) (fun v4 => Option.bind (isO h p0 1) (fun u5 => Option.bind (fX1_thingOn p0 p1 h) (fun v8 => Option.bind (isO h p3 6) (fun u9 => Option.bind (fX6_markOf p3 v4 v8 h) (fun v12 => Option.bind (isO h p0 1) (fun u13 => Option.bind (fX1_rowOn p0 p2 h) (fun v16 => Option.bind (isO h p0 1) (fun u17 => Option.bind (fX1_thingOn p0 p2 h) (fun v20 => Option.bind (isO h p3 6) (fun u21 => Option.bind (fX6_markOf p3 v16 v20 h) (fun v24 => (if v12 = v24 then Option.bind (isO h p0 1) (fun u26 => Option.bind (fX1_rowOn p0 p1 h) (fun v29 => Option.bind (isO h p0 1) (fun u30 => Option.bind (fX1_rowOn p0 p2 h) (fun v33 => (if v29 = v33 then Option.bind (isO h p0 1) (fun u35 => Option.bind (fX1_thingOn p0 p1 h) (fun v38 => Option.bind (isO h p0 1) (fun u39 => Option.bind (fX1_thingOn p0 p2 h) (fun v42 => Option.bind (α := Int32) (if v42 ≤ v38 then some 0 else some 1) (fun p45' : Int32 => Option.bind (mxZ1 p45') (fun v47 => some v47)))))) else Option.bind (isO h p0 1) (fun u50 => Option.bind (fX1_rowOn p0 p1 h) (fun v53 => Option.bind (isO h p0 1) (fun u54 => Option.bind (fX1_rowOn p0 p2 h) (fun v57 => Option.bind (α := Int32) (if v57 ≤ v53 then some 0 else some 1) (fun p60' : Int32 => Option.bind (mxZ1 p60') (fun v62 => some v62))))))))))) else Option.bind (α := Int32) (if v12 ≤ v24 then some 0 else some 1) (fun p67' : Int32 => Option.bind (mxZ1 p67') (fun v69 => some v69)))))))))))))))
abbrev rmX1_isAhead : Room := { frames := 2, cells := 0, slots := 0, locals := 42 }
set_option maxRecDepth 20000 in
theorem tX1_isAhead {l : Launch} {Z : mxZ} (hl : l.stackTraces = false) {p0 : Nat} {p1 : Int32} {p2 : Int32} {p3 : Nat} {h : mxH} {out : Int32} (hf : fX1_isAhead p0 p1 p2 p3 h = some out) : mxMet l Z yX1_isAhead cX1_isAhead 6 (some .boolean) rmX1_isAhead [.ref p0, .int p1, .int p2, .ref p3] h (.inl (some (.int out))) h := by
  refine mxMet_of (by decide) hl (by simp [Value.category]) (Nat.le_of_ble_eq_true rfl) ?_
  intro X C E hX hin
  unfold fX1_isAhead at hf
  refine mG_aload_n (pc := 0) C dX1_isAhead_0 rfl ?_
  refine mG_aload_n (pc := 1) C dX1_isAhead_1 rfl ?_
  refine mG_iload_n (pc := 2) C dX1_isAhead_2 rfl ?_
  obtain ⟨u1, e2, hf⟩ := mx_bind hf
  obtain ⟨v4, e3, hf⟩ := mx_bind hf
  refine mG_cV (pc := 3) (k' := 0) (n' := 0) 1 [.int p1] [.ref p3] C hX dX1_isAhead_3 lkV_X1_59 rfl rfl e2 (tX1_rowOn hl e3) rfl rfl rfl rfl ?_
  refine mG_aload_n (pc := 6) C dX1_isAhead_6 rfl ?_
  refine mG_iload_n (pc := 7) C dX1_isAhead_7 rfl ?_
  obtain ⟨u5, e6, hf⟩ := mx_bind hf
  obtain ⟨v8, e7, hf⟩ := mx_bind hf
  refine mG_cV (pc := 8) (k' := 0) (n' := 0) 1 [.int p1] [.int v4, .ref p3] C hX dX1_isAhead_8 lkV_X1_66 rfl rfl e6 (tX1_thingOn hl e7) rfl rfl rfl rfl ?_
  obtain ⟨u9, e10, hf⟩ := mx_bind hf
  obtain ⟨v12, e11, hf⟩ := mx_bind hf
  refine mG_cV (pc := 11) (k' := 0) (n' := 0) 6 [.int v4, .int v8] [] C hX dX1_isAhead_11 lkV_X1_68 rfl rfl e10 (tX6_markOf hl e11) rfl rfl rfl rfl ?_
  refine mG_is (ls' := [some (.ref p0), some (.int p1), some (.int p2), some (.ref p3), some (.int v12), none]) (pc := 14) C dX1_isAhead_14 rfl rfl rfl ?_
  refine mG_aload_n (pc := 16) C dX1_isAhead_16 rfl ?_
  refine mG_aload_n (pc := 17) C dX1_isAhead_17 rfl ?_
  refine mG_iload_n (pc := 18) C dX1_isAhead_18 rfl ?_
  obtain ⟨u13, e14, hf⟩ := mx_bind hf
  obtain ⟨v16, e15, hf⟩ := mx_bind hf
  refine mG_cV (pc := 19) (k' := 0) (n' := 0) 1 [.int p2] [.ref p3] C hX dX1_isAhead_19 lkV_X1_59 rfl rfl e14 (tX1_rowOn hl e15) rfl rfl rfl rfl ?_
  refine mG_aload_n (pc := 22) C dX1_isAhead_22 rfl ?_
  refine mG_iload_n (pc := 23) C dX1_isAhead_23 rfl ?_
  obtain ⟨u17, e18, hf⟩ := mx_bind hf
  obtain ⟨v20, e19, hf⟩ := mx_bind hf
  refine mG_cV (pc := 24) (k' := 0) (n' := 0) 1 [.int p2] [.int v16, .ref p3] C hX dX1_isAhead_24 lkV_X1_66 rfl rfl e18 (tX1_thingOn hl e19) rfl rfl rfl rfl ?_
  obtain ⟨u21, e22, hf⟩ := mx_bind hf
  obtain ⟨v24, e23, hf⟩ := mx_bind hf
  refine mG_cV (pc := 27) (k' := 0) (n' := 0) 6 [.int v16, .int v20] [] C hX dX1_isAhead_27 lkV_X1_68 rfl rfl e22 (tX6_markOf hl e23) rfl rfl rfl rfl ?_
  refine mG_is (ls' := [some (.ref p0), some (.int p1), some (.int p2), some (.ref p3), some (.int v12), some (.int v24)]) (pc := 30) C dX1_isAhead_30 rfl rfl rfl ?_
  refine mG_iload (pc := 32) C dX1_isAhead_32 rfl ?_
  refine mG_iload (pc := 34) C dX1_isAhead_34 rfl ?_
  refine mG_icmp_eq (pc := 36) (tgt := 52) C dX1_isAhead_36 (by decide) (fun q25 => ?_) (fun q25 => ?_)
  · rw [if_pos q25] at hf
    refine mG_aload_n (pc := 52) C dX1_isAhead_52 rfl ?_
    refine mG_iload_n (pc := 53) C dX1_isAhead_53 rfl ?_
    obtain ⟨u26, e27, hf⟩ := mx_bind hf
    obtain ⟨v29, e28, hf⟩ := mx_bind hf
    refine mG_cV (pc := 54) (k' := 0) (n' := 0) 1 [.int p1] [] C hX dX1_isAhead_54 lkV_X1_59 rfl rfl e27 (tX1_rowOn hl e28) rfl rfl rfl rfl ?_
    refine mG_aload_n (pc := 57) C dX1_isAhead_57 rfl ?_
    refine mG_iload_n (pc := 58) C dX1_isAhead_58 rfl ?_
    obtain ⟨u30, e31, hf⟩ := mx_bind hf
    obtain ⟨v33, e32, hf⟩ := mx_bind hf
    refine mG_cV (pc := 59) (k' := 0) (n' := 0) 1 [.int p2] [.int v29] C hX dX1_isAhead_59 lkV_X1_59 rfl rfl e31 (tX1_rowOn hl e32) rfl rfl rfl rfl ?_
    refine mG_icmp_eq (pc := 62) (tgt := 84) C dX1_isAhead_62 (by decide) (fun q34 => ?_) (fun q34 => ?_)
    · rw [if_pos q34] at hf
      refine mG_aload_n (pc := 84) C dX1_isAhead_84 rfl ?_
      refine mG_iload_n (pc := 85) C dX1_isAhead_85 rfl ?_
      obtain ⟨u35, e36, hf⟩ := mx_bind hf
      obtain ⟨v38, e37, hf⟩ := mx_bind hf
      refine mG_cV (pc := 86) (k' := 0) (n' := 0) 1 [.int p1] [] C hX dX1_isAhead_86 lkV_X1_66 rfl rfl e36 (tX1_thingOn hl e37) rfl rfl rfl rfl ?_
      refine mG_aload_n (pc := 89) C dX1_isAhead_89 rfl ?_
      refine mG_iload_n (pc := 90) C dX1_isAhead_90 rfl ?_
      obtain ⟨u39, e40, hf⟩ := mx_bind hf
      obtain ⟨v42, e41, hf⟩ := mx_bind hf
      refine mG_cV (pc := 91) (k' := 0) (n' := 0) 1 [.int p2] [.int v38] C hX dX1_isAhead_91 lkV_X1_66 rfl rfl e40 (tX1_thingOn hl e41) rfl rfl rfl rfl ?_
      obtain ⟨p45, e46, hf⟩ := mx_bind hf
      have J44 : ∀ p45' : Int32, p45' = p45 → mG l Z X 6 0 0 102 [none, none, none, none, none, none] [.int p45'] h := by
        intro p45' q49
        subst q49
        obtain ⟨v47, e48, hf⟩ := mx_bind hf
        cases hf
        exact mG_zr (pc := 102) C e48 E hX dX1_isAhead_102 rfl
      refine mG_icmp_ge (pc := 94) (tgt := 101) C dX1_isAhead_94 (by decide) (fun q43 => ?_) (fun q43 => ?_)
      · rw [if_pos q43] at e46
        refine mG_ic (pc := 101) C dX1_isAhead_101 kI0 ?_
        exact mG_sub (mxLe_n (mxLe_n (mxLe_n (mxLe_n (mxLe_n (mxLe_n mxLe_z)))))) (J44 _ (Option.some.inj e46))
      · rw [if_neg q43] at e46
        refine mG_ic (pc := 97) C dX1_isAhead_97 kI1 ?_
        refine mG_goto (tgt := 102) (pc := 98) C dX1_isAhead_98 (by decide) ?_
        exact mG_sub (mxLe_n (mxLe_n (mxLe_n (mxLe_n (mxLe_n (mxLe_n mxLe_z)))))) (J44 _ (Option.some.inj e46))
    · rw [if_neg q34] at hf
      refine mG_aload_n (pc := 65) C dX1_isAhead_65 rfl ?_
      refine mG_iload_n (pc := 66) C dX1_isAhead_66 rfl ?_
      obtain ⟨u50, e51, hf⟩ := mx_bind hf
      obtain ⟨v53, e52, hf⟩ := mx_bind hf
      refine mG_cV (pc := 67) (k' := 0) (n' := 0) 1 [.int p1] [] C hX dX1_isAhead_67 lkV_X1_59 rfl rfl e51 (tX1_rowOn hl e52) rfl rfl rfl rfl ?_
      refine mG_aload_n (pc := 70) C dX1_isAhead_70 rfl ?_
      refine mG_iload_n (pc := 71) C dX1_isAhead_71 rfl ?_
      obtain ⟨u54, e55, hf⟩ := mx_bind hf
      obtain ⟨v57, e56, hf⟩ := mx_bind hf
      refine mG_cV (pc := 72) (k' := 0) (n' := 0) 1 [.int p2] [.int v53] C hX dX1_isAhead_72 lkV_X1_59 rfl rfl e55 (tX1_rowOn hl e56) rfl rfl rfl rfl ?_
      obtain ⟨p60, e61, hf⟩ := mx_bind hf
      have J59 : ∀ p60' : Int32, p60' = p60 → mG l Z X 6 0 0 83 [none, none, none, none, none, none] [.int p60'] h := by
        intro p60' q64
        subst q64
        obtain ⟨v62, e63, hf⟩ := mx_bind hf
        cases hf
        exact mG_zr (pc := 83) C e63 E hX dX1_isAhead_83 rfl
      refine mG_icmp_ge (pc := 75) (tgt := 82) C dX1_isAhead_75 (by decide) (fun q58 => ?_) (fun q58 => ?_)
      · rw [if_pos q58] at e61
        refine mG_ic (pc := 82) C dX1_isAhead_82 kI0 ?_
        exact mG_sub (mxLe_n (mxLe_n (mxLe_n (mxLe_n (mxLe_n (mxLe_n mxLe_z)))))) (J59 _ (Option.some.inj e61))
      · rw [if_neg q58] at e61
        refine mG_ic (pc := 78) C dX1_isAhead_78 kI1 ?_
        refine mG_goto (tgt := 83) (pc := 79) C dX1_isAhead_79 (by decide) ?_
        exact mG_sub (mxLe_n (mxLe_n (mxLe_n (mxLe_n (mxLe_n (mxLe_n mxLe_z)))))) (J59 _ (Option.some.inj e61))
  · rw [if_neg q25] at hf
    refine mG_iload (pc := 39) C dX1_isAhead_39 rfl ?_
    refine mG_iload (pc := 41) C dX1_isAhead_41 rfl ?_
    obtain ⟨p67, e68, hf⟩ := mx_bind hf
    have J66 : ∀ p67' : Int32, p67' = p67 → mG l Z X 6 0 0 51 [none, none, none, none, none, none] [.int p67'] h := by
      intro p67' q71
      subst q71
      obtain ⟨v69, e70, hf⟩ := mx_bind hf
      cases hf
      exact mG_zr (pc := 51) C e70 E hX dX1_isAhead_51 rfl
    refine mG_icmp_le (pc := 43) (tgt := 50) C dX1_isAhead_43 (by decide) (fun q65 => ?_) (fun q65 => ?_)
    · rw [if_pos q65] at e68
      refine mG_ic (pc := 50) C dX1_isAhead_50 kI0 ?_
      exact mG_sub (mxLe_n (mxLe_n (mxLe_n (mxLe_n (mxLe_n (mxLe_n mxLe_z)))))) (J66 _ (Option.some.inj e68))
    · rw [if_neg q65] at e68
      refine mG_ic (pc := 46) C dX1_isAhead_46 kI1 ?_
      refine mG_goto (tgt := 51) (pc := 47) C dX1_isAhead_47 (by decide) ?_
      exact mG_sub (mxLe_n (mxLe_n (mxLe_n (mxLe_n (mxLe_n (mxLe_n mxLe_z)))))) (J66 _ (Option.some.inj e68))
theorem dX1_countFaults_0 : decode cX1_countFaults 0 = .ok (.iconst 0, 1) := by decide +kernel
theorem dX1_countFaults_1 : decode cX1_countFaults 1 = .ok (.istore_n 2, 1) := by decide +kernel
theorem dX1_countFaults_2 : decode cX1_countFaults 2 = .ok (.iconst 0, 1) := by decide +kernel
theorem dX1_countFaults_3 : decode cX1_countFaults 3 = .ok (.istore_n 3, 1) := by decide +kernel
theorem dX1_countFaults_4 : decode cX1_countFaults 4 = .ok (.iload_n 3, 1) := by decide +kernel
theorem dX1_countFaults_5 : decode cX1_countFaults 5 = .ok (.iconst 1, 1) := by decide +kernel
theorem dX1_countFaults_6 : decode cX1_countFaults 6 = .ok (.iadd, 1) := by decide +kernel
theorem dX1_countFaults_7 : decode cX1_countFaults 7 = .ok (.aload_n 0, 1) := by decide +kernel
theorem dX1_countFaults_8 : decode cX1_countFaults 8 = .ok (.getfield 18, 3) := by decide +kernel
theorem dX1_countFaults_11 : decode cX1_countFaults 11 = .ok (.if_icmp .ge 29, 3) := by decide +kernel
theorem dX1_countFaults_14 : decode cX1_countFaults 14 = .ok (.iload_n 2, 1) := by decide +kernel
theorem dX1_countFaults_15 : decode cX1_countFaults 15 = .ok (.aload_n 0, 1) := by decide +kernel
theorem dX1_countFaults_16 : decode cX1_countFaults 16 = .ok (.iload_n 3, 1) := by decide +kernel
theorem dX1_countFaults_17 : decode cX1_countFaults 17 = .ok (.iload_n 3, 1) := by decide +kernel
theorem dX1_countFaults_18 : decode cX1_countFaults 18 = .ok (.iconst 1, 1) := by decide +kernel
theorem dX1_countFaults_19 : decode cX1_countFaults 19 = .ok (.iadd, 1) := by decide +kernel
theorem dX1_countFaults_20 : decode cX1_countFaults 20 = .ok (.aload_n 1, 1) := by decide +kernel
theorem dX1_countFaults_21 : decode cX1_countFaults 21 = .ok (.invokevirtual 62, 3) := by decide +kernel
theorem dX1_countFaults_24 : decode cX1_countFaults 24 = .ok (.ifCond .eq 7, 3) := by decide +kernel
theorem dX1_countFaults_27 : decode cX1_countFaults 27 = .ok (.iconst 0, 1) := by decide +kernel
theorem dX1_countFaults_28 : decode cX1_countFaults 28 = .ok (.goto 4, 3) := by decide +kernel
theorem dX1_countFaults_31 : decode cX1_countFaults 31 = .ok (.iconst 1, 1) := by decide +kernel
theorem dX1_countFaults_32 : decode cX1_countFaults 32 = .ok (.iadd, 1) := by decide +kernel
theorem dX1_countFaults_33 : decode cX1_countFaults 33 = .ok (.istore_n 2, 1) := by decide +kernel
theorem dX1_countFaults_34 : decode cX1_countFaults 34 = .ok (.iinc 3 1, 3) := by decide +kernel
theorem dX1_countFaults_37 : decode cX1_countFaults 37 = .ok (.goto (-33), 3) := by decide +kernel
theorem dX1_countFaults_40 : decode cX1_countFaults 40 = .ok (.iload_n 2, 1) := by decide +kernel
theorem dX1_countFaults_41 : decode cX1_countFaults 41 = .ok (.ireturn, 1) := by decide +kernel
def fX1_countFaults (p0 : Nat) (p1 : Nat) (h : mxH) : Option Int32 := Option.bind (mxLoop (ρ := Int32) (fun s1 : (Int32 × Int32) => Option.bind (gI h p0 1 2) (fun v9 => (if v9 ≤ (s1.2 + 1) then some (Sum.inr s1.1) else Option.bind (isO h p0 1) (fun u12 => Option.bind (fX1_isAhead p0 s1.2 (s1.2 + 1) p1 h) (fun v15 => Option.bind (α := Int32) (if v15 = 0 then some 1 else some 0) (fun p18' : Int32 => some (Sum.inl (s1.1 + p18', s1.2 + 1)))))))) mxF (0, 0)) (fun r21 : Int32 => some r21)
abbrev rmX1_countFaults : Room := { frames := 3, cells := 0, slots := 0, locals := 67 }
set_option maxRecDepth 20000 in
theorem tX1_countFaults {l : Launch} {Z : mxZ} (hl : l.stackTraces = false) {p0 : Nat} {p1 : Nat} {h : mxH} {out : Int32} (hf : fX1_countFaults p0 p1 h = some out) : mxMet l Z yX1_countFaults cX1_countFaults 4 (some .int) rmX1_countFaults [.ref p0, .ref p1] h (.inl (some (.int out))) h := by
  refine mxMet_of (by decide) hl (by simp [Value.category]) (Nat.le_of_ble_eq_true rfl) ?_
  intro X C E hX hin
  unfold fX1_countFaults at hf
  refine mG_ic (pc := 0) C dX1_countFaults_0 kI0 ?_
  refine mG_isn (ls' := [some (.ref p0), some (.ref p1), some (.int 0), none]) (pc := 1) C dX1_countFaults_1 rfl rfl rfl ?_
  refine mG_ic (pc := 2) C dX1_countFaults_2 kI0 ?_
  refine mG_isn (ls' := [some (.ref p0), some (.ref p1), some (.int 0), some (.int 0)]) (pc := 3) C dX1_countFaults_3 rfl rfl rfl ?_
  obtain ⟨r2, e3, hf⟩ := mx_bind hf
  have J4 : ∀ r21 : Int32, r21 = r2 → mG l Z X 4 0 0 40 [none, none, some (.int r21), none] [] h := by
    intro r21 q22
    subst q22
    refine mG_iload_n (pc := 40) C dX1_countFaults_40 rfl ?_
    cases hf
    exact mG_ir (pc := 41) C E hX dX1_countFaults_41 rfl
  refine mG_sub (ls' := [some (.ref p0), some (.ref p1), some (.int 0), some (.int 0)]) (mxLe_s (mxLe_s (mxLe_s (mxLe_s mxLe_z)))) (mxLoop_ind (K := fun s1 : (Int32 × Int32) => mG l Z X 4 0 0 4 [some (.ref p0), some (.ref p1), some (.int s1.1), some (.int s1.2)] [] h) ?_ _ _ e3)
  intro s1 o7 e8 hK5 hx6
  refine mG_iload_n (pc := 4) C dX1_countFaults_4 rfl ?_
  refine mG_ic (pc := 5) C dX1_countFaults_5 kI1 ?_
  refine mG_iadd (pc := 6) C dX1_countFaults_6 ?_
  refine mG_aload_n (pc := 7) C dX1_countFaults_7 rfl ?_
  obtain ⟨v9, e10, e8⟩ := mx_bind e8
  refine mG_getI (pc := 8) C dX1_countFaults_8 fl_X1_18 e10 ?_
  refine mG_icmp_ge (pc := 11) (tgt := 40) C dX1_countFaults_11 (by decide) (fun q11 => ?_) (fun q11 => ?_)
  · rw [if_pos q11] at e8
    exact mG_sub (mxLe_n (mxLe_n (mxLe_s (mxLe_n mxLe_z)))) (J4 _ (hx6 _ (Option.some.inj e8).symm))
  · rw [if_neg q11] at e8
    refine mG_iload_n (pc := 14) C dX1_countFaults_14 rfl ?_
    refine mG_aload_n (pc := 15) C dX1_countFaults_15 rfl ?_
    refine mG_iload_n (pc := 16) C dX1_countFaults_16 rfl ?_
    refine mG_iload_n (pc := 17) C dX1_countFaults_17 rfl ?_
    refine mG_ic (pc := 18) C dX1_countFaults_18 kI1 ?_
    refine mG_iadd (pc := 19) C dX1_countFaults_19 ?_
    refine mG_aload_n (pc := 20) C dX1_countFaults_20 rfl ?_
    obtain ⟨u12, e13, e8⟩ := mx_bind e8
    obtain ⟨v15, e14, e8⟩ := mx_bind e8
    refine mG_cV (pc := 21) (k' := 0) (n' := 0) 1 [.int s1.2, .int (s1.2 + 1), .ref p1] [.int s1.1] C hX dX1_countFaults_21 lkV_X1_62 rfl rfl e13 (tX1_isAhead hl e14) rfl rfl rfl rfl ?_
    obtain ⟨p18, e19, e8⟩ := mx_bind e8
    have J17 : ∀ p18' : Int32, p18' = p18 → mG l Z X 4 0 0 32 [some (.ref p0), some (.ref p1), none, some (.int s1.2)] [.int p18', .int s1.1] h := by
      intro p18' q20
      subst q20
      refine mG_iadd (pc := 32) C dX1_countFaults_32 ?_
      refine mG_isn (ls' := [some (.ref p0), some (.ref p1), some (.int (s1.1 + p18')), some (.int s1.2)]) (pc := 33) C dX1_countFaults_33 rfl rfl rfl ?_
      refine mG_ii (ls' := [some (.ref p0), some (.ref p1), some (.int (s1.1 + p18')), some (.int (s1.2 + 1))]) (pc := 34) C dX1_countFaults_34 rfl (kinc1 _) rfl rfl rfl ?_
      refine mG_goto (tgt := 4) (pc := 37) C dX1_countFaults_37 (by decide) ?_
      exact mG_sub (mxLe_s (mxLe_s (mxLe_s (mxLe_s mxLe_z)))) (hK5 _ (Option.some.inj e8).symm)
    refine mG_if_eq (pc := 24) (tgt := 31) C dX1_countFaults_24 (by decide) (fun q16 => ?_) (fun q16 => ?_)
    · rw [if_pos q16] at e19
      refine mG_ic (pc := 31) C dX1_countFaults_31 kI1 ?_
      exact mG_sub (mxLe_s (mxLe_s (mxLe_n (mxLe_s mxLe_z)))) (J17 _ (Option.some.inj e19))
    · rw [if_neg q16] at e19
      refine mG_ic (pc := 27) C dX1_countFaults_27 kI0 ?_
      refine mG_goto (tgt := 32) (pc := 28) C dX1_countFaults_28 (by decide) ?_
      exact mG_sub (mxLe_s (mxLe_s (mxLe_n (mxLe_s mxLe_z)))) (J17 _ (Option.some.inj e19))
