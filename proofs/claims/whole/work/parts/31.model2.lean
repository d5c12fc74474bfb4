/-! printed by wip/gen/emit.py: for each method its function on the mini machine, and that the machine walks as the function says -/
theorem dX10_upperAt_0 : decode cX10_upperAt 0 = .ok (.iconst 0, 1) := by decide +kernel
theorem dX10_upperAt_1 : decode cX10_upperAt 1 = .ok (.istore_n 3, 1) := by decide +kernel
theorem dX10_upperAt_2 : decode cX10_upperAt 2 = .ok (.iload_n 3, 1) := by decide +kernel
theorem dX10_upperAt_3 : decode cX10_upperAt 3 = .ok (.iconst 5, 1) := by decide +kernel
theorem dX10_upperAt_4 : decode cX10_upperAt 4 = .ok (.if_icmp .ge 40, 3) := by decide +kernel
theorem dX10_upperAt_7 : decode cX10_upperAt 7 = .ok (.aload_n 0, 1) := by decide +kernel
theorem dX10_upperAt_8 : decode cX10_upperAt 8 = .ok (.getfield 16, 3) := by decide +kernel
theorem dX10_upperAt_11 : decode cX10_upperAt 11 = .ok (.iload_n 3, 1) := by decide +kernel
theorem dX10_upperAt_12 : decode cX10_upperAt 12 = .ok (.aload_n 0, 1) := by decide +kernel
theorem dX10_upperAt_13 : decode cX10_upperAt 13 = .ok (.iload_n 3, 1) := by decide +kernel
theorem dX10_upperAt_14 : decode cX10_upperAt 14 = .ok (.iload_n 1, 1) := by decide +kernel
theorem dX10_upperAt_15 : decode cX10_upperAt 15 = .ok (.iload_n 2, 1) := by decide +kernel
theorem dX10_upperAt_16 : decode cX10_upperAt 16 = .ok (.invokevirtual 96, 3) := by decide +kernel
theorem dX10_upperAt_19 : decode cX10_upperAt 19 = .ok (.ifCond .eq 12, 3) := by decide +kernel
theorem dX10_upperAt_22 : decode cX10_upperAt 22 = .ok (.aload_n 0, 1) := by decide +kernel
theorem dX10_upperAt_23 : decode cX10_upperAt 23 = .ok (.iload_n 3, 1) := by decide +kernel
theorem dX10_upperAt_24 : decode cX10_upperAt 24 = .ok (.iload_n 1, 1) := by decide +kernel
theorem dX10_upperAt_25 : decode cX10_upperAt 25 = .ok (.invokevirtual 89, 3) := by decide +kernel
theorem dX10_upperAt_28 : decode cX10_upperAt 28 = .ok (.goto 9, 3) := by decide +kernel
theorem dX10_upperAt_31 : decode cX10_upperAt 31 = .ok (.aload_n 0, 1) := by decide +kernel
theorem dX10_upperAt_32 : decode cX10_upperAt 32 = .ok (.iload_n 3, 1) := by decide +kernel
theorem dX10_upperAt_33 : decode cX10_upperAt 33 = .ok (.iload_n 2, 1) := by decide +kernel
theorem dX10_upperAt_34 : decode cX10_upperAt 34 = .ok (.invokevirtual 102, 3) := by decide +kernel
theorem dX10_upperAt_37 : decode cX10_upperAt 37 = .ok (.iastore, 1) := by decide +kernel
theorem dX10_upperAt_38 : decode cX10_upperAt 38 = .ok (.iinc 3 1, 3) := by decide +kernel
theorem dX10_upperAt_41 : decode cX10_upperAt 41 = .ok (.goto (-39), 3) := by decide +kernel
theorem dX10_upperAt_44 : decode cX10_upperAt 44 = .ok (.aload_n 0, 1) := by decide +kernel
theorem dX10_upperAt_45 : decode cX10_upperAt 45 = .ok (.invokevirtual 92, 3) := by decide +kernel
theorem dX10_upperAt_48 : decode cX10_upperAt 48 = .ok (.ireturn, 1) := by decide +kernel
def fX10_upperAt (p0 : Nat) (p1 : Int32) (p2 : Int32) (h : mxH) : Option (Int32 × mxH) := Option.bind (mxLoop (ρ := mxH) (fun s1 : (Int32 × mxH) => (if 5 ≤ s1.1 then some (Sum.inr s1.2) else Option.bind (gR s1.2 p0 10 4) (fun r10 => Option.bind (isO s1.2 p0 10) (fun u12 => Option.bind (fX10_isRead p0 s1.1 p1 p2 s1.2) (fun v15 => Option.bind (α := Int32) (if v15 = 0 then Option.bind (isO s1.2 p0 10) (fun u20 => Option.bind (fX10_lastMark p0 s1.1 p2 s1.2) (fun v23 => some v23)) else Option.bind (isO s1.2 p0 10) (fun u24 => Option.bind (fX10_weighted p0 s1.1 p1 s1.2) (fun v27 => some v27))) (fun p18' : Int32 => Option.bind (stI s1.2 r10 s1.1 p18') (fun h28 => some (Sum.inl (s1.1 + 1, h28))))))))) mxF (0, h)) (fun r31 : mxH => Option.bind (isO r31 p0 10) (fun u32 => Option.bind (fX10_ruled p0 r31) (fun v35 => some (v35, r31))))
abbrev rmX10_upperAt : Room := { frames := 4, cells := 0, slots := 0, locals := 91 }
set_option maxRecDepth 20000 in
theorem tX10_upperAt {l : Launch} {Z : mxZ} (hl : l.stackTraces = false) {p0 : Nat} {p1 : Int32} {p2 : Int32} {h : mxH} {out : (Int32 × mxH)} (hf : fX10_upperAt p0 p1 p2 h = some out) : mxMet l Z yX10_upperAt cX10_upperAt 4 (some .int) rmX10_upperAt [.ref p0, .int p1, .int p2] h (.inl (some (.int out.1))) out.2 := by
  refine mxMet_of (by decide) hl (by simp [Value.category]) (Nat.le_of_ble_eq_true rfl) ?_
  intro X C E hX hin
  unfold fX10_upperAt at hf
  refine mG_ic (pc := 0) C dX10_upperAt_0 kI0 ?_
  refine mG_isn (ls' := [some (.ref p0), some (.int p1), some (.int p2), some (.int 0)]) (pc := 1) C dX10_upperAt_1 rfl rfl rfl ?_
  obtain ⟨r2, e3, hf⟩ := mx_bind hf
  have J4 : ∀ r31 : mxH, r31 = r2 → mG l Z X 4 0 0 44 [some (.ref p0), none, none, none] [] r31 := by
    intro r31 q36
    subst q36
    refine mG_aload_n (pc := 44) C dX10_upperAt_44 rfl ?_
    obtain ⟨u32, e33, hf⟩ := mx_bind hf
    obtain ⟨v35, e34, hf⟩ := mx_bind hf
    refine mG_cV (pc := 45) (k' := 0) (n' := 0) 10 [] [] C hX dX10_upperAt_45 lkV_X10_92 rfl rfl e33 (tX10_ruled hl e34) rfl rfl rfl rfl ?_
    cases hf
    exact mG_ir (pc := 48) C E hX dX10_upperAt_48 rfl
  refine mG_sub (ls' := [some (.ref p0), some (.int p1), some (.int p2), some (.int 0)]) (mxLe_s (mxLe_s (mxLe_s (mxLe_s mxLe_z)))) (mxLoop_ind (K := fun s1 : (Int32 × mxH) => mG l Z X 4 0 0 2 [some (.ref p0), some (.int p1), some (.int p2), some (.int s1.1)] [] s1.2) ?_ _ _ e3)
  intro s1 o7 e8 hK5 hx6
  refine mG_iload_n (pc := 2) C dX10_upperAt_2 rfl ?_
  refine mG_ic (pc := 3) C dX10_upperAt_3 kI5 ?_
  refine mG_icmp_ge (pc := 4) (tgt := 44) C dX10_upperAt_4 (by decide) (fun q9 => ?_) (fun q9 => ?_)
  · rw [if_pos q9] at e8
    exact mG_sub (mxLe_s (mxLe_n (mxLe_n (mxLe_n mxLe_z)))) (J4 _ (hx6 _ (Option.some.inj e8).symm))
  · rw [if_neg q9] at e8
    refine mG_aload_n (pc := 7) C dX10_upperAt_7 rfl ?_
    obtain ⟨r10, e11, e8⟩ := mx_bind e8
    refine mG_getR (pc := 8) C dX10_upperAt_8 fl_X10_16 e11 ?_
    refine mG_iload_n (pc := 11) C dX10_upperAt_11 rfl ?_
    refine mG_aload_n (pc := 12) C dX10_upperAt_12 rfl ?_
    refine mG_iload_n (pc := 13) C dX10_upperAt_13 rfl ?_
    refine mG_iload_n (pc := 14) C dX10_upperAt_14 rfl ?_
    refine mG_iload_n (pc := 15) C dX10_upperAt_15 rfl ?_
    obtain ⟨u12, e13, e8⟩ := mx_bind e8
    obtain ⟨v15, e14, e8⟩ := mx_bind e8
    refine mG_cV (pc := 16) (k' := 0) (n' := 0) 10 [.int s1.1, .int p1, .int p2] [.int s1.1, .ref r10] C hX dX10_upperAt_16 lkV_X10_96 rfl rfl e13 (tX10_isRead hl e14) rfl rfl rfl rfl ?_
    obtain ⟨p18, e19, e8⟩ := mx_bind e8
    have J17 : ∀ p18' : Int32, p18' = p18 → mG l Z X 4 0 0 37 [some (.ref p0), some (.int p1), some (.int p2), some (.int s1.1)] [.int p18', .int s1.1, .ref r10] s1.2 := by
      intro p18' q30
      subst q30
      obtain ⟨h28, e29, e8⟩ := mx_bind e8
      refine mG_iastore (pc := 37) C dX10_upperAt_37 e29 ?_
      refine mG_ii (ls' := [some (.ref p0), some (.int p1), some (.int p2), some (.int (s1.1 + 1))]) (pc := 38) C dX10_upperAt_38 rfl (kinc1 _) rfl rfl rfl ?_
      refine mG_goto (tgt := 2) (pc := 41) C dX10_upperAt_41 (by decide) ?_
      exact mG_sub (mxLe_s (mxLe_s (mxLe_s (mxLe_s mxLe_z)))) (hK5 _ (Option.some.inj e8).symm)
    refine mG_if_eq (pc := 19) (tgt := 31) C dX10_upperAt_19 (by decide) (fun q16 => ?_) (fun q16 => ?_)
    · rw [if_pos q16] at e19
      refine mG_aload_n (pc := 31) C dX10_upperAt_31 rfl ?_
      refine mG_iload_n (pc := 32) C dX10_upperAt_32 rfl ?_
      refine mG_iload_n (pc := 33) C dX10_upperAt_33 rfl ?_
      obtain ⟨u20, e21, e19⟩ := mx_bind e19
      obtain ⟨v23, e22, e19⟩ := mx_bind e19
      refine mG_cV (pc := 34) (k' := 0) (n' := 0) 10 [.int s1.1, .int p2] [.int s1.1, .ref r10] C hX dX10_upperAt_34 lkV_X10_102 rfl rfl e21 (tX10_lastMark hl e22) rfl rfl rfl rfl ?_
      exact mG_sub (mxLe_s (mxLe_s (mxLe_s (mxLe_s mxLe_z)))) (J17 _ (Option.some.inj e19))
    · rw [if_neg q16] at e19
      refine mG_aload_n (pc := 22) C dX10_upperAt_22 rfl ?_
      refine mG_iload_n (pc := 23) C dX10_upperAt_23 rfl ?_
      refine mG_iload_n (pc := 24) C dX10_upperAt_24 rfl ?_
      obtain ⟨u24, e25, e19⟩ := mx_bind e19
      obtain ⟨v27, e26, e19⟩ := mx_bind e19
      refine mG_cV (pc := 25) (k' := 0) (n' := 0) 10 [.int s1.1, .int p1] [.int s1.1, .ref r10] C hX dX10_upperAt_25 lkV_X10_89 rfl rfl e25 (tX10_weighted hl e26) rfl rfl rfl rfl ?_
      refine mG_goto (tgt := 37) (pc := 28) C dX10_upperAt_28 (by decide) ?_
      exact mG_sub (mxLe_s (mxLe_s (mxLe_s (mxLe_s mxLe_z)))) (J17 _ (Option.some.inj e19))
theorem dX10_ranks_0 : decode cX10_ranks 0 = .ok (.iconst 0, 1) := by decide +kernel
theorem dX10_ranks_1 : decode cX10_ranks 1 = .ok (.istore_n 3, 1) := by decide +kernel
theorem dX10_ranks_2 : decode cX10_ranks 2 = .ok (.iconst 0, 1) := by decide +kernel
theorem dX10_ranks_3 : decode cX10_ranks 3 = .ok (.istore 4, 2) := by decide +kernel
theorem dX10_ranks_5 : decode cX10_ranks 5 = .ok (.iload 4, 2) := by decide +kernel
theorem dX10_ranks_7 : decode cX10_ranks 7 = .ok (.bipush 20, 2) := by decide +kernel
theorem dX10_ranks_9 : decode cX10_ranks 9 = .ok (.if_icmp .ge 78, 3) := by decide +kernel
theorem dX10_ranks_12 : decode cX10_ranks 12 = .ok (.aload_n 0, 1) := by decide +kernel
theorem dX10_ranks_13 : decode cX10_ranks 13 = .ok (.iload 4, 2) := by decide +kernel
theorem dX10_ranks_15 : decode cX10_ranks 15 = .ok (.iload_n 2, 1) := by decide +kernel
theorem dX10_ranks_16 : decode cX10_ranks 16 = .ok (.invokevirtual 105, 3) := by decide +kernel
theorem dX10_ranks_19 : decode cX10_ranks 19 = .ok (.ifCond .ne 6, 3) := by decide +kernel
theorem dX10_ranks_22 : decode cX10_ranks 22 = .ok (.goto 59, 3) := by decide +kernel
theorem dX10_ranks_25 : decode cX10_ranks 25 = .ok (.aload_n 0, 1) := by decide +kernel
theorem dX10_ranks_26 : decode cX10_ranks 26 = .ok (.iload 4, 2) := by decide +kernel
theorem dX10_ranks_28 : decode cX10_ranks 28 = .ok (.invokevirtual 108, 3) := by decide +kernel
theorem dX10_ranks_31 : decode cX10_ranks 31 = .ok (.istore 5, 2) := by decide +kernel
theorem dX10_ranks_33 : decode cX10_ranks 33 = .ok (.iload_n 3, 1) := by decide +kernel
theorem dX10_ranks_34 : decode cX10_ranks 34 = .ok (.istore 6, 2) := by decide +kernel
theorem dX10_ranks_36 : decode cX10_ranks 36 = .ok (.iload 6, 2) := by decide +kernel
theorem dX10_ranks_38 : decode cX10_ranks 38 = .ok (.ifCond .le 34, 3) := by decide +kernel
theorem dX10_ranks_41 : decode cX10_ranks 41 = .ok (.aload_n 0, 1) := by decide +kernel
theorem dX10_ranks_42 : decode cX10_ranks 42 = .ok (.aload_n 1, 1) := by decide +kernel
theorem dX10_ranks_43 : decode cX10_ranks 43 = .ok (.iload 6, 2) := by decide +kernel
theorem dX10_ranks_45 : decode cX10_ranks 45 = .ok (.iconst 1, 1) := by decide +kernel
theorem dX10_ranks_46 : decode cX10_ranks 46 = .ok (.isub, 1) := by decide +kernel
theorem dX10_ranks_47 : decode cX10_ranks 47 = .ok (.iaload, 1) := by decide +kernel
theorem dX10_ranks_48 : decode cX10_ranks 48 = .ok (.invokevirtual 108, 3) := by decide +kernel
theorem dX10_ranks_51 : decode cX10_ranks 51 = .ok (.iload 5, 2) := by decide +kernel
theorem dX10_ranks_53 : decode cX10_ranks 53 = .ok (.if_icmp .ge 19, 3) := by decide +kernel
theorem dX10_ranks_56 : decode cX10_ranks 56 = .ok (.aload_n 1, 1) := by decide +kernel
theorem dX10_ranks_57 : decode cX10_ranks 57 = .ok (.iload 6, 2) := by decide +kernel
theorem dX10_ranks_59 : decode cX10_ranks 59 = .ok (.aload_n 1, 1) := by decide +kernel
theorem dX10_ranks_60 : decode cX10_ranks 60 = .ok (.iload 6, 2) := by decide +kernel
theorem dX10_ranks_62 : decode cX10_ranks 62 = .ok (.iconst 1, 1) := by decide +kernel
theorem dX10_ranks_63 : decode cX10_ranks 63 = .ok (.isub, 1) := by decide +kernel
theorem dX10_ranks_64 : decode cX10_ranks 64 = .ok (.iaload, 1) := by decide +kernel
theorem dX10_ranks_65 : decode cX10_ranks 65 = .ok (.iastore, 1) := by decide +kernel
theorem dX10_ranks_66 : decode cX10_ranks 66 = .ok (.iinc 6 (-1), 3) := by decide +kernel
theorem dX10_ranks_69 : decode cX10_ranks 69 = .ok (.goto (-33), 3) := by decide +kernel
theorem dX10_ranks_72 : decode cX10_ranks 72 = .ok (.aload_n 1, 1) := by decide +kernel
theorem dX10_ranks_73 : decode cX10_ranks 73 = .ok (.iload 6, 2) := by decide +kernel
theorem dX10_ranks_75 : decode cX10_ranks 75 = .ok (.iload 4, 2) := by decide +kernel
theorem dX10_ranks_77 : decode cX10_ranks 77 = .ok (.iastore, 1) := by decide +kernel
theorem dX10_ranks_78 : decode cX10_ranks 78 = .ok (.iinc 3 1, 3) := by decide +kernel
theorem dX10_ranks_81 : decode cX10_ranks 81 = .ok (.iinc 4 1, 3) := by decide +kernel
theorem dX10_ranks_84 : decode cX10_ranks 84 = .ok (.goto (-79), 3) := by decide +kernel
theorem dX10_ranks_87 : decode cX10_ranks 87 = .ok (.iload_n 3, 1) := by decide +kernel
theorem dX10_ranks_88 : decode cX10_ranks 88 = .ok (.ireturn, 1) := by decide +kernel
def fX10_ranks (p0 : Nat) (p1 : Nat) (p2 : Int32) (h : mxH) : Option (Int32 × mxH) := Option.bind (mxLoop (ρ := (Int32 × mxH)) (fun s1 : (Int32 × Int32 × mxH) => (if 20 ≤ s1.2.1 then some (Sum.inr (s1.1, s1.2.2)) else Option.bind (isO s1.2.2 p0 10) (fun u10 => Option.bind (fX10_isReadAt p0 s1.2.1 p2 s1.2.2) (fun v13 => Option.bind (α := (Int32 × mxH)) (if v13 = 0 then some (s1.1, s1.2.2) else Option.bind (isO s1.2.2 p0 10) (fun u18 => Option.bind (fX10_valueOf p0 s1.2.1 s1.2.2) (fun o21 => Option.bind (mxLoop (ρ := (Int32 × mxH)) (fun s22 : (Int32 × mxH) => (if s22.1 ≤ 0 then some (Sum.inr (s22.1, s22.2)) else Option.bind (ldI s22.2 p1 (s22.1 - 1)) (fun v31 => Option.bind (isO s22.2 p0 10) (fun u33 => Option.bind (fX10_valueOf p0 v31 s22.2) (fun o36 => (if o21.1 ≤ o36.1 then some (Sum.inr (s22.1, o36.2)) else Option.bind (ldI o36.2 p1 (s22.1 - 1)) (fun v38 => Option.bind (stI o36.2 p1 s22.1 v38) (fun h40 => some (Sum.inl (s22.1 - 1, h40)))))))))) mxF (s1.1, o21.2)) (fun r42 : (Int32 × mxH) => Option.bind (stI r42.2 p1 r42.1 s1.2.1) (fun h43 => some (s1.1 + 1, h43)))))) (fun p16' : (Int32 × mxH) => some (Sum.inl (p16'.1, s1.2.1 + 1, p16'.2))))))) mxF (0, 0, h)) (fun r47 : (Int32 × mxH) => some (r47.1, r47.2))
abbrev rmX10_ranks : Room := { frames := 4, cells := 0, slots := 0, locals := 93 }
set_option maxRecDepth 20000 in
theorem tX10_ranks {l : Launch} {Z : mxZ} (hl : l.stackTraces = false) {p0 : Nat} {p1 : Nat} {p2 : Int32} {h : mxH} {out : (Int32 × mxH)} (hf : fX10_ranks p0 p1 p2 h = some out) : mxMet l Z yX10_ranks cX10_ranks 7 (some .int) rmX10_ranks [.ref p0, .ref p1, .int p2] h (.inl (some (.int out.1))) out.2 := by
  refine mxMet_of (by decide) hl (by simp [Value.category]) (Nat.le_of_ble_eq_true rfl) ?_
  intro X C E hX hin
  unfold fX10_ranks at hf
  refine mG_ic (pc := 0) C dX10_ranks_0 kI0 ?_
  refine mG_isn (ls' := [some (.ref p0), some (.ref p1), some (.int p2), some (.int 0), none, none, none]) (pc := 1) C dX10_ranks_1 rfl rfl rfl ?_
  refine mG_ic (pc := 2) C dX10_ranks_2 kI0 ?_
  refine mG_is (ls' := [some (.ref p0), some (.ref p1), some (.int p2), some (.int 0), some (.int 0), none, none]) (pc := 3) C dX10_ranks_3 rfl rfl rfl ?_
  obtain ⟨r2, e3, hf⟩ := mx_bind hf
  have J4 : ∀ r47 : (Int32 × mxH), r47 = r2 → mG l Z X 7 0 0 87 [none, none, none, some (.int r47.1), none, none, none] [] r47.2 := by
    intro r47 q48
    subst q48
    refine mG_iload_n (pc := 87) C dX10_ranks_87 rfl ?_
    cases hf
    exact mG_ir (pc := 88) C E hX dX10_ranks_88 rfl
  refine mG_sub (ls' := [some (.ref p0), some (.ref p1), some (.int p2), some (.int 0), some (.int 0), none, none]) (mxLe_s (mxLe_s (mxLe_s (mxLe_s (mxLe_s (mxLe_n (mxLe_n mxLe_z))))))) (mxLoop_ind (K := fun s1 : (Int32 × Int32 × mxH) => mG l Z X 7 0 0 5 [some (.ref p0), some (.ref p1), some (.int p2), some (.int s1.1), some (.int s1.2.1), none, none] [] s1.2.2) ?_ _ _ e3)
  intro s1 o7 e8 hK5 hx6
  refine mG_iload (pc := 5) C dX10_ranks_5 rfl ?_
  refine mG_bp (pc := 7) C dX10_ranks_7 kB20 ?_
  refine mG_icmp_ge (pc := 9) (tgt := 87) C dX10_ranks_9 (by decide) (fun q9 => ?_) (fun q9 => ?_)
  · rw [if_pos q9] at e8
    exact mG_sub (mxLe_n (mxLe_n (mxLe_n (mxLe_s (mxLe_n (mxLe_n (mxLe_n mxLe_z))))))) (J4 _ (hx6 _ (Option.some.inj e8).symm))
  · rw [if_neg q9] at e8
    refine mG_aload_n (pc := 12) C dX10_ranks_12 rfl ?_
    refine mG_iload (pc := 13) C dX10_ranks_13 rfl ?_
    refine mG_iload_n (pc := 15) C dX10_ranks_15 rfl ?_
    obtain ⟨u10, e11, e8⟩ := mx_bind e8
    obtain ⟨v13, e12, e8⟩ := mx_bind e8
    refine mG_cV (pc := 16) (k' := 0) (n' := 0) 10 [.int s1.2.1, .int p2] [] C hX dX10_ranks_16 lkV_X10_105 rfl rfl e11 (tX10_isReadAt hl e12) rfl rfl rfl rfl ?_
    obtain ⟨p16, e17, e8⟩ := mx_bind e8
    have J15 : ∀ p16' : (Int32 × mxH), p16' = p16 → mG l Z X 7 0 0 81 [some (.ref p0), some (.ref p1), some (.int p2), some (.int p16'.1), some (.int s1.2.1), none, none] [] p16'.2 := by
      intro p16' q46
      subst q46
      refine mG_ii (ls' := [some (.ref p0), some (.ref p1), some (.int p2), some (.int p16'.1), some (.int (s1.2.1 + 1)), none, none]) (pc := 81) C dX10_ranks_81 rfl (kinc1 _) rfl rfl rfl ?_
      refine mG_goto (tgt := 5) (pc := 84) C dX10_ranks_84 (by decide) ?_
      exact mG_sub (mxLe_s (mxLe_s (mxLe_s (mxLe_s (mxLe_s (mxLe_n (mxLe_n mxLe_z))))))) (hK5 _ (Option.some.inj e8).symm)
    refine mG_if_ne (pc := 19) (tgt := 25) C dX10_ranks_19 (by decide) (fun q14 => ?_) (fun q14 => ?_)
    · rw [if_neg q14] at e17
      refine mG_aload_n (pc := 25) C dX10_ranks_25 rfl ?_
      refine mG_iload (pc := 26) C dX10_ranks_26 rfl ?_
      obtain ⟨u18, e19, e17⟩ := mx_bind e17
      obtain ⟨o21, e20, e17⟩ := mx_bind e17
      refine mG_cV (pc := 28) (k' := 0) (n' := 0) 10 [.int s1.2.1] [] C hX dX10_ranks_28 lkV_X10_108 rfl rfl e19 (tX10_valueOf hl e20) rfl rfl rfl rfl ?_
      refine mG_is (ls' := [some (.ref p0), some (.ref p1), some (.int p2), some (.int s1.1), some (.int s1.2.1), some (.int o21.1), none]) (pc := 31) C dX10_ranks_31 rfl rfl rfl ?_
      refine mG_iload_n (pc := 33) C dX10_ranks_33 rfl ?_
      refine mG_is (ls' := [some (.ref p0), some (.ref p1), some (.int p2), some (.int s1.1), some (.int s1.2.1), some (.int o21.1), some (.int s1.1)]) (pc := 34) C dX10_ranks_34 rfl rfl rfl ?_
      obtain ⟨r23, e24, e17⟩ := mx_bind e17
      have J25 : ∀ r42 : (Int32 × mxH), r42 = r23 → mG l Z X 7 0 0 72 [some (.ref p0), some (.ref p1), some (.int p2), some (.int s1.1), some (.int s1.2.1), none, some (.int r42.1)] [] r42.2 := by
        intro r42 q45
        subst q45
        refine mG_aload_n (pc := 72) C dX10_ranks_72 rfl ?_
        refine mG_iload (pc := 73) C dX10_ranks_73 rfl ?_
        refine mG_iload (pc := 75) C dX10_ranks_75 rfl ?_
        obtain ⟨h43, e44, e17⟩ := mx_bind e17
        refine mG_iastore (pc := 77) C dX10_ranks_77 e44 ?_
        refine mG_ii (ls' := [some (.ref p0), some (.ref p1), some (.int p2), some (.int (s1.1 + 1)), some (.int s1.2.1), none, some (.int r42.1)]) (pc := 78) C dX10_ranks_78 rfl (kinc1 _) rfl rfl rfl ?_
        exact mG_sub (mxLe_s (mxLe_s (mxLe_s (mxLe_s (mxLe_s (mxLe_n (mxLe_n mxLe_z))))))) (J15 _ (Option.some.inj e17))
      refine mG_sub (ls' := [some (.ref p0), some (.ref p1), some (.int p2), some (.int s1.1), some (.int s1.2.1), some (.int o21.1), some (.int s1.1)]) (mxLe_s (mxLe_s (mxLe_s (mxLe_s (mxLe_s (mxLe_s (mxLe_s mxLe_z))))))) (mxLoop_ind (K := fun s22 : (Int32 × mxH) => mG l Z X 7 0 0 36 [some (.ref p0), some (.ref p1), some (.int p2), some (.int s1.1), some (.int s1.2.1), some (.int o21.1), some (.int s22.1)] [] s22.2) ?_ _ _ e24)
      intro s22 o28 e29 hK26 hx27
      refine mG_iload (pc := 36) C dX10_ranks_36 rfl ?_
      refine mG_if_le (pc := 38) (tgt := 72) C dX10_ranks_38 (by decide) (fun q30 => ?_) (fun q30 => ?_)
      · rw [if_pos q30] at e29
        exact mG_sub (mxLe_s (mxLe_s (mxLe_s (mxLe_s (mxLe_s (mxLe_n (mxLe_s mxLe_z))))))) (J25 _ (hx27 _ (Option.some.inj e29).symm))
      · rw [if_neg q30] at e29
        refine mG_aload_n (pc := 41) C dX10_ranks_41 rfl ?_
        refine mG_aload_n (pc := 42) C dX10_ranks_42 rfl ?_
        refine mG_iload (pc := 43) C dX10_ranks_43 rfl ?_
        refine mG_ic (pc := 45) C dX10_ranks_45 kI1 ?_
        refine mG_isub (pc := 46) C dX10_ranks_46 ?_
        obtain ⟨v31, e32, e29⟩ := mx_bind e29
        refine mG_iaload (pc := 47) C dX10_ranks_47 e32 ?_
        obtain ⟨u33, e34, e29⟩ := mx_bind e29
        obtain ⟨o36, e35, e29⟩ := mx_bind e29
        refine mG_cV (pc := 48) (k' := 0) (n' := 0) 10 [.int v31] [] C hX dX10_ranks_48 lkV_X10_108 rfl rfl e34 (tX10_valueOf hl e35) rfl rfl rfl rfl ?_
        refine mG_iload (pc := 51) C dX10_ranks_51 rfl ?_
        refine mG_icmp_ge (pc := 53) (tgt := 72) C dX10_ranks_53 (by decide) (fun q37 => ?_) (fun q37 => ?_)
        · rw [if_pos q37] at e29
          exact mG_sub (mxLe_s (mxLe_s (mxLe_s (mxLe_s (mxLe_s (mxLe_n (mxLe_s mxLe_z))))))) (J25 _ (hx27 _ (Option.some.inj e29).symm))
        · rw [if_neg q37] at e29
          refine mG_aload_n (pc := 56) C dX10_ranks_56 rfl ?_
          refine mG_iload (pc := 57) C dX10_ranks_57 rfl ?_
          refine mG_aload_n (pc := 59) C dX10_ranks_59 rfl ?_
          refine mG_iload (pc := 60) C dX10_ranks_60 rfl ?_
          refine mG_ic (pc := 62) C dX10_ranks_62 kI1 ?_
          refine mG_isub (pc := 63) C dX10_ranks_63 ?_
          obtain ⟨v38, e39, e29⟩ := mx_bind e29
          refine mG_iaload (pc := 64) C dX10_ranks_64 e39 ?_
          obtain ⟨h40, e41, e29⟩ := mx_bind e29
          refine mG_iastore (pc := 65) C dX10_ranks_65 e41 ?_
          refine mG_ii (ls' := [some (.ref p0), some (.ref p1), some (.int p2), some (.int s1.1), some (.int s1.2.1), some (.int o21.1), some (.int (s22.1 - 1))]) (pc := 66) C dX10_ranks_66 rfl (kincm1 _) rfl rfl rfl ?_
          refine mG_goto (tgt := 36) (pc := 69) C dX10_ranks_69 (by decide) ?_
          exact mG_sub (mxLe_s (mxLe_s (mxLe_s (mxLe_s (mxLe_s (mxLe_s (mxLe_s mxLe_z))))))) (hK26 _ (Option.some.inj e29).symm)
    · rw [if_pos q14] at e17
      refine mG_goto (tgt := 81) (pc := 22) C dX10_ranks_22 (by decide) ?_
      exact mG_sub (mxLe_s (mxLe_s (mxLe_s (mxLe_s (mxLe_s (mxLe_n (mxLe_n mxLe_z))))))) (J15 _ (Option.some.inj e17))
theorem dX10_stop_0 : decode cX10_stop 0 = .ok (.aload_n 0, 1) := by decide +kernel
theorem dX10_stop_1 : decode cX10_stop 1 = .ok (.invokevirtual 111, 3) := by decide +kernel
theorem dX10_stop_4 : decode cX10_stop 4 = .ok (.istore_n 2, 1) := by decide +kernel
theorem dX10_stop_5 : decode cX10_stop 5 = .ok (.iconst 1, 1) := by decide +kernel
theorem dX10_stop_6 : decode cX10_stop 6 = .ok (.istore_n 3, 1) := by decide +kernel
theorem dX10_stop_7 : decode cX10_stop 7 = .ok (.iload_n 3, 1) := by decide +kernel
theorem dX10_stop_8 : decode cX10_stop 8 = .ok (.iload_n 2, 1) := by decide +kernel
theorem dX10_stop_9 : decode cX10_stop 9 = .ok (.if_icmp .ge 48, 3) := by decide +kernel
theorem dX10_stop_12 : decode cX10_stop 12 = .ok (.aload_n 0, 1) := by decide +kernel
theorem dX10_stop_13 : decode cX10_stop 13 = .ok (.aload_n 0, 1) := by decide +kernel
theorem dX10_stop_14 : decode cX10_stop 14 = .ok (.getfield 19, 3) := by decide +kernel
theorem dX10_stop_17 : decode cX10_stop 17 = .ok (.iload_n 3, 1) := by decide +kernel
theorem dX10_stop_18 : decode cX10_stop 18 = .ok (.invokevirtual 114, 3) := by decide +kernel
theorem dX10_stop_21 : decode cX10_stop 21 = .ok (.istore 4, 2) := by decide +kernel
theorem dX10_stop_23 : decode cX10_stop 23 = .ok (.iload 4, 2) := by decide +kernel
theorem dX10_stop_25 : decode cX10_stop 25 = .ok (.iload_n 1, 1) := by decide +kernel
theorem dX10_stop_26 : decode cX10_stop 26 = .ok (.if_icmp .lt 25, 3) := by decide +kernel
theorem dX10_stop_29 : decode cX10_stop 29 = .ok (.aload_n 0, 1) := by decide +kernel
theorem dX10_stop_30 : decode cX10_stop 30 = .ok (.aload_n 0, 1) := by decide +kernel
theorem dX10_stop_31 : decode cX10_stop 31 = .ok (.getfield 19, 3) := by decide +kernel
theorem dX10_stop_34 : decode cX10_stop 34 = .ok (.iload_n 1, 1) := by decide +kernel
theorem dX10_stop_35 : decode cX10_stop 35 = .ok (.iconst 1, 1) := by decide +kernel
theorem dX10_stop_36 : decode cX10_stop 36 = .ok (.isub, 1) := by decide +kernel
theorem dX10_stop_37 : decode cX10_stop 37 = .ok (.iaload, 1) := by decide +kernel
theorem dX10_stop_38 : decode cX10_stop 38 = .ok (.invokevirtual 108, 3) := by decide +kernel
theorem dX10_stop_41 : decode cX10_stop 41 = .ok (.aload_n 0, 1) := by decide +kernel
theorem dX10_stop_42 : decode cX10_stop 42 = .ok (.iload_n 3, 1) := by decide +kernel
theorem dX10_stop_43 : decode cX10_stop 43 = .ok (.invokevirtual 118, 3) := by decide +kernel
theorem dX10_stop_46 : decode cX10_stop 46 = .ok (.if_icmp .lt 5, 3) := by decide +kernel
theorem dX10_stop_49 : decode cX10_stop 49 = .ok (.iload_n 3, 1) := by decide +kernel
theorem dX10_stop_50 : decode cX10_stop 50 = .ok (.ireturn, 1) := by decide +kernel
theorem dX10_stop_51 : decode cX10_stop 51 = .ok (.iinc 3 1, 3) := by decide +kernel
theorem dX10_stop_54 : decode cX10_stop 54 = .ok (.goto (-47), 3) := by decide +kernel
theorem dX10_stop_57 : decode cX10_stop 57 = .ok (.iload_n 2, 1) := by decide +kernel
theorem dX10_stop_58 : decode cX10_stop 58 = .ok (.ireturn, 1) := by decide +kernel
def fX10_stop (p0 : Nat) (p1 : Int32) (h : mxH) : Option (Int32 × mxH) := Option.bind (isO h p0 10) (fun u1 => Option.bind (fX10_longest p0 h) (fun v4 => Option.bind (mxLoop (ρ := ((Int32 × mxH) ⊕ mxH)) (fun s5 : (Int32 × mxH) => (if v4 ≤ s5.1 then some (Sum.inr (Sum.inr s5.2)) else Option.bind (gR s5.2 p0 10 5) (fun r15 => Option.bind (isO s5.2 p0 10) (fun u17 => Option.bind (fX10_ranks p0 r15 s5.1 s5.2) (fun o20 => (if o20.1 < p1 then some (Sum.inl (s5.1 + 1, o20.2)) else Option.bind (gR o20.2 p0 10 5) (fun r22 => Option.bind (ldI o20.2 r22 (p1 - 1)) (fun v24 => Option.bind (isO o20.2 p0 10) (fun u26 => Option.bind (fX10_valueOf p0 v24 o20.2) (fun o29 => Option.bind (isO o29.2 p0 10) (fun u30 => Option.bind (fX10_limitAt p0 s5.1 o29.2) (fun o33 => (if o29.1 < o33.1 then some (Sum.inl (s5.1 + 1, o33.2)) else some (Sum.inr (Sum.inl (s5.1, o33.2)))))))))))))))) mxF (1, h)) (Sum.elim (fun r35 : (Int32 × mxH) => some (r35.1, r35.2)) (fun r37 : mxH => some (v4, r37)))))
abbrev rmX10_stop : Room := { frames := 5, cells := 0, slots := 0, locals := 119 }
set_option maxRecDepth 20000 in
theorem tX10_stop {l : Launch} {Z : mxZ} (hl : l.stackTraces = false) {p0 : Nat} {p1 : Int32} {h : mxH} {out : (Int32 × mxH)} (hf : fX10_stop p0 p1 h = some out) : mxMet l Z yX10_stop cX10_stop 5 (some .int) rmX10_stop [.ref p0, .int p1] h (.inl (some (.int out.1))) out.2 := by
  refine mxMet_of (by decide) hl (by simp [Value.category]) (Nat.le_of_ble_eq_true rfl) ?_
  intro X C E hX hin
  unfold fX10_stop at hf
  refine mG_aload_n (pc := 0) C dX10_stop_0 rfl ?_
  obtain ⟨u1, e2, hf⟩ := mx_bind hf
  obtain ⟨v4, e3, hf⟩ := mx_bind hf
  refine mG_cV (pc := 1) (k' := 0) (n' := 0) 10 [] [] C hX dX10_stop_1 lkV_X10_111 rfl rfl e2 (tX10_longest hl e3) rfl rfl rfl rfl ?_
  refine mG_isn (ls' := [some (.ref p0), some (.int p1), some (.int v4), none, none]) (pc := 4) C dX10_stop_4 rfl rfl rfl ?_
  refine mG_ic (pc := 5) C dX10_stop_5 kI1 ?_
  refine mG_isn (ls' := [some (.ref p0), some (.int p1), some (.int v4), some (.int 1), none]) (pc := 6) C dX10_stop_6 rfl rfl rfl ?_
  obtain ⟨r6, e7, hf⟩ := mx_bind hf
  have J8 : ∀ r35 : (Int32 × mxH), Sum.inl r35 = r6 → mG l Z X 5 0 0 49 [none, none, none, some (.int r35.1), none] [] r35.2 := by
    intro r35 q36
    subst q36
    rw [Sum.elim_inl] at hf
    refine mG_iload_n (pc := 49) C dX10_stop_49 rfl ?_
    cases hf
    exact mG_ir (pc := 50) C E hX dX10_stop_50 rfl
  have J9 : ∀ r37 : mxH, Sum.inr r37 = r6 → mG l Z X 5 0 0 57 [none, none, some (.int v4), none, none] [] r37 := by
    intro r37 q38
    subst q38
    rw [Sum.elim_inr] at hf
    refine mG_iload_n (pc := 57) C dX10_stop_57 rfl ?_
    cases hf
    exact mG_ir (pc := 58) C E hX dX10_stop_58 rfl
  refine mG_sub (ls' := [some (.ref p0), some (.int p1), some (.int v4), some (.int 1), none]) (mxLe_s (mxLe_s (mxLe_s (mxLe_s (mxLe_n mxLe_z))))) (mxLoop_ind (K := fun s5 : (Int32 × mxH) => mG l Z X 5 0 0 7 [some (.ref p0), some (.int p1), some (.int v4), some (.int s5.1), none] [] s5.2) ?_ _ _ e7)
  intro s5 o12 e13 hK10 hx11
  refine mG_iload_n (pc := 7) C dX10_stop_7 rfl ?_
  refine mG_iload_n (pc := 8) C dX10_stop_8 rfl ?_
  refine mG_icmp_ge (pc := 9) (tgt := 57) C dX10_stop_9 (by decide) (fun q14 => ?_) (fun q14 => ?_)
  · rw [if_pos q14] at e13
    exact mG_sub (mxLe_n (mxLe_n (mxLe_s (mxLe_n (mxLe_n mxLe_z))))) (J9 _ (hx11 _ (Option.some.inj e13).symm))
  · rw [if_neg q14] at e13
    refine mG_aload_n (pc := 12) C dX10_stop_12 rfl ?_
    refine mG_aload_n (pc := 13) C dX10_stop_13 rfl ?_
    obtain ⟨r15, e16, e13⟩ := mx_bind e13
    refine mG_getR (pc := 14) C dX10_stop_14 fl_X10_19 e16 ?_
    refine mG_iload_n (pc := 17) C dX10_stop_17 rfl ?_
    obtain ⟨u17, e18, e13⟩ := mx_bind e13
    obtain ⟨o20, e19, e13⟩ := mx_bind e13
    refine mG_cV (pc := 18) (k' := 0) (n' := 0) 10 [.ref r15, .int s5.1] [] C hX dX10_stop_18 lkV_X10_114 rfl rfl e18 (tX10_ranks hl e19) rfl rfl rfl rfl ?_
    refine mG_is (ls' := [some (.ref p0), some (.int p1), some (.int v4), some (.int s5.1), some (.int o20.1)]) (pc := 21) C dX10_stop_21 rfl rfl rfl ?_
    refine mG_iload (pc := 23) C dX10_stop_23 rfl ?_
    refine mG_iload_n (pc := 25) C dX10_stop_25 rfl ?_
    refine mG_icmp_lt (pc := 26) (tgt := 51) C dX10_stop_26 (by decide) (fun q21 => ?_) (fun q21 => ?_)
    · rw [if_pos q21] at e13
      refine mG_ii (ls' := [some (.ref p0), some (.int p1), some (.int v4), some (.int (s5.1 + 1)), some (.int o20.1)]) (pc := 51) C dX10_stop_51 rfl (kinc1 _) rfl rfl rfl ?_
      refine mG_goto (tgt := 7) (pc := 54) C dX10_stop_54 (by decide) ?_
      exact mG_sub (mxLe_s (mxLe_s (mxLe_s (mxLe_s (mxLe_n mxLe_z))))) (hK10 _ (Option.some.inj e13).symm)
    · rw [if_neg q21] at e13
      refine mG_aload_n (pc := 29) C dX10_stop_29 rfl ?_
      refine mG_aload_n (pc := 30) C dX10_stop_30 rfl ?_
      obtain ⟨r22, e23, e13⟩ := mx_bind e13
      refine mG_getR (pc := 31) C dX10_stop_31 fl_X10_19 e23 ?_
      refine mG_iload_n (pc := 34) C dX10_stop_34 rfl ?_
      refine mG_ic (pc := 35) C dX10_stop_35 kI1 ?_
      refine mG_isub (pc := 36) C dX10_stop_36 ?_
      obtain ⟨v24, e25, e13⟩ := mx_bind e13
      refine mG_iaload (pc := 37) C dX10_stop_37 e25 ?_
      obtain ⟨u26, e27, e13⟩ := mx_bind e13
      obtain ⟨o29, e28, e13⟩ := mx_bind e13
      refine mG_cV (pc := 38) (k' := 0) (n' := 0) 10 [.int v24] [] C hX dX10_stop_38 lkV_X10_108 rfl rfl e27 (tX10_valueOf hl e28) rfl rfl rfl rfl ?_
      refine mG_aload_n (pc := 41) C dX10_stop_41 rfl ?_
      refine mG_iload_n (pc := 42) C dX10_stop_42 rfl ?_
      obtain ⟨u30, e31, e13⟩ := mx_bind e13
      obtain ⟨o33, e32, e13⟩ := mx_bind e13
      refine mG_cV (pc := 43) (k' := 0) (n' := 0) 10 [.int s5.1] [.int o29.1] C hX dX10_stop_43 lkV_X10_118 rfl rfl e31 (tX10_limitAt hl e32) rfl rfl rfl rfl ?_
      refine mG_icmp_lt (pc := 46) (tgt := 51) C dX10_stop_46 (by decide) (fun q34 => ?_) (fun q34 => ?_)
      · rw [if_pos q34] at e13
        refine mG_ii (ls' := [some (.ref p0), some (.int p1), some (.int v4), some (.int (s5.1 + 1)), some (.int o20.1)]) (pc := 51) C dX10_stop_51 rfl (kinc1 _) rfl rfl rfl ?_
        refine mG_goto (tgt := 7) (pc := 54) C dX10_stop_54 (by decide) ?_
        exact mG_sub (mxLe_s (mxLe_s (mxLe_s (mxLe_s (mxLe_n mxLe_z))))) (hK10 _ (Option.some.inj e13).symm)
      · rw [if_neg q34] at e13
        exact mG_sub (mxLe_n (mxLe_n (mxLe_n (mxLe_s (mxLe_n mxLe_z))))) (J8 _ (hx11 _ (Option.some.inj e13).symm))
theorem dX10_laysBounds_0 : decode cX10_laysBounds 0 = .ok (.iconst 0, 1) := by decide +kernel
theorem dX10_laysBounds_1 : decode cX10_laysBounds 1 = .ok (.istore_n 2, 1) := by decide +kernel
theorem dX10_laysBounds_2 : decode cX10_laysBounds 2 = .ok (.iload_n 2, 1) := by decide +kernel
theorem dX10_laysBounds_3 : decode cX10_laysBounds 3 = .ok (.bipush 20, 2) := by decide +kernel
theorem dX10_laysBounds_5 : decode cX10_laysBounds 5 = .ok (.if_icmp .ge 71, 3) := by decide +kernel
theorem dX10_laysBounds_8 : decode cX10_laysBounds 8 = .ok (.aload_n 0, 1) := by decide +kernel
theorem dX10_laysBounds_9 : decode cX10_laysBounds 9 = .ok (.getfield 43, 3) := by decide +kernel
theorem dX10_laysBounds_12 : decode cX10_laysBounds 12 = .ok (.iload_n 2, 1) := by decide +kernel
theorem dX10_laysBounds_13 : decode cX10_laysBounds 13 = .ok (.aload_n 0, 1) := by decide +kernel
theorem dX10_laysBounds_14 : decode cX10_laysBounds 14 = .ok (.iload_n 2, 1) := by decide +kernel
theorem dX10_laysBounds_15 : decode cX10_laysBounds 15 = .ok (.iload_n 1, 1) := by decide +kernel
theorem dX10_laysBounds_16 : decode cX10_laysBounds 16 = .ok (.invokevirtual 105, 3) := by decide +kernel
theorem dX10_laysBounds_19 : decode cX10_laysBounds 19 = .ok (.bastore, 1) := by decide +kernel
theorem dX10_laysBounds_20 : decode cX10_laysBounds 20 = .ok (.aload_n 0, 1) := by decide +kernel
theorem dX10_laysBounds_21 : decode cX10_laysBounds 21 = .ok (.getfield 47, 3) := by decide +kernel
theorem dX10_laysBounds_24 : decode cX10_laysBounds 24 = .ok (.iload_n 2, 1) := by decide +kernel
theorem dX10_laysBounds_25 : decode cX10_laysBounds 25 = .ok (.aload_n 0, 1) := by decide +kernel
theorem dX10_laysBounds_26 : decode cX10_laysBounds 26 = .ok (.getfield 43, 3) := by decide +kernel
theorem dX10_laysBounds_29 : decode cX10_laysBounds 29 = .ok (.iload_n 2, 1) := by decide +kernel
theorem dX10_laysBounds_30 : decode cX10_laysBounds 30 = .ok (.baload, 1) := by decide +kernel
theorem dX10_laysBounds_31 : decode cX10_laysBounds 31 = .ok (.ifCond .eq 12, 3) := by decide +kernel
theorem dX10_laysBounds_34 : decode cX10_laysBounds 34 = .ok (.aload_n 0, 1) := by decide +kernel
theorem dX10_laysBounds_35 : decode cX10_laysBounds 35 = .ok (.iload_n 2, 1) := by decide +kernel
theorem dX10_laysBounds_36 : decode cX10_laysBounds 36 = .ok (.iload_n 1, 1) := by decide +kernel
theorem dX10_laysBounds_37 : decode cX10_laysBounds 37 = .ok (.invokevirtual 121, 3) := by decide +kernel
theorem dX10_laysBounds_40 : decode cX10_laysBounds 40 = .ok (.goto 4, 3) := by decide +kernel
theorem dX10_laysBounds_43 : decode cX10_laysBounds 43 = .ok (.iconst 0, 1) := by decide +kernel
theorem dX10_laysBounds_44 : decode cX10_laysBounds 44 = .ok (.iastore, 1) := by decide +kernel
theorem dX10_laysBounds_45 : decode cX10_laysBounds 45 = .ok (.aload_n 0, 1) := by decide +kernel
theorem dX10_laysBounds_46 : decode cX10_laysBounds 46 = .ok (.getfield 50, 3) := by decide +kernel
theorem dX10_laysBounds_49 : decode cX10_laysBounds 49 = .ok (.iload_n 2, 1) := by decide +kernel
theorem dX10_laysBounds_50 : decode cX10_laysBounds 50 = .ok (.aload_n 0, 1) := by decide +kernel
theorem dX10_laysBounds_51 : decode cX10_laysBounds 51 = .ok (.getfield 43, 3) := by decide +kernel
theorem dX10_laysBounds_54 : decode cX10_laysBounds 54 = .ok (.iload_n 2, 1) := by decide +kernel
theorem dX10_laysBounds_55 : decode cX10_laysBounds 55 = .ok (.baload, 1) := by decide +kernel
theorem dX10_laysBounds_56 : decode cX10_laysBounds 56 = .ok (.ifCond .eq 12, 3) := by decide +kernel
theorem dX10_laysBounds_59 : decode cX10_laysBounds 59 = .ok (.aload_n 0, 1) := by decide +kernel
theorem dX10_laysBounds_60 : decode cX10_laysBounds 60 = .ok (.iload_n 2, 1) := by decide +kernel
theorem dX10_laysBounds_61 : decode cX10_laysBounds 61 = .ok (.iload_n 1, 1) := by decide +kernel
theorem dX10_laysBounds_62 : decode cX10_laysBounds 62 = .ok (.invokevirtual 124, 3) := by decide +kernel
theorem dX10_laysBounds_65 : decode cX10_laysBounds 65 = .ok (.goto 4, 3) := by decide +kernel
theorem dX10_laysBounds_68 : decode cX10_laysBounds 68 = .ok (.iconst 0, 1) := by decide +kernel
theorem dX10_laysBounds_69 : decode cX10_laysBounds 69 = .ok (.iastore, 1) := by decide +kernel
theorem dX10_laysBounds_70 : decode cX10_laysBounds 70 = .ok (.iinc 2 1, 3) := by decide +kernel
theorem dX10_laysBounds_73 : decode cX10_laysBounds 73 = .ok (.goto (-71), 3) := by decide +kernel
theorem dX10_laysBounds_76 : decode cX10_laysBounds 76 = .ok (.return_, 1) := by decide +kernel
def fX10_laysBounds (p0 : Nat) (p1 : Int32) (h : mxH) : Option mxH := Option.bind (mxLoop (ρ := mxH) (fun s1 : (Int32 × mxH) => (if 20 ≤ s1.1 then some (Sum.inr s1.2) else Option.bind (gR s1.2 p0 10 13) (fun r10 => Option.bind (isO s1.2 p0 10) (fun u12 => Option.bind (fX10_isReadAt p0 s1.1 p1 s1.2) (fun v15 => Option.bind (stZ s1.2 r10 s1.1 v15) (fun h16 => Option.bind (gR h16 p0 10 14) (fun r18 => Option.bind (gR h16 p0 10 13) (fun r20 => Option.bind (ldZ h16 r20 s1.1) (fun v22 => Option.bind (α := (Int32 × mxH)) (if v22 = 0 then some (0, h16) else Option.bind (isO h16 p0 10) (fun u28 => Option.bind (fX10_lowerAt p0 s1.1 p1 h16) (fun o31 => some (o31.1, o31.2)))) (fun p26' : (Int32 × mxH) => Option.bind (stI p26'.2 r18 s1.1 p26'.1) (fun h32 => Option.bind (gR h32 p0 10 15) (fun r34 => Option.bind (gR h32 p0 10 13) (fun r36 => Option.bind (ldZ h32 r36 s1.1) (fun v38 => Option.bind (α := (Int32 × mxH)) (if v38 = 0 then some (0, h32) else Option.bind (isO h32 p0 10) (fun u44 => Option.bind (fX10_upperAt p0 s1.1 p1 h32) (fun o47 => some (o47.1, o47.2)))) (fun p42' : (Int32 × mxH) => Option.bind (stI p42'.2 r34 s1.1 p42'.1) (fun h48 => some (Sum.inl (s1.1 + 1, h48)))))))))))))))))) mxF (0, h)) (fun r52 : mxH => some r52)
abbrev rmX10_laysBounds : Room := { frames := 5, cells := 0, slots := 0, locals := 114 }
set_option maxRecDepth 20000 in
theorem tX10_laysBounds {l : Launch} {Z : mxZ} (hl : l.stackTraces = false) {p0 : Nat} {p1 : Int32} {h : mxH} {out : mxH} (hf : fX10_laysBounds p0 p1 h = some out) : mxMet l Z yX10_laysBounds cX10_laysBounds 3 (none) rmX10_laysBounds [.ref p0, .int p1] h (.inl none) out := by
  refine mxMet_of (by decide) hl (by simp [Value.category]) (Nat.le_of_ble_eq_true rfl) ?_
  intro X C E hX hin
  unfold fX10_laysBounds at hf
  refine mG_ic (pc := 0) C dX10_laysBounds_0 kI0 ?_
  refine mG_isn (ls' := [some (.ref p0), some (.int p1), some (.int 0)]) (pc := 1) C dX10_laysBounds_1 rfl rfl rfl ?_
  obtain ⟨r2, e3, hf⟩ := mx_bind hf
  have J4 : ∀ r52 : mxH, r52 = r2 → mG l Z X 3 0 0 76 [none, none, none] [] r52 := by
    intro r52 q53
    subst q53
    cases hf
    exact mG_vr (pc := 76) C E hX dX10_laysBounds_76 rfl
  refine mG_sub (ls' := [some (.ref p0), some (.int p1), some (.int 0)]) (mxLe_s (mxLe_s (mxLe_s mxLe_z))) (mxLoop_ind (K := fun s1 : (Int32 × mxH) => mG l Z X 3 0 0 2 [some (.ref p0), some (.int p1), some (.int s1.1)] [] s1.2) ?_ _ _ e3)
  intro s1 o7 e8 hK5 hx6
  refine mG_iload_n (pc := 2) C dX10_laysBounds_2 rfl ?_
  refine mG_bp (pc := 3) C dX10_laysBounds_3 kB20 ?_
  refine mG_icmp_ge (pc := 5) (tgt := 76) C dX10_laysBounds_5 (by decide) (fun q9 => ?_) (fun q9 => ?_)
  · rw [if_pos q9] at e8
    exact mG_sub (mxLe_n (mxLe_n (mxLe_n mxLe_z))) (J4 _ (hx6 _ (Option.some.inj e8).symm))
  · rw [if_neg q9] at e8
    refine mG_aload_n (pc := 8) C dX10_laysBounds_8 rfl ?_
    obtain ⟨r10, e11, e8⟩ := mx_bind e8
    refine mG_getR (pc := 9) C dX10_laysBounds_9 fl_X10_43 e11 ?_
    refine mG_iload_n (pc := 12) C dX10_laysBounds_12 rfl ?_
    refine mG_aload_n (pc := 13) C dX10_laysBounds_13 rfl ?_
    refine mG_iload_n (pc := 14) C dX10_laysBounds_14 rfl ?_
    refine mG_iload_n (pc := 15) C dX10_laysBounds_15 rfl ?_
    obtain ⟨u12, e13, e8⟩ := mx_bind e8
    obtain ⟨v15, e14, e8⟩ := mx_bind e8
    refine mG_cV (pc := 16) (k' := 0) (n' := 0) 10 [.int s1.1, .int p1] [.int s1.1, .ref r10] C hX dX10_laysBounds_16 lkV_X10_105 rfl rfl e13 (tX10_isReadAt hl e14) rfl rfl rfl rfl ?_
    obtain ⟨h16, e17, e8⟩ := mx_bind e8
    refine mG_bastore (pc := 19) C dX10_laysBounds_19 e17 ?_
    refine mG_aload_n (pc := 20) C dX10_laysBounds_20 rfl ?_
    obtain ⟨r18, e19, e8⟩ := mx_bind e8
    refine mG_getR (pc := 21) C dX10_laysBounds_21 fl_X10_47 e19 ?_
    refine mG_iload_n (pc := 24) C dX10_laysBounds_24 rfl ?_
    refine mG_aload_n (pc := 25) C dX10_laysBounds_25 rfl ?_
    obtain ⟨r20, e21, e8⟩ := mx_bind e8
    refine mG_getR (pc := 26) C dX10_laysBounds_26 fl_X10_43 e21 ?_
    refine mG_iload_n (pc := 29) C dX10_laysBounds_29 rfl ?_
    obtain ⟨v22, e23, e8⟩ := mx_bind e8
    refine mG_baload (pc := 30) C dX10_laysBounds_30 e23 ?_
    obtain ⟨p26, e27, e8⟩ := mx_bind e8
    have J25 : ∀ p26' : (Int32 × mxH), p26' = p26 → mG l Z X 3 0 0 44 [some (.ref p0), some (.int p1), some (.int s1.1)] [.int p26'.1, .int s1.1, .ref r18] p26'.2 := by
      intro p26' q51
      subst q51
      obtain ⟨h32, e33, e8⟩ := mx_bind e8
      refine mG_iastore (pc := 44) C dX10_laysBounds_44 e33 ?_
      refine mG_aload_n (pc := 45) C dX10_laysBounds_45 rfl ?_
      obtain ⟨r34, e35, e8⟩ := mx_bind e8
      refine mG_getR (pc := 46) C dX10_laysBounds_46 fl_X10_50 e35 ?_
      refine mG_iload_n (pc := 49) C dX10_laysBounds_49 rfl ?_
      refine mG_aload_n (pc := 50) C dX10_laysBounds_50 rfl ?_
      obtain ⟨r36, e37, e8⟩ := mx_bind e8
      refine mG_getR (pc := 51) C dX10_laysBounds_51 fl_X10_43 e37 ?_
      refine mG_iload_n (pc := 54) C dX10_laysBounds_54 rfl ?_
      obtain ⟨v38, e39, e8⟩ := mx_bind e8
      refine mG_baload (pc := 55) C dX10_laysBounds_55 e39 ?_
      obtain ⟨p42, e43, e8⟩ := mx_bind e8
      have J41 : ∀ p42' : (Int32 × mxH), p42' = p42 → mG l Z X 3 0 0 69 [some (.ref p0), some (.int p1), some (.int s1.1)] [.int p42'.1, .int s1.1, .ref r34] p42'.2 := by
        intro p42' q50
        subst q50
        obtain ⟨h48, e49, e8⟩ := mx_bind e8
        refine mG_iastore (pc := 69) C dX10_laysBounds_69 e49 ?_
        refine mG_ii (ls' := [some (.ref p0), some (.int p1), some (.int (s1.1 + 1))]) (pc := 70) C dX10_laysBounds_70 rfl (kinc1 _) rfl rfl rfl ?_
        refine mG_goto (tgt := 2) (pc := 73) C dX10_laysBounds_73 (by decide) ?_
        exact mG_sub (mxLe_s (mxLe_s (mxLe_s mxLe_z))) (hK5 _ (Option.some.inj e8).symm)
      refine mG_if_eq (pc := 56) (tgt := 68) C dX10_laysBounds_56 (by decide) (fun q40 => ?_) (fun q40 => ?_)
      · rw [if_pos q40] at e43
        refine mG_ic (pc := 68) C dX10_laysBounds_68 kI0 ?_
        exact mG_sub (mxLe_s (mxLe_s (mxLe_s mxLe_z))) (J41 _ (Option.some.inj e43))
      · rw [if_neg q40] at e43
        refine mG_aload_n (pc := 59) C dX10_laysBounds_59 rfl ?_
        refine mG_iload_n (pc := 60) C dX10_laysBounds_60 rfl ?_
        refine mG_iload_n (pc := 61) C dX10_laysBounds_61 rfl ?_
        obtain ⟨u44, e45, e43⟩ := mx_bind e43
        obtain ⟨o47, e46, e43⟩ := mx_bind e43
        refine mG_cV (pc := 62) (k' := 0) (n' := 0) 10 [.int s1.1, .int p1] [.int s1.1, .ref r34] C hX dX10_laysBounds_62 lkV_X10_124 rfl rfl e45 (tX10_upperAt hl e46) rfl rfl rfl rfl ?_
        refine mG_goto (tgt := 69) (pc := 65) C dX10_laysBounds_65 (by decide) ?_
        exact mG_sub (mxLe_s (mxLe_s (mxLe_s mxLe_z))) (J41 _ (Option.some.inj e43))
    refine mG_if_eq (pc := 31) (tgt := 43) C dX10_laysBounds_31 (by decide) (fun q24 => ?_) (fun q24 => ?_)
    · rw [if_pos q24] at e27
      refine mG_ic (pc := 43) C dX10_laysBounds_43 kI0 ?_
      exact mG_sub (mxLe_s (mxLe_s (mxLe_s mxLe_z))) (J25 _ (Option.some.inj e27))
    · rw [if_neg q24] at e27
      refine mG_aload_n (pc := 34) C dX10_laysBounds_34 rfl ?_
      refine mG_iload_n (pc := 35) C dX10_laysBounds_35 rfl ?_
      refine mG_iload_n (pc := 36) C dX10_laysBounds_36 rfl ?_
      obtain ⟨u28, e29, e27⟩ := mx_bind e27
      obtain ⟨o31, e30, e27⟩ := mx_bind e27
      refine mG_cV (pc := 37) (k' := 0) (n' := 0) 10 [.int s1.1, .int p1] [.int s1.1, .ref r18] C hX dX10_laysBounds_37 lkV_X10_121 rfl rfl e29 (tX10_lowerAt hl e30) rfl rfl rfl rfl ?_
      refine mG_goto (tgt := 44) (pc := 40) C dX10_laysBounds_40 (by decide) ?_
      exact mG_sub (mxLe_s (mxLe_s (mxLe_s mxLe_z))) (J25 _ (Option.some.inj e27))
theorem dX10_areSure_0 : decode cX10_areSure 0 = .ok (.iconst 0, 1) := by decide +kernel
theorem dX10_areSure_1 : decode cX10_areSure 1 = .ok (.istore_n 3, 1) := by decide +kernel
theorem dX10_areSure_2 : decode cX10_areSure 2 = .ok (.iload_n 3, 1) := by decide +kernel
theorem dX10_areSure_3 : decode cX10_areSure 3 = .ok (.bipush 20, 2) := by decide +kernel
theorem dX10_areSure_5 : decode cX10_areSure 5 = .ok (.if_icmp .ge 156, 3) := by decide +kernel
theorem dX10_areSure_8 : decode cX10_areSure 8 = .ok (.aload_n 0, 1) := by decide +kernel
theorem dX10_areSure_9 : decode cX10_areSure 9 = .ok (.getfield 47, 3) := by decide +kernel
theorem dX10_areSure_12 : decode cX10_areSure 12 = .ok (.iload_n 3, 1) := by decide +kernel
theorem dX10_areSure_13 : decode cX10_areSure 13 = .ok (.iaload, 1) := by decide +kernel
theorem dX10_areSure_14 : decode cX10_areSure 14 = .ok (.istore 4, 2) := by decide +kernel
theorem dX10_areSure_16 : decode cX10_areSure 16 = .ok (.aload_n 0, 1) := by decide +kernel
theorem dX10_areSure_17 : decode cX10_areSure 17 = .ok (.getfield 43, 3) := by decide +kernel
theorem dX10_areSure_20 : decode cX10_areSure 20 = .ok (.iload_n 3, 1) := by decide +kernel
theorem dX10_areSure_21 : decode cX10_areSure 21 = .ok (.baload, 1) := by decide +kernel
theorem dX10_areSure_22 : decode cX10_areSure 22 = .ok (.ifCond .eq 133, 3) := by decide +kernel
theorem dX10_areSure_25 : decode cX10_areSure 25 = .ok (.iload 4, 2) := by decide +kernel
theorem dX10_areSure_27 : decode cX10_areSure 27 = .ok (.iload_n 2, 1) := by decide +kernel
theorem dX10_areSure_28 : decode cX10_areSure 28 = .ok (.if_icmp .ge 6, 3) := by decide +kernel
theorem dX10_areSure_31 : decode cX10_areSure 31 = .ok (.goto 124, 3) := by decide +kernel
theorem dX10_areSure_34 : decode cX10_areSure 34 = .ok (.iconst 0, 1) := by decide +kernel
theorem dX10_areSure_35 : decode cX10_areSure 35 = .ok (.istore 5, 2) := by decide +kernel
theorem dX10_areSure_37 : decode cX10_areSure 37 = .ok (.iconst 0, 1) := by decide +kernel
theorem dX10_areSure_38 : decode cX10_areSure 38 = .ok (.istore 6, 2) := by decide +kernel
theorem dX10_areSure_40 : decode cX10_areSure 40 = .ok (.iconst 1, 1) := by decide +kernel
theorem dX10_areSure_41 : decode cX10_areSure 41 = .ok (.istore 7, 2) := by decide +kernel
theorem dX10_areSure_43 : decode cX10_areSure 43 = .ok (.iconst 0, 1) := by decide +kernel
theorem dX10_areSure_44 : decode cX10_areSure 44 = .ok (.istore 8, 2) := by decide +kernel
theorem dX10_areSure_46 : decode cX10_areSure 46 = .ok (.iload 8, 2) := by decide +kernel
theorem dX10_areSure_48 : decode cX10_areSure 48 = .ok (.bipush 20, 2) := by decide +kernel
theorem dX10_areSure_50 : decode cX10_areSure 50 = .ok (.if_icmp .ge 86, 3) := by decide +kernel
theorem dX10_areSure_53 : decode cX10_areSure 53 = .ok (.aload_n 0, 1) := by decide +kernel
theorem dX10_areSure_54 : decode cX10_areSure 54 = .ok (.getfield 43, 3) := by decide +kernel
theorem dX10_areSure_57 : decode cX10_areSure 57 = .ok (.iload 8, 2) := by decide +kernel
theorem dX10_areSure_59 : decode cX10_areSure 59 = .ok (.baload, 1) := by decide +kernel
theorem dX10_areSure_60 : decode cX10_areSure 60 = .ok (.ifCond .ne 6, 3) := by decide +kernel
theorem dX10_areSure_63 : decode cX10_areSure 63 = .ok (.goto 67, 3) := by decide +kernel
theorem dX10_areSure_66 : decode cX10_areSure 66 = .ok (.iload 6, 2) := by decide +kernel
theorem dX10_areSure_68 : decode cX10_areSure 68 = .ok (.aload_n 0, 1) := by decide +kernel
theorem dX10_areSure_69 : decode cX10_areSure 69 = .ok (.getfield 47, 3) := by decide +kernel
theorem dX10_areSure_72 : decode cX10_areSure 72 = .ok (.iload 8, 2) := by decide +kernel
theorem dX10_areSure_74 : decode cX10_areSure 74 = .ok (.iaload, 1) := by decide +kernel
theorem dX10_areSure_75 : decode cX10_areSure 75 = .ok (.iload 4, 2) := by decide +kernel
theorem dX10_areSure_77 : decode cX10_areSure 77 = .ok (.if_icmp .lt 7, 3) := by decide +kernel
theorem dX10_areSure_80 : decode cX10_areSure 80 = .ok (.iconst 1, 1) := by decide +kernel
theorem dX10_areSure_81 : decode cX10_areSure 81 = .ok (.goto 4, 3) := by decide +kernel
theorem dX10_areSure_84 : decode cX10_areSure 84 = .ok (.iconst 0, 1) := by decide +kernel
theorem dX10_areSure_85 : decode cX10_areSure 85 = .ok (.iadd, 1) := by decide +kernel
theorem dX10_areSure_86 : decode cX10_areSure 86 = .ok (.istore 6, 2) := by decide +kernel
theorem dX10_areSure_88 : decode cX10_areSure 88 = .ok (.aload_n 0, 1) := by decide +kernel
theorem dX10_areSure_89 : decode cX10_areSure 89 = .ok (.getfield 50, 3) := by decide +kernel
theorem dX10_areSure_92 : decode cX10_areSure 92 = .ok (.iload 8, 2) := by decide +kernel
theorem dX10_areSure_94 : decode cX10_areSure 94 = .ok (.iaload, 1) := by decide +kernel
theorem dX10_areSure_95 : decode cX10_areSure 95 = .ok (.iload 4, 2) := by decide +kernel
theorem dX10_areSure_97 : decode cX10_areSure 97 = .ok (.if_icmp .gt 6, 3) := by decide +kernel
theorem dX10_areSure_100 : decode cX10_areSure 100 = .ok (.goto 30, 3) := by decide +kernel
theorem dX10_areSure_103 : decode cX10_areSure 103 = .ok (.iinc 5 1, 3) := by decide +kernel
theorem dX10_areSure_106 : decode cX10_areSure 106 = .ok (.iload 7, 2) := by decide +kernel
theorem dX10_areSure_108 : decode cX10_areSure 108 = .ok (.ifCond .eq 19, 3) := by decide +kernel
theorem dX10_areSure_111 : decode cX10_areSure 111 = .ok (.aload_n 0, 1) := by decide +kernel
theorem dX10_areSure_112 : decode cX10_areSure 112 = .ok (.getfield 47, 3) := by decide +kernel
theorem dX10_areSure_115 : decode cX10_areSure 115 = .ok (.iload 8, 2) := by decide +kernel
theorem dX10_areSure_117 : decode cX10_areSure 117 = .ok (.iaload, 1) := by decide +kernel
theorem dX10_areSure_118 : decode cX10_areSure 118 = .ok (.iload 4, 2) := by decide +kernel
theorem dX10_areSure_120 : decode cX10_areSure 120 = .ok (.if_icmp .lt 7, 3) := by decide +kernel
theorem dX10_areSure_123 : decode cX10_areSure 123 = .ok (.iconst 1, 1) := by decide +kernel
theorem dX10_areSure_124 : decode cX10_areSure 124 = .ok (.goto 4, 3) := by decide +kernel
theorem dX10_areSure_127 : decode cX10_areSure 127 = .ok (.iconst 0, 1) := by decide +kernel
theorem dX10_areSure_128 : decode cX10_areSure 128 = .ok (.istore 7, 2) := by decide +kernel
theorem dX10_areSure_130 : decode cX10_areSure 130 = .ok (.iinc 8 1, 3) := by decide +kernel
theorem dX10_areSure_133 : decode cX10_areSure 133 = .ok (.goto (-87), 3) := by decide +kernel
theorem dX10_areSure_136 : decode cX10_areSure 136 = .ok (.iload 7, 2) := by decide +kernel
theorem dX10_areSure_138 : decode cX10_areSure 138 = .ok (.ifCond .eq 17, 3) := by decide +kernel
theorem dX10_areSure_141 : decode cX10_areSure 141 = .ok (.iload 5, 2) := by decide +kernel
theorem dX10_areSure_143 : decode cX10_areSure 143 = .ok (.iload_n 1, 1) := by decide +kernel
theorem dX10_areSure_144 : decode cX10_areSure 144 = .ok (.if_icmp .gt 11, 3) := by decide +kernel
theorem dX10_areSure_147 : decode cX10_areSure 147 = .ok (.iload 6, 2) := by decide +kernel
theorem dX10_areSure_149 : decode cX10_areSure 149 = .ok (.iload_n 1, 1) := by decide +kernel
theorem dX10_areSure_150 : decode cX10_areSure 150 = .ok (.if_icmp .lt 5, 3) := by decide +kernel
theorem dX10_areSure_153 : decode cX10_areSure 153 = .ok (.iconst 1, 1) := by decide +kernel
theorem dX10_areSure_154 : decode cX10_areSure 154 = .ok (.ireturn, 1) := by decide +kernel
theorem dX10_areSure_155 : decode cX10_areSure 155 = .ok (.iinc 3 1, 3) := by decide +kernel
theorem dX10_areSure_158 : decode cX10_areSure 158 = .ok (.goto (-156), 3) := by decide +kernel
theorem dX10_areSure_161 : decode cX10_areSure 161 = .ok (.iconst 0, 1) := by decide +kernel
theorem dX10_areSure_162 : decode cX10_areSure 162 = .ok (.ireturn, 1) := by decide +kernel
def fX10_areSure (p0 : Nat) (p1 : Int32) (p2 : Int32) (h : mxH) : Option Int32 := Option.bind (mxLoop (ρ := (Unit ⊕ Unit)) (fun s1 : Int32 => (if 20 ≤ s1 then some (Sum.inr (Sum.inr ())) else Option.bind (gR h p0 10 14) (fun r11 => Option.bind (ldI h r11 s1) (fun v13 => Option.bind (gR h p0 10 13) (fun r15 => Option.bind (ldZ h r15 s1) (fun v17 => (if v17 = 0 then some (Sum.inl (s1 + 1)) else (if p2 ≤ v13 then Option.bind (mxLoop (ρ := (Int32 × Int32 × Int32)) (fun s21 : (Int32 × Int32 × Int32 × Int32) => (if 20 ≤ s21.2.2.2 then some (Sum.inr (s21.1, s21.2.1, s21.2.2.1)) else Option.bind (gR h p0 10 13) (fun r30 => Option.bind (ldZ h r30 s21.2.2.2) (fun v32 => Option.bind (α := (Int32 × Int32 × Int32)) (if v32 = 0 then some (s21.1, s21.2.1, s21.2.2.1) else Option.bind (gR h p0 10 14) (fun r38 => Option.bind (ldI h r38 s21.2.2.2) (fun v40 => Option.bind (α := Int32) (if v40 < v13 then some 0 else some 1) (fun p44' : Int32 => Option.bind (gR h p0 10 15) (fun r46 => Option.bind (ldI h r46 s21.2.2.2) (fun v48 => (if v13 < v48 then Option.bind (α := Int32) (if s21.2.2.1 = 0 then some 0 else Option.bind (gR h p0 10 14) (fun r55 => Option.bind (ldI h r55 s21.2.2.2) (fun v57 => (if v57 < v13 then some 0 else some 1)))) (fun p53' : Int32 => some (s21.1 + 1, s21.2.1 + p44', p53')) else some (s21.1, s21.2.1 + p44', s21.2.2.1)))))))) (fun p36' : (Int32 × Int32 × Int32) => some (Sum.inl (p36'.1, p36'.2.1, p36'.2.2, s21.2.2.2 + 1))))))) mxF (0, 0, 1, 0)) (fun r63 : (Int32 × Int32 × Int32) => (if r63.2.2 = 0 then some (Sum.inl (s1 + 1)) else (if p1 < r63.1 then some (Sum.inl (s1 + 1)) else (if r63.2.1 < p1 then some (Sum.inl (s1 + 1)) else some (Sum.inr (Sum.inl ())))))) else some (Sum.inl (s1 + 1)))))))))) mxF 0) (Sum.elim (fun r68 : Unit => Option.bind (mxZ1 1) (fun v69 => some v69)) (fun r72 : Unit => Option.bind (mxZ1 0) (fun v73 => some v73)))
abbrev rmX10_areSure : Room := { frames := 0, cells := 0, slots := 0, locals := 0 }
set_option maxRecDepth 20000 in
theorem tX10_areSure {l : Launch} {Z : mxZ} (hl : l.stackTraces = false) {p0 : Nat} {p1 : Int32} {p2 : Int32} {h : mxH} {out : Int32} (hf : fX10_areSure p0 p1 p2 h = some out) : mxMet l Z yX10_areSure cX10_areSure 9 (some .boolean) rmX10_areSure [.ref p0, .int p1, .int p2] h (.inl (some (.int out))) h := by
  refine mxMet_of (by decide) hl (by simp [Value.category]) (Nat.le_of_ble_eq_true rfl) ?_
  intro X C E hX hin
  unfold fX10_areSure at hf
  refine mG_ic (pc := 0) C dX10_areSure_0 kI0 ?_
  refine mG_isn (ls' := [some (.ref p0), some (.int p1), some (.int p2), some (.int 0), none, none, none, none, none]) (pc := 1) C dX10_areSure_1 rfl rfl rfl ?_
  obtain ⟨r2, e3, hf⟩ := mx_bind hf
  have J4 : ∀ r68 : Unit, Sum.inl r68 = r2 → mG l Z X 9 0 0 153 [none, none, none, none, none, none, none, none, none] [] h := by
    intro r68 q71
    subst q71
    rw [Sum.elim_inl] at hf
    refine mG_ic (pc := 153) C dX10_areSure_153 kI1 ?_
    obtain ⟨v69, e70, hf⟩ := mx_bind hf
    cases hf
    exact mG_zr (pc := 154) C e70 E hX dX10_areSure_154 rfl
  have J5 : ∀ r72 : Unit, Sum.inr r72 = r2 → mG l Z X 9 0 0 161 [none, none, none, none, none, none, none, none, none] [] h := by
    intro r72 q75
    subst q75
    rw [Sum.elim_inr] at hf
    refine mG_ic (pc := 161) C dX10_areSure_161 kI0 ?_
    obtain ⟨v73, e74, hf⟩ := mx_bind hf
    cases hf
    exact mG_zr (pc := 162) C e74 E hX dX10_areSure_162 rfl
  refine mG_sub (ls' := [some (.ref p0), some (.int p1), some (.int p2), some (.int 0), none, none, none, none, none]) (mxLe_s (mxLe_s (mxLe_s (mxLe_s (mxLe_n (mxLe_n (mxLe_n (mxLe_n (mxLe_n mxLe_z))))))))) (mxLoop_ind (K := fun s1 : Int32 => mG l Z X 9 0 0 2 [some (.ref p0), some (.int p1), some (.int p2), some (.int s1), none, none, none, none, none] [] h) ?_ _ _ e3)
  intro s1 o8 e9 hK6 hx7
  refine mG_iload_n (pc := 2) C dX10_areSure_2 rfl ?_
  refine mG_bp (pc := 3) C dX10_areSure_3 kB20 ?_
  refine mG_icmp_ge (pc := 5) (tgt := 161) C dX10_areSure_5 (by decide) (fun q10 => ?_) (fun q10 => ?_)
  · rw [if_pos q10] at e9
    exact mG_sub (mxLe_n (mxLe_n (mxLe_n (mxLe_n (mxLe_n (mxLe_n (mxLe_n (mxLe_n (mxLe_n mxLe_z))))))))) (J5 _ (hx7 _ (Option.some.inj e9).symm))
  · rw [if_neg q10] at e9
    refine mG_aload_n (pc := 8) C dX10_areSure_8 rfl ?_
    obtain ⟨r11, e12, e9⟩ := mx_bind e9
    refine mG_getR (pc := 9) C dX10_areSure_9 fl_X10_47 e12 ?_
    refine mG_iload_n (pc := 12) C dX10_areSure_12 rfl ?_
    obtain ⟨v13, e14, e9⟩ := mx_bind e9
    refine mG_iaload (pc := 13) C dX10_areSure_13 e14 ?_
    refine mG_is (ls' := [some (.ref p0), some (.int p1), some (.int p2), some (.int s1), some (.int v13), none, none, none, none]) (pc := 14) C dX10_areSure_14 rfl rfl rfl ?_
    refine mG_aload_n (pc := 16) C dX10_areSure_16 rfl ?_
    obtain ⟨r15, e16, e9⟩ := mx_bind e9
    refine mG_getR (pc := 17) C dX10_areSure_17 fl_X10_43 e16 ?_
    refine mG_iload_n (pc := 20) C dX10_areSure_20 rfl ?_
    obtain ⟨v17, e18, e9⟩ := mx_bind e9
    refine mG_baload (pc := 21) C dX10_areSure_21 e18 ?_
    refine mG_if_eq (pc := 22) (tgt := 155) C dX10_areSure_22 (by decide) (fun q19 => ?_) (fun q19 => ?_)
    · rw [if_pos q19] at e9
      refine mG_ii (ls' := [some (.ref p0), some (.int p1), some (.int p2), some (.int (s1 + 1)), some (.int v13), none, none, none, none]) (pc := 155) C dX10_areSure_155 rfl (kinc1 _) rfl rfl rfl ?_
      refine mG_goto (tgt := 2) (pc := 158) C dX10_areSure_158 (by decide) ?_
      exact mG_sub (mxLe_s (mxLe_s (mxLe_s (mxLe_s (mxLe_n (mxLe_n (mxLe_n (mxLe_n (mxLe_n mxLe_z))))))))) (hK6 _ (Option.some.inj e9).symm)
    · rw [if_neg q19] at e9
      refine mG_iload (pc := 25) C dX10_areSure_25 rfl ?_
      refine mG_iload_n (pc := 27) C dX10_areSure_27 rfl ?_
      refine mG_icmp_ge (pc := 28) (tgt := 34) C dX10_areSure_28 (by decide) (fun q20 => ?_) (fun q20 => ?_)
      · rw [if_pos q20] at e9
        refine mG_ic (pc := 34) C dX10_areSure_34 kI0 ?_
        refine mG_is (ls' := [some (.ref p0), some (.int p1), some (.int p2), some (.int s1), some (.int v13), some (.int 0), none, none, none]) (pc := 35) C dX10_areSure_35 rfl rfl rfl ?_
        refine mG_ic (pc := 37) C dX10_areSure_37 kI0 ?_
        refine mG_is (ls' := [some (.ref p0), some (.int p1), some (.int p2), some (.int s1), some (.int v13), some (.int 0), some (.int 0), none, none]) (pc := 38) C dX10_areSure_38 rfl rfl rfl ?_
        refine mG_ic (pc := 40) C dX10_areSure_40 kI1 ?_
        refine mG_is (ls' := [some (.ref p0), some (.int p1), some (.int p2), some (.int s1), some (.int v13), some (.int 0), some (.int 0), some (.int 1), none]) (pc := 41) C dX10_areSure_41 rfl rfl rfl ?_
        refine mG_ic (pc := 43) C dX10_areSure_43 kI0 ?_
        refine mG_is (ls' := [some (.ref p0), some (.int p1), some (.int p2), some (.int s1), some (.int v13), some (.int 0), some (.int 0), some (.int 1), some (.int 0)]) (pc := 44) C dX10_areSure_44 rfl rfl rfl ?_
        obtain ⟨r22, e23, e9⟩ := mx_bind e9
        have J24 : ∀ r63 : (Int32 × Int32 × Int32), r63 = r22 → mG l Z X 9 0 0 136 [some (.ref p0), some (.int p1), some (.int p2), some (.int s1), none, some (.int r63.1), some (.int r63.2.1), some (.int r63.2.2), none] [] h := by
          intro r63 q67
          subst q67
          refine mG_iload (pc := 136) C dX10_areSure_136 rfl ?_
          refine mG_if_eq (pc := 138) (tgt := 155) C dX10_areSure_138 (by decide) (fun q64 => ?_) (fun q64 => ?_)
          · rw [if_pos q64] at e9
            refine mG_ii (ls' := [some (.ref p0), some (.int p1), some (.int p2), some (.int (s1 + 1)), none, some (.int r63.1), some (.int r63.2.1), some (.int r63.2.2), none]) (pc := 155) C dX10_areSure_155 rfl (kinc1 _) rfl rfl rfl ?_
            refine mG_goto (tgt := 2) (pc := 158) C dX10_areSure_158 (by decide) ?_
            exact mG_sub (mxLe_s (mxLe_s (mxLe_s (mxLe_s (mxLe_n (mxLe_n (mxLe_n (mxLe_n (mxLe_n mxLe_z))))))))) (hK6 _ (Option.some.inj e9).symm)
          · rw [if_neg q64] at e9
            refine mG_iload (pc := 141) C dX10_areSure_141 rfl ?_
            refine mG_iload_n (pc := 143) C dX10_areSure_143 rfl ?_
            refine mG_icmp_gt (pc := 144) (tgt := 155) C dX10_areSure_144 (by decide) (fun q65 => ?_) (fun q65 => ?_)
            · rw [if_pos q65] at e9
              refine mG_ii (ls' := [some (.ref p0), some (.int p1), some (.int p2), some (.int (s1 + 1)), none, some (.int r63.1), some (.int r63.2.1), some (.int r63.2.2), none]) (pc := 155) C dX10_areSure_155 rfl (kinc1 _) rfl rfl rfl ?_
              refine mG_goto (tgt := 2) (pc := 158) C dX10_areSure_158 (by decide) ?_
              exact mG_sub (mxLe_s (mxLe_s (mxLe_s (mxLe_s (mxLe_n (mxLe_n (mxLe_n (mxLe_n (mxLe_n mxLe_z))))))))) (hK6 _ (Option.some.inj e9).symm)
            · rw [if_neg q65] at e9
              refine mG_iload (pc := 147) C dX10_areSure_147 rfl ?_
              refine mG_iload_n (pc := 149) C dX10_areSure_149 rfl ?_
              refine mG_icmp_lt (pc := 150) (tgt := 155) C dX10_areSure_150 (by decide) (fun q66 => ?_) (fun q66 => ?_)
              · rw [if_pos q66] at e9
                refine mG_ii (ls' := [some (.ref p0), some (.int p1), some (.int p2), some (.int (s1 + 1)), none, some (.int r63.1), some (.int r63.2.1), some (.int r63.2.2), none]) (pc := 155) C dX10_areSure_155 rfl (kinc1 _) rfl rfl rfl ?_
                refine mG_goto (tgt := 2) (pc := 158) C dX10_areSure_158 (by decide) ?_
                exact mG_sub (mxLe_s (mxLe_s (mxLe_s (mxLe_s (mxLe_n (mxLe_n (mxLe_n (mxLe_n (mxLe_n mxLe_z))))))))) (hK6 _ (Option.some.inj e9).symm)
              · rw [if_neg q66] at e9
                exact mG_sub (mxLe_n (mxLe_n (mxLe_n (mxLe_n (mxLe_n (mxLe_n (mxLe_n (mxLe_n (mxLe_n mxLe_z))))))))) (J4 _ (hx7 _ (Option.some.inj e9).symm))
        refine mG_sub (ls' := [some (.ref p0), some (.int p1), some (.int p2), some (.int s1), some (.int v13), some (.int 0), some (.int 0), some (.int 1), some (.int 0)]) (mxLe_s (mxLe_s (mxLe_s (mxLe_s (mxLe_s (mxLe_s (mxLe_s (mxLe_s (mxLe_s mxLe_z))))))))) (mxLoop_ind (K := fun s21 : (Int32 × Int32 × Int32 × Int32) => mG l Z X 9 0 0 46 [some (.ref p0), some (.int p1), some (.int p2), some (.int s1), some (.int v13), some (.int s21.1), some (.int s21.2.1), some (.int s21.2.2.1), some (.int s21.2.2.2)] [] h) ?_ _ _ e23)
        intro s21 o27 e28 hK25 hx26
        refine mG_iload (pc := 46) C dX10_areSure_46 rfl ?_
        refine mG_bp (pc := 48) C dX10_areSure_48 kB20 ?_
        refine mG_icmp_ge (pc := 50) (tgt := 136) C dX10_areSure_50 (by decide) (fun q29 => ?_) (fun q29 => ?_)
        · rw [if_pos q29] at e28
          exact mG_sub (mxLe_s (mxLe_s (mxLe_s (mxLe_s (mxLe_n (mxLe_s (mxLe_s (mxLe_s (mxLe_n mxLe_z))))))))) (J24 _ (hx26 _ (Option.some.inj e28).symm))
        · rw [if_neg q29] at e28
          refine mG_aload_n (pc := 53) C dX10_areSure_53 rfl ?_
          obtain ⟨r30, e31, e28⟩ := mx_bind e28
          refine mG_getR (pc := 54) C dX10_areSure_54 fl_X10_43 e31 ?_
          refine mG_iload (pc := 57) C dX10_areSure_57 rfl ?_
          obtain ⟨v32, e33, e28⟩ := mx_bind e28
          refine mG_baload (pc := 59) C dX10_areSure_59 e33 ?_
          obtain ⟨p36, e37, e28⟩ := mx_bind e28
          have J35 : ∀ p36' : (Int32 × Int32 × Int32), p36' = p36 → mG l Z X 9 0 0 130 [some (.ref p0), some (.int p1), some (.int p2), some (.int s1), some (.int v13), some (.int p36'.1), some (.int p36'.2.1), some (.int p36'.2.2), some (.int s21.2.2.2)] [] h := by
            intro p36' q62
            subst q62
            refine mG_ii (ls' := [some (.ref p0), some (.int p1), some (.int p2), some (.int s1), some (.int v13), some (.int p36'.1), some (.int p36'.2.1), some (.int p36'.2.2), some (.int (s21.2.2.2 + 1))]) (pc := 130) C dX10_areSure_130 rfl (kinc1 _) rfl rfl rfl ?_
            refine mG_goto (tgt := 46) (pc := 133) C dX10_areSure_133 (by decide) ?_
            exact mG_sub (mxLe_s (mxLe_s (mxLe_s (mxLe_s (mxLe_s (mxLe_s (mxLe_s (mxLe_s (mxLe_s mxLe_z))))))))) (hK25 _ (Option.some.inj e28).symm)
          refine mG_if_ne (pc := 60) (tgt := 66) C dX10_areSure_60 (by decide) (fun q34 => ?_) (fun q34 => ?_)
          · rw [if_neg q34] at e37
            refine mG_iload (pc := 66) C dX10_areSure_66 rfl ?_
            refine mG_aload_n (pc := 68) C dX10_areSure_68 rfl ?_
            obtain ⟨r38, e39, e37⟩ := mx_bind e37
            refine mG_getR (pc := 69) C dX10_areSure_69 fl_X10_47 e39 ?_
            refine mG_iload (pc := 72) C dX10_areSure_72 rfl ?_
            obtain ⟨v40, e41, e37⟩ := mx_bind e37
            refine mG_iaload (pc := 74) C dX10_areSure_74 e41 ?_
            refine mG_iload (pc := 75) C dX10_areSure_75 rfl ?_
            obtain ⟨p44, e45, e37⟩ := mx_bind e37
            have J43 : ∀ p44' : Int32, p44' = p44 → mG l Z X 9 0 0 85 [some (.ref p0), some (.int p1), some (.int p2), some (.int s1), some (.int v13), some (.int s21.1), none, some (.int s21.2.2.1), some (.int s21.2.2.2)] [.int p44', .int s21.2.1] h := by
              intro p44' q61
              subst q61
              refine mG_iadd (pc := 85) C dX10_areSure_85 ?_
              refine mG_is (ls' := [some (.ref p0), some (.int p1), some (.int p2), some (.int s1), some (.int v13), some (.int s21.1), some (.int (s21.2.1 + p44')), some (.int s21.2.2.1), some (.int s21.2.2.2)]) (pc := 86) C dX10_areSure_86 rfl rfl rfl ?_
              refine mG_aload_n (pc := 88) C dX10_areSure_88 rfl ?_
              obtain ⟨r46, e47, e37⟩ := mx_bind e37
              refine mG_getR (pc := 89) C dX10_areSure_89 fl_X10_50 e47 ?_
              refine mG_iload (pc := 92) C dX10_areSure_92 rfl ?_
              obtain ⟨v48, e49, e37⟩ := mx_bind e37
              refine mG_iaload (pc := 94) C dX10_areSure_94 e49 ?_
              refine mG_iload (pc := 95) C dX10_areSure_95 rfl ?_
              refine mG_icmp_gt (pc := 97) (tgt := 103) C dX10_areSure_97 (by decide) (fun q50 => ?_) (fun q50 => ?_)
              · rw [if_pos q50] at e37
                refine mG_ii (ls' := [some (.ref p0), some (.int p1), some (.int p2), some (.int s1), some (.int v13), some (.int (s21.1 + 1)), some (.int (s21.2.1 + p44')), some (.int s21.2.2.1), some (.int s21.2.2.2)]) (pc := 103) C dX10_areSure_103 rfl (kinc1 _) rfl rfl rfl ?_
                refine mG_iload (pc := 106) C dX10_areSure_106 rfl ?_
                obtain ⟨p53, e54, e37⟩ := mx_bind e37
                have J52 : ∀ p53' : Int32, p53' = p53 → mG l Z X 9 0 0 128 [some (.ref p0), some (.int p1), some (.int p2), some (.int s1), some (.int v13), some (.int (s21.1 + 1)), some (.int (s21.2.1 + p44')), none, some (.int s21.2.2.2)] [.int p53'] h := by
                  intro p53' q60
                  subst q60
                  refine mG_is (ls' := [some (.ref p0), some (.int p1), some (.int p2), some (.int s1), some (.int v13), some (.int (s21.1 + 1)), some (.int (s21.2.1 + p44')), some (.int p53'), some (.int s21.2.2.2)]) (pc := 128) C dX10_areSure_128 rfl rfl rfl ?_
                  exact mG_sub (mxLe_s (mxLe_s (mxLe_s (mxLe_s (mxLe_s (mxLe_s (mxLe_s (mxLe_s (mxLe_s mxLe_z))))))))) (J35 _ (Option.some.inj e37))
                refine mG_if_eq (pc := 108) (tgt := 127) C dX10_areSure_108 (by decide) (fun q51 => ?_) (fun q51 => ?_)
                · rw [if_pos q51] at e54
                  refine mG_ic (pc := 127) C dX10_areSure_127 kI0 ?_
                  exact mG_sub (mxLe_s (mxLe_s (mxLe_s (mxLe_s (mxLe_s (mxLe_s (mxLe_s (mxLe_n (mxLe_s mxLe_z))))))))) (J52 _ (Option.some.inj e54))
                · rw [if_neg q51] at e54
                  refine mG_aload_n (pc := 111) C dX10_areSure_111 rfl ?_
                  obtain ⟨r55, e56, e54⟩ := mx_bind e54
                  refine mG_getR (pc := 112) C dX10_areSure_112 fl_X10_47 e56 ?_
                  refine mG_iload (pc := 115) C dX10_areSure_115 rfl ?_
                  obtain ⟨v57, e58, e54⟩ := mx_bind e54
                  refine mG_iaload (pc := 117) C dX10_areSure_117 e58 ?_
                  refine mG_iload (pc := 118) C dX10_areSure_118 rfl ?_
                  refine mG_icmp_lt (pc := 120) (tgt := 127) C dX10_areSure_120 (by decide) (fun q59 => ?_) (fun q59 => ?_)
                  · rw [if_pos q59] at e54
                    refine mG_ic (pc := 127) C dX10_areSure_127 kI0 ?_
                    exact mG_sub (mxLe_s (mxLe_s (mxLe_s (mxLe_s (mxLe_s (mxLe_s (mxLe_s (mxLe_n (mxLe_s mxLe_z))))))))) (J52 _ (Option.some.inj e54))
                  · rw [if_neg q59] at e54
                    refine mG_ic (pc := 123) C dX10_areSure_123 kI1 ?_
                    refine mG_goto (tgt := 128) (pc := 124) C dX10_areSure_124 (by decide) ?_
                    exact mG_sub (mxLe_s (mxLe_s (mxLe_s (mxLe_s (mxLe_s (mxLe_s (mxLe_s (mxLe_n (mxLe_s mxLe_z))))))))) (J52 _ (Option.some.inj e54))
              · rw [if_neg q50] at e37
                refine mG_goto (tgt := 130) (pc := 100) C dX10_areSure_100 (by decide) ?_
                exact mG_sub (mxLe_s (mxLe_s (mxLe_s (mxLe_s (mxLe_s (mxLe_s (mxLe_s (mxLe_s (mxLe_s mxLe_z))))))))) (J35 _ (Option.some.inj e37))
            refine mG_icmp_lt (pc := 77) (tgt := 84) C dX10_areSure_77 (by decide) (fun q42 => ?_) (fun q42 => ?_)
            · rw [if_pos q42] at e45
              refine mG_ic (pc := 84) C dX10_areSure_84 kI0 ?_
              exact mG_sub (mxLe_s (mxLe_s (mxLe_s (mxLe_s (mxLe_s (mxLe_s (mxLe_n (mxLe_s (mxLe_s mxLe_z))))))))) (J43 _ (Option.some.inj e45))
            · rw [if_neg q42] at e45
              refine mG_ic (pc := 80) C dX10_areSure_80 kI1 ?_
              refine mG_goto (tgt := 85) (pc := 81) C dX10_areSure_81 (by decide) ?_
              exact mG_sub (mxLe_s (mxLe_s (mxLe_s (mxLe_s (mxLe_s (mxLe_s (mxLe_n (mxLe_s (mxLe_s mxLe_z))))))))) (J43 _ (Option.some.inj e45))
          · rw [if_pos q34] at e37
            refine mG_goto (tgt := 130) (pc := 63) C dX10_areSure_63 (by decide) ?_
            exact mG_sub (mxLe_s (mxLe_s (mxLe_s (mxLe_s (mxLe_s (mxLe_s (mxLe_s (mxLe_s (mxLe_s mxLe_z))))))))) (J35 _ (Option.some.inj e37))
      · rw [if_neg q20] at e9
        refine mG_goto (tgt := 155) (pc := 31) C dX10_areSure_31 (by decide) ?_
        refine mG_ii (ls' := [some (.ref p0), some (.int p1), some (.int p2), some (.int (s1 + 1)), some (.int v13), none, none, none, none]) (pc := 155) C dX10_areSure_155 rfl (kinc1 _) rfl rfl rfl ?_
        refine mG_goto (tgt := 2) (pc := 158) C dX10_areSure_158 (by decide) ?_
        exact mG_sub (mxLe_s (mxLe_s (mxLe_s (mxLe_s (mxLe_n (mxLe_n (mxLe_n (mxLe_n (mxLe_n mxLe_z))))))))) (hK6 _ (Option.some.inj e9).symm)
theorem dX10_plainStop_0 : decode cX10_plainStop 0 = .ok (.aload_n 0, 1) := by decide +kernel
theorem dX10_plainStop_1 : decode cX10_plainStop 1 = .ok (.invokevirtual 111, 3) := by decide +kernel
theorem dX10_plainStop_4 : decode cX10_plainStop 4 = .ok (.istore_n 2, 1) := by decide +kernel
theorem dX10_plainStop_5 : decode cX10_plainStop 5 = .ok (.iconst 1, 1) := by decide +kernel
theorem dX10_plainStop_6 : decode cX10_plainStop 6 = .ok (.istore_n 3, 1) := by decide +kernel
theorem dX10_plainStop_7 : decode cX10_plainStop 7 = .ok (.iload_n 3, 1) := by decide +kernel
theorem dX10_plainStop_8 : decode cX10_plainStop 8 = .ok (.iload_n 2, 1) := by decide +kernel
theorem dX10_plainStop_9 : decode cX10_plainStop 9 = .ok (.if_icmp .ge 29, 3) := by decide +kernel
theorem dX10_plainStop_12 : decode cX10_plainStop 12 = .ok (.aload_n 0, 1) := by decide +kernel
theorem dX10_plainStop_13 : decode cX10_plainStop 13 = .ok (.iload_n 3, 1) := by decide +kernel
theorem dX10_plainStop_14 : decode cX10_plainStop 14 = .ok (.invokevirtual 127, 3) := by decide +kernel
theorem dX10_plainStop_17 : decode cX10_plainStop 17 = .ok (.aload_n 0, 1) := by decide +kernel
theorem dX10_plainStop_18 : decode cX10_plainStop 18 = .ok (.iload_n 1, 1) := by decide +kernel
theorem dX10_plainStop_19 : decode cX10_plainStop 19 = .ok (.aload_n 0, 1) := by decide +kernel
theorem dX10_plainStop_20 : decode cX10_plainStop 20 = .ok (.iload_n 3, 1) := by decide +kernel
theorem dX10_plainStop_21 : decode cX10_plainStop 21 = .ok (.invokevirtual 118, 3) := by decide +kernel
theorem dX10_plainStop_24 : decode cX10_plainStop 24 = .ok (.invokevirtual 131, 3) := by decide +kernel
theorem dX10_plainStop_27 : decode cX10_plainStop 27 = .ok (.ifCond .eq 5, 3) := by decide +kernel
theorem dX10_plainStop_30 : decode cX10_plainStop 30 = .ok (.iload_n 3, 1) := by decide +kernel
theorem dX10_plainStop_31 : decode cX10_plainStop 31 = .ok (.ireturn, 1) := by decide +kernel
theorem dX10_plainStop_32 : decode cX10_plainStop 32 = .ok (.iinc 3 1, 3) := by decide +kernel
theorem dX10_plainStop_35 : decode cX10_plainStop 35 = .ok (.goto (-28), 3) := by decide +kernel
theorem dX10_plainStop_38 : decode cX10_plainStop 38 = .ok (.iload_n 2, 1) := by decide +kernel
theorem dX10_plainStop_39 : decode cX10_plainStop 39 = .ok (.ireturn, 1) := by decide +kernel
def fX10_plainStop (p0 : Nat) (p1 : Int32) (h : mxH) : Option (Int32 × mxH) := Option.bind (isO h p0 10) (fun u1 => Option.bind (fX10_longest p0 h) (fun v4 => Option.bind (mxLoop (ρ := ((Int32 × mxH) ⊕ mxH)) (fun s5 : (Int32 × mxH) => (if v4 ≤ s5.1 then some (Sum.inr (Sum.inr s5.2)) else Option.bind (isO s5.2 p0 10) (fun u15 => Option.bind (fX10_laysBounds p0 s5.1 s5.2) (fun o18 => Option.bind (isO o18 p0 10) (fun u19 => Option.bind (fX10_limitAt p0 s5.1 o18) (fun o22 => Option.bind (isO o22.2 p0 10) (fun u23 => Option.bind (fX10_areSure p0 p1 o22.1 o22.2) (fun v26 => (if v26 = 0 then some (Sum.inl (s5.1 + 1, o22.2)) else some (Sum.inr (Sum.inl (s5.1, o22.2)))))))))))) mxF (1, h)) (Sum.elim (fun r28 : (Int32 × mxH) => some (r28.1, r28.2)) (fun r30 : mxH => some (v4, r30)))))
abbrev rmX10_plainStop : Room := { frames := 6, cells := 0, slots := 0, locals := 136 }
set_option maxRecDepth 20000 in
theorem tX10_plainStop {l : Launch} {Z : mxZ} (hl : l.stackTraces = false) {p0 : Nat} {p1 : Int32} {h : mxH} {out : (Int32 × mxH)} (hf : fX10_plainStop p0 p1 h = some out) : mxMet l Z yX10_plainStop cX10_plainStop 4 (some .int) rmX10_plainStop [.ref p0, .int p1] h (.inl (some (.int out.1))) out.2 := by
  refine mxMet_of (by decide) hl (by simp [Value.category]) (Nat.le_of_ble_eq_true rfl) ?_
  intro X C E hX hin
  unfold fX10_plainStop at hf
  refine mG_aload_n (pc := 0) C dX10_plainStop_0 rfl ?_
  obtain ⟨u1, e2, hf⟩ := mx_bind hf
  obtain ⟨v4, e3, hf⟩ := mx_bind hf
  refine mG_cV (pc := 1) (k' := 0) (n' := 0) 10 [] [] C hX dX10_plainStop_1 lkV_X10_111 rfl rfl e2 (tX10_longest hl e3) rfl rfl rfl rfl ?_
  refine mG_isn (ls' := [some (.ref p0), some (.int p1), some (.int v4), none]) (pc := 4) C dX10_plainStop_4 rfl rfl rfl ?_
  refine mG_ic (pc := 5) C dX10_plainStop_5 kI1 ?_
  refine mG_isn (ls' := [some (.ref p0), some (.int p1), some (.int v4), some (.int 1)]) (pc := 6) C dX10_plainStop_6 rfl rfl rfl ?_
  obtain ⟨r6, e7, hf⟩ := mx_bind hf
  have J8 : ∀ r28 : (Int32 × mxH), Sum.inl r28 = r6 → mG l Z X 4 0 0 30 [none, none, none, some (.int r28.1)] [] r28.2 := by
    intro r28 q29
    subst q29
    rw [Sum.elim_inl] at hf
    refine mG_iload_n (pc := 30) C dX10_plainStop_30 rfl ?_
    cases hf
    exact mG_ir (pc := 31) C E hX dX10_plainStop_31 rfl
  have J9 : ∀ r30 : mxH, Sum.inr r30 = r6 → mG l Z X 4 0 0 38 [none, none, some (.int v4), none] [] r30 := by
    intro r30 q31
    subst q31
    rw [Sum.elim_inr] at hf
    refine mG_iload_n (pc := 38) C dX10_plainStop_38 rfl ?_
    cases hf
    exact mG_ir (pc := 39) C E hX dX10_plainStop_39 rfl
  refine mG_sub (ls' := [some (.ref p0), some (.int p1), some (.int v4), some (.int 1)]) (mxLe_s (mxLe_s (mxLe_s (mxLe_s mxLe_z)))) (mxLoop_ind (K := fun s5 : (Int32 × mxH) => mG l Z X 4 0 0 7 [some (.ref p0), some (.int p1), some (.int v4), some (.int s5.1)] [] s5.2) ?_ _ _ e7)
  intro s5 o12 e13 hK10 hx11
  refine mG_iload_n (pc := 7) C dX10_plainStop_7 rfl ?_
  refine mG_iload_n (pc := 8) C dX10_plainStop_8 rfl ?_
  refine mG_icmp_ge (pc := 9) (tgt := 38) C dX10_plainStop_9 (by decide) (fun q14 => ?_) (fun q14 => ?_)
  · rw [if_pos q14] at e13
    exact mG_sub (mxLe_n (mxLe_n (mxLe_s (mxLe_n mxLe_z)))) (J9 _ (hx11 _ (Option.some.inj e13).symm))
  · rw [if_neg q14] at e13
    refine mG_aload_n (pc := 12) C dX10_plainStop_12 rfl ?_
    refine mG_iload_n (pc := 13) C dX10_plainStop_13 rfl ?_
    obtain ⟨u15, e16, e13⟩ := mx_bind e13
    obtain ⟨o18, e17, e13⟩ := mx_bind e13
    refine mG_cV (pc := 14) (k' := 0) (n' := 0) 10 [.int s5.1] [] C hX dX10_plainStop_14 lkV_X10_127 rfl rfl e16 (tX10_laysBounds hl e17) rfl rfl rfl rfl ?_
    refine mG_aload_n (pc := 17) C dX10_plainStop_17 rfl ?_
    refine mG_iload_n (pc := 18) C dX10_plainStop_18 rfl ?_
    refine mG_aload_n (pc := 19) C dX10_plainStop_19 rfl ?_
    refine mG_iload_n (pc := 20) C dX10_plainStop_20 rfl ?_
    obtain ⟨u19, e20, e13⟩ := mx_bind e13
    obtain ⟨o22, e21, e13⟩ := mx_bind e13
    refine mG_cV (pc := 21) (k' := 0) (n' := 0) 10 [.int s5.1] [.int p1, .ref p0] C hX dX10_plainStop_21 lkV_X10_118 rfl rfl e20 (tX10_limitAt hl e21) rfl rfl rfl rfl ?_
    obtain ⟨u23, e24, e13⟩ := mx_bind e13
    obtain ⟨v26, e25, e13⟩ := mx_bind e13
    refine mG_cV (pc := 24) (k' := 0) (n' := 0) 10 [.int p1, .int o22.1] [] C hX dX10_plainStop_24 lkV_X10_131 rfl rfl e24 (tX10_areSure hl e25) rfl rfl rfl rfl ?_
    refine mG_if_eq (pc := 27) (tgt := 32) C dX10_plainStop_27 (by decide) (fun q27 => ?_) (fun q27 => ?_)
    · rw [if_pos q27] at e13
      refine mG_ii (ls' := [some (.ref p0), some (.int p1), some (.int v4), some (.int (s5.1 + 1))]) (pc := 32) C dX10_plainStop_32 rfl (kinc1 _) rfl rfl rfl ?_
      refine mG_goto (tgt := 7) (pc := 35) C dX10_plainStop_35 (by decide) ?_
      exact mG_sub (mxLe_s (mxLe_s (mxLe_s (mxLe_s mxLe_z)))) (hK10 _ (Option.some.inj e13).symm)
    · rw [if_neg q27] at e13
      exact mG_sub (mxLe_n (mxLe_n (mxLe_n (mxLe_s mxLe_z)))) (J8 _ (hx11 _ (Option.some.inj e13).symm))
theorem dX10_readsAt_0 : decode cX10_readsAt 0 = .ok (.iconst 0, 1) := by decide +kernel
theorem dX10_readsAt_1 : decode cX10_readsAt 1 = .ok (.istore_n 2, 1) := by decide +kernel
theorem dX10_readsAt_2 : decode cX10_readsAt 2 = .ok (.iconst 0, 1) := by decide +kernel
theorem dX10_readsAt_3 : decode cX10_readsAt 3 = .ok (.istore_n 3, 1) := by decide +kernel
theorem dX10_readsAt_4 : decode cX10_readsAt 4 = .ok (.iload_n 3, 1) := by decide +kernel
theorem dX10_readsAt_5 : decode cX10_readsAt 5 = .ok (.iconst 5, 1) := by decide +kernel
theorem dX10_readsAt_6 : decode cX10_readsAt 6 = .ok (.if_icmp .ge 21, 3) := by decide +kernel
theorem dX10_readsAt_9 : decode cX10_readsAt 9 = .ok (.iload_n 2, 1) := by decide +kernel
theorem dX10_readsAt_10 : decode cX10_readsAt 10 = .ok (.aload_n 0, 1) := by decide +kernel
theorem dX10_readsAt_11 : decode cX10_readsAt 11 = .ok (.iload_n 3, 1) := by decide +kernel
theorem dX10_readsAt_12 : decode cX10_readsAt 12 = .ok (.invokevirtual 77, 3) := by decide +kernel
theorem dX10_readsAt_15 : decode cX10_readsAt 15 = .ok (.iload_n 1, 1) := by decide +kernel
theorem dX10_readsAt_16 : decode cX10_readsAt 16 = .ok (.invokestatic 134, 3) := by decide +kernel
theorem dX10_readsAt_19 : decode cX10_readsAt 19 = .ok (.iadd, 1) := by decide +kernel
theorem dX10_readsAt_20 : decode cX10_readsAt 20 = .ok (.istore_n 2, 1) := by decide +kernel
theorem dX10_readsAt_21 : decode cX10_readsAt 21 = .ok (.iinc 3 1, 3) := by decide +kernel
theorem dX10_readsAt_24 : decode cX10_readsAt 24 = .ok (.goto (-20), 3) := by decide +kernel
theorem dX10_readsAt_27 : decode cX10_readsAt 27 = .ok (.iload_n 2, 1) := by decide +kernel
theorem dX10_readsAt_28 : decode cX10_readsAt 28 = .ok (.ireturn, 1) := by decide +kernel
def fX10_readsAt (p0 : Nat) (p1 : Int32) (h : mxH) : Option Int32 := Option.bind (mxLoop (ρ := Int32) (fun s1 : (Int32 × Int32) => (if 5 ≤ s1.2 then some (Sum.inr s1.1) else Option.bind (isO h p0 10) (fun u10 => Option.bind (fX10_items p0 s1.2 h) (fun v13 => some (Sum.inl (s1.1 + (mxMin v13 p1), s1.2 + 1)))))) mxF (0, 0)) (fun r14 : Int32 => some r14)
abbrev rmX10_readsAt : Room := { frames := 3, cells := 0, slots := 0, locals := 67 }
set_option maxRecDepth 20000 in
theorem tX10_readsAt {l : Launch} {Z : mxZ} (hl : l.stackTraces = false) {p0 : Nat} {p1 : Int32} {h : mxH} {out : Int32} (hf : fX10_readsAt p0 p1 h = some out) : mxMet l Z yX10_readsAt cX10_readsAt 4 (some .int) rmX10_readsAt [.ref p0, .int p1] h (.inl (some (.int out))) h := by
  refine mxMet_of (by decide) hl (by simp [Value.category]) (Nat.le_of_ble_eq_true rfl) ?_
  intro X C E hX hin
  unfold fX10_readsAt at hf
  refine mG_ic (pc := 0) C dX10_readsAt_0 kI0 ?_
  refine mG_isn (ls' := [some (.ref p0), some (.int p1), some (.int 0), none]) (pc := 1) C dX10_readsAt_1 rfl rfl rfl ?_
  refine mG_ic (pc := 2) C dX10_readsAt_2 kI0 ?_
  refine mG_isn (ls' := [some (.ref p0), some (.int p1), some (.int 0), some (.int 0)]) (pc := 3) C dX10_readsAt_3 rfl rfl rfl ?_
  obtain ⟨r2, e3, hf⟩ := mx_bind hf
  have J4 : ∀ r14 : Int32, r14 = r2 → mG l Z X 4 0 0 27 [none, none, some (.int r14), none] [] h := by
    intro r14 q15
    subst q15
    refine mG_iload_n (pc := 27) C dX10_readsAt_27 rfl ?_
    cases hf
    exact mG_ir (pc := 28) C E hX dX10_readsAt_28 rfl
  refine mG_sub (ls' := [some (.ref p0), some (.int p1), some (.int 0), some (.int 0)]) (mxLe_s (mxLe_s (mxLe_s (mxLe_s mxLe_z)))) (mxLoop_ind (K := fun s1 : (Int32 × Int32) => mG l Z X 4 0 0 4 [some (.ref p0), some (.int p1), some (.int s1.1), some (.int s1.2)] [] h) ?_ _ _ e3)
  intro s1 o7 e8 hK5 hx6
  refine mG_iload_n (pc := 4) C dX10_readsAt_4 rfl ?_
  refine mG_ic (pc := 5) C dX10_readsAt_5 kI5 ?_
  refine mG_icmp_ge (pc := 6) (tgt := 27) C dX10_readsAt_6 (by decide) (fun q9 => ?_) (fun q9 => ?_)
  · rw [if_pos q9] at e8
    exact mG_sub (mxLe_n (mxLe_n (mxLe_s (mxLe_n mxLe_z)))) (J4 _ (hx6 _ (Option.some.inj e8).symm))
  · rw [if_neg q9] at e8
    refine mG_iload_n (pc := 9) C dX10_readsAt_9 rfl ?_
    refine mG_aload_n (pc := 10) C dX10_readsAt_10 rfl ?_
    refine mG_iload_n (pc := 11) C dX10_readsAt_11 rfl ?_
    obtain ⟨u10, e11, e8⟩ := mx_bind e8
    obtain ⟨v13, e12, e8⟩ := mx_bind e8
    refine mG_cV (pc := 12) (k' := 0) (n' := 0) 10 [.int s1.2] [.int s1.1] C hX dX10_readsAt_12 lkV_X10_77 rfl rfl e11 (tX10_items hl e12) rfl rfl rfl rfl ?_
    refine mG_iload_n (pc := 15) C dX10_readsAt_15 rfl ?_
    refine mG_mn (pc := 16) C hX dX10_readsAt_16 w1382 wmin rfl rfl ?_
    refine mG_iadd (pc := 19) C dX10_readsAt_19 ?_
    refine mG_isn (ls' := [some (.ref p0), some (.int p1), some (.int (s1.1 + (mxMin v13 p1))), some (.int s1.2)]) (pc := 20) C dX10_readsAt_20 rfl rfl rfl ?_
    refine mG_ii (ls' := [some (.ref p0), some (.int p1), some (.int (s1.1 + (mxMin v13 p1))), some (.int (s1.2 + 1))]) (pc := 21) C dX10_readsAt_21 rfl (kinc1 _) rfl rfl rfl ?_
    refine mG_goto (tgt := 4) (pc := 24) C dX10_readsAt_24 (by decide) ?_
    exact mG_sub (mxLe_s (mxLe_s (mxLe_s (mxLe_s mxLe_z)))) (hK5 _ (Option.some.inj e8).symm)
theorem dX10_key_0 : decode cX10_key 0 = .ok (.bipush 99, 2) := by decide +kernel
theorem dX10_key_2 : decode cX10_key 2 = .ok (.aload_n 0, 1) := by decide +kernel
theorem dX10_key_3 : decode cX10_key 3 = .ok (.iload_n 1, 1) := by decide +kernel
theorem dX10_key_4 : decode cX10_key 4 = .ok (.iload_n 2, 1) := by decide +kernel
theorem dX10_key_5 : decode cX10_key 5 = .ok (.invokevirtual 69, 3) := by decide +kernel
theorem dX10_key_8 : decode cX10_key 8 = .ok (.isub, 1) := by decide +kernel
theorem dX10_key_9 : decode cX10_key 9 = .ok (.bipush 100, 2) := by decide +kernel
theorem dX10_key_11 : decode cX10_key 11 = .ok (.imul, 1) := by decide +kernel
theorem dX10_key_12 : decode cX10_key 12 = .ok (.bipush 20, 2) := by decide +kernel
theorem dX10_key_14 : decode cX10_key 14 = .ok (.iload_n 1, 1) := by decide +kernel
theorem dX10_key_15 : decode cX10_key 15 = .ok (.imul, 1) := by decide +kernel
theorem dX10_key_16 : decode cX10_key 16 = .ok (.iadd, 1) := by decide +kernel
theorem dX10_key_17 : decode cX10_key 17 = .ok (.iload_n 2, 1) := by decide +kernel
theorem dX10_key_18 : decode cX10_key 18 = .ok (.iadd, 1) := by decide +kernel
theorem dX10_key_19 : decode cX10_key 19 = .ok (.ireturn, 1) := by decide +kernel
def fX10_key (p0 : Nat) (p1 : Int32) (p2 : Int32) (h : mxH) : Option Int32 := Option.bind (isO h p0 10) (fun u1 => Option.bind (fX10_mark p0 p1 p2 h) (fun v4 => some ((((99 - v4) * 100) + (20 * p1)) + p2)))
abbrev rmX10_key : Room := { frames := 1, cells := 0, slots := 0, locals := 22 }
set_option maxRecDepth 20000 in
theorem tX10_key {l : Launch} {Z : mxZ} (hl : l.stackTraces = false) {p0 : Nat} {p1 : Int32} {p2 : Int32} {h : mxH} {out : Int32} (hf : fX10_key p0 p1 p2 h = some out) : mxMet l Z yX10_key cX10_key 3 (some .int) rmX10_key [.ref p0, .int p1, .int p2] h (.inl (some (.int out))) h := by
  refine mxMet_of (by decide) hl (by simp [Value.category]) (Nat.le_of_ble_eq_true rfl) ?_
  intro X C E hX hin
  unfold fX10_key at hf
  refine mG_bp (pc := 0) C dX10_key_0 kB99 ?_
  refine mG_aload_n (pc := 2) C dX10_key_2 rfl ?_
  refine mG_iload_n (pc := 3) C dX10_key_3 rfl ?_
  refine mG_iload_n (pc := 4) C dX10_key_4 rfl ?_
  obtain ⟨u1, e2, hf⟩ := mx_bind hf
  obtain ⟨v4, e3, hf⟩ := mx_bind hf
  refine mG_cV (pc := 5) (k' := 0) (n' := 0) 10 [.int p1, .int p2] [.int 99] C hX dX10_key_5 lkV_X10_69 rfl rfl e2 (tX10_mark hl e3) rfl rfl rfl rfl ?_
  refine mG_isub (pc := 8) C dX10_key_8 ?_
  refine mG_bp (pc := 9) C dX10_key_9 kB100 ?_
  refine mG_imul (pc := 11) C dX10_key_11 ?_
  refine mG_bp (pc := 12) C dX10_key_12 kB20 ?_
  refine mG_iload_n (pc := 14) C dX10_key_14 rfl ?_
  refine mG_imul (pc := 15) C dX10_key_15 ?_
  refine mG_iadd (pc := 16) C dX10_key_16 ?_
  refine mG_iload_n (pc := 17) C dX10_key_17 rfl ?_
  refine mG_iadd (pc := 18) C dX10_key_18 ?_
  cases hf
  exact mG_ir (pc := 19) C E hX dX10_key_19 rfl
theorem dX10_keysOf_0 : decode cX10_keysOf 0 = .ok (.iconst 0, 1) := by decide +kernel
theorem dX10_keysOf_1 : decode cX10_keysOf 1 = .ok (.istore_n 3, 1) := by decide +kernel
theorem dX10_keysOf_2 : decode cX10_keysOf 2 = .ok (.iconst 0, 1) := by decide +kernel
theorem dX10_keysOf_3 : decode cX10_keysOf 3 = .ok (.istore 4, 2) := by decide +kernel
theorem dX10_keysOf_5 : decode cX10_keysOf 5 = .ok (.iload 4, 2) := by decide +kernel
theorem dX10_keysOf_7 : decode cX10_keysOf 7 = .ok (.iconst 5, 1) := by decide +kernel
theorem dX10_keysOf_8 : decode cX10_keysOf 8 = .ok (.if_icmp .ge 109, 3) := by decide +kernel
theorem dX10_keysOf_11 : decode cX10_keysOf 11 = .ok (.iload_n 2, 1) := by decide +kernel
theorem dX10_keysOf_12 : decode cX10_keysOf 12 = .ok (.iconst (-1), 1) := by decide +kernel
theorem dX10_keysOf_13 : decode cX10_keysOf 13 = .ok (.if_icmp .eq 12, 3) := by decide +kernel
theorem dX10_keysOf_16 : decode cX10_keysOf 16 = .ok (.iload 4, 2) := by decide +kernel
theorem dX10_keysOf_18 : decode cX10_keysOf 18 = .ok (.iload_n 2, 1) := by decide +kernel
theorem dX10_keysOf_19 : decode cX10_keysOf 19 = .ok (.if_icmp .eq 6, 3) := by decide +kernel
theorem dX10_keysOf_22 : decode cX10_keysOf 22 = .ok (.goto 89, 3) := by decide +kernel
theorem dX10_keysOf_25 : decode cX10_keysOf 25 = .ok (.iconst 0, 1) := by decide +kernel
theorem dX10_keysOf_26 : decode cX10_keysOf 26 = .ok (.istore 5, 2) := by decide +kernel
theorem dX10_keysOf_28 : decode cX10_keysOf 28 = .ok (.iload 5, 2) := by decide +kernel
theorem dX10_keysOf_30 : decode cX10_keysOf 30 = .ok (.bipush 20, 2) := by decide +kernel
theorem dX10_keysOf_32 : decode cX10_keysOf 32 = .ok (.if_icmp .ge 79, 3) := by decide +kernel
theorem dX10_keysOf_35 : decode cX10_keysOf 35 = .ok (.aload_n 0, 1) := by decide +kernel
theorem dX10_keysOf_36 : decode cX10_keysOf 36 = .ok (.iload 4, 2) := by decide +kernel
theorem dX10_keysOf_38 : decode cX10_keysOf 38 = .ok (.iload 5, 2) := by decide +kernel
theorem dX10_keysOf_40 : decode cX10_keysOf 40 = .ok (.invokevirtual 73, 3) := by decide +kernel
theorem dX10_keysOf_43 : decode cX10_keysOf 43 = .ok (.ifCond .ne 6, 3) := by decide +kernel
theorem dX10_keysOf_46 : decode cX10_keysOf 46 = .ok (.goto 59, 3) := by decide +kernel
theorem dX10_keysOf_49 : decode cX10_keysOf 49 = .ok (.iload_n 3, 1) := by decide +kernel
theorem dX10_keysOf_50 : decode cX10_keysOf 50 = .ok (.istore 6, 2) := by decide +kernel
theorem dX10_keysOf_52 : decode cX10_keysOf 52 = .ok (.iload 6, 2) := by decide +kernel
theorem dX10_keysOf_54 : decode cX10_keysOf 54 = .ok (.ifCond .le 36, 3) := by decide +kernel
theorem dX10_keysOf_57 : decode cX10_keysOf 57 = .ok (.aload_n 1, 1) := by decide +kernel
theorem dX10_keysOf_58 : decode cX10_keysOf 58 = .ok (.iload 6, 2) := by decide +kernel
theorem dX10_keysOf_60 : decode cX10_keysOf 60 = .ok (.iconst 1, 1) := by decide +kernel
theorem dX10_keysOf_61 : decode cX10_keysOf 61 = .ok (.isub, 1) := by decide +kernel
theorem dX10_keysOf_62 : decode cX10_keysOf 62 = .ok (.iaload, 1) := by decide +kernel
theorem dX10_keysOf_63 : decode cX10_keysOf 63 = .ok (.aload_n 0, 1) := by decide +kernel
theorem dX10_keysOf_64 : decode cX10_keysOf 64 = .ok (.iload 4, 2) := by decide +kernel
theorem dX10_keysOf_66 : decode cX10_keysOf 66 = .ok (.iload 5, 2) := by decide +kernel
theorem dX10_keysOf_68 : decode cX10_keysOf 68 = .ok (.invokevirtual 137, 3) := by decide +kernel
theorem dX10_keysOf_71 : decode cX10_keysOf 71 = .ok (.if_icmp .le 19, 3) := by decide +kernel
theorem dX10_keysOf_74 : decode cX10_keysOf 74 = .ok (.aload_n 1, 1) := by decide +kernel
theorem dX10_keysOf_75 : decode cX10_keysOf 75 = .ok (.iload 6, 2) := by decide +kernel
theorem dX10_keysOf_77 : decode cX10_keysOf 77 = .ok (.aload_n 1, 1) := by decide +kernel
theorem dX10_keysOf_78 : decode cX10_keysOf 78 = .ok (.iload 6, 2) := by decide +kernel
theorem dX10_keysOf_80 : decode cX10_keysOf 80 = .ok (.iconst 1, 1) := by decide +kernel
theorem dX10_keysOf_81 : decode cX10_keysOf 81 = .ok (.isub, 1) := by decide +kernel
theorem dX10_keysOf_82 : decode cX10_keysOf 82 = .ok (.iaload, 1) := by decide +kernel
theorem dX10_keysOf_83 : decode cX10_keysOf 83 = .ok (.iastore, 1) := by decide +kernel
theorem dX10_keysOf_84 : decode cX10_keysOf 84 = .ok (.iinc 6 (-1), 3) := by decide +kernel
theorem dX10_keysOf_87 : decode cX10_keysOf 87 = .ok (.goto (-35), 3) := by decide +kernel
theorem dX10_keysOf_90 : decode cX10_keysOf 90 = .ok (.aload_n 1, 1) := by decide +kernel
theorem dX10_keysOf_91 : decode cX10_keysOf 91 = .ok (.iload 6, 2) := by decide +kernel
theorem dX10_keysOf_93 : decode cX10_keysOf 93 = .ok (.aload_n 0, 1) := by decide +kernel
theorem dX10_keysOf_94 : decode cX10_keysOf 94 = .ok (.iload 4, 2) := by decide +kernel
theorem dX10_keysOf_96 : decode cX10_keysOf 96 = .ok (.iload 5, 2) := by decide +kernel
theorem dX10_keysOf_98 : decode cX10_keysOf 98 = .ok (.invokevirtual 137, 3) := by decide +kernel
theorem dX10_keysOf_101 : decode cX10_keysOf 101 = .ok (.iastore, 1) := by decide +kernel
theorem dX10_keysOf_102 : decode cX10_keysOf 102 = .ok (.iinc 3 1, 3) := by decide +kernel
theorem dX10_keysOf_105 : decode cX10_keysOf 105 = .ok (.iinc 5 1, 3) := by decide +kernel
theorem dX10_keysOf_108 : decode cX10_keysOf 108 = .ok (.goto (-80), 3) := by decide +kernel
theorem dX10_keysOf_111 : decode cX10_keysOf 111 = .ok (.iinc 4 1, 3) := by decide +kernel
theorem dX10_keysOf_114 : decode cX10_keysOf 114 = .ok (.goto (-109), 3) := by decide +kernel
theorem dX10_keysOf_117 : decode cX10_keysOf 117 = .ok (.iload_n 3, 1) := by decide +kernel
theorem dX10_keysOf_118 : decode cX10_keysOf 118 = .ok (.ireturn, 1) := by decide +kernel
def fX10_keysOf (p0 : Nat) (p1 : Nat) (p2 : Int32) (h : mxH) : Option (Int32 × mxH) := Option.bind (mxLoop (ρ := (Int32 × mxH)) (fun s1 : (Int32 × Int32 × mxH) => (if 5 ≤ s1.2.1 then some (Sum.inr (s1.1, s1.2.2)) else Option.bind (α := (Int32 × mxH)) (if p2 = (-1) then Option.bind (mxLoop (ρ := (Int32 × mxH)) (fun s14 : (Int32 × Int32 × mxH) => (if 20 ≤ s14.2.1 then some (Sum.inr (s14.1, s14.2.2)) else Option.bind (isO s14.2.2 p0 10) (fun u23 => Option.bind (fX10_has p0 s1.2.1 s14.2.1 s14.2.2) (fun v26 => Option.bind (α := (Int32 × mxH)) (if v26 = 0 then some (s14.1, s14.2.2) else Option.bind (mxLoop (ρ := (Int32 × mxH)) (fun s31 : (Int32 × mxH) => (if s31.1 ≤ 0 then some (Sum.inr (s31.1, s31.2)) else Option.bind (ldI s31.2 p1 (s31.1 - 1)) (fun v40 => Option.bind (isO s31.2 p0 10) (fun u42 => Option.bind (fX10_key p0 s1.2.1 s14.2.1 s31.2) (fun v45 => (if v40 ≤ v45 then some (Sum.inr (s31.1, s31.2)) else Option.bind (ldI s31.2 p1 (s31.1 - 1)) (fun v47 => Option.bind (stI s31.2 p1 s31.1 v47) (fun h49 => some (Sum.inl (s31.1 - 1, h49)))))))))) mxF (s14.1, s14.2.2)) (fun r51 : (Int32 × mxH) => Option.bind (isO r51.2 p0 10) (fun u52 => Option.bind (fX10_key p0 s1.2.1 s14.2.1 r51.2) (fun v55 => Option.bind (stI r51.2 p1 r51.1 v55) (fun h56 => some (s14.1 + 1, h56)))))) (fun p29' : (Int32 × mxH) => some (Sum.inl (p29'.1, s14.2.1 + 1, p29'.2))))))) mxF (s1.1, 0, s1.2.2)) (fun r60 : (Int32 × mxH) => some (r60.1, r60.2)) else (if s1.2.1 = p2 then Option.bind (mxLoop (ρ := (Int32 × mxH)) (fun s63 : (Int32 × Int32 × mxH) => (if 20 ≤ s63.2.1 then some (Sum.inr (s63.1, s63.2.2)) else Option.bind (isO s63.2.2 p0 10) (fun u72 => Option.bind (fX10_has p0 s1.2.1 s63.2.1 s63.2.2) (fun v75 => Option.bind (α := (Int32 × mxH)) (if v75 = 0 then some (s63.1, s63.2.2) else Option.bind (mxLoop (ρ := (Int32 × mxH)) (fun s80 : (Int32 × mxH) => (if s80.1 ≤ 0 then some (Sum.inr (s80.1, s80.2)) else Option.bind (ldI s80.2 p1 (s80.1 - 1)) (fun v89 => Option.bind (isO s80.2 p0 10) (fun u91 => Option.bind (fX10_key p0 s1.2.1 s63.2.1 s80.2) (fun v94 => (if v89 ≤ v94 then some (Sum.inr (s80.1, s80.2)) else Option.bind (ldI s80.2 p1 (s80.1 - 1)) (fun v96 => Option.bind (stI s80.2 p1 s80.1 v96) (fun h98 => some (Sum.inl (s80.1 - 1, h98)))))))))) mxF (s63.1, s63.2.2)) (fun r100 : (Int32 × mxH) => Option.bind (isO r100.2 p0 10) (fun u101 => Option.bind (fX10_key p0 s1.2.1 s63.2.1 r100.2) (fun v104 => Option.bind (stI r100.2 p1 r100.1 v104) (fun h105 => some (s63.1 + 1, h105)))))) (fun p78' : (Int32 × mxH) => some (Sum.inl (p78'.1, s63.2.1 + 1, p78'.2))))))) mxF (s1.1, 0, s1.2.2)) (fun r109 : (Int32 × mxH) => some (r109.1, r109.2)) else some (s1.1, s1.2.2))) (fun p12' : (Int32 × mxH) => some (Sum.inl (p12'.1, s1.2.1 + 1, p12'.2))))) mxF (0, 0, h)) (fun r112 : (Int32 × mxH) => some (r112.1, r112.2))
abbrev rmX10_keysOf : Room := { frames := 2, cells := 0, slots := 0, locals := 44 }
set_option maxRecDepth 20000 in
theorem tX10_keysOf {l : Launch} {Z : mxZ} (hl : l.stackTraces = false) {p0 : Nat} {p1 : Nat} {p2 : Int32} {h : mxH} {out : (Int32 × mxH)} (hf : fX10_keysOf p0 p1 p2 h = some out) : mxMet l Z yX10_keysOf cX10_keysOf 7 (some .int) rmX10_keysOf [.ref p0, .ref p1, .int p2] h (.inl (some (.int out.1))) out.2 := by
  refine mxMet_of (by decide) hl (by simp [Value.category]) (Nat.le_of_ble_eq_true rfl) ?_
  intro X C E hX hin
  unfold fX10_keysOf at hf
  refine mG_ic (pc := 0) C dX10_keysOf_0 kI0 ?_
  refine mG_isn (ls' := [some (.ref p0), some (.ref p1), some (.int p2), some (.int 0), none, none, none]) (pc := 1) C dX10_keysOf_1 rfl rfl rfl ?_
  refine mG_ic (pc := 2) C dX10_keysOf_2 kI0 ?_
  refine mG_is (ls' := [some (.ref p0), some (.ref p1), some (.int p2), some (.int 0), some (.int 0), none, none]) (pc := 3) C dX10_keysOf_3 rfl rfl rfl ?_
  obtain ⟨r2, e3, hf⟩ := mx_bind hf
  have J4 : ∀ r112 : (Int32 × mxH), r112 = r2 → mG l Z X 7 0 0 117 [none, none, none, some (.int r112.1), none, none, none] [] r112.2 := by
    intro r112 q113
    subst q113
    refine mG_iload_n (pc := 117) C dX10_keysOf_117 rfl ?_
    cases hf
    exact mG_ir (pc := 118) C E hX dX10_keysOf_118 rfl
  refine mG_sub (ls' := [some (.ref p0), some (.ref p1), some (.int p2), some (.int 0), some (.int 0), none, none]) (mxLe_s (mxLe_s (mxLe_s (mxLe_s (mxLe_s (mxLe_n (mxLe_n mxLe_z))))))) (mxLoop_ind (K := fun s1 : (Int32 × Int32 × mxH) => mG l Z X 7 0 0 5 [some (.ref p0), some (.ref p1), some (.int p2), some (.int s1.1), some (.int s1.2.1), none, none] [] s1.2.2) ?_ _ _ e3)
  intro s1 o7 e8 hK5 hx6
  refine mG_iload (pc := 5) C dX10_keysOf_5 rfl ?_
  refine mG_ic (pc := 7) C dX10_keysOf_7 kI5 ?_
  refine mG_icmp_ge (pc := 8) (tgt := 117) C dX10_keysOf_8 (by decide) (fun q9 => ?_) (fun q9 => ?_)
  · rw [if_pos q9] at e8
    exact mG_sub (mxLe_n (mxLe_n (mxLe_n (mxLe_s (mxLe_n (mxLe_n (mxLe_n mxLe_z))))))) (J4 _ (hx6 _ (Option.some.inj e8).symm))
  · rw [if_neg q9] at e8
    refine mG_iload_n (pc := 11) C dX10_keysOf_11 rfl ?_
    refine mG_ic (pc := 12) C dX10_keysOf_12 kIm1 ?_
    obtain ⟨p12, e13, e8⟩ := mx_bind e8
    have J11 : ∀ p12' : (Int32 × mxH), p12' = p12 → mG l Z X 7 0 0 111 [some (.ref p0), some (.ref p1), some (.int p2), some (.int p12'.1), some (.int s1.2.1), none, none] [] p12'.2 := by
      intro p12' q111
      subst q111
      refine mG_ii (ls' := [some (.ref p0), some (.ref p1), some (.int p2), some (.int p12'.1), some (.int (s1.2.1 + 1)), none, none]) (pc := 111) C dX10_keysOf_111 rfl (kinc1 _) rfl rfl rfl ?_
      refine mG_goto (tgt := 5) (pc := 114) C dX10_keysOf_114 (by decide) ?_
      exact mG_sub (mxLe_s (mxLe_s (mxLe_s (mxLe_s (mxLe_s (mxLe_n (mxLe_n mxLe_z))))))) (hK5 _ (Option.some.inj e8).symm)
    refine mG_icmp_eq (pc := 13) (tgt := 25) C dX10_keysOf_13 (by decide) (fun q10 => ?_) (fun q10 => ?_)
    · rw [if_pos q10] at e13
      refine mG_ic (pc := 25) C dX10_keysOf_25 kI0 ?_
      refine mG_is (ls' := [some (.ref p0), some (.ref p1), some (.int p2), some (.int s1.1), some (.int s1.2.1), some (.int 0), none]) (pc := 26) C dX10_keysOf_26 rfl rfl rfl ?_
      obtain ⟨r15, e16, e13⟩ := mx_bind e13
      have J17 : ∀ r60 : (Int32 × mxH), r60 = r15 → mG l Z X 7 0 0 111 [some (.ref p0), some (.ref p1), some (.int p2), some (.int r60.1), some (.int s1.2.1), none, none] [] r60.2 := by
        intro r60 q61
        subst q61
        exact mG_sub (mxLe_s (mxLe_s (mxLe_s (mxLe_s (mxLe_s (mxLe_n (mxLe_n mxLe_z))))))) (J11 _ (Option.some.inj e13))
      refine mG_sub (ls' := [some (.ref p0), some (.ref p1), some (.int p2), some (.int s1.1), some (.int s1.2.1), some (.int 0), none]) (mxLe_s (mxLe_s (mxLe_s (mxLe_s (mxLe_s (mxLe_s (mxLe_n mxLe_z))))))) (mxLoop_ind (K := fun s14 : (Int32 × Int32 × mxH) => mG l Z X 7 0 0 28 [some (.ref p0), some (.ref p1), some (.int p2), some (.int s14.1), some (.int s1.2.1), some (.int s14.2.1), none] [] s14.2.2) ?_ _ _ e16)
      intro s14 o20 e21 hK18 hx19
      refine mG_iload (pc := 28) C dX10_keysOf_28 rfl ?_
      refine mG_bp (pc := 30) C dX10_keysOf_30 kB20 ?_
      refine mG_icmp_ge (pc := 32) (tgt := 111) C dX10_keysOf_32 (by decide) (fun q22 => ?_) (fun q22 => ?_)
      · rw [if_pos q22] at e21
        exact mG_sub (mxLe_s (mxLe_s (mxLe_s (mxLe_s (mxLe_s (mxLe_n (mxLe_n mxLe_z))))))) (J17 _ (hx19 _ (Option.some.inj e21).symm))
      · rw [if_neg q22] at e21
        refine mG_aload_n (pc := 35) C dX10_keysOf_35 rfl ?_
        refine mG_iload (pc := 36) C dX10_keysOf_36 rfl ?_
        refine mG_iload (pc := 38) C dX10_keysOf_38 rfl ?_
        obtain ⟨u23, e24, e21⟩ := mx_bind e21
        obtain ⟨v26, e25, e21⟩ := mx_bind e21
        refine mG_cV (pc := 40) (k' := 0) (n' := 0) 10 [.int s1.2.1, .int s14.2.1] [] C hX dX10_keysOf_40 lkV_X10_73 rfl rfl e24 (tX10_has hl e25) rfl rfl rfl rfl ?_
        obtain ⟨p29, e30, e21⟩ := mx_bind e21
        have J28 : ∀ p29' : (Int32 × mxH), p29' = p29 → mG l Z X 7 0 0 105 [some (.ref p0), some (.ref p1), some (.int p2), some (.int p29'.1), some (.int s1.2.1), some (.int s14.2.1), none] [] p29'.2 := by
          intro p29' q59
          subst q59
          refine mG_ii (ls' := [some (.ref p0), some (.ref p1), some (.int p2), some (.int p29'.1), some (.int s1.2.1), some (.int (s14.2.1 + 1)), none]) (pc := 105) C dX10_keysOf_105 rfl (kinc1 _) rfl rfl rfl ?_
          refine mG_goto (tgt := 28) (pc := 108) C dX10_keysOf_108 (by decide) ?_
          exact mG_sub (mxLe_s (mxLe_s (mxLe_s (mxLe_s (mxLe_s (mxLe_s (mxLe_n mxLe_z))))))) (hK18 _ (Option.some.inj e21).symm)
        refine mG_if_ne (pc := 43) (tgt := 49) C dX10_keysOf_43 (by decide) (fun q27 => ?_) (fun q27 => ?_)
        · rw [if_neg q27] at e30
          refine mG_iload_n (pc := 49) C dX10_keysOf_49 rfl ?_
          refine mG_is (ls' := [some (.ref p0), some (.ref p1), some (.int p2), some (.int s14.1), some (.int s1.2.1), some (.int s14.2.1), some (.int s14.1)]) (pc := 50) C dX10_keysOf_50 rfl rfl rfl ?_
          obtain ⟨r32, e33, e30⟩ := mx_bind e30
          have J34 : ∀ r51 : (Int32 × mxH), r51 = r32 → mG l Z X 7 0 0 90 [some (.ref p0), some (.ref p1), some (.int p2), some (.int s14.1), some (.int s1.2.1), some (.int s14.2.1), some (.int r51.1)] [] r51.2 := by
            intro r51 q58
            subst q58
            refine mG_aload_n (pc := 90) C dX10_keysOf_90 rfl ?_
            refine mG_iload (pc := 91) C dX10_keysOf_91 rfl ?_
            refine mG_aload_n (pc := 93) C dX10_keysOf_93 rfl ?_
            refine mG_iload (pc := 94) C dX10_keysOf_94 rfl ?_
            refine mG_iload (pc := 96) C dX10_keysOf_96 rfl ?_
            obtain ⟨u52, e53, e30⟩ := mx_bind e30
            obtain ⟨v55, e54, e30⟩ := mx_bind e30
            refine mG_cV (pc := 98) (k' := 0) (n' := 0) 10 [.int s1.2.1, .int s14.2.1] [.int r51.1, .ref p1] C hX dX10_keysOf_98 lkV_X10_137 rfl rfl e53 (tX10_key hl e54) rfl rfl rfl rfl ?_
            obtain ⟨h56, e57, e30⟩ := mx_bind e30
            refine mG_iastore (pc := 101) C dX10_keysOf_101 e57 ?_
            refine mG_ii (ls' := [some (.ref p0), some (.ref p1), some (.int p2), some (.int (s14.1 + 1)), some (.int s1.2.1), some (.int s14.2.1), some (.int r51.1)]) (pc := 102) C dX10_keysOf_102 rfl (kinc1 _) rfl rfl rfl ?_
            exact mG_sub (mxLe_s (mxLe_s (mxLe_s (mxLe_s (mxLe_s (mxLe_s (mxLe_n mxLe_z))))))) (J28 _ (Option.some.inj e30))
          refine mG_sub (ls' := [some (.ref p0), some (.ref p1), some (.int p2), some (.int s14.1), some (.int s1.2.1), some (.int s14.2.1), some (.int s14.1)]) (mxLe_s (mxLe_s (mxLe_s (mxLe_s (mxLe_s (mxLe_s (mxLe_s mxLe_z))))))) (mxLoop_ind (K := fun s31 : (Int32 × mxH) => mG l Z X 7 0 0 52 [some (.ref p0), some (.ref p1), some (.int p2), some (.int s14.1), some (.int s1.2.1), some (.int s14.2.1), some (.int s31.1)] [] s31.2) ?_ _ _ e33)
          intro s31 o37 e38 hK35 hx36
          refine mG_iload (pc := 52) C dX10_keysOf_52 rfl ?_
          refine mG_if_le (pc := 54) (tgt := 90) C dX10_keysOf_54 (by decide) (fun q39 => ?_) (fun q39 => ?_)
          · rw [if_pos q39] at e38
            exact mG_sub (mxLe_s (mxLe_s (mxLe_s (mxLe_s (mxLe_s (mxLe_s (mxLe_s mxLe_z))))))) (J34 _ (hx36 _ (Option.some.inj e38).symm))
          · rw [if_neg q39] at e38
            refine mG_aload_n (pc := 57) C dX10_keysOf_57 rfl ?_
            refine mG_iload (pc := 58) C dX10_keysOf_58 rfl ?_
            refine mG_ic (pc := 60) C dX10_keysOf_60 kI1 ?_
            refine mG_isub (pc := 61) C dX10_keysOf_61 ?_
            obtain ⟨v40, e41, e38⟩ := mx_bind e38
            refine mG_iaload (pc := 62) C dX10_keysOf_62 e41 ?_
            refine mG_aload_n (pc := 63) C dX10_keysOf_63 rfl ?_
            refine mG_iload (pc := 64) C dX10_keysOf_64 rfl ?_
            refine mG_iload (pc := 66) C dX10_keysOf_66 rfl ?_
            obtain ⟨u42, e43, e38⟩ := mx_bind e38
            obtain ⟨v45, e44, e38⟩ := mx_bind e38
            refine mG_cV (pc := 68) (k' := 0) (n' := 0) 10 [.int s1.2.1, .int s14.2.1] [.int v40] C hX dX10_keysOf_68 lkV_X10_137 rfl rfl e43 (tX10_key hl e44) rfl rfl rfl rfl ?_
            refine mG_icmp_le (pc := 71) (tgt := 90) C dX10_keysOf_71 (by decide) (fun q46 => ?_) (fun q46 => ?_)
            · rw [if_pos q46] at e38
              exact mG_sub (mxLe_s (mxLe_s (mxLe_s (mxLe_s (mxLe_s (mxLe_s (mxLe_s mxLe_z))))))) (J34 _ (hx36 _ (Option.some.inj e38).symm))
            · rw [if_neg q46] at e38
              refine mG_aload_n (pc := 74) C dX10_keysOf_74 rfl ?_
              refine mG_iload (pc := 75) C dX10_keysOf_75 rfl ?_
              refine mG_aload_n (pc := 77) C dX10_keysOf_77 rfl ?_
              refine mG_iload (pc := 78) C dX10_keysOf_78 rfl ?_
              refine mG_ic (pc := 80) C dX10_keysOf_80 kI1 ?_
              refine mG_isub (pc := 81) C dX10_keysOf_81 ?_
              obtain ⟨v47, e48, e38⟩ := mx_bind e38
              refine mG_iaload (pc := 82) C dX10_keysOf_82 e48 ?_
              obtain ⟨h49, e50, e38⟩ := mx_bind e38
              refine mG_iastore (pc := 83) C dX10_keysOf_83 e50 ?_
              refine mG_ii (ls' := [some (.ref p0), some (.ref p1), some (.int p2), some (.int s14.1), some (.int s1.2.1), some (.int s14.2.1), some (.int (s31.1 - 1))]) (pc := 84) C dX10_keysOf_84 rfl (kincm1 _) rfl rfl rfl ?_
              refine mG_goto (tgt := 52) (pc := 87) C dX10_keysOf_87 (by decide) ?_
              exact mG_sub (mxLe_s (mxLe_s (mxLe_s (mxLe_s (mxLe_s (mxLe_s (mxLe_s mxLe_z))))))) (hK35 _ (Option.some.inj e38).symm)
        · rw [if_pos q27] at e30
          refine mG_goto (tgt := 105) (pc := 46) C dX10_keysOf_46 (by decide) ?_
          exact mG_sub (mxLe_s (mxLe_s (mxLe_s (mxLe_s (mxLe_s (mxLe_s (mxLe_n mxLe_z))))))) (J28 _ (Option.some.inj e30))
    · rw [if_neg q10] at e13
      refine mG_iload (pc := 16) C dX10_keysOf_16 rfl ?_
      refine mG_iload_n (pc := 18) C dX10_keysOf_18 rfl ?_
      refine mG_icmp_eq (pc := 19) (tgt := 25) C dX10_keysOf_19 (by decide) (fun q62 => ?_) (fun q62 => ?_)
      · rw [if_pos q62] at e13
        refine mG_ic (pc := 25) C dX10_keysOf_25 kI0 ?_
        refine mG_is (ls' := [some (.ref p0), some (.ref p1), some (.int p2), some (.int s1.1), some (.int s1.2.1), some (.int 0), none]) (pc := 26) C dX10_keysOf_26 rfl rfl rfl ?_
        obtain ⟨r64, e65, e13⟩ := mx_bind e13
        have J66 : ∀ r109 : (Int32 × mxH), r109 = r64 → mG l Z X 7 0 0 111 [some (.ref p0), some (.ref p1), some (.int p2), some (.int r109.1), some (.int s1.2.1), none, none] [] r109.2 := by
          intro r109 q110
          subst q110
          exact mG_sub (mxLe_s (mxLe_s (mxLe_s (mxLe_s (mxLe_s (mxLe_n (mxLe_n mxLe_z))))))) (J11 _ (Option.some.inj e13))
        refine mG_sub (ls' := [some (.ref p0), some (.ref p1), some (.int p2), some (.int s1.1), some (.int s1.2.1), some (.int 0), none]) (mxLe_s (mxLe_s (mxLe_s (mxLe_s (mxLe_s (mxLe_s (mxLe_n mxLe_z))))))) (mxLoop_ind (K := fun s63 : (Int32 × Int32 × mxH) => mG l Z X 7 0 0 28 [some (.ref p0), some (.ref p1), some (.int p2), some (.int s63.1), some (.int s1.2.1), some (.int s63.2.1), none] [] s63.2.2) ?_ _ _ e65)
        intro s63 o69 e70 hK67 hx68
        refine mG_iload (pc := 28) C dX10_keysOf_28 rfl ?_
        refine mG_bp (pc := 30) C dX10_keysOf_30 kB20 ?_
        refine mG_icmp_ge (pc := 32) (tgt := 111) C dX10_keysOf_32 (by decide) (fun q71 => ?_) (fun q71 => ?_)
        · rw [if_pos q71] at e70
          exact mG_sub (mxLe_s (mxLe_s (mxLe_s (mxLe_s (mxLe_s (mxLe_n (mxLe_n mxLe_z))))))) (J66 _ (hx68 _ (Option.some.inj e70).symm))
        · rw [if_neg q71] at e70
          refine mG_aload_n (pc := 35) C dX10_keysOf_35 rfl ?_
          refine mG_iload (pc := 36) C dX10_keysOf_36 rfl ?_
          refine mG_iload (pc := 38) C dX10_keysOf_38 rfl ?_
          obtain ⟨u72, e73, e70⟩ := mx_bind e70
          obtain ⟨v75, e74, e70⟩ := mx_bind e70
          refine mG_cV (pc := 40) (k' := 0) (n' := 0) 10 [.int s1.2.1, .int s63.2.1] [] C hX dX10_keysOf_40 lkV_X10_73 rfl rfl e73 (tX10_has hl e74) rfl rfl rfl rfl ?_
          obtain ⟨p78, e79, e70⟩ := mx_bind e70
          have J77 : ∀ p78' : (Int32 × mxH), p78' = p78 → mG l Z X 7 0 0 105 [some (.ref p0), some (.ref p1), some (.int p2), some (.int p78'.1), some (.int s1.2.1), some (.int s63.2.1), none] [] p78'.2 := by
            intro p78' q108
            subst q108
            refine mG_ii (ls' := [some (.ref p0), some (.ref p1), some (.int p2), some (.int p78'.1), some (.int s1.2.1), some (.int (s63.2.1 + 1)), none]) (pc := 105) C dX10_keysOf_105 rfl (kinc1 _) rfl rfl rfl ?_
            refine mG_goto (tgt := 28) (pc := 108) C dX10_keysOf_108 (by decide) ?_
            exact mG_sub (mxLe_s (mxLe_s (mxLe_s (mxLe_s (mxLe_s (mxLe_s (mxLe_n mxLe_z))))))) (hK67 _ (Option.some.inj e70).symm)
          refine mG_if_ne (pc := 43) (tgt := 49) C dX10_keysOf_43 (by decide) (fun q76 => ?_) (fun q76 => ?_)
          · rw [if_neg q76] at e79
            refine mG_iload_n (pc := 49) C dX10_keysOf_49 rfl ?_
            refine mG_is (ls' := [some (.ref p0), some (.ref p1), some (.int p2), some (.int s63.1), some (.int s1.2.1), some (.int s63.2.1), some (.int s63.1)]) (pc := 50) C dX10_keysOf_50 rfl rfl rfl ?_
            obtain ⟨r81, e82, e79⟩ := mx_bind e79
            have J83 : ∀ r100 : (Int32 × mxH), r100 = r81 → mG l Z X 7 0 0 90 [some (.ref p0), some (.ref p1), some (.int p2), some (.int s63.1), some (.int s1.2.1), some (.int s63.2.1), some (.int r100.1)] [] r100.2 := by
              intro r100 q107
              subst q107
              refine mG_aload_n (pc := 90) C dX10_keysOf_90 rfl ?_
              refine mG_iload (pc := 91) C dX10_keysOf_91 rfl ?_
              refine mG_aload_n (pc := 93) C dX10_keysOf_93 rfl ?_
              refine mG_iload (pc := 94) C dX10_keysOf_94 rfl ?_
              refine mG_iload (pc := 96) C dX10_keysOf_96 rfl ?_
              obtain ⟨u101, e102, e79⟩ := mx_bind e79
              obtain ⟨v104, e103, e79⟩ := mx_bind e79
              refine mG_cV (pc := 98) (k' := 0) (n' := 0) 10 [.int s1.2.1, .int s63.2.1] [.int r100.1, .ref p1] C hX dX10_keysOf_98 lkV_X10_137 rfl rfl e102 (tX10_key hl e103) rfl rfl rfl rfl ?_
              obtain ⟨h105, e106, e79⟩ := mx_bind e79
              refine mG_iastore (pc := 101) C dX10_keysOf_101 e106 ?_
              refine mG_ii (ls' := [some (.ref p0), some (.ref p1), some (.int p2), some (.int (s63.1 + 1)), some (.int s1.2.1), some (.int s63.2.1), some (.int r100.1)]) (pc := 102) C dX10_keysOf_102 rfl (kinc1 _) rfl rfl rfl ?_
              exact mG_sub (mxLe_s (mxLe_s (mxLe_s (mxLe_s (mxLe_s (mxLe_s (mxLe_n mxLe_z))))))) (J77 _ (Option.some.inj e79))
            refine mG_sub (ls' := [some (.ref p0), some (.ref p1), some (.int p2), some (.int s63.1), some (.int s1.2.1), some (.int s63.2.1), some (.int s63.1)]) (mxLe_s (mxLe_s (mxLe_s (mxLe_s (mxLe_s (mxLe_s (mxLe_s mxLe_z))))))) (mxLoop_ind (K := fun s80 : (Int32 × mxH) => mG l Z X 7 0 0 52 [some (.ref p0), some (.ref p1), some (.int p2), some (.int s63.1), some (.int s1.2.1), some (.int s63.2.1), some (.int s80.1)] [] s80.2) ?_ _ _ e82)
            intro s80 o86 e87 hK84 hx85
            refine mG_iload (pc := 52) C dX10_keysOf_52 rfl ?_
            refine mG_if_le (pc := 54) (tgt := 90) C dX10_keysOf_54 (by decide) (fun q88 => ?_) (fun q88 => ?_)
            · rw [if_pos q88] at e87
              exact mG_sub (mxLe_s (mxLe_s (mxLe_s (mxLe_s (mxLe_s (mxLe_s (mxLe_s mxLe_z))))))) (J83 _ (hx85 _ (Option.some.inj e87).symm))
            · rw [if_neg q88] at e87
              refine mG_aload_n (pc := 57) C dX10_keysOf_57 rfl ?_
              refine mG_iload (pc := 58) C dX10_keysOf_58 rfl ?_
              refine mG_ic (pc := 60) C dX10_keysOf_60 kI1 ?_
              refine mG_isub (pc := 61) C dX10_keysOf_61 ?_
              obtain ⟨v89, e90, e87⟩ := mx_bind e87
              refine mG_iaload (pc := 62) C dX10_keysOf_62 e90 ?_
              refine mG_aload_n (pc := 63) C dX10_keysOf_63 rfl ?_
              refine mG_iload (pc := 64) C dX10_keysOf_64 rfl ?_
              refine mG_iload (pc := 66) C dX10_keysOf_66 rfl ?_
              obtain ⟨u91, e92, e87⟩ := mx_bind e87
              obtain ⟨v94, e93, e87⟩ := mx_bind e87
              refine mG_cV (pc := 68) (k' := 0) (n' := 0) 10 [.int s1.2.1, .int s63.2.1] [.int v89] C hX dX10_keysOf_68 lkV_X10_137 rfl rfl e92 (tX10_key hl e93) rfl rfl rfl rfl ?_
              refine mG_icmp_le (pc := 71) (tgt := 90) C dX10_keysOf_71 (by decide) (fun q95 => ?_) (fun q95 => ?_)
              · rw [if_pos q95] at e87
                exact mG_sub (mxLe_s (mxLe_s (mxLe_s (mxLe_s (mxLe_s (mxLe_s (mxLe_s mxLe_z))))))) (J83 _ (hx85 _ (Option.some.inj e87).symm))
              · rw [if_neg q95] at e87
                refine mG_aload_n (pc := 74) C dX10_keysOf_74 rfl ?_
                refine mG_iload (pc := 75) C dX10_keysOf_75 rfl ?_
                refine mG_aload_n (pc := 77) C dX10_keysOf_77 rfl ?_
                refine mG_iload (pc := 78) C dX10_keysOf_78 rfl ?_
                refine mG_ic (pc := 80) C dX10_keysOf_80 kI1 ?_
                refine mG_isub (pc := 81) C dX10_keysOf_81 ?_
                obtain ⟨v96, e97, e87⟩ := mx_bind e87
                refine mG_iaload (pc := 82) C dX10_keysOf_82 e97 ?_
                obtain ⟨h98, e99, e87⟩ := mx_bind e87
                refine mG_iastore (pc := 83) C dX10_keysOf_83 e99 ?_
                refine mG_ii (ls' := [some (.ref p0), some (.ref p1), some (.int p2), some (.int s63.1), some (.int s1.2.1), some (.int s63.2.1), some (.int (s80.1 - 1))]) (pc := 84) C dX10_keysOf_84 rfl (kincm1 _) rfl rfl rfl ?_
                refine mG_goto (tgt := 52) (pc := 87) C dX10_keysOf_87 (by decide) ?_
                exact mG_sub (mxLe_s (mxLe_s (mxLe_s (mxLe_s (mxLe_s (mxLe_s (mxLe_s mxLe_z))))))) (hK84 _ (Option.some.inj e87).symm)
          · rw [if_pos q76] at e79
            refine mG_goto (tgt := 105) (pc := 46) C dX10_keysOf_46 (by decide) ?_
            exact mG_sub (mxLe_s (mxLe_s (mxLe_s (mxLe_s (mxLe_s (mxLe_s (mxLe_n mxLe_z))))))) (J77 _ (Option.some.inj e79))
      · rw [if_neg q62] at e13
        refine mG_goto (tgt := 111) (pc := 22) C dX10_keysOf_22 (by decide) ?_
        exact mG_sub (mxLe_s (mxLe_s (mxLe_s (mxLe_s (mxLe_s (mxLe_n (mxLe_n mxLe_z))))))) (J11 _ (Option.some.inj e13))
theorem dX10_compared_0 : decode cX10_compared 0 = .ok (.iconst 0, 1) := by decide +kernel
theorem dX10_compared_1 : decode cX10_compared 1 = .ok (.istore 4, 2) := by decide +kernel
theorem dX10_compared_3 : decode cX10_compared 3 = .ok (.iconst 0, 1) := by decide +kernel
theorem dX10_compared_4 : decode cX10_compared 4 = .ok (.istore 5, 2) := by decide +kernel
theorem dX10_compared_6 : decode cX10_compared 6 = .ok (.iload 4, 2) := by decide +kernel
theorem dX10_compared_8 : decode cX10_compared 8 = .ok (.iload_n 1, 1) := by decide +kernel
theorem dX10_compared_9 : decode cX10_compared 9 = .ok (.if_icmp .ge 32, 3) := by decide +kernel
theorem dX10_compared_12 : decode cX10_compared 12 = .ok (.iload 5, 2) := by decide +kernel
theorem dX10_compared_14 : decode cX10_compared 14 = .ok (.iload_n 3, 1) := by decide +kernel
theorem dX10_compared_15 : decode cX10_compared 15 = .ok (.if_icmp .ge 26, 3) := by decide +kernel
theorem dX10_compared_18 : decode cX10_compared 18 = .ok (.aload_n 0, 1) := by decide +kernel
theorem dX10_compared_19 : decode cX10_compared 19 = .ok (.iload 4, 2) := by decide +kernel
theorem dX10_compared_21 : decode cX10_compared 21 = .ok (.iaload, 1) := by decide +kernel
theorem dX10_compared_22 : decode cX10_compared 22 = .ok (.aload_n 2, 1) := by decide +kernel
theorem dX10_compared_23 : decode cX10_compared 23 = .ok (.iload 5, 2) := by decide +kernel
theorem dX10_compared_25 : decode cX10_compared 25 = .ok (.iaload, 1) := by decide +kernel
theorem dX10_compared_26 : decode cX10_compared 26 = .ok (.if_icmp .ge 9, 3) := by decide +kernel
theorem dX10_compared_29 : decode cX10_compared 29 = .ok (.iinc 4 1, 3) := by decide +kernel
theorem dX10_compared_32 : decode cX10_compared 32 = .ok (.goto (-26), 3) := by decide +kernel
theorem dX10_compared_35 : decode cX10_compared 35 = .ok (.iinc 5 1, 3) := by decide +kernel
theorem dX10_compared_38 : decode cX10_compared 38 = .ok (.goto (-32), 3) := by decide +kernel
theorem dX10_compared_41 : decode cX10_compared 41 = .ok (.iload 4, 2) := by decide +kernel
theorem dX10_compared_43 : decode cX10_compared 43 = .ok (.iload 5, 2) := by decide +kernel
theorem dX10_compared_45 : decode cX10_compared 45 = .ok (.iadd, 1) := by decide +kernel
theorem dX10_compared_46 : decode cX10_compared 46 = .ok (.ireturn, 1) := by decide +kernel
def fX10_compared (p0 : Nat) (p1 : Int32) (p2 : Nat) (p3 : Int32) (h : mxH) : Option Int32 := Option.bind (mxLoop (ρ := (Int32 × Int32)) (fun s1 : (Int32 × Int32) => (if p1 ≤ s1.1 then some (Sum.inr (s1.1, s1.2)) else (if p3 ≤ s1.2 then some (Sum.inr (s1.1, s1.2)) else Option.bind (ldI h p0 s1.1) (fun v11 => Option.bind (ldI h p2 s1.2) (fun v13 => (if v13 ≤ v11 then some (Sum.inl (s1.1, s1.2 + 1)) else some (Sum.inl (s1.1 + 1, s1.2)))))))) mxF (0, 0)) (fun r16 : (Int32 × Int32) => some (r16.1 + r16.2))
abbrev rmX10_compared : Room := { frames := 0, cells := 0, slots := 0, locals := 0 }
set_option maxRecDepth 20000 in
theorem tX10_compared {l : Launch} {Z : mxZ} (hl : l.stackTraces = false) {p0 : Nat} {p1 : Int32} {p2 : Nat} {p3 : Int32} {h : mxH} {out : Int32} (hf : fX10_compared p0 p1 p2 p3 h = some out) : mxMet l Z yX10_compared cX10_compared 6 (some .int) rmX10_compared [.ref p0, .int p1, .ref p2, .int p3] h (.inl (some (.int out))) h := by
  refine mxMet_of (by decide) hl (by simp [Value.category]) (Nat.le_of_ble_eq_true rfl) ?_
  intro X C E hX hin
  unfold fX10_compared at hf
  refine mG_ic (pc := 0) C dX10_compared_0 kI0 ?_
  refine mG_is (ls' := [some (.ref p0), some (.int p1), some (.ref p2), some (.int p3), some (.int 0), none]) (pc := 1) C dX10_compared_1 rfl rfl rfl ?_
  refine mG_ic (pc := 3) C dX10_compared_3 kI0 ?_
  refine mG_is (ls' := [some (.ref p0), some (.int p1), some (.ref p2), some (.int p3), some (.int 0), some (.int 0)]) (pc := 4) C dX10_compared_4 rfl rfl rfl ?_
  obtain ⟨r2, e3, hf⟩ := mx_bind hf
  have J4 : ∀ r16 : (Int32 × Int32), r16 = r2 → mG l Z X 6 0 0 41 [none, none, none, none, some (.int r16.1), some (.int r16.2)] [] h := by
    intro r16 q17
    subst q17
    refine mG_iload (pc := 41) C dX10_compared_41 rfl ?_
    refine mG_iload (pc := 43) C dX10_compared_43 rfl ?_
    refine mG_iadd (pc := 45) C dX10_compared_45 ?_
    cases hf
    exact mG_ir (pc := 46) C E hX dX10_compared_46 rfl
  refine mG_sub (ls' := [some (.ref p0), some (.int p1), some (.ref p2), some (.int p3), some (.int 0), some (.int 0)]) (mxLe_s (mxLe_s (mxLe_s (mxLe_s (mxLe_s (mxLe_s mxLe_z)))))) (mxLoop_ind (K := fun s1 : (Int32 × Int32) => mG l Z X 6 0 0 6 [some (.ref p0), some (.int p1), some (.ref p2), some (.int p3), some (.int s1.1), some (.int s1.2)] [] h) ?_ _ _ e3)
  intro s1 o7 e8 hK5 hx6
  refine mG_iload (pc := 6) C dX10_compared_6 rfl ?_
  refine mG_iload_n (pc := 8) C dX10_compared_8 rfl ?_
  refine mG_icmp_ge (pc := 9) (tgt := 41) C dX10_compared_9 (by decide) (fun q9 => ?_) (fun q9 => ?_)
  · rw [if_pos q9] at e8
    exact mG_sub (mxLe_n (mxLe_n (mxLe_n (mxLe_n (mxLe_s (mxLe_s mxLe_z)))))) (J4 _ (hx6 _ (Option.some.inj e8).symm))
  · rw [if_neg q9] at e8
    refine mG_iload (pc := 12) C dX10_compared_12 rfl ?_
    refine mG_iload_n (pc := 14) C dX10_compared_14 rfl ?_
    refine mG_icmp_ge (pc := 15) (tgt := 41) C dX10_compared_15 (by decide) (fun q10 => ?_) (fun q10 => ?_)
    · rw [if_pos q10] at e8
      exact mG_sub (mxLe_n (mxLe_n (mxLe_n (mxLe_n (mxLe_s (mxLe_s mxLe_z)))))) (J4 _ (hx6 _ (Option.some.inj e8).symm))
    · rw [if_neg q10] at e8
      refine mG_aload_n (pc := 18) C dX10_compared_18 rfl ?_
      refine mG_iload (pc := 19) C dX10_compared_19 rfl ?_
      obtain ⟨v11, e12, e8⟩ := mx_bind e8
      refine mG_iaload (pc := 21) C dX10_compared_21 e12 ?_
      refine mG_aload_n (pc := 22) C dX10_compared_22 rfl ?_
      refine mG_iload (pc := 23) C dX10_compared_23 rfl ?_
      obtain ⟨v13, e14, e8⟩ := mx_bind e8
      refine mG_iaload (pc := 25) C dX10_compared_25 e14 ?_
      refine mG_icmp_ge (pc := 26) (tgt := 35) C dX10_compared_26 (by decide) (fun q15 => ?_) (fun q15 => ?_)
      · rw [if_pos q15] at e8
        refine mG_ii (ls' := [some (.ref p0), some (.int p1), some (.ref p2), some (.int p3), some (.int s1.1), some (.int (s1.2 + 1))]) (pc := 35) C dX10_compared_35 rfl (kinc1 _) rfl rfl rfl ?_
        refine mG_goto (tgt := 6) (pc := 38) C dX10_compared_38 (by decide) ?_
        exact mG_sub (mxLe_s (mxLe_s (mxLe_s (mxLe_s (mxLe_s (mxLe_s mxLe_z)))))) (hK5 _ (Option.some.inj e8).symm)
      · rw [if_neg q15] at e8
        refine mG_ii (ls' := [some (.ref p0), some (.int p1), some (.ref p2), some (.int p3), some (.int (s1.1 + 1)), some (.int s1.2)]) (pc := 29) C dX10_compared_29 rfl (kinc1 _) rfl rfl rfl ?_
        refine mG_goto (tgt := 6) (pc := 32) C dX10_compared_32 (by decide) ?_
        exact mG_sub (mxLe_s (mxLe_s (mxLe_s (mxLe_s (mxLe_s (mxLe_s mxLe_z)))))) (hK5 _ (Option.some.inj e8).symm)
theorem dX10_both_0 : decode cX10_both 0 = .ok (.aload_n 0, 1) := by decide +kernel
theorem dX10_both_1 : decode cX10_both 1 = .ok (.aload_n 1, 1) := by decide +kernel
theorem dX10_both_2 : decode cX10_both 2 = .ok (.iload_n 2, 1) := by decide +kernel
theorem dX10_both_3 : decode cX10_both 3 = .ok (.invokevirtual 140, 3) := by decide +kernel
theorem dX10_both_6 : decode cX10_both 6 = .ok (.istore 4, 2) := by decide +kernel
theorem dX10_both_8 : decode cX10_both 8 = .ok (.aload_n 0, 1) := by decide +kernel
theorem dX10_both_9 : decode cX10_both 9 = .ok (.aload_n 0, 1) := by decide +kernel
theorem dX10_both_10 : decode cX10_both 10 = .ok (.getfield 31, 3) := by decide +kernel
theorem dX10_both_13 : decode cX10_both 13 = .ok (.iload_n 3, 1) := by decide +kernel
theorem dX10_both_14 : decode cX10_both 14 = .ok (.invokevirtual 140, 3) := by decide +kernel
theorem dX10_both_17 : decode cX10_both 17 = .ok (.istore 5, 2) := by decide +kernel
theorem dX10_both_19 : decode cX10_both 19 = .ok (.iconst 0, 1) := by decide +kernel
theorem dX10_both_20 : decode cX10_both 20 = .ok (.istore 6, 2) := by decide +kernel
theorem dX10_both_22 : decode cX10_both 22 = .ok (.iload 6, 2) := by decide +kernel
theorem dX10_both_24 : decode cX10_both 24 = .ok (.iload 5, 2) := by decide +kernel
theorem dX10_both_26 : decode cX10_both 26 = .ok (.if_icmp .ge 64, 3) := by decide +kernel
theorem dX10_both_29 : decode cX10_both 29 = .ok (.iload 4, 2) := by decide +kernel
theorem dX10_both_31 : decode cX10_both 31 = .ok (.istore 7, 2) := by decide +kernel
theorem dX10_both_33 : decode cX10_both 33 = .ok (.iload 7, 2) := by decide +kernel
theorem dX10_both_35 : decode cX10_both 35 = .ok (.ifCond .le 35, 3) := by decide +kernel
theorem dX10_both_38 : decode cX10_both 38 = .ok (.aload_n 1, 1) := by decide +kernel
theorem dX10_both_39 : decode cX10_both 39 = .ok (.iload 7, 2) := by decide +kernel
theorem dX10_both_41 : decode cX10_both 41 = .ok (.iconst 1, 1) := by decide +kernel
theorem dX10_both_42 : decode cX10_both 42 = .ok (.isub, 1) := by decide +kernel
theorem dX10_both_43 : decode cX10_both 43 = .ok (.iaload, 1) := by decide +kernel
theorem dX10_both_44 : decode cX10_both 44 = .ok (.aload_n 0, 1) := by decide +kernel
theorem dX10_both_45 : decode cX10_both 45 = .ok (.getfield 31, 3) := by decide +kernel
theorem dX10_both_48 : decode cX10_both 48 = .ok (.iload 6, 2) := by decide +kernel
theorem dX10_both_50 : decode cX10_both 50 = .ok (.iaload, 1) := by decide +kernel
theorem dX10_both_51 : decode cX10_both 51 = .ok (.if_icmp .le 19, 3) := by decide +kernel
theorem dX10_both_54 : decode cX10_both 54 = .ok (.aload_n 1, 1) := by decide +kernel
theorem dX10_both_55 : decode cX10_both 55 = .ok (.iload 7, 2) := by decide +kernel
theorem dX10_both_57 : decode cX10_both 57 = .ok (.aload_n 1, 1) := by decide +kernel
theorem dX10_both_58 : decode cX10_both 58 = .ok (.iload 7, 2) := by decide +kernel
theorem dX10_both_60 : decode cX10_both 60 = .ok (.iconst 1, 1) := by decide +kernel
theorem dX10_both_61 : decode cX10_both 61 = .ok (.isub, 1) := by decide +kernel
theorem dX10_both_62 : decode cX10_both 62 = .ok (.iaload, 1) := by decide +kernel
theorem dX10_both_63 : decode cX10_both 63 = .ok (.iastore, 1) := by decide +kernel
theorem dX10_both_64 : decode cX10_both 64 = .ok (.iinc 7 (-1), 3) := by decide +kernel
theorem dX10_both_67 : decode cX10_both 67 = .ok (.goto (-34), 3) := by decide +kernel
theorem dX10_both_70 : decode cX10_both 70 = .ok (.aload_n 1, 1) := by decide +kernel
theorem dX10_both_71 : decode cX10_both 71 = .ok (.iload 7, 2) := by decide +kernel
theorem dX10_both_73 : decode cX10_both 73 = .ok (.aload_n 0, 1) := by decide +kernel
theorem dX10_both_74 : decode cX10_both 74 = .ok (.getfield 31, 3) := by decide +kernel
theorem dX10_both_77 : decode cX10_both 77 = .ok (.iload 6, 2) := by decide +kernel
theorem dX10_both_79 : decode cX10_both 79 = .ok (.iaload, 1) := by decide +kernel
theorem dX10_both_80 : decode cX10_both 80 = .ok (.iastore, 1) := by decide +kernel
theorem dX10_both_81 : decode cX10_both 81 = .ok (.iinc 4 1, 3) := by decide +kernel
theorem dX10_both_84 : decode cX10_both 84 = .ok (.iinc 6 1, 3) := by decide +kernel
theorem dX10_both_87 : decode cX10_both 87 = .ok (.goto (-65), 3) := by decide +kernel
theorem dX10_both_90 : decode cX10_both 90 = .ok (.iload 4, 2) := by decide +kernel
theorem dX10_both_92 : decode cX10_both 92 = .ok (.ireturn, 1) := by decide +kernel
def fX10_both (p0 : Nat) (p1 : Nat) (p2 : Int32) (p3 : Int32) (h : mxH) : Option (Int32 × mxH) := Option.bind (isO h p0 10) (fun u1 => Option.bind (fX10_keysOf p0 p1 p2 h) (fun o4 => Option.bind (gR o4.2 p0 10 9) (fun r5 => Option.bind (isO o4.2 p0 10) (fun u7 => Option.bind (fX10_keysOf p0 r5 p3 o4.2) (fun o10 => Option.bind (mxLoop (ρ := (Int32 × mxH)) (fun s11 : (Int32 × Int32 × mxH) => (if o10.1 ≤ s11.2.1 then some (Sum.inr (s11.1, s11.2.2)) else Option.bind (mxLoop (ρ := (Int32 × mxH)) (fun s20 : (Int32 × mxH) => (if s20.1 ≤ 0 then some (Sum.inr (s20.1, s20.2)) else Option.bind (ldI s20.2 p1 (s20.1 - 1)) (fun v29 => Option.bind (gR s20.2 p0 10 9) (fun r31 => Option.bind (ldI s20.2 r31 s11.2.1) (fun v33 => (if v29 ≤ v33 then some (Sum.inr (s20.1, s20.2)) else Option.bind (ldI s20.2 p1 (s20.1 - 1)) (fun v36 => Option.bind (stI s20.2 p1 s20.1 v36) (fun h38 => some (Sum.inl (s20.1 - 1, h38)))))))))) mxF (s11.1, s11.2.2)) (fun r40 : (Int32 × mxH) => Option.bind (gR r40.2 p0 10 9) (fun r41 => Option.bind (ldI r40.2 r41 s11.2.1) (fun v43 => Option.bind (stI r40.2 p1 r40.1 v43) (fun h45 => some (Sum.inl (s11.1 + 1, s11.2.1 + 1, h45)))))))) mxF (o4.1, 0, o10.2)) (fun r48 : (Int32 × mxH) => some (r48.1, r48.2)))))))
abbrev rmX10_both : Room := { frames := 3, cells := 0, slots := 0, locals := 70 }
set_option maxRecDepth 20000 in
theorem tX10_both {l : Launch} {Z : mxZ} (hl : l.stackTraces = false) {p0 : Nat} {p1 : Nat} {p2 : Int32} {p3 : Int32} {h : mxH} {out : (Int32 × mxH)} (hf : fX10_both p0 p1 p2 p3 h = some out) : mxMet l Z yX10_both cX10_both 8 (some .int) rmX10_both [.ref p0, .ref p1, .int p2, .int p3] h (.inl (some (.int out.1))) out.2 := by
  refine mxMet_of (by decide) hl (by simp [Value.category]) (Nat.le_of_ble_eq_true rfl) ?_
  intro X C E hX hin
  unfold fX10_both at hf
  refine mG_aload_n (pc := 0) C dX10_both_0 rfl ?_
  refine mG_aload_n (pc := 1) C dX10_both_1 rfl ?_
  refine mG_iload_n (pc := 2) C dX10_both_2 rfl ?_
  obtain ⟨u1, e2, hf⟩ := mx_bind hf
  obtain ⟨o4, e3, hf⟩ := mx_bind hf
  refine mG_cV (pc := 3) (k' := 0) (n' := 0) 10 [.ref p1, .int p2] [] C hX dX10_both_3 lkV_X10_140 rfl rfl e2 (tX10_keysOf hl e3) rfl rfl rfl rfl ?_
  refine mG_is (ls' := [some (.ref p0), some (.ref p1), some (.int p2), some (.int p3), some (.int o4.1), none, none, none]) (pc := 6) C dX10_both_6 rfl rfl rfl ?_
  refine mG_aload_n (pc := 8) C dX10_both_8 rfl ?_
  refine mG_aload_n (pc := 9) C dX10_both_9 rfl ?_
  obtain ⟨r5, e6, hf⟩ := mx_bind hf
  refine mG_getR (pc := 10) C dX10_both_10 fl_X10_31 e6 ?_
  refine mG_iload_n (pc := 13) C dX10_both_13 rfl ?_
  obtain ⟨u7, e8, hf⟩ := mx_bind hf
  obtain ⟨o10, e9, hf⟩ := mx_bind hf
  refine mG_cV (pc := 14) (k' := 0) (n' := 0) 10 [.ref r5, .int p3] [] C hX dX10_both_14 lkV_X10_140 rfl rfl e8 (tX10_keysOf hl e9) rfl rfl rfl rfl ?_
  refine mG_is (ls' := [some (.ref p0), some (.ref p1), some (.int p2), some (.int p3), some (.int o4.1), some (.int o10.1), none, none]) (pc := 17) C dX10_both_17 rfl rfl rfl ?_
  refine mG_ic (pc := 19) C dX10_both_19 kI0 ?_
  refine mG_is (ls' := [some (.ref p0), some (.ref p1), some (.int p2), some (.int p3), some (.int o4.1), some (.int o10.1), some (.int 0), none]) (pc := 20) C dX10_both_20 rfl rfl rfl ?_
  obtain ⟨r12, e13, hf⟩ := mx_bind hf
  have J14 : ∀ r48 : (Int32 × mxH), r48 = r12 → mG l Z X 8 0 0 90 [none, none, none, none, some (.int r48.1), none, none, none] [] r48.2 := by
    intro r48 q49
    subst q49
    refine mG_iload (pc := 90) C dX10_both_90 rfl ?_
    cases hf
    exact mG_ir (pc := 92) C E hX dX10_both_92 rfl
  refine mG_sub (ls' := [some (.ref p0), some (.ref p1), none, none, some (.int o4.1), some (.int o10.1), some (.int 0), none]) (mxLe_s (mxLe_s (mxLe_n (mxLe_n (mxLe_s (mxLe_s (mxLe_s (mxLe_n mxLe_z)))))))) (mxLoop_ind (K := fun s11 : (Int32 × Int32 × mxH) => mG l Z X 8 0 0 22 [some (.ref p0), some (.ref p1), none, none, some (.int s11.1), some (.int o10.1), some (.int s11.2.1), none] [] s11.2.2) ?_ _ _ e13)
  intro s11 o17 e18 hK15 hx16
  refine mG_iload (pc := 22) C dX10_both_22 rfl ?_
  refine mG_iload (pc := 24) C dX10_both_24 rfl ?_
  refine mG_icmp_ge (pc := 26) (tgt := 90) C dX10_both_26 (by decide) (fun q19 => ?_) (fun q19 => ?_)
  · rw [if_pos q19] at e18
    exact mG_sub (mxLe_n (mxLe_n (mxLe_n (mxLe_n (mxLe_s (mxLe_n (mxLe_n (mxLe_n mxLe_z)))))))) (J14 _ (hx16 _ (Option.some.inj e18).symm))
  · rw [if_neg q19] at e18
    refine mG_iload (pc := 29) C dX10_both_29 rfl ?_
    refine mG_is (ls' := [some (.ref p0), some (.ref p1), none, none, some (.int s11.1), some (.int o10.1), some (.int s11.2.1), some (.int s11.1)]) (pc := 31) C dX10_both_31 rfl rfl rfl ?_
    obtain ⟨r21, e22, e18⟩ := mx_bind e18
    have J23 : ∀ r40 : (Int32 × mxH), r40 = r21 → mG l Z X 8 0 0 70 [some (.ref p0), some (.ref p1), none, none, some (.int s11.1), some (.int o10.1), some (.int s11.2.1), some (.int r40.1)] [] r40.2 := by
      intro r40 q47
      subst q47
      refine mG_aload_n (pc := 70) C dX10_both_70 rfl ?_
      refine mG_iload (pc := 71) C dX10_both_71 rfl ?_
      refine mG_aload_n (pc := 73) C dX10_both_73 rfl ?_
      obtain ⟨r41, e42, e18⟩ := mx_bind e18
      refine mG_getR (pc := 74) C dX10_both_74 fl_X10_31 e42 ?_
      refine mG_iload (pc := 77) C dX10_both_77 rfl ?_
      obtain ⟨v43, e44, e18⟩ := mx_bind e18
      refine mG_iaload (pc := 79) C dX10_both_79 e44 ?_
      obtain ⟨h45, e46, e18⟩ := mx_bind e18
      refine mG_iastore (pc := 80) C dX10_both_80 e46 ?_
      refine mG_ii (ls' := [some (.ref p0), some (.ref p1), none, none, some (.int (s11.1 + 1)), some (.int o10.1), some (.int s11.2.1), some (.int r40.1)]) (pc := 81) C dX10_both_81 rfl (kinc1 _) rfl rfl rfl ?_
      refine mG_ii (ls' := [some (.ref p0), some (.ref p1), none, none, some (.int (s11.1 + 1)), some (.int o10.1), some (.int (s11.2.1 + 1)), some (.int r40.1)]) (pc := 84) C dX10_both_84 rfl (kinc1 _) rfl rfl rfl ?_
      refine mG_goto (tgt := 22) (pc := 87) C dX10_both_87 (by decide) ?_
      exact mG_sub (mxLe_s (mxLe_s (mxLe_n (mxLe_n (mxLe_s (mxLe_s (mxLe_s (mxLe_n mxLe_z)))))))) (hK15 _ (Option.some.inj e18).symm)
    refine mG_sub (ls' := [some (.ref p0), some (.ref p1), none, none, some (.int s11.1), some (.int o10.1), some (.int s11.2.1), some (.int s11.1)]) (mxLe_s (mxLe_s (mxLe_n (mxLe_n (mxLe_s (mxLe_s (mxLe_s (mxLe_s mxLe_z)))))))) (mxLoop_ind (K := fun s20 : (Int32 × mxH) => mG l Z X 8 0 0 33 [some (.ref p0), some (.ref p1), none, none, some (.int s11.1), some (.int o10.1), some (.int s11.2.1), some (.int s20.1)] [] s20.2) ?_ _ _ e22)
    intro s20 o26 e27 hK24 hx25
    refine mG_iload (pc := 33) C dX10_both_33 rfl ?_
    refine mG_if_le (pc := 35) (tgt := 70) C dX10_both_35 (by decide) (fun q28 => ?_) (fun q28 => ?_)
    · rw [if_pos q28] at e27
      exact mG_sub (mxLe_s (mxLe_s (mxLe_n (mxLe_n (mxLe_s (mxLe_s (mxLe_s (mxLe_s mxLe_z)))))))) (J23 _ (hx25 _ (Option.some.inj e27).symm))
    · rw [if_neg q28] at e27
      refine mG_aload_n (pc := 38) C dX10_both_38 rfl ?_
      refine mG_iload (pc := 39) C dX10_both_39 rfl ?_
      refine mG_ic (pc := 41) C dX10_both_41 kI1 ?_
      refine mG_isub (pc := 42) C dX10_both_42 ?_
      obtain ⟨v29, e30, e27⟩ := mx_bind e27
      refine mG_iaload (pc := 43) C dX10_both_43 e30 ?_
      refine mG_aload_n (pc := 44) C dX10_both_44 rfl ?_
      obtain ⟨r31, e32, e27⟩ := mx_bind e27
      refine mG_getR (pc := 45) C dX10_both_45 fl_X10_31 e32 ?_
      refine mG_iload (pc := 48) C dX10_both_48 rfl ?_
      obtain ⟨v33, e34, e27⟩ := mx_bind e27
      refine mG_iaload (pc := 50) C dX10_both_50 e34 ?_
      refine mG_icmp_le (pc := 51) (tgt := 70) C dX10_both_51 (by decide) (fun q35 => ?_) (fun q35 => ?_)
      · rw [if_pos q35] at e27
        exact mG_sub (mxLe_s (mxLe_s (mxLe_n (mxLe_n (mxLe_s (mxLe_s (mxLe_s (mxLe_s mxLe_z)))))))) (J23 _ (hx25 _ (Option.some.inj e27).symm))
      · rw [if_neg q35] at e27
        refine mG_aload_n (pc := 54) C dX10_both_54 rfl ?_
        refine mG_iload (pc := 55) C dX10_both_55 rfl ?_
        refine mG_aload_n (pc := 57) C dX10_both_57 rfl ?_
        refine mG_iload (pc := 58) C dX10_both_58 rfl ?_
        refine mG_ic (pc := 60) C dX10_both_60 kI1 ?_
        refine mG_isub (pc := 61) C dX10_both_61 ?_
        obtain ⟨v36, e37, e27⟩ := mx_bind e27
        refine mG_iaload (pc := 62) C dX10_both_62 e37 ?_
        obtain ⟨h38, e39, e27⟩ := mx_bind e27
        refine mG_iastore (pc := 63) C dX10_both_63 e39 ?_
        refine mG_ii (ls' := [some (.ref p0), some (.ref p1), none, none, some (.int s11.1), some (.int o10.1), some (.int s11.2.1), some (.int (s20.1 - 1))]) (pc := 64) C dX10_both_64 rfl (kincm1 _) rfl rfl rfl ?_
        refine mG_goto (tgt := 33) (pc := 67) C dX10_both_67 (by decide) ?_
        exact mG_sub (mxLe_s (mxLe_s (mxLe_n (mxLe_n (mxLe_s (mxLe_s (mxLe_s (mxLe_s mxLe_z)))))))) (hK24 _ (Option.some.inj e27).symm)
theorem dX10_comparedRows_0 : decode cX10_comparedRows 0 = .ok (.aload_n 0, 1) := by decide +kernel
theorem dX10_comparedRows_1 : decode cX10_comparedRows 1 = .ok (.aload_n 0, 1) := by decide +kernel
theorem dX10_comparedRows_2 : decode cX10_comparedRows 2 = .ok (.getfield 25, 3) := by decide +kernel
theorem dX10_comparedRows_5 : decode cX10_comparedRows 5 = .ok (.iload_n 1, 1) := by decide +kernel
theorem dX10_comparedRows_6 : decode cX10_comparedRows 6 = .ok (.invokevirtual 140, 3) := by decide +kernel
theorem dX10_comparedRows_9 : decode cX10_comparedRows 9 = .ok (.istore_n 3, 1) := by decide +kernel
theorem dX10_comparedRows_10 : decode cX10_comparedRows 10 = .ok (.aload_n 0, 1) := by decide +kernel
theorem dX10_comparedRows_11 : decode cX10_comparedRows 11 = .ok (.aload_n 0, 1) := by decide +kernel
theorem dX10_comparedRows_12 : decode cX10_comparedRows 12 = .ok (.getfield 28, 3) := by decide +kernel
theorem dX10_comparedRows_15 : decode cX10_comparedRows 15 = .ok (.iload_n 2, 1) := by decide +kernel
theorem dX10_comparedRows_16 : decode cX10_comparedRows 16 = .ok (.invokevirtual 140, 3) := by decide +kernel
theorem dX10_comparedRows_19 : decode cX10_comparedRows 19 = .ok (.istore 4, 2) := by decide +kernel
theorem dX10_comparedRows_21 : decode cX10_comparedRows 21 = .ok (.aload_n 0, 1) := by decide +kernel
theorem dX10_comparedRows_22 : decode cX10_comparedRows 22 = .ok (.getfield 25, 3) := by decide +kernel
theorem dX10_comparedRows_25 : decode cX10_comparedRows 25 = .ok (.iload_n 3, 1) := by decide +kernel
theorem dX10_comparedRows_26 : decode cX10_comparedRows 26 = .ok (.aload_n 0, 1) := by decide +kernel
theorem dX10_comparedRows_27 : decode cX10_comparedRows 27 = .ok (.getfield 28, 3) := by decide +kernel
theorem dX10_comparedRows_30 : decode cX10_comparedRows 30 = .ok (.iload 4, 2) := by decide +kernel
theorem dX10_comparedRows_32 : decode cX10_comparedRows 32 = .ok (.invokestatic 143, 3) := by decide +kernel
theorem dX10_comparedRows_35 : decode cX10_comparedRows 35 = .ok (.ireturn, 1) := by decide +kernel
def fX10_comparedRows (p0 : Nat) (p1 : Int32) (p2 : Int32) (h : mxH) : Option (Int32 × mxH) := Option.bind (gR h p0 10 7) (fun r1 => Option.bind (isO h p0 10) (fun u3 => Option.bind (fX10_keysOf p0 r1 p1 h) (fun o6 => Option.bind (gR o6.2 p0 10 8) (fun r7 => Option.bind (isO o6.2 p0 10) (fun u9 => Option.bind (fX10_keysOf p0 r7 p2 o6.2) (fun o12 => Option.bind (gR o12.2 p0 10 7) (fun r13 => Option.bind (gR o12.2 p0 10 8) (fun r15 => Option.bind (fX10_compared r13 o6.1 r15 o12.1 o12.2) (fun v18 => some (v18, o12.2))))))))))
abbrev rmX10_comparedRows : Room := { frames := 3, cells := 0, slots := 0, locals := 70 }
set_option maxRecDepth 20000 in
theorem tX10_comparedRows {l : Launch} {Z : mxZ} (hl : l.stackTraces = false) {p0 : Nat} {p1 : Int32} {p2 : Int32} {h : mxH} {out : (Int32 × mxH)} (hf : fX10_comparedRows p0 p1 p2 h = some out) : mxMet l Z yX10_comparedRows cX10_comparedRows 5 (some .int) rmX10_comparedRows [.ref p0, .int p1, .int p2] h (.inl (some (.int out.1))) out.2 := by
  refine mxMet_of (by decide) hl (by simp [Value.category]) (Nat.le_of_ble_eq_true rfl) ?_
  intro X C E hX hin
  unfold fX10_comparedRows at hf
  refine mG_aload_n (pc := 0) C dX10_comparedRows_0 rfl ?_
  refine mG_aload_n (pc := 1) C dX10_comparedRows_1 rfl ?_
  obtain ⟨r1, e2, hf⟩ := mx_bind hf
  refine mG_getR (pc := 2) C dX10_comparedRows_2 fl_X10_25 e2 ?_
  refine mG_iload_n (pc := 5) C dX10_comparedRows_5 rfl ?_
  obtain ⟨u3, e4, hf⟩ := mx_bind hf
  obtain ⟨o6, e5, hf⟩ := mx_bind hf
  refine mG_cV (pc := 6) (k' := 0) (n' := 0) 10 [.ref r1, .int p1] [] C hX dX10_comparedRows_6 lkV_X10_140 rfl rfl e4 (tX10_keysOf hl e5) rfl rfl rfl rfl ?_
  refine mG_isn (ls' := [some (.ref p0), some (.int p1), some (.int p2), some (.int o6.1), none]) (pc := 9) C dX10_comparedRows_9 rfl rfl rfl ?_
  refine mG_aload_n (pc := 10) C dX10_comparedRows_10 rfl ?_
  refine mG_aload_n (pc := 11) C dX10_comparedRows_11 rfl ?_
  obtain ⟨r7, e8, hf⟩ := mx_bind hf
  refine mG_getR (pc := 12) C dX10_comparedRows_12 fl_X10_28 e8 ?_
  refine mG_iload_n (pc := 15) C dX10_comparedRows_15 rfl ?_
  obtain ⟨u9, e10, hf⟩ := mx_bind hf
  obtain ⟨o12, e11, hf⟩ := mx_bind hf
  refine mG_cV (pc := 16) (k' := 0) (n' := 0) 10 [.ref r7, .int p2] [] C hX dX10_comparedRows_16 lkV_X10_140 rfl rfl e10 (tX10_keysOf hl e11) rfl rfl rfl rfl ?_
  refine mG_is (ls' := [some (.ref p0), some (.int p1), some (.int p2), some (.int o6.1), some (.int o12.1)]) (pc := 19) C dX10_comparedRows_19 rfl rfl rfl ?_
  refine mG_aload_n (pc := 21) C dX10_comparedRows_21 rfl ?_
  obtain ⟨r13, e14, hf⟩ := mx_bind hf
  refine mG_getR (pc := 22) C dX10_comparedRows_22 fl_X10_25 e14 ?_
  refine mG_iload_n (pc := 25) C dX10_comparedRows_25 rfl ?_
  refine mG_aload_n (pc := 26) C dX10_comparedRows_26 rfl ?_
  obtain ⟨r15, e16, hf⟩ := mx_bind hf
  refine mG_getR (pc := 27) C dX10_comparedRows_27 fl_X10_28 e16 ?_
  refine mG_iload (pc := 30) C dX10_comparedRows_30 rfl ?_
  obtain ⟨v18, e17, hf⟩ := mx_bind hf
  refine mG_cS (pc := 32) (k' := 0) (n' := 0) [.ref r13, .int o6.1, .ref r15, .int o12.1] [] C hX dX10_comparedRows_32 lkS_X10_143 rfl (tX10_compared hl e17) rfl rfl rfl rfl ?_
  cases hf
  exact mG_ir (pc := 35) C E hX dX10_comparedRows_35 rfl
theorem dX10_findsCandidates_0 : decode cX10_findsCandidates 0 = .ok (.iconst 0, 1) := by decide +kernel
theorem dX10_findsCandidates_1 : decode cX10_findsCandidates 1 = .ok (.istore_n 1, 1) := by decide +kernel
theorem dX10_findsCandidates_2 : decode cX10_findsCandidates 2 = .ok (.iconst 0, 1) := by decide +kernel
theorem dX10_findsCandidates_3 : decode cX10_findsCandidates 3 = .ok (.istore_n 2, 1) := by decide +kernel
theorem dX10_findsCandidates_4 : decode cX10_findsCandidates 4 = .ok (.iload_n 2, 1) := by decide +kernel
theorem dX10_findsCandidates_5 : decode cX10_findsCandidates 5 = .ok (.bipush 20, 2) := by decide +kernel
theorem dX10_findsCandidates_7 : decode cX10_findsCandidates 7 = .ok (.if_icmp .ge 36, 3) := by decide +kernel
theorem dX10_findsCandidates_10 : decode cX10_findsCandidates 10 = .ok (.iload_n 1, 1) := by decide +kernel
theorem dX10_findsCandidates_11 : decode cX10_findsCandidates 11 = .ok (.bipush 6, 2) := by decide +kernel
theorem dX10_findsCandidates_13 : decode cX10_findsCandidates 13 = .ok (.if_icmp .ge 30, 3) := by decide +kernel
theorem dX10_findsCandidates_16 : decode cX10_findsCandidates 16 = .ok (.aload_n 0, 1) := by decide +kernel
theorem dX10_findsCandidates_17 : decode cX10_findsCandidates 17 = .ok (.iload_n 2, 1) := by decide +kernel
theorem dX10_findsCandidates_18 : decode cX10_findsCandidates 18 = .ok (.invokevirtual 147, 3) := by decide +kernel
theorem dX10_findsCandidates_21 : decode cX10_findsCandidates 21 = .ok (.ifCond .ne 6, 3) := by decide +kernel
theorem dX10_findsCandidates_24 : decode cX10_findsCandidates 24 = .ok (.goto 13, 3) := by decide +kernel
theorem dX10_findsCandidates_27 : decode cX10_findsCandidates 27 = .ok (.aload_n 0, 1) := by decide +kernel
theorem dX10_findsCandidates_28 : decode cX10_findsCandidates 28 = .ok (.getfield 34, 3) := by decide +kernel
theorem dX10_findsCandidates_31 : decode cX10_findsCandidates 31 = .ok (.iload_n 1, 1) := by decide +kernel
theorem dX10_findsCandidates_32 : decode cX10_findsCandidates 32 = .ok (.iload_n 2, 1) := by decide +kernel
theorem dX10_findsCandidates_33 : decode cX10_findsCandidates 33 = .ok (.iastore, 1) := by decide +kernel
theorem dX10_findsCandidates_34 : decode cX10_findsCandidates 34 = .ok (.iinc 1 1, 3) := by decide +kernel
theorem dX10_findsCandidates_37 : decode cX10_findsCandidates 37 = .ok (.iinc 2 1, 3) := by decide +kernel
theorem dX10_findsCandidates_40 : decode cX10_findsCandidates 40 = .ok (.goto (-36), 3) := by decide +kernel
theorem dX10_findsCandidates_43 : decode cX10_findsCandidates 43 = .ok (.iload_n 1, 1) := by decide +kernel
theorem dX10_findsCandidates_44 : decode cX10_findsCandidates 44 = .ok (.ireturn, 1) := by decide +kernel
def fX10_findsCandidates (p0 : Nat) (h : mxH) : Option (Int32 × mxH) := Option.bind (mxLoop (ρ := (Int32 × mxH)) (fun s1 : (Int32 × Int32 × mxH) => (if 20 ≤ s1.2.1 then some (Sum.inr (s1.1, s1.2.2)) else (if 6 ≤ s1.1 then some (Sum.inr (s1.1, s1.2.2)) else Option.bind (isO s1.2.2 p0 10) (fun u11 => Option.bind (fX10_isKnown p0 s1.2.1 s1.2.2) (fun v14 => Option.bind (α := (Int32 × mxH)) (if v14 = 0 then some (s1.1, s1.2.2) else Option.bind (gR s1.2.2 p0 10 10) (fun r19 => Option.bind (stI s1.2.2 r19 s1.1 s1.2.1) (fun h21 => some (s1.1 + 1, h21)))) (fun p17' : (Int32 × mxH) => some (Sum.inl (p17'.1, s1.2.1 + 1, p17'.2)))))))) mxF (0, 0, h)) (fun r24 : (Int32 × mxH) => some (r24.1, r24.2))
abbrev rmX10_findsCandidates : Room := { frames := 3, cells := 0, slots := 0, locals := 67 }
set_option maxRecDepth 20000 in
theorem tX10_findsCandidates {l : Launch} {Z : mxZ} (hl : l.stackTraces = false) {p0 : Nat} {h : mxH} {out : (Int32 × mxH)} (hf : fX10_findsCandidates p0 h = some out) : mxMet l Z yX10_findsCandidates cX10_findsCandidates 3 (some .int) rmX10_findsCandidates [.ref p0] h (.inl (some (.int out.1))) out.2 := by
  refine mxMet_of (by decide) hl (by simp [Value.category]) (Nat.le_of_ble_eq_true rfl) ?_
  intro X C E hX hin
  unfold fX10_findsCandidates at hf
  refine mG_ic (pc := 0) C dX10_findsCandidates_0 kI0 ?_
  refine mG_isn (ls' := [some (.ref p0), some (.int 0), none]) (pc := 1) C dX10_findsCandidates_1 rfl rfl rfl ?_
  refine mG_ic (pc := 2) C dX10_findsCandidates_2 kI0 ?_
  refine mG_isn (ls' := [some (.ref p0), some (.int 0), some (.int 0)]) (pc := 3) C dX10_findsCandidates_3 rfl rfl rfl ?_
  obtain ⟨r2, e3, hf⟩ := mx_bind hf
  have J4 : ∀ r24 : (Int32 × mxH), r24 = r2 → mG l Z X 3 0 0 43 [none, some (.int r24.1), none] [] r24.2 := by
    intro r24 q25
    subst q25
    refine mG_iload_n (pc := 43) C dX10_findsCandidates_43 rfl ?_
    cases hf
    exact mG_ir (pc := 44) C E hX dX10_findsCandidates_44 rfl
  refine mG_sub (ls' := [some (.ref p0), some (.int 0), some (.int 0)]) (mxLe_s (mxLe_s (mxLe_s mxLe_z))) (mxLoop_ind (K := fun s1 : (Int32 × Int32 × mxH) => mG l Z X 3 0 0 4 [some (.ref p0), some (.int s1.1), some (.int s1.2.1)] [] s1.2.2) ?_ _ _ e3)
  intro s1 o7 e8 hK5 hx6
  refine mG_iload_n (pc := 4) C dX10_findsCandidates_4 rfl ?_
  refine mG_bp (pc := 5) C dX10_findsCandidates_5 kB20 ?_
  refine mG_icmp_ge (pc := 7) (tgt := 43) C dX10_findsCandidates_7 (by decide) (fun q9 => ?_) (fun q9 => ?_)
  · rw [if_pos q9] at e8
    exact mG_sub (mxLe_n (mxLe_s (mxLe_n mxLe_z))) (J4 _ (hx6 _ (Option.some.inj e8).symm))
  · rw [if_neg q9] at e8
    refine mG_iload_n (pc := 10) C dX10_findsCandidates_10 rfl ?_
    refine mG_bp (pc := 11) C dX10_findsCandidates_11 kB6 ?_
    refine mG_icmp_ge (pc := 13) (tgt := 43) C dX10_findsCandidates_13 (by decide) (fun q10 => ?_) (fun q10 => ?_)
    · rw [if_pos q10] at e8
      exact mG_sub (mxLe_n (mxLe_s (mxLe_n mxLe_z))) (J4 _ (hx6 _ (Option.some.inj e8).symm))
    · rw [if_neg q10] at e8
      refine mG_aload_n (pc := 16) C dX10_findsCandidates_16 rfl ?_
      refine mG_iload_n (pc := 17) C dX10_findsCandidates_17 rfl ?_
      obtain ⟨u11, e12, e8⟩ := mx_bind e8
      obtain ⟨v14, e13, e8⟩ := mx_bind e8
      refine mG_cV (pc := 18) (k' := 0) (n' := 0) 10 [.int s1.2.1] [] C hX dX10_findsCandidates_18 lkV_X10_147 rfl rfl e12 (tX10_isKnown hl e13) rfl rfl rfl rfl ?_
      obtain ⟨p17, e18, e8⟩ := mx_bind e8
      have J16 : ∀ p17' : (Int32 × mxH), p17' = p17 → mG l Z X 3 0 0 37 [some (.ref p0), some (.int p17'.1), some (.int s1.2.1)] [] p17'.2 := by
        intro p17' q23
        subst q23
        refine mG_ii (ls' := [some (.ref p0), some (.int p17'.1), some (.int (s1.2.1 + 1))]) (pc := 37) C dX10_findsCandidates_37 rfl (kinc1 _) rfl rfl rfl ?_
        refine mG_goto (tgt := 4) (pc := 40) C dX10_findsCandidates_40 (by decide) ?_
        exact mG_sub (mxLe_s (mxLe_s (mxLe_s mxLe_z))) (hK5 _ (Option.some.inj e8).symm)
      refine mG_if_ne (pc := 21) (tgt := 27) C dX10_findsCandidates_21 (by decide) (fun q15 => ?_) (fun q15 => ?_)
      · rw [if_neg q15] at e18
        refine mG_aload_n (pc := 27) C dX10_findsCandidates_27 rfl ?_
        obtain ⟨r19, e20, e18⟩ := mx_bind e18
        refine mG_getR (pc := 28) C dX10_findsCandidates_28 fl_X10_34 e20 ?_
        refine mG_iload_n (pc := 31) C dX10_findsCandidates_31 rfl ?_
        refine mG_iload_n (pc := 32) C dX10_findsCandidates_32 rfl ?_
        obtain ⟨h21, e22, e18⟩ := mx_bind e18
        refine mG_iastore (pc := 33) C dX10_findsCandidates_33 e22 ?_
        refine mG_ii (ls' := [some (.ref p0), some (.int (s1.1 + 1)), some (.int s1.2.1)]) (pc := 34) C dX10_findsCandidates_34 rfl (kinc1 _) rfl rfl rfl ?_
        exact mG_sub (mxLe_s (mxLe_s (mxLe_s mxLe_z))) (J16 _ (Option.some.inj e18))
      · rw [if_pos q15] at e18
        refine mG_goto (tgt := 37) (pc := 24) C dX10_findsCandidates_24 (by decide) ?_
        exact mG_sub (mxLe_s (mxLe_s (mxLe_s mxLe_z))) (J16 _ (Option.some.inj e18))
theorem dX10_preferring_0 : decode cX10_preferring 0 = .ok (.iconst 0, 1) := by decide +kernel
theorem dX10_preferring_1 : decode cX10_preferring 1 = .ok (.istore_n 3, 1) := by decide +kernel
theorem dX10_preferring_2 : decode cX10_preferring 2 = .ok (.iconst 0, 1) := by decide +kernel
theorem dX10_preferring_3 : decode cX10_preferring 3 = .ok (.istore 4, 2) := by decide +kernel
theorem dX10_preferring_5 : decode cX10_preferring 5 = .ok (.iload 4, 2) := by decide +kernel
theorem dX10_preferring_7 : decode cX10_preferring 7 = .ok (.iconst 5, 1) := by decide +kernel
theorem dX10_preferring_8 : decode cX10_preferring 8 = .ok (.if_icmp .ge 54, 3) := by decide +kernel
theorem dX10_preferring_11 : decode cX10_preferring 11 = .ok (.aload_n 0, 1) := by decide +kernel
theorem dX10_preferring_12 : decode cX10_preferring 12 = .ok (.iload 4, 2) := by decide +kernel
theorem dX10_preferring_14 : decode cX10_preferring 14 = .ok (.iload_n 1, 1) := by decide +kernel
theorem dX10_preferring_15 : decode cX10_preferring 15 = .ok (.invokevirtual 73, 3) := by decide +kernel
theorem dX10_preferring_18 : decode cX10_preferring 18 = .ok (.ifCond .eq 38, 3) := by decide +kernel
theorem dX10_preferring_21 : decode cX10_preferring 21 = .ok (.iload_n 1, 1) := by decide +kernel
theorem dX10_preferring_22 : decode cX10_preferring 22 = .ok (.iload_n 2, 1) := by decide +kernel
theorem dX10_preferring_23 : decode cX10_preferring 23 = .ok (.if_icmp .eq 33, 3) := by decide +kernel
theorem dX10_preferring_26 : decode cX10_preferring 26 = .ok (.aload_n 0, 1) := by decide +kernel
theorem dX10_preferring_27 : decode cX10_preferring 27 = .ok (.iload 4, 2) := by decide +kernel
theorem dX10_preferring_29 : decode cX10_preferring 29 = .ok (.iload_n 2, 1) := by decide +kernel
theorem dX10_preferring_30 : decode cX10_preferring 30 = .ok (.invokevirtual 73, 3) := by decide +kernel
theorem dX10_preferring_33 : decode cX10_preferring 33 = .ok (.ifCond .eq 20, 3) := by decide +kernel
theorem dX10_preferring_36 : decode cX10_preferring 36 = .ok (.aload_n 0, 1) := by decide +kernel
theorem dX10_preferring_37 : decode cX10_preferring 37 = .ok (.iload 4, 2) := by decide +kernel
theorem dX10_preferring_39 : decode cX10_preferring 39 = .ok (.iload_n 1, 1) := by decide +kernel
theorem dX10_preferring_40 : decode cX10_preferring 40 = .ok (.invokevirtual 86, 3) := by decide +kernel
theorem dX10_preferring_43 : decode cX10_preferring 43 = .ok (.aload_n 0, 1) := by decide +kernel
theorem dX10_preferring_44 : decode cX10_preferring 44 = .ok (.iload 4, 2) := by decide +kernel
theorem dX10_preferring_46 : decode cX10_preferring 46 = .ok (.iload_n 2, 1) := by decide +kernel
theorem dX10_preferring_47 : decode cX10_preferring 47 = .ok (.invokevirtual 86, 3) := by decide +kernel
theorem dX10_preferring_50 : decode cX10_preferring 50 = .ok (.if_icmp .ge 6, 3) := by decide +kernel
theorem dX10_preferring_53 : decode cX10_preferring 53 = .ok (.iinc 3 1, 3) := by decide +kernel
theorem dX10_preferring_56 : decode cX10_preferring 56 = .ok (.iinc 4 1, 3) := by decide +kernel
theorem dX10_preferring_59 : decode cX10_preferring 59 = .ok (.goto (-54), 3) := by decide +kernel
theorem dX10_preferring_62 : decode cX10_preferring 62 = .ok (.iload_n 3, 1) := by decide +kernel
theorem dX10_preferring_63 : decode cX10_preferring 63 = .ok (.ireturn, 1) := by decide +kernel
def fX10_preferring (p0 : Nat) (p1 : Int32) (p2 : Int32) (h : mxH) : Option Int32 := Option.bind (mxLoop (ρ := Int32) (fun s1 : (Int32 × Int32) => (if 5 ≤ s1.2 then some (Sum.inr s1.1) else Option.bind (isO h p0 10) (fun u10 => Option.bind (fX10_has p0 s1.2 p1 h) (fun v13 => Option.bind (α := Int32) (if v13 = 0 then some s1.1 else (if p1 = p2 then some s1.1 else Option.bind (isO h p0 10) (fun u19 => Option.bind (fX10_has p0 s1.2 p2 h) (fun v22 => (if v22 = 0 then some (s1.1 + 1) else Option.bind (isO h p0 10) (fun u24 => Option.bind (fX10_place p0 s1.2 p1 h) (fun v27 => Option.bind (isO h p0 10) (fun u28 => Option.bind (fX10_place p0 s1.2 p2 h) (fun v31 => (if v31 ≤ v27 then some s1.1 else some (s1.1 + 1))))))))))) (fun p16' : Int32 => some (Sum.inl (p16', s1.2 + 1))))))) mxF (0, 0)) (fun r34 : Int32 => some r34)
abbrev rmX10_preferring : Room := { frames := 2, cells := 0, slots := 0, locals := 46 }
set_option maxRecDepth 20000 in
theorem tX10_preferring {l : Launch} {Z : mxZ} (hl : l.stackTraces = false) {p0 : Nat} {p1 : Int32} {p2 : Int32} {h : mxH} {out : Int32} (hf : fX10_preferring p0 p1 p2 h = some out) : mxMet l Z yX10_preferring cX10_preferring 5 (some .int) rmX10_preferring [.ref p0, .int p1, .int p2] h (.inl (some (.int out))) h := by
  refine mxMet_of (by decide) hl (by simp [Value.category]) (Nat.le_of_ble_eq_true rfl) ?_
  intro X C E hX hin
  unfold fX10_preferring at hf
  refine mG_ic (pc := 0) C dX10_preferring_0 kI0 ?_
  refine mG_isn (ls' := [some (.ref p0), some (.int p1), some (.int p2), some (.int 0), none]) (pc := 1) C dX10_preferring_1 rfl rfl rfl ?_
  refine mG_ic (pc := 2) C dX10_preferring_2 kI0 ?_
  refine mG_is (ls' := [some (.ref p0), some (.int p1), some (.int p2), some (.int 0), some (.int 0)]) (pc := 3) C dX10_preferring_3 rfl rfl rfl ?_
  obtain ⟨r2, e3, hf⟩ := mx_bind hf
  have J4 : ∀ r34 : Int32, r34 = r2 → mG l Z X 5 0 0 62 [none, none, none, some (.int r34), none] [] h := by
    intro r34 q35
    subst q35
    refine mG_iload_n (pc := 62) C dX10_preferring_62 rfl ?_
    cases hf
    exact mG_ir (pc := 63) C E hX dX10_preferring_63 rfl
  refine mG_sub (ls' := [some (.ref p0), some (.int p1), some (.int p2), some (.int 0), some (.int 0)]) (mxLe_s (mxLe_s (mxLe_s (mxLe_s (mxLe_s mxLe_z))))) (mxLoop_ind (K := fun s1 : (Int32 × Int32) => mG l Z X 5 0 0 5 [some (.ref p0), some (.int p1), some (.int p2), some (.int s1.1), some (.int s1.2)] [] h) ?_ _ _ e3)
  intro s1 o7 e8 hK5 hx6
  refine mG_iload (pc := 5) C dX10_preferring_5 rfl ?_
  refine mG_ic (pc := 7) C dX10_preferring_7 kI5 ?_
  refine mG_icmp_ge (pc := 8) (tgt := 62) C dX10_preferring_8 (by decide) (fun q9 => ?_) (fun q9 => ?_)
  · rw [if_pos q9] at e8
    exact mG_sub (mxLe_n (mxLe_n (mxLe_n (mxLe_s (mxLe_n mxLe_z))))) (J4 _ (hx6 _ (Option.some.inj e8).symm))
  · rw [if_neg q9] at e8
    refine mG_aload_n (pc := 11) C dX10_preferring_11 rfl ?_
    refine mG_iload (pc := 12) C dX10_preferring_12 rfl ?_
    refine mG_iload_n (pc := 14) C dX10_preferring_14 rfl ?_
    obtain ⟨u10, e11, e8⟩ := mx_bind e8
    obtain ⟨v13, e12, e8⟩ := mx_bind e8
    refine mG_cV (pc := 15) (k' := 0) (n' := 0) 10 [.int s1.2, .int p1] [] C hX dX10_preferring_15 lkV_X10_73 rfl rfl e11 (tX10_has hl e12) rfl rfl rfl rfl ?_
    obtain ⟨p16, e17, e8⟩ := mx_bind e8
    have J15 : ∀ p16' : Int32, p16' = p16 → mG l Z X 5 0 0 56 [some (.ref p0), some (.int p1), some (.int p2), some (.int p16'), some (.int s1.2)] [] h := by
      intro p16' q33
      subst q33
      refine mG_ii (ls' := [some (.ref p0), some (.int p1), some (.int p2), some (.int p16'), some (.int (s1.2 + 1))]) (pc := 56) C dX10_preferring_56 rfl (kinc1 _) rfl rfl rfl ?_
      refine mG_goto (tgt := 5) (pc := 59) C dX10_preferring_59 (by decide) ?_
      exact mG_sub (mxLe_s (mxLe_s (mxLe_s (mxLe_s (mxLe_s mxLe_z))))) (hK5 _ (Option.some.inj e8).symm)
    refine mG_if_eq (pc := 18) (tgt := 56) C dX10_preferring_18 (by decide) (fun q14 => ?_) (fun q14 => ?_)
    · rw [if_pos q14] at e17
      exact mG_sub (mxLe_s (mxLe_s (mxLe_s (mxLe_s (mxLe_s mxLe_z))))) (J15 _ (Option.some.inj e17))
    · rw [if_neg q14] at e17
      refine mG_iload_n (pc := 21) C dX10_preferring_21 rfl ?_
      refine mG_iload_n (pc := 22) C dX10_preferring_22 rfl ?_
      refine mG_icmp_eq (pc := 23) (tgt := 56) C dX10_preferring_23 (by decide) (fun q18 => ?_) (fun q18 => ?_)
      · rw [if_pos q18] at e17
        exact mG_sub (mxLe_s (mxLe_s (mxLe_s (mxLe_s (mxLe_s mxLe_z))))) (J15 _ (Option.some.inj e17))
      · rw [if_neg q18] at e17
        refine mG_aload_n (pc := 26) C dX10_preferring_26 rfl ?_
        refine mG_iload (pc := 27) C dX10_preferring_27 rfl ?_
        refine mG_iload_n (pc := 29) C dX10_preferring_29 rfl ?_
        obtain ⟨u19, e20, e17⟩ := mx_bind e17
        obtain ⟨v22, e21, e17⟩ := mx_bind e17
        refine mG_cV (pc := 30) (k' := 0) (n' := 0) 10 [.int s1.2, .int p2] [] C hX dX10_preferring_30 lkV_X10_73 rfl rfl e20 (tX10_has hl e21) rfl rfl rfl rfl ?_
        refine mG_if_eq (pc := 33) (tgt := 53) C dX10_preferring_33 (by decide) (fun q23 => ?_) (fun q23 => ?_)
        · rw [if_pos q23] at e17
          refine mG_ii (ls' := [some (.ref p0), some (.int p1), some (.int p2), some (.int (s1.1 + 1)), some (.int s1.2)]) (pc := 53) C dX10_preferring_53 rfl (kinc1 _) rfl rfl rfl ?_
          exact mG_sub (mxLe_s (mxLe_s (mxLe_s (mxLe_s (mxLe_s mxLe_z))))) (J15 _ (Option.some.inj e17))
        · rw [if_neg q23] at e17
          refine mG_aload_n (pc := 36) C dX10_preferring_36 rfl ?_
          refine mG_iload (pc := 37) C dX10_preferring_37 rfl ?_
          refine mG_iload_n (pc := 39) C dX10_preferring_39 rfl ?_
          obtain ⟨u24, e25, e17⟩ := mx_bind e17
          obtain ⟨v27, e26, e17⟩ := mx_bind e17
          refine mG_cV (pc := 40) (k' := 0) (n' := 0) 10 [.int s1.2, .int p1] [] C hX dX10_preferring_40 lkV_X10_86 rfl rfl e25 (tX10_place hl e26) rfl rfl rfl rfl ?_
          refine mG_aload_n (pc := 43) C dX10_preferring_43 rfl ?_
          refine mG_iload (pc := 44) C dX10_preferring_44 rfl ?_
          refine mG_iload_n (pc := 46) C dX10_preferring_46 rfl ?_
          obtain ⟨u28, e29, e17⟩ := mx_bind e17
          obtain ⟨v31, e30, e17⟩ := mx_bind e17
          refine mG_cV (pc := 47) (k' := 0) (n' := 0) 10 [.int s1.2, .int p2] [.int v27] C hX dX10_preferring_47 lkV_X10_86 rfl rfl e29 (tX10_place hl e30) rfl rfl rfl rfl ?_
          refine mG_icmp_ge (pc := 50) (tgt := 56) C dX10_preferring_50 (by decide) (fun q32 => ?_) (fun q32 => ?_)
          · rw [if_pos q32] at e17
            exact mG_sub (mxLe_s (mxLe_s (mxLe_s (mxLe_s (mxLe_s mxLe_z))))) (J15 _ (Option.some.inj e17))
          · rw [if_neg q32] at e17
            refine mG_ii (ls' := [some (.ref p0), some (.int p1), some (.int p2), some (.int (s1.1 + 1)), some (.int s1.2)]) (pc := 53) C dX10_preferring_53 rfl (kinc1 _) rfl rfl rfl ?_
            exact mG_sub (mxLe_s (mxLe_s (mxLe_s (mxLe_s (mxLe_s mxLe_z))))) (J15 _ (Option.some.inj e17))
theorem dX10_beats_0 : decode cX10_beats 0 = .ok (.aload_n 0, 1) := by decide +kernel
theorem dX10_beats_1 : decode cX10_beats 1 = .ok (.aload_n 0, 1) := by decide +kernel
theorem dX10_beats_2 : decode cX10_beats 2 = .ok (.getfield 34, 3) := by decide +kernel
theorem dX10_beats_5 : decode cX10_beats 5 = .ok (.iload_n 1, 1) := by decide +kernel
theorem dX10_beats_6 : decode cX10_beats 6 = .ok (.iaload, 1) := by decide +kernel
theorem dX10_beats_7 : decode cX10_beats 7 = .ok (.aload_n 0, 1) := by decide +kernel
theorem dX10_beats_8 : decode cX10_beats 8 = .ok (.getfield 34, 3) := by decide +kernel
theorem dX10_beats_11 : decode cX10_beats 11 = .ok (.iload_n 2, 1) := by decide +kernel
theorem dX10_beats_12 : decode cX10_beats 12 = .ok (.iaload, 1) := by decide +kernel
theorem dX10_beats_13 : decode cX10_beats 13 = .ok (.invokevirtual 151, 3) := by decide +kernel
theorem dX10_beats_16 : decode cX10_beats 16 = .ok (.aload_n 0, 1) := by decide +kernel
theorem dX10_beats_17 : decode cX10_beats 17 = .ok (.aload_n 0, 1) := by decide +kernel
theorem dX10_beats_18 : decode cX10_beats 18 = .ok (.getfield 34, 3) := by decide +kernel
theorem dX10_beats_21 : decode cX10_beats 21 = .ok (.iload_n 2, 1) := by decide +kernel
theorem dX10_beats_22 : decode cX10_beats 22 = .ok (.iaload, 1) := by decide +kernel
theorem dX10_beats_23 : decode cX10_beats 23 = .ok (.aload_n 0, 1) := by decide +kernel
theorem dX10_beats_24 : decode cX10_beats 24 = .ok (.getfield 34, 3) := by decide +kernel
theorem dX10_beats_27 : decode cX10_beats 27 = .ok (.iload_n 1, 1) := by decide +kernel
theorem dX10_beats_28 : decode cX10_beats 28 = .ok (.iaload, 1) := by decide +kernel
theorem dX10_beats_29 : decode cX10_beats 29 = .ok (.invokevirtual 151, 3) := by decide +kernel
theorem dX10_beats_32 : decode cX10_beats 32 = .ok (.if_icmp .le 7, 3) := by decide +kernel
theorem dX10_beats_35 : decode cX10_beats 35 = .ok (.iconst 1, 1) := by decide +kernel
theorem dX10_beats_36 : decode cX10_beats 36 = .ok (.goto 4, 3) := by decide +kernel
theorem dX10_beats_39 : decode cX10_beats 39 = .ok (.iconst 0, 1) := by decide +kernel
theorem dX10_beats_40 : decode cX10_beats 40 = .ok (.ireturn, 1) := by decide +kernel
def fX10_beats (p0 : Nat) (p1 : Int32) (p2 : Int32) (h : mxH) : Option Int32 := Option.bind (gR h p0 10 10) (fun r1 => Option.bind (ldI h r1 p1) (fun v3 => Option.bind (gR h p0 10 10) (fun r5 => Option.bind (ldI h r5 p2) (fun v7 => Option.bind (isO h p0 10) (fun u9 => Option.bind (fX10_preferring p0 v3 v7 h) (fun v12 => Option.bind (gR h p0 10 10) (fun r13 => Option.bind (ldI h r13 p2) (fun v15 => Option.bind (gR h p0 10 10) (fun r17 => Option.bind (ldI h r17 p1) (fun v19 => Option.bind (isO h p0 10) (fun u21 => Option.bind (fX10_preferring p0 v15 v19 h) (fun v24 => Option.bind (α := Int32) (if v12 ≤ v24 then some 0 else some 1) (fun p27' : Int32 => Option.bind (mxZ1 p27') (fun v29 => some v29))))))))))))))
abbrev rmX10_beats : Room := { frames := 3, cells := 0, slots := 0, locals := 70 }
set_option maxRecDepth 20000 in
theorem tX10_beats {l : Launch} {Z : mxZ} (hl : l.stackTraces = false) {p0 : Nat} {p1 : Int32} {p2 : Int32} {h : mxH} {out : Int32} (hf : fX10_beats p0 p1 p2 h = some out) : mxMet l Z yX10_beats cX10_beats 3 (some .boolean) rmX10_beats [.ref p0, .int p1, .int p2] h (.inl (some (.int out))) h := by
  refine mxMet_of (by decide) hl (by simp [Value.category]) (Nat.le_of_ble_eq_true rfl) ?_
  intro X C E hX hin
  unfold fX10_beats at hf
  refine mG_aload_n (pc := 0) C dX10_beats_0 rfl ?_
  refine mG_aload_n (pc := 1) C dX10_beats_1 rfl ?_
  obtain ⟨r1, e2, hf⟩ := mx_bind hf
  refine mG_getR (pc := 2) C dX10_beats_2 fl_X10_34 e2 ?_
  refine mG_iload_n (pc := 5) C dX10_beats_5 rfl ?_
  obtain ⟨v3, e4, hf⟩ := mx_bind hf
  refine mG_iaload (pc := 6) C dX10_beats_6 e4 ?_
  refine mG_aload_n (pc := 7) C dX10_beats_7 rfl ?_
  obtain ⟨r5, e6, hf⟩ := mx_bind hf
  refine mG_getR (pc := 8) C dX10_beats_8 fl_X10_34 e6 ?_
  refine mG_iload_n (pc := 11) C dX10_beats_11 rfl ?_
  obtain ⟨v7, e8, hf⟩ := mx_bind hf
  refine mG_iaload (pc := 12) C dX10_beats_12 e8 ?_
  obtain ⟨u9, e10, hf⟩ := mx_bind hf
  obtain ⟨v12, e11, hf⟩ := mx_bind hf
  refine mG_cV (pc := 13) (k' := 0) (n' := 0) 10 [.int v3, .int v7] [] C hX dX10_beats_13 lkV_X10_151 rfl rfl e10 (tX10_preferring hl e11) rfl rfl rfl rfl ?_
  refine mG_aload_n (pc := 16) C dX10_beats_16 rfl ?_
  refine mG_aload_n (pc := 17) C dX10_beats_17 rfl ?_
  obtain ⟨r13, e14, hf⟩ := mx_bind hf
  refine mG_getR (pc := 18) C dX10_beats_18 fl_X10_34 e14 ?_
  refine mG_iload_n (pc := 21) C dX10_beats_21 rfl ?_
  obtain ⟨v15, e16, hf⟩ := mx_bind hf
  refine mG_iaload (pc := 22) C dX10_beats_22 e16 ?_
  refine mG_aload_n (pc := 23) C dX10_beats_23 rfl ?_
  obtain ⟨r17, e18, hf⟩ := mx_bind hf
  refine mG_getR (pc := 24) C dX10_beats_24 fl_X10_34 e18 ?_
  refine mG_iload_n (pc := 27) C dX10_beats_27 rfl ?_
  obtain ⟨v19, e20, hf⟩ := mx_bind hf
  refine mG_iaload (pc := 28) C dX10_beats_28 e20 ?_
  obtain ⟨u21, e22, hf⟩ := mx_bind hf
  obtain ⟨v24, e23, hf⟩ := mx_bind hf
  refine mG_cV (pc := 29) (k' := 0) (n' := 0) 10 [.int v15, .int v19] [.int v12] C hX dX10_beats_29 lkV_X10_151 rfl rfl e22 (tX10_preferring hl e23) rfl rfl rfl rfl ?_
  obtain ⟨p27, e28, hf⟩ := mx_bind hf
  have J26 : ∀ p27' : Int32, p27' = p27 → mG l Z X 3 0 0 40 [none, none, none] [.int p27'] h := by
    intro p27' q31
    subst q31
    obtain ⟨v29, e30, hf⟩ := mx_bind hf
    cases hf
    exact mG_zr (pc := 40) C e30 E hX dX10_beats_40 rfl
  refine mG_icmp_le (pc := 32) (tgt := 39) C dX10_beats_32 (by decide) (fun q25 => ?_) (fun q25 => ?_)
  · rw [if_pos q25] at e28
    refine mG_ic (pc := 39) C dX10_beats_39 kI0 ?_
    exact mG_sub (mxLe_n (mxLe_n (mxLe_n mxLe_z))) (J26 _ (Option.some.inj e28))
  · rw [if_neg q25] at e28
    refine mG_ic (pc := 35) C dX10_beats_35 kI1 ?_
    refine mG_goto (tgt := 40) (pc := 36) C dX10_beats_36 (by decide) ?_
    exact mG_sub (mxLe_n (mxLe_n (mxLe_n mxLe_z))) (J26 _ (Option.some.inj e28))
theorem dX10_comesBack_0 : decode cX10_comesBack 0 = .ok (.iconst 1, 1) := by decide +kernel
theorem dX10_comesBack_1 : decode cX10_comesBack 1 = .ok (.iload_n 1, 1) := by decide +kernel
theorem dX10_comesBack_2 : decode cX10_comesBack 2 = .ok (.ishl, 1) := by decide +kernel
theorem dX10_comesBack_3 : decode cX10_comesBack 3 = .ok (.istore 4, 2) := by decide +kernel
theorem dX10_comesBack_5 : decode cX10_comesBack 5 = .ok (.iconst 0, 1) := by decide +kernel
theorem dX10_comesBack_6 : decode cX10_comesBack 6 = .ok (.istore 5, 2) := by decide +kernel
theorem dX10_comesBack_8 : decode cX10_comesBack 8 = .ok (.iload 5, 2) := by decide +kernel
theorem dX10_comesBack_10 : decode cX10_comesBack 10 = .ok (.iload_n 2, 1) := by decide +kernel
theorem dX10_comesBack_11 : decode cX10_comesBack 11 = .ok (.if_icmp .ge 77, 3) := by decide +kernel
theorem dX10_comesBack_14 : decode cX10_comesBack 14 = .ok (.iconst 0, 1) := by decide +kernel
theorem dX10_comesBack_15 : decode cX10_comesBack 15 = .ok (.istore 6, 2) := by decide +kernel
theorem dX10_comesBack_17 : decode cX10_comesBack 17 = .ok (.iconst 0, 1) := by decide +kernel
theorem dX10_comesBack_18 : decode cX10_comesBack 18 = .ok (.istore 7, 2) := by decide +kernel
theorem dX10_comesBack_20 : decode cX10_comesBack 20 = .ok (.iload 7, 2) := by decide +kernel
theorem dX10_comesBack_22 : decode cX10_comesBack 22 = .ok (.iload_n 3, 1) := by decide +kernel
theorem dX10_comesBack_23 : decode cX10_comesBack 23 = .ok (.if_icmp .ge 55, 3) := by decide +kernel
theorem dX10_comesBack_26 : decode cX10_comesBack 26 = .ok (.iconst 0, 1) := by decide +kernel
theorem dX10_comesBack_27 : decode cX10_comesBack 27 = .ok (.istore 8, 2) := by decide +kernel
theorem dX10_comesBack_29 : decode cX10_comesBack 29 = .ok (.iload 8, 2) := by decide +kernel
theorem dX10_comesBack_31 : decode cX10_comesBack 31 = .ok (.iload_n 3, 1) := by decide +kernel
theorem dX10_comesBack_32 : decode cX10_comesBack 32 = .ok (.if_icmp .ge 40, 3) := by decide +kernel
theorem dX10_comesBack_35 : decode cX10_comesBack 35 = .ok (.iload 4, 2) := by decide +kernel
theorem dX10_comesBack_37 : decode cX10_comesBack 37 = .ok (.iload 7, 2) := by decide +kernel
theorem dX10_comesBack_39 : decode cX10_comesBack 39 = .ok (.ishr, 1) := by decide +kernel
theorem dX10_comesBack_40 : decode cX10_comesBack 40 = .ok (.iconst 1, 1) := by decide +kernel
theorem dX10_comesBack_41 : decode cX10_comesBack 41 = .ok (.iand, 1) := by decide +kernel
theorem dX10_comesBack_42 : decode cX10_comesBack 42 = .ok (.iconst 1, 1) := by decide +kernel
theorem dX10_comesBack_43 : decode cX10_comesBack 43 = .ok (.if_icmp .ne 23, 3) := by decide +kernel
theorem dX10_comesBack_46 : decode cX10_comesBack 46 = .ok (.aload_n 0, 1) := by decide +kernel
theorem dX10_comesBack_47 : decode cX10_comesBack 47 = .ok (.iload 7, 2) := by decide +kernel
theorem dX10_comesBack_49 : decode cX10_comesBack 49 = .ok (.iload 8, 2) := by decide +kernel
theorem dX10_comesBack_51 : decode cX10_comesBack 51 = .ok (.invokevirtual 154, 3) := by decide +kernel
theorem dX10_comesBack_54 : decode cX10_comesBack 54 = .ok (.ifCond .eq 12, 3) := by decide +kernel
theorem dX10_comesBack_57 : decode cX10_comesBack 57 = .ok (.iload 6, 2) := by decide +kernel
theorem dX10_comesBack_59 : decode cX10_comesBack 59 = .ok (.iconst 1, 1) := by decide +kernel
theorem dX10_comesBack_60 : decode cX10_comesBack 60 = .ok (.iload 8, 2) := by decide +kernel
theorem dX10_comesBack_62 : decode cX10_comesBack 62 = .ok (.ishl, 1) := by decide +kernel
theorem dX10_comesBack_63 : decode cX10_comesBack 63 = .ok (.ior, 1) := by decide +kernel
theorem dX10_comesBack_64 : decode cX10_comesBack 64 = .ok (.istore 6, 2) := by decide +kernel
theorem dX10_comesBack_66 : decode cX10_comesBack 66 = .ok (.iinc 8 1, 3) := by decide +kernel
theorem dX10_comesBack_69 : decode cX10_comesBack 69 = .ok (.goto (-40), 3) := by decide +kernel
theorem dX10_comesBack_72 : decode cX10_comesBack 72 = .ok (.iinc 7 1, 3) := by decide +kernel
theorem dX10_comesBack_75 : decode cX10_comesBack 75 = .ok (.goto (-55), 3) := by decide +kernel
theorem dX10_comesBack_78 : decode cX10_comesBack 78 = .ok (.iload 6, 2) := by decide +kernel
theorem dX10_comesBack_80 : decode cX10_comesBack 80 = .ok (.istore 4, 2) := by decide +kernel
theorem dX10_comesBack_82 : decode cX10_comesBack 82 = .ok (.iinc 5 1, 3) := by decide +kernel
theorem dX10_comesBack_85 : decode cX10_comesBack 85 = .ok (.goto (-77), 3) := by decide +kernel
theorem dX10_comesBack_88 : decode cX10_comesBack 88 = .ok (.iload 4, 2) := by decide +kernel
theorem dX10_comesBack_90 : decode cX10_comesBack 90 = .ok (.iload_n 1, 1) := by decide +kernel
theorem dX10_comesBack_91 : decode cX10_comesBack 91 = .ok (.ishr, 1) := by decide +kernel
theorem dX10_comesBack_92 : decode cX10_comesBack 92 = .ok (.iconst 1, 1) := by decide +kernel
theorem dX10_comesBack_93 : decode cX10_comesBack 93 = .ok (.iand, 1) := by decide +kernel
theorem dX10_comesBack_94 : decode cX10_comesBack 94 = .ok (.iconst 1, 1) := by decide +kernel
theorem dX10_comesBack_95 : decode cX10_comesBack 95 = .ok (.if_icmp .ne 7, 3) := by decide +kernel
theorem dX10_comesBack_98 : decode cX10_comesBack 98 = .ok (.iconst 1, 1) := by decide +kernel
theorem dX10_comesBack_99 : decode cX10_comesBack 99 = .ok (.goto 4, 3) := by decide +kernel
theorem dX10_comesBack_102 : decode cX10_comesBack 102 = .ok (.iconst 0, 1) := by decide +kernel
theorem dX10_comesBack_103 : decode cX10_comesBack 103 = .ok (.ireturn, 1) := by decide +kernel
def fX10_comesBack (p0 : Nat) (p1 : Int32) (p2 : Int32) (p3 : Int32) (h : mxH) : Option Int32 := Option.bind (mxLoop (ρ := Int32) (fun s1 : (Int32 × Int32) => (if p2 ≤ s1.2 then some (Sum.inr s1.1) else Option.bind (mxLoop (ρ := Int32) (fun s10 : (Int32 × Int32) => (if p3 ≤ s10.2 then some (Sum.inr s10.1) else Option.bind (mxLoop (ρ := Int32) (fun s19 : (Int32 × Int32) => (if p3 ≤ s19.2 then some (Sum.inr s19.1) else Option.bind (α := Int32) (if ((s1.1 >>> (s10.2 &&& 31)) &&& 1) = 1 then Option.bind (isO h p0 10) (fun u32 => Option.bind (fX10_beats p0 s10.2 s19.2 h) (fun v35 => (if v35 = 0 then some s19.1 else some (s19.1 ||| (1 <<< (s19.2 &&& 31)))))) else some s19.1) (fun p30' : Int32 => some (Sum.inl (p30', s19.2 + 1))))) mxF (s10.1, 0)) (fun r38 : Int32 => some (Sum.inl (r38, s10.2 + 1))))) mxF (0, 0)) (fun r40 : Int32 => some (Sum.inl (r40, s1.2 + 1))))) mxF (1 <<< (p1 &&& 31), 0)) (fun r42 : Int32 => Option.bind (α := Int32) (if ((r42 >>> (p1 &&& 31)) &&& 1) = 1 then some 1 else some 0) (fun p45' : Int32 => Option.bind (mxZ1 p45') (fun v47 => some v47)))
abbrev rmX10_comesBack : Room := { frames := 4, cells := 0, slots := 0, locals := 92 }
set_option maxRecDepth 20000 in
theorem tX10_comesBack {l : Launch} {Z : mxZ} (hl : l.stackTraces = false) {p0 : Nat} {p1 : Int32} {p2 : Int32} {p3 : Int32} {h : mxH} {out : Int32} (hf : fX10_comesBack p0 p1 p2 p3 h = some out) : mxMet l Z yX10_comesBack cX10_comesBack 9 (some .boolean) rmX10_comesBack [.ref p0, .int p1, .int p2, .int p3] h (.inl (some (.int out))) h := by
  refine mxMet_of (by decide) hl (by simp [Value.category]) (Nat.le_of_ble_eq_true rfl) ?_
  intro X C E hX hin
  unfold fX10_comesBack at hf
  refine mG_ic (pc := 0) C dX10_comesBack_0 kI1 ?_
  refine mG_iload_n (pc := 1) C dX10_comesBack_1 rfl ?_
  refine mG_ishl (pc := 2) C dX10_comesBack_2 ?_
  refine mG_is (ls' := [some (.ref p0), some (.int p1), some (.int p2), some (.int p3), some (.int (1 <<< (p1 &&& 31))), none, none, none, none]) (pc := 3) C dX10_comesBack_3 rfl rfl rfl ?_
  refine mG_ic (pc := 5) C dX10_comesBack_5 kI0 ?_
  refine mG_is (ls' := [some (.ref p0), some (.int p1), some (.int p2), some (.int p3), some (.int (1 <<< (p1 &&& 31))), some (.int 0), none, none, none]) (pc := 6) C dX10_comesBack_6 rfl rfl rfl ?_
  obtain ⟨r2, e3, hf⟩ := mx_bind hf
  have J4 : ∀ r42 : Int32, r42 = r2 → mG l Z X 9 0 0 88 [none, some (.int p1), none, none, some (.int r42), none, none, none, none] [] h := by
    intro r42 q50
    subst q50
    refine mG_iload (pc := 88) C dX10_comesBack_88 rfl ?_
    refine mG_iload_n (pc := 90) C dX10_comesBack_90 rfl ?_
    refine mG_ishr (pc := 91) C dX10_comesBack_91 ?_
    refine mG_ic (pc := 92) C dX10_comesBack_92 kI1 ?_
    refine mG_iand (pc := 93) C dX10_comesBack_93 ?_
    refine mG_ic (pc := 94) C dX10_comesBack_94 kI1 ?_
    obtain ⟨p45, e46, hf⟩ := mx_bind hf
    have J44 : ∀ p45' : Int32, p45' = p45 → mG l Z X 9 0 0 103 [none, none, none, none, none, none, none, none, none] [.int p45'] h := by
      intro p45' q49
      subst q49
      obtain ⟨v47, e48, hf⟩ := mx_bind hf
      cases hf
      exact mG_zr (pc := 103) C e48 E hX dX10_comesBack_103 rfl
    refine mG_icmp_ne (pc := 95) (tgt := 102) C dX10_comesBack_95 (by decide) (fun q43 => ?_) (fun q43 => ?_)
    · rw [if_neg q43] at e46
      refine mG_ic (pc := 102) C dX10_comesBack_102 kI0 ?_
      exact mG_sub (mxLe_n (mxLe_n (mxLe_n (mxLe_n (mxLe_n (mxLe_n (mxLe_n (mxLe_n (mxLe_n mxLe_z))))))))) (J44 _ (Option.some.inj e46))
    · rw [if_pos q43] at e46
      refine mG_ic (pc := 98) C dX10_comesBack_98 kI1 ?_
      refine mG_goto (tgt := 103) (pc := 99) C dX10_comesBack_99 (by decide) ?_
      exact mG_sub (mxLe_n (mxLe_n (mxLe_n (mxLe_n (mxLe_n (mxLe_n (mxLe_n (mxLe_n (mxLe_n mxLe_z))))))))) (J44 _ (Option.some.inj e46))
  refine mG_sub (ls' := [some (.ref p0), some (.int p1), some (.int p2), some (.int p3), some (.int (1 <<< (p1 &&& 31))), some (.int 0), none, none, none]) (mxLe_s (mxLe_s (mxLe_s (mxLe_s (mxLe_s (mxLe_s (mxLe_n (mxLe_n (mxLe_n mxLe_z))))))))) (mxLoop_ind (K := fun s1 : (Int32 × Int32) => mG l Z X 9 0 0 8 [some (.ref p0), some (.int p1), some (.int p2), some (.int p3), some (.int s1.1), some (.int s1.2), none, none, none] [] h) ?_ _ _ e3)
  intro s1 o7 e8 hK5 hx6
  refine mG_iload (pc := 8) C dX10_comesBack_8 rfl ?_
  refine mG_iload_n (pc := 10) C dX10_comesBack_10 rfl ?_
  refine mG_icmp_ge (pc := 11) (tgt := 88) C dX10_comesBack_11 (by decide) (fun q9 => ?_) (fun q9 => ?_)
  · rw [if_pos q9] at e8
    exact mG_sub (mxLe_n (mxLe_s (mxLe_n (mxLe_n (mxLe_s (mxLe_n (mxLe_n (mxLe_n (mxLe_n mxLe_z))))))))) (J4 _ (hx6 _ (Option.some.inj e8).symm))
  · rw [if_neg q9] at e8
    refine mG_ic (pc := 14) C dX10_comesBack_14 kI0 ?_
    refine mG_is (ls' := [some (.ref p0), some (.int p1), some (.int p2), some (.int p3), some (.int s1.1), some (.int s1.2), some (.int 0), none, none]) (pc := 15) C dX10_comesBack_15 rfl rfl rfl ?_
    refine mG_ic (pc := 17) C dX10_comesBack_17 kI0 ?_
    refine mG_is (ls' := [some (.ref p0), some (.int p1), some (.int p2), some (.int p3), some (.int s1.1), some (.int s1.2), some (.int 0), some (.int 0), none]) (pc := 18) C dX10_comesBack_18 rfl rfl rfl ?_
    obtain ⟨r11, e12, e8⟩ := mx_bind e8
    have J13 : ∀ r40 : Int32, r40 = r11 → mG l Z X 9 0 0 78 [some (.ref p0), some (.int p1), some (.int p2), some (.int p3), none, some (.int s1.2), some (.int r40), none, none] [] h := by
      intro r40 q41
      subst q41
      refine mG_iload (pc := 78) C dX10_comesBack_78 rfl ?_
      refine mG_is (ls' := [some (.ref p0), some (.int p1), some (.int p2), some (.int p3), some (.int r40), some (.int s1.2), some (.int r40), none, none]) (pc := 80) C dX10_comesBack_80 rfl rfl rfl ?_
      refine mG_ii (ls' := [some (.ref p0), some (.int p1), some (.int p2), some (.int p3), some (.int r40), some (.int (s1.2 + 1)), some (.int r40), none, none]) (pc := 82) C dX10_comesBack_82 rfl (kinc1 _) rfl rfl rfl ?_
      refine mG_goto (tgt := 8) (pc := 85) C dX10_comesBack_85 (by decide) ?_
      exact mG_sub (mxLe_s (mxLe_s (mxLe_s (mxLe_s (mxLe_s (mxLe_s (mxLe_n (mxLe_n (mxLe_n mxLe_z))))))))) (hK5 _ (Option.some.inj e8).symm)
    refine mG_sub (ls' := [some (.ref p0), some (.int p1), some (.int p2), some (.int p3), some (.int s1.1), some (.int s1.2), some (.int 0), some (.int 0), none]) (mxLe_s (mxLe_s (mxLe_s (mxLe_s (mxLe_s (mxLe_s (mxLe_s (mxLe_s (mxLe_n mxLe_z))))))))) (mxLoop_ind (K := fun s10 : (Int32 × Int32) => mG l Z X 9 0 0 20 [some (.ref p0), some (.int p1), some (.int p2), some (.int p3), some (.int s1.1), some (.int s1.2), some (.int s10.1), some (.int s10.2), none] [] h) ?_ _ _ e12)
    intro s10 o16 e17 hK14 hx15
    refine mG_iload (pc := 20) C dX10_comesBack_20 rfl ?_
    refine mG_iload_n (pc := 22) C dX10_comesBack_22 rfl ?_
    refine mG_icmp_ge (pc := 23) (tgt := 78) C dX10_comesBack_23 (by decide) (fun q18 => ?_) (fun q18 => ?_)
    · rw [if_pos q18] at e17
      exact mG_sub (mxLe_s (mxLe_s (mxLe_s (mxLe_s (mxLe_n (mxLe_s (mxLe_s (mxLe_n (mxLe_n mxLe_z))))))))) (J13 _ (hx15 _ (Option.some.inj e17).symm))
    · rw [if_neg q18] at e17
      refine mG_ic (pc := 26) C dX10_comesBack_26 kI0 ?_
      refine mG_is (ls' := [some (.ref p0), some (.int p1), some (.int p2), some (.int p3), some (.int s1.1), some (.int s1.2), some (.int s10.1), some (.int s10.2), some (.int 0)]) (pc := 27) C dX10_comesBack_27 rfl rfl rfl ?_
      obtain ⟨r20, e21, e17⟩ := mx_bind e17
      have J22 : ∀ r38 : Int32, r38 = r20 → mG l Z X 9 0 0 72 [some (.ref p0), some (.int p1), some (.int p2), some (.int p3), some (.int s1.1), some (.int s1.2), some (.int r38), some (.int s10.2), none] [] h := by
        intro r38 q39
        subst q39
        refine mG_ii (ls' := [some (.ref p0), some (.int p1), some (.int p2), some (.int p3), some (.int s1.1), some (.int s1.2), some (.int r38), some (.int (s10.2 + 1)), none]) (pc := 72) C dX10_comesBack_72 rfl (kinc1 _) rfl rfl rfl ?_
        refine mG_goto (tgt := 20) (pc := 75) C dX10_comesBack_75 (by decide) ?_
        exact mG_sub (mxLe_s (mxLe_s (mxLe_s (mxLe_s (mxLe_s (mxLe_s (mxLe_s (mxLe_s (mxLe_n mxLe_z))))))))) (hK14 _ (Option.some.inj e17).symm)
      refine mG_sub (ls' := [some (.ref p0), some (.int p1), some (.int p2), some (.int p3), some (.int s1.1), some (.int s1.2), some (.int s10.1), some (.int s10.2), some (.int 0)]) (mxLe_s (mxLe_s (mxLe_s (mxLe_s (mxLe_s (mxLe_s (mxLe_s (mxLe_s (mxLe_s mxLe_z))))))))) (mxLoop_ind (K := fun s19 : (Int32 × Int32) => mG l Z X 9 0 0 29 [some (.ref p0), some (.int p1), some (.int p2), some (.int p3), some (.int s1.1), some (.int s1.2), some (.int s19.1), some (.int s10.2), some (.int s19.2)] [] h) ?_ _ _ e21)
      intro s19 o25 e26 hK23 hx24
      refine mG_iload (pc := 29) C dX10_comesBack_29 rfl ?_
      refine mG_iload_n (pc := 31) C dX10_comesBack_31 rfl ?_
      refine mG_icmp_ge (pc := 32) (tgt := 72) C dX10_comesBack_32 (by decide) (fun q27 => ?_) (fun q27 => ?_)
      · rw [if_pos q27] at e26
        exact mG_sub (mxLe_s (mxLe_s (mxLe_s (mxLe_s (mxLe_s (mxLe_s (mxLe_s (mxLe_s (mxLe_n mxLe_z))))))))) (J22 _ (hx24 _ (Option.some.inj e26).symm))
      · rw [if_neg q27] at e26
        refine mG_iload (pc := 35) C dX10_comesBack_35 rfl ?_
        refine mG_iload (pc := 37) C dX10_comesBack_37 rfl ?_
        refine mG_ishr (pc := 39) C dX10_comesBack_39 ?_
        refine mG_ic (pc := 40) C dX10_comesBack_40 kI1 ?_
        refine mG_iand (pc := 41) C dX10_comesBack_41 ?_
        refine mG_ic (pc := 42) C dX10_comesBack_42 kI1 ?_
        obtain ⟨p30, e31, e26⟩ := mx_bind e26
        have J29 : ∀ p30' : Int32, p30' = p30 → mG l Z X 9 0 0 66 [some (.ref p0), some (.int p1), some (.int p2), some (.int p3), some (.int s1.1), some (.int s1.2), some (.int p30'), some (.int s10.2), some (.int s19.2)] [] h := by
          intro p30' q37
          subst q37
          refine mG_ii (ls' := [some (.ref p0), some (.int p1), some (.int p2), some (.int p3), some (.int s1.1), some (.int s1.2), some (.int p30'), some (.int s10.2), some (.int (s19.2 + 1))]) (pc := 66) C dX10_comesBack_66 rfl (kinc1 _) rfl rfl rfl ?_
          refine mG_goto (tgt := 29) (pc := 69) C dX10_comesBack_69 (by decide) ?_
          exact mG_sub (mxLe_s (mxLe_s (mxLe_s (mxLe_s (mxLe_s (mxLe_s (mxLe_s (mxLe_s (mxLe_s mxLe_z))))))))) (hK23 _ (Option.some.inj e26).symm)
        refine mG_icmp_ne (pc := 43) (tgt := 66) C dX10_comesBack_43 (by decide) (fun q28 => ?_) (fun q28 => ?_)
        · rw [if_neg q28] at e31
          exact mG_sub (mxLe_s (mxLe_s (mxLe_s (mxLe_s (mxLe_s (mxLe_s (mxLe_s (mxLe_s (mxLe_s mxLe_z))))))))) (J29 _ (Option.some.inj e31))
        · rw [if_pos q28] at e31
          refine mG_aload_n (pc := 46) C dX10_comesBack_46 rfl ?_
          refine mG_iload (pc := 47) C dX10_comesBack_47 rfl ?_
          refine mG_iload (pc := 49) C dX10_comesBack_49 rfl ?_
          obtain ⟨u32, e33, e31⟩ := mx_bind e31
          obtain ⟨v35, e34, e31⟩ := mx_bind e31
          refine mG_cV (pc := 51) (k' := 0) (n' := 0) 10 [.int s10.2, .int s19.2] [] C hX dX10_comesBack_51 lkV_X10_154 rfl rfl e33 (tX10_beats hl e34) rfl rfl rfl rfl ?_
          refine mG_if_eq (pc := 54) (tgt := 66) C dX10_comesBack_54 (by decide) (fun q36 => ?_) (fun q36 => ?_)
          · rw [if_pos q36] at e31
            exact mG_sub (mxLe_s (mxLe_s (mxLe_s (mxLe_s (mxLe_s (mxLe_s (mxLe_s (mxLe_s (mxLe_s mxLe_z))))))))) (J29 _ (Option.some.inj e31))
          · rw [if_neg q36] at e31
            refine mG_iload (pc := 57) C dX10_comesBack_57 rfl ?_
            refine mG_ic (pc := 59) C dX10_comesBack_59 kI1 ?_
            refine mG_iload (pc := 60) C dX10_comesBack_60 rfl ?_
            refine mG_ishl (pc := 62) C dX10_comesBack_62 ?_
            refine mG_ior (pc := 63) C dX10_comesBack_63 ?_
            refine mG_is (ls' := [some (.ref p0), some (.int p1), some (.int p2), some (.int p3), some (.int s1.1), some (.int s1.2), some (.int (s19.1 ||| (1 <<< (s19.2 &&& 31)))), some (.int s10.2), some (.int s19.2)]) (pc := 64) C dX10_comesBack_64 rfl rfl rfl ?_
            exact mG_sub (mxLe_s (mxLe_s (mxLe_s (mxLe_s (mxLe_s (mxLe_s (mxLe_s (mxLe_s (mxLe_s mxLe_z))))))))) (J29 _ (Option.some.inj e31))
theorem dX10_laysOrder_0 : decode cX10_laysOrder 0 = .ok (.iconst 0, 1) := by decide +kernel
theorem dX10_laysOrder_1 : decode cX10_laysOrder 1 = .ok (.istore 4, 2) := by decide +kernel
theorem dX10_laysOrder_3 : decode cX10_laysOrder 3 = .ok (.iload_n 1, 1) := by decide +kernel
theorem dX10_laysOrder_4 : decode cX10_laysOrder 4 = .ok (.istore 5, 2) := by decide +kernel
theorem dX10_laysOrder_6 : decode cX10_laysOrder 6 = .ok (.iload_n 3, 1) := by decide +kernel
theorem dX10_laysOrder_7 : decode cX10_laysOrder 7 = .ok (.istore 6, 2) := by decide +kernel
theorem dX10_laysOrder_9 : decode cX10_laysOrder 9 = .ok (.iconst 0, 1) := by decide +kernel
theorem dX10_laysOrder_10 : decode cX10_laysOrder 10 = .ok (.istore 7, 2) := by decide +kernel
theorem dX10_laysOrder_12 : decode cX10_laysOrder 12 = .ok (.iload 7, 2) := by decide +kernel
theorem dX10_laysOrder_14 : decode cX10_laysOrder 14 = .ok (.iload_n 2, 1) := by decide +kernel
theorem dX10_laysOrder_15 : decode cX10_laysOrder 15 = .ok (.if_icmp .ge 100, 3) := by decide +kernel
theorem dX10_laysOrder_18 : decode cX10_laysOrder 18 = .ok (.iload 6, 2) := by decide +kernel
theorem dX10_laysOrder_20 : decode cX10_laysOrder 20 = .ok (.iload_n 2, 1) := by decide +kernel
theorem dX10_laysOrder_21 : decode cX10_laysOrder 21 = .ok (.iload 7, 2) := by decide +kernel
theorem dX10_laysOrder_23 : decode cX10_laysOrder 23 = .ok (.isub, 1) := by decide +kernel
theorem dX10_laysOrder_24 : decode cX10_laysOrder 24 = .ok (.idiv, 1) := by decide +kernel
theorem dX10_laysOrder_25 : decode cX10_laysOrder 25 = .ok (.istore 6, 2) := by decide +kernel
theorem dX10_laysOrder_27 : decode cX10_laysOrder 27 = .ok (.iload 5, 2) := by decide +kernel
theorem dX10_laysOrder_29 : decode cX10_laysOrder 29 = .ok (.iload 6, 2) := by decide +kernel
theorem dX10_laysOrder_31 : decode cX10_laysOrder 31 = .ok (.idiv, 1) := by decide +kernel
theorem dX10_laysOrder_32 : decode cX10_laysOrder 32 = .ok (.istore 8, 2) := by decide +kernel
theorem dX10_laysOrder_34 : decode cX10_laysOrder 34 = .ok (.iload 5, 2) := by decide +kernel
theorem dX10_laysOrder_36 : decode cX10_laysOrder 36 = .ok (.iload 6, 2) := by decide +kernel
theorem dX10_laysOrder_38 : decode cX10_laysOrder 38 = .ok (.irem, 1) := by decide +kernel
theorem dX10_laysOrder_39 : decode cX10_laysOrder 39 = .ok (.istore 5, 2) := by decide +kernel
theorem dX10_laysOrder_41 : decode cX10_laysOrder 41 = .ok (.iconst 0, 1) := by decide +kernel
theorem dX10_laysOrder_42 : decode cX10_laysOrder 42 = .ok (.istore 9, 2) := by decide +kernel
theorem dX10_laysOrder_44 : decode cX10_laysOrder 44 = .ok (.iload 4, 2) := by decide +kernel
theorem dX10_laysOrder_46 : decode cX10_laysOrder 46 = .ok (.iload 9, 2) := by decide +kernel
theorem dX10_laysOrder_48 : decode cX10_laysOrder 48 = .ok (.ishr, 1) := by decide +kernel
theorem dX10_laysOrder_49 : decode cX10_laysOrder 49 = .ok (.iconst 1, 1) := by decide +kernel
theorem dX10_laysOrder_50 : decode cX10_laysOrder 50 = .ok (.iand, 1) := by decide +kernel
theorem dX10_laysOrder_51 : decode cX10_laysOrder 51 = .ok (.iconst 1, 1) := by decide +kernel
theorem dX10_laysOrder_52 : decode cX10_laysOrder 52 = .ok (.if_icmp .eq 8, 3) := by decide +kernel
theorem dX10_laysOrder_55 : decode cX10_laysOrder 55 = .ok (.iload 8, 2) := by decide +kernel
theorem dX10_laysOrder_57 : decode cX10_laysOrder 57 = .ok (.ifCond .le 29, 3) := by decide +kernel
theorem dX10_laysOrder_60 : decode cX10_laysOrder 60 = .ok (.iload 8, 2) := by decide +kernel
theorem dX10_laysOrder_62 : decode cX10_laysOrder 62 = .ok (.iload 4, 2) := by decide +kernel
theorem dX10_laysOrder_64 : decode cX10_laysOrder 64 = .ok (.iload 9, 2) := by decide +kernel
theorem dX10_laysOrder_66 : decode cX10_laysOrder 66 = .ok (.ishr, 1) := by decide +kernel
theorem dX10_laysOrder_67 : decode cX10_laysOrder 67 = .ok (.iconst 1, 1) := by decide +kernel
theorem dX10_laysOrder_68 : decode cX10_laysOrder 68 = .ok (.iand, 1) := by decide +kernel
theorem dX10_laysOrder_69 : decode cX10_laysOrder 69 = .ok (.ifCond .ne 7, 3) := by decide +kernel
theorem dX10_laysOrder_72 : decode cX10_laysOrder 72 = .ok (.iconst 1, 1) := by decide +kernel
theorem dX10_laysOrder_73 : decode cX10_laysOrder 73 = .ok (.goto 4, 3) := by decide +kernel
theorem dX10_laysOrder_76 : decode cX10_laysOrder 76 = .ok (.iconst 0, 1) := by decide +kernel
theorem dX10_laysOrder_77 : decode cX10_laysOrder 77 = .ok (.isub, 1) := by decide +kernel
theorem dX10_laysOrder_78 : decode cX10_laysOrder 78 = .ok (.istore 8, 2) := by decide +kernel
theorem dX10_laysOrder_80 : decode cX10_laysOrder 80 = .ok (.iinc 9 1, 3) := by decide +kernel
theorem dX10_laysOrder_83 : decode cX10_laysOrder 83 = .ok (.goto (-39), 3) := by decide +kernel
theorem dX10_laysOrder_86 : decode cX10_laysOrder 86 = .ok (.iload 4, 2) := by decide +kernel
theorem dX10_laysOrder_88 : decode cX10_laysOrder 88 = .ok (.iconst 1, 1) := by decide +kernel
theorem dX10_laysOrder_89 : decode cX10_laysOrder 89 = .ok (.iload 9, 2) := by decide +kernel
theorem dX10_laysOrder_91 : decode cX10_laysOrder 91 = .ok (.ishl, 1) := by decide +kernel
theorem dX10_laysOrder_92 : decode cX10_laysOrder 92 = .ok (.ior, 1) := by decide +kernel
theorem dX10_laysOrder_93 : decode cX10_laysOrder 93 = .ok (.istore 4, 2) := by decide +kernel
theorem dX10_laysOrder_95 : decode cX10_laysOrder 95 = .ok (.aload_n 0, 1) := by decide +kernel
theorem dX10_laysOrder_96 : decode cX10_laysOrder 96 = .ok (.getfield 37, 3) := by decide +kernel
theorem dX10_laysOrder_99 : decode cX10_laysOrder 99 = .ok (.iload 7, 2) := by decide +kernel
theorem dX10_laysOrder_101 : decode cX10_laysOrder 101 = .ok (.aload_n 0, 1) := by decide +kernel
theorem dX10_laysOrder_102 : decode cX10_laysOrder 102 = .ok (.getfield 34, 3) := by decide +kernel
theorem dX10_laysOrder_105 : decode cX10_laysOrder 105 = .ok (.iload 9, 2) := by decide +kernel
theorem dX10_laysOrder_107 : decode cX10_laysOrder 107 = .ok (.iaload, 1) := by decide +kernel
theorem dX10_laysOrder_108 : decode cX10_laysOrder 108 = .ok (.iastore, 1) := by decide +kernel
theorem dX10_laysOrder_109 : decode cX10_laysOrder 109 = .ok (.iinc 7 1, 3) := by decide +kernel
theorem dX10_laysOrder_112 : decode cX10_laysOrder 112 = .ok (.goto (-100), 3) := by decide +kernel
theorem dX10_laysOrder_115 : decode cX10_laysOrder 115 = .ok (.return_, 1) := by decide +kernel
def fX10_laysOrder (p0 : Nat) (p1 : Int32) (p2 : Int32) (p3 : Int32) (h : mxH) : Option mxH := Option.bind (mxLoop (ρ := mxH) (fun s1 : (Int32 × Int32 × Int32 × Int32 × mxH) => (if p2 ≤ s1.2.2.2.1 then some (Sum.inr s1.2.2.2.2) else Option.bind (mxNz (p2 - s1.2.2.2.1)) (fun u10 => Option.bind (mxNz (s1.2.2.1 / (p2 - s1.2.2.2.1))) (fun u12 => Option.bind (mxNz (s1.2.2.1 / (p2 - s1.2.2.2.1))) (fun u14 => Option.bind (mxLoop (ρ := Int32) (fun s16 : (Int32 × Int32) => (if ((s1.1 >>> (s16.2 &&& 31)) &&& 1) = 1 then Option.bind (α := Int32) (if ((s1.1 >>> (s16.2 &&& 31)) &&& 1) = 0 then some 1 else some 0) (fun p27' : Int32 => some (Sum.inl (s16.1 - p27', s16.2 + 1))) else (if s16.1 ≤ 0 then some (Sum.inr s16.2) else Option.bind (α := Int32) (if ((s1.1 >>> (s16.2 &&& 31)) &&& 1) = 0 then some 1 else some 0) (fun p33' : Int32 => some (Sum.inl (s16.1 - p33', s16.2 + 1)))))) mxF (s1.2.1 / (s1.2.2.1 / (p2 - s1.2.2.2.1)), 0)) (fun r36 : Int32 => Option.bind (gR s1.2.2.2.2 p0 10 11) (fun r37 => Option.bind (gR s1.2.2.2.2 p0 10 10) (fun r39 => Option.bind (ldI s1.2.2.2.2 r39 r36) (fun v41 => Option.bind (stI s1.2.2.2.2 r37 s1.2.2.2.1 v41) (fun h43 => some (Sum.inl (s1.1 ||| (1 <<< (r36 &&& 31)), s1.2.1 - s1.2.1 / (s1.2.2.1 / (p2 - s1.2.2.2.1)) * (s1.2.2.1 / (p2 - s1.2.2.2.1)), s1.2.2.1 / (p2 - s1.2.2.2.1), s1.2.2.2.1 + 1, h43)))))))))))) mxF (0, p1, p3, 0, h)) (fun r46 : mxH => some r46)
abbrev rmX10_laysOrder : Room := { frames := 0, cells := 0, slots := 0, locals := 0 }
set_option maxRecDepth 20000 in
theorem tX10_laysOrder {l : Launch} {Z : mxZ} (hl : l.stackTraces = false) {p0 : Nat} {p1 : Int32} {p2 : Int32} {p3 : Int32} {h : mxH} {out : mxH} (hf : fX10_laysOrder p0 p1 p2 p3 h = some out) : mxMet l Z yX10_laysOrder cX10_laysOrder 10 (none) rmX10_laysOrder [.ref p0, .int p1, .int p2, .int p3] h (.inl none) out := by
  refine mxMet_of (by decide) hl (by simp [Value.category]) (Nat.le_of_ble_eq_true rfl) ?_
  intro X C E hX hin
  unfold fX10_laysOrder at hf
  refine mG_ic (pc := 0) C dX10_laysOrder_0 kI0 ?_
  refine mG_is (ls' := [some (.ref p0), some (.int p1), some (.int p2), some (.int p3), some (.int 0), none, none, none, none, none]) (pc := 1) C dX10_laysOrder_1 rfl rfl rfl ?_
  refine mG_iload_n (pc := 3) C dX10_laysOrder_3 rfl ?_
  refine mG_is (ls' := [some (.ref p0), some (.int p1), some (.int p2), some (.int p3), some (.int 0), some (.int p1), none, none, none, none]) (pc := 4) C dX10_laysOrder_4 rfl rfl rfl ?_
  refine mG_iload_n (pc := 6) C dX10_laysOrder_6 rfl ?_
  refine mG_is (ls' := [some (.ref p0), some (.int p1), some (.int p2), some (.int p3), some (.int 0), some (.int p1), some (.int p3), none, none, none]) (pc := 7) C dX10_laysOrder_7 rfl rfl rfl ?_
  refine mG_ic (pc := 9) C dX10_laysOrder_9 kI0 ?_
  refine mG_is (ls' := [some (.ref p0), some (.int p1), some (.int p2), some (.int p3), some (.int 0), some (.int p1), some (.int p3), some (.int 0), none, none]) (pc := 10) C dX10_laysOrder_10 rfl rfl rfl ?_
  obtain ⟨r2, e3, hf⟩ := mx_bind hf
  have J4 : ∀ r46 : mxH, r46 = r2 → mG l Z X 10 0 0 115 [none, none, none, none, none, none, none, none, none, none] [] r46 := by
    intro r46 q47
    subst q47
    cases hf
    exact mG_vr (pc := 115) C E hX dX10_laysOrder_115 rfl
  refine mG_sub (ls' := [some (.ref p0), none, some (.int p2), none, some (.int 0), some (.int p1), some (.int p3), some (.int 0), none, none]) (mxLe_s (mxLe_n (mxLe_s (mxLe_n (mxLe_s (mxLe_s (mxLe_s (mxLe_s (mxLe_n (mxLe_n mxLe_z)))))))))) (mxLoop_ind (K := fun s1 : (Int32 × Int32 × Int32 × Int32 × mxH) => mG l Z X 10 0 0 12 [some (.ref p0), none, some (.int p2), none, some (.int s1.1), some (.int s1.2.1), some (.int s1.2.2.1), some (.int s1.2.2.2.1), none, none] [] s1.2.2.2.2) ?_ _ _ e3)
  intro s1 o7 e8 hK5 hx6
  refine mG_iload (pc := 12) C dX10_laysOrder_12 rfl ?_
  refine mG_iload_n (pc := 14) C dX10_laysOrder_14 rfl ?_
  refine mG_icmp_ge (pc := 15) (tgt := 115) C dX10_laysOrder_15 (by decide) (fun q9 => ?_) (fun q9 => ?_)
  · rw [if_pos q9] at e8
    exact mG_sub (mxLe_n (mxLe_n (mxLe_n (mxLe_n (mxLe_n (mxLe_n (mxLe_n (mxLe_n (mxLe_n (mxLe_n mxLe_z)))))))))) (J4 _ (hx6 _ (Option.some.inj e8).symm))
  · rw [if_neg q9] at e8
    refine mG_iload (pc := 18) C dX10_laysOrder_18 rfl ?_
    refine mG_iload_n (pc := 20) C dX10_laysOrder_20 rfl ?_
    refine mG_iload (pc := 21) C dX10_laysOrder_21 rfl ?_
    refine mG_isub (pc := 23) C dX10_laysOrder_23 ?_
    obtain ⟨u10, e11, e8⟩ := mx_bind e8
    refine mG_idiv (pc := 24) C dX10_laysOrder_24 (mxNz_some e11) ?_
    refine mG_is (ls' := [some (.ref p0), none, some (.int p2), none, some (.int s1.1), some (.int s1.2.1), some (.int (s1.2.2.1 / (p2 - s1.2.2.2.1))), some (.int s1.2.2.2.1), none, none]) (pc := 25) C dX10_laysOrder_25 rfl rfl rfl ?_
    refine mG_iload (pc := 27) C dX10_laysOrder_27 rfl ?_
    refine mG_iload (pc := 29) C dX10_laysOrder_29 rfl ?_
    obtain ⟨u12, e13, e8⟩ := mx_bind e8
    refine mG_idiv (pc := 31) C dX10_laysOrder_31 (mxNz_some e13) ?_
    refine mG_is (ls' := [some (.ref p0), none, some (.int p2), none, some (.int s1.1), some (.int s1.2.1), some (.int (s1.2.2.1 / (p2 - s1.2.2.2.1))), some (.int s1.2.2.2.1), some (.int (s1.2.1 / (s1.2.2.1 / (p2 - s1.2.2.2.1)))), none]) (pc := 32) C dX10_laysOrder_32 rfl rfl rfl ?_
    refine mG_iload (pc := 34) C dX10_laysOrder_34 rfl ?_
    refine mG_iload (pc := 36) C dX10_laysOrder_36 rfl ?_
    obtain ⟨u14, e15, e8⟩ := mx_bind e8
    refine mG_irem (pc := 38) C dX10_laysOrder_38 (mxNz_some e15) ?_
    refine mG_is (ls' := [some (.ref p0), none, some (.int p2), none, some (.int s1.1), some (.int (s1.2.1 - s1.2.1 / (s1.2.2.1 / (p2 - s1.2.2.2.1)) * (s1.2.2.1 / (p2 - s1.2.2.2.1)))), some (.int (s1.2.2.1 / (p2 - s1.2.2.2.1))), some (.int s1.2.2.2.1), some (.int (s1.2.1 / (s1.2.2.1 / (p2 - s1.2.2.2.1)))), none]) (pc := 39) C dX10_laysOrder_39 rfl rfl rfl ?_
    refine mG_ic (pc := 41) C dX10_laysOrder_41 kI0 ?_
    refine mG_is (ls' := [some (.ref p0), none, some (.int p2), none, some (.int s1.1), some (.int (s1.2.1 - s1.2.1 / (s1.2.2.1 / (p2 - s1.2.2.2.1)) * (s1.2.2.1 / (p2 - s1.2.2.2.1)))), some (.int (s1.2.2.1 / (p2 - s1.2.2.2.1))), some (.int s1.2.2.2.1), some (.int (s1.2.1 / (s1.2.2.1 / (p2 - s1.2.2.2.1)))), some (.int 0)]) (pc := 42) C dX10_laysOrder_42 rfl rfl rfl ?_
    obtain ⟨r17, e18, e8⟩ := mx_bind e8
    have J19 : ∀ r36 : Int32, r36 = r17 → mG l Z X 10 0 0 86 [some (.ref p0), none, some (.int p2), none, some (.int s1.1), some (.int (s1.2.1 - s1.2.1 / (s1.2.2.1 / (p2 - s1.2.2.2.1)) * (s1.2.2.1 / (p2 - s1.2.2.2.1)))), some (.int (s1.2.2.1 / (p2 - s1.2.2.2.1))), some (.int s1.2.2.2.1), none, some (.int r36)] [] s1.2.2.2.2 := by
      intro r36 q45
      subst q45
      refine mG_iload (pc := 86) C dX10_laysOrder_86 rfl ?_
      refine mG_ic (pc := 88) C dX10_laysOrder_88 kI1 ?_
      refine mG_iload (pc := 89) C dX10_laysOrder_89 rfl ?_
      refine mG_ishl (pc := 91) C dX10_laysOrder_91 ?_
      refine mG_ior (pc := 92) C dX10_laysOrder_92 ?_
      refine mG_is (ls' := [some (.ref p0), none, some (.int p2), none, some (.int (s1.1 ||| (1 <<< (r36 &&& 31)))), some (.int (s1.2.1 - s1.2.1 / (s1.2.2.1 / (p2 - s1.2.2.2.1)) * (s1.2.2.1 / (p2 - s1.2.2.2.1)))), some (.int (s1.2.2.1 / (p2 - s1.2.2.2.1))), some (.int s1.2.2.2.1), none, some (.int r36)]) (pc := 93) C dX10_laysOrder_93 rfl rfl rfl ?_
      refine mG_aload_n (pc := 95) C dX10_laysOrder_95 rfl ?_
      obtain ⟨r37, e38, e8⟩ := mx_bind e8
      refine mG_getR (pc := 96) C dX10_laysOrder_96 fl_X10_37 e38 ?_
      refine mG_iload (pc := 99) C dX10_laysOrder_99 rfl ?_
      refine mG_aload_n (pc := 101) C dX10_laysOrder_101 rfl ?_
      obtain ⟨r39, e40, e8⟩ := mx_bind e8
      refine mG_getR (pc := 102) C dX10_laysOrder_102 fl_X10_34 e40 ?_
      refine mG_iload (pc := 105) C dX10_laysOrder_105 rfl ?_
      obtain ⟨v41, e42, e8⟩ := mx_bind e8
      refine mG_iaload (pc := 107) C dX10_laysOrder_107 e42 ?_
      obtain ⟨h43, e44, e8⟩ := mx_bind e8
      refine mG_iastore (pc := 108) C dX10_laysOrder_108 e44 ?_
      refine mG_ii (ls' := [some (.ref p0), none, some (.int p2), none, some (.int (s1.1 ||| (1 <<< (r36 &&& 31)))), some (.int (s1.2.1 - s1.2.1 / (s1.2.2.1 / (p2 - s1.2.2.2.1)) * (s1.2.2.1 / (p2 - s1.2.2.2.1)))), some (.int (s1.2.2.1 / (p2 - s1.2.2.2.1))), some (.int (s1.2.2.2.1 + 1)), none, some (.int r36)]) (pc := 109) C dX10_laysOrder_109 rfl (kinc1 _) rfl rfl rfl ?_
      refine mG_goto (tgt := 12) (pc := 112) C dX10_laysOrder_112 (by decide) ?_
      exact mG_sub (mxLe_s (mxLe_n (mxLe_s (mxLe_n (mxLe_s (mxLe_s (mxLe_s (mxLe_s (mxLe_n (mxLe_n mxLe_z)))))))))) (hK5 _ (Option.some.inj e8).symm)
    refine mG_sub (ls' := [some (.ref p0), none, some (.int p2), none, some (.int s1.1), some (.int (s1.2.1 - s1.2.1 / (s1.2.2.1 / (p2 - s1.2.2.2.1)) * (s1.2.2.1 / (p2 - s1.2.2.2.1)))), some (.int (s1.2.2.1 / (p2 - s1.2.2.2.1))), some (.int s1.2.2.2.1), some (.int (s1.2.1 / (s1.2.2.1 / (p2 - s1.2.2.2.1)))), some (.int 0)]) (mxLe_s (mxLe_n (mxLe_s (mxLe_n (mxLe_s (mxLe_s (mxLe_s (mxLe_s (mxLe_s (mxLe_s mxLe_z)))))))))) (mxLoop_ind (K := fun s16 : (Int32 × Int32) => mG l Z X 10 0 0 44 [some (.ref p0), none, some (.int p2), none, some (.int s1.1), some (.int (s1.2.1 - s1.2.1 / (s1.2.2.1 / (p2 - s1.2.2.2.1)) * (s1.2.2.1 / (p2 - s1.2.2.2.1)))), some (.int (s1.2.2.1 / (p2 - s1.2.2.2.1))), some (.int s1.2.2.2.1), some (.int s16.1), some (.int s16.2)] [] s1.2.2.2.2) ?_ _ _ e18)
    intro s16 o22 e23 hK20 hx21
    refine mG_iload (pc := 44) C dX10_laysOrder_44 rfl ?_
    refine mG_iload (pc := 46) C dX10_laysOrder_46 rfl ?_
    refine mG_ishr (pc := 48) C dX10_laysOrder_48 ?_
    refine mG_ic (pc := 49) C dX10_laysOrder_49 kI1 ?_
    refine mG_iand (pc := 50) C dX10_laysOrder_50 ?_
    refine mG_ic (pc := 51) C dX10_laysOrder_51 kI1 ?_
    refine mG_icmp_eq (pc := 52) (tgt := 60) C dX10_laysOrder_52 (by decide) (fun q24 => ?_) (fun q24 => ?_)
    · rw [if_pos q24] at e23
      refine mG_iload (pc := 60) C dX10_laysOrder_60 rfl ?_
      refine mG_iload (pc := 62) C dX10_laysOrder_62 rfl ?_
      refine mG_iload (pc := 64) C dX10_laysOrder_64 rfl ?_
      refine mG_ishr (pc := 66) C dX10_laysOrder_66 ?_
      refine mG_ic (pc := 67) C dX10_laysOrder_67 kI1 ?_
      refine mG_iand (pc := 68) C dX10_laysOrder_68 ?_
      obtain ⟨p27, e28, e23⟩ := mx_bind e23
      have J26 : ∀ p27' : Int32, p27' = p27 → mG l Z X 10 0 0 77 [some (.ref p0), none, some (.int p2), none, some (.int s1.1), some (.int (s1.2.1 - s1.2.1 / (s1.2.2.1 / (p2 - s1.2.2.2.1)) * (s1.2.2.1 / (p2 - s1.2.2.2.1)))), some (.int (s1.2.2.1 / (p2 - s1.2.2.2.1))), some (.int s1.2.2.2.1), none, some (.int s16.2)] [.int p27', .int s16.1] s1.2.2.2.2 := by
        intro p27' q29
        subst q29
        refine mG_isub (pc := 77) C dX10_laysOrder_77 ?_
        refine mG_is (ls' := [some (.ref p0), none, some (.int p2), none, some (.int s1.1), some (.int (s1.2.1 - s1.2.1 / (s1.2.2.1 / (p2 - s1.2.2.2.1)) * (s1.2.2.1 / (p2 - s1.2.2.2.1)))), some (.int (s1.2.2.1 / (p2 - s1.2.2.2.1))), some (.int s1.2.2.2.1), some (.int (s16.1 - p27')), some (.int s16.2)]) (pc := 78) C dX10_laysOrder_78 rfl rfl rfl ?_
        refine mG_ii (ls' := [some (.ref p0), none, some (.int p2), none, some (.int s1.1), some (.int (s1.2.1 - s1.2.1 / (s1.2.2.1 / (p2 - s1.2.2.2.1)) * (s1.2.2.1 / (p2 - s1.2.2.2.1)))), some (.int (s1.2.2.1 / (p2 - s1.2.2.2.1))), some (.int s1.2.2.2.1), some (.int (s16.1 - p27')), some (.int (s16.2 + 1))]) (pc := 80) C dX10_laysOrder_80 rfl (kinc1 _) rfl rfl rfl ?_
        refine mG_goto (tgt := 44) (pc := 83) C dX10_laysOrder_83 (by decide) ?_
        exact mG_sub (mxLe_s (mxLe_n (mxLe_s (mxLe_n (mxLe_s (mxLe_s (mxLe_s (mxLe_s (mxLe_s (mxLe_s mxLe_z)))))))))) (hK20 _ (Option.some.inj e23).symm)
      refine mG_if_ne (pc := 69) (tgt := 76) C dX10_laysOrder_69 (by decide) (fun q25 => ?_) (fun q25 => ?_)
      · rw [if_neg q25] at e28
        refine mG_ic (pc := 76) C dX10_laysOrder_76 kI0 ?_
        exact mG_sub (mxLe_s (mxLe_n (mxLe_s (mxLe_n (mxLe_s (mxLe_s (mxLe_s (mxLe_s (mxLe_n (mxLe_s mxLe_z)))))))))) (J26 _ (Option.some.inj e28))
      · rw [if_pos q25] at e28
        refine mG_ic (pc := 72) C dX10_laysOrder_72 kI1 ?_
        refine mG_goto (tgt := 77) (pc := 73) C dX10_laysOrder_73 (by decide) ?_
        exact mG_sub (mxLe_s (mxLe_n (mxLe_s (mxLe_n (mxLe_s (mxLe_s (mxLe_s (mxLe_s (mxLe_n (mxLe_s mxLe_z)))))))))) (J26 _ (Option.some.inj e28))
    · rw [if_neg q24] at e23
      refine mG_iload (pc := 55) C dX10_laysOrder_55 rfl ?_
      refine mG_if_le (pc := 57) (tgt := 86) C dX10_laysOrder_57 (by decide) (fun q30 => ?_) (fun q30 => ?_)
      · rw [if_pos q30] at e23
        exact mG_sub (mxLe_s (mxLe_n (mxLe_s (mxLe_n (mxLe_s (mxLe_s (mxLe_s (mxLe_s (mxLe_n (mxLe_s mxLe_z)))))))))) (J19 _ (hx21 _ (Option.some.inj e23).symm))
      · rw [if_neg q30] at e23
        refine mG_iload (pc := 60) C dX10_laysOrder_60 rfl ?_
        refine mG_iload (pc := 62) C dX10_laysOrder_62 rfl ?_
        refine mG_iload (pc := 64) C dX10_laysOrder_64 rfl ?_
        refine mG_ishr (pc := 66) C dX10_laysOrder_66 ?_
        refine mG_ic (pc := 67) C dX10_laysOrder_67 kI1 ?_
        refine mG_iand (pc := 68) C dX10_laysOrder_68 ?_
        obtain ⟨p33, e34, e23⟩ := mx_bind e23
        have J32 : ∀ p33' : Int32, p33' = p33 → mG l Z X 10 0 0 77 [some (.ref p0), none, some (.int p2), none, some (.int s1.1), some (.int (s1.2.1 - s1.2.1 / (s1.2.2.1 / (p2 - s1.2.2.2.1)) * (s1.2.2.1 / (p2 - s1.2.2.2.1)))), some (.int (s1.2.2.1 / (p2 - s1.2.2.2.1))), some (.int s1.2.2.2.1), none, some (.int s16.2)] [.int p33', .int s16.1] s1.2.2.2.2 := by
          intro p33' q35
          subst q35
          refine mG_isub (pc := 77) C dX10_laysOrder_77 ?_
          refine mG_is (ls' := [some (.ref p0), none, some (.int p2), none, some (.int s1.1), some (.int (s1.2.1 - s1.2.1 / (s1.2.2.1 / (p2 - s1.2.2.2.1)) * (s1.2.2.1 / (p2 - s1.2.2.2.1)))), some (.int (s1.2.2.1 / (p2 - s1.2.2.2.1))), some (.int s1.2.2.2.1), some (.int (s16.1 - p33')), some (.int s16.2)]) (pc := 78) C dX10_laysOrder_78 rfl rfl rfl ?_
          refine mG_ii (ls' := [some (.ref p0), none, some (.int p2), none, some (.int s1.1), some (.int (s1.2.1 - s1.2.1 / (s1.2.2.1 / (p2 - s1.2.2.2.1)) * (s1.2.2.1 / (p2 - s1.2.2.2.1)))), some (.int (s1.2.2.1 / (p2 - s1.2.2.2.1))), some (.int s1.2.2.2.1), some (.int (s16.1 - p33')), some (.int (s16.2 + 1))]) (pc := 80) C dX10_laysOrder_80 rfl (kinc1 _) rfl rfl rfl ?_
          refine mG_goto (tgt := 44) (pc := 83) C dX10_laysOrder_83 (by decide) ?_
          exact mG_sub (mxLe_s (mxLe_n (mxLe_s (mxLe_n (mxLe_s (mxLe_s (mxLe_s (mxLe_s (mxLe_s (mxLe_s mxLe_z)))))))))) (hK20 _ (Option.some.inj e23).symm)
        refine mG_if_ne (pc := 69) (tgt := 76) C dX10_laysOrder_69 (by decide) (fun q31 => ?_) (fun q31 => ?_)
        · rw [if_neg q31] at e34
          refine mG_ic (pc := 76) C dX10_laysOrder_76 kI0 ?_
          exact mG_sub (mxLe_s (mxLe_n (mxLe_s (mxLe_n (mxLe_s (mxLe_s (mxLe_s (mxLe_s (mxLe_n (mxLe_s mxLe_z)))))))))) (J32 _ (Option.some.inj e34))
        · rw [if_pos q31] at e34
          refine mG_ic (pc := 72) C dX10_laysOrder_72 kI1 ?_
          refine mG_goto (tgt := 77) (pc := 73) C dX10_laysOrder_73 (by decide) ?_
          exact mG_sub (mxLe_s (mxLe_n (mxLe_s (mxLe_n (mxLe_s (mxLe_s (mxLe_s (mxLe_s (mxLe_n (mxLe_s mxLe_z)))))))))) (J32 _ (Option.some.inj e34))
theorem dX10_swapsOf_0 : decode cX10_swapsOf 0 = .ok (.iconst 0, 1) := by decide +kernel
theorem dX10_swapsOf_1 : decode cX10_swapsOf 1 = .ok (.istore_n 2, 1) := by decide +kernel
theorem dX10_swapsOf_2 : decode cX10_swapsOf 2 = .ok (.iconst 0, 1) := by decide +kernel
theorem dX10_swapsOf_3 : decode cX10_swapsOf 3 = .ok (.istore_n 3, 1) := by decide +kernel
theorem dX10_swapsOf_4 : decode cX10_swapsOf 4 = .ok (.iload_n 3, 1) := by decide +kernel
theorem dX10_swapsOf_5 : decode cX10_swapsOf 5 = .ok (.iload_n 1, 1) := by decide +kernel
theorem dX10_swapsOf_6 : decode cX10_swapsOf 6 = .ok (.if_icmp .ge 46, 3) := by decide +kernel
theorem dX10_swapsOf_9 : decode cX10_swapsOf 9 = .ok (.iload_n 3, 1) := by decide +kernel
theorem dX10_swapsOf_10 : decode cX10_swapsOf 10 = .ok (.iconst 1, 1) := by decide +kernel
theorem dX10_swapsOf_11 : decode cX10_swapsOf 11 = .ok (.iadd, 1) := by decide +kernel
theorem dX10_swapsOf_12 : decode cX10_swapsOf 12 = .ok (.istore 4, 2) := by decide +kernel
theorem dX10_swapsOf_14 : decode cX10_swapsOf 14 = .ok (.iload 4, 2) := by decide +kernel
theorem dX10_swapsOf_16 : decode cX10_swapsOf 16 = .ok (.iload_n 1, 1) := by decide +kernel
theorem dX10_swapsOf_17 : decode cX10_swapsOf 17 = .ok (.if_icmp .ge 29, 3) := by decide +kernel
theorem dX10_swapsOf_20 : decode cX10_swapsOf 20 = .ok (.iload_n 2, 1) := by decide +kernel
theorem dX10_swapsOf_21 : decode cX10_swapsOf 21 = .ok (.aload_n 0, 1) := by decide +kernel
theorem dX10_swapsOf_22 : decode cX10_swapsOf 22 = .ok (.aload_n 0, 1) := by decide +kernel
theorem dX10_swapsOf_23 : decode cX10_swapsOf 23 = .ok (.getfield 37, 3) := by decide +kernel
theorem dX10_swapsOf_26 : decode cX10_swapsOf 26 = .ok (.iload 4, 2) := by decide +kernel
theorem dX10_swapsOf_28 : decode cX10_swapsOf 28 = .ok (.iaload, 1) := by decide +kernel
theorem dX10_swapsOf_29 : decode cX10_swapsOf 29 = .ok (.aload_n 0, 1) := by decide +kernel
theorem dX10_swapsOf_30 : decode cX10_swapsOf 30 = .ok (.getfield 37, 3) := by decide +kernel
theorem dX10_swapsOf_33 : decode cX10_swapsOf 33 = .ok (.iload_n 3, 1) := by decide +kernel
theorem dX10_swapsOf_34 : decode cX10_swapsOf 34 = .ok (.iaload, 1) := by decide +kernel
theorem dX10_swapsOf_35 : decode cX10_swapsOf 35 = .ok (.invokevirtual 151, 3) := by decide +kernel
theorem dX10_swapsOf_38 : decode cX10_swapsOf 38 = .ok (.iadd, 1) := by decide +kernel
theorem dX10_swapsOf_39 : decode cX10_swapsOf 39 = .ok (.istore_n 2, 1) := by decide +kernel
theorem dX10_swapsOf_40 : decode cX10_swapsOf 40 = .ok (.iinc 4 1, 3) := by decide +kernel
theorem dX10_swapsOf_43 : decode cX10_swapsOf 43 = .ok (.goto (-29), 3) := by decide +kernel
theorem dX10_swapsOf_46 : decode cX10_swapsOf 46 = .ok (.iinc 3 1, 3) := by decide +kernel
theorem dX10_swapsOf_49 : decode cX10_swapsOf 49 = .ok (.goto (-45), 3) := by decide +kernel
theorem dX10_swapsOf_52 : decode cX10_swapsOf 52 = .ok (.iload_n 2, 1) := by decide +kernel
theorem dX10_swapsOf_53 : decode cX10_swapsOf 53 = .ok (.ireturn, 1) := by decide +kernel
def fX10_swapsOf (p0 : Nat) (p1 : Int32) (h : mxH) : Option Int32 := Option.bind (mxLoop (ρ := Int32) (fun s1 : (Int32 × Int32) => (if p1 ≤ s1.2 then some (Sum.inr s1.1) else Option.bind (mxLoop (ρ := Int32) (fun s10 : (Int32 × Int32) => (if p1 ≤ s10.2 then some (Sum.inr s10.1) else Option.bind (gR h p0 10 11) (fun r19 => Option.bind (ldI h r19 s10.2) (fun v21 => Option.bind (gR h p0 10 11) (fun r23 => Option.bind (ldI h r23 s1.2) (fun v25 => Option.bind (isO h p0 10) (fun u27 => Option.bind (fX10_preferring p0 v21 v25 h) (fun v30 => some (Sum.inl (s10.1 + v30, s10.2 + 1)))))))))) mxF (s1.1, s1.2 + 1)) (fun r31 : Int32 => some (Sum.inl (r31, s1.2 + 1))))) mxF (0, 0)) (fun r33 : Int32 => some r33)
abbrev rmX10_swapsOf : Room := { frames := 3, cells := 0, slots := 0, locals := 70 }
set_option maxRecDepth 20000 in
theorem tX10_swapsOf {l : Launch} {Z : mxZ} (hl : l.stackTraces = false) {p0 : Nat} {p1 : Int32} {h : mxH} {out : Int32} (hf : fX10_swapsOf p0 p1 h = some out) : mxMet l Z yX10_swapsOf cX10_swapsOf 5 (some .int) rmX10_swapsOf [.ref p0, .int p1] h (.inl (some (.int out))) h := by
  refine mxMet_of (by decide) hl (by simp [Value.category]) (Nat.le_of_ble_eq_true rfl) ?_
  intro X C E hX hin
  unfold fX10_swapsOf at hf
  refine mG_ic (pc := 0) C dX10_swapsOf_0 kI0 ?_
  refine mG_isn (ls' := [some (.ref p0), some (.int p1), some (.int 0), none, none]) (pc := 1) C dX10_swapsOf_1 rfl rfl rfl ?_
  refine mG_ic (pc := 2) C dX10_swapsOf_2 kI0 ?_
  refine mG_isn (ls' := [some (.ref p0), some (.int p1), some (.int 0), some (.int 0), none]) (pc := 3) C dX10_swapsOf_3 rfl rfl rfl ?_
  obtain ⟨r2, e3, hf⟩ := mx_bind hf
  have J4 : ∀ r33 : Int32, r33 = r2 → mG l Z X 5 0 0 52 [none, none, some (.int r33), none, none] [] h := by
    intro r33 q34
    subst q34
    refine mG_iload_n (pc := 52) C dX10_swapsOf_52 rfl ?_
    cases hf
    exact mG_ir (pc := 53) C E hX dX10_swapsOf_53 rfl
  refine mG_sub (ls' := [some (.ref p0), some (.int p1), some (.int 0), some (.int 0), none]) (mxLe_s (mxLe_s (mxLe_s (mxLe_s (mxLe_n mxLe_z))))) (mxLoop_ind (K := fun s1 : (Int32 × Int32) => mG l Z X 5 0 0 4 [some (.ref p0), some (.int p1), some (.int s1.1), some (.int s1.2), none] [] h) ?_ _ _ e3)
  intro s1 o7 e8 hK5 hx6
  refine mG_iload_n (pc := 4) C dX10_swapsOf_4 rfl ?_
  refine mG_iload_n (pc := 5) C dX10_swapsOf_5 rfl ?_
  refine mG_icmp_ge (pc := 6) (tgt := 52) C dX10_swapsOf_6 (by decide) (fun q9 => ?_) (fun q9 => ?_)
  · rw [if_pos q9] at e8
    exact mG_sub (mxLe_n (mxLe_n (mxLe_s (mxLe_n (mxLe_n mxLe_z))))) (J4 _ (hx6 _ (Option.some.inj e8).symm))
  · rw [if_neg q9] at e8
    refine mG_iload_n (pc := 9) C dX10_swapsOf_9 rfl ?_
    refine mG_ic (pc := 10) C dX10_swapsOf_10 kI1 ?_
    refine mG_iadd (pc := 11) C dX10_swapsOf_11 ?_
    refine mG_is (ls' := [some (.ref p0), some (.int p1), some (.int s1.1), some (.int s1.2), some (.int (s1.2 + 1))]) (pc := 12) C dX10_swapsOf_12 rfl rfl rfl ?_
    obtain ⟨r11, e12, e8⟩ := mx_bind e8
    have J13 : ∀ r31 : Int32, r31 = r11 → mG l Z X 5 0 0 46 [some (.ref p0), some (.int p1), some (.int r31), some (.int s1.2), none] [] h := by
      intro r31 q32
      subst q32
      refine mG_ii (ls' := [some (.ref p0), some (.int p1), some (.int r31), some (.int (s1.2 + 1)), none]) (pc := 46) C dX10_swapsOf_46 rfl (kinc1 _) rfl rfl rfl ?_
      refine mG_goto (tgt := 4) (pc := 49) C dX10_swapsOf_49 (by decide) ?_
      exact mG_sub (mxLe_s (mxLe_s (mxLe_s (mxLe_s (mxLe_n mxLe_z))))) (hK5 _ (Option.some.inj e8).symm)
    refine mG_sub (ls' := [some (.ref p0), some (.int p1), some (.int s1.1), some (.int s1.2), some (.int (s1.2 + 1))]) (mxLe_s (mxLe_s (mxLe_s (mxLe_s (mxLe_s mxLe_z))))) (mxLoop_ind (K := fun s10 : (Int32 × Int32) => mG l Z X 5 0 0 14 [some (.ref p0), some (.int p1), some (.int s10.1), some (.int s1.2), some (.int s10.2)] [] h) ?_ _ _ e12)
    intro s10 o16 e17 hK14 hx15
    refine mG_iload (pc := 14) C dX10_swapsOf_14 rfl ?_
    refine mG_iload_n (pc := 16) C dX10_swapsOf_16 rfl ?_
    refine mG_icmp_ge (pc := 17) (tgt := 46) C dX10_swapsOf_17 (by decide) (fun q18 => ?_) (fun q18 => ?_)
    · rw [if_pos q18] at e17
      exact mG_sub (mxLe_s (mxLe_s (mxLe_s (mxLe_s (mxLe_n mxLe_z))))) (J13 _ (hx15 _ (Option.some.inj e17).symm))
    · rw [if_neg q18] at e17
      refine mG_iload_n (pc := 20) C dX10_swapsOf_20 rfl ?_
      refine mG_aload_n (pc := 21) C dX10_swapsOf_21 rfl ?_
      refine mG_aload_n (pc := 22) C dX10_swapsOf_22 rfl ?_
      obtain ⟨r19, e20, e17⟩ := mx_bind e17
      refine mG_getR (pc := 23) C dX10_swapsOf_23 fl_X10_37 e20 ?_
      refine mG_iload (pc := 26) C dX10_swapsOf_26 rfl ?_
      obtain ⟨v21, e22, e17⟩ := mx_bind e17
      refine mG_iaload (pc := 28) C dX10_swapsOf_28 e22 ?_
      refine mG_aload_n (pc := 29) C dX10_swapsOf_29 rfl ?_
      obtain ⟨r23, e24, e17⟩ := mx_bind e17
      refine mG_getR (pc := 30) C dX10_swapsOf_30 fl_X10_37 e24 ?_
      refine mG_iload_n (pc := 33) C dX10_swapsOf_33 rfl ?_
      obtain ⟨v25, e26, e17⟩ := mx_bind e17
      refine mG_iaload (pc := 34) C dX10_swapsOf_34 e26 ?_
      obtain ⟨u27, e28, e17⟩ := mx_bind e17
      obtain ⟨v30, e29, e17⟩ := mx_bind e17
      refine mG_cV (pc := 35) (k' := 0) (n' := 0) 10 [.int v21, .int v25] [.int s10.1] C hX dX10_swapsOf_35 lkV_X10_151 rfl rfl e28 (tX10_preferring hl e29) rfl rfl rfl rfl ?_
      refine mG_iadd (pc := 38) C dX10_swapsOf_38 ?_
      refine mG_isn (ls' := [some (.ref p0), some (.int p1), some (.int (s10.1 + v30)), some (.int s1.2), some (.int s10.2)]) (pc := 39) C dX10_swapsOf_39 rfl rfl rfl ?_
      refine mG_ii (ls' := [some (.ref p0), some (.int p1), some (.int (s10.1 + v30)), some (.int s1.2), some (.int (s10.2 + 1))]) (pc := 40) C dX10_swapsOf_40 rfl (kinc1 _) rfl rfl rfl ?_
      refine mG_goto (tgt := 14) (pc := 43) C dX10_swapsOf_43 (by decide) ?_
      exact mG_sub (mxLe_s (mxLe_s (mxLe_s (mxLe_s (mxLe_s mxLe_z))))) (hK14 _ (Option.some.inj e17).symm)
theorem dX10_findsLeast_0 : decode cX10_findsLeast 0 = .ok (.iconst 1, 1) := by decide +kernel
theorem dX10_findsLeast_1 : decode cX10_findsLeast 1 = .ok (.istore_n 2, 1) := by decide +kernel
theorem dX10_findsLeast_2 : decode cX10_findsLeast 2 = .ok (.iconst 2, 1) := by decide +kernel
theorem dX10_findsLeast_3 : decode cX10_findsLeast 3 = .ok (.istore_n 3, 1) := by decide +kernel
theorem dX10_findsLeast_4 : decode cX10_findsLeast 4 = .ok (.iload_n 3, 1) := by decide +kernel
theorem dX10_findsLeast_5 : decode cX10_findsLeast 5 = .ok (.iload_n 1, 1) := by decide +kernel
theorem dX10_findsLeast_6 : decode cX10_findsLeast 6 = .ok (.if_icmp .gt 13, 3) := by decide +kernel
theorem dX10_findsLeast_9 : decode cX10_findsLeast 9 = .ok (.iload_n 2, 1) := by decide +kernel
theorem dX10_findsLeast_10 : decode cX10_findsLeast 10 = .ok (.iload_n 3, 1) := by decide +kernel
theorem dX10_findsLeast_11 : decode cX10_findsLeast 11 = .ok (.imul, 1) := by decide +kernel
theorem dX10_findsLeast_12 : decode cX10_findsLeast 12 = .ok (.istore_n 2, 1) := by decide +kernel
theorem dX10_findsLeast_13 : decode cX10_findsLeast 13 = .ok (.iinc 3 1, 3) := by decide +kernel
theorem dX10_findsLeast_16 : decode cX10_findsLeast 16 = .ok (.goto (-12), 3) := by decide +kernel
theorem dX10_findsLeast_19 : decode cX10_findsLeast 19 = .ok (.iconst (-1), 1) := by decide +kernel
theorem dX10_findsLeast_20 : decode cX10_findsLeast 20 = .ok (.istore_n 3, 1) := by decide +kernel
theorem dX10_findsLeast_21 : decode cX10_findsLeast 21 = .ok (.iconst 0, 1) := by decide +kernel
theorem dX10_findsLeast_22 : decode cX10_findsLeast 22 = .ok (.istore 4, 2) := by decide +kernel
theorem dX10_findsLeast_24 : decode cX10_findsLeast 24 = .ok (.iload 4, 2) := by decide +kernel
theorem dX10_findsLeast_26 : decode cX10_findsLeast 26 = .ok (.iload_n 2, 1) := by decide +kernel
theorem dX10_findsLeast_27 : decode cX10_findsLeast 27 = .ok (.if_icmp .ge 70, 3) := by decide +kernel
theorem dX10_findsLeast_30 : decode cX10_findsLeast 30 = .ok (.aload_n 0, 1) := by decide +kernel
theorem dX10_findsLeast_31 : decode cX10_findsLeast 31 = .ok (.iload 4, 2) := by decide +kernel
theorem dX10_findsLeast_33 : decode cX10_findsLeast 33 = .ok (.iload_n 1, 1) := by decide +kernel
theorem dX10_findsLeast_34 : decode cX10_findsLeast 34 = .ok (.iload_n 2, 1) := by decide +kernel
theorem dX10_findsLeast_35 : decode cX10_findsLeast 35 = .ok (.invokevirtual 157, 3) := by decide +kernel
theorem dX10_findsLeast_38 : decode cX10_findsLeast 38 = .ok (.aload_n 0, 1) := by decide +kernel
theorem dX10_findsLeast_39 : decode cX10_findsLeast 39 = .ok (.iload_n 1, 1) := by decide +kernel
theorem dX10_findsLeast_40 : decode cX10_findsLeast 40 = .ok (.invokevirtual 160, 3) := by decide +kernel
theorem dX10_findsLeast_43 : decode cX10_findsLeast 43 = .ok (.istore 5, 2) := by decide +kernel
theorem dX10_findsLeast_45 : decode cX10_findsLeast 45 = .ok (.iload_n 3, 1) := by decide +kernel
theorem dX10_findsLeast_46 : decode cX10_findsLeast 46 = .ok (.iconst (-1), 1) := by decide +kernel
theorem dX10_findsLeast_47 : decode cX10_findsLeast 47 = .ok (.if_icmp .eq 12, 3) := by decide +kernel
theorem dX10_findsLeast_50 : decode cX10_findsLeast 50 = .ok (.iload 5, 2) := by decide +kernel
theorem dX10_findsLeast_52 : decode cX10_findsLeast 52 = .ok (.iload_n 3, 1) := by decide +kernel
theorem dX10_findsLeast_53 : decode cX10_findsLeast 53 = .ok (.if_icmp .lt 6, 3) := by decide +kernel
theorem dX10_findsLeast_56 : decode cX10_findsLeast 56 = .ok (.goto 35, 3) := by decide +kernel
theorem dX10_findsLeast_59 : decode cX10_findsLeast 59 = .ok (.iload 5, 2) := by decide +kernel
theorem dX10_findsLeast_61 : decode cX10_findsLeast 61 = .ok (.istore_n 3, 1) := by decide +kernel
theorem dX10_findsLeast_62 : decode cX10_findsLeast 62 = .ok (.iconst 0, 1) := by decide +kernel
theorem dX10_findsLeast_63 : decode cX10_findsLeast 63 = .ok (.istore 6, 2) := by decide +kernel
theorem dX10_findsLeast_65 : decode cX10_findsLeast 65 = .ok (.iload 6, 2) := by decide +kernel
theorem dX10_findsLeast_67 : decode cX10_findsLeast 67 = .ok (.iload_n 1, 1) := by decide +kernel
theorem dX10_findsLeast_68 : decode cX10_findsLeast 68 = .ok (.if_icmp .ge 23, 3) := by decide +kernel
theorem dX10_findsLeast_71 : decode cX10_findsLeast 71 = .ok (.aload_n 0, 1) := by decide +kernel
theorem dX10_findsLeast_72 : decode cX10_findsLeast 72 = .ok (.getfield 40, 3) := by decide +kernel
theorem dX10_findsLeast_75 : decode cX10_findsLeast 75 = .ok (.iload 6, 2) := by decide +kernel
theorem dX10_findsLeast_77 : decode cX10_findsLeast 77 = .ok (.aload_n 0, 1) := by decide +kernel
theorem dX10_findsLeast_78 : decode cX10_findsLeast 78 = .ok (.getfield 37, 3) := by decide +kernel
theorem dX10_findsLeast_81 : decode cX10_findsLeast 81 = .ok (.iload 6, 2) := by decide +kernel
theorem dX10_findsLeast_83 : decode cX10_findsLeast 83 = .ok (.iaload, 1) := by decide +kernel
theorem dX10_findsLeast_84 : decode cX10_findsLeast 84 = .ok (.iastore, 1) := by decide +kernel
theorem dX10_findsLeast_85 : decode cX10_findsLeast 85 = .ok (.iinc 6 1, 3) := by decide +kernel
theorem dX10_findsLeast_88 : decode cX10_findsLeast 88 = .ok (.goto (-23), 3) := by decide +kernel
theorem dX10_findsLeast_91 : decode cX10_findsLeast 91 = .ok (.iinc 4 1, 3) := by decide +kernel
theorem dX10_findsLeast_94 : decode cX10_findsLeast 94 = .ok (.goto (-70), 3) := by decide +kernel
theorem dX10_findsLeast_97 : decode cX10_findsLeast 97 = .ok (.iload_n 3, 1) := by decide +kernel
theorem dX10_findsLeast_98 : decode cX10_findsLeast 98 = .ok (.ireturn, 1) := by decide +kernel
def fX10_findsLeast (p0 : Nat) (p1 : Int32) (h : mxH) : Option (Int32 × mxH) := Option.bind (mxLoop (ρ := Int32) (fun s1 : (Int32 × Int32) => (if p1 < s1.2 then some (Sum.inr s1.1) else some (Sum.inl (s1.1 * s1.2, s1.2 + 1)))) mxF (1, 2)) (fun r10 : Int32 => Option.bind (mxLoop (ρ := (Int32 × mxH)) (fun s11 : (Int32 × Int32 × mxH) => (if r10 ≤ s11.2.1 then some (Sum.inr (s11.1, s11.2.2)) else Option.bind (isO s11.2.2 p0 10) (fun u20 => Option.bind (fX10_laysOrder p0 s11.2.1 p1 r10 s11.2.2) (fun o23 => Option.bind (isO o23 p0 10) (fun u24 => Option.bind (fX10_swapsOf p0 p1 o23) (fun v27 => Option.bind (α := (Int32 × mxH)) (if s11.1 = (-1) then Option.bind (mxLoop (ρ := mxH) (fun s32 : (Int32 × mxH) => (if p1 ≤ s32.1 then some (Sum.inr s32.2) else Option.bind (gR s32.2 p0 10 12) (fun r41 => Option.bind (gR s32.2 p0 10 11) (fun r43 => Option.bind (ldI s32.2 r43 s32.1) (fun v45 => Option.bind (stI s32.2 r41 s32.1 v45) (fun h47 => some (Sum.inl (s32.1 + 1, h47)))))))) mxF (0, o23)) (fun r49 : mxH => some (v27, r49)) else (if v27 < s11.1 then Option.bind (mxLoop (ρ := mxH) (fun s52 : (Int32 × mxH) => (if p1 ≤ s52.1 then some (Sum.inr s52.2) else Option.bind (gR s52.2 p0 10 12) (fun r61 => Option.bind (gR s52.2 p0 10 11) (fun r63 => Option.bind (ldI s52.2 r63 s52.1) (fun v65 => Option.bind (stI s52.2 r61 s52.1 v65) (fun h67 => some (Sum.inl (s52.1 + 1, h67)))))))) mxF (0, o23)) (fun r69 : mxH => some (v27, r69)) else some (s11.1, o23))) (fun p30' : (Int32 × mxH) => some (Sum.inl (p30'.1, s11.2.1 + 1, p30'.2))))))))) mxF ((-1), 0, h)) (fun r72 : (Int32 × mxH) => some (r72.1, r72.2)))
abbrev rmX10_findsLeast : Room := { frames := 4, cells := 0, slots := 0, locals := 94 }
set_option maxRecDepth 20000 in
theorem tX10_findsLeast {l : Launch} {Z : mxZ} (hl : l.stackTraces = false) {p0 : Nat} {p1 : Int32} {h : mxH} {out : (Int32 × mxH)} (hf : fX10_findsLeast p0 p1 h = some out) : mxMet l Z yX10_findsLeast cX10_findsLeast 7 (some .int) rmX10_findsLeast [.ref p0, .int p1] h (.inl (some (.int out.1))) out.2 := by
  refine mxMet_of (by decide) hl (by simp [Value.category]) (Nat.le_of_ble_eq_true rfl) ?_
  intro X C E hX hin
  unfold fX10_findsLeast at hf
  refine mG_ic (pc := 0) C dX10_findsLeast_0 kI1 ?_
  refine mG_isn (ls' := [some (.ref p0), some (.int p1), some (.int 1), none, none, none, none]) (pc := 1) C dX10_findsLeast_1 rfl rfl rfl ?_
  refine mG_ic (pc := 2) C dX10_findsLeast_2 kI2 ?_
  refine mG_isn (ls' := [some (.ref p0), some (.int p1), some (.int 1), some (.int 2), none, none, none]) (pc := 3) C dX10_findsLeast_3 rfl rfl rfl ?_
  obtain ⟨r2, e3, hf⟩ := mx_bind hf
  have J4 : ∀ r10 : Int32, r10 = r2 → mG l Z X 7 0 0 19 [some (.ref p0), some (.int p1), some (.int r10), none, none, none, none] [] h := by
    intro r10 q74
    subst q74
    refine mG_ic (pc := 19) C dX10_findsLeast_19 kIm1 ?_
    refine mG_isn (ls' := [some (.ref p0), some (.int p1), some (.int r10), some (.int (-1)), none, none, none]) (pc := 20) C dX10_findsLeast_20 rfl rfl rfl ?_
    refine mG_ic (pc := 21) C dX10_findsLeast_21 kI0 ?_
    refine mG_is (ls' := [some (.ref p0), some (.int p1), some (.int r10), some (.int (-1)), some (.int 0), none, none]) (pc := 22) C dX10_findsLeast_22 rfl rfl rfl ?_
    obtain ⟨r12, e13, hf⟩ := mx_bind hf
    have J14 : ∀ r72 : (Int32 × mxH), r72 = r12 → mG l Z X 7 0 0 97 [none, none, none, some (.int r72.1), none, none, none] [] r72.2 := by
      intro r72 q73
      subst q73
      refine mG_iload_n (pc := 97) C dX10_findsLeast_97 rfl ?_
      cases hf
      exact mG_ir (pc := 98) C E hX dX10_findsLeast_98 rfl
    refine mG_sub (ls' := [some (.ref p0), some (.int p1), some (.int r10), some (.int (-1)), some (.int 0), none, none]) (mxLe_s (mxLe_s (mxLe_s (mxLe_s (mxLe_s (mxLe_n (mxLe_n mxLe_z))))))) (mxLoop_ind (K := fun s11 : (Int32 × Int32 × mxH) => mG l Z X 7 0 0 24 [some (.ref p0), some (.int p1), some (.int r10), some (.int s11.1), some (.int s11.2.1), none, none] [] s11.2.2) ?_ _ _ e13)
    intro s11 o17 e18 hK15 hx16
    refine mG_iload (pc := 24) C dX10_findsLeast_24 rfl ?_
    refine mG_iload_n (pc := 26) C dX10_findsLeast_26 rfl ?_
    refine mG_icmp_ge (pc := 27) (tgt := 97) C dX10_findsLeast_27 (by decide) (fun q19 => ?_) (fun q19 => ?_)
    · rw [if_pos q19] at e18
      exact mG_sub (mxLe_n (mxLe_n (mxLe_n (mxLe_s (mxLe_n (mxLe_n (mxLe_n mxLe_z))))))) (J14 _ (hx16 _ (Option.some.inj e18).symm))
    · rw [if_neg q19] at e18
      refine mG_aload_n (pc := 30) C dX10_findsLeast_30 rfl ?_
      refine mG_iload (pc := 31) C dX10_findsLeast_31 rfl ?_
      refine mG_iload_n (pc := 33) C dX10_findsLeast_33 rfl ?_
      refine mG_iload_n (pc := 34) C dX10_findsLeast_34 rfl ?_
      obtain ⟨u20, e21, e18⟩ := mx_bind e18
      obtain ⟨o23, e22, e18⟩ := mx_bind e18
      refine mG_cV (pc := 35) (k' := 0) (n' := 0) 10 [.int s11.2.1, .int p1, .int r10] [] C hX dX10_findsLeast_35 lkV_X10_157 rfl rfl e21 (tX10_laysOrder hl e22) rfl rfl rfl rfl ?_
      refine mG_aload_n (pc := 38) C dX10_findsLeast_38 rfl ?_
      refine mG_iload_n (pc := 39) C dX10_findsLeast_39 rfl ?_
      obtain ⟨u24, e25, e18⟩ := mx_bind e18
      obtain ⟨v27, e26, e18⟩ := mx_bind e18
      refine mG_cV (pc := 40) (k' := 0) (n' := 0) 10 [.int p1] [] C hX dX10_findsLeast_40 lkV_X10_160 rfl rfl e25 (tX10_swapsOf hl e26) rfl rfl rfl rfl ?_
      refine mG_is (ls' := [some (.ref p0), some (.int p1), some (.int r10), some (.int s11.1), some (.int s11.2.1), some (.int v27), none]) (pc := 43) C dX10_findsLeast_43 rfl rfl rfl ?_
      refine mG_iload_n (pc := 45) C dX10_findsLeast_45 rfl ?_
      refine mG_ic (pc := 46) C dX10_findsLeast_46 kIm1 ?_
      obtain ⟨p30, e31, e18⟩ := mx_bind e18
      have J29 : ∀ p30' : (Int32 × mxH), p30' = p30 → mG l Z X 7 0 0 91 [some (.ref p0), some (.int p1), some (.int r10), some (.int p30'.1), some (.int s11.2.1), none, none] [] p30'.2 := by
        intro p30' q71
        subst q71
        refine mG_ii (ls' := [some (.ref p0), some (.int p1), some (.int r10), some (.int p30'.1), some (.int (s11.2.1 + 1)), none, none]) (pc := 91) C dX10_findsLeast_91 rfl (kinc1 _) rfl rfl rfl ?_
        refine mG_goto (tgt := 24) (pc := 94) C dX10_findsLeast_94 (by decide) ?_
        exact mG_sub (mxLe_s (mxLe_s (mxLe_s (mxLe_s (mxLe_s (mxLe_n (mxLe_n mxLe_z))))))) (hK15 _ (Option.some.inj e18).symm)
      refine mG_icmp_eq (pc := 47) (tgt := 59) C dX10_findsLeast_47 (by decide) (fun q28 => ?_) (fun q28 => ?_)
      · rw [if_pos q28] at e31
        refine mG_iload (pc := 59) C dX10_findsLeast_59 rfl ?_
        refine mG_isn (ls' := [some (.ref p0), some (.int p1), some (.int r10), some (.int v27), some (.int s11.2.1), some (.int v27), none]) (pc := 61) C dX10_findsLeast_61 rfl rfl rfl ?_
        refine mG_ic (pc := 62) C dX10_findsLeast_62 kI0 ?_
        refine mG_is (ls' := [some (.ref p0), some (.int p1), some (.int r10), some (.int v27), some (.int s11.2.1), some (.int v27), some (.int 0)]) (pc := 63) C dX10_findsLeast_63 rfl rfl rfl ?_
        obtain ⟨r33, e34, e31⟩ := mx_bind e31
        have J35 : ∀ r49 : mxH, r49 = r33 → mG l Z X 7 0 0 91 [some (.ref p0), some (.int p1), some (.int r10), some (.int v27), some (.int s11.2.1), none, none] [] r49 := by
          intro r49 q50
          subst q50
          exact mG_sub (mxLe_s (mxLe_s (mxLe_s (mxLe_s (mxLe_s (mxLe_n (mxLe_n mxLe_z))))))) (J29 _ (Option.some.inj e31))
        refine mG_sub (ls' := [some (.ref p0), some (.int p1), some (.int r10), some (.int v27), some (.int s11.2.1), none, some (.int 0)]) (mxLe_s (mxLe_s (mxLe_s (mxLe_s (mxLe_s (mxLe_n (mxLe_s mxLe_z))))))) (mxLoop_ind (K := fun s32 : (Int32 × mxH) => mG l Z X 7 0 0 65 [some (.ref p0), some (.int p1), some (.int r10), some (.int v27), some (.int s11.2.1), none, some (.int s32.1)] [] s32.2) ?_ _ _ e34)
        intro s32 o38 e39 hK36 hx37
        refine mG_iload (pc := 65) C dX10_findsLeast_65 rfl ?_
        refine mG_iload_n (pc := 67) C dX10_findsLeast_67 rfl ?_
        refine mG_icmp_ge (pc := 68) (tgt := 91) C dX10_findsLeast_68 (by decide) (fun q40 => ?_) (fun q40 => ?_)
        · rw [if_pos q40] at e39
          exact mG_sub (mxLe_s (mxLe_s (mxLe_s (mxLe_s (mxLe_s (mxLe_n (mxLe_n mxLe_z))))))) (J35 _ (hx37 _ (Option.some.inj e39).symm))
        · rw [if_neg q40] at e39
          refine mG_aload_n (pc := 71) C dX10_findsLeast_71 rfl ?_
          obtain ⟨r41, e42, e39⟩ := mx_bind e39
          refine mG_getR (pc := 72) C dX10_findsLeast_72 fl_X10_40 e42 ?_
          refine mG_iload (pc := 75) C dX10_findsLeast_75 rfl ?_
          refine mG_aload_n (pc := 77) C dX10_findsLeast_77 rfl ?_
          obtain ⟨r43, e44, e39⟩ := mx_bind e39
          refine mG_getR (pc := 78) C dX10_findsLeast_78 fl_X10_37 e44 ?_
          refine mG_iload (pc := 81) C dX10_findsLeast_81 rfl ?_
          obtain ⟨v45, e46, e39⟩ := mx_bind e39
          refine mG_iaload (pc := 83) C dX10_findsLeast_83 e46 ?_
          obtain ⟨h47, e48, e39⟩ := mx_bind e39
          refine mG_iastore (pc := 84) C dX10_findsLeast_84 e48 ?_
          refine mG_ii (ls' := [some (.ref p0), some (.int p1), some (.int r10), some (.int v27), some (.int s11.2.1), none, some (.int (s32.1 + 1))]) (pc := 85) C dX10_findsLeast_85 rfl (kinc1 _) rfl rfl rfl ?_
          refine mG_goto (tgt := 65) (pc := 88) C dX10_findsLeast_88 (by decide) ?_
          exact mG_sub (mxLe_s (mxLe_s (mxLe_s (mxLe_s (mxLe_s (mxLe_n (mxLe_s mxLe_z))))))) (hK36 _ (Option.some.inj e39).symm)
      · rw [if_neg q28] at e31
        refine mG_iload (pc := 50) C dX10_findsLeast_50 rfl ?_
        refine mG_iload_n (pc := 52) C dX10_findsLeast_52 rfl ?_
        refine mG_icmp_lt (pc := 53) (tgt := 59) C dX10_findsLeast_53 (by decide) (fun q51 => ?_) (fun q51 => ?_)
        · rw [if_pos q51] at e31
          refine mG_iload (pc := 59) C dX10_findsLeast_59 rfl ?_
          refine mG_isn (ls' := [some (.ref p0), some (.int p1), some (.int r10), some (.int v27), some (.int s11.2.1), some (.int v27), none]) (pc := 61) C dX10_findsLeast_61 rfl rfl rfl ?_
          refine mG_ic (pc := 62) C dX10_findsLeast_62 kI0 ?_
          refine mG_is (ls' := [some (.ref p0), some (.int p1), some (.int r10), some (.int v27), some (.int s11.2.1), some (.int v27), some (.int 0)]) (pc := 63) C dX10_findsLeast_63 rfl rfl rfl ?_
          obtain ⟨r53, e54, e31⟩ := mx_bind e31
          have J55 : ∀ r69 : mxH, r69 = r53 → mG l Z X 7 0 0 91 [some (.ref p0), some (.int p1), some (.int r10), some (.int v27), some (.int s11.2.1), none, none] [] r69 := by
            intro r69 q70
            subst q70
            exact mG_sub (mxLe_s (mxLe_s (mxLe_s (mxLe_s (mxLe_s (mxLe_n (mxLe_n mxLe_z))))))) (J29 _ (Option.some.inj e31))
          refine mG_sub (ls' := [some (.ref p0), some (.int p1), some (.int r10), some (.int v27), some (.int s11.2.1), none, some (.int 0)]) (mxLe_s (mxLe_s (mxLe_s (mxLe_s (mxLe_s (mxLe_n (mxLe_s mxLe_z))))))) (mxLoop_ind (K := fun s52 : (Int32 × mxH) => mG l Z X 7 0 0 65 [some (.ref p0), some (.int p1), some (.int r10), some (.int v27), some (.int s11.2.1), none, some (.int s52.1)] [] s52.2) ?_ _ _ e54)
          intro s52 o58 e59 hK56 hx57
          refine mG_iload (pc := 65) C dX10_findsLeast_65 rfl ?_
          refine mG_iload_n (pc := 67) C dX10_findsLeast_67 rfl ?_
          refine mG_icmp_ge (pc := 68) (tgt := 91) C dX10_findsLeast_68 (by decide) (fun q60 => ?_) (fun q60 => ?_)
          · rw [if_pos q60] at e59
            exact mG_sub (mxLe_s (mxLe_s (mxLe_s (mxLe_s (mxLe_s (mxLe_n (mxLe_n mxLe_z))))))) (J55 _ (hx57 _ (Option.some.inj e59).symm))
          · rw [if_neg q60] at e59
            refine mG_aload_n (pc := 71) C dX10_findsLeast_71 rfl ?_
            obtain ⟨r61, e62, e59⟩ := mx_bind e59
            refine mG_getR (pc := 72) C dX10_findsLeast_72 fl_X10_40 e62 ?_
            refine mG_iload (pc := 75) C dX10_findsLeast_75 rfl ?_
            refine mG_aload_n (pc := 77) C dX10_findsLeast_77 rfl ?_
            obtain ⟨r63, e64, e59⟩ := mx_bind e59
            refine mG_getR (pc := 78) C dX10_findsLeast_78 fl_X10_37 e64 ?_
            refine mG_iload (pc := 81) C dX10_findsLeast_81 rfl ?_
            obtain ⟨v65, e66, e59⟩ := mx_bind e59
            refine mG_iaload (pc := 83) C dX10_findsLeast_83 e66 ?_
            obtain ⟨h67, e68, e59⟩ := mx_bind e59
            refine mG_iastore (pc := 84) C dX10_findsLeast_84 e68 ?_
            refine mG_ii (ls' := [some (.ref p0), some (.int p1), some (.int r10), some (.int v27), some (.int s11.2.1), none, some (.int (s52.1 + 1))]) (pc := 85) C dX10_findsLeast_85 rfl (kinc1 _) rfl rfl rfl ?_
            refine mG_goto (tgt := 65) (pc := 88) C dX10_findsLeast_88 (by decide) ?_
            exact mG_sub (mxLe_s (mxLe_s (mxLe_s (mxLe_s (mxLe_s (mxLe_n (mxLe_s mxLe_z))))))) (hK56 _ (Option.some.inj e59).symm)
        · rw [if_neg q51] at e31
          refine mG_goto (tgt := 91) (pc := 56) C dX10_findsLeast_56 (by decide) ?_
          exact mG_sub (mxLe_s (mxLe_s (mxLe_s (mxLe_s (mxLe_s (mxLe_n (mxLe_n mxLe_z))))))) (J29 _ (Option.some.inj e31))
  refine mG_sub (ls' := [some (.ref p0), some (.int p1), some (.int 1), some (.int 2), none, none, none]) (mxLe_s (mxLe_s (mxLe_s (mxLe_s (mxLe_n (mxLe_n (mxLe_n mxLe_z))))))) (mxLoop_ind (K := fun s1 : (Int32 × Int32) => mG l Z X 7 0 0 4 [some (.ref p0), some (.int p1), some (.int s1.1), some (.int s1.2), none, none, none] [] h) ?_ _ _ e3)
  intro s1 o7 e8 hK5 hx6
  refine mG_iload_n (pc := 4) C dX10_findsLeast_4 rfl ?_
  refine mG_iload_n (pc := 5) C dX10_findsLeast_5 rfl ?_
  refine mG_icmp_gt (pc := 6) (tgt := 19) C dX10_findsLeast_6 (by decide) (fun q9 => ?_) (fun q9 => ?_)
  · rw [if_pos q9] at e8
    exact mG_sub (mxLe_s (mxLe_s (mxLe_s (mxLe_n (mxLe_n (mxLe_n (mxLe_n mxLe_z))))))) (J4 _ (hx6 _ (Option.some.inj e8).symm))
  · rw [if_neg q9] at e8
    refine mG_iload_n (pc := 9) C dX10_findsLeast_9 rfl ?_
    refine mG_iload_n (pc := 10) C dX10_findsLeast_10 rfl ?_
    refine mG_imul (pc := 11) C dX10_findsLeast_11 ?_
    refine mG_isn (ls' := [some (.ref p0), some (.int p1), some (.int (s1.1 * s1.2)), some (.int s1.2), none, none, none]) (pc := 12) C dX10_findsLeast_12 rfl rfl rfl ?_
    refine mG_ii (ls' := [some (.ref p0), some (.int p1), some (.int (s1.1 * s1.2)), some (.int (s1.2 + 1)), none, none, none]) (pc := 13) C dX10_findsLeast_13 rfl (kinc1 _) rfl rfl rfl ?_
    refine mG_goto (tgt := 4) (pc := 16) C dX10_findsLeast_16 (by decide) ?_
    exact mG_sub (mxLe_s (mxLe_s (mxLe_s (mxLe_s (mxLe_n (mxLe_n (mxLe_n mxLe_z))))))) (hK5 _ (Option.some.inj e8).symm)
theorem dX10_inWindow_0 : decode cX10_inWindow 0 = .ok (.aload_n 0, 1) := by decide +kernel
theorem dX10_inWindow_1 : decode cX10_inWindow 1 = .ok (.getfield 9, 3) := by decide +kernel
theorem dX10_inWindow_4 : decode cX10_inWindow 4 = .ok (.bipush 110, 2) := by decide +kernel
theorem dX10_inWindow_6 : decode cX10_inWindow 6 = .ok (.iaload, 1) := by decide +kernel
theorem dX10_inWindow_7 : decode cX10_inWindow 7 = .ok (.aload_n 0, 1) := by decide +kernel
theorem dX10_inWindow_8 : decode cX10_inWindow 8 = .ok (.getfield 9, 3) := by decide +kernel
theorem dX10_inWindow_11 : decode cX10_inWindow 11 = .ok (.bipush 108, 2) := by decide +kernel
theorem dX10_inWindow_13 : decode cX10_inWindow 13 = .ok (.iaload, 1) := by decide +kernel
theorem dX10_inWindow_14 : decode cX10_inWindow 14 = .ok (.invokestatic 134, 3) := by decide +kernel
theorem dX10_inWindow_17 : decode cX10_inWindow 17 = .ok (.ireturn, 1) := by decide +kernel
def fX10_inWindow (p0 : Nat) (h : mxH) : Option Int32 := Option.bind (gR h p0 10 0) (fun r1 => Option.bind (ldI h r1 110) (fun v3 => Option.bind (gR h p0 10 0) (fun r5 => Option.bind (ldI h r5 108) (fun v7 => some (mxMin v3 v7)))))
abbrev rmX10_inWindow : Room := { frames := 1, cells := 0, slots := 0, locals := 21 }
set_option maxRecDepth 20000 in
theorem tX10_inWindow {l : Launch} {Z : mxZ} (hl : l.stackTraces = false) {p0 : Nat} {h : mxH} {out : Int32} (hf : fX10_inWindow p0 h = some out) : mxMet l Z yX10_inWindow cX10_inWindow 1 (some .int) rmX10_inWindow [.ref p0] h (.inl (some (.int out))) h := by
  refine mxMet_of (by decide) hl (by simp [Value.category]) (Nat.le_of_ble_eq_true rfl) ?_
  intro X C E hX hin
  unfold fX10_inWindow at hf
  refine mG_aload_n (pc := 0) C dX10_inWindow_0 rfl ?_
  obtain ⟨r1, e2, hf⟩ := mx_bind hf
  refine mG_getR (pc := 1) C dX10_inWindow_1 fl_X10_9 e2 ?_
  refine mG_bp (pc := 4) C dX10_inWindow_4 kB110 ?_
  obtain ⟨v3, e4, hf⟩ := mx_bind hf
  refine mG_iaload (pc := 6) C dX10_inWindow_6 e4 ?_
  refine mG_aload_n (pc := 7) C dX10_inWindow_7 rfl ?_
  obtain ⟨r5, e6, hf⟩ := mx_bind hf
  refine mG_getR (pc := 8) C dX10_inWindow_8 fl_X10_9 e6 ?_
  refine mG_bp (pc := 11) C dX10_inWindow_11 kB108 ?_
  obtain ⟨v7, e8, hf⟩ := mx_bind hf
  refine mG_iaload (pc := 13) C dX10_inWindow_13 e8 ?_
  refine mG_mn (pc := 14) C hX dX10_inWindow_14 w1382 wmin rfl rfl ?_
  cases hf
  exact mG_ir (pc := 17) C E hX dX10_inWindow_17 rfl
theorem dX10_counts_0 : decode cX10_counts 0 = .ok (.iconst (-1), 1) := by decide +kernel
theorem dX10_counts_1 : decode cX10_counts 1 = .ok (.istore_n 2, 1) := by decide +kernel
theorem dX10_counts_2 : decode cX10_counts 2 = .ok (.aload_n 0, 1) := by decide +kernel
theorem dX10_counts_3 : decode cX10_counts 3 = .ok (.getfield 9, 3) := by decide +kernel
theorem dX10_counts_6 : decode cX10_counts 6 = .ok (.bipush 109, 2) := by decide +kernel
theorem dX10_counts_8 : decode cX10_counts 8 = .ok (.iaload, 1) := by decide +kernel
theorem dX10_counts_9 : decode cX10_counts 9 = .ok (.iconst 1, 1) := by decide +kernel
theorem dX10_counts_10 : decode cX10_counts 10 = .ok (.isub, 1) := by decide +kernel
theorem dX10_counts_11 : decode cX10_counts 11 = .ok (.istore_n 3, 1) := by decide +kernel
theorem dX10_counts_12 : decode cX10_counts 12 = .ok (.iload_n 3, 1) := by decide +kernel
theorem dX10_counts_13 : decode cX10_counts 13 = .ok (.ifCond .lt 54, 3) := by decide +kernel
theorem dX10_counts_16 : decode cX10_counts 16 = .ok (.aload_n 0, 1) := by decide +kernel
theorem dX10_counts_17 : decode cX10_counts 17 = .ok (.getfield 9, 3) := by decide +kernel
theorem dX10_counts_20 : decode cX10_counts 20 = .ok (.sipush 221, 3) := by decide +kernel
theorem dX10_counts_23 : decode cX10_counts 23 = .ok (.iload_n 3, 1) := by decide +kernel
theorem dX10_counts_24 : decode cX10_counts 24 = .ok (.iadd, 1) := by decide +kernel
theorem dX10_counts_25 : decode cX10_counts 25 = .ok (.iaload, 1) := by decide +kernel
theorem dX10_counts_26 : decode cX10_counts 26 = .ok (.iload_n 1, 1) := by decide +kernel
theorem dX10_counts_27 : decode cX10_counts 27 = .ok (.if_icmp .ne 18, 3) := by decide +kernel
theorem dX10_counts_30 : decode cX10_counts 30 = .ok (.aload_n 0, 1) := by decide +kernel
theorem dX10_counts_31 : decode cX10_counts 31 = .ok (.getfield 9, 3) := by decide +kernel
theorem dX10_counts_34 : decode cX10_counts 34 = .ok (.sipush 225, 3) := by decide +kernel
theorem dX10_counts_37 : decode cX10_counts 37 = .ok (.iload_n 3, 1) := by decide +kernel
theorem dX10_counts_38 : decode cX10_counts 38 = .ok (.iadd, 1) := by decide +kernel
theorem dX10_counts_39 : decode cX10_counts 39 = .ok (.dup2, 1) := by decide +kernel
theorem dX10_counts_40 : decode cX10_counts 40 = .ok (.iaload, 1) := by decide +kernel
theorem dX10_counts_41 : decode cX10_counts 41 = .ok (.iconst 1, 1) := by decide +kernel
theorem dX10_counts_42 : decode cX10_counts 42 = .ok (.iadd, 1) := by decide +kernel
theorem dX10_counts_43 : decode cX10_counts 43 = .ok (.iastore, 1) := by decide +kernel
theorem dX10_counts_44 : decode cX10_counts 44 = .ok (.return_, 1) := by decide +kernel
theorem dX10_counts_45 : decode cX10_counts 45 = .ok (.aload_n 0, 1) := by decide +kernel
theorem dX10_counts_46 : decode cX10_counts 46 = .ok (.getfield 9, 3) := by decide +kernel
theorem dX10_counts_49 : decode cX10_counts 49 = .ok (.sipush 221, 3) := by decide +kernel
theorem dX10_counts_52 : decode cX10_counts 52 = .ok (.iload_n 3, 1) := by decide +kernel
theorem dX10_counts_53 : decode cX10_counts 53 = .ok (.iadd, 1) := by decide +kernel
theorem dX10_counts_54 : decode cX10_counts 54 = .ok (.iaload, 1) := by decide +kernel
theorem dX10_counts_55 : decode cX10_counts 55 = .ok (.iconst (-1), 1) := by decide +kernel
theorem dX10_counts_56 : decode cX10_counts 56 = .ok (.if_icmp .ne 5, 3) := by decide +kernel
theorem dX10_counts_59 : decode cX10_counts 59 = .ok (.iload_n 3, 1) := by decide +kernel
theorem dX10_counts_60 : decode cX10_counts 60 = .ok (.istore_n 2, 1) := by decide +kernel
theorem dX10_counts_61 : decode cX10_counts 61 = .ok (.iinc 3 (-1), 3) := by decide +kernel
theorem dX10_counts_64 : decode cX10_counts 64 = .ok (.goto (-52), 3) := by decide +kernel
theorem dX10_counts_67 : decode cX10_counts 67 = .ok (.iload_n 2, 1) := by decide +kernel
theorem dX10_counts_68 : decode cX10_counts 68 = .ok (.iconst (-1), 1) := by decide +kernel
theorem dX10_counts_69 : decode cX10_counts 69 = .ok (.if_icmp .eq 26, 3) := by decide +kernel
theorem dX10_counts_72 : decode cX10_counts 72 = .ok (.aload_n 0, 1) := by decide +kernel
theorem dX10_counts_73 : decode cX10_counts 73 = .ok (.getfield 9, 3) := by decide +kernel
theorem dX10_counts_76 : decode cX10_counts 76 = .ok (.sipush 221, 3) := by decide +kernel
theorem dX10_counts_79 : decode cX10_counts 79 = .ok (.iload_n 2, 1) := by decide +kernel
theorem dX10_counts_80 : decode cX10_counts 80 = .ok (.iadd, 1) := by decide +kernel
theorem dX10_counts_81 : decode cX10_counts 81 = .ok (.iload_n 1, 1) := by decide +kernel
theorem dX10_counts_82 : decode cX10_counts 82 = .ok (.iastore, 1) := by decide +kernel
theorem dX10_counts_83 : decode cX10_counts 83 = .ok (.aload_n 0, 1) := by decide +kernel
theorem dX10_counts_84 : decode cX10_counts 84 = .ok (.getfield 9, 3) := by decide +kernel
theorem dX10_counts_87 : decode cX10_counts 87 = .ok (.sipush 225, 3) := by decide +kernel
theorem dX10_counts_90 : decode cX10_counts 90 = .ok (.iload_n 2, 1) := by decide +kernel
theorem dX10_counts_91 : decode cX10_counts 91 = .ok (.iadd, 1) := by decide +kernel
theorem dX10_counts_92 : decode cX10_counts 92 = .ok (.iconst 1, 1) := by decide +kernel
theorem dX10_counts_93 : decode cX10_counts 93 = .ok (.iastore, 1) := by decide +kernel
theorem dX10_counts_94 : decode cX10_counts 94 = .ok (.return_, 1) := by decide +kernel
theorem dX10_counts_95 : decode cX10_counts 95 = .ok (.aload_n 0, 1) := by decide +kernel
theorem dX10_counts_96 : decode cX10_counts 96 = .ok (.getfield 9, 3) := by decide +kernel
theorem dX10_counts_99 : decode cX10_counts 99 = .ok (.sipush 229, 3) := by decide +kernel
theorem dX10_counts_102 : decode cX10_counts 102 = .ok (.dup2, 1) := by decide +kernel
theorem dX10_counts_103 : decode cX10_counts 103 = .ok (.iaload, 1) := by decide +kernel
theorem dX10_counts_104 : decode cX10_counts 104 = .ok (.iconst 1, 1) := by decide +kernel
theorem dX10_counts_105 : decode cX10_counts 105 = .ok (.iadd, 1) := by decide +kernel
theorem dX10_counts_106 : decode cX10_counts 106 = .ok (.iastore, 1) := by decide +kernel
theorem dX10_counts_107 : decode cX10_counts 107 = .ok (.iconst 0, 1) := by decide +kernel
theorem dX10_counts_108 : decode cX10_counts 108 = .ok (.istore_n 3, 1) := by decide +kernel
theorem dX10_counts_109 : decode cX10_counts 109 = .ok (.iload_n 3, 1) := by decide +kernel
theorem dX10_counts_110 : decode cX10_counts 110 = .ok (.aload_n 0, 1) := by decide +kernel
theorem dX10_counts_111 : decode cX10_counts 111 = .ok (.getfield 9, 3) := by decide +kernel
theorem dX10_counts_114 : decode cX10_counts 114 = .ok (.bipush 109, 2) := by decide +kernel
theorem dX10_counts_116 : decode cX10_counts 116 = .ok (.iaload, 1) := by decide +kernel
theorem dX10_counts_117 : decode cX10_counts 117 = .ok (.if_icmp .ge 47, 3) := by decide +kernel
theorem dX10_counts_120 : decode cX10_counts 120 = .ok (.aload_n 0, 1) := by decide +kernel
theorem dX10_counts_121 : decode cX10_counts 121 = .ok (.getfield 9, 3) := by decide +kernel
theorem dX10_counts_124 : decode cX10_counts 124 = .ok (.sipush 225, 3) := by decide +kernel
theorem dX10_counts_127 : decode cX10_counts 127 = .ok (.iload_n 3, 1) := by decide +kernel
theorem dX10_counts_128 : decode cX10_counts 128 = .ok (.iadd, 1) := by decide +kernel
theorem dX10_counts_129 : decode cX10_counts 129 = .ok (.dup2, 1) := by decide +kernel
theorem dX10_counts_130 : decode cX10_counts 130 = .ok (.iaload, 1) := by decide +kernel
theorem dX10_counts_131 : decode cX10_counts 131 = .ok (.iconst 1, 1) := by decide +kernel
theorem dX10_counts_132 : decode cX10_counts 132 = .ok (.isub, 1) := by decide +kernel
theorem dX10_counts_133 : decode cX10_counts 133 = .ok (.iastore, 1) := by decide +kernel
theorem dX10_counts_134 : decode cX10_counts 134 = .ok (.aload_n 0, 1) := by decide +kernel
theorem dX10_counts_135 : decode cX10_counts 135 = .ok (.getfield 9, 3) := by decide +kernel
theorem dX10_counts_138 : decode cX10_counts 138 = .ok (.sipush 225, 3) := by decide +kernel
theorem dX10_counts_141 : decode cX10_counts 141 = .ok (.iload_n 3, 1) := by decide +kernel
theorem dX10_counts_142 : decode cX10_counts 142 = .ok (.iadd, 1) := by decide +kernel
theorem dX10_counts_143 : decode cX10_counts 143 = .ok (.iaload, 1) := by decide +kernel
theorem dX10_counts_144 : decode cX10_counts 144 = .ok (.ifCond .ne 14, 3) := by decide +kernel
theorem dX10_counts_147 : decode cX10_counts 147 = .ok (.aload_n 0, 1) := by decide +kernel
theorem dX10_counts_148 : decode cX10_counts 148 = .ok (.getfield 9, 3) := by decide +kernel
theorem dX10_counts_151 : decode cX10_counts 151 = .ok (.sipush 221, 3) := by decide +kernel
theorem dX10_counts_154 : decode cX10_counts 154 = .ok (.iload_n 3, 1) := by decide +kernel
theorem dX10_counts_155 : decode cX10_counts 155 = .ok (.iadd, 1) := by decide +kernel
theorem dX10_counts_156 : decode cX10_counts 156 = .ok (.iconst (-1), 1) := by decide +kernel
theorem dX10_counts_157 : decode cX10_counts 157 = .ok (.iastore, 1) := by decide +kernel
theorem dX10_counts_158 : decode cX10_counts 158 = .ok (.iinc 3 1, 3) := by decide +kernel
theorem dX10_counts_161 : decode cX10_counts 161 = .ok (.goto (-52), 3) := by decide +kernel
theorem dX10_counts_164 : decode cX10_counts 164 = .ok (.return_, 1) := by decide +kernel
def fX10_counts (p0 : Nat) (p1 : Int32) (h : mxH) : Option mxH := Option.bind (gR h p0 10 0) (fun r1 => Option.bind (ldI h r1 109) (fun v3 => Option.bind (mxLoop (ρ := (Int32 ⊕ Int32)) (fun s5 : (Int32 × Int32) => (if s5.2 < 0 then some (Sum.inr (Sum.inr s5.1)) else Option.bind (gR h p0 10 0) (fun r15 => Option.bind (ldI h r15 (221 + s5.2)) (fun v17 => (if v17 = p1 then some (Sum.inr (Sum.inl s5.2)) else Option.bind (gR h p0 10 0) (fun r20 => Option.bind (ldI h r20 (221 + s5.2)) (fun v22 => Option.bind (α := Int32) (if v22 = (-1) then some s5.2 else some s5.1) (fun p26' : Int32 => some (Sum.inl (p26', s5.2 - 1)))))))))) mxF ((-1), v3 - 1)) (Sum.elim (fun r29 : Int32 => Option.bind (gR h p0 10 0) (fun r30 => Option.bind (ldI h r30 (225 + r29)) (fun v32 => Option.bind (stI h r30 (225 + r29) (v32 + 1)) (fun h34 => some h34)))) (fun r37 : Int32 => (if r37 = (-1) then Option.bind (gR h p0 10 0) (fun r39 => Option.bind (ldI h r39 229) (fun v41 => Option.bind (stI h r39 229 (v41 + 1)) (fun h43 => Option.bind (mxLoop (ρ := mxH) (fun s45 : (Int32 × mxH) => Option.bind (gR s45.2 p0 10 0) (fun r53 => Option.bind (ldI s45.2 r53 109) (fun v55 => (if v55 ≤ s45.1 then some (Sum.inr s45.2) else Option.bind (gR s45.2 p0 10 0) (fun r58 => Option.bind (ldI s45.2 r58 (225 + s45.1)) (fun v60 => Option.bind (stI s45.2 r58 (225 + s45.1) (v60 - 1)) (fun h62 => Option.bind (gR h62 p0 10 0) (fun r64 => Option.bind (ldI h62 r64 (225 + s45.1)) (fun v66 => Option.bind (α := mxH) (if v66 = 0 then Option.bind (gR h62 p0 10 0) (fun r72 => Option.bind (stI h62 r72 (221 + s45.1) (-1)) (fun h74 => some h74)) else some h62) (fun p70' : mxH => some (Sum.inl (s45.1 + 1, p70')))))))))))) mxF (0, h43)) (fun r77 : mxH => some r77)))) else Option.bind (gR h p0 10 0) (fun r79 => Option.bind (stI h r79 (221 + r37) p1) (fun h81 => Option.bind (gR h81 p0 10 0) (fun r83 => Option.bind (stI h81 r83 (225 + r37) 1) (fun h85 => some h85)))))))))
abbrev rmX10_counts : Room := { frames := 0, cells := 0, slots := 0, locals := 0 }
set_option maxRecDepth 20000 in
theorem tX10_counts {l : Launch} {Z : mxZ} (hl : l.stackTraces = false) {p0 : Nat} {p1 : Int32} {h : mxH} {out : mxH} (hf : fX10_counts p0 p1 h = some out) : mxMet l Z yX10_counts cX10_counts 4 (none) rmX10_counts [.ref p0, .int p1] h (.inl none) out := by
  refine mxMet_of (by decide) hl (by simp [Value.category]) (Nat.le_of_ble_eq_true rfl) ?_
  intro X C E hX hin
  unfold fX10_counts at hf
  refine mG_ic (pc := 0) C dX10_counts_0 kIm1 ?_
  refine mG_isn (ls' := [some (.ref p0), some (.int p1), some (.int (-1)), none]) (pc := 1) C dX10_counts_1 rfl rfl rfl ?_
  refine mG_aload_n (pc := 2) C dX10_counts_2 rfl ?_
  obtain ⟨r1, e2, hf⟩ := mx_bind hf
  refine mG_getR (pc := 3) C dX10_counts_3 fl_X10_9 e2 ?_
  refine mG_bp (pc := 6) C dX10_counts_6 kB109 ?_
  obtain ⟨v3, e4, hf⟩ := mx_bind hf
  refine mG_iaload (pc := 8) C dX10_counts_8 e4 ?_
  refine mG_ic (pc := 9) C dX10_counts_9 kI1 ?_
  refine mG_isub (pc := 10) C dX10_counts_10 ?_
  refine mG_isn (ls' := [some (.ref p0), some (.int p1), some (.int (-1)), some (.int (v3 - 1))]) (pc := 11) C dX10_counts_11 rfl rfl rfl ?_
  obtain ⟨r6, e7, hf⟩ := mx_bind hf
  have J8 : ∀ r29 : Int32, Sum.inl r29 = r6 → mG l Z X 4 0 0 30 [some (.ref p0), none, none, some (.int r29)] [] h := by
    intro r29 q36
    subst q36
    rw [Sum.elim_inl] at hf
    refine mG_aload_n (pc := 30) C dX10_counts_30 rfl ?_
    obtain ⟨r30, e31, hf⟩ := mx_bind hf
    refine mG_getR (pc := 31) C dX10_counts_31 fl_X10_9 e31 ?_
    refine mG_sp (pc := 34) C dX10_counts_34 kS225 ?_
    refine mG_iload_n (pc := 37) C dX10_counts_37 rfl ?_
    refine mG_iadd (pc := 38) C dX10_counts_38 ?_
    refine mG_dup2 (pc := 39) C dX10_counts_39 rfl rfl ?_
    obtain ⟨v32, e33, hf⟩ := mx_bind hf
    refine mG_iaload (pc := 40) C dX10_counts_40 e33 ?_
    refine mG_ic (pc := 41) C dX10_counts_41 kI1 ?_
    refine mG_iadd (pc := 42) C dX10_counts_42 ?_
    obtain ⟨h34, e35, hf⟩ := mx_bind hf
    refine mG_iastore (pc := 43) C dX10_counts_43 e35 ?_
    cases hf
    exact mG_vr (pc := 44) C E hX dX10_counts_44 rfl
  have J9 : ∀ r37 : Int32, Sum.inr r37 = r6 → mG l Z X 4 0 0 67 [some (.ref p0), some (.int p1), some (.int r37), none] [] h := by
    intro r37 q87
    subst q87
    rw [Sum.elim_inr] at hf
    refine mG_iload_n (pc := 67) C dX10_counts_67 rfl ?_
    refine mG_ic (pc := 68) C dX10_counts_68 kIm1 ?_
    refine mG_icmp_eq (pc := 69) (tgt := 95) C dX10_counts_69 (by decide) (fun q38 => ?_) (fun q38 => ?_)
    · rw [if_pos q38] at hf
      refine mG_aload_n (pc := 95) C dX10_counts_95 rfl ?_
      obtain ⟨r39, e40, hf⟩ := mx_bind hf
      refine mG_getR (pc := 96) C dX10_counts_96 fl_X10_9 e40 ?_
      refine mG_sp (pc := 99) C dX10_counts_99 kS229 ?_
      refine mG_dup2 (pc := 102) C dX10_counts_102 rfl rfl ?_
      obtain ⟨v41, e42, hf⟩ := mx_bind hf
      refine mG_iaload (pc := 103) C dX10_counts_103 e42 ?_
      refine mG_ic (pc := 104) C dX10_counts_104 kI1 ?_
      refine mG_iadd (pc := 105) C dX10_counts_105 ?_
      obtain ⟨h43, e44, hf⟩ := mx_bind hf
      refine mG_iastore (pc := 106) C dX10_counts_106 e44 ?_
      refine mG_ic (pc := 107) C dX10_counts_107 kI0 ?_
      refine mG_isn (ls' := [some (.ref p0), some (.int p1), some (.int r37), some (.int 0)]) (pc := 108) C dX10_counts_108 rfl rfl rfl ?_
      obtain ⟨r46, e47, hf⟩ := mx_bind hf
      have J48 : ∀ r77 : mxH, r77 = r46 → mG l Z X 4 0 0 164 [none, none, none, none] [] r77 := by
        intro r77 q78
        subst q78
        cases hf
        exact mG_vr (pc := 164) C E hX dX10_counts_164 rfl
      refine mG_sub (ls' := [some (.ref p0), none, none, some (.int 0)]) (mxLe_s (mxLe_n (mxLe_n (mxLe_s mxLe_z)))) (mxLoop_ind (K := fun s45 : (Int32 × mxH) => mG l Z X 4 0 0 109 [some (.ref p0), none, none, some (.int s45.1)] [] s45.2) ?_ _ _ e47)
      intro s45 o51 e52 hK49 hx50
      refine mG_iload_n (pc := 109) C dX10_counts_109 rfl ?_
      refine mG_aload_n (pc := 110) C dX10_counts_110 rfl ?_
      obtain ⟨r53, e54, e52⟩ := mx_bind e52
      refine mG_getR (pc := 111) C dX10_counts_111 fl_X10_9 e54 ?_
      refine mG_bp (pc := 114) C dX10_counts_114 kB109 ?_
      obtain ⟨v55, e56, e52⟩ := mx_bind e52
      refine mG_iaload (pc := 116) C dX10_counts_116 e56 ?_
      refine mG_icmp_ge (pc := 117) (tgt := 164) C dX10_counts_117 (by decide) (fun q57 => ?_) (fun q57 => ?_)
      · rw [if_pos q57] at e52
        exact mG_sub (mxLe_n (mxLe_n (mxLe_n (mxLe_n mxLe_z)))) (J48 _ (hx50 _ (Option.some.inj e52).symm))
      · rw [if_neg q57] at e52
        refine mG_aload_n (pc := 120) C dX10_counts_120 rfl ?_
        obtain ⟨r58, e59, e52⟩ := mx_bind e52
        refine mG_getR (pc := 121) C dX10_counts_121 fl_X10_9 e59 ?_
        refine mG_sp (pc := 124) C dX10_counts_124 kS225 ?_
        refine mG_iload_n (pc := 127) C dX10_counts_127 rfl ?_
        refine mG_iadd (pc := 128) C dX10_counts_128 ?_
        refine mG_dup2 (pc := 129) C dX10_counts_129 rfl rfl ?_
        obtain ⟨v60, e61, e52⟩ := mx_bind e52
        refine mG_iaload (pc := 130) C dX10_counts_130 e61 ?_
        refine mG_ic (pc := 131) C dX10_counts_131 kI1 ?_
        refine mG_isub (pc := 132) C dX10_counts_132 ?_
        obtain ⟨h62, e63, e52⟩ := mx_bind e52
        refine mG_iastore (pc := 133) C dX10_counts_133 e63 ?_
        refine mG_aload_n (pc := 134) C dX10_counts_134 rfl ?_
        obtain ⟨r64, e65, e52⟩ := mx_bind e52
        refine mG_getR (pc := 135) C dX10_counts_135 fl_X10_9 e65 ?_
        refine mG_sp (pc := 138) C dX10_counts_138 kS225 ?_
        refine mG_iload_n (pc := 141) C dX10_counts_141 rfl ?_
        refine mG_iadd (pc := 142) C dX10_counts_142 ?_
        obtain ⟨v66, e67, e52⟩ := mx_bind e52
        refine mG_iaload (pc := 143) C dX10_counts_143 e67 ?_
        obtain ⟨p70, e71, e52⟩ := mx_bind e52
        have J69 : ∀ p70' : mxH, p70' = p70 → mG l Z X 4 0 0 158 [some (.ref p0), none, none, some (.int s45.1)] [] p70' := by
          intro p70' q76
          subst q76
          refine mG_ii (ls' := [some (.ref p0), none, none, some (.int (s45.1 + 1))]) (pc := 158) C dX10_counts_158 rfl (kinc1 _) rfl rfl rfl ?_
          refine mG_goto (tgt := 109) (pc := 161) C dX10_counts_161 (by decide) ?_
          exact mG_sub (mxLe_s (mxLe_n (mxLe_n (mxLe_s mxLe_z)))) (hK49 _ (Option.some.inj e52).symm)
        refine mG_if_ne (pc := 144) (tgt := 158) C dX10_counts_144 (by decide) (fun q68 => ?_) (fun q68 => ?_)
        · rw [if_neg q68] at e71
          exact mG_sub (mxLe_s (mxLe_n (mxLe_n (mxLe_s mxLe_z)))) (J69 _ (Option.some.inj e71))
        · rw [if_pos q68] at e71
          refine mG_aload_n (pc := 147) C dX10_counts_147 rfl ?_
          obtain ⟨r72, e73, e71⟩ := mx_bind e71
          refine mG_getR (pc := 148) C dX10_counts_148 fl_X10_9 e73 ?_
          refine mG_sp (pc := 151) C dX10_counts_151 kS221 ?_
          refine mG_iload_n (pc := 154) C dX10_counts_154 rfl ?_
          refine mG_iadd (pc := 155) C dX10_counts_155 ?_
          refine mG_ic (pc := 156) C dX10_counts_156 kIm1 ?_
          obtain ⟨h74, e75, e71⟩ := mx_bind e71
          refine mG_iastore (pc := 157) C dX10_counts_157 e75 ?_
          exact mG_sub (mxLe_s (mxLe_n (mxLe_n (mxLe_s mxLe_z)))) (J69 _ (Option.some.inj e71))
    · rw [if_neg q38] at hf
      refine mG_aload_n (pc := 72) C dX10_counts_72 rfl ?_
      obtain ⟨r79, e80, hf⟩ := mx_bind hf
      refine mG_getR (pc := 73) C dX10_counts_73 fl_X10_9 e80 ?_
      refine mG_sp (pc := 76) C dX10_counts_76 kS221 ?_
      refine mG_iload_n (pc := 79) C dX10_counts_79 rfl ?_
      refine mG_iadd (pc := 80) C dX10_counts_80 ?_
      refine mG_iload_n (pc := 81) C dX10_counts_81 rfl ?_
      obtain ⟨h81, e82, hf⟩ := mx_bind hf
      refine mG_iastore (pc := 82) C dX10_counts_82 e82 ?_
      refine mG_aload_n (pc := 83) C dX10_counts_83 rfl ?_
      obtain ⟨r83, e84, hf⟩ := mx_bind hf
      refine mG_getR (pc := 84) C dX10_counts_84 fl_X10_9 e84 ?_
      refine mG_sp (pc := 87) C dX10_counts_87 kS225 ?_
      refine mG_iload_n (pc := 90) C dX10_counts_90 rfl ?_
      refine mG_iadd (pc := 91) C dX10_counts_91 ?_
      refine mG_ic (pc := 92) C dX10_counts_92 kI1 ?_
      obtain ⟨h85, e86, hf⟩ := mx_bind hf
      refine mG_iastore (pc := 93) C dX10_counts_93 e86 ?_
      cases hf
      exact mG_vr (pc := 94) C E hX dX10_counts_94 rfl
  refine mG_sub (ls' := [some (.ref p0), some (.int p1), some (.int (-1)), some (.int (v3 - 1))]) (mxLe_s (mxLe_s (mxLe_s (mxLe_s mxLe_z)))) (mxLoop_ind (K := fun s5 : (Int32 × Int32) => mG l Z X 4 0 0 12 [some (.ref p0), some (.int p1), some (.int s5.1), some (.int s5.2)] [] h) ?_ _ _ e7)
  intro s5 o12 e13 hK10 hx11
  refine mG_iload_n (pc := 12) C dX10_counts_12 rfl ?_
  refine mG_if_lt (pc := 13) (tgt := 67) C dX10_counts_13 (by decide) (fun q14 => ?_) (fun q14 => ?_)
  · rw [if_pos q14] at e13
    exact mG_sub (mxLe_s (mxLe_s (mxLe_s (mxLe_n mxLe_z)))) (J9 _ (hx11 _ (Option.some.inj e13).symm))
  · rw [if_neg q14] at e13
    refine mG_aload_n (pc := 16) C dX10_counts_16 rfl ?_
    obtain ⟨r15, e16, e13⟩ := mx_bind e13
    refine mG_getR (pc := 17) C dX10_counts_17 fl_X10_9 e16 ?_
    refine mG_sp (pc := 20) C dX10_counts_20 kS221 ?_
    refine mG_iload_n (pc := 23) C dX10_counts_23 rfl ?_
    refine mG_iadd (pc := 24) C dX10_counts_24 ?_
    obtain ⟨v17, e18, e13⟩ := mx_bind e13
    refine mG_iaload (pc := 25) C dX10_counts_25 e18 ?_
    refine mG_iload_n (pc := 26) C dX10_counts_26 rfl ?_
    refine mG_icmp_ne (pc := 27) (tgt := 45) C dX10_counts_27 (by decide) (fun q19 => ?_) (fun q19 => ?_)
    · rw [if_neg q19] at e13
      refine mG_aload_n (pc := 45) C dX10_counts_45 rfl ?_
      obtain ⟨r20, e21, e13⟩ := mx_bind e13
      refine mG_getR (pc := 46) C dX10_counts_46 fl_X10_9 e21 ?_
      refine mG_sp (pc := 49) C dX10_counts_49 kS221 ?_
      refine mG_iload_n (pc := 52) C dX10_counts_52 rfl ?_
      refine mG_iadd (pc := 53) C dX10_counts_53 ?_
      obtain ⟨v22, e23, e13⟩ := mx_bind e13
      refine mG_iaload (pc := 54) C dX10_counts_54 e23 ?_
      refine mG_ic (pc := 55) C dX10_counts_55 kIm1 ?_
      obtain ⟨p26, e27, e13⟩ := mx_bind e13
      have J25 : ∀ p26' : Int32, p26' = p26 → mG l Z X 4 0 0 61 [some (.ref p0), some (.int p1), some (.int p26'), some (.int s5.2)] [] h := by
        intro p26' q28
        subst q28
        refine mG_ii (ls' := [some (.ref p0), some (.int p1), some (.int p26'), some (.int (s5.2 - 1))]) (pc := 61) C dX10_counts_61 rfl (kincm1 _) rfl rfl rfl ?_
        refine mG_goto (tgt := 12) (pc := 64) C dX10_counts_64 (by decide) ?_
        exact mG_sub (mxLe_s (mxLe_s (mxLe_s (mxLe_s mxLe_z)))) (hK10 _ (Option.some.inj e13).symm)
      refine mG_icmp_ne (pc := 56) (tgt := 61) C dX10_counts_56 (by decide) (fun q24 => ?_) (fun q24 => ?_)
      · rw [if_neg q24] at e27
        exact mG_sub (mxLe_s (mxLe_s (mxLe_s (mxLe_s mxLe_z)))) (J25 _ (Option.some.inj e27))
      · rw [if_pos q24] at e27
        refine mG_iload_n (pc := 59) C dX10_counts_59 rfl ?_
        refine mG_isn (ls' := [some (.ref p0), some (.int p1), some (.int s5.2), some (.int s5.2)]) (pc := 60) C dX10_counts_60 rfl rfl rfl ?_
        exact mG_sub (mxLe_s (mxLe_s (mxLe_s (mxLe_s mxLe_z)))) (J25 _ (Option.some.inj e27))
    · rw [if_pos q19] at e13
      exact mG_sub (mxLe_s (mxLe_n (mxLe_n (mxLe_s mxLe_z)))) (J8 _ (hx11 _ (Option.some.inj e13).symm))
theorem dX10_keeps_0 : decode cX10_keeps 0 = .ok (.aload_n 0, 1) := by decide +kernel
theorem dX10_keeps_1 : decode cX10_keeps 1 = .ok (.getfield 163, 3) := by decide +kernel
theorem dX10_keeps_4 : decode cX10_keeps 4 = .ok (.bipush 8, 2) := by decide +kernel
theorem dX10_keeps_6 : decode cX10_keeps 6 = .ok (.if_icmp .ne 31, 3) := by decide +kernel
theorem dX10_keeps_9 : decode cX10_keeps 9 = .ok (.aload_n 0, 1) := by decide +kernel
theorem dX10_keeps_10 : decode cX10_keeps 10 = .ok (.getfield 13, 3) := by decide +kernel
theorem dX10_keeps_13 : decode cX10_keeps 13 = .ok (.sipush 230, 3) := by decide +kernel
theorem dX10_keeps_16 : decode cX10_keeps 16 = .ok (.aload_n 0, 1) := by decide +kernel
theorem dX10_keeps_17 : decode cX10_keeps 17 = .ok (.getfield 13, 3) := by decide +kernel
theorem dX10_keeps_20 : decode cX10_keeps 20 = .ok (.iconst 0, 1) := by decide +kernel
theorem dX10_keeps_21 : decode cX10_keeps 21 = .ok (.sipush 1610, 3) := by decide +kernel
theorem dX10_keeps_24 : decode cX10_keeps 24 = .ok (.invokestatic 166, 3) := by decide +kernel
theorem dX10_keeps_27 : decode cX10_keeps 27 = .ok (.aload_n 0, 1) := by decide +kernel
theorem dX10_keeps_28 : decode cX10_keeps 28 = .ok (.dup, 1) := by decide +kernel
theorem dX10_keeps_29 : decode cX10_keeps 29 = .ok (.getfield 163, 3) := by decide +kernel
theorem dX10_keeps_32 : decode cX10_keeps 32 = .ok (.iconst 1, 1) := by decide +kernel
theorem dX10_keeps_33 : decode cX10_keeps 33 = .ok (.isub, 1) := by decide +kernel
theorem dX10_keeps_34 : decode cX10_keeps 34 = .ok (.putfield 163, 3) := by decide +kernel
theorem dX10_keeps_37 : decode cX10_keeps 37 = .ok (.aload_n 0, 1) := by decide +kernel
theorem dX10_keeps_38 : decode cX10_keeps 38 = .ok (.getfield 9, 3) := by decide +kernel
theorem dX10_keeps_41 : decode cX10_keeps 41 = .ok (.iconst 0, 1) := by decide +kernel
theorem dX10_keeps_42 : decode cX10_keeps 42 = .ok (.aload_n 0, 1) := by decide +kernel
theorem dX10_keeps_43 : decode cX10_keeps 43 = .ok (.getfield 13, 3) := by decide +kernel
theorem dX10_keeps_46 : decode cX10_keeps 46 = .ok (.aload_n 0, 1) := by decide +kernel
theorem dX10_keeps_47 : decode cX10_keeps 47 = .ok (.getfield 163, 3) := by decide +kernel
theorem dX10_keeps_50 : decode cX10_keeps 50 = .ok (.sipush 230, 3) := by decide +kernel
theorem dX10_keeps_53 : decode cX10_keeps 53 = .ok (.imul, 1) := by decide +kernel
theorem dX10_keeps_54 : decode cX10_keeps 54 = .ok (.sipush 230, 3) := by decide +kernel
theorem dX10_keeps_57 : decode cX10_keeps 57 = .ok (.invokestatic 166, 3) := by decide +kernel
theorem dX10_keeps_60 : decode cX10_keeps 60 = .ok (.aload_n 0, 1) := by decide +kernel
theorem dX10_keeps_61 : decode cX10_keeps 61 = .ok (.dup, 1) := by decide +kernel
theorem dX10_keeps_62 : decode cX10_keeps 62 = .ok (.getfield 163, 3) := by decide +kernel
theorem dX10_keeps_65 : decode cX10_keeps 65 = .ok (.iconst 1, 1) := by decide +kernel
theorem dX10_keeps_66 : decode cX10_keeps 66 = .ok (.iadd, 1) := by decide +kernel
theorem dX10_keeps_67 : decode cX10_keeps 67 = .ok (.putfield 163, 3) := by decide +kernel
theorem dX10_keeps_70 : decode cX10_keeps 70 = .ok (.return_, 1) := by decide +kernel
def fX10_keeps (p0 : Nat) (h : mxH) : Option mxH := Option.bind (gI h p0 10 2) (fun v1 => Option.bind (α := mxH) (if v1 = 8 then Option.bind (gR h p0 10 1) (fun r7 => Option.bind (gR h p0 10 1) (fun r9 => Option.bind (cpI h r7 230 r9 0 1610) (fun h11 => Option.bind (gI h11 p0 10 2) (fun v13 => Option.bind (pI h11 p0 10 2 (v13 - 1)) (fun h15 => some h15))))) else some h) (fun p5' : mxH => Option.bind (gR p5' p0 10 0) (fun r17 => Option.bind (gR p5' p0 10 1) (fun r19 => Option.bind (gI p5' p0 10 2) (fun v21 => Option.bind (cpI p5' r17 0 r19 (v21 * 230) 230) (fun h23 => Option.bind (gI h23 p0 10 2) (fun v25 => Option.bind (pI h23 p0 10 2 (v25 + 1)) (fun h27 => some h27))))))))
abbrev rmX10_keeps : Room := { frames := 1, cells := 0, slots := 0, locals := 41 }
set_option maxRecDepth 20000 in
theorem tX10_keeps {l : Launch} {Z : mxZ} (hl : l.stackTraces = false) {p0 : Nat} {h : mxH} {out : mxH} (hf : fX10_keeps p0 h = some out) : mxMet l Z yX10_keeps cX10_keeps 1 (none) rmX10_keeps [.ref p0] h (.inl none) out := by
  refine mxMet_of (by decide) hl (by simp [Value.category]) (Nat.le_of_ble_eq_true rfl) ?_
  intro X C E hX hin
  unfold fX10_keeps at hf
  refine mG_aload_n (pc := 0) C dX10_keeps_0 rfl ?_
  obtain ⟨v1, e2, hf⟩ := mx_bind hf
  refine mG_getI (pc := 1) C dX10_keeps_1 fl_X10_163 e2 ?_
  refine mG_bp (pc := 4) C dX10_keeps_4 kB8 ?_
  obtain ⟨p5, e6, hf⟩ := mx_bind hf
  have J4 : ∀ p5' : mxH, p5' = p5 → mG l Z X 1 0 0 37 [some (.ref p0)] [] p5' := by
    intro p5' q29
    subst q29
    refine mG_aload_n (pc := 37) C dX10_keeps_37 rfl ?_
    obtain ⟨r17, e18, hf⟩ := mx_bind hf
    refine mG_getR (pc := 38) C dX10_keeps_38 fl_X10_9 e18 ?_
    refine mG_ic (pc := 41) C dX10_keeps_41 kI0 ?_
    refine mG_aload_n (pc := 42) C dX10_keeps_42 rfl ?_
    obtain ⟨r19, e20, hf⟩ := mx_bind hf
    refine mG_getR (pc := 43) C dX10_keeps_43 fl_X10_13 e20 ?_
    refine mG_aload_n (pc := 46) C dX10_keeps_46 rfl ?_
    obtain ⟨v21, e22, hf⟩ := mx_bind hf
    refine mG_getI (pc := 47) C dX10_keeps_47 fl_X10_163 e22 ?_
    refine mG_sp (pc := 50) C dX10_keeps_50 kS230 ?_
    refine mG_imul (pc := 53) C dX10_keeps_53 ?_
    refine mG_sp (pc := 54) C dX10_keeps_54 kS230 ?_
    obtain ⟨h23, e24, hf⟩ := mx_bind hf
    refine mG_ac (pc := 57) C hX dX10_keeps_57 w1237 wac e24 rfl rfl ?_
    refine mG_aload_n (pc := 60) C dX10_keeps_60 rfl ?_
    refine mG_dup (pc := 61) C dX10_keeps_61 rfl ?_
    obtain ⟨v25, e26, hf⟩ := mx_bind hf
    refine mG_getI (pc := 62) C dX10_keeps_62 fl_X10_163 e26 ?_
    refine mG_ic (pc := 65) C dX10_keeps_65 kI1 ?_
    refine mG_iadd (pc := 66) C dX10_keeps_66 ?_
    obtain ⟨h27, e28, hf⟩ := mx_bind hf
    refine mG_putI (pc := 67) C dX10_keeps_67 fl_X10_163 e28 ?_
    cases hf
    exact mG_vr (pc := 70) C E hX dX10_keeps_70 rfl
  refine mG_icmp_ne (pc := 6) (tgt := 37) C dX10_keeps_6 (by decide) (fun q3 => ?_) (fun q3 => ?_)
  · rw [if_neg q3] at e6
    exact mG_sub (mxLe_s mxLe_z) (J4 _ (Option.some.inj e6))
  · rw [if_pos q3] at e6
    refine mG_aload_n (pc := 9) C dX10_keeps_9 rfl ?_
    obtain ⟨r7, e8, e6⟩ := mx_bind e6
    refine mG_getR (pc := 10) C dX10_keeps_10 fl_X10_13 e8 ?_
    refine mG_sp (pc := 13) C dX10_keeps_13 kS230 ?_
    refine mG_aload_n (pc := 16) C dX10_keeps_16 rfl ?_
    obtain ⟨r9, e10, e6⟩ := mx_bind e6
    refine mG_getR (pc := 17) C dX10_keeps_17 fl_X10_13 e10 ?_
    refine mG_ic (pc := 20) C dX10_keeps_20 kI0 ?_
    refine mG_sp (pc := 21) C dX10_keeps_21 kS1610 ?_
    obtain ⟨h11, e12, e6⟩ := mx_bind e6
    refine mG_ac (pc := 24) C hX dX10_keeps_24 w1237 wac e12 rfl rfl ?_
    refine mG_aload_n (pc := 27) C dX10_keeps_27 rfl ?_
    refine mG_dup (pc := 28) C dX10_keeps_28 rfl ?_
    obtain ⟨v13, e14, e6⟩ := mx_bind e6
    refine mG_getI (pc := 29) C dX10_keeps_29 fl_X10_163 e14 ?_
    refine mG_ic (pc := 32) C dX10_keeps_32 kI1 ?_
    refine mG_isub (pc := 33) C dX10_keeps_33 ?_
    obtain ⟨h15, e16, e6⟩ := mx_bind e6
    refine mG_putI (pc := 34) C dX10_keeps_34 fl_X10_163 e16 ?_
    exact mG_sub (mxLe_s mxLe_z) (J4 _ (Option.some.inj e6))
theorem dX10_put_0 : decode cX10_put 0 = .ok (.aload_n 0, 1) := by decide +kernel
theorem dX10_put_1 : decode cX10_put 1 = .ok (.iconst 0, 1) := by decide +kernel
theorem dX10_put_2 : decode cX10_put 2 = .ok (.putfield 61, 3) := by decide +kernel
theorem dX10_put_5 : decode cX10_put 5 = .ok (.iload_n 1, 1) := by decide +kernel
theorem dX10_put_6 : decode cX10_put 6 = .ok (.invokestatic 172, 3) := by decide +kernel
theorem dX10_put_9 : decode cX10_put 9 = .ok (.ifCond .eq 10, 3) := by decide +kernel
theorem dX10_put_12 : decode cX10_put 12 = .ok (.iload_n 2, 1) := by decide +kernel
theorem dX10_put_13 : decode cX10_put 13 = .ok (.invokestatic 175, 3) := by decide +kernel
theorem dX10_put_16 : decode cX10_put 16 = .ok (.ifCond .ne 9, 3) := by decide +kernel
theorem dX10_put_19 : decode cX10_put 19 = .ok (.aload_n 0, 1) := by decide +kernel
theorem dX10_put_20 : decode cX10_put 20 = .ok (.iconst 1, 1) := by decide +kernel
theorem dX10_put_21 : decode cX10_put 21 = .ok (.invokevirtual 178, 3) := by decide +kernel
theorem dX10_put_24 : decode cX10_put 24 = .ok (.ireturn, 1) := by decide +kernel
theorem dX10_put_25 : decode cX10_put 25 = .ok (.iload_n 3, 1) := by decide +kernel
theorem dX10_put_26 : decode cX10_put 26 = .ok (.iconst 0, 1) := by decide +kernel
theorem dX10_put_27 : decode cX10_put 27 = .ok (.bipush 99, 2) := by decide +kernel
theorem dX10_put_29 : decode cX10_put 29 = .ok (.invokestatic 65, 3) := by decide +kernel
theorem dX10_put_32 : decode cX10_put 32 = .ok (.ifCond .ne 9, 3) := by decide +kernel
theorem dX10_put_35 : decode cX10_put 35 = .ok (.aload_n 0, 1) := by decide +kernel
theorem dX10_put_36 : decode cX10_put 36 = .ok (.iconst 2, 1) := by decide +kernel
theorem dX10_put_37 : decode cX10_put 37 = .ok (.invokevirtual 178, 3) := by decide +kernel
theorem dX10_put_40 : decode cX10_put 40 = .ok (.ireturn, 1) := by decide +kernel
theorem dX10_put_41 : decode cX10_put 41 = .ok (.aload_n 0, 1) := by decide +kernel
theorem dX10_put_42 : decode cX10_put 42 = .ok (.invokevirtual 181, 3) := by decide +kernel
theorem dX10_put_45 : decode cX10_put 45 = .ok (.aload_n 0, 1) := by decide +kernel
theorem dX10_put_46 : decode cX10_put 46 = .ok (.iload_n 1, 1) := by decide +kernel
theorem dX10_put_47 : decode cX10_put 47 = .ok (.iload_n 2, 1) := by decide +kernel
theorem dX10_put_48 : decode cX10_put 48 = .ok (.invokevirtual 69, 3) := by decide +kernel
theorem dX10_put_51 : decode cX10_put 51 = .ok (.istore 4, 2) := by decide +kernel
theorem dX10_put_53 : decode cX10_put 53 = .ok (.aload_n 0, 1) := by decide +kernel
theorem dX10_put_54 : decode cX10_put 54 = .ok (.iload_n 1, 1) := by decide +kernel
theorem dX10_put_55 : decode cX10_put 55 = .ok (.iload_n 2, 1) := by decide +kernel
theorem dX10_put_56 : decode cX10_put 56 = .ok (.iload_n 3, 1) := by decide +kernel
theorem dX10_put_57 : decode cX10_put 57 = .ok (.invokevirtual 53, 3) := by decide +kernel
theorem dX10_put_60 : decode cX10_put 60 = .ok (.iload 4, 2) := by decide +kernel
theorem dX10_put_62 : decode cX10_put 62 = .ok (.ireturn, 1) := by decide +kernel
def fX10_put (p0 : Nat) (p1 : Int32) (p2 : Int32) (p3 : Int32) (h : mxH) : Option (Int32 × mxH) := Option.bind (pI h p0 10 3 0) (fun h1 => Option.bind (fX10_isRow p1 h1) (fun v4 => (if v4 = 0 then Option.bind (isO h1 p0 10) (fun u6 => Option.bind (fX10_fails p0 1 h1) (fun o9 => some (o9.1, o9.2))) else Option.bind (fX10_isThing p2 h1) (fun v11 => (if v11 = 0 then Option.bind (isO h1 p0 10) (fun u32 => Option.bind (fX10_fails p0 1 h1) (fun o35 => some (o35.1, o35.2))) else Option.bind (fX10_in p3 0 99 h1) (fun v14 => (if v14 = 0 then Option.bind (isO h1 p0 10) (fun u28 => Option.bind (fX10_fails p0 2 h1) (fun o31 => some (o31.1, o31.2))) else Option.bind (isO h1 p0 10) (fun u16 => Option.bind (fX10_keeps p0 h1) (fun o19 => Option.bind (isO o19 p0 10) (fun u20 => Option.bind (fX10_mark p0 p1 p2 o19) (fun v23 => Option.bind (isO o19 p0 10) (fun u24 => Option.bind (fX10_lays p0 p1 p2 p3 o19) (fun o27 => some (v23, o27))))))))))))))
abbrev rmX10_put : Room := { frames := 2, cells := 0, slots := 0, locals := 61 }
set_option maxRecDepth 20000 in
theorem tX10_put {l : Launch} {Z : mxZ} (hl : l.stackTraces = false) {p0 : Nat} {p1 : Int32} {p2 : Int32} {p3 : Int32} {h : mxH} {out : (Int32 × mxH)} (hf : fX10_put p0 p1 p2 p3 h = some out) : mxMet l Z yX10_put cX10_put 5 (some .int) rmX10_put [.ref p0, .int p1, .int p2, .int p3] h (.inl (some (.int out.1))) out.2 := by
  refine mxMet_of (by decide) hl (by simp [Value.category]) (Nat.le_of_ble_eq_true rfl) ?_
  intro X C E hX hin
  unfold fX10_put at hf
  refine mG_aload_n (pc := 0) C dX10_put_0 rfl ?_
  refine mG_ic (pc := 1) C dX10_put_1 kI0 ?_
  obtain ⟨h1, e2, hf⟩ := mx_bind hf
  refine mG_putI (pc := 2) C dX10_put_2 fl_X10_61 e2 ?_
  refine mG_iload_n (pc := 5) C dX10_put_5 rfl ?_
  obtain ⟨v4, e3, hf⟩ := mx_bind hf
  refine mG_cS (pc := 6) (k' := 0) (n' := 0) [.int p1] [] C hX dX10_put_6 lkS_X10_172 rfl (tX10_isRow hl e3) rfl rfl rfl rfl ?_
  refine mG_if_eq (pc := 9) (tgt := 19) C dX10_put_9 (by decide) (fun q5 => ?_) (fun q5 => ?_)
  · rw [if_pos q5] at hf
    refine mG_aload_n (pc := 19) C dX10_put_19 rfl ?_
    refine mG_ic (pc := 20) C dX10_put_20 kI1 ?_
    obtain ⟨u6, e7, hf⟩ := mx_bind hf
    obtain ⟨o9, e8, hf⟩ := mx_bind hf
    refine mG_cV (pc := 21) (k' := 0) (n' := 0) 10 [.int 1] [] C hX dX10_put_21 lkV_X10_178 rfl rfl e7 (tX10_fails hl e8) rfl rfl rfl rfl ?_
    cases hf
    exact mG_ir (pc := 24) C E hX dX10_put_24 rfl
  · rw [if_neg q5] at hf
    refine mG_iload_n (pc := 12) C dX10_put_12 rfl ?_
    obtain ⟨v11, e10, hf⟩ := mx_bind hf
    refine mG_cS (pc := 13) (k' := 0) (n' := 0) [.int p2] [] C hX dX10_put_13 lkS_X10_175 rfl (tX10_isThing hl e10) rfl rfl rfl rfl ?_
    refine mG_if_ne (pc := 16) (tgt := 25) C dX10_put_16 (by decide) (fun q12 => ?_) (fun q12 => ?_)
    · rw [if_neg q12] at hf
      refine mG_iload_n (pc := 25) C dX10_put_25 rfl ?_
      refine mG_ic (pc := 26) C dX10_put_26 kI0 ?_
      refine mG_bp (pc := 27) C dX10_put_27 kB99 ?_
      obtain ⟨v14, e13, hf⟩ := mx_bind hf
      refine mG_cS (pc := 29) (k' := 0) (n' := 0) [.int p3, .int 0, .int 99] [] C hX dX10_put_29 lkS_X10_65 rfl (tX10_in hl e13) rfl rfl rfl rfl ?_
      refine mG_if_ne (pc := 32) (tgt := 41) C dX10_put_32 (by decide) (fun q15 => ?_) (fun q15 => ?_)
      · rw [if_neg q15] at hf
        refine mG_aload_n (pc := 41) C dX10_put_41 rfl ?_
        obtain ⟨u16, e17, hf⟩ := mx_bind hf
        obtain ⟨o19, e18, hf⟩ := mx_bind hf
        refine mG_cV (pc := 42) (k' := 0) (n' := 0) 10 [] [] C hX dX10_put_42 lkV_X10_181 rfl rfl e17 (tX10_keeps hl e18) rfl rfl rfl rfl ?_
        refine mG_aload_n (pc := 45) C dX10_put_45 rfl ?_
        refine mG_iload_n (pc := 46) C dX10_put_46 rfl ?_
        refine mG_iload_n (pc := 47) C dX10_put_47 rfl ?_
        obtain ⟨u20, e21, hf⟩ := mx_bind hf
        obtain ⟨v23, e22, hf⟩ := mx_bind hf
        refine mG_cV (pc := 48) (k' := 0) (n' := 0) 10 [.int p1, .int p2] [] C hX dX10_put_48 lkV_X10_69 rfl rfl e21 (tX10_mark hl e22) rfl rfl rfl rfl ?_
        refine mG_is (ls' := [some (.ref p0), some (.int p1), some (.int p2), some (.int p3), some (.int v23)]) (pc := 51) C dX10_put_51 rfl rfl rfl ?_
        refine mG_aload_n (pc := 53) C dX10_put_53 rfl ?_
        refine mG_iload_n (pc := 54) C dX10_put_54 rfl ?_
        refine mG_iload_n (pc := 55) C dX10_put_55 rfl ?_
        refine mG_iload_n (pc := 56) C dX10_put_56 rfl ?_
        obtain ⟨u24, e25, hf⟩ := mx_bind hf
        obtain ⟨o27, e26, hf⟩ := mx_bind hf
        refine mG_cV (pc := 57) (k' := 0) (n' := 0) 10 [.int p1, .int p2, .int p3] [] C hX dX10_put_57 lkV_X10_53 rfl rfl e25 (tX10_lays hl e26) rfl rfl rfl rfl ?_
        refine mG_iload (pc := 60) C dX10_put_60 rfl ?_
        cases hf
        exact mG_ir (pc := 62) C E hX dX10_put_62 rfl
      · rw [if_pos q15] at hf
        refine mG_aload_n (pc := 35) C dX10_put_35 rfl ?_
        refine mG_ic (pc := 36) C dX10_put_36 kI2 ?_
        obtain ⟨u28, e29, hf⟩ := mx_bind hf
        obtain ⟨o31, e30, hf⟩ := mx_bind hf
        refine mG_cV (pc := 37) (k' := 0) (n' := 0) 10 [.int 2] [] C hX dX10_put_37 lkV_X10_178 rfl rfl e29 (tX10_fails hl e30) rfl rfl rfl rfl ?_
        cases hf
        exact mG_ir (pc := 40) C E hX dX10_put_40 rfl
    · rw [if_pos q12] at hf
      refine mG_aload_n (pc := 19) C dX10_put_19 rfl ?_
      refine mG_ic (pc := 20) C dX10_put_20 kI1 ?_
      obtain ⟨u32, e33, hf⟩ := mx_bind hf
      obtain ⟨o35, e34, hf⟩ := mx_bind hf
      refine mG_cV (pc := 21) (k' := 0) (n' := 0) 10 [.int 1] [] C hX dX10_put_21 lkV_X10_178 rfl rfl e33 (tX10_fails hl e34) rfl rfl rfl rfl ?_
      cases hf
      exact mG_ir (pc := 24) C E hX dX10_put_24 rfl
theorem dX10_drop_0 : decode cX10_drop 0 = .ok (.aload_n 0, 1) := by decide +kernel
theorem dX10_drop_1 : decode cX10_drop 1 = .ok (.iconst 0, 1) := by decide +kernel
theorem dX10_drop_2 : decode cX10_drop 2 = .ok (.putfield 61, 3) := by decide +kernel
theorem dX10_drop_5 : decode cX10_drop 5 = .ok (.iload_n 1, 1) := by decide +kernel
theorem dX10_drop_6 : decode cX10_drop 6 = .ok (.invokestatic 172, 3) := by decide +kernel
theorem dX10_drop_9 : decode cX10_drop 9 = .ok (.ifCond .eq 10, 3) := by decide +kernel
theorem dX10_drop_12 : decode cX10_drop 12 = .ok (.iload_n 2, 1) := by decide +kernel
theorem dX10_drop_13 : decode cX10_drop 13 = .ok (.invokestatic 175, 3) := by decide +kernel
theorem dX10_drop_16 : decode cX10_drop 16 = .ok (.ifCond .ne 9, 3) := by decide +kernel
theorem dX10_drop_19 : decode cX10_drop 19 = .ok (.aload_n 0, 1) := by decide +kernel
theorem dX10_drop_20 : decode cX10_drop 20 = .ok (.iconst 1, 1) := by decide +kernel
theorem dX10_drop_21 : decode cX10_drop 21 = .ok (.invokevirtual 178, 3) := by decide +kernel
theorem dX10_drop_24 : decode cX10_drop 24 = .ok (.ireturn, 1) := by decide +kernel
theorem dX10_drop_25 : decode cX10_drop 25 = .ok (.aload_n 0, 1) := by decide +kernel
theorem dX10_drop_26 : decode cX10_drop 26 = .ok (.iload_n 1, 1) := by decide +kernel
theorem dX10_drop_27 : decode cX10_drop 27 = .ok (.iload_n 2, 1) := by decide +kernel
theorem dX10_drop_28 : decode cX10_drop 28 = .ok (.invokevirtual 73, 3) := by decide +kernel
theorem dX10_drop_31 : decode cX10_drop 31 = .ok (.ifCond .ne 9, 3) := by decide +kernel
theorem dX10_drop_34 : decode cX10_drop 34 = .ok (.aload_n 0, 1) := by decide +kernel
theorem dX10_drop_35 : decode cX10_drop 35 = .ok (.iconst 2, 1) := by decide +kernel
theorem dX10_drop_36 : decode cX10_drop 36 = .ok (.invokevirtual 178, 3) := by decide +kernel
theorem dX10_drop_39 : decode cX10_drop 39 = .ok (.ireturn, 1) := by decide +kernel
theorem dX10_drop_40 : decode cX10_drop 40 = .ok (.aload_n 0, 1) := by decide +kernel
theorem dX10_drop_41 : decode cX10_drop 41 = .ok (.invokevirtual 181, 3) := by decide +kernel
theorem dX10_drop_44 : decode cX10_drop 44 = .ok (.aload_n 0, 1) := by decide +kernel
theorem dX10_drop_45 : decode cX10_drop 45 = .ok (.iload_n 1, 1) := by decide +kernel
theorem dX10_drop_46 : decode cX10_drop 46 = .ok (.iload_n 2, 1) := by decide +kernel
theorem dX10_drop_47 : decode cX10_drop 47 = .ok (.invokevirtual 69, 3) := by decide +kernel
theorem dX10_drop_50 : decode cX10_drop 50 = .ok (.istore_n 3, 1) := by decide +kernel
theorem dX10_drop_51 : decode cX10_drop 51 = .ok (.aload_n 0, 1) := by decide +kernel
theorem dX10_drop_52 : decode cX10_drop 52 = .ok (.iload_n 1, 1) := by decide +kernel
theorem dX10_drop_53 : decode cX10_drop 53 = .ok (.iload_n 2, 1) := by decide +kernel
theorem dX10_drop_54 : decode cX10_drop 54 = .ok (.iconst (-1), 1) := by decide +kernel
theorem dX10_drop_55 : decode cX10_drop 55 = .ok (.invokevirtual 53, 3) := by decide +kernel
theorem dX10_drop_58 : decode cX10_drop 58 = .ok (.iload_n 3, 1) := by decide +kernel
theorem dX10_drop_59 : decode cX10_drop 59 = .ok (.ireturn, 1) := by decide +kernel
def fX10_drop (p0 : Nat) (p1 : Int32) (p2 : Int32) (h : mxH) : Option (Int32 × mxH) := Option.bind (pI h p0 10 3 0) (fun h1 => Option.bind (fX10_isRow p1 h1) (fun v4 => (if v4 = 0 then Option.bind (isO h1 p0 10) (fun u6 => Option.bind (fX10_fails p0 1 h1) (fun o9 => some (o9.1, o9.2))) else Option.bind (fX10_isThing p2 h1) (fun v11 => (if v11 = 0 then Option.bind (isO h1 p0 10) (fun u34 => Option.bind (fX10_fails p0 1 h1) (fun o37 => some (o37.1, o37.2))) else Option.bind (isO h1 p0 10) (fun u13 => Option.bind (fX10_has p0 p1 p2 h1) (fun v16 => (if v16 = 0 then Option.bind (isO h1 p0 10) (fun u30 => Option.bind (fX10_fails p0 2 h1) (fun o33 => some (o33.1, o33.2))) else Option.bind (isO h1 p0 10) (fun u18 => Option.bind (fX10_keeps p0 h1) (fun o21 => Option.bind (isO o21 p0 10) (fun u22 => Option.bind (fX10_mark p0 p1 p2 o21) (fun v25 => Option.bind (isO o21 p0 10) (fun u26 => Option.bind (fX10_lays p0 p1 p2 (-1) o21) (fun o29 => some (v25, o29)))))))))))))))
abbrev rmX10_drop : Room := { frames := 2, cells := 0, slots := 0, locals := 61 }
set_option maxRecDepth 20000 in
theorem tX10_drop {l : Launch} {Z : mxZ} (hl : l.stackTraces = false) {p0 : Nat} {p1 : Int32} {p2 : Int32} {h : mxH} {out : (Int32 × mxH)} (hf : fX10_drop p0 p1 p2 h = some out) : mxMet l Z yX10_drop cX10_drop 4 (some .int) rmX10_drop [.ref p0, .int p1, .int p2] h (.inl (some (.int out.1))) out.2 := by
  refine mxMet_of (by decide) hl (by simp [Value.category]) (Nat.le_of_ble_eq_true rfl) ?_
  intro X C E hX hin
  unfold fX10_drop at hf
  refine mG_aload_n (pc := 0) C dX10_drop_0 rfl ?_
  refine mG_ic (pc := 1) C dX10_drop_1 kI0 ?_
  obtain ⟨h1, e2, hf⟩ := mx_bind hf
  refine mG_putI (pc := 2) C dX10_drop_2 fl_X10_61 e2 ?_
  refine mG_iload_n (pc := 5) C dX10_drop_5 rfl ?_
  obtain ⟨v4, e3, hf⟩ := mx_bind hf
  refine mG_cS (pc := 6) (k' := 0) (n' := 0) [.int p1] [] C hX dX10_drop_6 lkS_X10_172 rfl (tX10_isRow hl e3) rfl rfl rfl rfl ?_
  refine mG_if_eq (pc := 9) (tgt := 19) C dX10_drop_9 (by decide) (fun q5 => ?_) (fun q5 => ?_)
  · rw [if_pos q5] at hf
    refine mG_aload_n (pc := 19) C dX10_drop_19 rfl ?_
    refine mG_ic (pc := 20) C dX10_drop_20 kI1 ?_
    obtain ⟨u6, e7, hf⟩ := mx_bind hf
    obtain ⟨o9, e8, hf⟩ := mx_bind hf
    refine mG_cV (pc := 21) (k' := 0) (n' := 0) 10 [.int 1] [] C hX dX10_drop_21 lkV_X10_178 rfl rfl e7 (tX10_fails hl e8) rfl rfl rfl rfl ?_
    cases hf
    exact mG_ir (pc := 24) C E hX dX10_drop_24 rfl
  · rw [if_neg q5] at hf
    refine mG_iload_n (pc := 12) C dX10_drop_12 rfl ?_
    obtain ⟨v11, e10, hf⟩ := mx_bind hf
    refine mG_cS (pc := 13) (k' := 0) (n' := 0) [.int p2] [] C hX dX10_drop_13 lkS_X10_175 rfl (tX10_isThing hl e10) rfl rfl rfl rfl ?_
    refine mG_if_ne (pc := 16) (tgt := 25) C dX10_drop_16 (by decide) (fun q12 => ?_) (fun q12 => ?_)
    · rw [if_neg q12] at hf
      refine mG_aload_n (pc := 25) C dX10_drop_25 rfl ?_
      refine mG_iload_n (pc := 26) C dX10_drop_26 rfl ?_
      refine mG_iload_n (pc := 27) C dX10_drop_27 rfl ?_
      obtain ⟨u13, e14, hf⟩ := mx_bind hf
      obtain ⟨v16, e15, hf⟩ := mx_bind hf
      refine mG_cV (pc := 28) (k' := 0) (n' := 0) 10 [.int p1, .int p2] [] C hX dX10_drop_28 lkV_X10_73 rfl rfl e14 (tX10_has hl e15) rfl rfl rfl rfl ?_
      refine mG_if_ne (pc := 31) (tgt := 40) C dX10_drop_31 (by decide) (fun q17 => ?_) (fun q17 => ?_)
      · rw [if_neg q17] at hf
        refine mG_aload_n (pc := 40) C dX10_drop_40 rfl ?_
        obtain ⟨u18, e19, hf⟩ := mx_bind hf
        obtain ⟨o21, e20, hf⟩ := mx_bind hf
        refine mG_cV (pc := 41) (k' := 0) (n' := 0) 10 [] [] C hX dX10_drop_41 lkV_X10_181 rfl rfl e19 (tX10_keeps hl e20) rfl rfl rfl rfl ?_
        refine mG_aload_n (pc := 44) C dX10_drop_44 rfl ?_
        refine mG_iload_n (pc := 45) C dX10_drop_45 rfl ?_
        refine mG_iload_n (pc := 46) C dX10_drop_46 rfl ?_
        obtain ⟨u22, e23, hf⟩ := mx_bind hf
        obtain ⟨v25, e24, hf⟩ := mx_bind hf
        refine mG_cV (pc := 47) (k' := 0) (n' := 0) 10 [.int p1, .int p2] [] C hX dX10_drop_47 lkV_X10_69 rfl rfl e23 (tX10_mark hl e24) rfl rfl rfl rfl ?_
        refine mG_isn (ls' := [some (.ref p0), some (.int p1), some (.int p2), some (.int v25)]) (pc := 50) C dX10_drop_50 rfl rfl rfl ?_
        refine mG_aload_n (pc := 51) C dX10_drop_51 rfl ?_
        refine mG_iload_n (pc := 52) C dX10_drop_52 rfl ?_
        refine mG_iload_n (pc := 53) C dX10_drop_53 rfl ?_
        refine mG_ic (pc := 54) C dX10_drop_54 kIm1 ?_
        obtain ⟨u26, e27, hf⟩ := mx_bind hf
        obtain ⟨o29, e28, hf⟩ := mx_bind hf
        refine mG_cV (pc := 55) (k' := 0) (n' := 0) 10 [.int p1, .int p2, .int (-1)] [] C hX dX10_drop_55 lkV_X10_53 rfl rfl e27 (tX10_lays hl e28) rfl rfl rfl rfl ?_
        refine mG_iload_n (pc := 58) C dX10_drop_58 rfl ?_
        cases hf
        exact mG_ir (pc := 59) C E hX dX10_drop_59 rfl
      · rw [if_pos q17] at hf
        refine mG_aload_n (pc := 34) C dX10_drop_34 rfl ?_
        refine mG_ic (pc := 35) C dX10_drop_35 kI2 ?_
        obtain ⟨u30, e31, hf⟩ := mx_bind hf
        obtain ⟨o33, e32, hf⟩ := mx_bind hf
        refine mG_cV (pc := 36) (k' := 0) (n' := 0) 10 [.int 2] [] C hX dX10_drop_36 lkV_X10_178 rfl rfl e31 (tX10_fails hl e32) rfl rfl rfl rfl ?_
        cases hf
        exact mG_ir (pc := 39) C E hX dX10_drop_39 rfl
    · rw [if_pos q12] at hf
      refine mG_aload_n (pc := 19) C dX10_drop_19 rfl ?_
      refine mG_ic (pc := 20) C dX10_drop_20 kI1 ?_
      obtain ⟨u34, e35, hf⟩ := mx_bind hf
      obtain ⟨o37, e36, hf⟩ := mx_bind hf
      refine mG_cV (pc := 21) (k' := 0) (n' := 0) 10 [.int 1] [] C hX dX10_drop_21 lkV_X10_178 rfl rfl e35 (tX10_fails hl e36) rfl rfl rfl rfl ?_
      cases hf
      exact mG_ir (pc := 24) C E hX dX10_drop_24 rfl
theorem dX10_setWeight_0 : decode cX10_setWeight 0 = .ok (.aload_n 0, 1) := by decide +kernel
theorem dX10_setWeight_1 : decode cX10_setWeight 1 = .ok (.iconst 0, 1) := by decide +kernel
theorem dX10_setWeight_2 : decode cX10_setWeight 2 = .ok (.putfield 61, 3) := by decide +kernel
theorem dX10_setWeight_5 : decode cX10_setWeight 5 = .ok (.iload_n 1, 1) := by decide +kernel
theorem dX10_setWeight_6 : decode cX10_setWeight 6 = .ok (.invokestatic 172, 3) := by decide +kernel
theorem dX10_setWeight_9 : decode cX10_setWeight 9 = .ok (.ifCond .ne 9, 3) := by decide +kernel
theorem dX10_setWeight_12 : decode cX10_setWeight 12 = .ok (.aload_n 0, 1) := by decide +kernel
theorem dX10_setWeight_13 : decode cX10_setWeight 13 = .ok (.iconst 1, 1) := by decide +kernel
theorem dX10_setWeight_14 : decode cX10_setWeight 14 = .ok (.invokevirtual 178, 3) := by decide +kernel
theorem dX10_setWeight_17 : decode cX10_setWeight 17 = .ok (.ireturn, 1) := by decide +kernel
theorem dX10_setWeight_18 : decode cX10_setWeight 18 = .ok (.iload_n 2, 1) := by decide +kernel
theorem dX10_setWeight_19 : decode cX10_setWeight 19 = .ok (.iconst 0, 1) := by decide +kernel
theorem dX10_setWeight_20 : decode cX10_setWeight 20 = .ok (.iconst 5, 1) := by decide +kernel
theorem dX10_setWeight_21 : decode cX10_setWeight 21 = .ok (.invokestatic 65, 3) := by decide +kernel
theorem dX10_setWeight_24 : decode cX10_setWeight 24 = .ok (.ifCond .ne 9, 3) := by decide +kernel
theorem dX10_setWeight_27 : decode cX10_setWeight 27 = .ok (.aload_n 0, 1) := by decide +kernel
theorem dX10_setWeight_28 : decode cX10_setWeight 28 = .ok (.iconst 2, 1) := by decide +kernel
theorem dX10_setWeight_29 : decode cX10_setWeight 29 = .ok (.invokevirtual 178, 3) := by decide +kernel
theorem dX10_setWeight_32 : decode cX10_setWeight 32 = .ok (.ireturn, 1) := by decide +kernel
theorem dX10_setWeight_33 : decode cX10_setWeight 33 = .ok (.aload_n 0, 1) := by decide +kernel
theorem dX10_setWeight_34 : decode cX10_setWeight 34 = .ok (.invokevirtual 181, 3) := by decide +kernel
theorem dX10_setWeight_37 : decode cX10_setWeight 37 = .ok (.aload_n 0, 1) := by decide +kernel
theorem dX10_setWeight_38 : decode cX10_setWeight 38 = .ok (.getfield 9, 3) := by decide +kernel
theorem dX10_setWeight_41 : decode cX10_setWeight 41 = .ok (.bipush 100, 2) := by decide +kernel
theorem dX10_setWeight_43 : decode cX10_setWeight 43 = .ok (.iload_n 1, 1) := by decide +kernel
theorem dX10_setWeight_44 : decode cX10_setWeight 44 = .ok (.iadd, 1) := by decide +kernel
theorem dX10_setWeight_45 : decode cX10_setWeight 45 = .ok (.iaload, 1) := by decide +kernel
theorem dX10_setWeight_46 : decode cX10_setWeight 46 = .ok (.istore_n 3, 1) := by decide +kernel
theorem dX10_setWeight_47 : decode cX10_setWeight 47 = .ok (.aload_n 0, 1) := by decide +kernel
theorem dX10_setWeight_48 : decode cX10_setWeight 48 = .ok (.getfield 9, 3) := by decide +kernel
theorem dX10_setWeight_51 : decode cX10_setWeight 51 = .ok (.bipush 100, 2) := by decide +kernel
theorem dX10_setWeight_53 : decode cX10_setWeight 53 = .ok (.iload_n 1, 1) := by decide +kernel
theorem dX10_setWeight_54 : decode cX10_setWeight 54 = .ok (.iadd, 1) := by decide +kernel
theorem dX10_setWeight_55 : decode cX10_setWeight 55 = .ok (.iload_n 2, 1) := by decide +kernel
theorem dX10_setWeight_56 : decode cX10_setWeight 56 = .ok (.iastore, 1) := by decide +kernel
theorem dX10_setWeight_57 : decode cX10_setWeight 57 = .ok (.iload_n 3, 1) := by decide +kernel
theorem dX10_setWeight_58 : decode cX10_setWeight 58 = .ok (.ireturn, 1) := by decide +kernel
def fX10_setWeight (p0 : Nat) (p1 : Int32) (p2 : Int32) (h : mxH) : Option (Int32 × mxH) := Option.bind (pI h p0 10 3 0) (fun h1 => Option.bind (fX10_isRow p1 h1) (fun v4 => (if v4 = 0 then Option.bind (isO h1 p0 10) (fun u25 => Option.bind (fX10_fails p0 1 h1) (fun o28 => some (o28.1, o28.2))) else Option.bind (fX10_in p2 0 5 h1) (fun v7 => (if v7 = 0 then Option.bind (isO h1 p0 10) (fun u21 => Option.bind (fX10_fails p0 2 h1) (fun o24 => some (o24.1, o24.2))) else Option.bind (isO h1 p0 10) (fun u9 => Option.bind (fX10_keeps p0 h1) (fun o12 => Option.bind (gR o12 p0 10 0) (fun r13 => Option.bind (ldI o12 r13 (100 + p1)) (fun v15 => Option.bind (gR o12 p0 10 0) (fun r17 => Option.bind (stI o12 r17 (100 + p1) p2) (fun h19 => some (v15, h19))))))))))))
abbrev rmX10_setWeight : Room := { frames := 2, cells := 0, slots := 0, locals := 61 }
set_option maxRecDepth 20000 in
theorem tX10_setWeight {l : Launch} {Z : mxZ} (hl : l.stackTraces = false) {p0 : Nat} {p1 : Int32} {p2 : Int32} {h : mxH} {out : (Int32 × mxH)} (hf : fX10_setWeight p0 p1 p2 h = some out) : mxMet l Z yX10_setWeight cX10_setWeight 4 (some .int) rmX10_setWeight [.ref p0, .int p1, .int p2] h (.inl (some (.int out.1))) out.2 := by
  refine mxMet_of (by decide) hl (by simp [Value.category]) (Nat.le_of_ble_eq_true rfl) ?_
  intro X C E hX hin
  unfold fX10_setWeight at hf
  refine mG_aload_n (pc := 0) C dX10_setWeight_0 rfl ?_
  refine mG_ic (pc := 1) C dX10_setWeight_1 kI0 ?_
  obtain ⟨h1, e2, hf⟩ := mx_bind hf
  refine mG_putI (pc := 2) C dX10_setWeight_2 fl_X10_61 e2 ?_
  refine mG_iload_n (pc := 5) C dX10_setWeight_5 rfl ?_
  obtain ⟨v4, e3, hf⟩ := mx_bind hf
  refine mG_cS (pc := 6) (k' := 0) (n' := 0) [.int p1] [] C hX dX10_setWeight_6 lkS_X10_172 rfl (tX10_isRow hl e3) rfl rfl rfl rfl ?_
  refine mG_if_ne (pc := 9) (tgt := 18) C dX10_setWeight_9 (by decide) (fun q5 => ?_) (fun q5 => ?_)
  · rw [if_neg q5] at hf
    refine mG_iload_n (pc := 18) C dX10_setWeight_18 rfl ?_
    refine mG_ic (pc := 19) C dX10_setWeight_19 kI0 ?_
    refine mG_ic (pc := 20) C dX10_setWeight_20 kI5 ?_
    obtain ⟨v7, e6, hf⟩ := mx_bind hf
    refine mG_cS (pc := 21) (k' := 0) (n' := 0) [.int p2, .int 0, .int 5] [] C hX dX10_setWeight_21 lkS_X10_65 rfl (tX10_in hl e6) rfl rfl rfl rfl ?_
    refine mG_if_ne (pc := 24) (tgt := 33) C dX10_setWeight_24 (by decide) (fun q8 => ?_) (fun q8 => ?_)
    · rw [if_neg q8] at hf
      refine mG_aload_n (pc := 33) C dX10_setWeight_33 rfl ?_
      obtain ⟨u9, e10, hf⟩ := mx_bind hf
      obtain ⟨o12, e11, hf⟩ := mx_bind hf
      refine mG_cV (pc := 34) (k' := 0) (n' := 0) 10 [] [] C hX dX10_setWeight_34 lkV_X10_181 rfl rfl e10 (tX10_keeps hl e11) rfl rfl rfl rfl ?_
      refine mG_aload_n (pc := 37) C dX10_setWeight_37 rfl ?_
      obtain ⟨r13, e14, hf⟩ := mx_bind hf
      refine mG_getR (pc := 38) C dX10_setWeight_38 fl_X10_9 e14 ?_
      refine mG_bp (pc := 41) C dX10_setWeight_41 kB100 ?_
      refine mG_iload_n (pc := 43) C dX10_setWeight_43 rfl ?_
      refine mG_iadd (pc := 44) C dX10_setWeight_44 ?_
      obtain ⟨v15, e16, hf⟩ := mx_bind hf
      refine mG_iaload (pc := 45) C dX10_setWeight_45 e16 ?_
      refine mG_isn (ls' := [some (.ref p0), some (.int p1), some (.int p2), some (.int v15)]) (pc := 46) C dX10_setWeight_46 rfl rfl rfl ?_
      refine mG_aload_n (pc := 47) C dX10_setWeight_47 rfl ?_
      obtain ⟨r17, e18, hf⟩ := mx_bind hf
      refine mG_getR (pc := 48) C dX10_setWeight_48 fl_X10_9 e18 ?_
      refine mG_bp (pc := 51) C dX10_setWeight_51 kB100 ?_
      refine mG_iload_n (pc := 53) C dX10_setWeight_53 rfl ?_
      refine mG_iadd (pc := 54) C dX10_setWeight_54 ?_
      refine mG_iload_n (pc := 55) C dX10_setWeight_55 rfl ?_
      obtain ⟨h19, e20, hf⟩ := mx_bind hf
      refine mG_iastore (pc := 56) C dX10_setWeight_56 e20 ?_
      refine mG_iload_n (pc := 57) C dX10_setWeight_57 rfl ?_
      cases hf
      exact mG_ir (pc := 58) C E hX dX10_setWeight_58 rfl
    · rw [if_pos q8] at hf
      refine mG_aload_n (pc := 27) C dX10_setWeight_27 rfl ?_
      refine mG_ic (pc := 28) C dX10_setWeight_28 kI2 ?_
      obtain ⟨u21, e22, hf⟩ := mx_bind hf
      obtain ⟨o24, e23, hf⟩ := mx_bind hf
      refine mG_cV (pc := 29) (k' := 0) (n' := 0) 10 [.int 2] [] C hX dX10_setWeight_29 lkV_X10_178 rfl rfl e22 (tX10_fails hl e23) rfl rfl rfl rfl ?_
      cases hf
      exact mG_ir (pc := 32) C E hX dX10_setWeight_32 rfl
  · rw [if_pos q5] at hf
    refine mG_aload_n (pc := 12) C dX10_setWeight_12 rfl ?_
    refine mG_ic (pc := 13) C dX10_setWeight_13 kI1 ?_
    obtain ⟨u25, e26, hf⟩ := mx_bind hf
    obtain ⟨o28, e27, hf⟩ := mx_bind hf
    refine mG_cV (pc := 14) (k' := 0) (n' := 0) 10 [.int 1] [] C hX dX10_setWeight_14 lkV_X10_178 rfl rfl e26 (tX10_fails hl e27) rfl rfl rfl rfl ?_
    cases hf
    exact mG_ir (pc := 17) C E hX dX10_setWeight_17 rfl
