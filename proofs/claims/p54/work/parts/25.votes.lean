/-! printed by wip/gen/emit.py: for each method its function on the mini machine, and that the machine walks as the function says -/
theorem dX8_isCandidate_0 : decode cX8_isCandidate 0 = .ok (.iload_n 0, 1) := by decide +kernel
theorem dX8_isCandidate_1 : decode cX8_isCandidate 1 = .ok (.ifCond .lt 13, 3) := by decide +kernel
theorem dX8_isCandidate_4 : decode cX8_isCandidate 4 = .ok (.iload_n 0, 1) := by decide +kernel
theorem dX8_isCandidate_5 : decode cX8_isCandidate 5 = .ok (.bipush 6, 2) := by decide +kernel
theorem dX8_isCandidate_7 : decode cX8_isCandidate 7 = .ok (.if_icmp .ge 7, 3) := by decide +kernel
theorem dX8_isCandidate_10 : decode cX8_isCandidate 10 = .ok (.iconst 1, 1) := by decide +kernel
theorem dX8_isCandidate_11 : decode cX8_isCandidate 11 = .ok (.goto 4, 3) := by decide +kernel
theorem dX8_isCandidate_14 : decode cX8_isCandidate 14 = .ok (.iconst 0, 1) := by decide +kernel
theorem dX8_isCandidate_15 : decode cX8_isCandidate 15 = .ok (.ireturn, 1) := by decide +kernel
def fX8_isCandidate (p0 : Int32) (h : mxH) : Option Int32 := Option.bind (α := Int32) (if p0 < 0 then some 0 else (if 6 ≤ p0 then some 0 else some 1)) (fun p3' : Int32 => Option.bind (mxZ1 p3') (fun v6 => some v6))
abbrev rmX8_isCandidate : Room := { frames := 0, cells := 0, slots := 0, locals := 0 }
set_option maxRecDepth 20000 in
theorem tX8_isCandidate {l : Launch} {Z : mxZ} (hl : l.stackTraces = false) {p0 : Int32} {h : mxH} {out : Int32} (hf : fX8_isCandidate p0 h = some out) : mxMet l Z yX8_isCandidate cX8_isCandidate 1 (some .boolean) rmX8_isCandidate [.int p0] h (.inl (some (.int out))) h := by
  refine mxMet_of (by decide) hl (by simp [Value.category]) (Nat.le_of_ble_eq_true rfl) ?_
  intro X C E hX hin
  unfold fX8_isCandidate at hf
  refine mG_iload_n (pc := 0) C dX8_isCandidate_0 rfl ?_
  obtain ⟨p3, e4, hf⟩ := mx_bind hf
  have J2 : ∀ p3' : Int32, p3' = p3 → mG l Z X 1 0 0 15 [none] [.int p3'] h := by
    intro p3' q8
    subst q8
    obtain ⟨v6, e7, hf⟩ := mx_bind hf
    cases hf
    exact mG_zr (pc := 15) C e7 E hX dX8_isCandidate_15 rfl
  refine mG_if_lt (pc := 1) (tgt := 14) C dX8_isCandidate_1 (by decide) (fun q1 => ?_) (fun q1 => ?_)
  · rw [if_pos q1] at e4
    refine mG_ic (pc := 14) C dX8_isCandidate_14 kI0 ?_
    exact mG_sub (mxLe_n mxLe_z) (J2 _ (Option.some.inj e4))
  · rw [if_neg q1] at e4
    refine mG_iload_n (pc := 4) C dX8_isCandidate_4 rfl ?_
    refine mG_bp (pc := 5) C dX8_isCandidate_5 kB6 ?_
    refine mG_icmp_ge (pc := 7) (tgt := 14) C dX8_isCandidate_7 (by decide) (fun q5 => ?_) (fun q5 => ?_)
    · rw [if_pos q5] at e4
      refine mG_ic (pc := 14) C dX8_isCandidate_14 kI0 ?_
      exact mG_sub (mxLe_n mxLe_z) (J2 _ (Option.some.inj e4))
    · rw [if_neg q5] at e4
      refine mG_ic (pc := 10) C dX8_isCandidate_10 kI1 ?_
      refine mG_goto (tgt := 15) (pc := 11) C dX8_isCandidate_11 (by decide) ?_
      exact mG_sub (mxLe_n mxLe_z) (J2 _ (Option.some.inj e4))
theorem dX8_gather_0 : decode cX8_gather 0 = .ok (.aload_n 0, 1) := by decide +kernel
theorem dX8_gather_1 : decode cX8_gather 1 = .ok (.iconst 0, 1) := by decide +kernel
theorem dX8_gather_2 : decode cX8_gather 2 = .ok (.putfield 15, 3) := by decide +kernel
theorem dX8_gather_5 : decode cX8_gather 5 = .ok (.iconst 0, 1) := by decide +kernel
theorem dX8_gather_6 : decode cX8_gather 6 = .ok (.istore_n 2, 1) := by decide +kernel
theorem dX8_gather_7 : decode cX8_gather 7 = .ok (.iload_n 2, 1) := by decide +kernel
theorem dX8_gather_8 : decode cX8_gather 8 = .ok (.bipush 20, 2) := by decide +kernel
theorem dX8_gather_10 : decode cX8_gather 10 = .ok (.if_icmp .ge 47, 3) := by decide +kernel
theorem dX8_gather_13 : decode cX8_gather 13 = .ok (.aload_n 0, 1) := by decide +kernel
theorem dX8_gather_14 : decode cX8_gather 14 = .ok (.getfield 15, 3) := by decide +kernel
theorem dX8_gather_17 : decode cX8_gather 17 = .ok (.invokestatic 30, 3) := by decide +kernel
theorem dX8_gather_20 : decode cX8_gather 20 = .ok (.ifCond .eq 31, 3) := by decide +kernel
theorem dX8_gather_23 : decode cX8_gather 23 = .ok (.aload_n 1, 1) := by decide +kernel
theorem dX8_gather_24 : decode cX8_gather 24 = .ok (.iload_n 2, 1) := by decide +kernel
theorem dX8_gather_25 : decode cX8_gather 25 = .ok (.invokevirtual 34, 3) := by decide +kernel
theorem dX8_gather_28 : decode cX8_gather 28 = .ok (.ifCond .eq 23, 3) := by decide +kernel
theorem dX8_gather_31 : decode cX8_gather 31 = .ok (.aload_n 0, 1) := by decide +kernel
theorem dX8_gather_32 : decode cX8_gather 32 = .ok (.getfield 9, 3) := by decide +kernel
theorem dX8_gather_35 : decode cX8_gather 35 = .ok (.aload_n 0, 1) := by decide +kernel
theorem dX8_gather_36 : decode cX8_gather 36 = .ok (.getfield 15, 3) := by decide +kernel
theorem dX8_gather_39 : decode cX8_gather 39 = .ok (.iload_n 2, 1) := by decide +kernel
theorem dX8_gather_40 : decode cX8_gather 40 = .ok (.iastore, 1) := by decide +kernel
theorem dX8_gather_41 : decode cX8_gather 41 = .ok (.aload_n 0, 1) := by decide +kernel
theorem dX8_gather_42 : decode cX8_gather 42 = .ok (.dup, 1) := by decide +kernel
theorem dX8_gather_43 : decode cX8_gather 43 = .ok (.getfield 15, 3) := by decide +kernel
theorem dX8_gather_46 : decode cX8_gather 46 = .ok (.iconst 1, 1) := by decide +kernel
theorem dX8_gather_47 : decode cX8_gather 47 = .ok (.iadd, 1) := by decide +kernel
theorem dX8_gather_48 : decode cX8_gather 48 = .ok (.putfield 15, 3) := by decide +kernel
theorem dX8_gather_51 : decode cX8_gather 51 = .ok (.iinc 2 1, 3) := by decide +kernel
theorem dX8_gather_54 : decode cX8_gather 54 = .ok (.goto (-47), 3) := by decide +kernel
theorem dX8_gather_57 : decode cX8_gather 57 = .ok (.iconst 0, 1) := by decide +kernel
theorem dX8_gather_58 : decode cX8_gather 58 = .ok (.istore_n 2, 1) := by decide +kernel
theorem dX8_gather_59 : decode cX8_gather 59 = .ok (.iload_n 2, 1) := by decide +kernel
theorem dX8_gather_60 : decode cX8_gather 60 = .ok (.aload_n 0, 1) := by decide +kernel
theorem dX8_gather_61 : decode cX8_gather 61 = .ok (.getfield 15, 3) := by decide +kernel
theorem dX8_gather_64 : decode cX8_gather 64 = .ok (.if_icmp .ge 63, 3) := by decide +kernel
theorem dX8_gather_67 : decode cX8_gather 67 = .ok (.iconst 0, 1) := by decide +kernel
theorem dX8_gather_68 : decode cX8_gather 68 = .ok (.istore_n 3, 1) := by decide +kernel
theorem dX8_gather_69 : decode cX8_gather 69 = .ok (.iload_n 3, 1) := by decide +kernel
theorem dX8_gather_70 : decode cX8_gather 70 = .ok (.aload_n 0, 1) := by decide +kernel
theorem dX8_gather_71 : decode cX8_gather 71 = .ok (.getfield 15, 3) := by decide +kernel
theorem dX8_gather_74 : decode cX8_gather 74 = .ok (.if_icmp .ge 47, 3) := by decide +kernel
theorem dX8_gather_77 : decode cX8_gather 77 = .ok (.iload_n 2, 1) := by decide +kernel
theorem dX8_gather_78 : decode cX8_gather 78 = .ok (.invokestatic 30, 3) := by decide +kernel
theorem dX8_gather_81 : decode cX8_gather 81 = .ok (.ifCond .eq 34, 3) := by decide +kernel
theorem dX8_gather_84 : decode cX8_gather 84 = .ok (.iload_n 3, 1) := by decide +kernel
theorem dX8_gather_85 : decode cX8_gather 85 = .ok (.invokestatic 30, 3) := by decide +kernel
theorem dX8_gather_88 : decode cX8_gather 88 = .ok (.ifCond .eq 27, 3) := by decide +kernel
theorem dX8_gather_91 : decode cX8_gather 91 = .ok (.aload_n 0, 1) := by decide +kernel
theorem dX8_gather_92 : decode cX8_gather 92 = .ok (.getfield 21, 3) := by decide +kernel
theorem dX8_gather_95 : decode cX8_gather 95 = .ok (.iload_n 2, 1) := by decide +kernel
theorem dX8_gather_96 : decode cX8_gather 96 = .ok (.aaload, 1) := by decide +kernel
theorem dX8_gather_97 : decode cX8_gather 97 = .ok (.iload_n 3, 1) := by decide +kernel
theorem dX8_gather_98 : decode cX8_gather 98 = .ok (.aload_n 1, 1) := by decide +kernel
theorem dX8_gather_99 : decode cX8_gather 99 = .ok (.aload_n 0, 1) := by decide +kernel
theorem dX8_gather_100 : decode cX8_gather 100 = .ok (.getfield 9, 3) := by decide +kernel
theorem dX8_gather_103 : decode cX8_gather 103 = .ok (.iload_n 2, 1) := by decide +kernel
theorem dX8_gather_104 : decode cX8_gather 104 = .ok (.iaload, 1) := by decide +kernel
theorem dX8_gather_105 : decode cX8_gather 105 = .ok (.aload_n 0, 1) := by decide +kernel
theorem dX8_gather_106 : decode cX8_gather 106 = .ok (.getfield 9, 3) := by decide +kernel
theorem dX8_gather_109 : decode cX8_gather 109 = .ok (.iload_n 3, 1) := by decide +kernel
theorem dX8_gather_110 : decode cX8_gather 110 = .ok (.iaload, 1) := by decide +kernel
theorem dX8_gather_111 : decode cX8_gather 111 = .ok (.invokevirtual 39, 3) := by decide +kernel
theorem dX8_gather_114 : decode cX8_gather 114 = .ok (.iastore, 1) := by decide +kernel
theorem dX8_gather_115 : decode cX8_gather 115 = .ok (.iinc 3 1, 3) := by decide +kernel
theorem dX8_gather_118 : decode cX8_gather 118 = .ok (.goto (-49), 3) := by decide +kernel
theorem dX8_gather_121 : decode cX8_gather 121 = .ok (.iinc 2 1, 3) := by decide +kernel
theorem dX8_gather_124 : decode cX8_gather 124 = .ok (.goto (-65), 3) := by decide +kernel
theorem dX8_gather_127 : decode cX8_gather 127 = .ok (.return_, 1) := by decide +kernel
def fX8_gather (p0 : Nat) (p1 : Nat) (h : mxH) : Option mxH := Option.bind (pI h p0 8 1 0) (fun h1 => Option.bind (mxLoop (ρ := mxH) (fun s3 : (Int32 × mxH) => (if 20 ≤ s3.1 then some (Sum.inr s3.2) else Option.bind (gI s3.2 p0 8 1) (fun v12 => Option.bind (fX8_isCandidate v12 s3.2) (fun v15 => Option.bind (α := mxH) (if v15 = 0 then some s3.2 else Option.bind (isO s3.2 p1 6) (fun u20 => Option.bind (fX6_isKnown p1 s3.1 s3.2) (fun v23 => (if v23 = 0 then some s3.2 else Option.bind (gR s3.2 p0 8 0) (fun r25 => Option.bind (gI s3.2 p0 8 1) (fun v27 => Option.bind (stI s3.2 r25 v27 s3.1) (fun h29 => Option.bind (gI h29 p0 8 1) (fun v31 => Option.bind (pI h29 p0 8 1 (v31 + 1)) (fun h33 => some h33))))))))) (fun p18' : mxH => some (Sum.inl (s3.1 + 1, p18'))))))) mxF (0, h1)) (fun r36 : mxH => Option.bind (mxLoop (ρ := mxH) (fun s37 : (Int32 × mxH) => Option.bind (gI s37.2 p0 8 1) (fun v45 => (if v45 ≤ s37.1 then some (Sum.inr s37.2) else Option.bind (mxLoop (ρ := mxH) (fun s48 : (Int32 × mxH) => Option.bind (gI s48.2 p0 8 1) (fun v56 => (if v56 ≤ s48.1 then some (Sum.inr s48.2) else Option.bind (fX8_isCandidate s37.1 s48.2) (fun v60 => Option.bind (α := mxH) (if v60 = 0 then some s48.2 else Option.bind (fX8_isCandidate s48.1 s48.2) (fun v66 => (if v66 = 0 then some s48.2 else Option.bind (gR s48.2 p0 8 2) (fun r68 => Option.bind (ldR s48.2 r68 s37.1) (fun r70 => Option.bind (gR s48.2 p0 8 0) (fun r72 => Option.bind (ldI s48.2 r72 s37.1) (fun v74 => Option.bind (gR s48.2 p0 8 0) (fun r76 => Option.bind (ldI s48.2 r76 s48.1) (fun v78 => Option.bind (isO s48.2 p1 6) (fun u80 => Option.bind (fX6_countPreferring p1 v74 v78 s48.2) (fun v83 => Option.bind (stI s48.2 r70 s48.1 v83) (fun h84 => some h84)))))))))))) (fun p63' : mxH => some (Sum.inl (s48.1 + 1, p63'))))))) mxF (0, s37.2)) (fun r87 : mxH => some (Sum.inl (s37.1 + 1, r87)))))) mxF (0, r36)) (fun r89 : mxH => some r89)))
abbrev rmX8_gather : Room := { frames := 3, cells := 0, slots := 0, locals := 68 }
set_option maxRecDepth 20000 in
theorem tX8_gather {l : Launch} {Z : mxZ} (hl : l.stackTraces = false) {p0 : Nat} {p1 : Nat} {h : mxH} {out : mxH} (hf : fX8_gather p0 p1 h = some out) : mxMet l Z yX8_gather cX8_gather 4 (none) rmX8_gather [.ref p0, .ref p1] h (.inl none) out := by
  refine mxMet_of (by decide) hl (by simp [Value.category]) (Nat.le_of_ble_eq_true rfl) ?_
  intro X C E hX hin
  unfold fX8_gather at hf
  refine mG_aload_n (pc := 0) C dX8_gather_0 rfl ?_
  refine mG_ic (pc := 1) C dX8_gather_1 kI0 ?_
  obtain ⟨h1, e2, hf⟩ := mx_bind hf
  refine mG_putI (pc := 2) C dX8_gather_2 fl_X8_15 e2 ?_
  refine mG_ic (pc := 5) C dX8_gather_5 kI0 ?_
  refine mG_isn (ls' := [some (.ref p0), some (.ref p1), some (.int 0), none]) (pc := 6) C dX8_gather_6 rfl rfl rfl ?_
  obtain ⟨r4, e5, hf⟩ := mx_bind hf
  have J6 : ∀ r36 : mxH, r36 = r4 → mG l Z X 4 0 0 57 [some (.ref p0), some (.ref p1), none, none] [] r36 := by
    intro r36 q91
    subst q91
    refine mG_ic (pc := 57) C dX8_gather_57 kI0 ?_
    refine mG_isn (ls' := [some (.ref p0), some (.ref p1), some (.int 0), none]) (pc := 58) C dX8_gather_58 rfl rfl rfl ?_
    obtain ⟨r38, e39, hf⟩ := mx_bind hf
    have J40 : ∀ r89 : mxH, r89 = r38 → mG l Z X 4 0 0 127 [none, none, none, none] [] r89 := by
      intro r89 q90
      subst q90
      cases hf
      exact mG_vr (pc := 127) C E hX dX8_gather_127 rfl
    refine mG_sub (ls' := [some (.ref p0), some (.ref p1), some (.int 0), none]) (mxLe_s (mxLe_s (mxLe_s (mxLe_n mxLe_z)))) (mxLoop_ind (K := fun s37 : (Int32 × mxH) => mG l Z X 4 0 0 59 [some (.ref p0), some (.ref p1), some (.int s37.1), none] [] s37.2) ?_ _ _ e39)
    intro s37 o43 e44 hK41 hx42
    refine mG_iload_n (pc := 59) C dX8_gather_59 rfl ?_
    refine mG_aload_n (pc := 60) C dX8_gather_60 rfl ?_
    obtain ⟨v45, e46, e44⟩ := mx_bind e44
    refine mG_getI (pc := 61) C dX8_gather_61 fl_X8_15 e46 ?_
    refine mG_icmp_ge (pc := 64) (tgt := 127) C dX8_gather_64 (by decide) (fun q47 => ?_) (fun q47 => ?_)
    · rw [if_pos q47] at e44
      exact mG_sub (mxLe_n (mxLe_n (mxLe_n (mxLe_n mxLe_z)))) (J40 _ (hx42 _ (Option.some.inj e44).symm))
    · rw [if_neg q47] at e44
      refine mG_ic (pc := 67) C dX8_gather_67 kI0 ?_
      refine mG_isn (ls' := [some (.ref p0), some (.ref p1), some (.int s37.1), some (.int 0)]) (pc := 68) C dX8_gather_68 rfl rfl rfl ?_
      obtain ⟨r49, e50, e44⟩ := mx_bind e44
      have J51 : ∀ r87 : mxH, r87 = r49 → mG l Z X 4 0 0 121 [some (.ref p0), some (.ref p1), some (.int s37.1), none] [] r87 := by
        intro r87 q88
        subst q88
        refine mG_ii (ls' := [some (.ref p0), some (.ref p1), some (.int (s37.1 + 1)), none]) (pc := 121) C dX8_gather_121 rfl (kinc1 _) rfl rfl rfl ?_
        refine mG_goto (tgt := 59) (pc := 124) C dX8_gather_124 (by decide) ?_
        exact mG_sub (mxLe_s (mxLe_s (mxLe_s (mxLe_n mxLe_z)))) (hK41 _ (Option.some.inj e44).symm)
      refine mG_sub (ls' := [some (.ref p0), some (.ref p1), some (.int s37.1), some (.int 0)]) (mxLe_s (mxLe_s (mxLe_s (mxLe_s mxLe_z)))) (mxLoop_ind (K := fun s48 : (Int32 × mxH) => mG l Z X 4 0 0 69 [some (.ref p0), some (.ref p1), some (.int s37.1), some (.int s48.1)] [] s48.2) ?_ _ _ e50)
      intro s48 o54 e55 hK52 hx53
      refine mG_iload_n (pc := 69) C dX8_gather_69 rfl ?_
      refine mG_aload_n (pc := 70) C dX8_gather_70 rfl ?_
      obtain ⟨v56, e57, e55⟩ := mx_bind e55
      refine mG_getI (pc := 71) C dX8_gather_71 fl_X8_15 e57 ?_
      refine mG_icmp_ge (pc := 74) (tgt := 121) C dX8_gather_74 (by decide) (fun q58 => ?_) (fun q58 => ?_)
      · rw [if_pos q58] at e55
        exact mG_sub (mxLe_s (mxLe_s (mxLe_s (mxLe_n mxLe_z)))) (J51 _ (hx53 _ (Option.some.inj e55).symm))
      · rw [if_neg q58] at e55
        refine mG_iload_n (pc := 77) C dX8_gather_77 rfl ?_
        obtain ⟨v60, e59, e55⟩ := mx_bind e55
        refine mG_cS (pc := 78) (k' := 0) (n' := 0) [.int s37.1] [] C hX dX8_gather_78 lkS_X8_30 rfl (tX8_isCandidate hl e59) rfl rfl rfl rfl ?_
        obtain ⟨p63, e64, e55⟩ := mx_bind e55
        have J62 : ∀ p63' : mxH, p63' = p63 → mG l Z X 4 0 0 115 [some (.ref p0), some (.ref p1), some (.int s37.1), some (.int s48.1)] [] p63' := by
          intro p63' q86
          subst q86
          refine mG_ii (ls' := [some (.ref p0), some (.ref p1), some (.int s37.1), some (.int (s48.1 + 1))]) (pc := 115) C dX8_gather_115 rfl (kinc1 _) rfl rfl rfl ?_
          refine mG_goto (tgt := 69) (pc := 118) C dX8_gather_118 (by decide) ?_
          exact mG_sub (mxLe_s (mxLe_s (mxLe_s (mxLe_s mxLe_z)))) (hK52 _ (Option.some.inj e55).symm)
        refine mG_if_eq (pc := 81) (tgt := 115) C dX8_gather_81 (by decide) (fun q61 => ?_) (fun q61 => ?_)
        · rw [if_pos q61] at e64
          exact mG_sub (mxLe_s (mxLe_s (mxLe_s (mxLe_s mxLe_z)))) (J62 _ (Option.some.inj e64))
        · rw [if_neg q61] at e64
          refine mG_iload_n (pc := 84) C dX8_gather_84 rfl ?_
          obtain ⟨v66, e65, e64⟩ := mx_bind e64
          refine mG_cS (pc := 85) (k' := 0) (n' := 0) [.int s48.1] [] C hX dX8_gather_85 lkS_X8_30 rfl (tX8_isCandidate hl e65) rfl rfl rfl rfl ?_
          refine mG_if_eq (pc := 88) (tgt := 115) C dX8_gather_88 (by decide) (fun q67 => ?_) (fun q67 => ?_)
          · rw [if_pos q67] at e64
            exact mG_sub (mxLe_s (mxLe_s (mxLe_s (mxLe_s mxLe_z)))) (J62 _ (Option.some.inj e64))
          · rw [if_neg q67] at e64
            refine mG_aload_n (pc := 91) C dX8_gather_91 rfl ?_
            obtain ⟨r68, e69, e64⟩ := mx_bind e64
            refine mG_getR (pc := 92) C dX8_gather_92 fl_X8_21 e69 ?_
            refine mG_iload_n (pc := 95) C dX8_gather_95 rfl ?_
            obtain ⟨r70, e71, e64⟩ := mx_bind e64
            refine mG_aaload (pc := 96) C dX8_gather_96 e71 ?_
            refine mG_iload_n (pc := 97) C dX8_gather_97 rfl ?_
            refine mG_aload_n (pc := 98) C dX8_gather_98 rfl ?_
            refine mG_aload_n (pc := 99) C dX8_gather_99 rfl ?_
            obtain ⟨r72, e73, e64⟩ := mx_bind e64
            refine mG_getR (pc := 100) C dX8_gather_100 fl_X8_9 e73 ?_
            refine mG_iload_n (pc := 103) C dX8_gather_103 rfl ?_
            obtain ⟨v74, e75, e64⟩ := mx_bind e64
            refine mG_iaload (pc := 104) C dX8_gather_104 e75 ?_
            refine mG_aload_n (pc := 105) C dX8_gather_105 rfl ?_
            obtain ⟨r76, e77, e64⟩ := mx_bind e64
            refine mG_getR (pc := 106) C dX8_gather_106 fl_X8_9 e77 ?_
            refine mG_iload_n (pc := 109) C dX8_gather_109 rfl ?_
            obtain ⟨v78, e79, e64⟩ := mx_bind e64
            refine mG_iaload (pc := 110) C dX8_gather_110 e79 ?_
            obtain ⟨u80, e81, e64⟩ := mx_bind e64
            obtain ⟨v83, e82, e64⟩ := mx_bind e64
            refine mG_cV (pc := 111) (k' := 0) (n' := 0) 6 [.int v74, .int v78] [.int s48.1, .ref r70] C hX dX8_gather_111 lkV_X8_39 rfl rfl e81 (tX6_countPreferring hl e82) rfl rfl rfl rfl ?_
            obtain ⟨h84, e85, e64⟩ := mx_bind e64
            refine mG_iastore (pc := 114) C dX8_gather_114 e85 ?_
            exact mG_sub (mxLe_s (mxLe_s (mxLe_s (mxLe_s mxLe_z)))) (J62 _ (Option.some.inj e64))
  refine mG_sub (ls' := [some (.ref p0), some (.ref p1), some (.int 0), none]) (mxLe_s (mxLe_s (mxLe_s (mxLe_n mxLe_z)))) (mxLoop_ind (K := fun s3 : (Int32 × mxH) => mG l Z X 4 0 0 7 [some (.ref p0), some (.ref p1), some (.int s3.1), none] [] s3.2) ?_ _ _ e5)
  intro s3 o9 e10 hK7 hx8
  refine mG_iload_n (pc := 7) C dX8_gather_7 rfl ?_
  refine mG_bp (pc := 8) C dX8_gather_8 kB20 ?_
  refine mG_icmp_ge (pc := 10) (tgt := 57) C dX8_gather_10 (by decide) (fun q11 => ?_) (fun q11 => ?_)
  · rw [if_pos q11] at e10
    exact mG_sub (mxLe_s (mxLe_s (mxLe_n (mxLe_n mxLe_z)))) (J6 _ (hx8 _ (Option.some.inj e10).symm))
  · rw [if_neg q11] at e10
    refine mG_aload_n (pc := 13) C dX8_gather_13 rfl ?_
    obtain ⟨v12, e13, e10⟩ := mx_bind e10
    refine mG_getI (pc := 14) C dX8_gather_14 fl_X8_15 e13 ?_
    obtain ⟨v15, e14, e10⟩ := mx_bind e10
    refine mG_cS (pc := 17) (k' := 0) (n' := 0) [.int v12] [] C hX dX8_gather_17 lkS_X8_30 rfl (tX8_isCandidate hl e14) rfl rfl rfl rfl ?_
    obtain ⟨p18, e19, e10⟩ := mx_bind e10
    have J17 : ∀ p18' : mxH, p18' = p18 → mG l Z X 4 0 0 51 [some (.ref p0), some (.ref p1), some (.int s3.1), none] [] p18' := by
      intro p18' q35
      subst q35
      refine mG_ii (ls' := [some (.ref p0), some (.ref p1), some (.int (s3.1 + 1)), none]) (pc := 51) C dX8_gather_51 rfl (kinc1 _) rfl rfl rfl ?_
      refine mG_goto (tgt := 7) (pc := 54) C dX8_gather_54 (by decide) ?_
      exact mG_sub (mxLe_s (mxLe_s (mxLe_s (mxLe_n mxLe_z)))) (hK7 _ (Option.some.inj e10).symm)
    refine mG_if_eq (pc := 20) (tgt := 51) C dX8_gather_20 (by decide) (fun q16 => ?_) (fun q16 => ?_)
    · rw [if_pos q16] at e19
      exact mG_sub (mxLe_s (mxLe_s (mxLe_s (mxLe_n mxLe_z)))) (J17 _ (Option.some.inj e19))
    · rw [if_neg q16] at e19
      refine mG_aload_n (pc := 23) C dX8_gather_23 rfl ?_
      refine mG_iload_n (pc := 24) C dX8_gather_24 rfl ?_
      obtain ⟨u20, e21, e19⟩ := mx_bind e19
      obtain ⟨v23, e22, e19⟩ := mx_bind e19
      refine mG_cV (pc := 25) (k' := 0) (n' := 0) 6 [.int s3.1] [] C hX dX8_gather_25 lkV_X8_34 rfl rfl e21 (tX6_isKnown hl e22) rfl rfl rfl rfl ?_
      refine mG_if_eq (pc := 28) (tgt := 51) C dX8_gather_28 (by decide) (fun q24 => ?_) (fun q24 => ?_)
      · rw [if_pos q24] at e19
        exact mG_sub (mxLe_s (mxLe_s (mxLe_s (mxLe_n mxLe_z)))) (J17 _ (Option.some.inj e19))
      · rw [if_neg q24] at e19
        refine mG_aload_n (pc := 31) C dX8_gather_31 rfl ?_
        obtain ⟨r25, e26, e19⟩ := mx_bind e19
        refine mG_getR (pc := 32) C dX8_gather_32 fl_X8_9 e26 ?_
        refine mG_aload_n (pc := 35) C dX8_gather_35 rfl ?_
        obtain ⟨v27, e28, e19⟩ := mx_bind e19
        refine mG_getI (pc := 36) C dX8_gather_36 fl_X8_15 e28 ?_
        refine mG_iload_n (pc := 39) C dX8_gather_39 rfl ?_
        obtain ⟨h29, e30, e19⟩ := mx_bind e19
        refine mG_iastore (pc := 40) C dX8_gather_40 e30 ?_
        refine mG_aload_n (pc := 41) C dX8_gather_41 rfl ?_
        refine mG_dup (pc := 42) C dX8_gather_42 rfl ?_
        obtain ⟨v31, e32, e19⟩ := mx_bind e19
        refine mG_getI (pc := 43) C dX8_gather_43 fl_X8_15 e32 ?_
        refine mG_ic (pc := 46) C dX8_gather_46 kI1 ?_
        refine mG_iadd (pc := 47) C dX8_gather_47 ?_
        obtain ⟨h33, e34, e19⟩ := mx_bind e19
        refine mG_putI (pc := 48) C dX8_gather_48 fl_X8_15 e34 ?_
        exact mG_sub (mxLe_s (mxLe_s (mxLe_s (mxLe_n mxLe_z)))) (J17 _ (Option.some.inj e19))
theorem dX8_beats_0 : decode cX8_beats 0 = .ok (.iload_n 1, 1) := by decide +kernel
theorem dX8_beats_1 : decode cX8_beats 1 = .ok (.invokestatic 30, 3) := by decide +kernel
theorem dX8_beats_4 : decode cX8_beats 4 = .ok (.ifCond .eq 33, 3) := by decide +kernel
theorem dX8_beats_7 : decode cX8_beats 7 = .ok (.iload_n 2, 1) := by decide +kernel
theorem dX8_beats_8 : decode cX8_beats 8 = .ok (.invokestatic 30, 3) := by decide +kernel
theorem dX8_beats_11 : decode cX8_beats 11 = .ok (.ifCond .eq 26, 3) := by decide +kernel
theorem dX8_beats_14 : decode cX8_beats 14 = .ok (.aload_n 0, 1) := by decide +kernel
theorem dX8_beats_15 : decode cX8_beats 15 = .ok (.getfield 21, 3) := by decide +kernel
theorem dX8_beats_18 : decode cX8_beats 18 = .ok (.iload_n 1, 1) := by decide +kernel
theorem dX8_beats_19 : decode cX8_beats 19 = .ok (.aaload, 1) := by decide +kernel
theorem dX8_beats_20 : decode cX8_beats 20 = .ok (.iload_n 2, 1) := by decide +kernel
theorem dX8_beats_21 : decode cX8_beats 21 = .ok (.iaload, 1) := by decide +kernel
theorem dX8_beats_22 : decode cX8_beats 22 = .ok (.aload_n 0, 1) := by decide +kernel
theorem dX8_beats_23 : decode cX8_beats 23 = .ok (.getfield 21, 3) := by decide +kernel
theorem dX8_beats_26 : decode cX8_beats 26 = .ok (.iload_n 2, 1) := by decide +kernel
theorem dX8_beats_27 : decode cX8_beats 27 = .ok (.aaload, 1) := by decide +kernel
theorem dX8_beats_28 : decode cX8_beats 28 = .ok (.iload_n 1, 1) := by decide +kernel
theorem dX8_beats_29 : decode cX8_beats 29 = .ok (.iaload, 1) := by decide +kernel
theorem dX8_beats_30 : decode cX8_beats 30 = .ok (.if_icmp .le 7, 3) := by decide +kernel
theorem dX8_beats_33 : decode cX8_beats 33 = .ok (.iconst 1, 1) := by decide +kernel
theorem dX8_beats_34 : decode cX8_beats 34 = .ok (.goto 4, 3) := by decide +kernel
theorem dX8_beats_37 : decode cX8_beats 37 = .ok (.iconst 0, 1) := by decide +kernel
theorem dX8_beats_38 : decode cX8_beats 38 = .ok (.ireturn, 1) := by decide +kernel
def fX8_beats (p0 : Nat) (p1 : Int32) (p2 : Int32) (h : mxH) : Option Int32 := Option.bind (fX8_isCandidate p1 h) (fun v2 => Option.bind (α := Int32) (if v2 = 0 then some 0 else Option.bind (fX8_isCandidate p2 h) (fun v8 => (if v8 = 0 then some 0 else Option.bind (gR h p0 8 2) (fun r10 => Option.bind (ldR h r10 p1) (fun r12 => Option.bind (ldI h r12 p2) (fun v14 => Option.bind (gR h p0 8 2) (fun r16 => Option.bind (ldR h r16 p2) (fun r18 => Option.bind (ldI h r18 p1) (fun v20 => (if v14 ≤ v20 then some 0 else some 1)))))))))) (fun p5' : Int32 => Option.bind (mxZ1 p5') (fun v23 => some v23)))
abbrev rmX8_beats : Room := { frames := 1, cells := 0, slots := 0, locals := 20 }
set_option maxRecDepth 20000 in
theorem tX8_beats {l : Launch} {Z : mxZ} (hl : l.stackTraces = false) {p0 : Nat} {p1 : Int32} {p2 : Int32} {h : mxH} {out : Int32} (hf : fX8_beats p0 p1 p2 h = some out) : mxMet l Z yX8_beats cX8_beats 3 (some .boolean) rmX8_beats [.ref p0, .int p1, .int p2] h (.inl (some (.int out))) h := by
  refine mxMet_of (by decide) hl (by simp [Value.category]) (Nat.le_of_ble_eq_true rfl) ?_
  intro X C E hX hin
  unfold fX8_beats at hf
  refine mG_iload_n (pc := 0) C dX8_beats_0 rfl ?_
  obtain ⟨v2, e1, hf⟩ := mx_bind hf
  refine mG_cS (pc := 1) (k' := 0) (n' := 0) [.int p1] [] C hX dX8_beats_1 lkS_X8_30 rfl (tX8_isCandidate hl e1) rfl rfl rfl rfl ?_
  obtain ⟨p5, e6, hf⟩ := mx_bind hf
  have J4 : ∀ p5' : Int32, p5' = p5 → mG l Z X 3 0 0 38 [none, none, none] [.int p5'] h := by
    intro p5' q25
    subst q25
    obtain ⟨v23, e24, hf⟩ := mx_bind hf
    cases hf
    exact mG_zr (pc := 38) C e24 E hX dX8_beats_38 rfl
  refine mG_if_eq (pc := 4) (tgt := 37) C dX8_beats_4 (by decide) (fun q3 => ?_) (fun q3 => ?_)
  · rw [if_pos q3] at e6
    refine mG_ic (pc := 37) C dX8_beats_37 kI0 ?_
    exact mG_sub (mxLe_n (mxLe_n (mxLe_n mxLe_z))) (J4 _ (Option.some.inj e6))
  · rw [if_neg q3] at e6
    refine mG_iload_n (pc := 7) C dX8_beats_7 rfl ?_
    obtain ⟨v8, e7, e6⟩ := mx_bind e6
    refine mG_cS (pc := 8) (k' := 0) (n' := 0) [.int p2] [] C hX dX8_beats_8 lkS_X8_30 rfl (tX8_isCandidate hl e7) rfl rfl rfl rfl ?_
    refine mG_if_eq (pc := 11) (tgt := 37) C dX8_beats_11 (by decide) (fun q9 => ?_) (fun q9 => ?_)
    · rw [if_pos q9] at e6
      refine mG_ic (pc := 37) C dX8_beats_37 kI0 ?_
      exact mG_sub (mxLe_n (mxLe_n (mxLe_n mxLe_z))) (J4 _ (Option.some.inj e6))
    · rw [if_neg q9] at e6
      refine mG_aload_n (pc := 14) C dX8_beats_14 rfl ?_
      obtain ⟨r10, e11, e6⟩ := mx_bind e6
      refine mG_getR (pc := 15) C dX8_beats_15 fl_X8_21 e11 ?_
      refine mG_iload_n (pc := 18) C dX8_beats_18 rfl ?_
      obtain ⟨r12, e13, e6⟩ := mx_bind e6
      refine mG_aaload (pc := 19) C dX8_beats_19 e13 ?_
      refine mG_iload_n (pc := 20) C dX8_beats_20 rfl ?_
      obtain ⟨v14, e15, e6⟩ := mx_bind e6
      refine mG_iaload (pc := 21) C dX8_beats_21 e15 ?_
      refine mG_aload_n (pc := 22) C dX8_beats_22 rfl ?_
      obtain ⟨r16, e17, e6⟩ := mx_bind e6
      refine mG_getR (pc := 23) C dX8_beats_23 fl_X8_21 e17 ?_
      refine mG_iload_n (pc := 26) C dX8_beats_26 rfl ?_
      obtain ⟨r18, e19, e6⟩ := mx_bind e6
      refine mG_aaload (pc := 27) C dX8_beats_27 e19 ?_
      refine mG_iload_n (pc := 28) C dX8_beats_28 rfl ?_
      obtain ⟨v20, e21, e6⟩ := mx_bind e6
      refine mG_iaload (pc := 29) C dX8_beats_29 e21 ?_
      refine mG_icmp_le (pc := 30) (tgt := 37) C dX8_beats_30 (by decide) (fun q22 => ?_) (fun q22 => ?_)
      · rw [if_pos q22] at e6
        refine mG_ic (pc := 37) C dX8_beats_37 kI0 ?_
        exact mG_sub (mxLe_n (mxLe_n (mxLe_n mxLe_z))) (J4 _ (Option.some.inj e6))
      · rw [if_neg q22] at e6
        refine mG_ic (pc := 33) C dX8_beats_33 kI1 ?_
        refine mG_goto (tgt := 38) (pc := 34) C dX8_beats_34 (by decide) ?_
        exact mG_sub (mxLe_n (mxLe_n (mxLe_n mxLe_z))) (J4 _ (Option.some.inj e6))
theorem dX8_countBeaten_0 : decode cX8_countBeaten 0 = .ok (.iconst 0, 1) := by decide +kernel
theorem dX8_countBeaten_1 : decode cX8_countBeaten 1 = .ok (.istore_n 2, 1) := by decide +kernel
theorem dX8_countBeaten_2 : decode cX8_countBeaten 2 = .ok (.iconst 0, 1) := by decide +kernel
theorem dX8_countBeaten_3 : decode cX8_countBeaten 3 = .ok (.istore_n 3, 1) := by decide +kernel
theorem dX8_countBeaten_4 : decode cX8_countBeaten 4 = .ok (.iload_n 3, 1) := by decide +kernel
theorem dX8_countBeaten_5 : decode cX8_countBeaten 5 = .ok (.aload_n 0, 1) := by decide +kernel
theorem dX8_countBeaten_6 : decode cX8_countBeaten 6 = .ok (.getfield 15, 3) := by decide +kernel
theorem dX8_countBeaten_9 : decode cX8_countBeaten 9 = .ok (.if_icmp .ge 26, 3) := by decide +kernel
theorem dX8_countBeaten_12 : decode cX8_countBeaten 12 = .ok (.iload_n 2, 1) := by decide +kernel
theorem dX8_countBeaten_13 : decode cX8_countBeaten 13 = .ok (.aload_n 0, 1) := by decide +kernel
theorem dX8_countBeaten_14 : decode cX8_countBeaten 14 = .ok (.iload_n 1, 1) := by decide +kernel
theorem dX8_countBeaten_15 : decode cX8_countBeaten 15 = .ok (.iload_n 3, 1) := by decide +kernel
theorem dX8_countBeaten_16 : decode cX8_countBeaten 16 = .ok (.invokevirtual 47, 3) := by decide +kernel
theorem dX8_countBeaten_19 : decode cX8_countBeaten 19 = .ok (.ifCond .eq 7, 3) := by decide +kernel
theorem dX8_countBeaten_22 : decode cX8_countBeaten 22 = .ok (.iconst 1, 1) := by decide +kernel
theorem dX8_countBeaten_23 : decode cX8_countBeaten 23 = .ok (.goto 4, 3) := by decide +kernel
theorem dX8_countBeaten_26 : decode cX8_countBeaten 26 = .ok (.iconst 0, 1) := by decide +kernel
theorem dX8_countBeaten_27 : decode cX8_countBeaten 27 = .ok (.iadd, 1) := by decide +kernel
theorem dX8_countBeaten_28 : decode cX8_countBeaten 28 = .ok (.istore_n 2, 1) := by decide +kernel
theorem dX8_countBeaten_29 : decode cX8_countBeaten 29 = .ok (.iinc 3 1, 3) := by decide +kernel
theorem dX8_countBeaten_32 : decode cX8_countBeaten 32 = .ok (.goto (-28), 3) := by decide +kernel
theorem dX8_countBeaten_35 : decode cX8_countBeaten 35 = .ok (.iload_n 2, 1) := by decide +kernel
theorem dX8_countBeaten_36 : decode cX8_countBeaten 36 = .ok (.ireturn, 1) := by decide +kernel
def fX8_countBeaten (p0 : Nat) (p1 : Int32) (h : mxH) : Option Int32 := Option.bind (mxLoop (ρ := Int32) (fun s1 : (Int32 × Int32) => Option.bind (gI h p0 8 1) (fun v9 => (if v9 ≤ s1.2 then some (Sum.inr s1.1) else Option.bind (isO h p0 8) (fun u12 => Option.bind (fX8_beats p0 p1 s1.2 h) (fun v15 => Option.bind (α := Int32) (if v15 = 0 then some 0 else some 1) (fun p18' : Int32 => some (Sum.inl (s1.1 + p18', s1.2 + 1)))))))) mxF (0, 0)) (fun r21 : Int32 => some r21)
abbrev rmX8_countBeaten : Room := { frames := 2, cells := 0, slots := 0, locals := 42 }
set_option maxRecDepth 20000 in
theorem tX8_countBeaten {l : Launch} {Z : mxZ} (hl : l.stackTraces = false) {p0 : Nat} {p1 : Int32} {h : mxH} {out : Int32} (hf : fX8_countBeaten p0 p1 h = some out) : mxMet l Z yX8_countBeaten cX8_countBeaten 4 (some .int) rmX8_countBeaten [.ref p0, .int p1] h (.inl (some (.int out))) h := by
  refine mxMet_of (by decide) hl (by simp [Value.category]) (Nat.le_of_ble_eq_true rfl) ?_
  intro X C E hX hin
  unfold fX8_countBeaten at hf
  refine mG_ic (pc := 0) C dX8_countBeaten_0 kI0 ?_
  refine mG_isn (ls' := [some (.ref p0), some (.int p1), some (.int 0), none]) (pc := 1) C dX8_countBeaten_1 rfl rfl rfl ?_
  refine mG_ic (pc := 2) C dX8_countBeaten_2 kI0 ?_
  refine mG_isn (ls' := [some (.ref p0), some (.int p1), some (.int 0), some (.int 0)]) (pc := 3) C dX8_countBeaten_3 rfl rfl rfl ?_
  obtain ⟨r2, e3, hf⟩ := mx_bind hf
  have J4 : ∀ r21 : Int32, r21 = r2 → mG l Z X 4 0 0 35 [none, none, some (.int r21), none] [] h := by
    intro r21 q22
    subst q22
    refine mG_iload_n (pc := 35) C dX8_countBeaten_35 rfl ?_
    cases hf
    exact mG_ir (pc := 36) C E hX dX8_countBeaten_36 rfl
  refine mG_sub (ls' := [some (.ref p0), some (.int p1), some (.int 0), some (.int 0)]) (mxLe_s (mxLe_s (mxLe_s (mxLe_s mxLe_z)))) (mxLoop_ind (K := fun s1 : (Int32 × Int32) => mG l Z X 4 0 0 4 [some (.ref p0), some (.int p1), some (.int s1.1), some (.int s1.2)] [] h) ?_ _ _ e3)
  intro s1 o7 e8 hK5 hx6
  refine mG_iload_n (pc := 4) C dX8_countBeaten_4 rfl ?_
  refine mG_aload_n (pc := 5) C dX8_countBeaten_5 rfl ?_
  obtain ⟨v9, e10, e8⟩ := mx_bind e8
  refine mG_getI (pc := 6) C dX8_countBeaten_6 fl_X8_15 e10 ?_
  refine mG_icmp_ge (pc := 9) (tgt := 35) C dX8_countBeaten_9 (by decide) (fun q11 => ?_) (fun q11 => ?_)
  · rw [if_pos q11] at e8
    exact mG_sub (mxLe_n (mxLe_n (mxLe_s (mxLe_n mxLe_z)))) (J4 _ (hx6 _ (Option.some.inj e8).symm))
  · rw [if_neg q11] at e8
    refine mG_iload_n (pc := 12) C dX8_countBeaten_12 rfl ?_
    refine mG_aload_n (pc := 13) C dX8_countBeaten_13 rfl ?_
    refine mG_iload_n (pc := 14) C dX8_countBeaten_14 rfl ?_
    refine mG_iload_n (pc := 15) C dX8_countBeaten_15 rfl ?_
    obtain ⟨u12, e13, e8⟩ := mx_bind e8
    obtain ⟨v15, e14, e8⟩ := mx_bind e8
    refine mG_cV (pc := 16) (k' := 0) (n' := 0) 8 [.int p1, .int s1.2] [.int s1.1] C hX dX8_countBeaten_16 lkV_X8_47 rfl rfl e13 (tX8_beats hl e14) rfl rfl rfl rfl ?_
    obtain ⟨p18, e19, e8⟩ := mx_bind e8
    have J17 : ∀ p18' : Int32, p18' = p18 → mG l Z X 4 0 0 27 [some (.ref p0), some (.int p1), none, some (.int s1.2)] [.int p18', .int s1.1] h := by
      intro p18' q20
      subst q20
      refine mG_iadd (pc := 27) C dX8_countBeaten_27 ?_
      refine mG_isn (ls' := [some (.ref p0), some (.int p1), some (.int (s1.1 + p18')), some (.int s1.2)]) (pc := 28) C dX8_countBeaten_28 rfl rfl rfl ?_
      refine mG_ii (ls' := [some (.ref p0), some (.int p1), some (.int (s1.1 + p18')), some (.int (s1.2 + 1))]) (pc := 29) C dX8_countBeaten_29 rfl (kinc1 _) rfl rfl rfl ?_
      refine mG_goto (tgt := 4) (pc := 32) C dX8_countBeaten_32 (by decide) ?_
      exact mG_sub (mxLe_s (mxLe_s (mxLe_s (mxLe_s mxLe_z)))) (hK5 _ (Option.some.inj e8).symm)
    refine mG_if_eq (pc := 19) (tgt := 26) C dX8_countBeaten_19 (by decide) (fun q16 => ?_) (fun q16 => ?_)
    · rw [if_pos q16] at e19
      refine mG_ic (pc := 26) C dX8_countBeaten_26 kI0 ?_
      exact mG_sub (mxLe_s (mxLe_s (mxLe_n (mxLe_s mxLe_z)))) (J17 _ (Option.some.inj e19))
    · rw [if_neg q16] at e19
      refine mG_ic (pc := 22) C dX8_countBeaten_22 kI1 ?_
      refine mG_goto (tgt := 27) (pc := 23) C dX8_countBeaten_23 (by decide) ?_
      exact mG_sub (mxLe_s (mxLe_s (mxLe_n (mxLe_s mxLe_z)))) (J17 _ (Option.some.inj e19))
theorem dX8_findWinner_0 : decode cX8_findWinner 0 = .ok (.iconst 0, 1) := by decide +kernel
theorem dX8_findWinner_1 : decode cX8_findWinner 1 = .ok (.istore_n 1, 1) := by decide +kernel
theorem dX8_findWinner_2 : decode cX8_findWinner 2 = .ok (.iload_n 1, 1) := by decide +kernel
theorem dX8_findWinner_3 : decode cX8_findWinner 3 = .ok (.aload_n 0, 1) := by decide +kernel
theorem dX8_findWinner_4 : decode cX8_findWinner 4 = .ok (.getfield 15, 3) := by decide +kernel
theorem dX8_findWinner_7 : decode cX8_findWinner 7 = .ok (.if_icmp .ge 36, 3) := by decide +kernel
theorem dX8_findWinner_10 : decode cX8_findWinner 10 = .ok (.iload_n 1, 1) := by decide +kernel
theorem dX8_findWinner_11 : decode cX8_findWinner 11 = .ok (.bipush 6, 2) := by decide +kernel
theorem dX8_findWinner_13 : decode cX8_findWinner 13 = .ok (.if_icmp .ge 30, 3) := by decide +kernel
theorem dX8_findWinner_16 : decode cX8_findWinner 16 = .ok (.aload_n 0, 1) := by decide +kernel
theorem dX8_findWinner_17 : decode cX8_findWinner 17 = .ok (.iload_n 1, 1) := by decide +kernel
theorem dX8_findWinner_18 : decode cX8_findWinner 18 = .ok (.invokevirtual 43, 3) := by decide +kernel
theorem dX8_findWinner_21 : decode cX8_findWinner 21 = .ok (.aload_n 0, 1) := by decide +kernel
theorem dX8_findWinner_22 : decode cX8_findWinner 22 = .ok (.getfield 15, 3) := by decide +kernel
theorem dX8_findWinner_25 : decode cX8_findWinner 25 = .ok (.iconst 1, 1) := by decide +kernel
theorem dX8_findWinner_26 : decode cX8_findWinner 26 = .ok (.isub, 1) := by decide +kernel
theorem dX8_findWinner_27 : decode cX8_findWinner 27 = .ok (.if_icmp .ne 10, 3) := by decide +kernel
theorem dX8_findWinner_30 : decode cX8_findWinner 30 = .ok (.aload_n 0, 1) := by decide +kernel
theorem dX8_findWinner_31 : decode cX8_findWinner 31 = .ok (.getfield 9, 3) := by decide +kernel
theorem dX8_findWinner_34 : decode cX8_findWinner 34 = .ok (.iload_n 1, 1) := by decide +kernel
theorem dX8_findWinner_35 : decode cX8_findWinner 35 = .ok (.iaload, 1) := by decide +kernel
theorem dX8_findWinner_36 : decode cX8_findWinner 36 = .ok (.ireturn, 1) := by decide +kernel
theorem dX8_findWinner_37 : decode cX8_findWinner 37 = .ok (.iinc 1 1, 3) := by decide +kernel
theorem dX8_findWinner_40 : decode cX8_findWinner 40 = .ok (.goto (-38), 3) := by decide +kernel
theorem dX8_findWinner_43 : decode cX8_findWinner 43 = .ok (.iconst (-1), 1) := by decide +kernel
theorem dX8_findWinner_44 : decode cX8_findWinner 44 = .ok (.ireturn, 1) := by decide +kernel
def fX8_findWinner (p0 : Nat) (h : mxH) : Option Int32 := Option.bind (mxLoop (ρ := (Int32 ⊕ Unit)) (fun s1 : Int32 => Option.bind (gI h p0 8 1) (fun v10 => (if v10 ≤ s1 then some (Sum.inr (Sum.inr ())) else (if 6 ≤ s1 then some (Sum.inr (Sum.inr ())) else Option.bind (isO h p0 8) (fun u14 => Option.bind (fX8_countBeaten p0 s1 h) (fun v17 => Option.bind (gI h p0 8 1) (fun v18 => (if v17 = (v18 - 1) then some (Sum.inr (Sum.inl s1)) else some (Sum.inl (s1 + 1)))))))))) mxF 0) (Sum.elim (fun r21 : Int32 => Option.bind (gR h p0 8 0) (fun r22 => Option.bind (ldI h r22 r21) (fun v24 => some v24))) (fun r27 : Unit => some (-1)))
abbrev rmX8_findWinner : Room := { frames := 3, cells := 0, slots := 0, locals := 65 }
set_option maxRecDepth 20000 in
theorem tX8_findWinner {l : Launch} {Z : mxZ} (hl : l.stackTraces = false) {p0 : Nat} {h : mxH} {out : Int32} (hf : fX8_findWinner p0 h = some out) : mxMet l Z yX8_findWinner cX8_findWinner 2 (some .int) rmX8_findWinner [.ref p0] h (.inl (some (.int out))) h := by
  refine mxMet_of (by decide) hl (by simp [Value.category]) (Nat.le_of_ble_eq_true rfl) ?_
  intro X C E hX hin
  unfold fX8_findWinner at hf
  refine mG_ic (pc := 0) C dX8_findWinner_0 kI0 ?_
  refine mG_isn (ls' := [some (.ref p0), some (.int 0)]) (pc := 1) C dX8_findWinner_1 rfl rfl rfl ?_
  obtain ⟨r2, e3, hf⟩ := mx_bind hf
  have J4 : ∀ r21 : Int32, Sum.inl r21 = r2 → mG l Z X 2 0 0 30 [some (.ref p0), some (.int r21)] [] h := by
    intro r21 q26
    subst q26
    rw [Sum.elim_inl] at hf
    refine mG_aload_n (pc := 30) C dX8_findWinner_30 rfl ?_
    obtain ⟨r22, e23, hf⟩ := mx_bind hf
    refine mG_getR (pc := 31) C dX8_findWinner_31 fl_X8_9 e23 ?_
    refine mG_iload_n (pc := 34) C dX8_findWinner_34 rfl ?_
    obtain ⟨v24, e25, hf⟩ := mx_bind hf
    refine mG_iaload (pc := 35) C dX8_findWinner_35 e25 ?_
    cases hf
    exact mG_ir (pc := 36) C E hX dX8_findWinner_36 rfl
  have J5 : ∀ r27 : Unit, Sum.inr r27 = r2 → mG l Z X 2 0 0 43 [none, none] [] h := by
    intro r27 q28
    subst q28
    rw [Sum.elim_inr] at hf
    refine mG_ic (pc := 43) C dX8_findWinner_43 kIm1 ?_
    cases hf
    exact mG_ir (pc := 44) C E hX dX8_findWinner_44 rfl
  refine mG_sub (ls' := [some (.ref p0), some (.int 0)]) (mxLe_s (mxLe_s mxLe_z)) (mxLoop_ind (K := fun s1 : Int32 => mG l Z X 2 0 0 2 [some (.ref p0), some (.int s1)] [] h) ?_ _ _ e3)
  intro s1 o8 e9 hK6 hx7
  refine mG_iload_n (pc := 2) C dX8_findWinner_2 rfl ?_
  refine mG_aload_n (pc := 3) C dX8_findWinner_3 rfl ?_
  obtain ⟨v10, e11, e9⟩ := mx_bind e9
  refine mG_getI (pc := 4) C dX8_findWinner_4 fl_X8_15 e11 ?_
  refine mG_icmp_ge (pc := 7) (tgt := 43) C dX8_findWinner_7 (by decide) (fun q12 => ?_) (fun q12 => ?_)
  · rw [if_pos q12] at e9
    exact mG_sub (mxLe_n (mxLe_n mxLe_z)) (J5 _ (hx7 _ (Option.some.inj e9).symm))
  · rw [if_neg q12] at e9
    refine mG_iload_n (pc := 10) C dX8_findWinner_10 rfl ?_
    refine mG_bp (pc := 11) C dX8_findWinner_11 kB6 ?_
    refine mG_icmp_ge (pc := 13) (tgt := 43) C dX8_findWinner_13 (by decide) (fun q13 => ?_) (fun q13 => ?_)
    · rw [if_pos q13] at e9
      exact mG_sub (mxLe_n (mxLe_n mxLe_z)) (J5 _ (hx7 _ (Option.some.inj e9).symm))
    · rw [if_neg q13] at e9
      refine mG_aload_n (pc := 16) C dX8_findWinner_16 rfl ?_
      refine mG_iload_n (pc := 17) C dX8_findWinner_17 rfl ?_
      obtain ⟨u14, e15, e9⟩ := mx_bind e9
      obtain ⟨v17, e16, e9⟩ := mx_bind e9
      refine mG_cV (pc := 18) (k' := 0) (n' := 0) 8 [.int s1] [] C hX dX8_findWinner_18 lkV_X8_43 rfl rfl e15 (tX8_countBeaten hl e16) rfl rfl rfl rfl ?_
      refine mG_aload_n (pc := 21) C dX8_findWinner_21 rfl ?_
      obtain ⟨v18, e19, e9⟩ := mx_bind e9
      refine mG_getI (pc := 22) C dX8_findWinner_22 fl_X8_15 e19 ?_
      refine mG_ic (pc := 25) C dX8_findWinner_25 kI1 ?_
      refine mG_isub (pc := 26) C dX8_findWinner_26 ?_
      refine mG_icmp_ne (pc := 27) (tgt := 37) C dX8_findWinner_27 (by decide) (fun q20 => ?_) (fun q20 => ?_)
      · rw [if_neg q20] at e9
        refine mG_ii (ls' := [some (.ref p0), some (.int (s1 + 1))]) (pc := 37) C dX8_findWinner_37 rfl (kinc1 _) rfl rfl rfl ?_
        refine mG_goto (tgt := 2) (pc := 40) C dX8_findWinner_40 (by decide) ?_
        exact mG_sub (mxLe_s (mxLe_s mxLe_z)) (hK6 _ (Option.some.inj e9).symm)
      · rw [if_pos q20] at e9
        exact mG_sub (mxLe_s (mxLe_s mxLe_z)) (J4 _ (hx7 _ (Option.some.inj e9).symm))
theorem dX8_beatenBy_0 : decode cX8_beatenBy 0 = .ok (.iconst 0, 1) := by decide +kernel
theorem dX8_beatenBy_1 : decode cX8_beatenBy 1 = .ok (.istore_n 2, 1) := by decide +kernel
theorem dX8_beatenBy_2 : decode cX8_beatenBy 2 = .ok (.iconst 0, 1) := by decide +kernel
theorem dX8_beatenBy_3 : decode cX8_beatenBy 3 = .ok (.istore_n 3, 1) := by decide +kernel
theorem dX8_beatenBy_4 : decode cX8_beatenBy 4 = .ok (.iload_n 3, 1) := by decide +kernel
theorem dX8_beatenBy_5 : decode cX8_beatenBy 5 = .ok (.aload_n 0, 1) := by decide +kernel
theorem dX8_beatenBy_6 : decode cX8_beatenBy 6 = .ok (.getfield 15, 3) := by decide +kernel
theorem dX8_beatenBy_9 : decode cX8_beatenBy 9 = .ok (.if_icmp .ge 53, 3) := by decide +kernel
theorem dX8_beatenBy_12 : decode cX8_beatenBy 12 = .ok (.iconst 0, 1) := by decide +kernel
theorem dX8_beatenBy_13 : decode cX8_beatenBy 13 = .ok (.istore 4, 2) := by decide +kernel
theorem dX8_beatenBy_15 : decode cX8_beatenBy 15 = .ok (.iload 4, 2) := by decide +kernel
theorem dX8_beatenBy_17 : decode cX8_beatenBy 17 = .ok (.aload_n 0, 1) := by decide +kernel
theorem dX8_beatenBy_18 : decode cX8_beatenBy 18 = .ok (.getfield 15, 3) := by decide +kernel
theorem dX8_beatenBy_21 : decode cX8_beatenBy 21 = .ok (.if_icmp .ge 35, 3) := by decide +kernel
theorem dX8_beatenBy_24 : decode cX8_beatenBy 24 = .ok (.iload_n 1, 1) := by decide +kernel
theorem dX8_beatenBy_25 : decode cX8_beatenBy 25 = .ok (.iload_n 3, 1) := by decide +kernel
theorem dX8_beatenBy_26 : decode cX8_beatenBy 26 = .ok (.ishr, 1) := by decide +kernel
theorem dX8_beatenBy_27 : decode cX8_beatenBy 27 = .ok (.iconst 1, 1) := by decide +kernel
theorem dX8_beatenBy_28 : decode cX8_beatenBy 28 = .ok (.iand, 1) := by decide +kernel
theorem dX8_beatenBy_29 : decode cX8_beatenBy 29 = .ok (.iconst 1, 1) := by decide +kernel
theorem dX8_beatenBy_30 : decode cX8_beatenBy 30 = .ok (.if_icmp .ne 20, 3) := by decide +kernel
theorem dX8_beatenBy_33 : decode cX8_beatenBy 33 = .ok (.aload_n 0, 1) := by decide +kernel
theorem dX8_beatenBy_34 : decode cX8_beatenBy 34 = .ok (.iload_n 3, 1) := by decide +kernel
theorem dX8_beatenBy_35 : decode cX8_beatenBy 35 = .ok (.iload 4, 2) := by decide +kernel
theorem dX8_beatenBy_37 : decode cX8_beatenBy 37 = .ok (.invokevirtual 47, 3) := by decide +kernel
theorem dX8_beatenBy_40 : decode cX8_beatenBy 40 = .ok (.ifCond .eq 10, 3) := by decide +kernel
theorem dX8_beatenBy_43 : decode cX8_beatenBy 43 = .ok (.iload_n 2, 1) := by decide +kernel
theorem dX8_beatenBy_44 : decode cX8_beatenBy 44 = .ok (.iconst 1, 1) := by decide +kernel
theorem dX8_beatenBy_45 : decode cX8_beatenBy 45 = .ok (.iload 4, 2) := by decide +kernel
theorem dX8_beatenBy_47 : decode cX8_beatenBy 47 = .ok (.ishl, 1) := by decide +kernel
theorem dX8_beatenBy_48 : decode cX8_beatenBy 48 = .ok (.ior, 1) := by decide +kernel
theorem dX8_beatenBy_49 : decode cX8_beatenBy 49 = .ok (.istore_n 2, 1) := by decide +kernel
theorem dX8_beatenBy_50 : decode cX8_beatenBy 50 = .ok (.iinc 4 1, 3) := by decide +kernel
theorem dX8_beatenBy_53 : decode cX8_beatenBy 53 = .ok (.goto (-38), 3) := by decide +kernel
theorem dX8_beatenBy_56 : decode cX8_beatenBy 56 = .ok (.iinc 3 1, 3) := by decide +kernel
theorem dX8_beatenBy_59 : decode cX8_beatenBy 59 = .ok (.goto (-55), 3) := by decide +kernel
theorem dX8_beatenBy_62 : decode cX8_beatenBy 62 = .ok (.iload_n 2, 1) := by decide +kernel
theorem dX8_beatenBy_63 : decode cX8_beatenBy 63 = .ok (.ireturn, 1) := by decide +kernel
def fX8_beatenBy (p0 : Nat) (p1 : Int32) (h : mxH) : Option Int32 := Option.bind (mxLoop (ρ := Int32) (fun s1 : (Int32 × Int32) => Option.bind (gI h p0 8 1) (fun v9 => (if v9 ≤ s1.2 then some (Sum.inr s1.1) else Option.bind (mxLoop (ρ := Int32) (fun s12 : (Int32 × Int32) => Option.bind (gI h p0 8 1) (fun v20 => (if v20 ≤ s12.2 then some (Sum.inr s12.1) else Option.bind (α := Int32) (if ((p1 >>> (s1.2 &&& 31)) &&& 1) = 1 then Option.bind (isO h p0 8) (fun u27 => Option.bind (fX8_beats p0 s1.2 s12.2 h) (fun v30 => (if v30 = 0 then some s12.1 else some (s12.1 ||| (1 <<< (s12.2 &&& 31)))))) else some s12.1) (fun p25' : Int32 => some (Sum.inl (p25', s12.2 + 1)))))) mxF (s1.1, 0)) (fun r33 : Int32 => some (Sum.inl (r33, s1.2 + 1)))))) mxF (0, 0)) (fun r35 : Int32 => some r35)
abbrev rmX8_beatenBy : Room := { frames := 2, cells := 0, slots := 0, locals := 42 }
set_option maxRecDepth 20000 in
theorem tX8_beatenBy {l : Launch} {Z : mxZ} (hl : l.stackTraces = false) {p0 : Nat} {p1 : Int32} {h : mxH} {out : Int32} (hf : fX8_beatenBy p0 p1 h = some out) : mxMet l Z yX8_beatenBy cX8_beatenBy 5 (some .int) rmX8_beatenBy [.ref p0, .int p1] h (.inl (some (.int out))) h := by
  refine mxMet_of (by decide) hl (by simp [Value.category]) (Nat.le_of_ble_eq_true rfl) ?_
  intro X C E hX hin
  unfold fX8_beatenBy at hf
  refine mG_ic (pc := 0) C dX8_beatenBy_0 kI0 ?_
  refine mG_isn (ls' := [some (.ref p0), some (.int p1), some (.int 0), none, none]) (pc := 1) C dX8_beatenBy_1 rfl rfl rfl ?_
  refine mG_ic (pc := 2) C dX8_beatenBy_2 kI0 ?_
  refine mG_isn (ls' := [some (.ref p0), some (.int p1), some (.int 0), some (.int 0), none]) (pc := 3) C dX8_beatenBy_3 rfl rfl rfl ?_
  obtain ⟨r2, e3, hf⟩ := mx_bind hf
  have J4 : ∀ r35 : Int32, r35 = r2 → mG l Z X 5 0 0 62 [none, none, some (.int r35), none, none] [] h := by
    intro r35 q36
    subst q36
    refine mG_iload_n (pc := 62) C dX8_beatenBy_62 rfl ?_
    cases hf
    exact mG_ir (pc := 63) C E hX dX8_beatenBy_63 rfl
  refine mG_sub (ls' := [some (.ref p0), some (.int p1), some (.int 0), some (.int 0), none]) (mxLe_s (mxLe_s (mxLe_s (mxLe_s (mxLe_n mxLe_z))))) (mxLoop_ind (K := fun s1 : (Int32 × Int32) => mG l Z X 5 0 0 4 [some (.ref p0), some (.int p1), some (.int s1.1), some (.int s1.2), none] [] h) ?_ _ _ e3)
  intro s1 o7 e8 hK5 hx6
  refine mG_iload_n (pc := 4) C dX8_beatenBy_4 rfl ?_
  refine mG_aload_n (pc := 5) C dX8_beatenBy_5 rfl ?_
  obtain ⟨v9, e10, e8⟩ := mx_bind e8
  refine mG_getI (pc := 6) C dX8_beatenBy_6 fl_X8_15 e10 ?_
  refine mG_icmp_ge (pc := 9) (tgt := 62) C dX8_beatenBy_9 (by decide) (fun q11 => ?_) (fun q11 => ?_)
  · rw [if_pos q11] at e8
    exact mG_sub (mxLe_n (mxLe_n (mxLe_s (mxLe_n (mxLe_n mxLe_z))))) (J4 _ (hx6 _ (Option.some.inj e8).symm))
  · rw [if_neg q11] at e8
    refine mG_ic (pc := 12) C dX8_beatenBy_12 kI0 ?_
    refine mG_is (ls' := [some (.ref p0), some (.int p1), some (.int s1.1), some (.int s1.2), some (.int 0)]) (pc := 13) C dX8_beatenBy_13 rfl rfl rfl ?_
    obtain ⟨r13, e14, e8⟩ := mx_bind e8
    have J15 : ∀ r33 : Int32, r33 = r13 → mG l Z X 5 0 0 56 [some (.ref p0), some (.int p1), some (.int r33), some (.int s1.2), none] [] h := by
      intro r33 q34
      subst q34
      refine mG_ii (ls' := [some (.ref p0), some (.int p1), some (.int r33), some (.int (s1.2 + 1)), none]) (pc := 56) C dX8_beatenBy_56 rfl (kinc1 _) rfl rfl rfl ?_
      refine mG_goto (tgt := 4) (pc := 59) C dX8_beatenBy_59 (by decide) ?_
      exact mG_sub (mxLe_s (mxLe_s (mxLe_s (mxLe_s (mxLe_n mxLe_z))))) (hK5 _ (Option.some.inj e8).symm)
    refine mG_sub (ls' := [some (.ref p0), some (.int p1), some (.int s1.1), some (.int s1.2), some (.int 0)]) (mxLe_s (mxLe_s (mxLe_s (mxLe_s (mxLe_s mxLe_z))))) (mxLoop_ind (K := fun s12 : (Int32 × Int32) => mG l Z X 5 0 0 15 [some (.ref p0), some (.int p1), some (.int s12.1), some (.int s1.2), some (.int s12.2)] [] h) ?_ _ _ e14)
    intro s12 o18 e19 hK16 hx17
    refine mG_iload (pc := 15) C dX8_beatenBy_15 rfl ?_
    refine mG_aload_n (pc := 17) C dX8_beatenBy_17 rfl ?_
    obtain ⟨v20, e21, e19⟩ := mx_bind e19
    refine mG_getI (pc := 18) C dX8_beatenBy_18 fl_X8_15 e21 ?_
    refine mG_icmp_ge (pc := 21) (tgt := 56) C dX8_beatenBy_21 (by decide) (fun q22 => ?_) (fun q22 => ?_)
    · rw [if_pos q22] at e19
      exact mG_sub (mxLe_s (mxLe_s (mxLe_s (mxLe_s (mxLe_n mxLe_z))))) (J15 _ (hx17 _ (Option.some.inj e19).symm))
    · rw [if_neg q22] at e19
      refine mG_iload_n (pc := 24) C dX8_beatenBy_24 rfl ?_
      refine mG_iload_n (pc := 25) C dX8_beatenBy_25 rfl ?_
      refine mG_ishr (pc := 26) C dX8_beatenBy_26 ?_
      refine mG_ic (pc := 27) C dX8_beatenBy_27 kI1 ?_
      refine mG_iand (pc := 28) C dX8_beatenBy_28 ?_
      refine mG_ic (pc := 29) C dX8_beatenBy_29 kI1 ?_
      obtain ⟨p25, e26, e19⟩ := mx_bind e19
      have J24 : ∀ p25' : Int32, p25' = p25 → mG l Z X 5 0 0 50 [some (.ref p0), some (.int p1), some (.int p25'), some (.int s1.2), some (.int s12.2)] [] h := by
        intro p25' q32
        subst q32
        refine mG_ii (ls' := [some (.ref p0), some (.int p1), some (.int p25'), some (.int s1.2), some (.int (s12.2 + 1))]) (pc := 50) C dX8_beatenBy_50 rfl (kinc1 _) rfl rfl rfl ?_
        refine mG_goto (tgt := 15) (pc := 53) C dX8_beatenBy_53 (by decide) ?_
        exact mG_sub (mxLe_s (mxLe_s (mxLe_s (mxLe_s (mxLe_s mxLe_z))))) (hK16 _ (Option.some.inj e19).symm)
      refine mG_icmp_ne (pc := 30) (tgt := 50) C dX8_beatenBy_30 (by decide) (fun q23 => ?_) (fun q23 => ?_)
      · rw [if_neg q23] at e26
        exact mG_sub (mxLe_s (mxLe_s (mxLe_s (mxLe_s (mxLe_s mxLe_z))))) (J24 _ (Option.some.inj e26))
      · rw [if_pos q23] at e26
        refine mG_aload_n (pc := 33) C dX8_beatenBy_33 rfl ?_
        refine mG_iload_n (pc := 34) C dX8_beatenBy_34 rfl ?_
        refine mG_iload (pc := 35) C dX8_beatenBy_35 rfl ?_
        obtain ⟨u27, e28, e26⟩ := mx_bind e26
        obtain ⟨v30, e29, e26⟩ := mx_bind e26
        refine mG_cV (pc := 37) (k' := 0) (n' := 0) 8 [.int s1.2, .int s12.2] [] C hX dX8_beatenBy_37 lkV_X8_47 rfl rfl e28 (tX8_beats hl e29) rfl rfl rfl rfl ?_
        refine mG_if_eq (pc := 40) (tgt := 50) C dX8_beatenBy_40 (by decide) (fun q31 => ?_) (fun q31 => ?_)
        · rw [if_pos q31] at e26
          exact mG_sub (mxLe_s (mxLe_s (mxLe_s (mxLe_s (mxLe_s mxLe_z))))) (J24 _ (Option.some.inj e26))
        · rw [if_neg q31] at e26
          refine mG_iload_n (pc := 43) C dX8_beatenBy_43 rfl ?_
          refine mG_ic (pc := 44) C dX8_beatenBy_44 kI1 ?_
          refine mG_iload (pc := 45) C dX8_beatenBy_45 rfl ?_
          refine mG_ishl (pc := 47) C dX8_beatenBy_47 ?_
          refine mG_ior (pc := 48) C dX8_beatenBy_48 ?_
          refine mG_isn (ls' := [some (.ref p0), some (.int p1), some (.int (s12.1 ||| (1 <<< (s12.2 &&& 31)))), some (.int s1.2), some (.int s12.2)]) (pc := 49) C dX8_beatenBy_49 rfl rfl rfl ?_
          exact mG_sub (mxLe_s (mxLe_s (mxLe_s (mxLe_s (mxLe_s mxLe_z))))) (J24 _ (Option.some.inj e26))
theorem dX8_ringFrom_0 : decode cX8_ringFrom 0 = .ok (.iconst 1, 1) := by decide +kernel
theorem dX8_ringFrom_1 : decode cX8_ringFrom 1 = .ok (.iload_n 1, 1) := by decide +kernel
theorem dX8_ringFrom_2 : decode cX8_ringFrom 2 = .ok (.ishl, 1) := by decide +kernel
theorem dX8_ringFrom_3 : decode cX8_ringFrom 3 = .ok (.istore_n 2, 1) := by decide +kernel
theorem dX8_ringFrom_4 : decode cX8_ringFrom 4 = .ok (.iconst 1, 1) := by decide +kernel
theorem dX8_ringFrom_5 : decode cX8_ringFrom 5 = .ok (.istore_n 3, 1) := by decide +kernel
theorem dX8_ringFrom_6 : decode cX8_ringFrom 6 = .ok (.iload_n 3, 1) := by decide +kernel
theorem dX8_ringFrom_7 : decode cX8_ringFrom 7 = .ok (.aload_n 0, 1) := by decide +kernel
theorem dX8_ringFrom_8 : decode cX8_ringFrom 8 = .ok (.getfield 15, 3) := by decide +kernel
theorem dX8_ringFrom_11 : decode cX8_ringFrom 11 = .ok (.if_icmp .gt 26, 3) := by decide +kernel
theorem dX8_ringFrom_14 : decode cX8_ringFrom 14 = .ok (.aload_n 0, 1) := by decide +kernel
theorem dX8_ringFrom_15 : decode cX8_ringFrom 15 = .ok (.iload_n 2, 1) := by decide +kernel
theorem dX8_ringFrom_16 : decode cX8_ringFrom 16 = .ok (.invokevirtual 54, 3) := by decide +kernel
theorem dX8_ringFrom_19 : decode cX8_ringFrom 19 = .ok (.istore_n 2, 1) := by decide +kernel
theorem dX8_ringFrom_20 : decode cX8_ringFrom 20 = .ok (.iload_n 2, 1) := by decide +kernel
theorem dX8_ringFrom_21 : decode cX8_ringFrom 21 = .ok (.iload_n 1, 1) := by decide +kernel
theorem dX8_ringFrom_22 : decode cX8_ringFrom 22 = .ok (.ishr, 1) := by decide +kernel
theorem dX8_ringFrom_23 : decode cX8_ringFrom 23 = .ok (.iconst 1, 1) := by decide +kernel
theorem dX8_ringFrom_24 : decode cX8_ringFrom 24 = .ok (.iand, 1) := by decide +kernel
theorem dX8_ringFrom_25 : decode cX8_ringFrom 25 = .ok (.iconst 1, 1) := by decide +kernel
theorem dX8_ringFrom_26 : decode cX8_ringFrom 26 = .ok (.if_icmp .ne 5, 3) := by decide +kernel
theorem dX8_ringFrom_29 : decode cX8_ringFrom 29 = .ok (.iload_n 3, 1) := by decide +kernel
theorem dX8_ringFrom_30 : decode cX8_ringFrom 30 = .ok (.ireturn, 1) := by decide +kernel
theorem dX8_ringFrom_31 : decode cX8_ringFrom 31 = .ok (.iinc 3 1, 3) := by decide +kernel
theorem dX8_ringFrom_34 : decode cX8_ringFrom 34 = .ok (.goto (-28), 3) := by decide +kernel
theorem dX8_ringFrom_37 : decode cX8_ringFrom 37 = .ok (.iconst (-1), 1) := by decide +kernel
theorem dX8_ringFrom_38 : decode cX8_ringFrom 38 = .ok (.ireturn, 1) := by decide +kernel
def fX8_ringFrom (p0 : Nat) (p1 : Int32) (h : mxH) : Option Int32 := Option.bind (mxLoop (ρ := (Int32 ⊕ Unit)) (fun s1 : (Int32 × Int32) => Option.bind (gI h p0 8 1) (fun v10 => (if v10 < s1.2 then some (Sum.inr (Sum.inr ())) else Option.bind (isO h p0 8) (fun u13 => Option.bind (fX8_beatenBy p0 s1.1 h) (fun v16 => (if ((v16 >>> (p1 &&& 31)) &&& 1) = 1 then some (Sum.inr (Sum.inl s1.2)) else some (Sum.inl (v16, s1.2 + 1)))))))) mxF (1 <<< (p1 &&& 31), 1)) (Sum.elim (fun r18 : Int32 => some r18) (fun r20 : Unit => some (-1)))
abbrev rmX8_ringFrom : Room := { frames := 3, cells := 0, slots := 0, locals := 66 }
set_option maxRecDepth 20000 in
theorem tX8_ringFrom {l : Launch} {Z : mxZ} (hl : l.stackTraces = false) {p0 : Nat} {p1 : Int32} {h : mxH} {out : Int32} (hf : fX8_ringFrom p0 p1 h = some out) : mxMet l Z yX8_ringFrom cX8_ringFrom 4 (some .int) rmX8_ringFrom [.ref p0, .int p1] h (.inl (some (.int out))) h := by
  refine mxMet_of (by decide) hl (by simp [Value.category]) (Nat.le_of_ble_eq_true rfl) ?_
  intro X C E hX hin
  unfold fX8_ringFrom at hf
  refine mG_ic (pc := 0) C dX8_ringFrom_0 kI1 ?_
  refine mG_iload_n (pc := 1) C dX8_ringFrom_1 rfl ?_
  refine mG_ishl (pc := 2) C dX8_ringFrom_2 ?_
  refine mG_isn (ls' := [some (.ref p0), some (.int p1), some (.int (1 <<< (p1 &&& 31))), none]) (pc := 3) C dX8_ringFrom_3 rfl rfl rfl ?_
  refine mG_ic (pc := 4) C dX8_ringFrom_4 kI1 ?_
  refine mG_isn (ls' := [some (.ref p0), some (.int p1), some (.int (1 <<< (p1 &&& 31))), some (.int 1)]) (pc := 5) C dX8_ringFrom_5 rfl rfl rfl ?_
  obtain ⟨r2, e3, hf⟩ := mx_bind hf
  have J4 : ∀ r18 : Int32, Sum.inl r18 = r2 → mG l Z X 4 0 0 29 [none, none, none, some (.int r18)] [] h := by
    intro r18 q19
    subst q19
    rw [Sum.elim_inl] at hf
    refine mG_iload_n (pc := 29) C dX8_ringFrom_29 rfl ?_
    cases hf
    exact mG_ir (pc := 30) C E hX dX8_ringFrom_30 rfl
  have J5 : ∀ r20 : Unit, Sum.inr r20 = r2 → mG l Z X 4 0 0 37 [none, none, none, none] [] h := by
    intro r20 q21
    subst q21
    rw [Sum.elim_inr] at hf
    refine mG_ic (pc := 37) C dX8_ringFrom_37 kIm1 ?_
    cases hf
    exact mG_ir (pc := 38) C E hX dX8_ringFrom_38 rfl
  refine mG_sub (ls' := [some (.ref p0), some (.int p1), some (.int (1 <<< (p1 &&& 31))), some (.int 1)]) (mxLe_s (mxLe_s (mxLe_s (mxLe_s mxLe_z)))) (mxLoop_ind (K := fun s1 : (Int32 × Int32) => mG l Z X 4 0 0 6 [some (.ref p0), some (.int p1), some (.int s1.1), some (.int s1.2)] [] h) ?_ _ _ e3)
  intro s1 o8 e9 hK6 hx7
  refine mG_iload_n (pc := 6) C dX8_ringFrom_6 rfl ?_
  refine mG_aload_n (pc := 7) C dX8_ringFrom_7 rfl ?_
  obtain ⟨v10, e11, e9⟩ := mx_bind e9
  refine mG_getI (pc := 8) C dX8_ringFrom_8 fl_X8_15 e11 ?_
  refine mG_icmp_gt (pc := 11) (tgt := 37) C dX8_ringFrom_11 (by decide) (fun q12 => ?_) (fun q12 => ?_)
  · rw [if_pos q12] at e9
    exact mG_sub (mxLe_n (mxLe_n (mxLe_n (mxLe_n mxLe_z)))) (J5 _ (hx7 _ (Option.some.inj e9).symm))
  · rw [if_neg q12] at e9
    refine mG_aload_n (pc := 14) C dX8_ringFrom_14 rfl ?_
    refine mG_iload_n (pc := 15) C dX8_ringFrom_15 rfl ?_
    obtain ⟨u13, e14, e9⟩ := mx_bind e9
    obtain ⟨v16, e15, e9⟩ := mx_bind e9
    refine mG_cV (pc := 16) (k' := 0) (n' := 0) 8 [.int s1.1] [] C hX dX8_ringFrom_16 lkV_X8_54 rfl rfl e14 (tX8_beatenBy hl e15) rfl rfl rfl rfl ?_
    refine mG_isn (ls' := [some (.ref p0), some (.int p1), some (.int v16), some (.int s1.2)]) (pc := 19) C dX8_ringFrom_19 rfl rfl rfl ?_
    refine mG_iload_n (pc := 20) C dX8_ringFrom_20 rfl ?_
    refine mG_iload_n (pc := 21) C dX8_ringFrom_21 rfl ?_
    refine mG_ishr (pc := 22) C dX8_ringFrom_22 ?_
    refine mG_ic (pc := 23) C dX8_ringFrom_23 kI1 ?_
    refine mG_iand (pc := 24) C dX8_ringFrom_24 ?_
    refine mG_ic (pc := 25) C dX8_ringFrom_25 kI1 ?_
    refine mG_icmp_ne (pc := 26) (tgt := 31) C dX8_ringFrom_26 (by decide) (fun q17 => ?_) (fun q17 => ?_)
    · rw [if_neg q17] at e9
      refine mG_ii (ls' := [some (.ref p0), some (.int p1), some (.int v16), some (.int (s1.2 + 1))]) (pc := 31) C dX8_ringFrom_31 rfl (kinc1 _) rfl rfl rfl ?_
      refine mG_goto (tgt := 6) (pc := 34) C dX8_ringFrom_34 (by decide) ?_
      exact mG_sub (mxLe_s (mxLe_s (mxLe_s (mxLe_s mxLe_z)))) (hK6 _ (Option.some.inj e9).symm)
    · rw [if_pos q17] at e9
      exact mG_sub (mxLe_n (mxLe_n (mxLe_n (mxLe_s mxLe_z)))) (J4 _ (hx7 _ (Option.some.inj e9).symm))
theorem dX8_shortestRing_0 : decode cX8_shortestRing 0 = .ok (.iconst (-1), 1) := by decide +kernel
theorem dX8_shortestRing_1 : decode cX8_shortestRing 1 = .ok (.istore_n 1, 1) := by decide +kernel
theorem dX8_shortestRing_2 : decode cX8_shortestRing 2 = .ok (.iconst 0, 1) := by decide +kernel
theorem dX8_shortestRing_3 : decode cX8_shortestRing 3 = .ok (.istore_n 2, 1) := by decide +kernel
theorem dX8_shortestRing_4 : decode cX8_shortestRing 4 = .ok (.iload_n 2, 1) := by decide +kernel
theorem dX8_shortestRing_5 : decode cX8_shortestRing 5 = .ok (.aload_n 0, 1) := by decide +kernel
theorem dX8_shortestRing_6 : decode cX8_shortestRing 6 = .ok (.getfield 15, 3) := by decide +kernel
theorem dX8_shortestRing_9 : decode cX8_shortestRing 9 = .ok (.if_icmp .ge 32, 3) := by decide +kernel
theorem dX8_shortestRing_12 : decode cX8_shortestRing 12 = .ok (.aload_n 0, 1) := by decide +kernel
theorem dX8_shortestRing_13 : decode cX8_shortestRing 13 = .ok (.iload_n 2, 1) := by decide +kernel
theorem dX8_shortestRing_14 : decode cX8_shortestRing 14 = .ok (.invokevirtual 51, 3) := by decide +kernel
theorem dX8_shortestRing_17 : decode cX8_shortestRing 17 = .ok (.istore_n 3, 1) := by decide +kernel
theorem dX8_shortestRing_18 : decode cX8_shortestRing 18 = .ok (.iload_n 3, 1) := by decide +kernel
theorem dX8_shortestRing_19 : decode cX8_shortestRing 19 = .ok (.iconst (-1), 1) := by decide +kernel
theorem dX8_shortestRing_20 : decode cX8_shortestRing 20 = .ok (.if_icmp .eq 15, 3) := by decide +kernel
theorem dX8_shortestRing_23 : decode cX8_shortestRing 23 = .ok (.iload_n 1, 1) := by decide +kernel
theorem dX8_shortestRing_24 : decode cX8_shortestRing 24 = .ok (.iconst (-1), 1) := by decide +kernel
theorem dX8_shortestRing_25 : decode cX8_shortestRing 25 = .ok (.if_icmp .eq 8, 3) := by decide +kernel
theorem dX8_shortestRing_28 : decode cX8_shortestRing 28 = .ok (.iload_n 3, 1) := by decide +kernel
theorem dX8_shortestRing_29 : decode cX8_shortestRing 29 = .ok (.iload_n 1, 1) := by decide +kernel
theorem dX8_shortestRing_30 : decode cX8_shortestRing 30 = .ok (.if_icmp .ge 5, 3) := by decide +kernel
theorem dX8_shortestRing_33 : decode cX8_shortestRing 33 = .ok (.iload_n 3, 1) := by decide +kernel
theorem dX8_shortestRing_34 : decode cX8_shortestRing 34 = .ok (.istore_n 1, 1) := by decide +kernel
theorem dX8_shortestRing_35 : decode cX8_shortestRing 35 = .ok (.iinc 2 1, 3) := by decide +kernel
theorem dX8_shortestRing_38 : decode cX8_shortestRing 38 = .ok (.goto (-34), 3) := by decide +kernel
theorem dX8_shortestRing_41 : decode cX8_shortestRing 41 = .ok (.iload_n 1, 1) := by decide +kernel
theorem dX8_shortestRing_42 : decode cX8_shortestRing 42 = .ok (.ireturn, 1) := by decide +kernel
def fX8_shortestRing (p0 : Nat) (h : mxH) : Option Int32 := Option.bind (mxLoop (ρ := Int32) (fun s1 : (Int32 × Int32) => Option.bind (gI h p0 8 1) (fun v9 => (if v9 ≤ s1.2 then some (Sum.inr s1.1) else Option.bind (isO h p0 8) (fun u12 => Option.bind (fX8_ringFrom p0 s1.2 h) (fun v15 => Option.bind (α := Int32) (if v15 = (-1) then some s1.1 else (if s1.1 = (-1) then some v15 else (if s1.1 ≤ v15 then some s1.1 else some v15))) (fun p18' : Int32 => some (Sum.inl (p18', s1.2 + 1)))))))) mxF ((-1), 0)) (fun r23 : Int32 => some r23)
abbrev rmX8_shortestRing : Room := { frames := 4, cells := 0, slots := 0, locals := 89 }
set_option maxRecDepth 20000 in
theorem tX8_shortestRing {l : Launch} {Z : mxZ} (hl : l.stackTraces = false) {p0 : Nat} {h : mxH} {out : Int32} (hf : fX8_shortestRing p0 h = some out) : mxMet l Z yX8_shortestRing cX8_shortestRing 4 (some .int) rmX8_shortestRing [.ref p0] h (.inl (some (.int out))) h := by
  refine mxMet_of (by decide) hl (by simp [Value.category]) (Nat.le_of_ble_eq_true rfl) ?_
  intro X C E hX hin
  unfold fX8_shortestRing at hf
  refine mG_ic (pc := 0) C dX8_shortestRing_0 kIm1 ?_
  refine mG_isn (ls' := [some (.ref p0), some (.int (-1)), none, none]) (pc := 1) C dX8_shortestRing_1 rfl rfl rfl ?_
  refine mG_ic (pc := 2) C dX8_shortestRing_2 kI0 ?_
  refine mG_isn (ls' := [some (.ref p0), some (.int (-1)), some (.int 0), none]) (pc := 3) C dX8_shortestRing_3 rfl rfl rfl ?_
  obtain ⟨r2, e3, hf⟩ := mx_bind hf
  have J4 : ∀ r23 : Int32, r23 = r2 → mG l Z X 4 0 0 41 [none, some (.int r23), none, none] [] h := by
    intro r23 q24
    subst q24
    refine mG_iload_n (pc := 41) C dX8_shortestRing_41 rfl ?_
    cases hf
    exact mG_ir (pc := 42) C E hX dX8_shortestRing_42 rfl
  refine mG_sub (ls' := [some (.ref p0), some (.int (-1)), some (.int 0), none]) (mxLe_s (mxLe_s (mxLe_s (mxLe_n mxLe_z)))) (mxLoop_ind (K := fun s1 : (Int32 × Int32) => mG l Z X 4 0 0 4 [some (.ref p0), some (.int s1.1), some (.int s1.2), none] [] h) ?_ _ _ e3)
  intro s1 o7 e8 hK5 hx6
  refine mG_iload_n (pc := 4) C dX8_shortestRing_4 rfl ?_
  refine mG_aload_n (pc := 5) C dX8_shortestRing_5 rfl ?_
  obtain ⟨v9, e10, e8⟩ := mx_bind e8
  refine mG_getI (pc := 6) C dX8_shortestRing_6 fl_X8_15 e10 ?_
  refine mG_icmp_ge (pc := 9) (tgt := 41) C dX8_shortestRing_9 (by decide) (fun q11 => ?_) (fun q11 => ?_)
  · rw [if_pos q11] at e8
    exact mG_sub (mxLe_n (mxLe_s (mxLe_n (mxLe_n mxLe_z)))) (J4 _ (hx6 _ (Option.some.inj e8).symm))
  · rw [if_neg q11] at e8
    refine mG_aload_n (pc := 12) C dX8_shortestRing_12 rfl ?_
    refine mG_iload_n (pc := 13) C dX8_shortestRing_13 rfl ?_
    obtain ⟨u12, e13, e8⟩ := mx_bind e8
    obtain ⟨v15, e14, e8⟩ := mx_bind e8
    refine mG_cV (pc := 14) (k' := 0) (n' := 0) 8 [.int s1.2] [] C hX dX8_shortestRing_14 lkV_X8_51 rfl rfl e13 (tX8_ringFrom hl e14) rfl rfl rfl rfl ?_
    refine mG_isn (ls' := [some (.ref p0), some (.int s1.1), some (.int s1.2), some (.int v15)]) (pc := 17) C dX8_shortestRing_17 rfl rfl rfl ?_
    refine mG_iload_n (pc := 18) C dX8_shortestRing_18 rfl ?_
    refine mG_ic (pc := 19) C dX8_shortestRing_19 kIm1 ?_
    obtain ⟨p18, e19, e8⟩ := mx_bind e8
    have J17 : ∀ p18' : Int32, p18' = p18 → mG l Z X 4 0 0 35 [some (.ref p0), some (.int p18'), some (.int s1.2), none] [] h := by
      intro p18' q22
      subst q22
      refine mG_ii (ls' := [some (.ref p0), some (.int p18'), some (.int (s1.2 + 1)), none]) (pc := 35) C dX8_shortestRing_35 rfl (kinc1 _) rfl rfl rfl ?_
      refine mG_goto (tgt := 4) (pc := 38) C dX8_shortestRing_38 (by decide) ?_
      exact mG_sub (mxLe_s (mxLe_s (mxLe_s (mxLe_n mxLe_z)))) (hK5 _ (Option.some.inj e8).symm)
    refine mG_icmp_eq (pc := 20) (tgt := 35) C dX8_shortestRing_20 (by decide) (fun q16 => ?_) (fun q16 => ?_)
    · rw [if_pos q16] at e19
      exact mG_sub (mxLe_s (mxLe_s (mxLe_s (mxLe_n mxLe_z)))) (J17 _ (Option.some.inj e19))
    · rw [if_neg q16] at e19
      refine mG_iload_n (pc := 23) C dX8_shortestRing_23 rfl ?_
      refine mG_ic (pc := 24) C dX8_shortestRing_24 kIm1 ?_
      refine mG_icmp_eq (pc := 25) (tgt := 33) C dX8_shortestRing_25 (by decide) (fun q20 => ?_) (fun q20 => ?_)
      · rw [if_pos q20] at e19
        refine mG_iload_n (pc := 33) C dX8_shortestRing_33 rfl ?_
        refine mG_isn (ls' := [some (.ref p0), some (.int v15), some (.int s1.2), some (.int v15)]) (pc := 34) C dX8_shortestRing_34 rfl rfl rfl ?_
        exact mG_sub (mxLe_s (mxLe_s (mxLe_s (mxLe_n mxLe_z)))) (J17 _ (Option.some.inj e19))
      · rw [if_neg q20] at e19
        refine mG_iload_n (pc := 28) C dX8_shortestRing_28 rfl ?_
        refine mG_iload_n (pc := 29) C dX8_shortestRing_29 rfl ?_
        refine mG_icmp_ge (pc := 30) (tgt := 35) C dX8_shortestRing_30 (by decide) (fun q21 => ?_) (fun q21 => ?_)
        · rw [if_pos q21] at e19
          exact mG_sub (mxLe_s (mxLe_s (mxLe_s (mxLe_n mxLe_z)))) (J17 _ (Option.some.inj e19))
        · rw [if_neg q21] at e19
          refine mG_iload_n (pc := 33) C dX8_shortestRing_33 rfl ?_
          refine mG_isn (ls' := [some (.ref p0), some (.int v15), some (.int s1.2), some (.int v15)]) (pc := 34) C dX8_shortestRing_34 rfl rfl rfl ?_
          exact mG_sub (mxLe_s (mxLe_s (mxLe_s (mxLe_n mxLe_z)))) (J17 _ (Option.some.inj e19))
theorem dX8_swapsBehind_0 : decode cX8_swapsBehind 0 = .ok (.iload_n 1, 1) := by decide +kernel
theorem dX8_swapsBehind_1 : decode cX8_swapsBehind 1 = .ok (.invokestatic 30, 3) := by decide +kernel
theorem dX8_swapsBehind_4 : decode cX8_swapsBehind 4 = .ok (.ifCond .ne 5, 3) := by decide +kernel
theorem dX8_swapsBehind_7 : decode cX8_swapsBehind 7 = .ok (.iconst 0, 1) := by decide +kernel
theorem dX8_swapsBehind_8 : decode cX8_swapsBehind 8 = .ok (.ireturn, 1) := by decide +kernel
theorem dX8_swapsBehind_9 : decode cX8_swapsBehind 9 = .ok (.iload_n 2, 1) := by decide +kernel
theorem dX8_swapsBehind_10 : decode cX8_swapsBehind 10 = .ok (.iconst 1, 1) := by decide +kernel
theorem dX8_swapsBehind_11 : decode cX8_swapsBehind 11 = .ok (.iload_n 1, 1) := by decide +kernel
theorem dX8_swapsBehind_12 : decode cX8_swapsBehind 12 = .ok (.ishl, 1) := by decide +kernel
theorem dX8_swapsBehind_13 : decode cX8_swapsBehind 13 = .ok (.iconst (-1), 1) := by decide +kernel
theorem dX8_swapsBehind_14 : decode cX8_swapsBehind 14 = .ok (.ixor, 1) := by decide +kernel
theorem dX8_swapsBehind_15 : decode cX8_swapsBehind 15 = .ok (.iand, 1) := by decide +kernel
theorem dX8_swapsBehind_16 : decode cX8_swapsBehind 16 = .ok (.istore_n 3, 1) := by decide +kernel
theorem dX8_swapsBehind_17 : decode cX8_swapsBehind 17 = .ok (.iload_n 3, 1) := by decide +kernel
theorem dX8_swapsBehind_18 : decode cX8_swapsBehind 18 = .ok (.ifCond .lt 21, 3) := by decide +kernel
theorem dX8_swapsBehind_21 : decode cX8_swapsBehind 21 = .ok (.iload_n 3, 1) := by decide +kernel
theorem dX8_swapsBehind_22 : decode cX8_swapsBehind 22 = .ok (.aload_n 0, 1) := by decide +kernel
theorem dX8_swapsBehind_23 : decode cX8_swapsBehind 23 = .ok (.getfield 24, 3) := by decide +kernel
theorem dX8_swapsBehind_26 : decode cX8_swapsBehind 26 = .ok (.arraylength, 1) := by decide +kernel
theorem dX8_swapsBehind_27 : decode cX8_swapsBehind 27 = .ok (.if_icmp .ge 12, 3) := by decide +kernel
theorem dX8_swapsBehind_30 : decode cX8_swapsBehind 30 = .ok (.aload_n 0, 1) := by decide +kernel
theorem dX8_swapsBehind_31 : decode cX8_swapsBehind 31 = .ok (.getfield 24, 3) := by decide +kernel
theorem dX8_swapsBehind_34 : decode cX8_swapsBehind 34 = .ok (.iload_n 3, 1) := by decide +kernel
theorem dX8_swapsBehind_35 : decode cX8_swapsBehind 35 = .ok (.iaload, 1) := by decide +kernel
theorem dX8_swapsBehind_36 : decode cX8_swapsBehind 36 = .ok (.goto 4, 3) := by decide +kernel
theorem dX8_swapsBehind_39 : decode cX8_swapsBehind 39 = .ok (.iconst 0, 1) := by decide +kernel
theorem dX8_swapsBehind_40 : decode cX8_swapsBehind 40 = .ok (.istore 4, 2) := by decide +kernel
theorem dX8_swapsBehind_42 : decode cX8_swapsBehind 42 = .ok (.iconst 0, 1) := by decide +kernel
theorem dX8_swapsBehind_43 : decode cX8_swapsBehind 43 = .ok (.istore 5, 2) := by decide +kernel
theorem dX8_swapsBehind_45 : decode cX8_swapsBehind 45 = .ok (.iload 5, 2) := by decide +kernel
theorem dX8_swapsBehind_47 : decode cX8_swapsBehind 47 = .ok (.aload_n 0, 1) := by decide +kernel
theorem dX8_swapsBehind_48 : decode cX8_swapsBehind 48 = .ok (.getfield 15, 3) := by decide +kernel
theorem dX8_swapsBehind_51 : decode cX8_swapsBehind 51 = .ok (.if_icmp .ge 44, 3) := by decide +kernel
theorem dX8_swapsBehind_54 : decode cX8_swapsBehind 54 = .ok (.iload 5, 2) := by decide +kernel
theorem dX8_swapsBehind_56 : decode cX8_swapsBehind 56 = .ok (.bipush 6, 2) := by decide +kernel
theorem dX8_swapsBehind_58 : decode cX8_swapsBehind 58 = .ok (.if_icmp .ge 37, 3) := by decide +kernel
theorem dX8_swapsBehind_61 : decode cX8_swapsBehind 61 = .ok (.iload 4, 2) := by decide +kernel
theorem dX8_swapsBehind_63 : decode cX8_swapsBehind 63 = .ok (.iload_n 3, 1) := by decide +kernel
theorem dX8_swapsBehind_64 : decode cX8_swapsBehind 64 = .ok (.iload 5, 2) := by decide +kernel
theorem dX8_swapsBehind_66 : decode cX8_swapsBehind 66 = .ok (.ishr, 1) := by decide +kernel
theorem dX8_swapsBehind_67 : decode cX8_swapsBehind 67 = .ok (.iconst 1, 1) := by decide +kernel
theorem dX8_swapsBehind_68 : decode cX8_swapsBehind 68 = .ok (.iand, 1) := by decide +kernel
theorem dX8_swapsBehind_69 : decode cX8_swapsBehind 69 = .ok (.iconst 1, 1) := by decide +kernel
theorem dX8_swapsBehind_70 : decode cX8_swapsBehind 70 = .ok (.if_icmp .ne 15, 3) := by decide +kernel
theorem dX8_swapsBehind_73 : decode cX8_swapsBehind 73 = .ok (.aload_n 0, 1) := by decide +kernel
theorem dX8_swapsBehind_74 : decode cX8_swapsBehind 74 = .ok (.getfield 21, 3) := by decide +kernel
theorem dX8_swapsBehind_77 : decode cX8_swapsBehind 77 = .ok (.iload 5, 2) := by decide +kernel
theorem dX8_swapsBehind_79 : decode cX8_swapsBehind 79 = .ok (.aaload, 1) := by decide +kernel
theorem dX8_swapsBehind_80 : decode cX8_swapsBehind 80 = .ok (.iload_n 1, 1) := by decide +kernel
theorem dX8_swapsBehind_81 : decode cX8_swapsBehind 81 = .ok (.iaload, 1) := by decide +kernel
theorem dX8_swapsBehind_82 : decode cX8_swapsBehind 82 = .ok (.goto 4, 3) := by decide +kernel
theorem dX8_swapsBehind_85 : decode cX8_swapsBehind 85 = .ok (.iconst 0, 1) := by decide +kernel
theorem dX8_swapsBehind_86 : decode cX8_swapsBehind 86 = .ok (.iadd, 1) := by decide +kernel
theorem dX8_swapsBehind_87 : decode cX8_swapsBehind 87 = .ok (.istore 4, 2) := by decide +kernel
theorem dX8_swapsBehind_89 : decode cX8_swapsBehind 89 = .ok (.iinc 5 1, 3) := by decide +kernel
theorem dX8_swapsBehind_92 : decode cX8_swapsBehind 92 = .ok (.goto (-47), 3) := by decide +kernel
theorem dX8_swapsBehind_95 : decode cX8_swapsBehind 95 = .ok (.iload 4, 2) := by decide +kernel
theorem dX8_swapsBehind_97 : decode cX8_swapsBehind 97 = .ok (.ireturn, 1) := by decide +kernel
def fX8_swapsBehind (p0 : Nat) (p1 : Int32) (p2 : Int32) (h : mxH) : Option Int32 := Option.bind (fX8_isCandidate p1 h) (fun v2 => (if v2 = 0 then some 0 else Option.bind (α := Int32) (if (p2 &&& ((1 <<< (p1 &&& 31)) ^^^ (-1))) < 0 then some 0 else Option.bind (gR h p0 8 3) (fun r8 => Option.bind (lenA h r8) (fun v10 => (if v10 ≤ (p2 &&& ((1 <<< (p1 &&& 31)) ^^^ (-1))) then some 0 else Option.bind (gR h p0 8 3) (fun r13 => Option.bind (ldI h r13 (p2 &&& ((1 <<< (p1 &&& 31)) ^^^ (-1)))) (fun v15 => some v15)))))) (fun p6' : Int32 => Option.bind (mxLoop (ρ := Int32) (fun s17 : (Int32 × Int32) => Option.bind (gI h p0 8 1) (fun v25 => (if v25 ≤ s17.2 then some (Sum.inr s17.1) else (if 6 ≤ s17.2 then some (Sum.inr s17.1) else Option.bind (α := Int32) (if (((p2 &&& ((1 <<< (p1 &&& 31)) ^^^ (-1))) >>> (s17.2 &&& 31)) &&& 1) = 1 then Option.bind (gR h p0 8 2) (fun r33 => Option.bind (ldR h r33 s17.2) (fun r35 => Option.bind (ldI h r35 p1) (fun v37 => some v37))) else some 0) (fun p31' : Int32 => some (Sum.inl (s17.1 + p31', s17.2 + 1))))))) mxF (p6', 0)) (fun r40 : Int32 => some r40))))
abbrev rmX8_swapsBehind : Room := { frames := 1, cells := 0, slots := 0, locals := 20 }
set_option maxRecDepth 20000 in
theorem tX8_swapsBehind {l : Launch} {Z : mxZ} (hl : l.stackTraces = false) {p0 : Nat} {p1 : Int32} {p2 : Int32} {h : mxH} {out : Int32} (hf : fX8_swapsBehind p0 p1 p2 h = some out) : mxMet l Z yX8_swapsBehind cX8_swapsBehind 6 (some .int) rmX8_swapsBehind [.ref p0, .int p1, .int p2] h (.inl (some (.int out))) h := by
  refine mxMet_of (by decide) hl (by simp [Value.category]) (Nat.le_of_ble_eq_true rfl) ?_
  intro X C E hX hin
  unfold fX8_swapsBehind at hf
  refine mG_iload_n (pc := 0) C dX8_swapsBehind_0 rfl ?_
  obtain ⟨v2, e1, hf⟩ := mx_bind hf
  refine mG_cS (pc := 1) (k' := 0) (n' := 0) [.int p1] [] C hX dX8_swapsBehind_1 lkS_X8_30 rfl (tX8_isCandidate hl e1) rfl rfl rfl rfl ?_
  refine mG_if_ne (pc := 4) (tgt := 9) C dX8_swapsBehind_4 (by decide) (fun q3 => ?_) (fun q3 => ?_)
  · rw [if_neg q3] at hf
    refine mG_iload_n (pc := 9) C dX8_swapsBehind_9 rfl ?_
    refine mG_ic (pc := 10) C dX8_swapsBehind_10 kI1 ?_
    refine mG_iload_n (pc := 11) C dX8_swapsBehind_11 rfl ?_
    refine mG_ishl (pc := 12) C dX8_swapsBehind_12 ?_
    refine mG_ic (pc := 13) C dX8_swapsBehind_13 kIm1 ?_
    refine mG_ixor (pc := 14) C dX8_swapsBehind_14 ?_
    refine mG_iand (pc := 15) C dX8_swapsBehind_15 ?_
    refine mG_isn (ls' := [some (.ref p0), some (.int p1), some (.int p2), some (.int (p2 &&& ((1 <<< (p1 &&& 31)) ^^^ (-1)))), none, none]) (pc := 16) C dX8_swapsBehind_16 rfl rfl rfl ?_
    refine mG_iload_n (pc := 17) C dX8_swapsBehind_17 rfl ?_
    obtain ⟨p6, e7, hf⟩ := mx_bind hf
    have J5 : ∀ p6' : Int32, p6' = p6 → mG l Z X 6 0 0 40 [some (.ref p0), some (.int p1), none, some (.int (p2 &&& ((1 <<< (p1 &&& 31)) ^^^ (-1)))), none, none] [.int p6'] h := by
      intro p6' q42
      subst q42
      refine mG_is (ls' := [some (.ref p0), some (.int p1), none, some (.int (p2 &&& ((1 <<< (p1 &&& 31)) ^^^ (-1)))), some (.int p6'), none]) (pc := 40) C dX8_swapsBehind_40 rfl rfl rfl ?_
      refine mG_ic (pc := 42) C dX8_swapsBehind_42 kI0 ?_
      refine mG_is (ls' := [some (.ref p0), some (.int p1), none, some (.int (p2 &&& ((1 <<< (p1 &&& 31)) ^^^ (-1)))), some (.int p6'), some (.int 0)]) (pc := 43) C dX8_swapsBehind_43 rfl rfl rfl ?_
      obtain ⟨r18, e19, hf⟩ := mx_bind hf
      have J20 : ∀ r40 : Int32, r40 = r18 → mG l Z X 6 0 0 95 [none, none, none, none, some (.int r40), none] [] h := by
        intro r40 q41
        subst q41
        refine mG_iload (pc := 95) C dX8_swapsBehind_95 rfl ?_
        cases hf
        exact mG_ir (pc := 97) C E hX dX8_swapsBehind_97 rfl
      refine mG_sub (ls' := [some (.ref p0), some (.int p1), none, some (.int (p2 &&& ((1 <<< (p1 &&& 31)) ^^^ (-1)))), some (.int p6'), some (.int 0)]) (mxLe_s (mxLe_s (mxLe_n (mxLe_s (mxLe_s (mxLe_s mxLe_z)))))) (mxLoop_ind (K := fun s17 : (Int32 × Int32) => mG l Z X 6 0 0 45 [some (.ref p0), some (.int p1), none, some (.int (p2 &&& ((1 <<< (p1 &&& 31)) ^^^ (-1)))), some (.int s17.1), some (.int s17.2)] [] h) ?_ _ _ e19)
      intro s17 o23 e24 hK21 hx22
      refine mG_iload (pc := 45) C dX8_swapsBehind_45 rfl ?_
      refine mG_aload_n (pc := 47) C dX8_swapsBehind_47 rfl ?_
      obtain ⟨v25, e26, e24⟩ := mx_bind e24
      refine mG_getI (pc := 48) C dX8_swapsBehind_48 fl_X8_15 e26 ?_
      refine mG_icmp_ge (pc := 51) (tgt := 95) C dX8_swapsBehind_51 (by decide) (fun q27 => ?_) (fun q27 => ?_)
      · rw [if_pos q27] at e24
        exact mG_sub (mxLe_n (mxLe_n (mxLe_n (mxLe_n (mxLe_s (mxLe_n mxLe_z)))))) (J20 _ (hx22 _ (Option.some.inj e24).symm))
      · rw [if_neg q27] at e24
        refine mG_iload (pc := 54) C dX8_swapsBehind_54 rfl ?_
        refine mG_bp (pc := 56) C dX8_swapsBehind_56 kB6 ?_
        refine mG_icmp_ge (pc := 58) (tgt := 95) C dX8_swapsBehind_58 (by decide) (fun q28 => ?_) (fun q28 => ?_)
        · rw [if_pos q28] at e24
          exact mG_sub (mxLe_n (mxLe_n (mxLe_n (mxLe_n (mxLe_s (mxLe_n mxLe_z)))))) (J20 _ (hx22 _ (Option.some.inj e24).symm))
        · rw [if_neg q28] at e24
          refine mG_iload (pc := 61) C dX8_swapsBehind_61 rfl ?_
          refine mG_iload_n (pc := 63) C dX8_swapsBehind_63 rfl ?_
          refine mG_iload (pc := 64) C dX8_swapsBehind_64 rfl ?_
          refine mG_ishr (pc := 66) C dX8_swapsBehind_66 ?_
          refine mG_ic (pc := 67) C dX8_swapsBehind_67 kI1 ?_
          refine mG_iand (pc := 68) C dX8_swapsBehind_68 ?_
          refine mG_ic (pc := 69) C dX8_swapsBehind_69 kI1 ?_
          obtain ⟨p31, e32, e24⟩ := mx_bind e24
          have J30 : ∀ p31' : Int32, p31' = p31 → mG l Z X 6 0 0 86 [some (.ref p0), some (.int p1), none, some (.int (p2 &&& ((1 <<< (p1 &&& 31)) ^^^ (-1)))), none, some (.int s17.2)] [.int p31', .int s17.1] h := by
            intro p31' q39
            subst q39
            refine mG_iadd (pc := 86) C dX8_swapsBehind_86 ?_
            refine mG_is (ls' := [some (.ref p0), some (.int p1), none, some (.int (p2 &&& ((1 <<< (p1 &&& 31)) ^^^ (-1)))), some (.int (s17.1 + p31')), some (.int s17.2)]) (pc := 87) C dX8_swapsBehind_87 rfl rfl rfl ?_
            refine mG_ii (ls' := [some (.ref p0), some (.int p1), none, some (.int (p2 &&& ((1 <<< (p1 &&& 31)) ^^^ (-1)))), some (.int (s17.1 + p31')), some (.int (s17.2 + 1))]) (pc := 89) C dX8_swapsBehind_89 rfl (kinc1 _) rfl rfl rfl ?_
            refine mG_goto (tgt := 45) (pc := 92) C dX8_swapsBehind_92 (by decide) ?_
            exact mG_sub (mxLe_s (mxLe_s (mxLe_n (mxLe_s (mxLe_s (mxLe_s mxLe_z)))))) (hK21 _ (Option.some.inj e24).symm)
          refine mG_icmp_ne (pc := 70) (tgt := 85) C dX8_swapsBehind_70 (by decide) (fun q29 => ?_) (fun q29 => ?_)
          · rw [if_neg q29] at e32
            refine mG_ic (pc := 85) C dX8_swapsBehind_85 kI0 ?_
            exact mG_sub (mxLe_s (mxLe_s (mxLe_n (mxLe_s (mxLe_n (mxLe_s mxLe_z)))))) (J30 _ (Option.some.inj e32))
          · rw [if_pos q29] at e32
            refine mG_aload_n (pc := 73) C dX8_swapsBehind_73 rfl ?_
            obtain ⟨r33, e34, e32⟩ := mx_bind e32
            refine mG_getR (pc := 74) C dX8_swapsBehind_74 fl_X8_21 e34 ?_
            refine mG_iload (pc := 77) C dX8_swapsBehind_77 rfl ?_
            obtain ⟨r35, e36, e32⟩ := mx_bind e32
            refine mG_aaload (pc := 79) C dX8_swapsBehind_79 e36 ?_
            refine mG_iload_n (pc := 80) C dX8_swapsBehind_80 rfl ?_
            obtain ⟨v37, e38, e32⟩ := mx_bind e32
            refine mG_iaload (pc := 81) C dX8_swapsBehind_81 e38 ?_
            refine mG_goto (tgt := 86) (pc := 82) C dX8_swapsBehind_82 (by decide) ?_
            exact mG_sub (mxLe_s (mxLe_s (mxLe_n (mxLe_s (mxLe_n (mxLe_s mxLe_z)))))) (J30 _ (Option.some.inj e32))
    refine mG_if_lt (pc := 18) (tgt := 39) C dX8_swapsBehind_18 (by decide) (fun q4 => ?_) (fun q4 => ?_)
    · rw [if_pos q4] at e7
      refine mG_ic (pc := 39) C dX8_swapsBehind_39 kI0 ?_
      exact mG_sub (mxLe_s (mxLe_s (mxLe_n (mxLe_s (mxLe_n (mxLe_n mxLe_z)))))) (J5 _ (Option.some.inj e7))
    · rw [if_neg q4] at e7
      refine mG_iload_n (pc := 21) C dX8_swapsBehind_21 rfl ?_
      refine mG_aload_n (pc := 22) C dX8_swapsBehind_22 rfl ?_
      obtain ⟨r8, e9, e7⟩ := mx_bind e7
      refine mG_getR (pc := 23) C dX8_swapsBehind_23 fl_X8_24 e9 ?_
      obtain ⟨v10, e11, e7⟩ := mx_bind e7
      refine mG_arraylength (pc := 26) C dX8_swapsBehind_26 e11 ?_
      refine mG_icmp_ge (pc := 27) (tgt := 39) C dX8_swapsBehind_27 (by decide) (fun q12 => ?_) (fun q12 => ?_)
      · rw [if_pos q12] at e7
        refine mG_ic (pc := 39) C dX8_swapsBehind_39 kI0 ?_
        exact mG_sub (mxLe_s (mxLe_s (mxLe_n (mxLe_s (mxLe_n (mxLe_n mxLe_z)))))) (J5 _ (Option.some.inj e7))
      · rw [if_neg q12] at e7
        refine mG_aload_n (pc := 30) C dX8_swapsBehind_30 rfl ?_
        obtain ⟨r13, e14, e7⟩ := mx_bind e7
        refine mG_getR (pc := 31) C dX8_swapsBehind_31 fl_X8_24 e14 ?_
        refine mG_iload_n (pc := 34) C dX8_swapsBehind_34 rfl ?_
        obtain ⟨v15, e16, e7⟩ := mx_bind e7
        refine mG_iaload (pc := 35) C dX8_swapsBehind_35 e16 ?_
        refine mG_goto (tgt := 40) (pc := 36) C dX8_swapsBehind_36 (by decide) ?_
        exact mG_sub (mxLe_s (mxLe_s (mxLe_n (mxLe_s (mxLe_n (mxLe_n mxLe_z)))))) (J5 _ (Option.some.inj e7))
  · rw [if_pos q3] at hf
    refine mG_ic (pc := 7) C dX8_swapsBehind_7 kI0 ?_
    cases hf
    exact mG_ir (pc := 8) C E hX dX8_swapsBehind_8 rfl
theorem dX8_firstOf_0 : decode cX8_firstOf 0 = .ok (.iconst (-1), 1) := by decide +kernel
theorem dX8_firstOf_1 : decode cX8_firstOf 1 = .ok (.istore_n 2, 1) := by decide +kernel
theorem dX8_firstOf_2 : decode cX8_firstOf 2 = .ok (.iconst 0, 1) := by decide +kernel
theorem dX8_firstOf_3 : decode cX8_firstOf 3 = .ok (.istore_n 3, 1) := by decide +kernel
theorem dX8_firstOf_4 : decode cX8_firstOf 4 = .ok (.iload_n 3, 1) := by decide +kernel
theorem dX8_firstOf_5 : decode cX8_firstOf 5 = .ok (.aload_n 0, 1) := by decide +kernel
theorem dX8_firstOf_6 : decode cX8_firstOf 6 = .ok (.getfield 15, 3) := by decide +kernel
theorem dX8_firstOf_9 : decode cX8_firstOf 9 = .ok (.if_icmp .ge 40, 3) := by decide +kernel
theorem dX8_firstOf_12 : decode cX8_firstOf 12 = .ok (.iload_n 1, 1) := by decide +kernel
theorem dX8_firstOf_13 : decode cX8_firstOf 13 = .ok (.iload_n 3, 1) := by decide +kernel
theorem dX8_firstOf_14 : decode cX8_firstOf 14 = .ok (.ishr, 1) := by decide +kernel
theorem dX8_firstOf_15 : decode cX8_firstOf 15 = .ok (.iconst 1, 1) := by decide +kernel
theorem dX8_firstOf_16 : decode cX8_firstOf 16 = .ok (.iand, 1) := by decide +kernel
theorem dX8_firstOf_17 : decode cX8_firstOf 17 = .ok (.iconst 1, 1) := by decide +kernel
theorem dX8_firstOf_18 : decode cX8_firstOf 18 = .ok (.if_icmp .ne 25, 3) := by decide +kernel
theorem dX8_firstOf_21 : decode cX8_firstOf 21 = .ok (.iload_n 2, 1) := by decide +kernel
theorem dX8_firstOf_22 : decode cX8_firstOf 22 = .ok (.iconst (-1), 1) := by decide +kernel
theorem dX8_firstOf_23 : decode cX8_firstOf 23 = .ok (.if_icmp .eq 18, 3) := by decide +kernel
theorem dX8_firstOf_26 : decode cX8_firstOf 26 = .ok (.aload_n 0, 1) := by decide +kernel
theorem dX8_firstOf_27 : decode cX8_firstOf 27 = .ok (.iload_n 3, 1) := by decide +kernel
theorem dX8_firstOf_28 : decode cX8_firstOf 28 = .ok (.iload_n 1, 1) := by decide +kernel
theorem dX8_firstOf_29 : decode cX8_firstOf 29 = .ok (.invokevirtual 60, 3) := by decide +kernel
theorem dX8_firstOf_32 : decode cX8_firstOf 32 = .ok (.aload_n 0, 1) := by decide +kernel
theorem dX8_firstOf_33 : decode cX8_firstOf 33 = .ok (.iload_n 2, 1) := by decide +kernel
theorem dX8_firstOf_34 : decode cX8_firstOf 34 = .ok (.iload_n 1, 1) := by decide +kernel
theorem dX8_firstOf_35 : decode cX8_firstOf 35 = .ok (.invokevirtual 60, 3) := by decide +kernel
theorem dX8_firstOf_38 : decode cX8_firstOf 38 = .ok (.if_icmp .ge 5, 3) := by decide +kernel
theorem dX8_firstOf_41 : decode cX8_firstOf 41 = .ok (.iload_n 3, 1) := by decide +kernel
theorem dX8_firstOf_42 : decode cX8_firstOf 42 = .ok (.istore_n 2, 1) := by decide +kernel
theorem dX8_firstOf_43 : decode cX8_firstOf 43 = .ok (.iinc 3 1, 3) := by decide +kernel
theorem dX8_firstOf_46 : decode cX8_firstOf 46 = .ok (.goto (-42), 3) := by decide +kernel
theorem dX8_firstOf_49 : decode cX8_firstOf 49 = .ok (.iload_n 2, 1) := by decide +kernel
theorem dX8_firstOf_50 : decode cX8_firstOf 50 = .ok (.ireturn, 1) := by decide +kernel
def fX8_firstOf (p0 : Nat) (p1 : Int32) (h : mxH) : Option Int32 := Option.bind (mxLoop (ρ := Int32) (fun s1 : (Int32 × Int32) => Option.bind (gI h p0 8 1) (fun v9 => (if v9 ≤ s1.2 then some (Sum.inr s1.1) else Option.bind (α := Int32) (if ((p1 >>> (s1.2 &&& 31)) &&& 1) = 1 then (if s1.1 = (-1) then some s1.2 else Option.bind (isO h p0 8) (fun u17 => Option.bind (fX8_swapsBehind p0 s1.2 p1 h) (fun v20 => Option.bind (isO h p0 8) (fun u21 => Option.bind (fX8_swapsBehind p0 s1.1 p1 h) (fun v24 => (if v24 ≤ v20 then some s1.1 else some s1.2)))))) else some s1.1) (fun p14' : Int32 => some (Sum.inl (p14', s1.2 + 1)))))) mxF ((-1), 0)) (fun r27 : Int32 => some r27)
abbrev rmX8_firstOf : Room := { frames := 2, cells := 0, slots := 0, locals := 45 }
set_option maxRecDepth 20000 in
theorem tX8_firstOf {l : Launch} {Z : mxZ} (hl : l.stackTraces = false) {p0 : Nat} {p1 : Int32} {h : mxH} {out : Int32} (hf : fX8_firstOf p0 p1 h = some out) : mxMet l Z yX8_firstOf cX8_firstOf 4 (some .int) rmX8_firstOf [.ref p0, .int p1] h (.inl (some (.int out))) h := by
  refine mxMet_of (by decide) hl (by simp [Value.category]) (Nat.le_of_ble_eq_true rfl) ?_
  intro X C E hX hin
  unfold fX8_firstOf at hf
  refine mG_ic (pc := 0) C dX8_firstOf_0 kIm1 ?_
  refine mG_isn (ls' := [some (.ref p0), some (.int p1), some (.int (-1)), none]) (pc := 1) C dX8_firstOf_1 rfl rfl rfl ?_
  refine mG_ic (pc := 2) C dX8_firstOf_2 kI0 ?_
  refine mG_isn (ls' := [some (.ref p0), some (.int p1), some (.int (-1)), some (.int 0)]) (pc := 3) C dX8_firstOf_3 rfl rfl rfl ?_
  obtain ⟨r2, e3, hf⟩ := mx_bind hf
  have J4 : ∀ r27 : Int32, r27 = r2 → mG l Z X 4 0 0 49 [none, none, some (.int r27), none] [] h := by
    intro r27 q28
    subst q28
    refine mG_iload_n (pc := 49) C dX8_firstOf_49 rfl ?_
    cases hf
    exact mG_ir (pc := 50) C E hX dX8_firstOf_50 rfl
  refine mG_sub (ls' := [some (.ref p0), some (.int p1), some (.int (-1)), some (.int 0)]) (mxLe_s (mxLe_s (mxLe_s (mxLe_s mxLe_z)))) (mxLoop_ind (K := fun s1 : (Int32 × Int32) => mG l Z X 4 0 0 4 [some (.ref p0), some (.int p1), some (.int s1.1), some (.int s1.2)] [] h) ?_ _ _ e3)
  intro s1 o7 e8 hK5 hx6
  refine mG_iload_n (pc := 4) C dX8_firstOf_4 rfl ?_
  refine mG_aload_n (pc := 5) C dX8_firstOf_5 rfl ?_
  obtain ⟨v9, e10, e8⟩ := mx_bind e8
  refine mG_getI (pc := 6) C dX8_firstOf_6 fl_X8_15 e10 ?_
  refine mG_icmp_ge (pc := 9) (tgt := 49) C dX8_firstOf_9 (by decide) (fun q11 => ?_) (fun q11 => ?_)
  · rw [if_pos q11] at e8
    exact mG_sub (mxLe_n (mxLe_n (mxLe_s (mxLe_n mxLe_z)))) (J4 _ (hx6 _ (Option.some.inj e8).symm))
  · rw [if_neg q11] at e8
    refine mG_iload_n (pc := 12) C dX8_firstOf_12 rfl ?_
    refine mG_iload_n (pc := 13) C dX8_firstOf_13 rfl ?_
    refine mG_ishr (pc := 14) C dX8_firstOf_14 ?_
    refine mG_ic (pc := 15) C dX8_firstOf_15 kI1 ?_
    refine mG_iand (pc := 16) C dX8_firstOf_16 ?_
    refine mG_ic (pc := 17) C dX8_firstOf_17 kI1 ?_
    obtain ⟨p14, e15, e8⟩ := mx_bind e8
    have J13 : ∀ p14' : Int32, p14' = p14 → mG l Z X 4 0 0 43 [some (.ref p0), some (.int p1), some (.int p14'), some (.int s1.2)] [] h := by
      intro p14' q26
      subst q26
      refine mG_ii (ls' := [some (.ref p0), some (.int p1), some (.int p14'), some (.int (s1.2 + 1))]) (pc := 43) C dX8_firstOf_43 rfl (kinc1 _) rfl rfl rfl ?_
      refine mG_goto (tgt := 4) (pc := 46) C dX8_firstOf_46 (by decide) ?_
      exact mG_sub (mxLe_s (mxLe_s (mxLe_s (mxLe_s mxLe_z)))) (hK5 _ (Option.some.inj e8).symm)
    refine mG_icmp_ne (pc := 18) (tgt := 43) C dX8_firstOf_18 (by decide) (fun q12 => ?_) (fun q12 => ?_)
    · rw [if_neg q12] at e15
      exact mG_sub (mxLe_s (mxLe_s (mxLe_s (mxLe_s mxLe_z)))) (J13 _ (Option.some.inj e15))
    · rw [if_pos q12] at e15
      refine mG_iload_n (pc := 21) C dX8_firstOf_21 rfl ?_
      refine mG_ic (pc := 22) C dX8_firstOf_22 kIm1 ?_
      refine mG_icmp_eq (pc := 23) (tgt := 41) C dX8_firstOf_23 (by decide) (fun q16 => ?_) (fun q16 => ?_)
      · rw [if_pos q16] at e15
        refine mG_iload_n (pc := 41) C dX8_firstOf_41 rfl ?_
        refine mG_isn (ls' := [some (.ref p0), some (.int p1), some (.int s1.2), some (.int s1.2)]) (pc := 42) C dX8_firstOf_42 rfl rfl rfl ?_
        exact mG_sub (mxLe_s (mxLe_s (mxLe_s (mxLe_s mxLe_z)))) (J13 _ (Option.some.inj e15))
      · rw [if_neg q16] at e15
        refine mG_aload_n (pc := 26) C dX8_firstOf_26 rfl ?_
        refine mG_iload_n (pc := 27) C dX8_firstOf_27 rfl ?_
        refine mG_iload_n (pc := 28) C dX8_firstOf_28 rfl ?_
        obtain ⟨u17, e18, e15⟩ := mx_bind e15
        obtain ⟨v20, e19, e15⟩ := mx_bind e15
        refine mG_cV (pc := 29) (k' := 0) (n' := 0) 8 [.int s1.2, .int p1] [] C hX dX8_firstOf_29 lkV_X8_60 rfl rfl e18 (tX8_swapsBehind hl e19) rfl rfl rfl rfl ?_
        refine mG_aload_n (pc := 32) C dX8_firstOf_32 rfl ?_
        refine mG_iload_n (pc := 33) C dX8_firstOf_33 rfl ?_
        refine mG_iload_n (pc := 34) C dX8_firstOf_34 rfl ?_
        obtain ⟨u21, e22, e15⟩ := mx_bind e15
        obtain ⟨v24, e23, e15⟩ := mx_bind e15
        refine mG_cV (pc := 35) (k' := 0) (n' := 0) 8 [.int s1.1, .int p1] [.int v20] C hX dX8_firstOf_35 lkV_X8_60 rfl rfl e22 (tX8_swapsBehind hl e23) rfl rfl rfl rfl ?_
        refine mG_icmp_ge (pc := 38) (tgt := 43) C dX8_firstOf_38 (by decide) (fun q25 => ?_) (fun q25 => ?_)
        · rw [if_pos q25] at e15
          exact mG_sub (mxLe_s (mxLe_s (mxLe_s (mxLe_s mxLe_z)))) (J13 _ (Option.some.inj e15))
        · rw [if_neg q25] at e15
          refine mG_iload_n (pc := 41) C dX8_firstOf_41 rfl ?_
          refine mG_isn (ls' := [some (.ref p0), some (.int p1), some (.int s1.2), some (.int s1.2)]) (pc := 42) C dX8_firstOf_42 rfl rfl rfl ?_
          exact mG_sub (mxLe_s (mxLe_s (mxLe_s (mxLe_s mxLe_z)))) (J13 _ (Option.some.inj e15))
theorem dX8_arrange_0 : decode cX8_arrange 0 = .ok (.iconst 1, 1) := by decide +kernel
theorem dX8_arrange_1 : decode cX8_arrange 1 = .ok (.aload_n 0, 1) := by decide +kernel
theorem dX8_arrange_2 : decode cX8_arrange 2 = .ok (.getfield 15, 3) := by decide +kernel
theorem dX8_arrange_5 : decode cX8_arrange 5 = .ok (.ishl, 1) := by decide +kernel
theorem dX8_arrange_6 : decode cX8_arrange 6 = .ok (.iconst 1, 1) := by decide +kernel
theorem dX8_arrange_7 : decode cX8_arrange 7 = .ok (.isub, 1) := by decide +kernel
theorem dX8_arrange_8 : decode cX8_arrange 8 = .ok (.istore_n 1, 1) := by decide +kernel
theorem dX8_arrange_9 : decode cX8_arrange 9 = .ok (.aload_n 0, 1) := by decide +kernel
theorem dX8_arrange_10 : decode cX8_arrange 10 = .ok (.getfield 24, 3) := by decide +kernel
theorem dX8_arrange_13 : decode cX8_arrange 13 = .ok (.iconst 0, 1) := by decide +kernel
theorem dX8_arrange_14 : decode cX8_arrange 14 = .ok (.iconst 0, 1) := by decide +kernel
theorem dX8_arrange_15 : decode cX8_arrange 15 = .ok (.iastore, 1) := by decide +kernel
theorem dX8_arrange_16 : decode cX8_arrange 16 = .ok (.iconst 1, 1) := by decide +kernel
theorem dX8_arrange_17 : decode cX8_arrange 17 = .ok (.istore_n 2, 1) := by decide +kernel
theorem dX8_arrange_18 : decode cX8_arrange 18 = .ok (.iload_n 2, 1) := by decide +kernel
theorem dX8_arrange_19 : decode cX8_arrange 19 = .ok (.iload_n 1, 1) := by decide +kernel
theorem dX8_arrange_20 : decode cX8_arrange 20 = .ok (.if_icmp .gt 34, 3) := by decide +kernel
theorem dX8_arrange_23 : decode cX8_arrange 23 = .ok (.iload_n 2, 1) := by decide +kernel
theorem dX8_arrange_24 : decode cX8_arrange 24 = .ok (.aload_n 0, 1) := by decide +kernel
theorem dX8_arrange_25 : decode cX8_arrange 25 = .ok (.getfield 24, 3) := by decide +kernel
theorem dX8_arrange_28 : decode cX8_arrange 28 = .ok (.arraylength, 1) := by decide +kernel
theorem dX8_arrange_29 : decode cX8_arrange 29 = .ok (.if_icmp .ge 25, 3) := by decide +kernel
theorem dX8_arrange_32 : decode cX8_arrange 32 = .ok (.aload_n 0, 1) := by decide +kernel
theorem dX8_arrange_33 : decode cX8_arrange 33 = .ok (.getfield 24, 3) := by decide +kernel
theorem dX8_arrange_36 : decode cX8_arrange 36 = .ok (.iload_n 2, 1) := by decide +kernel
theorem dX8_arrange_37 : decode cX8_arrange 37 = .ok (.aload_n 0, 1) := by decide +kernel
theorem dX8_arrange_38 : decode cX8_arrange 38 = .ok (.aload_n 0, 1) := by decide +kernel
theorem dX8_arrange_39 : decode cX8_arrange 39 = .ok (.iload_n 2, 1) := by decide +kernel
theorem dX8_arrange_40 : decode cX8_arrange 40 = .ok (.invokevirtual 57, 3) := by decide +kernel
theorem dX8_arrange_43 : decode cX8_arrange 43 = .ok (.iload_n 2, 1) := by decide +kernel
theorem dX8_arrange_44 : decode cX8_arrange 44 = .ok (.invokevirtual 60, 3) := by decide +kernel
theorem dX8_arrange_47 : decode cX8_arrange 47 = .ok (.iastore, 1) := by decide +kernel
theorem dX8_arrange_48 : decode cX8_arrange 48 = .ok (.iinc 2 1, 3) := by decide +kernel
theorem dX8_arrange_51 : decode cX8_arrange 51 = .ok (.goto (-33), 3) := by decide +kernel
theorem dX8_arrange_54 : decode cX8_arrange 54 = .ok (.iload_n 1, 1) := by decide +kernel
theorem dX8_arrange_55 : decode cX8_arrange 55 = .ok (.istore_n 2, 1) := by decide +kernel
theorem dX8_arrange_56 : decode cX8_arrange 56 = .ok (.iconst 0, 1) := by decide +kernel
theorem dX8_arrange_57 : decode cX8_arrange 57 = .ok (.istore_n 3, 1) := by decide +kernel
theorem dX8_arrange_58 : decode cX8_arrange 58 = .ok (.iload_n 3, 1) := by decide +kernel
theorem dX8_arrange_59 : decode cX8_arrange 59 = .ok (.aload_n 0, 1) := by decide +kernel
theorem dX8_arrange_60 : decode cX8_arrange 60 = .ok (.getfield 15, 3) := by decide +kernel
theorem dX8_arrange_63 : decode cX8_arrange 63 = .ok (.if_icmp .ge 52, 3) := by decide +kernel
theorem dX8_arrange_66 : decode cX8_arrange 66 = .ok (.iload_n 3, 1) := by decide +kernel
theorem dX8_arrange_67 : decode cX8_arrange 67 = .ok (.bipush 6, 2) := by decide +kernel
theorem dX8_arrange_69 : decode cX8_arrange 69 = .ok (.if_icmp .ge 46, 3) := by decide +kernel
theorem dX8_arrange_72 : decode cX8_arrange 72 = .ok (.aload_n 0, 1) := by decide +kernel
theorem dX8_arrange_73 : decode cX8_arrange 73 = .ok (.iload_n 2, 1) := by decide +kernel
theorem dX8_arrange_74 : decode cX8_arrange 74 = .ok (.invokevirtual 57, 3) := by decide +kernel
theorem dX8_arrange_77 : decode cX8_arrange 77 = .ok (.istore 4, 2) := by decide +kernel
theorem dX8_arrange_79 : decode cX8_arrange 79 = .ok (.iload 4, 2) := by decide +kernel
theorem dX8_arrange_81 : decode cX8_arrange 81 = .ok (.invokestatic 30, 3) := by decide +kernel
theorem dX8_arrange_84 : decode cX8_arrange 84 = .ok (.ifCond .eq 25, 3) := by decide +kernel
theorem dX8_arrange_87 : decode cX8_arrange 87 = .ok (.aload_n 0, 1) := by decide +kernel
theorem dX8_arrange_88 : decode cX8_arrange 88 = .ok (.getfield 27, 3) := by decide +kernel
theorem dX8_arrange_91 : decode cX8_arrange 91 = .ok (.iload_n 3, 1) := by decide +kernel
theorem dX8_arrange_92 : decode cX8_arrange 92 = .ok (.aload_n 0, 1) := by decide +kernel
theorem dX8_arrange_93 : decode cX8_arrange 93 = .ok (.getfield 9, 3) := by decide +kernel
theorem dX8_arrange_96 : decode cX8_arrange 96 = .ok (.iload 4, 2) := by decide +kernel
theorem dX8_arrange_98 : decode cX8_arrange 98 = .ok (.iaload, 1) := by decide +kernel
theorem dX8_arrange_99 : decode cX8_arrange 99 = .ok (.iastore, 1) := by decide +kernel
theorem dX8_arrange_100 : decode cX8_arrange 100 = .ok (.iload_n 2, 1) := by decide +kernel
theorem dX8_arrange_101 : decode cX8_arrange 101 = .ok (.iconst 1, 1) := by decide +kernel
theorem dX8_arrange_102 : decode cX8_arrange 102 = .ok (.iload 4, 2) := by decide +kernel
theorem dX8_arrange_104 : decode cX8_arrange 104 = .ok (.ishl, 1) := by decide +kernel
theorem dX8_arrange_105 : decode cX8_arrange 105 = .ok (.iconst (-1), 1) := by decide +kernel
theorem dX8_arrange_106 : decode cX8_arrange 106 = .ok (.ixor, 1) := by decide +kernel
theorem dX8_arrange_107 : decode cX8_arrange 107 = .ok (.iand, 1) := by decide +kernel
theorem dX8_arrange_108 : decode cX8_arrange 108 = .ok (.istore_n 2, 1) := by decide +kernel
theorem dX8_arrange_109 : decode cX8_arrange 109 = .ok (.iinc 3 1, 3) := by decide +kernel
theorem dX8_arrange_112 : decode cX8_arrange 112 = .ok (.goto (-54), 3) := by decide +kernel
theorem dX8_arrange_115 : decode cX8_arrange 115 = .ok (.iload_n 1, 1) := by decide +kernel
theorem dX8_arrange_116 : decode cX8_arrange 116 = .ok (.ifCond .lt 21, 3) := by decide +kernel
theorem dX8_arrange_119 : decode cX8_arrange 119 = .ok (.iload_n 1, 1) := by decide +kernel
theorem dX8_arrange_120 : decode cX8_arrange 120 = .ok (.aload_n 0, 1) := by decide +kernel
theorem dX8_arrange_121 : decode cX8_arrange 121 = .ok (.getfield 24, 3) := by decide +kernel
theorem dX8_arrange_124 : decode cX8_arrange 124 = .ok (.arraylength, 1) := by decide +kernel
theorem dX8_arrange_125 : decode cX8_arrange 125 = .ok (.if_icmp .ge 12, 3) := by decide +kernel
theorem dX8_arrange_128 : decode cX8_arrange 128 = .ok (.aload_n 0, 1) := by decide +kernel
theorem dX8_arrange_129 : decode cX8_arrange 129 = .ok (.getfield 24, 3) := by decide +kernel
theorem dX8_arrange_132 : decode cX8_arrange 132 = .ok (.iload_n 1, 1) := by decide +kernel
theorem dX8_arrange_133 : decode cX8_arrange 133 = .ok (.iaload, 1) := by decide +kernel
theorem dX8_arrange_134 : decode cX8_arrange 134 = .ok (.goto 4, 3) := by decide +kernel
theorem dX8_arrange_137 : decode cX8_arrange 137 = .ok (.iconst 0, 1) := by decide +kernel
theorem dX8_arrange_138 : decode cX8_arrange 138 = .ok (.ireturn, 1) := by decide +kernel
def fX8_arrange (p0 : Nat) (h : mxH) : Option (Int32 × mxH) := Option.bind (gI h p0 8 1) (fun v1 => Option.bind (gR h p0 8 3) (fun r3 => Option.bind (stI h r3 0 0) (fun h5 => Option.bind (mxLoop (ρ := mxH) (fun s7 : (Int32 × mxH) => (if ((1 <<< (v1 &&& 31)) - 1) < s7.1 then some (Sum.inr s7.2) else Option.bind (gR s7.2 p0 8 3) (fun r16 => Option.bind (lenA s7.2 r16) (fun v18 => (if v18 ≤ s7.1 then some (Sum.inr s7.2) else Option.bind (gR s7.2 p0 8 3) (fun r21 => Option.bind (isO s7.2 p0 8) (fun u23 => Option.bind (fX8_firstOf p0 s7.1 s7.2) (fun v26 => Option.bind (isO s7.2 p0 8) (fun u27 => Option.bind (fX8_swapsBehind p0 v26 s7.1 s7.2) (fun v30 => Option.bind (stI s7.2 r21 s7.1 v30) (fun h31 => some (Sum.inl (s7.1 + 1, h31))))))))))))) mxF (1, h5)) (fun r33 : mxH => Option.bind (mxLoop (ρ := mxH) (fun s34 : (Int32 × Int32 × mxH) => Option.bind (gI s34.2.2 p0 8 1) (fun v42 => (if v42 ≤ s34.2.1 then some (Sum.inr s34.2.2) else (if 6 ≤ s34.2.1 then some (Sum.inr s34.2.2) else Option.bind (isO s34.2.2 p0 8) (fun u46 => Option.bind (fX8_firstOf p0 s34.1 s34.2.2) (fun v49 => Option.bind (fX8_isCandidate v49 s34.2.2) (fun v51 => Option.bind (α := (Int32 × mxH)) (if v51 = 0 then some (s34.1, s34.2.2) else Option.bind (gR s34.2.2 p0 8 4) (fun r56 => Option.bind (gR s34.2.2 p0 8 0) (fun r58 => Option.bind (ldI s34.2.2 r58 v49) (fun v60 => Option.bind (stI s34.2.2 r56 s34.2.1 v60) (fun h62 => some (s34.1 &&& ((1 <<< (v49 &&& 31)) ^^^ (-1)), h62)))))) (fun p54' : (Int32 × mxH) => some (Sum.inl (p54'.1, s34.2.1 + 1, p54'.2)))))))))) mxF ((1 <<< (v1 &&& 31)) - 1, 0, r33)) (fun r65 : mxH => Option.bind (α := Int32) (if ((1 <<< (v1 &&& 31)) - 1) < 0 then some 0 else Option.bind (gR r65 p0 8 3) (fun r70 => Option.bind (lenA r65 r70) (fun v72 => (if v72 ≤ ((1 <<< (v1 &&& 31)) - 1) then some 0 else Option.bind (gR r65 p0 8 3) (fun r75 => Option.bind (ldI r65 r75 ((1 <<< (v1 &&& 31)) - 1)) (fun v77 => some v77)))))) (fun p68' : Int32 => some (p68', r65)))))))
abbrev rmX8_arrange : Room := { frames := 3, cells := 0, slots := 0, locals := 68 }
set_option maxRecDepth 20000 in
theorem tX8_arrange {l : Launch} {Z : mxZ} (hl : l.stackTraces = false) {p0 : Nat} {h : mxH} {out : (Int32 × mxH)} (hf : fX8_arrange p0 h = some out) : mxMet l Z yX8_arrange cX8_arrange 5 (some .int) rmX8_arrange [.ref p0] h (.inl (some (.int out.1))) out.2 := by
  refine mxMet_of (by decide) hl (by simp [Value.category]) (Nat.le_of_ble_eq_true rfl) ?_
  intro X C E hX hin
  unfold fX8_arrange at hf
  refine mG_ic (pc := 0) C dX8_arrange_0 kI1 ?_
  refine mG_aload_n (pc := 1) C dX8_arrange_1 rfl ?_
  obtain ⟨v1, e2, hf⟩ := mx_bind hf
  refine mG_getI (pc := 2) C dX8_arrange_2 fl_X8_15 e2 ?_
  refine mG_ishl (pc := 5) C dX8_arrange_5 ?_
  refine mG_ic (pc := 6) C dX8_arrange_6 kI1 ?_
  refine mG_isub (pc := 7) C dX8_arrange_7 ?_
  refine mG_isn (ls' := [some (.ref p0), some (.int ((1 <<< (v1 &&& 31)) - 1)), none, none, none]) (pc := 8) C dX8_arrange_8 rfl rfl rfl ?_
  refine mG_aload_n (pc := 9) C dX8_arrange_9 rfl ?_
  obtain ⟨r3, e4, hf⟩ := mx_bind hf
  refine mG_getR (pc := 10) C dX8_arrange_10 fl_X8_24 e4 ?_
  refine mG_ic (pc := 13) C dX8_arrange_13 kI0 ?_
  refine mG_ic (pc := 14) C dX8_arrange_14 kI0 ?_
  obtain ⟨h5, e6, hf⟩ := mx_bind hf
  refine mG_iastore (pc := 15) C dX8_arrange_15 e6 ?_
  refine mG_ic (pc := 16) C dX8_arrange_16 kI1 ?_
  refine mG_isn (ls' := [some (.ref p0), some (.int ((1 <<< (v1 &&& 31)) - 1)), some (.int 1), none, none]) (pc := 17) C dX8_arrange_17 rfl rfl rfl ?_
  obtain ⟨r8, e9, hf⟩ := mx_bind hf
  have J10 : ∀ r33 : mxH, r33 = r8 → mG l Z X 5 0 0 54 [some (.ref p0), some (.int ((1 <<< (v1 &&& 31)) - 1)), none, none, none] [] r33 := by
    intro r33 q81
    subst q81
    refine mG_iload_n (pc := 54) C dX8_arrange_54 rfl ?_
    refine mG_isn (ls' := [some (.ref p0), some (.int ((1 <<< (v1 &&& 31)) - 1)), some (.int ((1 <<< (v1 &&& 31)) - 1)), none, none]) (pc := 55) C dX8_arrange_55 rfl rfl rfl ?_
    refine mG_ic (pc := 56) C dX8_arrange_56 kI0 ?_
    refine mG_isn (ls' := [some (.ref p0), some (.int ((1 <<< (v1 &&& 31)) - 1)), some (.int ((1 <<< (v1 &&& 31)) - 1)), some (.int 0), none]) (pc := 57) C dX8_arrange_57 rfl rfl rfl ?_
    obtain ⟨r35, e36, hf⟩ := mx_bind hf
    have J37 : ∀ r65 : mxH, r65 = r35 → mG l Z X 5 0 0 115 [some (.ref p0), some (.int ((1 <<< (v1 &&& 31)) - 1)), none, none, none] [] r65 := by
      intro r65 q80
      subst q80
      refine mG_iload_n (pc := 115) C dX8_arrange_115 rfl ?_
      obtain ⟨p68, e69, hf⟩ := mx_bind hf
      have J67 : ∀ p68' : Int32, p68' = p68 → mG l Z X 5 0 0 138 [none, none, none, none, none] [.int p68'] r65 := by
        intro p68' q79
        subst q79
        cases hf
        exact mG_ir (pc := 138) C E hX dX8_arrange_138 rfl
      refine mG_if_lt (pc := 116) (tgt := 137) C dX8_arrange_116 (by decide) (fun q66 => ?_) (fun q66 => ?_)
      · rw [if_pos q66] at e69
        refine mG_ic (pc := 137) C dX8_arrange_137 kI0 ?_
        exact mG_sub (mxLe_n (mxLe_n (mxLe_n (mxLe_n (mxLe_n mxLe_z))))) (J67 _ (Option.some.inj e69))
      · rw [if_neg q66] at e69
        refine mG_iload_n (pc := 119) C dX8_arrange_119 rfl ?_
        refine mG_aload_n (pc := 120) C dX8_arrange_120 rfl ?_
        obtain ⟨r70, e71, e69⟩ := mx_bind e69
        refine mG_getR (pc := 121) C dX8_arrange_121 fl_X8_24 e71 ?_
        obtain ⟨v72, e73, e69⟩ := mx_bind e69
        refine mG_arraylength (pc := 124) C dX8_arrange_124 e73 ?_
        refine mG_icmp_ge (pc := 125) (tgt := 137) C dX8_arrange_125 (by decide) (fun q74 => ?_) (fun q74 => ?_)
        · rw [if_pos q74] at e69
          refine mG_ic (pc := 137) C dX8_arrange_137 kI0 ?_
          exact mG_sub (mxLe_n (mxLe_n (mxLe_n (mxLe_n (mxLe_n mxLe_z))))) (J67 _ (Option.some.inj e69))
        · rw [if_neg q74] at e69
          refine mG_aload_n (pc := 128) C dX8_arrange_128 rfl ?_
          obtain ⟨r75, e76, e69⟩ := mx_bind e69
          refine mG_getR (pc := 129) C dX8_arrange_129 fl_X8_24 e76 ?_
          refine mG_iload_n (pc := 132) C dX8_arrange_132 rfl ?_
          obtain ⟨v77, e78, e69⟩ := mx_bind e69
          refine mG_iaload (pc := 133) C dX8_arrange_133 e78 ?_
          refine mG_goto (tgt := 138) (pc := 134) C dX8_arrange_134 (by decide) ?_
          exact mG_sub (mxLe_n (mxLe_n (mxLe_n (mxLe_n (mxLe_n mxLe_z))))) (J67 _ (Option.some.inj e69))
    refine mG_sub (ls' := [some (.ref p0), some (.int ((1 <<< (v1 &&& 31)) - 1)), some (.int ((1 <<< (v1 &&& 31)) - 1)), some (.int 0), none]) (mxLe_s (mxLe_s (mxLe_s (mxLe_s (mxLe_n mxLe_z))))) (mxLoop_ind (K := fun s34 : (Int32 × Int32 × mxH) => mG l Z X 5 0 0 58 [some (.ref p0), some (.int ((1 <<< (v1 &&& 31)) - 1)), some (.int s34.1), some (.int s34.2.1), none] [] s34.2.2) ?_ _ _ e36)
    intro s34 o40 e41 hK38 hx39
    refine mG_iload_n (pc := 58) C dX8_arrange_58 rfl ?_
    refine mG_aload_n (pc := 59) C dX8_arrange_59 rfl ?_
    obtain ⟨v42, e43, e41⟩ := mx_bind e41
    refine mG_getI (pc := 60) C dX8_arrange_60 fl_X8_15 e43 ?_
    refine mG_icmp_ge (pc := 63) (tgt := 115) C dX8_arrange_63 (by decide) (fun q44 => ?_) (fun q44 => ?_)
    · rw [if_pos q44] at e41
      exact mG_sub (mxLe_s (mxLe_s (mxLe_n (mxLe_n (mxLe_n mxLe_z))))) (J37 _ (hx39 _ (Option.some.inj e41).symm))
    · rw [if_neg q44] at e41
      refine mG_iload_n (pc := 66) C dX8_arrange_66 rfl ?_
      refine mG_bp (pc := 67) C dX8_arrange_67 kB6 ?_
      refine mG_icmp_ge (pc := 69) (tgt := 115) C dX8_arrange_69 (by decide) (fun q45 => ?_) (fun q45 => ?_)
      · rw [if_pos q45] at e41
        exact mG_sub (mxLe_s (mxLe_s (mxLe_n (mxLe_n (mxLe_n mxLe_z))))) (J37 _ (hx39 _ (Option.some.inj e41).symm))
      · rw [if_neg q45] at e41
        refine mG_aload_n (pc := 72) C dX8_arrange_72 rfl ?_
        refine mG_iload_n (pc := 73) C dX8_arrange_73 rfl ?_
        obtain ⟨u46, e47, e41⟩ := mx_bind e41
        obtain ⟨v49, e48, e41⟩ := mx_bind e41
        refine mG_cV (pc := 74) (k' := 0) (n' := 0) 8 [.int s34.1] [] C hX dX8_arrange_74 lkV_X8_57 rfl rfl e47 (tX8_firstOf hl e48) rfl rfl rfl rfl ?_
        refine mG_is (ls' := [some (.ref p0), some (.int ((1 <<< (v1 &&& 31)) - 1)), some (.int s34.1), some (.int s34.2.1), some (.int v49)]) (pc := 77) C dX8_arrange_77 rfl rfl rfl ?_
        refine mG_iload (pc := 79) C dX8_arrange_79 rfl ?_
        obtain ⟨v51, e50, e41⟩ := mx_bind e41
        refine mG_cS (pc := 81) (k' := 0) (n' := 0) [.int v49] [] C hX dX8_arrange_81 lkS_X8_30 rfl (tX8_isCandidate hl e50) rfl rfl rfl rfl ?_
        obtain ⟨p54, e55, e41⟩ := mx_bind e41
        have J53 : ∀ p54' : (Int32 × mxH), p54' = p54 → mG l Z X 5 0 0 109 [some (.ref p0), some (.int ((1 <<< (v1 &&& 31)) - 1)), some (.int p54'.1), some (.int s34.2.1), none] [] p54'.2 := by
          intro p54' q64
          subst q64
          refine mG_ii (ls' := [some (.ref p0), some (.int ((1 <<< (v1 &&& 31)) - 1)), some (.int p54'.1), some (.int (s34.2.1 + 1)), none]) (pc := 109) C dX8_arrange_109 rfl (kinc1 _) rfl rfl rfl ?_
          refine mG_goto (tgt := 58) (pc := 112) C dX8_arrange_112 (by decide) ?_
          exact mG_sub (mxLe_s (mxLe_s (mxLe_s (mxLe_s (mxLe_n mxLe_z))))) (hK38 _ (Option.some.inj e41).symm)
        refine mG_if_eq (pc := 84) (tgt := 109) C dX8_arrange_84 (by decide) (fun q52 => ?_) (fun q52 => ?_)
        · rw [if_pos q52] at e55
          exact mG_sub (mxLe_s (mxLe_s (mxLe_s (mxLe_s (mxLe_n mxLe_z))))) (J53 _ (Option.some.inj e55))
        · rw [if_neg q52] at e55
          refine mG_aload_n (pc := 87) C dX8_arrange_87 rfl ?_
          obtain ⟨r56, e57, e55⟩ := mx_bind e55
          refine mG_getR (pc := 88) C dX8_arrange_88 fl_X8_27 e57 ?_
          refine mG_iload_n (pc := 91) C dX8_arrange_91 rfl ?_
          refine mG_aload_n (pc := 92) C dX8_arrange_92 rfl ?_
          obtain ⟨r58, e59, e55⟩ := mx_bind e55
          refine mG_getR (pc := 93) C dX8_arrange_93 fl_X8_9 e59 ?_
          refine mG_iload (pc := 96) C dX8_arrange_96 rfl ?_
          obtain ⟨v60, e61, e55⟩ := mx_bind e55
          refine mG_iaload (pc := 98) C dX8_arrange_98 e61 ?_
          obtain ⟨h62, e63, e55⟩ := mx_bind e55
          refine mG_iastore (pc := 99) C dX8_arrange_99 e63 ?_
          refine mG_iload_n (pc := 100) C dX8_arrange_100 rfl ?_
          refine mG_ic (pc := 101) C dX8_arrange_101 kI1 ?_
          refine mG_iload (pc := 102) C dX8_arrange_102 rfl ?_
          refine mG_ishl (pc := 104) C dX8_arrange_104 ?_
          refine mG_ic (pc := 105) C dX8_arrange_105 kIm1 ?_
          refine mG_ixor (pc := 106) C dX8_arrange_106 ?_
          refine mG_iand (pc := 107) C dX8_arrange_107 ?_
          refine mG_isn (ls' := [some (.ref p0), some (.int ((1 <<< (v1 &&& 31)) - 1)), some (.int (s34.1 &&& ((1 <<< (v49 &&& 31)) ^^^ (-1)))), some (.int s34.2.1), some (.int v49)]) (pc := 108) C dX8_arrange_108 rfl rfl rfl ?_
          exact mG_sub (mxLe_s (mxLe_s (mxLe_s (mxLe_s (mxLe_n mxLe_z))))) (J53 _ (Option.some.inj e55))
  refine mG_sub (ls' := [some (.ref p0), some (.int ((1 <<< (v1 &&& 31)) - 1)), some (.int 1), none, none]) (mxLe_s (mxLe_s (mxLe_s (mxLe_n (mxLe_n mxLe_z))))) (mxLoop_ind (K := fun s7 : (Int32 × mxH) => mG l Z X 5 0 0 18 [some (.ref p0), some (.int ((1 <<< (v1 &&& 31)) - 1)), some (.int s7.1), none, none] [] s7.2) ?_ _ _ e9)
  intro s7 o13 e14 hK11 hx12
  refine mG_iload_n (pc := 18) C dX8_arrange_18 rfl ?_
  refine mG_iload_n (pc := 19) C dX8_arrange_19 rfl ?_
  refine mG_icmp_gt (pc := 20) (tgt := 54) C dX8_arrange_20 (by decide) (fun q15 => ?_) (fun q15 => ?_)
  · rw [if_pos q15] at e14
    exact mG_sub (mxLe_s (mxLe_s (mxLe_n (mxLe_n (mxLe_n mxLe_z))))) (J10 _ (hx12 _ (Option.some.inj e14).symm))
  · rw [if_neg q15] at e14
    refine mG_iload_n (pc := 23) C dX8_arrange_23 rfl ?_
    refine mG_aload_n (pc := 24) C dX8_arrange_24 rfl ?_
    obtain ⟨r16, e17, e14⟩ := mx_bind e14
    refine mG_getR (pc := 25) C dX8_arrange_25 fl_X8_24 e17 ?_
    obtain ⟨v18, e19, e14⟩ := mx_bind e14
    refine mG_arraylength (pc := 28) C dX8_arrange_28 e19 ?_
    refine mG_icmp_ge (pc := 29) (tgt := 54) C dX8_arrange_29 (by decide) (fun q20 => ?_) (fun q20 => ?_)
    · rw [if_pos q20] at e14
      exact mG_sub (mxLe_s (mxLe_s (mxLe_n (mxLe_n (mxLe_n mxLe_z))))) (J10 _ (hx12 _ (Option.some.inj e14).symm))
    · rw [if_neg q20] at e14
      refine mG_aload_n (pc := 32) C dX8_arrange_32 rfl ?_
      obtain ⟨r21, e22, e14⟩ := mx_bind e14
      refine mG_getR (pc := 33) C dX8_arrange_33 fl_X8_24 e22 ?_
      refine mG_iload_n (pc := 36) C dX8_arrange_36 rfl ?_
      refine mG_aload_n (pc := 37) C dX8_arrange_37 rfl ?_
      refine mG_aload_n (pc := 38) C dX8_arrange_38 rfl ?_
      refine mG_iload_n (pc := 39) C dX8_arrange_39 rfl ?_
      obtain ⟨u23, e24, e14⟩ := mx_bind e14
      obtain ⟨v26, e25, e14⟩ := mx_bind e14
      refine mG_cV (pc := 40) (k' := 0) (n' := 0) 8 [.int s7.1] [.ref p0, .int s7.1, .ref r21] C hX dX8_arrange_40 lkV_X8_57 rfl rfl e24 (tX8_firstOf hl e25) rfl rfl rfl rfl ?_
      refine mG_iload_n (pc := 43) C dX8_arrange_43 rfl ?_
      obtain ⟨u27, e28, e14⟩ := mx_bind e14
      obtain ⟨v30, e29, e14⟩ := mx_bind e14
      refine mG_cV (pc := 44) (k' := 0) (n' := 0) 8 [.int v26, .int s7.1] [.int s7.1, .ref r21] C hX dX8_arrange_44 lkV_X8_60 rfl rfl e28 (tX8_swapsBehind hl e29) rfl rfl rfl rfl ?_
      obtain ⟨h31, e32, e14⟩ := mx_bind e14
      refine mG_iastore (pc := 47) C dX8_arrange_47 e32 ?_
      refine mG_ii (ls' := [some (.ref p0), some (.int ((1 <<< (v1 &&& 31)) - 1)), some (.int (s7.1 + 1)), none, none]) (pc := 48) C dX8_arrange_48 rfl (kinc1 _) rfl rfl rfl ?_
      refine mG_goto (tgt := 18) (pc := 51) C dX8_arrange_51 (by decide) ?_
      exact mG_sub (mxLe_s (mxLe_s (mxLe_s (mxLe_n (mxLe_n mxLe_z))))) (hK11 _ (Option.some.inj e14).symm)
theorem dX8_thingOn_0 : decode cX8_thingOn 0 = .ok (.iload_n 1, 1) := by decide +kernel
theorem dX8_thingOn_1 : decode cX8_thingOn 1 = .ok (.invokestatic 30, 3) := by decide +kernel
theorem dX8_thingOn_4 : decode cX8_thingOn 4 = .ok (.ifCond .eq 12, 3) := by decide +kernel
theorem dX8_thingOn_7 : decode cX8_thingOn 7 = .ok (.aload_n 0, 1) := by decide +kernel
theorem dX8_thingOn_8 : decode cX8_thingOn 8 = .ok (.getfield 27, 3) := by decide +kernel
theorem dX8_thingOn_11 : decode cX8_thingOn 11 = .ok (.iload_n 1, 1) := by decide +kernel
theorem dX8_thingOn_12 : decode cX8_thingOn 12 = .ok (.iaload, 1) := by decide +kernel
theorem dX8_thingOn_13 : decode cX8_thingOn 13 = .ok (.goto 4, 3) := by decide +kernel
theorem dX8_thingOn_16 : decode cX8_thingOn 16 = .ok (.iconst (-1), 1) := by decide +kernel
theorem dX8_thingOn_17 : decode cX8_thingOn 17 = .ok (.ireturn, 1) := by decide +kernel
def fX8_thingOn (p0 : Nat) (p1 : Int32) (h : mxH) : Option Int32 := Option.bind (fX8_isCandidate p1 h) (fun v2 => Option.bind (α := Int32) (if v2 = 0 then some (-1) else Option.bind (gR h p0 8 4) (fun r7 => Option.bind (ldI h r7 p1) (fun v9 => some v9))) (fun p5' : Int32 => some p5'))
abbrev rmX8_thingOn : Room := { frames := 1, cells := 0, slots := 0, locals := 20 }
set_option maxRecDepth 20000 in
theorem tX8_thingOn {l : Launch} {Z : mxZ} (hl : l.stackTraces = false) {p0 : Nat} {p1 : Int32} {h : mxH} {out : Int32} (hf : fX8_thingOn p0 p1 h = some out) : mxMet l Z yX8_thingOn cX8_thingOn 2 (some .int) rmX8_thingOn [.ref p0, .int p1] h (.inl (some (.int out))) h := by
  refine mxMet_of (by decide) hl (by simp [Value.category]) (Nat.le_of_ble_eq_true rfl) ?_
  intro X C E hX hin
  unfold fX8_thingOn at hf
  refine mG_iload_n (pc := 0) C dX8_thingOn_0 rfl ?_
  obtain ⟨v2, e1, hf⟩ := mx_bind hf
  refine mG_cS (pc := 1) (k' := 0) (n' := 0) [.int p1] [] C hX dX8_thingOn_1 lkS_X8_30 rfl (tX8_isCandidate hl e1) rfl rfl rfl rfl ?_
  obtain ⟨p5, e6, hf⟩ := mx_bind hf
  have J4 : ∀ p5' : Int32, p5' = p5 → mG l Z X 2 0 0 17 [none, none] [.int p5'] h := by
    intro p5' q11
    subst q11
    cases hf
    exact mG_ir (pc := 17) C E hX dX8_thingOn_17 rfl
  refine mG_if_eq (pc := 4) (tgt := 16) C dX8_thingOn_4 (by decide) (fun q3 => ?_) (fun q3 => ?_)
  · rw [if_pos q3] at e6
    refine mG_ic (pc := 16) C dX8_thingOn_16 kIm1 ?_
    exact mG_sub (mxLe_n (mxLe_n mxLe_z)) (J4 _ (Option.some.inj e6))
  · rw [if_neg q3] at e6
    refine mG_aload_n (pc := 7) C dX8_thingOn_7 rfl ?_
    obtain ⟨r7, e8, e6⟩ := mx_bind e6
    refine mG_getR (pc := 8) C dX8_thingOn_8 fl_X8_27 e8 ?_
    refine mG_iload_n (pc := 11) C dX8_thingOn_11 rfl ?_
    obtain ⟨v9, e10, e6⟩ := mx_bind e6
    refine mG_iaload (pc := 12) C dX8_thingOn_12 e10 ?_
    refine mG_goto (tgt := 17) (pc := 13) C dX8_thingOn_13 (by decide) ?_
    exact mG_sub (mxLe_n (mxLe_n mxLe_z)) (J4 _ (Option.some.inj e6))
