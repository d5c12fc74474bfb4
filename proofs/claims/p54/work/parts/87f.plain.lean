/-! THE PURE SIDE, 48: reading alone -/
section
variable {h : mxH} {n : Nat → Int32} {c j : Nat} {B : Nat → Nat → Int32}
def loS (n : Nat → Int32) (d t : Nat) : Int32 := if rdAt n t d then low n t d else -1
def hiS (n : Nat → Int32) (d t : Nat) : Int32 := if rdAt n t d then upp n t d else -1
theorem l_lower (Q : LQ h n) (hb : h.2 < 1000000) {t d : Nat} (ht : t < 20) (h1 : 1 ≤ d) (h2 : d ≤ 20) : Ok (fL_bound 0 (Int32.ofNat t) (Int32.ofNat d) 0 h) (fun o => o.1 = low n t d ∧ Ext 1 h o.2) := lp_lower Q.1 Q.2.1 Q.2.2.1 Q.2.2.2.1 Q.2.2.2.2 hb ht h1 h2
theorem l_upper (Q : LQ h n) (hb : h.2 < 1000000) {t d : Nat} (ht : t < 20) (h1 : 1 ≤ d) (h2 : d ≤ 20) : Ok (fL_bound 0 (Int32.ofNat t) (Int32.ofNat d) 1 h) (fun o => o.1 = upp n t d ∧ Ext 1 h o.2) := lp_upper Q.1 Q.2.1 Q.2.2.1 Q.2.2.2.1 Q.2.2.2.2 hb ht h1 h2
theorem lim_0 (G : MG n) (H : WG n) {d : Nat} (h1 : 1 ≤ d) : 0 ≤ lim n d := by
  obtain ⟨a, a1, a2⟩ := lim_nat G H h1
  rw [a2]; exact ofN_0le (by omega)
theorem neg_lt {x : Int32} (h : 0 ≤ x) : -1 < x := by
  rw [i32_le] at h
  rw [i32_lt]
  have e0 : (0 : Int32).toInt = 0 := by decide
  have e1 : (-1 : Int32).toInt = -1 := by decide
  omega
theorem l_bars (Q : LQ h n) {a b k d bar : Nat} (k2 : k ≤ 20) (h1 : 1 ≤ d) (A : AT h a 20 (loS n d)) (Bq : AT h b 20 (hiS n d)) (hbar : bar < 20) (hr : rdAt n bar d = true) (hv : lim n d ≤ low n bar d) :
    mxLoop (ρ := (Int32 × Int32)) (fun s193 : (Int32 × Int32 × Int32) => (if 20 ≤ s193.2.2 then some (Sum.inr (s193.1, s193.2.1)) else Option.bind (ldI h b s193.2.2) (fun v202 => Option.bind (ldI h a (Int32.ofNat bar)) (fun v204 => Option.bind (α := Int32) (if v202 ≤ v204 then some s193.1 else Option.bind (ldI h a s193.2.2) (fun v219 => Option.bind (ldI h a (Int32.ofNat bar)) (fun v221 => Option.bind (α := Int32) (if v219 < v221 then some 100 else some 1) (fun jp225' : Int32 => some (s193.1 + jp225'))))) (fun jp208' : Int32 => Option.bind (ldI h a s193.2.2) (fun v228 => Option.bind (ldI h a (Int32.ofNat bar)) (fun v230 => Option.bind (α := Int32) (if v228 < v230 then some 0 else some 1) (fun jp234' : Int32 => some (Sum.inl (jp208', s193.2.1 + jp234', s193.2.2 + 1)))))))))) mxF (0, 0, 0) = some (Int32.ofNat (cnt (ovr n d (low n bar d)) 20 + 99 * cnt (bad n d (low n bar d)) 20), Int32.ofNat (cnt (rch n d (low n bar d)) 20)) := by
  have ev : loS n d bar = low n bar d := if_pos hr
  generalize low n bar d = v at ev hv
  have v0 : -1 < v := neg_lt (by
    have := lim_0 Q.2.2.1 Q.2.2.2.1 h1
    rw [i32_le] at this hv ⊢
    omega)
  refine mxLoop_up (S := fun t => (Int32.ofNat (cnt (ovr n d v) t + 99 * cnt (bad n d v) t), Int32.ofNat (cnt (rch n d v) t), Int32.ofNat t)) (N := 20) (fun t ht => ?_) (if_pos yle) (by decide)
  have c1 := cnt_le (ovr n d v) t
  have c2 := cnt_le (bad n d v) t
  have c3 := cnt_le (rch n d v) t
  simp only [if_neg (n20 ht), A.ld ht (by omega), Bq.ld ht (by omega), A.ld hbar (by omega), ev, bN, ofN_succ]
  show _ = some (Sum.inl (Int32.ofNat (cnt (ovr n d v) (t + 1) + 99 * cnt (bad n d v) (t + 1)), Int32.ofNat (cnt (rch n d v) (t + 1)), Int32.ofNat (t + 1)))
  by_cases r : rdAt n t d = true
  · have e1 : loS n d t = low n t d := if_pos r
    have e2 : hiS n d t = upp n t d := if_pos r
    rw [e1, e2]
    by_cases x1 : v < upp n t d
    · have o1 : ovr n d v t = true := by unfold ovr; rw [r, decide_eq_true x1]; rfl
      rw [if_neg (Int32.not_le.mpr x1), cnt_t o1]
      by_cases x2 : low n t d < v
      · have o2 : bad n d v t = true := by unfold bad; rw [o1, decide_eq_true x2]; rfl
        have o3 : rch n d v t = false := by unfold rch; rw [decide_eq_true x2]; simp
        rw [if_pos x2, cnt_t o2, cnt_f o3, if_pos x2]
        simp only [bN, show (100 : Int32) = Int32.ofNat 100 from rfl, ofN_add, Int32.add_zero]
        congr 4; omega
      · have o2 : bad n d v t = false := by unfold bad; rw [decide_eq_false x2]; simp
        have o3 : rch n d v t = true := by unfold rch; rw [r, decide_eq_false x2]; rfl
        rw [if_neg x2, cnt_f o2, cnt_t o3, if_neg x2]
        simp only [bN, show (1 : Int32) = Int32.ofNat 1 from rfl, ofN_add]
        congr 4; omega
    · have o1 : ovr n d v t = false := by unfold ovr; rw [decide_eq_false x1]; simp
      have o2 : bad n d v t = false := by unfold bad; rw [o1]; rfl
      rw [if_pos (Int32.not_lt.mp x1), cnt_f o1, cnt_f o2]
      by_cases x2 : low n t d < v
      · have o3 : rch n d v t = false := by unfold rch; rw [decide_eq_true x2]; simp
        rw [cnt_f o3]
        simp only [bN, if_pos x2, Int32.add_zero]
      · have o3 : rch n d v t = true := by unfold rch; rw [r, decide_eq_false x2]; rfl
        rw [cnt_t o3]
        simp only [bN, if_neg x2, ofN_succ]
  · have r' := bF r
    have e1 : loS n d t = -1 := if_neg r
    have e2 : hiS n d t = -1 := if_neg r
    have o1 : ovr n d v t = false := by unfold ovr; rw [r']; rfl
    have o2 : bad n d v t = false := by unfold bad; rw [o1]; rfl
    have o3 : rch n d v t = false := by unfold rch; rw [r']; rfl
    rw [e1, e2, if_pos (by rw [i32_le]; rw [i32_lt] at v0; omega), cnt_f o1, cnt_f o2, cnt_f o3]
    simp only [bN, if_pos v0, Int32.add_zero]
theorem l_areSure (Q : LQ h n) (hb : h.2 + 100 ≤ 1000000) {k d : Nat} (k1 : 1 ≤ k) (k2 : k ≤ 20) (h1 : 1 ≤ d) (h2 : d ≤ 20) : Ok (fL_areSure 0 (Int32.ofNat k) (Int32.ofNat d) h) (fun o => o.1 = bI (setl n d k) ∧ Ext 100 h o.2) := by
  have l1 := Q.1.1
  unfold fL_areSure
  obtain ⟨e1, A0⟩ := nwV_at Q.2.1 (m := 20) (B := 20) (by omega) (Nat.le_refl _)
  refine Ok_s (show nwV h 20 20 = _ from e1) ?_
  have Q0 : LQ (mxNew h (100, List.replicate 20 0, [])) n := Q.ext Ext.new
  have X0 : Ext 1 h (mxNew h (100, List.replicate 20 0, [])) := Ext.new
  have s0 : (mxNew h (100, List.replicate 20 0, [])).2 = h.2 + 1 := rfl
  generalize mxNew h (100, List.replicate 20 0, []) = g0 at A0 Q0 X0 s0
  obtain ⟨e2, B0⟩ := nwV_at Q0.2.1 (m := 20) (B := 20) (by omega) (Nat.le_refl _)
  refine Ok_s (show nwV g0 20 20 = _ from e2) ?_
  have Q1 : LQ (mxNew g0 (100, List.replicate 20 0, [])) n := Q0.ext Ext.new
  have A1 : AT (mxNew g0 (100, List.replicate 20 0, [])) h.2 20 (fun _ => 0) := A0.ext Ext.new
  have X1 : Ext 2 h (mxNew g0 (100, List.replicate 20 0, [])) := X0.trans Ext.new
  generalize mxNew g0 (100, List.replicate 20 0, []) = g1 at A1 B0 Q1 X1
  rw [s0] at B0 ⊢
  refine Ok_b (P := fun g => Ext 42 h g ∧ LQ g n ∧ AT g h.2 20 (loS n d) ∧ AT g (h.2 + 1) 20 (hiS n d)) (Ok_loopF 21 (fun t s => s.1 = Int32.ofNat t ∧ Ext (2 + 2 * t) h s.2 ∧ LQ s.2 n ∧ ∃ fl fu, AT s.2 h.2 20 fl ∧ AT s.2 (h.2 + 1) 20 fu ∧ (∀ s, s < t → fl s = loS n d s) ∧ (∀ s, s < t → fu s = hiS n d s)) 20 ⟨rfl, X1, Q1, _, _, A1, B0, fun s hs => by omega, fun s hs => by omega⟩ ?_ ?_ (by omega)) ?_
  · rintro t ⟨s1, g⟩ ht ⟨e1, x, Qg, fl, fu, Al, Au, vl, vu⟩
    obtain rfl := show s1 = _ from e1
    have x : Ext (2 + 2 * t) h g := x
    have Qg : LQ g n := Qg
    have Al : AT g h.2 20 fl := Al
    have Au : AT g (h.2 + 1) 20 fu := Au
    have sx := x.2.1
    have tN : d < 2147483648 := by omega
    simp only [if_neg (n20 ht), l_O Qg.1, lp_isReadAt Qg.1 Qg.2.2.1 ht tN, bN]
    refine Ok_b (P := fun o => o.1 = loS n d t ∧ Ext 1 g o.2) ?_ (fun o ⟨o1, xo⟩ => ?_)
    · by_cases r : rdAt n t d = true
      · rw [r, bI_t, if_neg (show ¬ (1 : Int32) = 0 by decide)]
        refine Ok_b (l_lower Qg (by omega) ht h1 h2) (fun p ⟨p1, xp⟩ => Ok_p ⟨?_, xp⟩)
        show p.1 = _
        rw [p1]; exact (if_pos r).symm
      · rw [bF r, bI_f, if_pos rfl]
        exact Ok_p ⟨(if_neg r).symm, (Ext.refl g).le (by omega)⟩
    have Qo := Qg.ext xo
    obtain ⟨w1, A2⟩ := (Al.ext xo).st (k := t) (x := o.1) (by omega) ht (by omega)
    have Au2 : AT (sA o.2 h.2 t o.1) (h.2 + 1) 20 fu := (Au.ext xo).up (by omega)
    have X2 := (x.trans xo).up (e := (100, (o.2.1 h.2).2.1.set t o.1, (o.2.1 h.2).2.2)) (Nat.le_refl _) (Al.ext xo).1
    have Q2 := Qo.up (e := (100, (o.2.1 h.2).2.1.set t o.1, (o.2.1 h.2).2.2)) (show 337 ≤ h.2 by omega) (Al.ext xo).1
    refine Ok_s w1 ?_
    have s2 : (sA o.2 h.2 t o.1).2 = o.2.2 := rfl
    have X2 : Ext (2 + 2 * t + 1) h (sA o.2 h.2 t o.1) := X2
    have Q2 : LQ (sA o.2 h.2 t o.1) n := Q2
    generalize sA o.2 h.2 t o.1 = g2 at A2 Au2 X2 Q2 s2
    have sx2 := X2.2.1
    simp only [l_O Q2.1, lp_isReadAt Q2.1 Q2.2.2.1 ht tN, bN]
    refine Ok_b (P := fun p => p.1 = hiS n d t ∧ Ext 1 g2 p.2) ?_ (fun p ⟨p1, xp⟩ => ?_)
    · by_cases r : rdAt n t d = true
      · rw [r, bI_t, if_neg (show ¬ (1 : Int32) = 0 by decide)]
        refine Ok_b (l_upper Q2 (by omega) ht h1 h2) (fun p ⟨p1, xp⟩ => Ok_p ⟨?_, xp⟩)
        show p.1 = _
        rw [p1]; exact (if_pos r).symm
      · rw [bF r, bI_f, if_pos rfl]
        exact Ok_p ⟨(if_neg r).symm, (Ext.refl g2).le (by omega)⟩
    have Qp := Q2.ext xp
    obtain ⟨w2, A3⟩ := (Au2.ext xp).st (k := t) (x := p.1) (by omega) ht (by omega)
    refine Ok_s w2 (Ok_p ⟨_, rfl, ofN_succ t, ?_, ?_, _, _, (A2.ext xp).up (by omega), A3, fun s hs => ?_, fun s hs => ?_⟩)
    · exact ((X2.trans xp).up (by omega) (Au2.ext xp).1).le (by omega)
    · exact Qp.up (by omega) (Au2.ext xp).1
    · by_cases e : s = t
      · rw [e, fup_eq]; exact o1
      · rw [fup_ne e]; exact vl s (by omega)
    · by_cases e : s = t
      · rw [e, fup_eq]; exact p1
      · rw [fup_ne e]; exact vu s (by omega)
  · rintro ⟨s1, g⟩ ⟨e1, x, Qg, fl, fu, Al, Au, vl, vu⟩
    obtain rfl := show s1 = _ from e1
    exact Ok_e (a := .inr g) (if_pos yle) ⟨g, rfl, x, Qg, Al.congr vl, Au.congr vu⟩
  rintro g ⟨x, Qg, Al, Au⟩
  have sx := x.2.1
  rw [← sure_law Q.2.2.1 Q.2.2.2.1 h1 k1]
  refine Ok_b (P := fun r => ∃ g2, Ext 62 h g2 ∧ ((r = Sum.inl g2 ∧ orT (areS n d k (lim n d)) 20 = true) ∨ (r = Sum.inr g2 ∧ orT (areS n d k (lim n d)) 20 = false))) (Ok_loopEF 21 (fun b s => s.1 = Int32.ofNat b ∧ Ext (42 + b) h s.2 ∧ LQ s.2 n ∧ AT s.2 h.2 20 (loS n d) ∧ AT s.2 (h.2 + 1) 20 (hiS n d) ∧ orT (areS n d k (lim n d)) b = false) 20 ⟨rfl, x, Qg, Al, Au, rfl⟩ ?_ (by omega)) ?_
  · rintro b ⟨s1, g⟩ hb2 ⟨e1, x, Qg, Al, Au, oo⟩
    obtain rfl := show s1 = _ from e1
    have x : Ext (42 + b) h g := x
    have Qg : LQ g n := Qg
    have Al : AT g h.2 20 (loS n d) := Al
    have Au : AT g (h.2 + 1) 20 (hiS n d) := Au
    have sx := x.2.1
    by_cases hbe : b = 20
    · subst hbe
      exact Ok_e (a := .inr (.inr g)) (if_pos yle) (Or.inr ⟨_, rfl, g, x, Or.inr ⟨rfl, oo⟩⟩)
    have hbl : b < 20 := by omega
    simp only [if_neg (n20 hbl), Al.ld hbl (by omega), bN, l_O Qg.1]
    refine Ok_b (l_limit Qg (by omega) h1 h2) (fun o ⟨o1, xo⟩ => ?_)
    have Qo := Qg.ext xo
    have Xo := x.trans xo
    have go : areS n d k (lim n d) b = false → Ok (some (Sum.inl (Int32.ofNat b + 1, o.2) : (Int32 × mxH) ⊕ (mxH ⊕ mxH))) (fun r => (∃ s', r = Sum.inl s' ∧ b < 20 ∧ s'.1 = Int32.ofNat (b + 1) ∧ Ext (42 + (b + 1)) h s'.2 ∧ LQ s'.2 n ∧ AT s'.2 h.2 20 (loS n d) ∧ AT s'.2 (h.2 + 1) 20 (hiS n d) ∧ orT (areS n d k (lim n d)) (b + 1) = false) ∨ ∃ r', r = Sum.inr r' ∧ ∃ g2, Ext 62 h g2 ∧ ((r' = Sum.inl g2 ∧ orT (areS n d k (lim n d)) 20 = true) ∨ (r' = Sum.inr g2 ∧ orT (areS n d k (lim n d)) 20 = false))) := fun z =>
      Ok_p (Or.inl ⟨_, rfl, hbl, ofN_succ b, Xo.le (by omega), Qo, Al.ext xo, Au.ext xo, by show (orT (areS n d k (lim n d)) b || areS n d k (lim n d) b) = false; rw [oo, z]; rfl⟩)
    rw [o1]
    by_cases r : rdAt n b d = true
    · have ev : loS n d b = low n b d := if_pos r
      rw [ev]
      by_cases q : lim n d ≤ low n b d
      · rw [if_pos q]
        refine Ok_s (l_bars Qo k2 h1 (Al.ext xo) (Au.ext xo) hbl r q) ?_
        generalize hv : low n b d = v at q
        have c1 := cnt_le (ovr n d v) 20
        have c2 := cnt_le (bad n d v) 20
        have c3 := cnt_le (rch n d v) 20
        have unf : areS n d k (lim n d) b = (!orT (bad n d v) 20 && decide (cnt (ovr n d v) 20 ≤ k) && decide (k ≤ cnt (rch n d v) 20)) := by
          unfold areS
          rw [hv, r, decide_eq_true q]
          rfl
        by_cases w1 : k < cnt (ovr n d v) 20 + 99 * cnt (bad n d v) 20
        · rw [if_pos ((ofN_lt (show k < 2147483648 by omega) (show cnt (ovr n d v) 20 + 99 * cnt (bad n d v) 20 < 2147483648 by omega)).mpr w1)]
          refine go ?_
          rw [unf]
          by_cases y : orT (bad n d v) 20 = true
          · rw [y]; rfl
          · have : cnt (bad n d v) 20 = 0 := by
              have z := orT_false.mp (bF y)
              rw [cnt_congr (q := fun _ => false) z]; rfl
            rw [decide_eq_false (show ¬ cnt (ovr n d v) 20 ≤ k by omega)]; simp
        · rw [if_neg (fun z => w1 ((ofN_lt (show k < 2147483648 by omega) (show cnt (ovr n d v) 20 + 99 * cnt (bad n d v) 20 < 2147483648 by omega)).mp z))]
          by_cases w2 : cnt (rch n d v) 20 < k
          · rw [if_pos ((ofN_lt (show cnt (rch n d v) 20 < 2147483648 by omega) (show k < 2147483648 by omega)).mpr w2)]
            refine go ?_
            rw [unf, decide_eq_false (show ¬ k ≤ cnt (rch n d v) 20 by omega)]; simp
          · rw [if_neg (fun z => w2 ((ofN_lt (show cnt (rch n d v) 20 < 2147483648 by omega) (show k < 2147483648 by omega)).mp z))]
            have cb : cnt (bad n d v) 20 = 0 := by omega
            have ob : orT (bad n d v) 20 = false := orT_false.mpr (cnt_zero cb)
            exact Ok_p (Or.inr ⟨_, rfl, o.2, Xo.le (by omega), Or.inl ⟨rfl, orT_iff.mpr ⟨b, hbl, by rw [unf, ob, decide_eq_true (show cnt (ovr n d v) 20 ≤ k by omega), decide_eq_true (show k ≤ cnt (rch n d v) 20 by omega)]; rfl⟩⟩⟩)
      · rw [if_neg q]
        refine go ?_
        unfold areS
        rw [r, decide_eq_false q]; rfl
    · have ev : loS n d b = -1 := if_neg r
      have l0 := neg_lt (lim_0 Q.2.2.1 Q.2.2.2.1 h1)
      rw [ev, if_neg (Int32.not_le.mpr l0)]
      refine go ?_
      unfold areS
      rw [bF r]; rfl
  · rintro r ⟨g2, X2, ⟨rfl, e⟩ | ⟨rfl, e⟩⟩
    · rw [e]; exact Ok_p ⟨rfl, X2.le (by omega)⟩
    · rw [e]; exact Ok_p ⟨rfl, X2.le (by omega)⟩
theorem one_add (x : Nat) : (1 : Int32) + Int32.ofNat x = Int32.ofNat (x + 1) := by
  show Int32.ofNat 1 + Int32.ofNat x = _
  rw [ofN_add, Nat.add_comm]
theorem plain_tail (I : LSt h n n c B j) (hb : h.2 + 100 ≤ 1000000) {k : Nat} : Ok (Option.bind (gR h 0 11 1) (fun r25 => Option.bind (isO h r25 10) (fun u27 => Option.bind (fX10_next r25 20 h) (fun o30 => Option.bind (gR o30.2 0 11 1) (fun r31 => Option.bind (isO o30.2 r31 10) (fun u33 => Option.bind (fX10_next r31 20 o30.2) (fun o36 => Option.bind (gR o36.2 0 11 0) (fun r37 => Option.bind (isO o36.2 r37 9) (fun u39 => Option.bind (mxOk (fX9_lower r37 o36.1 (1 + o30.1) o36.2)) (fun o42 => Option.bind (isO o42.2 0 11) (fun u43 => Option.bind (fL_bound 0 o36.1 (1 + o30.1) 0 o42.2) (fun o46 => Option.bind (α := (Int32 × mxH)) (if o42.1 = o46.1 then Option.bind (gR o46.2 0 11 0) (fun r62 => Option.bind (isO o46.2 r62 9) (fun u64 => Option.bind (mxOk (fX9_upper r62 o36.1 (1 + o30.1) o46.2)) (fun o67 => Option.bind (isO o67.2 0 11) (fun u68 => Option.bind (fL_bound 0 o36.1 (1 + o30.1) 1 o67.2) (fun o71 => (if o67.1 = o71.1 then some (1, o71.2) else some (0, o71.2))))))) else some (0, o46.2)) (fun jp49' : (Int32 × mxH) => Option.bind (mxZ1 jp49'.1) (fun v73 => some (v73, jp49'.2))))))))))))))) (fun o => o.1 = 1 ∧ LSt o.2 n n c B j ∧ Ev 10 h o.2) := by
  simp only [I.gd, I.d, bN]
  refine Ok_b (show Ok (fX10_next 1 20 h) _ from k_next I (N := 20) (by omega) (by omega)) (fun o ⟨⟨x, hx, ex⟩, I1, v1⟩ => ?_)
  rw [ex, one_add]
  simp only [I1.gd, I1.d, bN]
  refine Ok_b (show Ok (fX10_next 1 20 o.2) _ from k_next I1 (N := 20) (by omega) (by omega)) (fun p ⟨⟨y, hy, ey⟩, I2, v2⟩ => ?_)
  rw [ey]
  have V2 := v1.trans v2
  simp only [I2.go, I2.hO, bN]
  refine Ok_b (k_ok I2 (q_lower I2.W I2.S I2.G hy (show 1 ≤ x + 1 by omega) (show x + 1 ≤ 20 by omega))) (fun a ⟨a1, Ia, va⟩ => ?_)
  have Va := V2.trans va
  have sza := Va.2.1
  simp only [Ia.o, bN]
  refine Ok_b (l_lower Ia.1 (by omega) hy (show 1 ≤ x + 1 by omega) (show x + 1 ≤ 20 by omega)) (fun b ⟨b1, xb⟩ => ?_)
  have Ib := Ia.ext xb
  have Vb := Va.trans xb.ev
  rw [a1, b1, if_pos rfl]
  refine Ok_b (P := fun o => o.1 = 1 ∧ LSt o.2 n n c B j ∧ Ev 2 h o.2) ?_ (fun jp ⟨j1, j2, j3⟩ => ?_)
  · simp only [Ib.go, Ib.hO, bN]
    refine Ok_b (k_ok Ib (q_upper Ib.W Ib.S Ib.G hy (show 1 ≤ x + 1 by omega) (show x + 1 ≤ 20 by omega))) (fun u ⟨u1, Iu, vu⟩ => ?_)
    have Vu := Vb.trans vu
    have szu := Vu.2.1
    simp only [Iu.o, bN]
    refine Ok_b (l_upper Iu.1 (by omega) hy (show 1 ≤ x + 1 by omega) (show x + 1 ≤ 20 by omega)) (fun w ⟨w1, xw⟩ => ?_)
    rw [u1, w1, if_pos rfl]
    exact Ok_p ⟨rfl, Iu.ext xw, (Vu.trans xw.ev).le (by omega)⟩
  · rw [j1]
    simp only [z1_1, bN]
    exact Ok_p ⟨rfl, j2, j3.le (by omega)⟩
theorem w_isPlain (I : LSt h n n c B j) (hb : h.2 + 400 ≤ 1000000) {k : Nat} (k1 : 1 ≤ k) (k2 : k ≤ 20) : Ok (fL_isPlain 0 (Int32.ofNat k) h) (fun o => o.1 = 1 ∧ LSt o.2 n n c B j ∧ Ev 300 h o.2) := by
  have s20 := stp_20 n k
  have d20 := dpt_20 n
  have sp := stp_pst I.MG I.WG k1
  have pd := pst_le n k
  have pN : pst n k < 2147483648 := by omega
  have i1 : Int32.ofNat (pst n k) ≤ 1 ↔ pst n k ≤ 1 := ofN_le (b := 1) pN (by omega)
  unfold fL_isPlain
  simp only [I.go, I.hO, bN]
  refine Ok_b (k_ok I (q_plainDepth I.W I.S I.G k1 k2)) (fun o ⟨o1, I1, v1⟩ => ?_)
  simp only [I1.o, lp_longest I1.L I1.MG, I1.go, I1.hO, bN]
  refine Ok_b (k_ok I1 (q_stopDepth I1.W I1.S I1.G k1 k2)) (fun p ⟨p1, I2, v2⟩ => ?_)
  have V2 := v1.trans v2
  have sz2 := V2.2.1
  rw [o1, p1, if_neg (fun z => by have := (ofN_lt pN (show stp n k < 2147483648 by omega)).mp z; omega), if_neg (fun z => by have := (ofN_lt (show dpt n < 2147483648 by omega) pN).mp z; omega)]
  by_cases q : dpt n ≤ pst n k
  · rw [if_pos ((ofN_le (show dpt n < 2147483648 by omega) pN).mpr q)]
    by_cases r : pst n k ≤ 1
    · rw [if_pos (i1.mpr r)]
      exact Ok_m (plain_tail (k := k) I2 (by omega)) (fun p ⟨p1, p2, p3⟩ => ⟨p1, p2, (V2.trans p3).le (by omega)⟩)
    · rw [if_neg (fun z => r (i1.mp z))]
      simp only [I2.o, bN, ofN_pred (show 1 ≤ pst n k by omega) pN]
      refine Ok_b (l_areSure I2.1 (by omega) k1 k2 (show 1 ≤ pst n k - 1 by omega) (show pst n k - 1 ≤ 20 by omega)) (fun u ⟨u1, xu⟩ => ?_)
      have Iu := I2.ext xu
      have Vu := V2.trans xu.ev
      have szu := Vu.2.1
      rw [u1, pst_below (by omega) (by omega), bI_f, if_pos rfl]
      exact Ok_m (plain_tail (k := k) Iu (by omega)) (fun p ⟨p1, p2, p3⟩ => ⟨p1, p2, (Vu.trans p3).le (by omega)⟩)
  · rw [if_neg (fun z => q ((ofN_le (show dpt n < 2147483648 by omega) pN).mp z))]
    obtain ⟨s1, s2⟩ := pst_at (n := n) (k := k) (by omega)
    simp only [I2.o, bN]
    refine Ok_b (l_areSure I2.1 (by omega) k1 k2 s1 (show pst n k ≤ 20 by omega)) (fun u ⟨u1, xu⟩ => ?_)
    have Iu := I2.ext xu
    have Vu := V2.trans xu.ev
    have szu := Vu.2.1
    rw [u1, s2, bI_t, if_neg (show ¬ (1 : Int32) = 0 by decide)]
    by_cases r : pst n k ≤ 1
    · rw [if_pos (i1.mpr r)]
      exact Ok_m (plain_tail (k := k) Iu (by omega)) (fun p ⟨p1, p2, p3⟩ => ⟨p1, p2, (Vu.trans p3).le (by omega)⟩)
    · rw [if_neg (fun z => r (i1.mp z))]
      simp only [Iu.o, bN, ofN_pred (show 1 ≤ pst n k by omega) pN]
      refine Ok_b (l_areSure Iu.1 (by omega) k1 k2 (show 1 ≤ pst n k - 1 by omega) (show pst n k - 1 ≤ 20 by omega)) (fun w ⟨w1, xw⟩ => ?_)
      have Iw := Iu.ext xw
      have Vw := Vu.trans xw.ev
      have szw := Vw.2.1
      rw [w1, pst_below (by omega) (by omega), bI_f, if_pos rfl]
      exact Ok_m (plain_tail (k := k) Iw (by omega)) (fun p ⟨p1, p2, p3⟩ => ⟨p1, p2, (Vw.trans p3).le (by omega)⟩)
end
