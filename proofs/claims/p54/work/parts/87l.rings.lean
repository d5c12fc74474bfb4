/-! THE PURE SIDE, 54: the shortest ring, by steps -/
section
variable {n : Nat → Int32}
def fs (n : Nat → Int32) (s b : Nat) : Nat := fst1 (fun j => (rgm n s (j + 1)).testBit b) (cdC n)
def bf (n : Nat → Int32) (s R b : Nat) : Nat := if fs n s b < R then fs n s b + 1 else 0
def her (n : Nat → Int32) (s R a : Nat) : Bool := if R = 0 then decide (a = s) else decide (bf n s R a = R)
def stq (n : Nat → Int32) (s R A b : Nat) : Nat := if bf n s R b ≠ 0 then bf n s R b else if orT (fun a => her n s R a && bt n a b) A then R + 1 else 0
theorem rgm_s {s l b : Nat} (hb : b < cdC n) : (rgm n s (l + 1)).testBit b = orT (fun i => (rgm n s l).testBit i && bt n i b) (cdC n) := bb_bit hb
theorem fs_hit {s b : Nat} (h : fs n s b < cdC n) : (rgm n s (fs n s b + 1)).testBit b = true := (fst1_spec (fun j => (rgm n s (j + 1)).testBit b) (cdC n)).2 h
theorem fs_no {s b j : Nat} (h : j < fs n s b) : (rgm n s (j + 1)).testBit b = false := (fst1_spec (fun j => (rgm n s (j + 1)).testBit b) (cdC n)).1 j h
theorem fs_le {s b j : Nat} (h : (rgm n s (j + 1)).testBit b = true) : fs n s b ≤ j := by
  by_cases c : fs n s b ≤ j
  · exact c
  · have := fs_no (n := n) (s := s) (b := b) (j := j) (by omega)
    rw [h] at this; cases this
theorem her_rgm {s R a b : Nat} (hs : s < cdC n) (hR : R < cdC n) (ha : a < cdC n) (hb : b < cdC n) (hf : R ≤ fs n s b) : (her n s R a && bt n a b) = ((rgm n s R).testBit a && bt n a b) := by
  have C6 := cdC_6 n
  cases hbt : bt n a b with
  | false => simp
  | true =>
    rw [Bool.and_true, Bool.and_true]
    unfold her
    by_cases z : R = 0
    · subst z
      rw [if_pos rfl]
      show _ = (1 <<< s).testBit a
      rw [sh6b s (by omega) a (by omega)]
      by_cases e : a = s
      · rw [decide_eq_true e]; simp [e]
      · rw [decide_eq_false e]; simp [e]
    · rw [if_neg z]
      cases hq : (rgm n s R).testBit a with
      | true =>
        have h1 : fs n s a ≤ R - 1 := fs_le (by rw [show R - 1 + 1 = R by omega]; exact hq)
        have h2 : ¬ fs n s a < R - 1 := fun y => by
          have h3 := fs_hit (n := n) (s := s) (b := a) (by omega)
          have h4 : (rgm n s (fs n s a + 1 + 1)).testBit b = true := by
            rw [rgm_s hb]
            exact orT_iff.mpr ⟨a, ha, by rw [h3, hbt]; rfl⟩
          have := fs_le h4
          omega
        unfold bf
        rw [if_pos (by omega)]
        exact decide_eq_true (by omega)
      | false =>
        refine decide_eq_false (fun y => ?_)
        unfold bf at y
        by_cases c : fs n s a < R
        · rw [if_pos c] at y
          have h3 := fs_hit (n := n) (s := s) (b := a) (by omega)
          rw [y, hq] at h3; cases h3
        · rw [if_neg c] at y; omega
theorem stq_end {s R b : Nat} (hs : s < cdC n) (hR : R < cdC n) (hb : b < cdC n) : stq n s R (cdC n) b = bf n s (R + 1) b := by
  unfold stq
  by_cases c : fs n s b < R
  · have e : bf n s R b = fs n s b + 1 := if_pos c
    rw [e, if_pos (by omega)]
    unfold bf
    rw [if_pos (by omega)]
  · have e : bf n s R b = 0 := if_neg c
    rw [e, if_neg (fun y => y rfl), orT_congr (q := fun a => (rgm n s R).testBit a && bt n a b) (fun a ha => her_rgm hs hR ha hb (by omega)), ← rgm_s hb]
    unfold bf
    by_cases q : fs n s b = R
    · have := fs_hit (n := n) (s := s) (b := b) (by omega)
      rw [q] at this
      rw [this, if_pos rfl, if_pos (by omega), q]
    · have := fs_no (n := n) (s := s) (b := b) (j := R) (by omega)
      rw [this, if_neg (fun z => by cases z), if_neg (by omega)]
theorem stq_0 {s R b : Nat} : stq n s R 0 b = bf n s R b := by
  unfold stq
  by_cases c : bf n s R b ≠ 0
  · rw [if_pos c]
  · rw [if_neg c]
    have : bf n s R b = 0 := by omega
    rw [this]
    rfl
theorem stq_f {s R A b : Nat} (h : her n s R A = false) : stq n s R (A + 1) b = stq n s R A b := by
  unfold stq
  show (if _ then _ else if (orT (fun a => her n s R a && bt n a b) A || (her n s R A && bt n A b)) = true then R + 1 else 0) = _
  rw [h, Bool.false_and, Bool.or_false]
theorem stq_t {s R A b : Nat} (h : her n s R A = true) : stq n s R (A + 1) b = if stq n s R A b = 0 then (if bt n A b then R + 1 else 0) else stq n s R A b := by
  unfold stq
  show (if _ then _ else if (orT (fun a => her n s R a && bt n a b) A || (her n s R A && bt n A b)) = true then R + 1 else 0) = _
  rw [h, Bool.true_and]
  by_cases c : bf n s R b ≠ 0
  · rw [if_pos c, if_pos c, if_neg c]
  · rw [if_neg c, if_neg c]
    cases orT (fun a => her n s R a && bt n a b) A with
    | true => simp
    | false => simp
theorem stq_her {s R A a : Nat} (hR : 1 ≤ R) : (stq n s R A a = R) ↔ bf n s R a = R := by
  unfold stq
  by_cases c : bf n s R a ≠ 0
  · rw [if_pos c]
  · rw [if_neg c]
    have e : bf n s R a = 0 := by omega
    rw [e]
    cases orT (fun a' => her n s R a' && bt n a' a) A with
    | true => rw [if_pos rfl]; omega
    | false => rw [if_neg (fun z => by cases z)]
theorem stq_b {s R A b : Nat} (hR : R < cdC n) : stq n s R A b ≤ 7 := by
  have C6 := cdC_6 n
  unfold stq bf
  repeat' split
  all_goals omega
end
section
variable {h : mxH} {n : Nat → Int32}
theorem bt_prf {a b : Nat} : bt n a b = decide (prf n (cd n b) (cd n a) < prf n (cd n a) (cd n b)) := rfl
theorem l_ring (Q : LQ h n) (hb : h.2 + 10 ≤ 1000000) {p : Nat} (hp : 337 ≤ p) (A : AT h p (cdC n) (fun i => Int32.ofNat (cd n i))) : Ok (fL_ring 0 p h) (fun o => o.1 = rgI (cdC n) (srg n) ∧ Ext 6 h o.2) := by
  have C6 := cdC_6 n
  have c20 : ∀ i, i < cdC n → cd n i < 20 := fun i hi => (cd_spec hi).1
  have G := Q.2.2.1
  unfold fL_ring
  refine Ok_b (P := fun r => r.1 = rgI (cdC n) (srg n) ∧ Ext 6 h r.2) (Ok_loopF 7 (fun f s => s.2.1 = Int32.ofNat f ∧ s.1 = rgI (cdC n) (fo (fun m s => min m (rfs n s)) (cdC n) f) ∧ Ext f h s.2.2 ∧ LQ s.2.2 n) (cdC n) ⟨rfl, by unfold rgI; exact (if_neg (show ¬ cdC n < cdC n by omega)).symm, Ext.refl h, Q⟩ ?_ ?_ (by omega)) (fun r ⟨r1, r2⟩ => Ok_p ⟨r1, r2⟩)
  · rintro f ⟨s1, s2, g0⟩ hf ⟨e1, e2, x0, Q0⟩
    obtain rfl := show s2 = _ from e1
    obtain rfl := show s1 = _ from e2
    have x0 : Ext f h g0 := x0
    have Q0 : LQ g0 n := Q0
    have sx0 := x0.2.1
    have A0 := A.ext x0
    simp only [A0.len, bN, if_neg (nle hf (by omega))]
    obtain ⟨w1, B0⟩ := nwV_at Q0.2.1 (m := cdC n) (B := 6) (by omega) C6
    refine Ok_s w1 ?_
    have Q1 : LQ (mxNew g0 (100, List.replicate (cdC n) 0, [])) n := Q0.ext Ext.new
    have X1 : Ext 1 g0 (mxNew g0 (100, List.replicate (cdC n) 0, [])) := Ext.new
    generalize mxNew g0 (100, List.replicate (cdC n) 0, []) = g1 at B0 Q1 X1
    have hq : 337 ≤ g0.2 := Q0.1.1
    refine Ok_b (P := fun g => Ext 1 g0 g ∧ LQ g n ∧ AT g g0.2 (cdC n) (fun b => Int32.ofNat (bf n f (cdC n) b))) (Ok_loop (fun R s => s.1 = Int32.ofNat (R + 1) ∧ Ext 1 g0 s.2 ∧ LQ s.2 n ∧ AT s.2 g0.2 (cdC n) (fun b => Int32.ofNat (bf n f R b))) (cdC n) ⟨rfl, X1, Q1, B0⟩ ?_ ?_ (by unfold mxF; omega)) ?_
    · rintro R ⟨s1, g⟩ hR ⟨e1, xg, Qg, Bg⟩
      obtain rfl := show s1 = _ from e1
      have xg : Ext 1 g0 g := xg
      have Qg : LQ g n := Qg
      have Ag := A0.ext xg
      simp only [Ag.len, bN, if_neg (fun z => by have := (ofN_lt (show cdC n < 2147483648 by omega) (show R + 1 < 2147483648 by omega)).mp z; omega : ¬ Int32.ofNat (cdC n) < Int32.ofNat (R + 1)), ofN_succ]
      refine Ok_b (P := fun g => Ext 1 g0 g ∧ LQ g n ∧ AT g g0.2 (cdC n) (fun b => Int32.ofNat (bf n f (R + 1) b))) (Ok_loop (fun a s => s.1 = Int32.ofNat a ∧ Ext 1 g0 s.2 ∧ LQ s.2 n ∧ AT s.2 g0.2 (cdC n) (fun b => Int32.ofNat (stq n f R a b))) (cdC n) ⟨rfl, xg, Qg, AT.congr Bg (fun b hb => by rw [stq_0])⟩ ?_ ?_ (by unfold mxF; omega)) (fun g ⟨xg, Qg, Bg⟩ => Ok_p ⟨_, rfl, rfl, xg, Qg, Bg⟩)
      · rintro a ⟨s1, g⟩ ha ⟨e1, xg, Qg, Bg⟩
        obtain rfl := show s1 = _ from e1
        have xg : Ext 1 g0 g := xg
        have Qg : LQ g n := Qg
        have Bg : AT g g0.2 (cdC n) (fun b => Int32.ofNat (stq n f R a b)) := Bg
        have Ag := A0.ext xg
        simp only [Ag.len, bN, if_neg (nle ha (by omega)), ofN_succ]
        refine Ok_b (P := fun z => z = bI (her n f R a)) ?_ (fun z ez => ?_)
        · unfold her
          by_cases z : R = 0
          · subst z
            rw [if_pos (show Int32.ofNat (0 + 1) = 1 from rfl), if_pos rfl]
            by_cases y : a = f
            · rw [if_pos (by rw [y]), decide_eq_true y]; exact Ok_p rfl
            · rw [if_neg (fun w => y (ofN_inj (by omega) (by omega) w)), decide_eq_false y]; exact Ok_p rfl
          · rw [if_neg (fun w => z (by have := ofN_inj (b := 1) (by omega) (by omega) w; omega) : ¬ Int32.ofNat (R + 1) = 1), if_neg z]
            have s7 := stq_b (n := n) (s := f) (A := a) (b := a) hR
            simp only [Bg.ld ha (by omega), bN, ofN_pred (show 1 ≤ R + 1 by omega) (show R + 1 < 2147483648 by omega), Nat.add_sub_cancel]
            by_cases y : bf n f R a = R
            · rw [if_pos (by rw [(stq_her (n := n) (A := a) (show 1 ≤ R by omega)).mpr y]), decide_eq_true y]; exact Ok_p rfl
            · rw [if_neg (fun w => y ((stq_her (n := n) (A := a) (show 1 ≤ R by omega)).mp (ofN_inj (by omega) (by omega) w))), decide_eq_false y]; exact Ok_p rfl
        rw [ez]
        refine Ok_b (P := fun g => Ext 1 g0 g ∧ LQ g n ∧ AT g g0.2 (cdC n) (fun b => Int32.ofNat (stq n f R (a + 1) b))) ?_ (fun g ⟨xg, Qg, Bg⟩ => Ok_p ⟨_, rfl, rfl, xg, Qg, Bg⟩)
        cases hh : her n f R a with
        | false =>
          refine Ok_loopE (fun b s => s = (0, g)) 0 rfl ?_ (by decide)
          rintro b s - rfl
          simp only [Ag.len, bN, if_neg (show ¬ Int32.ofNat (cdC n) ≤ 0 from nle (b := 0) (by omega) (by omega)), bI_f, if_true]
          exact Ok_p (Or.inr ⟨_, rfl, xg, Qg, AT.congr Bg (fun b hb => by rw [stq_f hh])⟩)
        | true =>
          refine Ok_loop (fun b s => s.1 = Int32.ofNat b ∧ Ext 1 g0 s.2 ∧ LQ s.2 n ∧ AT s.2 g0.2 (cdC n) (fun x => if x < b then Int32.ofNat (stq n f R (a + 1) x) else Int32.ofNat (stq n f R a x))) (cdC n) ⟨rfl, xg, Qg, AT.congr Bg (fun x hx => (if_neg (Nat.not_lt_zero x)).symm)⟩ ?_ ?_ (by unfold mxF; omega)
          · rintro b ⟨s1, g⟩ hb2 ⟨e1, xg, Qg, Bg⟩
            obtain rfl := show s1 = _ from e1
            have xg : Ext 1 g0 g := xg
            have Qg : LQ g n := Qg
            have Bg : AT g g0.2 (cdC n) (fun x => if x < b then Int32.ofNat (stq n f R (a + 1) x) else Int32.ofNat (stq n f R a x)) := Bg
            have Ag := A0.ext xg
            have lb : ldI g g0.2 (Int32.ofNat b) = some (Int32.ofNat (stq n f R a b)) := by rw [Bg.ld hb2 (by omega), if_neg (Nat.lt_irrefl b)]
            have s7 := stq_b (n := n) (s := f) (A := a) (b := b) hR
            have keep : stq n f R (a + 1) b = stq n f R a b → AT g g0.2 (cdC n) (fun x => if x < b + 1 then Int32.ofNat (stq n f R (a + 1) x) else Int32.ofNat (stq n f R a x)) := fun e => AT.congr Bg (fun x hx => by
              by_cases c1 : x < b
              · rw [if_pos c1, if_pos (by omega)]
              · by_cases c2 : x = b
                · rw [if_neg c1, if_pos (by omega), c2, e]
                · rw [if_neg c1, if_neg (by omega)])
            simp only [Ag.len, bN, if_neg (nle hb2 (by omega)), bI_t, e10, if_false, lb, ofN_succ]
            refine Ok_b (P := fun g => Ext 1 g0 g ∧ LQ g n ∧ AT g g0.2 (cdC n) (fun x => if x < b + 1 then Int32.ofNat (stq n f R (a + 1) x) else Int32.ofNat (stq n f R a x))) ?_ (fun g ⟨xg, Qg, Bg⟩ => Ok_p ⟨_, rfl, rfl, xg, Qg, Bg⟩)
            have st := stq_t (b := b) hh
            by_cases z : stq n f R a b = 0
            · rw [if_pos (by rw [z]; rfl)]
              rw [if_pos z] at st
              simp only [Ag.ld ha (by omega), Ag.ld hb2 (by omega), bN, l_O Qg.1, lp_beats Qg.1 G (c20 a ha) (c20 b hb2), ← bt_prf]
              cases hbt : bt n a b with
              | false =>
                rw [hbt, if_neg (fun z => by cases z)] at st
                rw [bI_f, if_pos rfl]
                exact Ok_p ⟨xg, Qg, keep (by rw [st, z])⟩
              | true =>
                rw [hbt, if_pos rfl] at st
                rw [bI_t, if_neg (show ¬ (1 : Int32) = 0 by decide)]
                obtain ⟨w2, B2⟩ := Bg.st (k := b) (x := Int32.ofNat (R + 1)) (by omega) hb2 (by omega)
                rw [w2]
                refine Ok_p ⟨xg.up (Nat.le_refl _) Bg.1, Qg.up hq Bg.1, AT.congr B2 (fun x hx => ?_)⟩
                unfold fup
                by_cases c2 : x = b
                · rw [if_pos c2, if_pos (by omega), c2, st]
                · rw [if_neg c2]
                  show (if x < b then _ else _ : Int32) = _
                  by_cases c1 : x < b
                  · rw [if_pos c1, if_pos (by omega)]
                  · rw [if_neg c1, if_neg (by omega)]
            · rw [if_neg (fun y => z (ofN_inj (b := 0) (by omega) (by omega) y) : ¬ Int32.ofNat (stq n f R a b) = 0)]
              rw [if_neg z] at st
              exact Ok_p ⟨xg, Qg, keep st⟩
          · rintro ⟨s1, g⟩ ⟨e1, xg, Qg, Bg⟩
            obtain rfl := show s1 = _ from e1
            have xg : Ext 1 g0 g := xg
            have Ag := A0.ext xg
            simp only [Ag.len, bN]
            rw [if_pos yle]
            exact Ok_p ⟨_, rfl, xg, Qg, AT.congr Bg (fun x hx => if_pos hx)⟩
      · rintro ⟨s1, g⟩ ⟨e1, xg, Qg, Bg⟩
        obtain rfl := show s1 = _ from e1
        have xg : Ext 1 g0 g := xg
        have Ag := A0.ext xg
        simp only [Ag.len, bN]
        rw [if_pos yle]
        exact Ok_p ⟨_, rfl, xg, Qg, AT.congr Bg (fun b hb => by rw [stq_end hf hR hb])⟩
    · rintro ⟨s1, g⟩ ⟨e1, xg, Qg, Bg⟩
      obtain rfl := show s1 = _ from e1
      have xg : Ext 1 g0 g := xg
      have Ag := A0.ext xg
      simp only [Ag.len, bN]
      rw [if_pos ((ofN_lt (show cdC n < 2147483648 by omega) (show cdC n + 1 < 2147483648 by omega)).mpr (by omega))]
      exact Ok_p ⟨_, rfl, xg, Qg, Bg⟩
    · rintro g ⟨xg, Qg, Bg⟩
      have er : fs n f f = rfs n f := rfl
      have el : bf n f (cdC n) f = if rfs n f < cdC n then rfs n f + 1 else 0 := by unfold bf; rw [er]
      simp only [Bg.ld hf (by omega), bN, el]
      refine Ok_b (P := fun z => z = rgI (cdC n) (fo (fun m s => min m (rfs n s)) (cdC n) (f + 1))) ?_ (fun z ez => Ok_p ⟨_, rfl, ofN_succ f, ez, x0.trans xg, Qg⟩)
      show Ok _ (fun z => z = rgI (cdC n) (min (fo (fun m s => min m (rfs n s)) (cdC n) f) (rfs n f)))
      have hx : fo (fun m s => min m (rfs n s)) (cdC n) f ≤ cdC n := fo_ind (fun x => x ≤ cdC n) (Nat.le_refl _) (fun x k hk hx => by show min x (rfs n k) ≤ _; omega)
      generalize fo (fun m s => min m (rfs n s)) (cdC n) f = x at hx
      generalize rfs n f = r
      by_cases c : r < cdC n
      · rw [if_pos c, if_neg (show ¬ Int32.ofNat (r + 1) ≤ 0 from nle (b := 0) (by omega) (by omega))]
        unfold rgI
        rw [if_pos (show min x r < cdC n by omega)]
        by_cases d : x < cdC n
        · rw [if_pos d, if_neg (ofN_nn (by omega))]
          by_cases y : x ≤ r
          · rw [if_pos ((ofN_le (by omega) (by omega)).mpr (by omega)), Nat.min_eq_left y]; exact Ok_p rfl
          · rw [if_neg (nle (by omega) (by omega)), Nat.min_eq_right (by omega), Nat.add_comm 1 r]; exact Ok_p rfl
        · rw [if_neg d, if_pos (show (-1 : Int32) < 0 by decide), Nat.min_eq_right (by omega), Nat.add_comm 1 r]; exact Ok_p rfl
      · rw [if_neg c, if_pos (show Int32.ofNat 0 ≤ 0 from yle)]
        refine Ok_p ?_
        unfold rgI
        by_cases d : x < cdC n
        · rw [if_pos d, if_pos (show min x r < cdC n by omega), Nat.min_eq_left (by omega)]
        · rw [if_neg d, if_neg (show ¬ min x r < cdC n by omega)]
  · rintro ⟨s1, s2, g⟩ ⟨e1, e2, xg, Qg⟩
    obtain rfl := show s2 = _ from e1
    obtain rfl := show s1 = _ from e2
    have xg : Ext (cdC n) h g := xg
    have Ag := A.ext xg
    simp only [Ag.len, bN]
    rw [if_pos yle]
    exact Ok_p ⟨_, rfl, rfl, xg.le C6⟩
end
