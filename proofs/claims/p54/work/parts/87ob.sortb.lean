/-! THE PURE SIDE, 58: the sort of a part over a guard -/
section
variable {a N K : Nat} {h0 h : mxH} {f F : Nat → Int32}
/-- two keys' way down -/
def Ins2 (N lo i p : Nat) (x y : Int32) (F f : Nat → Int32) : Prop :=
  lo ≤ p ∧ p ≤ i ∧ i + 1 < N ∧ Prm N f (fup (fup F p x) (p + 1) y) ∧ (∀ t, t < lo ∨ i + 1 < t → F t = f t) ∧ (∀ u v, lo ≤ u → u < v → v ≤ i + 1 → u ≠ p → v ≠ p → u ≠ p + 1 → v ≠ p + 1 → (F u).toInt ≤ (F v).toInt) ∧ (∀ v, p + 1 < v → v ≤ i + 1 → y.toInt ≤ (F v).toInt) ∧ x.toInt ≤ y.toInt
theorem Ins2.step {lo i p : Nat} {x y : Int32} (I : Ins2 N lo i p x y F f) (hp : lo < p) (q : y.toInt < (F (p - 1)).toInt) : Ins2 N lo i (p - 1) x y (fup F (p + 1) (F (p - 1))) f := by
  obtain ⟨i1, i2, i3, i4, i5, i6, i7, i8⟩ := I
  refine ⟨by omega, by omega, i3, ?_, fun t ht => by rw [fup_ne (by omega)]; exact i5 t ht, fun u v h1 h2 h3 h4 h5 h6 h7 => ?_, fun v h1 h2 => ?_, i8⟩
  · have s1 : Prm N (fup (fup F p x) (p + 1) y) (fup (fup (fup F (p - 1) x) p (F (p - 1))) (p + 1) y) := Prm.swap (i := p - 1) (k := p) (by omega) (by omega) (by rw [fup_ne (by omega), fup_ne (by omega), fup_eq, fup_ne (by omega), fup_eq]) (by rw [fup_ne (by omega), fup_eq, fup_ne (by omega), fup_ne (by omega)]) (fun j _ j1 j2 => by
      by_cases e : j = p + 1
      · rw [e, fup_eq, fup_eq]
      · rw [fup_ne e, fup_ne j2, fup_ne j1, fup_ne e, fup_ne j2])
    refine (i4.trans s1).trans (Prm.swap (i := p) (k := p + 1) (by omega) (by omega) ?_ ?_ (fun j _ j1 j2 => ?_))
    · rw [show p - 1 + 1 = p by omega, fup_eq, fup_eq]
    · rw [show p - 1 + 1 = p by omega, fup_ne (by omega), fup_ne (by omega), fup_eq, fup_ne (by omega), fup_eq]
    · rw [show p - 1 + 1 = p by omega, fup_ne j1, fup_ne j2, fup_ne j1]
      by_cases e : j = p - 1
      · rw [e, fup_eq, fup_eq]
      · rw [fup_ne e, fup_ne e, fup_ne j2]
  · by_cases e : v = p + 1
    · rw [e, fup_eq, fup_ne (by omega)]; exact i6 u (p - 1) h1 (by omega) (by omega) (by omega) (by omega) (by omega) (by omega)
    · by_cases e2 : u = p + 1
      · rw [e2, fup_eq, fup_ne e]; exact i6 (p - 1) v (by omega) (by omega) h3 (by omega) (by omega) (by omega) e
      · rw [fup_ne e2, fup_ne e]; exact i6 u v h1 h2 h3 (by omega) (by omega) (by omega) (by omega)
  · by_cases e : v = p + 1
    · rw [e, fup_eq]; omega
    · rw [fup_ne e]; exact i7 v (by omega) h2
/-- the greater lies, the other goes on -/
theorem Ins2.one {lo i p : Nat} {x y : Int32} (I : Ins2 N lo i p x y F f) (q : p = lo ∨ (F (p - 1)).toInt ≤ y.toInt) : Ins N lo (i + 1) p x (fup F (p + 1) y) f := by
  obtain ⟨i1, i2, i3, i4, i5, i6, i7, i8⟩ := I
  refine ⟨i1, by omega, i3, i4.congr (fun j _ => ?_), fun t ht => by rw [fup_ne (by omega)]; exact i5 t (by omega), fun u v h1 h2 h3 h4 h5 => ?_, fun v h1 h2 => ?_⟩
  · by_cases e : j = p + 1
    · rw [e, fup_eq, fup_ne (by omega), fup_eq]
    · rw [fup_ne e]
      by_cases e2 : j = p
      · rw [e2, fup_eq, fup_eq]
      · rw [fup_ne e2, fup_ne e2, fup_ne e]
  · by_cases e : v = p + 1
    · rw [e, fup_eq, fup_ne (by omega)]
      by_cases e3 : u = p - 1
      · rw [e3]; omega
      · have := i6 u (p - 1) h1 (by omega) (by omega) h4 (by omega) (by omega) (by omega); omega
    · by_cases e2 : u = p + 1
      · rw [e2, fup_eq, fup_ne e]; exact i7 v (by omega) h3
      · rw [fup_ne e2, fup_ne e]; exact i6 u v h1 h2 h3 h4 h5 e2 e
  · by_cases e : v = p + 1
    · rw [e, fup_eq]; exact i8
    · rw [fup_ne e]; have := i7 v (by omega) h2; omega
theorem ins_C {β : Type} {lo i p : Nat} {x y : Int32} {k : mxH → Option β} {Q : β → Prop} (S : St a N K h0 h F) (I : Ins2 N lo i p x y F f) (h1 : 1 ≤ lo) (hs : (f (lo - 1)).toInt ≤ x.toInt) (kk : ∀ g f', St a N K h0 g f' → Pm N lo (i + 2) f f' → Sg lo (i + 2) f' → Ok (k g) Q) :
    Ok (Option.bind (mxLoop (ρ := (Int32 × mxH)) (fun s653 : (Int32 × mxH) => Option.bind (ldI s653.2 a (s653.1 - 1)) (fun v661 => (if v661 ≤ y then some (Sum.inr (s653.1 - 1, s653.2)) else Option.bind (ldI s653.2 a (s653.1 - 1)) (fun v664 => Option.bind (stI s653.2 a ((s653.1 - 1) + 2) v664) (fun h666 => some (Sum.inl (s653.1 - 1, h666))))))) mxF (Int32.ofNat p, h)) (fun r668 : (Int32 × mxH) => Option.bind (stI r668.2 a ((r668.1 + 1) + 1) y) (fun h669 =>
      Option.bind (mxLoop (ρ := (Int32 × mxH)) (fun s744 : (Int32 × mxH) => Option.bind (ldI s744.2 a (s744.1 - 1)) (fun v752 => (if v752 ≤ x then some (Sum.inr (s744.1 - 1, s744.2)) else Option.bind (ldI s744.2 a (s744.1 - 1)) (fun v755 => Option.bind (stI s744.2 a ((s744.1 - 1) + 1) v755) (fun h757 => some (Sum.inl (s744.1 - 1, h757))))))) mxF (r668.1 + 1, h669)) (fun r759 : (Int32 × mxH) => Option.bind (stI r759.2 a (r759.1 + 1) x) k)))) Q := by
  have n60 := S.n
  have pi := I.2.1
  have iN := I.2.2.1
  refine Ok_b (P := fun r => ∃ p F, r.1 = Int32.ofNat p - 1 ∧ St a N K h0 r.2 F ∧ Ins2 N lo i p x y F f ∧ (p = lo ∨ (F (p - 1)).toInt ≤ y.toInt)) (Ok_loopE (fun t s => ∃ q F, q + t = p ∧ s.1 = Int32.ofNat q ∧ St a N K h0 s.2 F ∧ Ins2 N lo i q x y F f) p ⟨p, F, by omega, rfl, S, I⟩ ?_ (by unfold mxF; omega)) ?_
  · rintro t ⟨s, g⟩ ht ⟨q, F, e, es, S, I⟩
    obtain rfl := show s = _ from es
    have S : St a N K h0 g F := S
    have ql := I.1
    have xy := I.2.2.2.2.2.2.2
    have l := S.ld (k := q - 1) (by omega)
    obtain ⟨w, S2⟩ := S.st (k := q + 1) (x := F (q - 1)) (by omega)
    have e1 := ofN_pred (a := q) (by omega) (by omega)
    have e2 : Int32.ofNat (q - 1) + 2 = Int32.ofNat (q + 1) := by
      rw [show (2 : Int32) = Int32.ofNat 2 from rfl, ofN_add, show q - 1 + 2 = q + 1 by omega]
    simp only [e1, l, bN, e2, w]
    by_cases z : (F (q - 1)).toInt ≤ y.toInt
    · rw [if_pos (tl.mpr z)]
      exact Ok_p (Or.inr ⟨_, rfl, q, F, by rw [e1], S, I, Or.inr z⟩)
    · have ne : q ≠ lo := fun z2 => by
        rw [z2, I.2.2.2.2.1 (lo - 1) (by omega)] at z
        omega
      rw [if_neg (tg (by omega))]
      exact Ok_p (Or.inl ⟨_, rfl, by omega, q - 1, _, by omega, rfl, S2, I.step (by omega) (by omega)⟩)
  · rintro ⟨r, g⟩ ⟨q, F, er, S, I, z⟩
    obtain rfl := show r = _ from er
    have S : St a N K h0 g F := S
    obtain ⟨w, S2⟩ := S.st (k := q + 1) (x := y) (by have := I.2.1; omega)
    show Ok (Option.bind (stI g a (Int32.ofNat q - 1 + 1 + 1) y) _) Q
    rw [sub_add1, ofN_succ]
    refine Ok_s w ?_
    exact ins_B S2 (I.one z) h1 hs kk
/-- a part of the row, what stands before it is under it -/
def Gd (lo hi : Nat) (f : Nat → Int32) : Prop := 1 ≤ lo ∧ ∀ t, lo ≤ t → t < hi → (f (lo - 1)).toInt ≤ (f t).toInt
theorem Gd.pm {lo hi : Nat} {g : Nat → Int32} (G : Gd lo hi f) (P : Pm N lo hi f g) (hN : hi ≤ N) : Gd lo hi g := ⟨G.1, fun t t1 t2 => by
  rw [P.2 (lo - 1) (by have := G.1; omega)]
  exact Pm.all (fun x => (f (lo - 1)).toInt ≤ x.toInt) P hN G.2 t t1 t2⟩
theorem l_mixed {lo en hi j : Nat} (S : St a N K h0 h f) (hN : hi ≤ N) (G : Gd lo hi f) (l1 : lo ≤ en) (l2 : hi = en + 2 * j) (le : lo < en ∨ j = 0) : Ok (fX12_mixedInsertionSort a (Int32.ofNat lo) (Int32.ofNat en) (Int32.ofNat hi) h) (fun g => ∃ f', St a N K h0 g f' ∧ Pm N lo hi f f' ∧ Sg lo hi f') := by
  have n60 := S.n
  have g1 := G.1
  unfold fX12_mixedInsertionSort
  refine Ok_b (P := fun g => ∃ f', St a N K h0 g f' ∧ Pm N lo hi f f' ∧ Sg lo hi f') ?_ (fun g H => Ok_p H)
  by_cases c : en = hi
  · rw [if_pos (by rw [c])]
    refine Ok_b (P := fun g => ∃ f', St a N K h0 g f' ∧ Pm N lo hi f f' ∧ Sg lo hi f') (Ok_loop (fun k s => s.1 = Int32.ofNat (lo + k) ∧ ∃ f', St a N K h0 s.2 f' ∧ Pm N lo hi f f' ∧ Sg lo (lo + k + 1) f') (hi - 1 - lo) ⟨rfl, f, S, Pm.refl _ _ _ _, Sg.one lo f⟩ ?_ ?_ (by unfold mxF; omega)) (fun g H => Ok_p H)
    · rintro k ⟨s, g⟩ hk ⟨es, f', S, P, s'⟩
      obtain rfl := show s = _ from es
      have S : St a N K h0 g f' := S
      have G' := G.pm P hN
      simp only [ofN_succ, if_neg (nle (show lo + k + 1 < en by omega) (by omega)), S.ld (k := lo + k + 1) (by omega), bN]
      exact ins_B S (Ins.start (by omega) (by omega) s') g1 (G'.2 _ (by omega) (by omega)) (fun g2 f2 S2 P2 s2 => Ok_p ⟨_, rfl, rfl, f2, S2, P.trans (P2.mono (Nat.le_refl _) (by omega)), s2⟩)
    · rintro ⟨s, g⟩ ⟨es, f', S, P, s'⟩
      obtain rfl := show s = _ from es
      have e : Int32.ofNat en ≤ Int32.ofNat (lo + (hi - 1 - lo)) + 1 := by
        rw [ofN_succ, ofN_le (by omega) (by omega)]; omega
      exact Ok_e (a := .inr g) (if_pos e) ⟨g, rfl, f', S, P, s'.le (Nat.le_refl _) (by omega)⟩
  · have lt : lo < en := by omega
    rw [if_neg (fun z => c (ofN_inj (by omega) (by omega) z))]
    refine Ok_s (S.ld (k := en) (by omega)) ?_
    refine Ok_b (P := fun r => r.1 = Int32.ofNat en ∧ ∃ f', St a N K h0 r.2 f' ∧ Pm N lo hi f f' ∧ Sg lo en f') (Ok_loop (fun k s => s.1 = Int32.ofNat (lo + k) ∧ ∃ p f', lo ≤ p + 1 ∧ p ≤ hi ∧ s.2.1 = Int32.ofNat p ∧ St a N K h0 s.2.2 f' ∧ Pm N lo hi f f' ∧ Sg lo (lo + k + 1) f') (en - 1 - lo) ⟨rfl, hi, f, by omega, Nat.le_refl _, rfl, S, Pm.refl _ _ _ _, Sg.one lo f⟩ ?_ ?_ (by unfold mxF; omega)) ?_
    · rintro k ⟨s, p0, g⟩ hk ⟨es, p, f', p1, p2, ep, S, P, s'⟩
      obtain rfl := show s = _ from es
      obtain rfl := show p0 = _ from ep
      have S : St a N K h0 g f' := S
      have G' := G.pm P hN
      have gd := G'.2
      have e1 := ofN_pred (a := lo + k + 1) (by omega) (by omega)
      simp only [ofN_succ, if_neg (nle (show lo + k + 1 < en by omega) (by omega)), S.ld (k := lo + k + 1) (by omega), e1, S.ld (k := lo + k + 1 - 1) (by omega), bN]
      refine Ok_b (P := fun r => ∃ p f', lo ≤ p + 1 ∧ p ≤ hi ∧ r.1 = Int32.ofNat p ∧ St a N K h0 r.2 f' ∧ Pm N lo hi f f' ∧ Sg lo (lo + k + 2) f') ?_ (fun r ⟨p, f2, q1, q2, q3, q4, q5, q6⟩ => Ok_p ⟨_, rfl, rfl, p, f2, q1, q2, q3, q4, q5, q6⟩)
      by_cases q : (f' (lo + k + 1 - 1)).toInt ≤ (f' (lo + k + 1)).toInt
      · rw [if_pos (tl.mpr q)]
        by_cases q2 : p ≤ lo + k + 1
        · rw [if_pos ((ofN_le (by omega) (by omega)).mpr q2)]
          exact Ok_p ⟨p, f', p1, p2, rfl, S, P, s'.more q⟩
        · rw [if_neg (nle (by omega) (by omega))]
          by_cases q3 : (f' (lo + k + 1)).toInt ≤ (f en).toInt
          · rw [if_pos (tl.mpr q3)]
            exact Ok_p ⟨p, f', p1, p2, rfl, S, P, s'.more q⟩
          · rw [if_neg (tg (by omega))]
            have gp : (f' (lo - 1)).toInt ≤ (f en).toInt := by
              rw [P.2 (lo - 1) (by omega)]; exact G.2 en l1 (by omega)
            refine Ok_b (P := fun r => ∃ q, lo ≤ q + 1 ∧ q < p ∧ r = Int32.ofNat q) (Ok_loopE (fun t s => ∃ q, q + t = p ∧ lo ≤ q ∧ s = Int32.ofNat q) p ⟨p, by omega, by omega, rfl⟩ ?_ (by unfold mxF; omega)) ?_
            · rintro t s ht ⟨q, e, q4, rfl⟩
              simp only [ofN_pred (a := q) (by omega) (by omega), S.ld (k := q - 1) (by omega), bN]
              by_cases y : (f' (q - 1)).toInt ≤ (f en).toInt
              · rw [if_pos (tl.mpr y)]
                exact Ok_p (Or.inr ⟨_, rfl, q - 1, by omega, by omega, rfl⟩)
              · have ne : q ≠ lo := fun z => by rw [z] at y; exact y gp
                rw [if_neg (tg (by omega))]
                exact Ok_p (Or.inl ⟨_, rfl, by omega, q - 1, by omega, by omega, rfl⟩)
            · rintro r ⟨q5, q6, q7, rfl⟩
              by_cases y : q5 ≤ lo + k + 1
              · rw [if_pos ((ofN_le (by omega) (by omega)).mpr y), bN]
                exact ins_B S (Ins.start (by omega) (by omega) s') g1 (gd _ (by omega) (by omega)) (fun g2 f2 S2 P2 s2 => Ok_p ⟨q5, f2, by omega, by omega, rfl, S2, P.trans (P2.mono (Nat.le_refl _) (by omega)), s2⟩)
              · obtain ⟨w, S2⟩ := S.st (k := q5) (x := f' (lo + k + 1)) (by omega)
                rw [if_neg (nle (by omega) (by omega)), S.ld (k := q5) (by omega), bN]
                simp only [S.ld (k := lo + k + 1) (show lo + k + 1 < N by omega), bN, w]
                have P2 : Pm N lo hi f' (fup (fup f' q5 (f' (lo + k + 1))) (lo + k + 1) (f' q5)) := Pm.swap hN (i := q5) (k := lo + k + 1) (by omega) (by omega) (by omega) (by omega) (by rw [fup_ne (by omega), fup_eq]) (by rw [fup_eq]) (fun j j1 j2 => by rw [fup_ne j2, fup_ne j1])
                have I : Ins N lo (lo + k + 1) (lo + k + 1) (f' q5) (fup f' q5 (f' (lo + k + 1))) (fup (fup f' q5 (f' (lo + k + 1))) (lo + k + 1) (f' q5)) := by
                  refine ⟨by omega, Nat.le_refl _, by omega, Prm.refl N _, fun t ht => by rw [fup_ne (k := lo + k + 1) (by omega)], fun x y h1 h2 h3 h4 h5 => ?_, fun y h1 h2 => by omega⟩
                  rw [fup_ne (by omega), fup_ne (by omega)]
                  exact s' x y h1 h2 (by omega)
                have G2 := G'.pm P2 hN
                refine ins_B S2 I g1 ?_ (fun g2 f2 S3 P3 s2 => Ok_p ⟨q5, f2, by omega, by omega, rfl, S3, (P.trans P2).trans (P3.mono (Nat.le_refl _) (by omega)), s2⟩)
                rw [P2.2 (lo - 1) (by omega)]
                exact gd q5 (by omega) (by omega)
      · rw [if_neg (tg (by omega))]
        obtain ⟨w, S2⟩ := S.st (k := lo + k + 1) (x := f' (lo + k + 1 - 1)) (by omega)
        simp only [w, bN]
        have I := (Ins.start (N := N) (f := f') (i := lo + k + 1) (lo := lo) (by omega) (by omega) s').step (by omega) (by omega)
        exact ins_B S2 I g1 (gd _ (by omega) (by omega)) (fun g2 f2 S3 P3 s2 => Ok_p ⟨p, f2, p1, p2, rfl, S3, P.trans (P3.mono (Nat.le_refl _) (by omega)), s2⟩)
    · rintro ⟨s, p0, g⟩ ⟨es, p, f', p1, p2, ep, S, P, s'⟩
      obtain rfl := show s = _ from es
      have e : Int32.ofNat (lo + (en - 1 - lo)) + 1 = Int32.ofNat en := by
        rw [ofN_succ, show lo + (en - 1 - lo) + 1 = en by omega]
      exact Ok_e (a := .inr (Int32.ofNat (lo + (en - 1 - lo)) + 1, g)) (if_pos (by rw [e]; exact yle)) ⟨(Int32.ofNat (lo + (en - 1 - lo)) + 1, g), rfl, e, f', S, P, s'.le (Nat.le_refl _) (by omega)⟩
    · rintro ⟨r, g⟩ ⟨er, f', S, P, s'⟩
      obtain rfl := show r = _ from er
      have S : St a N K h0 g f' := S
      refine Ok_b (P := fun g => ∃ f', St a N K h0 g f' ∧ Pm N lo hi f f' ∧ Sg lo hi f') (Ok_loop (fun k s => s.1 = Int32.ofNat (en + 2 * k) ∧ ∃ f', St a N K h0 s.2 f' ∧ Pm N lo hi f f' ∧ Sg lo (en + 2 * k) f') j ⟨rfl, f', S, P, s'⟩ ?_ ?_ (by unfold mxF; omega)) (fun g H => Ok_p H)
      · rintro k ⟨s, g⟩ hk ⟨es, f', S, P, s'⟩
        obtain rfl := show s = _ from es
        have S : St a N K h0 g f' := S
        have G' := G.pm P hN
        have gd := G'.2
        have e1 := ofN_pred (a := en + 2 * k) (by omega) (by omega)
        simp only [ofN_succ, if_neg (nle (show en + 2 * k < hi by omega) (by omega)), S.ld (k := en + 2 * k) (by omega), S.ld (k := en + 2 * k + 1) (by omega), e1, S.ld (k := en + 2 * k - 1) (by omega), bN]
        refine Ok_b (P := fun g => ∃ f', St a N K h0 g f' ∧ Pm N lo hi f f' ∧ Sg lo (en + 2 * (k + 1)) f') ?_ (fun g ⟨f2, q1, q2, q3⟩ => Ok_p ⟨_, rfl, rfl, f2, q1, q2, q3⟩)
        by_cases q : (f' (en + 2 * k)).toInt ≤ (f' (en + 2 * k + 1)).toInt
        · rw [if_pos (tl.mpr q)]
          by_cases q2 : (f' (en + 2 * k - 1)).toInt ≤ (f' (en + 2 * k)).toInt
          · rw [if_pos (tl.mpr q2)]
            obtain ⟨m, em⟩ : ∃ m, en + 2 * k = m + 1 := ⟨en + 2 * k - 1, by omega⟩
            rw [em] at q q2 s'
            exact Ok_p ⟨f', S, P, by rw [show en + 2 * (k + 1) = m + 1 + 2 by omega]; exact (s'.more q2).more q⟩
          · rw [if_neg (tg (by omega))]
            have I : Ins2 N lo (en + 2 * k) (en + 2 * k) (f' (en + 2 * k)) (f' (en + 2 * k + 1)) f' f' := ⟨by omega, Nat.le_refl _, by omega, by rw [fup_same, fup_same]; exact Prm.refl N _, fun _ _ => rfl, fun u v h1 h2 h3 h4 h5 h6 h7 => s' u v h1 h2 (by omega), fun v h1 h2 => by omega, q⟩
            exact ins_C S I g1 (gd _ (by omega) (by omega)) (fun g2 f2 S2 P2 s2 => Ok_p ⟨f2, S2, P.trans (P2.mono (Nat.le_refl _) (by omega)), s2⟩)
        · rw [if_neg (tg (by omega))]
          have I : Ins2 N lo (en + 2 * k) (en + 2 * k) (f' (en + 2 * k + 1)) (f' (en + 2 * k)) f' f' := ⟨by omega, Nat.le_refl _, by omega, Prm.swap (i := en + 2 * k) (k := en + 2 * k + 1) (by omega) (by omega) (by rw [fup_ne (by omega), fup_eq]) (by rw [fup_eq]) (fun j _ j1 j2 => by rw [fup_ne j2, fup_ne j1]), fun _ _ => rfl, fun u v h1 h2 h3 h4 h5 h6 h7 => s' u v h1 h2 (by omega), fun v h1 h2 => by omega, by omega⟩
          exact ins_C S I g1 (gd _ (by omega) (by omega)) (fun g2 f2 S2 P2 s2 => Ok_p ⟨f2, S2, P.trans (P2.mono (Nat.le_refl _) (by omega)), s2⟩)
      · rintro ⟨s, g⟩ ⟨es, f', S, P, s'⟩
        obtain rfl := show s = _ from es
        exact Ok_e (a := .inr g) (if_pos (by rw [← l2]; exact yle)) ⟨g, rfl, f', S, P, by rw [l2]; exact s'⟩
end
