/-! THE PURE SIDE, 50: the law draws its rows -/
/-- things from 12 on are in no row -/
def TG (n : Nat → Int32) : Prop := (∀ i t, i < 5 → 12 ≤ t → t < 20 → n (20 * i + t) = -1) ∧ n 110 = 0
theorem TG_fup {n : Nat → Int32} (T : TG n) {r t : Nat} {x : Int32} (hr : r < 5) (ht : t < 12) : TG (fup n (20 * r + t) x) := ⟨fun i s hi h1 h2 => by
  rw [fup_ne (by omega)]; exact T.1 i s hi h1 h2, by rw [fup_ne (by omega)]; exact T.2⟩
theorem TG_hi {n : Nat → Int32} (T : TG n) {k : Nat} {x : Int32} (hk : 100 ≤ k) (h8 : k < 108) : TG (fup n k x) := ⟨fun i s hi h1 h2 => by
  rw [fup_ne (by omega)]; exact T.1 i s hi h1 h2, by rw [fup_ne (by omega)]; exact T.2⟩
def DS (J : Nat) (h : mxH) : Prop := ∃ n c B, LSt h n n c B J ∧ TG n ∧ n 105 = 0
section
variable {h : mxH} {n m : Nat → Int32} {c j : Nat} {B : Nat → Nat → Int32}
theorem LW.rule (L : LW h n) {x : Int32} : pI h 0 11 4 x = some (mxUp h 0 (11, (h.1 0).2.1, (h.1 0).2.2.set 4 (.int x))) ∧ LW (mxUp h 0 (11, (h.1 0).2.1, (h.1 0).2.2.set 4 (.int x))) (fup n 105 x) := by
  obtain ⟨l1, l2, l3, l4, l5, l6⟩ := L
  have ne : ∀ b, b ≠ 0 → (mxUp h 0 (11, (h.1 0).2.1, (h.1 0).2.2.set 4 (.int x))).1 b = h.1 b := fun b hb => if_neg hb
  refine ⟨by unfold pI; rw [if_pos ⟨by omega, l2.1⟩], l1, ?_, ?_, ?_, fun r hr => ?_, ?_⟩
  · rw [mxUp_at, l2.2, fup_eq]; exact ⟨rfl, rfl⟩
  · rw [ne 1 (by omega)]; exact l3
  · rw [ne 319 (by omega)]; exact l4
  · rw [ne _ (by omega)]
    refine ⟨(l5 r hr).1, (l5 r hr).2.trans (tab_ext (fun k hk => ?_))⟩
    rw [fup_ne (by omega)]
  · rw [ne 325 (by omega)]
    refine ⟨l6.1, l6.2.trans (tab_ext (fun k hk => ?_))⟩
    rw [fup_ne (by omega)]
theorem k_rule (I : LSt h n m c B j) {x : Int32} (hx : x = 0 ∨ x = 1 ∨ x = 2) : ∃ g, pI h 0 11 4 x = some g ∧ LSt g (fup n 105 x) m c B j ∧ Ev 0 h g := by
  obtain ⟨w1, L'⟩ := I.L.rule (x := x)
  have l1 := I.L.1
  have ne : ∀ b, b ≠ 0 → (mxUp h 0 (11, (h.1 0).2.1, (h.1 0).2.2.set 4 (.int x))).1 b = h.1 b := fun b hb => if_neg hb
  have e2 : (mxUp h 0 (11, (h.1 0).2.1, (h.1 0).2.2.set 4 (.int x))).2 = h.2 := rfl
  refine ⟨_, w1, ?_, Nat.le_refl _, Nat.le_refl _, fun b b1 _ => ne b (by omega)⟩
  have R := I.FR
  have M := I.MG
  have H := I.WG
  obtain ⟨i1, i2, i3, i4, i5⟩ := I
  have F : Fr (fun b => b = 0) h (mxUp h 0 (11, (h.1 0).2.1, (h.1 0).2.2.set 4 (.int x))) := ⟨⟨i2.1, fun a a1 a2 => by rw [ne a (by omega)]; exact i2.2 a a1 a2⟩, fun b hb => ne b hb, fun _ => rfl⟩
  refine ⟨⟨L', fun b b1 b2 => ?_, fun k hk => by rw [fup_ne (by omega)]; exact M k hk, fun i hi => by rw [fup_ne (by omega)]; exact H i hi, ?_⟩, F.1, SR_fr S3 i3 F (fun b b1 b2 b3 => by omega), HR_fr i4 F (fun b b1 b2 => by omega), i5⟩
  · rw [e2] at b1
    rw [ne b (by omega)]; exact R b b1 b2
  · unfold RG; rw [fup_eq]; exact hx
theorem draw_drop {J : Nat} (D : DS J h) {r t : Nat} (hr : r < 5) (ht : t < 12) : Ok (α := (Int32 × mxH) ⊕ (mxH ⊕ (mxH ⊕ mxH))) (Option.bind (gR h 0 11 2) (fun r444 => Option.bind (ldR h r444 (Int32.ofNat r)) (fun r446 => Option.bind (ldI h r446 (Int32.ofNat t)) (fun v448 => (if v448 < 0 then some (Sum.inl ((Int32.ofNat t) + 1, h)) else Option.bind (gR h 0 11 1) (fun r451 => Option.bind (isO h r451 10) (fun u453 => Option.bind (fX10_next r451 2 h) (fun o456 => (if o456.1 = 0 then Option.bind (gR o456.2 0 11 0) (fun r458 => Option.bind (isO o456.2 r458 9) (fun u460 => Option.bind (mxOk (fX9_drop r458 (Int32.ofNat r) (Int32.ofNat t) o456.2)) (fun o463 => Option.bind (gR o463.2 0 11 2) (fun r464 => Option.bind (ldR o463.2 r464 (Int32.ofNat r)) (fun r466 => Option.bind (ldI o463.2 r466 (Int32.ofNat t)) (fun v468 => (if o463.1 = v468 then Option.bind (gR o463.2 0 11 2) (fun r471 => Option.bind (ldR o463.2 r471 (Int32.ofNat r)) (fun r473 => Option.bind (stI o463.2 r473 (Int32.ofNat t) (-1)) (fun h475 => some (Sum.inl ((Int32.ofNat t) + 1, h475))))) else some (Sum.inr (Sum.inr (Sum.inl o463.2)))))))))) else some (Sum.inl ((Int32.ofNat t) + 1, o456.2))))))))))) (fun x => ∃ s', x = .inl s' ∧ s'.1 = Int32.ofNat (t + 1) ∧ DS (J + 1) s'.2 ∧ Ev 0 h s'.2) := by
  obtain ⟨n, c, B, I, T, n5⟩ := D
  have t20 : t < 20 := by omega
  simp only [I.gm, l_row I.L hr, l_mk I.L hr t20, bN]
  by_cases z : n (20 * r + t) < 0
  · rw [if_pos z]
    exact Ok_p ⟨_, rfl, ofN_succ t, ⟨n, c, B, I.mono (by omega), T, n5⟩, Ev.refl h⟩
  · rw [if_neg z]
    simp only [I.gd, I.d, bN]
    refine Ok_b (show Ok (fX10_next 1 2 h) _ from k_next I (N := 2) (by omega) (by omega)) (fun o ⟨⟨x, hx, ex⟩, I1, v1⟩ => ?_)
    by_cases x0 : o.1 = 0
    · rw [if_pos x0]
      simp only [I1.go, I1.hO, bN]
      refine Ok_b (k_drop I1 hr t20 (MG_hs1 I.MG hr t20 z)) (fun p ⟨p1, Ip, vp⟩ => ?_)
      simp only [Ip.gm, l_row Ip.L hr, l_mk Ip.L hr t20, bN]
      rw [p1, if_pos rfl]
      obtain ⟨w1, I2, v2⟩ := k_mark (x := -1) Ip hr t20 (MG_drop I.MG)
      rw [w1]
      exact Ok_p ⟨_, rfl, ofN_succ t, ⟨_, _, _, I2, TG_fup T hr ht, by rw [fup_ne (by omega)]; exact n5⟩, ((v1.trans vp).trans v2).le (by omega)⟩
    · rw [if_neg x0]
      exact Ok_p ⟨_, rfl, ofN_succ t, ⟨n, c, B, I1.mono (by omega), T, n5⟩, v1⟩
theorem draw_put {J : Nat} (D : DS J h) {r t sz : Nat} (hr : r < 5) (ht : t < 12) (s1 : 1 ≤ sz) (s2 : sz ≤ 100) : Ok (α := (Int32 × mxH) ⊕ (mxH ⊕ (mxH ⊕ mxH))) (Option.bind (gR h 0 11 1) (fun r517 => Option.bind (isO h r517 10) (fun u519 => Option.bind (fX10_next r517 (Int32.ofNat sz) h) (fun o522 => Option.bind (gR o522.2 0 11 0) (fun r523 => Option.bind (isO o522.2 r523 9) (fun u525 => Option.bind (mxOk (fX9_put r523 (Int32.ofNat r) (Int32.ofNat t) o522.1 o522.2)) (fun o528 => Option.bind (gR o528.2 0 11 2) (fun r529 => Option.bind (ldR o528.2 r529 (Int32.ofNat r)) (fun r531 => Option.bind (ldI o528.2 r531 (Int32.ofNat t)) (fun v533 => (if o528.1 = v533 then Option.bind (gR o528.2 0 11 2) (fun r536 => Option.bind (ldR o528.2 r536 (Int32.ofNat r)) (fun r538 => Option.bind (stI o528.2 r538 (Int32.ofNat t) o522.1) (fun h540 => some (Sum.inl ((Int32.ofNat t) + 1, h540))))) else some (Sum.inr (Sum.inl o528.2))))))))))))) (fun x => ∃ s', x = .inl s' ∧ s'.1 = Int32.ofNat (t + 1) ∧ DS (J + 1) s'.2 ∧ Ev 0 h s'.2) := by
  obtain ⟨n, c, B, I, T, n5⟩ := D
  have t20 : t < 20 := by omega
  simp only [I.gd, I.d, bN]
  refine Ok_b (k_next I (N := sz) s1 (by omega)) (fun o ⟨⟨x, hx, ex⟩, I1, v1⟩ => ?_)
  simp only [I1.go, I1.hO, bN]
  rw [ex]
  refine Ok_b (k_put I1 hr t20 (show x < 100 by omega)) (fun p ⟨p1, Ip, vp⟩ => ?_)
  simp only [Ip.gm, l_row Ip.L hr, l_mk Ip.L hr t20, bN]
  rw [p1, if_pos rfl]
  obtain ⟨w1, I2, v2⟩ := k_mark (x := Int32.ofNat x) Ip hr t20 (MG_fup I.MG (by omega))
  rw [w1]
  exact Ok_p ⟨_, rfl, ofN_succ t, ⟨_, _, _, I2, TG_fup T hr ht, by rw [fup_ne (by omega)]; exact n5⟩, ((v1.trans vp).trans v2).le (by omega)⟩
theorem DS.mono {J K : Nat} (D : DS J h) (k : J ≤ K) : DS K h := by
  obtain ⟨n, c, B, I, T, n5⟩ := D
  exact ⟨n, c, B, I.mono k, T, n5⟩
theorem w_draws (I : LSt h n n c B j) (T : TG n) (n5 : n 105 = 0) : Ok (fL_draws 0 h) (fun o => o.1 = 1 ∧ (∃ n' c' B', LSt o.2 n' n' c' B' (j + 100) ∧ TG n') ∧ Ev 0 h o.2) := by
  unfold fL_draws
  simp only [I.gd, I.d, bN]
  refine Ok_b (show Ok (fX10_next 1 9 h) _ from k_next I (N := 9) (by omega) (by omega)) (fun o1 ⟨⟨x, hx, ex⟩, I1, v1⟩ => ?_)
  simp only [I1.gd, I1.d, bN]
  refine Ok_b (show Ok (fX10_next 1 2 o1.2) _ from k_next I1 (N := 2) (by omega) (by omega)) (fun o2 ⟨⟨y, hy, ey⟩, I2, v2⟩ => ?_)
  have V2 := v1.trans v2
  refine Ok_b (P := fun z => ∃ sz, 1 ≤ sz ∧ sz ≤ 100 ∧ z = Int32.ofNat sz) ?_ (fun z ⟨sz, s1, s2, ez⟩ => ?_)
  · by_cases y0 : o2.1 = 0
    · rw [if_pos y0]; exact Ok_p ⟨6, by omega, by omega, rfl⟩
    · rw [if_neg y0]; exact Ok_p ⟨100, by omega, by omega, rfl⟩
  rw [ex, ez, show (4 : Int32) + Int32.ofNat x = Int32.ofNat (4 + x) from ofN_add 4 x]
  refine Ok_b (P := fun r => ∃ g, r = Sum.inr (Sum.inr (Sum.inr g)) ∧ DS (j + 65) g ∧ Ev 0 o2.2 g) (Ok_loopF 6 (fun r s => s.1 = Int32.ofNat r ∧ DS (j + 13 * r) s.2 ∧ Ev 0 o2.2 s.2) 5 ⟨rfl, ⟨n, c, B, I2, T, n5⟩, Ev.refl _⟩ ?_ ?_ (by omega)) ?_
  · rintro r ⟨q1, g⟩ hr ⟨e1, D, vg⟩
    obtain rfl := show q1 = _ from e1
    have vg : Ev 0 o2.2 g := vg
    obtain ⟨na, ca, Ba, Ia, Ta, a5⟩ := show DS (j + 13 * r) g from D
    simp only [if_neg (show ¬ (5 : Int32) ≤ Int32.ofNat r from nle hr), Ia.gd, Ia.d, bN]
    refine Ok_b (show Ok (fX10_next 1 4 g) _ from k_next Ia (N := 4) (by omega) (by omega)) (fun o3 ⟨⟨sh, hsh, esh⟩, I3, v3⟩ => ?_)
    refine Ok_b (P := fun r' => ∃ g2, r' = Sum.inr (Sum.inr g2) ∧ DS (j + 13 * r + 12) g2 ∧ Ev 0 o3.2 g2) (Ok_loopF 13 (fun t s => s.1 = Int32.ofNat t ∧ DS (j + 13 * r + t) s.2 ∧ Ev 0 o3.2 s.2) (4 + x) ⟨rfl, ⟨na, ca, Ba, I3, Ta, a5⟩, Ev.refl _⟩ ?_ ?_ (by omega)) ?_
    · rintro t ⟨q1, g2⟩ ht ⟨e1, D2, vg2⟩
      obtain rfl := show q1 = _ from e1
      have vg2 : Ev 0 o3.2 g2 := vg2
      have D2 : DS (j + 13 * r + t) g2 := D2
      simp only [if_neg (nle ht (by omega))]
      by_cases q : o3.1 ≤ 0
      · rw [if_pos q]
        exact Ok_m (draw_drop D2 hr (by omega)) (fun w ⟨s', w1, w2, w3, w4⟩ => ⟨s', w1, w2, w3, (vg2.trans w4).le (by omega)⟩)
      · rw [if_neg q]
        obtain ⟨nb, cb, Bb, Ib, Tb, b5⟩ := D2
        simp only [Ib.gd, Ib.d, bN]
        refine Ok_b (show Ok (fX10_next 1 3 g2) _ from k_next Ib (N := 3) (by omega) (by omega)) (fun o4 ⟨_, I4, v4⟩ => ?_)
        have D4 : DS (j + 13 * r + t) o4.2 := ⟨nb, cb, Bb, I4, Tb, b5⟩
        by_cases q2 : o3.1 ≤ o4.1
        · rw [if_pos q2]
          exact Ok_m (draw_drop D4 hr (by omega)) (fun w ⟨s', w1, w2, w3, w4⟩ => ⟨s', w1, w2, w3, ((vg2.trans v4).trans w4).le (by omega)⟩)
        · rw [if_neg q2]
          exact Ok_m (draw_put D4 hr (by omega) s1 s2) (fun w ⟨s', w1, w2, w3, w4⟩ => ⟨s', w1, w2, w3, ((vg2.trans v4).trans w4).le (by omega)⟩)
    · rintro ⟨q1, g2⟩ ⟨e1, D2, vg2⟩
      obtain rfl := show q1 = _ from e1
      have D2 : DS (j + 13 * r + (4 + x)) g2 := D2
      exact Ok_e (a := .inr (.inr (.inr g2))) (if_pos yle) ⟨_, rfl, g2, rfl, D2.mono (by omega), vg2⟩
    rintro r' ⟨g2, rfl, D2, vg2⟩
    obtain ⟨nb, cb, Bb, Ib, Tb, b5⟩ := D2
    simp only [Sum.elim_inr, Ib.gd, Ib.d, bN]
    refine Ok_b (show Ok (fX10_next 1 3 g2) _ from k_next Ib (N := 3) (by omega) (by omega)) (fun o4 ⟨_, I4, v4⟩ => ?_)
    by_cases q : o4.1 = 0
    · rw [if_pos q]
      simp only [I4.gd, I4.d, bN]
      refine Ok_b (show Ok (fX10_next 1 6 o4.2) _ from k_next I4 (N := 6) (by omega) (by omega)) (fun o5 ⟨⟨w, hw, ew⟩, I5, v5⟩ => ?_)
      rw [ew]
      simp only [I5.go, I5.hO, bN]
      refine Ok_b (k_setWeight I5 hr hw) (fun p ⟨p1, Ip, vp⟩ => ?_)
      simp only [Ip.gw, l_wt Ip.L hr, bN]
      rw [p1, if_pos rfl]
      obtain ⟨w1, I6, v6⟩ := k_weight Ip hr hw
      rw [w1]
      exact Ok_p ⟨_, rfl, ofN_succ r, ⟨_, _, _, I6.mono (by omega), TG_hi Tb (by omega) (by omega), by rw [fup_ne (by omega)]; exact b5⟩, ((((((vg.trans v3).trans vg2).trans v4).trans v5).trans vp).trans v6).le (by omega)⟩
    · rw [if_neg q]
      exact Ok_p ⟨_, rfl, ofN_succ r, ⟨nb, cb, Bb, I4.mono (by omega), Tb, b5⟩, (((vg.trans v3).trans vg2).trans v4).le (by omega)⟩
  · rintro ⟨q1, g⟩ ⟨e1, D, vg⟩
    obtain rfl := show q1 = _ from e1
    have D : DS (j + 13 * 5) g := D
    exact Ok_e (a := .inr (.inr (.inr (.inr g)))) (if_pos yle) ⟨_, rfl, g, rfl, D.mono (by omega), vg⟩
  rintro r' ⟨g, rfl, D, vg⟩
  obtain ⟨na, ca, Ba, Ia, Ta, a5⟩ := D
  simp only [Sum.elim_inr, Ia.gd, Ia.d, bN]
  refine Ok_b (show Ok (fX10_next 1 3 g) _ from k_next Ia (N := 3) (by omega) (by omega)) (fun o3 ⟨⟨u, hu, eu⟩, I3, v3⟩ => ?_)
  have hx3 : o3.1 = 0 ∨ o3.1 = 1 ∨ o3.1 = 2 := by
    have : u = 0 ∨ u = 1 ∨ u = 2 := by omega
    rw [eu]
    rcases this with rfl | rfl | rfl
    · exact Or.inl rfl
    · exact Or.inr (Or.inl rfl)
    · exact Or.inr (Or.inr rfl)
  obtain ⟨g4, w4, I4, v4⟩ := k_rule I3 hx3
  have er : gI g4 0 11 4 = some o3.1 := by
    have := l_gr I4.L
    rw [fup_eq] at this; exact this
  have hp : inI o3.1 0 2 = true := by rcases hx3 with e | e | e <;> rw [e] <;> decide
  simp only [w4, I4.go, er, I4.hO, bN]
  refine Ok_b (k_setRule I4 hp) (fun p ⟨p1, Ip, vp⟩ => ?_)
  rw [p1, a5, if_pos rfl]
  exact Ok_p ⟨rfl, ⟨_, _, _, Ip.mono (by omega), TG_hi Ta (by omega) (by omega)⟩, ((((V2.trans vg).trans v3).trans v4).trans vp).le (by omega)⟩
end
