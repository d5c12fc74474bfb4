/-! THE PURE SIDE, 62: the division's walk -/
section
variable {a N K n : Nat} {h0 h : mxH} {f F : Nat → Int32}
theorem p_main {X Y : Int32} {L U J : Nat} (S : St a N K h0 h F) (hn : n ≤ N) (P : Pt N n X Y f L U J F) : Ok (mxLoop (ρ := (Int32 × Int32 × mxH)) (fun s2922 : (Int32 × Int32 × Int32 × mxH) => (if (s2922.2.2.1 - 1) ≤ s2922.1 then some (Sum.inr (s2922.1, s2922.2.1, s2922.2.2.2)) else
 Option.bind (ldI s2922.2.2.2 a (s2922.2.2.1 - 1)) (fun v2931 =>
 Option.bind (α := (Int32 × Int32 × mxH)) (if X ≤ v2931 then (if v2931 ≤ Y then some (s2922.1, s2922.2.1, s2922.2.2.2) else
 Option.bind (ldI s2922.2.2.2 a (s2922.2.1 - 1)) (fun v2995 =>
 Option.bind (stI s2922.2.2.2 a (s2922.2.2.1 - 1) v2995) (fun h2997 =>
 Option.bind (stI h2997 a (s2922.2.1 - 1) v2931) (fun h2999 => some (s2922.1, s2922.2.1 - 1, h2999))))) else
 Option.bind (mxLoop (ρ := (Int32 ⊕ Int32)) (fun s3001 : Int32 => (if (s2922.2.2.1 - 1) ≤ s3001 then some (Sum.inr (Sum.inr s3001)) else
 Option.bind (ldI s2922.2.2.2 a (s3001 + 1)) (fun v3011 => (if v3011 < X then some (Sum.inl (s3001 + 1)) else some (Sum.inr (Sum.inl (s3001 + 1))))))) mxF s2922.1) (Sum.elim (fun r3014 : Int32 =>
 Option.bind (ldI s2922.2.2.2 a r3014) (fun v3015 =>
 Option.bind (α := (Int32 × mxH)) (if v3015 ≤ Y then
 Option.bind (ldI s2922.2.2.2 a r3014) (fun v3033 =>
 Option.bind (stI s2922.2.2.2 a (s2922.2.2.1 - 1) v3033) (fun h3035 => some (s2922.2.1, h3035))) else
 Option.bind (ldI s2922.2.2.2 a (s2922.2.1 - 1)) (fun v3037 =>
 Option.bind (stI s2922.2.2.2 a (s2922.2.2.1 - 1) v3037) (fun h3039 =>
 Option.bind (ldI h3039 a r3014) (fun v3041 =>
 Option.bind (stI h3039 a (s2922.2.1 - 1) v3041) (fun h3043 => some (s2922.2.1 - 1, h3043)))))) (fun jp3019' : (Int32 × mxH) =>
 Option.bind (stI jp3019'.2 a r3014 v2931) (fun h3045 => some (r3014, jp3019'.1, h3045))))) (fun r3049 : Int32 => some (r3049, s2922.2.1, s2922.2.2.2)))) (fun jp2935' : (Int32 × Int32 × mxH) => some (Sum.inl (jp2935'.1, jp2935'.2.1, s2922.2.2.1 - 1, jp2935'.2.2)))))) mxF (Int32.ofNat L, Int32.ofNat U, Int32.ofNat J, h))
    (fun r => ∃ L U J F, r.1 = Int32.ofNat L ∧ r.2.1 = Int32.ofNat U ∧ J ≤ L + 1 ∧ St a N K h0 r.2.2 F ∧ Pt N n X Y f L U J F) := by
  have n60 := S.n
  have J1 : J ≤ n := by have := P.1; omega
  refine Ok_loopE (fun t s => ∃ L U k F, k + t = J ∧ s.1 = Int32.ofNat L ∧ s.2.1 = Int32.ofNat U ∧ s.2.2.1 = Int32.ofNat k ∧ St a N K h0 s.2.2.2 F ∧ Pt N n X Y f L U k F) J ⟨L, U, J, F, by omega, rfl, rfl, rfl, S, P⟩ ?_ (by unfold mxF; omega)
  rintro t ⟨s1, s2, s3, g⟩ ht ⟨L, U, k, F, ek, es1, es2, es3, S, P⟩
  obtain rfl := show s1 = _ from es1
  obtain rfl := show s2 = _ from es2
  obtain rfl := show s3 = _ from es3
  have S : St a N K h0 g F := S
  have P := P
  obtain ⟨p1, p2, p3, p4, p5⟩ := P.1
  obtain ⟨k, rfl⟩ : ∃ m, k = m + 1 := ⟨k - 1, by omega⟩
  have ek1 : Int32.ofNat (k + 1) - 1 = Int32.ofNat k := by rw [ofN_pred (by omega) (by omega), Nat.add_sub_cancel]
  have eu1 : Int32.ofNat U - 1 = Int32.ofNat (U - 1) := ofN_pred (by omega) (by omega)
  simp only [ek1, eu1]
  by_cases c : k ≤ L
  · rw [if_pos ((ofN_le (by omega) (by omega)).mpr c)]
    exact Ok_p (Or.inr ⟨_, rfl, L, U, k + 1, F, rfl, rfl, by omega, S, P⟩)
  · rw [if_neg (nle (by omega) (by omega)), S.ld (show k < N by omega), bN]
    refine Ok_b (P := fun o => ∃ L U F, o.1 = Int32.ofNat L ∧ o.2.1 = Int32.ofNat U ∧ St a N K h0 o.2.2 F ∧ Pt N n X Y f L U k F) ?_ ?_
    · by_cases q1 : X.toInt ≤ (F k).toInt
      · rw [if_pos (tl.mpr q1)]
        by_cases q2 : (F k).toInt ≤ Y.toInt
        · rw [if_pos (tl.mpr q2)]
          exact Ok_p ⟨L, U, F, rfl, rfl, S, P.mid (by omega) q1 q2⟩
        · obtain ⟨w1, S1⟩ := S.st (k := k) (x := F (U - 1)) (by omega)
          obtain ⟨w2, S2⟩ := S1.st (k := U - 1) (x := F k) (by omega)
          rw [if_neg (tg (by omega)), S.ld (show U - 1 < N by omega), bN, w1, bN, w2, bN]
          exact Ok_p ⟨L, U - 1, _, rfl, rfl, S2, P.hi hn (by omega) (by omega)⟩
      · rw [if_neg (tg (by omega))]
        refine Ok_b (P := fun o => (∃ r, o = Sum.inl (Int32.ofNat r) ∧ L < r ∧ r < k ∧ (∀ t, L < t → t < r → (F t).toInt < X.toInt) ∧ X.toInt ≤ (F r).toInt) ∨ (o = Sum.inr (Int32.ofNat k) ∧ ∀ t, L < t → t ≤ k → (F t).toInt < X.toInt)) (Ok_loopE (fun u s => s = Int32.ofNat (L + u) ∧ L + u ≤ k ∧ ∀ t, L < t → t ≤ L + u → (F t).toInt < X.toInt) (k - L) ⟨rfl, by omega, fun t t1 t2 => by omega⟩ ?_ (by unfold mxF; omega)) ?_
        · rintro u s hu ⟨rfl, u1, u2⟩
          by_cases z : k ≤ L + u
          · have e : L + u = k := by omega
            rw [e] at u2 ⊢
            rw [if_pos yle]
            exact Ok_p (Or.inr ⟨_, rfl, Or.inr ⟨rfl, u2⟩⟩)
          · simp only [if_neg (nle (show L + u < k by omega) (by omega)), ofN_succ, S.ld (show L + u + 1 < N by omega), bN]
            by_cases y : (F (L + u + 1)).toInt < X.toInt
            · rw [if_pos (tt.mpr y)]
              refine Ok_p (Or.inl ⟨_, rfl, by omega, rfl, by omega, fun t t1 t2 => ?_⟩)
              by_cases e : t = L + u + 1
              · rw [e]; exact y
              · exact u2 t t1 (by omega)
            · rw [if_neg (tn (by omega))]
              have ne : L + u + 1 ≠ k := fun z => by rw [z] at y; omega
              exact Ok_p (Or.inr ⟨_, rfl, Or.inl ⟨L + u + 1, rfl, by omega, by omega, fun t t1 t2 => u2 t t1 (by omega), by omega⟩⟩)
        · rintro o (⟨r, rfl, r1, r2, r3, r4⟩ | ⟨rfl, r3⟩)
          · show Ok (Option.bind (ldI g a (Int32.ofNat r)) _) _
            rw [S.ld (show r < N by omega), bN]
            by_cases q2 : (F r).toInt ≤ Y.toInt
            · obtain ⟨w1, S1⟩ := S.st (k := k) (x := F r) (by omega)
              obtain ⟨w2, S2⟩ := S1.st (k := r) (x := F k) (by omega)
              rw [if_pos (tl.mpr q2), bN, w1, bN, bN, w2, bN]
              exact Ok_p ⟨r, U, _, rfl, rfl, S2, P.lo1 hn r1 r2 (by omega) r3 r4 q2⟩
            · obtain ⟨w1, S1⟩ := S.st (k := k) (x := F (U - 1)) (by omega)
              obtain ⟨w2, S2⟩ := S1.st (k := U - 1) (x := F r) (by omega)
              obtain ⟨w3, S3⟩ := S2.st (k := r) (x := F k) (by omega)
              have l1 : ldI (sA g a k (F (U - 1))) a (Int32.ofNat r) = some (F r) := (S1.ld (by omega)).trans (by rw [fup_ne (by omega)])
              rw [if_neg (tg (by omega)), S.ld (show U - 1 < N by omega), bN, w1, bN, l1, bN, w2, bN, bN, w3, bN]
              exact Ok_p ⟨r, U - 1, _, rfl, rfl, S3, P.lo2 hn r1 r2 (by omega) r3 (by omega)⟩
          · exact Ok_p ⟨k, U, F, rfl, rfl, S, P.lo0 (by omega) r3⟩
    · rintro ⟨o1, o2, o3⟩ ⟨L2, U2, F2, e1, e2, S2, P2⟩
      obtain rfl := show o1 = _ from e1
      obtain rfl := show o2 = _ from e2
      exact Ok_p (Or.inl ⟨_, rfl, by omega, L2, U2, k, F2, by omega, rfl, rfl, rfl, S2, P2⟩)
variable {e1 e2 e3 e4 e5 j : Nat}
theorem ptnD_ok (S : St a N K h0 h F) (hn : n ≤ N) (o : En n e1 e2 e3 e4 e5) (q1 : (F e1).toInt < (F e2).toInt) (q2 : (F e2).toInt < (F e4).toInt) (q3 : (F e4).toInt < (F e5).toInt) (hj : j < 20) :
    Ok (ptnD a (Int32.ofNat (6 * j)) (Int32.ofNat n) (Int32.ofNat (n - 1)) (Int32.ofNat e1) (Int32.ofNat e2) (Int32.ofNat e3) (Int32.ofNat e4) (Int32.ofNat e5) h) (fun o => ∃ L g f', o = .inl (Int32.ofNat (6 * j) + 6, Int32.ofNat L, g) ∧ St a N K h0 g f' ∧ Dn N n F f' L) := by
  have n60 := S.n
  obtain ⟨o1, o2, o3, o4, o5, o6⟩ := o
  unfold ptnD
  rw [S.ld (show e1 < N by omega), bN, S.ld (show e5 < N by omega), bN, show ldI h a 0 = some (F 0) from S.ld (k := 0) (by omega), bN]
  obtain ⟨w1, S1⟩ := S.st (k := e1) (x := F 0) (by omega)
  refine Ok_s w1 ?_
  generalize sA h a e1 (F 0) = g1 at S1
  refine Ok_s ((S1.ld (k := n - 1) (by omega)).trans (by rw [fup_ne (by omega)])) ?_
  obtain ⟨w2, S2⟩ := S1.st (k := e5) (x := F (n - 1)) (by omega)
  refine Ok_s w2 ?_
  generalize sA g1 a e5 (F (n - 1)) = g2 at S2
  have A0 : ∀ t, t ≠ e1 → t ≠ e5 → fup (fup F e1 (F 0)) e5 (F (n - 1)) t = F t := fun t t1 t2 => by rw [fup_ne t2, fup_ne t1]
  have PA : Prm N F (Vv n (F e1) (F e5) (fup (fup F e1 (F 0)) e5 (F (n - 1)))) := by
    have s1 : Prm N F (fup (fup F e1 (F 0)) 0 (F e1)) := Prm.swap (i := e1) (k := 0) (by omega) (by omega) (by rw [fup_ne (by omega), fup_eq]) (by rw [fup_eq]) (fun t _ a b => by rw [fup_ne b, fup_ne a])
    refine s1.trans (Prm.swap (i := e5) (k := n - 1) (by omega) (by omega) ?_ ?_ (fun t _ a b => ?_))
    · rw [Vv_ne (by omega) (by omega), fup_eq, fup_ne (by omega), fup_ne (by omega)]
    · unfold Vv
      rw [fup_eq, fup_ne (by omega), fup_ne (by omega)]
    · unfold Vv
      rw [fup_ne b]
      by_cases e : t = 0
      · rw [e, fup_eq, fup_eq]
      · rw [fup_ne e, fup_ne e, fup_ne a]
  obtain ⟨A, eA⟩ : ∃ A, A = fup (fup F e1 (F 0)) e5 (F (n - 1)) := ⟨_, rfl⟩
  rw [← eA] at S2 A0 PA
  have AN : ∀ t, n ≤ t → A t = F t := fun t ht => A0 t (by omega) (by omega)
  clear eA
  refine Ok_b (P := fun r => ∃ r1, r = Int32.ofNat r1 ∧ 1 ≤ r1 ∧ r1 ≤ e2 ∧ ∀ t, 1 ≤ t → t < r1 → (A t).toInt < (F e1).toInt) (Ok_loopE (fun k s => s = Int32.ofNat k ∧ k + 1 ≤ e2 ∧ ∀ t, 1 ≤ t → t ≤ k → (A t).toInt < (F e1).toInt) (e2 - 1) ⟨rfl, by omega, fun t t1 t2 => by omega⟩ ?_ (by unfold mxF; omega)) ?_
  · rintro k s hk ⟨rfl, k1, k2⟩
    simp only [ofN_succ, S2.ld (show k + 1 < N by omega), bN]
    by_cases y : (F e1).toInt ≤ (A (k + 1)).toInt
    · rw [if_pos (tl.mpr y)]
      exact Ok_p (Or.inr ⟨_, rfl, k + 1, rfl, by omega, by omega, fun t t1 t2 => k2 t t1 (by omega)⟩)
    · have ne : k + 1 ≠ e2 := fun z => by
        rw [z, A0 e2 (by omega) (by omega)] at y; omega
      rw [if_neg (tg (by omega))]
      refine Ok_p (Or.inl ⟨_, rfl, by omega, rfl, by omega, fun t t1 t2 => ?_⟩)
      by_cases e : t = k + 1
      · rw [e]; omega
      · exact k2 t t1 (by omega)
  rintro r ⟨r1, rfl, x1, x2, x3⟩
  refine Ok_b (P := fun r => ∃ r2, r = Int32.ofNat r2 ∧ e4 ≤ r2 ∧ r2 + 1 < n ∧ ∀ t, r2 < t → t + 1 < n → (F e5).toInt ≤ (A t).toInt) (Ok_loopE (fun k s => ∃ q, q + k = n - 1 ∧ s = Int32.ofNat q ∧ e4 < q ∧ ∀ t, q ≤ t → t + 1 < n → (F e5).toInt ≤ (A t).toInt) (n - 1) ⟨n - 1, by omega, rfl, by omega, fun t t1 t2 => by omega⟩ ?_ (by unfold mxF; omega)) ?_
  · rintro k s hk ⟨q, ek, rfl, k1, k2⟩
    simp only [ofN_pred (show 1 ≤ q by omega) (by omega), S2.ld (show q - 1 < N by omega), bN]
    by_cases y : (A (q - 1)).toInt ≤ (F e5).toInt
    · rw [if_pos (tl.mpr y)]
      exact Ok_p (Or.inr ⟨_, rfl, q - 1, rfl, by omega, by omega, fun t t1 t2 => k2 t (by omega) t2⟩)
    · have ne : q - 1 ≠ e4 := fun z => by
        rw [z, A0 e4 (by omega) (by omega)] at y; omega
      rw [if_neg (tg (by omega))]
      refine Ok_p (Or.inl ⟨_, rfl, by omega, q - 1, by omega, rfl, by omega, fun t t1 t2 => ?_⟩)
      by_cases e : t = q - 1
      · rw [e]; omega
      · exact k2 t (by omega) t2
  rintro r ⟨r2, rfl, y1, y2, y3⟩
  have P0 : Pt N n (F e1) (F e5) F (r1 - 1) (r2 + 1) (r2 + 1) A := ⟨⟨by omega, by omega, by omega, by omega, by omega⟩, PA, AN, fun t t1 t2 => x3 t t1 (by omega), fun t t1 t2 t3 => by omega, fun t t1 t2 => y3 t (by omega) t2⟩
  rw [ofN_pred x1 (by omega), ofN_succ]
  refine Ok_b (p_main S2 hn P0) ?_
  rintro ⟨l1, u1, g⟩ ⟨L, U, J, B, el, eu, jl, S3, P⟩
  obtain rfl := show l1 = _ from el
  obtain rfl := show u1 = _ from eu
  have S3 : St a N K h0 g B := S3
  obtain ⟨p1, p2, p3, p4, p5⟩ := P.1
  obtain ⟨Z1, f', ef, c1, c2, c3, c4, c5⟩ := P.last hn jl (by omega)
  rw [← ef] at Z1
  show Ok (Option.bind (ldI g a (Int32.ofNat L)) _) _
  rw [S3.ld (show L < N by omega), bN]
  obtain ⟨w3, S4⟩ := S3.st (k := 0) (x := B L) (by omega)
  refine Ok_s w3 ?_
  generalize sA g a 0 (B L) = g3 at S4
  obtain ⟨w4, S5⟩ := S4.st (k := L) (x := F e1) (by omega)
  refine Ok_s w4 ?_
  generalize sA g3 a L (F e1) = g4 at S5
  refine Ok_s (S5.ld (k := U) (by omega)) ?_
  obtain ⟨w5, S6⟩ := S5.st (k := n - 1) (x := fup (fup B 0 (B L)) L (F e1) U) (by omega)
  refine Ok_s w5 ?_
  generalize sA g4 a (n - 1) (fup (fup B 0 (B L)) L (F e1) U) = g5 at S6
  obtain ⟨w6, S7⟩ := S6.st (k := U) (x := F e5) (by omega)
  refine Ok_s w6 ?_
  generalize sA g5 a U (F e5) = g6 at S7
  rw [← ef] at S7
  clear ef S6 S5 S4 S3 P
  have c4096 : (Int32.ofNat n - (0 : Int32)) ≤ 4096 := by
    show Int32.ofNat n - Int32.ofNat 0 ≤ Int32.ofNat 4096
    rw [ofN_sub (by omega), ofN_le (by omega) (by omega)]; omega
  rw [if_pos c4096]
  have G1 : Gd (L + 1) U f' := ⟨by omega, fun t t1 t2 => by rw [Nat.add_sub_cancel, c2]; exact (c3 t (by omega) t2).1⟩
  show Ok (Option.bind (fX12_sort_l a _ (Int32.ofNat L + 1) (Int32.ofNat U) g6) (fun o3067 => Option.bind (fX12_sort_l a _ (Int32.ofNat U + 1) _ o3067) _)) _
  rw [ofN_succ, ofN_succ]
  refine Ok_b (l_sort_l S7 (by omega) G1 (by omega) hj rfl) (fun g7 ⟨f2, S8, P2, s2⟩ => ?_)
  have G2 : Gd (U + 1) n f2 := ⟨by omega, fun t t1 t2 => by rw [Nat.add_sub_cancel, P2.2 U (by omega), P2.2 t (by omega), c4]; exact c5 t (by omega) t2⟩
  refine Ok_b (l_sort_l S8 hn G2 (by omega) hj rfl) (fun g8 ⟨f3, S9, P3, s3⟩ => ?_)
  have m2 := Pm.all (fun x => (F e1).toInt ≤ x.toInt ∧ x.toInt ≤ (F e5).toInt) P2 (by omega) (fun t t1 t2 => c3 t (by omega) t2)
  have m3 := Pm.all (fun x => (F e5).toInt ≤ x.toInt) P3 hn (fun t t1 t2 => by rw [P2.2 t (by omega)]; exact c5 t (by omega) t2)
  have d1 : ∀ t, t < L → (f3 t).toInt ≤ (F e1).toInt := fun t ht => by rw [P3.2 t (by omega), P2.2 t (by omega)]; exact c1 t ht
  have d2 : (f3 L).toInt = (F e1).toInt := by rw [P3.2 L (by omega), P2.2 L (by omega), c2]
  have d3 : ∀ t, L < t → t < U → (F e1).toInt ≤ (f3 t).toInt ∧ (f3 t).toInt ≤ (F e5).toInt := fun t t1 t2 => by rw [P3.2 t (by omega)]; exact m2 t (by omega) t2
  have d4 : (f3 U).toInt = (F e5).toInt := by rw [P3.2 U (by omega), P2.2 U (by omega), c4]
  have d6 : ∀ i k, L < i → i < k → k < U → (f3 i).toInt ≤ (f3 k).toInt := fun i k i1 i2 i3 => by rw [P3.2 i (by omega), P3.2 k (by omega)]; exact s2 i k (by omega) i2 i3
  refine Ok_p ⟨L, g8, f3, rfl, S9, by omega, (Z1.trans (P2.mono (by omega) (by omega))).trans (P3.mono (by omega) (Nat.le_refl _)), fun i k i1 i2 i3 => ?_⟩
  have lt15 : (F e1).toInt ≤ (F e5).toInt := by omega
  have cl : ∀ t, t < n → (f3 t).toInt ≤ (F e1).toInt ∧ t < L ∨ t = L ∧ (f3 t).toInt = (F e1).toInt ∨ (L < t ∧ t < U ∧ (F e1).toInt ≤ (f3 t).toInt ∧ (f3 t).toInt ≤ (F e5).toInt) ∨ t = U ∧ (f3 t).toInt = (F e5).toInt ∨ U < t ∧ (F e5).toInt ≤ (f3 t).toInt := fun t ht => by
    by_cases a1 : t < L
    · exact Or.inl ⟨d1 t a1, a1⟩
    · by_cases a2 : t = L
      · exact Or.inr (Or.inl ⟨a2, by rw [a2]; exact d2⟩)
      · by_cases a3 : t < U
        · exact Or.inr (Or.inr (Or.inl ⟨by omega, a3, d3 t (by omega) a3⟩))
        · by_cases a4 : t = U
          · exact Or.inr (Or.inr (Or.inr (Or.inl ⟨a4, by rw [a4]; exact d4⟩)))
          · exact Or.inr (Or.inr (Or.inr (Or.inr ⟨by omega, m3 t (by omega) ht⟩)))
  by_cases b1 : L < i ∧ k < U
  · exact d6 i k b1.1 i1 b1.2
  · by_cases b2 : U < i
    · exact s3 i k (by omega) i1 i3
    · have := cl i (by omega)
      have := cl k i3
      omega
end
