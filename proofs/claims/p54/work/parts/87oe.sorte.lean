/-! THE PURE SIDE, 61: the two pivots' division -/
def Vv (n : Nat) (X Y : Int32) (F : Nat → Int32) : Nat → Int32 := fup (fup F 0 X) (n - 1) Y
def Pt (N n : Nat) (X Y : Int32) (f0 : Nat → Int32) (L U K : Nat) (F : Nat → Int32) : Prop :=
  (L < U ∧ L ≤ K ∧ K ≤ U ∧ U ≤ n - 1 ∧ 1 ≤ K) ∧ Prm N f0 (Vv n X Y F) ∧ (∀ t, n ≤ t → F t = f0 t) ∧ (∀ t, 1 ≤ t → t ≤ L → (F t).toInt < X.toInt) ∧ (∀ t, K ≤ t → L < t → t < U → X.toInt ≤ (F t).toInt ∧ (F t).toInt ≤ Y.toInt) ∧ ∀ t, U ≤ t → t + 1 < n → Y.toInt ≤ (F t).toInt
section
variable {a N K n : Nat} {h0 h : mxH} {f F F' : Nat → Int32} {X Y : Int32}
theorem Vv_ne {t : Nat} (h1 : t ≠ 0) (h2 : t ≠ n - 1) : Vv n X Y F t = F t := by
  unfold Vv
  rw [fup_ne h2, fup_ne h1]
theorem Vv_same {t : Nat} (h : t ≠ 0 → t ≠ n - 1 → F' t = F t) : Vv n X Y F' t = Vv n X Y F t := by
  unfold Vv
  by_cases e : t = n - 1
  · rw [e, fup_eq, fup_eq]
  · rw [fup_ne e, fup_ne e]
    by_cases e2 : t = 0
    · rw [e2, fup_eq, fup_eq]
    · rw [fup_ne e2, fup_ne e2, h e2 e]
theorem Vv_swap {i k : Nat} (hn : n ≤ N) (i1 : 1 ≤ i) (i2 : i + 1 < n) (k1 : 1 ≤ k) (k2 : k + 1 < n) (e1 : F' i = F k) (e2 : F' k = F i) (h : ∀ j, j ≠ i → j ≠ k → F' j = F j) : Prm N (Vv n X Y F) (Vv n X Y F') :=
  Prm.swap (i := i) (k := k) (by omega) (by omega) (by rw [Vv_ne (by omega) (by omega), Vv_ne (by omega) (by omega), e1]) (by rw [Vv_ne (by omega) (by omega), Vv_ne (by omega) (by omega), e2]) (fun j _ a b => Vv_same (fun _ _ => h j a b))
theorem Vv_rot {i k m : Nat} (hn : n ≤ N) (i1 : 1 ≤ i) (i2 : i + 1 < n) (k1 : 1 ≤ k) (k2 : k + 1 < n) (m1 : 1 ≤ m) (m2 : m + 1 < n) (ik : i ≠ k) (im : i ≠ m) (km : k ≠ m) (e1 : F' i = F k) (e2 : F' k = F m) (e3 : F' m = F i) (h : ∀ j, j ≠ i → j ≠ k → j ≠ m → F' j = F j) : Prm N (Vv n X Y F) (Vv n X Y F') :=
  (Pm.rot (lo := 0) (hi := N) (Nat.le_refl _) (i := i) (k := k) (m := m) (by omega) (by omega) (by omega) (by omega) (by omega) (by omega) ik im km (by rw [Vv_ne (by omega) (by omega), Vv_ne (by omega) (by omega), e1]) (by rw [Vv_ne (by omega) (by omega), Vv_ne (by omega) (by omega), e2]) (by rw [Vv_ne (by omega) (by omega), Vv_ne (by omega) (by omega), e3]) (fun j a b c => Vv_same (fun _ _ => h j a b c))).1
variable {L U J : Nat}
theorem Pt.mid (P : Pt N n X Y f L U (J + 1) F) (q : L < J) (q1 : X.toInt ≤ (F J).toInt) (q2 : (F J).toInt ≤ Y.toInt) : Pt N n X Y f L U J F := by
  obtain ⟨⟨p1, p2, p3, p4, p5⟩, p6, p7, p8, p9, pA⟩ := P
  refine ⟨⟨p1, by omega, by omega, p4, by omega⟩, p6, p7, p8, fun t t1 t2 t3 => ?_, pA⟩
  by_cases e : t = J
  · rw [e]; exact ⟨q1, q2⟩
  · exact p9 t (by omega) t2 t3
theorem Pt.hi (P : Pt N n X Y f L U (J + 1) F) (hn : n ≤ N) (q : L < J) (q1 : Y.toInt < (F J).toInt) : Pt N n X Y f L (U - 1) J (fup (fup F J (F (U - 1))) (U - 1) (F J)) := by
  obtain ⟨⟨p1, p2, p3, p4, p5⟩, p6, p7, p8, p9, pA⟩ := P
  refine ⟨⟨by omega, by omega, by omega, by omega, by omega⟩, p6.trans (Vv_swap (i := J) (k := U - 1) hn (by omega) (by omega) (by omega) (by omega) ?_ (by rw [fup_eq]) (fun j a b => by rw [fup_ne b, fup_ne a])), fun t ht => by rw [fup_ne (by omega), fup_ne (by omega)]; exact p7 t ht, fun t t1 t2 => by rw [fup_ne (by omega), fup_ne (by omega)]; exact p8 t t1 t2, fun t t1 t2 t3 => ?_, fun t t1 t2 => ?_⟩
  · by_cases e : J = U - 1
    · rw [← e, fup_eq]
    · rw [fup_ne e, fup_eq]
  · rw [fup_ne (k := U - 1) (by omega)]
    by_cases e : t = J
    · rw [e, fup_eq]; exact p9 (U - 1) (by omega) (by omega) (by omega)
    · rw [fup_ne e]; exact p9 t (by omega) t2 (by omega)
  · by_cases e : t = U - 1
    · rw [e, fup_eq]; omega
    · rw [fup_ne e, fup_ne (by omega)]; exact pA t (by omega) t2
theorem Pt.lo0 (P : Pt N n X Y f L U (J + 1) F) (q : L < J) (q1 : ∀ t, L < t → t ≤ J → (F t).toInt < X.toInt) : Pt N n X Y f J U J F := by
  obtain ⟨⟨p1, p2, p3, p4, p5⟩, p6, p7, p8, p9, pA⟩ := P
  refine ⟨⟨by omega, by omega, by omega, p4, by omega⟩, p6, p7, fun t t1 t2 => ?_, fun t t1 t2 t3 => p9 t (by omega) (by omega) t3, pA⟩
  by_cases e : t ≤ L
  · exact p8 t t1 e
  · exact q1 t (by omega) t2
theorem Pt.lo1 {r : Nat} (P : Pt N n X Y f L U (J + 1) F) (hn : n ≤ N) (r1 : L < r) (r2 : r < J) (q0 : (F J).toInt < X.toInt) (q1 : ∀ t, L < t → t < r → (F t).toInt < X.toInt) (q2 : X.toInt ≤ (F r).toInt) (q3 : (F r).toInt ≤ Y.toInt) : Pt N n X Y f r U J (fup (fup F J (F r)) r (F J)) := by
  obtain ⟨⟨p1, p2, p3, p4, p5⟩, p6, p7, p8, p9, pA⟩ := P
  refine ⟨⟨by omega, by omega, by omega, by omega, by omega⟩, p6.trans (Vv_swap (i := J) (k := r) hn (by omega) (by omega) (by omega) (by omega) (by rw [fup_ne (by omega), fup_eq]) (by rw [fup_eq]) (fun j a b => by rw [fup_ne b, fup_ne a])), fun t ht => by rw [fup_ne (by omega), fup_ne (by omega)]; exact p7 t ht, fun t t1 t2 => ?_, fun t t1 t2 t3 => ?_, fun t t1 t2 => by rw [fup_ne (by omega), fup_ne (by omega)]; exact pA t t1 t2⟩
  · by_cases e : t = r
    · rw [e, fup_eq]; exact q0
    · rw [fup_ne e, fup_ne (by omega)]
      by_cases e : t ≤ L
      · exact p8 t t1 e
      · exact q1 t (by omega) (by omega)
  · rw [fup_ne (k := r) (by omega)]
    by_cases e : t = J
    · rw [e, fup_eq]; exact ⟨q2, q3⟩
    · rw [fup_ne e]; exact p9 t (by omega) (by omega) t3
theorem Pt.lo2 {r : Nat} (P : Pt N n X Y f L U (J + 1) F) (hn : n ≤ N) (r1 : L < r) (r2 : r < J) (q0 : (F J).toInt < X.toInt) (q1 : ∀ t, L < t → t < r → (F t).toInt < X.toInt) (q3 : Y.toInt < (F r).toInt) : Pt N n X Y f r (U - 1) J (fup (fup (fup F J (F (U - 1))) (U - 1) (F r)) r (F J)) := by
  obtain ⟨⟨p1, p2, p3, p4, p5⟩, p6, p7, p8, p9, pA⟩ := P
  refine ⟨⟨by omega, by omega, by omega, by omega, by omega⟩, p6.trans ?_, fun t ht => by rw [fup_ne (by omega), fup_ne (by omega), fup_ne (by omega)]; exact p7 t ht, fun t t1 t2 => ?_, fun t t1 t2 t3 => ?_, fun t t1 t2 => ?_⟩
  · by_cases e : U - 1 = J
    · exact Vv_swap (i := J) (k := r) hn (by omega) (by omega) (by omega) (by omega) (by rw [fup_ne (by omega), e, fup_eq]) (by rw [fup_eq]) (fun j a b => by rw [fup_ne b, fup_ne (by omega), fup_ne a])
    · exact Vv_rot (i := J) (k := U - 1) (m := r) hn (by omega) (by omega) (by omega) (by omega) (by omega) (by omega) (by omega) (by omega) (by omega) (by rw [fup_ne (by omega), fup_ne (by omega), fup_eq]) (by rw [fup_ne (by omega), fup_eq]) (by rw [fup_eq]) (fun j a b c => by rw [fup_ne c, fup_ne b, fup_ne a])
  · by_cases e : t = r
    · rw [e, fup_eq]; exact q0
    · rw [fup_ne e, fup_ne (by omega), fup_ne (by omega)]
      by_cases e : t ≤ L
      · exact p8 t t1 e
      · exact q1 t (by omega) (by omega)
  · rw [fup_ne (k := r) (by omega), fup_ne (k := U - 1) (by omega)]
    by_cases e : t = J
    · rw [e, fup_eq]; exact p9 (U - 1) (by omega) (by omega) (by omega)
    · rw [fup_ne e]; exact p9 t (by omega) (by omega) (by omega)
  · rw [fup_ne (k := r) (by omega)]
    by_cases e : t = U - 1
    · rw [e, fup_eq]; omega
    · rw [fup_ne e, fup_ne (by omega)]; exact pA t (by omega) t2
/-- the pivots are laid into their places -/
theorem Pt.last {J : Nat} (P : Pt N n X Y f L U J F) (hn : n ≤ N) (q : J ≤ L + 1) (xy : X.toInt ≤ Y.toInt) : Pm N 0 n f (fup (fup (fup (fup F 0 (F L)) L X) (n - 1) (fup (fup F 0 (F L)) L X U)) U Y) ∧
    ∃ f', f' = fup (fup (fup (fup F 0 (F L)) L X) (n - 1) (fup (fup F 0 (F L)) L X U)) U Y ∧ (∀ t, t < L → (f' t).toInt ≤ X.toInt) ∧ f' L = X ∧ (∀ t, L < t → t < U → X.toInt ≤ (f' t).toInt ∧ (f' t).toInt ≤ Y.toInt) ∧ f' U = Y ∧ ∀ t, U < t → t < n → Y.toInt ≤ (f' t).toInt := by
  obtain ⟨⟨p1, p2, p3, p4, p5⟩, p6, p7, p8, p9, pA⟩ := P
  have eU : fup (fup F 0 (F L)) L X U = F U := by rw [fup_ne (by omega), fup_ne (by omega)]
  rw [eU]
  refine ⟨⟨?_, fun t ht => by rw [fup_ne (by omega), fup_ne (by omega), fup_ne (by omega), fup_ne (by omega)]; exact p7 t (by omega)⟩, _, rfl, fun t ht => ?_, ?_, fun t t1 t2 => ?_, fup_eq _ _ _, fun t t1 t2 => ?_⟩
  · have s1 : Prm N (Vv n X Y F) (fup (fup (fup F 0 (F L)) L X) (n - 1) Y) := by
      unfold Vv
      refine Prm.swap (i := 0) (k := L) (by omega) (by omega) ?_ ?_ (fun j _ a b => ?_)
      · rw [fup_ne (k := n - 1) (by omega), fup_ne (k := n - 1) (j := L) (by omega)]
        by_cases e : L = 0
        · rw [e, fup_eq, fup_eq]
        · rw [fup_ne (k := L) (by omega), fup_eq, fup_ne e]
      · rw [fup_ne (k := n - 1) (by omega), fup_eq, fup_ne (k := n - 1) (by omega), fup_eq]
      · by_cases e : j = n - 1
        · rw [e, fup_eq, fup_eq]
        · rw [fup_ne e, fup_ne b, fup_ne a, fup_ne e, fup_ne a]
    refine (p6.trans s1).trans (Prm.swap (i := n - 1) (k := U) (by omega) (by omega) ?_ ?_ (fun j _ a b => ?_))
    · by_cases e : U = n - 1
      · rw [← e, fup_eq, fup_eq]
      · rw [fup_ne (by omega), fup_eq, fup_ne e, fup_ne (by omega), fup_ne (by omega)]
    · rw [fup_eq, fup_eq]
    · rw [fup_ne b, fup_ne a, fup_ne a]
  · rw [fup_ne (by omega), fup_ne (by omega), fup_ne (by omega)]
    by_cases e : t = 0
    · rw [e, fup_eq]; have := p8 L (by omega) (Nat.le_refl _); omega
    · rw [fup_ne e]; have := p8 t (by omega) (by omega); omega
  · rw [fup_ne (by omega), fup_ne (by omega), fup_eq]
  · rw [fup_ne (by omega), fup_ne (by omega), fup_ne (by omega), fup_ne (by omega)]; exact p9 t (by omega) t1 t2
  · rw [fup_ne (k := U) (by omega)]
    by_cases e : t = n - 1
    · rw [e, fup_eq]; exact pA U (Nat.le_refl _) (by omega)
    · rw [fup_ne e, fup_ne (by omega), fup_ne (by omega)]; exact pA t (by omega) (by omega)
end
