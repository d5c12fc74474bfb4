/-! THE PURE SIDE, 60: one turn of the sort -/
theorem ofN_sub {a b : Nat} (h : b ≤ a) : Int32.ofNat a - Int32.ofNat b = Int32.ofNat (a - b) := (Int32.ofNat_sub a b h).symm
theorem Pm.rot {N lo hi i k m : Nat} {f g : Nat → Int32} (hN : hi ≤ N) (i1 : lo ≤ i) (i2 : i < hi) (k1 : lo ≤ k) (k2 : k < hi) (m1 : lo ≤ m) (m2 : m < hi) (ik : i ≠ k) (im : i ≠ m) (km : k ≠ m) (e1 : g i = f k) (e2 : g k = f m) (e3 : g m = f i) (h : ∀ j, j ≠ i → j ≠ k → j ≠ m → g j = f j) : Pm N lo hi f g := by
  have s1 : Pm N lo hi f (fup (fup f i (f k)) k (f i)) := Pm.swap hN i1 i2 k1 k2 (by rw [fup_ne ik, fup_eq]) (by rw [fup_eq]) (fun j a b => by rw [fup_ne b, fup_ne a])
  refine s1.trans (Pm.swap hN k1 k2 m1 m2 (by rw [e2, fup_ne (Ne.symm km), fup_ne (Ne.symm im)]) (by rw [e3, fup_eq]) (fun j a b => ?_))
  by_cases z : j = i
  · rw [z, fup_ne ik, fup_eq, e1]
  · rw [fup_ne a, fup_ne z, h j z a b]
section
variable {a N K : Nat} {h0 h : mxH} {f F : Nat → Int32}
theorem l_sort_l {lo hi j : Nat} {p2 : Int32} (S : St a N K h0 h f) (hN : hi ≤ N) (G : Gd lo hi f) (l : lo ≤ hi) (hj : j < 20) (ep : p2 = (Int32.ofNat (6 * j) + 6) ||| 1) : Ok (fX12_sort_l a p2 (Int32.ofNat lo) (Int32.ofNat hi) h) (fun g => ∃ f', St a N K h0 g f' ∧ Pm N lo hi f f' ∧ Sg lo hi f') := by
  have n60 := S.n
  have e1 : 65 + p2 = Int32.ofNat (72 + 6 * j) := by rw [ep]; exact (show ∀ j, j < 20 → 65 + ((Int32.ofNat (6 * j) + 6) ||| 1) = Int32.ofNat (72 + 6 * j) by decide +kernel) j hj
  have e2 : ¬ (p2 &&& 1) ≤ 0 := by rw [ep]; exact (show ∀ j, j < 20 → ¬ (((Int32.ofNat (6 * j) + 6) ||| 1) &&& 1) ≤ 0 by decide +kernel) j hj
  have e3 := (show ∀ d, d < 61 → 3 * ((Int32.ofNat d >>> ((5 : Int32) &&& 31)) <<< ((3 : Int32) &&& 31)) = Int32.ofNat (24 * (d / 32)) by decide +kernel) (hi - lo) (by omega)
  unfold fX12_sort_l
  rw [e1, ofN_sub l, if_neg (nle (by omega) (by omega)), if_neg e2, e3, ofN_sub (by omega)]
  exact Ok_b (l_mixed (j := 12 * ((hi - lo) / 32)) S hN G (by omega) (by omega) (by omega)) (fun g H => Ok_p H)
/-- two are laid in order: y's not over x's -/
theorem cs {β : Type} {x y : Nat} {rest : mxH → Option β} {Q : β → Prop} (S : St a N K h0 h F) (hx : x < N) (hy : y < N) (ne : x ≠ y)
    (kk : ∀ g F', St a N K h0 g F' → Prm N F F' → (∀ t, t ≠ x → t ≠ y → F' t = F t) → ((F' x).toInt = (F x).toInt ∧ (F' y).toInt = (F y).toInt ∨ (F' x).toInt = (F y).toInt ∧ (F' y).toInt = (F x).toInt) → (F' y).toInt ≤ (F' x).toInt → Ok (rest g) Q) :
    Ok (Option.bind (ldI h a (Int32.ofNat x)) (fun v => Option.bind (ldI h a (Int32.ofNat y)) (fun w => Option.bind (α := mxH) (if w ≤ v then some h else Option.bind (ldI h a (Int32.ofNat x)) (fun v' => Option.bind (ldI h a (Int32.ofNat y)) (fun w' => Option.bind (stI h a (Int32.ofNat x) w') (fun h1 => Option.bind (stI h1 a (Int32.ofNat y) v') (fun h2 => some h2))))) rest))) Q := by
  rw [S.ld hx, bN, S.ld hy, bN]
  by_cases q : (F y).toInt ≤ (F x).toInt
  · rw [if_pos (tl.mpr q), bN]
    exact kk h F S (Prm.refl _ _) (fun _ _ _ => rfl) (Or.inl ⟨rfl, rfl⟩) q
  · obtain ⟨w1, S1⟩ := S.st (k := x) (x := F y) hx
    obtain ⟨w2, S2⟩ := S1.st (k := y) (x := F x) hy
    rw [if_neg (tg (by omega)), bN, bN, w1, bN, w2, bN, bN]
    refine kk _ _ S2 (Prm.swap (i := x) (k := y) hx hy (by rw [fup_ne ne, fup_eq]) (by rw [fup_eq]) (fun j _ a b => by rw [fup_ne b, fup_ne a])) (fun t a b => by rw [fup_ne b, fup_ne a]) (Or.inr ⟨by rw [fup_ne ne, fup_eq], by rw [fup_eq]⟩) ?_
    rw [fup_eq, fup_ne ne, fup_eq]; omega
/-- what a turn leaves: from L on all is in its place -/
def Dn (N n : Nat) (F f' : Nat → Int32) (L : Nat) : Prop := L + 2 ≤ n ∧ Pm N 0 n F f' ∧ ∀ i j, i < j → L ≤ j → j < n → (f' i).toInt ≤ (f' j).toInt
def En (n e1 e2 e3 e4 e5 : Nat) : Prop := 0 < e1 ∧ e1 < e2 ∧ e2 < e3 ∧ e3 < e4 ∧ e4 < e5 ∧ e5 + 1 < n
variable {n e1 e2 e3 e4 e5 : Nat} {b : Int32} {Q : Ptn → Prop}
theorem ptnC_ok (S : St a N K h0 h F) (hn : n ≤ N) (o : En n e1 e2 e3 e4 e5) (q1 : (F e1).toInt < (F e2).toInt) (q2 : (F e2).toInt < (F e3).toInt) (q3 : (F e3).toInt < (F e4).toInt) (q4 : (F e4).toInt < (F e5).toInt)
    (kk : Ok (ptnD a b (Int32.ofNat n) (Int32.ofNat (n - 1)) (Int32.ofNat e1) (Int32.ofNat e2) (Int32.ofNat e3) (Int32.ofNat e4) (Int32.ofNat e5) h) Q) :
    Ok (ptnC a b (Int32.ofNat n) (Int32.ofNat (n - 1)) (Int32.ofNat e1) (Int32.ofNat e2) (Int32.ofNat e3) (Int32.ofNat e4) (Int32.ofNat e5) h) Q := by
  obtain ⟨o1, o2, o3, o4, o5, o6⟩ := o
  unfold ptnC
  simp only [S.ld (show e1 < N by omega), S.ld (show e2 < N by omega), S.ld (show e3 < N by omega), S.ld (show e4 < N by omega), S.ld (show e5 < N by omega), bN, if_neg (tg q1), if_neg (tg q2), if_neg (tg q3), if_neg (tg q4)]
  exact kk
theorem ptnI_ok (S : St a N K h0 h F) (hn : n ≤ N) (o : En n e1 e2 e3 e4 e5) (q1 : (F e1).toInt ≤ (F e2).toInt) (q2 : (F e2).toInt ≤ (F e4).toInt) (q3 : (F e4).toInt ≤ (F e5).toInt)
    (kk : ∀ g F', St a N K h0 g F' → Pm N 0 n F F' → (F' e1).toInt ≤ (F' e2).toInt → (F' e2).toInt ≤ (F' e3).toInt → (F' e3).toInt ≤ (F' e4).toInt → (F' e4).toInt ≤ (F' e5).toInt → Ok (ptnC a b (Int32.ofNat n) (Int32.ofNat (n - 1)) (Int32.ofNat e1) (Int32.ofNat e2) (Int32.ofNat e3) (Int32.ofNat e4) (Int32.ofNat e5) g) Q) :
    Ok (ptnI a b (Int32.ofNat n) (Int32.ofNat (n - 1)) (Int32.ofNat e1) (Int32.ofNat e2) (Int32.ofNat e3) (Int32.ofNat e4) (Int32.ofNat e5) (F e3) h) Q := by
  obtain ⟨o1, o2, o3, o4, o5, o6⟩ := o
  unfold ptnI
  rw [S.ld (show e2 < N by omega), bN]
  by_cases c2 : (F e2).toInt ≤ (F e3).toInt
  · rw [if_pos (tl.mpr c2), S.ld (show e4 < N by omega), bN]
    by_cases c4 : (F e3).toInt ≤ (F e4).toInt
    · rw [if_pos (tl.mpr c4), bN]
      exact kk h F S (Pm.refl _ _ _ _) q1 c2 c4 q3
    · rw [if_neg (tg (by omega)), S.ld (show e5 < N by omega), bN]
      obtain ⟨w1, S1⟩ := S.st (k := e3) (x := F e4) (by omega)
      by_cases c5 : (F e3).toInt ≤ (F e5).toInt
      · obtain ⟨w2, S2⟩ := S1.st (k := e4) (x := F e3) (by omega)
        rw [if_pos (tl.mpr c5), bN, w1, bN, w2, bN, bN]
        refine kk _ _ S2 (Pm.swap hn (i := e3) (k := e4) (by omega) (by omega) (by omega) (by omega) (by rw [fup_ne (by omega), fup_eq]) (by rw [fup_eq]) (fun j a b => by rw [fup_ne b, fup_ne a])) ?_ ?_ ?_ ?_
        · rw [fup_ne (by omega), fup_ne (by omega), fup_ne (by omega), fup_ne (by omega)]; exact q1
        · rw [fup_ne (by omega), fup_ne (by omega), fup_ne (k := e4) (by omega), fup_eq]; exact q2
        · rw [fup_ne (k := e4) (by omega), fup_eq, fup_eq]; omega
        · rw [fup_eq, fup_ne (by omega), fup_ne (by omega)]; exact c5
      · obtain ⟨w2, S2⟩ := S1.st (k := e4) (x := F e5) (by omega)
        obtain ⟨w3, S3⟩ := S2.st (k := e5) (x := F e3) (by omega)
        have l5 : ldI (sA h a e3 (F e4)) a (Int32.ofNat e5) = some (F e5) := (S1.ld (by omega)).trans (by rw [fup_ne (by omega)])
        rw [if_neg (tg (by omega)), bN, w1, bN, l5, bN, w2, bN, w3, bN, bN]
        refine kk _ _ S3 (Pm.rot hn (i := e3) (k := e4) (m := e5) (by omega) (by omega) (by omega) (by omega) (by omega) (by omega) (by omega) (by omega) (by omega) (by rw [fup_ne (by omega), fup_ne (by omega), fup_eq]) (by rw [fup_ne (by omega), fup_eq]) (by rw [fup_eq]) (fun j a b c => by rw [fup_ne c, fup_ne b, fup_ne a])) ?_ ?_ ?_ ?_
        · rw [fup_ne (by omega), fup_ne (by omega), fup_ne (by omega), fup_ne (by omega), fup_ne (by omega), fup_ne (by omega)]; exact q1
        · rw [fup_ne (by omega), fup_ne (by omega), fup_ne (by omega), fup_ne (k := e5) (by omega), fup_ne (k := e4) (by omega), fup_eq]; exact q2
        · rw [fup_ne (k := e5) (by omega), fup_ne (k := e4) (by omega), fup_eq, fup_ne (k := e5) (by omega), fup_eq]; exact q3
        · rw [fup_ne (k := e5) (by omega), fup_eq, fup_eq]; omega
  · rw [if_neg (tg (by omega)), S.ld (show e1 < N by omega), bN]
    obtain ⟨w1, S1⟩ := S.st (k := e3) (x := F e2) (by omega)
    by_cases c1 : (F e1).toInt ≤ (F e3).toInt
    · obtain ⟨w2, S2⟩ := S1.st (k := e2) (x := F e3) (by omega)
      rw [if_pos (tl.mpr c1), bN, w1, bN, w2, bN, bN]
      refine kk _ _ S2 (Pm.swap hn (i := e3) (k := e2) (by omega) (by omega) (by omega) (by omega) (by rw [fup_ne (by omega), fup_eq]) (by rw [fup_eq]) (fun j a b => by rw [fup_ne b, fup_ne a])) ?_ ?_ ?_ ?_
      · rw [fup_eq, fup_ne (by omega), fup_ne (by omega)]; exact c1
      · rw [fup_eq, fup_ne (k := e2) (by omega), fup_eq]; omega
      · rw [fup_ne (k := e2) (by omega), fup_eq, fup_ne (by omega), fup_ne (by omega)]; exact q2
      · rw [fup_ne (by omega), fup_ne (by omega), fup_ne (by omega), fup_ne (by omega)]; exact q3
    · obtain ⟨w2, S2⟩ := S1.st (k := e2) (x := F e1) (by omega)
      obtain ⟨w3, S3⟩ := S2.st (k := e1) (x := F e3) (by omega)
      have l1 : ldI (sA h a e3 (F e2)) a (Int32.ofNat e1) = some (F e1) := (S1.ld (by omega)).trans (by rw [fup_ne (by omega)])
      rw [if_neg (tg (by omega)), bN, w1, bN, l1, bN, w2, bN, w3, bN, bN]
      refine kk _ _ S3 (Pm.rot hn (i := e3) (k := e2) (m := e1) (by omega) (by omega) (by omega) (by omega) (by omega) (by omega) (by omega) (by omega) (by omega) (by rw [fup_ne (by omega), fup_ne (by omega), fup_eq]) (by rw [fup_ne (by omega), fup_eq]) (by rw [fup_eq]) (fun j a b c => by rw [fup_ne c, fup_ne b, fup_ne a])) ?_ ?_ ?_ ?_
      · rw [fup_eq, fup_ne (k := e1) (by omega), fup_eq]; omega
      · rw [fup_ne (k := e1) (by omega), fup_eq, fup_ne (k := e1) (by omega), fup_ne (k := e2) (by omega), fup_eq]; exact q1
      · rw [fup_ne (k := e1) (by omega), fup_ne (k := e2) (by omega), fup_eq, fup_ne (by omega), fup_ne (by omega), fup_ne (by omega)]; exact q2
      · rw [fup_ne (by omega), fup_ne (by omega), fup_ne (by omega), fup_ne (by omega), fup_ne (by omega), fup_ne (by omega)]; exact q3
theorem ptnB_ok (S : St a N K h0 h F) (hn : n ≤ N) (o : En n e1 e2 e3 e4 e5)
    (kk : ∀ g F', St a N K h0 g F' → Pm N 0 n F F' → (F' e1).toInt ≤ (F' e2).toInt → (F' e2).toInt ≤ (F' e3).toInt → (F' e3).toInt ≤ (F' e4).toInt → (F' e4).toInt ≤ (F' e5).toInt → Ok (ptnC a b (Int32.ofNat n) (Int32.ofNat (n - 1)) (Int32.ofNat e1) (Int32.ofNat e2) (Int32.ofNat e3) (Int32.ofNat e4) (Int32.ofNat e5) g) Q) :
    Ok (ptnB a b (Int32.ofNat n) (Int32.ofNat (n - 1)) (Int32.ofNat e1) (Int32.ofNat e2) (Int32.ofNat e3) (Int32.ofNat e4) (Int32.ofNat e5) h) Q := by
  have o' := o
  obtain ⟨o1, o2, o3, o4, o5, o6⟩ := o'
  unfold ptnB
  rw [S.ld (show e3 < N by omega), bN]
  refine cs (x := e5) (y := e2) S (by omega) (by omega) (by omega) (fun g1 F1 S1 P1 u1 d1 t1 => ?_)
  refine cs (x := e4) (y := e1) S1 (by omega) (by omega) (by omega) (fun g2 F2 S2 P2 u2 d2 t2 => ?_)
  have v21 := congrArg Int32.toInt (u2 e2 (by omega) (by omega))
  have v22 := congrArg Int32.toInt (u2 e5 (by omega) (by omega))
  have k1 : (F2 e2).toInt ≤ (F2 e5).toInt := by omega
  refine cs (x := e5) (y := e4) S2 (by omega) (by omega) (by omega) (fun g3 F3 S3 P3 u3 d3 t3 => ?_)
  have v31 := congrArg Int32.toInt (u3 e2 (by omega) (by omega))
  have v32 := congrArg Int32.toInt (u3 e1 (by omega) (by omega))
  have k2 : (F3 e1).toInt ≤ (F3 e4).toInt ∨ (F3 e2).toInt ≤ (F3 e4).toInt := by omega
  have k3 : (F3 e1).toInt ≤ (F3 e5).toInt := by omega
  have k4 : (F3 e2).toInt ≤ (F3 e5).toInt := by omega
  refine cs (x := e2) (y := e1) S3 (by omega) (by omega) (by omega) (fun g4 F4 S4 P4 u4 d4 t4 => ?_)
  have v41 := congrArg Int32.toInt (u4 e4 (by omega) (by omega))
  have v42 := congrArg Int32.toInt (u4 e5 (by omega) (by omega))
  clear d1 d2 d3 t1 t2 v21 v22 v31 v32 k1
  have k5 : (F4 e1).toInt ≤ (F4 e4).toInt := by omega
  have k6 : (F4 e2).toInt ≤ (F4 e5).toInt := by omega
  have k7 : (F4 e4).toInt ≤ (F4 e5).toInt := by omega
  refine cs (x := e4) (y := e2) S4 (by omega) (by omega) (by omega) (fun g5 F5 S5 P5 u5 d5 t5 => ?_)
  have v51 := congrArg Int32.toInt (u5 e1 (by omega) (by omega))
  have v52 := congrArg Int32.toInt (u5 e5 (by omega) (by omega))
  clear d4 k2 k3 k4 v41 v42 t3
  have e3' : F5 e3 = F e3 := by rw [u5 e3 (by omega) (by omega), u4 e3 (by omega) (by omega), u3 e3 (by omega) (by omega), u2 e3 (by omega) (by omega), u1 e3 (by omega) (by omega)]
  have P : Pm N 0 n F F5 := ⟨(((P1.trans P2).trans P3).trans P4).trans P5, fun t ht => by rw [u5 t (by omega) (by omega), u4 t (by omega) (by omega), u3 t (by omega) (by omega), u2 t (by omega) (by omega), u1 t (by omega) (by omega)]⟩
  rw [← e3']
  exact ptnI_ok S5 hn o (by omega) (by omega) (by omega) (fun g F' S' P' => kk g F' S' (P.trans P'))
end
