/-! THE PURE SIDE, 63: the rest of the runs, as the function has it -/
def rTail (a : Nat) (n r29 : Int32) (r52 : mxH) : Option (Int32 × mxH) := (if r29 = ((0 : Int32) + n) then Option.bind (mxZ1 1) (fun v176 => some (v176, r52)) else (if 16 ≤ (r29 - (0 : Int32)) then Option.bind (nwV r52 (((n >>> ((10 : Int32) &&& 31)) ||| 127) &&& 1023) 127) (fun h55 => Option.bind (stI h55 r52.2 0 (0 : Int32)) (fun h57 => Option.bind (stI h57 r52.2 1 r29) (fun h59 => Option.bind (mxLoop (ρ := (mxH ⊕ (mxH ⊕ (mxH ⊕ ((Int32 × mxH) ⊕ mxH))))) (fun s61 : (Nat × Int32 × Int32 × mxH) => (if ((0 : Int32) + n) ≤ s61.2.2.1 then some (Sum.inr (Sum.inr (Sum.inr (Sum.inr (Sum.inr s61.2.2.2))))) else Option.bind (ldI s61.2.2.2 a (s61.2.2.1 - 1)) (fun v74 => Option.bind (ldI s61.2.2.2 a s61.2.2.1) (fun v76 => (if v76 ≤ v74 then Option.bind (ldI s61.2.2.2 a (s61.2.2.1 - 1)) (fun v79 => Option.bind (ldI s61.2.2.2 a s61.2.2.1) (fun v81 => (if v79 ≤ v81 then some (Sum.inr (Sum.inl s61.2.2.2)) else Option.bind (mxLoop (ρ := Int32) (fun s84 : Int32 => (if ((0 : Int32) + n) ≤ (s84 + 1) then some (Sum.inr (s84 + 1)) else Option.bind (ldI s61.2.2.2 a ((s84 + 1) - 1)) (fun v93 => Option.bind (ldI s61.2.2.2 a (s84 + 1)) (fun v95 => (if v93 < v95 then some (Sum.inr (s84 + 1)) else some (Sum.inl (s84 + 1))))))) mxF s61.2.2.1) (fun r98 : Int32 => Option.bind (mxLoop (ρ := mxH) (fun s99 : (Int32 × Int32 × mxH) => (if (s99.2.1 - 1) ≤ (s99.1 + 1) then some (Sum.inr s99.2.2) else Option.bind (ldI s99.2.2 a (s99.1 + 1)) (fun v108 => Option.bind (ldI s99.2.2 a (s99.2.1 - 1)) (fun v110 => (if v108 ≤ v110 then some (Sum.inr s99.2.2) else Option.bind (ldI s99.2.2 a (s99.1 + 1)) (fun v113 => Option.bind (ldI s99.2.2 a (s99.2.1 - 1)) (fun v115 => Option.bind (stI s99.2.2 a (s99.1 + 1) v115) (fun h117 => Option.bind (stI h117 a (s99.2.1 - 1) v113) (fun h119 => some (Sum.inl (s99.1 + 1, s99.2.1 - 1, h119))))))))))) mxF (s61.2.1 - 1, r98, s61.2.2.2)) (fun r121 : mxH => Option.bind (ldI r121 a (s61.2.1 - 1)) (fun v122 => Option.bind (ldI r121 a s61.2.1) (fun v124 => (if v122 ≤ v124 then Option.bind (stI r121 s61.1 1 r98) (fun h127 => some (Sum.inl (s61.1, r98, r98, h127))) else some (Sum.inr (Sum.inr (Sum.inr (Sum.inr (Sum.inl (r98, r121)))))))))))))) else Option.bind (mxLoop (ρ := Int32) (fun s131 : Int32 => (if ((0 : Int32) + n) ≤ (s131 + 1) then some (Sum.inr (s131 + 1)) else Option.bind (ldI s61.2.2.2 a ((s131 + 1) - 1)) (fun v140 => Option.bind (ldI s61.2.2.2 a (s131 + 1)) (fun v142 => (if v142 < v140 then some (Sum.inr (s131 + 1)) else some (Sum.inl (s131 + 1))))))) mxF s61.2.2.1) (fun r145 : Int32 => Option.bind (ldI s61.2.2.2 a (s61.2.1 - 1)) (fun v146 => Option.bind (ldI s61.2.2.2 a s61.2.1) (fun v148 => (if v146 ≤ v148 then Option.bind (stI s61.2.2.2 s61.1 1 r145) (fun h151 => some (Sum.inl (s61.1, r145, r145, h151))) else some (Sum.inr (Sum.inr (Sum.inr (Sum.inr (Sum.inl (r145, s61.2.2.2))))))))))))))) mxF (r52.2, r29, r29, h59)) (Sum.elim (fun r154 : mxH => none) (Sum.elim (fun r156 : mxH => Option.bind (mxZ1 1) (fun v157 => some (v157, r156))) (Sum.elim (fun r160 : mxH => Option.bind (mxZ1 0) (fun v161 => some (v161, r160))) (Sum.elim (fun r164 : (Int32 × mxH) => (if (1 : Int32) ≤ ((r164.1 - (0 : Int32)) >>> ((7 : Int32) &&& 31)) then none else Option.bind (mxZ1 0) (fun v166 => some (v166, r164.2)))) (fun r169 : mxH => (if (1 : Int32) ≤ 1 then Option.bind (mxZ1 1) (fun v171 => some (v171, r169)) else none))))))))) else Option.bind (mxZ1 0) (fun v174 => some (v174, r52))))
section
variable {a N K : Nat} {h0 h : mxH} {f F : Nat → Int32}
theorem zr : (0 : Int32) + Int32.ofNat N = Int32.ofNat N := by
  show Int32.ofNat 0 + Int32.ofNat N = _
  rw [ofN_add, Nat.zero_add]
theorem sb0 : Int32.ofNat N - (0 : Int32) = Int32.ofNat N := ofN_sub (Nat.zero_le _)
/-- how far it rises -/
theorem p_up {k : Nat} (S : St a N K h0 h f) (k1 : 1 ≤ k) (k2 : k < N) : Ok (mxLoop (ρ := Int32) (fun s180 : Int32 => (if Int32.ofNat N ≤ (s180 + 1) then some (Sum.inr (s180 + 1)) else Option.bind (ldI h a ((s180 + 1) - 1)) (fun v189 => Option.bind (ldI h a (s180 + 1)) (fun v191 => (if v191 < v189 then some (Sum.inr (s180 + 1)) else some (Sum.inl (s180 + 1))))))) mxF (Int32.ofNat k)) (fun r => ∃ r1, r = Int32.ofNat r1 ∧ k < r1 ∧ r1 ≤ N ∧ ∀ t, k < t → t < r1 → (f (t - 1)).toInt ≤ (f t).toInt) := by
  have n60 := S.n
  refine Ok_loopE (fun m s => s = Int32.ofNat (k + m) ∧ k + m < N ∧ ∀ t, k < t → t ≤ k + m → (f (t - 1)).toInt ≤ (f t).toInt) N ⟨rfl, k2, fun t t1 t2 => by omega⟩ ?_ (by unfold mxF; omega)
  rintro m s hm ⟨rfl, m1, m2⟩
  by_cases z : N ≤ k + m + 1
  · rw [ofN_succ, if_pos ((ofN_le (by omega) (by omega)).mpr z)]
    exact Ok_p (Or.inr ⟨_, rfl, k + m + 1, rfl, by omega, by omega, fun t t1 t2 => m2 t t1 (by omega)⟩)
  · simp only [ofN_succ, if_neg (nle (show k + m + 1 < N by omega) (by omega)), ofN_pred (show 1 ≤ k + m + 1 by omega) (by omega), S.ld (show k + m + 1 - 1 < N by omega), S.ld (show k + m + 1 < N by omega), bN]
    by_cases y : (f (k + m + 1)).toInt < (f (k + m + 1 - 1)).toInt
    · rw [if_pos (tt.mpr y)]
      exact Ok_p (Or.inr ⟨_, rfl, k + m + 1, rfl, by omega, by omega, fun t t1 t2 => m2 t t1 (by omega)⟩)
    · rw [if_neg (tn (by omega))]
      refine Ok_p (Or.inl ⟨_, rfl, by omega, rfl, by omega, fun t t1 t2 => ?_⟩)
      by_cases e : t = k + m + 1
      · rw [e]; omega
      · exact m2 t t1 (by omega)
/-- how far it falls -/
theorem p_dn {k : Nat} (S : St a N K h0 h f) (k1 : 1 ≤ k) (k2 : k < N) : Ok (mxLoop (ρ := Int32) (fun s180 : Int32 => (if Int32.ofNat N ≤ (s180 + 1) then some (Sum.inr (s180 + 1)) else Option.bind (ldI h a ((s180 + 1) - 1)) (fun v189 => Option.bind (ldI h a (s180 + 1)) (fun v191 => (if v189 < v191 then some (Sum.inr (s180 + 1)) else some (Sum.inl (s180 + 1))))))) mxF (Int32.ofNat k)) (fun r => ∃ r1, r = Int32.ofNat r1 ∧ k < r1 ∧ r1 ≤ N ∧ ∀ t, k < t → t < r1 → (f t).toInt ≤ (f (t - 1)).toInt) := by
  have n60 := S.n
  refine Ok_loopE (fun m s => s = Int32.ofNat (k + m) ∧ k + m < N ∧ ∀ t, k < t → t ≤ k + m → (f t).toInt ≤ (f (t - 1)).toInt) N ⟨rfl, k2, fun t t1 t2 => by omega⟩ ?_ (by unfold mxF; omega)
  rintro m s hm ⟨rfl, m1, m2⟩
  by_cases z : N ≤ k + m + 1
  · rw [ofN_succ, if_pos ((ofN_le (by omega) (by omega)).mpr z)]
    exact Ok_p (Or.inr ⟨_, rfl, k + m + 1, rfl, by omega, by omega, fun t t1 t2 => m2 t t1 (by omega)⟩)
  · simp only [ofN_succ, if_neg (nle (show k + m + 1 < N by omega) (by omega)), ofN_pred (show 1 ≤ k + m + 1 by omega) (by omega), S.ld (show k + m + 1 - 1 < N by omega), S.ld (show k + m + 1 < N by omega), bN]
    by_cases y : (f (k + m + 1 - 1)).toInt < (f (k + m + 1)).toInt
    · rw [if_pos (tt.mpr y)]
      exact Ok_p (Or.inr ⟨_, rfl, k + m + 1, rfl, by omega, by omega, fun t t1 t2 => m2 t t1 (by omega)⟩)
    · rw [if_neg (tn (by omega))]
      refine Ok_p (Or.inl ⟨_, rfl, by omega, rfl, by omega, fun t t1 t2 => ?_⟩)
      by_cases e : t = k + m + 1
      · rw [e]; omega
      · exact m2 t t1 (by omega)
/-- different numbers -/
def Di (N : Nat) (f : Nat → Int32) : Prop := ∀ i k, i < N → k < N → f i = f k → i = k
theorem Di.ne (d : Di N f) {i k : Nat} (hi : i < N) (hk : k < N) (e : i ≠ k) : (f i).toInt ≠ (f k).toInt := fun q => e (d i k hi hk (Int32.toInt_inj.mp q))
theorem Di.desc (d : Di N f) {s e : Nat} (he : e ≤ N) (q : ∀ t, s < t → t < e → (f t).toInt ≤ (f (t - 1)).toInt) : ∀ x y, s ≤ x → x < y → y < e → (f y).toInt < (f x).toInt := fun x y => by
  intro h1 h2 h3
  induction y with
  | zero => omega
  | succ y ih =>
    have q1 := q (y + 1) (by omega) h3
    have q2 := d.ne (i := y + 1) (k := y) (by omega) (by omega) (by omega)
    rw [Nat.add_sub_cancel] at q1
    by_cases e : x = y
    · rw [e]; omega
    · have := ih (by omega) (by omega); omega
theorem Sg.ups {s e : Nat} (q : ∀ t, s < t → t < e → (f (t - 1)).toInt ≤ (f t).toInt) : Sg s e f := fun x y => by
  intro h1 h2 h3
  induction y with
  | zero => omega
  | succ y ih =>
    have q1 := q (y + 1) (by omega) h3
    rw [Nat.add_sub_cancel] at q1
    by_cases e : x = y
    · rw [e]; omega
    · have := ih (by omega) (by omega); omega
theorem Sg.join {m e : Nat} (a : Sg 0 m f) (b : Sg m e f) (m1 : 1 ≤ m) (m2 : m < e) (q : (f (m - 1)).toInt ≤ (f m).toInt) : Sg 0 e f := fun x y h1 h2 h3 => by
  by_cases c : y < m
  · exact a x y h1 h2 c
  · by_cases c2 : m ≤ x
    · exact b x y c2 h2 h3
    · have z1 : (f x).toInt ≤ (f (m - 1)).toInt := by
        by_cases e : x = m - 1
        · rw [e]; omega
        · exact a x (m - 1) h1 (by omega) (by omega)
      have z2 : (f m).toInt ≤ (f y).toInt := by
        by_cases e : y = m
        · rw [e]; omega
        · exact b m y (Nat.le_refl _) (by omega) h3
      omega
/-- what falls is turned round -/
theorem p_rev {s e : Nat} (S : St a N K h0 h f) (se : s < e) (eN : e ≤ N) (D : ∀ x y, s ≤ x → x < y → y < e → (f y).toInt < (f x).toInt) {W : mxH → Prop} (w0 : W h) (ws : ∀ g k x, W g → W (sA g a k x)) : Ok (mxLoop (ρ := mxH) (fun s241 : (Int32 × Int32 × mxH) => (if (s241.2.1 - 1) ≤ (s241.1 + 1) then some (Sum.inr s241.2.2) else Option.bind (ldI s241.2.2 a (s241.1 + 1)) (fun v250 => Option.bind (ldI s241.2.2 a (s241.2.1 - 1)) (fun v252 => (if v250 ≤ v252 then some (Sum.inr s241.2.2) else Option.bind (ldI s241.2.2 a (s241.1 + 1)) (fun v255 => Option.bind (ldI s241.2.2 a (s241.2.1 - 1)) (fun v257 => Option.bind (stI s241.2.2 a (s241.1 + 1) v257) (fun h259 => Option.bind (stI h259 a (s241.2.1 - 1) v255) (fun h261 => some (Sum.inl (s241.1 + 1, s241.2.1 - 1, h261))))))))))) mxF (Int32.ofNat s - 1, Int32.ofNat e, h)) (fun g => ∃ f', St a N K h0 g f' ∧ Pm N s e f f' ∧ Sg s e f' ∧ W g) := by
  have n60 := S.n
  refine Ok_loopE (fun m x => 2 * m ≤ e - s ∧ x.1 = Int32.ofNat (s + m) - 1 ∧ x.2.1 = Int32.ofNat (e - m) ∧ ∃ F, St a N K h0 x.2.2 F ∧ Pm N s e f F ∧ W x.2.2 ∧ (∀ t, s ≤ t → t < s + m → F t = f (s + e - 1 - t)) ∧ (∀ t, e - m ≤ t → t < e → F t = f (s + e - 1 - t)) ∧ ∀ t, s + m ≤ t → t < e - m → F t = f t) N ⟨by omega, rfl, rfl, f, S, Pm.refl _ _ _ _, w0, fun t t1 t2 => by omega, fun t t1 t2 => by omega, fun _ _ _ => rfl⟩ ?_ (by unfold mxF; omega)
  rintro m ⟨x1, x2, g⟩ hm ⟨m2, ex1, ex2, F, S, P, w, k1, k2, k3⟩
  obtain rfl := show x1 = _ from ex1
  obtain rfl := show x2 = _ from ex2
  have S : St a N K h0 g F := S
  simp only [sub_add1, ofN_pred (show 1 ≤ e - m by omega) (by omega)]
  by_cases c : e - m - 1 ≤ s + m
  · rw [if_pos ((ofN_le (by omega) (by omega)).mpr c)]
    have all : ∀ t, s ≤ t → t < e → F t = f (s + e - 1 - t) := fun t t1 t2 => by
      by_cases a1 : t < s + m
      · exact k1 t t1 a1
      · by_cases a2 : e - m ≤ t
        · exact k2 t a2 t2
        · rw [k3 t (by omega) (by omega), show s + e - 1 - t = t by omega]
    refine Ok_p (Or.inr ⟨_, rfl, F, S, P, fun x y h1 h2 h3 => ?_, w⟩)
    rw [all x h1 (by omega), all y (by omega) h3]
    have := D (s + e - 1 - y) (s + e - 1 - x) (by omega) (by omega) (by omega)
    omega
  · obtain ⟨w1, S1⟩ := S.st (k := s + m) (x := F (e - m - 1)) (by omega)
    obtain ⟨w2, S2⟩ := S1.st (k := e - m - 1) (x := F (s + m)) (by omega)
    have dd := D (s + m) (e - m - 1) (by omega) (by omega) (by omega)
    have b1 := k3 (s + m) (by omega) (by omega)
    have b2 := k3 (e - m - 1) (by omega) (by omega)
    have nn : ¬ F (s + m) ≤ F (e - m - 1) := tg (by rw [b1, b2]; exact dd)
    rw [if_neg (nle (by omega) (by omega)), S.ld (show s + m < N by omega), bN, S.ld (show e - m - 1 < N by omega), bN, if_neg nn, bN, bN, w1, bN, w2, bN]
    refine Ok_p (Or.inl ⟨_, rfl, by omega, by omega, ?_, ?_, _, S2, P.trans (Pm.swap eN (i := s + m) (k := e - m - 1) (by omega) (by omega) (by omega) (by omega) (by rw [fup_ne (by omega), fup_eq]) (by rw [fup_eq]) (fun j a b => by rw [fup_ne b, fup_ne a])), ws _ _ _ (ws _ _ _ w), fun t t1 t2 => ?_, fun t t1 t2 => ?_, fun t t1 t2 => ?_⟩)
    · show Int32.ofNat (s + m) = Int32.ofNat (s + (m + 1)) - 1
      rw [ofN_pred (by omega) (by omega)]; rfl
    · show Int32.ofNat (e - m - 1) = Int32.ofNat (e - (m + 1))
      rw [show e - (m + 1) = e - m - 1 by omega]
    · rw [fup_ne (by omega)]
      by_cases z : t = s + m
      · rw [z, fup_eq, b2, show s + e - 1 - (s + m) = e - m - 1 by omega]
      · rw [fup_ne z]; exact k1 t t1 (by omega)
    · by_cases z : t = e - m - 1
      · rw [z, fup_eq, b1, show s + e - 1 - (e - m - 1) = s + m by omega]
      · rw [fup_ne z, fup_ne (by omega)]; exact k2 t (by omega) t2
    · rw [fup_ne (by omega), fup_ne (by omega)]; exact k3 t (by omega) (by omega)
theorem nq_ne {h : mxH} {e : mxE} {b : Nat} (hb : b ≠ h.2) : (mxNew h e).1 b = h.1 b := if_neg hb
theorem nq_eq {h : mxH} {e : mxE} : (mxNew h e).1 h.2 = e := if_pos rfl
/-- what the runs leave -/
def Rn (a N : Nat) (h0 : mxH) (f : Nat → Int32) (o : Int32 × mxH) : Prop := ∃ f', St a N 1 h0 o.2 f' ∧ Pm N 0 N f f' ∧ (o.1 = 0 ∨ o.1 = 1 ∧ Sg 0 N f')
theorem St.le (S : St a N 0 h0 h f) : St a N 1 h0 h f := ⟨S.1.le (by omega), S.2⟩
theorem p_tail {r : Nat} (S : St a N 0 h0 h F) (P : Pm N 0 N f F) (d : Di N F) (R : FR h0) (hb : h0.2 + 5 ≤ 1000000) (n1 : 44 ≤ N) (r1 : 1 ≤ r) (r2 : r ≤ N) (s : Sg 0 r F) : Ok (rTail a (Int32.ofNat N) (Int32.ofNat r) h) (Rn a N h0 f) := by
  have n60 := S.n
  unfold rTail
  rw [zr, sb0]
  by_cases c : r = N
  · rw [if_pos (by rw [c]), z1_1, bN]
    exact Ok_p ⟨F, S.le, P, Or.inr ⟨rfl, by rw [← c]; exact s⟩⟩
  rw [if_neg (fun z => c (ofN_inj (by omega) (by omega) z))]
  by_cases c2 : 16 ≤ r
  · have e16 : (16 : Int32) ≤ Int32.ofNat r := (ofN_le (a := 16) (by omega) (by omega)).mpr c2
    have e127 := (show ∀ d, d < 61 → (((Int32.ofNat d >>> ((10 : Int32) &&& 31)) ||| 127) &&& 1023) = Int32.ofNat 127 by decide +kernel) N (by omega)
    rw [if_pos e16, e127]
    have s1 := S.1.1
    have s2 := S.1.2.1
    have al := S.2.2.1
    have en : nwV h (Int32.ofNat 127) 127 = some (mxNew h (100, List.replicate 127 0, [])) := by
      unfold nwV
      rw [ofN_clamp (by omega), if_pos ⟨S.1.fr R h.2 (Nat.le_refl _) (by omega), ofN_nn (by omega), Nat.le_refl _⟩]
    refine Ok_s en ?_
    have B1 : AT (mxNew h (100, List.replicate 127 0, [])) h.2 127 (fun _ => 0) := ⟨Nat.lt_succ_self _, by rw [nq_eq], by rw [nq_eq]; exact tab_rep 127 0⟩
    have X1 : SX a 1 h0 (mxNew h (100, List.replicate 127 0, [])) := ⟨by show h0.2 ≤ h.2 + 1; omega, by show h.2 + 1 ≤ _; omega, fun b b1 b2 => by rw [nq_ne (by omega)]; exact S.1.2.2.1 b b1 b2, fun b b1 => by
      have b1 : h.2 + 1 ≤ b := b1
      rw [nq_ne (by omega)]; exact S.1.2.2.2 b (by omega)⟩
    have A1 : AT (mxNew h (100, List.replicate 127 0, [])) a N F := by
      have al2 := S.2.1.1
      exact ⟨by show a < h.2 + 1; omega, by rw [nq_ne (by omega)]; exact S.2.1.2.1, by rw [nq_ne (by omega)]; exact S.2.1.2.2⟩
    have S1 : St a N 1 h0 (mxNew h (100, List.replicate 127 0, [])) F := ⟨X1, A1, S.2.2⟩
    have hb0 : h0.2 ≤ h.2 := s1
    generalize mxNew h (100, List.replicate 127 0, []) = g0 at B1 S1
    generalize h.2 = rb at B1 hb0
    have put : ∀ (g : mxH) (F : Nat → Int32) (e : Nat → Int32) (k : Nat) (x : Int32), k < 127 → St a N 1 h0 g F → AT g rb 127 e → stI g rb (Int32.ofNat k) x = some (sA g rb k x) ∧ St a N 1 h0 (sA g rb k x) F ∧ ∃ e, AT (sA g rb k x) rb 127 e := fun g F e k x hk S A => by
      have a2 := S.2.2.2.1
      obtain ⟨w, A2⟩ := A.st (k := k) (x := x) (by omega) hk (by omega)
      have rl := A.1
      exact ⟨w, ⟨⟨S.1.1, S.1.2.1, fun b b1 b2 => by rw [sA_ne (by omega)]; exact S.1.2.2.1 b b1 b2, fun b b1 => by
        have b1 : g.2 ≤ b := b1
        rw [sA_ne (by omega)]; exact S.1.2.2.2 b b1⟩, S.2.1.sA (by omega), S.2.2⟩, _, A2⟩
    obtain ⟨w2, S2, e2, B2⟩ := put _ _ _ 0 0 (by omega) S1 B1
    refine Ok_s w2 ?_
    obtain ⟨w3, S3, e3, B3⟩ := put _ _ _ 1 (Int32.ofNat r) (by omega) S2 B2
    refine Ok_s w3 ?_
    generalize sA (sA g0 rb 0 0) rb 1 (Int32.ofNat r) = g3 at S3 B3
    refine Ok_b (P := fun o => (∃ q g f', o = .inr (.inr (.inr (.inl (Int32.ofNat q, g)))) ∧ q ≤ N ∧ St a N 1 h0 g f' ∧ Pm N 0 N f f') ∨ (∃ g f', o = .inr (.inr (.inr (.inr g))) ∧ St a N 1 h0 g f' ∧ Pm N 0 N f f' ∧ Sg 0 N f')) (Ok_loopE (fun t x => ∃ q, t ≤ q ∧ 1 ≤ q ∧ q ≤ N ∧ x.1 = rb ∧ x.2.1 = Int32.ofNat q ∧ x.2.2.1 = Int32.ofNat q ∧ ∃ F, St a N 1 h0 x.2.2.2 F ∧ Pm N 0 N f F ∧ Di N F ∧ Sg 0 q F ∧ ∃ e, AT x.2.2.2 rb 127 e) N ⟨r, by omega, r1, r2, rfl, rfl, rfl, F, S3, P, d, s, e3, B3⟩ ?_ (by unfold mxF; omega)) ?_
    · rintro t ⟨x1, x2, x3, g⟩ ht ⟨q, tq, q1, qN, ex1, ex2, ex3, F, S, P, d, s, e, B⟩
      obtain rfl := show x1 = _ from ex1
      obtain rfl := show x2 = _ from ex2
      obtain rfl := show x3 = _ from ex3
      have S : St a N 1 h0 g F := S
      have B : AT g x1 127 e := B
      by_cases z : N ≤ q
      · rw [if_pos ((ofN_le (by omega) (by omega)).mpr z)]
        exact Ok_p (Or.inr ⟨_, rfl, Or.inr ⟨g, F, rfl, S, P, s.le (Nat.le_refl _) z⟩⟩)
      · have ep := ofN_pred q1 (show q < 2147483648 by omega)
        have l1 := S.ld (show q - 1 < N by omega)
        have l2 := S.ld (show q < N by omega)
        have dn := d.ne (i := q - 1) (k := q) (by omega) (by omega) (by omega)
        rw [if_neg (nle (by omega) (by omega))]
        show Ok (Option.bind (ldI g a (Int32.ofNat q - 1)) _) _
        rw [ep, l1, bN]
        show Ok (Option.bind (ldI g a (Int32.ofNat q)) _) _
        rw [l2, bN]
        by_cases y : (F q).toInt ≤ (F (q - 1)).toInt
        · rw [if_pos (tl.mpr y), bN, bN, if_neg (tg (by omega))]
          refine Ok_b (p_dn S q1 (by omega)) ?_
          rintro _ ⟨m, rfl, m1, m2, m3⟩
          rw [← ep]
          refine Ok_b (p_rev (W := fun g => ∃ e, AT g x1 127 e) S m1 m2 (d.desc m2 m3) ⟨e, B⟩ (fun g k x ⟨e, B⟩ => ⟨e, B.sA (by omega)⟩)) ?_
          rintro g5 ⟨F5, S5, P5, s5, e5, B5⟩
          show Ok (Option.bind (ldI g5 a (Int32.ofNat q - 1)) _) _
          have P6 : Pm N 0 N f F5 := P.trans (P5.mono (by omega) m2)
          rw [ep, S5.ld (show q - 1 < N by omega), bN, S5.ld (show q < N by omega), bN]
          by_cases y2 : (F5 (q - 1)).toInt ≤ (F5 q).toInt
          · obtain ⟨w6, S6, e6, B6⟩ := put _ _ _ 1 (Int32.ofNat m) (by omega) S5 B5
            rw [if_pos (tl.mpr y2)]
            refine Ok_s w6 (Ok_p (Or.inl ⟨_, rfl, by omega, m, by omega, by omega, m2, rfl, rfl, rfl, F5, S6, P6, P5.1.dist d, Sg.join (m := q) (fun i k i1 i2 i3 => by rw [P5.2 i (by omega), P5.2 k (by omega)]; exact s i k i1 i2 i3) s5 q1 m1 y2, e6, B6⟩))
          · rw [if_neg (tg (by omega))]
            exact Ok_p (Or.inr ⟨_, rfl, Or.inl ⟨m, g5, F5, rfl, m2, S5, P6⟩⟩)
        · rw [if_neg (tg (by omega))]
          refine Ok_b (p_up S q1 (by omega)) ?_
          rintro _ ⟨m, rfl, m1, m2, m3⟩
          rw [bN, bN]
          by_cases y2 : (F (q - 1)).toInt ≤ (F q).toInt
          · obtain ⟨w6, S6, e6, B6⟩ := put _ _ _ 1 (Int32.ofNat m) (by omega) S B
            rw [if_pos (tl.mpr y2)]
            refine Ok_s w6 (Ok_p (Or.inl ⟨_, rfl, by omega, m, by omega, by omega, m2, rfl, rfl, rfl, F, S6, P, d, Sg.join (m := q) s (Sg.ups m3) q1 m1 y2, e6, B6⟩))
          · rw [if_neg (tg (by omega))]
            exact Ok_p (Or.inr ⟨_, rfl, Or.inl ⟨m, g, F, rfl, m2, S, P⟩⟩)
    · rintro o (⟨q, g, f', rfl, q1, S', P'⟩ | ⟨g, f', rfl, S', P', s'⟩)
      · show Ok (if (1 : Int32) ≤ ((Int32.ofNat q - 0) >>> ((7 : Int32) &&& 31)) then none else _) _
        rw [sb0, if_neg ((show ∀ d, d < 61 → ¬ (1 : Int32) ≤ (Int32.ofNat d >>> ((7 : Int32) &&& 31)) by decide +kernel) q (by omega)), z1_0, bN]
        exact Ok_p ⟨f', S', P', Or.inl rfl⟩
      · show Ok (if (1 : Int32) ≤ 1 then Option.bind (mxZ1 1) (fun v171 => some (v171, g)) else none) _
        rw [if_pos (by decide), z1_1, bN]
        exact Ok_p ⟨f', S', P', Or.inr ⟨rfl, s'⟩⟩
  · have e16 : ¬ (16 : Int32) ≤ Int32.ofNat r := nle (b := r) (a := 16) (by omega)
    rw [if_neg e16, z1_0, bN]
    exact Ok_p ⟨F, S.le, P, Or.inl rfl⟩
theorem l_runs (S : St a N 0 h0 h f) (d : Di N f) (R : FR h0) (hb : h0.2 + 5 ≤ 1000000) (n1 : 44 ≤ N) : Ok (fX12_tryMergeRuns a 0 (Int32.ofNat N) h) (Rn a N h0 f) := by
  have n60 := S.n
  unfold fX12_tryMergeRuns
  have c1 : ¬ Int32.ofNat N ≤ Int32.ofNat 1 := nle (by omega) (by omega)
  have dn := d.ne (i := 0) (k := 1) (by omega) (by omega) (by omega)
  rw [zr, show (0 : Int32) + 1 = Int32.ofNat 1 from rfl, if_neg c1, show Int32.ofNat 1 - 1 = Int32.ofNat 0 from rfl, S.ld (show 0 < N by omega), bN, S.ld (show 1 < N by omega), bN]
  by_cases y : (f 1).toInt ≤ (f 0).toInt
  · rw [if_pos (tl.mpr y), bN, bN, if_neg (tg (by omega))]
    refine Ok_b (p_dn S (Nat.le_refl _) (by omega)) ?_
    rintro _ ⟨m, rfl, m1, m2, m3⟩
    have D := d.desc (s := 0) m2 (fun t t1 t2 => by
      by_cases e : t = 1
      · rw [e]; exact y
      · exact m3 t (by omega) t2)
    refine Ok_b (p_rev (s := 0) (W := fun _ => True) S (by omega) m2 D trivial (fun _ _ _ _ => trivial)) ?_
    rintro g5 ⟨F5, S5, P5, s5, -⟩
    have := p_tail (f := f) S5 (P5.mono (Nat.le_refl _) m2) (P5.1.dist d) R hb n1 (by omega) m2 s5
    unfold rTail at this
    rw [zr] at this
    exact this
  · rw [if_neg (tg (by omega))]
    refine Ok_b (p_up S (Nat.le_refl _) (by omega)) ?_
    rintro _ ⟨m, rfl, m1, m2, m3⟩
    have s5 : Sg 0 m f := Sg.ups (fun t t1 t2 => by
      by_cases e : t = 1
      · rw [e]; show (f 0).toInt ≤ _; omega
      · exact m3 t (by omega) t2)
    have := p_tail (f := f) S (Pm.refl _ _ _ _) d R hb n1 (by omega) m2 s5
    unfold rTail at this
    rw [zr] at this
    exact this
end
