/-! THE PURE SIDE, 45: the law changes the class and goes back -/
section
variable {h h1 : mxH} {n m m' : Nat → Int32} {c c' j j' K : Nat} {B B' : Nat → Nat → Int32}
theorem CF_b {b : Nat} (z : CF b) : 2 ≤ b ∧ b < 319 := by unfold CF at z; omega
theorem CF_ev (F : Fr CF h h1) : Ev 0 h h1 := F.ev (fun b z => (CF_b z).2)
theorem LSt.mono (I : LSt h n m c B j) (hj : j ≤ j') : LSt h n m c B j' := by
  obtain ⟨i1, i2, i3, i4, i5, i6, i7, i8⟩ := I
  exact ⟨i1, i2, i3, i4, GD_mono i5 hj, i6, fun i hi => ⟨GD_mono (i7 i hi).1 hj, (i7 i hi).2⟩, i8⟩
theorem LSt.cf (I : LSt h n m c B j) (F : Fr CF h h1) (S' : SR h1 3 m') (H' : HR h1 c' B') (G' : GD m' j') (X' : XG m') (GB' : ∀ i, i < c' → GD (B' i) j' ∧ XG (B' i) ∧ CG (B' i)) (C' : CG m') : LSt h1 n m' c' B' j' := by
  obtain ⟨i1, i2, i3, i4, i5⟩ := I
  exact ⟨⟨i1.1.fr F (fun b z => CF_b z), i1.2.1.fr F (fun b z => CF_b z) (by have := i1.1.1; omega), i1.2.2⟩, F.1, S', H', G', X', GB', C'⟩
theorem GB_sav (I : LSt h n m c B j) : ∀ i, i < min (c + 1) 8 → GD (sav c B m i) (j + 1) ∧ XG (sav c B m i) ∧ CG (sav c B m i) := by
  intro i hi
  have h8 := I.H.2.1
  have gm : GD m (j + 1) ∧ XG m ∧ CG m := ⟨GD_mono I.G (by omega), I.X, I.C⟩
  have gb : ∀ i, i < c → GD (B i) (j + 1) ∧ XG (B i) ∧ CG (B i) := fun i hi => ⟨GD_mono (I.GB i hi).1 (by omega), (I.GB i hi).2⟩
  unfold sav
  by_cases q : c < 8
  · rw [if_pos q]
    by_cases e : i = c
    · rw [if_pos e]; exact gm
    · rw [if_neg e]; exact gb i (by omega)
  · rw [if_neg q]
    by_cases e : i = 7
    · rw [if_pos e]; exact gm
    · rw [if_neg e]; exact gb (i + 1) (by omega)
theorem k_chg {α : Type} {f : Option ((α ⊕ String) × mxH)} {v : α} (I : LSt h n m c B j) (d : (GD m' (j + 1) ∧ XG m') ∧ Ok f (fun x => x.1 = .inl v ∧ Fr CF h x.2 ∧ SR x.2 3 m' ∧ HR x.2 (min (c + 1) 8) (sav c B m))) (C' : CG m') : Ok (mxOk f) (fun x => x.1 = v ∧ LSt x.2 n m' (min (c + 1) 8) (sav c B m) (j + 1) ∧ Ev 0 h x.2) := by
  obtain ⟨⟨d1, d2⟩, ⟨a, g⟩, e, p1, p2, p3, p4⟩ := d
  obtain rfl := show a = _ from p1
  subst e
  exact ⟨(v, g), rfl, rfl, I.cf p2 p3 p4 d1 d2 (GB_sav I) C', CF_ev p2⟩
theorem CG_fup (C : CG m) {k : Nat} {x : Int32} (hk : k < 106) : CG (fup m k x) := ⟨by rw [fup_ne (by omega)]; exact C.1, by rw [fup_ne (by omega)]; exact C.2⟩
theorem k_put (I : LSt h n m c B j) {a b x : Nat} (ha : a < 5) (hb : b < 20) (hx : x < 100) : Ok (mxOk (fX9_put 2 (Int32.ofNat a) (Int32.ofNat b) (Int32.ofNat x) h)) (fun o => o.1 = m (20 * a + b) ∧ LSt o.2 n (fup m (20 * a + b) (Int32.ofNat x)) (min (c + 1) 8) (sav c B m) (j + 1) ∧ Ev 0 h o.2) :=
  k_chg I (d_put I.W I.S I.H I.G I.X ha hb hx) (CG_fup I.C (by omega))
theorem k_drop (I : LSt h n m c B j) {a b : Nat} (ha : a < 5) (hb : b < 20) (q : hs m a b = true) : Ok (mxOk (fX9_drop 2 (Int32.ofNat a) (Int32.ofNat b) h)) (fun o => o.1 = m (20 * a + b) ∧ LSt o.2 n (fup m (20 * a + b) (-1)) (min (c + 1) 8) (sav c B m) (j + 1) ∧ Ev 0 h o.2) :=
  k_chg I (d_drop I.W I.S I.H I.G I.X ha hb q) (CG_fup I.C (by omega))
theorem k_setWeight (I : LSt h n m c B j) {a w : Nat} (ha : a < 5) (hw : w < 6) : Ok (mxOk (fX9_setWeight 2 (Int32.ofNat a) (Int32.ofNat w) h)) (fun o => o.1 = m (100 + a) ∧ LSt o.2 n (fup m (100 + a) (Int32.ofNat w)) (min (c + 1) 8) (sav c B m) (j + 1) ∧ Ev 0 h o.2) :=
  k_chg I (d_setWeight I.W I.S I.H I.G I.X ha hw) (CG_fup I.C (by omega))
theorem k_setRule (I : LSt h n m c B j) {p : Int32} (hp : inI p 0 2 = true) : Ok (mxOk (fX9_setRule 2 p h)) (fun o => o.1 = m 105 ∧ LSt o.2 n (fup m 105 p) (min (c + 1) 8) (sav c B m) (j + 1) ∧ Ev 0 h o.2) :=
  k_chg I (d_setRule I.W I.S I.H I.G I.X hp) (CG_fup I.C (by omega))
theorem bgn_lo {w x : Int32} {k : Nat} (hk : k < 108) : bgn m w x k = m k := by
  unfold bgn
  rw [if_neg (by omega), if_neg (by omega), if_neg (by omega), if_neg (by omega), if_neg (by omega)]
theorem psh_lo (G : NG m j) {x k : Nat} (hx : x < 100) (hj : j < 100000) (hk : k < 110) : psh m x k = m k := by
  obtain ⟨m1, m2, m3⟩ := mid_G G hx hj
  have h4 : mn (mid m x) ≤ 4 := m1.2.2.2.2.2.1.2
  unfold psh
  rw [tly_cm _ _ (by omega) h4, mid_lo hk]
theorem k_setWindow (I : LSt h n m c B j) {w x : Nat} (w1 : 1 ≤ w) (w2 : w ≤ 10) (m1 : 1 ≤ x) (m2 : x ≤ 4) : Ok (mxOk (fX9_setWindow 2 (Int32.ofNat w) (Int32.ofNat x) h)) (fun o => o.1 = m 110 ∧ LSt o.2 n (bgn m (Int32.ofNat w) (Int32.ofNat x)) (min (c + 1) 8) (sav c B m) (j + 1) ∧ Ev 0 h o.2) :=
  k_chg I (d_setWindow I.W I.S I.H I.G I.X w1 w2 m1 m2) ⟨by rw [bgn_lo (by omega)]; exact I.C.1, by rw [bgn_lo (by omega)]; exact I.C.2⟩
theorem k_push (I : LSt h n m c B j) {x : Nat} (hx : x < 100) (hj : j < 100000) : Ok (mxOk (fX9_push 2 (Int32.ofNat x) h)) (fun o => o.1 = lve m ∧ LSt o.2 n (psh m x) (min (c + 1) 8) (sav c B m) (j + 1) ∧ Ev 0 h o.2) :=
  k_chg I (d_push I.W I.S I.H I.G I.X hx hj) ⟨by rw [psh_lo I.G.2.2 hx hj (by omega)]; exact I.C.1, by rw [psh_lo I.G.2.2 hx hj (by omega)]; exact I.C.2⟩
theorem k_undo (I : LSt h n m c B j) (hc : 0 < c) : Ok (fX9_undo 2 h) (fun o => o.1 = Int32.ofNat (c - 1) ∧ LSt o.2 n (B (c - 1)) (c - 1) B j ∧ Ev 0 h o.2) := by
  refine Ok_m (d_undo I.W I.S I.H (fun i hi => (I.GB i hi).1) hc) (fun o ⟨o1, o2, o3, o4⟩ => ⟨o1, ?_, CF_ev o2⟩)
  have g := I.GB (c - 1) (by omega)
  exact I.cf o2 o3 o4 g.1 g.2.1 (fun i hi => I.GB i (by omega)) g.2.2
/-- the u states to go back through, down to n -/
def ST (n m : Nat → Int32) (u c : Nat) (B : Nat → Nat → Int32) : Prop := ∃ st : Nat → Nat → Int32, st 0 = n ∧ st u = m ∧ u ≤ c ∧ ∀ i, i < u → B (c - 1 - i) = st (u - 1 - i)
theorem ST_0 : ST n n 0 c B := ⟨fun _ => n, rfl, rfl, Nat.zero_le _, fun i hi => by omega⟩
theorem ST_up {u : Nat} (S : ST n m u c B) (h8 : c ≤ 8) (hu : u ≤ 7) (m' : Nat → Int32) : ST n m' (u + 1) (min (c + 1) 8) (sav c B m) := by
  obtain ⟨st, s0, su, sc, sb⟩ := S
  refine ⟨fun i => if i = u + 1 then m' else st i, by show (if 0 = u + 1 then m' else st 0) = n; rw [if_neg (by omega)]; exact s0, if_pos rfl, by omega, fun i hi => ?_⟩
  show _ = if u + 1 - 1 - i = u + 1 then m' else st (u + 1 - 1 - i)
  rw [if_neg (by omega)]
  unfold sav
  by_cases q : c < 8
  · rw [if_pos q]
    by_cases e : i = 0
    · rw [if_pos (by omega), e, ← su]; rfl
    · rw [if_neg (by omega)]
      have := sb (i - 1) (by omega)
      rw [show min (c + 1) 8 - 1 - i = c - 1 - (i - 1) by omega, this]
      congr 1; omega
  · rw [if_neg q]
    by_cases e : i = 0
    · rw [if_pos (by omega), e, ← su]; rfl
    · rw [if_neg (by omega)]
      have := sb (i - 1) (by omega)
      rw [show min (c + 1) 8 - 1 - i + 1 = c - 1 - (i - 1) by omega, this]
      congr 1; omega
theorem ST_dn {u : Nat} (S : ST n m (u + 1) c B) : 0 < c ∧ ST n (B (c - 1)) u (c - 1) B := by
  obtain ⟨st, s0, su, sc, sb⟩ := S
  refine ⟨by omega, st, s0, ?_, by omega, fun i hi => ?_⟩
  · have := sb 0 (by omega)
    rw [show c - 1 - 0 = c - 1 by omega] at this
    rw [this]; rfl
  · have := sb (i + 1) (by omega)
    rw [show c - 1 - 1 - i = c - 1 - (i + 1) by omega, this]
    congr 1; omega
theorem ST_z (S : ST n m 0 c B) : m = n := by
  obtain ⟨st, s0, su, -⟩ := S
  rw [← su, s0]
/-- the state with the last marks of a depth put to one thing, in the first r rows -/
def mfn (n : Nat → Int32) (T d : Nat) : Nat → Nat → Int32 := fo (fun m i => fup m (20 * i + T) (mkO n i (d - 1))) n
theorem mfn_s {T d r : Nat} : mfn n T d (r + 1) = fup (mfn n T d r) (20 * r + T) (mkO n r (d - 1)) := rfl
theorem mfn_at {T d : Nat} (hT : T < 20) : ∀ r, (∀ i, i < r → mfn n T d r (20 * i + T) = mkO n i (d - 1)) ∧ (∀ x, (∀ i, i < r → x ≠ 20 * i + T) → mfn n T d r x = n x) := by
  intro r
  induction r with
  | zero => exact ⟨fun i hi => by omega, fun x _ => rfl⟩
  | succ r ih =>
    rw [mfn_s]
    refine ⟨fun i hi => ?_, fun x hx => ?_⟩
    · by_cases e : i = r
      · rw [e, fup_eq]
      · rw [fup_ne (by omega)]; exact ih.1 i (by omega)
    · rw [fup_ne (hx r (by omega))]; exact ih.2 x (fun i hi => hx i (by omega))
theorem rl_n {n m x y : Nat → Int32} (e : ∀ k, 100 ≤ k → k < 106 → m k = n k) (ex : ∀ i, i < 5 → x i = y i) : rl m x = rl n y := by
  have h1 : rl m x = rl n x := by
    unfold rl
    rw [e 105 (by omega) (by omega)]
    have : least5 (fun i => m (100 + i)) x = least5 (fun i => n (100 + i)) x := fo_congr (fun s k hk => by
      show (if 0 < m (100 + k) ∧ _ then _ else _) = (if 0 < n (100 + k) ∧ _ then _ else _)
      simp only [e (100 + k) (by omega) (by omega)])
    rw [this]
  rw [h1]
  unfold rl sum5 max5 least5
  rw [fo_congr (g := fun s i => s + x i) (g' := fun s i => s + y i) (n := 5) (fun s k hk => by show s + x k = s + y k; rw [ex k hk]), fo_congr (g := fun s i => mxMax s (x i)) (g' := fun s i => mxMax s (y i)) (n := 5) (fun s k hk => by show mxMax s (x k) = mxMax s (y k); rw [ex k hk]), fo_congr (g := fun s i => if 0 < n (100 + i) ∧ (s = -1 ∨ x i < s) then x i else s) (g' := fun s i => if 0 < n (100 + i) ∧ (s = -1 ∨ y i < s) then y i else s) (n := 5) (fun s k hk => by show (if 0 < n (100 + k) ∧ (s = -1 ∨ x k < s) then x k else s) = (if 0 < n (100 + k) ∧ (s = -1 ∨ y k < s) then y k else s); simp only [ex k hk])]
theorem mfn_val (G : MG n) {T d : Nat} (hT : T < 20) (hd : 1 ≤ d) : val (mfn n T d 5) T = lim n d := by
  obtain ⟨f1, f2⟩ := mfn_at (n := n) (d := d) hT 5
  refine rl_n (fun k k1 k2 => f2 k (fun i hi => by omega)) (fun i hi => ?_)
  show wm (mfn n T d 5) i T = lm n i d
  unfold wm hs
  rw [f1 i hi, f2 (100 + i) (fun i hi => by omega)]
  unfold mkO lm
  by_cases q : d - 1 < itm n i
  · obtain ⟨t1, t2, t3⟩ := thi_spec G hi q
    rw [if_pos q, if_pos (show d < itm n i + 1 by omega)]
    unfold wm
    rw [if_pos t2]
    unfold hs at t2
    rw [if_pos t2]
  · rw [if_neg q, if_neg (show ¬ d < itm n i + 1 by omega)]
    rfl
end
