/-! THE PURE SIDE, 40: what holds between two steps of the law; the dice -/
/-- at most K cells came, the law's working rows are as they were -/
def Ev (K : Nat) (h h' : mxH) : Prop := h.2 ≤ h'.2 ∧ h'.2 ≤ h.2 + K ∧ ∀ b, 337 ≤ b → b < h.2 → h'.1 b = h.1 b
theorem Ev.refl (h : mxH) : Ev 0 h h := ⟨Nat.le_refl _, by omega, fun _ _ _ => rfl⟩
theorem Ev.trans {K L : Nat} {h h1 h2 : mxH} (a : Ev K h h1) (b : Ev L h1 h2) : Ev (K + L) h h2 := by
  obtain ⟨a1, a2, a3⟩ := a
  obtain ⟨b1, b2, b3⟩ := b
  exact ⟨by omega, by omega, fun c c1 c2 => (b3 c c1 (by omega)).trans (a3 c c1 c2)⟩
theorem Ev.le {K L : Nat} {h h1 : mxH} (a : Ev K h h1) (k : K ≤ L) : Ev L h h1 := ⟨a.1, by have := a.2.1; omega, a.2.2⟩
theorem Ext.ev {K : Nat} {h h1 : mxH} (x : Ext K h h1) : Ev K h h1 := ⟨x.1, x.2.1, fun b _ hb => x.2.2.1 b hb⟩
theorem Fr.ev {P : Nat → Prop} {h h1 : mxH} (F : Fr P h h1) (hp : ∀ b, P b → b < 319) : Ev 0 h h1 := by
  have e := F.2.2 hp
  exact ⟨by omega, by omega, fun b b1 _ => F.2.1 b (fun z => by have := hp b z; omega)⟩
theorem AT.ev {K N a : Nat} {f : Nat → Int32} {h h1 : mxH} (A : AT h a N f) (ha : 337 ≤ a) (x : Ev K h h1) : AT h1 a N f := by
  obtain ⟨a1, a2, a3⟩ := A
  have e := x.2.2 a ha a1
  exact ⟨by have := x.1; omega, by rw [e]; exact a2, by rw [e]; exact a3⟩
theorem Ext.fr9 {K : Nat} {h h1 : mxH} (x : Ext K h h1) (W : WF h) : Fr (fun b => 319 ≤ b) h h1 := by
  have w1 := W.1
  refine ⟨⟨by have := x.1; omega, fun a a1 a2 => by rw [x.2.2.1 a (by omega)]; exact W.2 a a1 a2⟩, fun b hb => ?_, fun q => absurd (q 319 (Nat.le_refl _)) (by omega)⟩
  exact x.2.2.1 b (by have hb : ¬ 319 ≤ b := hb; omega)
def CG (n : Nat → Int32) : Prop := n 106 = 1 ∧ n 107 = 1
/-- the law with its marks n, the class with its state m and c states to go back to -/
def LSt (h : mxH) (n m : Nat → Int32) (c : Nat) (B : Nat → Nat → Int32) (j : Nat) : Prop :=
  LQ h n ∧ WF h ∧ SR h 3 m ∧ HR h c B ∧ GD m j ∧ XG m ∧ (∀ i, i < c → GD (B i) j ∧ XG (B i) ∧ CG (B i)) ∧ CG m
section
variable {h h1 : mxH} {n m : Nat → Int32} {c j K : Nat} {B : Nat → Nat → Int32}
theorem LSt.ext (I : LSt h n m c B j) (x : Ext K h h1) : LSt h1 n m c B j := by
  obtain ⟨i1, i2, i3, i4, i5⟩ := I
  have F := x.fr9 i2
  exact ⟨i1.ext x, F.1, SR_fr S3 i3 F (fun b b1 b2 b3 => by omega), HR_fr i4 F (fun b b1 b2 => by omega), i5⟩
theorem QF_b {b : Nat} (z : QF b) : 2 ≤ b ∧ b < 319 := by unfold QF at z; omega
theorem LSt.q (I : LSt h n m c B j) (F : Fr QF h h1) : LSt h1 n m c B j := by
  obtain ⟨i1, i2, i3, i4, i5⟩ := I
  exact ⟨⟨i1.1.fr F (fun b z => QF_b z), i1.2.1.fr F (fun b z => QF_b z) (by have := i1.1.1; omega), i1.2.2⟩, F.1, SR_fr S3 i3 F (fun b b1 b2 b3 => by unfold QF; omega), HR_fr i4 F (fun b b1 b2 => by unfold QF; omega), i5⟩
theorem QF_ev (F : Fr QF h h1) : Ev 0 h h1 := F.ev (fun b z => (QF_b z).2)
theorem k_ok {α : Type} {f : Option ((α ⊕ String) × mxH)} {v : α} (I : LSt h n m c B j) (q : Ok f (fun x => x.1 = .inl v ∧ Fr QF h x.2)) : Ok (mxOk f) (fun x => x.1 = v ∧ LSt x.2 n m c B j ∧ Ev 0 h x.2) := by
  obtain ⟨⟨a, g⟩, e, p1, p2⟩ := q
  obtain rfl := show a = _ from p1
  subst e
  exact ⟨(v, g), rfl, rfl, I.q p2, QF_ev p2⟩
theorem k_q {f : Option (Int32 × mxH)} {v : Int32} (I : LSt h n m c B j) (q : Ok f (fun x => x.1 = v ∧ Fr QF h x.2)) : Ok f (fun x => x.1 = v ∧ LSt x.2 n m c B j ∧ Ev 0 h x.2) :=
  Ok_m q (fun x ⟨p1, p2⟩ => ⟨p1, I.q p2, QF_ev p2⟩)
theorem LSt.L (I : LSt h n m c B j) : LW h n := I.1.1
theorem LSt.FR (I : LSt h n m c B j) : FR h := I.1.2.1
theorem LSt.MG (I : LSt h n m c B j) : MG n := I.1.2.2.1
theorem LSt.WG (I : LSt h n m c B j) : WG n := I.1.2.2.2.1
theorem LSt.RG (I : LSt h n m c B j) : RG n := I.1.2.2.2.2
theorem LSt.W (I : LSt h n m c B j) : WF h := I.2.1
theorem LSt.S (I : LSt h n m c B j) : SR h 3 m := I.2.2.1
theorem LSt.H (I : LSt h n m c B j) : HR h c B := I.2.2.2.1
theorem LSt.G (I : LSt h n m c B j) : GD m j := I.2.2.2.2.1
theorem LSt.X (I : LSt h n m c B j) : XG m := I.2.2.2.2.2.1
theorem LSt.GB (I : LSt h n m c B j) : ∀ i, i < c → GD (B i) j ∧ XG (B i) ∧ CG (B i) := I.2.2.2.2.2.2.1
theorem LSt.C (I : LSt h n m c B j) : CG m := I.2.2.2.2.2.2.2
theorem LSt.o (I : LSt h n m c B j) : isO h 0 11 = some () := l_O I.L
theorem LSt.d (I : LSt h n m c B j) : isO h 1 10 = some () := l_D I.L
theorem LSt.hO (I : LSt h n m c B j) : isO h 2 9 = some () := isH I.W
theorem LSt.go (I : LSt h n m c B j) : gR h 0 11 0 = some 2 := l_go I.L
theorem LSt.gd (I : LSt h n m c B j) : gR h 0 11 1 = some 1 := l_gd I.L
theorem LSt.gm (I : LSt h n m c B j) : gR h 0 11 2 = some 319 := l_gm I.L
theorem LSt.gw (I : LSt h n m c B j) : gR h 0 11 3 = some 325 := l_gw I.L
end
/-! the dice -/
theorem mxUp_at {h : mxH} {a : Nat} {e : mxE} : (mxUp h a e).1 a = e := by
  show (if a = a then e else h.1 a) = e
  exact if_pos rfl
theorem shr_nat (v : Int64) : ∃ k, k < 2147483648 ∧ mxLshr v 33 = Int64.ofNat k := by
  unfold mxLshr
  rw [show ((33 : Int32).toInt64.toUInt64 &&& Int64.toUInt64 63) = (33 : UInt64) by decide]
  refine ⟨(v.toUInt64 >>> (33 : UInt64)).toNat, ?_, ?_⟩
  · rw [UInt64.toNat_shiftRight, show (33 : UInt64).toNat % 64 = 33 by decide, Nat.shiftRight_eq_div_pow]
    have := v.toUInt64.toNat_lt
    omega
  · rw [← UInt64.toInt64_ofNat', UInt64.ofNat_toNat]
theorem nm64 {N : Nat} (h : N < 2147483648) : Int64.ofNat N ≠ -1 := fun e => by
  have := congrArg Int64.toInt e
  rw [Int64.toInt_ofNat_of_lt (by omega)] at this
  have e1 : (-1 : Int64).toInt = -1 := by decide
  omega
theorem nz64 {N : Nat} (h1 : 1 ≤ N) (h : N < 2147483648) : Int64.ofNat N ≠ 0 := fun e => by
  have := congrArg Int64.toInt e
  rw [Int64.toInt_ofNat_of_lt (by omega)] at this
  have e1 : (0 : Int64).toInt = 0 := by decide
  omega
theorem to64 {N : Nat} (h : N < 2147483648) : (Int32.ofNat N).toInt64 = Int64.ofNat N := Int32.toInt64_ofNat' (by rw [Int32.toInt_maxValue]; omega)
theorem modsub (x F : Nat) : x - x / F * F = x % F := by
  have h1 := Nat.div_add_mod x F
  have h2 := Nat.mul_comm F (x / F)
  omega
theorem dice_mod {k N : Nat} (hk : k < 2147483648) (h1 : 1 ≤ N) (h2 : N < 2147483648) : (Int64.ofNat k - Int64.ofNat k / (Int32.ofNat N).toInt64 * (Int32.ofNat N).toInt64).toInt32 = Int32.ofNat (k % N) := by
  have hq := Nat.div_le_self k N
  have e : Int64.ofNat k / Int64.ofNat N = Int64.ofNat (k / N) := by
    apply Int64.toInt.inj
    rw [Int64.toInt_div_of_ne_right _ _ (nm64 h2), Int64.toInt_ofNat_of_lt (by omega), Int64.toInt_ofNat_of_lt (by omega), Int64.toInt_ofNat_of_lt (by omega)]
    exact (Int.ofNat_tdiv k N).symm
  rw [to64 h2, e, ← Int64.ofNat_mul, ← Int64.ofNat_sub _ _ (Nat.div_mul_le_self k N), modsub, Int64.toInt32_ofNat']
section
variable {h : mxH} {n m : Nat → Int32} {c j : Nat} {B : Nat → Nat → Int32}
theorem k_next (I : LSt h n m c B j) {N : Nat} (h1 : 1 ≤ N) (h2 : N < 2147483648) : Ok (fX10_next 1 (Int32.ofNat N) h) (fun o => (∃ x, x < N ∧ o.1 = Int32.ofNat x) ∧ LSt o.2 n m c B j ∧ Ev 0 h o.2) := by
  obtain ⟨⟨i1, i1b, i1c⟩, i2, i3, i4, i5⟩ := I
  obtain ⟨d1, s, d2⟩ := i1.2.2.1
  have hl : 1 < h.2 := by have := i1.1; omega
  unfold fX10_next
  refine Ok_s (a := s) (by unfold gJ; rw [if_pos ⟨hl, d1⟩, d2]; rfl) ?_
  generalize s * (6364136223846793005 : Int64) + (1442695040888963407 : Int64) = x
  refine Ok_s (a := mxUp h 1 (10, (h.1 1).2.1, (h.1 1).2.2.set 0 (.long x))) (by unfold pJ; rw [if_pos ⟨hl, d1⟩]) ?_
  have e1 : (mxUp h 1 (10, (h.1 1).2.1, (h.1 1).2.2.set 0 (.long x))).1 1 = (10, (h.1 1).2.1, [.long x]) := by
    rw [mxUp_at, d2]; rfl
  have eb : ∀ b, b ≠ 1 → (mxUp h 1 (10, (h.1 1).2.1, (h.1 1).2.2.set 0 (.long x))).1 b = h.1 b := fun b hb => if_neg hb
  have e2 : (mxUp h 1 (10, (h.1 1).2.1, (h.1 1).2.2.set 0 (.long x))).2 = h.2 := rfl
  generalize mxUp h 1 (10, (h.1 1).2.1, (h.1 1).2.2.set 0 (.long x)) = g at e1 eb e2
  refine Ok_s (a := x) (by unfold gJ; rw [if_pos ⟨by omega, by rw [e1]⟩, e1]; rfl) ?_
  refine Ok_s (a := ()) (by unfold mxNzL; rw [to64 h2, if_neg (nz64 h1 h2)]) ?_
  obtain ⟨k, hk, ek⟩ := shr_nat x
  rw [ek, dice_mod hk h1 h2]
  have F : Fr (fun b => b = 1) h g := ⟨⟨by rw [e2]; exact i2.1, fun a a1 a2 => by rw [eb a (by omega)]; exact i2.2 a a1 a2⟩, fun b hb => eb b hb, fun _ => e2⟩
  refine Ok_p ⟨⟨k % N, Nat.mod_lt _ (by omega), rfl⟩, ⟨⟨i1.keep (by show h.2 ≤ g.2; omega) (fun b hb => eb b (by omega)) ⟨by rw [e1], x, by rw [e1]⟩, fun b b1 b2 => ?_, i1c⟩, F.1, SR_fr S3 i3 F (fun b b1 b2 b3 => by omega), HR_fr i4 F (fun b b1 b2 => by omega), i5⟩, ⟨by show h.2 ≤ g.2; omega, by show g.2 ≤ h.2 + 0; omega, fun b b1 b2 => eb b (by omega)⟩⟩
  show (g.1 b).1 = 300
  have b1 : g.2 ≤ b := b1
  rw [eb b (by omega)]; exact i1b b (by omega) b2
end
