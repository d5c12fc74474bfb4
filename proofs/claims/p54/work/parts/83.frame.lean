/-! THE PURE SIDE, 34: what holds between two calls of the class; how a call is asked (begun from the rows of whole) -/
def QF (b : Nat) : Prop := b = 26 ∨ (266 ≤ b ∧ b ≤ 318)
def GD (n : Nat → Int32) (j : Nat) : Prop := MG n ∧ WG n ∧ NG n j
def XG (n : Nat → Int32) : Prop := ∀ k, mn n ≤ k → k < 4 → n (221 + k) = -1
theorem NG_mono {n : Nat → Int32} {j k : Nat} (G : NG n j) (h : j ≤ k) : NG n k := by
  obtain ⟨a, b, r⟩ := G
  exact ⟨a, by omega, r⟩
theorem GD_mono {n : Nat → Int32} {j k : Nat} (G : GD n j) (h : j ≤ k) : GD n k := ⟨G.1, G.2.1, NG_mono G.2.2 h⟩
theorem rf_H {j b : Nat} (hj : j < 9) (e : (lay 2).2.2.getD j 0 = b) (hb : b ≠ 0) : rf 2 9 j b := ⟨by omega, by omega, rfl, by omega, hj, e, hb⟩
section
variable {h : mxH}
theorem gH0 (W : WF h) : gR h 2 9 0 = some 3 := gR_at W (rf_H (by omega) rfl (by omega))
theorem gH1 (W : WF h) : gR h 2 9 1 = some 32 := gR_at W (rf_H (by omega) rfl (by omega))
theorem gH2 (W : WF h) : gR h 2 9 2 = some 266 := gR_at W (rf_H (by omega) rfl (by omega))
theorem gH3 (W : WF h) : gR h 2 9 3 = some 289 := gR_at W (rf_H (by omega) rfl (by omega))
theorem gH4 (W : WF h) : gR h 2 9 4 = some 293 := gR_at W (rf_H (by omega) rfl (by omega))
theorem gH5 (W : WF h) : gR h 2 9 5 = some 297 := gR_at W (rf_H (by omega) rfl (by omega))
theorem gH6 (W : WF h) : gR h 2 9 6 = some 302 := gR_at W (rf_H (by omega) rfl (by omega))
theorem gH7 (W : WF h) : gR h 2 9 7 = some 306 := gR_at W (rf_H (by omega) rfl (by omega))
theorem gH8 (W : WF h) : gR h 2 9 8 = some 317 := gR_at W (rf_H (by omega) rfl (by omega))
theorem gS0 (W : WF h) : gR h 3 7 0 = some 4 := gR_S0 W (s := 3) (Or.inl rfl)
theorem gS1 (W : WF h) : gR h 3 7 1 = some 27 := gR_S1 W (s := 3) (Or.inl rfl)
theorem isH (W : WF h) : isO h 2 9 = some () := isO_at W ⟨by omega, by omega, rfl⟩
theorem isHi (W : WF h) : isO h 32 0 = some () := isO_at W ⟨by omega, by omega, rfl⟩
end
theorem R4 : RB 4 := Or.inl rfl
theorem R266 : RB 266 := Or.inr (Or.inl rfl)
theorem N27 : NB 27 := Or.inl rfl
theorem K289 : KB 289 := Or.inl rfl
theorem K293 : KB 293 := Or.inr rfl
theorem S3 : SB 3 := Or.inl rfl
theorem then_l {α β : Type} {v : α} {h : mxH} {f : α → mxH → Option ((β ⊕ String) × mxH)} : mxThen (some (.inl v, h)) f = f v h := rfl
theorem then_r {α β : Type} {E : String} {h : mxH} {f : α → mxH → Option ((β ⊕ String) × mxH)} : mxThen (some (.inr E, h)) f = some (.inr E, h) := rfl
def IX : String := "java/lang/IndexOutOfBoundsException"
def IA : String := "java/lang/IllegalArgumentException"
def NS : String := "java/util/NoSuchElementException"
def inI (p a b : Int32) : Bool := !decide (p < a) && !decide (b < p)
theorem inI_N {p : Int32} {n : Nat} (hn : 1 ≤ n) (hn2 : n < 2147483648) : inI p 0 (Int32.ofNat (n - 1)) = inN p n := by
  unfold inI inN
  have e0 : (0 : Int32).toInt = 0 := by decide
  by_cases c1 : p < 0
  · simp [c1]
  · have : decide (Int32.ofNat (n - 1) < p) = !decide (p < Int32.ofNat n) := by
      by_cases c2 : p < Int32.ofNat n
      · rw [decide_eq_true c2, decide_eq_false]
        · rfl
        · rw [i32_lt, ofN_int (by omega)] at *; omega
      · rw [decide_eq_false c2, decide_eq_true]
        · rfl
        · rw [i32_lt, ofN_int (by omega)] at *; omega
    rw [this, Bool.not_not]
    simp [c1]
theorem ofN_mul (a b : Nat) : Int32.ofNat a * Int32.ofNat b = Int32.ofNat (a * b) := (Int32.ofNat_mul a b).symm
theorem fst1_eq {p : Nat → Bool} {N j : Nat} (h1 : ∀ d, d < j → p d = false) (h2 : j < N → p j = true) (h3 : j ≤ N) : fst1 p N = j := by
  have hl := fst1_le p N
  have hs := fst1_spec p N
  by_cases c : fst1 p N < j
  · have a := hs.2 (by omega)
    rw [h1 _ c] at a; cases a
  · by_cases c2 : j < fst1 p N
    · have a := hs.1 j c2
      rw [h2 (by omega)] at a; cases a
    · omega
section
variable {h : mxH} {p q : Int32}
theorem rq_row {k : Nat} (hk : k < 5) : fX9_requireRow (Int32.ofNat k) h = some (.inl (), h) := by
  unfold fX9_requireRow
  simp only [isRow_k hk, bN, e10, if_false]
theorem rq_thing {k : Nat} (hk : k < 20) : fX9_requireThing (Int32.ofNat k) h = some (.inl (), h) := by
  unfold fX9_requireThing
  simp only [isThing_k hk, bN, e10, if_false]
theorem rq_range {a b : Int32} (hp : inI p a b = true) : fX9_requireRange p a b h = some (.inl (), h) := by
  simp only [inI, Bool.and_eq_true, Bool.not_eq_true', decide_eq_false_iff_not] at hp
  unfold fX9_requireRange
  rw [if_neg hp.1, if_pos (Int32.not_lt.mp hp.2)]
theorem rq_place {k s : Nat} (hk : k < s) (hs : s < 2147483648) : fX9_requirePlace (Int32.ofNat k) (Int32.ofNat s) h = some (.inl (), h) := by
  unfold fX9_requirePlace
  rw [if_neg (ofN_nn (by omega)), if_pos ((ofN_lt (by omega) hs).mpr hk)]
theorem rq_found : fX9_requireFound 1 h = some (.inl (), h) := rfl
theorem rq_foundN {h1 : mxH} (e : nwX h = some h1) : fX9_requireFound 0 h = some (.inr NS, h1) := by
  unfold fX9_requireFound
  simp only [e, bN]
  rfl
end
theorem inI_mk {k a b : Nat} (h1 : a ≤ k) (h2 : k ≤ b) (hb : b < 2147483648) : inI (Int32.ofNat k) (Int32.ofNat a) (Int32.ofNat b) = true := by
  unfold inI
  rw [decide_eq_false (fun z => by have := (ofN_lt (show k < 2147483648 by omega) (show a < 2147483648 by omega)).mp z; omega), decide_eq_false (fun z => by have := (ofN_lt hb (show k < 2147483648 by omega)).mp z; omega)]
  rfl
theorem inK_mk {k : Nat} (h1 : 1 ≤ k) (h2 : k ≤ 20) : inI (Int32.ofNat k) 1 20 = true := inI_mk (a := 1) (b := 20) h1 h2 (by omega)
theorem in99_mk {k : Nat} (h2 : k < 100) : inI (Int32.ofNat k) 0 99 = true := inI_mk (a := 0) (b := 99) (by omega) (by omega) (by omega)
theorem bF {b : Bool} (h : ¬ b = true) : b = false := by simpa using h
theorem em10 : ((-1 : Int32) = -1) = True := eq_self _
