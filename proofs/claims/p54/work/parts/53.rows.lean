/-! THE PURE SIDE, 4: the rows: the reference's row of numbers n, and what the class keeps of it -/
def bef (f : Nat → Int32) (s t : Nat) : Bool := decide (f t < f s) || (decide (f s = f t) && decide (s < t))
def mkf (n : Nat → Int32) (r : Nat) : Nat → Int32 := fun t => n (20 * r + t)
def hs (n : Nat → Int32) (r t : Nat) : Bool := decide (n (20 * r + t) ≠ -1)
def itm (n : Nat → Int32) (r : Nat) : Nat := cnt (hs n r) 20
def pla (n : Nat → Int32) (r t : Nat) : Nat := cnt (fun s => bef (mkf n r) s t) 20
def thi (n : Nat → Int32) (r p : Nat) : Nat := fst1 (fun t => hs n r t && (pla n r t == p)) 20
def fpl (n : Nat → Int32) (t : Nat) : Nat := fo (fun m i => if hs n i t then min m (pla n i t) else m) 20 5
/-- marks are not below 0 -/
def MG (n : Nat → Int32) : Prop := ∀ k, k < 100 → n k = -1 ∨ ∃ m, m < 100 ∧ n k = Int32.ofNat m
theorem MG_nn {n : Nat → Int32} (G : MG n) {k : Nat} (hk : k < 100) (h : n k ≠ -1) : 0 ≤ n k := by
  rcases G k hk with e | ⟨m, hm, e⟩
  · exact absurd e h
  · rw [e]; exact (ofN_le (a := 0) (by omega) (by omega)).mpr (by omega)
theorem bef_iff {f : Nat → Int32} {s t : Nat} : bef f s t = true ↔ f t < f s ∨ (f s = f t ∧ s < t) := by
  simp only [bef, Bool.or_eq_true, Bool.and_eq_true, decide_eq_true_eq]
theorem bef_irr (f : Nat → Int32) (t : Nat) : bef f t t = false := by
  simp [bef]
theorem bef_trans {f : Nat → Int32} {a b c : Nat} (h1 : bef f a b = true) (h2 : bef f b c = true) : bef f a c = true := by
  simp only [bef, Bool.or_eq_true, Bool.and_eq_true, decide_eq_true_eq, i32_lt, i32_eq] at *
  omega
theorem bef_total {f : Nat → Int32} {a b : Nat} (h : a ≠ b) : bef f a b = true ∨ bef f b a = true := by
  simp only [bef, Bool.or_eq_true, Bool.and_eq_true, decide_eq_true_eq, i32_lt, i32_eq]
  omega
theorem bef_not {f : Nat → Int32} {a b : Nat} (h : bef f a b = true) : bef f b a = false := by
  by_cases q : bef f b a = true
  · have := bef_trans h q
    rw [bef_irr] at this; cases this
  · simpa using q
theorem pla_lt {n : Nat → Int32} {r s t : Nat} (hs : s < 20) (h : bef (mkf n r) s t = true) : pla n r s < pla n r t :=
  cnt_lt (fun k _ q => bef_trans q h) hs (bef_irr _ _) h
theorem pla_inj {n : Nat → Int32} {r s t : Nat} (hs : s < 20) (ht : t < 20) (e : pla n r s = pla n r t) : s = t := by
  by_cases q : s = t
  · exact q
  · rcases bef_total (f := mkf n r) q with h | h
    · have := pla_lt (n := n) hs h; omega
    · have := pla_lt (n := n) ht h; omega
theorem pla_20 {n : Nat → Int32} {r t : Nat} (ht : t < 20) : pla n r t < 20 := by
  have h1 : pla n r t < cnt (fun _ => true) 20 := cnt_lt (fun _ _ _ => rfl) ht (bef_irr _ _) rfl
  have h2 := cnt_le (fun _ => true) 20
  omega
theorem bef_has {n : Nat → Int32} (G : MG n) {r s t : Nat} (hr : r < 5) (ht : t < 20) (h : bef (mkf n r) s t = true) (q : hs n r t = true) : hs n r s = true := by
  simp only [hs, decide_eq_true_eq] at *
  have := MG_nn G (by omega) q
  intro e
  have e : mkf n r s = -1 := e
  have e1 : (-1 : Int32).toInt = -1 := by decide
  have e0 : (0 : Int32).toInt = 0 := by decide
  have h9 : (0 : Int32) ≤ mkf n r t := this
  rw [i32_le, e0] at h9
  rcases bef_iff.mp h with h | h
  · rw [i32_lt, e, e1] at h; omega
  · have h8 := congrArg Int32.toInt h.1; rw [e, e1] at h8; omega
theorem pla_itm {n : Nat → Int32} (G : MG n) {r t : Nat} (hr : r < 5) (ht : t < 20) (q : hs n r t = true) : pla n r t < itm n r :=
  cnt_lt (fun k _ hk => bef_has G hr ht hk q) ht (bef_irr _ _) q
theorem itm_20 (n : Nat → Int32) (r : Nat) : itm n r ≤ 20 := cnt_le _ _
/-- who stands at a place -/
theorem thi_spec {n : Nat → Int32} (G : MG n) {r p : Nat} (hr : r < 5) (hp : p < itm n r) : thi n r p < 20 ∧ hs n r (thi n r p) = true ∧ pla n r (thi n r p) = p := by
  obtain ⟨t, h1, h2, h3⟩ := pigeon_onto (p := hs n r) (n := 20) (f := pla n r) (fun t ht q => pla_itm G hr ht q) (fun s t hs ht _ _ e => pla_inj hs ht e) hp
  have hf := fst1_found (p := fun t => hs n r t && (pla n r t == p)) h1 (by simp [h2, h3])
  have := (fst1_spec (fun t => hs n r t && (pla n r t == p)) 20).2 hf
  simp only [Bool.and_eq_true, beq_iff_eq] at this
  exact ⟨hf, this.1, this.2⟩
theorem thi_of {n : Nat → Int32} (G : MG n) {r t : Nat} (hr : r < 5) (ht : t < 20) (q : hs n r t = true) : thi n r (pla n r t) = t := by
  obtain ⟨h1, h2, h3⟩ := thi_spec G hr (pla_itm G hr ht q)
  exact pla_inj h1 ht h3
/-! the Rows objects -/
def RB (r : Nat) : Prop := r = 4 ∨ r = 266 ∨ ∃ q, q < 8 ∧ r = 35 + 29 * q
theorem RB_le {r : Nat} (R : RB r) : 4 ≤ r ∧ r ≤ 266 := by
  rcases R with rfl | rfl | ⟨q, h, rfl⟩ <;> omega
theorem lay_R {r o : Nat} (R : RB r) (ho : o < 23) : lay (r + o) = layR r o := by
  rcases R with rfl | rfl | ⟨q, h, rfl⟩
  · unfold lay layS
    rw [if_neg (by omega), if_pos (by omega), if_neg (by omega), if_pos (by omega)]
    rw [show 4 + o - 3 - 1 = o by omega]
  · unfold lay
    rw [if_neg (by omega), if_neg (by omega), if_neg (by omega), if_neg (by omega), if_neg (by omega), if_pos (by omega)]
    rw [show 266 + o - 266 = o by omega]
  · unfold lay layS
    rw [if_neg (by omega), if_neg (by omega), if_neg (by omega), if_neg (by omega), if_pos (by omega), if_neg (by omega), if_pos (by omega)]
    rw [show (35 + 29 * q + o - 34) / 29 = q by omega, show (35 + 29 * q + o - 34) % 29 - 1 = o by omega, show 34 + 29 * q + 1 = 35 + 29 * q by omega]
theorem i5 {i : Nat} (h : i < 5) : i = 0 ∨ i = 1 ∨ i = 2 ∨ i = 3 ∨ i = 4 := by omega
theorem ar_R {r o n : Nat} (R : RB r) (ho : o < 23) (e : layR r o = (100, n, [])) : ar (r + o) n := by
  have := RB_le R
  exact ⟨by omega, by omega, by rw [lay_R R ho, e], by rw [lay_R R ho, e]⟩
theorem ar_mk {r i : Nat} (R : RB r) (hi : i < 5) : ar (r + 2 + i) 20 := by
  rw [Nat.add_assoc]
  refine ar_R R (by omega) ?_
  rcases i5 hi with rfl | rfl | rfl | rfl | rfl <;> rfl
theorem ar_pl {r i : Nat} (R : RB r) (hi : i < 5) : ar (r + 8 + i) 20 := by
  rw [Nat.add_assoc]
  refine ar_R R (by omega) ?_
  rcases i5 hi with rfl | rfl | rfl | rfl | rfl <;> rfl
theorem ar_th {r i : Nat} (R : RB r) (hi : i < 5) : ar (r + 14 + i) 20 := by
  rw [Nat.add_assoc]
  refine ar_R R (by omega) ?_
  rcases i5 hi with rfl | rfl | rfl | rfl | rfl <;> rfl
theorem ar_sz {r : Nat} (R : RB r) : ar (r + 19) 5 := ar_R R (by omega) rfl
theorem ar_wt {r : Nat} (R : RB r) : ar (r + 20) 5 := ar_R R (by omega) rfl
theorem ar_fp {r : Nat} (R : RB r) : ar (r + 21) 20 := ar_R R (by omega) rfl
theorem ar_pt {r : Nat} (R : RB r) : ar (r + 22) 5 := ar_R R (by omega) rfl
theorem lay_R0 {r : Nat} (R : RB r) : lay r = (6, 8, [r + 1, r + 7, r + 13, r + 19, r + 20, r + 21, 0, r + 22]) := lay_R (o := 0) R (by omega)
theorem rf_R {r j b : Nat} (R : RB r) (hj : j < 8) (e : ([r + 1, r + 7, r + 13, r + 19, r + 20, r + 21, 0, r + 22] : List Nat).getD j 0 = b) (hb : b ≠ 0) : rf r 6 j b := by
  have := RB_le R
  exact ⟨by omega, by omega, by rw [lay_R0 R], by omega, by rw [lay_R0 R]; exact hj, by rw [lay_R0 R]; exact e, hb⟩
theorem gR_m {h : mxH} (W : WF h) {r : Nat} (R : RB r) : gR h r 6 0 = some (r + 1) := gR_at W (rf_R R (by omega) rfl (by omega))
theorem gR_p {h : mxH} (W : WF h) {r : Nat} (R : RB r) : gR h r 6 1 = some (r + 7) := gR_at W (rf_R R (by omega) rfl (by omega))
theorem gR_t {h : mxH} (W : WF h) {r : Nat} (R : RB r) : gR h r 6 2 = some (r + 13) := gR_at W (rf_R R (by omega) rfl (by omega))
theorem gR_s {h : mxH} (W : WF h) {r : Nat} (R : RB r) : gR h r 6 3 = some (r + 19) := gR_at W (rf_R R (by omega) rfl (by omega))
theorem gR_w {h : mxH} (W : WF h) {r : Nat} (R : RB r) : gR h r 6 4 = some (r + 20) := gR_at W (rf_R R (by omega) rfl (by omega))
theorem gR_f {h : mxH} (W : WF h) {r : Nat} (R : RB r) : gR h r 6 5 = some (r + 21) := gR_at W (rf_R R (by omega) rfl (by omega))
theorem gR_x {h : mxH} (W : WF h) {r : Nat} (R : RB r) : gR h r 6 7 = some (r + 22) := gR_at W (rf_R R (by omega) rfl (by omega))
theorem fd_rule {r : Nat} (R : RB r) : fd r 6 6 := by
  have := RB_le R
  exact ⟨by omega, by omega, by rw [lay_R0 R], by omega, by rw [lay_R0 R]; exact (by decide : 6 < 8), by rw [lay_R0 R]; rfl⟩
theorem isO_R {h : mxH} (W : WF h) {r : Nat} (R : RB r) : isO h r 6 = some () := by
  have := RB_le R
  exact isO_at W ⟨by omega, by omega, by rw [lay_R0 R]⟩
theorem ldR_m {h : mxH} (W : WF h) {r i : Nat} (R : RB r) (hi : i < 5) : ldR h (r + 1) (Int32.ofNat i) = some (r + 2 + i) := by
  have := RB_le R
  refine ldR_at W ⟨by omega, by omega, by rw [lay_R R (by omega)]; rfl, by rw [lay_R R (by omega)]; exact hi, ?_⟩
  rw [lay_R R (by omega)]
  rcases i5 hi with rfl | rfl | rfl | rfl | rfl <;> rfl
theorem ldR_p {h : mxH} (W : WF h) {r i : Nat} (R : RB r) (hi : i < 5) : ldR h (r + 7) (Int32.ofNat i) = some (r + 8 + i) := by
  have := RB_le R
  refine ldR_at W ⟨by omega, by omega, by rw [lay_R R (by omega)]; rfl, by rw [lay_R R (by omega)]; exact hi, ?_⟩
  rw [lay_R R (by omega)]
  rcases i5 hi with rfl | rfl | rfl | rfl | rfl <;> rfl
theorem ldR_t {h : mxH} (W : WF h) {r i : Nat} (R : RB r) (hi : i < 5) : ldR h (r + 13) (Int32.ofNat i) = some (r + 14 + i) := by
  have := RB_le R
  refine ldR_at W ⟨by omega, by omega, by rw [lay_R R (by omega)]; rfl, by rw [lay_R R (by omega)]; exact hi, ?_⟩
  rw [lay_R R (by omega)]
  rcases i5 hi with rfl | rfl | rfl | rfl | rfl <;> rfl
/-- the rows at r are those of n -/
def RR (h : mxH) (r : Nat) (n : Nat → Int32) : Prop :=
  (∀ i t, i < 5 → t < 20 → V h (r + 2 + i) t = n (20 * i + t)) ∧
  (∀ i t, i < 5 → t < 20 → V h (r + 8 + i) t = if hs n i t then Int32.ofNat (pla n i t) else -1) ∧
  (∀ i p, i < 5 → p < 20 → V h (r + 14 + i) p = if p < itm n i then Int32.ofNat (thi n i p) else -1) ∧
  (∀ i, i < 5 → V h (r + 19) i = Int32.ofNat (itm n i)) ∧
  (∀ i, i < 5 → V h (r + 20) i = n (100 + i)) ∧
  (∀ t, t < 20 → V h (r + 21) t = Int32.ofNat (fpl n t)) ∧
  V h r 6 = n 105
theorem RR_fr {P : Nat → Prop} {h h1 : mxH} {r : Nat} {n : Nat → Int32} (R : RB r) (a : RR h r n) (f : Fr P h h1) (hp : ∀ o, o < 22 → ¬ P (r + o)) : RR h1 r n := by
  have := RB_le R
  obtain ⟨a1, a2, a3, a4, a5, a6, a7⟩ := a
  have e : ∀ o, o < 22 → V h1 (r + o) = V h (r + o) := fun o ho => Fr_V f (by omega) (hp o ho)
  refine ⟨fun i t hi ht => ?_, fun i t hi ht => ?_, fun i t hi ht => ?_, fun i hi => ?_, fun i hi => ?_, fun t ht => ?_, ?_⟩
  · rw [Nat.add_assoc, e _ (by omega), ← Nat.add_assoc]; exact a1 i t hi ht
  · rw [Nat.add_assoc, e _ (by omega), ← Nat.add_assoc]; exact a2 i t hi ht
  · rw [Nat.add_assoc, e _ (by omega), ← Nat.add_assoc]; exact a3 i t hi ht
  · rw [e _ (by omega)]; exact a4 i hi
  · rw [e _ (by omega)]; exact a5 i hi
  · rw [e _ (by omega)]; exact a6 t ht
  · have := e 0 (by omega); rw [Nat.add_zero] at this; rw [this]; exact a7
