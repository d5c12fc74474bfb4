/-! THE PURE SIDE, 41: what the rows say of stops, bounds, keys, votes (begun from the rows of whole) -/
theorem rd_knw {n : Nat → Int32} {t d : Nat} (hd : d ≤ 20) (h : rdAt n t d = true) : knw n t = true := rdAt_mono hd h
theorem nat_k {k s x : Nat} (hk : 1 ≤ k) (h : k ≤ s) (h2 : s ≤ x) (h3 : x = k - 1) : False := by omega
theorem sur_iff {n : Nat → Int32} {d k : Nat} (hd : d ≤ 20) (hk : 1 ≤ k) : k ≤ sur n d ↔ k ≤ rdT n d ∧ ¬ val n (bst n d (k - 1)) < lim n d := by
  have S := bef_STO (val n) 20
  have hv : ∀ t, rdAt n t d = true → bvl n t = val n t := fun t h => if_pos (rd_knw hd h)
  constructor
  · intro h
    have h1 : sur n d ≤ rdT n d := cnt_mono (fun t _ q => by simp only [Bool.and_eq_true] at q; exact q.2)
    have hr : k ≤ rdT n d := Nat.le_trans h h1
    refine ⟨hr, fun c => ?_⟩
    obtain ⟨b1, b2, b3⟩ := nrL_spec (P := fun t => rdAt n t d) S (j := k - 1) (show k - 1 < rdT n d from Nat.lt_of_lt_of_le (by clear h h1 hr; omega) hr)
    have h2 : sur n d ≤ rkL (bef (val n)) (fun t => rdAt n t d) 20 (bst n d (k - 1)) := cnt_mono (fun t _ q => by
      simp only [Bool.and_eq_true, Bool.not_eq_true', decide_eq_false_iff_not] at q ⊢
      refine ⟨q.2, bef_iff.mpr (Or.inl ?_)⟩
      have q1 := q.1
      rw [hv t q.2] at q1
      exact i32_lt.mpr (Int.lt_of_lt_of_le (i32_lt.mp c) (Int.not_lt.mp (fun z => q1 (i32_lt.mpr z)))))
    have h3 : rkL (bef (val n)) (fun t => rdAt n t d) 20 (bst n d (k - 1)) = k - 1 := b3
    exact nat_k hk h h2 h3
  · rintro ⟨h1, h2⟩
    have b : ∀ i, i < k → bst n d i < 20 ∧ rdAt n (bst n d i) d = true := fun i hi => by
      obtain ⟨b1, b2, b3⟩ := nrL_spec (P := fun t => rdAt n t d) S (j := i) (show i < rdT n d by omega)
      exact ⟨b1, b2⟩
    have := cnt_inj (n := k) (p := fun _ => true) (m := 20) (f := bst n d) (q := fun t => !decide (bvl n t < lim n d) && rdAt n t d) (fun i hi _ => ⟨(b i hi).1, by
      simp only [Bool.and_eq_true, Bool.not_eq_true', decide_eq_false_iff_not]
      refine ⟨?_, (b i hi).2⟩
      rw [hv _ (b i hi).2]
      by_cases e : i = k - 1
      · rw [e]; exact h2
      · have h4 := nrL_lt (P := fun t => rdAt n t d) S (show i < k - 1 by omega) (show k - 1 < rdT n d by omega)
        have h4 : bef (val n) (bst n d i) (bst n d (k - 1)) = true := h4
        rcases bef_iff.mp h4 with z | z
        · exact fun y => h2 (i32_lt.mpr (Int.lt_trans (i32_lt.mp z) (i32_lt.mp y)))
        · rw [z.1]; exact h2⟩) (fun i j hi hj _ _ e => by
      have e : bst n d i = bst n d j := e
      obtain ⟨_, _, a3⟩ := nrL_spec (P := fun t => rdAt n t d) S (j := i) (show i < rdT n d by omega)
      obtain ⟨_, _, c3⟩ := nrL_spec (P := fun t => rdAt n t d) S (j := j) (show j < rdT n d by omega)
      have e2 : rkL (bef (val n)) (fun t => rdAt n t d) 20 (bst n d i) = rkL (bef (val n)) (fun t => rdAt n t d) 20 (bst n d j) := by rw [e]
      have a3 : rkL (bef (val n)) (fun t => rdAt n t d) 20 (bst n d i) = i := a3
      have c3 : rkL (bef (val n)) (fun t => rdAt n t d) 20 (bst n d j) = j := c3
      exact a3.symm.trans (e2.trans c3))
    rw [cnt_all] at this
    exact this
def ovr (n : Nat → Int32) (d : Nat) (v : Int32) : Nat → Bool := fun s => rdAt n s d && decide (v < upp n s d)
def rch (n : Nat → Int32) (d : Nat) (v : Int32) : Nat → Bool := fun s => rdAt n s d && !decide (low n s d < v)
def bad (n : Nat → Int32) (d : Nat) (v : Int32) : Nat → Bool := fun s => ovr n d v s && decide (low n s d < v)
def areS (n : Nat → Int32) (d k : Nat) (L : Int32) (t : Nat) : Bool := rdAt n t d && decide (L ≤ low n t d) && !orT (bad n d (low n t d)) 20 && decide (cnt (ovr n d (low n t d)) 20 ≤ k) && decide (k ≤ cnt (rch n d (low n t d)) 20)
theorem mxMax_mono {a b c d : Int32} (h1 : a ≤ c) (h2 : b ≤ d) : mxMax a b ≤ mxMax c d := by
  unfold mxMax
  rw [i32_le] at *
  simp only [i32_lt]
  split <;> split <;> omega
theorem sum5_mono {x y : Nat → Int32} (hx : ∀ i, i < 5 → ∃ a, a < 496 ∧ x i = Int32.ofNat a) (hy : ∀ i, i < 5 → ∃ a, a < 496 ∧ y i = Int32.ofNat a) (h : ∀ i, i < 5 → x i ≤ y i) : sum5 x ≤ sum5 y := by
  have key : ∀ k, k ≤ 5 → ∃ a b, fo (fun s i => s + x i) 0 k = Int32.ofNat a ∧ fo (fun s i => s + y i) 0 k = Int32.ofNat b ∧ a ≤ b ∧ b ≤ 496 * k := by
    intro k
    induction k with
    | zero => intro _; exact ⟨0, 0, rfl, rfl, Nat.le_refl _, Nat.zero_le _⟩
    | succ k ih =>
      intro hk
      obtain ⟨a, b, h1, h2, h3, h4⟩ := ih (by omega)
      obtain ⟨p, hp, ep⟩ := hx k (by omega)
      obtain ⟨q, hq, eq⟩ := hy k (by omega)
      have hpq := h k (by omega)
      rw [ep, eq, ofN_le (by omega) (by omega)] at hpq
      refine ⟨a + p, b + q, ?_, ?_, by omega, by omega⟩
      · show fo (fun s i => s + x i) 0 k + x k = _
        rw [h1, ep, ofN_add]
      · show fo (fun s i => s + y i) 0 k + y k = _
        rw [h2, eq, ofN_add]
  obtain ⟨a, b, h1, h2, h3, h4⟩ := key 5 (Nat.le_refl _)
  unfold sum5
  rw [h1, h2, ofN_le (by omega) (by omega)]; exact h3
theorem max5_mono {x y : Nat → Int32} (h : ∀ i, i < 5 → x i ≤ y i) : max5 x ≤ max5 y := by
  have key : ∀ k, k ≤ 5 → fo (fun s i => mxMax s (x i)) 0 k ≤ fo (fun s i => mxMax s (y i)) 0 k := by
    intro k
    induction k with
    | zero => intro _; show (0 : Int32) ≤ 0; exact Int32.le_refl _
    | succ k ih => intro hk; exact mxMax_mono (ih (by omega)) (h k (by omega))
  exact key 5 (Nat.le_refl _)
def lg (w x : Nat → Int32) : Int32 → Nat → Int32 := fun s i => if 0 < w i ∧ (s = -1 ∨ x i < s) then x i else s
theorem lg_step {w x y : Nat → Int32} {s s' : Int32} {k : Nat} (h0 : 0 ≤ x k) (h : x k ≤ y k) (ih : (s = -1 ∧ s' = -1) ∨ (0 ≤ s ∧ s ≤ s')) : (lg w x s k = -1 ∧ lg w y s' k = -1) ∨ (0 ≤ lg w x s k ∧ lg w x s k ≤ lg w y s' k) := by
  have e0 : (0 : Int32).toInt = 0 := by decide
  have em : (-1 : Int32).toInt = -1 := by decide
  unfold lg
  by_cases w : 0 < w k
  · simp only [w, true_and]
    simp only [i32_lt, i32_le, i32_eq, e0, em] at *
    split <;> split <;> omega
  · simp only [w, false_and, if_false]
    exact ih
theorem least5_mono {w x y : Nat → Int32} (h0 : ∀ i, i < 5 → 0 ≤ x i) (h : ∀ i, i < 5 → x i ≤ y i) : least5 w x ≤ least5 w y := by
  have key : ∀ k, k ≤ 5 → (fo (lg w x) (-1) k = -1 ∧ fo (lg w y) (-1) k = -1) ∨ (0 ≤ fo (lg w x) (-1) k ∧ fo (lg w x) (-1) k ≤ fo (lg w y) (-1) k) := by
    intro k
    induction k with
    | zero => intro _; exact Or.inl ⟨rfl, rfl⟩
    | succ k ih => intro hk; exact lg_step (h0 k (by omega)) (h k (by omega)) (ih (by omega))
  show fo (lg w x) (-1) 5 ≤ fo (lg w y) (-1) 5
  rcases key 5 (Nat.le_refl _) with ⟨a, b⟩ | ⟨a, b⟩
  · rw [a, b]; exact Int32.le_refl _
  · exact b
theorem rl_mono {n x y : Nat → Int32} (hx : ∀ i, i < 5 → ∃ a, a < 496 ∧ x i = Int32.ofNat a) (hy : ∀ i, i < 5 → ∃ a, a < 496 ∧ y i = Int32.ofNat a) (h : ∀ i, i < 5 → x i ≤ y i) : rl n x ≤ rl n y := by
  have x0 : ∀ i, i < 5 → 0 ≤ x i := fun i hi => by obtain ⟨a, h1, h2⟩ := hx i hi; rw [h2]; exact ofN_0le (by omega)
  unfold rl
  by_cases c1 : n 105 = 0
  · rw [if_pos c1, if_pos c1]; exact sum5_mono hx hy h
  · rw [if_neg c1, if_neg c1]
    by_cases c2 : n 105 = 1
    · rw [if_pos c2, if_pos c2]; exact mxMax_mono (least5_mono x0 h) (Int32.le_refl _)
    · rw [if_neg c2, if_neg c2]; exact max5_mono h
theorem low_upp {n : Nat → Int32} (G : MG n) (H : WG n) {t d : Nat} (ht : t < 20) (hd : 1 ≤ d) : low n t d ≤ upp n t d := by
  unfold low upp
  refine rl_mono (fun i hi => ?_) (fun i hi => ?_) (fun i hi => ?_)
  · split
    · exact wm_nat G H hi ht
    · exact ⟨0, by omega, rfl⟩
  · split
    · exact wm_nat G H hi ht
    · exact lm_nat G H hi hd
  · split
    · exact Int32.le_refl _
    · exact lm_0 G H hi hd
theorem setl_iff {n : Nat → Int32} {d k : Nat} : setl n d k = true ↔ k ≤ rdT n d ∧ ¬ low n (bnr n d (k - 1)) d < lim n d ∧ ∀ j, k ≤ j → j < rdT n d → ¬ low n (bnr n d (k - 1)) d < upp n (bnr n d j) d := by
  unfold setl setB
  simp only [Bool.and_eq_true, Bool.not_eq_true', decide_eq_true_eq, decide_eq_false_iff_not, orT_false, Bool.and_eq_false_iff]
  constructor
  · rintro ⟨⟨h1, h2⟩, h3⟩
    exact ⟨h1, h2, fun j a b => (h3 j b).resolve_left (fun z => z a)⟩
  · rintro ⟨h1, h2, h3⟩
    exact ⟨⟨h1, h2⟩, fun j b => by
      by_cases a : k ≤ j
      · exact Or.inr (h3 j a b)
      · exact Or.inl a⟩
theorem sure_eq {n : Nat → Int32} (G : MG n) (H : WG n) {d k : Nat} (hd : 1 ≤ d) (hk : 1 ≤ k) : orT (areS n d k (lim n d)) 20 = setl n d k := by
  have S := befB_STO n d 20
  have nr : ∀ j, j < rdT n d → bnr n d j < 20 ∧ rdAt n (bnr n d j) d = true ∧ rkL (befB n d) (fun t => rdAt n t d) 20 (bnr n d j) = j := fun j hj => nrL_spec (P := fun t => rdAt n t d) S hj
  have nl : ∀ i j, i < j → j < rdT n d → befB n d (bnr n d i) (bnr n d j) = true := fun i j hij hj => nrL_lt (P := fun t => rdAt n t d) S hij hj
  have no : ∀ t, t < 20 → rdAt n t d = true → rkL (befB n d) (fun t => rdAt n t d) 20 t < rdT n d ∧ bnr n d (rkL (befB n d) (fun t => rdAt n t d) 20 t) = t := fun t ht h => ⟨rkL_cnt S ht h, nrL_of S ht h⟩
  have lle : ∀ i j, i ≤ j → j < rdT n d → low n (bnr n d j) d ≤ low n (bnr n d i) d := fun i j hij hj => by
    by_cases e : i = j
    · rw [e]; exact Int32.le_refl _
    · rcases befB_iff.mp (nl i j (by omega) hj) with z | z
      · rw [i32_lt] at z; rw [i32_le]; omega
      · rw [z.1]; exact Int32.le_refl _
  have bi : ∀ i j, i < rdT n d → j < rdT n d → bnr n d i = bnr n d j → i = j := fun i j hi hj e => by
    have a := (nr i hi).2.2
    rw [e, (nr j hj).2.2] at a; omega
  have hb : ∀ (a b : Bool), (a = true ↔ b = true) → a = b := fun a b h => by
    cases a <;> cases b
    · rfl
    · exact absurd (h.mpr rfl) (by decide)
    · exact absurd (h.mp rfl) (by decide)
    · rfl
  apply hb
  rw [orT_iff, setl_iff]
  constructor
  · rintro ⟨t, ht, h⟩
    simp only [areS, Bool.and_eq_true, Bool.not_eq_true', decide_eq_true_eq] at h
    obtain ⟨⟨⟨⟨c, c1⟩, z⟩, c3⟩, c4⟩ := h
    have z := orT_false.mp z
    generalize low n t d = v at c1 z c3 c4
    have h1 : k ≤ rdT n d := Nat.le_trans c4 (cnt_mono (fun s _ q => by simp only [rch, Bool.and_eq_true] at q; exact q.1))
    have h2 : v ≤ low n (bnr n d (k - 1)) d := by
      by_cases q : v ≤ low n (bnr n d (k - 1)) d
      · exact q
      · exfalso
        have : cnt (rch n d v) 20 ≤ rkL (befB n d) (fun t => rdAt n t d) 20 (bnr n d (k - 1)) := cnt_mono (fun s _ y => by
          simp only [rch, Bool.and_eq_true, Bool.not_eq_true', decide_eq_false_iff_not] at y ⊢
          refine ⟨y.1, befB_iff.mpr (Or.inl ?_)⟩
          have y2 := y.2
          rw [i32_lt] at *
          rw [i32_le] at q
          omega)
        rw [(nr (k - 1) (by omega)).2.2] at this
        omega
    refine ⟨h1, ?_, fun j hj hj2 q => ?_⟩
    · rw [i32_lt]; rw [i32_le] at c1 h2; omega
    · have uj : v < upp n (bnr n d j) d := by rw [i32_lt] at *; rw [i32_le] at h2; omega
      have lj : v ≤ low n (bnr n d j) d := by
        have := z _ (nr j hj2).1
        simp only [bad, ovr, (nr j hj2).2.1, Bool.true_and, decide_eq_true uj, decide_eq_false_iff_not] at this
        exact Int32.not_lt.mp this
      have all : ∀ i, i < k → ovr n d v (bnr n d i) = true := fun i hi => by
        have hi2 : i < rdT n d := by omega
        have hlu := low_upp G H (n := n) (nr i hi2).1 hd
        have l1 := lle i (k - 1) (by omega) (by omega)
        have l2 := lle (k - 1) j (by omega) hj2
        have := befB_iff.mp (nl i j (by omega) hj2)
        simp only [ovr, (nr i hi2).2.1, Bool.true_and, decide_eq_true_eq]
        simp only [i32_lt, i32_le, i32_eq] at *
        omega
      have oj : ovr n d v (bnr n d j) = true := by simp only [ovr, (nr j hj2).2.1, Bool.true_and, decide_eq_true uj]
      have := cnt_inj (n := k + 1) (p := fun _ => true) (m := 20) (f := fun i => if i = k then bnr n d j else bnr n d i) (q := ovr n d v) (fun i hi _ => by
        show (if i = k then bnr n d j else bnr n d i) < 20 ∧ ovr n d v (if i = k then bnr n d j else bnr n d i) = true
        by_cases e : i = k
        · rw [if_pos e]; exact ⟨(nr j hj2).1, oj⟩
        · rw [if_neg e]; exact ⟨(nr i (by omega)).1, all i (by omega)⟩) (fun a b ha hb _ _ e => by
        have e : (if a = k then bnr n d j else bnr n d a) = (if b = k then bnr n d j else bnr n d b) := e
        by_cases e1 : a = k
        · by_cases e2 : b = k
          · omega
          · rw [if_pos e1, if_neg e2] at e
            have := bi _ _ hj2 (by omega) e; omega
        · by_cases e2 : b = k
          · rw [if_neg e1, if_pos e2] at e
            have := bi _ _ (by omega) hj2 e; omega
          · rw [if_neg e1, if_neg e2] at e
            exact bi _ _ (by omega) (by omega) e)
      rw [cnt_all] at this
      omega
  · rintro ⟨h1, h2, h3⟩
    obtain ⟨t1, t2, t3⟩ := nr (k - 1) (by omega)
    refine ⟨bnr n d (k - 1), t1, ?_⟩
    have pos : ∀ s, s < 20 → ovr n d (low n (bnr n d (k - 1)) d) s = true → rkL (befB n d) (fun t => rdAt n t d) 20 s < k := fun s hs q => by
      simp only [ovr, Bool.and_eq_true, decide_eq_true_eq] at q
      obtain ⟨p1, p2⟩ := no s hs q.1
      by_cases c : rkL (befB n d) (fun t => rdAt n t d) 20 s < k
      · exact c
      · have := h3 _ (by omega) p1
        rw [p2] at this
        exact absurd q.2 this
    simp only [areS, Bool.and_eq_true, Bool.not_eq_true', decide_eq_true_eq, t2, true_and]
    refine ⟨⟨⟨Int32.not_lt.mp h2, orT_false.mpr (fun s hs => ?_)⟩, ?_⟩, ?_⟩
    · cases b : bad n d (low n (bnr n d (k - 1)) d) s
      · rfl
      · exfalso
        have q := b
        simp only [bad, Bool.and_eq_true, decide_eq_true_eq] at q
        have p := pos s hs q.1
        have rs : rdAt n s d = true := by
          have q1 := q.1
          simp only [ovr, Bool.and_eq_true] at q1; exact q1.1
        obtain ⟨p1, p2⟩ := no s hs rs
        have := lle _ (k - 1) (show rkL (befB n d) (fun t => rdAt n t d) 20 s ≤ k - 1 by omega) (by omega)
        rw [p2] at this
        exact absurd q.2 (Int32.not_lt.mpr this)
    · refine pigeon (p := ovr n d (low n (bnr n d (k - 1)) d)) (n := 20) (f := rkL (befB n d) (fun t => rdAt n t d) 20) k _ (fun s hs q => pos s hs q) (fun a b ha hb pa pb e => ?_)
      have ra : rdAt n a d = true := by simp only [ovr, Bool.and_eq_true] at pa; exact pa.1
      have rb : rdAt n b d = true := by simp only [ovr, Bool.and_eq_true] at pb; exact pb.1
      exact rkL_inj S ha hb ra rb e
    · have := cnt_inj (n := k) (p := fun _ => true) (m := 20) (f := bnr n d) (q := rch n d (low n (bnr n d (k - 1)) d)) (fun i hi _ => ⟨(nr i (by omega)).1, by
        simp only [rch, (nr i (by omega)).2.1, Bool.true_and, Bool.not_eq_true', decide_eq_false_iff_not]
        exact Int32.not_lt.mpr (lle i (k - 1) (by omega) (by omega))⟩) (fun a b ha hb _ _ e => bi _ _ (by omega) (by omega) e)
      rw [cnt_all] at this
      exact this
def kyN (n : Nat → Int32) (g : Nat) : Nat := (99 - (n g).toNatClampNeg) * 100 + g
def ky (n : Nat → Int32) (g : Nat) : Int32 := Int32.ofNat (kyN n g)
theorem mk_nat {n : Nat → Int32} (G : MG n) {g : Nat} (hg : g < 100) (q : hsG n g = true) : n g = Int32.ofNat (n g).toNatClampNeg ∧ (n g).toNatClampNeg < 100 := by
  simp only [hsG, decide_eq_true_eq] at q
  rcases G g hg with e | ⟨m, hm, e⟩
  · exact absurd e q
  · rw [e, ofN_clamp (by omega)]; exact ⟨rfl, hm⟩
theorem ky_b {n : Nat → Int32} {g : Nat} (hg : g < 100) : kyN n g < 10000 := by unfold kyN; omega
theorem ky_cmp {n : Nat → Int32} (G : MG n) {g x : Nat} (hg : g < 100) (hx : x < 100) (q : hsG n g = true) (r : hsG n x = true) (hne : g ≠ x) : ky n g ≤ ky n x ↔ bef n x g = false := by
  obtain ⟨e1, b1⟩ := mk_nat G hg q
  obtain ⟨e2, b2⟩ := mk_nat G hx r
  have k1 := ky_b (n := n) hg
  have k2 := ky_b (n := n) hx
  unfold ky
  rw [ofN_le (by omega) (by omega)]
  have : bef n x g = decide (kyN n x < kyN n g) := by
    unfold bef
    rw [e1, e2]
    simp only [ofN_lt (show (n g).toNatClampNeg < 2147483648 by omega) (show (n x).toNatClampNeg < 2147483648 by omega), ofN_eq (show (n x).toNatClampNeg < 2147483648 by omega) (show (n g).toNatClampNeg < 2147483648 by omega)]
    unfold kyN
    generalize (n g).toNatClampNeg = u at b1
    generalize (n x).toNatClampNeg = v at b2
    by_cases c1 : u < v
    · rw [decide_eq_true c1, Bool.true_or, decide_eq_true (by omega)]
    · rw [decide_eq_false c1, Bool.false_or]
      by_cases c2 : v = u
      · rw [decide_eq_true c2, Bool.true_and]
        by_cases c3 : x < g
        · rw [decide_eq_true c3, decide_eq_true (by omega)]
        · rw [decide_eq_false c3, decide_eq_false (by omega)]
      · rw [decide_eq_false c2, Bool.false_and, decide_eq_false (by omega)]
  rw [this, decide_eq_false_iff_not]
  have hk : kyN n g ≠ kyN n x := by unfold kyN; omega
  omega
def cmq (n : Nat → Int32) (Q1 Q2 : Nat → Bool) : Nat :=
  if cnt Q1 100 = 0 ∨ cnt Q2 100 = 0 then 0
  else if bef n (nrL (bef n) Q1 100 (cnt Q1 100 - 1)) (nrL (bef n) Q2 100 (cnt Q2 100 - 1)) then cnt Q1 100 + rkL (bef n) Q2 100 (nrL (bef n) Q1 100 (cnt Q1 100 - 1))
  else cnt Q2 100 + rkL (bef n) Q1 100 (nrL (bef n) Q2 100 (cnt Q2 100 - 1))
theorem rk_split {lt : Nat → Nat → Bool} {P : Nat → Bool} {N m j x : Nat} {e : Nat → Nat} (S : STO lt N) (E : SE lt P N m e) (hj : j ≤ m) (h1 : ∀ i, i < j → lt (e i) x = true) (h2 : ∀ i, j ≤ i → i < m → lt (e i) x = false) : rkL lt P N x = j := by
  have up : cnt (fun _ => true) j ≤ rkL lt P N x := cnt_inj (f := e) (fun i hi _ => ⟨(E.1 i (by omega)).1, by simp [(E.1 i (by omega)).2, h1 i hi]⟩) (fun a b ha hb _ _ h => SE_inj S E (by omega) (by omega) h)
  have dn : rkL lt P N x ≤ j := pigeon (p := fun s => P s && lt s x) (n := N) (f := rkL lt P N) j _ (fun s hs q => by
    simp only [Bool.and_eq_true] at q
    obtain ⟨i, hi, he⟩ := E.2.2 s hs q.1
    rw [← he, SE_rank S E hi]
    by_cases c : i < j
    · exact c
    · have := h2 i (by omega) hi
      rw [he, q.2] at this; cases this) (fun s t hs ht ps pt e => by
    simp only [Bool.and_eq_true] at ps pt
    exact rkL_inj S hs ht ps.1 pt.1 e)
  rw [cnt_all] at up
  omega
def mQ (n : Nat → Int32) (m : Nat) : Nat → Bool := fun g => hsG n g && inM m g
theorem cA_pos {n : Nat → Int32} {m x : Nat} (hx : x < 100) (q : hsG n x = true) : cA n m (rkL (bef n) (hsG n) 100 x) = rkL (bef n) (mQ n m) 100 x := by
  have S := bef_STO n 100
  have pm : rkL (bef n) (hsG n) 100 x < mcn n := rkL_cnt S hx q
  have sp : ∀ p, p < mcn n → mnr n p < 100 ∧ hsG n (mnr n p) = true ∧ rkL (bef n) (hsG n) 100 (mnr n p) = p := fun p hp => nrL_spec S hp
  have inv : ∀ s, s < 100 → hsG n s = true → mnr n (rkL (bef n) (hsG n) 100 s) = s := fun s hs q => nrL_of S hs q
  apply Nat.le_antisymm
  · refine cnt_inj (f := mnr n) (fun p hp y => ?_) (fun a b ha hb _ _ e => ?_)
    · obtain ⟨h1, h2, h3⟩ := sp p (by omega)
      refine ⟨h1, ?_⟩
      have y : inM m (mnr n p) = true := y
      simp only [mQ, h2, y, Bool.true_and]
      have hne : mnr n p ≠ x := fun z => by rw [z] at h3; omega
      rcases bef_total (f := n) hne with z | z
      · exact z
      · have := rkL_lt (P := hsG n) S hx h1 q z; omega
    · have a3 := (sp a (by omega)).2.2
      have b3 := (sp b (by omega)).2.2
      rw [e] at a3; omega
  · refine cnt_inj (f := rkL (bef n) (hsG n) 100) (fun s hs y => ?_) (fun a b ha hb pa pb e => ?_)
    · simp only [mQ, Bool.and_eq_true] at y
      exact ⟨rkL_lt S hs hx y.1.1 y.2, by rw [inv s hs y.1.1]; exact y.1.2⟩
    · simp only [mQ, Bool.and_eq_true] at pa pb
      exact rkL_inj S ha hb pa.1.1 pb.1.1 e
theorem cA_full {n : Nat → Int32} {m : Nat} : cA n m (mcn n) = cnt (mQ n m) 100 := by
  have S := bef_STO n 100
  have sp : ∀ p, p < mcn n → mnr n p < 100 ∧ hsG n (mnr n p) = true ∧ rkL (bef n) (hsG n) 100 (mnr n p) = p := fun p hp => nrL_spec S hp
  have inv : ∀ s, s < 100 → hsG n s = true → mnr n (rkL (bef n) (hsG n) 100 s) = s := fun s hs q => nrL_of S hs q
  apply Nat.le_antisymm
  · refine cnt_inj (f := mnr n) (fun p hp y => ?_) (fun a b ha hb _ _ e => ?_)
    · obtain ⟨h1, h2, h3⟩ := sp p hp
      exact ⟨h1, by simp only [mQ, h2, Bool.true_and]; exact y⟩
    · have a3 := (sp a ha).2.2
      have b3 := (sp b hb).2.2
      rw [e] at a3; omega
  · refine cnt_inj (f := rkL (bef n) (hsG n) 100) (fun s hs y => ?_) (fun a b ha hb pa pb e => ?_)
    · simp only [mQ, Bool.and_eq_true] at y
      exact ⟨rkL_cnt S hs y.1, by rw [inv s hs y.1]; exact y.2⟩
    · simp only [mQ, Bool.and_eq_true] at pa pb
      exact rkL_inj S ha hb pa.1 pb.1 e
theorem cA_mono {n : Nat → Int32} {m p q : Nat} (h : p ≤ q) : cA n m p ≤ cA n m q := cnt_mono_n h
theorem cmp_eq {n : Nat → Int32} {a b : Nat} (dj : ∀ i, i < 5 → a.testBit i = true → b.testBit i = false) : cmpv n a b = cmq n (mQ n a) (mQ n b) := by
  have S := bef_STO n 100
  have sp : ∀ p, p < mcn n → mnr n p < 100 ∧ hsG n (mnr n p) = true ∧ rkL (bef n) (hsG n) 100 (mnr n p) = p := fun p hp => nrL_spec S hp
  have inv : ∀ s, s < 100 → hsG n s = true → mnr n (rkL (bef n) (hsG n) 100 s) = s := fun s hs q => nrL_of S hs q
  unfold cmpv cmq
  have s1 : ∀ m j, j < cnt (mQ n m) 100 → nrL (bef n) (mQ n m) 100 j < 100 ∧ mQ n m (nrL (bef n) (mQ n m) 100 j) = true ∧ rkL (bef n) (mQ n m) 100 (nrL (bef n) (mQ n m) 100 j) = j := fun m j hj => nrL_spec S hj
  by_cases z : cnt (mQ n a) 100 = 0 ∨ cnt (mQ n b) 100 = 0
  · rw [if_pos z]
    have : cpE n a b = 0 := by
      unfold cpE
      refine fst1_eq (fun d hd => by omega) (fun _ => ?_) (by omega)
      show (decide (cA n a 0 = cA n a (mcn n)) || decide (cA n b 0 = cA n b (mcn n))) = true
      rw [cA_full, cA_full]
      rcases z with z | z
      · rw [z]; rfl
      · rw [z, Bool.or_eq_true]; exact Or.inr rfl
    rw [this]; rfl
  · rw [if_neg z]
    obtain ⟨x1, x2, x3⟩ := s1 a (cnt (mQ n a) 100 - 1) (by omega)
    obtain ⟨y1, y2, y3⟩ := s1 b (cnt (mQ n b) 100 - 1) (by omega)
    generalize nrL (bef n) (mQ n a) 100 (cnt (mQ n a) 100 - 1) = u at x1 x2 x3
    generalize nrL (bef n) (mQ n b) 100 (cnt (mQ n b) 100 - 1) = v at y1 y2 y3
    have ua : hsG n u = true ∧ inM a u = true := by simpa only [mQ, Bool.and_eq_true] using x2
    have vb : hsG n v = true ∧ inM b v = true := by simpa only [mQ, Bool.and_eq_true] using y2
    have ub : inM b u = false := dj _ (by omega) ua.2
    have va : inM a v = false := by
      cases q : inM a v
      · rfl
      · have := dj _ (by omega) q
        rw [show b.testBit (v / 20) = true from vb.2] at this; cases this
    have hne : u ≠ v := fun q => by rw [q, vb.2] at ub; cases ub
    have pu : rkL (bef n) (hsG n) 100 u < mcn n := rkL_cnt S x1 ua.1
    have pv : rkL (bef n) (hsG n) 100 v < mcn n := rkL_cnt S y1 vb.1
    have cu : ∀ m, cA n m (rkL (bef n) (hsG n) 100 u + 1) = rkL (bef n) (mQ n m) 100 u + if inM m u then 1 else 0 := fun m => by
      show cA n m (rkL (bef n) (hsG n) 100 u) + (if inM m (mnr n (rkL (bef n) (hsG n) 100 u)) then 1 else 0) = _
      rw [inv u x1 ua.1, cA_pos x1 ua.1]
    have cv' : ∀ m, cA n m (rkL (bef n) (hsG n) 100 v + 1) = rkL (bef n) (mQ n m) 100 v + if inM m v then 1 else 0 := fun m => by
      show cA n m (rkL (bef n) (hsG n) 100 v) + (if inM m (mnr n (rkL (bef n) (hsG n) 100 v)) then 1 else 0) = _
      rw [inv v y1 vb.1, cA_pos y1 vb.1]
    have cua := cu a
    have cub := cu b
    have cva := cv' a
    have cvb := cv' b
    rw [ua.2, if_pos rfl, x3] at cua
    rw [ub, if_neg (by decide)] at cub
    rw [va, if_neg (by decide)] at cva
    rw [vb.2, if_pos rfl, y3] at cvb
    have pa := cA_pos (m := a) x1 ua.1
    have pb := cA_pos (m := b) y1 vb.1
    rw [x3] at pa
    rw [y3] at pb
    have fa := cA_full (n := n) (m := a)
    have fb := cA_full (n := n) (m := b)
    cases c : bef n u v
    · have c2 : bef n v u = true := (bef_total hne).resolve_left (by rw [c]; decide)
      have lt := rkL_lt (P := hsG n) S y1 x1 vb.1 c2
      have ec : cpE n a b = rkL (bef n) (hsG n) 100 v + 1 := by
        unfold cpE
        refine fst1_eq (fun d hd => ?_) (fun _ => ?_) (by omega)
        · have m1 := cA_mono (n := n) (m := a) (show d ≤ rkL (bef n) (hsG n) 100 u by omega)
          have m2 := cA_mono (n := n) (m := b) (show d ≤ rkL (bef n) (hsG n) 100 v by omega)
          rw [decide_eq_false (show ¬ cA n a d = cA n a (mcn n) by omega), decide_eq_false (show ¬ cA n b d = cA n b (mcn n) by omega)]; rfl
        · rw [decide_eq_true (show cA n b (rkL (bef n) (hsG n) 100 v + 1) = cA n b (mcn n) by omega), Bool.or_true]
      rw [ec, cva, cvb, if_neg (by decide)]; omega
    · have lt := rkL_lt (P := hsG n) S x1 y1 ua.1 c
      have ec : cpE n a b = rkL (bef n) (hsG n) 100 u + 1 := by
        unfold cpE
        refine fst1_eq (fun d hd => ?_) (fun _ => ?_) (by omega)
        · have m1 := cA_mono (n := n) (m := a) (show d ≤ rkL (bef n) (hsG n) 100 u by omega)
          have m2 := cA_mono (n := n) (m := b) (show d ≤ rkL (bef n) (hsG n) 100 v by omega)
          rw [decide_eq_false (show ¬ cA n a d = cA n a (mcn n) by omega), decide_eq_false (show ¬ cA n b d = cA n b (mcn n) by omega)]; rfl
        · rw [decide_eq_true (show cA n a (rkL (bef n) (hsG n) 100 u + 1) = cA n a (mcn n) by omega), Bool.true_or]
      rw [ec, cua, cub, if_pos rfl]; omega

theorem div_N {a b : Nat} (ha : a < 2147483648) (h0 : 0 < b) (hb : b < 2147483648) : Int32.ofNat a / Int32.ofNat b = Int32.ofNat (a / b) := by
  have hq := Nat.div_le_self a b
  rw [i32_eq, Int32.toInt_div_of_ne_right _ _ (ofN_nm hb), ofN_int ha, ofN_int hb, ofN_int (by omega)]
  exact (Int.ofNat_tdiv a b).symm
theorem ky_row {n : Nat → Int32} {g : Nat} (hg : g < 100) : (ky n g - ky n g / 100 * 100) / 20 = Int32.ofNat (g / 20) := by
  have k1 := ky_b (n := n) hg
  unfold ky
  have hm : kyN n g % 100 = g := by unfold kyN; omega
  rw [show (100 : Int32) = Int32.ofNat 100 from rfl, show (20 : Int32) = Int32.ofNat 20 from rfl, div_N (by omega) (by omega) (by omega), ofN_mul, sub_N (by omega) (by omega), div_N (by omega) (by omega) (by omega)]
  congr 1
  omega
theorem ky_thing {n : Nat → Int32} {g : Nat} (hg : g < 100) : ky n g - ky n g / 20 * 20 = Int32.ofNat (g % 20) := by
  have k1 := ky_b (n := n) hg
  unfold ky
  have hm : kyN n g % 100 = g := by unfold kyN; omega
  rw [show (20 : Int32) = Int32.ofNat 20 from rfl, div_N (by omega) (by omega) (by omega), ofN_mul, sub_N (by omega) (by omega)]
  congr 1
  omega
theorem ky_mark {n : Nat → Int32} (G : MG n) {g : Nat} (hg : g < 100) (q : hsG n g = true) : 99 - ky n g / 100 = n g := by
  have k1 := ky_b (n := n) hg
  obtain ⟨e, b⟩ := mk_nat G hg q
  unfold ky
  have hm : kyN n g / 100 = 99 - (n g).toNatClampNeg := by unfold kyN; omega
  rw [show (100 : Int32) = Int32.ofNat 100 from rfl, show (99 : Int32) = Int32.ofNat 99 from rfl, div_N (by omega) (by omega) (by omega), hm, sub_N (by omega) (by omega)]
  rw [show 99 - (99 - (n g).toNatClampNeg) = (n g).toNatClampNeg by omega]
  exact e.symm
theorem bit5 : ∀ r, r < 5 → ∀ i, i < 5 → (1 <<< r).testBit i = (i == r) := by decide +kernel
theorem bit3 : ∀ i, i < 5 → ((3 : Nat).testBit i = (i == 0 || i == 1)) ∧ ((12 : Nat).testBit i = (i == 2 || i == 3)) ∧ ((15 : Nat).testBit i = !(i == 4)) ∧ ((16 : Nat).testBit i = (i == 4)) := by decide +kernel
theorem cmq_congr {n : Nat → Int32} {P Q P' Q' : Nat → Bool} (h1 : ∀ g, g < 100 → P g = P' g) (h2 : ∀ g, g < 100 → Q g = Q' g) : cmq n P Q = cmq n P' Q' := by
  have n1 : ∀ j, nrL (bef n) P 100 j = nrL (bef n) P' 100 j := fun j => fst1_congr (fun t ht => by rw [h1 t ht, rkL_congr (P' := P') (fun s hs => by rw [h1 s hs])])
  have n2 : ∀ j, nrL (bef n) Q 100 j = nrL (bef n) Q' 100 j := fun j => fst1_congr (fun t ht => by rw [h2 t ht, rkL_congr (P' := Q') (fun s hs => by rw [h2 s hs])])
  have r1 : ∀ x, rkL (bef n) P 100 x = rkL (bef n) P' 100 x := fun x => rkL_congr (fun s hs => by rw [h1 s hs])
  have r2 : ∀ x, rkL (bef n) Q 100 x = rkL (bef n) Q' 100 x := fun x => rkL_congr (fun s hs => by rw [h2 s hs])
  unfold cmq
  rw [cnt_congr h1, cnt_congr h2, n1, n2, r1, r2]
theorem bt_irr (n : Nat → Int32) (i : Nat) : bt n i i = false := by unfold bt; exact decide_eq_false (by omega)
theorem bt_asym {n : Nat → Int32} {i k : Nat} (h : bt n i k = true) : bt n k i = false := by
  unfold bt at *
  have := of_decide_eq_true h
  exact decide_eq_false (by omega)
theorem rg_1 {n : Nat → Int32} {s : Nat} (hs : s < cdC n) : (rgm n s 1).testBit s = false := by
  have C6 := cdC_6 n
  show (bb n (1 <<< s)).testBit s = false
  rw [bb_bit hs, orT_false]
  intro i hi
  rw [sh6b s (by omega) i (by omega)]
  by_cases q : i = s
  · rw [q, bt_irr, Bool.and_false]
  · rw [show (i == s) = false by simpa using q]; rfl
theorem rg_2 {n : Nat → Int32} {s : Nat} (hs : s < cdC n) : (rgm n s 2).testBit s = false := by
  have C6 := cdC_6 n
  show (bb n (bb n (1 <<< s))).testBit s = false
  rw [bb_bit hs, orT_false]
  intro i hi
  rw [bb_bit hi]
  cases c : bt n i s
  · rw [Bool.and_false]
  · rw [Bool.and_true, orT_false]
    intro k hk
    rw [sh6b s (by omega) k (by omega)]
    by_cases q : k = s
    · rw [q, bt_asym c, Bool.and_false]
    · rw [show (k == s) = false by simpa using q]; rfl
def rgA (n : Nat → Int32) (l : Nat) : Bool := orT (fun s => (rgm n s l).testBit s) (cdC n)
theorem srg_eq (n : Nat → Int32) : srg n = fst1 (fun j => rgA n (j + 1)) (cdC n) := by
  have gen : ∀ k, k ≤ cdC n → fo (fun m s => min m (rfs n s)) (cdC n) k = fst1 (fun j => orT (fun s => (rgm n s (j + 1)).testBit s) k) (cdC n) := by
    intro k
    induction k with
    | zero =>
      intro _
      exact (fst1_eq (fun d _ => rfl) (fun h => absurd h (Nat.lt_irrefl _)) (Nat.le_refl _)).symm
    | succ k ih =>
      intro hk
      show min (fo (fun m s => min m (rfs n s)) (cdC n) k) (rfs n k) = _
      rw [ih (by omega)]
      have l1 := fst1_le (fun j => orT (fun s => (rgm n s (j + 1)).testBit s) k) (cdC n)
      have s1 := fst1_spec (fun j => orT (fun s => (rgm n s (j + 1)).testBit s) k) (cdC n)
      have l2 : rfs n k ≤ cdC n := fst1_le _ _
      have s2 : (∀ j, j < rfs n k → (rgm n k (j + 1)).testBit k = false) ∧ (rfs n k < cdC n → (rgm n k (rfs n k + 1)).testBit k = true) := fst1_spec (fun j => (rgm n k (j + 1)).testBit k) (cdC n)
      generalize fst1 (fun j => orT (fun s => (rgm n s (j + 1)).testBit s) k) (cdC n) = x at l1 s1
      generalize rfs n k = y at l2 s2
      refine (fst1_eq (fun d hd => ?_) (fun hd => ?_) (by omega)).symm
      · show (orT (fun s => (rgm n s (d + 1)).testBit s) k || (rgm n k (d + 1)).testBit k) = false
        rw [show orT (fun s => (rgm n s (d + 1)).testBit s) k = false from s1.1 d (by omega), s2.1 d (by omega)]; rfl
      · show (orT (fun s => (rgm n s (min x y + 1)).testBit s) k || (rgm n k (min x y + 1)).testBit k) = true
        by_cases c : x ≤ y
        · rw [Nat.min_eq_left c] at hd ⊢
          rw [show orT (fun s => (rgm n s (x + 1)).testBit s) k = true from s1.2 hd]; rfl
        · rw [Nat.min_eq_right (by omega)] at hd ⊢
          rw [s2.2 hd, Bool.or_true]
  exact gen (cdC n) (Nat.le_refl _)
theorem wnr_eq {n : Nat → Int32} {i : Nat} (hi : i < cdC n) : (cnt (bt n i) (cdC n) == cdC n - 1) = !orT (fun k => !decide (k = i) && !bt n i k) (cdC n) := by
  have o := cnt_out (p := fun k => bt n i k || decide (k = i)) hi (by simp)
  have e1 : cnt (fun j => (bt n i j || decide (j = i)) && !(j == i)) (cdC n) = cnt (bt n i) (cdC n) := cnt_congr (fun j hj => by
    by_cases q : j = i
    · rw [q, bt_irr]; simp
    · simp [q])
  rw [e1] at o
  have hle := cnt_le (fun k => bt n i k || decide (k = i)) (cdC n)
  cases c : orT (fun k => !decide (k = i) && !bt n i k) (cdC n)
  · have c := orT_false.mp c
    have e2 : cnt (fun k => bt n i k || decide (k = i)) (cdC n) = cdC n := by
      rw [cnt_congr (q := fun _ => true) (fun k hk => by
        have := c k hk
        by_cases q : k = i
        · simp [q]
        · have : bt n i k = true := by simpa [q] using this
          simp [this]), cnt_all]
    show _ = true
    rw [beq_iff_eq]; omega
  · obtain ⟨k, h1, h2⟩ := orT_iff.mp c
    show _ = false
    have : cnt (fun k => bt n i k || decide (k = i)) (cdC n) < cnt (fun _ => true) (cdC n) := cnt_lt (fun _ _ _ => rfl) h1 (by
      simp only [Bool.and_eq_true, Bool.not_eq_true', decide_eq_false_iff_not] at h2
      show (bt n i k || decide (k = i)) = false
      rw [h2.2, decide_eq_false h2.1]; rfl) rfl
    rw [cnt_all] at this
    rw [beq_eq_false_iff_ne]; omega
def bsg (u : Nat) (g : Nat → Nat) : Nat → Nat → Nat := fun s k => s + if u.testBit k then g k else 0
def bsm (u : Nat) (g : Nat → Nat) (c : Nat) : Nat := fo (bsg u g) 0 c
theorem bsm_0 (g : Nat → Nat) (c : Nat) : bsm 0 g c = 0 := by
  induction c with
  | zero => rfl
  | succ c ih =>
    show bsm 0 g c + (if (0 : Nat).testBit c then g c else 0) = 0
    rw [ih, Nat.zero_testBit]; rfl
theorem bsm_out {u e : Nat} {g : Nat → Nat} (hu : u < 64) (he6 : e < 6) (b : u.testBit e = true) : ∀ c, c ≤ 6 → bsm u g c = (if e < c then g e else 0) + bsm (clr u e) g c := by
  intro c
  induction c with
  | zero => intro _; rw [if_neg (by omega)]; rfl
  | succ c ih =>
    intro hc
    show bsm u g c + (if u.testBit c then g c else 0) = _ + (bsm (clr u e) g c + (if (clr u e).testBit c then g c else 0))
    rw [ih (by omega), clr_bit u hu e he6 c (by omega)]
    by_cases q : c = e
    · subst q
      rw [b, if_neg (show ¬ c < c by omega), if_pos (show c < c + 1 by omega), show (c == c) = true by simp]
      simp only [Bool.not_true, Bool.and_false, Bool.false_eq_true, if_false, if_true]; omega
    · rw [show (c == e) = false by simpa using q, Bool.not_false, Bool.and_true]
      by_cases q2 : e < c
      · rw [if_pos q2, if_pos (show e < c + 1 by omega)]; omega
      · rw [if_neg q2, if_neg (show ¬ e < c + 1 by omega)]; omega
theorem swb_eq {n : Nat → Int32} {D : Nat → Nat} {u e : Nat} : swb n D u e = D (clr u e) + bsm (clr u e) (fun k => pf n k e) (cdC n) := swg_ge _
