/-! THE PURE SIDE, 5: what the class's rows answer -/
theorem e10 : ((1 : Int32) = 0) = False := eq_false (by decide)
theorem em0 : ((-1 : Int32) = 0) = False := eq_false (by decide)
theorem e00 : ((0 : Int32) = 0) = True := eq_self _
theorem emm : ((-1 : Int32) = -1) = True := eq_self _
theorem bN {α β : Type} (a : α) (f : α → Option β) : Option.bind (some a) f = f a := rfl
theorem ofN_nm {k : Nat} (hk : k < 2147483648) : ¬ Int32.ofNat k = -1 := fun e => by
  have := congrArg Int32.toInt e
  rw [ofN_int hk] at this
  have e1 : (-1 : Int32).toInt = -1 := by decide
  omega
theorem s_sizeOf {h : mxH} (W : WF h) {r i : Nat} (R : RB r) (hi : i < 5) : fX6_sizeOf r (Int32.ofNat i) h = some (V h (r + 19) i) := by
  unfold fX6_sizeOf
  simp only [isRow_k hi, bN, e10, if_false, gR_s W R, ldI_at W (ar_sz R) hi]
theorem s_markOf {h : mxH} (W : WF h) {r i t : Nat} (R : RB r) (hi : i < 5) (ht : t < 20) : fX6_markOf r (Int32.ofNat i) (Int32.ofNat t) h = some (V h (r + 2 + i) t) := by
  unfold fX6_markOf
  simp only [isRow_k hi, isThing_k ht, bN, e10, if_false, gR_m W R, ldR_m W R hi, ldI_at W (ar_mk R hi) ht]
theorem s_markOf_m {h : mxH} {r i : Nat} (hi : i < 5) : fX6_markOf r (Int32.ofNat i) (-1) h = some (-1) := by
  unfold fX6_markOf
  simp only [isRow_k hi, isThing_m, bN, e10, e00, if_false, if_true]
theorem s_thingOn {h : mxH} (W : WF h) {r i t : Nat} (R : RB r) (hi : i < 5) (ht : t < 20) : fX6_thingOn r (Int32.ofNat i) (Int32.ofNat t) h = some (V h (r + 14 + i) t) := by
  unfold fX6_thingOn
  simp only [isRow_k hi, isThing_k ht, bN, e10, if_false, gR_t W R, ldR_t W R hi, ldI_at W (ar_th R hi) ht]
theorem s_thingOn_x {h : mxH} {r i : Nat} {p : Int32} (hi : i < 5) (hp : inN p 20 = false) : fX6_thingOn r (Int32.ofNat i) p h = some (-1) := by
  unfold fX6_thingOn
  simp only [isRow_k hi, isThing_eq, hp, bI_f, bN, e10, e00, if_false, if_true]
theorem s_placeIn {h : mxH} (W : WF h) {r i t : Nat} (R : RB r) (hi : i < 5) (ht : t < 20) : fX6_placeIn r (Int32.ofNat i) (Int32.ofNat t) h = some (V h (r + 8 + i) t) := by
  unfold fX6_placeIn
  simp only [isRow_k hi, isThing_k ht, bN, e10, if_false, gR_p W R, ldR_p W R hi, ldI_at W (ar_pl R hi) ht]
theorem s_isRead {h : mxH} (W : WF h) {r t : Nat} {d : Int32} (R : RB r) (ht : t < 20) : fX6_isRead r (Int32.ofNat t) d h = some (bI (decide (¬ d ≤ V h (r + 21) t))) := by
  unfold fX6_isRead
  simp only [isThing_k ht, bN, e10, if_false, gR_f W R, ldI_at W (ar_fp R) ht, bindT]
  by_cases c : d ≤ V h (r + 21) t
  · simp [c, bI, mxZ1]
  · simp [c, bI, mxZ1]
theorem s_isRead_m {h : mxH} {r : Nat} {d : Int32} : fX6_isRead r (-1) d h = some 0 := by
  unfold fX6_isRead
  simp only [isThing_m, bN, e00, if_true, z1_0]
theorem s_isKnown {h : mxH} (W : WF h) {r t : Nat} (R : RB r) (ht : t < 20) : fX6_isKnown r (Int32.ofNat t) h = some (bI (decide (¬ 20 ≤ V h (r + 21) t))) := by
  unfold fX6_isKnown
  simp only [isO_R W R, bN, s_isRead W R ht, z1_bI]
/-- the weighted mark -/
def wm (n : Nat → Int32) (i t : Nat) : Int32 := if hs n i t then n (20 * i + t) * n (100 + i) else 0
theorem s_weightedMark {h : mxH} (W : WF h) {r i t : Nat} {n : Nat → Int32} (R : RB r) (A : RR h r n) (hi : i < 5) (ht : t < 20) : fX6_weightedMark r (Int32.ofNat i) (Int32.ofNat t) h = some (wm n i t) := by
  unfold fX6_weightedMark wm hs
  simp only [isRow_k hi, isThing_k ht, bN, e10, if_false, gR_m W R, ldR_m W R hi, ldI_at W (ar_mk R hi) ht, gR_w W R, ldI_at W (ar_wt R) hi, A.1 i t hi ht, A.2.2.2.2.1 i hi]
  by_cases c : n (20 * i + t) = -1
  · simp [c]
  · simp [c]
theorem s_weightedMark_m {h : mxH} {r i : Nat} (hi : i < 5) : fX6_weightedMark r (Int32.ofNat i) (-1) h = some 0 := by
  unfold fX6_weightedMark
  simp only [isRow_k hi, isThing_m, bN, e10, e00, if_false, if_true]
/-- the mark that stands last at a depth -/
def lm (n : Nat → Int32) (i d : Nat) : Int32 := if d < itm n i + 1 then wm n i (thi n i (d - 1)) else 0
theorem s_lastMark {h : mxH} (W : WF h) {r i d : Nat} {n : Nat → Int32} (G : MG n) (R : RB r) (A : RR h r n) (hi : i < 5) (h1 : 1 ≤ d) (h2 : d ≤ 20) : fX6_lastMark r (Int32.ofNat i) (Int32.ofNat d) h = some (lm n i d) := by
  unfold fX6_lastMark lm
  have e : Int32.ofNat d - 1 = Int32.ofNat (d - 1) := by
    rw [i32_eq, Int32.toInt_sub, ofN_int (by omega), ofN_int (by omega)]
    have : (1 : Int32).toInt = 1 := by decide
    rw [this, Int.bmod_eq_of_le (by omega) (by omega)]
    omega
  simp only [isO_R W R, bN, e, s_thingOn W R hi (show d - 1 < 20 by omega), A.2.2.1 i (d - 1) hi (by omega)]
  by_cases c : d < itm n i + 1
  · rw [if_pos (by omega), if_pos c, s_weightedMark W R A hi (thi_spec G hi (by omega)).1]; rfl
  · rw [if_neg (by omega), if_neg c, s_weightedMark_m hi]; rfl
/-! the rule -/
def sum5 (x : Nat → Int32) : Int32 := fo (fun s i => s + x i) 0 5
def max5 (x : Nat → Int32) : Int32 := fo (fun s i => mxMax s (x i)) 0 5
def least5 (w x : Nat → Int32) : Int32 := fo (fun s i => if 0 < w i ∧ (s = -1 ∨ x i < s) then x i else s) (-1) 5
def rl (n x : Nat → Int32) : Int32 := if n 105 = 0 then sum5 x else if n 105 = 1 then mxMax (least5 (fun i => n (100 + i)) x) 0 else max5 x
theorem fo_ind {α : Type} {g : α → Nat → α} {a : α} (P : α → Prop) {n : Nat} (h0 : P a) (h : ∀ x k, k < n → P x → P (g x k)) : P (fo g a n) := by
  induction n with
  | zero => exact h0
  | succ n ih => exact h _ n (by omega) (ih (fun x k hk => h x k (by omega)))
theorem least5_nn {w x : Nat → Int32} (hx : ∀ i, i < 5 → 0 ≤ x i) : least5 w x = -1 ∨ 0 ≤ least5 w x := by
  unfold least5
  refine fo_ind (fun s => s = -1 ∨ 0 ≤ s) (Or.inl rfl) (fun s k hk hs => ?_)
  show (if 0 < w k ∧ (s = -1 ∨ x k < s) then x k else s) = -1 ∨ 0 ≤ (if 0 < w k ∧ (s = -1 ∨ x k < s) then x k else s)
  split
  · exact Or.inr (hx k hk)
  · exact hs
theorem s_leastPart {h : mxH} (W : WF h) {r : Nat} {n : Nat → Int32} (R : RB r) (A : RR h r n) {x : Nat → Int32} (hx : ∀ i, i < 5 → V h (r + 22) i = x i) (h0 : ∀ i, i < 5 → 0 ≤ x i) : fX6_leastPart r h = some (mxMax (least5 (fun i => n (100 + i)) x) 0) := by
  unfold fX6_leastPart
  refine bs (a := least5 (fun i => n (100 + i)) x) ?_ ?_
  · unfold least5
    refine mxLoop_up (S := fun k => (fo (fun s i => if 0 < n (100 + i) ∧ (s = -1 ∨ x i < s) then x i else s) (-1) k, Int32.ofNat k)) (N := 5) (fun k hk => ?_) ?_ (by decide)
    · simp only [if_neg (show ¬ (5 : Int32) ≤ Int32.ofNat k from nle hk), gR_w W R, gR_x W R, bN, ldI_at W (ar_wt R) hk, ldI_at W (ar_pt R) hk, A.2.2.2.2.1 k hk, hx k hk, ofN_succ, fo]
      generalize fo (fun s i => if 0 < n (100 + i) ∧ (s = -1 ∨ x i < s) then x i else s) (-1) k = s
      by_cases c1 : n (100 + k) ≤ 0
      · simp [c1, Int32.not_lt.mpr c1]
      · have c1' := Int32.not_le.mp c1
        by_cases c2 : s = -1
        · simp [c1, c1', c2]
        · by_cases c3 : s ≤ x k
          · simp [c1, c2, c3, Int32.not_lt.mpr c3]
          · simp [c1, c1', c2, c3, Int32.not_le.mp c3]
    · exact if_pos yle
  · rcases least5_nn (w := fun i => n (100 + i)) h0 with e | e
    · rw [e]; rfl
    · have e1 : ¬ least5 (fun i => n (100 + i)) x = -1 := fun q => by rw [q] at e; exact absurd e (by decide)
      rw [if_neg e1, mxMax, if_neg (Int32.not_lt.mpr e)]; rfl
theorem s_applyRule {h : mxH} (W : WF h) {r : Nat} {n : Nat → Int32} (R : RB r) (A : RR h r n) {x : Nat → Int32} (hx : ∀ i, i < 5 → V h (r + 22) i = x i) (h0 : ∀ i, i < 5 → 0 ≤ x i) : fX6_applyRule r h = some (rl n x) := by
  unfold fX6_applyRule rl
  simp only [gI_at W (fd_rule R), bN, A.2.2.2.2.2.2]
  by_cases c1 : n 105 = 1
  · simp only [c1, if_true, isO_R W R, bN, s_leastPart W R A hx h0]
    rw [if_neg (by decide)]
  · simp only [c1, if_false, gR_x W R, bN, lenA_at W (ar_pt R)]
    by_cases c0 : n 105 = 0
    · simp only [c0, if_true]
      refine bs (a := sum5 x) ?_ rfl
      unfold sum5
      refine mxLoop_up (S := fun k => (fo (fun s i => s + x i) 0 k, Int32.ofNat k)) (N := 5) (fun k hk => ?_) ?_ (by decide)
      · simp only [if_neg (nle hk), bN, ldI_at W (ar_pt R) hk, hx k hk, ofN_succ, fo]
      · exact if_pos yle
    · simp only [c0, if_false]
      refine bs (a := max5 x) ?_ rfl
      unfold max5
      refine mxLoop_up (S := fun k => (fo (fun s i => mxMax s (x i)) 0 k, Int32.ofNat k)) (N := 5) (fun k hk => ?_) ?_ (by decide)
      · simp only [if_neg (nle hk), bN, ldI_at W (ar_pt R) hk, hx k hk, ofN_succ, fo]
      · exact if_pos yle
/-! the four ways to lay the parts -/
theorem Ok_parts {h : mxH} (W : WF h) {r : Nat} {n : Nat → Int32} (R : RB r) (A : RR h r n) {x : Nat → Int32} (h0 : ∀ i, i < 5 → 0 ≤ x i) {f : Int32 × mxH → Option ((Int32 × mxH) ⊕ mxH)}
    (step : ∀ k h1, k < 5 → WF h1 → RR h1 r n → f (Int32.ofNat k, h1) = some (.inl (Int32.ofNat (k + 1), st h1 (r + 22) k (x k)))) (last : ∀ h1, f (Int32.ofNat 5, h1) = some (.inr h1)) :
    Ok (Option.bind (mxLoop (ρ := mxH) f mxF (0, h)) (fun r18 : mxH => Option.bind (isO r18 r 6) (fun _ => Option.bind (fX6_applyRule r r18) (fun v22 => some (v22, r18))))) (fun o => o.1 = rl n x ∧ Fr (fun b => b = r + 22) h o.2) := by
  refine Ok_b (P := fun h1 => Fr (fun b => b = r + 22) h h1 ∧ ∀ i, i < 5 → V h1 (r + 22) i = x i) (Ok_loop (fun k s => s.1 = Int32.ofNat k ∧ Fr (fun b => b = r + 22) h s.2 ∧ ∀ i, i < k → V s.2 (r + 22) i = x i) 5 ⟨rfl, Fr.refl W, fun i hi => by omega⟩ ?_ ?_) ?_
  · rintro k ⟨s1, h1⟩ hk ⟨e, F, hv⟩
    cases e
    have A1 := RR_fr R A F (fun o ho => by omega)
    have S := (ar_pt R).sl hk
    refine Ok_e (step k h1 hk F.1 A1) ⟨_, rfl, rfl, F.trans (Fr.st F.1 S rfl), fun i hi => ?_⟩
    rw [V_st F.1 S]
    by_cases e : i = k
    · rw [if_pos ⟨rfl, e⟩, e]
    · rw [if_neg (fun q => e q.2)]; exact hv i (by omega)
  · rintro ⟨s1, h1⟩ ⟨e, F, hv⟩
    cases e
    exact Ok_e (last h1) ⟨_, rfl, F, hv⟩
  · rintro h1 ⟨F, hv⟩
    have A1 := RR_fr R A F (fun o ho => by omega)
    refine Ok_s (isO_R F.1 R) (Ok_s (s_applyRule F.1 R A1 hv h0) (Ok_p ⟨rfl, F⟩))
/-- weights -/
def WG (n : Nat → Int32) : Prop := ∀ i, i < 5 → ∃ w, w < 6 ∧ n (100 + i) = Int32.ofNat w
theorem wm_nat {n : Nat → Int32} (G : MG n) (H : WG n) {i t : Nat} (hi : i < 5) (ht : t < 20) : ∃ a, a < 496 ∧ wm n i t = Int32.ofNat a := by
  unfold wm hs
  by_cases c : n (20 * i + t) = -1
  · exact ⟨0, by omega, by simp [c]⟩
  · obtain ⟨w, h1, h2⟩ := H i hi
    rcases G (20 * i + t) (by omega) with e | ⟨m, h3, h4⟩
    · exact absurd e c
    · refine ⟨m * w, ?_, ?_⟩
      · have : m * w ≤ 99 * 5 := Nat.mul_le_mul (by omega) (by omega)
        omega
      · rw [if_pos (by simp [c]), h2, h4, Int32.ofNat_mul]
theorem ofN_0le {a : Nat} (h : a < 2147483648) : 0 ≤ Int32.ofNat a := (ofN_le (a := 0) (by omega) h).mpr (by omega)
theorem wm_0 {n : Nat → Int32} (G : MG n) (H : WG n) {i t : Nat} (hi : i < 5) (ht : t < 20) : 0 ≤ wm n i t := by
  obtain ⟨a, h1, h2⟩ := wm_nat G H hi ht
  rw [h2]; exact ofN_0le (by omega)
theorem lm_nat {n : Nat → Int32} (G : MG n) (H : WG n) {i d : Nat} (hi : i < 5) (h1 : 1 ≤ d) : ∃ a, a < 496 ∧ lm n i d = Int32.ofNat a := by
  unfold lm
  split
  · exact wm_nat G H hi (thi_spec G hi (by omega)).1
  · exact ⟨0, by omega, rfl⟩
theorem lm_0 {n : Nat → Int32} (G : MG n) (H : WG n) {i d : Nat} (hi : i < 5) (h1 : 1 ≤ d) : 0 ≤ lm n i d := by
  obtain ⟨a, h1, h2⟩ := lm_nat G H hi h1
  rw [h2]; exact ofN_0le (by omega)
/-- a thing's value -/
def val (n : Nat → Int32) (t : Nat) : Int32 := rl n (fun i => wm n i t)
def lim (n : Nat → Int32) (d : Nat) : Int32 := rl n (fun i => lm n i d)
def rdI (n : Nat → Int32) (i t d : Nat) : Bool := hs n i t && decide (pla n i t < d)
def low (n : Nat → Int32) (t d : Nat) : Int32 := rl n (fun i => if rdI n i t d then wm n i t else 0)
def upp (n : Nat → Int32) (t d : Nat) : Int32 := rl n (fun i => if rdI n i t d then wm n i t else lm n i d)
theorem s_valueOf {h : mxH} (W : WF h) {r t : Nat} {n : Nat → Int32} (G : MG n) (H : WG n) (R : RB r) (A : RR h r n) (ht : t < 20) : Ok (fX6_valueOf r (Int32.ofNat t) h) (fun o => o.1 = val n t ∧ Fr (fun b => b = r + 22) h o.2) := by
  unfold fX6_valueOf val
  refine Ok_parts W R A (fun i hi => wm_0 G H hi ht) (fun k h1 hk W1 A1 => ?_) (fun h1 => if_pos yle)
  simp only [if_neg (show ¬ (5 : Int32) ≤ Int32.ofNat k from nle hk), gR_x W1 R, isO_R W1 R, bN, s_weightedMark W1 R A1 hk ht, stI_at W1 (ar_pt R) hk, ofN_succ]
theorem s_limitAt {h : mxH} (W : WF h) {r d : Nat} {n : Nat → Int32} (G : MG n) (H : WG n) (R : RB r) (A : RR h r n) (h1 : 1 ≤ d) (h2 : d ≤ 20) : Ok (fX6_limitAt r (Int32.ofNat d) h) (fun o => o.1 = lim n d ∧ Fr (fun b => b = r + 22) h o.2) := by
  unfold fX6_limitAt lim
  refine Ok_parts W R A (fun i hi => lm_0 G H hi h1) (fun k h3 hk W1 A1 => ?_) (fun h1 => if_pos yle)
  simp only [if_neg (show ¬ (5 : Int32) ≤ Int32.ofNat k from nle hk), gR_x W1 R, isO_R W1 R, bN, s_lastMark W1 G R A1 hk h1 h2, stI_at W1 (ar_pt R) hk, ofN_succ]
theorem s_isReadIn {h : mxH} (W : WF h) {r i t d : Nat} {n : Nat → Int32} (R : RB r) (A : RR h r n) (hi : i < 5) (ht : t < 20) (hd : d ≤ 20) : fX6_isReadIn r (Int32.ofNat i) (Int32.ofNat t) (Int32.ofNat d) h = some (bI (rdI n i t d)) := by
  unfold fX6_isReadIn rdI
  have h20 := pla_20 (n := n) (r := i) ht
  simp only [isO_R W R, bN, s_placeIn W R hi ht, A.2.1 i t hi ht]
  by_cases c : hs n i t = true
  · simp only [c, if_true, if_neg (ofN_nm (show pla n i t < 2147483648 by omega)), ofN_le (show d < 2147483648 by omega) (show pla n i t < 2147483648 by omega), Bool.true_and]
    by_cases q : d ≤ pla n i t
    · rw [if_pos q, decide_eq_false (by omega)]; rfl
    · rw [if_neg q, decide_eq_true (by omega)]; rfl
  · have c : hs n i t = false := by simpa using c
    simp only [c, Bool.false_eq_true, if_false, if_true, Bool.false_and]; rfl
theorem s_lowerOf {h : mxH} (W : WF h) {r t d : Nat} {n : Nat → Int32} (G : MG n) (H : WG n) (R : RB r) (A : RR h r n) (ht : t < 20) (h1 : 1 ≤ d) (h2 : d ≤ 20) : Ok (fX6_lowerOf r (Int32.ofNat t) (Int32.ofNat d) h) (fun o => o.1 = low n t d ∧ Fr (fun b => b = r + 22) h o.2) := by
  unfold fX6_lowerOf low
  refine Ok_parts W R A (fun i hi => ?_) (fun k h3 hk W1 A1 => ?_) (fun h1 => if_pos yle)
  · split
    · exact wm_0 G H hi ht
    · decide
  · simp only [if_neg (show ¬ (5 : Int32) ≤ Int32.ofNat k from nle hk), gR_x W1 R, isO_R W1 R, bN, s_isReadIn W1 R A1 hk ht h2, bI_0, s_weightedMark W1 R A1 hk ht, ofN_succ]
    cases rdI n k t d <;> simp [stI_at W1 (ar_pt R) hk]
theorem s_upperOf {h : mxH} (W : WF h) {r t d : Nat} {n : Nat → Int32} (G : MG n) (H : WG n) (R : RB r) (A : RR h r n) (ht : t < 20) (h1 : 1 ≤ d) (h2 : d ≤ 20) : Ok (fX6_upperOf r (Int32.ofNat t) (Int32.ofNat d) h) (fun o => o.1 = upp n t d ∧ Fr (fun b => b = r + 22) h o.2) := by
  unfold fX6_upperOf upp
  refine Ok_parts W R A (fun i hi => ?_) (fun k h3 hk W1 A1 => ?_) (fun h1 => if_pos yle)
  · split
    · exact wm_0 G H hi ht
    · exact lm_0 G H hi h1
  · simp only [if_neg (show ¬ (5 : Int32) ≤ Int32.ofNat k from nle hk), gR_x W1 R, isO_R W1 R, bN, s_isReadIn W1 R A1 hk ht h2, bI_0, s_weightedMark W1 R A1 hk ht, s_lastMark W1 G R A1 hk h1 h2, ofN_succ]
    cases rdI n k t d <;> simp [stI_at W1 (ar_pt R) hk]
