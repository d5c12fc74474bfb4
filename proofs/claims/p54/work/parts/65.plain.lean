/-! THE PURE SIDE, 16: bounds, the stops of reading alone -/
def lessB (l u l' u' : Int32) : Bool := decide (l < l') || (decide (l = l') && decide (u < u'))
theorem s_isLess {l u l' u' : Int32} {h : mxH} : fX5_isLess l u l' u' h = some (bI (lessB l u l' u')) := by
  unfold fX5_isLess lessB
  by_cases c1 : l < l'
  · simp [c1, bI, mxZ1]
  · by_cases c2 : l = l'
    · by_cases c3 : u' ≤ u
      · simp [c2, c3, Int32.not_lt.mpr c3, bI, mxZ1]
      · simp [c2, c3, Int32.not_le.mp c3, bI, mxZ1]
    · simp [c1, c2, bI, mxZ1]
set_option maxHeartbeats 1000000 in
theorem s_insertBounds {h : mxH} (W : WF h) {m : Nat} {lo up : Int32} (hm : m < 20) (hc : V h 297 4 = Int32.ofNat m) :
    Ok (fX5_insertBounds 297 lo up h) (fun h' => Fr (fun b => b = 297 ∨ b = 300 ∨ b = 301) h h' ∧ V h' 297 4 = Int32.ofNat (m + 1) ∧ ∃ pos, pos ≤ m ∧ (∀ j, pos ≤ j → j < m → lessB (V h 300 j) (V h 301 j) lo up = true) ∧ (pos = 0 ∨ lessB (V h 300 (pos - 1)) (V h 301 (pos - 1)) lo up = false) ∧ (∀ j, j ≤ m → V h' 300 j = if j < pos then V h 300 j else if j = pos then lo else V h 300 (j - 1)) ∧ (∀ j, j ≤ m → V h' 301 j = if j < pos then V h 301 j else if j = pos then up else V h 301 (j - 1))) := by
  unfold fX5_insertBounds
  simp only [gI_at W fd_rc, bN, hc, isThing_k hm, e10, if_false]
  refine Ok_b (P := fun r => Fr (fun b => b = 300 ∨ b = 301) h r.2 ∧ ∃ pos, r.1 = Int32.ofNat pos ∧ pos ≤ m ∧ (∀ j, pos ≤ j → j < m → lessB (V h 300 j) (V h 301 j) lo up = true) ∧ (pos = 0 ∨ lessB (V h 300 (pos - 1)) (V h 301 (pos - 1)) lo up = false) ∧ (∀ j, j ≤ m → j ≠ pos → V r.2 300 j = if j < pos then V h 300 j else V h 300 (j - 1)) ∧ (∀ j, j ≤ m → j ≠ pos → V r.2 301 j = if j < pos then V h 301 j else V h 301 (j - 1))) (Ok_loopE (fun k s => s.1 = Int32.ofNat (m - k) ∧ Fr (fun b => b = 300 ∨ b = 301) h s.2 ∧ (∀ j, m - k ≤ j → j < m → lessB (V h 300 j) (V h 301 j) lo up = true) ∧ (∀ j, j ≤ m → V s.2 300 j = if m - k < j then V h 300 (j - 1) else V h 300 j) ∧ (∀ j, j ≤ m → V s.2 301 j = if m - k < j then V h 301 (j - 1) else V h 301 j)) m ⟨rfl, Fr.refl W, fun j h1 h2 => by omega, fun j hj => by rw [if_neg (by omega)], fun j hj => by rw [if_neg (by omega)]⟩ ?_ (by unfold mxF; omega)) ?_
  · rintro k ⟨s1, h1⟩ hk ⟨e, F, hl, v1, v2⟩
    obtain rfl := show s1 = _ from e
    have W1 := F.1
    have v1 : ∀ j, j ≤ m → V h1 300 j = if m - k < j then V h 300 (j - 1) else V h 300 j := v1
    have v2 : ∀ j, j ≤ m → V h1 301 j = if m - k < j then V h 301 (j - 1) else V h 301 j := v2
    by_cases c : m - k = 0
    · have c1 : Int32.ofNat (m - k) ≤ 0 := by rw [c]; exact yle
      refine Ok_e (a := .inr (Int32.ofNat (m - k), h1)) (if_pos c1) (Or.inr ⟨_, rfl, F, m - k, rfl, by omega, hl, Or.inl c, fun j hj hne => ?_, fun j hj hne => ?_⟩)
      · rw [v1 j hj]
        by_cases q : m - k < j
        · rw [if_pos q, if_neg (by omega)]
        · rw [if_neg q, if_pos (by omega)]
      · rw [v2 j hj]
        by_cases q : m - k < j
        · rw [if_pos q, if_neg (by omega)]
        · rw [if_neg q, if_pos (by omega)]
    · have c1 : ¬ Int32.ofNat (m - k) ≤ 0 := nle (b := 0) (show 0 < m - k by omega) (by omega)
      have e1 : V h1 300 (m - k - 1) = V h 300 (m - k - 1) := by rw [v1 _ (by omega), if_neg (by omega)]
      have e2 : V h1 301 (m - k - 1) = V h 301 (m - k - 1) := by rw [v2 _ (by omega), if_neg (by omega)]
      simp only [if_neg c1, gR_lo W1, gR_up W1, bN, ofN_pred (show 1 ≤ m - k by omega) (by omega), ldI_at W1 ar_lo (show m - k - 1 < 20 by omega), ldI_at W1 ar_up (show m - k - 1 < 20 by omega), e1, e2, s_isLess, bI_0]
      by_cases q : lessB (V h 300 (m - k - 1)) (V h 301 (m - k - 1)) lo up = true
      · have S2 := ar_lo.sl (show m - k < 20 by omega)
        have W2 := WF_st (x := V h 300 (m - k - 1)) W1 S2
        have S3 := ar_up.sl (show m - k < 20 by omega)
        have e3 : V (st h1 300 (m - k) (V h 300 (m - k - 1))) 301 (m - k - 1) = V h 301 (m - k - 1) := by rw [V_st_ne (by omega)]; exact e2
        simp only [q, Bool.true_eq_false, if_false, stI_at W1 ar_lo (show m - k < 20 by omega), bN, gR_up W2, ldI_at W2 ar_up (show m - k - 1 < 20 by omega), e3, stI_at W2 ar_up (show m - k < 20 by omega)]
        refine Ok_p (Or.inl ⟨_, rfl, by omega, by show Int32.ofNat _ = Int32.ofNat _; congr 1, F.trans ((Fr.st W1 S2 (Or.inl rfl)).trans (Fr.st W2 S3 (Or.inr rfl))), fun j h1 h2 => ?_, fun j hj => ?_, fun j hj => ?_⟩)
        · by_cases z : j = m - k - 1
          · subst z; exact q
          · exact hl j (by omega) h2
        · show V (st _ _ _ _) _ _ = _
          rw [V_st_ne (by omega), V_st W1 S2]
          by_cases z : j = m - k
          · rw [if_pos ⟨rfl, z⟩, if_pos (by omega), z]
          · rw [if_neg (fun y => z y.2), v1 j hj]
            by_cases y : m - k < j
            · rw [if_pos y, if_pos (by omega)]
            · rw [if_neg y, if_neg (by omega)]
        · show V (st _ _ _ _) _ _ = _
          rw [V_st W2 S3, V_st_ne (by omega)]
          by_cases z : j = m - k
          · rw [if_pos ⟨rfl, z⟩, if_pos (by omega), z]
          · rw [if_neg (fun y => z y.2), v2 j hj]
            by_cases y : m - k < j
            · rw [if_pos y, if_pos (by omega)]
            · rw [if_neg y, if_neg (by omega)]
      · have q : lessB (V h 300 (m - k - 1)) (V h 301 (m - k - 1)) lo up = false := by simpa using q
        simp only [q, if_true]
        refine Ok_p (Or.inr ⟨_, rfl, F, m - k, rfl, by omega, hl, Or.inr q, fun j hj hne => ?_, fun j hj hne => ?_⟩)
        · show V h1 300 j = _
          rw [v1 j hj]
          by_cases q : m - k < j
          · rw [if_pos q, if_neg (by omega)]
          · rw [if_neg q, if_pos (by omega)]
        · show V h1 301 j = _
          rw [v2 j hj]
          by_cases q : m - k < j
          · rw [if_pos q, if_neg (by omega)]
          · rw [if_neg q, if_pos (by omega)]
  · rintro ⟨r1, h1⟩ ⟨F, pos, e, hp, hl, hz, v1, v2⟩
    obtain rfl := show r1 = _ from e
    have W1 := F.1
    have S2 := ar_lo.sl (show pos < 20 by omega)
    have W2 := WF_st (x := lo) W1 S2
    have S3 := ar_up.sl (show pos < 20 by omega)
    have W3 := WF_st (x := up) W2 S3
    have e4 : V (st (st h1 300 pos lo) 301 pos up) 297 4 = Int32.ofNat m := by
      rw [V_st_ne (by omega), V_st_ne (by omega), Fr_V F (by omega) (by omega)]; exact hc
    have S4 := fd_rc.sl
    simp only [gR_lo W1, stI_at W1 ar_lo (show pos < 20 by omega), gR_up W2, stI_at W2 ar_up (show pos < 20 by omega), gI_at W3 fd_rc, pI_at W3 fd_rc, bN, e4, ofN_succ]
    refine Ok_p ⟨(F.mono (fun b q => Or.inr q)).trans ((Fr.st W1 S2 (Or.inr (Or.inl rfl))).trans ((Fr.st W2 S3 (Or.inr (Or.inr rfl))).trans (Fr.st W3 S4 (Or.inl rfl)))), by rw [V_st W3 S4, if_pos ⟨rfl, rfl⟩], pos, hp, hl, hz, fun j hj => ?_, fun j hj => ?_⟩
    · rw [V_st_ne (by omega), V_st_ne (by omega), V_st W1 S2]
      by_cases z : j = pos
      · rw [if_pos ⟨rfl, z⟩, if_neg (by omega), if_pos z]
      · rw [if_neg (fun y => z y.2), if_neg z]; exact v1 j hj z
    · rw [V_st_ne (by omega), V_st W2 S3]
      by_cases z : j = pos
      · rw [if_pos ⟨rfl, z⟩, if_neg (by omega), if_pos z]
      · rw [if_neg (fun y => z y.2), V_st_ne (by omega), if_neg z]; exact v2 j hj z
/-- the order of the bounds -/
def befB (n : Nat → Int32) (d s t : Nat) : Bool := decide (low n t d < low n s d) || (decide (low n s d = low n t d) && bef (fun t => upp n t d) s t)
theorem befB_iff {n : Nat → Int32} {d s t : Nat} : befB n d s t = true ↔ low n t d < low n s d ∨ (low n s d = low n t d ∧ (upp n t d < upp n s d ∨ (upp n s d = upp n t d ∧ s < t))) := by
  unfold befB
  simp only [Bool.or_eq_true, Bool.and_eq_true, decide_eq_true_eq, bef_iff]
theorem befB_STO (n : Nat → Int32) (d N : Nat) : STO (befB n d) N := by
  refine ⟨fun a _ => ?_, fun a b c _ _ _ h1 h2 => ?_, fun a b _ _ h => ?_⟩
  · by_cases q : befB n d a a = true
    · have := befB_iff.mp q
      simp only [i32_lt, i32_eq] at this
      omega
    · simpa using q
  · rw [befB_iff] at *
    simp only [i32_lt, i32_eq] at *
    omega
  · rw [befB_iff, befB_iff]
    simp only [i32_lt, i32_eq]
    omega
theorem lessB_bef {n : Nat → Int32} {d s t : Nat} (h : s < t) : lessB (low n s d) (upp n s d) (low n t d) (upp n t d) = befB n d t s := by
  have e : (lessB (low n s d) (upp n s d) (low n t d) (upp n t d) = true) ↔ befB n d t s = true := by
    rw [befB_iff]
    unfold lessB
    simp only [Bool.or_eq_true, Bool.and_eq_true, decide_eq_true_eq, i32_lt, i32_eq]
    omega
  cases h1 : lessB (low n s d) (upp n s d) (low n t d) (upp n t d) <;> cases h2 : befB n d t s
  · rfl
  · rw [h1, h2] at e; exact absurd (e.mpr rfl) (by decide)
  · rw [h1, h2] at e; exact absurd (e.mp rfl) (by decide)
  · rfl
def bnr (n : Nat → Int32) (d j : Nat) : Nat := nrL (befB n d) (fun t => rdAt n t d) 20 j
set_option maxHeartbeats 1000000 in
theorem s_gatherBounds {h : mxH} (W : WF h) {r d : Nat} {n : Nat → Int32} (G : MG n) (H : WG n) (R : RB r) (A : RR h r n) (h1 : 1 ≤ d) (h2 : d ≤ 20) :
    Ok (fX5_gatherBounds 297 (Int32.ofNat d) r h) (fun h' => Fr (fun b => b = r + 22 ∨ b = 297 ∨ b = 300 ∨ b = 301) h h' ∧ V h' 297 4 = Int32.ofNat (rdT n d) ∧ ∀ j, j < rdT n d → V h' 300 j = low n (bnr n d j) d ∧ V h' 301 j = upp n (bnr n d j) d) := by
  have RL := RB_le R
  have S := befB_STO n d 20
  unfold fX5_gatherBounds
  have S1 := fd_rc.sl
  have W1 := WF_st (x := 0) W S1
  have F1 := Fr.st (P := fun b => b = r + 22 ∨ b = 297 ∨ b = 300 ∨ b = 301) (x := 0) W S1 (Or.inr (Or.inl rfl))
  simp only [pI_at W fd_rc, bN]
  refine Ok_b (P := fun h1 => Fr (fun b => b = r + 22 ∨ b = 297 ∨ b = 300 ∨ b = 301) h h1 ∧ ∃ m e, V h1 297 4 = Int32.ofNat m ∧ SE (befB n d) (fun t => rdAt n t d && decide (t < 20)) 20 m e ∧ ∀ j, j < m → V h1 300 j = low n (e j) d ∧ V h1 301 j = upp n (e j) d) (Ok_loop (fun k s => s.1 = Int32.ofNat k ∧ Fr (fun b => b = r + 22 ∨ b = 297 ∨ b = 300 ∨ b = 301) h s.2 ∧ ∃ m e, V s.2 297 4 = Int32.ofNat m ∧ SE (befB n d) (fun t => rdAt n t d && decide (t < k)) 20 m e ∧ ∀ j, j < m → V s.2 300 j = low n (e j) d ∧ V s.2 301 j = upp n (e j) d) 20 ⟨rfl, F1, 0, fun _ => 0, by rw [V_st W S1, if_pos ⟨rfl, rfl⟩]; rfl, SE_nil (fun s _ => by simp), fun j hj => by omega⟩ ?_ ?_) (fun h1 ⟨F, m, e, v0, E, v1⟩ => Ok_p ⟨F, ?_, fun j hj => ?_⟩)
  · rintro k ⟨s1, h1⟩ hk ⟨e1, F, m, e, v0, E, v1⟩
    obtain rfl := show s1 = _ from e1
    have W1 := F.1
    have v0 : V h1 297 4 = Int32.ofNat m := v0
    have v1 : ∀ j, j < m → V h1 300 j = low n (e j) d ∧ V h1 301 j = upp n (e j) d := v1
    have A1 := RR_fr R A F (fun o ho => by omega)
    have hek : ∀ j, j < m → e j < k := fun j hj => by
      have := (E.1 j hj).2
      simp only [Bool.and_eq_true, decide_eq_true_eq] at this
      exact this.2
    simp only [if_neg (n20 hk), isO_R W1 R, bN, s_isRd W1 R A1 hk h2, bI_0]
    by_cases c : rdAt n k d = true
    · simp only [c, Bool.true_eq_false, if_false]
      have hm : m < 20 := by
        have e5 := SE_cnt S E
        have : cnt (fun t => rdAt n t d && decide (t < k)) 20 < cnt (fun _ => true) 20 := cnt_lt (fun _ _ _ => rfl) hk (by simp) rfl
        have h3 := cnt_le (fun _ => true) 20
        omega
      refine Ok_b (P := fun h5 => Fr (fun b => b = r + 22 ∨ b = 297 ∨ b = 300 ∨ b = 301) h h5 ∧ ∃ m e, V h5 297 4 = Int32.ofNat m ∧ SE (befB n d) (fun t => rdAt n t d && decide (t < k + 1)) 20 m e ∧ ∀ j, j < m → V h5 300 j = low n (e j) d ∧ V h5 301 j = upp n (e j) d) ?_ (fun h5 H5 => Ok_p ⟨_, rfl, ofN_succ _, H5⟩)
      refine Ok_b (s_lowerOf W1 G H R A1 hk (by omega) h2) (fun o2 ⟨e2, F2⟩ => ?_)
      have W2 := F2.1
      have A2 := RR_fr R A1 F2 (fun o ho => by omega)
      simp only [isO_R W2 R, bN]
      refine Ok_b (s_upperOf W2 G H R A2 hk (by omega) h2) (fun o3 ⟨e3, F3⟩ => ?_)
      have W3 := F3.1
      have F23 := F2.trans F3
      have v03 : V o3.2 297 4 = Int32.ofNat m := by rw [Fr_V F23 (by omega) (by omega)]; exact v0
      simp only [isO_D W3, bN, e2, e3]
      refine Ok_b (s_insertBounds W3 hm v03) (fun h5 ⟨F5, v5, pos, p1, p2, p3, p4, p5⟩ => Ok_p ⟨F.trans ((F23.mono (fun b q => Or.inl q)).trans (F5.mono (fun b q => Or.inr q))), m + 1, (fun j => if j < pos then e j else if j = pos then k else e (j - 1)), v5, ?_, fun j hj => ?_⟩)
      · have e30 : ∀ j, j < m → V o3.2 300 j = low n (e j) d := fun j hj => by rw [Fr_V F23 (by omega) (by omega)]; exact (v1 j hj).1
        have e31 : ∀ j, j < m → V o3.2 301 j = upp n (e j) d := fun j hj => by rw [Fr_V F23 (by omega) (by omega)]; exact (v1 j hj).2
        refine SE_congr (SE_ins S E hk (by simp) p1 (fun j q1 q2 => ?_) ?_) (fun s hs => ?_)
        · have := p2 j q1 q2
          rw [e30 j q2, e31 j q2, lessB_bef (hek j q2)] at this
          exact this
        · rcases p3 with p3 | p3
          · exact Or.inl p3
          · by_cases z : pos = 0
            · exact Or.inl z
            · rw [e30 _ (by omega), e31 _ (by omega), lessB_bef (hek _ (by omega))] at p3
              exact Or.inr p3
        · by_cases z : s = k
          · subst z; simp [c]
          · have e7 : (s == k) = false := by simpa using z
            rw [e7, Bool.or_false]
            by_cases y : s < k
            · rw [decide_eq_true y, decide_eq_true (show s < k + 1 by omega)]
            · rw [decide_eq_false y, decide_eq_false (show ¬ s < k + 1 by omega)]
      · show V h5 300 j = low n (if j < pos then e j else if j = pos then k else e (j - 1)) d ∧ V h5 301 j = upp n (if j < pos then e j else if j = pos then k else e (j - 1)) d
        rw [p4 j (by omega), p5 j (by omega)]
        by_cases q1 : j < pos
        · rw [if_pos q1, if_pos q1, if_pos q1, Fr_V F23 (by omega) (by omega), Fr_V F23 (by omega) (by omega)]; exact v1 j (by omega)
        · rw [if_neg q1, if_neg q1, if_neg q1]
          by_cases q2 : j = pos
          · rw [if_pos q2, if_pos q2, if_pos q2]; exact ⟨rfl, rfl⟩
          · rw [if_neg q2, if_neg q2, if_neg q2, Fr_V F23 (by omega) (by omega), Fr_V F23 (by omega) (by omega)]; exact v1 (j - 1) (by omega)
    · have c : rdAt n k d = false := by simpa using c
      simp only [c, if_true, bN]
      refine Ok_p ⟨_, rfl, ofN_succ _, F, m, e, v0, SE_congr E (fun s hs => ?_), v1⟩
      by_cases z : s = k
      · subst z; rw [c]; rfl
      · by_cases y : s < k
        · rw [decide_eq_true y, decide_eq_true (show s < k + 1 by omega)]
        · rw [decide_eq_false y, decide_eq_false (show ¬ s < k + 1 by omega)]
  · rintro ⟨s1, h1⟩ ⟨e1, F, m, e, v0, E, v1⟩
    obtain rfl := show s1 = _ from e1
    exact Ok_e (if_pos yle) ⟨_, rfl, F, m, e, v0, E, v1⟩
  · have E2 := SE_congr (Q := fun t => rdAt n t d) E (fun s hs => by simp [hs])
    rw [v0, SE_cnt S E2]; rfl
  · have E2 := SE_congr (Q := fun t => rdAt n t d) E (fun s hs => by simp [hs])
    have hm : m = rdT n d := SE_cnt S E2
    have := v1 j (by omega)
    rw [SE_nr S E2 (by omega)] at this
    exact this
