/-! THE PURE SIDE, 15: who was read, in the ranking's order; the stops -/
theorem nth_of {p : Nat → Bool} {j N : Nat} (hj : j < N) (pj : p j = true) : nth p (cnt p j) N = j := by
  obtain ⟨h1, h2, h3⟩ := nth_found (p := p) (q := cnt p j) (N := N) (cnt_lt_of hj pj)
  by_cases c : nth p (cnt p j) N < j
  · have := cnt_lt_of c h2; omega
  · by_cases c2 : j < nth p (cnt p j) N
    · have := cnt_lt_of c2 pj; omega
    · omega
theorem cnt_mono_n {p : Nat → Bool} {a b : Nat} (h : a ≤ b) : cnt p a ≤ cnt p b := by
  induction b with
  | zero => rw [show a = 0 by omega]; exact Nat.le_refl _
  | succ b ih =>
    by_cases c : a = b + 1
    · rw [c]; exact Nat.le_refl _
    · have := ih (by omega)
      show cnt p a ≤ cnt p b + _
      omega
/-- those of Q, in a sorted row of P's -/
theorem SE_filter {lt : Nat → Nat → Bool} {P Q : Nat → Bool} {N m M : Nat} {e : Nat → Nat} (E : SE lt P N m e) (hM : m ≤ M) (hQ : ∀ s, s < N → Q s = true → P s = true) :
    SE lt Q N (cnt (fun j => decide (j < m) && Q (e j)) M) (fun q => e (nth (fun j => decide (j < m) && Q (e j)) q M)) := by
  have key : ∀ q, q < cnt (fun j => decide (j < m) && Q (e j)) M → nth (fun j => decide (j < m) && Q (e j)) q M < m ∧ Q (e (nth (fun j => decide (j < m) && Q (e j)) q M)) = true ∧ cnt (fun j => decide (j < m) && Q (e j)) (nth (fun j => decide (j < m) && Q (e j)) q M) = q := fun q hq => by
    obtain ⟨h1, h2, h3⟩ := nth_found hq
    simp only [Bool.and_eq_true, decide_eq_true_eq] at h2
    exact ⟨h2.1, h2.2, h3⟩
  refine ⟨fun j hj => ⟨(E.1 _ (key j hj).1).1, (key j hj).2.1⟩, fun i j hij hj => ?_, fun s hs q => ?_⟩
  · obtain ⟨a1, a2, a3⟩ := key i (by omega)
    obtain ⟨b1, b2, b3⟩ := key j hj
    refine E.2.1 _ _ ?_ b1
    by_cases c : nth (fun j => decide (j < m) && Q (e j)) i M < nth (fun j => decide (j < m) && Q (e j)) j M
    · exact c
    · have := cnt_mono_n (p := fun j => decide (j < m) && Q (e j)) (show nth (fun j => decide (j < m) && Q (e j)) j M ≤ nth (fun j => decide (j < m) && Q (e j)) i M by omega)
      omega
  · obtain ⟨j, hj, he⟩ := E.2.2 s hs (hQ s hs q)
    have pj : (fun j => decide (j < m) && Q (e j)) j = true := by simp [hj, he, q]
    refine ⟨cnt (fun j => decide (j < m) && Q (e j)) j, cnt_lt_of (by omega) pj, ?_⟩
    show e (nth (fun j => decide (j < m) && Q (e j)) (cnt (fun j => decide (j < m) && Q (e j)) j) M) = s
    rw [nth_of (by omega) pj]; exact he
theorem rdI_mono {n : Nat → Int32} {i t d e : Nat} (h : d ≤ e) (q : rdI n i t d = true) : rdI n i t e = true := by
  unfold rdI at *
  simp only [Bool.and_eq_true, decide_eq_true_eq] at *
  exact ⟨q.1, by omega⟩
theorem rdAt_mono {n : Nat → Int32} {t d e : Nat} (h : d ≤ e) (q : rdAt n t d = true) : rdAt n t e = true := by
  obtain ⟨i, h1, h2⟩ := orT_iff.mp q
  exact orT_iff.mpr ⟨i, h1, rdI_mono h h2⟩
/-- the q-th best of those that were read at a depth -/
def bst (n : Nat → Int32) (d q : Nat) : Nat := nrL (bef (val n)) (fun t => rdAt n t d) 20 q
theorem rd_filter {n : Nat → Int32} {d : Nat} (hd : d ≤ 20) : SE (bef (val n)) (fun t => rdAt n t d) 20 (cnt (fun j => decide (j < rdT n 20) && rdAt n (knr n j) d) 20) (fun q => knr n (nth (fun j => decide (j < rdT n 20) && rdAt n (knr n j) d) q 20)) :=
  SE_filter (SE_of (P := knw n) (bef_STO (val n) 20)) (cnt_le _ _) (fun s _ q => rdAt_mono hd q)
theorem bst_eq {n : Nat → Int32} {d q : Nat} (hd : d ≤ 20) (hq : q < rdT n d) : knr n (nth (fun j => decide (j < rdT n 20) && rdAt n (knr n j) d) q 20) = bst n d q := by
  have hc : cnt (fun j => decide (j < rdT n 20) && rdAt n (knr n j) d) 20 = rdT n d := SE_cnt (bef_STO (val n) 20) (rd_filter hd)
  have h := SE_nr (bef_STO (val n) 20) (rd_filter hd) (j := q) (by rw [hc]; exact hq)
  unfold bst
  rw [← h]
theorem s_readThingOn {h : mxH} (W : WF h) {k r d q : Nat} {n : Nat → Int32} (K : KB k) (R : RB r) (A : RR h r n) (B : KR h k n) (hd : d ≤ 20) (hq : q < 20) : fX4_readThingOn k (Int32.ofNat q) (Int32.ofNat d) r h = some (if q < rdT n d then Int32.ofNat (bst n d q) else -1) := by
  have V3 := ar_K K (o := 3) (by omega) (by omega)
  have hc : cnt (fun j => decide (j < rdT n 20) && rdAt n (knr n j) d) 20 = rdT n d := SE_cnt (bef_STO (val n) 20) (rd_filter hd)
  unfold fX4_readThingOn
  simp only [gR_g W K, bN, lenA_at W V3]
  have cell : ∀ j, j < 20 → V h (k + 3) j = if j < rdT n 20 then Int32.ofNat (knr n j) else -1 := B.2.2.1
  have isr : ∀ j, j < 20 → fX6_isRead r (V h (k + 3) j) (Int32.ofNat d) h = some (bI (decide (j < rdT n 20) && rdAt n (knr n j) d)) := fun j hj => by
    rw [cell j hj]
    by_cases c : j < rdT n 20
    · have h20 : knr n j < 20 := (nrL_spec (P := knw n) (bef_STO (val n) 20) c).1
      rw [if_pos c, s_isRd W R A h20 hd, decide_eq_true c]; rfl
    · rw [if_neg c, s_isRead_m, decide_eq_false c]; rfl
  refine bs (nth_loop (fun j => decide (j < rdT n 20) && rdAt n (knr n j) d) (fun j => V h (k + 3) j) 20 q (fun j c hj hc hp => ?_) (fun j c hj hc hp hne => ?_) (fun j hj hp hq2 => ?_) (fun c => if_pos yle)) ?_
  · simp only [if_neg (nle hj), ldI_at W V3 hj, bN, isO_R W R, isr j hj, hp, bI_0, if_true, ofN_succ]
  · simp only [if_neg (nle hj), ldI_at W V3 hj, bN, isO_R W R, isr j hj, hp, bI_0, Bool.true_eq_false, if_false, ofN_eq (show c < 2147483648 by omega) (show q < 2147483648 by omega), if_neg hne, ofN_succ]
  · simp only [if_neg (nle hj), ldI_at W V3 hj, bN, isO_R W R, isr j hj, hp, bI_0, Bool.true_eq_false, if_false, if_true]
  · by_cases c : q < rdT n d
    · have hf := nth_found (p := fun j => decide (j < rdT n 20) && rdAt n (knr n j) d) (q := q) (N := 20) (by rw [hc]; exact c)
      rw [if_pos hf.1, if_pos c]
      show some (V h (k + 3) _) = _
      have h2 := hf.2.1
      simp only [Bool.and_eq_true, decide_eq_true_eq] at h2
      rw [cell _ hf.1, if_pos h2.1]
      rw [bst_eq hd c]
    · rw [if_neg (nth_none (by rw [hc]; exact c)), if_neg c]; rfl
/-- what the ranking shows at a place -/
def kat (n : Nat → Int32) (j : Nat) : Int32 := if j < rdT n 20 then Int32.ofNat (knr n j) else -1
theorem s_hasSameFirst {h : mxH} (W : WF h) {k l m : Nat} {n n' : Nat → Int32} (K : KB k) (L : KB l) (A : KR h k n) (B : KR h l n') (hm : m ≤ 20) : fX4_hasSameFirst k (Int32.ofNat m) l h = some (bI (!orT (fun j => decide (kat n j ≠ kat n' j)) m)) := by
  unfold fX4_hasSameFirst
  refine bs (find_loopU (fun j => decide (kat n j ≠ kat n' j)) m (fun j hj hp => ?_) (fun j hj hp => ?_) ?_ (by unfold mxF; omega)) ?_
  · have hp : kat n j = kat n' j := by simpa using hp
    simp only [if_neg (nle hj (by omega)), isO_K W K, isO_K W L, bN, s_kThingOn W K (show j < 20 by omega), s_kThingOn W L (show j < 20 by omega), A.2.2.1 j (by omega), B.2.2.1 j (by omega), ofN_succ]
    exact if_pos hp
  · have hp : ¬ kat n j = kat n' j := by simpa using hp
    simp only [if_neg (nle hj (by omega)), isO_K W K, isO_K W L, bN, s_kThingOn W K (show j < 20 by omega), s_kThingOn W L (show j < 20 by omega), A.2.2.1 j (by omega), B.2.2.1 j (by omega)]
    exact if_neg hp
  · exact if_pos yle
  · cases orT (fun j => decide (kat n j ≠ kat n' j)) m <;> rfl
/-! the stops -/
theorem ar_st : ar 298 21 := ⟨by omega, by omega, rfl, rfl⟩
theorem ar_ps : ar 299 21 := ⟨by omega, by omega, rfl, rfl⟩
theorem ar_lo : ar 300 20 := ⟨by omega, by omega, rfl, rfl⟩
theorem ar_up : ar 301 20 := ⟨by omega, by omega, rfl, rfl⟩
theorem gR_st {h : mxH} (W : WF h) : gR h 297 5 0 = some 298 := gR_at W ⟨by omega, by omega, rfl, by omega, by decide, rfl, by omega⟩
theorem gR_ps {h : mxH} (W : WF h) : gR h 297 5 1 = some 299 := gR_at W ⟨by omega, by omega, rfl, by omega, by decide, rfl, by omega⟩
theorem gR_lo {h : mxH} (W : WF h) : gR h 297 5 2 = some 300 := gR_at W ⟨by omega, by omega, rfl, by omega, by decide, rfl, by omega⟩
theorem gR_up {h : mxH} (W : WF h) : gR h 297 5 3 = some 301 := gR_at W ⟨by omega, by omega, rfl, by omega, by decide, rfl, by omega⟩
theorem fd_rc : fd 297 5 4 := ⟨by omega, by omega, rfl, by omega, by decide, rfl⟩
theorem isO_D {h : mxH} (W : WF h) : isO h 297 5 = some () := isO_at W ⟨by omega, by omega, rfl⟩
theorem s_countSure {h : mxH} (W : WF h) {k r d : Nat} {n : Nat → Int32} {L : Int32} (K : KB k) (R : RB r) (A : RR h r n) (B : KR h k n) (hd : d ≤ 20) : fX5_countSure (Int32.ofNat d) L r k h = some (Int32.ofNat (cnt (fun t => !decide (bvl n t < L) && rdAt n t d) 20)) := by
  unfold fX5_countSure
  refine bs (cnt_loop (fun t => !decide (bvl n t < L) && rdAt n t d) 20 (fun j c hj hc => ?_) (fun c => if_pos yle)) rfl
  simp only [if_neg (n20 hj), isO_K W K, bN, s_valueIn W K hj, B.1 j hj, isO_R W R, s_isRd W R A hj hd, bI_0, ofN_succ]
  by_cases c1 : bvl n j < L
  · simp [c1]
  · cases e : rdAt n j d <;> simp [c1]
def sur (n : Nat → Int32) (d : Nat) : Nat := cnt (fun t => !decide (bvl n t < lim n d) && rdAt n t d) 20
theorem s_stopUpTo {h : mxH} (W : WF h) {g d : Nat} (hg : g ≤ 20) (hd : d ≤ 20) : Ok (fX5_stopUpTo 297 (Int32.ofNat g) (Int32.ofNat d) h) (fun h' => Fr (fun b => b = 298) h h' ∧ ∀ k, 1 ≤ k → k ≤ 20 → V h' 298 k = if k ≤ g ∧ V h 298 k = -1 then Int32.ofNat d else V h 298 k) := by
  unfold fX5_stopUpTo
  refine Ok_b (Ok_loop (fun j s => s.1 = Int32.ofNat (1 + j) ∧ Fr (fun b => b = 298) h s.2 ∧ ∀ k, 1 ≤ k → k ≤ 20 → V s.2 298 k = if (k ≤ j ∧ k ≤ g) ∧ V h 298 k = -1 then Int32.ofNat d else V h 298 k) g ⟨rfl, Fr.refl W, fun k h1 h2 => by rw [if_neg (by omega)]⟩ ?_ ?_ (by unfold mxF; omega)) (fun h1 (H : Fr (fun b => b = 298) h h1 ∧ ∀ k, 1 ≤ k → k ≤ 20 → V h1 298 k = if k ≤ g ∧ V h 298 k = -1 then Int32.ofNat d else V h 298 k) => Ok_p H)
  · rintro j ⟨s1, h1⟩ hj ⟨e, F, hv⟩
    obtain rfl := show s1 = _ from e
    have W1 := F.1
    have hv : ∀ k, 1 ≤ k → k ≤ 20 → V h1 298 k = if (k ≤ j ∧ k ≤ g) ∧ V h 298 k = -1 then Int32.ofNat d else V h 298 k := hv
    have hj2 : 1 + j < 21 := by omega
    have ev : V h1 298 (1 + j) = V h 298 (1 + j) := by rw [hv (1 + j) (by omega) (by omega), if_neg (by omega)]
    have c1 : ¬ Int32.ofNat g < Int32.ofNat (1 + j) := fun q => by have := (ofN_lt (by omega) (by omega)).mp q; omega
    have c2 : ¬ (20 : Int32) < Int32.ofNat (1 + j) := fun q => by have := (ofN_lt (a := 20) (by omega) (by omega)).mp q; omega
    simp only [if_neg c1, if_neg c2, gR_st W1, bN, ldI_at W1 ar_st hj2, ev, ofN_succ]
    by_cases c : V h 298 (1 + j) = -1
    · have S := ar_st.sl hj2
      rw [if_pos c]
      simp only [bN, stI_at W1 ar_st hj2]
      refine Ok_p ⟨_, rfl, by show Int32.ofNat _ = Int32.ofNat _; congr 1, F.trans (Fr.st W1 S rfl), fun k h1 h2 => ?_⟩
      show V (st _ _ _ _) _ _ = _
      rw [V_st W1 S]
      by_cases e : k = 1 + j
      · subst e; rw [if_pos ⟨rfl, rfl⟩, if_pos ⟨by omega, c⟩]
      · rw [if_neg (fun z => e z.2), hv k h1 h2]
        by_cases q : (k ≤ j ∧ k ≤ g) ∧ V h 298 k = -1
        · rw [if_pos q, if_pos ⟨by omega, q.2⟩]
        · rw [if_neg q, if_neg (fun z => q ⟨by omega, z.2⟩)]
    · rw [if_neg c]
      simp only [bN]
      refine Ok_p ⟨_, rfl, by show Int32.ofNat _ = Int32.ofNat _; congr 1, F, fun k h1 h2 => ?_⟩
      show V _ _ _ = _
      rw [hv k h1 h2]
      by_cases q : (k ≤ j ∧ k ≤ g) ∧ V h 298 k = -1
      · rw [if_pos q, if_pos ⟨by omega, q.2⟩]
      · rw [if_neg q, if_neg (fun z => ?_)]
        by_cases e : k = 1 + j
        · subst e; exact c z.2
        · exact q ⟨by omega, z.2⟩
  · rintro ⟨s1, h1⟩ ⟨e, F, hv⟩
    obtain rfl := show s1 = _ from e
    have c1 : Int32.ofNat g < Int32.ofNat (1 + g) := (ofN_lt (by omega) (by omega)).mpr (by omega)
    refine Ok_e (a := .inr h1) (if_pos c1) ⟨_, rfl, F, fun k h1 h2 => ?_⟩
    rw [hv k h1 h2]
    by_cases q : k ≤ g ∧ V h 298 k = -1
    · rw [if_pos q, if_pos ⟨⟨q.1, q.1⟩, q.2⟩]
    · rw [if_neg q, if_neg (fun z => q ⟨z.1.1, z.2⟩)]
def stp (n : Nat → Int32) (k : Nat) : Nat := if dpt n = 0 then 0 else 1 + fst1 (fun d => decide (k ≤ sur n (d + 1))) (dpt n - 1)
theorem stp_le (n : Nat → Int32) (k : Nat) : stp n k ≤ dpt n := by
  unfold stp
  have := fst1_le (fun d => decide (k ≤ sur n (d + 1))) (dpt n - 1)
  split <;> omega
theorem s_findStops {h : mxH} (W : WF h) {k r : Nat} {n : Nat → Int32} (G : MG n) (H : WG n) (K : KB k) (R : RB r) (A : RR h r n) (B : KR h k n) : Ok (fX5_findStops 297 r k h) (fun h' => Fr (fun b => b = r + 22 ∨ b = 298) h h' ∧ ∀ q, 1 ≤ q → q ≤ 20 → V h' 298 q = Int32.ofNat (stp n q)) := by
  have RL := RB_le R
  have KL := KB_le K
  have D20 := dpt_20 n
  unfold fX5_findStops
  simp only [gR_st W, bN]
  refine Ok_b (s_fill W ar_st) (fun h1 ⟨F1, w1⟩ => ?_)
  have W1 := F1.1
  have A1 := RR_fr R A F1 (fun o ho => by omega)
  simp only [isO_R W1 R, bN, s_deepest W1 R A1]
  have G1 := F1.mono (Q := fun b => b = r + 22 ∨ b = 298) (fun b q => Or.inr q)
  refine Ok_b (P := fun h2 => Fr (fun b => b = r + 22 ∨ b = 298) h h2 ∧ ∀ q, 1 ≤ q → q ≤ 20 → V h2 298 q = if fst1 (fun d => decide (q ≤ sur n (d + 1))) (dpt n - 1) < dpt n - 1 then Int32.ofNat (1 + fst1 (fun d => decide (q ≤ sur n (d + 1))) (dpt n - 1)) else -1) (Ok_loop (fun j s => s.1 = Int32.ofNat (1 + j) ∧ Fr (fun b => b = r + 22 ∨ b = 298) h s.2 ∧ ∀ q, 1 ≤ q → q ≤ 20 → V s.2 298 q = if fst1 (fun d => decide (q ≤ sur n (d + 1))) j < j then Int32.ofNat (1 + fst1 (fun d => decide (q ≤ sur n (d + 1))) j) else -1) (dpt n - 1) ⟨rfl, G1, fun q h1 h2 => by rw [if_neg (by omega)]; exact w1 q (by omega)⟩ ?_ ?_ (by unfold mxF; omega)) (fun h2 ⟨F2, v2⟩ => ?_)
  · rintro j ⟨s1, h2⟩ hj ⟨e, F, hv⟩
    obtain rfl := show s1 = _ from e
    have W2 := F.1
    have hv : ∀ q, 1 ≤ q → q ≤ 20 → V h2 298 q = if fst1 (fun d => decide (q ≤ sur n (d + 1))) j < j then Int32.ofNat (1 + fst1 (fun d => decide (q ≤ sur n (d + 1))) j) else -1 := hv
    have A2 := RR_fr R A F (fun o ho => by omega)
    have B2 := KR_fr K B F (fun o ho => by omega)
    simp only [if_neg (show ¬ Int32.ofNat (dpt n) ≤ Int32.ofNat (1 + j) from nle (by omega) (by omega)), isO_R W2 R, bN]
    refine Ok_b (s_limitAt W2 G H R A2 (show 1 ≤ 1 + j by omega) (by omega)) (fun o ⟨e3, F3⟩ => ?_)
    have W3 := F3.1
    have A3 := RR_fr R A2 F3 (fun o ho => by omega)
    have B3 := KR_fr K B2 F3 (fun o ho => by omega)
    rw [e3]
    simp only [s_countSure W3 K R A3 B3 (show 1 + j ≤ 20 by omega), bN, isO_D W3]
    have es : cnt (fun t => !decide (bvl n t < lim n (1 + j)) && rdAt n t (1 + j)) 20 = sur n (j + 1) := by rw [Nat.add_comm 1 j]; rfl
    rw [es]
    refine Ok_b (s_stopUpTo W3 (cnt_le _ _) (by omega)) (fun h4 ⟨F4, v4⟩ => ?_)
    rw [ofN_succ]
    refine Ok_p ⟨_, rfl, by show Int32.ofNat _ = Int32.ofNat _; congr 1, F.trans ((F3.mono (fun b q => Or.inl q)).trans (F4.mono (fun b q => Or.inr q))), fun q h1 h2 => ?_⟩
    show V h4 298 q = _
    rw [v4 q h1 h2, Fr_V F3 (by omega) (by omega), hv q h1 h2]
    have hl := fst1_le (fun d => decide (q ≤ sur n (d + 1))) j
    show _ = if fst1 (fun d => decide (q ≤ sur n (d + 1))) (j + 1) < j + 1 then _ else _
    have e5 : fst1 (fun d => decide (q ≤ sur n (d + 1))) (j + 1) = if fst1 (fun d => decide (q ≤ sur n (d + 1))) j < j then fst1 (fun d => decide (q ≤ sur n (d + 1))) j else if decide (q ≤ sur n (j + 1)) then j else j + 1 := rfl
    rw [e5]
    generalize fst1 (fun d => decide (q ≤ sur n (d + 1))) j = f at hl
    by_cases c : f < j
    · simp only [c, if_true]
      rw [if_neg (show ¬ (q ≤ sur n (j + 1) ∧ Int32.ofNat (1 + f) = -1) from fun z => ofN_nm (by omega) z.2), if_pos (show f < j + 1 by omega)]
    · simp only [c, if_false]
      by_cases c2 : q ≤ sur n (j + 1)
      · simp only [c2, true_and, if_true, decide_true]
        rw [if_pos (show j < j + 1 by omega)]
      · simp only [c2, false_and, if_false, decide_false, Bool.false_eq_true]
        rw [if_neg (show ¬ j + 1 < j + 1 by omega)]
  · rintro ⟨s1, h2⟩ ⟨e, F, hv⟩
    obtain rfl := show s1 = _ from e
    have c1 : Int32.ofNat (dpt n) ≤ Int32.ofNat (1 + (dpt n - 1)) := (ofN_le (by omega) (by omega)).mpr (by omega)
    exact Ok_e (a := .inr h2) (if_pos c1) ⟨_, rfl, F, hv⟩
  · have W2 := F2.1
    simp only [isO_D W2, bN]
    refine Ok_b (show Ok (fX5_stopUpTo 297 20 (Int32.ofNat (dpt n)) h2) _ from s_stopUpTo W2 (g := 20) (by omega) D20) (fun h3 ⟨F3, v3⟩ => Ok_p ⟨F2.trans (F3.mono (fun b q => Or.inr q)), fun q h1 h2 => ?_⟩)
    rw [v3 q h1 h2, v2 q h1 h2]
    unfold stp
    have hl := fst1_le (fun d => decide (q ≤ sur n (d + 1))) (dpt n - 1)
    by_cases c : fst1 (fun d => decide (q ≤ sur n (d + 1))) (dpt n - 1) < dpt n - 1
    · rw [if_pos c, if_neg (fun z => ofN_nm (show 1 + fst1 (fun d => decide (q ≤ sur n (d + 1))) (dpt n - 1) < 2147483648 by omega) z.2), if_neg (by omega)]
    · rw [if_neg c, if_pos ⟨h2, rfl⟩]
      congr 1
      split <;> omega
theorem s_stopOf {h : mxH} (W : WF h) {k : Nat} (h1 : 1 ≤ k) (h2 : k ≤ 20) : fX5_stopOf 297 (Int32.ofNat k) h = some (V h 298 k) := by
  unfold fX5_stopOf
  simp only [ofN_pred h1 (show k < 2147483648 by omega), isThing_k (show k - 1 < 20 by omega), bN, e10, if_false, gR_st W, ldI_at W ar_st (show k < 21 by omega)]
theorem s_plainStopOf {h : mxH} (W : WF h) {k : Nat} (h1 : 1 ≤ k) (h2 : k ≤ 20) : fX5_plainStopOf 297 (Int32.ofNat k) h = some (V h 299 k) := by
  unfold fX5_plainStopOf
  simp only [ofN_pred h1 (show k < 2147483648 by omega), isThing_k (show k - 1 < 20 by omega), bN, e10, if_false, gR_ps W, ldI_at W ar_ps (show k < 21 by omega)]
