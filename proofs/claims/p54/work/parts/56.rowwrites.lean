/-! THE PURE SIDE, 7: what the class's rows write -/
theorem cnt_t {p : Nat → Bool} {k : Nat} (h : p k = true) : cnt p (k + 1) = cnt p k + 1 := by
  show cnt p k + (if p k then 1 else 0) = _
  rw [h]; rfl
theorem cnt_f {p : Nat → Bool} {k : Nat} (h : p k = false) : cnt p (k + 1) = cnt p k := by
  show cnt p k + (if p k then 1 else 0) = _
  rw [h]; rfl
theorem Ok_cp0 {h : mxH} (W : WF h) {a0 a m : Nat} (A0 : ar a0 m) (A : ar a m) (hm : m < 2147483648 := by decide) : Ok (cpI h a0 0 a 0 (Int32.ofNat m)) (fun h' => Fr (fun b => b = a) h h' ∧ ∀ j, j < m → V h' a j = V h a0 j) := by
  obtain ⟨h', e, F, hv⟩ := cpI_at W (sp := 0) (dp := 0) (m := m) A0 A (by omega) (by omega) hm hm
  refine ⟨h', e, F, fun j hj => ?_⟩
  rw [hv j hj, if_pos ⟨by omega, by omega⟩]
  simp
theorem s_fill {h : mxH} (W : WF h) {a n : Nat} {x : Int32} (A : ar a n) (hn : n < mxF := by decide) : Ok (fJ7_fill_53178 a x h) (fun h' => Fr (fun b => b = a) h h' ∧ ∀ j, j < n → V h' a j = x) := by
  have hn2 : n < 100000 := hn
  unfold fJ7_fill_53178
  rw [lenA_at W A, bN]
  refine Ok_b (Ok_loop (fun k s => s.1 = Int32.ofNat k ∧ Fr (fun b => b = a) h s.2 ∧ ∀ j, j < k → V s.2 a j = x) n ⟨rfl, Fr.refl W, fun j hj => by omega⟩ ?_ ?_ hn) (fun h1 H => Ok_p H)
  · rintro k ⟨s1, h1⟩ hk ⟨e, F, hv⟩
    obtain rfl := show s1 = _ from e
    have S := A.sl hk
    simp only [if_neg (nle hk (by omega)), stI_at F.1 A hk (by omega), bN, ofN_succ]
    refine Ok_p ⟨_, rfl, rfl, F.trans (Fr.st F.1 S rfl), fun j hj => ?_⟩
    rw [V_st F.1 S]
    split
    · rfl
    · exact hv j (by omega)
  · rintro ⟨s1, h1⟩ ⟨e, F, hv⟩
    obtain rfl := show s1 = _ from e
    exact Ok_e (if_pos yle) ⟨_, rfl, F, hv⟩
theorem s_countAhead {h : mxH} (W : WF h) {a t : Nat} (A : ar a 20) (ht : t < 20) : fX6_countAhead a (Int32.ofNat t) h = some (Int32.ofNat (cnt (fun s => bef (V h a) s t) 20)) := by
  unfold fX6_countAhead
  simp only [isThing_k ht, bN, e10, if_false, ldI_at W A ht]
  refine bs (cnt_loop (fun s => bef (V h a) s t) 20 (fun k c hk hc => ?_) (fun c => if_pos yle)) rfl
  simp only [if_neg (show ¬ (20 : Int32) ≤ Int32.ofNat k from nle hk), ldI_at W A hk, bN, ofN_succ, bef, ofN_le (show t < 2147483648 by omega) (show k < 2147483648 by omega)]
  by_cases c1 : V h a t < V h a k
  · simp [c1]
  · by_cases c2 : V h a k = V h a t
    · by_cases c3 : t ≤ k
      · simp [c2, c3, Nat.not_lt.mpr c3]
      · simp [c2, c3, Nat.not_le.mp c3]
    · simp [c1, c2]
theorem s_sort {h : mxH} (W : WF h) {a b c : Nat} (A : ar a 20) (B : ar b 20) (C : ar c 20) (hab : a ≠ b) (hac : a ≠ c) (hbc : b ≠ c) {f : Nat → Int32} (hf : ∀ t, t < 20 → V h a t = f t) :
    Ok (fX6_sort a b c h) (fun o => o.1 = Int32.ofNat (cnt (fun t => decide (f t ≠ -1)) 20) ∧ Fr (fun x => x = b ∨ x = c) h o.2 ∧ (∀ t, t < 20 → V o.2 c t = if f t = -1 then -1 else Int32.ofNat (cnt (fun s => bef f s t) 20)) ∧ (∀ t, t < 20 → f t ≠ -1 → V o.2 b (cnt (fun s => bef f s t) 20) = Int32.ofNat t) ∧ (∀ p, p < 20 → (∀ t, t < 20 → f t ≠ -1 → cnt (fun s => bef f s t) 20 ≠ p) → V o.2 b p = -1)) := by
  have h20 : ∀ t, t < 20 → cnt (fun s => bef f s t) 20 < 20 := fun t ht => by
    have h1 : cnt (fun s => bef f s t) 20 < cnt (fun _ => true) 20 := cnt_lt (fun _ _ _ => rfl) ht (bef_irr _ _) rfl
    have h2 := cnt_le (fun _ => true) 20
    omega
  have hinj : ∀ s t, s < 20 → t < 20 → cnt (fun u => bef f u s) 20 = cnt (fun u => bef f u t) 20 → s = t := fun s t hs ht e => by
    by_cases q : s = t
    · exact q
    · rcases bef_total (f := f) q with h | h
      · have := cnt_lt (p := fun u => bef f u s) (q := fun u => bef f u t) (fun k _ q => bef_trans q h) hs (bef_irr _ _) h
        omega
      · have := cnt_lt (p := fun u => bef f u t) (q := fun u => bef f u s) (fun k _ q => bef_trans q h) ht (bef_irr _ _) h
        omega
  have hP : ∀ h1 : mxH, (∀ t, t < 20 → V h1 a t = f t) → ∀ t, t < 20 → cnt (fun s => bef (V h1 a) s t) 20 = cnt (fun s => bef f s t) 20 := fun h1 e t ht => cnt_congr (fun s hs => by unfold bef; rw [e t ht, e s hs])
  unfold fX6_sort
  refine Ok_b (s_fill W B) (fun h1 ⟨F1, v1⟩ => ?_)
  refine Ok_b (s_fill F1.1 C) (fun h2 ⟨F2, v2⟩ => ?_)
  have F12 : Fr (fun x => x = b ∨ x = c) h h2 := (F1.mono (fun _ q => Or.inl q)).trans (F2.mono (fun _ q => Or.inr q))
  refine Ok_b (P := fun o => o.1 = Int32.ofNat (cnt (fun t => decide (f t ≠ -1)) 20) ∧ Fr (fun x => x = b ∨ x = c) h o.2 ∧ (∀ t, t < 20 → V o.2 c t = if f t = -1 then -1 else Int32.ofNat (cnt (fun s => bef f s t) 20)) ∧ (∀ t, t < 20 → f t ≠ -1 → V o.2 b (cnt (fun s => bef f s t) 20) = Int32.ofNat t) ∧ (∀ p, p < 20 → (∀ t, t < 20 → f t ≠ -1 → cnt (fun s => bef f s t) 20 ≠ p) → V o.2 b p = -1)) (Ok_loop (fun k s => s.1 = Int32.ofNat (cnt (fun t => decide (f t ≠ -1)) k) ∧ s.2.1 = Int32.ofNat k ∧ Fr (fun x => x = b ∨ x = c) h s.2.2 ∧ (∀ t, t < k → V s.2.2 c t = if f t = -1 then -1 else Int32.ofNat (cnt (fun s => bef f s t) 20)) ∧ (∀ t, k ≤ t → t < 20 → V s.2.2 c t = -1) ∧ (∀ t, t < k → f t ≠ -1 → V s.2.2 b (cnt (fun s => bef f s t) 20) = Int32.ofNat t) ∧ (∀ p, p < 20 → (∀ t, t < k → f t ≠ -1 → cnt (fun s => bef f s t) 20 ≠ p) → V s.2.2 b p = -1)) 20 ⟨rfl, rfl, F12, fun t ht => by omega, fun t _ ht => v2 t ht, fun t ht => by omega, fun p hp _ => by
    show V h2 b p = -1
    rw [Fr_V F2 B.2.1 hbc]; exact v1 p hp⟩ ?_ ?_) (fun o H => Ok_p H)
  · rintro k ⟨s1, s2, h3⟩ hk ⟨e1, e2, F, w1, w2, w3, w4⟩
    obtain rfl := show s1 = _ from e1
    obtain rfl := show s2 = _ from e2
    have hv : ∀ t, t < 20 → V h3 a t = f t := fun t ht => by
      rw [Fr_V F A.2.1 (by rintro (q | q); exact hab q; exact hac q)]; exact hf t ht
    simp only [if_neg (show ¬ (20 : Int32) ≤ Int32.ofNat k from nle hk), ldI_at F.1 A hk, bN, hv k hk, s_countAhead F.1 A hk, hP h3 hv k hk]
    by_cases q : f k = -1
    · simp only [q, if_true, isThing_m, bN, ofN_succ]
      refine Ok_p ⟨_, rfl, ?_, rfl, F, ?_, ?_, ?_, ?_⟩
      · show Int32.ofNat _ = Int32.ofNat (cnt _ (k + 1))
        rw [cnt_f (by simp [q])]
      · intro t ht
        by_cases e : t = k
        · subst e; rw [if_pos q]; exact w2 t (Nat.le_refl _) hk
        · exact w1 t (by omega)
      · intro t h1 h2; exact w2 t (by omega) h2
      · intro t ht hn
        by_cases e : t = k
        · subst e; exact absurd q hn
        · exact w3 t (by omega) hn
      · intro p hp hn; exact w4 p hp (fun t ht => hn t (by omega))
    · have hk20 := h20 k hk
      have S1 := B.sl hk20
      have W1 := WF_st (x := Int32.ofNat k) F.1 S1
      have S2 := C.sl hk
      simp only [q, if_false, isThing_k hk20, bN, e10, stI_at F.1 B hk20, stI_at W1 C hk, ofN_succ]
      refine Ok_p ⟨_, rfl, ?_, rfl, F.trans ((Fr.st F.1 S1 (Or.inl rfl)).trans (Fr.st W1 S2 (Or.inr rfl))), ?_, ?_, ?_, ?_⟩
      · show Int32.ofNat _ = Int32.ofNat (cnt _ (k + 1))
        rw [cnt_t (by simp [q])]
      · intro t ht
        show V (st _ _ _ _) c t = _
        rw [V_st W1 S2, V_st F.1 S1]
        by_cases e : t = k
        · subst e; rw [if_pos ⟨rfl, rfl⟩, if_neg q]
        · rw [if_neg (fun z => e z.2), if_neg (fun z => hbc z.1.symm)]; exact w1 t (by omega)
      · intro t h1 h2
        show V (st _ _ _ _) c t = _
        rw [V_st W1 S2, V_st F.1 S1, if_neg (fun z => by omega), if_neg (fun z => hbc z.1.symm)]
        exact w2 t (by omega) h2
      · intro t ht hn
        show V (st _ _ _ _) b _ = _
        rw [V_st W1 S2, V_st F.1 S1, if_neg (fun z => hbc z.1)]
        by_cases e : t = k
        · subst e; rw [if_pos ⟨rfl, rfl⟩]
        · rw [if_neg (fun z => e (hinj t k (by omega) hk z.2))]; exact w3 t (by omega) hn
      · intro p hp hn
        show V (st _ _ _ _) b _ = _
        rw [V_st W1 S2, V_st F.1 S1, if_neg (fun z => hbc z.1), if_neg (fun z => hn k (by omega) q z.2.symm)]
        exact w4 p hp (fun t ht => hn t (by omega))
  · rintro ⟨s1, s2, h3⟩ ⟨e1, e2, F, w1, w2, w3, w4⟩
    obtain rfl := show s1 = _ from e1
    obtain rfl := show s2 = _ from e2
    exact Ok_e (if_pos yle) ⟨_, rfl, rfl, F, w1, w3, w4⟩
theorem s_findFirstPlaces {h : mxH} (W : WF h) {r : Nat} {n : Nat → Int32} (R : RB r) (A : ∀ i t, i < 5 → t < 20 → V h (r + 8 + i) t = if hs n i t then Int32.ofNat (pla n i t) else -1) :
    Ok (fX6_findFirstPlaces r h) (fun h' => Fr (fun b => b = r + 21) h h' ∧ ∀ t, t < 20 → V h' (r + 21) t = Int32.ofNat (fpl n t)) := by
  have RL := RB_le R
  unfold fX6_findFirstPlaces
  refine Ok_b (Ok_loop (fun k s => s.1 = Int32.ofNat k ∧ Fr (fun b => b = r + 21) h s.2 ∧ ∀ t, t < k → V s.2 (r + 21) t = Int32.ofNat (fpl n t)) 20 ⟨rfl, Fr.refl W, fun j hj => by omega⟩ ?_ ?_) (fun h1 H => Ok_p H)
  · rintro k ⟨s1, h1⟩ hk ⟨e, F, hv⟩
    obtain rfl := show s1 = _ from e
    have W1 := F.1
    simp only [if_neg (show ¬ (20 : Int32) ≤ Int32.ofNat k from nle hk)]
    refine Ok_s (a := Int32.ofNat (fpl n k)) ?_ ?_
    · unfold fpl
      refine nat_loop (fun m i => if hs n i k then min m (pla n i k) else m) 20 5 (fun i hi => ?_) (fun c => if_pos yle)
      have h20 := pla_20 (n := n) (r := i) hk
      have hm : fo (fun m i => if hs n i k then min m (pla n i k) else m) 20 i ≤ 20 := fo_ind (fun m => m ≤ 20) (Nat.le_refl _) (fun m j _ hm => by
        show (if hs n j k then min m (pla n j k) else m) ≤ 20
        split
        · exact Nat.le_trans (Nat.min_le_left _ _) hm
        · exact hm)
      have e : V h1 (r + 8 + i) k = if hs n i k then Int32.ofNat (pla n i k) else -1 := by
        rw [Fr_V F (by omega) (by omega)]; exact A i k hi hk
      simp only [if_neg (nle hi), if_neg (show ¬ (5 : Int32) ≤ Int32.ofNat i from nle hi), gR_p W1 R, ldR_p W1 R hi, ldI_at W1 (ar_pl R hi) hk, bN, e, ofN_succ]
      generalize fo (fun m i => if hs n i k then min m (pla n i k) else m) 20 i = m at hm
      cases hs n i k
      · simp
      · simp [ofN_nm (show pla n i k < 2147483648 by omega), mxMin_N (show m < 2147483648 by omega) (show pla n i k < 2147483648 by omega)]
    · have S := (ar_fp R).sl hk
      simp only [gR_f W1 R, bN, stI_at W1 (ar_fp R) hk, ofN_succ]
      refine Ok_p ⟨_, rfl, rfl, F.trans (Fr.st W1 S rfl), fun j hj => ?_⟩
      show V (st _ _ _ _) _ _ = _
      rw [V_st W1 S]
      by_cases e : j = k
      · subst e; rw [if_pos ⟨rfl, rfl⟩]
      · rw [if_neg (fun z => e z.2)]; exact hv j (by omega)
  · rintro ⟨s1, h1⟩ ⟨e, F, hv⟩
    obtain rfl := show s1 = _ from e
    exact Ok_e (if_pos yle) ⟨_, rfl, F, hv⟩
/-! a row that stays -/
theorem fst1_congr {p q : Nat → Bool} {n : Nat} (h : ∀ k, k < n → p k = q k) : fst1 p n = fst1 q n := by
  induction n with
  | zero => rfl
  | succ n ih =>
    unfold fst1
    rw [ih (fun k hk => h k (by omega)), h n (by omega)]
theorem hs_congr {n m : Nat → Int32} {i : Nat} (e : ∀ t, t < 20 → n (20 * i + t) = m (20 * i + t)) {t : Nat} (ht : t < 20) : hs n i t = hs m i t := by
  unfold hs; rw [e t ht]
theorem pla_congr {n m : Nat → Int32} {i : Nat} (e : ∀ t, t < 20 → n (20 * i + t) = m (20 * i + t)) {t : Nat} (ht : t < 20) : pla n i t = pla m i t :=
  cnt_congr (fun s hs => by unfold bef mkf; rw [e t ht, e s hs])
theorem itm_congr {n m : Nat → Int32} {i : Nat} (e : ∀ t, t < 20 → n (20 * i + t) = m (20 * i + t)) : itm n i = itm m i := cnt_congr (fun s hs => hs_congr e hs)
theorem thi_congr {n m : Nat → Int32} {i : Nat} (e : ∀ t, t < 20 → n (20 * i + t) = m (20 * i + t)) (p : Nat) : thi n i p = thi m i p := fst1_congr (fun s hs => by rw [hs_congr e hs, pla_congr e hs])
theorem s_setMark {h : mxH} (W : WF h) {r i t : Nat} {n : Nat → Int32} {x : Int32} (R : RB r) (A : RR h r n) (hi : i < 5) (ht : t < 20) (G : MG (fup n (20 * i + t) x)) :
    Ok (fX6_setMark r (Int32.ofNat i) (Int32.ofNat t) x h) (fun h' => Fr (fun b => r + 2 ≤ b ∧ b ≤ r + 21) h h' ∧ RR h' r (fup n (20 * i + t) x)) := by
  have RL := RB_le R
  obtain ⟨a1, a2, a3, a4, a5, a6, a7⟩ := A
  unfold fX6_setMark
  have S1 := (ar_mk R hi).sl ht
  have W1 := WF_st (x := x) W S1
  simp only [isRow_k hi, isThing_k ht, bN, e10, if_false, gR_m W R, ldR_m W R hi, stI_at W (ar_mk R hi) ht, gR_s W1 R, gR_m W1 R, ldR_m W1 R hi, gR_t W1 R, ldR_t W1 R hi, gR_p W1 R, ldR_p W1 R hi]
  have hf : ∀ s, s < 20 → V (st h (r + 2 + i) t x) (r + 2 + i) s = mkf (fup n (20 * i + t) x) i s := fun s hs => by
    rw [V_st W S1]
    unfold mkf fup
    by_cases e : s = t
    · subst e; rw [if_pos ⟨rfl, rfl⟩, if_pos rfl]
    · rw [if_neg (fun z => e z.2), if_neg (by omega)]; exact a1 i s hi hs
  generalize hn : fup n (20 * i + t) x = n' at hf G
  have oth : ∀ j, j < 5 → j ≠ i → ∀ s, s < 20 → n (20 * j + s) = n' (20 * j + s) := fun j hj hji s hs => by
    rw [← hn]; unfold fup; rw [if_neg (by omega)]
  have oth2 : ∀ k, 100 ≤ k → n' k = n k := fun k hk => by
    rw [← hn]; unfold fup; rw [if_neg (by omega)]
  refine Ok_b (P := fun h' => Fr (fun b => r + 2 ≤ b ∧ b ≤ r + 21) h h' ∧ RR h' r n') ?_ (fun o H => Ok_p H)
  refine Ok_b (s_sort W1 (ar_mk R hi) (ar_th R hi) (ar_pl R hi) (by omega) (by omega) (by omega) hf) (fun o ⟨e1, F, v1, v2, v3⟩ => ?_)
  have W2 := F.1
  have S2 := (ar_sz R).sl hi
  have W3 := WF_st (x := o.1) W2 S2
  simp only [stI_at W2 (ar_sz R) hi, bN, isO_R W3 R]
  have F3 : Fr (fun b => r + 2 ≤ b ∧ b ≤ r + 21) h (st o.2 (r + 19) i o.1) := (Fr.st W S1 (by omega)).trans ((F.mono (fun b q => by omega)).trans (Fr.st W2 S2 (by omega)))
  -- the cells that were not touched
  have keep : ∀ b, b < 319 → b ≠ r + 2 + i → b ≠ r + 14 + i → b ≠ r + 8 + i → b ≠ r + 19 → V (st o.2 (r + 19) i o.1) b = V h b := fun b hb q1 q2 q3 q4 => by
    rw [V_st_ne q4, Fr_V F hb (by omega), V_st_ne q1]
  have hpl : ∀ j s, j < 5 → s < 20 → V (st o.2 (r + 19) i o.1) (r + 8 + j) s = if hs n' j s then Int32.ofNat (pla n' j s) else -1 := fun j s hj hs' => by
    by_cases e : j = i
    · subst e
      rw [V_st_ne (by omega), v1 s hs']
      unfold hs pla mkf
      by_cases q : n' (20 * j + s) = -1 <;> simp [q]
    · rw [keep _ (by omega) (by omega) (by omega) (by omega) (by omega), a2 j s hj hs', hs_congr (oth j hj e) hs', pla_congr (oth j hj e) hs']
  refine Ok_b (s_findFirstPlaces W3 R hpl) (fun h4 ⟨F4, v4⟩ => Ok_p ⟨F3.trans (F4.mono (fun b q => by omega)), ?_⟩)
  have keep4 : ∀ o', o' ≠ 21 → o' < 22 → V h4 (r + o') = V (st o.2 (r + 19) i o.1) (r + o') := fun o' q1 q2 => Fr_V F4 (by omega) (by omega)
  refine ⟨fun j s hj hs' => ?_, fun j s hj hs' => ?_, fun j p hj hp => ?_, fun j hj => ?_, fun j hj => ?_, v4, ?_⟩
  · rw [Nat.add_assoc, keep4 _ (by omega) (by omega), ← Nat.add_assoc]
    by_cases e : j = i
    · subst e
      rw [V_st_ne (by omega), Fr_V F (by omega) (by omega), hf s hs']; rfl
    · rw [keep _ (by omega) (by omega) (by omega) (by omega) (by omega), a1 j s hj hs']; exact oth j hj e s hs'
  · rw [Nat.add_assoc, keep4 _ (by omega) (by omega), ← Nat.add_assoc]; exact hpl j s hj hs'
  · rw [Nat.add_assoc, keep4 _ (by omega) (by omega), ← Nat.add_assoc]
    by_cases e : j = i
    · subst e
      rw [V_st_ne (by omega)]
      by_cases c : p < itm n' j
      · obtain ⟨g1, g2, g3⟩ := thi_spec G hj c
        rw [if_pos c]
        have := v2 (thi n' j p) g1 (by simpa [hs, mkf] using g2)
        have e2 : cnt (fun s => bef (mkf n' j) s (thi n' j p)) 20 = p := g3
        rw [e2] at this
        exact this
      · rw [if_neg c]
        refine v3 p hp (fun s hs' q e => c ?_)
        rw [← e]
        exact pla_itm G hj hs' (by simpa [hs, mkf] using q)
    · rw [keep _ (by omega) (by omega) (by omega) (by omega) (by omega), a3 j p hj hp, itm_congr (oth j hj e), thi_congr (oth j hj e)]
  · rw [keep4 _ (by omega) (by omega), V_st W2 S2]
    by_cases e : j = i
    · subst e
      rw [if_pos ⟨rfl, rfl⟩, e1]
      rfl
    · rw [if_neg (fun z => e z.2), Fr_V F (by omega) (by omega), V_st_ne (by omega), a4 j hj, itm_congr (oth j hj e)]
  · rw [keep4 _ (by omega) (by omega), keep _ (by omega) (by omega) (by omega) (by omega) (by omega), a5 j hj, oth2 _ (by omega)]
  · have := keep4 0 (by omega) (by omega)
    rw [Nat.add_zero] at this
    rw [this, keep _ (by omega) (by omega) (by omega) (by omega) (by omega), a7, oth2 _ (by omega)]
/-! a weight, the rule, and a copy -/
theorem fpl_congr {n m : Nat → Int32} (e : ∀ i, i < 5 → ∀ t, t < 20 → n (20 * i + t) = m (20 * i + t)) {t : Nat} (ht : t < 20) : fpl n t = fpl m t :=
  fo_congr (fun x k hk => by rw [hs_congr (e k hk) ht, pla_congr (e k hk) ht])
theorem RR_congr {h : mxH} {r : Nat} {n m : Nat → Int32} (e : ∀ k, k < 106 → n k = m k) (A : RR h r n) : RR h r m := by
  obtain ⟨a1, a2, a3, a4, a5, a6, a7⟩ := A
  have oth : ∀ j, j < 5 → ∀ s, s < 20 → n (20 * j + s) = m (20 * j + s) := fun j hj s hs => e _ (by omega)
  refine ⟨fun j s hj hs' => ?_, fun j s hj hs' => ?_, fun j p hj hp => ?_, fun j hj => ?_, fun j hj => ?_, fun t ht => ?_, ?_⟩
  · rw [a1 j s hj hs']; exact oth j hj s hs'
  · rw [a2 j s hj hs', hs_congr (oth j hj) hs', pla_congr (oth j hj) hs']
  · rw [a3 j p hj hp, itm_congr (oth j hj), thi_congr (oth j hj)]
  · rw [a4 j hj, itm_congr (oth j hj)]
  · rw [a5 j hj, e _ (by omega)]
  · rw [a6 t ht, fpl_congr oth ht]
  · rw [a7, e _ (by omega)]
theorem RR_rule {h : mxH} (W : WF h) {r : Nat} {n : Nat → Int32} {x : Int32} (R : RB r) (A : RR h r n) : RR (st h r 6 x) r (fup n 105 x) := by
  have RL := RB_le R
  obtain ⟨a1, a2, a3, a4, a5, a6, a7⟩ := A
  have S := (fd_rule R).sl
  have oth : ∀ j, j < 5 → ∀ s, s < 20 → n (20 * j + s) = fup n 105 x (20 * j + s) := fun j hj s hs => by
    unfold fup; rw [if_neg (by omega)]
  refine ⟨fun j s hj hs' => ?_, fun j s hj hs' => ?_, fun j p hj hp => ?_, fun j hj => ?_, fun j hj => ?_, fun t ht => ?_, ?_⟩
  · rw [V_st_ne (by omega), a1 j s hj hs']; exact oth j hj s hs'
  · rw [V_st_ne (by omega), a2 j s hj hs', hs_congr (oth j hj) hs', pla_congr (oth j hj) hs']
  · rw [V_st_ne (by omega), a3 j p hj hp, itm_congr (oth j hj), thi_congr (oth j hj)]
  · rw [V_st_ne (by omega), a4 j hj, itm_congr (oth j hj)]
  · rw [V_st_ne (by omega), a5 j hj]; unfold fup; rw [if_neg (by omega)]
  · rw [V_st_ne (by omega), a6 t ht, fpl_congr oth ht]
  · rw [V_st W S, if_pos ⟨rfl, rfl⟩]; unfold fup; rw [if_pos rfl]
theorem s_changeWeight {h : mxH} (W : WF h) {r i : Nat} {n : Nat → Int32} {x : Int32} (R : RB r) (A : RR h r n) (hi : i < 5) :
    Ok (fX6_changeWeight r (Int32.ofNat i) x h) (fun o => o.1 = n (100 + i) ∧ Fr (fun b => r + 2 ≤ b ∧ b ≤ r + 21) h o.2 ∧ RR o.2 r (fup n (100 + i) x)) := by
  have RL := RB_le R
  obtain ⟨a1, a2, a3, a4, a5, a6, a7⟩ := A
  unfold fX6_changeWeight
  have S := (ar_wt R).sl hi
  simp only [isRow_k hi, bN, e10, if_false, gR_w W R, ldI_at W (ar_wt R) hi, stI_at W (ar_wt R) hi, a5 i hi]
  refine Ok_p ⟨rfl, Fr.st W S (by omega), ?_⟩
  have oth : ∀ j, j < 5 → ∀ s, s < 20 → n (20 * j + s) = fup n (100 + i) x (20 * j + s) := fun j hj s hs => by
    unfold fup; rw [if_neg (by omega)]
  refine ⟨fun j s hj hs' => ?_, fun j s hj hs' => ?_, fun j p hj hp => ?_, fun j hj => ?_, fun j hj => ?_, fun t ht => ?_, ?_⟩
  · rw [V_st_ne (by omega), a1 j s hj hs']; exact oth j hj s hs'
  · rw [V_st_ne (by omega), a2 j s hj hs', hs_congr (oth j hj) hs', pla_congr (oth j hj) hs']
  · rw [V_st_ne (by omega), a3 j p hj hp, itm_congr (oth j hj), thi_congr (oth j hj)]
  · rw [V_st_ne (by omega), a4 j hj, itm_congr (oth j hj)]
  · rw [V_st W S]
    unfold fup
    by_cases e : j = i
    · subst e; rw [if_pos ⟨rfl, rfl⟩, if_pos rfl]
    · rw [if_neg (fun z => e z.2), if_neg (by omega), a5 j hj]
  · rw [V_st_ne (by omega), a6 t ht, fpl_congr oth ht]
  · rw [V_st_ne (by omega), a7]; unfold fup; rw [if_neg (by omega)]
theorem RB_dis {r s : Nat} (R : RB r) (S : RB s) (h : r ≠ s) : r + 23 ≤ s ∨ s + 23 ≤ r := by
  rcases R with rfl | rfl | ⟨q, hq, rfl⟩ <;> rcases S with rfl | rfl | ⟨p, hp, rfl⟩ <;> omega
theorem s_copyRows {h : mxH} (W : WF h) {r s : Nat} {n : Nat → Int32} (R : RB r) (S : RB s) (hrs : r ≠ s) (A : RR h s n) :
    Ok (fX6_copyFrom r s h) (fun h' => Fr (fun b => r ≤ b ∧ b ≤ r + 21) h h' ∧ RR h' r n) := by
  have RL := RB_le R
  have SL := RB_le S
  have D := RB_dis R S hrs
  unfold fX6_copyFrom
  refine Ok_b (P := fun h' => Fr (fun b => r ≤ b ∧ b ≤ r + 21) h h' ∧ (∀ i t, i < 5 → t < 20 → V h' (r + 2 + i) t = V h (s + 2 + i) t) ∧ (∀ i t, i < 5 → t < 20 → V h' (r + 8 + i) t = V h (s + 8 + i) t) ∧ (∀ i t, i < 5 → t < 20 → V h' (r + 14 + i) t = V h (s + 14 + i) t) ∧ (∀ i, i < 5 → V h' (r + 19) i = V h (s + 19) i) ∧ (∀ i, i < 5 → V h' (r + 20) i = V h (s + 20) i))
    (Ok_loop (fun k q => q.1 = Int32.ofNat k ∧ Fr (fun b => r ≤ b ∧ b ≤ r + 21) h q.2 ∧ (∀ i t, i < k → t < 20 → V q.2 (r + 2 + i) t = V h (s + 2 + i) t) ∧ (∀ i t, i < k → t < 20 → V q.2 (r + 8 + i) t = V h (s + 8 + i) t) ∧ (∀ i t, i < k → t < 20 → V q.2 (r + 14 + i) t = V h (s + 14 + i) t) ∧ (∀ i, i < k → V q.2 (r + 19) i = V h (s + 19) i) ∧ (∀ i, i < k → V q.2 (r + 20) i = V h (s + 20) i)) 5 ⟨rfl, Fr.refl W, fun _ _ _ _ => by omega, fun _ _ _ _ => by omega, fun _ _ _ _ => by omega, fun _ _ => by omega, fun _ _ => by omega⟩ ?_ ?_) ?_
  · rintro k ⟨s1, h1⟩ hk ⟨e, F, v1, v2, v3, v4, v5⟩
    obtain rfl := show s1 = _ from e
    have W1 := F.1
    have src : ∀ {P : Nat → Prop} {h2 : mxH}, Fr P h h2 → (∀ b, s ≤ b → b ≤ s + 21 → ¬ P b) → ∀ o, o < 22 → V h2 (s + o) = V h (s + o) := fun F hP o ho => Fr_V F (by omega) (hP _ (by omega) (by omega))
    have hP : ∀ b, s ≤ b → b ≤ s + 21 → ¬ (r ≤ b ∧ b ≤ r + 21) := fun b _ _ => by omega
    simp only [if_neg (show ¬ (5 : Int32) ≤ Int32.ofNat k from nle hk), gR_m W1 S, gR_m W1 R, ldR_m W1 S hk, ldR_m W1 R hk, bN]
    refine Ok_b (Ok_cp0 (m := 20) W1 (ar_mk S hk) (ar_mk R hk)) (fun h2 ⟨F2, w2⟩ => ?_)
    have W2 := F2.1
    have G2 := F.trans (F2.mono (fun b q => (show r ≤ b ∧ b ≤ r + 21 by omega)))
    simp only [gR_t W2 S, gR_t W2 R, ldR_t W2 S hk, ldR_t W2 R hk, bN]
    refine Ok_b (Ok_cp0 (m := 20) W2 (ar_th S hk) (ar_th R hk)) (fun h3 ⟨F3, w3⟩ => ?_)
    have W3 := F3.1
    have G3 := G2.trans (F3.mono (fun b q => (show r ≤ b ∧ b ≤ r + 21 by omega)))
    simp only [gR_p W3 S, gR_p W3 R, ldR_p W3 S hk, ldR_p W3 R hk, bN]
    refine Ok_b (Ok_cp0 (m := 20) W3 (ar_pl S hk) (ar_pl R hk)) (fun h4 ⟨F4, w4⟩ => ?_)
    have W4 := F4.1
    have G4 := G3.trans (F4.mono (fun b q => (show r ≤ b ∧ b ≤ r + 21 by omega)))
    have S5 := (ar_sz R).sl hk
    have W5 := WF_st (x := V h4 (s + 19) k) W4 S5
    have G5 := G4.trans (Fr.st (x := V h4 (s + 19) k) W4 S5 (show r ≤ r + 19 ∧ r + 19 ≤ r + 21 by omega))
    have S6 := (ar_wt R).sl hk
    simp only [gR_s W4 S, gR_s W4 R, ldI_at W4 (ar_sz S) hk, stI_at W4 (ar_sz R) hk, gR_w W5 S, gR_w W5 R, ldI_at W5 (ar_wt S) hk, stI_at W5 (ar_wt R) hk, bN, ofN_succ]
    refine Ok_p ⟨_, rfl, rfl, G5.trans (Fr.st W5 S6 (show r ≤ r + 20 ∧ r + 20 ≤ r + 21 by omega)), fun i t hi ht => ?_, fun i t hi ht => ?_, fun i t hi ht => ?_, fun i hi => ?_, fun i hi => ?_⟩
    · show V (st _ _ _ _) _ _ = _
      rw [V_st_ne (by omega), V_st_ne (by omega), Fr_V F4 (by omega) (by omega), Fr_V F3 (by omega) (by omega)]
      by_cases e : i = k
      · subst e; rw [w2 t ht, Nat.add_assoc s, src F hP _ (by omega)]
      · rw [Fr_V F2 (by omega) (by omega)]; exact v1 i t (by omega) ht
    · show V (st _ _ _ _) _ _ = _
      rw [V_st_ne (by omega), V_st_ne (by omega)]
      by_cases e : i = k
      · subst e; rw [w4 t ht, Nat.add_assoc s, src G3 hP _ (by omega)]
      · rw [Fr_V F4 (by omega) (by omega), Fr_V F3 (by omega) (by omega), Fr_V F2 (by omega) (by omega)]; exact v2 i t (by omega) ht
    · show V (st _ _ _ _) _ _ = _
      rw [V_st_ne (by omega), V_st_ne (by omega), Fr_V F4 (by omega) (by omega)]
      by_cases e : i = k
      · subst e; rw [w3 t ht, Nat.add_assoc s, src G2 hP _ (by omega)]
      · rw [Fr_V F3 (by omega) (by omega), Fr_V F2 (by omega) (by omega)]; exact v3 i t (by omega) ht
    · show V (st _ _ _ _) _ _ = _
      rw [V_st_ne (by omega), V_st W4 S5]
      by_cases e : i = k
      · subst e; rw [if_pos ⟨rfl, rfl⟩, src G4 hP _ (by omega)]
      · rw [if_neg (fun z => e z.2), Fr_V F4 (by omega) (by omega), Fr_V F3 (by omega) (by omega), Fr_V F2 (by omega) (by omega)]; exact v4 i (by omega)
    · show V (st _ _ _ _) _ _ = _
      rw [V_st W5 S6]
      by_cases e : i = k
      · subst e; rw [if_pos ⟨rfl, rfl⟩, src G5 hP _ (by omega)]
      · rw [if_neg (fun z => e z.2), V_st_ne (by omega), Fr_V F4 (by omega) (by omega), Fr_V F3 (by omega) (by omega), Fr_V F2 (by omega) (by omega)]; exact v5 i (by omega)
  · rintro ⟨s1, h1⟩ ⟨e, F, v1⟩
    obtain rfl := show s1 = _ from e
    exact Ok_e (if_pos yle) ⟨_, rfl, F, v1⟩
  · rintro h1 ⟨F, v1, v2, v3, v4, v5⟩
    have W1 := F.1
    simp only [gR_f W1 S, gR_f W1 R, bN]
    refine Ok_b (Ok_cp0 (m := 20) W1 (ar_fp S) (ar_fp R)) (fun h2 ⟨F2, w2⟩ => ?_)
    have W2 := F2.1
    simp only [gI_at W2 (fd_rule S), pI_at W2 (fd_rule R), bN]
    have S6 := (fd_rule R).sl
    have G2 := F.trans (F2.mono (fun b q => (show r ≤ b ∧ b ≤ r + 21 by omega)))
    obtain ⟨a1, a2, a3, a4, a5, a6, a7⟩ := A
    refine Ok_p ⟨G2.trans (Fr.st W2 S6 (show r ≤ r ∧ r ≤ r + 21 by omega)), fun j t hj ht => ?_, fun j t hj ht => ?_, fun j p hj hp => ?_, fun j hj => ?_, fun j hj => ?_, fun t ht => ?_, ?_⟩
    · rw [V_st_ne (by omega), Fr_V F2 (by omega) (by omega), v1 j t hj ht]; exact a1 j t hj ht
    · rw [V_st_ne (by omega), Fr_V F2 (by omega) (by omega), v2 j t hj ht]; exact a2 j t hj ht
    · rw [V_st_ne (by omega), Fr_V F2 (by omega) (by omega), v3 j p hj hp]; exact a3 j p hj hp
    · rw [V_st_ne (by omega), Fr_V F2 (by omega) (by omega), v4 j hj]; exact a4 j hj
    · rw [V_st_ne (by omega), Fr_V F2 (by omega) (by omega), v5 j hj]; exact a5 j hj
    · rw [V_st_ne (by omega), w2 t ht, Fr_V F (by omega) (by omega)]; exact a6 t ht
    · rw [V_st W2 S6, if_pos ⟨rfl, rfl⟩, Fr_V F2 (by omega) (by omega), Fr_V F (by omega) (by omega)]; exact a7
