/-! THE PURE SIDE, 26: the reference: ranks, stops -/
theorem fst1_eq {p : Nat → Bool} {N j : Nat} (h1 : ∀ d, d < j → p d = false) (h2 : j < N → p j = true) (h3 : j ≤ N) : fst1 p N = j := by
  have hl := fst1_le p N
  have hs := fst1_spec p N
  by_cases c : fst1 p N < j
  · have a := hs.2 (by omega)
    rw [h1 _ c] at a; cases a
  · by_cases c2 : j < fst1 p N
    · have a := hs.1 j c2
      rw [h2 (by omega)] at a; cases a
    · omega
theorem m_insert {h : mxH} {n : Nat → Int32} (G : MG n) (H : WG n) (W : WF h) (e : V h 320 = n) {a m x d : Nat} {E : Nat → Nat} (ha : a = 323 ∨ a = 324) (hm : m < 20) (hx : x < 20)
    (hE : SE (bef (val n)) (fun t => decide (t < x) && rdAt n t d) 20 m E) (hV : ∀ j, j < m → V h a j = Int32.ofNat (E j)) {f : Int32 × mxH → Option ((Int32 × mxH) ⊕ (Int32 × mxH))}
    (f0 : ∀ h1, f (Int32.ofNat 0, h1) = some (.inr (Int32.ofNat 0, h1)))
    (f1 : ∀ h1 k, k < 20 → WF h1 → f (Int32.ofNat (k + 1), h1) = Option.bind (ldI h1 a (Int32.ofNat k)) (fun v31 => Option.bind (isO h1 319 10) (fun u33 => Option.bind (fX10_valueOf 319 v31 h1) (fun o36 => (if val n x ≤ o36.1 then some (Sum.inr (Int32.ofNat (k + 1), o36.2)) else Option.bind (ldI o36.2 a (Int32.ofNat k)) (fun v38 => Option.bind (stI o36.2 a (Int32.ofNat (k + 1)) v38) (fun h40 => some (Sum.inl (Int32.ofNat k, h40)))))))))  :
    Ok (mxLoop f mxF (Int32.ofNat m, h)) (fun o => ∃ pos, pos ≤ m ∧ o.1 = Int32.ofNat pos ∧ Fr (fun b => b = 322 ∨ b = a) h o.2 ∧ (∀ j, j < pos → V o.2 a j = Int32.ofNat (E j)) ∧ (∀ j, pos < j → j ≤ m → V o.2 a j = Int32.ofNat (E (j - 1))) ∧ (∀ j, pos ≤ j → j < m → bef (val n) x (E j) = true) ∧ (pos = 0 ∨ bef (val n) x (E (pos - 1)) = false)) := by
  have A : ar a 20 := by rcases ha with rfl | rfl <;> exact ⟨by omega, by omega, rfl, rfl⟩
  have hE1 : ∀ j, j < m → E j < x := fun j hj => by
    have := (hE.1 j hj).2
    simp only [Bool.and_eq_true, decide_eq_true_eq] at this
    exact this.1
  refine Ok_loopE (fun k s => k ≤ m ∧ s.1 = Int32.ofNat (m - k) ∧ Fr (fun b => b = 322 ∨ b = a) h s.2 ∧ (∀ j, j < m - k → V s.2 a j = Int32.ofNat (E j)) ∧ (∀ j, m - k < j → j ≤ m → V s.2 a j = Int32.ofNat (E (j - 1))) ∧ (∀ j, m - k ≤ j → j < m → bef (val n) x (E j) = true)) m ⟨by omega, by rw [Nat.sub_zero], Fr.refl W, fun j hj => hV j (by omega), fun j h1 h2 => by omega, fun j h1 h2 => by omega⟩ ?_ (by unfold mxF; omega)
  rintro k ⟨s1, h1⟩ hk ⟨-, e1, F, v1, v2, v3⟩
  obtain rfl := show s1 = _ from e1
  have v1 : ∀ j, j < m - k → V h1 a j = Int32.ofNat (E j) := v1
  have v2 : ∀ j, m - k < j → j ≤ m → V h1 a j = Int32.ofNat (E (j - 1)) := v2
  by_cases z : m - k = 0
  · rw [z]
    exact Ok_e (f0 h1) (Or.inr ⟨_, rfl, 0, by omega, rfl, F, fun j hj => by omega, fun j a b => v2 j (by omega) b, fun j a b => v3 j (by omega) b, Or.inl rfl⟩)
  · obtain ⟨q, hq⟩ : ∃ q, m - k = q + 1 := ⟨m - k - 1, by omega⟩
    rw [hq] at v1 v2 v3 ⊢
    have W1 := F.1
    have ex := v1 q (by omega)
    have eb : E q < 20 := (hE.1 q (by omega)).1
    have ltx := hE1 q (by omega)
    rw [f1 h1 q (by omega) W1]
    simp only [ldI_at W1 A (show q < 20 by omega), bN, ex, isO_X W1]
    refine Ok_b (m_valueOf G H W1 (fr_now F (by omega) e) eb) (fun o ⟨eo, Fo⟩ => ?_)
    rw [eo]
    have W2 := Fo.1
    have vo : ∀ j, V o.2 a j = V h1 a j := fun j => by rw [Fr_V Fo A.2.1 (by omega)]
    have F2 : Fr (fun b => b = 322 ∨ b = a) h o.2 := F.trans (Fo.mono (fun b z => Or.inl z))
    by_cases c : val n x ≤ val n (E q)
    · rw [if_pos c]
      refine Ok_p (Or.inr ⟨_, rfl, q + 1, by omega, rfl, F2, fun j hj => ?_, fun j h2 h3 => ?_, v3, Or.inr ?_⟩)
      · show V o.2 a j = _; rw [vo]; exact v1 j hj
      · show V o.2 a j = _; rw [vo]; exact v2 j h2 h3
      · rw [show q + 1 - 1 = q by omega]
        cases b : bef (val n) x (E q)
        · rfl
        · rcases bef_iff.mp b with b | b
          · exact absurd c (Int32.not_le.mpr b)
          · omega
    · rw [if_neg c]
      have S := A.sl (show q + 1 < 20 by omega)
      simp only [ldI_at W2 A (show q < 20 by omega), vo, ex, stI_at W2 A (show q + 1 < 20 by omega), bN]
      refine Ok_p (Or.inl ⟨_, rfl, by omega, by omega, by show Int32.ofNat q = _; rw [show m - (k + 1) = q by omega], F2.trans (Fr.st W2 S (Or.inr rfl)), fun j hj => ?_, fun j h2 h3 => ?_, fun j h2 h3 => ?_⟩)
      · show V (st _ _ _ _) _ _ = _
        rw [V_st W2 S, if_neg (by omega), vo]; exact v1 j (by omega)
      · show V (st _ _ _ _) _ _ = _
        rw [V_st W2 S]
        by_cases e : j = q + 1
        · rw [if_pos ⟨rfl, e⟩, e]; rfl
        · rw [if_neg (fun z => e z.2), vo]; exact v2 j (by omega) h3
      · by_cases e : j = q
        · rw [e]; exact bef_iff.mpr (Or.inl (Int32.not_le.mp c))
        · exact v3 j (by omega) h3
theorem m_ranks {h : mxH} {n : Nat → Int32} (G : MG n) (H : WG n) (W : WF h) (e : V h 320 = n) {a d : Nat} (ha : a = 323 ∨ a = 324) (hd : d ≤ 20) : Ok (fX10_ranks 319 a (Int32.ofNat d) h) (fun o => o.1 = Int32.ofNat (rdT n d) ∧ Fr (fun b => b = 322 ∨ b = a) h o.2 ∧ ∀ q, q < rdT n d → V o.2 a q = Int32.ofNat (bst n d q)) := by
  have A : ar a 20 := by rcases ha with rfl | rfl <;> exact ⟨by omega, by omega, rfl, rfl⟩
  unfold fX10_ranks
  refine Ok_b (P := fun o => o.1 = Int32.ofNat (rdT n d) ∧ Fr (fun b => b = 322 ∨ b = a) h o.2 ∧ ∀ q, q < rdT n d → V o.2 a q = Int32.ofNat (bst n d q)) (Ok_loop (fun x s => s.2.1 = Int32.ofNat x ∧ Fr (fun b => b = 322 ∨ b = a) h s.2.2 ∧ s.1 = Int32.ofNat (cnt (fun t => rdAt n t d) x) ∧ ∃ E, SE (bef (val n)) (fun t => decide (t < x) && rdAt n t d) 20 (cnt (fun t => rdAt n t d) x) E ∧ ∀ j, j < cnt (fun t => rdAt n t d) x → V s.2.2 a j = Int32.ofNat (E j)) 20 ⟨rfl, Fr.refl W, rfl, fun _ => 0, SE_nil (fun s _ => by simp), fun j hj => absurd hj (by show ¬ j < 0; omega)⟩ ?_ ?_) (fun o H => Ok_p H)
  · rintro x ⟨s1, s2, h1⟩ hx ⟨e1, F, e2, E, hE, hV⟩
    obtain rfl := show s2 = _ from e1
    obtain rfl := show s1 = _ from e2
    have hV : ∀ j, j < cnt (fun t => rdAt n t d) x → V h1 a j = Int32.ofNat (E j) := hV
    have W1 := F.1
    have en := fr_now F (by omega) e
    have hm := cnt_le (fun t => rdAt n t d) x
    simp only [if_neg (n20 hx), isO_X W1, bN, m_isReadAt W1 en hx hd, bI_0, ofN_succ]
    cases c : rdAt n x d
    · have cs : cnt (fun t => rdAt n t d) (x + 1) = cnt (fun t => rdAt n t d) x := cnt_f (p := fun t => rdAt n t d) c
      simp only [if_true, bN]
      refine Ok_p ⟨_, rfl, rfl, F, ?_, E, ?_, ?_⟩
      · show Int32.ofNat _ = Int32.ofNat _; rw [cs]
      · rw [cs]
        refine SE_congr hE (fun s _ => ?_)
        by_cases q : s = x
        · subst q; rw [c, Bool.and_false, Bool.and_false]
        · rw [show decide (s < x) = decide (s < x + 1) by
            by_cases y : s < x
            · rw [decide_eq_true y, decide_eq_true (by omega)]
            · rw [decide_eq_false y, decide_eq_false (by omega)]]
      · rw [cs]; exact hV
    · have cs : cnt (fun t => rdAt n t d) (x + 1) = cnt (fun t => rdAt n t d) x + 1 := cnt_t (p := fun t => rdAt n t d) c
      simp only [Bool.true_eq_false, if_false]
      have key : Ok _ _ := m_valueOf G H W1 en hx
      obtain ⟨o21, eo, ev, Fo⟩ := key
      rw [eo]
      simp only [bN]
      have Wo := Fo.1
      have F2 : Fr (fun b => b = 322 ∨ b = a) h o21.2 := F.trans (Fo.mono (fun b z => Or.inl z))
      refine Ok_b (Ok_b (m_insert (h := o21.2) G H Wo (fr_now F2 (by omega) e) (a := a) (m := cnt (fun t => rdAt n t d) x) (x := x) (d := d) (E := E) ha (by omega) hx hE (fun j hj => by rw [Fr_V Fo A.2.1 (by omega)]; exact hV j hj) (fun h2 => if_pos yle) (fun h2 k hk W2 => ?_)) (fun o ⟨pos, p1, p2, p3, p4, p5, p6, p7⟩ => ?_)) (P := fun o : Int32 × mxH => o.1 = Int32.ofNat (cnt (fun t => rdAt n t d) (x + 1)) ∧ Fr (fun b => b = 322 ∨ b = a) h o.2 ∧ ∃ E, SE (bef (val n)) (fun t => decide (t < x + 1) && rdAt n t d) 20 (cnt (fun t => rdAt n t d) (x + 1)) E ∧ ∀ j, j < cnt (fun t => rdAt n t d) (x + 1) → V o.2 a j = Int32.ofNat (E j)) (fun o ⟨o1, o2, o3⟩ => Ok_p ⟨_, rfl, rfl, o2, o1, o3⟩)
      · have c1 : ¬ Int32.ofNat (k + 1) ≤ 0 := nle (b := 0) (a := k + 1) (by omega) (by omega)
        simp only [if_neg c1, ofN_pred (show 1 ≤ k + 1 by omega) (show k + 1 < 2147483648 by omega), Nat.add_sub_cancel, ev]
      · have S := A.sl (show pos < 20 by omega)
        have W3 := p3.1
        rw [p2]
        simp only [stI_at W3 A (show pos < 20 by omega), bN, ofN_succ]
        refine Ok_p ⟨by show Int32.ofNat _ = _; rw [cs], (F2.trans p3).trans (Fr.st W3 S (Or.inr rfl)), fun j => if j < pos then E j else if j = pos then x else E (j - 1), ?_, fun j hj => ?_⟩
        · rw [cs]
          refine SE_congr (SE_ins (bef_STO (val n) 20) hE hx (by simp) p1 p6 p7) (fun s _ => ?_)
          by_cases q : s = x
          · subst q; simp [c]
          · rw [show (s == x) = false by simpa using q, Bool.or_false, show decide (s < x) = decide (s < x + 1) by
              by_cases y : s < x
              · rw [decide_eq_true y, decide_eq_true (by omega)]
              · rw [decide_eq_false y, decide_eq_false (by omega)]]
        · rw [cs] at hj
          show V (st _ _ _ _) _ _ = Int32.ofNat (if j < pos then E j else if j = pos then x else E (j - 1))
          rw [V_st W3 S]
          by_cases q : j = pos
          · rw [if_pos ⟨rfl, q⟩, if_neg (by omega), if_pos q]
          · rw [if_neg (fun z => q z.2)]
            by_cases q2 : j < pos
            · rw [if_pos q2]; exact p4 j q2
            · rw [if_neg q2, if_neg q]; exact p5 j (by omega) (by omega)
  · rintro ⟨s1, s2, h1⟩ ⟨e1, F, e2, E, hE, hV⟩
    obtain rfl := show s2 = _ from e1
    obtain rfl := show s1 = _ from e2
    have hV : ∀ j, j < cnt (fun t => rdAt n t d) 20 → V h1 a j = Int32.ofNat (E j) := hV
    refine Ok_e (a := .inr (Int32.ofNat (cnt (fun t => rdAt n t d) 20), h1)) (if_pos yle) ⟨(Int32.ofNat (cnt (fun t => rdAt n t d) 20), h1), rfl, rfl, F, fun q hq => ?_⟩
    have hE2 : SE (bef (val n)) (fun t => rdAt n t d) 20 (cnt (fun t => rdAt n t d) 20) E := SE_congr hE (fun s hs => by rw [decide_eq_true hs, Bool.true_and])
    show V h1 a q = _
    rw [hV q hq, SE_nr (bef_STO (val n) 20) hE2 hq]; rfl
/-- the k-th best of those read is as good as the limit: so many are sure -/
theorem rd_knw {n : Nat → Int32} {t d : Nat} (hd : d ≤ 20) (h : rdAt n t d = true) : knw n t = true := rdAt_mono hd h
theorem nat_k {k s x : Nat} (hk : 1 ≤ k) (h : k ≤ s) (h2 : s ≤ x) (h3 : x = k - 1) : False := by omega
theorem sur_iff {n : Nat → Int32} {d k : Nat} (hd : d ≤ 20) (hk : 1 ≤ k) : k ≤ sur n d ↔ k ≤ rdT n d ∧ ¬ val n (bst n d (k - 1)) < lim n d := by
  have S := bef_STO (val n) 20
  have hv : ∀ t, rdAt n t d = true → bvl n t = val n t := fun t h => if_pos (rd_knw hd h)
  constructor
  · intro h
    have h1 : sur n d ≤ rdT n d := cnt_mono (fun t _ q => by simp only [Bool.and_eq_true] at q; exact q.2)
    have hr : k ≤ rdT n d := Nat.le_trans h h1
    refine ⟨hr, fun c => ?_⟩
    obtain ⟨b1, b2, b3⟩ := nrL_spec (P := fun t => rdAt n t d) S (j := k - 1) (show k - 1 < rdT n d from Nat.lt_of_lt_of_le (by clear h h1 hr; omega) hr)
    have h2 : sur n d ≤ rkL (bef (val n)) (fun t => rdAt n t d) 20 (bst n d (k - 1)) := cnt_mono (fun t _ q => by
      simp only [Bool.and_eq_true, Bool.not_eq_true', decide_eq_false_iff_not] at q ⊢
      refine ⟨q.2, bef_iff.mpr (Or.inl ?_)⟩
      have q1 := q.1
      rw [hv t q.2] at q1
      exact i32_lt.mpr (Int.lt_of_lt_of_le (i32_lt.mp c) (Int.not_lt.mp (fun z => q1 (i32_lt.mpr z)))))
    have h3 : rkL (bef (val n)) (fun t => rdAt n t d) 20 (bst n d (k - 1)) = k - 1 := b3
    exact nat_k hk h h2 h3
  · rintro ⟨h1, h2⟩
    have b : ∀ i, i < k → bst n d i < 20 ∧ rdAt n (bst n d i) d = true := fun i hi => by
      obtain ⟨b1, b2, b3⟩ := nrL_spec (P := fun t => rdAt n t d) S (j := i) (show i < rdT n d by omega)
      exact ⟨b1, b2⟩
    have := cnt_inj (n := k) (p := fun _ => true) (m := 20) (f := bst n d) (q := fun t => !decide (bvl n t < lim n d) && rdAt n t d) (fun i hi _ => ⟨(b i hi).1, by
      simp only [Bool.and_eq_true, Bool.not_eq_true', decide_eq_false_iff_not]
      refine ⟨?_, (b i hi).2⟩
      rw [hv _ (b i hi).2]
      by_cases e : i = k - 1
      · rw [e]; exact h2
      · have h4 := nrL_lt (P := fun t => rdAt n t d) S (show i < k - 1 by omega) (show k - 1 < rdT n d by omega)
        have h4 : bef (val n) (bst n d i) (bst n d (k - 1)) = true := h4
        rcases bef_iff.mp h4 with z | z
        · exact fun y => h2 (i32_lt.mpr (Int.lt_trans (i32_lt.mp z) (i32_lt.mp y)))
        · rw [z.1]; exact h2⟩) (fun i j hi hj _ _ e => by
      have e : bst n d i = bst n d j := e
      obtain ⟨_, _, a3⟩ := nrL_spec (P := fun t => rdAt n t d) S (j := i) (show i < rdT n d by omega)
      obtain ⟨_, _, c3⟩ := nrL_spec (P := fun t => rdAt n t d) S (j := j) (show j < rdT n d by omega)
      have e2 : rkL (bef (val n)) (fun t => rdAt n t d) 20 (bst n d i) = rkL (bef (val n)) (fun t => rdAt n t d) 20 (bst n d j) := by rw [e]
      have a3 : rkL (bef (val n)) (fun t => rdAt n t d) 20 (bst n d i) = i := a3
      have c3 : rkL (bef (val n)) (fun t => rdAt n t d) 20 (bst n d j) = j := c3
      exact a3.symm.trans (e2.trans c3))
    rw [cnt_all] at this
    exact this
theorem stp_eq {n : Nat → Int32} {k j : Nat} (h0 : dpt n ≠ 0) (h1 : ∀ d, d < j → ¬ k ≤ sur n (d + 1)) (h2 : j < dpt n - 1 → k ≤ sur n (j + 1)) (h3 : j ≤ dpt n - 1) : stp n k = 1 + j := by
  unfold stp
  rw [if_neg h0, fst1_eq (fun d hd => decide_eq_false (h1 d hd)) (fun z => decide_eq_true (h2 z)) h3]
theorem m_stop {h : mxH} {n : Nat → Int32} (G : MG n) (H : WG n) (W : WF h) (e : V h 320 = n) {k : Nat} (hk1 : 1 ≤ k) (hk2 : k ≤ 20) : Ok (fX10_stop 319 (Int32.ofNat k) h) (fun o => o.1 = Int32.ofNat (stp n k) ∧ Fr (fun b => b = 322 ∨ b = 323) h o.2) := by
  have D20 := dpt_20 n
  unfold fX10_stop
  simp only [isO_X W, bN, m_longest W e]
  refine Ok_b (P := fun o => match o with | .inl x => x.1 = Int32.ofNat (stp n k) ∧ Fr (fun b => b = 322 ∨ b = 323) h x.2 | .inr h' => dpt n = stp n k ∧ Fr (fun b => b = 322 ∨ b = 323) h h') (Ok_loopE (fun j s => j ≤ dpt n - 1 ∧ s.1 = Int32.ofNat (1 + j) ∧ Fr (fun b => b = 322 ∨ b = 323) h s.2 ∧ ∀ d, d < j → ¬ k ≤ sur n (d + 1)) (dpt n - 1) ⟨by omega, rfl, Fr.refl W, fun d hd => by omega⟩ ?_ (by unfold mxF; omega)) (fun o H => ?_)
  · rintro j ⟨s1, h1⟩ hj ⟨-, e1, F, hn⟩
    obtain rfl := show s1 = _ from e1
    have W1 := F.1
    have F : Fr (fun b => b = 322 ∨ b = 323) h h1 := F
    have en := fr_now F (by omega) e
    by_cases c : dpt n ≤ 1 + j
    · refine Ok_e (a := .inr (.inr h1)) (if_pos ((ofN_le (by omega) (by omega)).mpr c)) (Or.inr ⟨.inr h1, rfl, ?_⟩)
      show dpt n = stp n k ∧ Fr _ h h1
      refine ⟨?_, F⟩
      by_cases z : dpt n = 0
      · unfold stp; rw [if_pos z, z]
      · rw [stp_eq z hn (fun q => by omega) hj]; omega
    · simp only [if_neg (show ¬ Int32.ofNat (dpt n) ≤ Int32.ofNat (1 + j) from nle (by omega) (by omega)), gM5 W1, isO_X W1, bN]
      refine Ok_b (m_ranks G H W1 en (a := 323) (d := 1 + j) (Or.inl rfl) (by omega)) (fun o ⟨o1, o2, o3⟩ => ?_)
      have rb := rdT_20 n (1 + j)
      have F2 := F.trans o2
      have W2 := F2.1
      have en2 := fr_now F2 (by omega) e
      have si := sur_iff (n := n) (d := 1 + j) (k := k) (by omega) hk1
      rw [Nat.add_comm 1 j] at si
      rw [o1]
      have go : ¬ k ≤ sur n (j + 1) → ∀ d, d < j + 1 → ¬ k ≤ sur n (d + 1) := fun z d hd => by
        by_cases e : d = j
        · rw [e]; exact z
        · exact hn d (by omega)
      by_cases c2 : rdT n (1 + j) < k
      · rw [if_pos ((ofN_lt (by omega) (by omega)).mpr c2), ofN_succ]
        refine Ok_p (Or.inl ⟨_, rfl, by omega, by omega, by show Int32.ofNat _ = Int32.ofNat _; rw [Nat.add_assoc], F2, go (fun z => ?_)⟩)
        have := si.mp z
        rw [Nat.add_comm j 1] at this
        omega
      · rw [if_neg (fun z => c2 ((ofN_lt (by omega) (by omega)).mp z))]
        have b20 : bst n (1 + j) (k - 1) < 20 := (nrL_spec (P := fun t => rdAt n t (1 + j)) (bef_STO (val n) 20) (j := k - 1) (show k - 1 < rdT n (1 + j) by omega)).1
        simp only [gM5 W2, bN, ofN_pred hk1 (show k < 2147483648 by omega), ldI_at W2 ar_f1 (show k - 1 < 20 by omega), o3 _ (show k - 1 < rdT n (1 + j) by omega), isO_X W2]
        refine Ok_b (m_valueOf G H W2 en2 b20) (fun p ⟨p1, p2⟩ => ?_)
        have F3 := F2.trans (p2.mono (fun b z => Or.inl z))
        have W3 := F3.1
        simp only [isO_X W3, bN]
        refine Ok_b (m_limitAt G H W3 (fr_now F3 (by omega) e) (d := 1 + j) (by omega) (by omega)) (fun q ⟨q1, q2⟩ => ?_)
        have F4 := F3.trans (q2.mono (fun b z => Or.inl z))
        rw [p1, q1]
        rw [Nat.add_comm j 1] at si
        by_cases c3 : val n (bst n (1 + j) (k - 1)) < lim n (1 + j)
        · rw [if_pos c3, ofN_succ]
          refine Ok_p (Or.inl ⟨_, rfl, by omega, by omega, by show Int32.ofNat _ = Int32.ofNat _; rw [Nat.add_assoc], F4, go (fun z => ?_)⟩)
          rw [Nat.add_comm j 1] at z
          exact (si.mp z).2 c3
        · rw [if_neg c3]
          refine Ok_p (Or.inr ⟨.inl (Int32.ofNat (1 + j), q.2), rfl, ?_⟩)
          show Int32.ofNat (1 + j) = Int32.ofNat (stp n k) ∧ Fr _ h q.2
          refine ⟨?_, F4⟩
          rw [stp_eq (by omega) hn (fun _ => by rw [Nat.add_comm j 1]; exact si.mpr ⟨by omega, c3⟩) hj]
  · cases o with
    | inl x => exact Ok_p H
    | inr h' => exact Ok_p ⟨by show Int32.ofNat _ = _; rw [H.1], H.2⟩
