/-! THE PURE SIDE, 12: a state, and the states ahead of the changes -/
def SB (s : Nat) : Prop := s = 3 ∨ ∃ q, q < 8 ∧ s = 34 + 29 * q
theorem SB_le {s : Nat} (S : SB s) : 3 ≤ s ∧ s ≤ 237 := by
  rcases S with rfl | ⟨q, h, rfl⟩ <;> omega
theorem SB_R {s : Nat} (S : SB s) : RB (s + 1) := by
  rcases S with rfl | ⟨q, h, rfl⟩
  · exact Or.inl rfl
  · exact Or.inr (Or.inr ⟨q, h, by omega⟩)
theorem SB_N {s : Nat} (S : SB s) : NB (s + 24) := by
  rcases S with rfl | ⟨q, h, rfl⟩
  · exact Or.inl rfl
  · exact Or.inr ⟨q, h, by omega⟩
theorem SB_dis {s t : Nat} (S : SB s) (T : SB t) (h : s ≠ t) : s + 29 ≤ t ∨ t + 29 ≤ s := by
  rcases S with rfl | ⟨q, hq, rfl⟩ <;> rcases T with rfl | ⟨p, hp, rfl⟩ <;> omega
theorem lay_S0 {s : Nat} (S : SB s) : lay s = (7, 4, [s + 1, s + 24, 0, 0]) := by
  rcases S with rfl | ⟨q, h, rfl⟩
  · rfl
  · unfold lay
    rw [if_neg (by omega), if_neg (by omega), if_neg (by omega), if_neg (by omega), if_pos (by omega)]
    rw [show (34 + 29 * q - 34) / 29 = q by omega, show (34 + 29 * q - 34) % 29 = 0 by omega]
    rfl
theorem rf_S {s j c : Nat} (S : SB s) (hj : j < 4) (e : ([s + 1, s + 24, 0, 0] : List Nat).getD j 0 = c) (hc : c ≠ 0) : rf s 7 j c := by
  have := SB_le S
  exact ⟨by omega, by omega, by rw [lay_S0 S], by omega, by rw [lay_S0 S]; exact hj, by rw [lay_S0 S]; exact e, hc⟩
theorem fd_S {s j : Nat} (S : SB s) (hj : j < 4) (e : ([s + 1, s + 24, 0, 0] : List Nat).getD j 0 = 0) : fd s 7 j := by
  have := SB_le S
  exact ⟨by omega, by omega, by rw [lay_S0 S], by omega, by rw [lay_S0 S]; exact hj, by rw [lay_S0 S]; exact e⟩
theorem gR_S0 {h : mxH} (W : WF h) {s : Nat} (S : SB s) : gR h s 7 0 = some (s + 1) := gR_at W (rf_S S (by omega) rfl (by omega))
theorem gR_S1 {h : mxH} (W : WF h) {s : Nat} (S : SB s) : gR h s 7 1 = some (s + 24) := gR_at W (rf_S S (by omega) rfl (by omega))
theorem fd_S2 {s : Nat} (S : SB s) : fd s 7 2 := fd_S S (by omega) rfl
theorem fd_S3 {s : Nat} (S : SB s) : fd s 7 3 := fd_S S (by omega) rfl
theorem isO_S {h : mxH} (W : WF h) {s : Nat} (S : SB s) : isO h s 7 = some () := by
  have := SB_le S
  exact isO_at W ⟨by omega, by omega, by rw [lay_S0 S]⟩
/-- the state at s is that of n -/
def SR (h : mxH) (s : Nat) (n : Nat → Int32) : Prop := RR h (s + 1) n ∧ NR h (s + 24) n ∧ V h s 2 = n 106 ∧ V h s 3 = n 107
theorem SR_fr {P : Nat → Prop} {h h1 : mxH} {s : Nat} {n : Nat → Int32} (S : SB s) (a : SR h s n) (f : Fr P h h1) (hp : ∀ b, s ≤ b → b ≤ s + 28 → b ≠ s + 23 → ¬ P b) : SR h1 s n := by
  have SL := SB_le S
  have e : V h1 s = V h s := Fr_V f (by omega) (hp s (by omega) (by omega) (by omega))
  exact ⟨RR_fr (SB_R S) a.1 f (fun o ho => hp _ (by omega) (by omega) (by omega)), NR_fr (SB_N S) a.2.1 f (fun o ho => hp _ (by omega) (by omega) (by omega)), by rw [e]; exact a.2.2.1, by rw [e]; exact a.2.2.2⟩
theorem inw_congr {n m : Nat → Int32} (e : ∀ k, k < 230 → n k = m k) : inw n = inw m := by
  unfold inw cm wd; rw [e 110 (by omega), e 108 (by omega)]
theorem NR_congr2 {h : mxH} {b : Nat} {n m : Nat → Int32} (e : ∀ k, k < 230 → n k = m k) (h10 : inw n ≤ 10) (A : NR h b n) : NR h b m := by
  obtain ⟨a1, a2, a3, a4, a5, a6, a7, a8, a9⟩ := A
  have ei := inw_congr e
  refine ⟨a1.trans (e _ (by omega)), by rw [a2, ei], fun i hi => ?_, fun k hk => (a4 k hk).trans (e _ (by omega)), a5.trans (e _ (by omega)), a6.trans (e _ (by omega)), fun k hk => (a7 k hk).trans (e _ (by omega)), fun k hk => (a8 k hk).trans (e _ (by omega)), a9.trans (e _ (by omega))⟩
  rw [← ei] at hi ⊢
  rw [a3 i hi, e _ (by omega)]
theorem SR_congr {h : mxH} {s : Nat} {n m : Nat → Int32} (e : ∀ k, k < 230 → n k = m k) (h10 : inw n ≤ 10) (A : SR h s n) : SR h s m :=
  ⟨RR_congr (fun k hk => e k (by omega)) A.1, NR_congr2 e h10 A.2.1, A.2.2.1.trans (e _ (by omega)), A.2.2.2.trans (e _ (by omega))⟩
theorem s_copyState {h : mxH} (W : WF h) {s t j : Nat} {n : Nat → Int32} (S : SB s) (T : SB t) (hst : s ≠ t) (G : NG n j) (A : SR h t n) :
    Ok (fX7_copyFrom s t h) (fun h' => Fr (fun b => s ≤ b ∧ b ≤ s + 28) h h' ∧ SR h' s n) := by
  have SL := SB_le S
  have TL := SB_le T
  have D := SB_dis S T hst
  unfold fX7_copyFrom
  simp only [gR_S0 W S, gR_S0 W T, isO_R W (SB_R S), bN]
  refine Ok_b (s_copyRows W (SB_R S) (SB_R T) (by omega) A.1) (fun h1 ⟨F1, A1⟩ => ?_)
  have W1 := F1.1
  have G1 := F1.mono (Q := fun b => s ≤ b ∧ b ≤ s + 28) (fun b q => (show s ≤ b ∧ b ≤ s + 28 by omega))
  simp only [gR_S1 W1 S, gR_S1 W1 T, isO_N W1 (SB_N S), bN]
  have N1 := NR_fr (SB_N T) A.2.1 F1 (fun o ho => by omega)
  refine Ok_b (s_copyNumbers W1 (SB_N S) (SB_N T) (by omega) G N1) (fun h2 ⟨F2, N2⟩ => ?_)
  have W2 := F2.1
  have G2 := G1.trans (F2.mono (fun b q => (show s ≤ b ∧ b ≤ s + 28 by omega)))
  have e2 : V h2 t = V h t := Fr_V G2 (by omega) (by omega)
  have S3 := (fd_S2 S).sl
  have W3 := WF_st (x := V h2 t 2) W2 S3
  have G3 := G2.trans (Fr.st (x := V h2 t 2) W2 S3 (show s ≤ s ∧ s ≤ s + 28 by omega))
  have S4 := (fd_S3 S).sl
  have e3 : V (st h2 s 2 (V h2 t 2)) t = V h t := Fr_V G3 (by omega) (by omega)
  have F4 := Fr.st (P := fun b => b = s) (x := V (st h2 s 2 (V h2 t 2)) t 3) W3 S4 rfl
  have F34 := (Fr.st (P := fun b => b = s) (x := V h2 t 2) W2 S3 rfl).trans F4
  simp only [gI_at W2 (fd_S2 T), pI_at W2 (fd_S2 S), gI_at W3 (fd_S3 T), pI_at W3 (fd_S3 S), bN]
  refine Ok_p ⟨G3.trans (F4.mono (fun b q => (show s ≤ b ∧ b ≤ s + 28 by omega))), ?_, ?_, ?_, ?_⟩
  · exact RR_fr (SB_R S) (RR_fr (SB_R S) A1 F2 (fun o ho => by omega)) F34 (fun o ho => by omega)
  · exact NR_fr (SB_N S) N2 F34 (fun o ho => by omega)
  · rw [V_st W3 S4, if_neg (by omega), V_st W2 S3, if_pos ⟨rfl, rfl⟩, e2, A.2.2.1]
  · rw [V_st W3 S4, if_pos ⟨rfl, rfl⟩, e3, A.2.2.2]
/-! the saved ones -/
/-- the row of the saved states -/
def HS (h : mxH) (σ : Nat → Nat) : Prop := ∀ k, k < 8 → (h.1 33).2.2[k]? = some (.ref (34 + 29 * σ k))
theorem HS_fr {P : Nat → Prop} {h h1 : mxH} {σ : Nat → Nat} (a : HS h σ) (f : Fr P h h1) (hp : ¬ P 33) : HS h1 σ := by
  unfold HS; rw [f.2.1 33 hp]; exact a
theorem ldR_h {h : mxH} (W : WF h) {σ : Nat → Nat} (a : HS h σ) {k : Nat} (hk : k < 8) : ldR h 33 (Int32.ofNat k) = some (34 + 29 * σ k) := by
  unfold ldR
  rw [if_pos ⟨by have := W.1; omega, Or.inr (W.2 33 (by omega) (by omega)).1, ofN_nn (by omega)⟩, ofN_clamp (by omega), a k hk]
  rfl
theorem SB_q {q : Nat} (hq : q < 8) : SB (34 + 29 * q) := Or.inr ⟨q, hq, rfl⟩
theorem stR_h {h : mxH} (W : WF h) {σ : Nat → Nat} (a : HS h σ) {k q : Nat} (hk : k < 8) (hq : q < 8) :
    Ok (stR h 33 (Int32.ofNat k) (34 + 29 * q)) (fun h' => Fr (fun b => b = 33) h h' ∧ HS h' (fun i => if i = k then q else σ i)) := by
  obtain ⟨f1, f2, f3, f4, f5, f6⟩ := W.2 33 (by omega) (by omega)
  have f1 : (h.1 33).1 = 104 := f1
  have f6 : (h.1 33).2.2.length = 8 := f6 rfl
  have e7 : (h.1 (34 + 29 * q)).1 = 7 := by
    have SL := SB_le (SB_q hq)
    rw [(W.2 (34 + 29 * q) (by omega) (by omega)).1, lay_S0 (SB_q hq)]
  refine ⟨mxUp h 33 (104, (h.1 33).2.1, (h.1 33).2.2.set k (.ref (34 + 29 * q))), ?_, ⟨⟨W.1, fun b b1 b2 => ?_⟩, fun b hb => if_neg hb, fun _ => rfl⟩, fun i hi => ?_⟩
  · unfold stR
    rw [ofN_clamp (by omega), if_pos ⟨⟨by have := W.1; omega, by omega⟩, ⟨f1, by have := W.1; omega, e7⟩, ofN_nn (by omega), by omega⟩]
  · by_cases e : b = 33
    · subst e
      show fits _ (if 33 = 33 then _ else _)
      rw [if_pos rfl]
      exact ⟨rfl, fun q => f2 q, fun q => absurd q (by decide), fun q => absurd q (by decide), fun q => absurd q (by decide), fun _ => by show (List.set _ _ _).length = 8; rw [List.length_set]; exact f6⟩
    · show fits _ (if b = 33 then _ else _)
      rw [if_neg e]
      exact W.2 b b1 b2
  · show (if 33 = 33 then _ else _ : mxE).2.2[i]? = _
    rw [if_pos rfl]
    show ((h.1 33).2.2.set k (Value.ref (34 + 29 * q)))[i]? = some (Value.ref (34 + 29 * (if i = k then q else σ i)))
    by_cases e : i = k
    · subst e
      rw [List.getElem?_set_self (by omega), if_pos rfl]
    · rw [List.getElem?_set_ne (fun z => e z.symm), if_neg e]
      exact a i hi
theorem HS_congr {h : mxH} {σ τ : Nat → Nat} (a : HS h σ) (e : ∀ k, k < 8 → σ k = τ k) : HS h τ := fun k hk => by rw [a k hk, e k hk]
/-- the history: c changes may be undone, B i is the state ahead of the i-th of them -/
def HR (h : mxH) (c : Nat) (B : Nat → Nat → Int32) : Prop :=
  V h 32 1 = Int32.ofNat c ∧ c ≤ 8 ∧ ∃ σ : Nat → Nat, (∀ k, k < 8 → σ k < 8) ∧ (∀ i k, i < 8 → k < 8 → σ i = σ k → i = k) ∧ HS h σ ∧ ∀ k, k < c → SR h (34 + 29 * σ k) (B (c - 1 - k))
theorem HR_fr {P : Nat → Prop} {h h1 : mxH} {c : Nat} {B : Nat → Nat → Int32} (a : HR h c B) (f : Fr P h h1) (hp : ∀ b, 32 ≤ b → b ≤ 265 → ¬ P b) : HR h1 c B := by
  obtain ⟨a1, a2, σ, a3, a4, a5, a6⟩ := a
  have e : V h1 32 = V h 32 := Fr_V f (by omega) (hp _ (by omega) (by omega))
  refine ⟨by rw [e]; exact a1, a2, σ, a3, a4, HS_fr a5 f (hp _ (by omega) (by omega)), fun k hk => SR_fr (SB_q (a3 k (by omega))) (a6 k hk) f (fun b b1 b2 _ => hp _ (by omega) (by have := a3 k (by omega); omega))⟩
theorem HR_congr {h : mxH} {c : Nat} {B D : Nat → Nat → Int32} (e : ∀ i, i < c → ∀ k, k < 230 → B i k = D i k) (h10 : ∀ i, i < c → inw (B i) ≤ 10) (a : HR h c B) : HR h c D := by
  obtain ⟨a1, a2, σ, a3, a4, a5, a6⟩ := a
  exact ⟨a1, a2, σ, a3, a4, a5, fun k hk => SR_congr (e _ (by omega)) (h10 _ (by omega)) (a6 k hk)⟩
theorem gR_H {h : mxH} (W : WF h) : gR h 32 0 0 = some 33 := gR_at W ⟨by omega, by omega, rfl, by omega, by decide, rfl, by omega⟩
theorem fd_H : fd 32 0 1 := ⟨by omega, by omega, rfl, by omega, by decide, rfl⟩
def sav (c : Nat) (B : Nat → Nat → Int32) (n : Nat → Int32) : Nat → Nat → Int32 := fun i => if c < 8 then (if i = c then n else B i) else (if i = 7 then n else B (i + 1))
theorem s_save {h : mxH} (W : WF h) {c j : Nat} {B : Nat → Nat → Int32} {n : Nat → Int32} (G : NG n j) (A : SR h 3 n) (a : HR h c B) :
    Ok (fX0_save 32 3 h) (fun h' => Fr (fun b => 32 ≤ b ∧ b ≤ 265) h h' ∧ HR h' (min (c + 1) 8) (sav c B n)) := by
  obtain ⟨a1, a2, σ, a3, a4, a5, a6⟩ := a
  unfold fX0_save
  simp only [gR_H W, bN, show ldR h 33 7 = some (34 + 29 * σ 7) from ldR_h W a5 (k := 7) (by omega)]
  refine Ok_b (Ok_loop (fun k s => s.1 = Int32.ofNat (7 - k) ∧ Fr (fun b => b = 33) h s.2 ∧ HS s.2 (fun i => if 7 - k < i then σ (i - 1) else σ i)) 7 ⟨rfl, Fr.refl W, HS_congr a5 (fun i hi => by rw [if_neg (by omega)])⟩ ?_ ?_) (fun h1 (H : Fr (fun b => b = 33) h h1 ∧ HS h1 (fun i => if 0 < i then σ (i - 1) else σ i)) => ?_)
  · rintro k ⟨s1, h1⟩ hk ⟨e, F, hs⟩
    obtain rfl := show s1 = _ from e
    have W1 := F.1
    have hs : HS h1 (fun i => if 7 - k < i then σ (i - 1) else σ i) := hs
    have e1 : ldR h1 33 (Int32.ofNat (7 - k - 1)) = some (34 + 29 * σ (7 - k - 1)) := by
      have := ldR_h W1 hs (k := 7 - k - 1) (by omega)
      rw [if_neg (by omega)] at this
      exact this
    simp only [if_neg (show ¬ Int32.ofNat (7 - k) ≤ 0 from nle (b := 0) (show 0 < 7 - k by omega) (by omega)), gR_H W1, bN, ofN_pred (show 1 ≤ 7 - k by omega) (by omega), e1]
    refine Ok_b (stR_h W1 hs (k := 7 - k) (q := σ (7 - k - 1)) (by omega) (a3 _ (by omega))) (fun h2 ⟨F2, hs2⟩ => Ok_p ⟨_, rfl, by show Int32.ofNat _ = Int32.ofNat _; congr 1, F.trans F2, HS_congr hs2 (fun i hi => ?_)⟩)
    by_cases q1 : i = 7 - k
    · subst q1; rw [if_pos rfl, if_pos (by omega)]
    · rw [if_neg q1]
      by_cases q2 : 7 - k < i
      · rw [if_pos q2, if_pos (by omega)]
      · rw [if_neg q2, if_neg (by omega)]
  · rintro ⟨s1, h1⟩ ⟨e, F, hs⟩
    obtain rfl := show s1 = _ from e
    refine Ok_e (a := .inr h1) ?_ ⟨_, rfl, F, hs⟩
    show (if Int32.ofNat 0 ≤ 0 then _ else _) = _
    exact if_pos yle
  · obtain ⟨F1, hs1⟩ := H
    have W1 := F1.1
    simp only [gR_H W1, bN]
    refine Ok_b (show Ok (stR h1 33 0 (34 + 29 * σ 7)) _ from stR_h W1 hs1 (k := 0) (q := σ 7) (by omega) (a3 7 (by omega))) (fun h2 ⟨F2, hs2⟩ => ?_)
    have W2 := F2.1
    have F12 := F1.trans F2
    have L7 := a3 7 (by omega)
    have A2 : SR h2 3 n := SR_fr (Or.inl rfl) A F12 (fun b _ _ _ => by omega)
    simp only [isO_S W2 (SB_q L7), bN]
    refine Ok_b (s_copyState W2 (SB_q L7) (Or.inl rfl) (by omega) G A2) (fun h3 ⟨F3, A3⟩ => ?_)
    have W3 := F3.1
    have e32 : V h3 32 1 = Int32.ofNat c := by
      rw [Fr_V F3 (by omega) (by omega), Fr_V F12 (by omega) (by omega)]; exact a1
    have S4 := fd_H.sl
    have e5 : mxMin (Int32.ofNat c + 1) 8 = Int32.ofNat (min (c + 1) 8) := by
      rw [ofN_succ]; exact mxMin_N (b := 8) (by omega) (by omega)
    simp only [gI_at W3 fd_H, pI_at W3 fd_H, bN, e32, e5]
    have F4 := Fr.st (P := fun b => b = 32) (x := Int32.ofNat (min (c + 1) 8)) W3 S4 rfl
    refine Ok_p ⟨(F12.mono (fun b q => (show 32 ≤ b ∧ b ≤ 265 by omega))).trans ((F3.mono (fun b q => (show 32 ≤ b ∧ b ≤ 265 by omega))).trans (F4.mono (fun b q => (show 32 ≤ b ∧ b ≤ 265 by omega)))), ?_, by omega, (fun i => if 0 < i then σ (i - 1) else σ 7), ?_, ?_, ?_, ?_⟩
    · rw [V_st W3 S4, if_pos ⟨rfl, rfl⟩]
    · intro k hk
      show (if 0 < k then σ (k - 1) else σ 7) < 8
      split
      · exact a3 _ (by omega)
      · exact L7
    · intro i k hi hk e
      have e : (if 0 < i then σ (i - 1) else σ 7) = (if 0 < k then σ (k - 1) else σ 7) := e
      split at e <;> split at e
      · have := a4 _ _ (by omega) (by omega) e; omega
      · have := a4 _ _ (by omega) (by omega) e; omega
      · have := a4 _ _ (by omega) (by omega) e; omega
      · omega
    · refine HS_congr (HS_fr (HS_fr hs2 F3 (by omega)) F4 (by omega)) (fun i hi => ?_)
      by_cases q : i = 0
      · subst q; rw [if_pos rfl, if_neg (by omega)]
      · rw [if_neg q]
        show (if 0 < i then σ (i - 1) else σ i) = _
        rw [if_pos (by omega), if_pos (by omega)]
    · intro k hk
      show SR _ (34 + 29 * (if 0 < k then σ (k - 1) else σ 7)) _
      by_cases q : 0 < k
      · rw [if_pos q]
        have hq := a3 (k - 1) (by omega)
        have hne : σ (k - 1) ≠ σ 7 := fun z => by have := a4 _ _ (by omega) (by omega) z; omega
        have A0 := a6 (k - 1) (by omega)
        have A1 := SR_fr (SB_q hq) A0 F12 (fun b _ _ _ => by omega)
        have A2 := SR_fr (SB_q hq) A1 F3 (fun b b1 b2 _ => by omega)
        have A3 := SR_fr (SB_q hq) A2 F4 (fun b b1 b2 _ => by omega)
        have e : sav c B n (min (c + 1) 8 - 1 - k) = B (c - 1 - (k - 1)) := by
          unfold sav
          by_cases c8 : c < 8
          · rw [if_pos c8, if_neg (by omega)]; congr 1; omega
          · rw [if_neg c8, if_neg (by omega)]; congr 1; omega
        rw [e]
        exact A3
      · rw [if_neg q]
        have e : sav c B n (min (c + 1) 8 - 1 - k) = n := by
          unfold sav
          by_cases c8 : c < 8
          · rw [if_pos c8, if_pos (by omega)]
          · rw [if_neg c8, if_pos (by omega)]
        rw [e]
        exact SR_fr (SB_q L7) A3 F4 (fun b b1 b2 _ => by omega)
theorem s_restore {h : mxH} (W : WF h) {c j : Nat} {B : Nat → Nat → Int32} (G : ∀ i, i < c → NG (B i) j) (a : HR h c B) :
    (c = 0 → fX0_restore 32 3 h = some (-1, h)) ∧ (0 < c → Ok (fX0_restore 32 3 h) (fun o => o.1 = Int32.ofNat (c - 1) ∧ Fr (fun b => 3 ≤ b ∧ b ≤ 265) h o.2 ∧ SR o.2 3 (B (c - 1)) ∧ HR o.2 (c - 1) B)) := by
  obtain ⟨a1, a2, σ, a3, a4, a5, a6⟩ := a
  unfold fX0_restore
  simp only [gR_H W, bN, show ldR h 33 0 = some (34 + 29 * σ 0) from ldR_h W a5 (k := 0) (by omega), gI_at W fd_H, a1]
  constructor
  · intro h0
    subst h0
    rfl
  · intro h0
    have L0 := a3 0 (by omega)
    have c0 : ¬ Int32.ofNat c = 0 := fun e => by
      have := ofN_inj (a := c) (b := 0) (by omega) (by omega) e
      omega
    simp only [if_neg c0, isO_S W (show SB 3 from Or.inl rfl), bN]
    have A0 := a6 0 h0
    rw [show c - 1 - 0 = c - 1 by omega] at A0
    refine Ok_b (s_copyState W (Or.inl rfl) (SB_q L0) (by omega) (G (c - 1) (by omega)) A0) (fun h1 ⟨F1, A1⟩ => ?_)
    have hs1 := HS_fr a5 F1 (by omega)
    refine Ok_b (Ok_loop (fun k s => s.1 = Int32.ofNat k ∧ Fr (fun b => b = 33) h1 s.2 ∧ HS s.2 (fun i => if i < k then σ (i + 1) else σ i)) 7 ⟨rfl, Fr.refl F1.1, HS_congr hs1 (fun i hi => by rw [if_neg (by omega)])⟩ ?_ ?_) (fun h2 (H : Fr (fun b => b = 33) h1 h2 ∧ HS h2 (fun i => if i < 7 then σ (i + 1) else σ i)) => ?_)
    · rintro k ⟨s1, h2⟩ hk ⟨e, F, hs⟩
      obtain rfl := show s1 = _ from e
      have W2 := F.1
      have hs : HS h2 (fun i => if i < k then σ (i + 1) else σ i) := hs
      have e1 : ldR h2 33 (Int32.ofNat (k + 1)) = some (34 + 29 * σ (k + 1)) := by
        have := ldR_h W2 hs (k := k + 1) (by omega)
        rw [if_neg (by omega)] at this
        exact this
      simp only [ofN_succ, if_neg (show ¬ (8 : Int32) ≤ Int32.ofNat (k + 1) from nle (a := 8) (by omega)), gR_H W2, bN, e1]
      refine Ok_b (stR_h W2 hs (k := k) (q := σ (k + 1)) (by omega) (a3 _ (by omega))) (fun h3 ⟨F3, hs3⟩ => Ok_p ⟨_, rfl, rfl, F.trans F3, HS_congr hs3 (fun i hi => ?_)⟩)
      by_cases q1 : i = k
      · subst q1; rw [if_pos rfl, if_pos (by omega)]
      · rw [if_neg q1]
        by_cases q2 : i < k
        · rw [if_pos q2, if_pos (by omega)]
        · rw [if_neg q2, if_neg (by omega)]
    · rintro ⟨s1, h2⟩ ⟨e, F, hs⟩
      obtain rfl := show s1 = _ from e
      refine Ok_e (a := .inr h2) ?_ ⟨_, rfl, F, hs⟩
      show (if (8 : Int32) ≤ Int32.ofNat 7 + 1 then _ else _) = _
      rw [ofN_succ]; exact if_pos yle
    · obtain ⟨F2, hs2⟩ := H
      have W2 := F2.1
      simp only [gR_H W2, bN]
      refine Ok_b (show Ok (stR h2 33 7 (34 + 29 * σ 0)) _ from stR_h W2 hs2 (k := 7) (q := σ 0) (by omega) L0) (fun h3 ⟨F3, hs3⟩ => ?_)
      have W3 := F3.1
      have F23 := F2.trans F3
      have e32 : V h3 32 1 = Int32.ofNat c := by
        rw [Fr_V F23 (by omega) (by omega), Fr_V F1 (by omega) (by omega)]; exact a1
      have S4 := fd_H.sl
      have W4 := WF_st (x := Int32.ofNat (c - 1)) W3 S4
      have F4 := Fr.st (P := fun b => b = 32) (x := Int32.ofNat (c - 1)) W3 S4 rfl
      have e4 : V (st h3 32 1 (Int32.ofNat (c - 1))) 32 1 = Int32.ofNat (c - 1) := by rw [V_st W3 S4, if_pos ⟨rfl, rfl⟩]
      simp only [gI_at W3 fd_H, pI_at W3 fd_H, bN, e32, ofN_pred (show 1 ≤ c by omega) (by omega), gI_at W4 fd_H, e4]
      refine Ok_p ⟨rfl, (F1.mono (fun b q => (show 3 ≤ b ∧ b ≤ 265 by omega))).trans ((F23.mono (fun b q => (show 3 ≤ b ∧ b ≤ 265 by omega))).trans (F4.mono (fun b q => (show 3 ≤ b ∧ b ≤ 265 by omega)))), ?_, e4, by omega, (fun i => if i < 7 then σ (i + 1) else σ 0), ?_, ?_, ?_, ?_⟩
      · exact SR_fr (Or.inl rfl) (SR_fr (Or.inl rfl) A1 F23 (fun b _ _ _ => by omega)) F4 (fun b _ _ _ => by omega)
      · intro k hk
        show (if k < 7 then σ (k + 1) else σ 0) < 8
        split
        · exact a3 _ (by omega)
        · exact L0
      · intro i k hi hk e
        have e : (if i < 7 then σ (i + 1) else σ 0) = (if k < 7 then σ (k + 1) else σ 0) := e
        split at e <;> split at e
        · have := a4 _ _ (by omega) (by omega) e; omega
        · have := a4 _ _ (by omega) (by omega) e; omega
        · have := a4 _ _ (by omega) (by omega) e; omega
        · omega
      · refine HS_congr (HS_fr hs3 F4 (by omega)) (fun i hi => ?_)
        by_cases q : i = 7
        · subst q; rw [if_pos rfl, if_neg (by omega)]
        · rw [if_neg q]
          show (if i < 7 then σ (i + 1) else σ i) = _
          rw [if_pos (by omega), if_pos (by omega)]
      · intro k hk
        show SR _ (34 + 29 * (if k < 7 then σ (k + 1) else σ 0)) _
        rw [if_pos (by omega)]
        have hq := a3 (k + 1) (by omega)
        have A0 := a6 (k + 1) (by omega)
        rw [show c - 1 - (k + 1) = c - 1 - 1 - k by omega] at A0
        exact SR_fr (SB_q hq) (SR_fr (SB_q hq) (SR_fr (SB_q hq) A0 F1 (fun b b1 b2 _ => by omega)) F23 (fun b b1 b2 _ => by omega)) F4 (fun b b1 b2 _ => by omega)
