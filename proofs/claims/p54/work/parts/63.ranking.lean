/-! THE PURE SIDE, 14: the ranking -/
theorem rl_nat {n x : Nat → Int32} (hx : ∀ i, i < 5 → ∃ a, a < 496 ∧ x i = Int32.ofNat a) : ∃ a, a < 2500 ∧ rl n x = Int32.ofNat a := by
  have hs : ∀ k, k ≤ 5 → ∃ a, a ≤ 495 * k ∧ fo (fun s i => s + x i) 0 k = Int32.ofNat a := fun k => by
    induction k with
    | zero => intro _; exact ⟨0, by omega, rfl⟩
    | succ k ih =>
      intro hk
      obtain ⟨a, h1, h2⟩ := ih (by omega)
      obtain ⟨c, h3, h4⟩ := hx k (by omega)
      exact ⟨a + c, by omega, by show fo _ 0 k + x k = _; rw [h2, h4, ofN_add]⟩
  have hm : ∀ k, k ≤ 5 → ∃ a, a < 496 ∧ fo (fun s i => mxMax s (x i)) 0 k = Int32.ofNat a := fun k => by
    induction k with
    | zero => intro _; exact ⟨0, by omega, rfl⟩
    | succ k ih =>
      intro hk
      obtain ⟨a, h1, h2⟩ := ih (by omega)
      obtain ⟨c, h3, h4⟩ := hx k (by omega)
      exact ⟨max a c, by omega, by show mxMax (fo _ 0 k) (x k) = _; rw [h2, h4, mxMax_N (by omega) (by omega)]⟩
  have hl : least5 (fun i => n (100 + i)) x = -1 ∨ ∃ a, a < 496 ∧ least5 (fun i => n (100 + i)) x = Int32.ofNat a := by
    unfold least5
    refine fo_ind (fun s => s = -1 ∨ ∃ a, a < 496 ∧ s = Int32.ofNat a) (Or.inl rfl) (fun s k hk hs => ?_)
    show (if 0 < n (100 + k) ∧ (s = -1 ∨ x k < s) then x k else s) = -1 ∨ ∃ a, a < 496 ∧ (if 0 < n (100 + k) ∧ (s = -1 ∨ x k < s) then x k else s) = Int32.ofNat a
    split
    · exact Or.inr (hx k hk)
    · exact hs
  unfold rl
  split
  · obtain ⟨a, h1, h2⟩ := hs 5 (by omega)
    exact ⟨a, by omega, h2⟩
  · split
    · rcases hl with e | ⟨a, h1, h2⟩
      · exact ⟨0, by omega, by rw [e]; rfl⟩
      · exact ⟨a, by omega, by rw [h2]; have := mxMax_N (a := a) (b := 0) (by omega) (by omega); rw [Nat.max_eq_left (by omega)] at this; exact this⟩
    · obtain ⟨a, h1, h2⟩ := hm 5 (by omega)
      exact ⟨a, by omega, h2⟩
theorem val_nat {n : Nat → Int32} (G : MG n) (H : WG n) {t : Nat} (ht : t < 20) : ∃ a, a < 2500 ∧ val n t = Int32.ofNat a := rl_nat (fun _ hi => wm_nat G H hi ht)
theorem lim_nat {n : Nat → Int32} (G : MG n) (H : WG n) {d : Nat} (h1 : 1 ≤ d) : ∃ a, a < 2500 ∧ lim n d = Int32.ofNat a := rl_nat (fun _ hi => lm_nat G H hi h1)
theorem val_nm {n : Nat → Int32} (G : MG n) (H : WG n) {t : Nat} (ht : t < 20) : val n t ≠ -1 := by
  obtain ⟨a, h1, h2⟩ := val_nat G H ht
  rw [h2]; exact ofN_nm (by omega)
def KB (k : Nat) : Prop := k = 289 ∨ k = 293
theorem KB_le {k : Nat} (K : KB k) : 289 ≤ k ∧ k ≤ 293 := by rcases K with rfl | rfl <;> omega
theorem ar_K {k o : Nat} (K : KB k) (h1 : 1 ≤ o) (h3 : o ≤ 3) : ar (k + o) 20 := by
  have : o = 1 ∨ o = 2 ∨ o = 3 := by omega
  rcases K with rfl | rfl <;> rcases this with rfl | rfl | rfl <;> exact ⟨by omega, by omega, rfl, rfl⟩
theorem gR_v {h : mxH} (W : WF h) {k : Nat} (K : KB k) : gR h k 4 0 = some (k + 1) := by
  rcases K with rfl | rfl <;> exact gR_at W ⟨by omega, by omega, rfl, by omega, by decide, rfl, by omega⟩
theorem gR_k {h : mxH} (W : WF h) {k : Nat} (K : KB k) : gR h k 4 1 = some (k + 2) := by
  rcases K with rfl | rfl <;> exact gR_at W ⟨by omega, by omega, rfl, by omega, by decide, rfl, by omega⟩
theorem gR_g {h : mxH} (W : WF h) {k : Nat} (K : KB k) : gR h k 4 2 = some (k + 3) := by
  rcases K with rfl | rfl <;> exact gR_at W ⟨by omega, by omega, rfl, by omega, by decide, rfl, by omega⟩
theorem fd_K {k : Nat} (K : KB k) : fd k 4 3 := by
  rcases K with rfl | rfl <;> exact ⟨by omega, by omega, rfl, by omega, by decide, rfl⟩
theorem isO_K {h : mxH} (W : WF h) {k : Nat} (K : KB k) : isO h k 4 = some () := by
  rcases K with rfl | rfl <;> exact isO_at W ⟨by omega, by omega, rfl⟩
/-- what the ranking keeps of a thing -/
def bvl (n : Nat → Int32) (t : Nat) : Int32 := if knw n t then val n t else -1
def krk (n : Nat → Int32) (t : Nat) : Nat := rkL (bef (val n)) (knw n) 20 t
def knr (n : Nat → Int32) (j : Nat) : Nat := nrL (bef (val n)) (knw n) 20 j
def KR (h : mxH) (k : Nat) (n : Nat → Int32) : Prop :=
  (∀ t, t < 20 → V h (k + 1) t = bvl n t) ∧ (∀ t, t < 20 → V h (k + 2) t = if knw n t then Int32.ofNat (krk n t) else -1) ∧ (∀ j, j < 20 → V h (k + 3) j = if j < rdT n 20 then Int32.ofNat (knr n j) else -1) ∧ V h k 3 = Int32.ofNat (rdT n 20)
theorem KR_fr {P : Nat → Prop} {h h1 : mxH} {k : Nat} {n : Nat → Int32} (K : KB k) (a : KR h k n) (f : Fr P h h1) (hp : ∀ o, o < 4 → ¬ P (k + o)) : KR h1 k n := by
  have := KB_le K
  have e : ∀ o, o < 4 → V h1 (k + o) = V h (k + o) := fun o ho => Fr_V f (by omega) (hp o ho)
  have e0 : V h1 k = V h k := e 0 (by omega)
  unfold KR
  rw [e0, e 1 (by omega), e 2 (by omega), e 3 (by omega)]
  exact a
theorem rdT_20 (n : Nat → Int32) (d : Nat) : rdT n d ≤ 20 := cnt_le _ _
theorem s_valueIn {h : mxH} (W : WF h) {k t : Nat} (K : KB k) (ht : t < 20) : fX4_valueIn k (Int32.ofNat t) h = some (V h (k + 1) t) := by
  unfold fX4_valueIn
  simp only [isThing_k ht, bN, e10, if_false, gR_v W K, ldI_at W (ar_K K (o := 1) (by omega) (by omega)) ht]
theorem s_valueIn_m {h : mxH} {k : Nat} : fX4_valueIn k (-1) h = some (-1) := by
  unfold fX4_valueIn
  simp only [isThing_m, bN, e00, if_true]
theorem s_rankIn {h : mxH} (W : WF h) {k t : Nat} (K : KB k) (ht : t < 20) : fX4_rankIn k (Int32.ofNat t) h = some (V h (k + 2) t) := by
  unfold fX4_rankIn
  simp only [isThing_k ht, bN, e10, if_false, gR_k W K, ldI_at W (ar_K K (o := 2) (by omega) (by omega)) ht]
theorem s_kThingOn {h : mxH} (W : WF h) {k t : Nat} (K : KB k) (ht : t < 20) : fX4_thingOn k (Int32.ofNat t) h = some (V h (k + 3) t) := by
  unfold fX4_thingOn
  simp only [isThing_k ht, bN, e10, if_false, gR_g W K, ldI_at W (ar_K K (o := 3) (by omega) (by omega)) ht]
theorem s_kCountAhead {h : mxH} (W : WF h) {k t : Nat} (K : KB k) (ht : t < 20) : fX4_countAhead k (Int32.ofNat t) h = some (Int32.ofNat (cnt (fun s => bef (V h (k + 1)) s t) 20)) := by
  unfold fX4_countAhead
  simp only [isO_K W K, bN, s_valueIn W K ht]
  refine bs (cnt_loop (fun s => bef (V h (k + 1)) s t) 20 (fun j c hj hc => ?_) (fun c => if_pos yle)) rfl
  simp only [if_neg (n20 hj), gR_v W K, ldI_at W (ar_K K (o := 1) (by omega) (by omega)) hj, bN, ofN_succ, bef, ofN_le (show t < 2147483648 by omega) (show j < 2147483648 by omega)]
  by_cases c1 : V h (k + 1) t < V h (k + 1) j
  · simp [c1]
  · by_cases c2 : V h (k + 1) j = V h (k + 1) t
    · by_cases c3 : t ≤ j
      · simp [c2, c3, Nat.not_lt.mpr c3]
      · simp [c2, c3, Nat.not_le.mp c3]
    · simp [c1, c2]
theorem bvl_bef {n : Nat → Int32} (G : MG n) (H : WG n) {s t : Nat} (hs : s < 20) (ht : t < 20) (kt : knw n t = true) : bef (bvl n) s t = (knw n s && bef (val n) s t) := by
  obtain ⟨a, a1, a2⟩ := val_nat G H ht
  unfold bef bvl
  rw [if_pos kt]
  by_cases ks : knw n s = true
  · rw [if_pos ks, ks, Bool.true_and]
  · rw [if_neg ks]
    have ks : knw n s = false := by simpa using ks
    have e1 : (-1 : Int32).toInt = -1 := by decide
    have e2 : (val n t).toInt = a := by rw [a2, ofN_int (by omega)]
    rw [ks, Bool.false_and, decide_eq_false (p := val n t < -1) (by rw [i32_lt, e1, e2]; omega), decide_eq_false (p := -1 = val n t) (by rw [i32_eq, e1, e2]; omega)]
    rfl
set_option maxHeartbeats 1000000 in
theorem s_rankAll {h : mxH} (W : WF h) {k r : Nat} {n : Nat → Int32} (G : MG n) (H : WG n) (K : KB k) (R : RB r) (A : RR h r n) : Ok (fX4_rankAll k r h) (fun h' => Fr (fun b => b = r + 22 ∨ (k ≤ b ∧ b ≤ k + 3)) h h' ∧ KR h' k n) := by
  have KL := KB_le K
  have RL := RB_le R
  have V1 := ar_K K (o := 1) (by omega) (by omega)
  have V2 := ar_K K (o := 2) (by omega) (by omega)
  have V3 := ar_K K (o := 3) (by omega) (by omega)
  unfold fX4_rankAll
  have S1 := (fd_K K).sl
  have W1 := WF_st (x := 0) W S1
  have F1 := Fr.st (P := fun b => b = r + 22 ∨ (k ≤ b ∧ b ≤ k + 3)) (x := 0) W S1 (Or.inr ⟨by omega, by omega⟩)
  simp only [pI_at W (fd_K K), bN]
  refine Ok_b (P := fun h1 => Fr (fun b => b = r + 22 ∨ (k ≤ b ∧ b ≤ k + 3)) h h1 ∧ (∀ t, t < 20 → V h1 (k + 1) t = bvl n t) ∧ V h1 k 3 = Int32.ofNat (cnt (knw n) 20)) (Ok_loop (fun j s => s.1 = Int32.ofNat j ∧ Fr (fun b => b = r + 22 ∨ (k ≤ b ∧ b ≤ k + 3)) h s.2 ∧ (∀ t, t < j → V s.2 (k + 1) t = bvl n t) ∧ V s.2 k 3 = Int32.ofNat (cnt (knw n) j)) 20 ⟨rfl, F1, fun t ht => by omega, by rw [V_st W S1, if_pos ⟨rfl, rfl⟩]; rfl⟩ ?_ ?_) (fun h1 ⟨F1, v1, v2⟩ => ?_)
  · rintro j ⟨s1, h1⟩ hj ⟨e, F, v1, v2⟩
    obtain rfl := show s1 = _ from e
    have W1 := F.1
    have A1 := RR_fr R A F (fun o ho => by omega)
    simp only [if_neg (n20 hj), isO_R W1 R, bN, s_isKn W1 R A1 hj, gR_v W1 K, bI_0]
    refine Ok_b (P := fun o => o.1 = bvl n j ∧ Fr (fun b => b = r + 22) h1 o.2) ?_ (fun o ⟨e1, F2⟩ => ?_)
    · unfold bvl
      by_cases c : knw n j = true
      · rw [if_neg (by rw [c]; decide), if_pos c]
        exact Ok_b (s_valueOf W1 G H R A1 hj) (fun o H => Ok_p H)
      · have c : knw n j = false := by simpa using c
        rw [if_pos c, if_neg (by rw [c]; decide)]
        exact Ok_p ⟨rfl, Fr.refl W1⟩
    · have W2 := F2.1
      have S3 := V1.sl hj
      have W3 := WF_st (x := o.1) W2 S3
      have F3 := (F.trans (F2.mono (fun b q => Or.inl q))).trans (Fr.st (x := o.1) W2 S3 (Or.inr (show k ≤ k + 1 ∧ k + 1 ≤ k + 3 by omega)))
      have e3 : V (st o.2 (k + 1) j o.1) k 3 = Int32.ofNat (cnt (knw n) j) := by
        rw [V_st_ne (by omega), Fr_V F2 (by omega) (by omega)]; exact v2
      have S4 := (fd_K K).sl
      simp only [stI_at W2 V1 hj, bN, gI_at W3 (fd_K K), e3, pI_at W3 (fd_K K), ofN_succ]
      have w1 : ∀ (y : Int32) (t : Nat), t < j + 1 → V (st (st o.2 (k + 1) j o.1) k 3 y) (k + 1) t = bvl n t := fun y t ht => by
        rw [V_st_ne (by omega), V_st W2 S3]
        by_cases e : t = j
        · subst e; rw [if_pos ⟨rfl, rfl⟩]; exact e1
        · rw [if_neg (fun z => e z.2), Fr_V F2 (by omega) (by omega)]; exact v1 t (by omega)
      by_cases c : knw n j = true
      · rw [if_neg (by rw [c]; decide)]
        refine Ok_p ⟨_, rfl, rfl, F3.trans (Fr.st W3 S4 (Or.inr (show k ≤ k ∧ k ≤ k + 3 by omega))), w1 _, ?_⟩
        show V (st _ _ _ _) _ _ = _
        rw [V_st W3 S4, if_pos ⟨rfl, rfl⟩, ofN_succ, cnt_t c]
      · have c : knw n j = false := by simpa using c
        rw [if_pos c]
        refine Ok_p ⟨_, rfl, rfl, F3.trans (Fr.st W3 S4 (Or.inr (show k ≤ k ∧ k ≤ k + 3 by omega))), w1 _, ?_⟩
        show V (st _ _ _ _) _ _ = _
        rw [V_st W3 S4, if_pos ⟨rfl, rfl⟩, cnt_f c]
        exact ofN_add _ 0
  · rintro ⟨s1, h1⟩ ⟨e, F, v1, v2⟩
    obtain rfl := show s1 = _ from e
    exact Ok_e (if_pos yle) ⟨_, rfl, F, v1, v2⟩
  · have W1 := F1.1
    simp only [gR_k W1 K, bN]
    refine Ok_b (s_fill W1 V2) (fun h2 ⟨F2, w2⟩ => ?_)
    have W2 := F2.1
    simp only [gR_g W2 K, bN]
    refine Ok_b (s_fill W2 V3) (fun h3 ⟨F3, w3⟩ => ?_)
    have W3 := F3.1
    have FF := (F1.trans (F2.mono (fun b q => Or.inr (show k ≤ b ∧ b ≤ k + 3 by omega)))).trans (F3.mono (fun b q => Or.inr (show k ≤ b ∧ b ≤ k + 3 by omega)))
    have hv : ∀ t, t < 20 → V h3 (k + 1) t = bvl n t := fun t ht => by
      rw [Fr_V F3 (by omega) (by omega), Fr_V F2 (by omega) (by omega)]; exact v1 t ht
    have hc3 : V h3 k 3 = Int32.ofNat (rdT n 20) := by
      rw [Fr_V F3 (by omega) (by omega), Fr_V F2 (by omega) (by omega)]; exact v2
    have S := bef_STO (val n) 20
    refine Ok_b (P := fun h4 => Fr (fun b => b = k + 2 ∨ b = k + 3) h3 h4 ∧ (∀ t, t < 20 → V h4 (k + 2) t = if knw n t then Int32.ofNat (krk n t) else -1) ∧ (∀ t, t < 20 → knw n t = true → V h4 (k + 3) (krk n t) = Int32.ofNat t) ∧ (∀ p, p < 20 → (∀ t, t < 20 → knw n t = true → krk n t ≠ p) → V h4 (k + 3) p = -1)) (Ok_loop (fun j s => s.1 = Int32.ofNat j ∧ Fr (fun b => b = k + 2 ∨ b = k + 3) h3 s.2 ∧ (∀ t, t < j → V s.2 (k + 2) t = if knw n t then Int32.ofNat (krk n t) else -1) ∧ (∀ t, j ≤ t → t < 20 → V s.2 (k + 2) t = -1) ∧ (∀ t, t < j → knw n t = true → V s.2 (k + 3) (krk n t) = Int32.ofNat t) ∧ (∀ p, p < 20 → (∀ t, t < j → knw n t = true → krk n t ≠ p) → V s.2 (k + 3) p = -1)) 20 ⟨rfl, Fr.refl W3, fun t ht => by omega, fun t _ ht => by
      show V h3 (k + 2) t = -1
      rw [Fr_V F3 (by omega) (by omega)]; exact w2 t ht, fun t ht => by omega, fun p hp _ => w3 p hp⟩ ?_ ?_) (fun h4 ⟨F4, u1, u2, u3⟩ => Ok_p ⟨FF.trans (F4.mono (fun b q => Or.inr (show k ≤ b ∧ b ≤ k + 3 by omega))), fun t ht => ?_, u1, fun j hj => ?_, ?_⟩)
    · rintro j ⟨s1, h4⟩ hj ⟨e, F, u1, u2, u3, u4⟩
      obtain rfl := show s1 = _ from e
      have W4 := F.1
      have e1 : V h4 (k + 1) = V h3 (k + 1) := Fr_V F (by omega) (by omega)
      simp only [if_neg (n20 hj), gR_v W4 K, bN, ldI_at W4 V1 hj, e1, hv j hj, isO_K W4 K, s_kCountAhead W4 K hj]
      by_cases c : knw n j = true
      · have hr : cnt (fun s => bef (V h3 (k + 1)) s j) 20 = krk n j := cnt_congr (fun s hs => by
          rw [← bvl_bef G H hs hj c]
          unfold bef; rw [hv s hs, hv j hj])
        have eb : bvl n j = val n j := if_pos c
        have hk20 : krk n j < 20 := by
          have h1 := rkL_cnt S hj c
          have h2 := cnt_le (knw n) 20
          exact Nat.lt_of_lt_of_le h1 h2
        rw [hr, eb, if_neg (val_nm G H hj)]
        have S5 := V2.sl hj
        have W5 := WF_st (x := Int32.ofNat (krk n j)) W4 S5
        have S6 := V3.sl hk20
        simp only [bN, isThing_k hk20, e10, if_false, gR_k W4 K, stI_at W4 V2 hj, gR_g W5 K, stI_at W5 V3 hk20, ofN_succ]
        refine Ok_p ⟨_, rfl, rfl, F.trans ((Fr.st W4 S5 (Or.inl rfl)).trans (Fr.st W5 S6 (Or.inr rfl))), fun t ht => ?_, fun t h1 h2 => ?_, fun t ht kt => ?_, fun p hp hn => ?_⟩
        · show V (st _ _ _ _) _ _ = _
          rw [V_st_ne (by omega), V_st W4 S5]
          by_cases e : t = j
          · subst e; rw [if_pos ⟨rfl, rfl⟩, if_pos c]
          · rw [if_neg (fun z => e z.2)]; exact u1 t (by omega)
        · show V (st _ _ _ _) _ _ = _
          rw [V_st_ne (by omega), V_st W4 S5, if_neg (fun z => by omega)]; exact u2 t (by omega) h2
        · show V (st _ _ _ _) _ _ = _
          rw [V_st W5 S6, V_st_ne (by omega)]
          by_cases e : t = j
          · subst e; rw [if_pos ⟨rfl, rfl⟩]
          · rw [if_neg (fun z => e (rkL_inj S (by omega) hj kt c z.2))]; exact u3 t (by omega) kt
        · show V (st _ _ _ _) _ _ = _
          rw [V_st W5 S6, if_neg (fun z => hn j (by omega) c z.2.symm), V_st_ne (by omega)]
          exact u4 p hp (fun t ht => hn t (by omega))
      · have c : knw n j = false := by simpa using c
        have eb : bvl n j = -1 := if_neg (by rw [c]; decide)
        rw [eb]
        simp only [if_true, bN, isThing_m, ofN_succ]
        refine Ok_p ⟨_, rfl, rfl, F, fun t ht => ?_, fun t h1 h2 => u2 t (by omega) h2, fun t ht kt => ?_, fun p hp hn => u4 p hp (fun t ht => hn t (by omega))⟩
        · by_cases e : t = j
          · subst e; rw [if_neg (by rw [c]; decide)]; exact u2 t (Nat.le_refl _) hj
          · exact u1 t (by omega)
        · by_cases e : t = j
          · subst e; rw [c] at kt; cases kt
          · exact u3 t (by omega) kt
    · rintro ⟨s1, h4⟩ ⟨e, F, u1, u2, u3, u4⟩
      obtain rfl := show s1 = _ from e
      exact Ok_e (if_pos yle) ⟨_, rfl, F, u1, u3, u4⟩
    · rw [Fr_V F4 (by omega) (by omega)]; exact hv t ht
    · by_cases c : j < rdT n 20
      · rw [if_pos c]
        obtain ⟨g1, g2, g3⟩ := nrL_spec (P := knw n) S c
        have := u2 (knr n j) g1 g2
        have e2 : krk n (knr n j) = j := g3
        rw [e2] at this
        exact this
      · rw [if_neg c]
        refine u3 j hj (fun t ht kt e => c ?_)
        rw [← e]
        exact rkL_cnt S ht kt
    · rw [Fr_V F4 (by omega) (by omega)]; exact hc3
