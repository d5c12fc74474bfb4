/-! THE PURE SIDE, 23: the order with the fewest swaps, as the class finds it -/
def clr (m e : Nat) : Nat := if m.testBit e then m - 2 ^ e else m
theorem clr6 : ∀ m, m < 64 → ∀ e, e < 6 → (Int32.ofNat m &&& ((1 <<< (Int32.ofNat e &&& 31)) ^^^ (-1))) = Int32.ofNat (clr m e) := by decide +kernel
theorem clr_le (m e : Nat) : clr m e ≤ m := by
  unfold clr
  split
  · exact Nat.sub_le _ _
  · exact Nat.le_refl _
theorem clr_lt : ∀ m, m < 64 → ∀ e, e < 6 → m.testBit e = true → clr m e < m := by decide +kernel
theorem clr_bit : ∀ m, m < 64 → ∀ e, e < 6 → ∀ k, k < 6 → (clr m e).testBit k = (m.testBit k && !(k == e)) := by decide +kernel
theorem full6 : ∀ c, c < 7 → (1 : Int32) <<< (Int32.ofNat c &&& 31) - 1 = Int32.ofNat (2 ^ c - 1) ∧ 2 ^ c ≤ 64 := by decide +kernel
theorem full_bit : ∀ c, c < 7 → ∀ k, k < c → (2 ^ c - 1).testBit k = true := by decide +kernel
theorem hasbit : ∀ c, c < 7 → ∀ m, m < 2 ^ c → 0 < m → ∃ k, k < c ∧ m.testBit k = true := by decide +kernel
def swg (n : Nat → Int32) (m e : Nat) : Nat → Nat → Nat := fun s k => s + if (clr m e).testBit k then pf n k e else 0
def swb (n : Nat → Int32) (D : Nat → Nat) (m e : Nat) : Nat := fo (swg n m e) (D (clr m e)) (cdC n)
theorem swg_le {n : Nat → Int32} {m e a : Nat} : ∀ k, fo (swg n m e) a k ≤ a + 5 * k := by
  intro k
  induction k with
  | zero => exact Nat.le_refl _
  | succ k ih =>
    show (fo (swg n m e) a k + if (clr m e).testBit k then pf n k e else 0) ≤ _
    have := pf_5 n k e
    split <;> omega
theorem swg_ge {n : Nat → Int32} {m e a : Nat} : ∀ k, fo (swg n m e) a k = a + fo (swg n m e) 0 k := by
  intro k
  induction k with
  | zero => rfl
  | succ k ih =>
    show (fo (swg n m e) a k + if (clr m e).testBit k then pf n k e else 0) = a + (fo (swg n m e) 0 k + if (clr m e).testBit k then pf n k e else 0)
    rw [ih]; omega
theorem swb_le {n : Nat → Int32} {D : Nat → Nat} {m e : Nat} (hD : D (clr m e) ≤ 30 * clr m e) (h : clr m e < m) : swb n D m e ≤ 30 * m := by
  have h1 := swg_le (n := n) (m := m) (e := e) (a := D (clr m e)) (cdC n)
  have C6 := cdC_6 n
  unfold swb
  omega
theorem s_swapsBehind {h : mxH} (W : WF h) {n : Nat → Int32} {D : Nat → Nat} (A : VR h n) {m e : Nat} (hm : m < 64) (he : e < cdC n) (hD : V h 315 (clr m e) = Int32.ofNat (D (clr m e))) : fX8_swapsBehind 306 (Int32.ofNat e) (Int32.ofNat m) h = some (Int32.ofNat (swb n D m e)) := by
  have C6 := cdC_6 n
  have e6 : e < 6 := by omega
  have hc := clr_le m e
  unfold fX8_swapsBehind
  simp only [isCand_k e6, bN, e10, if_false, clr6 m hm e e6, if_neg (ofN_nn (show clr m e < 2147483648 by omega)), gR_fw W, lenA_at W ar_fw, if_neg (nle (show clr m e < 64 by omega)), ldI_at W ar_fw (show clr m e < 64 by omega), hD]
  refine bs (nat_loop (swg n m e) (D (clr m e)) (cdC n) (fun k hk => ?_) (fun c => ?_) (by unfold mxF; omega)) rfl
  · have k6 : k < 6 := by omega
    have hb := bit6 (clr m e) (by omega) k k6
    simp only [gI_at W fd_vc, bN, A.1, if_neg (nle hk (by omega)), if_neg (n6 k6), ofN_succ]
    unfold swg
    cases q : (clr m e).testBit k
    · rw [q] at hb
      rw [if_neg (of_decide_eq_false hb)]
      show some (Sum.inl (_ + Int32.ofNat 0, _)) = _
      rw [ofN_add]; rfl
    · rw [q] at hb
      rw [if_pos (of_decide_eq_true hb)]
      simp only [gR_pr W, ldR_pr W k6, ldI_at W (ar_pr k6) e6, A.2.2 k e hk he, bN, ofN_add]
      rfl
  · simp only [gI_at W fd_vc, bN, A.1, if_pos yle]
/-- f is the first of those below k that leave the fewest swaps -/
def MIN (n : Nat → Int32) (D : Nat → Nat) (m k f : Nat) : Prop := f < k ∧ m.testBit f = true ∧ ∀ j, j < k → m.testBit j = true → swb n D m f ≤ swb n D m j ∧ (j < f → swb n D m f < swb n D m j)
theorem MIN_up {n : Nat → Int32} {D : Nat → Nat} {m k f : Nat} (M : MIN n D m k f) (h : m.testBit k = false ∨ swb n D m f ≤ swb n D m k) : MIN n D m (k + 1) f := by
  refine ⟨by have := M.1; omega, M.2.1, fun j hj bj => ?_⟩
  by_cases e : j = k
  · subst e
    rcases h with h | h
    · rw [bj] at h; cases h
    · exact ⟨h, fun z => by have := M.1; omega⟩
  · exact M.2.2 j (by omega) bj
theorem MIN_new {n : Nat → Int32} {D : Nat → Nat} {m k : Nat} (bk : m.testBit k = true) (h : ∀ j, j < k → m.testBit j = true → swb n D m k < swb n D m j) : MIN n D m (k + 1) k := by
  refine ⟨by omega, bk, fun j hj bj => ?_⟩
  by_cases e : j = k
  · subst e; exact ⟨Nat.le_refl _, fun z => by omega⟩
  · have := h j (by omega) bj
    exact ⟨by omega, fun _ => this⟩
theorem MIN_inj {n : Nat → Int32} {D : Nat → Nat} {m k f g : Nat} (M : MIN n D m k f) (M2 : MIN n D m k g) : f = g := by
  have a := M.2.2 g M2.1 M2.2.1
  have b := M2.2.2 f M.1 M.2.1
  by_cases c : f < g
  · have := b.2 c; omega
  · by_cases c2 : g < f
    · have := a.2 c2; omega
    · omega
theorem MIN_ex {n : Nat → Int32} {D : Nat → Nat} {m : Nat} : ∀ k, (∀ j, j < k → m.testBit j = false) ∨ ∃ f, MIN n D m k f := by
  intro k
  induction k with
  | zero => exact Or.inl (fun j hj => by omega)
  | succ k ih =>
    by_cases b : m.testBit k = true
    · rcases ih with ih | ⟨f, M⟩
      · exact Or.inr ⟨k, MIN_new b (fun j hj bj => by rw [ih j hj] at bj; cases bj)⟩
      · by_cases c : swb n D m f ≤ swb n D m k
        · exact Or.inr ⟨f, MIN_up M (Or.inr c)⟩
        · exact Or.inr ⟨k, MIN_new b (fun j hj bj => by have := (M.2.2 j hj bj).1; omega)⟩
    · have b : m.testBit k = false := by simpa using b
      rcases ih with ih | ⟨f, M⟩
      · exact Or.inl (fun j hj => by
          by_cases e : j = k
          · subst e; exact b
          · exact ih j (by omega))
      · exact Or.inr ⟨f, MIN_up M (Or.inl b)⟩
def fof (n : Nat → Int32) (D : Nat → Nat) (m : Nat) : Nat := fst1 (fun f => m.testBit f && !orT (fun j => m.testBit j && decide (swb n D m j < swb n D m f)) (cdC n)) (cdC n)
theorem fof_of {n : Nat → Int32} {D : Nat → Nat} {m f : Nat} (M : MIN n D m (cdC n) f) : fof n D m = f := by
  have h1 : (fun f => m.testBit f && !orT (fun j => m.testBit j && decide (swb n D m j < swb n D m f)) (cdC n)) f = true := by
    show (m.testBit f && !orT (fun j => m.testBit j && decide (swb n D m j < swb n D m f)) (cdC n)) = true
    rw [M.2.1, orT_false.mpr (fun j hj => ?_)]
    · rfl
    · cases b : m.testBit j
      · rfl
      · have := (M.2.2 j hj b).1
        rw [Bool.true_and]; exact decide_eq_false (by omega)
  have hf := fst1_found (p := fun f => m.testBit f && !orT (fun j => m.testBit j && decide (swb n D m j < swb n D m f)) (cdC n)) M.1 h1
  have hs := fst1_spec (fun f => m.testBit f && !orT (fun j => m.testBit j && decide (swb n D m j < swb n D m f)) (cdC n)) (cdC n)
  have h2 := hs.2 hf
  have h3 : fof n D m ≤ f := by
    by_cases c : f < fof n D m
    · have q := hs.1 f c
      exact Bool.noConfusion (h1.symm.trans q)
    · omega
  by_cases c : fof n D m < f
  · exfalso
    have h2 : (m.testBit (fof n D m) && !orT (fun j => m.testBit j && decide (swb n D m j < swb n D m (fof n D m))) (cdC n)) = true := h2
    rw [Bool.and_eq_true] at h2
    have h4 : swb n D m f < swb n D m (fof n D m) := (M.2.2 (fof n D m) hf h2.1).2 c
    have h5 : orT (fun j => m.testBit j && decide (swb n D m j < swb n D m (fof n D m))) (cdC n) = true := orT_iff.mpr ⟨f, M.1, by
      show (m.testBit f && decide (swb n D m f < swb n D m (fof n D m))) = true
      rw [M.2.1, decide_eq_true h4]; rfl⟩
    rw [h5] at h2; cases h2.2
  · omega
theorem fof_MIN {n : Nat → Int32} {D : Nat → Nat} {m : Nat} (h : ∃ k, k < cdC n ∧ m.testBit k = true) : MIN n D m (cdC n) (fof n D m) := by
  rcases MIN_ex (n := n) (D := D) (m := m) (cdC n) with q | ⟨f, M⟩
  · obtain ⟨k, h1, h2⟩ := h
    rw [q k h1] at h2; cases h2
  · rw [fof_of M]; exact M
theorem s_firstOf {h : mxH} (W : WF h) {n : Nat → Int32} {D : Nat → Nat} (A : VR h n) {m : Nat} (hm : m < 64) (hx : ∃ k, k < cdC n ∧ m.testBit k = true)
    (hD : ∀ i, i < m → V h 315 i = Int32.ofNat (D i) ∧ D i ≤ 30 * i) : fX8_firstOf 306 (Int32.ofNat m) h = some (Int32.ofNat (fof n D m)) := by
  have C6 := cdC_6 n
  have sw : ∀ e, e < cdC n → m.testBit e = true → fX8_swapsBehind 306 (Int32.ofNat e) (Int32.ofNat m) h = some (Int32.ofNat (swb n D m e)) ∧ swb n D m e < 2147483648 := fun e he be => by
    have hc := clr_lt m hm e (by omega) be
    have := swb_le (n := n) (D := D) (hD _ hc).2 hc
    exact ⟨s_swapsBehind W A hm he (hD _ hc).1, by omega⟩
  have := Ok_b (f := fun r27 : Int32 => some r27) (Q := fun o => ∃ f, o = Int32.ofNat f ∧ MIN n D m (cdC n) f) (P := fun o => ∃ f, o = Int32.ofNat f ∧ MIN n D m (cdC n) f) (o := mxLoop (ρ := Int32) (fun s1 : (Int32 × Int32) => Option.bind (gI h 306 8 1) (fun v9 => (if v9 ≤ s1.2 then some (Sum.inr s1.1) else Option.bind (α := Int32) (if ((Int32.ofNat m >>> (s1.2 &&& 31)) &&& 1) = 1 then (if s1.1 = (-1) then some s1.2 else Option.bind (isO h 306 8) (fun u17 => Option.bind (fX8_swapsBehind 306 s1.2 (Int32.ofNat m) h) (fun v20 => Option.bind (isO h 306 8) (fun u21 => Option.bind (fX8_swapsBehind 306 s1.1 (Int32.ofNat m) h) (fun v24 => (if v24 ≤ v20 then some s1.1 else some s1.2)))))) else some s1.1) (fun p14' : Int32 => some (Sum.inl (p14', s1.2 + 1)))))) mxF ((-1), 0))
    (Ok_loop (fun k s => s.2 = Int32.ofNat k ∧ ((s.1 = -1 ∧ ∀ j, j < k → m.testBit j = false) ∨ ∃ f, s.1 = Int32.ofNat f ∧ MIN n D m k f)) (cdC n) ⟨rfl, Or.inl ⟨rfl, fun j hj => by omega⟩⟩ ?_ ?_ (by unfold mxF; omega)) (fun a H => Ok_p H)
  · obtain ⟨a, e1, f, e2, M⟩ := this
    unfold fX8_firstOf
    rw [e1, e2, fof_of M]
  · rintro k ⟨b, s2⟩ hk ⟨e, H⟩
    obtain rfl := show s2 = _ from e
    have H : (b = -1 ∧ ∀ j, j < k → m.testBit j = false) ∨ ∃ f, b = Int32.ofNat f ∧ MIN n D m k f := H
    have hb := bit6 m hm k (by omega)
    simp only [gI_at W fd_vc, bN, A.1, if_neg (nle hk (by omega)), ofN_succ]
    cases q : m.testBit k
    · rw [q] at hb
      rw [if_neg (of_decide_eq_false hb)]
      refine Ok_p ⟨_, rfl, rfl, ?_⟩
      rcases H with ⟨e1, e2⟩ | ⟨f, e1, M⟩
      · refine Or.inl ⟨e1, fun j hj => ?_⟩
        by_cases e : j = k
        · subst e; exact q
        · exact e2 j (by omega)
      · exact Or.inr ⟨f, e1, MIN_up M (Or.inl q)⟩
    · rw [q] at hb
      rw [if_pos (of_decide_eq_true hb)]
      rcases H with ⟨e1, e2⟩ | ⟨f, e1, M⟩
      · rw [e1, if_pos rfl]
        exact Ok_p ⟨_, rfl, rfl, Or.inr ⟨k, rfl, MIN_new q (fun j hj bj => by rw [e2 j hj] at bj; cases bj)⟩⟩
      · have hf : f < cdC n := by have := M.1; omega
        obtain ⟨x1, x2⟩ := sw k hk q
        obtain ⟨y1, y2⟩ := sw f hf M.2.1
        rw [e1, if_neg (ofN_nm (by omega))]
        simp only [isO_V W, bN, x1, y1, ofN_le y2 x2]
        by_cases c : swb n D m f ≤ swb n D m k
        · rw [if_pos c]
          exact Ok_p ⟨_, rfl, rfl, Or.inr ⟨f, rfl, MIN_up M (Or.inr c)⟩⟩
        · rw [if_neg c]
          exact Ok_p ⟨_, rfl, rfl, Or.inr ⟨k, rfl, MIN_new q (fun j hj bj => by have := (M.2.2 j hj bj).1; omega)⟩⟩
  · rintro ⟨b, s2⟩ ⟨e, H⟩
    obtain rfl := show s2 = _ from e
    have H : (b = -1 ∧ ∀ j, j < cdC n → m.testBit j = false) ∨ ∃ f, b = Int32.ofNat f ∧ MIN n D m (cdC n) f := H
    refine Ok_e (a := .inr b) (by simp only [gI_at W fd_vc, bN, A.1, if_pos yle]) ⟨_, rfl, ?_⟩
    rcases H with ⟨e1, e2⟩ | H
    · obtain ⟨k, h1, h2⟩ := hx
      rw [e2 k h1] at h2; cases h2
    · exact H
def DP (n : Nat → Int32) (D : Nat → Nat) (N : Nat) : Prop := D 0 = 0 ∧ ∀ m, 0 < m → m < N → D m = swb n D m (fof n D m)
theorem swb_congr {n : Nat → Int32} {D E : Nat → Nat} {m e : Nat} (h : D (clr m e) = E (clr m e)) : swb n D m e = swb n E m e := by
  unfold swb; rw [h]
theorem fof_congr {n : Nat → Int32} {D E : Nat → Nat} {m : Nat} (hm : m < 64) (h : ∀ i, i < m → D i = E i) : fof n D m = fof n E m := by
  have C6 := cdC_6 n
  unfold fof
  refine fst1_congr (fun f hf => ?_)
  cases b : m.testBit f
  · rfl
  · rw [orT_congr (q := fun j => m.testBit j && decide (swb n E m j < swb n E m f)) (fun j hj => ?_)]
    cases b2 : m.testBit j
    · rfl
    · rw [swb_congr (h _ (clr_lt m hm j (by omega) b2)), swb_congr (h _ (clr_lt m hm f (by omega) b))]
def mks (n : Nat → Int32) (D : Nat → Nat) : Nat → Nat
  | 0 => 2 ^ cdC n - 1
  | i + 1 => clr (mks n D i) (fof n D (mks n D i))
theorem cnt_clr {m f c : Nat} (hm : m < 64) (hf : f < c) (hc : c ≤ 6) (b : m.testBit f = true) : cnt (fun k => m.testBit k) c = cnt (fun k => (clr m f).testBit k) c + 1 := by
  rw [cnt_out (p := fun k => m.testBit k) hf b]
  congr 1
  exact cnt_congr (fun k hk => by rw [clr_bit m hm f (by omega) k (by omega)])
theorem cnt_all : ∀ n, cnt (fun _ => true) n = n := fun n => by
  induction n with
  | zero => rfl
  | succ n ih => rw [cnt_t rfl, ih]
theorem cnt_bit {m c : Nat} (h : 0 < cnt (fun k => m.testBit k) c) : ∃ k, k < c ∧ m.testBit k = true := by
  cases e : orT (fun k => m.testBit k) c
  · have := orT_false.mp e
    rw [cnt_congr (q := fun _ => false) this] at h
    have z : ∀ n, cnt (fun _ => false) n = 0 := fun n => by
      induction n with
      | zero => rfl
      | succ n ih => rw [cnt_f rfl, ih]
    rw [z] at h; omega
  · exact orT_iff.mp e
theorem mks_spec {n : Nat → Int32} {D : Nat → Nat} : ∀ i, i ≤ cdC n → mks n D i < 2 ^ cdC n ∧ cnt (fun k => (mks n D i).testBit k) (cdC n) = cdC n - i := by
  have C6 := cdC_6 n
  have h64 := (full6 (cdC n) (by omega)).2
  have hp : 0 < 2 ^ cdC n := Nat.pow_pos (by omega)
  intro i
  induction i with
  | zero =>
    intro _
    refine ⟨by show 2 ^ cdC n - 1 < _; omega, ?_⟩
    show cnt (fun k => (2 ^ cdC n - 1).testBit k) (cdC n) = _
    refine Eq.trans (cnt_congr (q := fun _ => true) (fun k hk => full_bit (cdC n) (by omega) k hk)) ?_
    rw [cnt_all]
    rfl
  | succ i ih =>
    intro hi
    obtain ⟨h1, h2⟩ := ih (by omega)
    have M := fof_MIN (n := n) (D := D) (m := mks n D i) (cnt_bit (by omega))
    have h3 := cnt_clr (m := mks n D i) (by omega) M.1 C6 M.2.1
    have h4 := clr_le (mks n D i) (fof n D (mks n D i))
    exact ⟨by show clr _ _ < _; omega, by show cnt (fun k => (clr _ _).testBit k) _ = _; omega⟩
theorem s_arrange {h : mxH} (W : WF h) {n : Nat → Int32} (A : VR h n) : Ok (fX8_arrange 306 h) (fun o => Fr (fun b => b = 315 ∨ b = 316) h o.2 ∧ ∃ D, DP n D (2 ^ cdC n) ∧ (∀ m, m < 2 ^ cdC n → D m ≤ 30 * m) ∧ o.1 = Int32.ofNat (D (2 ^ cdC n - 1)) ∧ ∀ i, i < cdC n → V o.2 316 i = Int32.ofNat (cd n (fof n D (mks n D i)))) := by
  have C6 := cdC_6 n
  obtain ⟨e64, h64⟩ := full6 (cdC n) (by omega)
  have hp : 0 < 2 ^ cdC n := Nat.pow_pos (by omega)
  have S0 := ar_fw.sl (show 0 < 64 by omega)
  unfold fX8_arrange
  simp only [gI_at W fd_vc, A.1, bN, e64, gR_fw W, show stI h 315 0 0 = some (st h 315 0 0) from stI_at W ar_fw (k := 0) (by omega)]
  refine Ok_b (P := fun h1 => Fr (fun b => b = 315 ∨ b = 316) h h1 ∧ ∃ D, DP n D (2 ^ cdC n) ∧ ∀ i, i < 2 ^ cdC n → V h1 315 i = Int32.ofNat (D i) ∧ D i ≤ 30 * i) (Ok_loop (fun j s => s.1 = Int32.ofNat (1 + j) ∧ Fr (fun b => b = 315 ∨ b = 316) h s.2 ∧ ∃ D, DP n D (1 + j) ∧ ∀ i, i < 1 + j → V s.2 315 i = Int32.ofNat (D i) ∧ D i ≤ 30 * i) (2 ^ cdC n - 1) ⟨rfl, Fr.st W S0 (by omega), fun _ => 0, ⟨rfl, fun m h1 h2 => by omega⟩, fun i hi => ⟨?_, Nat.zero_le _⟩⟩ ?_ ?_ (by unfold mxF; omega)) (fun h1 ⟨F1, D, dp, hD⟩ => ?_)
  · show V (st h 315 0 0) 315 i = _
    rw [show i = 0 by omega, V_st W S0, if_pos ⟨rfl, rfl⟩]; rfl
  · rintro j ⟨s1, h1⟩ hj ⟨e, F, D, dp, hD⟩
    obtain rfl := show s1 = _ from e
    have W1 := F.1
    have hD : ∀ i, i < 1 + j → V h1 315 i = Int32.ofNat (D i) ∧ D i ≤ 30 * i := hD
    have A1 := VR_fr A F (fun b h1 h2 => by omega)
    have hx := hasbit (cdC n) (by omega) (1 + j) (by omega) (by omega)
    have m64 : 1 + j < 64 := by omega
    have M := fof_MIN (n := n) (D := D) (m := 1 + j) hx
    have hc := clr_lt (1 + j) m64 (fof n D (1 + j)) (by have := M.1; omega) M.2.1
    have hb := swb_le (n := n) (D := D) (hD _ hc).2 hc
    have c1 : ¬ Int32.ofNat (2 ^ cdC n - 1) < Int32.ofNat (1 + j) := fun z => by have := (ofN_lt (by omega) (by omega)).mp z; omega
    have S := ar_fw.sl m64
    simp only [if_neg c1, gR_fw W1, bN, lenA_at W1 ar_fw, if_neg (nle m64), isO_V W1, s_firstOf W1 A1 m64 hx hD, s_swapsBehind W1 A1 m64 M.1 (hD _ hc).1, stI_at W1 ar_fw m64, ofN_succ]
    refine Ok_p ⟨_, rfl, rfl, F.trans (Fr.st W1 S (by omega)), fun i => if i = 1 + j then swb n D (1 + j) (fof n D (1 + j)) else D i, ⟨?_, fun m h2 h3 => ?_⟩, fun i hi => ?_⟩
    · show (if 0 = 1 + j then _ else _) = _
      rw [if_neg (by omega)]; exact dp.1
    · have hmm : m < 64 := by omega
      have eD : ∀ i, i < m → D i = if i = 1 + j then swb n D (1 + j) (fof n D (1 + j)) else D i := fun i hi => by rw [if_neg (by omega)]
      rw [← fof_congr hmm eD]
      have M := fof_MIN (n := n) (D := D) (m := m) (hasbit (cdC n) (by omega) m (by omega) h2)
      have hc := clr_lt m hmm (fof n D m) (by have := M.1; omega) M.2.1
      rw [← swb_congr (n := n) (D := D) (E := fun i => if i = 1 + j then swb n D (1 + j) (fof n D (1 + j)) else D i) (eD _ hc)]
      show (if m = 1 + j then _ else _) = _
      by_cases e : m = 1 + j
      · rw [if_pos e, e]
      · rw [if_neg e]; exact dp.2 m h2 (by omega)
    · show V (st _ _ _ _) _ _ = Int32.ofNat (if i = 1 + j then _ else _) ∧ (if i = 1 + j then _ else _) ≤ _
      rw [V_st W1 S]
      by_cases e : i = 1 + j
      · rw [if_pos ⟨rfl, e⟩, if_pos e, e]; exact ⟨rfl, hb⟩
      · rw [if_neg (fun z => e z.2), if_neg e]; exact hD i (by omega)
  · rintro ⟨s1, h1⟩ ⟨e, F, D, dp, hD⟩
    obtain rfl := show s1 = _ from e
    have c1 : Int32.ofNat (2 ^ cdC n - 1) < Int32.ofNat (1 + (2 ^ cdC n - 1)) := (ofN_lt (by omega) (by omega)).mpr (by omega)
    have e1 : 1 + (2 ^ cdC n - 1) = 2 ^ cdC n := by omega
    rw [e1] at dp
    exact Ok_e (a := .inr h1) (if_pos c1) ⟨_, rfl, F, D, dp, fun i hi => hD i (by omega)⟩
  · have fr : ∀ {h2 : mxH}, Fr (fun b => b = 316) h1 h2 → ∀ i, i < 2 ^ cdC n → V h2 315 i = Int32.ofNat (D i) ∧ D i ≤ 30 * i := fun F2 i hi => by
      rw [Fr_V F2 (by omega) (by omega)]; exact hD i hi
    have W1 := F1.1
    have A1 := VR_fr A F1 (fun b h1 h2 => by omega)
    refine Ok_b (P := fun h2 => Fr (fun b => b = 316) h1 h2 ∧ ∀ i, i < cdC n → V h2 316 i = Int32.ofNat (cd n (fof n D (mks n D i)))) (Ok_loop (fun i s => s.1 = Int32.ofNat (mks n D i) ∧ s.2.1 = Int32.ofNat i ∧ Fr (fun b => b = 316) h1 s.2.2 ∧ ∀ a, a < i → V s.2.2 316 a = Int32.ofNat (cd n (fof n D (mks n D a)))) (cdC n) ⟨rfl, rfl, Fr.refl W1, fun a ha => by omega⟩ ?_ ?_ (by unfold mxF; omega)) (fun h2 ⟨F2, v2⟩ => ?_)
    · rintro i ⟨s1, s2, h2⟩ hi ⟨e, e', F, hv⟩
      obtain rfl := show s1 = _ from e
      obtain rfl := show s2 = _ from e'
      have W2 := F.1
      have hv : ∀ a, a < i → V h2 316 a = Int32.ofNat (cd n (fof n D (mks n D a))) := hv
      have A2 := VR_fr A1 F (fun b h1 h2 => by omega)
      obtain ⟨k1, k2⟩ := mks_spec (n := n) (D := D) i (by omega)
      have hx := cnt_bit (m := mks n D i) (c := cdC n) (by omega)
      have M := fof_MIN (n := n) (D := D) (m := mks n D i) hx
      have f6 : fof n D (mks n D i) < 6 := by have := M.1; omega
      have i6' : i < 6 := by omega
      have S := ar_or.sl i6'
      have c1 : ¬ Int32.ofNat (cdC n) ≤ Int32.ofNat i := nle hi (by omega)
      simp only [gI_at W2 fd_vc, bN, A2.1, if_neg c1, if_neg (n6 i6'), isO_V W2, s_firstOf W2 A2 (show mks n D i < 64 by omega) hx (fun a ha => fr F a (by omega)), isCand_k f6, e10, if_false, gR_or W2, gR_ch W2, ldI_at W2 ar_ch f6, A2.2.1 _ M.1, stI_at W2 ar_or i6', clr6 (mks n D i) (by omega) _ f6, ofN_succ]
      refine Ok_p ⟨_, rfl, rfl, rfl, F.trans (Fr.st W2 S rfl), fun a ha => ?_⟩
      show V (st _ _ _ _) _ _ = _
      rw [V_st W2 S]
      by_cases e : a = i
      · rw [if_pos ⟨rfl, e⟩, e]
      · rw [if_neg (fun z => e z.2)]; exact hv a (by omega)
    · rintro ⟨s1, s2, h2⟩ ⟨e, e', F, hv⟩
      obtain rfl := show s2 = _ from e'
      have A2 := VR_fr A1 F (fun b h1 h2 => by omega)
      exact Ok_e (a := .inr h2) (by simp only [gI_at F.1 fd_vc, bN, A2.1, if_pos yle]) ⟨_, rfl, F, hv⟩
    · have W2 := F2.1
      have f1 : 2 ^ cdC n - 1 < 64 := by omega
      simp only [if_neg (ofN_nn (show 2 ^ cdC n - 1 < 2147483648 by omega)), gR_fw W2, bN, lenA_at W2 ar_fw, if_neg (nle f1), ldI_at W2 ar_fw f1]
      refine Ok_p ⟨F1.trans (F2.mono (fun b q => Or.inr q)), D, dp, fun m hm => (hD m hm).2, ?_, v2⟩
      exact (fr F2 _ (by omega)).1
theorem s_vThingOn {h : mxH} (W : WF h) {k : Nat} (hk : k < 6) : fX8_thingOn 306 (Int32.ofNat k) h = some (V h 316 k) := by
  unfold fX8_thingOn
  simp only [isCand_k hk, bN, e10, if_false, gR_or W, ldI_at W ar_or hk]
