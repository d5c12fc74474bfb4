/-! THE PURE SIDE, 19: the merged row -/
/-- an item, told by 20 times its row and its thing -/
def hsG (n : Nat → Int32) (g : Nat) : Bool := decide (n g ≠ -1)
def mcn (n : Nat → Int32) : Nat := cnt (hsG n) 100
def mnr (n : Nat → Int32) (p : Nat) : Nat := nrL (bef n) (hsG n) 100 p
theorem ar_mr : ar 303 100 := ⟨by omega, by omega, rfl, rfl⟩
theorem ar_mt : ar 304 100 := ⟨by omega, by omega, rfl, rfl⟩
theorem ar_tk : ar 305 5 := ⟨by omega, by omega, rfl, rfl⟩
theorem gR_mr {h : mxH} (W : WF h) : gR h 302 1 0 = some 303 := gR_at W ⟨by omega, by omega, rfl, by omega, by decide, rfl, by omega⟩
theorem gR_mt {h : mxH} (W : WF h) : gR h 302 1 1 = some 304 := gR_at W ⟨by omega, by omega, rfl, by omega, by decide, rfl, by omega⟩
theorem gR_tk {h : mxH} (W : WF h) : gR h 302 1 3 = some 305 := gR_at W ⟨by omega, by omega, rfl, by omega, by decide, rfl, by omega⟩
theorem fd_mc : fd 302 1 2 := ⟨by omega, by omega, rfl, by omega, by decide, rfl⟩
theorem isO_M {h : mxH} (W : WF h) : isO h 302 1 = some () := isO_at W ⟨by omega, by omega, rfl⟩
/-- a row whose next item is ahead, as the class looks for it -/
def rwa (n : Nat → Int32) (T : Nat → Nat) (k : Nat) : Int32 × Int32 := fo (fun s r => if mkO n r (T r) ≤ s.2 then s else (Int32.ofNat r, mkO n r (T r))) (-1, -1) k
theorem rwa_spec {n : Nat → Int32} {T : Nat → Nat} : ∀ k, k ≤ 5 → ((rwa n T k) = (-1, -1) ∧ ∀ r, r < k → mkO n r (T r) ≤ -1) ∨ (∃ r, r < k ∧ rwa n T k = (Int32.ofNat r, mkO n r (T r)) ∧ -1 < mkO n r (T r) ∧ (∀ q, q < k → mkO n q (T q) ≤ mkO n r (T r)) ∧ (∀ q, q < r → mkO n q (T q) < mkO n r (T r))) := by
  intro k
  induction k with
  | zero => intro _; exact Or.inl ⟨rfl, fun r hr => by omega⟩
  | succ k ih =>
    intro hk
    have e : rwa n T (k + 1) = if mkO n k (T k) ≤ (rwa n T k).2 then rwa n T k else (Int32.ofNat k, mkO n k (T k)) := rfl
    rw [e]
    rcases ih (by omega) with ⟨h1, h2⟩ | ⟨r, h1, h2, h3, h4, h5⟩
    · rw [h1]
      by_cases c : mkO n k (T k) ≤ (-1 : Int32)
      · rw [if_pos c]
        refine Or.inl ⟨rfl, fun r hr => ?_⟩
        by_cases z : r = k
        · rw [z]; exact c
        · exact h2 r (by omega)
      · rw [if_neg c]
        have c := Int32.not_le.mp c
        refine Or.inr ⟨k, by omega, rfl, c, fun q hq => ?_, fun q hq => ?_⟩
        · by_cases z : q = k
          · rw [z]; exact Int32.le_refl _
          · have := h2 q (by omega)
            simp only [i32_lt, i32_le] at *; omega
        · have := h2 q (by omega)
          simp only [i32_lt, i32_le] at *; omega
    · rw [h2]
      by_cases c : mkO n k (T k) ≤ mkO n r (T r)
      · rw [if_pos c]
        refine Or.inr ⟨r, by omega, rfl, h3, fun q hq => ?_, h5⟩
        by_cases z : q = k
        · rw [z]; exact c
        · exact h4 q (by omega)
      · rw [if_neg c]
        have c := Int32.not_le.mp c
        refine Or.inr ⟨k, by omega, rfl, ?_, fun q hq => ?_, fun q hq => ?_⟩
        · simp only [i32_lt] at *; omega
        · by_cases z : q = k
          · rw [z]; exact Int32.le_refl _
          · have := h4 q (by omega)
            simp only [i32_lt, i32_le] at *; omega
        · have := h4 q (by omega)
          simp only [i32_lt, i32_le] at *; omega
theorem s_rowAheadG {h : mxH} (W : WF h) {r : Nat} {n : Nat → Int32} {T : Nat → Nat} (G : MG n) (R : RB r) (A : RR h r n) (hT : ∀ i, i < 5 → V h 305 i = Int32.ofNat (T i) ∧ T i ≤ 20) {g : Nat → Int32 × Int32} (g0 : g 0 = (-1, -1)) (gs : ∀ k, k < 5 → g (k + 1) = if mkO n k (T k) ≤ (g k).2 then g k else (Int32.ofNat k, mkO n k (T k))) : fX1_rowAhead 302 r h = some (g 5).1 := by
  unfold fX1_rowAhead
  have e0 : ((-1 : Int32), (-1 : Int32), (0 : Int32)) = ((g 0).1, (g 0).2, Int32.ofNat 0) := by rw [g0]; rfl
  rw [e0]
  refine bs (a := (g 5).1) (mxLoop_up (S := fun k => ((g k).1, (g k).2, Int32.ofNat k)) (N := 5) (r := (g 5).1) (fun k hk => ?_) (if_pos yle) (by decide)) rfl
  simp only [if_neg (n5 hk), gR_tk W, bN, ldI_at W ar_tk hk, (hT k hk).1, isO_R W R, s_markOn W G R A hk (hT k hk).2, ofN_succ, gs k hk]
  by_cases c : mkO n k (T k) ≤ (g k).2
  · simp [c]
  · simp [c]
theorem s_rowAhead {h : mxH} (W : WF h) {r : Nat} {n : Nat → Int32} {T : Nat → Nat} (G : MG n) (R : RB r) (A : RR h r n) (hT : ∀ i, i < 5 → V h 305 i = Int32.ofNat (T i) ∧ T i ≤ 20) : fX1_rowAhead 302 r h = some (rwa n T 5).1 :=
  s_rowAheadG W G R A hT (g := rwa n T) rfl (fun _ _ => rfl)
/-! the same row of numbers by items and by rows and things -/
theorem hsG_hs (n : Nat → Int32) {g : Nat} : hsG n g = hs n (g / 20) (g % 20) := by
  unfold hsG hs; rw [show 20 * (g / 20) + g % 20 = g by omega]
theorem pla_bef {n : Nat → Int32} {r s t : Nat} (hs : s < 20) (ht : t < 20) (h : pla n r s < pla n r t) : bef (mkf n r) s t = true := by
  have hne : s ≠ t := fun e => by rw [e] at h; omega
  rcases bef_total (f := mkf n r) hne with q | q
  · exact q
  · have := pla_lt (n := n) ht q; omega
theorem bef_row {n : Nat → Int32} {r s t : Nat} : bef n (20 * r + s) (20 * r + t) = bef (mkf n r) s t := by
  unfold bef mkf
  congr 2
  by_cases c : s < t
  · rw [decide_eq_true c, decide_eq_true (by omega)]
  · rw [decide_eq_false c, decide_eq_false (by omega)]
/-- taken, where T of each row are -/
def tkn (n : Nat → Int32) (T : Nat → Nat) (g : Nat) : Bool := hsG n g && decide (pla n (g / 20) (g % 20) < T (g / 20))
theorem cnt_full {p : Nat → Bool} {n : Nat} (h : n ≤ cnt p n) : ∀ k, k < n → p k = true := by
  induction n with
  | zero => intro k hk; omega
  | succ n ih =>
    have h2 := cnt_le p n
    intro k hk
    by_cases e : p n = true
    · rw [cnt_t e] at h
      by_cases z : k = n
      · rw [z]; exact e
      · exact ih (by omega) k (by omega)
    · rw [cnt_f (by simpa using e)] at h; omega
/-- the head of the row that is ahead goes ahead of all that is left -/
theorem head_first {n : Nat → Int32} {T : Nat → Nat} (G : MG n) {r y : Nat} (hr : r < 5) (hTr : T r < itm n r) (h4 : ∀ q, q < 5 → mkO n q (T q) ≤ mkO n r (T r)) (h5 : ∀ q, q < r → mkO n q (T q) < mkO n r (T r)) (hy : y < 100) (gy : hsG n y = true) (ty : tkn n T y = false) (hne : y ≠ 20 * r + thi n r (T r)) : bef n (20 * r + thi n r (T r)) y = true := by
  obtain ⟨x1, x2, x3⟩ := thi_spec G hr hTr
  have hq : y / 20 < 5 := by omega
  have ht : y % 20 < 20 := by omega
  have gy2 : hs n (y / 20) (y % 20) = true := by rw [← hsG_hs]; exact gy
  have py : T (y / 20) ≤ pla n (y / 20) (y % 20) := by
    unfold tkn at ty
    rw [gy, Bool.true_and] at ty
    simpa using ty
  have hy2 : 20 * (y / 20) + y % 20 = y := by omega
  by_cases c : y / 20 = r
  · rw [← hy2, c, bef_row]
    rw [c] at py gy2
    refine pla_bef x1 ht ?_
    rw [x3]
    by_cases z : pla n r (y % 20) = T r
    · exfalso
      have := thi_of G hr ht gy2
      rw [z] at this
      omega
    · omega
  · have hlt : T (y / 20) < itm n (y / 20) := Nat.lt_of_le_of_lt py (pla_itm G hq ht gy2)
    obtain ⟨z1, z2, z3⟩ := thi_spec G hq hlt
    have e1 : mkO n (y / 20) (T (y / 20)) = n (20 * (y / 20) + thi n (y / 20) (T (y / 20))) := if_pos hlt
    have e2 : mkO n r (T r) = n (20 * r + thi n r (T r)) := if_pos hTr
    have hz : n y ≤ mkO n (y / 20) (T (y / 20)) := by
      rw [e1]
      by_cases q : thi n (y / 20) (T (y / 20)) = y % 20
      · rw [q, hy2]; exact Int32.le_refl _
      · have hpl : pla n (y / 20) (thi n (y / 20) (T (y / 20))) < pla n (y / 20) (y % 20) := by
          rw [z3]
          by_cases w : T (y / 20) = pla n (y / 20) (y % 20)
          · exfalso; rw [← z3] at w; exact q (pla_inj z1 ht w)
          · omega
        have := pla_bef z1 ht hpl
        rcases bef_iff.mp this with w | w
        · unfold mkf at w; rw [hy2] at w
          simp only [i32_lt, i32_le] at *; omega
        · have w1 := w.1
          unfold mkf at w1; rw [hy2] at w1
          rw [w1]; exact Int32.le_refl _
    have h4 := h4 (y / 20) hq
    rw [bef_iff]
    by_cases d : y / 20 < r
    · have h5 := h5 _ d
      rw [e2] at h5
      refine Or.inl ?_
      simp only [i32_lt, i32_le] at *; omega
    · rw [e2] at h4
      by_cases w : n y < n (20 * r + thi n r (T r))
      · exact Or.inl w
      · refine Or.inr ⟨?_, by omega⟩
        simp only [i32_lt, i32_le, i32_eq] at *; omega
/-- the merged row lies there -/
def MR (h : mxH) (n : Nat → Int32) : Prop := V h 302 2 = Int32.ofNat (mcn n) ∧ (∀ p, p < mcn n → V h 303 p = Int32.ofNat (mnr n p / 20)) ∧ (∀ p, p < mcn n → V h 304 p = Int32.ofNat (mnr n p % 20))
theorem MR_fr {P : Nat → Prop} {h h1 : mxH} {n : Nat → Int32} (a : MR h n) (f : Fr P h h1) (hp : ¬ P 302 ∧ ¬ P 303 ∧ ¬ P 304) : MR h1 n := by
  unfold MR
  rw [Fr_V f (by omega) hp.1, Fr_V f (by omega) hp.2.1, Fr_V f (by omega) hp.2.2]
  exact a
set_option maxHeartbeats 2000000 in
theorem s_mergeAll {h : mxH} (W : WF h) {r : Nat} {n : Nat → Int32} (G : MG n) (R : RB r) (A : RR h r n) : Ok (fX1_mergeAll 302 r h) (fun h' => Fr (fun b => 302 ≤ b ∧ b ≤ 305) h h' ∧ MR h' n) := by
  have RL := RB_le R
  unfold fX1_mergeAll
  simp only [gR_tk W, bN]
  refine Ok_b (s_fill W ar_tk) (fun h1 ⟨F1, w1⟩ => ?_)
  have W1 := F1.1
  have S2 := fd_mc.sl
  have W2 := WF_st (x := 0) W1 S2
  have F2 := (F1.mono (Q := fun b => 302 ≤ b ∧ b ≤ 305) (fun b q => by omega)).trans (Fr.st (x := 0) W1 S2 (show 302 ≤ 302 ∧ 302 ≤ 305 by omega))
  simp only [pI_at W1 fd_mc, bN]
  -- how it ends
  have fin : ∀ h3 : mxH, ∀ (m : Nat) (e : Nat → Nat), V h3 302 2 = Int32.ofNat m → (∀ p, p < m → V h3 303 p = Int32.ofNat (e p / 20) ∧ V h3 304 p = Int32.ofNat (e p % 20)) → SE (bef n) (hsG n) 100 m e → MR h3 n := fun h3 m e q1 q2 E => by
    have hm : m = mcn n := SE_cnt (bef_STO n 100) E
    subst hm
    refine ⟨q1, fun p hp => ?_, fun p hp => ?_⟩
    · rw [(q2 p hp).1, SE_nr (bef_STO n 100) E hp]; rfl
    · rw [(q2 p hp).2, SE_nr (bef_STO n 100) E hp]; rfl
  refine Ok_b (P := fun o => ∃ h3, (o = .inl h3 ∨ o = .inr h3) ∧ Fr (fun b => 302 ≤ b ∧ b ≤ 305) h h3 ∧ MR h3 n) (Ok_loopE (fun p s => s.1 = Int32.ofNat p ∧ Fr (fun b => 302 ≤ b ∧ b ≤ 305) h s.2 ∧ ∃ (T : Nat → Nat) (e : Nat → Nat), (∀ i, i < 5 → V s.2 305 i = Int32.ofNat (T i) ∧ T i ≤ itm n i) ∧ V s.2 302 2 = Int32.ofNat p ∧ (∀ q, q < p → V s.2 303 q = Int32.ofNat (e q / 20) ∧ V s.2 304 q = Int32.ofNat (e q % 20)) ∧ SE (bef n) (tkn n T) 100 p e ∧ (∀ x y, x < 100 → y < 100 → tkn n T x = true → hsG n y = true → tkn n T y = false → bef n x y = true)) 100 ⟨rfl, F2, fun _ => 0, fun _ => 0, fun i hi => ⟨by
    show V (st h1 302 2 0) 305 i = _
    rw [V_st_ne (by omega), w1 i hi]; rfl, Nat.zero_le _⟩, by
    show V (st h1 302 2 0) 302 2 = _
    rw [V_st W1 S2, if_pos ⟨rfl, rfl⟩]; rfl, fun q hq => absurd hq (Nat.not_lt_zero _), SE_nil (fun s _ => by unfold tkn; rw [decide_eq_false (Nat.not_lt_zero _), Bool.and_false]), fun x y _ _ q => by unfold tkn at q; rw [decide_eq_false (Nat.not_lt_zero _), Bool.and_false] at q; cases q⟩ ?_) ?_
  · rintro p ⟨s1, h3⟩ hp ⟨e1, F, T, e, hT, hc, he, E, hd⟩
    obtain rfl := show s1 = _ from e1
    have W3 := F.1
    have hT : ∀ i, i < 5 → V h3 305 i = Int32.ofNat (T i) ∧ T i ≤ itm n i := hT
    have hc : V h3 302 2 = Int32.ofNat p := hc
    have he : ∀ q, q < p → V h3 303 q = Int32.ofNat (e q / 20) ∧ V h3 304 q = Int32.ofNat (e q % 20) := he
    have A3 := RR_fr R A F (fun o ho => by omega)
    by_cases c : p = 100
    · subst c
      refine Ok_e (if_pos yle) (Or.inr ⟨_, rfl, h3, Or.inr rfl, F, fin h3 100 e hc he (SE_congr E (fun s hs1 => ?_))⟩)
      have hm := SE_cnt (bef_STO n 100) E
      have := cnt_full (p := tkn n T) (n := 100) (by omega) s hs1
      rw [this]
      unfold tkn at this
      simp only [Bool.and_eq_true] at this
      exact this.1.symm
    · have hp2 : p < 100 := by omega
      have n100 : ¬ (100 : Int32) ≤ Int32.ofNat p := nle (a := 100) hp2
      simp only [if_neg n100, isO_M W3, bN, s_rowAhead W3 G R A3 (fun i hi => ⟨(hT i hi).1, Nat.le_trans (hT i hi).2 (itm_20 n i)⟩)]
      rcases rwa_spec (n := n) (T := T) 5 (Nat.le_refl _) with ⟨q1, q2⟩ | ⟨r', q1, q2, q3, q4, q5⟩
      · rw [q1]
        simp only [isRow_m, bN, if_true]
        refine Ok_p (Or.inr ⟨_, rfl, h3, Or.inl rfl, F, fin h3 p e hc he (SE_congr E (fun s hs1 => ?_))⟩)
        unfold tkn
        cases gs : hsG n s
        · rfl
        · rw [Bool.true_and]
          refine decide_eq_true ?_
          have hq : s / 20 < 5 := by omega
          have gs2 : hs n (s / 20) (s % 20) = true := by rw [← hsG_hs]; exact gs
          have hpl := pla_itm G hq (show s % 20 < 20 by omega) gs2
          by_cases z : T (s / 20) < itm n (s / 20)
          · exfalso
            have := q2 _ hq
            unfold mkO at this
            rw [if_pos z] at this
            obtain ⟨z1, z2, z3⟩ := thi_spec G hq z
            have h0 := MG_nn G (k := 20 * (s / 20) + thi n (s / 20) (T (s / 20))) (by omega) (by simpa [hs] using z2)
            have e1 : (-1 : Int32).toInt = -1 := by decide
            have e0 : (0 : Int32).toInt = 0 := by decide
            simp only [i32_le, e1, e0] at *
            omega
          · omega
      · rw [q2]
        have hTr : T r' < itm n r' := by
          by_cases z : T r' < itm n r'
          · exact z
          · unfold mkO at q3; rw [if_neg z] at q3; exact absurd q3 (by decide)
        obtain ⟨x1, x2, x3⟩ := thi_spec G q1 hTr
        have hT20 : T r' < 20 := Nat.lt_of_lt_of_le hTr (itm_20 n r')
        have S4 := ar_mr.sl hp2
        have W4 := WF_st (x := Int32.ofNat r') W3 S4
        have F4 := F.trans (Fr.st (x := Int32.ofNat r') W3 S4 (show 302 ≤ 303 ∧ 303 ≤ 305 by omega))
        have A4 := RR_fr R A F4 (fun o ho => by omega)
        have S5 := ar_mt.sl hp2
        have W5 := WF_st (x := Int32.ofNat (thi n r' (T r'))) W4 S5
        have F5 := F4.trans (Fr.st (x := Int32.ofNat (thi n r' (T r'))) W4 S5 (show 302 ≤ 304 ∧ 304 ≤ 305 by omega))
        have S6 := ar_tk.sl q1
        have W6 := WF_st (x := Int32.ofNat (T r' + 1)) W5 S6
        have F6 := F5.trans (Fr.st (x := Int32.ofNat (T r' + 1)) W5 S6 (show 302 ≤ 305 ∧ 305 ≤ 305 by omega))
        have S7 := fd_mc.sl
        have e4 : V (st h3 303 p (Int32.ofNat r')) 305 r' = Int32.ofNat (T r') := by rw [V_st_ne (by omega)]; exact (hT r' q1).1
        have e5 : V (st (st h3 303 p (Int32.ofNat r')) 304 p (Int32.ofNat (thi n r' (T r')))) 305 r' = Int32.ofNat (T r') := by rw [V_st_ne (by omega)]; exact e4
        have e6 : V (st (st (st h3 303 p (Int32.ofNat r')) 304 p (Int32.ofNat (thi n r' (T r')))) 305 r' (Int32.ofNat (T r' + 1))) 302 2 = Int32.ofNat p := by rw [V_st_ne (by omega), V_st_ne (by omega), V_st_ne (by omega)]; exact hc
        simp only [isRow_k q1, bN, e10, if_false, gR_mr W3, stI_at W3 ar_mr hp2, gR_mt W4, gR_tk W4, ldI_at W4 ar_tk q1, e4, isO_R W4 R, s_thingOn W4 R q1 hT20, A4.2.2.1 r' (T r') q1 hT20, if_pos hTr, stI_at W4 ar_mt hp2, gR_tk W5, ldI_at W5 ar_tk q1, e5, ofN_succ, stI_at W5 ar_tk q1, gI_at W6 fd_mc, e6, pI_at W6 fd_mc]
        have tk' : ∀ s, s < 100 → (tkn n T s || s == (20 * r' + thi n r' (T r'))) = tkn n (fun i => if i = r' then T r' + 1 else T i) s := fun s hs1 => by
          unfold tkn
          show _ = (hsG n s && decide (pla n (s / 20) (s % 20) < (if s / 20 = r' then T r' + 1 else T (s / 20))))
          by_cases z : s = 20 * r' + thi n r' (T r')
          · have z1 : s / 20 = r' := by omega
            have z2 : s % 20 = thi n r' (T r') := by omega
            rw [hsG_hs, z1, z2, if_pos rfl, x2, x3, decide_eq_true (show T r' < T r' + 1 by omega), z]
            simp
          · have ez : (s == (20 * r' + thi n r' (T r'))) = false := by simpa using z
            rw [ez, Bool.or_false]
            cases gs : hsG n s
            · rfl
            · rw [Bool.true_and, Bool.true_and]
              by_cases w : s / 20 = r'
              · rw [if_pos w, w]
                have gs2 : hs n r' (s % 20) = true := by rw [← w, ← hsG_hs]; exact gs
                have hn : pla n r' (s % 20) ≠ T r' := fun y => by
                  have := thi_of G q1 (show s % 20 < 20 by omega) gs2
                  rw [y] at this; omega
                by_cases y : pla n r' (s % 20) < T r'
                · rw [decide_eq_true y, decide_eq_true (show pla n r' (s % 20) < T r' + 1 by omega)]
                · rw [decide_eq_false y, decide_eq_false (show ¬ pla n r' (s % 20) < T r' + 1 by omega)]
              · rw [if_neg w]
        have gx : hsG n (20 * r' + thi n r' (T r')) = true := by
          rw [hsG_hs, show (20 * r' + thi n r' (T r')) / 20 = r' by omega, show (20 * r' + thi n r' (T r')) % 20 = thi n r' (T r') by omega]; exact x2
        have tx : tkn n T (20 * r' + thi n r' (T r')) = false := by
          unfold tkn
          rw [show (20 * r' + thi n r' (T r')) / 20 = r' by omega, show (20 * r' + thi n r' (T r')) % 20 = thi n r' (T r') by omega, x3, decide_eq_false (by omega), Bool.and_false]
        refine Ok_p (Or.inl ⟨_, rfl, hp2, rfl, F6.trans (Fr.st W6 S7 (show 302 ≤ 302 ∧ 302 ≤ 305 by omega)), (fun i => if i = r' then T r' + 1 else T i), (fun j => if j < p then e j else if j = p then 20 * r' + thi n r' (T r') else e (j - 1)), fun i hi => ?_, ?_, fun q hq => ?_, SE_congr (SE_ins (bef_STO n 100) E (by omega) tx (Nat.le_refl _) (fun j j1 j2 => by omega) ?_) tk', fun x y hx hy kx gy ky => ?_⟩)
        · show V (st _ _ _ _) 305 i = Int32.ofNat (if i = r' then T r' + 1 else T i) ∧ (if i = r' then T r' + 1 else T i) ≤ itm n i
          rw [V_st_ne (by omega), V_st W5 S6]
          by_cases z : i = r'
          · subst z; rw [if_pos ⟨rfl, rfl⟩, if_pos rfl]; exact ⟨rfl, by omega⟩
          · rw [if_neg (fun y => z y.2), if_neg z, V_st_ne (by omega), V_st_ne (by omega)]; exact hT i hi
        · show V (st _ _ _ _) 302 2 = _
          rw [V_st W6 S7, if_pos ⟨rfl, rfl⟩]
        · show V (st _ _ _ _) 303 q = Int32.ofNat ((if q < p then e q else if q = p then 20 * r' + thi n r' (T r') else e (q - 1)) / 20) ∧ V (st _ _ _ _) 304 q = Int32.ofNat ((if q < p then e q else if q = p then 20 * r' + thi n r' (T r') else e (q - 1)) % 20)
          rw [V_st_ne (by omega), V_st_ne (by omega), V_st_ne (by omega), V_st W3 S4, V_st_ne (by omega), V_st_ne (by omega), V_st W4 S5]
          by_cases z : q = p
          · rw [if_pos (show 303 = 303 ∧ q = p from ⟨rfl, z⟩), if_pos (show 304 = 304 ∧ q = p from ⟨rfl, z⟩), if_neg (show ¬ q < p by omega), if_pos z, show (20 * r' + thi n r' (T r')) / 20 = r' by omega, show (20 * r' + thi n r' (T r')) % 20 = thi n r' (T r') by omega]; exact ⟨rfl, rfl⟩
          · rw [if_neg (show ¬ (303 = 303 ∧ q = p) from fun y => z y.2), if_neg (show ¬ (304 = 304 ∧ q = p) from fun y => z y.2), if_pos (show q < p by omega), V_st_ne (by omega)]; exact he q (by omega)
        · by_cases z : p = 0
          · exact Or.inl z
          · refine Or.inr ((bef_STO n 100).asym (E.1 (p - 1) (by omega)).1 (by omega) ?_)
            exact hd _ _ (E.1 (p - 1) (by omega)).1 (by omega) (E.1 (p - 1) (by omega)).2 gx tx
        · rw [← tk' x hx] at kx
          rw [← tk' y hy] at ky
          simp only [Bool.or_eq_true, Bool.or_eq_false_iff, beq_iff_eq, beq_eq_false_iff_ne] at kx ky
          rcases kx with kx | kx
          · exact hd x y hx hy kx gy ky.1
          · rw [kx]; exact head_first G q1 hTr q4 q5 hy gy ky.1 ky.2
  · rintro o ⟨h3, ho, F, M⟩
    rcases ho with rfl | rfl
    · exact Ok_p ⟨F, M⟩
    · exact Ok_p ⟨F, M⟩
