/-! THE PURE SIDE, 40: questions, 6: mean, fill, holds, errors -/
def MSf (h : mxH) (c : Int32) (h' : mxH) : Prop := Fr MX h h' ∧ V h' 319 = fup (V h 319) 3 c ∧ V h' 320 = V h 320
theorem MSf_of {h h1 : mxH} (W : WF h) (F : Fr MF (st h 319 3 0) h1) : MSf h 0 h1 := by
  have M := MS_of (v := 0) (x := 0) W F rfl
  exact ⟨M.1, M.2.1, M.2.2.2⟩
/-! division -/
theorem bnd_le {c : Nat} {q : Int} (hc : c < 2 ^ 53) : FP.Core.encode FP.Core.b64 (FP.Core.bound FP.Core.b64 false c q) ≤ 9218868437227405312 := by
  have e1 : FP.Core.b64.qmax = 971 := by decide
  have e2 : FP.Core.b64.qmin = -1074 := by decide
  have e3 : FP.Core.b64.tails = 4503599627370496 := by decide
  have e4 : FP.Core.b64.exps = 2048 := by decide
  unfold FP.Core.bound
  split
  · rename_i hq
    rw [e1] at hq
    show (if c < FP.Core.b64.tails then FP.Core.assemble FP.Core.b64 false 0 c else FP.Core.assemble FP.Core.b64 false ((q - FP.Core.b64.qmin).toNat + 1) (c - FP.Core.b64.tails)) ≤ _
    unfold FP.Core.assemble
    rw [e2, e3, e4]
    have z : false.toNat = 0 := rfl
    rw [z]
    split
    · omega
    · omega
  · show FP.Core.assemble FP.Core.b64 false (FP.Core.b64.exps - 1) 0 ≤ _
    unfold FP.Core.assemble
    rw [e3, e4]
    have z : false.toNat = 0 := rfl
    rw [z]
    omega
theorem rat_le {c d : Nat} {e : Int} : FP.Core.encode FP.Core.b64 (FP.Core.roundRatio FP.Core.b64 false c d e) ≤ 9218868437227405312 := by
  have e3 : FP.Core.b64.tails = 4503599627370496 := by decide
  have e5 : FP.Core.b64.p = 53 := rfl
  unfold FP.Core.roundRatio
  split
  · decide
  · unfold FP.Core.roundAt FP.Core.settle
    split
    · rename_i h
      exact bnd_le h
    · exact bnd_le (by rw [e3]; omega)
def fpB (k : Nat) : Bool := match FP.Core.decode FP.Core.b64 (FP.i2d (Int32.ofNat k)).toNat with
  | FP.Core.Datum.fin false _ _ => true
  | _ => false
def fpC (k : Nat) : Bool := match FP.Core.decode FP.Core.b64 (FP.i2d (Int32.ofNat k)).toNat with
  | FP.Core.Datum.fin false c _ => c != 0
  | _ => false
theorem fpB_all : ∀ a, a < 100 → ∀ b, b < 100 → fpB (100 * a + b) = true := by decide +kernel
theorem fpC_all : ∀ a, a < 100 → fpC (a + 1) = true := by decide +kernel
theorem fpB_fin {k : Nat} (h : fpB k = true) : ∃ c q, FP.Core.decode FP.Core.b64 (FP.i2d (Int32.ofNat k)).toNat = .fin false c q := by
  unfold fpB at h
  split at h
  · rename_i c q e; exact ⟨c, q, e⟩
  · cases h
theorem fpC_fin {k : Nat} (h : fpC k = true) : ∃ c q, FP.Core.decode FP.Core.b64 (FP.i2d (Int32.ofNat k)).toNat = .fin false c q ∧ c ≠ 0 := by
  unfold fpC at h
  split at h
  · rename_i c q e; exact ⟨c, q, e, by simpa using h⟩
  · cases h
theorem ddiv_ok {s v : Nat} (hs : s < 10000) (h1 : 1 ≤ v) (h2 : v ≤ 100) : ∃ r, mxDdiv (FP.i2d (Int32.ofNat s)) (FP.i2d (Int32.ofNat v)) = some r := by
  obtain ⟨c, q, e⟩ := fpB_fin (by have := fpB_all (s / 100) (by omega) (s % 100) (by omega); rw [show 100 * (s / 100) + s % 100 = s by omega] at this; exact this)
  obtain ⟨d, r, e2, hd⟩ := fpC_fin (by have := fpC_all (v - 1) (by omega); rw [show v - 1 + 1 = v by omega] at this; exact this)
  have key : FP.ddiv (FP.i2d (Int32.ofNat s)) (FP.i2d (Int32.ofNat v)) = UInt64.ofNat (FP.Core.encode FP.Core.b64 (FP.Core.roundRatio FP.Core.b64 false c d (q - r))) := by
    show UInt64.ofNat (FP.Core.div FP.Core.b64 _ _) = _
    unfold FP.Core.div
    rw [e, e2]
    show UInt64.ofNat (FP.Core.encode FP.Core.b64 (if d = 0 then _ else _)) = _
    rw [if_neg hd]; rfl
  have hle := rat_le (c := c) (d := d) (e := q - r)
  unfold mxDdiv
  rw [key]
  generalize FP.Core.encode FP.Core.b64 (FP.Core.roundRatio FP.Core.b64 false c d (q - r)) = x at hle
  refine ⟨_, if_pos ?_⟩
  rw [UInt64.le_iff_toNat_le, UInt64.toNat_and]
  have ex : (UInt64.ofNat x).toNat = x := by
    rw [UInt64.toNat_ofNat']
    exact Nat.mod_eq_of_lt (by omega)
  rw [ex]
  exact Nat.le_trans Nat.and_le_left hle
theorem fill_ok : ∀ v, v < 101 → ((mxFdiv (FP.i2f (Int32.ofNat v)) 1120403456).bind mxF2d).isSome = true := by decide +kernel
section
variable {h : mxH} {n : Nat → Int32} {j : Nat}
theorem mx0_nat (G : MG n) {g : Nat} (hg : g < 100) : ∃ x, x < 100 ∧ mxMax (n g) 0 = Int32.ofNat x := by
  rcases G g hg with e | ⟨m, hm, e⟩
  · rw [e]; exact ⟨0, by omega, by decide⟩
  · rw [e]
    refine ⟨m, hm, ?_⟩
    show mxMax (Int32.ofNat m) (Int32.ofNat 0) = _
    rw [mxMax_N (by omega) (by omega), Nat.max_eq_left (by omega)]
theorem sumR_nat (G : MG n) {i a : Nat} (hi : i < 5) : ∃ x, x ≤ a + 1980 ∧ sumR n i (Int32.ofNat a) = Int32.ofNat x := by
  unfold sumR
  have : ∀ k, k ≤ 20 → ∃ x, x ≤ a + 99 * k ∧ fo (fun s t => s + mxMax (n (20 * i + t)) 0) (Int32.ofNat a) k = Int32.ofNat x := by
    intro k
    induction k with
    | zero => intro _; exact ⟨a, by omega, rfl⟩
    | succ k ih =>
      intro hk
      obtain ⟨x, h1, h2⟩ := ih (by omega)
      obtain ⟨y, h3, h4⟩ := mx0_nat G (g := 20 * i + k) (by omega)
      refine ⟨x + y, by omega, ?_⟩
      show fo (fun s t => s + mxMax (n (20 * i + t)) 0) (Int32.ofNat a) k + mxMax (n (20 * i + k)) 0 = _
      rw [h2, h4, ofN_add]
  obtain ⟨x, h1, h2⟩ := this 20 (Nat.le_refl _)
  exact ⟨x, by omega, h2⟩
theorem sumM_nat0 (G : MG n) : ∃ x, x ≤ 9900 ∧ sumM n = Int32.ofNat x := by
  unfold sumM
  have : ∀ k, k ≤ 5 → ∃ x, x ≤ 1980 * k ∧ fo (fun s i => sumR n i s) 0 k = Int32.ofNat x := by
    intro k
    induction k with
    | zero => intro _; exact ⟨0, by omega, rfl⟩
    | succ k ih =>
      intro hk
      obtain ⟨x, h1, h2⟩ := ih (by omega)
      obtain ⟨y, h3, h4⟩ := sumR_nat G (i := k) (a := x) (by omega)
      refine ⟨y, by omega, ?_⟩
      show sumR n k (fo (fun s i => sumR n i s) 0 k) = _
      rw [h2, h4]
  obtain ⟨x, h1, h2⟩ := this 5 (Nat.le_refl _)
  exact ⟨x, by omega, h2⟩
theorem rdN_100 (n : Nat → Int32) (d : Nat) : rdN n d ≤ 100 := by
  unfold rdN
  have : ∀ k, fo (fun s i => s + min (itm n i) d) 0 k ≤ 20 * k := by
    intro k
    induction k with
    | zero => exact Nat.le_refl _
    | succ k ih =>
      have := itm_20 n k
      show fo (fun s i => s + min (itm n i) d) 0 k + min (itm n k) d ≤ _
      omega
  exact this 5
theorem m_sums (W : WF h) (e : V h 320 = n) : mxLoop (ρ := Int32) (fun s3 : (Int32 × Int32) => (if 5 ≤ s3.2 then some (Sum.inr s3.1) else Option.bind (mxLoop (ρ := Int32) (fun s12 : (Int32 × Int32) => (if 20 ≤ s12.2 then some (Sum.inr s12.1) else Option.bind (isO h 319 10) (fun u21 => Option.bind (fX10_mark 319 s3.2 s12.2 h) (fun v24 => some (Sum.inl (s12.1 + (mxMax v24 0), s12.2 + 1)))))) mxF (s3.1, 0)) (fun r25 : Int32 => some (Sum.inl (r25, s3.2 + 1))))) mxF (0, 0) = some (sumM n) := by
  unfold sumM
  refine mxLoop_up (S := fun k => (fo (fun s i => sumR n i s) 0 k, Int32.ofNat k)) (N := 5) (fun k hk => ?_) (if_pos yle) (by decide)
  simp only [if_neg (n5 hk), fo]
  generalize fo (fun s i => sumR n i s) 0 k = s
  refine bs (a := sumR n k s) ?_ (by rw [ofN_succ])
  unfold sumR
  refine mxLoop_up (S := fun t => (fo (fun s t => s + mxMax (n (20 * k + t)) 0) s t, Int32.ofNat t)) (N := 20) (fun t ht => ?_) (if_pos yle) (by decide)
  simp only [if_neg (n20 ht), isO_X W, bN, m_mark W e hk ht, ofN_succ, fo]
theorem Q_meanMark (W : WF h) (S : SR h 3 n) (G : GD n j) : ∃ v, fX9_meanMark 2 h = some v ∧ ∀ h1, WF h1 → V h1 320 = n → Ok (fX10_meanMark 319 h1) (fun o => o.1 = v ∧ MSf h1 0 o.2) := by
  have r100 := rdN_100 n 20
  obtain ⟨x, hx, ex⟩ := sumM_nat0 G.1
  have eC : fX6_itemsRead 4 20 h = some (Int32.ofNat (rdN n 20)) := s_itemsRead W R4 S.1 (d := 20) (by omega)
  by_cases z : rdN n 20 = 0
  · refine ⟨FP.dconst0, ?_, fun h1 W1 e1 => ?_⟩
    · unfold fX9_meanMark
      simp only [gH0 W, gS0 W, isO_R W R4, bN, eC, z, show Int32.ofNat 0 = (0 : Int32) from rfl, if_true]
    · have W2 := W_thr W1 0
      have e2 := n_thr e1 0
      unfold fX10_meanMark
      simp only [pI_at W1 fd_thr, bN]
      refine Ok_s (m_sums W2 e2) ?_
      simp only [isO_X W2, bN, m_allItems W2 e2, al_eq, z, show Int32.ofNat 0 = (0 : Int32) from rfl, if_true]
      exact Ok_p ⟨rfl, MSf_of W1 (Fr.refl W2)⟩
  · have hx2 : x < 10000 := by omega
    obtain ⟨r, er⟩ := ddiv_ok hx2 (show 1 ≤ rdN n 20 by omega) r100
    have nz : ¬ Int32.ofNat (rdN n 20) = 0 := fun y => by have := (ofN_eq (b := 0) (show rdN n 20 < 2147483648 by omega) (by omega)).mp y; omega
    refine ⟨r, ?_, fun h1 W1 e1 => ?_⟩
    · unfold fX9_meanMark
      simp only [gH0 W, gS0 W, isO_R W R4, bN, eC, if_neg nz, s_sumOfMarks W R4 S.1, ex, er]
    · have W2 := W_thr W1 0
      have e2 := n_thr e1 0
      unfold fX10_meanMark
      simp only [pI_at W1 fd_thr, bN]
      refine Ok_s (m_sums W2 e2) ?_
      simp only [isO_X W2, bN, m_allItems W2 e2, al_eq, if_neg nz, ex, er]
      exact Ok_p ⟨rfl, MSf_of W1 (Fr.refl W2)⟩
theorem Q_fill (W : WF h) (S : SR h 3 n) : ∃ v d, fX9_fill 2 h = some v ∧ mxF2d v = some d ∧ ∀ h1, WF h1 → V h1 320 = n → Ok (fX10_fill 319 h1) (fun o => o.1 = v ∧ MSf h1 0 o.2) := by
  have r100 := rdN_100 n 20
  have eC : fX6_itemsRead 4 20 h = some (Int32.ofNat (rdN n 20)) := s_itemsRead W R4 S.1 (d := 20) (by omega)
  have ok := fill_ok (rdN n 20) (by omega)
  cases ev : mxFdiv (FP.i2f (Int32.ofNat (rdN n 20))) 1120403456 with
  | none => rw [ev] at ok; cases ok
  | some v =>
    rw [ev] at ok
    have ok : (mxF2d v).isSome = true := ok
    cases ed : mxF2d v with
    | none => rw [ed] at ok; cases ok
    | some d =>
      refine ⟨v, d, ?_, ed, fun h1 W1 e1 => ?_⟩
      · unfold fX9_fill
        simp only [gH0 W, gS0 W, isO_R W R4, bN, eC, ev]
      · have W2 := W_thr W1 0
        have e2 := n_thr e1 0
        unfold fX10_fill
        simp only [pI_at W1 fd_thr, isO_X W2, bN, m_allItems W2 e2, al_eq, ev]
        exact Ok_p ⟨rfl, MSf_of W1 (Fr.refl W2)⟩
end
