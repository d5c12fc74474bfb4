/-! THE PURE SIDE, 33: the reference: swaps, the order with the fewest -/
theorem modsub (x F : Nat) : x - x / F * F = x % F := by
  have h1 := Nat.div_add_mod x F
  have h2 := Nat.mul_comm F (x / F)
  omega
theorem nz_N {a : Nat} (h : 0 < a) (ha : a < 2147483648) : mxNz (Int32.ofNat a) = some () := by
  unfold mxNz
  exact if_neg (fun z => by have := (ofN_eq (b := 0) ha (by omega)).mp z; omega)
theorem zero_or6 : ∀ m, m < 64 → ∀ k, k < 6 → ((Int32.ofNat m >>> (Int32.ofNat k &&& 31)) &&& 1) = 0 ∨ ((Int32.ofNat m >>> (Int32.ofNat k &&& 31)) &&& 1) = 1 := by decide +kernel
theorem e01 : ((0 : Int32) = 1) = False := eq_false (by decide)
theorem m_laysOrder {h : mxH} {n : Nat → Int32} (W : WF h) (C : CR h n) {r : Nat} (hr : r < fct (cdC n)) : Ok (fX10_laysOrder 319 (Int32.ofNat r) (Int32.ofNat (cdC n)) (Int32.ofNat (fct (cdC n))) h) (fun h' => Fr (fun b => b = 329) h h' ∧ ∀ i, i < cdC n → V h' 329 i = Int32.ofNat (cd n (oe (cdC n) r i))) := by
  have C6 := cdC_6 n
  have hc : cdC n < 7 := by omega
  unfold fX10_laysOrder
  refine Ok_b (P := fun h' => Fr (fun b => b = 329) h h' ∧ ∀ i, i < cdC n → V h' 329 i = Int32.ofNat (cd n (oe (cdC n) r i))) (Ok_loop (fun i s => (∃ w, s.1 = Int32.ofNat w ∧ w < 64 ∧ ∀ k, k < cdC n → w.testBit k = !(dsq (cdC n) r i).1.testBit k) ∧ s.2.1 = Int32.ofNat (dsq (cdC n) r i).2 ∧ s.2.2.1 = Int32.ofNat (fct (cdC n - i)) ∧ s.2.2.2.1 = Int32.ofNat i ∧ Fr (fun b => b = 329) h s.2.2.2.2 ∧ ∀ a, a < i → V s.2.2.2.2 329 a = Int32.ofNat (cd n (oe (cdC n) r a))) (cdC n) ⟨⟨0, rfl, by omega, fun k hk => ?_⟩, rfl, rfl, rfl, Fr.refl W, fun a ha => by omega⟩ ?_ ?_ (by unfold mxF; omega)) (fun h' H => Ok_p H)
  · show (0 : Nat).testBit k = !(2 ^ cdC n - 1).testBit k
    rw [Nat.zero_testBit, full_bit _ hc k hk]; rfl
  · rintro i ⟨s1, s2, s3, s4, h1⟩ hi ⟨⟨w, ew, hw, hb⟩, e2, e3, e4, F, hv⟩
    obtain rfl := show s1 = _ from ew
    obtain rfl := show s2 = _ from e2
    obtain rfl := show s3 = _ from e3
    obtain rfl := show s4 = _ from e4
    have F : Fr (fun b => b = 329) h h1 := F
    have hv : ∀ a, a < i → V h1 329 a = Int32.ofNat (cd n (oe (cdC n) r a)) := hv
    have W1 := F.1
    have C1 := CR_fr C F (by omega)
    obtain ⟨h2, h3, h4⟩ := dsq_ok hc hr i (by omega)
    obtain ⟨o1, o2, o3⟩ := oe_spec hc hr hi
    have du := dsq_u (cdC n) r i
    have dx := dsq_x (cdC n) r i
    have q1 := dsq_q hc hr hi
    have f720 := fct_6 (cdC n - i) (by omega)
    have f720b := fct_6 (cdC n - 1 - i) (by omega)
    have fp := fct_pos (cdC n - 1 - i)
    have fe : fct (cdC n - i) = (cdC n - i) * fct (cdC n - 1 - i) := by
      rw [show cdC n - i = (cdC n - 1 - i) + 1 by omega]; rfl
    have fd : fct (cdC n - i) / (cdC n - i) = fct (cdC n - 1 - i) := by
      rw [fe, Nat.mul_div_cancel_left _ (by omega)]
    have hp2 := (full6 _ hc).2
    generalize (dsq (cdC n) r i).1 = u at *
    generalize (dsq (cdC n) r i).2 = x at *
    have ho : oe (cdC n) r i < 6 := by omega
    have hq : x / fct (cdC n - 1 - i) * fct (cdC n - 1 - i) ≤ x := Nat.div_mul_le_self _ _
    simp only [if_neg (nle hi (by omega)), sub_N (show i ≤ cdC n by omega) (show cdC n < 2147483648 by omega), nz_N (show 0 < cdC n - i by omega) (show cdC n - i < 2147483648 by omega), bN, div_N (show fct (cdC n - i) < 2147483648 by omega) (show 0 < cdC n - i by omega) (show cdC n - i < 2147483648 by omega), fd, nz_N fp (show fct (cdC n - 1 - i) < 2147483648 by omega), div_N (show x < 2147483648 by omega) fp (show fct (cdC n - 1 - i) < 2147483648 by omega), ofN_mul, sub_N hq (show x < 2147483648 by omega), modsub, ofN_succ]
    refine Ok_s (a := Int32.ofNat (oe (cdC n) r i)) (mxLoop_find (S := fun k => (Int32.ofNat (x / fct (cdC n - 1 - i) - cnt (fun k => u.testBit k) k), Int32.ofNat k)) (K := oe (cdC n) r i) (fun k hk => ?_) ?_ (by unfold mxF; omega)) ?_
    · have k6 : k < 6 := by omega
      have hbit := bit6 w hw k k6
      rw [hb k (by omega)] at hbit
      cases b : u.testBit k
      · rw [b] at hbit
        have cs : cnt (fun k => u.testBit k) (k + 1) = cnt (fun k => u.testBit k) k := cnt_f (p := fun k => u.testBit k) b
        have h1' := of_decide_eq_true hbit
        simp only [h1', if_true, e10, if_false, bN, Int32.sub_zero, ofN_succ, cs]
      · rw [b] at hbit
        have cs : cnt (fun k => u.testBit k) (k + 1) = cnt (fun k => u.testBit k) k + 1 := cnt_t (p := fun k => u.testBit k) b
        have hlt := cnt_lt_of (p := fun k => u.testBit k) hk b
        rw [o3] at hlt
        have h1' : ¬ ((Int32.ofNat w >>> (Int32.ofNat k &&& 31)) &&& 1) = 1 := of_decide_eq_false hbit
        have h0' : ((Int32.ofNat w >>> (Int32.ofNat k &&& 31)) &&& 1) = 0 := by
          have z := zero_or6 w hw k k6
          rcases z with z | z
          · exact z
          · exact absurd z h1'
        have c0 : ¬ Int32.ofNat (x / fct (cdC n - 1 - i) - cnt (fun k => u.testBit k) k) ≤ 0 := nle (b := 0) (by omega) (by omega)
        simp only [h0', e01, if_false, if_true, if_neg c0, bN, ofN_succ, cs]
        rw [ofN_pred (by omega) (by omega), show x / fct (cdC n - 1 - i) - cnt (fun k => u.testBit k) k - 1 = x / fct (cdC n - 1 - i) - (cnt (fun k => u.testBit k) k + 1) by omega]
    · have hbit := bit6 w hw _ ho
      rw [hb _ o1, o2] at hbit
      have h1' : ¬ ((Int32.ofNat w >>> (Int32.ofNat (oe (cdC n) r i) &&& 31)) &&& 1) = 1 := of_decide_eq_false hbit
      rw [o3, Nat.sub_self]
      simp only [if_neg h1']
      exact if_pos yle
    · have S := ar_ord.sl (show i < 6 by omega)
      simp only [gM11 W1, gM10 W1, bN, ldI_at W1 ar_cnd ho, C1 _ o1, stI_at W1 ar_ord (show i < 6 by omega), (or6 w hw _ ho).1]
      refine Ok_p ⟨_, rfl, ⟨_, rfl, (or6 w hw _ ho).2, fun k hk => ?_⟩, ?_, ?_, rfl, F.trans (Fr.st W1 S rfl), fun a ha => ?_⟩
      · rw [or6b w hw _ ho k (by omega), hb k hk, du, clr_bit u (by omega) _ ho k (by omega)]
        cases u.testBit k <;> cases (k == oe (cdC n) r i) <;> rfl
      · show Int32.ofNat (x % fct (cdC n - 1 - i)) = Int32.ofNat _
        rw [dx]
      · show Int32.ofNat (fct (cdC n - 1 - i)) = Int32.ofNat (fct (cdC n - (i + 1)))
        rw [show cdC n - (i + 1) = cdC n - 1 - i by omega]
      · show V (st _ _ _ _) _ _ = _
        rw [V_st W1 S]
        by_cases y : a = i
        · rw [if_pos ⟨rfl, y⟩, y]
        · rw [if_neg (fun z => y z.2)]; exact hv a (by omega)
  · rintro ⟨s1, s2, s3, s4, h1⟩ ⟨-, -, -, e4, F, hv⟩
    obtain rfl := show s4 = _ from e4
    have F : Fr (fun b => b = 329) h h1 := F
    exact Ok_e (a := .inr h1) (if_pos yle) ⟨h1, rfl, F, hv⟩
theorem m_swapsOf {h : mxH} {n : Nat → Int32} (W : WF h) (e : V h 320 = n) {r : Nat} (hr : r < fct (cdC n)) (hv : ∀ i, i < cdC n → V h 329 i = Int32.ofNat (cd n (oe (cdC n) r i))) : fX10_swapsOf 319 (Int32.ofNat (cdC n)) h = some (Int32.ofNat (cos n r (cdC n))) := by
  have C6 := cdC_6 n
  have hc : cdC n < 7 := by omega
  have key : Ok (fX10_swapsOf 319 (Int32.ofNat (cdC n)) h) (fun o => o = Int32.ofNat (cos n r (cdC n))) := by
    unfold fX10_swapsOf
    refine Ok_b (P := fun o => o = Int32.ofNat (cos n r (cdC n))) (Ok_loop (fun i s => s.2 = Int32.ofNat i ∧ ∃ a, s.1 = Int32.ofNat a ∧ a + cos n r (cdC n - i) = cos n r (cdC n)) (cdC n) ⟨rfl, 0, rfl, by rw [Nat.zero_add]; rfl⟩ ?_ ?_ (by unfold mxF; omega)) (fun o H => Ok_p H)
    · rintro i ⟨s1, s2⟩ hi ⟨e1, a, e2, ha⟩
      obtain rfl := show s2 = _ from e1
      obtain rfl := show s1 = _ from e2
      obtain ⟨o1, o2, o3⟩ := oe_spec hc hr hi
      simp only [if_neg (nle hi (by omega)), ofN_succ]
      refine Ok_b (P := fun o => o = Int32.ofNat (a + ts (cdC n) r (fun k => pf n k (oe (cdC n) r i)) (cdC n - (i + 1)))) (Ok_loop (fun j s => s.2 = Int32.ofNat (i + 1 + j) ∧ ∃ b, s.1 = Int32.ofNat b ∧ b + ts (cdC n) r (fun k => pf n k (oe (cdC n) r i)) (cdC n - (i + 1 + j)) = a + ts (cdC n) r (fun k => pf n k (oe (cdC n) r i)) (cdC n - (i + 1))) (cdC n - (i + 1)) ⟨rfl, a, rfl, rfl⟩ ?_ ?_ (by unfold mxF; omega)) (fun o H => Ok_p ⟨_, rfl, rfl, _, H, ?_⟩)
      · rintro j ⟨s1, s2⟩ hj ⟨e1, b, e2, hb⟩
        obtain rfl := show s2 = _ from e1
        obtain rfl := show s1 = _ from e2
        have hij : i + 1 + j < cdC n := by omega
        obtain ⟨p1, p2, p3⟩ := oe_spec hc hr hij
        have ep : fX10_preferring 319 (Int32.ofNat (cd n (oe (cdC n) r (i + 1 + j)))) (Int32.ofNat (cd n (oe (cdC n) r i))) h = some (Int32.ofNat (pf n (oe (cdC n) r (i + 1 + j)) (oe (cdC n) r i))) := m_preferring W e (cd_spec p1).1 (cd_spec o1).1
        simp only [if_neg (nle hij (by omega)), gM11 W, bN, ldI_at W ar_ord (show i + 1 + j < 6 by omega), ldI_at W ar_ord (show i < 6 by omega), hv _ hij, hv _ hi, isO_X W, ep, ofN_add, ofN_succ]
        refine Ok_p ⟨_, rfl, rfl, _, rfl, ?_⟩
        have et : ts (cdC n) r (fun k => pf n k (oe (cdC n) r i)) (cdC n - (i + 1 + j)) = pf n (oe (cdC n) r (i + 1 + j)) (oe (cdC n) r i) + ts (cdC n) r (fun k => pf n k (oe (cdC n) r i)) (cdC n - (i + 1 + (j + 1))) := by
          rw [show cdC n - (i + 1 + j) = (cdC n - (i + 1 + (j + 1))) + 1 by omega]
          show pf n (oe (cdC n) r (cdC n - 1 - (cdC n - (i + 1 + (j + 1))))) (oe (cdC n) r i) + _ = _
          rw [show cdC n - 1 - (cdC n - (i + 1 + (j + 1))) = i + 1 + j by omega]
        rw [et] at hb
        omega
      · rintro ⟨s1, s2⟩ ⟨e1, b, e2, hb⟩
        obtain rfl := show s2 = _ from e1
        obtain rfl := show s1 = _ from e2
        rw [show cdC n - (i + 1 + (cdC n - (i + 1))) = 0 by omega] at hb
        refine Ok_e (a := .inr (Int32.ofNat b)) (if_pos (by rw [show i + 1 + (cdC n - (i + 1)) = cdC n by omega]; exact yle)) ⟨Int32.ofNat b, rfl, ?_⟩
        rw [← hb]; rfl
      · have et := ts_eq (g := fun k => pf n k (oe (cdC n) r i)) hc hr (cdC n - (i + 1)) (by omega)
        rw [et]
        have ec : cos n r (cdC n - i) = bsm (dsq (cdC n) r (cdC n - (cdC n - (i + 1)))).1 (fun j => pf n j (oe (cdC n) r i)) (cdC n) + cos n r (cdC n - (i + 1)) := by
          rw [show cdC n - i = (cdC n - (i + 1)) + 1 by omega]
          show bsm (dsq (cdC n) r (cdC n - (cdC n - (i + 1)))).1 (fun j => pf n j (oe (cdC n) r (cdC n - 1 - (cdC n - (i + 1))))) (cdC n) + _ = _
          rw [show cdC n - 1 - (cdC n - (i + 1)) = i by omega]
        rw [ec] at ha
        omega
    · rintro ⟨s1, s2⟩ ⟨e1, a, e2, ha⟩
      obtain rfl := show s2 = _ from e1
      obtain rfl := show s1 = _ from e2
      rw [Nat.sub_self] at ha
      refine Ok_e (a := .inr (Int32.ofNat a)) (if_pos yle) ⟨Int32.ofNat a, rfl, ?_⟩
      rw [← ha]; rfl
  obtain ⟨o, e1, e2⟩ := key
  rw [e1, e2]
theorem cos_b {n : Nat → Int32} {r : Nat} : ∀ k, cos n r k ≤ 30 * k := by
  intro k
  induction k with
  | zero => exact Nat.le_refl _
  | succ k ih =>
    have C6 := cdC_6 n
    have hb : ∀ u e c, bsm u (fun j => pf n j e) c ≤ 5 * c := fun u e c => by
      induction c with
      | zero => exact Nat.le_refl _
      | succ c ih =>
        show bsm u (fun j => pf n j e) c + (if u.testBit c then pf n c e else 0) ≤ _
        have := pf_5 n c e
        split <;> omega
    have := hb (dsq (cdC n) r (cdC n - k)).1 (oe (cdC n) r (cdC n - 1 - k)) (cdC n)
    show bsm (dsq (cdC n) r (cdC n - k)).1 (fun j => pf n j (oe (cdC n) r (cdC n - 1 - k))) (cdC n) + cos n r k ≤ _
    omega
theorem m_findsLeast {h : mxH} {n : Nat → Int32} {D : Nat → Nat} (W : WF h) (e : V h 320 = n) (C : CR h n) (dp : DP n D (2 ^ cdC n)) : Ok (fX10_findsLeast 319 (Int32.ofNat (cdC n)) h) (fun o => o.1 = Int32.ofNat (D (2 ^ cdC n - 1)) ∧ Fr (fun b => b = 329 ∨ b = 330) h o.2 ∧ ∀ i, i < cdC n → V o.2 330 i = Int32.ofNat (cd n (fof n D (mks n D i)))) := by
  have C6 := cdC_6 n
  have hc : cdC n < 7 := by omega
  have f720 := fct_6 (cdC n) hc
  have cb : ∀ r, cos n r (cdC n) ≤ 180 := fun r => by have := cos_b (n := n) (r := r) (cdC n); omega
  unfold fX10_findsLeast
  refine Ok_s (a := Int32.ofNat (fct (cdC n))) ?_ ?_
  · refine (mxLoop_up (S := fun j => (Int32.ofNat (fct (1 + j)), Int32.ofNat (2 + j))) (N := cdC n - 1) (r := Int32.ofNat (fct (1 + (cdC n - 1)))) (fun j hj => ?_) ?_ (by unfold mxF; omega)).trans ?_
    · have c1 : ¬ Int32.ofNat (cdC n) < Int32.ofNat (2 + j) := fun z => by have := (ofN_lt (by omega) (by omega)).mp z; omega
      simp only [if_neg c1, ofN_mul, ofN_succ]
      have ef : fct (1 + (j + 1)) = fct (1 + j) * (2 + j) := by
        show (1 + j + 1) * fct (1 + j) = _
        rw [Nat.mul_comm, show 1 + j + 1 = 2 + j by omega]
      rw [ef]; rfl
    · exact if_pos ((ofN_lt (by omega) (by omega)).mpr (by omega))
    · by_cases z : cdC n = 0
      · rw [z]; rfl
      · rw [show 1 + (cdC n - 1) = cdC n by omega]
  · have cp : ∀ h1, Fr (fun b => b = 329 ∨ b = 330) h h1 → Ok (mxLoop (ρ := mxH) (fun s32 : (Int32 × mxH) => (if (Int32.ofNat (cdC n)) ≤ s32.1 then some (Sum.inr s32.2) else Option.bind (gR s32.2 319 10 12) (fun r41 => Option.bind (gR s32.2 319 10 11) (fun r43 => Option.bind (ldI s32.2 r43 s32.1) (fun v45 => Option.bind (stI s32.2 r41 s32.1 v45) (fun h47 => some (Sum.inl (s32.1 + 1, h47)))))))) mxF (0, h1)) (fun h2 => Fr (fun b => b = 330) h1 h2 ∧ ∀ i, i < cdC n → V h2 330 i = V h1 329 i) := fun h1 F1 => by
      refine Ok_loop (fun k s => s.1 = Int32.ofNat k ∧ Fr (fun b => b = 330) h1 s.2 ∧ ∀ i, i < k → V s.2 330 i = V h1 329 i) (cdC n) ⟨rfl, Fr.refl F1.1, fun i hi => by omega⟩ ?_ ?_ (by unfold mxF; omega)
      · rintro k ⟨s1, h2⟩ hk ⟨e1, F, hv⟩
        obtain rfl := show s1 = _ from e1
        have F : Fr (fun b => b = 330) h1 h2 := F
        have hv : ∀ i, i < k → V h2 330 i = V h1 329 i := hv
        have W2 := F.1
        have S := ar_lst.sl (show k < 6 by omega)
        simp only [if_neg (nle hk (by omega)), gM11 W2, gM12 W2, bN, ldI_at W2 ar_ord (show k < 6 by omega), stI_at W2 ar_lst (show k < 6 by omega), ofN_succ]
        refine Ok_p ⟨_, rfl, rfl, F.trans (Fr.st W2 S rfl), fun i hi => ?_⟩
        show V (st _ _ _ _) _ _ = _
        rw [V_st W2 S]
        by_cases y : i = k
        · rw [if_pos ⟨rfl, y⟩, y, Fr_V F (by omega) (by omega)]
        · rw [if_neg (fun z => y z.2)]; exact hv i (by omega)
      · rintro ⟨s1, h2⟩ ⟨e1, F, hv⟩
        obtain rfl := show s1 = _ from e1
        have F : Fr (fun b => b = 330) h1 h2 := F
        exact Ok_e (a := .inr h2) (if_pos yle) ⟨h2, rfl, F, hv⟩
    refine Ok_b (P := fun o : Int32 × mxH => o.1 = Int32.ofNat (D (2 ^ cdC n - 1)) ∧ Fr (fun b => b = 329 ∨ b = 330) h o.2 ∧ ∀ i, i < cdC n → V o.2 330 i = Int32.ofNat (cd n (fof n D (mks n D i)))) (Ok_loop (fun r s => s.2.1 = Int32.ofNat r ∧ Fr (fun b => b = 329 ∨ b = 330) h s.2.2 ∧ ((r = 0 ∧ s.1 = -1) ∨ ∃ r0, r0 < r ∧ s.1 = Int32.ofNat (cos n r0 (cdC n)) ∧ (∀ i, i < cdC n → V s.2.2 330 i = Int32.ofNat (cd n (oe (cdC n) r0 i))) ∧ ∀ q, q < r → cos n r0 (cdC n) ≤ cos n q (cdC n) ∧ (q < r0 → cos n r0 (cdC n) < cos n q (cdC n)))) (fct (cdC n)) ⟨rfl, Fr.refl W, Or.inl ⟨rfl, rfl⟩⟩ ?_ ?_ (by unfold mxF; omega)) (fun o H => Ok_p H)
    · rintro r ⟨s1, s2, h1⟩ hr ⟨e1, F, H⟩
      obtain rfl := show s2 = _ from e1
      have F : Fr (fun b => b = 329 ∨ b = 330) h h1 := F
      have H : (r = 0 ∧ s1 = -1) ∨ ∃ r0, r0 < r ∧ s1 = Int32.ofNat (cos n r0 (cdC n)) ∧ (∀ i, i < cdC n → V h1 330 i = Int32.ofNat (cd n (oe (cdC n) r0 i))) ∧ ∀ q, q < r → cos n r0 (cdC n) ≤ cos n q (cdC n) ∧ (q < r0 → cos n r0 (cdC n) < cos n q (cdC n)) := H
      have W1 := F.1
      simp only [if_neg (nle hr (by omega)), isO_X W1, bN]
      refine Ok_b (m_laysOrder W1 (CR_fr C F (by omega)) hr) (fun h2 ⟨F2, v2⟩ => ?_)
      have W2 := F2.1
      have F2' := F.trans (F2.mono (Q := fun b => b = 329 ∨ b = 330) (fun b z => Or.inl z))
      have fin : ∀ h3, Fr (fun b => b = 330) h2 h3 → (∀ i, i < cdC n → V h3 330 i = V h2 329 i) → (∀ q, q < r → cos n r (cdC n) < cos n q (cdC n)) → ∃ s', (Sum.inl (Int32.ofNat (cos n r (cdC n)), Int32.ofNat (r + 1), h3) : (Int32 × Int32 × mxH) ⊕ (Int32 × mxH)) = .inl s' ∧ s'.2.1 = Int32.ofNat (r + 1) ∧ Fr (fun b => b = 329 ∨ b = 330) h s'.2.2 ∧ ((r + 1 = 0 ∧ s'.1 = -1) ∨ ∃ r0, r0 < r + 1 ∧ s'.1 = Int32.ofNat (cos n r0 (cdC n)) ∧ (∀ i, i < cdC n → V s'.2.2 330 i = Int32.ofNat (cd n (oe (cdC n) r0 i))) ∧ ∀ q, q < r + 1 → cos n r0 (cdC n) ≤ cos n q (cdC n) ∧ (q < r0 → cos n r0 (cdC n) < cos n q (cdC n))) := fun h3 F3 v3 hq => by
        refine ⟨_, rfl, rfl, F2'.trans (F3.mono (fun b z => Or.inr z)), Or.inr ⟨r, by omega, rfl, fun i hi => ?_, fun q hq2 => ?_⟩⟩
        · show V h3 330 i = _
          rw [v3 i hi, v2 i hi]
        · by_cases y : q = r
          · rw [y]; exact ⟨Nat.le_refl _, fun z => by omega⟩
          · have := hq q (by omega); exact ⟨by omega, fun _ => this⟩
      simp only [isO_X W2, bN, m_swapsOf W2 (fr_now F2' (by omega) e) hr v2, ofN_succ]
      rcases H with ⟨r0, em⟩ | ⟨r0, hr0, es, hv, hmin⟩
      · rw [em, if_pos rfl]
        obtain ⟨h3, eh, F3, v3⟩ := cp h2 F2'
        rw [eh]
        exact Ok_p (fin h3 F3 v3 (fun q hq => by omega))
      · rw [es, if_neg (ofN_nm (by have := cb r0; omega))]
        by_cases c : cos n r (cdC n) < cos n r0 (cdC n)
        · rw [if_pos ((ofN_lt (by have := cb r; omega) (by have := cb r0; omega)).mpr c)]
          obtain ⟨h3, eh, F3, v3⟩ := cp h2 F2'
          rw [eh]
          exact Ok_p (fin h3 F3 v3 (fun q hq => by have := (hmin q hq).1; omega))
        · rw [if_neg (fun z => c ((ofN_lt (by have := cb r; omega) (by have := cb r0; omega)).mp z))]
          refine Ok_p ⟨_, rfl, rfl, F2', Or.inr ⟨r0, by omega, rfl, fun i hi => ?_, fun q hq2 => ?_⟩⟩
          · show V h2 330 i = _
            rw [Fr_V F2 (by omega) (by omega)]; exact hv i hi
          · by_cases y : q = r
            · rw [y]; exact ⟨by omega, fun z => by omega⟩
            · exact hmin q (by omega)
    · rintro ⟨s1, s2, h1⟩ ⟨e1, F, H⟩
      obtain rfl := show s2 = _ from e1
      have F : Fr (fun b => b = 329 ∨ b = 330) h h1 := F
      have H : (fct (cdC n) = 0 ∧ s1 = -1) ∨ ∃ r0, r0 < fct (cdC n) ∧ s1 = Int32.ofNat (cos n r0 (cdC n)) ∧ (∀ i, i < cdC n → V h1 330 i = Int32.ofNat (cd n (oe (cdC n) r0 i))) ∧ ∀ q, q < fct (cdC n) → cos n r0 (cdC n) ≤ cos n q (cdC n) ∧ (q < r0 → cos n r0 (cdC n) < cos n q (cdC n)) := H
      have fp := fct_pos (cdC n)
      rcases H with ⟨z, -⟩ | ⟨r0, hr0, es, hv, hmin⟩
      · omega
      · have hR := rnk_lt (n := n) (D := D) (cdC n) (Nat.le_refl _)
        have e1 := cos_rnk (n := n) (D := D) dp (cdC n) (Nat.le_refl _)
        rw [Nat.sub_self] at e1
        have e2 := cos_le (n := n) (D := D) dp hr0 (cdC n) (Nat.le_refl _)
        rw [Nat.sub_self] at e2
        have e2 : D (2 ^ cdC n - 1) ≤ cos n r0 (cdC n) := e2
        have e1 : cos n (rnk n D (cdC n)) (cdC n) = D (2 ^ cdC n - 1) := e1
        have hm := hmin _ hR
        have er : r0 = rnk n D (cdC n) := by
          by_cases c : rnk n D (cdC n) < r0
          · have := hm.2 c; omega
          · by_cases c2 : r0 < rnk n D (cdC n)
            · have := cos_gt (n := n) (D := D) dp hr0 (cdC n) (Nat.le_refl _) (by rw [Nat.sub_self]; rfl) (by rw [Nat.sub_self]; exact c2)
              rw [Nat.sub_self] at this
              have this : D (2 ^ cdC n - 1) < cos n r0 (cdC n) := this
              omega
            · omega
        refine Ok_e (a := .inr (s1, h1)) (if_pos yle) ⟨(s1, h1), rfl, ?_, F, fun i hi => ?_⟩
        · show s1 = _
          rw [es, er, e1]
        · show V h1 330 i = _
          rw [hv i hi, er, (dsq_rnk i (by omega)).2 hi]
