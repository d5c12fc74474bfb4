/-! THE PURE SIDE, 64: the sort -/
section
variable {a N K : Nat} {h0 h : mxH} {f F : Nat → Int32}
theorem pv_all : ∀ n, n < 61 → 44 ≤ n → (((Int32.ofNat n >>> ((3 : Int32) &&& 31)) * 3) + 3) = Int32.ofNat (n / 8 * 3 + 3) ∧ mxUshr (Int32.ofNat (n / 8 * 3 + 3) + Int32.ofNat (n - 1 - (n / 8 * 3 + 3))) 1 = Int32.ofNat ((n - 1) / 2) ∧ mxUshr (Int32.ofNat (n / 8 * 3 + 3) + Int32.ofNat ((n - 1) / 2)) 1 = Int32.ofNat ((n / 8 * 3 + 3 + (n - 1) / 2) / 2) ∧ mxUshr (Int32.ofNat ((n - 1) / 2) + Int32.ofNat (n - 1 - (n / 8 * 3 + 3))) 1 = Int32.ofNat (((n - 1) / 2 + (n - 1 - (n / 8 * 3 + 3))) / 2) := by decide +kernel
theorem pv_En {n : Nat} (h1 : 44 ≤ n) (h2 : n < 61) : En n (n / 8 * 3 + 3) ((n / 8 * 3 + 3 + (n - 1) / 2) / 2) ((n - 1) / 2) (((n - 1) / 2 + (n - 1 - (n / 8 * 3 + 3))) / 2) (n - 1 - (n / 8 * 3 + 3)) := by
  unfold En; omega
/-- one turn from its begin -/
theorem p_turn {n j : Nat} (S : St a N K h0 h F) (hn : n ≤ N) (n1 : 44 ≤ n) (d : Di N F) (hj : j < 20) : Ok (Option.bind (some ((((Int32.ofNat n - (0 : Int32)) >>> ((3 : Int32) &&& 31)) * 3) + 3)) (fun v1 => Option.bind (some (mxUshr (((0 : Int32) + v1) + ((Int32.ofNat n - 1) - v1)) 1)) (fun v3 => Option.bind (some (mxUshr (((0 : Int32) + v1) + v3) 1)) (fun v2 => Option.bind (some (mxUshr (v3 + ((Int32.ofNat n - 1) - v1)) 1)) (fun v4 =>
    ptnB a (Int32.ofNat (6 * j)) (Int32.ofNat n) (Int32.ofNat n - 1) ((0 : Int32) + v1) v2 v3 v4 ((Int32.ofNat n - 1) - v1) h))))) (fun o => ∃ L g f', o = .inl (Int32.ofNat (6 * j) + 6, Int32.ofNat L, g) ∧ St a N K h0 g f' ∧ Dn N n F f' L) := by
  have n60 := S.n
  obtain ⟨q1, q2, q3, q4⟩ := pv_all n (by omega) n1
  have o := pv_En n1 (by omega)
  obtain ⟨o1, o2, o3, o4, o5, o6⟩ := id o
  have q5 : (Int32.ofNat n - 1) - Int32.ofNat (n / 8 * 3 + 3) = Int32.ofNat (n - 1 - (n / 8 * 3 + 3)) := by
    rw [ofN_pred (by omega) (by omega), ofN_sub (by omega)]
  rw [sb0, q1, bN, zr, q5, q2, bN, q3, bN, q4, bN, ofN_pred (by omega) (by omega)]
  generalize n / 8 * 3 + 3 = e1 at *
  generalize n - 1 - e1 = e5 at *
  generalize ((n - 1) / 2 + e5) / 2 = e4 at *
  generalize (e1 + (n - 1) / 2) / 2 = e2 at *
  generalize (n - 1) / 2 = e3 at *
  refine ptnB_ok S hn o (fun g F' S' P' s1 s2 s3 s4 => ?_)
  have d' : Di N F' := P'.1.dist d
  have t1 := d'.ne (i := e1) (k := e2) (by omega) (by omega) (by omega)
  have t2 := d'.ne (i := e2) (k := e3) (by omega) (by omega) (by omega)
  have t3 := d'.ne (i := e3) (k := e4) (by omega) (by omega) (by omega)
  have t4 := d'.ne (i := e4) (k := e5) (by omega) (by omega) (by omega)
  refine ptnC_ok S' hn o (by omega) (by omega) (by omega) (by omega) ?_
  exact Ok_m (ptnD_ok S' hn o (by omega) (by omega) (by omega) hj) (fun x ⟨L, g2, f2, x1, x2, x3, x4, x5⟩ => ⟨L, g2, f2, x1, x2, x3, P'.trans x4, x5⟩)
end
theorem l_sort {h : mxH} {a N : Nat} {f : Nat → Int32} (F : FR h) (hb : h.2 + 5 ≤ 1000000) (ha : 337 ≤ a) (A : AT h a N f) (hN : N < 44 ∨ (N ≤ 60 ∧ ∀ i k, i < N → k < N → f i = f k → i = k)) : Ok (fJ7_sort_2022b a h) (fun g => SX a 1 h g ∧ ∃ f', AT g a N f' ∧ Prm N f f' ∧ Srt N f') := by
  have n60 : N ≤ 60 := by
    rcases hN with x | x
    · omega
    · exact x.1
  have S : St a N 0 h h f := ⟨SX.refl a h, A, A.1, by omega, n60⟩
  have srt : ∀ g : Nat → Int32, Sg 0 N g → Srt N g := fun g s i k i1 i2 => tn (s i k (Nat.zero_le _) i1 i2)
  have fin : ∀ g, (∃ f', St a N 1 h g f' ∧ Prm N f f' ∧ Sg 0 N f') → SX a 1 h g ∧ ∃ f', AT g a N f' ∧ Prm N f f' ∧ Srt N f' := fun g ⟨f', s1, s2, s3⟩ => ⟨s1.1, f', s1.2.1, s2, srt f' s3⟩
  refine Ok_m (P := fun g => ∃ f', St a N 1 h g f' ∧ Prm N f f' ∧ Sg 0 N f') ?_ fin
  unfold fJ7_sort_2022b
  refine Ok_s A.len ?_
  refine Ok_b (P := fun g => ∃ f', St a N 1 h g f' ∧ Prm N f f' ∧ Sg 0 N f') ?_ (fun g H => Ok_p H)
  unfold fX12_sort
  rw [if_pos (show (0 : Int32) ≤ 1 by decide)]
  refine Ok_b (P := fun g => ∃ f', St a N 1 h g f' ∧ Prm N f f' ∧ Sg 0 N f') ?_ (fun g H => Ok_p H)
  unfold fX12_sort_
  refine Ok_b (P := fun o => (∃ n g f', o = .inr (.inl (Int32.ofNat n, g)) ∧ n ≤ N ∧ St a N 1 h g f' ∧ Prm N f f' ∧ ∀ i k, i < k → n ≤ k → k < N → (f' i).toInt ≤ (f' k).toInt) ∨ (∃ g f', o = .inr (.inr (.inr (.inl g))) ∧ St a N 1 h g f' ∧ Prm N f f' ∧ Sg 0 N f')) (Ok_loopEF 70 (fun j s => s.1 = Int32.ofNat (6 * j) ∧ ∃ n f', (j = 0 ∧ n = N ∧ St a N 0 h s.2.2 f' ∨ 0 < j ∧ n + j ≤ 60 ∧ Di N f') ∧ s.2.1 = Int32.ofNat n ∧ n ≤ N ∧ St a N 1 h s.2.2 f' ∧ Prm N f f' ∧ ∀ i k, i < k → n ≤ k → k < N → (f' i).toInt ≤ (f' k).toInt) 60 ⟨rfl, N, f, Or.inl ⟨rfl, rfl, S⟩, rfl, Nat.le_refl _, S.le, Prm.refl _ _, fun i k i1 i2 i3 => by omega⟩ ?_ (by omega)) ?_
  · rintro j ⟨s1, s2, g⟩ hj ⟨e1, n, f', ors, e2, nN, S', P', T⟩
    obtain rfl := show s1 = _ from e1
    obtain rfl := show s2 = _ from e2
    have S' : St a N 1 h g f' := S'
    have c65 : ¬ ((65 : Int32) + Int32.ofNat (6 * j)) ≤ (Int32.ofNat n - 0) := by
      rw [sb0, show (65 : Int32) + Int32.ofNat (6 * j) = Int32.ofNat (65 + 6 * j) from ofN_add 65 _]
      exact nle (by omega) (by omega)
    have cb1 : ((Int32.ofNat (6 * j)) &&& 1) ≤ (0 : Int32) := (show ∀ j, j < 61 → ((Int32.ofNat (6 * j)) &&& 1) ≤ (0 : Int32) by decide +kernel) j (by omega)
    rw [if_neg c65, if_pos cb1]
    by_cases c44 : n < 44
    · have c : ¬ (44 : Int32) ≤ (Int32.ofNat n - 0) := by rw [sb0]; exact nle (a := 44) c44 (by omega)
      rw [if_neg c]
      exact Ok_p (Or.inr ⟨_, rfl, Or.inl ⟨n, g, f', rfl, nN, S', P', T⟩⟩)
    · have c : (44 : Int32) ≤ (Int32.ofNat n - 0) := by rw [sb0]; exact (ofN_le (a := 44) (by omega) (by omega)).mpr (by omega)
      have d0 : Di N f := (hN.resolve_left (by omega)).2
      have dI : Di N f' := P'.dist d0
      have j20 : j < 20 := by omega
      have go : ∀ (x : Ptn) (F : Nat → Int32), Di N F → Prm N f F → (∀ i k, i < k → n ≤ k → k < N → (F i).toInt ≤ (F k).toInt) → (∃ L g f', x = .inl (Int32.ofNat (6 * j) + 6, Int32.ofNat L, g) ∧ St a N 1 h g f' ∧ Dn N n F f' L) → (∃ s', x = .inl s' ∧ j < 60 ∧ (s'.1 = Int32.ofNat (6 * (j + 1)) ∧ ∃ n f', (j + 1 = 0 ∧ n = N ∧ St a N 0 h s'.2.2 f' ∨ 0 < j + 1 ∧ n + (j + 1) ≤ 60 ∧ Di N f') ∧ s'.2.1 = Int32.ofNat n ∧ n ≤ N ∧ St a N 1 h s'.2.2 f' ∧ Prm N f f' ∧ ∀ i k, i < k → n ≤ k → k < N → (f' i).toInt ≤ (f' k).toInt)) := by
        rintro x F dF PF TF ⟨L, g2, f2, rfl, S2, l1, P2, T2⟩
        refine ⟨_, rfl, by omega, ?_, L, f2, Or.inr ⟨by omega, by omega, P2.1.dist dF⟩, rfl, by omega, S2, PF.trans P2.1, fun i k i1 i2 i3 => ?_⟩
        · show Int32.ofNat (6 * j) + Int32.ofNat 6 = _
          rw [ofN_add, show 6 * j + 6 = 6 * (j + 1) by omega]
        · by_cases z : k < n
          · exact T2 i k i1 i2 z
          · rw [P2.2 k (by omega)]
            by_cases z2 : n ≤ i
            · rw [P2.2 i (by omega)]; exact TF i k i1 (by omega) i3
            · exact Pm.all (fun x => x.toInt ≤ (F k).toInt) P2 nN (fun t t1 t2 => TF t k (by omega) (by omega) i3) i (Nat.zero_le _) (by omega)
      rw [if_pos c]
      by_cases j0 : j = 0
      · have z0 : Int32.ofNat (6 * j) = 0 := by rw [j0]; rfl
        obtain ⟨rfl, S0⟩ : n = N ∧ St a N 0 h g f' := by
          rcases ors with x | x
          · exact x.2
          · omega
        rw [if_pos z0]
        refine Ok_b (show Ok (fX12_tryMergeRuns a 0 (Int32.ofNat n - 0) g) (Rn a n h f') by rw [sb0]; exact l_runs S0 dI F hb (by omega)) ?_
        rintro ⟨v, g2⟩ ⟨f2, S2, P2, q⟩
        have S2 : St a n 1 h g2 f2 := S2
        rcases q with q | ⟨q, s2⟩
        · obtain rfl := show v = _ from q
          have c384 : (Int32.ofNat (6 * j) + 6) ≤ (384 : Int32) := by rw [z0]; decide
          rw [if_pos (show (0 : Int32) = 0 from rfl), if_pos c384]
          exact Ok_m (p_turn (j := j) S2 nN (by omega) (P2.1.dist dI) j20) (fun x H => Or.inl (go x f2 (P2.1.dist dI) (P'.trans P2.1) (fun i k i1 i2 i3 => by omega) H))
        · obtain rfl := show v = _ from q
          rw [if_neg (show ¬ (1 : Int32) = 0 by decide)]
          exact Ok_p (Or.inr ⟨_, rfl, Or.inr ⟨g2, f2, rfl, S2, P'.trans P2.1, s2⟩⟩)
      · have z0 : ¬ Int32.ofNat (6 * j) = 0 := fun z => by
          have := ofN_inj (a := 6 * j) (b := 0) (by omega) (by omega) z
          omega
        have c4096 : (Int32.ofNat n - 0) ≤ (4096 : Int32) := by rw [sb0]; exact (ofN_le (b := 4096) (by omega) (by omega)).mpr (by omega)
        have c384 : (Int32.ofNat (6 * j) + 6) ≤ (384 : Int32) := by
          show Int32.ofNat (6 * j) + Int32.ofNat 6 ≤ Int32.ofNat 384
          rw [ofN_add, ofN_le (by omega) (by omega)]; omega
        rw [if_neg z0, if_pos c4096, if_pos c384]
        exact Ok_m (p_turn (j := j) S' nN (by omega) dI j20) (fun x H => Or.inl (go x f' dI P' T H))
  · rintro o (⟨n, g, f', rfl, nN, S', P', T⟩ | ⟨g, f', rfl, S', P', s'⟩)
    · refine Ok_b (l_insertion S' nN) (fun g2 ⟨f2, S2, P2, s2⟩ => Ok_p ⟨f2, S2, P'.trans P2.1, fun i k i1 i2 i3 => ?_⟩)
      by_cases z : k < n
      · exact s2 i k i1 i2 z
      · rw [P2.2 k (by omega)]
        by_cases z2 : n ≤ i
        · rw [P2.2 i (by omega)]; exact T i k i2 (by omega) i3
        · exact Pm.all (fun x => x.toInt ≤ (f' k).toInt) P2 nN (fun t t1 t2 => T t k (by omega) (by omega) i3) i (Nat.zero_le _) (by omega)
    · exact Ok_p ⟨f', S', P', s'⟩
