/-! THE PURE SIDE, 18: whether the answers are the best -/
def ansB (n : Nat → Int32) (k : Nat) : Bool := (!orT (fun i => decide (val n (bst n (stp n k) i) ≠ val n (knr n i))) (min k (rdT n (stp n k)))) && decide (min k (rdT n (stp n k)) = min k (rdT n 20))
theorem cnt_stop {p : Nat → Bool} {m M : Nat} (h : m ≤ M) (hp : ∀ j, m ≤ j → p j = false) : cnt p M = cnt p m := by
  induction M with
  | zero => rw [show m = 0 by omega]
  | succ M ih =>
    by_cases c : m = M + 1
    · rw [c]
    · rw [cnt_f (hp M (by omega)), ih (by omega)]
theorem knr_20 {n : Nat → Int32} {j : Nat} (h : j < rdT n 20) : knr n j < 20 ∧ knw n (knr n j) = true := ⟨(nrL_spec (P := knw n) (bef_STO (val n) 20) h).1, (nrL_spec (P := knw n) (bef_STO (val n) 20) h).2.1⟩
theorem rd_cnt {n : Nat → Int32} {d : Nat} (hd : d ≤ 20) : cnt (fun j => decide (j < rdT n 20) && rdAt n (knr n j) d) 20 = rdT n d := SE_cnt (bef_STO (val n) 20) (rd_filter hd)
set_option maxHeartbeats 1000000 in
theorem s_isAnswerBest {h : mxH} (W : WF h) {b r k : Nat} {n : Nat → Int32} (K : KB b) (R : RB r) (A : RR h r n) (B : KR h b n) (h1 : 1 ≤ k) (h2 : k ≤ 20) (hs : V h 298 k = Int32.ofNat (stp n k)) : fX5_isAnswerBest 297 (Int32.ofNat k) r b h = some (bI (ansB n k)) := by
  have D20 : stp n k ≤ 20 := Nat.le_trans (stp_le n k) (dpt_20 n)
  have M20 := rdT_20 n 20
  have hc := rd_cnt (n := n) D20
  have hstop : cnt (fun j => decide (j < rdT n 20) && rdAt n (knr n j) (stp n k)) 20 = cnt (fun j => decide (j < rdT n 20) && rdAt n (knr n j) (stp n k)) (rdT n 20) := cnt_stop M20 (fun j hj => by rw [decide_eq_false (show ¬ j < rdT n 20 by omega)]; rfl)
  have hbst : ∀ j, j < rdT n 20 → rdAt n (knr n j) (stp n k) = true → bst n (stp n k) (cnt (fun j => decide (j < rdT n 20) && rdAt n (knr n j) (stp n k)) j) = knr n j := fun j hj q => by
    have pj : (fun j => decide (j < rdT n 20) && rdAt n (knr n j) (stp n k)) j = true := by
      show (decide (j < rdT n 20) && rdAt n (knr n j) (stp n k)) = true
      rw [decide_eq_true hj, q]; rfl
    have hlt := cnt_lt_of (p := fun j => decide (j < rdT n 20) && rdAt n (knr n j) (stp n k)) (l := 20) (show j < 20 by omega) pj
    rw [hc] at hlt
    rw [← bst_eq D20 hlt, nth_of (show j < 20 by omega) pj]
  have hval : ∀ j, j < rdT n 20 → V h (b + 1) (knr n j) = val n (knr n j) := fun j hj => by
    rw [B.1 _ (knr_20 hj).1]; exact if_pos (knr_20 hj).2
  have hthing : ∀ j, j < rdT n 20 → fX4_thingOn b (Int32.ofNat j) h = some (Int32.ofNat (knr n j)) := fun j hj => by
    rw [s_kThingOn W K (show j < 20 by omega), B.2.2.1 j (by omega), if_pos hj]
  unfold fX5_isAnswerBest
  simp only [isO_D W, bN, s_stopOf W h1 h2, hs]
  obtain ⟨rr, er, Q⟩ : Ok (mxLoop (ρ := (Unit ⊕ Int32)) _ mxF (0, 0)) (fun r => (r = .inl () ∧ ∃ i, i < min k (rdT n (stp n k)) ∧ val n (bst n (stp n k) i) ≠ val n (knr n i)) ∨ (r = .inr (Int32.ofNat (min k (rdT n (stp n k)))) ∧ ∀ i, i < min k (rdT n (stp n k)) → val n (bst n (stp n k) i) = val n (knr n i))) :=
    Ok_loopE (fun j (s : Int32 × Int32) => s.1 = Int32.ofNat (cnt (fun j => decide (j < rdT n 20) && rdAt n (knr n j) (stp n k)) j) ∧ s.2 = Int32.ofNat j ∧ cnt (fun j => decide (j < rdT n 20) && rdAt n (knr n j) (stp n k)) j ≤ k ∧ ∀ i, i < cnt (fun j => decide (j < rdT n 20) && rdAt n (knr n j) (stp n k)) j → val n (bst n (stp n k) i) = val n (knr n i)) (rdT n 20) ⟨rfl, rfl, Nat.zero_le _, fun i hi => absurd hi (Nat.not_lt_zero _)⟩ (f := fun s5 : (Int32 × Int32) => Option.bind (gI h b 4 3) (fun v14 => (if v14 ≤ s5.2 then some (Sum.inr (Sum.inr s5.1)) else (if Int32.ofNat k ≤ s5.1 then some (Sum.inr (Sum.inr s5.1)) else Option.bind (isO h b 4) (fun u18 => Option.bind (fX4_thingOn b s5.2 h) (fun v21 => Option.bind (isO h r 6) (fun u22 => Option.bind (fX6_isRead r v21 (Int32.ofNat (stp n k)) h) (fun v25 => (if v25 = 0 then some (Sum.inl (s5.1, s5.2 + 1)) else Option.bind (isO h b 4) (fun u27 => Option.bind (fX4_valueIn b v21 h) (fun v30 => Option.bind (isO h b 4) (fun u31 => Option.bind (fX4_thingOn b s5.1 h) (fun v34 => Option.bind (isO h b 4) (fun u35 => Option.bind (fX4_valueIn b v34 h) (fun v38 => (if v30 = v38 then some (Sum.inl (s5.1 + 1, s5.2 + 1)) else some (Sum.inr (Sum.inl ())))))))))))))))))) (fun j s hj I => by
      obtain ⟨s1, s2⟩ := s
      obtain ⟨e1, e2, ck, ev⟩ := I
      obtain rfl := show s1 = _ from e1
      obtain rfl := show s2 = _ from e2
      have cj := cnt_le (fun j => decide (j < rdT n 20) && rdAt n (knr n j) (stp n k)) j
      have cm := cnt_mono_n (p := fun j => decide (j < rdT n 20) && rdAt n (knr n j) (stp n k)) hj
      by_cases c1 : j = rdT n 20
      · have e5 : Int32.ofNat (rdT n 20) ≤ Int32.ofNat j := by rw [c1]; exact yle
        simp only [gI_at W (fd_K K), bN, B.2.2.2, if_pos e5]
        have e6 : cnt (fun j => decide (j < rdT n 20) && rdAt n (knr n j) (stp n k)) j = min k (rdT n (stp n k)) := by
          rw [c1, ← hstop, hc] at ck ⊢; omega
        refine Ok_p (Or.inr ⟨_, rfl, Or.inr ⟨by rw [e6], fun i hi => ev i (by omega)⟩⟩)
      · have hj2 : j < rdT n 20 := by omega
        simp only [gI_at W (fd_K K), bN, B.2.2.2, if_neg (nle hj2 (by omega))]
        by_cases c2 : k ≤ cnt (fun j => decide (j < rdT n 20) && rdAt n (knr n j) (stp n k)) j
        · rw [if_pos ((ofN_le (by omega) (by omega)).mpr c2)]
          have e6 : cnt (fun j => decide (j < rdT n 20) && rdAt n (knr n j) (stp n k)) j = min k (rdT n (stp n k)) := by
            rw [← hstop, hc] at cm; omega
          exact Ok_p (Or.inr ⟨_, rfl, Or.inr ⟨by rw [e6], fun i hi => ev i (by omega)⟩⟩)
        · rw [if_neg (nle (by omega) (by omega))]
          simp only [isO_K W K, isO_R W R, bN, hthing j hj2, s_isRd W R A (knr_20 hj2).1 D20, bI_0]
          by_cases c3 : rdAt n (knr n j) (stp n k) = true
          · have hcj : cnt (fun j => decide (j < rdT n 20) && rdAt n (knr n j) (stp n k)) j < rdT n 20 := by omega
            have pj : (fun j => decide (j < rdT n 20) && rdAt n (knr n j) (stp n k)) j = true := by
              show (decide (j < rdT n 20) && rdAt n (knr n j) (stp n k)) = true
              rw [decide_eq_true hj2, c3]; rfl
            have hlt := cnt_lt_of (p := fun j => decide (j < rdT n 20) && rdAt n (knr n j) (stp n k)) (l := 20) (show j < 20 by omega) pj
            rw [hc] at hlt
            simp only [c3, Bool.true_eq_false, if_false, s_valueIn W K (knr_20 hj2).1, bN, hthing _ hcj, s_valueIn W K (knr_20 hcj).1, hval j hj2, hval _ hcj]
            have hb := hbst j hj2 c3
            by_cases c4 : val n (knr n j) = val n (knr n (cnt (fun j => decide (j < rdT n 20) && rdAt n (knr n j) (stp n k)) j))
            · rw [if_pos c4]
              refine Ok_p (Or.inl ⟨_, rfl, hj2, ?_, ofN_succ j, ?_, fun i hi => ?_⟩)
              · show Int32.ofNat _ + 1 = _
                rw [ofN_succ, cnt_t pj]
              · rw [cnt_t pj]; omega
              · rw [cnt_t pj] at hi
                by_cases z : i = cnt (fun j => decide (j < rdT n 20) && rdAt n (knr n j) (stp n k)) j
                · rw [z, hb]; exact c4
                · exact ev i (by omega)
            · rw [if_neg c4]
              refine Ok_p (Or.inr ⟨_, rfl, Or.inl ⟨rfl, cnt (fun j => decide (j < rdT n 20) && rdAt n (knr n j) (stp n k)) j, by omega, ?_⟩⟩)
              rw [hb]; exact c4
          · have c3 : rdAt n (knr n j) (stp n k) = false := by simpa using c3
            have pj : (fun j => decide (j < rdT n 20) && rdAt n (knr n j) (stp n k)) j = false := by
              show (decide (j < rdT n 20) && rdAt n (knr n j) (stp n k)) = false
              rw [c3, Bool.and_false]
            simp only [c3, if_true]
            exact Ok_p (Or.inl ⟨_, rfl, hj2, by show Int32.ofNat _ = _; rw [cnt_f pj], ofN_succ j, by rw [cnt_f pj]; exact ck, fun i hi => ev i (by rw [cnt_f pj] at hi; exact hi)⟩)) (by unfold mxF; omega)
  refine bs er ?_
  unfold ansB
  rcases Q with ⟨e, i, hi, hne⟩ | ⟨e, hall⟩
  · subst e
    have : orT (fun i => decide (val n (bst n (stp n k) i) ≠ val n (knr n i))) (min k (rdT n (stp n k))) = true := orT_iff.mpr ⟨i, hi, decide_eq_true hne⟩
    rw [this]
    rfl
  · subst e
    have : orT (fun i => decide (val n (bst n (stp n k) i) ≠ val n (knr n i))) (min k (rdT n (stp n k))) = false := orT_false.mpr (fun i hi => decide_eq_false (fun z => z (hall i hi)))
    rw [this]
    simp only [Sum.elim, gI_at W (fd_K K), bN, B.2.2.2, mxMin_N (show k < 2147483648 by omega) (show rdT n 20 < 2147483648 by omega), ofN_eq (show min k (rdT n (stp n k)) < 2147483648 by omega) (show min k (rdT n 20) < 2147483648 by omega), Bool.not_false, Bool.true_and]
    by_cases c : min k (rdT n (stp n k)) = min k (rdT n 20)
    · rw [if_pos c, decide_eq_true c]; rfl
    · rw [if_neg c, decide_eq_false c]; rfl
def flt (n : Nat → Int32) (k : Nat) : Nat := (if ansB n k then 0 else 1) + (if pst n k < stp n k then 1 else 0)
theorem s_countFaults {h : mxH} (W : WF h) {b r : Nat} {n : Nat → Int32} (K : KB b) (R : RB r) (A : RR h r n) (B : KR h b n) (hs : ∀ k, 1 ≤ k → k ≤ 20 → V h 298 k = Int32.ofNat (stp n k)) (hp : ∀ k, 1 ≤ k → k ≤ 20 → V h 299 k = Int32.ofNat (pst n k)) :
    fX5_countFaults 297 r b h = some (Int32.ofNat (fo (fun s k => s + flt n (k + 1)) 0 20)) := by
  unfold fX5_countFaults
  refine bs (mxLoop_up (S := fun k => (Int32.ofNat (fo (fun s k => s + flt n (k + 1)) 0 k), Int32.ofNat (1 + k))) (N := 20) (fun k hk => ?_) ?_ (by decide)) rfl
  · have c2 : ¬ (20 : Int32) < Int32.ofNat (1 + k) := fun q => by have := (ofN_lt (a := 20) (by omega) (by omega)).mp q; omega
    have D20 : stp n (1 + k) ≤ 20 := Nat.le_trans (stp_le n _) (dpt_20 n)
    have P20 : pst n (1 + k) ≤ 20 := Nat.le_trans (pst_le n _) (dpt_20 n)
    have e1 : (if ansB n (1 + k) = false then some (1 : Int32) else some 0) = some (Int32.ofNat (if ansB n (1 + k) then 0 else 1)) := by
      cases ansB n (1 + k) <;> rfl
    have e2 : (if stp n (1 + k) ≤ pst n (1 + k) then some (0 : Int32) else some 1) = some (Int32.ofNat (if pst n (1 + k) < stp n (1 + k) then 1 else 0)) := by
      by_cases z : stp n (1 + k) ≤ pst n (1 + k)
      · rw [if_pos z, if_neg (by omega)]; rfl
      · rw [if_neg z, if_pos (by omega)]; rfl
    have e3 : fo (fun s k => s + flt n (k + 1)) 0 (k + 1) = fo (fun s k => s + flt n (k + 1)) 0 k + (if ansB n (1 + k) then 0 else 1) + (if pst n (1 + k) < stp n (1 + k) then 1 else 0) := by
      show fo (fun s k => s + flt n (k + 1)) 0 k + flt n (k + 1) = _
      rw [Nat.add_comm k 1, Nat.add_assoc]; rfl
    simp only [if_neg c2, isO_D W, bN, s_isAnswerBest W K R A B (show 1 ≤ 1 + k by omega) (by omega) (hs (1 + k) (by omega) (by omega)), gR_ps W, gR_st W, ldI_at W ar_ps (show 1 + k < 21 by omega), ldI_at W ar_st (show 1 + k < 21 by omega), hs (1 + k) (by omega) (by omega), hp (1 + k) (by omega) (by omega), bI_0, ofN_succ, ofN_le (show stp n (1 + k) < 2147483648 by omega) (show pst n (1 + k) < 2147483648 by omega), e1, e2, ofN_add, e3]
    rfl
  · have c1 : (20 : Int32) < Int32.ofNat (1 + 20) := (ofN_lt (a := 20) (by omega) (by omega)).mpr (by omega)
    exact if_pos c1
