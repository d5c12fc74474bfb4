/-! THE PURE SIDE, 44: changes, 2: counters, pushes -/
section
variable {h : mxH} {n : Nat → Int32} {j c : Nat}
theorem m_search (G : NG n j) (W : WF h) (e : V h 320 = n) {x : Nat} : Ok (mxLoop (ρ := (Int32 ⊕ Int32)) (fun s5 : (Int32 × Int32) => (if s5.2 < 0 then some (Sum.inr (Sum.inr s5.1)) else Option.bind (gR h 319 10 0) (fun r15 => Option.bind (ldI h r15 (221 + s5.2)) (fun v17 => (if v17 = Int32.ofNat x then some (Sum.inr (Sum.inl s5.2)) else Option.bind (gR h 319 10 0) (fun r20 => Option.bind (ldI h r20 (221 + s5.2)) (fun v22 => Option.bind (α := Int32) (if v22 = (-1) then some s5.2 else some s5.1) (fun p26' : Int32 => some (Sum.inl (p26', s5.2 - 1)))))))))) mxF ((-1), Int32.ofNat (mn n) - 1)) (fun o => (∃ k, k < mn n ∧ o = .inl (Int32.ofNat k) ∧ n (221 + k) = Int32.ofNat x) ∨ ((∀ k, k < mn n → n (221 + k) ≠ Int32.ofNat x) ∧ ((o = .inr (-1) ∧ ∀ k, k < mn n → n (221 + k) ≠ -1) ∨ ∃ f, f < mn n ∧ o = .inr (Int32.ofNat f) ∧ n (221 + f) = -1 ∧ ∀ k, k < f → n (221 + k) ≠ -1))) := by
  have g6 : 1 ≤ mn n ∧ mn n ≤ 4 := G.2.2.2.2.2.1
  have em1 : ((-1 : Int32) < 0) = True := eq_true (by decide)
  refine Ok_loopE (fun d s => d ≤ mn n ∧ s.2 = (if d < mn n then Int32.ofNat (mn n - 1 - d) else -1) ∧ (∀ k, mn n - d ≤ k → k < mn n → n (221 + k) ≠ Int32.ofNat x) ∧ ((s.1 = -1 ∧ ∀ k, mn n - d ≤ k → k < mn n → n (221 + k) ≠ -1) ∨ ∃ f, mn n - d ≤ f ∧ f < mn n ∧ s.1 = Int32.ofNat f ∧ n (221 + f) = -1 ∧ ∀ k, mn n - d ≤ k → k < f → n (221 + k) ≠ -1)) (mn n) ⟨Nat.zero_le _, by rw [if_pos (by omega), ofN_pred (by omega) (by omega)]; rfl, fun k h1 h2 => by omega, Or.inl ⟨rfl, fun k h1 h2 => by omega⟩⟩ ?_ (by unfold mxF; omega)
  rintro d ⟨s1, s2⟩ hd ⟨-, e2, hx, hf⟩
  have e2 : s2 = (if d < mn n then Int32.ofNat (mn n - 1 - d) else -1) := e2
  have hf : (s1 = -1 ∧ ∀ k, mn n - d ≤ k → k < mn n → n (221 + k) ≠ -1) ∨ ∃ f, mn n - d ≤ f ∧ f < mn n ∧ s1 = Int32.ofNat f ∧ n (221 + f) = -1 ∧ ∀ k, mn n - d ≤ k → k < f → n (221 + k) ≠ -1 := hf
  by_cases c : d < mn n
  · rw [if_pos c] at e2
    subst e2
    simp only [if_neg (ofN_nn (show mn n - 1 - d < 2147483648 by omega)), gM0 W, bN, show (221 : Int32) + Int32.ofNat (mn n - 1 - d) = Int32.ofNat (221 + (mn n - 1 - d)) from ixa 221 _, ld_now W e (show 221 + (mn n - 1 - d) < 230 by omega)]
    by_cases c1 : n (221 + (mn n - 1 - d)) = Int32.ofNat x
    · rw [if_pos c1]
      exact Ok_p (Or.inr ⟨_, rfl, Or.inl ⟨mn n - 1 - d, by omega, rfl, c1⟩⟩)
    · rw [if_neg c1]
      have es : Int32.ofNat (mn n - 1 - d) - 1 = (if d + 1 < mn n then Int32.ofNat (mn n - 1 - (d + 1)) else -1) := by
        by_cases z : d + 1 < mn n
        · rw [if_pos z, ofN_pred (by omega) (by omega)]; congr 1
        · rw [if_neg z, show mn n - 1 - d = 0 by omega]; decide
      have hx' : ∀ k, mn n - (d + 1) ≤ k → k < mn n → n (221 + k) ≠ Int32.ofNat x := fun k h1 h2 => by
        by_cases z : k = mn n - 1 - d
        · rw [z]; exact c1
        · exact hx k (by omega) h2
      by_cases c2 : n (221 + (mn n - 1 - d)) = -1
      · rw [if_pos c2]
        exact Ok_p (Or.inl ⟨_, rfl, c, by omega, es, hx', Or.inr ⟨mn n - 1 - d, by omega, by omega, rfl, c2, fun k h1 h2 => by omega⟩⟩)
      · rw [if_neg c2]
        refine Ok_p (Or.inl ⟨_, rfl, c, by omega, es, hx', ?_⟩)
        rcases hf with ⟨f1, f2⟩ | ⟨f, f1, f2, f3, f4, f5⟩
        · refine Or.inl ⟨f1, fun k h1 h2 => ?_⟩
          by_cases z : k = mn n - 1 - d
          · rw [z]; exact c2
          · exact f2 k (by omega) h2
        · refine Or.inr ⟨f, by omega, f2, f3, f4, fun k h1 h2 => ?_⟩
          by_cases z : k = mn n - 1 - d
          · rw [z]; exact c2
          · exact f5 k (by omega) h2
  · rw [if_neg c] at e2
    subst e2
    have ed : mn n - d = 0 := by omega
    rw [ed] at hx hf
    refine Ok_e (a := .inr (.inr s1)) (if_pos (show (-1 : Int32) < 0 by decide)) (Or.inr ⟨_, rfl, Or.inr ⟨fun k hk => hx k (Nat.zero_le _) hk, ?_⟩⟩)
    rcases hf with ⟨f1, f2⟩ | ⟨f, f1, f2, f3, f4, f5⟩
    · exact Or.inl ⟨by rw [show s1 = -1 from f1], fun k hk => f2 k (Nat.zero_le _) hk⟩
    · exact Or.inr ⟨f, f2, by rw [show s1 = Int32.ofNat f from f3], f4, fun k hk => f5 k (Nat.zero_le _) hk⟩
theorem m_counts (G : NG n j) (W : WF h) (e : V h 320 = n) {x : Nat} (hx : x < 100) : Ok (fX10_counts 319 (Int32.ofNat x) h) (fun h' => Fr (fun b => b = 320) h h' ∧ V h' 320 = tly n (Int32.ofNat x)) := by
  have g5 : n 109 = Int32.ofNat (mn n) := G.2.2.2.2.1
  have g6 : 1 ≤ mn n ∧ mn n ≤ 4 := G.2.2.2.2.2.1
  have g8 : ∀ k, k < 4 → n (221 + k) = -1 → n (225 + k) = 0 := G.2.2.2.2.2.2.2.1
  have g9 : ∀ i k, i < 4 → k < 4 → i ≠ k → n (221 + i) = n (221 + k) → n (221 + i) = -1 := G.2.2.2.2.2.2.2.2
  unfold fX10_counts
  refine Ok_s (gM0 W) (Ok_s (show ldI h 320 109 = some (n 109) from ld_now W e (k := 109) (by omega)) ?_)
  rw [g5]
  refine Ok_b (m_search G W e (x := x)) (fun o H => ?_)
  rcases H with ⟨k, k1, k2, k3⟩ | ⟨hx', H⟩
  · have ec : ctr n (Int32.ofNat x) = k := fst1_eq (fun d hd => decide_eq_false (fun z => by
      have := g9 d k (by omega) (by omega) (by omega) (by rw [z, k3])
      rw [z] at this
      exact ofN_nm (by omega) this)) (fun _ => decide_eq_true k3) (by omega)
    rw [k2]
    obtain ⟨a1, a2, a3, a4⟩ := st_now W e (k := 225 + k) (x := n (225 + k) + 1) (by omega)
    simp only [Sum.elim_inl, gM0 W, bN, show (225 : Int32) + Int32.ofNat k = Int32.ofNat (225 + k) from ixa 225 k, ld_now W e (show 225 + k < 230 by omega), a1]
    refine Ok_p ⟨a4, ?_⟩
    rw [a3]
    unfold tly
    rw [ec, if_pos k1]
  · have nc : ¬ ctr n (Int32.ofNat x) < mn n := fun z => hx' _ z (ctr_at z)
    rcases H with ⟨o1, o2⟩ | ⟨f, f1, f2, f3, f4⟩
    · have nf : ¬ ctr n (-1) < mn n := fun z => o2 _ z (ctr_at z)
      rw [o1]
      obtain ⟨a1, a2, a3, a4⟩ := st_now W e (k := 229) (x := n 229 + 1) (by omega)
      simp only [Sum.elim_inr, if_true, gM0 W, bN, show ldI h 320 229 = some (n 229) from ld_now W e (k := 229) (by omega), show stI h 320 229 (n 229 + 1) = _ from a1]
      refine Ok_b (P := fun h1 => Fr (fun b => b = 320) h h1 ∧ V h1 320 = tly n (Int32.ofNat x)) (Ok_loop (fun t s => s.1 = Int32.ofNat t ∧ Fr (fun b => b = 320) h s.2 ∧ V s.2 320 = fun k => if k = 229 then n 229 + 1 else if 225 ≤ k ∧ k < 225 + t then n k - 1 else if (221 ≤ k ∧ k < 221 + t) ∧ n (k + 4) - 1 = 0 then -1 else n k) (mn n) ⟨rfl, a4, by
        rw [a3]
        funext k
        unfold fup
        try dsimp only
        repeat' split
        all_goals first | rfl | omega⟩ ?_ ?_ (by unfold mxF; omega)) (fun h1 H => Ok_p H)
      · rintro t ⟨s1, h1⟩ ht ⟨e1, F, hv⟩
        obtain rfl := show s1 = _ from e1
        have F : Fr (fun b => b = 320) h h1 := F
        have hv : V h1 320 = _ := hv
        have W1 := F.1
        have v109 : ldI h1 320 109 = some (Int32.ofNat (mn n)) := by
          rw [show ldI h1 320 109 = some (V h1 320 109) from ldI_at W1 ar_now (k := 109) (by omega), hv]
          show some (if (109 : Nat) = 229 then _ else _) = _
          rw [if_neg (by omega), if_neg (by omega), if_neg (by omega), g5]
        have v225 : ldI h1 320 (Int32.ofNat (225 + t)) = some (n (225 + t)) := by
          rw [ldI_at W1 ar_now (show 225 + t < 230 by omega), hv]
          show some (if 225 + t = 229 then _ else _) = _
          rw [if_neg (by omega), if_neg (by omega), if_neg (by omega)]
        obtain ⟨d1, d2, d3, d4⟩ := st_now W1 hv (k := 225 + t) (x := n (225 + t) - 1) (by omega)
        have v225' : ldI (st h1 320 (225 + t) (n (225 + t) - 1)) 320 (Int32.ofNat (225 + t)) = some (n (225 + t) - 1) := by
          rw [ldI_at d2 ar_now (show 225 + t < 230 by omega), d3, fup_eq]
        simp only [gM0 W1, bN, v109, if_neg (nle ht (by omega)), show (225 : Int32) + Int32.ofNat t = Int32.ofNat (225 + t) from ixa 225 t, v225, d1, gM0 d2, v225', show (221 : Int32) + Int32.ofNat t = Int32.ofNat (221 + t) from ixa 221 t]
        by_cases z : n (225 + t) - 1 = 0
        · obtain ⟨f1, f2, f3, f4⟩ := st_now d2 d3 (k := 221 + t) (x := -1) (by omega)
          simp only [if_pos z, f1, bN, ofN_succ]
          refine Ok_p ⟨_, rfl, rfl, (F.trans d4).trans f4, ?_⟩
          show V (st _ _ _ _) 320 = _
          rw [f3]
          funext k
          have hk4 : k = 221 + t → n (k + 4) - 1 = 0 := fun q => by rw [q, show 221 + t + 4 = 225 + t by omega]; exact z
          unfold fup
          dsimp only
          by_cases q1 : k = 221 + t
          · rw [if_pos q1, if_neg (by omega), if_neg (by omega), if_pos ⟨by omega, hk4 q1⟩]
          · rw [if_neg q1]
            by_cases q2 : k = 225 + t
            · rw [if_pos q2, if_neg (by omega), if_pos (by omega), q2]
            · rw [if_neg q2]
              by_cases q3 : k = 229
              · rw [if_pos q3, if_pos q3]
              · rw [if_neg q3, if_neg q3]
                by_cases q4 : 225 ≤ k ∧ k < 225 + t
                · rw [if_pos q4, if_pos (by omega)]
                · rw [if_neg q4, if_neg (show ¬ (225 ≤ k ∧ k < 225 + (t + 1)) by omega)]
                  by_cases q5 : (221 ≤ k ∧ k < 221 + t) ∧ n (k + 4) - 1 = 0
                  · rw [if_pos q5, if_pos ⟨by omega, q5.2⟩]
                  · rw [if_neg q5, if_neg (fun y => q5 ⟨by omega, y.2⟩)]
        · simp only [if_neg z, bN, ofN_succ]
          refine Ok_p ⟨_, rfl, rfl, F.trans d4, ?_⟩
          show V (st _ _ _ _) 320 = _
          rw [d3]
          funext k
          have hk4 : k = 221 + t → ¬ n (k + 4) - 1 = 0 := fun q => by rw [q, show 221 + t + 4 = 225 + t by omega]; exact z
          unfold fup
          dsimp only
          by_cases q2 : k = 225 + t
          · rw [if_pos q2, if_neg (by omega), if_pos (by omega), q2]
          · rw [if_neg q2]
            by_cases q3 : k = 229
            · rw [if_pos q3, if_pos q3]
            · rw [if_neg q3, if_neg q3]
              by_cases q4 : 225 ≤ k ∧ k < 225 + t
              · rw [if_pos q4, if_pos (by omega)]
              · rw [if_neg q4, if_neg (show ¬ (225 ≤ k ∧ k < 225 + (t + 1)) by omega)]
                by_cases q5 : (221 ≤ k ∧ k < 221 + t) ∧ n (k + 4) - 1 = 0
                · rw [if_pos q5, if_pos ⟨by omega, q5.2⟩]
                · rw [if_neg q5, if_neg (fun y => by
                    by_cases q6 : k = 221 + t
                    · exact hk4 q6 y.2
                    · exact q5 ⟨by omega, y.2⟩)]
      · rintro ⟨s1, h1⟩ ⟨e1, F, hv⟩
        obtain rfl := show s1 = _ from e1
        have F : Fr (fun b => b = 320) h h1 := F
        have hv : V h1 320 = _ := hv
        have W1 := F.1
        have v109 : ldI h1 320 109 = some (Int32.ofNat (mn n)) := by
          rw [show ldI h1 320 109 = some (V h1 320 109) from ldI_at W1 ar_now (k := 109) (by omega), hv]
          show some (if (109 : Nat) = 229 then _ else _) = _
          rw [if_neg (by omega), if_neg (by omega), if_neg (by omega), g5]
        refine Ok_e (a := .inr h1) (by simp only [gM0 W1, bN, v109, if_pos yle]) ⟨h1, rfl, F, ?_⟩
        rw [hv]
        unfold tly
        rw [if_neg nc, if_neg nf]
        rfl
    · have ec : ctr n (-1) = f := fst1_eq (fun d hd => decide_eq_false (f4 d hd)) (fun _ => decide_eq_true f3) (by omega)
      rw [f2]
      obtain ⟨a1, a2, a3, a4⟩ := st_now W e (k := 221 + f) (x := Int32.ofNat x) (by omega)
      obtain ⟨b1, b2, b3, b4⟩ := st_now a2 a3 (k := 225 + f) (x := 1) (by omega)
      simp only [Sum.elim_inr, if_neg (ofN_nm (show f < 2147483648 by omega)), gM0 W, gM0 a2, bN, show (221 : Int32) + Int32.ofNat f = Int32.ofNat (221 + f) from ixa 221 f, show (225 : Int32) + Int32.ofNat f = Int32.ofNat (225 + f) from ixa 225 f, a1, b1]
      refine Ok_p ⟨a4.trans b4, ?_⟩
      rw [b3]
      unfold tly
      rw [ec, if_neg nc, if_pos f1, g8 f (by omega) f3]
      rfl
end
