/-! THE PURE SIDE, 47: one turn of the law, in general -/
theorem NG_c230 {n m : Nat → Int32} {j : Nat} (G : NG n j) (e : ∀ k, k < 230 → m k = n k) : NG m j := by
  have h10 := inw_10 G
  obtain ⟨g1, g2, g3, g4, g5, g6, g7, g8, g9⟩ := G
  have ec : cm m = cm n := by unfold cm; rw [e 110 (by omega)]
  have ew : wd m = wd n := by unfold wd; rw [e 108 (by omega)]
  have em : mn m = mn n := by unfold mn; rw [e 109 (by omega)]
  have ei : inw m = inw n := by unfold inw; rw [ec, ew]
  refine ⟨by rw [e 110 (by omega), ec]; exact g1, by rw [ec]; exact g2, by rw [e 108 (by omega), ew]; exact g3, by rw [ew]; exact g4, by rw [e 109 (by omega), em]; exact g5, by rw [em]; exact g6, fun k hk => ?_, fun k hk => ?_, fun i k hi hk => ?_⟩
  · rw [ei] at hk
    rw [e _ (by omega)]; exact g7 k hk
  · rw [e _ (by omega), e _ (by omega)]; exact g8 k hk
  · rw [e _ (by omega), e _ (by omega)]; exact g9 i k hi hk
theorem GX_c230 {n m : Nat → Int32} {j : Nat} (G : GD n j ∧ XG n) (e : ∀ k, k < 230 → m k = n k) : GD m j ∧ XG m := by
  obtain ⟨⟨a, b, c⟩, x⟩ := G
  refine ⟨⟨fun k hk => by rw [e k (by omega)]; exact a k hk, fun i hi => by rw [e _ (by omega)]; exact b i hi, NG_c230 c e⟩, fun k h1 h2 => ?_⟩
  have em : mn m = mn n := by unfold mn; rw [e 109 (by omega)]
  rw [e _ (by omega)]; exact x k (by rw [← em]; exact h1) h2
theorem Inv_new {h2 : mxH} {n' : Nat → Int32} {B : Nat → Nat → Int32} {c' j : Nat} {xs : List Int32} (W : WF h2) (s : h2.1 0 = (100, xs, [])) (S : SR h2 3 n') (Hi : HR h2 c' B) (v2 : V h2 319 2 = Int32.ofNat c') (hn : ∀ k, k < 230 → V h2 320 k = n' k) (hB : ∀ i, i < c' → ∀ k, k < 230 → Bf h2 i k = B i k) (G : GD n' j ∧ XG n') (GB : ∀ i, i < c' → GD (B i) j ∧ XG (B i)) : Inv h2 (V h2 320) c' j xs :=
  ⟨W, s, rfl, SR_congr (fun k hk => (hn k hk).symm) (inw_10 G.1.2.2) S, HR_congr (fun i hi k hk => (hB i hi k hk).symm) (fun i hi => inw_10 (GB i hi).1.2.2) Hi, v2, GX_c230 G hn, fun i hi => GX_c230 (GB i hi) (hB i hi)⟩
theorem sav_G {n : Nat → Int32} {B : Nat → Nat → Int32} {c j : Nat} (c8 : c ≤ 8) (G : GD n j ∧ XG n) (GB : ∀ i, i < c → GD (B i) j ∧ XG (B i)) : ∀ i, i < min (c + 1) 8 → GD (sav c B n i) (j + 1) ∧ XG (sav c B n i) := by
  intro i hi
  have up : ∀ m, GD m j ∧ XG m → GD m (j + 1) ∧ XG m := fun m z => ⟨GD_mono z.1 (by omega), z.2⟩
  unfold sav
  by_cases c1 : c < 8
  · rw [if_pos c1]
    by_cases q : i = c
    · rw [if_pos q]; exact up _ G
    · rw [if_neg q]; exact up _ (GB i (by omega))
  · rw [if_neg c1]
    by_cases q : i = 7
    · rw [if_pos q]; exact up _ G
    · rw [if_neg q]; exact up _ (GB (i + 1) (by omega))
/-- what a call's two sides do, told so that a turn of the law can be made of it -/
def ArmP (h : mxH) (j : Nat) (xs : List Int32) (L : Option (Int32 × mxH)) (K : mxH → Option (Int32 × mxH)) : Prop :=
  ∃ cd v, Ok L (fun o => o.1 = cd ∧ Fr (fun b => CF b ∨ b = 334) h o.2 ∧ (cd = 0 → ldJ o.2 334 0 = some v.toInt64) ∧ Ok (K o.2) (fun p => Fr KF o.2 p.2 ∧ V p.2 319 3 = cd ∧ (cd = 0 → p.1 = v) ∧ ∃ n' c', Inv p.2 n' c' (j + 1) xs))
section
variable {h : mxH} {n : Nat → Int32} {j c : Nat} {xs : List Int32}
theorem rc1_catch {A : String} {r : Int32 ⊕ String} {cd v : Int32} (H : RC1 A r cd v) : Catch (Hn (fun E6 h5 => (if E6 = A then some (1, h5) else none))) r cd v := by
  rcases H with ⟨a, b⟩ | ⟨a, b⟩
  · exact Or.inl ⟨a, b⟩
  · exact Or.inr ⟨A, a, fun h => by rw [b]; exact if_pos rfl, by rw [b]; decide⟩
theorem rc2_catch {A B : String} {r : Int32 ⊕ String} {cd v : Int32} (hAB : B ≠ A) (H : RC2 A B r cd v) : Catch (Hn (fun E6 h5 => (if E6 = A then some (1, h5) else (if E6 = B then some (2, h5) else none)))) r cd v := by
  rcases H with ⟨a, b⟩ | ⟨a, b⟩ | ⟨a, b⟩
  · exact Or.inl ⟨a, b⟩
  · exact Or.inr ⟨A, a, fun h => by rw [b]; exact if_pos rfl, by rw [b]; decide⟩
  · exact Or.inr ⟨B, a, fun h => by rw [b]; exact (if_neg hAB).trans (if_pos rfl), by rw [b]; decide⟩
theorem QF_CF {b : Nat} (z : QF b ∨ b = 334) : CF b ∨ b = 334 := by unfold QF at z; unfold CF; omega
theorem MX_KF {b : Nat} (z : MX b) : KF b := by unfold MX MF at z; unfold KF; omega
/-- a question -/
theorem ArmP_ask {R : Int32 ⊕ String → Int32 → Int32 → Prop} {m : Option ((Int32 ⊕ String) × mxH)} {k : mxH → Option (Int32 × mxH)} {g : String → mxH → Option (Int32 × mxH)} (I : Inv h n c j xs) (hg : ∀ r cd v, R r cd v → Catch (Hn g) r cd v) (A : Ask R h n m k) :
    ArmP h j xs (Option.bind (isO h 2 9) (fun _ => mxCatch m (fun v4 h5 => Option.bind (stJ h5 334 0 v4.toInt64) (fun h7 => some (0, h7))) g)) k := by
  obtain ⟨r, cd, v, hR, hm, hk⟩ := A
  refine ⟨cd, v, Ok_s (isH I.1) (Ok_m (Ok_catch (hg r cd v hR) hm) (fun o ⟨o1, o2, o3⟩ => ⟨o1, o2.mono (fun b z => QF_CF z), o3, ?_⟩))⟩
  have F : Fr QO h o.2 := o2
  refine Ok_m (hk o.2 F.1 (by rw [Fr_V F (by omega) (by unfold QO QF; omega)]; exact I.2.2.1)) (fun p M => ⟨M.1.mono (fun b z => MX_KF z), ?_, M.2.2.1, n, c, Inv_MS I F M⟩)
  rw [M.2.1, fup_eq]
/-- a change -/
theorem ArmP_chg {m : Option ((Int32 ⊕ String) × mxH)} {k : mxH → Option (Int32 × mxH)} {g : String → mxH → Option (Int32 × mxH)} (I : Inv h n c j xs) (A : Chg h n c j m k) :
    ArmP h j xs (Option.bind (isO h 2 9) (fun _ => mxCatch m (fun v4 h5 => Option.bind (stJ h5 334 0 v4.toInt64) (fun h7 => some (0, h7))) g)) k := by
  obtain ⟨W, s, N, S, Hi, Ch, G, GB⟩ := I
  obtain ⟨v, n', G', ⟨⟨r, h1⟩, e, er, F, S', H'⟩, hk⟩ := A
  subst e
  obtain rfl := show r = _ from er
  have F : Fr CF h h1 := F
  have c8 : c ≤ 8 := Hi.2.1
  obtain ⟨o, eo, o1, o2, o3⟩ := out_ok F.1 v.toInt64
  refine ⟨0, v, Ok_s (isH W) (Ok_e (a := o) eo ⟨o1, (F.mono (fun b z => Or.inl z)).trans (o2.mono (fun b z => Or.inr z)), fun _ => o3, ?_⟩)⟩
  have eB : Bf o.2 = Bf h := by
    funext i q
    show V o.2 321 _ = V h 321 _
    rw [Fr_V o2 (by omega) (by omega), Fr_V F (by omega) (by unfold CF; omega)]
  have So : SR o.2 3 n' := SR_fr S3 S' o2 (fun b b1 b2 b3 => by omega)
  have Ho : HR o.2 (min (c + 1) 8) (sav c (Bf h) n) := HR_fr H' o2 (fun b b1 b2 => by omega)
  refine Ok_m (hk o.2 o2.1 (by rw [Fr_V o2 (by omega) (by omega), Fr_V F (by omega) (by unfold CF; omega)]; exact N) (by rw [Fr_V o2 (by omega) (by omega), Fr_V F (by omega) (by unfold CF; omega)]; exact Ch)) (fun p ⟨p1, ⟨K1, K2, K3, K4⟩, p3⟩ => ⟨K1, K2, fun _ => p1, V p.2 320, min (c + 1) 8, ?_⟩)
  refine Inv_new K1.1 ?_ (SR_fr S3 So K1 (fun b b1 b2 b3 => by unfold KF; omega)) (HR_fr Ho K1 (fun b b1 b2 => by unfold KF; omega)) K3 p3 (fun i hi q hq => ?_) G' (sav_G c8 G GB)
  · rw [K1.2 0 (by omega) (by unfold KF; omega), o2.2 0 (by omega) (by omega), F.2 0 (by omega) (by unfold CF; omega)]; exact s
  · rw [K4 i hi q hq, eB]
theorem ArmP_do {R : Int32 ⊕ String → Int32 → Int32 → Prop} {m : Option ((Int32 ⊕ String) × mxH)} {k : mxH → Option (Int32 × mxH)} {g : String → mxH → Option (Int32 × mxH)} (I : Inv h n c j xs) (hg : ∀ r cd v, R r cd v → Catch (Hn g) r cd v) (A : Do R h n c j m k) :
    ArmP h j xs (Option.bind (isO h 2 9) (fun _ => mxCatch m (fun v4 h5 => Option.bind (stJ h5 334 0 v4.toInt64) (fun h7 => some (0, h7))) g)) k := by
  rcases A with A | A
  · exact ArmP_ask I hg A
  · exact ArmP_chg I A
/-- behind a turn -/
def Post (i : Int32) (j : Nat) (xs : List Int32) (q : Int32 × mxH) : Prop := q.1 = i + 5 ∧ ∃ n' c', Inv q.2 n' c' (j + 1) xs
theorem arm_end {i cd v : Int32} {o p : Int32 × mxH} (W : WF o.2) (o1 : o.1 = cd) (o3 : cd = 0 → ldJ o.2 334 0 = some v.toInt64) (F : Fr KF o.2 p.2) (p1 : V p.2 319 3 = cd) (p2 : cd = 0 → p.1 = v) (I : ∃ n' c', Inv p.2 n' c' (j + 1) xs) :
    Ok (Option.bind (isO p.2 319 10) (fun _ => Option.bind (fX10_thrown 319 p.2) (fun v14 => (if v14 = o.1 then (if o.1 = 0 then Option.bind (ldJ p.2 334 0) (fun r17 => (if (lg_cmp r17 p.1.toInt64) = 0 then some (i + 5, p.2) else none)) else some (i + 5, p.2)) else none)))) (Post i j xs) := by
  simp only [isO_X F.1, bN, m_thrown F.1, p1, o1, if_true]
  by_cases c0 : cd = 0
  · rw [if_pos c0, ldJ_fr W F (by unfold KF; omega), o3 c0, p2 c0]
    simp only [bN, lg_same, if_true]
    exact Ok_p ⟨rfl, I⟩
  · rw [if_neg c0]
    exact Ok_p ⟨rfl, I⟩
theorem nz0 : ¬ (CF 0 ∨ (0 : Nat) = 334) := by unfold CF; omega
theorem arm_0 {i : Int32} {L : Option (Int32 × mxH)} {K : mxH → Option (Int32 × mxH)} (A : ArmP h j xs L K) :
    Ok (Option.bind L (fun o4 => Option.bind (isO o4.2 319 10) (fun _ => Option.bind (K o4.2) (fun o10 => Option.bind (isO o10.2 319 10) (fun _ => Option.bind (fX10_thrown 319 o10.2) (fun v14 => (if v14 = o4.1 then (if o4.1 = 0 then Option.bind (ldJ o10.2 334 0) (fun r17 => (if (lg_cmp r17 o10.1.toInt64) = 0 then some (i + 5, o10.2) else none)) else some (i + 5, o10.2)) else none))))))) (Post i j xs) := by
  obtain ⟨cd, v, hL⟩ := A
  refine Ok_b hL (fun o ⟨o1, o2, o3, hK⟩ => Ok_s (isO_X o2.1) (Ok_b hK (fun p ⟨F, p1, p2, I⟩ => arm_end o2.1 o1 o3 F p1 p2 I)))
theorem arm_1 {i a1 a2 a3 a4 : Int32} {L : Int32 → mxH → Option (Int32 × mxH)} {K : Int32 → mxH → Option (Int32 × mxH)} (W : WF h) (S : SC h i a1 a2 a3 a4) (A : ArmP h j xs (L a1 h) (K a1)) :
    Ok (Option.bind (ldI h 0 (i + 1)) (fun v1 => Option.bind (L v1 h) (fun o4 => Option.bind (ldI o4.2 0 (i + 1)) (fun v5 => Option.bind (isO o4.2 319 10) (fun _ => Option.bind (K v5 o4.2) (fun o10 => Option.bind (isO o10.2 319 10) (fun _ => Option.bind (fX10_thrown 319 o10.2) (fun v14 => (if v14 = o4.1 then (if o4.1 = 0 then Option.bind (ldJ o10.2 334 0) (fun r17 => (if (lg_cmp r17 o10.1.toInt64) = 0 then some (i + 5, o10.2) else none)) else some (i + 5, o10.2)) else none))))))))) (Post i j xs) := by
  obtain ⟨cd, v, hL⟩ := A
  refine Ok_s S.1 (Ok_b hL (fun o ⟨o1, o2, o3, hK⟩ => ?_))
  have S2 := SC_fr S W o2 nz0
  exact Ok_s S2.1 (Ok_s (isO_X o2.1) (Ok_b hK (fun p ⟨F, p1, p2, I⟩ => arm_end o2.1 o1 o3 F p1 p2 I)))
theorem arm_2 {i a1 a2 a3 a4 : Int32} {L : Int32 → Int32 → mxH → Option (Int32 × mxH)} {K : Int32 → Int32 → mxH → Option (Int32 × mxH)} (W : WF h) (S : SC h i a1 a2 a3 a4) (A : ArmP h j xs (L a1 a2 h) (K a1 a2)) :
    Ok (Option.bind (ldI h 0 (i + 1)) (fun v1 => Option.bind (ldI h 0 (i + 2)) (fun v3 => Option.bind (L v1 v3 h) (fun o4 => Option.bind (ldI o4.2 0 (i + 1)) (fun v5 => Option.bind (ldI o4.2 0 (i + 2)) (fun v7 => Option.bind (isO o4.2 319 10) (fun _ => Option.bind (K v5 v7 o4.2) (fun o10 => Option.bind (isO o10.2 319 10) (fun _ => Option.bind (fX10_thrown 319 o10.2) (fun v14 => (if v14 = o4.1 then (if o4.1 = 0 then Option.bind (ldJ o10.2 334 0) (fun r17 => (if (lg_cmp r17 o10.1.toInt64) = 0 then some (i + 5, o10.2) else none)) else some (i + 5, o10.2)) else none))))))))))) (Post i j xs) := by
  obtain ⟨cd, v, hL⟩ := A
  refine Ok_s S.1 (Ok_s S.2.1 (Ok_b hL (fun o ⟨o1, o2, o3, hK⟩ => ?_)))
  have S2 := SC_fr S W o2 nz0
  exact Ok_s S2.1 (Ok_s S2.2.1 (Ok_s (isO_X o2.1) (Ok_b hK (fun p ⟨F, p1, p2, I⟩ => arm_end o2.1 o1 o3 F p1 p2 I))))
theorem arm_3 {i a1 a2 a3 a4 : Int32} {L : Int32 → Int32 → Int32 → mxH → Option (Int32 × mxH)} {K : Int32 → Int32 → Int32 → mxH → Option (Int32 × mxH)} (W : WF h) (S : SC h i a1 a2 a3 a4) (A : ArmP h j xs (L a1 a2 a3 h) (K a1 a2 a3)) :
    Ok (Option.bind (ldI h 0 (i + 1)) (fun v1 => Option.bind (ldI h 0 (i + 2)) (fun v3 => Option.bind (ldI h 0 (i + 3)) (fun v3' => Option.bind (L v1 v3 v3' h) (fun o4 => Option.bind (ldI o4.2 0 (i + 1)) (fun v5 => Option.bind (ldI o4.2 0 (i + 2)) (fun v7 => Option.bind (ldI o4.2 0 (i + 3)) (fun v7' => Option.bind (isO o4.2 319 10) (fun _ => Option.bind (K v5 v7 v7' o4.2) (fun o10 => Option.bind (isO o10.2 319 10) (fun _ => Option.bind (fX10_thrown 319 o10.2) (fun v14 => (if v14 = o4.1 then (if o4.1 = 0 then Option.bind (ldJ o10.2 334 0) (fun r17 => (if (lg_cmp r17 o10.1.toInt64) = 0 then some (i + 5, o10.2) else none)) else some (i + 5, o10.2)) else none))))))))))))) (Post i j xs) := by
  obtain ⟨cd, v, hL⟩ := A
  refine Ok_s S.1 (Ok_s S.2.1 (Ok_s S.2.2.1 (Ok_b hL (fun o ⟨o1, o2, o3, hK⟩ => ?_))))
  have S2 := SC_fr S W o2 nz0
  exact Ok_s S2.1 (Ok_s S2.2.1 (Ok_s S2.2.2.1 (Ok_s (isO_X o2.1) (Ok_b hK (fun p ⟨F, p1, p2, I⟩ => arm_end o2.1 o1 o3 F p1 p2 I)))))
/-- a turn that throws nothing -/
theorem armD {i : Int32} {m : Option (Int32 × mxH)} {k : mxH → Option (Int32 × mxH)} (I : Inv h n c j xs) (A : Ask0 h n m k) :
    Ok (Option.bind (isO h 2 9) (fun _ => Option.bind m (fun o4 => Option.bind (isO o4.2 319 10) (fun _ => Option.bind (k o4.2) (fun o8 => (if o4.1 = o8.1 then some (i + 5, o8.2) else none)))))) (Post i j xs) := by
  obtain ⟨v, hm, hk⟩ := A
  refine Ok_s (isH I.1) (Ok_b hm (fun o ⟨o1, F⟩ => Ok_s (isO_X F.1) (Ok_b (hk o.2 F.1 (by rw [Fr_V F (by omega) (by unfold QF; omega)]; exact I.2.2.1)) (fun p M => ?_))))
  rw [o1, M.2.2.1 rfl, if_pos rfl]
  exact Ok_p ⟨rfl, n, c, Inv_MS (p := p) I (F.mono (Q := QO) (fun b z => Or.inl z)) M⟩
theorem armI {i : Int32} {m : Option Int32} {k : mxH → Option (Int32 × mxH)} (I : Inv h n c j xs) (A : AskI n m k) :
    Ok (Option.bind (isO h 2 9) (fun _ => Option.bind m (fun v4 => Option.bind (isO h 319 10) (fun _ => Option.bind (k h) (fun o8 => (if v4 = o8.1 then some (i + 5, o8.2) else none)))))) (Post i j xs) := by
  obtain ⟨v, hm, hk⟩ := A
  refine Ok_s (isH I.1) (Ok_s hm (Ok_s (isO_X I.1) (Ok_b (hk h I.1 I.2.2.1) (fun p M => ?_))))
  rw [M.2.2.1 rfl, if_pos rfl]
  exact Ok_p ⟨rfl, n, c, Inv_MS (p := p) I (Fr.refl (P := QO) I.1) M⟩
end
