/-! THE PURE SIDE, 48: the turns -/
theorem isIX : ¬ IX = IA := by decide
section
variable {h : mxH} {n : Nat → Int32} {j c : Nat} {xs : List Int32} {i a1 a2 a3 a4 : Int32}
theorem T_0 (hj : j < 100000) (I : Inv h n c j xs) (S : SC h i a1 a2 a3 a4) : Ok (fLa_0 0 2 319 334 i h) (Post i j xs) := by
  have A : ArmP h j xs (fL_put 2 a1 a2 a3 334 h) (fX10_put 319 a1 a2 a3) := by
    unfold fL_put
    exact ArmP_do I (fun _ _ _ H => rc2_catch (by decide) H) (D_put I.1 I.2.2.2.1 I.2.2.2.2.1 I.2.2.2.2.2.2.1.1 I.2.2.2.2.2.2.1.2 I.2.2.2.2.1.2.1 a1 a2 a3)
  unfold fLa_0
  exact arm_3 (L := fun x0 x1 x2 h => fL_put 2 x0 x1 x2 334 h) (K := fun x0 x1 x2 => fX10_put 319 x0 x1 x2) I.1 S A
theorem T_1 (hj : j < 100000) (I : Inv h n c j xs) (S : SC h i a1 a2 a3 a4) : Ok (fLa_1 0 2 319 334 i h) (Post i j xs) := by
  have A : ArmP h j xs (fL_drop 2 a1 a2 334 h) (fX10_drop 319 a1 a2) := by
    unfold fL_drop
    exact ArmP_do I (fun _ _ _ H => rc2_catch (by decide) H) (D_drop I.1 I.2.2.2.1 I.2.2.2.2.1 I.2.2.2.2.2.2.1.1 I.2.2.2.2.2.2.1.2 I.2.2.2.2.1.2.1 a1 a2)
  unfold fLa_1
  exact arm_2 (L := fun x0 x1 h => fL_drop 2 x0 x1 334 h) (K := fun x0 x1 => fX10_drop 319 x0 x1) I.1 S A
theorem T_2 (hj : j < 100000) (I : Inv h n c j xs) (S : SC h i a1 a2 a3 a4) : Ok (fLa_2 0 2 319 334 i h) (Post i j xs) := by
  have A : ArmP h j xs (fL_setWeight 2 a1 a2 334 h) (fX10_setWeight 319 a1 a2) := by
    unfold fL_setWeight
    exact ArmP_do I (fun _ _ _ H => rc2_catch (by decide) H) (D_setWeight I.1 I.2.2.2.1 I.2.2.2.2.1 I.2.2.2.2.2.2.1.1 I.2.2.2.2.2.2.1.2 I.2.2.2.2.1.2.1 a1 a2)
  unfold fLa_2
  exact arm_2 (L := fun x0 x1 h => fL_setWeight 2 x0 x1 334 h) (K := fun x0 x1 => fX10_setWeight 319 x0 x1) I.1 S A
theorem T_3 (hj : j < 100000) (I : Inv h n c j xs) (S : SC h i a1 a2 a3 a4) : Ok (fLa_3 0 2 319 334 i h) (Post i j xs) := by
  have A : ArmP h j xs (fL_setRule 2 a1 334 h) (fX10_setRule 319 a1) := by
    unfold fL_setRule
    exact ArmP_do I (fun _ _ _ H => rc1_catch H) (D_setRule I.1 I.2.2.2.1 I.2.2.2.2.1 I.2.2.2.2.2.2.1.1 I.2.2.2.2.2.2.1.2 I.2.2.2.2.1.2.1 a1)
  unfold fLa_3
  exact arm_1 (L := fun x0 h => fL_setRule 2 x0 334 h) (K := fun x0 => fX10_setRule 319 x0) I.1 S A
theorem T_4 (hj : j < 100000) (I : Inv h n c j xs) (S : SC h i a1 a2 a3 a4) : Ok (fLa_4 0 2 319 334 i h) (Post i j xs) := by
  have A : ArmP h j xs (fL_setCosts 2 a1 a2 334 h) (fX10_setCosts 319 a1 a2) := by
    unfold fL_setCosts
    exact ArmP_do I (fun _ _ _ H => rc1_catch H) (D_setCosts I.1 I.2.2.2.1 I.2.2.2.2.1 I.2.2.2.2.2.2.1.1 I.2.2.2.2.2.2.1.2 I.2.2.2.2.1.2.1 a1 a2)
  unfold fLa_4
  exact arm_2 (L := fun x0 x1 h => fL_setCosts 2 x0 x1 334 h) (K := fun x0 x1 => fX10_setCosts 319 x0 x1) I.1 S A
theorem T_5 (hj : j < 100000) (I : Inv h n c j xs) (S : SC h i a1 a2 a3 a4) : Ok (fLa_5 0 2 319 334 i h) (Post i j xs) := by
  have A : ArmP h j xs (fL_setWindow 2 a1 a2 334 h) (fX10_setWindow 319 a1 a2) := by
    unfold fL_setWindow
    exact ArmP_do I (fun _ _ _ H => rc1_catch H) (D_setWindow I.1 I.2.2.2.1 I.2.2.2.2.1 I.2.2.2.2.2.2.1.1 I.2.2.2.2.1.2.1 a1 a2)
  unfold fLa_5
  exact arm_2 (L := fun x0 x1 h => fL_setWindow 2 x0 x1 334 h) (K := fun x0 x1 => fX10_setWindow 319 x0 x1) I.1 S A
theorem T_6 (hj : j < 100000) (I : Inv h n c j xs) (S : SC h i a1 a2 a3 a4) : Ok (fLa_6 0 2 319 334 i h) (Post i j xs) := by
  have A : ArmP h j xs (fL_push 2 a1 334 h) (fX10_push 319 a1) := by
    unfold fL_push
    exact ArmP_do I (fun _ _ _ H => rc1_catch H) (D_push I.1 I.2.2.2.1 I.2.2.2.2.1 I.2.2.2.2.2.2.1.1 I.2.2.2.2.2.2.1.2 hj I.2.2.2.2.1.2.1 a1)
  unfold fLa_6
  exact arm_1 (L := fun x0 h => fL_push 2 x0 334 h) (K := fun x0 => fX10_push 319 x0) I.1 S A
theorem T_8 (hj : j < 100000) (I : Inv h n c j xs) (S : SC h i a1 a2 a3 a4) : Ok (fLa_8 0 2 319 334 i h) (Post i j xs) := by
  have A : ArmP h j xs (fL_itemCount 2 a1 334 h) (fX10_itemCount 319 a1) := by
    unfold fL_itemCount
    exact ArmP_ask I (fun _ _ _ H => rc1_catch H) (Q_itemCount I.1 I.2.2.2.1 a1)
  unfold fLa_8
  exact arm_1 (L := fun x0 h => fL_itemCount 2 x0 334 h) (K := fun x0 => fX10_itemCount 319 x0) I.1 S A
theorem T_9 (hj : j < 100000) (I : Inv h n c j xs) (S : SC h i a1 a2 a3 a4) : Ok (fLa_9 0 2 319 334 i h) (Post i j xs) := by
  have A : ArmP h j xs (fL_thingAt 2 a1 a2 334 h) (fX10_thingAt 319 a1 a2) := by
    unfold fL_thingAt
    exact ArmP_ask I (fun _ _ _ H => rc1_catch H) (Q_thingAt I.1 I.2.2.2.1 I.2.2.2.2.2.2.1.1 a1 a2)
  unfold fLa_9
  exact arm_2 (L := fun x0 x1 h => fL_thingAt 2 x0 x1 334 h) (K := fun x0 x1 => fX10_thingAt 319 x0 x1) I.1 S A
theorem T_10 (hj : j < 100000) (I : Inv h n c j xs) (S : SC h i a1 a2 a3 a4) : Ok (fLa_10 0 2 319 334 i h) (Post i j xs) := by
  have A : ArmP h j xs (fL_markAt 2 a1 a2 334 h) (fX10_markAt 319 a1 a2) := by
    unfold fL_markAt
    exact ArmP_ask I (fun _ _ _ H => rc1_catch H) (Q_markAt I.1 I.2.2.2.1 I.2.2.2.2.2.2.1.1 a1 a2)
  unfold fLa_10
  exact arm_2 (L := fun x0 x1 h => fL_markAt 2 x0 x1 334 h) (K := fun x0 x1 => fX10_markAt 319 x0 x1) I.1 S A
theorem T_11 (hj : j < 100000) (I : Inv h n c j xs) (S : SC h i a1 a2 a3 a4) : Ok (fLa_11 0 2 319 334 i h) (Post i j xs) := by
  have A : ArmP h j xs (fL_placeOf 2 a1 a2 334 h) (fX10_placeOf 319 a1 a2) := by
    unfold fL_placeOf
    exact ArmP_ask I (fun _ _ _ H => rc2_catch (by decide) H) (Q_placeOf I.1 I.2.2.2.1 a1 a2)
  unfold fLa_11
  exact arm_2 (L := fun x0 x1 h => fL_placeOf 2 x0 x1 334 h) (K := fun x0 x1 => fX10_placeOf 319 x0 x1) I.1 S A
theorem T_12 (hj : j < 100000) (I : Inv h n c j xs) (S : SC h i a1 a2 a3 a4) : Ok (fLa_12 0 2 319 334 i h) (Post i j xs) := by
  have A : ArmP h j xs (fL_value 2 a1 334 h) (fX10_value 319 a1) := by
    unfold fL_value
    exact ArmP_ask I (fun _ _ _ H => rc1_catch H) (Q_value I.1 I.2.2.2.1 I.2.2.2.2.2.2.1.1 a1)
  unfold fLa_12
  exact arm_1 (L := fun x0 h => fL_value 2 x0 334 h) (K := fun x0 => fX10_value 319 x0) I.1 S A
theorem T_14 (hj : j < 100000) (I : Inv h n c j xs) (S : SC h i a1 a2 a3 a4) : Ok (fLa_14 0 2 319 334 i h) (Post i j xs) := by
  have A : ArmP h j xs (fL_ranked 2 a1 334 h) (fX10_ranked 319 a1) := by
    unfold fL_ranked
    exact ArmP_ask I (fun _ _ _ H => rc1_catch H) (Q_ranked I.1 I.2.2.2.1 I.2.2.2.2.2.2.1.1 a1)
  unfold fLa_14
  exact arm_1 (L := fun x0 h => fL_ranked 2 x0 334 h) (K := fun x0 => fX10_ranked 319 x0) I.1 S A
theorem T_15 (hj : j < 100000) (I : Inv h n c j xs) (S : SC h i a1 a2 a3 a4) : Ok (fLa_15 0 2 319 334 i h) (Post i j xs) := by
  have A : ArmP h j xs (fL_rankOf 2 a1 334 h) (fX10_rankOf 319 a1) := by
    unfold fL_rankOf
    exact ArmP_ask I (fun _ _ _ H => rc2_catch (by decide) H) (Q_rankOf I.1 I.2.2.2.1 I.2.2.2.2.2.2.1.1 a1)
  unfold fLa_15
  exact arm_1 (L := fun x0 h => fL_rankOf 2 x0 334 h) (K := fun x0 => fX10_rankOf 319 x0) I.1 S A
theorem T_16 (hj : j < 100000) (I : Inv h n c j xs) (S : SC h i a1 a2 a3 a4) : Ok (fLa_16 0 2 319 334 i h) (Post i j xs) := by
  have A : ArmP h j xs (fL_limit 2 a1 334 h) (fX10_limit 319 a1) := by
    unfold fL_limit
    exact ArmP_ask I (fun _ _ _ H => rc1_catch H) (Q_limit I.1 I.2.2.2.1 I.2.2.2.2.2.2.1.1 a1)
  unfold fLa_16
  exact arm_1 (L := fun x0 h => fL_limit 2 x0 334 h) (K := fun x0 => fX10_limit 319 x0) I.1 S A
theorem T_17 (hj : j < 100000) (I : Inv h n c j xs) (S : SC h i a1 a2 a3 a4) : Ok (fLa_17 0 2 319 334 i h) (Post i j xs) := by
  have A : ArmP h j xs (fL_stopDepth 2 a1 334 h) (fX10_stopDepth 319 a1) := by
    unfold fL_stopDepth
    exact ArmP_ask I (fun _ _ _ H => rc1_catch H) (Q_stopDepth I.1 I.2.2.2.1 I.2.2.2.2.2.2.1.1 a1)
  unfold fLa_17
  exact arm_1 (L := fun x0 h => fL_stopDepth 2 x0 334 h) (K := fun x0 => fX10_stopDepth 319 x0) I.1 S A
theorem T_18 (hj : j < 100000) (I : Inv h n c j xs) (S : SC h i a1 a2 a3 a4) : Ok (fLa_18 0 2 319 334 i h) (Post i j xs) := by
  have A : ArmP h j xs (fL_cost 2 a1 334 h) (fX10_cost 319 a1) := by
    unfold fL_cost
    exact ArmP_ask I (fun _ _ _ H => rc1_catch H) (Q_cost I.1 I.2.2.2.1 I.2.2.2.2.2.2.1.1 a1)
  unfold fLa_18
  exact arm_1 (L := fun x0 h => fL_cost 2 x0 334 h) (K := fun x0 => fX10_cost 319 x0) I.1 S A
theorem T_19 (hj : j < 100000) (I : Inv h n c j xs) (S : SC h i a1 a2 a3 a4) : Ok (fLa_19 0 2 319 334 i h) (Post i j xs) := by
  have A : ArmP h j xs (fL_best 2 a1 a2 334 h) (fX10_best 319 a1 a2) := by
    unfold fL_best
    exact ArmP_ask I (fun _ _ _ H => rc2_catch (by decide) H) (Q_best I.1 I.2.2.2.1 I.2.2.2.2.2.2.1.1 a1 a2)
  unfold fLa_19
  exact arm_2 (L := fun x0 x1 h => fL_best 2 x0 x1 334 h) (K := fun x0 x1 => fX10_best 319 x0 x1) I.1 S A
theorem T_20 (hj : j < 100000) (I : Inv h n c j xs) (S : SC h i a1 a2 a3 a4) : Ok (fLa_20 0 2 319 334 i h) (Post i j xs) := by
  have A : ArmP h j xs (fL_refute 2 a1 a2 334 h) (fX10_refute 319 a1 a2) := by
    unfold fL_refute
    exact ArmP_ask I (fun _ _ _ H => rc2_catch (by decide) H) (Q_refute I.1 I.2.2.2.1 I.2.2.2.2.2.2.1.1 a1 a2)
  unfold fLa_20
  exact arm_2 (L := fun x0 x1 h => fL_refute 2 x0 x1 334 h) (K := fun x0 x1 => fX10_refute 319 x0 x1) I.1 S A
theorem T_21 (hj : j < 100000) (I : Inv h n c j xs) (S : SC h i a1 a2 a3 a4) : Ok (fLa_21 0 2 319 334 i h) (Post i j xs) := by
  have A : ArmP h j xs (fL_lower 2 a1 a2 334 h) (fX10_lower 319 a1 a2) := by
    unfold fL_lower
    exact ArmP_ask I (fun _ _ _ H => rc2_catch (by decide) H) (Q_lower I.1 I.2.2.2.1 I.2.2.2.2.2.2.1.1 a1 a2)
  unfold fLa_21
  exact arm_2 (L := fun x0 x1 h => fL_lower 2 x0 x1 334 h) (K := fun x0 x1 => fX10_lower 319 x0 x1) I.1 S A
theorem T_22 (hj : j < 100000) (I : Inv h n c j xs) (S : SC h i a1 a2 a3 a4) : Ok (fLa_22 0 2 319 334 i h) (Post i j xs) := by
  have A : ArmP h j xs (fL_upper 2 a1 a2 334 h) (fX10_upper 319 a1 a2) := by
    unfold fL_upper
    exact ArmP_ask I (fun _ _ _ H => rc2_catch (by decide) H) (Q_upper I.1 I.2.2.2.1 I.2.2.2.2.2.2.1.1 a1 a2)
  unfold fLa_22
  exact arm_2 (L := fun x0 x1 h => fL_upper 2 x0 x1 334 h) (K := fun x0 x1 => fX10_upper 319 x0 x1) I.1 S A
theorem T_23 (hj : j < 100000) (I : Inv h n c j xs) (S : SC h i a1 a2 a3 a4) : Ok (fLa_23 0 2 319 334 i h) (Post i j xs) := by
  have A : ArmP h j xs (fL_plainDepth 2 a1 334 h) (fX10_plainDepth 319 a1) := by
    unfold fL_plainDepth
    exact ArmP_ask I (fun _ _ _ H => rc1_catch H) (Q_plainDepth I.1 I.2.2.2.1 I.2.2.2.2.2.2.1.1 a1)
  unfold fLa_23
  exact arm_1 (L := fun x0 h => fL_plainDepth 2 x0 334 h) (K := fun x0 => fX10_plainDepth 319 x0) I.1 S A
theorem T_24 (hj : j < 100000) (I : Inv h n c j xs) (S : SC h i a1 a2 a3 a4) : Ok (fLa_24 0 2 319 334 i h) (Post i j xs) := by
  have A : ArmP h j xs (fL_plainCost 2 a1 334 h) (fX10_plainCost 319 a1) := by
    unfold fL_plainCost
    exact ArmP_ask I (fun _ _ _ H => rc1_catch H) (Q_plainCost I.1 I.2.2.2.1 I.2.2.2.2.2.2.1.1 a1)
  unfold fLa_24
  exact arm_1 (L := fun x0 h => fL_plainCost 2 x0 334 h) (K := fun x0 => fX10_plainCost 319 x0) I.1 S A
theorem T_27 (hj : j < 100000) (I : Inv h n c j xs) (S : SC h i a1 a2 a3 a4) : Ok (fLa_27 0 2 319 334 i h) (Post i j xs) := by
  have A : ArmP h j xs (fL_mergedThing 2 a1 334 h) (fX10_mergedThing 319 a1) := by
    unfold fL_mergedThing
    exact ArmP_ask I (fun _ _ _ H => rc1_catch H) (Q_mergedThing I.1 I.2.2.2.1 I.2.2.2.2.2.2.1.1 a1)
  unfold fLa_27
  exact arm_1 (L := fun x0 h => fL_mergedThing 2 x0 334 h) (K := fun x0 => fX10_mergedThing 319 x0) I.1 S A
theorem T_28 (hj : j < 100000) (I : Inv h n c j xs) (S : SC h i a1 a2 a3 a4) : Ok (fLa_28 0 2 319 334 i h) (Post i j xs) := by
  have A : ArmP h j xs (fL_mergedRow 2 a1 334 h) (fX10_mergedRow 319 a1) := by
    unfold fL_mergedRow
    exact ArmP_ask I (fun _ _ _ H => rc1_catch H) (Q_mergedRow I.1 I.2.2.2.1 I.2.2.2.2.2.2.1.1 a1)
  unfold fLa_28
  exact arm_1 (L := fun x0 h => fL_mergedRow 2 x0 334 h) (K := fun x0 => fX10_mergedRow 319 x0) I.1 S A
theorem T_29 (hj : j < 100000) (I : Inv h n c j xs) (S : SC h i a1 a2 a3 a4) : Ok (fLa_29 0 2 319 334 i h) (Post i j xs) := by
  have A : ArmP h j xs (fL_comparisons 2 a1 a2 334 h) (fX10_comparisons 319 a1 a2) := by
    unfold fL_comparisons
    exact ArmP_ask I (fun _ _ _ H => rc2_catch (by decide) H) (Q_comparisons I.1 I.2.2.2.1 I.2.2.2.2.2.2.1.1 a1 a2)
  unfold fLa_29
  exact arm_2 (L := fun x0 x1 h => fL_comparisons 2 x0 x1 334 h) (K := fun x0 x1 => fX10_comparisons 319 x0 x1) I.1 S A
theorem T_31 (hj : j < 100000) (I : Inv h n c j xs) (S : SC h i a1 a2 a3 a4) : Ok (fLa_31 0 2 319 334 i h) (Post i j xs) := by
  have A : ArmP h j xs (fL_quantile 2 a1 334 h) (fX10_quantile 319 a1) := by
    unfold fL_quantile
    exact ArmP_ask I (fun _ _ _ H => rc2_catch (by decide) H) (Q_quantile I.1 I.2.2.2.1 I.2.2.2.2.2.2.1.1 a1)
  unfold fLa_31
  exact arm_1 (L := fun x0 h => fL_quantile 2 x0 334 h) (K := fun x0 => fX10_quantile 319 x0) I.1 S A
theorem T_33 (hj : j < 100000) (I : Inv h n c j xs) (S : SC h i a1 a2 a3 a4) : Ok (fLa_33 0 2 319 334 i h) (Post i j xs) := by
  have A : ArmP h j xs (fL_prefer 2 a1 a2 334 h) (fX10_prefer 319 a1 a2) := by
    unfold fL_prefer
    exact ArmP_ask I (fun _ _ _ H => rc1_catch H) (Q_prefer I.1 I.2.2.2.1 a1 a2)
  unfold fLa_33
  exact arm_2 (L := fun x0 x1 h => fL_prefer 2 x0 x1 334 h) (K := fun x0 x1 => fX10_prefer 319 x0 x1) I.1 S A
theorem T_34 (hj : j < 100000) (I : Inv h n c j xs) (S : SC h i a1 a2 a3 a4) : Ok (fLa_34 0 2 319 334 i h) (Post i j xs) := by
  unfold fLa_34 fL_winner
  exact arm_0 (K := fun h => fX10_winner 319 h) (ArmP_ask I (fun _ _ _ H => rc1_catch H) (Q_winner I.1 I.2.2.2.1 ))
theorem T_37 (hj : j < 100000) (I : Inv h n c j xs) (S : SC h i a1 a2 a3 a4) : Ok (fLa_37 0 2 319 334 i h) (Post i j xs) := by
  have A : ArmP h j xs (fL_orderAt 2 a1 334 h) (fX10_orderAt 319 a1) := by
    unfold fL_orderAt
    exact ArmP_ask I (fun _ _ _ H => rc1_catch H) (Q_orderAt I.1 I.2.2.2.1 a1)
  unfold fLa_37
  exact arm_1 (L := fun x0 h => fL_orderAt 2 x0 334 h) (K := fun x0 => fX10_orderAt 319 x0) I.1 S A
theorem T_39 (hj : j < 100000) (I : Inv h n c j xs) (S : SC h i a1 a2 a3 a4) : Ok (fLa_39 0 2 319 334 i h) (Post i j xs) := by
  have A : ArmP h j xs (fL_windowAt 2 a1 334 h) (fX10_windowAt 319 a1) := by
    unfold fL_windowAt
    exact ArmP_ask I (fun _ _ _ H => rc1_catch H) (Q_windowAt I.1 I.2.2.2.1 I.2.2.2.2.2.2.1.1 hj a1)
  unfold fLa_39
  exact arm_1 (L := fun x0 h => fL_windowAt 2 x0 334 h) (K := fun x0 => fX10_windowAt 319 x0) I.1 S A
theorem T_41 (hj : j < 100000) (I : Inv h n c j xs) (S : SC h i a1 a2 a3 a4) : Ok (fLa_41 0 2 319 334 i h) (Post i j xs) := by
  have A : ArmP h j xs (fL_counted 2 a1 334 h) (fX10_counted 319 a1) := by
    unfold fL_counted
    exact ArmP_ask I (fun _ _ _ H => rc1_catch H) (Q_counted I.1 I.2.2.2.1 I.2.2.2.2.2.2.1.1 a1)
  unfold fLa_41
  exact arm_1 (L := fun x0 h => fL_counted 2 x0 334 h) (K := fun x0 => fX10_counted 319 x0) I.1 S A
theorem T_42 (hj : j < 100000) (I : Inv h n c j xs) (S : SC h i a1 a2 a3 a4) : Ok (fLa_42 0 2 319 334 i h) (Post i j xs) := by
  have A : ArmP h j xs (fL_came 2 a1 334 h) (fX10_came 319 a1) := by
    unfold fL_came
    exact ArmP_ask I (fun _ _ _ H => rc1_catch H) (Q_came I.1 I.2.2.2.1 a1)
  unfold fLa_42
  exact arm_1 (L := fun x0 h => fL_came 2 x0 334 h) (K := fun x0 => fX10_came 319 x0) I.1 S A
theorem T_44 (hj : j < 100000) (I : Inv h n c j xs) (S : SC h i a1 a2 a3 a4) : Ok (fLa_44 0 2 319 334 i h) (Post i j xs) := by
  have A : ArmP h j xs (fL_pairSum 2 a1 a2 a3 334 h) (fX10_pairSum 319 a1 a2 a3) := by
    unfold fL_pairSum
    exact ArmP_ask I (fun _ _ _ H => rc1_catch H) (Q_pairSum I.1 I.2.2.2.1 I.2.2.2.2.2.2.1.1 a1 a2 a3)
  unfold fLa_44
  exact arm_3 (L := fun x0 x1 x2 h => fL_pairSum 2 x0 x1 x2 334 h) (K := fun x0 x1 x2 => fX10_pairSum 319 x0 x1 x2) I.1 S A
theorem T_46 (hj : j < 100000) (I : Inv h n c j xs) (S : SC h i a1 a2 a3 a4) : Ok (fLa_46 0 2 319 334 i h) (Post i j xs) := by
  have A : ArmP h j xs (fL_common 2 a1 a2 334 h) (fX10_common 319 a1 a2) := by
    unfold fL_common
    exact ArmP_ask I (fun _ _ _ H => rc1_catch H) (Q_common I.1 I.2.2.2.1 a1 a2)
  unfold fLa_46
  exact arm_2 (L := fun x0 x1 h => fL_common 2 x0 x1 334 h) (K := fun x0 x1 => fX10_common 319 x0 x1) I.1 S A
theorem T_47 (hj : j < 100000) (I : Inv h n c j xs) (S : SC h i a1 a2 a3 a4) : Ok (fLa_47 0 2 319 334 i h) (Post i j xs) := by
  have A : ArmP h j xs (fL_commonAt 2 a1 a2 a3 334 h) (fX10_commonAt 319 a1 a2 a3) := by
    unfold fL_commonAt
    exact ArmP_ask I (fun _ _ _ H => rc1_catch H) (Q_commonAt I.1 I.2.2.2.1 a1 a2 a3)
  unfold fLa_47
  exact arm_3 (L := fun x0 x1 x2 h => fL_commonAt 2 x0 x1 x2 334 h) (K := fun x0 x1 x2 => fX10_commonAt 319 x0 x1 x2) I.1 S A
theorem T_13 (hj : j < 100000) (I : Inv h n c j xs) (S : SC h i a1 a2 a3 a4) : Ok (fLa_13 0 2 319 334 i h) (Post i j xs) := by
  unfold fLa_13
  exact armD (k := fX10_knownCount 319) I (Q_knownCount I.1 I.2.2.2.1 I.2.2.2.2.2.2.1.1)
theorem T_30 (hj : j < 100000) (I : Inv h n c j xs) (S : SC h i a1 a2 a3 a4) : Ok (fLa_30 0 2 319 334 i h) (Post i j xs) := by
  unfold fLa_30
  exact armD (k := fX10_allComparisons 319) I (Q_allComparisons I.1 I.2.2.2.1 I.2.2.2.2.2.2.1.1)
theorem T_32 (hj : j < 100000) (I : Inv h n c j xs) (S : SC h i a1 a2 a3 a4) : Ok (fLa_32 0 2 319 334 i h) (Post i j xs) := by
  unfold fLa_32
  exact armD (k := fX10_candidates 319) I (Q_candidates I.1 I.2.2.2.1)
theorem T_35 (hj : j < 100000) (I : Inv h n c j xs) (S : SC h i a1 a2 a3 a4) : Ok (fLa_35 0 2 319 334 i h) (Post i j xs) := by
  unfold fLa_35
  exact armD (k := fX10_ring 319) I (Q_ring I.1 I.2.2.2.1)
theorem T_36 (hj : j < 100000) (I : Inv h n c j xs) (S : SC h i a1 a2 a3 a4) : Ok (fLa_36 0 2 319 334 i h) (Post i j xs) := by
  unfold fLa_36
  exact armD (k := fX10_swaps 319) I (Q_swaps I.1 I.2.2.2.1)
theorem T_50 (hj : j < 100000) (I : Inv h n c j xs) (S : SC h i a1 a2 a3 a4) : Ok (fLa_50 0 2 319 334 i h) (Post i j xs) := by
  unfold fLa_50
  exact armD (k := fX10_errors 319) I (Q_errors I.1 I.2.2.2.1 I.2.2.2.2.2.2.1.1)
theorem T_26 (hj : j < 100000) (I : Inv h n c j xs) (S : SC h i a1 a2 a3 a4) : Ok (fLa_26 0 2 319 334 i h) (Post i j xs) := by
  unfold fLa_26
  exact armI (k := fX10_mergedCount 319) I (Q_mergedCount I.1 I.2.2.2.1)
theorem T_38 (hj : j < 100000) (I : Inv h n c j xs) (S : SC h i a1 a2 a3 a4) : Ok (fLa_38 0 2 319 334 i h) (Post i j xs) := by
  unfold fLa_38
  exact armI (k := fX10_windowSize 319) I (Q_windowSize I.1 I.2.2.2.1 I.2.2.2.2.2.2.1.1 hj)
theorem T_40 (hj : j < 100000) (I : Inv h n c j xs) (S : SC h i a1 a2 a3 a4) : Ok (fLa_40 0 2 319 334 i h) (Post i j xs) := by
  unfold fLa_40
  exact armI (k := fX10_unlike 319) I (Q_unlike I.1 I.2.2.2.1 I.2.2.2.2.2.2.1.1 hj)
theorem T_43 (hj : j < 100000) (I : Inv h n c j xs) (S : SC h i a1 a2 a3 a4) : Ok (fLa_43 0 2 319 334 i h) (Post i j xs) := by
  unfold fLa_43
  exact armI (k := fX10_bound 319) I (Q_bound I.1 I.2.2.2.1)
theorem T_7 (hj : j < 100000) (I : Inv h n c j xs) (S : SC h i a1 a2 a3 a4) : Ok (fLa_7 0 2 319 334 i h) (Post i j xs) := by
  obtain ⟨W, s, N, S', Hi, Ch, G, GB⟩ := I
  obtain ⟨v, n', c', z0, z1, hm, hk⟩ := D_undo W S' Hi (fun i hi => (GB i hi).1)
  unfold fLa_7
  refine Ok_s (isH W) (Ok_b hm (fun o ⟨o1, F, So, Ho⟩ => Ok_s (isO_X F.1) ?_))
  have eB : Bf o.2 = Bf h := by
    funext i q
    show V o.2 321 _ = V h 321 _
    rw [Fr_V F (by omega) (by unfold CF; omega)]
  refine Ok_b (hk o.2 F.1 (by rw [Fr_V F (by omega) (by unfold CF; omega)]; exact N) (by rw [Fr_V F (by omega) (by unfold CF; omega)]; exact Ch) eB) (fun p ⟨p1, K1, p2, p3, p4⟩ => ?_)
  rw [o1, p1, if_pos rfl]
  refine Ok_p ⟨rfl, V p.2 320, c', Inv_new K1.1 ?_ (SR_fr S3 So K1 (fun b b1 b2 b3 => by unfold KF; omega)) (HR_fr Ho K1 (fun b b1 b2 => by unfold KF; omega)) p2 p3 (fun i hi q hq => by rw [p4, eB]) ?_ (fun i hi => ?_)⟩
  · rw [K1.2 0 (by omega) (by unfold KF; omega), F.2 0 (by omega) (by unfold CF; omega)]; exact s
  · by_cases z : c = 0
    · rw [(z0 z).1]; exact ⟨GD_mono G.1 (by omega), G.2⟩
    · rw [(z1 (by omega)).1]; exact ⟨GD_mono (GB _ (by omega)).1 (by omega), (GB _ (by omega)).2⟩
  · by_cases z : c = 0
    · rw [(z0 z).2] at hi; omega
    · rw [(z1 (by omega)).2] at hi
      exact ⟨GD_mono (GB i (by omega)).1 (by omega), (GB i (by omega)).2⟩
theorem T_25 (hj : j < 100000) (I : Inv h n c j xs) (S : SC h i a1 a2 a3 a4) : Ok (fLa_25 0 2 319 334 i h) (Post i j xs) := by
  obtain ⟨r, cd, v, hR, ⟨⟨r', g⟩, eg, er, F⟩, hk⟩ := Q_holds I.1 I.2.2.2.1 I.2.2.2.2.2.2.1.1 a1 a2 a3 a4
  obtain rfl := show r' = r from er
  have F : Fr QF h g := F
  unfold fLa_25 fL_holds
  refine Ok_s S.1 (Ok_s S.2.1 (Ok_s S.2.2.1 (Ok_s S.2.2.2 ?_)))
  have key : Ok (Option.bind (isO h 2 9) (fun u2 => mxCatch (fX9_holds 2 a1 a2 a3 a4 h) (fun v4 h5 => Option.bind (α := Int64) (if v4 = 0 then some 0 else some 1) (fun p9' : Int64 => Option.bind (stJ h5 334 0 p9') (fun h11 => some ((0 : Int32), h11)))) (fun E6 h5 => (if E6 = "java/lang/IndexOutOfBoundsException" then some (1, h5) else (if E6 = "java/lang/IllegalArgumentException" then some (2, h5) else none))))) (fun o => o.1 = cd ∧ Fr QO h o.2 ∧ (cd = 0 → ldJ o.2 334 0 = some (if v = 0 then 0 else 1))) := by
    refine Ok_s (isH I.1) ?_
    rw [eg]
    rcases hR with ⟨a, b⟩ | ⟨a, b⟩ | ⟨a, b⟩
    · rw [a, b]
      show Ok (Option.bind (if v = 0 then some 0 else some 1) _) _
      refine Ok_s (a := if v = 0 then 0 else 1) (by by_cases z : v = 0 <;> simp [z]) ?_
      exact Ok_m (out_ok F.1 _) (fun o ⟨o1, o2, o3⟩ => ⟨o1, (F.mono (fun b z => Or.inl z)).trans (o2.mono (fun b z => Or.inr z)), fun _ => o3⟩)
    · rw [a, b]
      exact Ok_e (a := (1, g)) (by show (if IX = IX then some ((1 : Int32), g) else (if IX = IA then some (2, g) else none)) = _; exact if_pos rfl) ⟨rfl, F.mono (fun b z => Or.inl z), fun z => absurd z (by decide)⟩
    · rw [a, b]
      exact Ok_e (a := (2, g)) (by show (if IA = IX then some ((1 : Int32), g) else (if IA = IA then some (2, g) else none)) = _; rw [if_neg (show ¬ IA = IX by decide), if_pos rfl]) ⟨rfl, F.mono (fun b z => Or.inl z), fun z => absurd z (by decide)⟩
  refine Ok_b key (fun o ⟨o1, o2, o3⟩ => ?_)
  have S2 := SC_fr S I.1 o2 (by unfold QO QF; omega)
  refine Ok_s S2.1 (Ok_s S2.2.1 (Ok_s S2.2.2.1 (Ok_s S2.2.2.2 (Ok_s (isO_X o2.1) (Ok_b (hk o.2 o2.1 (by rw [Fr_V o2 (by omega) (by unfold QO QF; omega)]; exact I.2.2.1)) (fun p M => ?_))))))
  obtain ⟨M1, M2, M3, M4⟩ := id M
  simp only [isO_X M1.1, bN, m_thrown M1.1, M2, fup_eq, o1, if_true]
  by_cases c0 : cd = 0
  · rw [if_pos c0, ldJ_fr o2.1 M1 (by unfold MX MF; omega), o3 c0, M3 c0]
    simp only [bN]
    refine Ok_s (a := if v = 0 then 0 else 1) (by by_cases z : v = 0 <;> simp [z]) ?_
    rw [lg_same, if_pos rfl]
    exact Ok_p ⟨rfl, n, c, Inv_MS (p := p) I o2 M⟩
  · rw [if_neg c0]
    exact Ok_p ⟨rfl, n, c, Inv_MS (p := p) I o2 M⟩
theorem T_45 (hj : j < 100000) (I : Inv h n c j xs) (S : SC h i a1 a2 a3 a4) : Ok (fLa_45 0 2 319 334 i h) (Post i j xs) := by
  have e01 : (if a4 = 0 then some (0 : Int32) else some 1) = some (if a4 = 0 then 0 else 1) := by by_cases z : a4 = 0 <;> simp [z]
  have A : ArmP h j xs (fL_pairPlace 2 a1 a2 a3 (if a4 = 0 then 0 else 1) 334 h) (fX10_pairPlace 319 a1 a2 a3 (if a4 = 0 then 0 else 1)) := by
    unfold fL_pairPlace
    exact ArmP_ask I (fun _ _ _ H => rc1_catch H) (Q_pairPlace I.1 I.2.2.2.1 I.2.2.2.2.2.2.1.1 a1 a2 a3 _)
  unfold fLa_45
  refine Ok_s S.1 (Ok_s S.2.1 (Ok_s S.2.2.1 (Ok_s S.2.2.2 (Ok_s e01 ?_))))
  obtain ⟨cd, v, hL⟩ := A
  refine Ok_b hL (fun o ⟨o1, o2, o3, hK⟩ => ?_)
  have S2 := SC_fr S I.1 o2 nz0
  exact Ok_s S2.1 (Ok_s S2.2.1 (Ok_s S2.2.2.1 (Ok_s S2.2.2.2 (Ok_s e01 (Ok_s (isO_X o2.1) (Ok_b hK (fun p ⟨F, p1, p2, I⟩ => arm_end o2.1 o1 o3 F p1 p2 I)))))))
theorem MSf_Inv {p : mxH} (I : Inv h n c j xs) (M : MSf h 0 p) : Inv p n c (j + 1) xs :=
  Inv_MS (p := (0, p)) (v := 0) (x := 0) I (Fr.refl (P := QO) I.1) ⟨M.1, M.2.1, fun _ => rfl, M.2.2⟩
theorem T_48 (hj : j < 100000) (I : Inv h n c j xs) (S : SC h i a1 a2 a3 a4) : Ok (fLa_48 0 2 319 334 i h) (Post i j xs) := by
  obtain ⟨v, hm, hk⟩ := Q_meanMark I.1 I.2.2.2.1 I.2.2.2.2.2.2.1.1
  unfold fLa_48
  refine Ok_s (isH I.1) (Ok_s hm (Ok_s (isO_X I.1) (Ok_b (hk h I.1 I.2.2.1) (fun p ⟨p1, M⟩ => ?_))))
  rw [p1]
  by_cases z : (Op.cmpValue (FP.dcmp v v) CmpOp.l) = 0
  · rw [if_pos z]; exact Ok_p ⟨rfl, n, c, MSf_Inv I M⟩
  · rw [if_neg z, if_neg z, if_neg z]; exact Ok_p ⟨rfl, n, c, MSf_Inv I M⟩
theorem T_49 (hj : j < 100000) (I : Inv h n c j xs) (S : SC h i a1 a2 a3 a4) : Ok (fLa_49 0 2 319 334 i h) (Post i j xs) := by
  obtain ⟨v, d, hm, hd, hk⟩ := Q_fill I.1 I.2.2.2.1
  unfold fLa_49
  refine Ok_s (isH I.1) (Ok_s hm (Ok_s hd (Ok_s (isO_X I.1) (Ok_b (hk h I.1 I.2.2.1) (fun p ⟨p1, M⟩ => ?_)))))
  rw [p1]
  refine Ok_s hd ?_
  by_cases z : (Op.cmpValue (FP.dcmp d d) CmpOp.l) = 0
  · rw [if_pos z]; exact Ok_p ⟨rfl, n, c, MSf_Inv I M⟩
  · rw [if_neg z, if_neg z, if_neg z]; exact Ok_p ⟨rfl, n, c, MSf_Inv I M⟩
end
