/-! ===== the reference's methods: counts, the first order ===== -/
/-- how many orders are in a state -/
def many (S : zS) (N : Nat) (c : Int) : Int := sm (fun k => bi (S 14 k = c)) N
theorem many_le (S : zS) (N : Nat) (c : Int) : 0 ≤ many S N c ∧ many S N c ≤ N := by
  have h := sm_le (f := fun k => bi (S 14 k = c)) (b := 1) (fun k => bi_le _) N
  simp at h
  exact h
set_option maxHeartbeats 400000 in
theorem c_many (l : Launch) (hl : l.stackTraces = false) (S : zS) (μ : aM) (hB : mB μ) {N : Nat} (hN : S 12 0 = N) (hN2 : N ≤ 1000) (c : Int) : CtE l mdX5_many [aR 12, aI c] (put S μ) (some (aI (many S N c))) (put S μ) := by
  refine CtE.of hl rfl rfl rfl rfl (fun K hM hK => ?_)
  show Bd _ _ _ _ _ 0 [aR 12, aI c, aU, aU] [] (put S μ) 0
  have hm : ∀ k, 0 ≤ many S k c ∧ many S k c ≤ k := fun k => many_le S k c
  have hs : ∀ k, many S (k + 1) c = many S k c + bi (S 14 k = c) := fun k => rfl
  have main : ∀ k, k ≤ N → Bd l mdX5_many K nX (rN (put S μ)) 4 [aR 12, aI c, aI (many S k c), aI (k : Int)] [] (put S μ) 0 := by
    refine up_to N (fun k hk ih => ?_)
    refine wp_ok (snX5_many l _ _ _) cuX5_many 300 ?_
    simp only [tX5_many_0, tX5_many_4, wX5_many_0, wX5_many_1, wX5_many_2, wX5_many_3, wX5_many_4, wX5_many_5, wX5_many_6, wX5_many_9, wX5_many_12, wX5_many_13, wX5_many_14, wX5_many_17, wX5_many_18, wX5_many_19, wX5_many_20, wX5_many_23, wX5_many_24, wX5_many_27, wX5_many_28, wX5_many_29, wX5_many_30, wX5_many_33, wX5_many_36, wX5_many_37, sLd, sSt, sSt2, sInc, sPush, sBin, sUn, sRem, sI2l, sLbin, sLcmp, sDup, sDup2, sIf, sIc, sNul, sNn, sAcmp, sGoto, sGetI, sGetL, sGetR, sPutI, sPutL, sPutR, sAldI, sAldL, sAldD, sAldR, sAstI, sAstC, sAstL, sAstD, sAstR, sAlen, sNewA, sNewO, sObj, sMath, sMin, sAbs, sCallV, sCallS, sRetI, sRetL, sRetF, sRetD, sRetR, sRetV, sThrow, sI2f, sL2d, sFdiv, sDdiv, lg, lst, clr, c2V, isI, isR, isF, isD, pEq, pNe, pLt, pGe, pGt, pLe, qEq, qNe, qLt, qGe, qGt, qLe, fAdd, fSub, fMul, fNeg, fLadd, fLmul, cs9, List.take, List.drop, List.reverse, List.reverseAux, Option.toList_some, Option.toList_none, bi_0, List.cons_append, List.nil_append, List.append_nil, List.length_cons, List.length_nil, ite_true, ite_false, if_true, if_false, Bool.false_eq_true, Bool.or_false, Bool.false_or, Bool.or_true, Bool.true_or, Nat.reduceBEq, Nat.reduceAdd, Nat.reduceEqDiff, Nat.reduceLeDiff, Nat.reduceLT, true_and, and_true, eq_self, reduceIte, Nat.le_refl, nar_b0, nar_b1, nar_i, nar_bi, nr_0_0, nr_0_1, nr_0_2, nr_1_0, nr_2_0, nr_2_1, nr_2_2, nr_2_3, nr_2_4, nr_2_5, nr_2_6, nr_2_7, nr_2_8, nr_2_9, nr_2_10, nr_3_4, nr_3_5, nr_4_5, nr_4_6, nr_4_7, nr_4_8, nr_5_0, nr_5_12, nr_5_13, nr_5_18, nr_5_21, nr_5_22, nr_5_23, nr_5_24, Int.toNat_natCast, Nat.zero_le, ge_iff_le, gt_iff_lt, ne_eq, not_true_eq_false, not_false_eq_true, shp_2, shp_3, shp_4, shp_5, shp_6, shp_7, shp_8, shp_9, shp_10, shp_11, shp_12, shp_13, shp_14, shp_15, shp_16, shp_17, shp_18, shp_19, shp_20, shp_21, shp_22, shp_23, shp_24, shp_25, shp_26, shp_27, shp_28, shp_29, rR_put, hB.1, mr_1, mr_2, mr_3, mr_4, mr_5, mr_6, mr_7, mr_8, mr_9, mr_10, mr_11, mr_14, mr_15, mr_16, mr_17, rI_put, sI_put, okA_put, hB.ok, rL_put19, rL_put20, sL_put19, sL_put20, rN_put, hN]
    refine ⟨fun h => ?_, fun h => ?_⟩
    · rw [show k = N by omega]; exact hK
    · have h1 := hm k
      have h2 := hs k
      have ih := ih (by omega)
      rw [wr_suc (by omega)]
      refine ⟨by omega, fun h3 => ?_, fun h3 => ?_⟩
      · rw [h2, bi_f h3] at ih
        rw [wr_id (by omega) (by omega)]
        exact ih
      · rw [h2, bi_t (by omega)] at ih
        rw [wr_id (by omega) (by omega)]
        exact ih
  refine wp_ok (snX5_many l _ _ _) cuX5_many 300 ?_
  simp only [tX5_many_0, tX5_many_4, wX5_many_0, wX5_many_1, wX5_many_2, wX5_many_3, wX5_many_4, wX5_many_5, wX5_many_6, wX5_many_9, wX5_many_12, wX5_many_13, wX5_many_14, wX5_many_17, wX5_many_18, wX5_many_19, wX5_many_20, wX5_many_23, wX5_many_24, wX5_many_27, wX5_many_28, wX5_many_29, wX5_many_30, wX5_many_33, wX5_many_36, wX5_many_37, sLd, sSt, sSt2, sInc, sPush, sBin, sUn, sRem, sI2l, sLbin, sLcmp, sDup, sDup2, sIf, sIc, sNul, sNn, sAcmp, sGoto, sGetI, sGetL, sGetR, sPutI, sPutL, sPutR, sAldI, sAldL, sAldD, sAldR, sAstI, sAstC, sAstL, sAstD, sAstR, sAlen, sNewA, sNewO, sObj, sMath, sMin, sAbs, sCallV, sCallS, sRetI, sRetL, sRetF, sRetD, sRetR, sRetV, sThrow, sI2f, sL2d, sFdiv, sDdiv, lg, lst, clr, c2V, isI, isR, isF, isD, pEq, pNe, pLt, pGe, pGt, pLe, qEq, qNe, qLt, qGe, qGt, qLe, fAdd, fSub, fMul, fNeg, fLadd, fLmul, cs9, List.take, List.drop, List.reverse, List.reverseAux, Option.toList_some, Option.toList_none, bi_0, List.cons_append, List.nil_append, List.append_nil, List.length_cons, List.length_nil, ite_true, ite_false, if_true, if_false, Bool.false_eq_true, Bool.or_false, Bool.false_or, Bool.or_true, Bool.true_or, Nat.reduceBEq, Nat.reduceAdd, Nat.reduceEqDiff, Nat.reduceLeDiff, Nat.reduceLT, true_and, and_true, eq_self, reduceIte, Nat.le_refl, nar_b0, nar_b1, nar_i, nar_bi, nr_0_0, nr_0_1, nr_0_2, nr_1_0, nr_2_0, nr_2_1, nr_2_2, nr_2_3, nr_2_4, nr_2_5, nr_2_6, nr_2_7, nr_2_8, nr_2_9, nr_2_10, nr_3_4, nr_3_5, nr_4_5, nr_4_6, nr_4_7, nr_4_8, nr_5_0, nr_5_12, nr_5_13, nr_5_18, nr_5_21, nr_5_22, nr_5_23, nr_5_24, Int.toNat_natCast, Nat.zero_le, ge_iff_le, gt_iff_lt, ne_eq, not_true_eq_false, not_false_eq_true, shp_2, shp_3, shp_4, shp_5, shp_6, shp_7, shp_8, shp_9, shp_10, shp_11, shp_12, shp_13, shp_14, shp_15, shp_16, shp_17, shp_18, shp_19, shp_20, shp_21, shp_22, shp_23, shp_24, shp_25, shp_26, shp_27, shp_28, shp_29, rR_put, hB.1, mr_1, mr_2, mr_3, mr_4, mr_5, mr_6, mr_7, mr_8, mr_9, mr_10, mr_11, mr_14, mr_15, mr_16, mr_17, rI_put, sI_put, okA_put, hB.ok, rL_put19, rL_put20, sL_put19, sL_put20, rN_put, hN]
  exact main 0 (Nat.zero_le _)
