/-! ===== the reference's setsOff ===== -/
theorem so_stop {S : zS} {N : Nat} (h : S 12 23 ≠ 0 ∨ ∀ j, j < N → ¬ offP S j) (f : Nat) : soLoop N f S = S := by
  cases f with
  | zero => rfl
  | succ f =>
    show (if S 12 23 = 0 then (match foF S N with | some k => soLoop N f (soStep S N k) | none => S) else S) = S
    split
    · rename_i h0
      have hf := foF_s S N
      cases hq : foF S N with
      | none => rfl
      | some k =>
        rw [hq] at hf
        rcases h with h | h
        · exact absurd h0 h
        · exact absurd hf.2.1 (h k hf.1)
    · rfl
theorem so_go {S : zS} {N k : Nat} (h0 : S 12 23 = 0) (hk : k < N) (ho : offP S k) (hj : ∀ j, j < k → ¬ offP S j) (f : Nat) : soLoop N (f + 1) S = soLoop N f (soStep S N k) := by
  show (if S 12 23 = 0 then (match foF S N with | some k => soLoop N f (soStep S N k) | none => S) else S) = _
  rw [if_pos h0]
  have hf := foF_s S N
  cases hq : foF S N with
  | none => rw [hq] at hf; exact absurd ho (hf k hk)
  | some k2 =>
    rw [hq] at hf
    have h5 : ¬ k < k2 := fun q => hf.2.2 k q ho
    have h6 : ¬ k2 < k := fun q => hj k2 q hf.2.1
    rw [show k2 = k by omega]
set_option maxHeartbeats 1000000 in
theorem c_setsHead (l : Launch) (hl : l.stackTraces = false) (K : aRs) (μ : aM) (hB : mB μ) {N : Nat} {S : zS} {b : Int} (h : Jnv S N b) (hb : b ≤ 20200000)
    (hgo : ∀ k, k < N → offP S k → (∀ j, j < k → ¬ offP S j) → S 12 23 = 0 → Bd l mdX5_setsOff K nX (rN μ) 2 [aR 12, aI 0] [] (put (soStep S N k) μ) 0)
    (hK : (S 12 23 ≠ 0 ∨ ∀ j, j < N → ¬ offP S j) → K none (put S μ)) : ∀ k, k ≤ N → (∀ j, j < k → ¬ offP S j) → Bd l mdX5_setsOff K nX (rN μ) 2 [aR 12, aI (k : Int)] [] (put S μ) 0 := by
  have hN : S 12 0 = N := h.1.1.1
  have hN2 : N ≤ 1000 := h.1.1.2.1
  refine up_to N (fun k hk ih2 hj => ?_)
  refine wp_ok (snX5_setsOff l _ _ _) cuX5_setsOff 300 (fun W hW => ?_)
  simp only [tX5_setsOff_0, tX5_setsOff_2, tX5_setsOff_22, tX5_setsOff_45, wX5_setsOff_0 hW, wX5_setsOff_1 hW, wX5_setsOff_2 hW, wX5_setsOff_3 hW, wX5_setsOff_4 hW, wX5_setsOff_7 hW, wX5_setsOff_10 hW, wX5_setsOff_11 hW, wX5_setsOff_14 hW, wX5_setsOff_17 hW, wX5_setsOff_18 hW, wX5_setsOff_19 hW, wX5_setsOff_22 hW, wX5_setsOff_25 hW, wX5_setsOff_28 hW, wX5_setsOff_29 hW, wX5_setsOff_32 hW, wX5_setsOff_33 hW, wX5_setsOff_34 hW, wX5_setsOff_37 hW, wX5_setsOff_38 hW, wX5_setsOff_39 hW, wX5_setsOff_40 hW, wX5_setsOff_41 hW, wX5_setsOff_42 hW, wX5_setsOff_45 hW, wX5_setsOff_46 hW, wX5_setsOff_47 hW, wX5_setsOff_50 hW, wX5_setsOff_53 hW, sLd, sSt, sSt2, sInc, sPush, sBin, sUn, sRem, sI2l, sLbin, sLcmp, sDup, sDup2, sIf, sIc, sNul, sNn, sAcmp, sGoto, sGetI, sGetL, sGetR, sPutI, sPutL, sPutR, sAldI, sAldL, sAldD, sAldR, sAstI, sAstC, sAstL, sAstD, sAstR, sAlen, sNewA, sNewO, sObj, sMath, sMin, sAbs, sCallV, sCallS, sRetI, sRetL, sRetF, sRetD, sRetR, sRetV, sThrow, sI2f, sL2d, sFdiv, sDdiv, lg, lst, clr, c2V, isI, isR, isF, isD, pEq, pNe, pLt, pGe, pGt, pLe, qEq, qNe, qLt, qGe, qGt, qLe, fAdd, fSub, fMul, fNeg, fLadd, fLmul, cs9, List.take, List.drop, List.reverse, List.reverseAux, Option.toList_some, Option.toList_none, bi_0, List.cons_append, List.nil_append, List.append_nil, List.length_cons, List.length_nil, ite_true, ite_false, if_true, if_false, Bool.false_eq_true, Bool.or_false, Bool.false_or, Bool.or_true, Bool.true_or, Nat.reduceBEq, Nat.reduceAdd, Nat.reduceEqDiff, Nat.reduceLeDiff, Nat.reduceLT, Int.reduceLT, Int.reduceLE, Int.reduceEq, true_and, and_true, false_or, or_false, true_or, or_true, true_implies, false_implies, implies_true, eq_self, reduceIte, Nat.le_refl, nar_b0, nar_b1, nar_i, nar_bi, nr_0_0, nr_0_1, nr_0_2, nr_1_0, nr_2_0, nr_2_1, nr_2_2, nr_2_3, nr_2_4, nr_2_5, nr_2_6, nr_2_7, nr_2_8, nr_2_9, nr_2_10, nr_3_4, nr_3_5, nr_4_5, nr_4_6, nr_4_7, nr_4_8, nr_5_0, nr_5_12, nr_5_13, nr_5_18, nr_5_21, nr_5_22, nr_5_23, nr_5_24, Int.toNat_natCast, Int.natCast_nonneg, Nat.zero_le, ge_iff_le, gt_iff_lt, ne_eq, not_true_eq_false, not_false_eq_true, shp_2, shp_3, shp_4, shp_5, shp_6, shp_7, shp_8, shp_9, shp_10, shp_11, shp_12, shp_13, shp_14, shp_15, shp_16, shp_17, shp_18, shp_19, shp_20, shp_21, shp_22, shp_23, shp_24, shp_25, shp_26, shp_27, shp_28, shp_29, rR_put, hB.1, mr_1, mr_2, mr_3, mr_4, mr_5, mr_6, mr_7, mr_8, mr_9, mr_10, mr_11, mr_14, mr_15, mr_16, mr_17, rI_put, sI_put, okA_put, hB.ok, rL_put19, rL_put20, sL_put19, sL_put20, rN_put, zu_eq, false_and, and_false, and_self, hN]
  refine ⟨fun q => hK (Or.inr (fun j hj2 => hj j (by omega))), fun q => ⟨fun q2 => hK (Or.inl q2), fun q2 => ?_⟩⟩
  refine (c_isOff l hl S μ hB (k := k) (by omega)).use (fun _ _ => ?_)
  have q2 := Classical.byContradiction q2
  refine wp_ok (snX5_setsOff l _ _ _) cuX5_setsOff 300 (fun W hW => ?_)
  simp only [tX5_setsOff_0, tX5_setsOff_2, tX5_setsOff_22, tX5_setsOff_45, wX5_setsOff_0 hW, wX5_setsOff_1 hW, wX5_setsOff_2 hW, wX5_setsOff_3 hW, wX5_setsOff_4 hW, wX5_setsOff_7 hW, wX5_setsOff_10 hW, wX5_setsOff_11 hW, wX5_setsOff_14 hW, wX5_setsOff_17 hW, wX5_setsOff_18 hW, wX5_setsOff_19 hW, wX5_setsOff_22 hW, wX5_setsOff_25 hW, wX5_setsOff_28 hW, wX5_setsOff_29 hW, wX5_setsOff_32 hW, wX5_setsOff_33 hW, wX5_setsOff_34 hW, wX5_setsOff_37 hW, wX5_setsOff_38 hW, wX5_setsOff_39 hW, wX5_setsOff_40 hW, wX5_setsOff_41 hW, wX5_setsOff_42 hW, wX5_setsOff_45 hW, wX5_setsOff_46 hW, wX5_setsOff_47 hW, wX5_setsOff_50 hW, wX5_setsOff_53 hW, sLd, sSt, sSt2, sInc, sPush, sBin, sUn, sRem, sI2l, sLbin, sLcmp, sDup, sDup2, sIf, sIc, sNul, sNn, sAcmp, sGoto, sGetI, sGetL, sGetR, sPutI, sPutL, sPutR, sAldI, sAldL, sAldD, sAldR, sAstI, sAstC, sAstL, sAstD, sAstR, sAlen, sNewA, sNewO, sObj, sMath, sMin, sAbs, sCallV, sCallS, sRetI, sRetL, sRetF, sRetD, sRetR, sRetV, sThrow, sI2f, sL2d, sFdiv, sDdiv, lg, lst, clr, c2V, isI, isR, isF, isD, pEq, pNe, pLt, pGe, pGt, pLe, qEq, qNe, qLt, qGe, qGt, qLe, fAdd, fSub, fMul, fNeg, fLadd, fLmul, cs9, List.take, List.drop, List.reverse, List.reverseAux, Option.toList_some, Option.toList_none, bi_0, List.cons_append, List.nil_append, List.append_nil, List.length_cons, List.length_nil, ite_true, ite_false, if_true, if_false, Bool.false_eq_true, Bool.or_false, Bool.false_or, Bool.or_true, Bool.true_or, Nat.reduceBEq, Nat.reduceAdd, Nat.reduceEqDiff, Nat.reduceLeDiff, Nat.reduceLT, Int.reduceLT, Int.reduceLE, Int.reduceEq, true_and, and_true, false_or, or_false, true_or, or_true, true_implies, false_implies, implies_true, eq_self, reduceIte, Nat.le_refl, nar_b0, nar_b1, nar_i, nar_bi, nr_0_0, nr_0_1, nr_0_2, nr_1_0, nr_2_0, nr_2_1, nr_2_2, nr_2_3, nr_2_4, nr_2_5, nr_2_6, nr_2_7, nr_2_8, nr_2_9, nr_2_10, nr_3_4, nr_3_5, nr_4_5, nr_4_6, nr_4_7, nr_4_8, nr_5_0, nr_5_12, nr_5_13, nr_5_18, nr_5_21, nr_5_22, nr_5_23, nr_5_24, Int.toNat_natCast, Int.natCast_nonneg, Nat.zero_le, ge_iff_le, gt_iff_lt, ne_eq, not_true_eq_false, not_false_eq_true, shp_2, shp_3, shp_4, shp_5, shp_6, shp_7, shp_8, shp_9, shp_10, shp_11, shp_12, shp_13, shp_14, shp_15, shp_16, shp_17, shp_18, shp_19, shp_20, shp_21, shp_22, shp_23, shp_24, shp_25, shp_26, shp_27, shp_28, shp_29, rR_put, hB.1, mr_1, mr_2, mr_3, mr_4, mr_5, mr_6, mr_7, mr_8, mr_9, mr_10, mr_11, mr_14, mr_15, mr_16, mr_17, rI_put, sI_put, okA_put, hB.ok, rL_put19, rL_put20, sL_put19, sL_put20, rN_put, zu_eq, false_and, and_false, and_self, hN]
  refine ⟨fun q3 => ⟨by omega, by omega, ?_⟩, fun q3 => ?_⟩
  · have q3 := Classical.byContradiction q3
    have hkN : k < N := by omega
    have go := hgo k hkN q3 hj q2
    have h1 := start_cI (z21_J h hkN q3.1) hkN (show zu S 21 k (S 19 k) 14 k = 119 by rw [z21o _ _ _ (by omega)]; exact q3.1)
    refine (c_comes l hl (zu S 21 k (S 19 k)) μ hB h1.1 hb h1.2).use (fun _ _ => ?_)
    unfold soStep at go
    clear hgo hK ih2 h1
    generalize comes (zu S 21 k (S 19 k)) N k = T at *
    refine wp_ok (snX5_setsOff l _ _ _) cuX5_setsOff 300 (fun W hW => ?_)
    simp only [tX5_setsOff_0, tX5_setsOff_2, tX5_setsOff_22, tX5_setsOff_45, wX5_setsOff_0 hW, wX5_setsOff_1 hW, wX5_setsOff_2 hW, wX5_setsOff_3 hW, wX5_setsOff_4 hW, wX5_setsOff_7 hW, wX5_setsOff_10 hW, wX5_setsOff_11 hW, wX5_setsOff_14 hW, wX5_setsOff_17 hW, wX5_setsOff_18 hW, wX5_setsOff_19 hW, wX5_setsOff_22 hW, wX5_setsOff_25 hW, wX5_setsOff_28 hW, wX5_setsOff_29 hW, wX5_setsOff_32 hW, wX5_setsOff_33 hW, wX5_setsOff_34 hW, wX5_setsOff_37 hW, wX5_setsOff_38 hW, wX5_setsOff_39 hW, wX5_setsOff_40 hW, wX5_setsOff_41 hW, wX5_setsOff_42 hW, wX5_setsOff_45 hW, wX5_setsOff_46 hW, wX5_setsOff_47 hW, wX5_setsOff_50 hW, wX5_setsOff_53 hW, sLd, sSt, sSt2, sInc, sPush, sBin, sUn, sRem, sI2l, sLbin, sLcmp, sDup, sDup2, sIf, sIc, sNul, sNn, sAcmp, sGoto, sGetI, sGetL, sGetR, sPutI, sPutL, sPutR, sAldI, sAldL, sAldD, sAldR, sAstI, sAstC, sAstL, sAstD, sAstR, sAlen, sNewA, sNewO, sObj, sMath, sMin, sAbs, sCallV, sCallS, sRetI, sRetL, sRetF, sRetD, sRetR, sRetV, sThrow, sI2f, sL2d, sFdiv, sDdiv, lg, lst, clr, c2V, isI, isR, isF, isD, pEq, pNe, pLt, pGe, pGt, pLe, qEq, qNe, qLt, qGe, qGt, qLe, fAdd, fSub, fMul, fNeg, fLadd, fLmul, cs9, List.take, List.drop, List.reverse, List.reverseAux, Option.toList_some, Option.toList_none, bi_0, List.cons_append, List.nil_append, List.append_nil, List.length_cons, List.length_nil, ite_true, ite_false, if_true, if_false, Bool.false_eq_true, Bool.or_false, Bool.false_or, Bool.or_true, Bool.true_or, Nat.reduceBEq, Nat.reduceAdd, Nat.reduceEqDiff, Nat.reduceLeDiff, Nat.reduceLT, Int.reduceLT, Int.reduceLE, Int.reduceEq, true_and, and_true, false_or, or_false, true_or, or_true, true_implies, false_implies, implies_true, eq_self, reduceIte, Nat.le_refl, nar_b0, nar_b1, nar_i, nar_bi, nr_0_0, nr_0_1, nr_0_2, nr_1_0, nr_2_0, nr_2_1, nr_2_2, nr_2_3, nr_2_4, nr_2_5, nr_2_6, nr_2_7, nr_2_8, nr_2_9, nr_2_10, nr_3_4, nr_3_5, nr_4_5, nr_4_6, nr_4_7, nr_4_8, nr_5_0, nr_5_12, nr_5_13, nr_5_18, nr_5_21, nr_5_22, nr_5_23, nr_5_24, Int.toNat_natCast, Int.natCast_nonneg, Nat.zero_le, ge_iff_le, gt_iff_lt, ne_eq, not_true_eq_false, not_false_eq_true, shp_2, shp_3, shp_4, shp_5, shp_6, shp_7, shp_8, shp_9, shp_10, shp_11, shp_12, shp_13, shp_14, shp_15, shp_16, shp_17, shp_18, shp_19, shp_20, shp_21, shp_22, shp_23, shp_24, shp_25, shp_26, shp_27, shp_28, shp_29, rR_put, hB.1, mr_1, mr_2, mr_3, mr_4, mr_5, mr_6, mr_7, mr_8, mr_9, mr_10, mr_11, mr_14, mr_15, mr_16, mr_17, rI_put, sI_put, okA_put, hB.ok, rL_put19, rL_put20, sL_put19, sL_put20, rN_put, zu_eq, false_and, and_false, and_self, hN]
    exact go
  · rw [wr_suc (by omega)]
    refine ih2 (by omega) (fun j hj2 => ?_)
    rcases Nat.lt_or_ge j k with z | z
    · exact hj j z
    · rw [show j = k by omega]; exact fun w => q3 (fun u => u w)
theorem c_setsLoop (l : Launch) (hl : l.stackTraces = false) (K : aRs) (μ : aM) (hB : mB μ) {N : Nat} (f : Nat) : ∀ {S : zS} {b : Int}, Jnv S N b → many S N 119 ≤ f → b + 320 * f ≤ 20200000 → K none (put (soLoop N f S) μ) → Bd l mdX5_setsOff K nX (rN μ) 2 [aR 12, aI 0] [] (put S μ) 0 := by
  induction f with
  | zero =>
    intro S b h hm hb hK
    refine c_setsHead l hl K μ hB h (by omega) (fun k hk ho _ _ => ?_) (fun _ => hK) 0 (Nat.zero_le _) (fun j hj => absurd hj (Nat.not_lt_zero _))
    have h1 := sm_ge (f := fun j => bi (S 14 j = 119)) (fun j => (bi_le _).1) hk
    have h2 : bi (S 14 k = 119) = 1 := bi_t ho.1
    unfold many at hm
    omega
  | succ f ih =>
    intro S b h hm hb hK
    refine c_setsHead l hl K μ hB h (by omega) (fun k hk ho hj h0 => ?_) (fun q => by rw [so_stop q] at hK; exact hK) 0 (Nat.zero_le _) (fun j hj => absurd hj (Nat.not_lt_zero _))
    rw [so_go h0 hk ho hj] at hK
    have h1 := soStep_J h hk ho.1
    exact ih h1.1 (by omega) (by omega) hK
theorem c_setsOff (l : Launch) (hl : l.stackTraces = false) (S : zS) (μ : aM) (hB : mB μ) {N : Nat} {b : Int} (h : Jnv S N b) (hb : b ≤ 20100000) : CtE l mdX5_setsOff [aR 12] (put S μ) none (put (soLoop N 60 S) μ) := by
  refine CtE.of hl rfl rfl rfl rfl (fun K hM hK => ?_)
  show Bd _ _ _ _ _ 0 [aR 12, aU] [] (put S μ) 0
  have hm : many S N 119 ≤ 60 := by
    have h1 : many S N 119 ≤ live S N := sm_mono (fun j hj => bi_mono (fun q => Or.inr (Or.inl q)))
    have := h.1.2.2.2
    omega
  have lp := c_setsLoop l hl K μ hB 60 h hm (by omega) hK
  clear hK
  refine wp_ok (snX5_setsOff l _ _ _) cuX5_setsOff 300 (fun W hW => ?_)
  simp only [tX5_setsOff_0, tX5_setsOff_2, tX5_setsOff_22, tX5_setsOff_45, wX5_setsOff_0 hW, wX5_setsOff_1 hW, wX5_setsOff_2 hW, wX5_setsOff_3 hW, wX5_setsOff_4 hW, wX5_setsOff_7 hW, wX5_setsOff_10 hW, wX5_setsOff_11 hW, wX5_setsOff_14 hW, wX5_setsOff_17 hW, wX5_setsOff_18 hW, wX5_setsOff_19 hW, wX5_setsOff_22 hW, wX5_setsOff_25 hW, wX5_setsOff_28 hW, wX5_setsOff_29 hW, wX5_setsOff_32 hW, wX5_setsOff_33 hW, wX5_setsOff_34 hW, wX5_setsOff_37 hW, wX5_setsOff_38 hW, wX5_setsOff_39 hW, wX5_setsOff_40 hW, wX5_setsOff_41 hW, wX5_setsOff_42 hW, wX5_setsOff_45 hW, wX5_setsOff_46 hW, wX5_setsOff_47 hW, wX5_setsOff_50 hW, wX5_setsOff_53 hW, sLd, sSt, sSt2, sInc, sPush, sBin, sUn, sRem, sI2l, sLbin, sLcmp, sDup, sDup2, sIf, sIc, sNul, sNn, sAcmp, sGoto, sGetI, sGetL, sGetR, sPutI, sPutL, sPutR, sAldI, sAldL, sAldD, sAldR, sAstI, sAstC, sAstL, sAstD, sAstR, sAlen, sNewA, sNewO, sObj, sMath, sMin, sAbs, sCallV, sCallS, sRetI, sRetL, sRetF, sRetD, sRetR, sRetV, sThrow, sI2f, sL2d, sFdiv, sDdiv, lg, lst, clr, c2V, isI, isR, isF, isD, pEq, pNe, pLt, pGe, pGt, pLe, qEq, qNe, qLt, qGe, qGt, qLe, fAdd, fSub, fMul, fNeg, fLadd, fLmul, cs9, List.take, List.drop, List.reverse, List.reverseAux, Option.toList_some, Option.toList_none, bi_0, List.cons_append, List.nil_append, List.append_nil, List.length_cons, List.length_nil, ite_true, ite_false, if_true, if_false, Bool.false_eq_true, Bool.or_false, Bool.false_or, Bool.or_true, Bool.true_or, Nat.reduceBEq, Nat.reduceAdd, Nat.reduceEqDiff, Nat.reduceLeDiff, Nat.reduceLT, Int.reduceLT, Int.reduceLE, Int.reduceEq, true_and, and_true, false_or, or_false, true_or, or_true, true_implies, false_implies, implies_true, eq_self, reduceIte, Nat.le_refl, nar_b0, nar_b1, nar_i, nar_bi, nr_0_0, nr_0_1, nr_0_2, nr_1_0, nr_2_0, nr_2_1, nr_2_2, nr_2_3, nr_2_4, nr_2_5, nr_2_6, nr_2_7, nr_2_8, nr_2_9, nr_2_10, nr_3_4, nr_3_5, nr_4_5, nr_4_6, nr_4_7, nr_4_8, nr_5_0, nr_5_12, nr_5_13, nr_5_18, nr_5_21, nr_5_22, nr_5_23, nr_5_24, Int.toNat_natCast, Int.natCast_nonneg, Nat.zero_le, ge_iff_le, gt_iff_lt, ne_eq, not_true_eq_false, not_false_eq_true, shp_2, shp_3, shp_4, shp_5, shp_6, shp_7, shp_8, shp_9, shp_10, shp_11, shp_12, shp_13, shp_14, shp_15, shp_16, shp_17, shp_18, shp_19, shp_20, shp_21, shp_22, shp_23, shp_24, shp_25, shp_26, shp_27, shp_28, shp_29, rR_put, hB.1, mr_1, mr_2, mr_3, mr_4, mr_5, mr_6, mr_7, mr_8, mr_9, mr_10, mr_11, mr_14, mr_15, mr_16, mr_17, rI_put, sI_put, okA_put, hB.ok, rL_put19, rL_put20, sL_put19, sL_put20, rN_put, zu_eq, false_and, and_false, and_self]
  exact lp
