/-! ===== the law's loop ===== -/
theorem m1_I (a j : Nat) : lkI ((12, 22, 114) :: W8) a j = if a = 12 ∧ j = 22 then 114 else if a = 2 ∧ j = 7 then 114 else if a = 4 ∧ j = 0 then 1 else if a < 30 then 0 else oF S0 (a - 30) 0 j := by
  show (if a = 12 ∧ j = 22 then (114 : Int) else if a = 2 ∧ j = 8 then 0 else if a = 2 ∧ j = 7 then 114 else if a = 2 ∧ j = 6 then 0 else if a = 2 ∧ j = 5 then 0 else if a = 11 ∧ j = 2 then 0 else if a = 11 ∧ j = 1 then 0 else if a = 11 ∧ j = 0 then 0 else if a = 6 ∧ j = 5 then 0 else if a = 6 ∧ j = 4 then 0 else if a = 5 ∧ j = 0 then 0 else if a = 4 ∧ j = 0 then 1 else if a < 30 then 0 else oF S0 (a - 30) 0 j) = _
  by_cases h : a < 30
  · rw [if_pos h]
    repeat' split
    all_goals first | rfl | omega
  · repeat rw [if_neg (by omega)]
theorem S0_v (a j : Nat) : S0 a j = if a = 12 ∧ j = 22 then 114 else 0 := rfl
theorem S0_z {a j : Nat} (h : a ≠ 12 ∨ j ≠ 22) : S0 a j = 0 := if_neg (by omega)
theorem oF_idem (S : zS) (k : Nat) (x : Int) (j : Nat) : oF S k (oF S k x j) j = oF S k x j := by
  match j with
  | 0 | 1 | 2 | 3 | 4 | 5 | 6 | 7 | 8 | 9 | 10 => rfl
  | n + 11 => rfl
theorem lkR_big {a j : Nat} (h : 30 ≤ a) : ∀ {ws : List (Nat × Nat × Nat)}, ws.all (fun w => Nat.blt w.1 30) = true → lkR ws a j = 0 := by
  intro ws
  induction ws with
  | nil => intro _; rfl
  | cons w t ih =>
    intro hw
    rw [List.all_cons, Bool.and_eq_true] at hw
    have h1 := hw.1
    simp [Nat.blt] at h1
    show (if a = w.1 ∧ j = w.2.1 then w.2.2 else lkR t a j) = 0
    rw [if_neg (by omega)]
    exact ih hw.2
theorem m1_R0 {a j : Nat} (h : 30 ≤ a) : lkR Q9 a j = 0 := lkR_big h (by decide)
theorem m1_eq : m1 = put S0 (cput S0 X0 m1) := by
  refine Prod.ext (funext fun a => funext fun j => ?_) (Prod.ext (funext fun a => funext fun j => ?_) (Prod.ext (funext fun a => funext fun j => ?_) rfl))
  · show lkI ((12, 22, 114) :: W8) a j = if 12 ≤ a ∧ a ≤ 27 then S0 a j else cI_ S0 (fun _ => 0) (lkI ((12, 22, 114) :: W8)) a j
    unfold cI_
    simp only [m1_I]
    by_cases h : 12 ≤ a ∧ a ≤ 27
    · rw [if_pos h, S0_v, if_neg (show ¬ (a = 2 ∧ j = 7) by omega), if_neg (show ¬ (a = 4 ∧ j = 0) by omega), if_pos (show a < 30 by omega)]
    · rw [if_neg h, if_neg (show ¬ (a = 12 ∧ j = 22) by omega)]
      by_cases h30 : 30 ≤ a
      · rw [if_neg (show ¬ (a = 2 ∧ j = 7) by omega), if_neg (show ¬ (a = 4 ∧ j = 0) by omega), if_neg (show ¬ a < 30 by omega), if_pos h30, oF_idem]
      · rw [if_neg h30, if_pos (show a < 30 by omega)]
        by_cases e2 : a = 2
        · subst e2
          match j with
          | 0 | 1 | 2 | 3 | 4 | 5 | 6 | 7 | 8 => rfl
          | n + 9 => rfl
        · rw [if_neg e2, if_neg (show ¬ (a = 2 ∧ j = 7) by omega)]
          by_cases e6 : a = 6
          · subst e6
            match j with
            | 0 | 1 | 2 | 3 | 4 | 5 => rfl
            | n + 6 => rfl
          · rw [if_neg e6]
            by_cases e4 : a = 4 ∧ j = 0
            · rw [if_pos e4, if_neg (by omega), if_neg (by omega)]
            · rw [if_neg e4]
              split
              · rfl
              · split
                · rw [S0_z (by omega)]
                · rfl
  · show (0 : Int) = if a = 12 ∧ (j = 19 ∨ j = 20) then S0 28 j else cL_ S0 (fun _ _ => 0) a j
    split
    · rw [S0_z (by omega)]
    · unfold cL_
      split
      · match j with
        | 0 | 1 | 2 | 3 | 4 | 5 | 6 | 7 => rfl
        | n + 8 => rfl
      · rfl
  · show lkR Q9 a j = cR_ S0 (fun _ => []) (lkR Q9) a j
    unfold cR_
    by_cases h : 30 ≤ a ∧ j = 11
    · rw [if_pos h, m1_R0 h.1]; rfl
    · rw [if_neg h]
      by_cases e4 : a = 4 ∧ j = 1
      · rw [if_pos e4, e4.1, e4.2]; rfl
      · rw [if_neg e4]
        by_cases e5 : a = 5 ∧ j = 1
        · rw [if_pos e5, e5.1, e5.2]; rfl
        · rw [if_neg e5]
theorem m1_cB : cB 0 m1 := ⟨⟨rfl, rfl, rfl, rfl, rfl⟩, ⟨rfl, rfl, rfl, rfl⟩, ⟨rfl, rfl⟩, fun k hk => absurd hk (Nat.not_lt_zero _), rfl⟩
theorem m1_mB : mB m1 := ⟨fun j => by
  match j with
  | 0 | 1 | 2 | 3 | 4 | 5 | 6 | 7 | 8 | 9 | 10 | 11 | 12 | 13 | 14 | 15 | 16 | 17 => rfl
  | n + 18 => rfl, Nat.le_refl 28⟩
theorem m1_bk : bk S0 0 X0 := fun c _ => ⟨List.Pairwise.nil, fun k => Iff.intro (fun h => absurd (show k ∈ ([] : List Nat) from h) List.not_mem_nil) (fun h => absurd h.1 (Nat.not_lt_zero _))⟩
theorem m1_zI : zI S0 0 := fun j _ => ⟨rfl, rfl⟩

set_option maxHeartbeats 4000000 in
theorem lw_end (l : Launch) {L : Nat} {xs : Nat → Int32} (hL3 : L ≤ 3072) {i : Int} (hi : 0 ≤ i ∧ i ≤ 4000) (h : (L : Int) < i + 6) {g : Nat} (hg : g ≤ 3600) (μ : aM) (x6 x7 x8 : aV) : BL l L xs 28 [aR 1, aR 2, aR 12, aR 28, aR 29, aI i, x6, x7, x8] [] μ g := by
  have e1 : wr ((L : Int) - 6) = L - 6 := wr_id (by omega) (by omega)
  have e2 : (L : Int) - 6 < i := by omega
  refine wpG_ok (snLwH l L xs hL3) cuLwH 300 (fun W hW => ?_)
  simp only [tLwH_28, wLwH_28 hW, wLwH_30 hW, wLwH_31 hW, wLwH_32 hW, wLwH_34 hW, wLwH_35 hW, wLwH_38 hW, wLwH_39 hW, wLwH_41 hW, wLwH_42 hW, wLwH_44 hW, wLwH_45 hW, wLwH_196 hW, wLwH_302 hW, wLwH_408 hW, wLwH_464 hW, wLwH_532 hW, wLwH_588 hW, wLwH_646 hW, wLwH_690 hW, wLwH_734 hW, wLwH_747 hW, wLwH_803 hW, wLwH_859 hW, wLwH_915 hW, wLwH_993 hW, wLwH_1006 hW, wLwH_1064 hW, wLwH_1134 hW, wLwH_1204 hW, wLwH_1274 hW, wLwH_1344 hW, wLwH_1426 hW, wLwH_1470 hW, wLwH_1483 hW, wLwH_1527 hW, wLwH_1571 hW, wLwH_1627 hW, wLwH_1640 hW, wLwH_1696 hW, wLwH_1752 hW, wLwH_1808 hW, wLwH_1864 hW, wLwH_1878 hW, wLwH_1943 hW, wLwH_1956 hW, wLwH_1969 hW, wLwH_1975 hW, sLd, sSt, sSt2, sInc, sPush, sBin, sUn, sRem, sI2l, sLbin, sLcmp, sDup, sDup2, sIf, sIc, sNul, sNn, sAcmp, sGoto, sGetI, sGetL, sGetR, sPutI, sPutL, sPutR, sAldI, sAldL, sAldD, sAldR, sAstI, sAstC, sAstL, sAstD, sAstR, sAlen, sNewA, sNewO, sObj, sMath, sMin, sAbs, sCallV, sCallVH, sF2d, sDcmp, sCallS, sRetI, sRetL, sRetF, sRetD, sRetR, sRetV, sThrow, sI2f, sL2d, sFdiv, sDdiv, lg, lst, clr, c2V, isI, isR, isF, isD, pEq, pNe, pLt, pGe, pGt, pLe, qEq, qNe, qLt, qGe, qGt, qLe, fAdd, fSub, fMul, fNeg, fLadd, fLmul, cs9, List.take, List.drop, List.reverse, List.reverseAux, Option.toList_some, Option.toList_none, bi_0, List.cons_append, List.nil_append, List.append_nil, List.length_cons, List.length_nil, ite_true, ite_false, if_true, if_false, Bool.false_eq_true, Bool.or_false, Bool.false_or, Bool.or_true, Bool.true_or, Nat.reduceBEq, Nat.reduceAdd, Nat.reduceEqDiff, Nat.reduceLeDiff, Nat.reduceLT, Int.reduceLT, Int.reduceLE, Int.reduceEq, true_and, and_true, false_or, or_false, true_or, or_true, true_implies, false_implies, implies_true, eq_self, reduceIte, Nat.le_refl, nar_b0, nar_b1, nar_i, nar_bi, nr_0_0, nr_0_1, nr_0_2, nr_1_0, nr_2_0, nr_2_1, nr_2_2, nr_2_3, nr_2_4, nr_2_5, nr_2_6, nr_2_7, nr_2_8, nr_2_9, nr_2_10, nr_3_4, nr_3_5, nr_4_5, nr_4_6, nr_4_7, nr_4_8, nr_5_0, nr_5_12, nr_5_13, nr_5_18, nr_5_21, nr_5_22, nr_5_23, nr_5_24, Int.toNat_natCast, Int.natCast_nonneg, Nat.zero_le, ge_iff_le, gt_iff_lt, ne_eq, not_true_eq_false, not_false_eq_true, shp_2, shp_3, shp_4, shp_5, shp_6, shp_7, shp_8, shp_9, shp_10, shp_11, shp_12, shp_13, shp_14, shp_15, shp_16, shp_17, shp_18, shp_19, shp_20, shp_21, shp_22, shp_23, shp_24, shp_25, shp_26, shp_27, shp_28, shp_29, sLret, sSld, sSlen, sSw, swC, e1, e2]
  refine wpG_ok (snLwE l L xs hL3) cuLwE 300 (fun W hW => ?_)
  simp only [tLwE_1975, wLwE_1975 hW, wLwE_1976 hW, sLd, sSt, sSt2, sInc, sPush, sBin, sUn, sRem, sI2l, sLbin, sLcmp, sDup, sDup2, sIf, sIc, sNul, sNn, sAcmp, sGoto, sGetI, sGetL, sGetR, sPutI, sPutL, sPutR, sAldI, sAldL, sAldD, sAldR, sAstI, sAstC, sAstL, sAstD, sAstR, sAlen, sNewA, sNewO, sObj, sMath, sMin, sAbs, sCallV, sCallVH, sF2d, sDcmp, sCallS, sRetI, sRetL, sRetF, sRetD, sRetR, sRetV, sThrow, sI2f, sL2d, sFdiv, sDdiv, lg, lst, clr, c2V, isI, isR, isF, isD, pEq, pNe, pLt, pGe, pGt, pLe, qEq, qNe, qLt, qGe, qGt, qLe, fAdd, fSub, fMul, fNeg, fLadd, fLmul, cs9, List.take, List.drop, List.reverse, List.reverseAux, Option.toList_some, Option.toList_none, bi_0, List.cons_append, List.nil_append, List.append_nil, List.length_cons, List.length_nil, ite_true, ite_false, if_true, if_false, Bool.false_eq_true, Bool.or_false, Bool.false_or, Bool.or_true, Bool.true_or, Nat.reduceBEq, Nat.reduceAdd, Nat.reduceEqDiff, Nat.reduceLeDiff, Nat.reduceLT, Int.reduceLT, Int.reduceLE, Int.reduceEq, true_and, and_true, false_or, or_false, true_or, or_true, true_implies, false_implies, implies_true, eq_self, reduceIte, Nat.le_refl, nar_b0, nar_b1, nar_i, nar_bi, nr_0_0, nr_0_1, nr_0_2, nr_1_0, nr_2_0, nr_2_1, nr_2_2, nr_2_3, nr_2_4, nr_2_5, nr_2_6, nr_2_7, nr_2_8, nr_2_9, nr_2_10, nr_3_4, nr_3_5, nr_4_5, nr_4_6, nr_4_7, nr_4_8, nr_5_0, nr_5_12, nr_5_13, nr_5_18, nr_5_21, nr_5_22, nr_5_23, nr_5_24, Int.toNat_natCast, Int.natCast_nonneg, Nat.zero_le, ge_iff_le, gt_iff_lt, ne_eq, not_true_eq_false, not_false_eq_true, shp_2, shp_3, shp_4, shp_5, shp_6, shp_7, shp_8, shp_9, shp_10, shp_11, shp_12, shp_13, shp_14, shp_15, shp_16, shp_17, shp_18, shp_19, shp_20, shp_21, shp_22, shp_23, shp_24, shp_25, shp_26, shp_27, shp_28, shp_29, sLret, sSld, sSlen, sSw, swC, hg]
set_option maxHeartbeats 8000000 in
theorem lw_step (l : Launch) (hl : l.stackTraces = false) {L : Nat} {xs : Nat → Int32} (hL3 : L ≤ 3072) {S : zS} {N : Nat} {X : xS} {μ : aM} {b : Int} (h : cO S N X μ b) (hB : mB μ) {i : Int} (hi : 0 ≤ i ∧ i + 5 < L) {g : Nat} (hg : g + 3 ≤ 3600) (x6 x7 x8 : aV) (hK : KL l L xs i N b g) : BL l L xs 28 [aR 1, aR 2, aR 12, aR 28, aR 29, aI i, x6, x7, x8] [] (put S (cput S X μ)) g := by
  have e1 : wr ((L : Int) - 6) = L - 6 := wr_id (by omega) (by omega)
  have e2 : ((L : Int) - 6 < i) = False := eq_false (by omega)
  have e3 : (0 ≤ i) = True := eq_true (by omega)
  have e4 : (i < (L : Int)) = True := eq_true (by omega)
  have hT : BL l L xs 1969 [aR 1, aR 2, aR 12, aR 28, aR 29, aI i, x6, x7, x8] [] (put S (cput S X μ)) g := hK S N X μ g x6 x7 x8 h.C h.b (h.J.mono (by omega)) h.2.2.2.1 (by omega) hB (by omega)
  obtain ⟨v, hv⟩ : ∃ v, fAnd (xs i.toNat).toInt 63 = v := ⟨_, rfl⟩
  refine wpG_ok (snLwH l L xs hL3) cuLwH 300 (fun W hW => ?_)
  simp only [tLwH_28, wLwH_28 hW, wLwH_30 hW, wLwH_31 hW, wLwH_32 hW, wLwH_34 hW, wLwH_35 hW, wLwH_38 hW, wLwH_39 hW, wLwH_41 hW, wLwH_42 hW, wLwH_44 hW, wLwH_45 hW, wLwH_196 hW, wLwH_302 hW, wLwH_408 hW, wLwH_464 hW, wLwH_532 hW, wLwH_588 hW, wLwH_646 hW, wLwH_690 hW, wLwH_734 hW, wLwH_747 hW, wLwH_803 hW, wLwH_859 hW, wLwH_915 hW, wLwH_993 hW, wLwH_1006 hW, wLwH_1064 hW, wLwH_1134 hW, wLwH_1204 hW, wLwH_1274 hW, wLwH_1344 hW, wLwH_1426 hW, wLwH_1470 hW, wLwH_1483 hW, wLwH_1527 hW, wLwH_1571 hW, wLwH_1627 hW, wLwH_1640 hW, wLwH_1696 hW, wLwH_1752 hW, wLwH_1808 hW, wLwH_1864 hW, wLwH_1878 hW, wLwH_1943 hW, wLwH_1956 hW, wLwH_1969 hW, wLwH_1975 hW, sLd, sSt, sSt2, sInc, sPush, sBin, sUn, sRem, sI2l, sLbin, sLcmp, sDup, sDup2, sIf, sIc, sNul, sNn, sAcmp, sGoto, sGetI, sGetL, sGetR, sPutI, sPutL, sPutR, sAldI, sAldL, sAldD, sAldR, sAstI, sAstC, sAstL, sAstD, sAstR, sAlen, sNewA, sNewO, sObj, sMath, sMin, sAbs, sCallV, sCallVH, sF2d, sDcmp, sCallS, sRetI, sRetL, sRetF, sRetD, sRetR, sRetV, sThrow, sI2f, sL2d, sFdiv, sDdiv, lg, lst, clr, c2V, isI, isR, isF, isD, pEq, pNe, pLt, pGe, pGt, pLe, qEq, qNe, qLt, qGe, qGt, qLe, fAdd, fSub, fMul, fNeg, fLadd, fLmul, cs9, List.take, List.drop, List.reverse, List.reverseAux, Option.toList_some, Option.toList_none, bi_0, List.cons_append, List.nil_append, List.append_nil, List.length_cons, List.length_nil, ite_true, ite_false, if_true, if_false, Bool.false_eq_true, Bool.or_false, Bool.false_or, Bool.or_true, Bool.true_or, Nat.reduceBEq, Nat.reduceAdd, Nat.reduceEqDiff, Nat.reduceLeDiff, Nat.reduceLT, Int.reduceLT, Int.reduceLE, Int.reduceEq, true_and, and_true, false_or, or_false, true_or, or_true, true_implies, false_implies, implies_true, eq_self, reduceIte, Nat.le_refl, nar_b0, nar_b1, nar_i, nar_bi, nr_0_0, nr_0_1, nr_0_2, nr_1_0, nr_2_0, nr_2_1, nr_2_2, nr_2_3, nr_2_4, nr_2_5, nr_2_6, nr_2_7, nr_2_8, nr_2_9, nr_2_10, nr_3_4, nr_3_5, nr_4_5, nr_4_6, nr_4_7, nr_4_8, nr_5_0, nr_5_12, nr_5_13, nr_5_18, nr_5_21, nr_5_22, nr_5_23, nr_5_24, Int.toNat_natCast, Int.natCast_nonneg, Nat.zero_le, ge_iff_le, gt_iff_lt, ne_eq, not_true_eq_false, not_false_eq_true, shp_2, shp_3, shp_4, shp_5, shp_6, shp_7, shp_8, shp_9, shp_10, shp_11, shp_12, shp_13, shp_14, shp_15, shp_16, shp_17, shp_18, shp_19, shp_20, shp_21, shp_22, shp_23, shp_24, shp_25, shp_26, shp_27, shp_28, shp_29, sLret, sSld, sSlen, sSw, swC, e1, e2, e3, e4, hv, sSw, swC, Int.reduceAdd]
  refine ⟨fun _ => hT, fun _ => lw_0 l hl hL3 h hB hi hg x6 x7 x8 hK, fun _ => lw_1 l hl hL3 h hB hi hg x6 x7 x8 hK, fun _ => lw_2 l hl hL3 h hB hi hg x6 x7 x8 hK, fun _ => lw_3 l hl hL3 h hB hi hg x6 x7 x8 hK, fun _ => lw_4 l hl hL3 h hB hi hg x6 x7 x8 hK, fun _ => lw_5 l hl hL3 h hB hi hg x6 x7 x8 hK, fun _ => lw_6 l hl hL3 h hB hi hg x6 x7 x8 hK, fun _ => lw_7 l hl hL3 h hB hi hg x6 x7 x8 hK, fun _ => lw_8 l hl hL3 h hB hi hg x6 x7 x8 hK, fun _ => lw_9 l hl hL3 h hB hi hg x6 x7 x8 hK, fun _ => lw_10 l hl hL3 h hB hi hg x6 x7 x8 hK, fun _ => lw_11 l hl hL3 h hB hi hg x6 x7 x8 hK, fun _ => lw_12 l hl hL3 h hB hi hg x6 x7 x8 hK, fun _ => lw_13 l hl hL3 h hB hi hg x6 x7 x8 hK, fun _ => lw_14 l hl hL3 h hB hi hg x6 x7 x8 hK, fun _ => lw_15 l hl hL3 h hB hi hg x6 x7 x8 hK, fun _ => lw_16 l hl hL3 h hB hi hg x6 x7 x8 hK, fun _ => lw_17 l hl hL3 h hB hi hg x6 x7 x8 hK, fun _ => lw_18 l hl hL3 h hB hi hg x6 x7 x8 hK, fun _ => lw_19 l hl hL3 h hB hi hg x6 x7 x8 hK, fun _ => lw_20 l hl hL3 h hB hi hg x6 x7 x8 hK, fun _ => lw_21 l hl hL3 h hB hi hg x6 x7 x8 hK, fun _ => lw_22 l hl hL3 h hB hi hg x6 x7 x8 hK, fun _ => lw_23 l hl hL3 h hB hi hg x6 x7 x8 hK, fun _ => lw_24 l hl hL3 h hB hi hg x6 x7 x8 hK, fun _ => lw_25 l hl hL3 h hB hi hg x6 x7 x8 hK, fun _ => lw_26 l hl hL3 h hB hi hg x6 x7 x8 hK, fun _ => lw_27 l hl hL3 h hB hi hg x6 x7 x8 hK, fun _ => lw_28 l hl hL3 h hB hi hg x6 x7 x8 hK, fun _ => lw_29 l hl hL3 h hB hi hg x6 x7 x8 hK, fun _ => lw_30 l hl hL3 h hB hi hg x6 x7 x8 hK, fun _ => lw_31 l hl hL3 h hB hi hg x6 x7 x8 hK, fun _ => lw_32 l hl hL3 h hB hi hg x6 x7 x8 hK, fun _ => lw_33 l hl hL3 h hB hi hg x6 x7 x8 hK⟩
theorem lw_loop (l : Launch) (hl : l.stackTraces = false) {L : Nat} {xs : Nat → Int32} (hL3 : L ≤ 3072) : ∀ (n k : Nat), L < 6 * (k + n) + 6 → k ≤ 512 → ∀ {S : zS} {N : Nat} {X : xS} {μ : aM} (x6 x7 x8 : aV) (g : Nat), cB N μ → bk S N X → Jnv S N (19600 * (k : Int)) → zI S N → N ≤ k → mB μ → g ≤ 28 + 3 * k → BL l L xs 28 [aR 1, aR 2, aR 12, aR 28, aR 29, aI (6 * (k : Int)), x6, x7, x8] [] (put S (cput S X μ)) g := by
  intro n
  induction n with
  | zero =>
    intro k hn hk S N X μ x6 x7 x8 g hC hb hJ hz hN hB hg
    exact lw_end l hL3 (by omega) (by omega) (by omega) _ _ _ _
  | succ n ih =>
    intro k hn hk S N X μ x6 x7 x8 g hC hb hJ hz hN hB hg
    by_cases hle : 6 * k + 6 ≤ L
    · refine lw_step l hl hL3 (b := 19600 * (k : Int)) ⟨hC, hb, hJ, hz, by omega, by omega⟩ hB (by omega) (by omega) x6 x7 x8 ?_
      intro S' N' X' μ' g' y6 y7 y8 hC' hb' hJ' hz' hN' hB' hg'
      have w6 : wr (6 * (k : Int) + 6) = 6 * ((k + 1 : Nat) : Int) := by rw [wr_id (by omega) (by omega)]; omega
      have go := ih (k + 1) (by omega) (by omega) (S := S') (N := N') (X := X') (μ := μ') y6 y7 y8 g' hC' hb' (by rw [show 19600 * ((k + 1 : Nat) : Int) = 19600 * (k : Int) + 19600 by omega]; exact hJ') hz' (by omega) hB' (by omega)
      refine wpG_ok (snLwT l L xs hL3) cuLwT 300 (fun W hW => ?_)
      simp only [tLwT_1969, wLwT_28 hW, wLwT_1969 hW, wLwT_1972 hW, sLd, sSt, sSt2, sInc, sPush, sBin, sUn, sRem, sI2l, sLbin, sLcmp, sDup, sDup2, sIf, sIc, sNul, sNn, sAcmp, sGoto, sGetI, sGetL, sGetR, sPutI, sPutL, sPutR, sAldI, sAldL, sAldD, sAldR, sAstI, sAstC, sAstL, sAstD, sAstR, sAlen, sNewA, sNewO, sObj, sMath, sMin, sAbs, sCallV, sCallVH, sF2d, sDcmp, sCallS, sRetI, sRetL, sRetF, sRetD, sRetR, sRetV, sThrow, sI2f, sL2d, sFdiv, sDdiv, lg, lst, clr, c2V, isI, isR, isF, isD, pEq, pNe, pLt, pGe, pGt, pLe, qEq, qNe, qLt, qGe, qGt, qLe, fAdd, fSub, fMul, fNeg, fLadd, fLmul, cs9, List.take, List.drop, List.reverse, List.reverseAux, Option.toList_some, Option.toList_none, bi_0, List.cons_append, List.nil_append, List.append_nil, List.length_cons, List.length_nil, ite_true, ite_false, if_true, if_false, Bool.false_eq_true, Bool.or_false, Bool.false_or, Bool.or_true, Bool.true_or, Nat.reduceBEq, Nat.reduceAdd, Nat.reduceEqDiff, Nat.reduceLeDiff, Nat.reduceLT, Int.reduceLT, Int.reduceLE, Int.reduceEq, true_and, and_true, false_or, or_false, true_or, or_true, true_implies, false_implies, implies_true, eq_self, reduceIte, Nat.le_refl, nar_b0, nar_b1, nar_i, nar_bi, nr_0_0, nr_0_1, nr_0_2, nr_1_0, nr_2_0, nr_2_1, nr_2_2, nr_2_3, nr_2_4, nr_2_5, nr_2_6, nr_2_7, nr_2_8, nr_2_9, nr_2_10, nr_3_4, nr_3_5, nr_4_5, nr_4_6, nr_4_7, nr_4_8, nr_5_0, nr_5_12, nr_5_13, nr_5_18, nr_5_21, nr_5_22, nr_5_23, nr_5_24, Int.toNat_natCast, Int.natCast_nonneg, Nat.zero_le, ge_iff_le, gt_iff_lt, ne_eq, not_true_eq_false, not_false_eq_true, shp_2, shp_3, shp_4, shp_5, shp_6, shp_7, shp_8, shp_9, shp_10, shp_11, shp_12, shp_13, shp_14, shp_15, shp_16, shp_17, shp_18, shp_19, shp_20, shp_21, shp_22, shp_23, shp_24, shp_25, shp_26, shp_27, shp_28, shp_29, sLret, sSld, sSlen, sSw, swC, w6]
      exact go
    · exact lw_end l hL3 (by omega) (by omega) (by omega) _ _ _ _

theorem m1_J : Jnv S0 0 (19600 * ((0 : Nat) : Int)) := by
  refine ⟨⟨?_, fun k hk => absurd hk (Nat.not_lt_zero _), ?_, ?_⟩, fun k hk => absurd hk (Nat.not_lt_zero _), fun k hk => absurd hk (Nat.not_lt_zero _)⟩
  · unfold gI S0; decide
  · exact fun j k hj => absurd hj (Nat.not_lt_zero _)
  · decide
set_option maxHeartbeats 1000000 in
theorem lw_all (l : Launch) (hl : l.stackTraces = false) {L : Nat} {xs : Nat → Int32} (hL3 : L ≤ 3072) : BL l L xs 0 [aR 1, aU, aU, aU, aU, aU, aU, aU, aU] [] (eM [] [] 0) 0 := by
  refine wpG_ok (snLwI l L xs hL3) cuLwI 300 (fun W hW => ?_)
  simp only [tLwI_0, tLwI_7, tLwI_15, wLwI_0 hW, wLwI_3 hW, wLwI_4 hW, wLwI_7 hW, wLwI_8 hW, wLwI_11 hW, wLwI_12 hW, wLwI_15 hW, wLwI_16 hW, wLwI_17 hW, wLwI_19 hW, wLwI_20 hW, wLwI_21 hW, wLwI_23 hW, wLwI_25 hW, wLwI_26 hW, wLwI_28 hW, sLd, sSt, sSt2, sInc, sPush, sBin, sUn, sRem, sI2l, sLbin, sLcmp, sDup, sDup2, sIf, sIc, sNul, sNn, sAcmp, sGoto, sGetI, sGetL, sGetR, sPutI, sPutL, sPutR, sAldI, sAldL, sAldD, sAldR, sAstI, sAstC, sAstL, sAstD, sAstR, sAlen, sNewA, sNewO, sObj, sMath, sMin, sAbs, sCallV, sCallVH, sF2d, sDcmp, sCallS, sRetI, sRetL, sRetF, sRetD, sRetR, sRetV, sThrow, sI2f, sL2d, sFdiv, sDdiv, lg, lst, clr, c2V, isI, isR, isF, isD, pEq, pNe, pLt, pGe, pGt, pLe, qEq, qNe, qLt, qGe, qGt, qLe, fAdd, fSub, fMul, fNeg, fLadd, fLmul, cs9, List.take, List.drop, List.reverse, List.reverseAux, Option.toList_some, Option.toList_none, bi_0, List.cons_append, List.nil_append, List.append_nil, List.length_cons, List.length_nil, ite_true, ite_false, if_true, if_false, Bool.false_eq_true, Bool.or_false, Bool.false_or, Bool.or_true, Bool.true_or, Nat.reduceBEq, Nat.reduceAdd, Nat.reduceEqDiff, Nat.reduceLeDiff, Nat.reduceLT, Int.reduceLT, Int.reduceLE, Int.reduceEq, true_and, and_true, false_or, or_false, true_or, or_true, true_implies, false_implies, implies_true, eq_self, reduceIte, Nat.le_refl, nar_b0, nar_b1, nar_i, nar_bi, nr_0_0, nr_0_1, nr_0_2, nr_1_0, nr_2_0, nr_2_1, nr_2_2, nr_2_3, nr_2_4, nr_2_5, nr_2_6, nr_2_7, nr_2_8, nr_2_9, nr_2_10, nr_3_4, nr_3_5, nr_4_5, nr_4_6, nr_4_7, nr_4_8, nr_5_0, nr_5_12, nr_5_13, nr_5_18, nr_5_21, nr_5_22, nr_5_23, nr_5_24, Int.toNat_natCast, Int.natCast_nonneg, Nat.zero_le, ge_iff_le, gt_iff_lt, ne_eq, not_true_eq_false, not_false_eq_true, shp_2, shp_3, shp_4, shp_5, shp_6, shp_7, shp_8, shp_9, shp_10, shp_11, shp_12, shp_13, shp_14, shp_15, shp_16, shp_17, shp_18, shp_19, shp_20, shp_21, shp_22, shp_23, shp_24, shp_25, shp_26, shp_27, shp_28, shp_29, sLret, sSld, sSlen, sSw, swC, eM_I, eM_R, eM_L, eM_ok, eM_rN, n_0, shp_2]
  repeat refine And.intro (by omega) ?_
  refine (k_X4_init l hl).use (fun _ _ => ?_)
  refine wpG_ok (snLwI l L xs hL3) cuLwI 300 (fun W hW => ?_)
  simp only [tLwI_0, tLwI_7, tLwI_15, wLwI_0 hW, wLwI_3 hW, wLwI_4 hW, wLwI_7 hW, wLwI_8 hW, wLwI_11 hW, wLwI_12 hW, wLwI_15 hW, wLwI_16 hW, wLwI_17 hW, wLwI_19 hW, wLwI_20 hW, wLwI_21 hW, wLwI_23 hW, wLwI_25 hW, wLwI_26 hW, wLwI_28 hW, sLd, sSt, sSt2, sInc, sPush, sBin, sUn, sRem, sI2l, sLbin, sLcmp, sDup, sDup2, sIf, sIc, sNul, sNn, sAcmp, sGoto, sGetI, sGetL, sGetR, sPutI, sPutL, sPutR, sAldI, sAldL, sAldD, sAldR, sAstI, sAstC, sAstL, sAstD, sAstR, sAlen, sNewA, sNewO, sObj, sMath, sMin, sAbs, sCallV, sCallVH, sF2d, sDcmp, sCallS, sRetI, sRetL, sRetF, sRetD, sRetR, sRetV, sThrow, sI2f, sL2d, sFdiv, sDdiv, lg, lst, clr, c2V, isI, isR, isF, isD, pEq, pNe, pLt, pGe, pGt, pLe, qEq, qNe, qLt, qGe, qGt, qLe, fAdd, fSub, fMul, fNeg, fLadd, fLmul, cs9, List.take, List.drop, List.reverse, List.reverseAux, Option.toList_some, Option.toList_none, bi_0, List.cons_append, List.nil_append, List.append_nil, List.length_cons, List.length_nil, ite_true, ite_false, if_true, if_false, Bool.false_eq_true, Bool.or_false, Bool.false_or, Bool.or_true, Bool.true_or, Nat.reduceBEq, Nat.reduceAdd, Nat.reduceEqDiff, Nat.reduceLeDiff, Nat.reduceLT, Int.reduceLT, Int.reduceLE, Int.reduceEq, true_and, and_true, false_or, or_false, true_or, or_true, true_implies, false_implies, implies_true, eq_self, reduceIte, Nat.le_refl, nar_b0, nar_b1, nar_i, nar_bi, nr_0_0, nr_0_1, nr_0_2, nr_1_0, nr_2_0, nr_2_1, nr_2_2, nr_2_3, nr_2_4, nr_2_5, nr_2_6, nr_2_7, nr_2_8, nr_2_9, nr_2_10, nr_3_4, nr_3_5, nr_4_5, nr_4_6, nr_4_7, nr_4_8, nr_5_0, nr_5_12, nr_5_13, nr_5_18, nr_5_21, nr_5_22, nr_5_23, nr_5_24, Int.toNat_natCast, Int.natCast_nonneg, Nat.zero_le, ge_iff_le, gt_iff_lt, ne_eq, not_true_eq_false, not_false_eq_true, shp_2, shp_3, shp_4, shp_5, shp_6, shp_7, shp_8, shp_9, shp_10, shp_11, shp_12, shp_13, shp_14, shp_15, shp_16, shp_17, shp_18, shp_19, shp_20, shp_21, shp_22, shp_23, shp_24, shp_25, shp_26, shp_27, shp_28, shp_29, sLret, sSld, sSlen, sSw, swC, eM_I, eM_R, eM_L, eM_ok, eM_rN, n_10, shp_12]
  repeat refine And.intro (by omega) ?_
  refine (k_X5_init l hl).use (fun _ _ => ?_)
  refine wpG_ok (snLwI l L xs hL3) cuLwI 300 (fun W hW => ?_)
  simp only [tLwI_0, tLwI_7, tLwI_15, wLwI_0 hW, wLwI_3 hW, wLwI_4 hW, wLwI_7 hW, wLwI_8 hW, wLwI_11 hW, wLwI_12 hW, wLwI_15 hW, wLwI_16 hW, wLwI_17 hW, wLwI_19 hW, wLwI_20 hW, wLwI_21 hW, wLwI_23 hW, wLwI_25 hW, wLwI_26 hW, wLwI_28 hW, sLd, sSt, sSt2, sInc, sPush, sBin, sUn, sRem, sI2l, sLbin, sLcmp, sDup, sDup2, sIf, sIc, sNul, sNn, sAcmp, sGoto, sGetI, sGetL, sGetR, sPutI, sPutL, sPutR, sAldI, sAldL, sAldD, sAldR, sAstI, sAstC, sAstL, sAstD, sAstR, sAlen, sNewA, sNewO, sObj, sMath, sMin, sAbs, sCallV, sCallVH, sF2d, sDcmp, sCallS, sRetI, sRetL, sRetF, sRetD, sRetR, sRetV, sThrow, sI2f, sL2d, sFdiv, sDdiv, lg, lst, clr, c2V, isI, isR, isF, isD, pEq, pNe, pLt, pGe, pGt, pLe, qEq, qNe, qLt, qGe, qGt, qLe, fAdd, fSub, fMul, fNeg, fLadd, fLmul, cs9, List.take, List.drop, List.reverse, List.reverseAux, Option.toList_some, Option.toList_none, bi_0, List.cons_append, List.nil_append, List.append_nil, List.length_cons, List.length_nil, ite_true, ite_false, if_true, if_false, Bool.false_eq_true, Bool.or_false, Bool.false_or, Bool.or_true, Bool.true_or, Nat.reduceBEq, Nat.reduceAdd, Nat.reduceEqDiff, Nat.reduceLeDiff, Nat.reduceLT, Int.reduceLT, Int.reduceLE, Int.reduceEq, true_and, and_true, false_or, or_false, true_or, or_true, true_implies, false_implies, implies_true, eq_self, reduceIte, Nat.le_refl, nar_b0, nar_b1, nar_i, nar_bi, nr_0_0, nr_0_1, nr_0_2, nr_1_0, nr_2_0, nr_2_1, nr_2_2, nr_2_3, nr_2_4, nr_2_5, nr_2_6, nr_2_7, nr_2_8, nr_2_9, nr_2_10, nr_3_4, nr_3_5, nr_4_5, nr_4_6, nr_4_7, nr_4_8, nr_5_0, nr_5_12, nr_5_13, nr_5_18, nr_5_21, nr_5_22, nr_5_23, nr_5_24, Int.toNat_natCast, Int.natCast_nonneg, Nat.zero_le, ge_iff_le, gt_iff_lt, ne_eq, not_true_eq_false, not_false_eq_true, shp_2, shp_3, shp_4, shp_5, shp_6, shp_7, shp_8, shp_9, shp_10, shp_11, shp_12, shp_13, shp_14, shp_15, shp_16, shp_17, shp_18, shp_19, shp_20, shp_21, shp_22, shp_23, shp_24, shp_25, shp_26, shp_27, shp_28, shp_29, sLret, sSld, sSlen, sSw, swC, eM_I, eM_R, eM_L, eM_ok, eM_rN, n_26, n_27, shp_28, shp_29]
  have go := lw_loop l hl hL3 (xs := xs) 512 0 (by omega) (by omega) aU aU aU 28 m1_cB m1_bk m1_J m1_zI (by omega) m1_mB (by omega)
  rw [← m1_eq] at go
  exact ⟨rfl, rfl, go⟩
