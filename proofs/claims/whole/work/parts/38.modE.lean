/-! ===== the reference's send, sendStop ===== -/
abbrev okSend (w c p a s : Int) : Prop := (0 ≤ w ∧ w ≤ 5) ∧ (c = 98 ∨ c = 115) ∧ pv p ∧ (1 ≤ a ∧ a ≤ 99) ∧ (1 ≤ s ∧ s ≤ 99)
def tSend (S : zS) (N : Nat) (w c p a s : Int) : Int := if ¬ okSend w c p a s then 1 else if 60 ≤ many S N 97 + many S N 119 then 2 else 0
def sSend (S : zS) (N : Nat) (w c p a s : Int) : zS := sT (tSend S N w c p a s) S (soLoop (N + 1) 60 (comes (adds (zu S 12 24 0) N w c 0 p a s) (N + 1) N))
theorem ad_13 (S : zS) (N : Nat) (w c t p a s : Int) (j : Nat) : adds S N w c t p a s 13 j = if j = N then c else S 13 j := by
  unfold adds; simp only [zu_eq, Nat.reduceEqDiff, true_and, false_and, if_false]
theorem ad_14 (S : zS) (N : Nat) (w c t p a s : Int) (j : Nat) : adds S N w c t p a s 14 j = if j = N then 119 else S 14 j := by
  unfold adds; simp only [zu_eq, Nat.reduceEqDiff, true_and, false_and, if_false]
theorem ad_15 (S : zS) (N : Nat) (w c t p a s : Int) (j : Nat) : adds S N w c t p a s 15 j = if j = N then w else S 15 j := by
  unfold adds; simp only [zu_eq, Nat.reduceEqDiff, true_and, false_and, if_false]
theorem ad_16 (S : zS) (N : Nat) (w c t p a s : Int) (j : Nat) : adds S N w c t p a s 16 j = if j = N then p else S 16 j := by
  unfold adds; simp only [zu_eq, Nat.reduceEqDiff, true_and, false_and, if_false]
theorem ad_17 (S : zS) (N : Nat) (w c t p a s : Int) (j : Nat) : adds S N w c t p a s 17 j = if j = N then t else S 17 j := by
  unfold adds; simp only [zu_eq, Nat.reduceEqDiff, true_and, false_and, if_false]
theorem ad_18 (S : zS) (N : Nat) (w c t p a s : Int) (j : Nat) : adds S N w c t p a s 18 j = if j = N then a else S 18 j := by
  unfold adds; simp only [zu_eq, Nat.reduceEqDiff, true_and, false_and, if_false]
theorem ad_19 (S : zS) (N : Nat) (w c t p a s : Int) (j : Nat) : adds S N w c t p a s 19 j = if j = N then a else S 19 j := by
  unfold adds; simp only [zu_eq, Nat.reduceEqDiff, true_and, false_and, if_false]
theorem ad_21 (S : zS) (N : Nat) (w c t p a s : Int) (j : Nat) : adds S N w c t p a s 21 j = if j = N then s else S 21 j := by
  unfold adds; simp only [zu_eq, Nat.reduceEqDiff, true_and, false_and, if_false]
theorem ad_12 (S : zS) (N : Nat) (w c t p a s : Int) (j : Nat) : adds S N w c t p a s 12 j = if j = 0 then ((N + 1 : Nat) : Int) else S 12 j := by
  unfold adds; simp only [zu_eq, Nat.reduceEqDiff, true_and, false_and, if_false]
theorem ad_20 (S : zS) (N : Nat) (w c t p a s : Int) (j : Nat) : adds S N w c t p a s 20 j = S 20 j := by
  unfold adds; simp only [zu_eq, Nat.reduceEqDiff, true_and, false_and, if_false]
theorem ad_22 (S : zS) (N : Nat) (w c t p a s : Int) (j : Nat) : adds S N w c t p a s 22 j = S 22 j := by
  unfold adds; simp only [zu_eq, Nat.reduceEqDiff, true_and, false_and, if_false]
theorem ad_23 (S : zS) (N : Nat) (w c t p a s : Int) (j : Nat) : adds S N w c t p a s 23 j = S 23 j := by
  unfold adds; simp only [zu_eq, Nat.reduceEqDiff, true_and, false_and, if_false]
theorem ad_28 (S : zS) (N : Nat) (w c t p a s : Int) (j : Nat) : adds S N w c t p a s 28 j = S 28 j := by
  unfold adds; simp only [zu_eq, Nat.reduceEqDiff, true_and, false_and, if_false]
/-- a new order -/
theorem adds_J {S : zS} {N : Nat} {b w c t p a s : Int} (h : Jnv S N b) (hz : zI S N) (hN : N ≤ 900) (hw : 0 ≤ w ∧ w ≤ 5) (hc : c = 98 ∨ c = 115) (ht : 0 ≤ t ∧ t ≤ 300) (hp : pv p) (ha : 1 ≤ a ∧ a ≤ 99) (hs : 1 ≤ s ∧ s ≤ 99) (hf : many S N 97 + many S N 119 ≤ 59) : Jnv (adds S N w c t p a s) (N + 1) b ∧ zI (adds S N w c t p a s) (N + 1) := by
  obtain ⟨⟨h1, h2, h3, h5⟩, h4, h7⟩ := h
  have hl : live S N ≤ many S N 97 + many S N 119 := by
    have : ∀ n, n ≤ N → live S n ≤ many S n 97 + many S n 119 := by
      intro n
      induction n with
      | zero => intro _; exact Int.le_refl 0
      | succ n ih =>
        intro hn
        have q := ih (by omega)
        have z := h7 n (by omega)
        show live S n + bi (S 14 n = 97 ∨ S 14 n = 119 ∨ S 14 n = 105) ≤ many S n 97 + bi (S 14 n = 97) + (many S n 119 + bi (S 14 n = 119))
        unfold bi
        (repeat' split) <;> omega
    exact this N (Nat.le_refl _)
  refine ⟨⟨⟨?_, fun j hj => ?_, ?_, ?_⟩, ?_, ?_⟩, fun j hj => ?_⟩
  · have e : ∀ j, j ≠ 0 → adds S N w c t p a s 12 j = S 12 j := fun j hj => by rw [ad_12, if_neg hj]
    have e0 : adds S N w c t p a s 12 0 = ((N + 1 : Nat) : Int) := by rw [ad_12, if_pos rfl]
    unfold gI at *
    rw [e0, e 12 (by omega), e 13 (by omega), e 18 (by omega), e 21 (by omega), e 22 (by omega), e 23 (by omega), ad_28, ad_28]
    omega
  · unfold oI at *
    rw [ad_13, ad_14, ad_15, ad_16, ad_17, ad_18, ad_19, ad_20, ad_21, ad_22, ad_23, ad_12, if_neg (c := 12 = 0) (by omega)]
    by_cases e : j = N
    · have := hz N (Nat.le_refl _)
      subst e
      simp only [if_true]
      exact ⟨hc, hw, hp, ht, ha, by omega, hs, by omega, by simp, fun _ => ha.1, fun q => absurd q (by decide)⟩
    · simp only [e, if_false]
      exact h2 j (by omega)
  · intro i j hi hj q1 q2 q3
    rw [ad_14] at q1 q2
    rw [ad_23, ad_23] at q3
    split at q1
    · omega
    · split at q2
      · omega
      · exact h3 i j (by omega) (by omega) q1 q2 q3
  · show live _ N + bi _ ≤ 60
    have e1 : live (adds S N w c t p a s) N = live S N := sm_congr (fun j hj => by rw [ad_14, if_neg (by omega)])
    have e2 := bi_le (adds S N w c t p a s 14 N = 97 ∨ adds S N w c t p a s 14 N = 119 ∨ adds S N w c t p a s 14 N = 105)
    omega
  · intro j hj q
    rw [ad_14] at q
    split at q
    · omega
    · rename_i e
      rw [ad_22, ad_21, ad_19, if_neg e, if_neg e]
      exact h4 j (by omega) q
  · intro j hj q
    rw [ad_14] at q
    split at q
    · omega
    · exact h7 j (by omega) q
  · rw [ad_20, ad_22]
    exact hz j (by omega)
def vSend (t : Int) (N : Nat) : Int := if t = 0 then (N : Int) else 0
set_option maxHeartbeats 1000000 in
theorem c_send (l : Launch) (hl : l.stackTraces = false) (S : zS) (μ : aM) (hB : mB μ) {N : Nat} {b : Int} (h : Jnv S N b) (hz : zI S N) (hN9 : N ≤ 900) (hb : b ≤ 700000) (w c p a s : Int) : CtE l mdX5_send [aR 12, aI w, aI c, aI p, aI a, aI s] (put S μ) (some (aI (vSend (tSend S N w c p a s) N))) (put (sSend S N w c p a s) μ) := by
  have hN : S 12 0 = N := h.1.1.1
  have hN2 : N ≤ 1000 := h.1.1.2.1
  refine CtE.of hl rfl rfl rfl rfl (fun K hM hK => ?_)
  show Bd _ _ _ _ _ 0 [aR 12, aI w, aI c, aI p, aI a, aI s, aU] [] (put S μ) 0
  unfold sSend at hK
  have bad : ∀ k : Int, 0 < k → tSend S N w c p a s = k → Ct l mdX5_fails [aR 12, aI k] (put S μ) (fun r μ' => Bd l mdX5_send K nX (rN μ) 65 [aR 12, aI w, aI c, aI p, aI a, aI s, aU] r.toList μ' 0) nX := fun k hk ht => by
    rw [ht] at hK
    refine (c_fails l hl S μ hB k).use (fun _ _ => ?_)
    rw [bi_t hk]
    rw [show vSend k N = 0 from if_neg (by omega), show sT k S (soLoop (N + 1) 60 (comes (adds (zu S 12 24 0) N w c 0 p a s) (N + 1) N)) = zu S 12 24 k from if_neg (by omega)] at hK
    clear ht
    refine wp_ok (snX5_send l _ _ _) cuX5_send 300 (fun W hW => ?_)
    simp only [tX5_send_0, tX5_send_7, tX5_send_14, tX5_send_21, tX5_send_32, tX5_send_43, tX5_send_54, tX5_send_65, tX5_send_82, tX5_send_90, tX5_send_94, wX5_send_0 hW, wX5_send_1 hW, wX5_send_2 hW, wX5_send_3 hW, wX5_send_4 hW, wX5_send_7 hW, wX5_send_10 hW, wX5_send_11 hW, wX5_send_14 hW, wX5_send_17 hW, wX5_send_18 hW, wX5_send_21 hW, wX5_send_24 hW, wX5_send_26 hW, wX5_send_27 hW, wX5_send_29 hW, wX5_send_32 hW, wX5_send_35 hW, wX5_send_37 hW, wX5_send_38 hW, wX5_send_40 hW, wX5_send_43 hW, wX5_send_46 hW, wX5_send_47 hW, wX5_send_50 hW, wX5_send_51 hW, wX5_send_54 hW, wX5_send_57 hW, wX5_send_58 hW, wX5_send_61 hW, wX5_send_62 hW, wX5_send_65 hW, wX5_send_68 hW, wX5_send_69 hW, wX5_send_70 hW, wX5_send_71 hW, wX5_send_72 hW, wX5_send_73 hW, wX5_send_74 hW, wX5_send_75 hW, wX5_send_77 hW, wX5_send_79 hW, wX5_send_82 hW, wX5_send_84 hW, wX5_send_85 hW, wX5_send_87 hW, wX5_send_90 hW, wX5_send_91 hW, wX5_send_94 hW, wX5_send_96 hW, sLd, sSt, sSt2, sInc, sPush, sBin, sUn, sRem, sI2l, sLbin, sLcmp, sDup, sDup2, sIf, sIc, sNul, sNn, sAcmp, sGoto, sGetI, sGetL, sGetR, sPutI, sPutL, sPutR, sAldI, sAldL, sAldD, sAldR, sAstI, sAstC, sAstL, sAstD, sAstR, sAlen, sNewA, sNewO, sObj, sMath, sMin, sAbs, sCallV, sCallS, sRetI, sRetL, sRetF, sRetD, sRetR, sRetV, sThrow, sI2f, sL2d, sFdiv, sDdiv, lg, lst, clr, c2V, isI, isR, isF, isD, pEq, pNe, pLt, pGe, pGt, pLe, qEq, qNe, qLt, qGe, qGt, qLe, fAdd, fSub, fMul, fNeg, fLadd, fLmul, cs9, List.take, List.drop, List.reverse, List.reverseAux, Option.toList_some, Option.toList_none, bi_0, List.cons_append, List.nil_append, List.append_nil, List.length_cons, List.length_nil, ite_true, ite_false, if_true, if_false, Bool.false_eq_true, Bool.or_false, Bool.false_or, Bool.or_true, Bool.true_or, Nat.reduceBEq, Nat.reduceAdd, Nat.reduceEqDiff, Nat.reduceLeDiff, Nat.reduceLT, Int.reduceLT, Int.reduceLE, Int.reduceEq, true_and, and_true, false_or, or_false, true_or, or_true, true_implies, false_implies, implies_true, eq_self, reduceIte, Nat.le_refl, nar_b0, nar_b1, nar_i, nar_bi, nr_0_0, nr_0_1, nr_0_2, nr_1_0, nr_2_0, nr_2_1, nr_2_2, nr_2_3, nr_2_4, nr_2_5, nr_2_6, nr_2_7, nr_2_8, nr_2_9, nr_2_10, nr_3_4, nr_3_5, nr_4_5, nr_4_6, nr_4_7, nr_4_8, nr_5_0, nr_5_12, nr_5_13, nr_5_18, nr_5_21, nr_5_22, nr_5_23, nr_5_24, Int.toNat_natCast, Int.natCast_nonneg, Nat.zero_le, ge_iff_le, gt_iff_lt, ne_eq, not_true_eq_false, not_false_eq_true, shp_2, shp_3, shp_4, shp_5, shp_6, shp_7, shp_8, shp_9, shp_10, shp_11, shp_12, shp_13, shp_14, shp_15, shp_16, shp_17, shp_18, shp_19, shp_20, shp_21, shp_22, shp_23, shp_24, shp_25, shp_26, shp_27, shp_28, shp_29, rR_put, hB.1, mr_1, mr_2, mr_3, mr_4, mr_5, mr_6, mr_7, mr_8, mr_9, mr_10, mr_11, mr_14, mr_15, mr_16, mr_17, rI_put, sI_put, okA_put, hB.ok, rL_put19, rL_put20, sL_put19, sL_put20, rN_put, zu_eq, false_and, and_false, and_self]
    exact hK
  have b1 : ¬ okSend w c p a s → Ct l mdX5_fails [aR 12, aI 1] (put S μ) (fun r μ' => Bd l mdX5_send K nX (rN μ) 65 [aR 12, aI w, aI c, aI p, aI a, aI s, aU] r.toList μ' 0) nX := fun q => bad 1 (by decide) (if_pos q)
  refine wp_ok (snX5_send l _ _ _) cuX5_send 300 (fun W hW => ?_)
  simp only [tX5_send_0, tX5_send_7, tX5_send_14, tX5_send_21, tX5_send_32, tX5_send_43, tX5_send_54, tX5_send_65, tX5_send_82, tX5_send_90, tX5_send_94, wX5_send_0 hW, wX5_send_1 hW, wX5_send_2 hW, wX5_send_3 hW, wX5_send_4 hW, wX5_send_7 hW, wX5_send_10 hW, wX5_send_11 hW, wX5_send_14 hW, wX5_send_17 hW, wX5_send_18 hW, wX5_send_21 hW, wX5_send_24 hW, wX5_send_26 hW, wX5_send_27 hW, wX5_send_29 hW, wX5_send_32 hW, wX5_send_35 hW, wX5_send_37 hW, wX5_send_38 hW, wX5_send_40 hW, wX5_send_43 hW, wX5_send_46 hW, wX5_send_47 hW, wX5_send_50 hW, wX5_send_51 hW, wX5_send_54 hW, wX5_send_57 hW, wX5_send_58 hW, wX5_send_61 hW, wX5_send_62 hW, wX5_send_65 hW, wX5_send_68 hW, wX5_send_69 hW, wX5_send_70 hW, wX5_send_71 hW, wX5_send_72 hW, wX5_send_73 hW, wX5_send_74 hW, wX5_send_75 hW, wX5_send_77 hW, wX5_send_79 hW, wX5_send_82 hW, wX5_send_84 hW, wX5_send_85 hW, wX5_send_87 hW, wX5_send_90 hW, wX5_send_91 hW, wX5_send_94 hW, wX5_send_96 hW, sLd, sSt, sSt2, sInc, sPush, sBin, sUn, sRem, sI2l, sLbin, sLcmp, sDup, sDup2, sIf, sIc, sNul, sNn, sAcmp, sGoto, sGetI, sGetL, sGetR, sPutI, sPutL, sPutR, sAldI, sAldL, sAldD, sAldR, sAstI, sAstC, sAstL, sAstD, sAstR, sAlen, sNewA, sNewO, sObj, sMath, sMin, sAbs, sCallV, sCallS, sRetI, sRetL, sRetF, sRetD, sRetR, sRetV, sThrow, sI2f, sL2d, sFdiv, sDdiv, lg, lst, clr, c2V, isI, isR, isF, isD, pEq, pNe, pLt, pGe, pGt, pLe, qEq, qNe, qLt, qGe, qGt, qLe, fAdd, fSub, fMul, fNeg, fLadd, fLmul, cs9, List.take, List.drop, List.reverse, List.reverseAux, Option.toList_some, Option.toList_none, bi_0, List.cons_append, List.nil_append, List.append_nil, List.length_cons, List.length_nil, ite_true, ite_false, if_true, if_false, Bool.false_eq_true, Bool.or_false, Bool.false_or, Bool.or_true, Bool.true_or, Nat.reduceBEq, Nat.reduceAdd, Nat.reduceEqDiff, Nat.reduceLeDiff, Nat.reduceLT, Int.reduceLT, Int.reduceLE, Int.reduceEq, true_and, and_true, false_or, or_false, true_or, or_true, true_implies, false_implies, implies_true, eq_self, reduceIte, Nat.le_refl, nar_b0, nar_b1, nar_i, nar_bi, nr_0_0, nr_0_1, nr_0_2, nr_1_0, nr_2_0, nr_2_1, nr_2_2, nr_2_3, nr_2_4, nr_2_5, nr_2_6, nr_2_7, nr_2_8, nr_2_9, nr_2_10, nr_3_4, nr_3_5, nr_4_5, nr_4_6, nr_4_7, nr_4_8, nr_5_0, nr_5_12, nr_5_13, nr_5_18, nr_5_21, nr_5_22, nr_5_23, nr_5_24, Int.toNat_natCast, Int.natCast_nonneg, Nat.zero_le, ge_iff_le, gt_iff_lt, ne_eq, not_true_eq_false, not_false_eq_true, shp_2, shp_3, shp_4, shp_5, shp_6, shp_7, shp_8, shp_9, shp_10, shp_11, shp_12, shp_13, shp_14, shp_15, shp_16, shp_17, shp_18, shp_19, shp_20, shp_21, shp_22, shp_23, shp_24, shp_25, shp_26, shp_27, shp_28, shp_29, rR_put, hB.1, mr_1, mr_2, mr_3, mr_4, mr_5, mr_6, mr_7, mr_8, mr_9, mr_10, mr_11, mr_14, mr_15, mr_16, mr_17, rI_put, sI_put, okA_put, hB.ok, rL_put19, rL_put20, sL_put19, sL_put20, rN_put, zu_eq, false_and, and_false, and_self]
  refine (c_in l hl (put S μ) w 0 5).use (fun _ _ => ?_)
  refine wp_ok (snX5_send l _ _ _) cuX5_send 300 (fun W hW => ?_)
  simp only [tX5_send_0, tX5_send_7, tX5_send_14, tX5_send_21, tX5_send_32, tX5_send_43, tX5_send_54, tX5_send_65, tX5_send_82, tX5_send_90, tX5_send_94, wX5_send_0 hW, wX5_send_1 hW, wX5_send_2 hW, wX5_send_3 hW, wX5_send_4 hW, wX5_send_7 hW, wX5_send_10 hW, wX5_send_11 hW, wX5_send_14 hW, wX5_send_17 hW, wX5_send_18 hW, wX5_send_21 hW, wX5_send_24 hW, wX5_send_26 hW, wX5_send_27 hW, wX5_send_29 hW, wX5_send_32 hW, wX5_send_35 hW, wX5_send_37 hW, wX5_send_38 hW, wX5_send_40 hW, wX5_send_43 hW, wX5_send_46 hW, wX5_send_47 hW, wX5_send_50 hW, wX5_send_51 hW, wX5_send_54 hW, wX5_send_57 hW, wX5_send_58 hW, wX5_send_61 hW, wX5_send_62 hW, wX5_send_65 hW, wX5_send_68 hW, wX5_send_69 hW, wX5_send_70 hW, wX5_send_71 hW, wX5_send_72 hW, wX5_send_73 hW, wX5_send_74 hW, wX5_send_75 hW, wX5_send_77 hW, wX5_send_79 hW, wX5_send_82 hW, wX5_send_84 hW, wX5_send_85 hW, wX5_send_87 hW, wX5_send_90 hW, wX5_send_91 hW, wX5_send_94 hW, wX5_send_96 hW, sLd, sSt, sSt2, sInc, sPush, sBin, sUn, sRem, sI2l, sLbin, sLcmp, sDup, sDup2, sIf, sIc, sNul, sNn, sAcmp, sGoto, sGetI, sGetL, sGetR, sPutI, sPutL, sPutR, sAldI, sAldL, sAldD, sAldR, sAstI, sAstC, sAstL, sAstD, sAstR, sAlen, sNewA, sNewO, sObj, sMath, sMin, sAbs, sCallV, sCallS, sRetI, sRetL, sRetF, sRetD, sRetR, sRetV, sThrow, sI2f, sL2d, sFdiv, sDdiv, lg, lst, clr, c2V, isI, isR, isF, isD, pEq, pNe, pLt, pGe, pGt, pLe, qEq, qNe, qLt, qGe, qGt, qLe, fAdd, fSub, fMul, fNeg, fLadd, fLmul, cs9, List.take, List.drop, List.reverse, List.reverseAux, Option.toList_some, Option.toList_none, bi_0, List.cons_append, List.nil_append, List.append_nil, List.length_cons, List.length_nil, ite_true, ite_false, if_true, if_false, Bool.false_eq_true, Bool.or_false, Bool.false_or, Bool.or_true, Bool.true_or, Nat.reduceBEq, Nat.reduceAdd, Nat.reduceEqDiff, Nat.reduceLeDiff, Nat.reduceLT, Int.reduceLT, Int.reduceLE, Int.reduceEq, true_and, and_true, false_or, or_false, true_or, or_true, true_implies, false_implies, implies_true, eq_self, reduceIte, Nat.le_refl, nar_b0, nar_b1, nar_i, nar_bi, nr_0_0, nr_0_1, nr_0_2, nr_1_0, nr_2_0, nr_2_1, nr_2_2, nr_2_3, nr_2_4, nr_2_5, nr_2_6, nr_2_7, nr_2_8, nr_2_9, nr_2_10, nr_3_4, nr_3_5, nr_4_5, nr_4_6, nr_4_7, nr_4_8, nr_5_0, nr_5_12, nr_5_13, nr_5_18, nr_5_21, nr_5_22, nr_5_23, nr_5_24, Int.toNat_natCast, Int.natCast_nonneg, Nat.zero_le, ge_iff_le, gt_iff_lt, ne_eq, not_true_eq_false, not_false_eq_true, shp_2, shp_3, shp_4, shp_5, shp_6, shp_7, shp_8, shp_9, shp_10, shp_11, shp_12, shp_13, shp_14, shp_15, shp_16, shp_17, shp_18, shp_19, shp_20, shp_21, shp_22, shp_23, shp_24, shp_25, shp_26, shp_27, shp_28, shp_29, rR_put, hB.1, mr_1, mr_2, mr_3, mr_4, mr_5, mr_6, mr_7, mr_8, mr_9, mr_10, mr_11, mr_14, mr_15, mr_16, mr_17, rI_put, sI_put, okA_put, hB.ok, rL_put19, rL_put20, sL_put19, sL_put20, rN_put, zu_eq, false_and, and_false, and_self]
  trace_state
  sorry
