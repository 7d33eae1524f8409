/-! ===== words for the law's walk ===== -/
theorem bh_24 (S : zS) (k : Nat) : behind S k 12 24 = S 12 24 := by rw [bh_12, if_neg (by omega)]
theorem meet_24 (S : zS) (k o : Nat) : cmMeet S k o 12 24 = S 12 24 := by
  have ht : cmTrade S k o 12 24 = S 12 24 := by
    unfold cmTrade
    rw [tr_12, if_neg (by omega), if_neg (by omega), z22o _ _ _ (by omega)]
  unfold cmMeet cmAfter
  split
  · split
    · rw [z14o _ _ _ (by omega)]
    · rw [z14o _ _ _ (by omega)]
  · split
    · split
      · rw [bh_24]; exact ht
      · exact ht
    · rw [zu_ne _ _ (by omega)]
theorem loop_24 {N k : Nat} (f : Nat) : ∀ S : zS, cmLoop N k f S 12 24 = S 12 24 := by
  induction f with
  | zero => intro S; rfl
  | succ f ih =>
    intro S
    show (if cmGo S N k then cmLoop N k f (cmMeet S k (oth S N k).toNat) else S) 12 24 = _
    split
    · rw [ih, meet_24]
    · rfl
theorem cmEnd_24 (S : zS) (k : Nat) : cmEnd S k 12 24 = S 12 24 := by
  unfold cmEnd
  split
  · rw [bh_24, z14o _ _ _ (by omega)]
  · rfl
theorem comes_24 (S : zS) (N k : Nat) : comes S N k 12 24 = S 12 24 := by
  have h := loop_24 (N := N) (k := k) 159 (zu S 14 k 105)
  unfold comes
  generalize cmLoop N k 159 (zu S 14 k 105) = T at h ⊢
  rw [cmEnd_24, h, z14o _ _ _ (by omega)]
theorem soLoop_24 {N : Nat} (f : Nat) : ∀ S : zS, soLoop N f S 12 24 = S 12 24 := by
  induction f with
  | zero => intro S; rfl
  | succ f ih =>
    intro S
    show (if S 12 23 = 0 then (match foF S N with | some k => soLoop N f (soStep S N k) | none => S) else S) 12 24 = _
    split
    · split
      · rw [ih]; unfold soStep; rw [comes_24, z21o _ _ _ (by omega)]
      · rfl
    · rfl
theorem auLoop_24 {N : Nat} {p : Int} (f : Nat) : ∀ (left : Int) (S : zS), auLoop N p f left S 12 24 = S 12 24 := by
  induction f with
  | zero => intro left S; rfl
  | succ f ih =>
    intro left S
    show (if 0 < left then auLoop N p f (left - auA S N left) (auS S N p left) else S) 12 24 = _
    split
    · rw [ih]; unfold auS; rw [tr_12, if_neg (by omega), if_neg (by omega)]
    · rfl
theorem sT_24 {t : Int} {S S' : zS} (h : S' 12 24 = 0) : sT t S S' 12 24 = t := by
  unfold sT
  split
  · rename_i e; rw [h, e]
  · exact zu_same S 12 24 t
theorem aucS_24 (S : zS) (N : Nat) : aucS S N 12 24 = S 12 24 := by
  have h := auLoop_24 (N := N) (p := meet S N) 60 (aucV S N) S
  unfold aucS
  generalize auLoop N (meet S N) 60 (aucV S N) S = T at h ⊢
  rw [ae_12, if_neg (by omega), h]
theorem sT_24s {t : Int} {S S' T : zS} (hs : S' = T) (h : T 12 24 = 0) : sT t S S' 12 24 = t := sT_24 (by rw [hs]; exact h)
theorem so60_24 (N : Nat) (S : zS) : soLoop N 60 S 12 24 = S 12 24 := soLoop_24 60 S
theorem cd_send (S : zS) (N : Nat) (w c p a s : Int) : sSend S N w c p a s 12 24 = tSend S N w c p a s := by
  have h1 : adds (zu S 12 24 0) N w c 0 p a s 12 24 = 0 := by rw [ad_12, if_neg (by omega)]; exact zu_same S 12 24 0
  unfold sSend
  generalize adds (zu S 12 24 0) N w c 0 p a s = T at h1 ⊢
  have h2 := comes_24 T (N + 1) N
  generalize comes T (N + 1) N = U at h2 ⊢
  have h3 := so60_24 (N + 1) U
  generalize soLoop (N + 1) 60 U = V at h3 ⊢
  exact sT_24 (by rw [h3, h2, h1])
theorem cd_stop (S : zS) (N : Nat) (w c t p a : Int) : sStop S N w c t p a 12 24 = tStop S N w c t p a := by
  unfold sStop
  exact sT_24 (by rw [ad_12, if_neg (by omega)]; exact zu_same S 12 24 0)
theorem cd_cancel (S : zS) (N : Nat) (o : Int) : sCancel S N o 12 24 = tCancel S N o := by
  unfold sCancel
  exact sT_24 (by rw [zu_ne _ _ (by omega)]; exact zu_same S 12 24 0)
theorem cd_reduce (S : zS) (N : Nat) (o n : Int) : sReduce S N o n 12 24 = tReduce S N o n := by
  unfold sReduce
  exact sT_24 (by rw [zu_ne _ _ (by omega), zu_ne _ _ (by omega)]; exact zu_same S 12 24 0)
theorem cd_band (S : zS) (n : Int) : sBand S n 12 24 = tBand n := by
  unfold sBand
  exact sT_24 (by rw [zu_ne _ _ (by omega)]; exact zu_same S 12 24 0)
theorem cd_rule (S : zS) (c : Int) : sRule S c 12 24 = tRule c := by
  unfold sRule
  exact sT_24 (by rw [zu_ne _ _ (by omega)]; exact zu_same S 12 24 0)
theorem cd_halt (S : zS) : sHalt S 12 24 = tHalt S := by
  unfold sHalt
  exact sT_24 (by rw [zu_ne _ _ (by omega)]; exact zu_same S 12 24 0)
theorem cd_auc (S : zS) (N : Nat) : sAuc S N 12 24 = tAuc S := by
  have h1 := aucS_24 (zu S 12 24 0) N
  unfold sAuc
  generalize aucS (zu S 12 24 0) N = T at h1 ⊢
  have h3 := so60_24 N T
  generalize soLoop N 60 T = V at h3 ⊢
  exact sT_24 (by rw [h3, h1]; exact zu_same S 12 24 0)
/-- the class's rows and the reference's lie apart -/
theorem pc (S T : zS) (X : xS) (μ : aM) : cput T X (put S μ) = put S (cput T X μ) := by
  refine Prod.ext (funext fun a => funext fun j => ?_) (Prod.ext (funext fun a => funext fun j => ?_) rfl)
  · show cI_ T X.2 (put S μ).1 a j = if 12 ≤ a ∧ a ≤ 27 then S a j else cI_ T X.2 μ.1 a j
    by_cases h : 12 ≤ a ∧ a ≤ 27
    · rw [if_pos h]
      unfold cI_
      rw [if_neg (by omega), if_neg (by omega), if_neg (by omega), if_neg (by omega), if_neg (by omega)]
      exact if_pos h
    · rw [if_neg h]
      have e : (put S μ).1 a j = μ.1 a j := if_neg h
      unfold cI_
      rw [e]
  · show cL_ T (put S μ).2.1 a j = if a = 12 ∧ (j = 19 ∨ j = 20) then S 28 j else cL_ T μ.2.1 a j
    unfold cL_
    by_cases h : a = 12 ∧ (j = 19 ∨ j = 20)
    · rw [if_pos h, if_neg (by omega)]
      exact if_pos h
    · rw [if_neg h]
      have e : (put S μ).2.1 a j = μ.2.1 a j := if_neg h
      rw [e]
theorem sL_out (T : zS) (X : xS) (μ : aM) (v : Int) : sL (cput T X μ) 28 0 v = cput T X (sL μ 28 0 v) := by
  refine Prod.ext rfl (Prod.ext (funext fun a => funext fun j => ?_) rfl)
  show (if a = 28 ∧ j = 0 then v else cL_ T μ.2.1 a j) = cL_ T (up2 μ.2.1 28 0 v) a j
  unfold cL_ up2
  by_cases h : a = 28 ∧ j = 0
  · rw [if_pos h, if_neg (by omega), if_pos h]
  · rw [if_neg h, if_neg h]
theorem sD_out (T : zS) (X : xS) (μ : aM) (v : UInt64) : sD (cput T X μ) 29 0 v = cput T X (sD μ 29 0 v) := rfl
theorem sL_outp (S : zS) (μ : aM) (v : Int) : sL (put S μ) 28 0 v = put S (sL μ 28 0 v) := by
  refine Prod.ext rfl (Prod.ext (funext fun a => funext fun j => ?_) rfl)
  show (if a = 28 ∧ j = 0 then v else if a = 12 ∧ (j = 19 ∨ j = 20) then S 28 j else μ.2.1 a j) = if a = 12 ∧ (j = 19 ∨ j = 20) then S 28 j else if a = 28 ∧ j = 0 then v else μ.2.1 a j
  by_cases h : a = 28 ∧ j = 0
  · rw [if_pos h, if_neg (by omega), if_pos h]
  · rw [if_neg h, if_neg h]
theorem sD_outp (S : zS) (μ : aM) (v : UInt64) : sD (put S μ) 29 0 v = put S (sD μ 29 0 v) := rfl
theorem mu1_put (S : zS) {μ : aM} {N : Nat} (h : rN μ = 28 + N) : mu1 (put S μ) N = put S (mu1 μ N) := by
  have hr : μ.2.2.2.2 = 28 + N := h
  refine Prod.ext (funext fun a => funext fun j => ?_) (Prod.ext (funext fun a => funext fun j => ?_) rfl)
  · show (if a = μ.2.2.2.2 + 2 then 0 else if 12 ≤ a ∧ a ≤ 27 then S a j else μ.1 a j) = if 12 ≤ a ∧ a ≤ 27 then S a j else if a = μ.2.2.2.2 + 2 then 0 else μ.1 a j
    by_cases e : 12 ≤ a ∧ a ≤ 27
    · rw [if_neg (by omega), if_pos e, if_pos e]
    · rw [if_neg e, if_neg e]
  · show (if a = μ.2.2.2.2 + 2 then 0 else if a = 12 ∧ (j = 19 ∨ j = 20) then S 28 j else μ.2.1 a j) = if a = 12 ∧ (j = 19 ∨ j = 20) then S 28 j else if a = μ.2.2.2.2 + 2 then 0 else μ.2.1 a j
    by_cases e : a = 12 ∧ (j = 19 ∨ j = 20)
    · rw [if_neg (by omega), if_pos e, if_pos e]
    · rw [if_neg e, if_neg e]
theorem cB.pt {N : Nat} {μ : aM} (h : cB N μ) (S : zS) : cB N (put S μ) := h
theorem cO.pt {S : zS} {N : Nat} {X : xS} {μ : aM} {b : Int} (h : cO S N X μ b) : cO S N X (put S μ) b := ⟨h.1.pt S, h.2⟩
theorem mB.c {μ : aM} (h : mB μ) (T : zS) (X : xS) : mB (cput T X μ) := ⟨fun j => by
  have := h.1 j
  show cR_ T X.1 μ.2.2.1 12 j = _
  unfold cR_
  rw [if_neg (by omega), if_neg (by omega), if_neg (by omega)]
  exact this, h.2⟩
theorem mB.l {μ : aM} (h : mB μ) (v : Int) : mB (sL μ 28 0 v) := h
theorem mB.d {μ : aM} (h : mB μ) (v : UInt64) : mB (sD μ 29 0 v) := h
theorem mB.m {μ : aM} (h : mB μ) {N : Nat} (hn : rN μ = 28 + N) : mB (mu1 μ N) := ⟨fun j => by
  have hr : μ.2.2.2.2 = 28 + N := hn
  have := h.1 j
  show (if 12 = 3 ∧ j = N then 30 + N else if 12 = μ.2.2.2.2 + 2 then 0 else μ.2.2.1 12 j) = _
  rw [if_neg (by omega), if_neg (by omega)]
  exact this, by show 28 ≤ rN μ + 1; have := h.2; omega⟩
theorem cB.l {N : Nat} {μ : aM} (h : cB N μ) (v : Int) : cB N (sL μ 28 0 v) := h
theorem cB.d {N : Nat} {μ : aM} (h : cB N μ) (v : UInt64) : cB N (sD μ 29 0 v) := h
theorem rL_out (S T : zS) (X : xS) (μ : aM) (v : Int) : rL (put S (cput T X (sL μ 28 0 v))) 28 0 = v := rfl
theorem rD_out (S T : zS) (X : xS) (μ : aM) (v : UInt64) : rD (put S (cput T X (sD μ 29 0 v))) 29 0 = v := rfl
/-- what a case of the law goes on with -/
def KL (l : Launch) (L : Nat) (xs : Nat → Int32) (i : Int) (N : Nat) (b : Int) (g : Nat) : Prop := ∀ (S' : zS) (N' : Nat) (X' : xS) (μ' : aM) (g' : Nat) (y6 y7 y8 : aV), cB N' μ' → bk S' N' X' → Jnv S' N' (b + 19600) → zI S' N' → N' ≤ N + 1 → mB μ' → g' ≤ g + 3 → BL l L xs 1969 [aR 1, aR 2, aR 12, aR 28, aR 29, aI i, y6, y7, y8] [] (put S' (cput S' X' μ')) g'
theorem fnd_ex (Q : Nat → Prop) (N : Nat) : ∃ r, fndS Q N r := by
  induction N with
  | zero => exact ⟨none, fun j hj => absurd hj (Nat.not_lt_zero _)⟩
  | succ n ih =>
    obtain ⟨r, hr⟩ := ih
    cases r with
    | some k => exact ⟨some k, by have := hr.1; omega, hr.2⟩
    | none =>
      by_cases h : Q n
      · exact ⟨some n, Nat.lt_succ_self n, h, fun j hj => hr j hj⟩
      · refine ⟨none, fun j hj => ?_⟩
        rcases Nat.lt_or_ge j n with q | q
        · exact hr j q
        · rw [show j = n by omega]; exact h
set_option maxHeartbeats 400000 in
theorem c_levels_bad (l : Launch) (hl : l.stackTraces = false) (S : zS) (μ : aM) (hB : mB μ) (c : Int) (hc : tSide c ≠ 0) : CtE l mdX5_levels [aR 12, aI c] (put S μ) (some (aI (vT (tSide c) 0))) (put (zu S 12 24 (tSide c)) μ) := by
  have hn : ¬ (c = 98 ∨ c = 115) := fun q => hc (if_pos q)
  have ht : tSide c = 1 := if_neg hn
  refine CtE.of hl rfl rfl rfl rfl (fun K hM hK => ?_)
  show Bd _ _ _ _ _ 0 [aR 12, aI c, aU] [] (put S μ) 0
  rw [ht] at hK
  refine wp_ok (snX5_levels l _ _ _) cuX5_levels 300 (fun W hW => ?_)
  simp only [tX5_levels_0, tX5_levels_5, tX5_levels_16, tX5_levels_23, tX5_levels_29, wX5_levels_0 hW, wX5_levels_1 hW, wX5_levels_2 hW, wX5_levels_5 hW, wX5_levels_8 hW, wX5_levels_9 hW, wX5_levels_12 hW, wX5_levels_13 hW, wX5_levels_16 hW, wX5_levels_19 hW, wX5_levels_20 hW, wX5_levels_21 hW, wX5_levels_22 hW, wX5_levels_23 hW, wX5_levels_24 hW, wX5_levels_25 hW, wX5_levels_26 hW, wX5_levels_29 hW, wX5_levels_32 hW, wX5_levels_35 hW, wX5_levels_38 hW, wX5_levels_39 hW, sLd, sSt, sSt2, sInc, sPush, sBin, sUn, sRem, sI2l, sLbin, sLcmp, sDup, sDup2, sIf, sIc, sNul, sNn, sAcmp, sGoto, sGetI, sGetL, sGetR, sPutI, sPutL, sPutR, sAldI, sAldL, sAldD, sAldR, sAstI, sAstC, sAstL, sAstD, sAstR, sAlen, sNewA, sNewO, sObj, sMath, sMin, sAbs, sCallV, sCallS, sRetI, sRetL, sRetF, sRetD, sRetR, sRetV, sThrow, sI2f, sL2d, sFdiv, sDdiv, lg, lst, clr, c2V, isI, isR, isF, isD, pEq, pNe, pLt, pGe, pGt, pLe, qEq, qNe, qLt, qGe, qGt, qLe, fAdd, fSub, fMul, fNeg, fLadd, fLmul, cs9, List.take, List.drop, List.reverse, List.reverseAux, Option.toList_some, Option.toList_none, bi_0, List.cons_append, List.nil_append, List.append_nil, List.length_cons, List.length_nil, ite_true, ite_false, if_true, if_false, Bool.false_eq_true, Bool.or_false, Bool.false_or, Bool.or_true, Bool.true_or, Nat.reduceBEq, Nat.reduceAdd, Nat.reduceEqDiff, Nat.reduceLeDiff, Nat.reduceLT, Int.reduceLT, Int.reduceLE, Int.reduceEq, true_and, and_true, false_or, or_false, true_or, or_true, true_implies, false_implies, implies_true, eq_self, reduceIte, Nat.le_refl, nar_b0, nar_b1, nar_i, nar_bi, nr_0_0, nr_0_1, nr_0_2, nr_1_0, nr_2_0, nr_2_1, nr_2_2, nr_2_3, nr_2_4, nr_2_5, nr_2_6, nr_2_7, nr_2_8, nr_2_9, nr_2_10, nr_3_4, nr_3_5, nr_4_5, nr_4_6, nr_4_7, nr_4_8, nr_5_0, nr_5_12, nr_5_13, nr_5_18, nr_5_21, nr_5_22, nr_5_23, nr_5_24, Int.toNat_natCast, Int.natCast_nonneg, Nat.zero_le, ge_iff_le, gt_iff_lt, ne_eq, not_true_eq_false, not_false_eq_true, shp_2, shp_3, shp_4, shp_5, shp_6, shp_7, shp_8, shp_9, shp_10, shp_11, shp_12, shp_13, shp_14, shp_15, shp_16, shp_17, shp_18, shp_19, shp_20, shp_21, shp_22, shp_23, shp_24, shp_25, shp_26, shp_27, shp_28, shp_29, rR_put, hB.1, mr_1, mr_2, mr_3, mr_4, mr_5, mr_6, mr_7, mr_8, mr_9, mr_10, mr_11, mr_14, mr_15, mr_16, mr_17, rI_put, sI_put, okA_put, hB.ok, rL_put19, rL_put20, sL_put19, sL_put20, rN_put, zu_eq, false_and, and_false, and_self]
  refine (c_isSide l hl (put S μ) c).use (fun _ _ => ?_)
  rw [bi_f hn]
  refine wp_ok (snX5_levels l _ _ _) cuX5_levels 300 (fun W hW => ?_)
  simp only [tX5_levels_0, tX5_levels_5, tX5_levels_16, tX5_levels_23, tX5_levels_29, wX5_levels_0 hW, wX5_levels_1 hW, wX5_levels_2 hW, wX5_levels_5 hW, wX5_levels_8 hW, wX5_levels_9 hW, wX5_levels_12 hW, wX5_levels_13 hW, wX5_levels_16 hW, wX5_levels_19 hW, wX5_levels_20 hW, wX5_levels_21 hW, wX5_levels_22 hW, wX5_levels_23 hW, wX5_levels_24 hW, wX5_levels_25 hW, wX5_levels_26 hW, wX5_levels_29 hW, wX5_levels_32 hW, wX5_levels_35 hW, wX5_levels_38 hW, wX5_levels_39 hW, sLd, sSt, sSt2, sInc, sPush, sBin, sUn, sRem, sI2l, sLbin, sLcmp, sDup, sDup2, sIf, sIc, sNul, sNn, sAcmp, sGoto, sGetI, sGetL, sGetR, sPutI, sPutL, sPutR, sAldI, sAldL, sAldD, sAldR, sAstI, sAstC, sAstL, sAstD, sAstR, sAlen, sNewA, sNewO, sObj, sMath, sMin, sAbs, sCallV, sCallS, sRetI, sRetL, sRetF, sRetD, sRetR, sRetV, sThrow, sI2f, sL2d, sFdiv, sDdiv, lg, lst, clr, c2V, isI, isR, isF, isD, pEq, pNe, pLt, pGe, pGt, pLe, qEq, qNe, qLt, qGe, qGt, qLe, fAdd, fSub, fMul, fNeg, fLadd, fLmul, cs9, List.take, List.drop, List.reverse, List.reverseAux, Option.toList_some, Option.toList_none, bi_0, List.cons_append, List.nil_append, List.append_nil, List.length_cons, List.length_nil, ite_true, ite_false, if_true, if_false, Bool.false_eq_true, Bool.or_false, Bool.false_or, Bool.or_true, Bool.true_or, Nat.reduceBEq, Nat.reduceAdd, Nat.reduceEqDiff, Nat.reduceLeDiff, Nat.reduceLT, Int.reduceLT, Int.reduceLE, Int.reduceEq, true_and, and_true, false_or, or_false, true_or, or_true, true_implies, false_implies, implies_true, eq_self, reduceIte, Nat.le_refl, nar_b0, nar_b1, nar_i, nar_bi, nr_0_0, nr_0_1, nr_0_2, nr_1_0, nr_2_0, nr_2_1, nr_2_2, nr_2_3, nr_2_4, nr_2_5, nr_2_6, nr_2_7, nr_2_8, nr_2_9, nr_2_10, nr_3_4, nr_3_5, nr_4_5, nr_4_6, nr_4_7, nr_4_8, nr_5_0, nr_5_12, nr_5_13, nr_5_18, nr_5_21, nr_5_22, nr_5_23, nr_5_24, Int.toNat_natCast, Int.natCast_nonneg, Nat.zero_le, ge_iff_le, gt_iff_lt, ne_eq, not_true_eq_false, not_false_eq_true, shp_2, shp_3, shp_4, shp_5, shp_6, shp_7, shp_8, shp_9, shp_10, shp_11, shp_12, shp_13, shp_14, shp_15, shp_16, shp_17, shp_18, shp_19, shp_20, shp_21, shp_22, shp_23, shp_24, shp_25, shp_26, shp_27, shp_28, shp_29, rR_put, hB.1, mr_1, mr_2, mr_3, mr_4, mr_5, mr_6, mr_7, mr_8, mr_9, mr_10, mr_11, mr_14, mr_15, mr_16, mr_17, rI_put, sI_put, okA_put, hB.ok, rL_put19, rL_put20, sL_put19, sL_put20, rN_put, zu_eq, false_and, and_false, and_self]
  refine (c_fails l hl S μ hB 1).use (fun _ _ => ?_)
  refine wp_ok (snX5_levels l _ _ _) cuX5_levels 300 (fun W hW => ?_)
  simp only [tX5_levels_0, tX5_levels_5, tX5_levels_16, tX5_levels_23, tX5_levels_29, wX5_levels_0 hW, wX5_levels_1 hW, wX5_levels_2 hW, wX5_levels_5 hW, wX5_levels_8 hW, wX5_levels_9 hW, wX5_levels_12 hW, wX5_levels_13 hW, wX5_levels_16 hW, wX5_levels_19 hW, wX5_levels_20 hW, wX5_levels_21 hW, wX5_levels_22 hW, wX5_levels_23 hW, wX5_levels_24 hW, wX5_levels_25 hW, wX5_levels_26 hW, wX5_levels_29 hW, wX5_levels_32 hW, wX5_levels_35 hW, wX5_levels_38 hW, wX5_levels_39 hW, sLd, sSt, sSt2, sInc, sPush, sBin, sUn, sRem, sI2l, sLbin, sLcmp, sDup, sDup2, sIf, sIc, sNul, sNn, sAcmp, sGoto, sGetI, sGetL, sGetR, sPutI, sPutL, sPutR, sAldI, sAldL, sAldD, sAldR, sAstI, sAstC, sAstL, sAstD, sAstR, sAlen, sNewA, sNewO, sObj, sMath, sMin, sAbs, sCallV, sCallS, sRetI, sRetL, sRetF, sRetD, sRetR, sRetV, sThrow, sI2f, sL2d, sFdiv, sDdiv, lg, lst, clr, c2V, isI, isR, isF, isD, pEq, pNe, pLt, pGe, pGt, pLe, qEq, qNe, qLt, qGe, qGt, qLe, fAdd, fSub, fMul, fNeg, fLadd, fLmul, cs9, List.take, List.drop, List.reverse, List.reverseAux, Option.toList_some, Option.toList_none, bi_0, List.cons_append, List.nil_append, List.append_nil, List.length_cons, List.length_nil, ite_true, ite_false, if_true, if_false, Bool.false_eq_true, Bool.or_false, Bool.false_or, Bool.or_true, Bool.true_or, Nat.reduceBEq, Nat.reduceAdd, Nat.reduceEqDiff, Nat.reduceLeDiff, Nat.reduceLT, Int.reduceLT, Int.reduceLE, Int.reduceEq, true_and, and_true, false_or, or_false, true_or, or_true, true_implies, false_implies, implies_true, eq_self, reduceIte, Nat.le_refl, nar_b0, nar_b1, nar_i, nar_bi, nr_0_0, nr_0_1, nr_0_2, nr_1_0, nr_2_0, nr_2_1, nr_2_2, nr_2_3, nr_2_4, nr_2_5, nr_2_6, nr_2_7, nr_2_8, nr_2_9, nr_2_10, nr_3_4, nr_3_5, nr_4_5, nr_4_6, nr_4_7, nr_4_8, nr_5_0, nr_5_12, nr_5_13, nr_5_18, nr_5_21, nr_5_22, nr_5_23, nr_5_24, Int.toNat_natCast, Int.natCast_nonneg, Nat.zero_le, ge_iff_le, gt_iff_lt, ne_eq, not_true_eq_false, not_false_eq_true, shp_2, shp_3, shp_4, shp_5, shp_6, shp_7, shp_8, shp_9, shp_10, shp_11, shp_12, shp_13, shp_14, shp_15, shp_16, shp_17, shp_18, shp_19, shp_20, shp_21, shp_22, shp_23, shp_24, shp_25, shp_26, shp_27, shp_28, shp_29, rR_put, hB.1, mr_1, mr_2, mr_3, mr_4, mr_5, mr_6, mr_7, mr_8, mr_9, mr_10, mr_11, mr_14, mr_15, mr_16, mr_17, rI_put, sI_put, okA_put, hB.ok, rL_put19, rL_put20, sL_put19, sL_put20, rN_put, zu_eq, false_and, and_false, and_self]
  exact hK
