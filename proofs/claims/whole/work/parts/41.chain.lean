/-! ===== chains ===== -/
/-- an order is put into a chain of side c: behind all that it doesn't come ahead of -/
def insL (S : zS) (c : Int) (k : Nat) : List Nat → List Nat
  | [] => [k]
  | a :: t => if ahd c (S 16 k) (S 16 a) then k :: a :: t else a :: insL S c k t
def rmv (k : Nat) : List Nat → List Nat
  | [] => []
  | a :: t => if a = k then t else a :: rmv k t
/-- the name of the last of a chain -/
def ln (p : List Nat) : Nat := match p.getLast? with
  | none => 0
  | some b => 30 + b
theorem okA_sR (μ : aM) (a j x b : Nat) : okA (sR μ a j x) b = okA μ b := rfl
theorem okA_sI (μ : aM) (a j : Nat) (x : Int) (b : Nat) : okA (sI μ a j x) b = okA μ b := rfl
theorem okA_sL (μ : aM) (a j : Nat) (x : Int) (b : Nat) : okA (sL μ a j x) b = okA μ b := rfl
theorem ln_nil : ln [] = 0 := rfl
theorem ln_snoc (p : List Nat) (b : Nat) : ln (p ++ [b]) = 30 + b := by unfold ln; rw [List.getLast?_append]; rfl
theorem hd_nil : hd [] = 0 := rfl
theorem hd_cons (a : Nat) (t : List Nat) : hd (a :: t) = 30 + a := rfl
theorem nx_no {L : List Nat} {k : Nat} (h : k ∉ L) : nx L k = 0 := by
  induction L with
  | nil => rfl
  | cons a t ih =>
    have h1 : k ≠ a ∧ k ∉ t := by simpa using h
    show (if k = a then hd t else nx t k) = 0
    rw [if_neg h1.1]; exact ih h1.2
theorem nx_at {p t : List Nat} {a : Nat} (h : a ∉ p) : nx (p ++ a :: t) a = hd t := by
  induction p with
  | nil => exact if_pos rfl
  | cons b p ih =>
    have h1 : a ≠ b ∧ a ∉ p := by simpa using h
    show (if a = b then _ else nx (p ++ a :: t) a) = _
    rw [if_neg h1.1]; exact ih h1.2
theorem hd_app (p : List Nat) (b : Nat) (t u : List Nat) : hd (p ++ b :: t) = hd (p ++ b :: u) := by cases p <;> rfl
theorem nx_mid (p t : List Nat) {b k i : Nat} (h1 : i ≠ b) (h2 : i ≠ k) : nx (p ++ b :: k :: t) i = nx (p ++ b :: t) i := by
  induction p with
  | nil =>
    show (if i = b then _ else if i = k then _ else nx t i) = if i = b then _ else nx t i
    rw [if_neg h1, if_neg h2, if_neg h1]
  | cons a p ih =>
    show (if i = a then hd (p ++ b :: k :: t) else nx (p ++ b :: k :: t) i) = if i = a then hd (p ++ b :: t) else nx (p ++ b :: t) i
    rw [ih, hd_app p b (k :: t) t]
theorem rmv_app {p t : List Nat} {k : Nat} (h : k ∉ p) : rmv k (p ++ k :: t) = p ++ t := by
  induction p with
  | nil => exact if_pos rfl
  | cons a p ih =>
    have h1 : k ≠ a ∧ k ∉ p := by simpa using h
    show (if a = k then _ else a :: rmv k (p ++ k :: t)) = _
    rw [if_neg (Ne.symm h1.1), ih h1.2]; rfl
theorem insL_app {S : zS} {c : Int} {k : Nat} {p t : List Nat} (h : ∀ a ∈ p, ¬ ahd c (S 16 k) (S 16 a)) : insL S c k (p ++ t) = p ++ insL S c k t := by
  induction p with
  | nil => rfl
  | cons a p ih =>
    show (if _ then _ else a :: insL S c k (p ++ t)) = _
    rw [if_neg (h a List.mem_cons_self), ih (fun b hb => h b (List.mem_cons_of_mem _ hb))]; rfl
/-- a chain of side c: of orders that came, each once -/
def lkL (S : zS) (N : Nat) (c : Int) (L : List Nat) : Prop := L.Nodup ∧ ∀ a, a ∈ L → a < N ∧ S 13 a = c
theorem lkL.lt {S : zS} {N : Nat} {c : Int} {L : List Nat} (h : lkL S N c L) {a : Nat} (ha : a ∈ L) : a < N := (h.2 a ha).1
theorem lkL.c {S : zS} {N : Nat} {c : Int} {L : List Nat} (h : lkL S N c L) {a : Nat} (ha : a ∈ L) : S 13 a = c := (h.2 a ha).2
/-- what stands behind a in a chain p ++ a :: t -/
theorem lkL.nx {S : zS} {N : Nat} {c : Int} {X : xS} {p t : List Nat} {a : Nat} (h : lkL S N c (X.1 c)) (e : X.1 c = p ++ a :: t) (μ : aM) : rR (cput S X μ) (30 + a) 11 = hd t := by
  have ha : a ∈ X.1 c := by rw [e]; simp
  rw [rr_o, h.c ha, e]
  have h1 := h.1
  rw [e] at h1
  refine nx_at (fun q => ?_)
  have h2 := (List.nodup_append.mp h1).2.2 a q a List.mem_cons_self
  exact h2 rfl
theorem snoc_eq {p : List Nat} (b : Nat) (t : List Nat) : p ++ b :: t = (p ++ [b]) ++ t := by simp
set_option maxHeartbeats 400000 in
theorem c_isAtLeast (l : Launch) (hl : l.stackTraces = false) (S : zS) (X : xS) {N : Nat} {μ : aM} (hC : cB N μ) {c : Int} (hc : sC c) (p q : Int) : CtE l mdX1_isAtLeast [aR (sd c), aI p, aI q] (cput S X μ) (some (aI (bi (¬ ahd c q p)))) (cput S X μ) := by
  refine CtE.of hl rfl rfl rfl rfl (fun K hM hK => ?_)
  show Bd _ _ _ _ _ 0 [aR (sd c), aI p, aI q] [] (cput S X μ) 0
  refine wp_ok (snX1_isAtLeast l _ _ _) cuX1_isAtLeast 300 (fun W hW => ?_)
  simp only [tX1_isAtLeast_0, wX1_isAtLeast_0 hW, wX1_isAtLeast_1 hW, wX1_isAtLeast_4 hW, wX1_isAtLeast_7 hW, wX1_isAtLeast_8 hW, wX1_isAtLeast_9 hW, wX1_isAtLeast_12 hW, wX1_isAtLeast_13 hW, wX1_isAtLeast_16 hW, wX1_isAtLeast_17 hW, wX1_isAtLeast_20 hW, wX1_isAtLeast_21 hW, wX1_isAtLeast_22 hW, wX1_isAtLeast_25 hW, wX1_isAtLeast_26 hW, wX1_isAtLeast_29 hW, wX1_isAtLeast_30 hW, sLd, sSt, sSt2, sInc, sPush, sBin, sUn, sRem, sI2l, sLbin, sLcmp, sDup, sDup2, sIf, sIc, sNul, sNn, sAcmp, sGoto, sGetI, sGetL, sGetR, sPutI, sPutL, sPutR, sAldI, sAldL, sAldD, sAldR, sAstI, sAstC, sAstL, sAstD, sAstR, sAlen, sNewA, sNewO, sObj, sMath, sMin, sAbs, sCallV, sCallS, sRetI, sRetL, sRetF, sRetD, sRetR, sRetV, sThrow, sI2f, sL2d, sFdiv, sDdiv, lg, lst, clr, c2V, isI, isR, isF, isD, pEq, pNe, pLt, pGe, pGt, pLe, qEq, qNe, qLt, qGe, qGt, qLe, fAdd, fSub, fMul, fNeg, fLadd, fLmul, cs9, List.take, List.drop, List.reverse, List.reverseAux, Option.toList_some, Option.toList_none, bi_0, List.cons_append, List.nil_append, List.append_nil, List.length_cons, List.length_nil, ite_true, ite_false, if_true, if_false, Bool.false_eq_true, Bool.or_false, Bool.false_or, Bool.or_true, Bool.true_or, Nat.reduceBEq, Nat.reduceAdd, Nat.reduceEqDiff, Nat.reduceLeDiff, Nat.reduceLT, Int.reduceLT, Int.reduceLE, Int.reduceEq, true_and, and_true, false_or, or_false, true_or, or_true, true_implies, false_implies, implies_true, eq_self, reduceIte, Nat.le_refl, nar_b0, nar_b1, nar_i, nar_bi, nr_0_0, nr_0_1, nr_0_2, nr_1_0, nr_2_0, nr_2_1, nr_2_2, nr_2_3, nr_2_4, nr_2_5, nr_2_6, nr_2_7, nr_2_8, nr_2_9, nr_2_10, nr_3_4, nr_3_5, nr_4_5, nr_4_6, nr_4_7, nr_4_8, nr_5_0, nr_5_12, nr_5_13, nr_5_18, nr_5_21, nr_5_22, nr_5_23, nr_5_24, Int.toNat_natCast, Int.natCast_nonneg, Nat.zero_le, ge_iff_le, gt_iff_lt, ne_eq, not_true_eq_false, not_false_eq_true, shp_2, shp_3, shp_4, shp_5, shp_6, shp_7, shp_8, shp_9, shp_10, shp_11, shp_12, shp_13, shp_14, shp_15, shp_16, shp_17, shp_18, shp_19, shp_20, shp_21, shp_22, shp_23, shp_24, shp_25, shp_26, shp_27, shp_28, shp_29, okA_sR, okA_sI, okA_sL, okA_cput, rN_cput, hC.ok, hC.ks, shp_o, shp_sd, o_ne, o_eq, sd_ne, rs_0 hC, ro_0, ro_1, ro_2, ro_3, ro_4, ro_5, ro_6, ro_7, ro_8, ro_9, ro_10, rg_5, rg_6, rg_7, rg_8, rt_4, rt_5, rp_7, rp_8, rp_9, rp_10, rb_11, rl_6, rl_7, rr_2, rr_6, rr_3, rr_4, rr_5, hC.g0, hC.g1, hC.g2, hC.g3, hC.g4, hC.t0, hC.t1, hC.t2, hC.t3, so_6, so_7, so_8, so_9, sg_6, sg_7, sg_8, st_4, st_5, sp_7, sp_8, sp_9, sp_10, sl_6, sl_7, sb_11, zu_eq, Nat.reduceEqDiff, false_and, and_false, and_self]
  unfold bi at hK; split at hK <;> (repeat' (first | refine ⟨?_, ?_⟩ | intro _)) <;> first | exact hK | trivial | (exfalso; omega) | omega
set_option maxHeartbeats 1000000 in
theorem c_putIn (l : Launch) (hl : l.stackTraces = false) (S : zS) (X : xS) {N : Nat} {μ : aM} (hC : cB N μ) {c : Int} (hc : sC c) {k : Nat} (hk : k < N) (hks : S 13 k = c) (hL : lkL S N c (X.1 c)) (hn : k ∉ X.1 c) : CtE l mdX1_putIn [aR (sd c), aR (30 + k)] (cput S X μ) none (cput S (upL X c (insL S c k (X.1 c))) μ) := by
  refine CtE.of hl rfl rfl rfl rfl (fun K hM hK => ?_)
  show Bd _ _ _ _ _ 0 [aR (sd c), aR (30 + k), aU, aU] [] (cput S X μ) 0
  have f1 : ∀ t, X.1 c = t → insL S c k t = k :: t → K none (sR (sR (cput S X μ) (30 + k) 11 (hd t)) (sd c) 1 (30 + k)) := fun t e1 e2 => by
    rw [e1, e2] at hK
    refine cast ?_ hK
    congr 1
    symm
    refine ptr (X := X) hc ?_ ?_ ?_ ?_ ?_ ?_
    iterate 3 rfl
    · exact if_pos ⟨rfl, rfl⟩
    · intro i hi
      show (if 30 + i = sd c ∧ 11 = 1 then _ else if 30 + i = 30 + k ∧ 11 = 11 then hd t else rR (cput S X μ) (30 + i) 11) = if i = k then hd t else nx t i
      rw [if_neg (by omega)]
      by_cases h : i = k
      · rw [if_pos (by omega), if_pos h]
      · rw [if_neg (by omega), if_neg h, rr_o, hi, e1]
    · intro a j h1 h2
      show (if a = sd c ∧ j = 1 then _ else if a = 30 + k ∧ j = 11 then _ else _) = _
      rw [if_neg h1, if_neg (fun q => h2 ⟨by omega, q.2, by rw [q.1, Nat.add_sub_cancel_left]; exact hks⟩)]
      rfl
  have f2 : ∀ p b t, X.1 c = p ++ b :: t → insL S c k (X.1 c) = p ++ b :: k :: t → K none (sR (sR (cput S X μ) (30 + k) 11 (hd t)) (30 + b) 11 (30 + k)) := fun p b t e1 e2 => by
    have hb : b ∈ X.1 c := by rw [e1]; simp
    have hbk : b ≠ k := fun q => hn (q ▸ hb)
    have nd := hL.1
    rw [e1] at nd
    have hbp : b ∉ p := fun q => (List.nodup_append.mp nd).2.2 b q b List.mem_cons_self rfl
    have hkp : k ∉ p ++ [b] := fun q => hn (by rw [e1, snoc_eq b t]; exact List.mem_append_left _ q)
    rw [e2] at hK
    refine cast ?_ hK
    congr 1
    symm
    refine ptr (X := X) hc ?_ ?_ ?_ ?_ ?_ ?_
    iterate 3 rfl
    · show (if sd c = 30 + b ∧ 1 = 11 then _ else if sd c = 30 + k ∧ 1 = 11 then _ else rR (cput S X μ) (sd c) 1) = _
      rw [if_neg (by omega), if_neg (by omega), rs_1 _ _ _ hc, e1]
      exact hd_app _ _ _ _
    · intro i hi
      show (if 30 + i = 30 + b ∧ 11 = 11 then 30 + k else if 30 + i = 30 + k ∧ 11 = 11 then hd t else rR (cput S X μ) (30 + i) 11) = nx (p ++ b :: k :: t) i
      by_cases h1 : i = b
      · rw [if_pos (by omega), h1, nx_at hbp]; rfl
      · rw [if_neg (by omega)]
        by_cases h2 : i = k
        · rw [if_pos (by omega), h2, snoc_eq b (k :: t), nx_at hkp]
        · rw [if_neg (by omega), rr_o, hi, e1, nx_mid _ _ h1 h2]
    · intro a j h1 h2
      show (if a = 30 + b ∧ j = 11 then _ else if a = 30 + k ∧ j = 11 then _ else _) = _
      rw [if_neg (fun q => h2 ⟨by omega, q.2, by rw [q.1, Nat.add_sub_cancel_left]; exact hL.c hb⟩), if_neg (fun q => h2 ⟨by omega, q.2, by rw [q.1, Nat.add_sub_cancel_left]; exact hks⟩)]
      rfl
  have fin : ∀ p t, X.1 c = p ++ t → (∀ a ∈ p, ¬ ahd c (S 16 k) (S 16 a)) → insL S c k t = k :: t → (ln p = 0 → K none (sR (sR (cput S X μ) (30 + k) 11 (hd (X.1 c))) (sd c) 1 (30 + k))) ∧ (∀ b, ln p = 30 + b → b < N ∧ rR (cput S X μ) (30 + b) 11 = hd t ∧ K none (sR (sR (cput S X μ) (30 + k) 11 (hd t)) (30 + b) 11 (30 + k))) := by
    intro p t e1 ha e2
    rcases p.eq_nil_or_concat with rfl | ⟨p, b, rfl⟩
    · refine ⟨fun _ => ?_, fun b h => ?_⟩
      · have e1 : X.1 c = t := e1
        rw [e1]; exact f1 t e1 e2
      · rw [ln_nil] at h; omega
    · rw [List.concat_eq_append] at *
      refine ⟨fun h => ?_, fun b' h => ?_⟩
      · rw [ln_snoc] at h; omega
      · rw [ln_snoc] at h
        have hb : b = b' := by omega
        subst hb
        have e3 : X.1 c = p ++ b :: t := by rw [e1]; exact (snoc_eq b t).symm
        refine ⟨hL.lt (by rw [e3]; simp), hL.nx e3 μ, f2 p b t e3 ?_⟩
        rw [e1, insL_app ha, e2]; simp
  have main : ∀ t p, X.1 c = p ++ t → (∀ a ∈ p, ¬ ahd c (S 16 k) (S 16 a)) → Bd l mdX1_putIn K nX (rN μ) 7 [aR (sd c), aR (30 + k), aR (ln p), aR (hd t)] [] (cput S X μ) 0 := by
    intro t
    induction t with
    | nil =>
      intro p e1 ha
      have h := fin p [] e1 ha rfl
      rcases p.eq_nil_or_concat with rfl | ⟨p, b, rfl⟩
      · rw [ln_nil] at h ⊢
        refine wp_ok (snX1_putIn l _ _ _) cuX1_putIn 300 (fun W hW => ?_)
        simp only [tX1_putIn_0, tX1_putIn_7, tX1_putIn_23, wX1_putIn_0 hW, wX1_putIn_1 hW, wX1_putIn_2 hW, wX1_putIn_3 hW, wX1_putIn_6 hW, wX1_putIn_7 hW, wX1_putIn_8 hW, wX1_putIn_11 hW, wX1_putIn_12 hW, wX1_putIn_13 hW, wX1_putIn_16 hW, wX1_putIn_17 hW, wX1_putIn_20 hW, wX1_putIn_23 hW, wX1_putIn_26 hW, wX1_putIn_27 hW, wX1_putIn_28 hW, wX1_putIn_29 hW, wX1_putIn_32 hW, wX1_putIn_33 hW, wX1_putIn_36 hW, wX1_putIn_37 hW, wX1_putIn_40 hW, wX1_putIn_41 hW, wX1_putIn_42 hW, wX1_putIn_45 hW, wX1_putIn_48 hW, wX1_putIn_49 hW, wX1_putIn_50 hW, wX1_putIn_53 hW, wX1_putIn_56 hW, wX1_putIn_57 hW, wX1_putIn_58 hW, wX1_putIn_61 hW, wX1_putIn_64 hW, wX1_putIn_65 hW, wX1_putIn_66 hW, wX1_putIn_69 hW, sLd, sSt, sSt2, sInc, sPush, sBin, sUn, sRem, sI2l, sLbin, sLcmp, sDup, sDup2, sIf, sIc, sNul, sNn, sAcmp, sGoto, sGetI, sGetL, sGetR, sPutI, sPutL, sPutR, sAldI, sAldL, sAldD, sAldR, sAstI, sAstC, sAstL, sAstD, sAstR, sAlen, sNewA, sNewO, sObj, sMath, sMin, sAbs, sCallV, sCallS, sRetI, sRetL, sRetF, sRetD, sRetR, sRetV, sThrow, sI2f, sL2d, sFdiv, sDdiv, lg, lst, clr, c2V, isI, isR, isF, isD, pEq, pNe, pLt, pGe, pGt, pLe, qEq, qNe, qLt, qGe, qGt, qLe, fAdd, fSub, fMul, fNeg, fLadd, fLmul, cs9, List.take, List.drop, List.reverse, List.reverseAux, Option.toList_some, Option.toList_none, bi_0, List.cons_append, List.nil_append, List.append_nil, List.length_cons, List.length_nil, ite_true, ite_false, if_true, if_false, Bool.false_eq_true, Bool.or_false, Bool.false_or, Bool.or_true, Bool.true_or, Nat.reduceBEq, Nat.reduceAdd, Nat.reduceEqDiff, Nat.reduceLeDiff, Nat.reduceLT, Int.reduceLT, Int.reduceLE, Int.reduceEq, true_and, and_true, false_or, or_false, true_or, or_true, true_implies, false_implies, implies_true, eq_self, reduceIte, Nat.le_refl, nar_b0, nar_b1, nar_i, nar_bi, nr_0_0, nr_0_1, nr_0_2, nr_1_0, nr_2_0, nr_2_1, nr_2_2, nr_2_3, nr_2_4, nr_2_5, nr_2_6, nr_2_7, nr_2_8, nr_2_9, nr_2_10, nr_3_4, nr_3_5, nr_4_5, nr_4_6, nr_4_7, nr_4_8, nr_5_0, nr_5_12, nr_5_13, nr_5_18, nr_5_21, nr_5_22, nr_5_23, nr_5_24, Int.toNat_natCast, Int.natCast_nonneg, Nat.zero_le, ge_iff_le, gt_iff_lt, ne_eq, not_true_eq_false, not_false_eq_true, shp_2, shp_3, shp_4, shp_5, shp_6, shp_7, shp_8, shp_9, shp_10, shp_11, shp_12, shp_13, shp_14, shp_15, shp_16, shp_17, shp_18, shp_19, shp_20, shp_21, shp_22, shp_23, shp_24, shp_25, shp_26, shp_27, shp_28, shp_29, okA_sR, okA_sI, okA_sL, okA_cput, rN_cput, hC.ok, hC.ks, shp_o, shp_sd, o_ne, o_eq, sd_ne, rs_0 hC, ro_0, ro_1, ro_2, ro_3, ro_4, ro_5, ro_6, ro_7, ro_8, ro_9, ro_10, rg_5, rg_6, rg_7, rg_8, rt_4, rt_5, rp_7, rp_8, rp_9, rp_10, rb_11, rl_6, rl_7, rr_2, rr_6, rr_3, rr_4, rr_5, hC.g0, hC.g1, hC.g2, hC.g3, hC.g4, hC.t0, hC.t1, hC.t2, hC.t3, so_6, so_7, so_8, so_9, sg_6, sg_7, sg_8, st_4, st_5, sp_7, sp_8, sp_9, sp_10, sl_6, sl_7, sb_11, zu_eq, Nat.reduceEqDiff, false_and, and_false, and_self, hd_nil, hC.ko hk, rs_1 _ _ _ hc]
        exact h.1 rfl
      · rw [List.concat_eq_append, ln_snoc] at h ⊢
        obtain ⟨h1, h2, h3⟩ := h.2 b rfl
        refine wp_ok (snX1_putIn l _ _ _) cuX1_putIn 300 (fun W hW => ?_)
        simp only [tX1_putIn_0, tX1_putIn_7, tX1_putIn_23, wX1_putIn_0 hW, wX1_putIn_1 hW, wX1_putIn_2 hW, wX1_putIn_3 hW, wX1_putIn_6 hW, wX1_putIn_7 hW, wX1_putIn_8 hW, wX1_putIn_11 hW, wX1_putIn_12 hW, wX1_putIn_13 hW, wX1_putIn_16 hW, wX1_putIn_17 hW, wX1_putIn_20 hW, wX1_putIn_23 hW, wX1_putIn_26 hW, wX1_putIn_27 hW, wX1_putIn_28 hW, wX1_putIn_29 hW, wX1_putIn_32 hW, wX1_putIn_33 hW, wX1_putIn_36 hW, wX1_putIn_37 hW, wX1_putIn_40 hW, wX1_putIn_41 hW, wX1_putIn_42 hW, wX1_putIn_45 hW, wX1_putIn_48 hW, wX1_putIn_49 hW, wX1_putIn_50 hW, wX1_putIn_53 hW, wX1_putIn_56 hW, wX1_putIn_57 hW, wX1_putIn_58 hW, wX1_putIn_61 hW, wX1_putIn_64 hW, wX1_putIn_65 hW, wX1_putIn_66 hW, wX1_putIn_69 hW, sLd, sSt, sSt2, sInc, sPush, sBin, sUn, sRem, sI2l, sLbin, sLcmp, sDup, sDup2, sIf, sIc, sNul, sNn, sAcmp, sGoto, sGetI, sGetL, sGetR, sPutI, sPutL, sPutR, sAldI, sAldL, sAldD, sAldR, sAstI, sAstC, sAstL, sAstD, sAstR, sAlen, sNewA, sNewO, sObj, sMath, sMin, sAbs, sCallV, sCallS, sRetI, sRetL, sRetF, sRetD, sRetR, sRetV, sThrow, sI2f, sL2d, sFdiv, sDdiv, lg, lst, clr, c2V, isI, isR, isF, isD, pEq, pNe, pLt, pGe, pGt, pLe, qEq, qNe, qLt, qGe, qGt, qLe, fAdd, fSub, fMul, fNeg, fLadd, fLmul, cs9, List.take, List.drop, List.reverse, List.reverseAux, Option.toList_some, Option.toList_none, bi_0, List.cons_append, List.nil_append, List.append_nil, List.length_cons, List.length_nil, ite_true, ite_false, if_true, if_false, Bool.false_eq_true, Bool.or_false, Bool.false_or, Bool.or_true, Bool.true_or, Nat.reduceBEq, Nat.reduceAdd, Nat.reduceEqDiff, Nat.reduceLeDiff, Nat.reduceLT, Int.reduceLT, Int.reduceLE, Int.reduceEq, true_and, and_true, false_or, or_false, true_or, or_true, true_implies, false_implies, implies_true, eq_self, reduceIte, Nat.le_refl, nar_b0, nar_b1, nar_i, nar_bi, nr_0_0, nr_0_1, nr_0_2, nr_1_0, nr_2_0, nr_2_1, nr_2_2, nr_2_3, nr_2_4, nr_2_5, nr_2_6, nr_2_7, nr_2_8, nr_2_9, nr_2_10, nr_3_4, nr_3_5, nr_4_5, nr_4_6, nr_4_7, nr_4_8, nr_5_0, nr_5_12, nr_5_13, nr_5_18, nr_5_21, nr_5_22, nr_5_23, nr_5_24, Int.toNat_natCast, Int.natCast_nonneg, Nat.zero_le, ge_iff_le, gt_iff_lt, ne_eq, not_true_eq_false, not_false_eq_true, shp_2, shp_3, shp_4, shp_5, shp_6, shp_7, shp_8, shp_9, shp_10, shp_11, shp_12, shp_13, shp_14, shp_15, shp_16, shp_17, shp_18, shp_19, shp_20, shp_21, shp_22, shp_23, shp_24, shp_25, shp_26, shp_27, shp_28, shp_29, okA_sR, okA_sI, okA_sL, okA_cput, rN_cput, hC.ok, hC.ks, shp_o, shp_sd, o_ne, o_eq, sd_ne, rs_0 hC, ro_0, ro_1, ro_2, ro_3, ro_4, ro_5, ro_6, ro_7, ro_8, ro_9, ro_10, rg_5, rg_6, rg_7, rg_8, rt_4, rt_5, rp_7, rp_8, rp_9, rp_10, rb_11, rl_6, rl_7, rr_2, rr_6, rr_3, rr_4, rr_5, hC.g0, hC.g1, hC.g2, hC.g3, hC.g4, hC.t0, hC.t1, hC.t2, hC.t3, so_6, so_7, so_8, so_9, sg_6, sg_7, sg_8, st_4, st_5, sp_7, sp_8, sp_9, sp_10, sl_6, sl_7, sb_11, zu_eq, Nat.reduceEqDiff, false_and, and_false, and_self, hd_nil, hC.ko hk, hC.ko h1, h2]
        exact h3
    | cons a t ih =>
      intro p e1 ha
      have ham : a ∈ X.1 c := by rw [e1]; simp
      have ih := ih (p ++ [a]) (by rw [e1]; exact snoc_eq a t)
      rw [ln_snoc] at ih
      rw [hd_cons]
      refine wp_ok (snX1_putIn l _ _ _) cuX1_putIn 300 (fun W hW => ?_)
      simp only [tX1_putIn_0, tX1_putIn_7, tX1_putIn_23, wX1_putIn_0 hW, wX1_putIn_1 hW, wX1_putIn_2 hW, wX1_putIn_3 hW, wX1_putIn_6 hW, wX1_putIn_7 hW, wX1_putIn_8 hW, wX1_putIn_11 hW, wX1_putIn_12 hW, wX1_putIn_13 hW, wX1_putIn_16 hW, wX1_putIn_17 hW, wX1_putIn_20 hW, wX1_putIn_23 hW, wX1_putIn_26 hW, wX1_putIn_27 hW, wX1_putIn_28 hW, wX1_putIn_29 hW, wX1_putIn_32 hW, wX1_putIn_33 hW, wX1_putIn_36 hW, wX1_putIn_37 hW, wX1_putIn_40 hW, wX1_putIn_41 hW, wX1_putIn_42 hW, wX1_putIn_45 hW, wX1_putIn_48 hW, wX1_putIn_49 hW, wX1_putIn_50 hW, wX1_putIn_53 hW, wX1_putIn_56 hW, wX1_putIn_57 hW, wX1_putIn_58 hW, wX1_putIn_61 hW, wX1_putIn_64 hW, wX1_putIn_65 hW, wX1_putIn_66 hW, wX1_putIn_69 hW, sLd, sSt, sSt2, sInc, sPush, sBin, sUn, sRem, sI2l, sLbin, sLcmp, sDup, sDup2, sIf, sIc, sNul, sNn, sAcmp, sGoto, sGetI, sGetL, sGetR, sPutI, sPutL, sPutR, sAldI, sAldL, sAldD, sAldR, sAstI, sAstC, sAstL, sAstD, sAstR, sAlen, sNewA, sNewO, sObj, sMath, sMin, sAbs, sCallV, sCallS, sRetI, sRetL, sRetF, sRetD, sRetR, sRetV, sThrow, sI2f, sL2d, sFdiv, sDdiv, lg, lst, clr, c2V, isI, isR, isF, isD, pEq, pNe, pLt, pGe, pGt, pLe, qEq, qNe, qLt, qGe, qGt, qLe, fAdd, fSub, fMul, fNeg, fLadd, fLmul, cs9, List.take, List.drop, List.reverse, List.reverseAux, Option.toList_some, Option.toList_none, bi_0, List.cons_append, List.nil_append, List.append_nil, List.length_cons, List.length_nil, ite_true, ite_false, if_true, if_false, Bool.false_eq_true, Bool.or_false, Bool.false_or, Bool.or_true, Bool.true_or, Nat.reduceBEq, Nat.reduceAdd, Nat.reduceEqDiff, Nat.reduceLeDiff, Nat.reduceLT, Int.reduceLT, Int.reduceLE, Int.reduceEq, true_and, and_true, false_or, or_false, true_or, or_true, true_implies, false_implies, implies_true, eq_self, reduceIte, Nat.le_refl, nar_b0, nar_b1, nar_i, nar_bi, nr_0_0, nr_0_1, nr_0_2, nr_1_0, nr_2_0, nr_2_1, nr_2_2, nr_2_3, nr_2_4, nr_2_5, nr_2_6, nr_2_7, nr_2_8, nr_2_9, nr_2_10, nr_3_4, nr_3_5, nr_4_5, nr_4_6, nr_4_7, nr_4_8, nr_5_0, nr_5_12, nr_5_13, nr_5_18, nr_5_21, nr_5_22, nr_5_23, nr_5_24, Int.toNat_natCast, Int.natCast_nonneg, Nat.zero_le, ge_iff_le, gt_iff_lt, ne_eq, not_true_eq_false, not_false_eq_true, shp_2, shp_3, shp_4, shp_5, shp_6, shp_7, shp_8, shp_9, shp_10, shp_11, shp_12, shp_13, shp_14, shp_15, shp_16, shp_17, shp_18, shp_19, shp_20, shp_21, shp_22, shp_23, shp_24, shp_25, shp_26, shp_27, shp_28, shp_29, okA_sR, okA_sI, okA_sL, okA_cput, rN_cput, hC.ok, hC.ks, shp_o, shp_sd, o_ne, o_eq, sd_ne, rs_0 hC, ro_0, ro_1, ro_2, ro_3, ro_4, ro_5, ro_6, ro_7, ro_8, ro_9, ro_10, rg_5, rg_6, rg_7, rg_8, rt_4, rt_5, rp_7, rp_8, rp_9, rp_10, rb_11, rl_6, rl_7, rr_2, rr_6, rr_3, rr_4, rr_5, hC.g0, hC.g1, hC.g2, hC.g3, hC.g4, hC.t0, hC.t1, hC.t2, hC.t3, so_6, so_7, so_8, so_9, sg_6, sg_7, sg_8, st_4, st_5, sp_7, sp_8, sp_9, sp_10, sl_6, sl_7, sb_11, zu_eq, Nat.reduceEqDiff, false_and, and_false, and_self, hC.ko hk, hC.ko (hL.lt ham)]
      refine (c_isAtLeast l hl S X hC hc (S 16 a) (S 16 k)).use (fun _ _ => ?_)
      by_cases hq : ahd c (S 16 k) (S 16 a)
      · rw [bi_f (fun q => q hq)]
        have h := fin p (a :: t) e1 ha (if_pos hq)
        rcases p.eq_nil_or_concat with rfl | ⟨p, b, rfl⟩
        · rw [ln_nil] at h ⊢
          refine wp_ok (snX1_putIn l _ _ _) cuX1_putIn 300 (fun W hW => ?_)
          simp only [tX1_putIn_0, tX1_putIn_7, tX1_putIn_23, wX1_putIn_0 hW, wX1_putIn_1 hW, wX1_putIn_2 hW, wX1_putIn_3 hW, wX1_putIn_6 hW, wX1_putIn_7 hW, wX1_putIn_8 hW, wX1_putIn_11 hW, wX1_putIn_12 hW, wX1_putIn_13 hW, wX1_putIn_16 hW, wX1_putIn_17 hW, wX1_putIn_20 hW, wX1_putIn_23 hW, wX1_putIn_26 hW, wX1_putIn_27 hW, wX1_putIn_28 hW, wX1_putIn_29 hW, wX1_putIn_32 hW, wX1_putIn_33 hW, wX1_putIn_36 hW, wX1_putIn_37 hW, wX1_putIn_40 hW, wX1_putIn_41 hW, wX1_putIn_42 hW, wX1_putIn_45 hW, wX1_putIn_48 hW, wX1_putIn_49 hW, wX1_putIn_50 hW, wX1_putIn_53 hW, wX1_putIn_56 hW, wX1_putIn_57 hW, wX1_putIn_58 hW, wX1_putIn_61 hW, wX1_putIn_64 hW, wX1_putIn_65 hW, wX1_putIn_66 hW, wX1_putIn_69 hW, sLd, sSt, sSt2, sInc, sPush, sBin, sUn, sRem, sI2l, sLbin, sLcmp, sDup, sDup2, sIf, sIc, sNul, sNn, sAcmp, sGoto, sGetI, sGetL, sGetR, sPutI, sPutL, sPutR, sAldI, sAldL, sAldD, sAldR, sAstI, sAstC, sAstL, sAstD, sAstR, sAlen, sNewA, sNewO, sObj, sMath, sMin, sAbs, sCallV, sCallS, sRetI, sRetL, sRetF, sRetD, sRetR, sRetV, sThrow, sI2f, sL2d, sFdiv, sDdiv, lg, lst, clr, c2V, isI, isR, isF, isD, pEq, pNe, pLt, pGe, pGt, pLe, qEq, qNe, qLt, qGe, qGt, qLe, fAdd, fSub, fMul, fNeg, fLadd, fLmul, cs9, List.take, List.drop, List.reverse, List.reverseAux, Option.toList_some, Option.toList_none, bi_0, List.cons_append, List.nil_append, List.append_nil, List.length_cons, List.length_nil, ite_true, ite_false, if_true, if_false, Bool.false_eq_true, Bool.or_false, Bool.false_or, Bool.or_true, Bool.true_or, Nat.reduceBEq, Nat.reduceAdd, Nat.reduceEqDiff, Nat.reduceLeDiff, Nat.reduceLT, Int.reduceLT, Int.reduceLE, Int.reduceEq, true_and, and_true, false_or, or_false, true_or, or_true, true_implies, false_implies, implies_true, eq_self, reduceIte, Nat.le_refl, nar_b0, nar_b1, nar_i, nar_bi, nr_0_0, nr_0_1, nr_0_2, nr_1_0, nr_2_0, nr_2_1, nr_2_2, nr_2_3, nr_2_4, nr_2_5, nr_2_6, nr_2_7, nr_2_8, nr_2_9, nr_2_10, nr_3_4, nr_3_5, nr_4_5, nr_4_6, nr_4_7, nr_4_8, nr_5_0, nr_5_12, nr_5_13, nr_5_18, nr_5_21, nr_5_22, nr_5_23, nr_5_24, Int.toNat_natCast, Int.natCast_nonneg, Nat.zero_le, ge_iff_le, gt_iff_lt, ne_eq, not_true_eq_false, not_false_eq_true, shp_2, shp_3, shp_4, shp_5, shp_6, shp_7, shp_8, shp_9, shp_10, shp_11, shp_12, shp_13, shp_14, shp_15, shp_16, shp_17, shp_18, shp_19, shp_20, shp_21, shp_22, shp_23, shp_24, shp_25, shp_26, shp_27, shp_28, shp_29, okA_sR, okA_sI, okA_sL, okA_cput, rN_cput, hC.ok, hC.ks, shp_o, shp_sd, o_ne, o_eq, sd_ne, rs_0 hC, ro_0, ro_1, ro_2, ro_3, ro_4, ro_5, ro_6, ro_7, ro_8, ro_9, ro_10, rg_5, rg_6, rg_7, rg_8, rt_4, rt_5, rp_7, rp_8, rp_9, rp_10, rb_11, rl_6, rl_7, rr_2, rr_6, rr_3, rr_4, rr_5, hC.g0, hC.g1, hC.g2, hC.g3, hC.g4, hC.t0, hC.t1, hC.t2, hC.t3, so_6, so_7, so_8, so_9, sg_6, sg_7, sg_8, st_4, st_5, sp_7, sp_8, sp_9, sp_10, sl_6, sl_7, sb_11, zu_eq, Nat.reduceEqDiff, false_and, and_false, and_self, hC.ko hk, rs_1 _ _ _ hc]
          exact h.1 rfl
        · rw [List.concat_eq_append, ln_snoc] at h ⊢
          obtain ⟨h1, h2, h3⟩ := h.2 b rfl
          refine wp_ok (snX1_putIn l _ _ _) cuX1_putIn 300 (fun W hW => ?_)
          simp only [tX1_putIn_0, tX1_putIn_7, tX1_putIn_23, wX1_putIn_0 hW, wX1_putIn_1 hW, wX1_putIn_2 hW, wX1_putIn_3 hW, wX1_putIn_6 hW, wX1_putIn_7 hW, wX1_putIn_8 hW, wX1_putIn_11 hW, wX1_putIn_12 hW, wX1_putIn_13 hW, wX1_putIn_16 hW, wX1_putIn_17 hW, wX1_putIn_20 hW, wX1_putIn_23 hW, wX1_putIn_26 hW, wX1_putIn_27 hW, wX1_putIn_28 hW, wX1_putIn_29 hW, wX1_putIn_32 hW, wX1_putIn_33 hW, wX1_putIn_36 hW, wX1_putIn_37 hW, wX1_putIn_40 hW, wX1_putIn_41 hW, wX1_putIn_42 hW, wX1_putIn_45 hW, wX1_putIn_48 hW, wX1_putIn_49 hW, wX1_putIn_50 hW, wX1_putIn_53 hW, wX1_putIn_56 hW, wX1_putIn_57 hW, wX1_putIn_58 hW, wX1_putIn_61 hW, wX1_putIn_64 hW, wX1_putIn_65 hW, wX1_putIn_66 hW, wX1_putIn_69 hW, sLd, sSt, sSt2, sInc, sPush, sBin, sUn, sRem, sI2l, sLbin, sLcmp, sDup, sDup2, sIf, sIc, sNul, sNn, sAcmp, sGoto, sGetI, sGetL, sGetR, sPutI, sPutL, sPutR, sAldI, sAldL, sAldD, sAldR, sAstI, sAstC, sAstL, sAstD, sAstR, sAlen, sNewA, sNewO, sObj, sMath, sMin, sAbs, sCallV, sCallS, sRetI, sRetL, sRetF, sRetD, sRetR, sRetV, sThrow, sI2f, sL2d, sFdiv, sDdiv, lg, lst, clr, c2V, isI, isR, isF, isD, pEq, pNe, pLt, pGe, pGt, pLe, qEq, qNe, qLt, qGe, qGt, qLe, fAdd, fSub, fMul, fNeg, fLadd, fLmul, cs9, List.take, List.drop, List.reverse, List.reverseAux, Option.toList_some, Option.toList_none, bi_0, List.cons_append, List.nil_append, List.append_nil, List.length_cons, List.length_nil, ite_true, ite_false, if_true, if_false, Bool.false_eq_true, Bool.or_false, Bool.false_or, Bool.or_true, Bool.true_or, Nat.reduceBEq, Nat.reduceAdd, Nat.reduceEqDiff, Nat.reduceLeDiff, Nat.reduceLT, Int.reduceLT, Int.reduceLE, Int.reduceEq, true_and, and_true, false_or, or_false, true_or, or_true, true_implies, false_implies, implies_true, eq_self, reduceIte, Nat.le_refl, nar_b0, nar_b1, nar_i, nar_bi, nr_0_0, nr_0_1, nr_0_2, nr_1_0, nr_2_0, nr_2_1, nr_2_2, nr_2_3, nr_2_4, nr_2_5, nr_2_6, nr_2_7, nr_2_8, nr_2_9, nr_2_10, nr_3_4, nr_3_5, nr_4_5, nr_4_6, nr_4_7, nr_4_8, nr_5_0, nr_5_12, nr_5_13, nr_5_18, nr_5_21, nr_5_22, nr_5_23, nr_5_24, Int.toNat_natCast, Int.natCast_nonneg, Nat.zero_le, ge_iff_le, gt_iff_lt, ne_eq, not_true_eq_false, not_false_eq_true, shp_2, shp_3, shp_4, shp_5, shp_6, shp_7, shp_8, shp_9, shp_10, shp_11, shp_12, shp_13, shp_14, shp_15, shp_16, shp_17, shp_18, shp_19, shp_20, shp_21, shp_22, shp_23, shp_24, shp_25, shp_26, shp_27, shp_28, shp_29, okA_sR, okA_sI, okA_sL, okA_cput, rN_cput, hC.ok, hC.ks, shp_o, shp_sd, o_ne, o_eq, sd_ne, rs_0 hC, ro_0, ro_1, ro_2, ro_3, ro_4, ro_5, ro_6, ro_7, ro_8, ro_9, ro_10, rg_5, rg_6, rg_7, rg_8, rt_4, rt_5, rp_7, rp_8, rp_9, rp_10, rb_11, rl_6, rl_7, rr_2, rr_6, rr_3, rr_4, rr_5, hC.g0, hC.g1, hC.g2, hC.g3, hC.g4, hC.t0, hC.t1, hC.t2, hC.t3, so_6, so_7, so_8, so_9, sg_6, sg_7, sg_8, st_4, st_5, sp_7, sp_8, sp_9, sp_10, sl_6, sl_7, sb_11, zu_eq, Nat.reduceEqDiff, false_and, and_false, and_self, hC.ko hk, hC.ko h1, h2]
          exact h3
      · rw [bi_t hq]
        refine wp_ok (snX1_putIn l _ _ _) cuX1_putIn 300 (fun W hW => ?_)
        simp only [tX1_putIn_0, tX1_putIn_7, tX1_putIn_23, wX1_putIn_0 hW, wX1_putIn_1 hW, wX1_putIn_2 hW, wX1_putIn_3 hW, wX1_putIn_6 hW, wX1_putIn_7 hW, wX1_putIn_8 hW, wX1_putIn_11 hW, wX1_putIn_12 hW, wX1_putIn_13 hW, wX1_putIn_16 hW, wX1_putIn_17 hW, wX1_putIn_20 hW, wX1_putIn_23 hW, wX1_putIn_26 hW, wX1_putIn_27 hW, wX1_putIn_28 hW, wX1_putIn_29 hW, wX1_putIn_32 hW, wX1_putIn_33 hW, wX1_putIn_36 hW, wX1_putIn_37 hW, wX1_putIn_40 hW, wX1_putIn_41 hW, wX1_putIn_42 hW, wX1_putIn_45 hW, wX1_putIn_48 hW, wX1_putIn_49 hW, wX1_putIn_50 hW, wX1_putIn_53 hW, wX1_putIn_56 hW, wX1_putIn_57 hW, wX1_putIn_58 hW, wX1_putIn_61 hW, wX1_putIn_64 hW, wX1_putIn_65 hW, wX1_putIn_66 hW, wX1_putIn_69 hW, sLd, sSt, sSt2, sInc, sPush, sBin, sUn, sRem, sI2l, sLbin, sLcmp, sDup, sDup2, sIf, sIc, sNul, sNn, sAcmp, sGoto, sGetI, sGetL, sGetR, sPutI, sPutL, sPutR, sAldI, sAldL, sAldD, sAldR, sAstI, sAstC, sAstL, sAstD, sAstR, sAlen, sNewA, sNewO, sObj, sMath, sMin, sAbs, sCallV, sCallS, sRetI, sRetL, sRetF, sRetD, sRetR, sRetV, sThrow, sI2f, sL2d, sFdiv, sDdiv, lg, lst, clr, c2V, isI, isR, isF, isD, pEq, pNe, pLt, pGe, pGt, pLe, qEq, qNe, qLt, qGe, qGt, qLe, fAdd, fSub, fMul, fNeg, fLadd, fLmul, cs9, List.take, List.drop, List.reverse, List.reverseAux, Option.toList_some, Option.toList_none, bi_0, List.cons_append, List.nil_append, List.append_nil, List.length_cons, List.length_nil, ite_true, ite_false, if_true, if_false, Bool.false_eq_true, Bool.or_false, Bool.false_or, Bool.or_true, Bool.true_or, Nat.reduceBEq, Nat.reduceAdd, Nat.reduceEqDiff, Nat.reduceLeDiff, Nat.reduceLT, Int.reduceLT, Int.reduceLE, Int.reduceEq, true_and, and_true, false_or, or_false, true_or, or_true, true_implies, false_implies, implies_true, eq_self, reduceIte, Nat.le_refl, nar_b0, nar_b1, nar_i, nar_bi, nr_0_0, nr_0_1, nr_0_2, nr_1_0, nr_2_0, nr_2_1, nr_2_2, nr_2_3, nr_2_4, nr_2_5, nr_2_6, nr_2_7, nr_2_8, nr_2_9, nr_2_10, nr_3_4, nr_3_5, nr_4_5, nr_4_6, nr_4_7, nr_4_8, nr_5_0, nr_5_12, nr_5_13, nr_5_18, nr_5_21, nr_5_22, nr_5_23, nr_5_24, Int.toNat_natCast, Int.natCast_nonneg, Nat.zero_le, ge_iff_le, gt_iff_lt, ne_eq, not_true_eq_false, not_false_eq_true, shp_2, shp_3, shp_4, shp_5, shp_6, shp_7, shp_8, shp_9, shp_10, shp_11, shp_12, shp_13, shp_14, shp_15, shp_16, shp_17, shp_18, shp_19, shp_20, shp_21, shp_22, shp_23, shp_24, shp_25, shp_26, shp_27, shp_28, shp_29, okA_sR, okA_sI, okA_sL, okA_cput, rN_cput, hC.ok, hC.ks, shp_o, shp_sd, o_ne, o_eq, sd_ne, rs_0 hC, ro_0, ro_1, ro_2, ro_3, ro_4, ro_5, ro_6, ro_7, ro_8, ro_9, ro_10, rg_5, rg_6, rg_7, rg_8, rt_4, rt_5, rp_7, rp_8, rp_9, rp_10, rb_11, rl_6, rl_7, rr_2, rr_6, rr_3, rr_4, rr_5, hC.g0, hC.g1, hC.g2, hC.g3, hC.g4, hC.t0, hC.t1, hC.t2, hC.t3, so_6, so_7, so_8, so_9, sg_6, sg_7, sg_8, st_4, st_5, sp_7, sp_8, sp_9, sp_10, sl_6, sl_7, sb_11, zu_eq, Nat.reduceEqDiff, false_and, and_false, and_self, hC.ko hk, hC.ko (hL.lt ham), hL.nx e1]
        refine ih (fun b hb => ?_)
        rcases List.mem_append.mp hb with h | h
        · exact ha b h
        · rw [List.mem_singleton.mp h]; exact hq
  refine wp_ok (snX1_putIn l _ _ _) cuX1_putIn 300 (fun W hW => ?_)
  simp only [tX1_putIn_0, tX1_putIn_7, tX1_putIn_23, wX1_putIn_0 hW, wX1_putIn_1 hW, wX1_putIn_2 hW, wX1_putIn_3 hW, wX1_putIn_6 hW, wX1_putIn_7 hW, wX1_putIn_8 hW, wX1_putIn_11 hW, wX1_putIn_12 hW, wX1_putIn_13 hW, wX1_putIn_16 hW, wX1_putIn_17 hW, wX1_putIn_20 hW, wX1_putIn_23 hW, wX1_putIn_26 hW, wX1_putIn_27 hW, wX1_putIn_28 hW, wX1_putIn_29 hW, wX1_putIn_32 hW, wX1_putIn_33 hW, wX1_putIn_36 hW, wX1_putIn_37 hW, wX1_putIn_40 hW, wX1_putIn_41 hW, wX1_putIn_42 hW, wX1_putIn_45 hW, wX1_putIn_48 hW, wX1_putIn_49 hW, wX1_putIn_50 hW, wX1_putIn_53 hW, wX1_putIn_56 hW, wX1_putIn_57 hW, wX1_putIn_58 hW, wX1_putIn_61 hW, wX1_putIn_64 hW, wX1_putIn_65 hW, wX1_putIn_66 hW, wX1_putIn_69 hW, sLd, sSt, sSt2, sInc, sPush, sBin, sUn, sRem, sI2l, sLbin, sLcmp, sDup, sDup2, sIf, sIc, sNul, sNn, sAcmp, sGoto, sGetI, sGetL, sGetR, sPutI, sPutL, sPutR, sAldI, sAldL, sAldD, sAldR, sAstI, sAstC, sAstL, sAstD, sAstR, sAlen, sNewA, sNewO, sObj, sMath, sMin, sAbs, sCallV, sCallS, sRetI, sRetL, sRetF, sRetD, sRetR, sRetV, sThrow, sI2f, sL2d, sFdiv, sDdiv, lg, lst, clr, c2V, isI, isR, isF, isD, pEq, pNe, pLt, pGe, pGt, pLe, qEq, qNe, qLt, qGe, qGt, qLe, fAdd, fSub, fMul, fNeg, fLadd, fLmul, cs9, List.take, List.drop, List.reverse, List.reverseAux, Option.toList_some, Option.toList_none, bi_0, List.cons_append, List.nil_append, List.append_nil, List.length_cons, List.length_nil, ite_true, ite_false, if_true, if_false, Bool.false_eq_true, Bool.or_false, Bool.false_or, Bool.or_true, Bool.true_or, Nat.reduceBEq, Nat.reduceAdd, Nat.reduceEqDiff, Nat.reduceLeDiff, Nat.reduceLT, Int.reduceLT, Int.reduceLE, Int.reduceEq, true_and, and_true, false_or, or_false, true_or, or_true, true_implies, false_implies, implies_true, eq_self, reduceIte, Nat.le_refl, nar_b0, nar_b1, nar_i, nar_bi, nr_0_0, nr_0_1, nr_0_2, nr_1_0, nr_2_0, nr_2_1, nr_2_2, nr_2_3, nr_2_4, nr_2_5, nr_2_6, nr_2_7, nr_2_8, nr_2_9, nr_2_10, nr_3_4, nr_3_5, nr_4_5, nr_4_6, nr_4_7, nr_4_8, nr_5_0, nr_5_12, nr_5_13, nr_5_18, nr_5_21, nr_5_22, nr_5_23, nr_5_24, Int.toNat_natCast, Int.natCast_nonneg, Nat.zero_le, ge_iff_le, gt_iff_lt, ne_eq, not_true_eq_false, not_false_eq_true, shp_2, shp_3, shp_4, shp_5, shp_6, shp_7, shp_8, shp_9, shp_10, shp_11, shp_12, shp_13, shp_14, shp_15, shp_16, shp_17, shp_18, shp_19, shp_20, shp_21, shp_22, shp_23, shp_24, shp_25, shp_26, shp_27, shp_28, shp_29, okA_sR, okA_sI, okA_sL, okA_cput, rN_cput, hC.ok, hC.ks, shp_o, shp_sd, o_ne, o_eq, sd_ne, rs_0 hC, ro_0, ro_1, ro_2, ro_3, ro_4, ro_5, ro_6, ro_7, ro_8, ro_9, ro_10, rg_5, rg_6, rg_7, rg_8, rt_4, rt_5, rp_7, rp_8, rp_9, rp_10, rb_11, rl_6, rl_7, rr_2, rr_6, rr_3, rr_4, rr_5, hC.g0, hC.g1, hC.g2, hC.g3, hC.g4, hC.t0, hC.t1, hC.t2, hC.t3, so_6, so_7, so_8, so_9, sg_6, sg_7, sg_8, st_4, st_5, sp_7, sp_8, sp_9, sp_10, sl_6, sl_7, sb_11, zu_eq, Nat.reduceEqDiff, false_and, and_false, and_self, rs_1 _ _ _ hc]
  exact main (X.1 c) [] rfl (fun a h => by cases h)
set_option maxHeartbeats 1000000 in
theorem c_takeOut (l : Launch) (hl : l.stackTraces = false) (S : zS) (X : xS) {N : Nat} {μ : aM} (hC : cB N μ) {c : Int} (hc : sC c) {k : Nat} (hL : lkL S N c (X.1 c)) (hk : k ∈ X.1 c) : CtE l mdX1_takeOut [aR (sd c), aR (30 + k)] (cput S X μ) none (cput S (upL X c (rmv k (X.1 c))) μ) := by
  refine CtE.of hl rfl rfl rfl rfl (fun K hM hK => ?_)
  show Bd _ _ _ _ _ 0 [aR (sd c), aR (30 + k), aU, aU] [] (cput S X μ) 0
  have hkN := hL.lt hk
  have hks := hL.c hk
  have f1 : ∀ t, X.1 c = k :: t → K none (sR (sR (cput S X μ) (sd c) 1 (hd t)) (30 + k) 11 0) := fun t e1 => by
    have nd := hL.1
    rw [e1] at nd
    have hkt : k ∉ t := (List.nodup_cons.mp nd).1
    rw [e1, show rmv k (k :: t) = t from if_pos rfl] at hK
    refine cast ?_ hK
    congr 1
    symm
    refine ptr (X := X) hc ?_ ?_ ?_ ?_ ?_ ?_
    iterate 3 rfl
    · show (if sd c = 30 + k ∧ 1 = 11 then _ else if sd c = sd c ∧ 1 = 1 then hd t else _) = _
      rw [if_neg (by omega), if_pos ⟨rfl, rfl⟩]
    · intro i hi
      show (if 30 + i = 30 + k ∧ 11 = 11 then 0 else if 30 + i = sd c ∧ 11 = 1 then hd t else rR (cput S X μ) (30 + i) 11) = nx t i
      by_cases h : i = k
      · rw [if_pos (by omega), h, nx_no hkt]
      · rw [if_neg (by omega), if_neg (by omega), rr_o, hi, e1]
        exact if_neg h
    · intro a j h1 h2
      show (if a = 30 + k ∧ j = 11 then _ else if a = sd c ∧ j = 1 then _ else _) = _
      rw [if_neg (fun q => h2 ⟨by omega, q.2, by rw [q.1, Nat.add_sub_cancel_left]; exact hks⟩), if_neg h1]
      rfl
  have f2 : ∀ p b t, X.1 c = p ++ b :: k :: t → K none (sR (sR (cput S X μ) (30 + b) 11 (hd t)) (30 + k) 11 0) := fun p b t e1 => by
    have hb : b ∈ X.1 c := by rw [e1]; simp
    have nd := hL.1
    rw [e1] at nd
    have h9 := List.nodup_append.mp nd
    have hbp : b ∉ p := fun q => h9.2.2 b q b List.mem_cons_self rfl
    have hkp : k ∉ p := fun q => h9.2.2 k q k (List.mem_cons_of_mem _ List.mem_cons_self) rfl
    have h8 := List.nodup_cons.mp h9.2.1
    have hbk : b ≠ k := fun q => h8.1 (by rw [q]; exact List.mem_cons_self)
    have hkt : k ∉ t := (List.nodup_cons.mp h8.2).1
    have hkp2 : k ∉ p ++ [b] := fun q => by
      rcases List.mem_append.mp q with q | q
      · exact hkp q
      · exact hbk (List.mem_singleton.mp q).symm
    rw [e1, snoc_eq b (k :: t), rmv_app hkp2, ← snoc_eq b t] at hK
    refine cast ?_ hK
    congr 1
    symm
    refine ptr (X := X) hc ?_ ?_ ?_ ?_ ?_ ?_
    iterate 3 rfl
    · show (if sd c = 30 + k ∧ 1 = 11 then _ else if sd c = 30 + b ∧ 1 = 11 then _ else rR (cput S X μ) (sd c) 1) = _
      rw [if_neg (by omega), if_neg (by omega), rs_1 _ _ _ hc, e1]
      exact hd_app _ _ _ _
    · intro i hi
      show (if 30 + i = 30 + k ∧ 11 = 11 then 0 else if 30 + i = 30 + b ∧ 11 = 11 then hd t else rR (cput S X μ) (30 + i) 11) = nx (p ++ b :: t) i
      by_cases h1 : i = k
      · rw [if_pos (by omega), h1, nx_no]
        simp only [List.mem_append, List.mem_cons, not_or]
        exact ⟨hkp, Ne.symm hbk, hkt⟩
      · rw [if_neg (by omega)]
        by_cases h2 : i = b
        · rw [if_pos (by omega), h2, nx_at hbp]
        · rw [if_neg (by omega), rr_o, hi, e1, nx_mid _ _ h2 h1]
    · intro a j h1 h2
      show (if a = 30 + k ∧ j = 11 then _ else if a = 30 + b ∧ j = 11 then _ else _) = _
      rw [if_neg (fun q => h2 ⟨by omega, q.2, by rw [q.1, Nat.add_sub_cancel_left]; exact hks⟩), if_neg (fun q => h2 ⟨by omega, q.2, by rw [q.1, Nat.add_sub_cancel_left]; exact hL.c hb⟩)]
      rfl
  have main : ∀ t p, X.1 c = p ++ t → k ∈ t → Bd l mdX1_takeOut K nX (rN μ) 7 [aR (sd c), aR (30 + k), aR (ln p), aR (hd t)] [] (cput S X μ) 0 := by
    intro t
    induction t with
    | nil => intro p e1 hkt; cases hkt
    | cons a t ih =>
      intro p e1 hkt
      have ham : a ∈ X.1 c := by rw [e1]; simp
      have ih := ih (p ++ [a]) (by rw [e1]; exact snoc_eq a t)
      rw [ln_snoc] at ih
      rw [hd_cons]
      by_cases hq : a = k
      · subst hq
        rcases p.eq_nil_or_concat with rfl | ⟨p, b, rfl⟩
        · rw [ln_nil]
          refine wp_ok (snX1_takeOut l _ _ _) cuX1_takeOut 300 (fun W hW => ?_)
          simp only [tX1_takeOut_0, tX1_takeOut_7, wX1_takeOut_0 hW, wX1_takeOut_1 hW, wX1_takeOut_2 hW, wX1_takeOut_3 hW, wX1_takeOut_6 hW, wX1_takeOut_7 hW, wX1_takeOut_8 hW, wX1_takeOut_11 hW, wX1_takeOut_12 hW, wX1_takeOut_13 hW, wX1_takeOut_16 hW, wX1_takeOut_17 hW, wX1_takeOut_18 hW, wX1_takeOut_19 hW, wX1_takeOut_22 hW, wX1_takeOut_23 hW, wX1_takeOut_26 hW, wX1_takeOut_27 hW, wX1_takeOut_30 hW, wX1_takeOut_31 hW, wX1_takeOut_32 hW, wX1_takeOut_35 hW, wX1_takeOut_38 hW, wX1_takeOut_41 hW, wX1_takeOut_42 hW, wX1_takeOut_43 hW, wX1_takeOut_46 hW, wX1_takeOut_49 hW, wX1_takeOut_50 hW, wX1_takeOut_51 hW, wX1_takeOut_54 hW, sLd, sSt, sSt2, sInc, sPush, sBin, sUn, sRem, sI2l, sLbin, sLcmp, sDup, sDup2, sIf, sIc, sNul, sNn, sAcmp, sGoto, sGetI, sGetL, sGetR, sPutI, sPutL, sPutR, sAldI, sAldL, sAldD, sAldR, sAstI, sAstC, sAstL, sAstD, sAstR, sAlen, sNewA, sNewO, sObj, sMath, sMin, sAbs, sCallV, sCallS, sRetI, sRetL, sRetF, sRetD, sRetR, sRetV, sThrow, sI2f, sL2d, sFdiv, sDdiv, lg, lst, clr, c2V, isI, isR, isF, isD, pEq, pNe, pLt, pGe, pGt, pLe, qEq, qNe, qLt, qGe, qGt, qLe, fAdd, fSub, fMul, fNeg, fLadd, fLmul, cs9, List.take, List.drop, List.reverse, List.reverseAux, Option.toList_some, Option.toList_none, bi_0, List.cons_append, List.nil_append, List.append_nil, List.length_cons, List.length_nil, ite_true, ite_false, if_true, if_false, Bool.false_eq_true, Bool.or_false, Bool.false_or, Bool.or_true, Bool.true_or, Nat.reduceBEq, Nat.reduceAdd, Nat.reduceEqDiff, Nat.reduceLeDiff, Nat.reduceLT, Int.reduceLT, Int.reduceLE, Int.reduceEq, true_and, and_true, false_or, or_false, true_or, or_true, true_implies, false_implies, implies_true, eq_self, reduceIte, Nat.le_refl, nar_b0, nar_b1, nar_i, nar_bi, nr_0_0, nr_0_1, nr_0_2, nr_1_0, nr_2_0, nr_2_1, nr_2_2, nr_2_3, nr_2_4, nr_2_5, nr_2_6, nr_2_7, nr_2_8, nr_2_9, nr_2_10, nr_3_4, nr_3_5, nr_4_5, nr_4_6, nr_4_7, nr_4_8, nr_5_0, nr_5_12, nr_5_13, nr_5_18, nr_5_21, nr_5_22, nr_5_23, nr_5_24, Int.toNat_natCast, Int.natCast_nonneg, Nat.zero_le, ge_iff_le, gt_iff_lt, ne_eq, not_true_eq_false, not_false_eq_true, shp_2, shp_3, shp_4, shp_5, shp_6, shp_7, shp_8, shp_9, shp_10, shp_11, shp_12, shp_13, shp_14, shp_15, shp_16, shp_17, shp_18, shp_19, shp_20, shp_21, shp_22, shp_23, shp_24, shp_25, shp_26, shp_27, shp_28, shp_29, okA_sR, okA_sI, okA_sL, okA_cput, rN_cput, hC.ok, hC.ks, shp_o, shp_sd, o_ne, o_eq, sd_ne, rs_0 hC, ro_0, ro_1, ro_2, ro_3, ro_4, ro_5, ro_6, ro_7, ro_8, ro_9, ro_10, rg_5, rg_6, rg_7, rg_8, rt_4, rt_5, rp_7, rp_8, rp_9, rp_10, rb_11, rl_6, rl_7, rr_2, rr_6, rr_3, rr_4, rr_5, hC.g0, hC.g1, hC.g2, hC.g3, hC.g4, hC.t0, hC.t1, hC.t2, hC.t3, so_6, so_7, so_8, so_9, sg_6, sg_7, sg_8, st_4, st_5, sp_7, sp_8, sp_9, sp_10, sl_6, sl_7, sb_11, zu_eq, Nat.reduceEqDiff, false_and, and_false, and_self, hC.ko hkN, hL.nx e1]
          exact f1 t e1
        · rw [List.concat_eq_append] at e1 ⊢
          have hb : b ∈ X.1 c := by rw [e1]; simp
          rw [ln_snoc]
          refine wp_ok (snX1_takeOut l _ _ _) cuX1_takeOut 300 (fun W hW => ?_)
          simp only [tX1_takeOut_0, tX1_takeOut_7, wX1_takeOut_0 hW, wX1_takeOut_1 hW, wX1_takeOut_2 hW, wX1_takeOut_3 hW, wX1_takeOut_6 hW, wX1_takeOut_7 hW, wX1_takeOut_8 hW, wX1_takeOut_11 hW, wX1_takeOut_12 hW, wX1_takeOut_13 hW, wX1_takeOut_16 hW, wX1_takeOut_17 hW, wX1_takeOut_18 hW, wX1_takeOut_19 hW, wX1_takeOut_22 hW, wX1_takeOut_23 hW, wX1_takeOut_26 hW, wX1_takeOut_27 hW, wX1_takeOut_30 hW, wX1_takeOut_31 hW, wX1_takeOut_32 hW, wX1_takeOut_35 hW, wX1_takeOut_38 hW, wX1_takeOut_41 hW, wX1_takeOut_42 hW, wX1_takeOut_43 hW, wX1_takeOut_46 hW, wX1_takeOut_49 hW, wX1_takeOut_50 hW, wX1_takeOut_51 hW, wX1_takeOut_54 hW, sLd, sSt, sSt2, sInc, sPush, sBin, sUn, sRem, sI2l, sLbin, sLcmp, sDup, sDup2, sIf, sIc, sNul, sNn, sAcmp, sGoto, sGetI, sGetL, sGetR, sPutI, sPutL, sPutR, sAldI, sAldL, sAldD, sAldR, sAstI, sAstC, sAstL, sAstD, sAstR, sAlen, sNewA, sNewO, sObj, sMath, sMin, sAbs, sCallV, sCallS, sRetI, sRetL, sRetF, sRetD, sRetR, sRetV, sThrow, sI2f, sL2d, sFdiv, sDdiv, lg, lst, clr, c2V, isI, isR, isF, isD, pEq, pNe, pLt, pGe, pGt, pLe, qEq, qNe, qLt, qGe, qGt, qLe, fAdd, fSub, fMul, fNeg, fLadd, fLmul, cs9, List.take, List.drop, List.reverse, List.reverseAux, Option.toList_some, Option.toList_none, bi_0, List.cons_append, List.nil_append, List.append_nil, List.length_cons, List.length_nil, ite_true, ite_false, if_true, if_false, Bool.false_eq_true, Bool.or_false, Bool.false_or, Bool.or_true, Bool.true_or, Nat.reduceBEq, Nat.reduceAdd, Nat.reduceEqDiff, Nat.reduceLeDiff, Nat.reduceLT, Int.reduceLT, Int.reduceLE, Int.reduceEq, true_and, and_true, false_or, or_false, true_or, or_true, true_implies, false_implies, implies_true, eq_self, reduceIte, Nat.le_refl, nar_b0, nar_b1, nar_i, nar_bi, nr_0_0, nr_0_1, nr_0_2, nr_1_0, nr_2_0, nr_2_1, nr_2_2, nr_2_3, nr_2_4, nr_2_5, nr_2_6, nr_2_7, nr_2_8, nr_2_9, nr_2_10, nr_3_4, nr_3_5, nr_4_5, nr_4_6, nr_4_7, nr_4_8, nr_5_0, nr_5_12, nr_5_13, nr_5_18, nr_5_21, nr_5_22, nr_5_23, nr_5_24, Int.toNat_natCast, Int.natCast_nonneg, Nat.zero_le, ge_iff_le, gt_iff_lt, ne_eq, not_true_eq_false, not_false_eq_true, shp_2, shp_3, shp_4, shp_5, shp_6, shp_7, shp_8, shp_9, shp_10, shp_11, shp_12, shp_13, shp_14, shp_15, shp_16, shp_17, shp_18, shp_19, shp_20, shp_21, shp_22, shp_23, shp_24, shp_25, shp_26, shp_27, shp_28, shp_29, okA_sR, okA_sI, okA_sL, okA_cput, rN_cput, hC.ok, hC.ks, shp_o, shp_sd, o_ne, o_eq, sd_ne, rs_0 hC, ro_0, ro_1, ro_2, ro_3, ro_4, ro_5, ro_6, ro_7, ro_8, ro_9, ro_10, rg_5, rg_6, rg_7, rg_8, rt_4, rt_5, rp_7, rp_8, rp_9, rp_10, rb_11, rl_6, rl_7, rr_2, rr_6, rr_3, rr_4, rr_5, hC.g0, hC.g1, hC.g2, hC.g3, hC.g4, hC.t0, hC.t1, hC.t2, hC.t3, so_6, so_7, so_8, so_9, sg_6, sg_7, sg_8, st_4, st_5, sp_7, sp_8, sp_9, sp_10, sl_6, sl_7, sb_11, zu_eq, Nat.reduceEqDiff, false_and, and_false, and_self, hC.ko hkN, hC.ko (hL.lt hb), hL.nx e1]
          exact f2 p b t (by rw [e1]; exact (snoc_eq b (a :: t)).symm)
      · refine wp_ok (snX1_takeOut l _ _ _) cuX1_takeOut 300 (fun W hW => ?_)
        simp only [tX1_takeOut_0, tX1_takeOut_7, wX1_takeOut_0 hW, wX1_takeOut_1 hW, wX1_takeOut_2 hW, wX1_takeOut_3 hW, wX1_takeOut_6 hW, wX1_takeOut_7 hW, wX1_takeOut_8 hW, wX1_takeOut_11 hW, wX1_takeOut_12 hW, wX1_takeOut_13 hW, wX1_takeOut_16 hW, wX1_takeOut_17 hW, wX1_takeOut_18 hW, wX1_takeOut_19 hW, wX1_takeOut_22 hW, wX1_takeOut_23 hW, wX1_takeOut_26 hW, wX1_takeOut_27 hW, wX1_takeOut_30 hW, wX1_takeOut_31 hW, wX1_takeOut_32 hW, wX1_takeOut_35 hW, wX1_takeOut_38 hW, wX1_takeOut_41 hW, wX1_takeOut_42 hW, wX1_takeOut_43 hW, wX1_takeOut_46 hW, wX1_takeOut_49 hW, wX1_takeOut_50 hW, wX1_takeOut_51 hW, wX1_takeOut_54 hW, sLd, sSt, sSt2, sInc, sPush, sBin, sUn, sRem, sI2l, sLbin, sLcmp, sDup, sDup2, sIf, sIc, sNul, sNn, sAcmp, sGoto, sGetI, sGetL, sGetR, sPutI, sPutL, sPutR, sAldI, sAldL, sAldD, sAldR, sAstI, sAstC, sAstL, sAstD, sAstR, sAlen, sNewA, sNewO, sObj, sMath, sMin, sAbs, sCallV, sCallS, sRetI, sRetL, sRetF, sRetD, sRetR, sRetV, sThrow, sI2f, sL2d, sFdiv, sDdiv, lg, lst, clr, c2V, isI, isR, isF, isD, pEq, pNe, pLt, pGe, pGt, pLe, qEq, qNe, qLt, qGe, qGt, qLe, fAdd, fSub, fMul, fNeg, fLadd, fLmul, cs9, List.take, List.drop, List.reverse, List.reverseAux, Option.toList_some, Option.toList_none, bi_0, List.cons_append, List.nil_append, List.append_nil, List.length_cons, List.length_nil, ite_true, ite_false, if_true, if_false, Bool.false_eq_true, Bool.or_false, Bool.false_or, Bool.or_true, Bool.true_or, Nat.reduceBEq, Nat.reduceAdd, Nat.reduceEqDiff, Nat.reduceLeDiff, Nat.reduceLT, Int.reduceLT, Int.reduceLE, Int.reduceEq, true_and, and_true, false_or, or_false, true_or, or_true, true_implies, false_implies, implies_true, eq_self, reduceIte, Nat.le_refl, nar_b0, nar_b1, nar_i, nar_bi, nr_0_0, nr_0_1, nr_0_2, nr_1_0, nr_2_0, nr_2_1, nr_2_2, nr_2_3, nr_2_4, nr_2_5, nr_2_6, nr_2_7, nr_2_8, nr_2_9, nr_2_10, nr_3_4, nr_3_5, nr_4_5, nr_4_6, nr_4_7, nr_4_8, nr_5_0, nr_5_12, nr_5_13, nr_5_18, nr_5_21, nr_5_22, nr_5_23, nr_5_24, Int.toNat_natCast, Int.natCast_nonneg, Nat.zero_le, ge_iff_le, gt_iff_lt, ne_eq, not_true_eq_false, not_false_eq_true, shp_2, shp_3, shp_4, shp_5, shp_6, shp_7, shp_8, shp_9, shp_10, shp_11, shp_12, shp_13, shp_14, shp_15, shp_16, shp_17, shp_18, shp_19, shp_20, shp_21, shp_22, shp_23, shp_24, shp_25, shp_26, shp_27, shp_28, shp_29, okA_sR, okA_sI, okA_sL, okA_cput, rN_cput, hC.ok, hC.ks, shp_o, shp_sd, o_ne, o_eq, sd_ne, rs_0 hC, ro_0, ro_1, ro_2, ro_3, ro_4, ro_5, ro_6, ro_7, ro_8, ro_9, ro_10, rg_5, rg_6, rg_7, rg_8, rt_4, rt_5, rp_7, rp_8, rp_9, rp_10, rb_11, rl_6, rl_7, rr_2, rr_6, rr_3, rr_4, rr_5, hC.g0, hC.g1, hC.g2, hC.g3, hC.g4, hC.t0, hC.t1, hC.t2, hC.t3, so_6, so_7, so_8, so_9, sg_6, sg_7, sg_8, st_4, st_5, sp_7, sp_8, sp_9, sp_10, sl_6, sl_7, sb_11, zu_eq, Nat.reduceEqDiff, false_and, and_false, and_self, hC.ko hkN, hC.ko (hL.lt ham), hL.nx e1, hq]
        refine ih ?_
        rcases List.mem_cons.mp hkt with h | h
        · exact absurd h.symm hq
        · exact h
  refine wp_ok (snX1_takeOut l _ _ _) cuX1_takeOut 300 (fun W hW => ?_)
  simp only [tX1_takeOut_0, tX1_takeOut_7, wX1_takeOut_0 hW, wX1_takeOut_1 hW, wX1_takeOut_2 hW, wX1_takeOut_3 hW, wX1_takeOut_6 hW, wX1_takeOut_7 hW, wX1_takeOut_8 hW, wX1_takeOut_11 hW, wX1_takeOut_12 hW, wX1_takeOut_13 hW, wX1_takeOut_16 hW, wX1_takeOut_17 hW, wX1_takeOut_18 hW, wX1_takeOut_19 hW, wX1_takeOut_22 hW, wX1_takeOut_23 hW, wX1_takeOut_26 hW, wX1_takeOut_27 hW, wX1_takeOut_30 hW, wX1_takeOut_31 hW, wX1_takeOut_32 hW, wX1_takeOut_35 hW, wX1_takeOut_38 hW, wX1_takeOut_41 hW, wX1_takeOut_42 hW, wX1_takeOut_43 hW, wX1_takeOut_46 hW, wX1_takeOut_49 hW, wX1_takeOut_50 hW, wX1_takeOut_51 hW, wX1_takeOut_54 hW, sLd, sSt, sSt2, sInc, sPush, sBin, sUn, sRem, sI2l, sLbin, sLcmp, sDup, sDup2, sIf, sIc, sNul, sNn, sAcmp, sGoto, sGetI, sGetL, sGetR, sPutI, sPutL, sPutR, sAldI, sAldL, sAldD, sAldR, sAstI, sAstC, sAstL, sAstD, sAstR, sAlen, sNewA, sNewO, sObj, sMath, sMin, sAbs, sCallV, sCallS, sRetI, sRetL, sRetF, sRetD, sRetR, sRetV, sThrow, sI2f, sL2d, sFdiv, sDdiv, lg, lst, clr, c2V, isI, isR, isF, isD, pEq, pNe, pLt, pGe, pGt, pLe, qEq, qNe, qLt, qGe, qGt, qLe, fAdd, fSub, fMul, fNeg, fLadd, fLmul, cs9, List.take, List.drop, List.reverse, List.reverseAux, Option.toList_some, Option.toList_none, bi_0, List.cons_append, List.nil_append, List.append_nil, List.length_cons, List.length_nil, ite_true, ite_false, if_true, if_false, Bool.false_eq_true, Bool.or_false, Bool.false_or, Bool.or_true, Bool.true_or, Nat.reduceBEq, Nat.reduceAdd, Nat.reduceEqDiff, Nat.reduceLeDiff, Nat.reduceLT, Int.reduceLT, Int.reduceLE, Int.reduceEq, true_and, and_true, false_or, or_false, true_or, or_true, true_implies, false_implies, implies_true, eq_self, reduceIte, Nat.le_refl, nar_b0, nar_b1, nar_i, nar_bi, nr_0_0, nr_0_1, nr_0_2, nr_1_0, nr_2_0, nr_2_1, nr_2_2, nr_2_3, nr_2_4, nr_2_5, nr_2_6, nr_2_7, nr_2_8, nr_2_9, nr_2_10, nr_3_4, nr_3_5, nr_4_5, nr_4_6, nr_4_7, nr_4_8, nr_5_0, nr_5_12, nr_5_13, nr_5_18, nr_5_21, nr_5_22, nr_5_23, nr_5_24, Int.toNat_natCast, Int.natCast_nonneg, Nat.zero_le, ge_iff_le, gt_iff_lt, ne_eq, not_true_eq_false, not_false_eq_true, shp_2, shp_3, shp_4, shp_5, shp_6, shp_7, shp_8, shp_9, shp_10, shp_11, shp_12, shp_13, shp_14, shp_15, shp_16, shp_17, shp_18, shp_19, shp_20, shp_21, shp_22, shp_23, shp_24, shp_25, shp_26, shp_27, shp_28, shp_29, okA_sR, okA_sI, okA_sL, okA_cput, rN_cput, hC.ok, hC.ks, shp_o, shp_sd, o_ne, o_eq, sd_ne, rs_0 hC, ro_0, ro_1, ro_2, ro_3, ro_4, ro_5, ro_6, ro_7, ro_8, ro_9, ro_10, rg_5, rg_6, rg_7, rg_8, rt_4, rt_5, rp_7, rp_8, rp_9, rp_10, rb_11, rl_6, rl_7, rr_2, rr_6, rr_3, rr_4, rr_5, hC.g0, hC.g1, hC.g2, hC.g3, hC.g4, hC.t0, hC.t1, hC.t2, hC.t3, so_6, so_7, so_8, so_9, sg_6, sg_7, sg_8, st_4, st_5, sp_7, sp_8, sp_9, sp_10, sl_6, sl_7, sb_11, zu_eq, Nat.reduceEqDiff, false_and, and_false, and_self, rs_1 _ _ _ hc]
  exact main (X.1 c) [] rfl hk
