/-! ===== stops are set off ===== -/
/-- between calls -/
def Jnv (S : zS) (N : Nat) (b : Int) : Prop := Inv S N b ∧ slI S N ∧ (∀ j, j < N → S 14 j ≠ 105)
theorem sm_lt {f g : Nat → Int} {n k : Nat} (hk : k < n) (h : ∀ j, j < n → f j ≤ g j) (h2 : f k + 1 ≤ g k) : sm f n + 1 ≤ sm g n := by
  have h1 := sm_one (f := fun j => if j = k then f j + 1 else f j) (g := f) (n := n) (o := k) hk (fun j hj hne => by simp only [if_neg hne])
  have h3 := sm_mono (f := fun j => if j = k then f j + 1 else f j) (g := g) (n := n) (fun j hj => by
    have := h j hj
    by_cases e : j = k
    · simp only [if_pos e]; rw [e]; exact h2
    · simp only [if_neg e]; exact this)
  simp only [if_true] at h1
  omega
/-- an order that waits comes in -/
theorem start_cI {S : zS} {N k : Nat} {b : Int} (h : Jnv S N b) (hk : k < N) (hw : S 14 k = 119) : cI (zu S 14 k 105) N k b ∧ vr (zu S 14 k 105) N k ≤ 159 := by
  obtain ⟨⟨h1, h2, h3, h5⟩, h4, h7⟩ := h
  have hs : ∀ j, zu S 14 k 105 14 j = if j = k then 105 else S 14 j := z14 S k 105
  have hl : live (zu S 14 k 105) N = live S N := sm_congr (fun j hj => by
    rw [hs]
    by_cases e : j = k
    · rw [if_pos e, e, bi_t (by omega), bi_t (by omega)]
    · rw [if_neg e])
  refine ⟨⟨h1, fun j hj => ?_, ?_, ?_, by omega, hk, ?_⟩, ?_⟩
  · have q := h2 j hj
    unfold oI at *
    rw [hs, z14o _ _ _ (b := 13) (by omega), z14o _ _ _ (b := 15) (by omega), z14o _ _ _ (b := 16) (by omega), z14o _ _ _ (b := 17) (by omega), z14o _ _ _ (b := 18) (by omega), z14o _ _ _ (b := 19) (by omega), z14o _ _ _ (b := 20) (by omega), z14o _ _ _ (b := 21) (by omega), z14o _ _ _ (b := 22) (by omega), z14o _ _ _ (b := 23) (by omega), z14o _ _ _ (b := 12) (by omega)]
    obtain ⟨a1, a2, a3, a4, a5, a6, a7, a8, a9⟩ := q
    refine ⟨a1, a2, a3, a4, a5, a6, a7, a8, ?_⟩
    clear a1 a2 a3 a4 a5 a6 a7 a8
    by_cases e : j = k
    · rw [if_pos e]; subst e; omega
    · rw [if_neg e]; exact a9
  · intro i j hi hj q1 q2 q3
    rw [hs] at q1 q2
    split at q1
    · omega
    · split at q2
      · omega
      · exact h3 i j hi hj q1 q2 q3
  · intro j hj q
    rw [hs] at q
    split at q
    · omega
    · exact h4 j hj q
  · intro j hj q
    rw [hs] at q
    split at q
    · assumption
    · exact absurd q (h7 j hj)
  · have q := (h2 k hk).2.2.2.2.2.1
    have h8 := sm_lt (f := fun j => bi (act (zu S 14 k 105) (opp (zu S 14 k 105 13 k)) j)) (g := fun j => bi (zu S 14 k 105 14 j = 97 ∨ zu S 14 k 105 14 j = 119 ∨ zu S 14 k 105 14 j = 105)) (n := N) (k := k) hk (fun j hj => bi_mono (fun z => Or.inl z.1)) (by
      have e0 : zu S 14 k 105 14 k = 105 := by rw [hs, if_pos rfl]
      have z1 : bi (act (zu S 14 k 105) (opp (zu S 14 k 105 13 k)) k) = 0 := bi_f (fun z => by have := z.1; omega)
      have z2 : bi (zu S 14 k 105 14 k = 97 ∨ zu S 14 k 105 14 k = 119 ∨ zu S 14 k 105 14 k = 105) = 1 := bi_t (Or.inr (Or.inr e0))
      exact (show _ + 1 ≤ _ by rw [z1, z2]; decide))
    have h9 : vr (zu S 14 k 105) N k = S 19 k + sm (fun j => bi (act (zu S 14 k 105) (opp (zu S 14 k 105 13 k)) j)) N := rfl
    have h10 : live (zu S 14 k 105) N = sm (fun j => bi (zu S 14 k 105 14 j = 97 ∨ zu S 14 k 105 14 j = 119 ∨ zu S 14 k 105 14 j = 105)) N := rfl
    omega
abbrev offP (S : zS) (k : Nat) : Prop := S 14 k = 119 ∧ 0 < S 12 13 ∧ ((S 13 k = 98 ∧ S 17 k ≤ S 12 18) ∨ (S 13 k ≠ 98 ∧ S 12 18 ≤ S 17 k))
set_option maxHeartbeats 400000 in
theorem c_isOff (l : Launch) (hl : l.stackTraces = false) (S : zS) (μ : aM) (hB : mB μ) {k : Nat} (hk : k < 2000) : CtE l mdX5_isOff [aR 12, aI (k : Int)] (put S μ) (some (aI (bi (offP S k)))) (put S μ) := by
  refine CtE.of hl rfl rfl rfl rfl (fun K hM hK => ?_)
  show Bd _ _ _ _ _ 0 [aR 12, aI (k : Int)] [] (put S μ) 0
  refine wp_ok (snX5_isOff l _ _ _) cuX5_isOff 300 (fun W hW => ?_)
  simp only [tX5_isOff_0, wX5_isOff_0 hW, wX5_isOff_1 hW, wX5_isOff_4 hW, wX5_isOff_5 hW, wX5_isOff_6 hW, wX5_isOff_8 hW, wX5_isOff_11 hW, wX5_isOff_12 hW, wX5_isOff_15 hW, wX5_isOff_18 hW, wX5_isOff_19 hW, wX5_isOff_22 hW, wX5_isOff_23 hW, wX5_isOff_24 hW, wX5_isOff_26 hW, wX5_isOff_29 hW, wX5_isOff_30 hW, wX5_isOff_33 hW, wX5_isOff_34 hW, wX5_isOff_37 hW, wX5_isOff_38 hW, wX5_isOff_39 hW, wX5_isOff_42 hW, wX5_isOff_45 hW, wX5_isOff_46 hW, wX5_isOff_49 hW, wX5_isOff_50 hW, wX5_isOff_53 hW, wX5_isOff_54 hW, wX5_isOff_55 hW, wX5_isOff_58 hW, wX5_isOff_59 hW, wX5_isOff_62 hW, wX5_isOff_63 hW, sLd, sSt, sSt2, sInc, sPush, sBin, sUn, sRem, sI2l, sLbin, sLcmp, sDup, sDup2, sIf, sIc, sNul, sNn, sAcmp, sGoto, sGetI, sGetL, sGetR, sPutI, sPutL, sPutR, sAldI, sAldL, sAldD, sAldR, sAstI, sAstC, sAstL, sAstD, sAstR, sAlen, sNewA, sNewO, sObj, sMath, sMin, sAbs, sCallV, sCallS, sRetI, sRetL, sRetF, sRetD, sRetR, sRetV, sThrow, sI2f, sL2d, sFdiv, sDdiv, lg, lst, clr, c2V, isI, isR, isF, isD, pEq, pNe, pLt, pGe, pGt, pLe, qEq, qNe, qLt, qGe, qGt, qLe, fAdd, fSub, fMul, fNeg, fLadd, fLmul, cs9, List.take, List.drop, List.reverse, List.reverseAux, Option.toList_some, Option.toList_none, bi_0, List.cons_append, List.nil_append, List.append_nil, List.length_cons, List.length_nil, ite_true, ite_false, if_true, if_false, Bool.false_eq_true, Bool.or_false, Bool.false_or, Bool.or_true, Bool.true_or, Nat.reduceBEq, Nat.reduceAdd, Nat.reduceEqDiff, Nat.reduceLeDiff, Nat.reduceLT, Int.reduceLT, Int.reduceLE, Int.reduceEq, true_and, and_true, false_or, or_false, true_or, or_true, true_implies, false_implies, implies_true, eq_self, reduceIte, Nat.le_refl, nar_b0, nar_b1, nar_i, nar_bi, nr_0_0, nr_0_1, nr_0_2, nr_1_0, nr_2_0, nr_2_1, nr_2_2, nr_2_3, nr_2_4, nr_2_5, nr_2_6, nr_2_7, nr_2_8, nr_2_9, nr_2_10, nr_3_4, nr_3_5, nr_4_5, nr_4_6, nr_4_7, nr_4_8, nr_5_0, nr_5_12, nr_5_13, nr_5_18, nr_5_21, nr_5_22, nr_5_23, nr_5_24, Int.toNat_natCast, Int.natCast_nonneg, Nat.zero_le, ge_iff_le, gt_iff_lt, ne_eq, not_true_eq_false, not_false_eq_true, shp_2, shp_3, shp_4, shp_5, shp_6, shp_7, shp_8, shp_9, shp_10, shp_11, shp_12, shp_13, shp_14, shp_15, shp_16, shp_17, shp_18, shp_19, shp_20, shp_21, shp_22, shp_23, shp_24, shp_25, shp_26, shp_27, shp_28, shp_29, rR_put, hB.1, mr_1, mr_2, mr_3, mr_4, mr_5, mr_6, mr_7, mr_8, mr_9, mr_10, mr_11, mr_14, mr_15, mr_16, mr_17, rI_put, sI_put, okA_put, hB.ok, rL_put19, rL_put20, sL_put19, sL_put20, rN_put, zu_eq, false_and, and_false, and_self]
  unfold bi at hK; split at hK <;> (repeat' (first | refine ⟨?_, ?_⟩ | intro _)) <;> first | exact hK | trivial | (exfalso; omega) | omega
/-- the first stop to be set off, among the first n -/
def foF (S : zS) : Nat → Option Nat
  | 0 => none
  | n + 1 => if (foF S n).isSome then foF S n else if offP S n then some n else none
theorem foF_s (S : zS) (N : Nat) : fndS (offP S) N (foF S N) := by
  induction N with
  | zero => exact fun j hj => absurd hj (Nat.not_lt_zero _)
  | succ n ih =>
    show fndS (offP S) (n + 1) (if (foF S n).isSome then foF S n else if offP S n then some n else none)
    split
    · rename_i h
      obtain ⟨k, hk⟩ := Option.isSome_iff_exists.mp h
      rw [hk] at ih ⊢
      exact ⟨by have := ih.1; omega, ih.2⟩
    · rename_i h
      have hn : foF S n = none := by
        cases hq : foF S n with
        | none => rfl
        | some k => rw [hq] at h; exact absurd rfl h
      rw [hn] at ih
      split
      · rename_i h2
        exact ⟨by omega, h2, fun j hj => ih j hj⟩
      · rename_i h2
        intro j hj
        rcases Nat.lt_or_ge j n with q | q
        · exact ih j q
        · rw [show j = n by omega]; exact h2
def soStep (S : zS) (N k : Nat) : zS := comes (zu S 21 k (S 19 k)) N k
def soLoop (N : Nat) : Nat → zS → zS
  | 0, S => S
  | f + 1, S => if S 12 23 = 0 then (match foF S N with | some k => soLoop N f (soStep S N k) | none => S) else S
theorem meet_119 (S : zS) {k o : Nat} (hne : k ≠ o) {j : Nat} (h : cmMeet S k o 14 j = 119) : S 14 j = 119 := by
  unfold cmMeet cmAfter at h
  split at h
  · split at h
    · rw [z14] at h; split at h <;> omega
    · rw [z14] at h; split at h <;> omega
  · split at h
    · split at h
      · rw [bh_14] at h
        rw [ct_st _ hne (by omega)] at h
        exact h
      · rw [ct_st _ hne (by omega)] at h
        exact h
    · exact h
theorem loop_119 {N k : Nat} (f : Nat) : ∀ {S : zS} {b : Int}, cI S N k b → ∀ j, cmLoop N k f S 14 j = 119 → S 14 j = 119 := by
  induction f with
  | zero => intro S b h j q; exact q
  | succ f ih =>
    intro S b h j q
    have q : (if cmGo S N k then cmLoop N k f (cmMeet S k (oth S N k).toNat) else S) 14 j = 119 := q
    split at q
    · rename_i hg
      obtain ⟨o, eo, ho, ha, hne, _⟩ := oth_spec h hg
      have q2 := ih (meet_cI h hg).1 j q
      rw [eo, Int.toNat_natCast] at q2
      exact meet_119 S (Ne.symm hne) q2
    · exact q
theorem comes_119 {S : zS} {N k : Nat} {b : Int} (h : cI (zu S 14 k 105) N k b) {j : Nat} (q : comes S N k 14 j = 119) : j ≠ k ∧ S 14 j = 119 := by
  have h1 := loop_119 159 h j
  unfold comes cmEnd at q
  generalize cmLoop N k 159 (zu S 14 k 105) = T at *
  rw [z14] at h1
  split at q
  · rw [bh_14, z14] at q
    split at q
    · omega
    · rename_i e
      rw [if_neg e] at h1
      exact ⟨e, h1 q⟩
  · have h2 := h1 q
    split at h2
    · omega
    · rename_i e
      exact ⟨e, h2⟩
theorem z21 (S : zS) (o : Nat) (v : Int) (j : Nat) : zu S 21 o v 21 j = if j = o then v else S 21 j := by rw [zu_eq]; simp only [true_and]
theorem z21o (S : zS) (o : Nat) (v : Int) {b : Nat} (h : b ≠ 21) (j : Nat) : zu S 21 o v b j = S b j := zu_ne _ _ (fun q => h q.1)
theorem z21_J {S : zS} {N k : Nat} {b : Int} (h : Jnv S N b) (hk : k < N) (hw : S 14 k = 119) : Jnv (zu S 21 k (S 19 k)) N b := by
  obtain ⟨⟨h1, h2, h3, h5⟩, h4, h7⟩ := h
  have q := (h2 k hk).2.2.2.2.2.1
  have q2 := (h2 k hk).2.2.2.2.2.2.2.2.2.1 (Or.inr (Or.inl hw))
  refine ⟨⟨h1, fun j hj => ?_, h3, h5⟩, fun j hj z => ?_, h7⟩
  · have q := h2 j hj
    unfold oI at *
    rw [z21, z21o _ _ _ (b := 13) (by omega), z21o _ _ _ (b := 15) (by omega), z21o _ _ _ (b := 16) (by omega), z21o _ _ _ (b := 17) (by omega), z21o _ _ _ (b := 18) (by omega), z21o _ _ _ (b := 19) (by omega), z21o _ _ _ (b := 20) (by omega), z21o _ _ _ (b := 14) (by omega), z21o _ _ _ (b := 22) (by omega), z21o _ _ _ (b := 23) (by omega), z21o _ _ _ (b := 12) (by omega)]
    obtain ⟨a1, a2, a3, a4, a5, a6, a7, a8⟩ := q
    refine ⟨a1, a2, a3, a4, a5, a6, ?_, a8⟩
    split <;> omega
  · rw [z21o _ _ _ (by omega)] at z
    rw [z21, if_neg (fun e => by rw [e] at z; omega), z21o _ _ _ (b := 22) (by omega), z21o _ _ _ (b := 19) (by omega)]
    exact h4 j hj z
theorem soStep_J {S : zS} {N k : Nat} {b : Int} (h : Jnv S N b) (hk : k < N) (hw : S 14 k = 119) : Jnv (soStep S N k) N (b + 320) ∧ many (soStep S N k) N 119 + 1 ≤ many S N 119 := by
  have h1 := start_cI (z21_J h hk hw) hk (show zu S 21 k (S 19 k) 14 k = 119 by rw [z21o _ _ _ (by omega)]; exact hw)
  refine ⟨comes_Inv h1.1 h1.2, ?_⟩
  have h2 : ∀ j, soStep S N k 14 j = 119 → j ≠ k ∧ S 14 j = 119 := fun j q => by
    have := comes_119 h1.1 q
    rw [z21o _ _ _ (by omega)] at this
    exact this
  refine sm_lt (f := fun j => bi (soStep S N k 14 j = 119)) (g := fun j => bi (S 14 j = 119)) hk (fun j hj => bi_mono (fun q => (h2 j q).2)) ?_
  have z1 : bi (soStep S N k 14 k = 119) = 0 := bi_f (fun q => (h2 k q).1 rfl)
  have z2 : bi (S 14 k = 119) = 1 := bi_t hw
  exact (show _ + 1 ≤ _ by rw [z1, z2]; decide)
theorem soLoop_J {N : Nat} (f : Nat) : ∀ {S : zS} {b : Int}, Jnv S N b → Jnv (soLoop N f S) N (b + 320 * f) := by
  induction f with
  | zero => intro S b h; rw [show b + 320 * ((0 : Nat) : Int) = b by omega]; exact h
  | succ f ih =>
    intro S b h
    have up : Jnv S N (b + 320 * ((f + 1 : Nat) : Int)) := ⟨⟨gI_mono h.1.1 (by omega), h.1.2⟩, h.2⟩
    have hf := foF_s S N
    show Jnv (if S 12 23 = 0 then (match foF S N with | some k => soLoop N f (soStep S N k) | none => S) else S) N _
    split
    · cases hq : foF S N with
      | none => exact up
      | some k =>
        rw [hq] at hf
        have h1 := ih (soStep_J h hf.1 hf.2.1.1).1
        rw [show b + 320 * ((f + 1 : Nat) : Int) = b + 320 + 320 * f by omega]
        exact h1
    · exact up
