/-! ===== owners' bits; the class's calls ===== -/
def bcE (i : Int) : Int :=
  fAnd (wr (wr (fAnd (wr (wr (fAnd (wr (i - fAnd (fUshr i 1) 1431655765)) 858993459 + fAnd (fUshr (wr (i - fAnd (fUshr i 1) 1431655765)) 2) 858993459) + fUshr (wr (fAnd (wr (i - fAnd (fUshr i 1) 1431655765)) 858993459 + fAnd (fUshr (wr (i - fAnd (fUshr i 1) 1431655765)) 2) 858993459)) 4)) 252645135 + fUshr (fAnd (wr (wr (fAnd (wr (i - fAnd (fUshr i 1) 1431655765)) 858993459 + fAnd (fUshr (wr (i - fAnd (fUshr i 1) 1431655765)) 2) 858993459) + fUshr (wr (fAnd (wr (i - fAnd (fUshr i 1) 1431655765)) 858993459 + fAnd (fUshr (wr (i - fAnd (fUshr i 1) 1431655765)) 2) 858993459)) 4)) 252645135) 8) + fUshr (wr (fAnd (wr (wr (fAnd (wr (i - fAnd (fUshr i 1) 1431655765)) 858993459 + fAnd (fUshr (wr (i - fAnd (fUshr i 1) 1431655765)) 2) 858993459) + fUshr (wr (fAnd (wr (i - fAnd (fUshr i 1) 1431655765)) 858993459 + fAnd (fUshr (wr (i - fAnd (fUshr i 1) 1431655765)) 2) 858993459)) 4)) 252645135 + fUshr (fAnd (wr (wr (fAnd (wr (i - fAnd (fUshr i 1) 1431655765)) 858993459 + fAnd (fUshr (wr (i - fAnd (fUshr i 1) 1431655765)) 2) 858993459) + fUshr (wr (fAnd (wr (i - fAnd (fUshr i 1) 1431655765)) 858993459 + fAnd (fUshr (wr (i - fAnd (fUshr i 1) 1431655765)) 2) 858993459)) 4)) 252645135) 8)) 16)) 63
set_option maxHeartbeats 400000 in
theorem c_bitCount (l : Launch) (hl : l.stackTraces = false) (μ : aM) (i : Int) : CtE l mdJ6_bitCount_0f7a4 [aI i] μ (some (aI (bcE i))) μ := by
  refine CtE.of hl rfl rfl rfl rfl (fun K hM hK => ?_)
  show Bd _ _ _ _ _ 0 [aI i] [] μ 0
  unfold bcE at hK
  refine wp_ok (snJ6_bitCount_0f7a4 l _ _ _) cuJ6_bitCount_0f7a4 300 (fun W hW => ?_)
  simp only [tJ6_bitCount_0f7a4_0, wJ6_bitCount_0f7a4_0 hW, wJ6_bitCount_0f7a4_1 hW, wJ6_bitCount_0f7a4_2 hW, wJ6_bitCount_0f7a4_3 hW, wJ6_bitCount_0f7a4_4 hW, wJ6_bitCount_0f7a4_7 hW, wJ6_bitCount_0f7a4_8 hW, wJ6_bitCount_0f7a4_9 hW, wJ6_bitCount_0f7a4_10 hW, wJ6_bitCount_0f7a4_11 hW, wJ6_bitCount_0f7a4_14 hW, wJ6_bitCount_0f7a4_15 hW, wJ6_bitCount_0f7a4_16 hW, wJ6_bitCount_0f7a4_17 hW, wJ6_bitCount_0f7a4_18 hW, wJ6_bitCount_0f7a4_21 hW, wJ6_bitCount_0f7a4_22 hW, wJ6_bitCount_0f7a4_23 hW, wJ6_bitCount_0f7a4_24 hW, wJ6_bitCount_0f7a4_25 hW, wJ6_bitCount_0f7a4_26 hW, wJ6_bitCount_0f7a4_27 hW, wJ6_bitCount_0f7a4_28 hW, wJ6_bitCount_0f7a4_29 hW, wJ6_bitCount_0f7a4_32 hW, wJ6_bitCount_0f7a4_33 hW, wJ6_bitCount_0f7a4_34 hW, wJ6_bitCount_0f7a4_35 hW, wJ6_bitCount_0f7a4_36 hW, wJ6_bitCount_0f7a4_38 hW, wJ6_bitCount_0f7a4_39 hW, wJ6_bitCount_0f7a4_40 hW, wJ6_bitCount_0f7a4_41 hW, wJ6_bitCount_0f7a4_42 hW, wJ6_bitCount_0f7a4_43 hW, wJ6_bitCount_0f7a4_45 hW, wJ6_bitCount_0f7a4_46 hW, wJ6_bitCount_0f7a4_47 hW, wJ6_bitCount_0f7a4_48 hW, wJ6_bitCount_0f7a4_49 hW, wJ6_bitCount_0f7a4_51 hW, wJ6_bitCount_0f7a4_52 hW, sLd, sSt, sSt2, sInc, sPush, sBin, sUn, sRem, sI2l, sLbin, sLcmp, sDup, sDup2, sIf, sIc, sNul, sNn, sAcmp, sGoto, sGetI, sGetL, sGetR, sPutI, sPutL, sPutR, sAldI, sAldL, sAldD, sAldR, sAstI, sAstC, sAstL, sAstD, sAstR, sAlen, sNewA, sNewO, sObj, sMath, sMin, sAbs, sCallV, sCallS, sRetI, sRetL, sRetF, sRetD, sRetR, sRetV, sThrow, sI2f, sL2d, sFdiv, sDdiv, lg, lst, clr, c2V, isI, isR, isF, isD, pEq, pNe, pLt, pGe, pGt, pLe, qEq, qNe, qLt, qGe, qGt, qLe, fAdd, fSub, fMul, fNeg, fLadd, fLmul, cs9, List.take, List.drop, List.reverse, List.reverseAux, Option.toList_some, Option.toList_none, bi_0, List.cons_append, List.nil_append, List.append_nil, List.length_cons, List.length_nil, ite_true, ite_false, if_true, if_false, Bool.false_eq_true, Bool.or_false, Bool.false_or, Bool.or_true, Bool.true_or, Nat.reduceBEq, Nat.reduceAdd, Nat.reduceEqDiff, Nat.reduceLeDiff, Nat.reduceLT, Int.reduceLT, Int.reduceLE, Int.reduceEq, true_and, and_true, false_or, or_false, true_or, or_true, true_implies, false_implies, implies_true, eq_self, reduceIte, Nat.le_refl, nar_b0, nar_b1, nar_i, nar_bi, nr_0_0, nr_0_1, nr_0_2, nr_1_0, nr_2_0, nr_2_1, nr_2_2, nr_2_3, nr_2_4, nr_2_5, nr_2_6, nr_2_7, nr_2_8, nr_2_9, nr_2_10, nr_3_4, nr_3_5, nr_4_5, nr_4_6, nr_4_7, nr_4_8, nr_5_0, nr_5_12, nr_5_13, nr_5_18, nr_5_21, nr_5_22, nr_5_23, nr_5_24, Int.toNat_natCast, Int.natCast_nonneg, Nat.zero_le, ge_iff_le, gt_iff_lt, ne_eq, not_true_eq_false, not_false_eq_true, shp_2, shp_3, shp_4, shp_5, shp_6, shp_7, shp_8, shp_9, shp_10, shp_11, shp_12, shp_13, shp_14, shp_15, shp_16, shp_17, shp_18, shp_19, shp_20, shp_21, shp_22, shp_23, shp_24, shp_25, shp_26, shp_27, shp_28, shp_29]
  exact hK
/-- the bit of owner w in v -/
def tb_ (v w : Nat) : Int := if v.testBit w then 1 else 0
theorem bc_all : ∀ v : Fin 64, bcE ((v : Nat) : Int) = tb_ v 0 + tb_ v 1 + tb_ v 2 + tb_ v 3 + tb_ v 4 + tb_ v 5 := by decide +kernel
theorem or_all : ∀ v w : Fin 64, fOr ((v : Nat) : Int) ((w : Nat) : Int) = (((v : Nat) ||| (w : Nat) : Nat) : Int) := by decide +kernel
theorem sh_all : ∀ w : Fin 6, fShl 1 ((w : Nat) : Int) = ((2 ^ (w : Nat) : Nat) : Int) := by decide +kernel
theorem p2_lt {w : Nat} (h : w < 6) : 2 ^ w < 64 := by
  have : 2 ^ w < 2 ^ 6 := Nat.pow_lt_pow_right (by decide) h
  simpa using this
theorem or_lt {v w : Nat} (h1 : v < 64) (h2 : w < 64) : v ||| w < 64 := Nat.or_lt_two_pow (n := 6) h1 h2
theorem fOr_n {v w : Nat} (h1 : v < 64) (h2 : w < 64) : fOr (v : Int) (w : Int) = ((v ||| w : Nat) : Int) := or_all ⟨v, h1⟩ ⟨w, h2⟩
/-- the bits of a chain's owners, as a number -/
def oN (S : zS) : Nat → List Nat → Nat
  | v, [] => v
  | v, a :: t => oN S (v ||| 2 ^ (S 15 a).toNat) t
theorem oB_n {S : zS} (L : List Nat) : ∀ v : Nat, v < 64 → (∀ a, a ∈ L → 0 ≤ S 15 a ∧ S 15 a ≤ 5) → oB S (v : Int) L = (oN S v L : Int) ∧ oN S v L < 64 ∧ ∀ w, (oN S v L).testBit w = true ↔ v.testBit w = true ∨ ∃ a, a ∈ L ∧ S 15 a = w := by
  induction L with
  | nil => intro v hv _; exact ⟨rfl, hv, fun w => ⟨Or.inl, fun h => h.elim id (fun ⟨a, h, _⟩ => nomatch h)⟩⟩
  | cons a t ih =>
    intro v hv hL
    have ha := hL a List.mem_cons_self
    obtain ⟨k, hk⟩ := Int.eq_ofNat_of_zero_le ha.1
    have hk6 : k < 6 := by omega
    have e1 : fShl 1 (S 15 a) = ((2 ^ k : Nat) : Int) := by rw [hk]; exact sh_all ⟨k, hk6⟩
    have e2 : (S 15 a).toNat = k := by rw [hk, Int.toNat_natCast]
    have h2 := p2_lt hk6
    have i := ih (v ||| 2 ^ k) (or_lt hv h2) (fun b hb => hL b (List.mem_cons_of_mem _ hb))
    show oB S (fOr v (fShl 1 (S 15 a))) t = (oN S (v ||| 2 ^ (S 15 a).toNat) t : Int) ∧ oN S (v ||| 2 ^ (S 15 a).toNat) t < 64 ∧ ∀ w, (oN S (v ||| 2 ^ (S 15 a).toNat) t).testBit w = true ↔ _
    rw [e1, fOr_n hv h2, e2]
    refine ⟨i.1, i.2.1, fun w => ?_⟩
    rw [i.2.2 w, Nat.testBit_or, Nat.testBit_two_pow, Bool.or_eq_true, decide_eq_true_eq]
    constructor
    · intro q
      rcases q with (q | q) | ⟨b, hb, q⟩
      · exact Or.inl q
      · exact Or.inr ⟨a, List.mem_cons_self, by omega⟩
      · exact Or.inr ⟨b, List.mem_cons_of_mem _ hb, q⟩
    · intro q
      rcases q with q | ⟨b, hb, q⟩
      · exact Or.inl (Or.inl q)
      · rcases List.mem_cons.mp hb with z | z
        · rw [z] at q; exact Or.inl (Or.inr (by omega))
        · exact Or.inr ⟨b, z, q⟩
theorem ownA_iff (S : zS) (w : Int) (n : Nat) : ownA S w n = bi (∃ k, k < n ∧ S 14 k = 97 ∧ S 15 k = w) := by
  induction n with
  | zero => rw [bi_f (fun ⟨k, h, _⟩ => absurd h (Nat.not_lt_zero _))]; rfl
  | succ n ih =>
    rw [ownA_suc]
    by_cases h : ∃ k, k < n ∧ S 14 k = 97 ∧ S 15 k = w
    · rw [ih, bi_t h, bi_t (Or.inl (by decide))]
      obtain ⟨k, hk, q⟩ := h
      exact (bi_t ⟨k, by omega, q⟩).symm
    · rw [ih, bi_f h]
      by_cases g : S 14 n = 97 ∧ S 15 n = w
      · rw [bi_t (Or.inr g)]; exact (bi_t ⟨n, by omega, g⟩).symm
      · rw [bi_f (fun q => q.elim (fun z => z rfl) g), bi_f (fun ⟨k, hk, q⟩ => by
          rcases Nat.lt_or_ge k n with z | z
          · exact h ⟨k, z, q⟩
          · rw [show k = n by omega] at q; exact g q)]
theorem own_ok {S : zS} {N : Nat} {X : xS} (h : bk S N X) (ho : ∀ k, k < N → oI S k) : bcE (fOr (oB S 0 (X.1 98)) (oB S 0 (X.1 115))) = ownN S N 6 := by
  have hr : ∀ c, sC c → ∀ a, a ∈ X.1 c → 0 ≤ S 15 a ∧ S 15 a ≤ 5 := fun c hc a ha => (ho a (((h c hc).2 a).mp ha).1).2.1
  have h1 := oB_n (S := S) (X.1 98) 0 (by decide) (hr 98 (Or.inl rfl))
  have h2 := oB_n (S := S) (X.1 115) 0 (by decide) (hr 115 (Or.inr rfl))
  rw [show (0 : Int) = ((0 : Nat) : Int) from rfl, h1.1, h2.1, fOr_n h1.2.1 h2.2.1]
  have hb := bc_all ⟨oN S 0 (X.1 98) ||| oN S 0 (X.1 115), or_lt h1.2.1 h2.2.1⟩
  rw [show bcE (((oN S 0 (X.1 98) ||| oN S 0 (X.1 115) : Nat)) : Int) = _ from hb]
  have key : ∀ w : Nat, tb_ (oN S 0 (X.1 98) ||| oN S 0 (X.1 115)) w = ownA S w N := fun w => by
    rw [ownA_iff]
    unfold tb_
    have : (oN S 0 (X.1 98) ||| oN S 0 (X.1 115)).testBit w = true ↔ ∃ k, k < N ∧ S 14 k = 97 ∧ S 15 k = w := by
      rw [Nat.testBit_or, Bool.or_eq_true, h1.2.2 w, h2.2.2 w, Nat.zero_testBit]
      constructor
      · intro q
        rcases q with (q | ⟨a, ha, q⟩) | (q | ⟨a, ha, q⟩)
        · cases q
        · have := ((h 98 (Or.inl rfl)).2 a).mp ha; exact ⟨a, this.1, this.2.1, q⟩
        · cases q
        · have := ((h 115 (Or.inr rfl)).2 a).mp ha; exact ⟨a, this.1, this.2.1, q⟩
      · intro ⟨k, hk, q1, q2⟩
        rcases (ho k hk).1 with z | z
        · exact Or.inl (Or.inr ⟨k, ((h 98 (Or.inl rfl)).2 k).mpr ⟨hk, q1, z⟩, q2⟩)
        · exact Or.inr (Or.inr ⟨k, ((h 115 (Or.inr rfl)).2 k).mpr ⟨hk, q1, z⟩, q2⟩)
    by_cases q : ∃ k, k < N ∧ S 14 k = 97 ∧ S 15 k = w
    · rw [bi_t q, if_pos (this.mpr q)]
    · rw [bi_f q, if_neg (fun z => q (this.mp z))]
  show tb_ _ 0 + tb_ _ 1 + tb_ _ 2 + tb_ _ 3 + tb_ _ 4 + tb_ _ 5 = 0 + ownA S (0 : Nat) N + ownA S (1 : Nat) N + ownA S (2 : Nat) N + ownA S (3 : Nat) N + ownA S (4 : Nat) N + ownA S (5 : Nat) N
  rw [← key 0, ← key 1, ← key 2, ← key 3, ← key 4, ← key 5, Int.zero_add]
