/-! ===== what the steps do to the rows ===== -/
theorem gv_19 (S : zS) (k : Nat) (a : Int) (j : Nat) : gives S k a 19 j = if j = k then S 19 k - a else S 19 j := by
  unfold gives; split <;> simp only [zu_eq, Nat.reduceEqDiff, true_and, false_and, if_false]
theorem gv_20 (S : zS) (k : Nat) (a : Int) (j : Nat) : gives S k a 20 j = if j = k then S 20 k + a else S 20 j := by
  unfold gives; split <;> simp only [zu_eq, Nat.reduceEqDiff, true_and, false_and, if_false]
theorem gv_14 (S : zS) (k : Nat) (a : Int) (j : Nat) : gives S k a 14 j = if j = k ∧ S 19 k - a = 0 then 102 else S 14 j := by
  unfold gives
  split
  · rename_i h; simp only [zu_eq, Nat.reduceEqDiff, true_and, false_and, if_false, h, and_true]
  · rename_i h; simp only [zu_eq, Nat.reduceEqDiff, true_and, false_and, if_false, h, and_false]
theorem gv_o (S : zS) (k : Nat) (a : Int) {b : Nat} (h : b ≠ 19 ∧ b ≠ 20 ∧ b ≠ 14) (j : Nat) : gives S k a b j = S b j := gives_o S k a (Or.inl h)
theorem tr_19 (S : zS) {k o : Nat} (h : k ≠ o) (p a : Int) (j : Nat) : trd S k o p a 19 j = if j = k then S 19 k - a else if j = o then S 19 o - a else S 19 j := by
  unfold trd
  rw [gv_19, gv_19, gv_19, tape_o _ _ _ _ _ (by omega), tape_o _ _ _ _ _ (by omega), tape_o _ _ _ _ _ (by omega)]
  by_cases h1 : j = o
  · rw [if_pos h1, if_neg (fun q => h q.symm), if_neg (fun q => h (q.symm.trans h1)), if_pos h1]
  · rw [if_neg h1, if_neg h1]
theorem tr_20 (S : zS) {k o : Nat} (h : k ≠ o) (p a : Int) (j : Nat) : trd S k o p a 20 j = if j = k then S 20 k + a else if j = o then S 20 o + a else S 20 j := by
  unfold trd
  rw [gv_20, gv_20, gv_20, tape_o _ _ _ _ _ (by omega), tape_o _ _ _ _ _ (by omega), tape_o _ _ _ _ _ (by omega)]
  by_cases h1 : j = o
  · rw [if_pos h1, if_neg (fun q => h q.symm), if_neg (fun q => h (q.symm.trans h1)), if_pos h1]
  · rw [if_neg h1, if_neg h1]
theorem tr_14 (S : zS) {k o : Nat} (h : k ≠ o) (p a : Int) (j : Nat) : trd S k o p a 14 j = if j = k ∧ S 19 k - a = 0 then 102 else if j = o ∧ S 19 o - a = 0 then 102 else S 14 j := by
  unfold trd
  rw [gv_14, gv_14, gv_19, tape_o _ _ _ _ _ (by omega), tape_o _ _ _ _ _ (by omega), tape_o _ _ _ _ _ (by omega)]
  rw [if_neg (c := o = k) (fun q => h q.symm)]
  (repeat' split) <;> first | rfl | omega
theorem tr_o (S : zS) (k o : Nat) (p a : Int) {b : Nat} (h : b ≠ 19 ∧ b ≠ 20 ∧ b ≠ 14 ∧ b ≠ 12 ∧ b ≠ 24 ∧ b ≠ 25 ∧ b ≠ 26 ∧ b ≠ 27 ∧ b ≠ 28) (j : Nat) : trd S k o p a b j = S b j := by
  unfold trd
  rw [gv_o _ _ _ (by omega), gv_o _ _ _ (by omega), tape_o _ _ _ _ _ (by omega)]
theorem tr_12 (S : zS) (k o : Nat) (p a : Int) (j : Nat) : trd S k o p a 12 j = if j = 18 then p else if j = 13 then S 12 13 + 1 else S 12 j := by
  unfold trd
  rw [gv_o _ _ _ (by omega), gv_o _ _ _ (by omega)]
  unfold tape
  simp only [zu_eq, Nat.reduceEqDiff, true_and, false_and, if_false]
theorem tr_28 (S : zS) (k o : Nat) (p a : Int) (j : Nat) : trd S k o p a 28 j = if j = 20 then S 28 20 + a * p else if j = 19 then S 28 19 + a else S 28 j := by
  unfold trd
  rw [gv_o _ _ _ (by omega), gv_o _ _ _ (by omega)]
  unfold tape
  simp only [zu_eq, Nat.reduceEqDiff, true_and, false_and, if_false]
theorem bh_22 (S : zS) (k j : Nat) : behind S k 22 j = if j = k then min (S 21 k) (S 19 k) else S 22 j := by
  unfold behind shows; simp only [zu_eq, Nat.reduceEqDiff, true_and, false_and, if_false]
theorem bh_23 (S : zS) (k j : Nat) : behind S k 23 j = if j = k then S 12 12 + 1 else S 23 j := by
  unfold behind shows; simp only [zu_eq, Nat.reduceEqDiff, true_and, false_and, if_false]
theorem bh_12 (S : zS) (k j : Nat) : behind S k 12 j = if j = 12 then S 12 12 + 1 else S 12 j := by
  unfold behind shows; simp only [zu_eq, Nat.reduceEqDiff, true_and, false_and, if_false]
theorem bh_o (S : zS) (k : Nat) {b : Nat} (h : b ≠ 22 ∧ b ≠ 23 ∧ b ≠ 12) (j : Nat) : behind S k b j = S b j := by
  unfold behind shows
  rw [zu_ne _ _ (by omega), zu_ne _ _ (by omega), zu_ne _ _ (by omega)]
theorem tr_13 (S : zS) (k o : Nat) (p a : Int) (j : Nat) : trd S k o p a 13 j = S 13 j := tr_o S k o p a (by omega) j
theorem tr_15 (S : zS) (k o : Nat) (p a : Int) (j : Nat) : trd S k o p a 15 j = S 15 j := tr_o S k o p a (by omega) j
theorem tr_16 (S : zS) (k o : Nat) (p a : Int) (j : Nat) : trd S k o p a 16 j = S 16 j := tr_o S k o p a (by omega) j
theorem tr_17 (S : zS) (k o : Nat) (p a : Int) (j : Nat) : trd S k o p a 17 j = S 17 j := tr_o S k o p a (by omega) j
theorem tr_18 (S : zS) (k o : Nat) (p a : Int) (j : Nat) : trd S k o p a 18 j = S 18 j := tr_o S k o p a (by omega) j
theorem tr_21 (S : zS) (k o : Nat) (p a : Int) (j : Nat) : trd S k o p a 21 j = S 21 j := tr_o S k o p a (by omega) j
theorem tr_22 (S : zS) (k o : Nat) (p a : Int) (j : Nat) : trd S k o p a 22 j = S 22 j := tr_o S k o p a (by omega) j
theorem tr_23 (S : zS) (k o : Nat) (p a : Int) (j : Nat) : trd S k o p a 23 j = S 23 j := tr_o S k o p a (by omega) j
theorem bh_13 (S : zS) (k j : Nat) : behind S k 13 j = S 13 j := bh_o S k (by omega) j
theorem bh_14 (S : zS) (k j : Nat) : behind S k 14 j = S 14 j := bh_o S k (by omega) j
theorem bh_15 (S : zS) (k j : Nat) : behind S k 15 j = S 15 j := bh_o S k (by omega) j
theorem bh_16 (S : zS) (k j : Nat) : behind S k 16 j = S 16 j := bh_o S k (by omega) j
theorem bh_17 (S : zS) (k j : Nat) : behind S k 17 j = S 17 j := bh_o S k (by omega) j
theorem bh_18 (S : zS) (k j : Nat) : behind S k 18 j = S 18 j := bh_o S k (by omega) j
theorem bh_19 (S : zS) (k j : Nat) : behind S k 19 j = S 19 j := bh_o S k (by omega) j
theorem bh_20 (S : zS) (k j : Nat) : behind S k 20 j = S 20 j := bh_o S k (by omega) j
theorem bh_21 (S : zS) (k j : Nat) : behind S k 21 j = S 21 j := bh_o S k (by omega) j
theorem bh_28 (S : zS) (k j : Nat) : behind S k 28 j = S 28 j := bh_o S k (by omega) j
/-- a trade keeps the invariant, but for the slices -/
theorem trd_g {S : zS} {N : Nat} {b : Int} (h : gI S N b) {k o : Nat} {p a : Int} (hp : 1 ≤ p ∧ p ≤ 300) (ha : 1 ≤ a ∧ a ≤ 99) : gI (trd S k o p a) N (b + 1) := by
  have h1 : 0 ≤ a * p ∧ a * p ≤ 30000 := by
    refine ⟨Int.mul_nonneg (by omega) (by omega), ?_⟩
    have q1 : a * p ≤ 99 * p := Int.mul_le_mul_of_nonneg_right ha.2 (by omega)
    omega
  generalize hx : a * p = x at h1
  unfold gI at *
  simp only [tr_12, tr_28, Nat.reduceEqDiff, if_false, if_true, hx]
  omega
theorem trd_oI {S : zS} {k o : Nat} (hne : k ≠ o) {p a : Int} (ha : 1 ≤ a ∧ a ≤ S 19 k ∧ a ≤ S 19 o) {j : Nat} (h : oI S j) (hs : S 14 j = 102 → j ≠ k ∧ j ≠ o) (hs2 : S 14 j = 99 → j ≠ k ∧ j ≠ o) : oI (trd S k o p a) j := by
  unfold oI at *
  simp only [tr_13, tr_15, tr_16, tr_17, tr_18, tr_21, tr_22, tr_23, tr_14 _ hne, tr_19 _ hne, tr_20 _ hne, tr_12, Nat.reduceEqDiff, if_false]
  obtain ⟨a1, a2, a3, a4, a5, a6, a7, a8, a9⟩ := h
  refine ⟨a1, a2, a3, a4, a5, ?_, a7, a8, ?_⟩
  · clear a1 a2 a3 a4 a5 a7 a8 hs hs2
    by_cases h1 : j = k
    · subst h1; rw [if_pos rfl, if_pos rfl]; omega
    · rw [if_neg h1, if_neg h1]
      by_cases h2 : j = o
      · subst h2; rw [if_pos rfl, if_pos rfl]; omega
      · rw [if_neg h2, if_neg h2]; exact a6
  · clear a1 a2 a3 a4 a5 a7 a8
    by_cases h1 : j = k
    · subst h1
      rw [if_pos rfl, if_neg (c := j = o ∧ _) (fun q => hne q.1)]
      split <;> omega
    · rw [if_neg (c := j = k ∧ _) (fun q => h1 q.1), if_neg h1]
      by_cases h2 : j = o
      · subst h2
        rw [if_pos rfl]
        split <;> omega
      · rw [if_neg (c := j = o ∧ _) (fun q => h2 q.1), if_neg h2]; exact a9
/-- what keeps an order's rows: new stamps only grow -/
theorem bh_oI {S : zS} {k : Nat} (hk : oI S k) (h0 : 0 ≤ S 12 12) (hl : 1 ≤ S 19 k) {j : Nat} (h : oI S j) : oI (behind S k) j := by
  unfold oI at *
  simp only [bh_13, bh_14, bh_15, bh_16, bh_17, bh_18, bh_19, bh_20, bh_21, bh_22, bh_23, bh_12, if_true]
  obtain ⟨a1, a2, a3, a4, a5, a6, a7, a8, a9, a10, a11⟩ := h
  refine ⟨a1, a2, a3, a4, a5, a6, a7, ?_, a9, a10, ?_⟩
  · clear a1 a2 a3 a4 a5
    split
    · omega
    · exact a8
  · clear a1 a2 a3 a4 a5 a9 hk
    intro q
    have := a11 q
    split <;> omega
theorem bh_g {S : zS} {N : Nat} {b : Int} (h : gI S N b) (k : Nat) : gI (behind S k) N (b + 1) := by
  unfold gI at *
  simp only [bh_12, bh_28, Nat.reduceEqDiff, if_false, if_true]
  omega
theorem bh_st {S : zS} {N : Nat} (h : stI S N) (ho : ∀ j, j < N → S 14 j = 97 → S 23 j ≤ S 12 12) (k : Nat) : stI (behind S k) N := by
  intro i j hi hj
  rw [bh_14, bh_14, bh_23, bh_23]
  intro h1 h2
  have h3 := ho i hi h1
  have h4 := ho j hj h2
  have h5 := h i j hi hj h1 h2
  split <;> split <;> intro h6 <;> omega
theorem bh_sl {S : zS} {N : Nat} {k : Nat} (h : ∀ j, j < N → j ≠ k → slcP S j) (hk : 1 ≤ S 21 k ∧ 1 ≤ S 19 k) : slI (behind S k) N := by
  intro j hj
  unfold slcP
  rw [bh_14, bh_22, bh_21, bh_19]
  by_cases e : j = k
  · subst e; rw [if_pos rfl]; omega
  · rw [if_neg e]; exact h j hj e
