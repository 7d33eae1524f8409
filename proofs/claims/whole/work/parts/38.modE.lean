/-! ===== the reference's send, sendStop ===== -/
abbrev okSend (w c p a s : Int) : Prop := (0 ≤ w ∧ w ≤ 5) ∧ (c = 98 ∨ c = 115) ∧ pv p ∧ (1 ≤ a ∧ a ≤ 99) ∧ (1 ≤ s ∧ s ≤ 99)
def tSend (S : zS) (N : Nat) (w c p a s : Int) : Int := if ¬ okSend w c p a s then 1 else if 60 ≤ many S N 97 + many S N 119 then 2 else 0
def sSend (S : zS) (N : Nat) (w c p a s : Int) : zS := sT (tSend S N w c p a s) S (soLoop (N + 1) 60 (comes (adds (zu S 12 24 0) N w c 0 p a s) (N + 1) N))
theorem ad_13 (S : zS) (N : Nat) (w c t p a s : Int) (j : Nat) : adds S N w c t p a s 13 j = if j = N then c else S 13 j := by
  unfold adds; simp only [zu_eq, Nat.reduceEqDiff, true_and, false_and, if_false]
theorem ad_14 (S : zS) (N : Nat) (w c t p a s : Int) (j : Nat) : adds S N w c t p a s 14 j = if j = N then 119 else S 14 j := by
  unfold adds; simp only [zu_eq, Nat.reduceEqDiff, true_and, false_and, if_false]
theorem ad_15 (S : zS) (N : Nat) (w c t p a s : Int) (j : Nat) : adds S N w c t p a s 15 j = if j = N then w else S 15 j := by
  unfold adds; simp only [zu_eq, Nat.reduceEqDiff, true_and, false_and, if_false]
theorem ad_16 (S : zS) (N : Nat) (w c t p a s : Int) (j : Nat) : adds S N w c t p a s 16 j = if j = N then p else S 16 j := by
  unfold adds; simp only [zu_eq, Nat.reduceEqDiff, true_and, false_and, if_false]
theorem ad_17 (S : zS) (N : Nat) (w c t p a s : Int) (j : Nat) : adds S N w c t p a s 17 j = if j = N then t else S 17 j := by
  unfold adds; simp only [zu_eq, Nat.reduceEqDiff, true_and, false_and, if_false]
theorem ad_18 (S : zS) (N : Nat) (w c t p a s : Int) (j : Nat) : adds S N w c t p a s 18 j = if j = N then a else S 18 j := by
  unfold adds; simp only [zu_eq, Nat.reduceEqDiff, true_and, false_and, if_false]
theorem ad_19 (S : zS) (N : Nat) (w c t p a s : Int) (j : Nat) : adds S N w c t p a s 19 j = if j = N then a else S 19 j := by
  unfold adds; simp only [zu_eq, Nat.reduceEqDiff, true_and, false_and, if_false]
theorem ad_21 (S : zS) (N : Nat) (w c t p a s : Int) (j : Nat) : adds S N w c t p a s 21 j = if j = N then s else S 21 j := by
  unfold adds; simp only [zu_eq, Nat.reduceEqDiff, true_and, false_and, if_false]
theorem ad_12 (S : zS) (N : Nat) (w c t p a s : Int) (j : Nat) : adds S N w c t p a s 12 j = if j = 0 then ((N + 1 : Nat) : Int) else S 12 j := by
  unfold adds; simp only [zu_eq, Nat.reduceEqDiff, true_and, false_and, if_false]
theorem ad_20 (S : zS) (N : Nat) (w c t p a s : Int) (j : Nat) : adds S N w c t p a s 20 j = S 20 j := by
  unfold adds; simp only [zu_eq, Nat.reduceEqDiff, true_and, false_and, if_false]
theorem ad_22 (S : zS) (N : Nat) (w c t p a s : Int) (j : Nat) : adds S N w c t p a s 22 j = S 22 j := by
  unfold adds; simp only [zu_eq, Nat.reduceEqDiff, true_and, false_and, if_false]
theorem ad_23 (S : zS) (N : Nat) (w c t p a s : Int) (j : Nat) : adds S N w c t p a s 23 j = S 23 j := by
  unfold adds; simp only [zu_eq, Nat.reduceEqDiff, true_and, false_and, if_false]
theorem ad_28 (S : zS) (N : Nat) (w c t p a s : Int) (j : Nat) : adds S N w c t p a s 28 j = S 28 j := by
  unfold adds; simp only [zu_eq, Nat.reduceEqDiff, true_and, false_and, if_false]
/-- a new order -/
theorem adds_J {S : zS} {N : Nat} {b w c t p a s : Int} (h : Jnv S N b) (hz : zI S N) (hN : N ≤ 900) (hw : 0 ≤ w ∧ w ≤ 5) (hc : c = 98 ∨ c = 115) (ht : 0 ≤ t ∧ t ≤ 300) (hp : pv p) (ha : 1 ≤ a ∧ a ≤ 99) (hs : 1 ≤ s ∧ s ≤ 99) (hf : many S N 97 + many S N 119 ≤ 59) : Jnv (adds S N w c t p a s) (N + 1) b ∧ zI (adds S N w c t p a s) (N + 1) := by
  obtain ⟨⟨h1, h2, h3, h5⟩, h4, h7⟩ := h
  have hl : live S N ≤ many S N 97 + many S N 119 := by
    have : ∀ n, n ≤ N → live S n ≤ many S n 97 + many S n 119 := by
      intro n
      induction n with
      | zero => intro _; exact Int.le_refl 0
      | succ n ih =>
        intro hn
        have q := ih (by omega)
        have z := h7 n (by omega)
        show live S n + bi (S 14 n = 97 ∨ S 14 n = 119 ∨ S 14 n = 105) ≤ many S n 97 + bi (S 14 n = 97) + (many S n 119 + bi (S 14 n = 119))
        unfold bi
        (repeat' split) <;> omega
    exact this N (Nat.le_refl _)
  refine ⟨⟨⟨?_, fun j hj => ?_, ?_, ?_⟩, ?_, ?_⟩, fun j hj => ?_⟩
  · have e : ∀ j, j ≠ 0 → adds S N w c t p a s 12 j = S 12 j := fun j hj => by rw [ad_12, if_neg hj]
    have e0 : adds S N w c t p a s 12 0 = ((N + 1 : Nat) : Int) := by rw [ad_12, if_pos rfl]
    unfold gI at *
    rw [e0, e 12 (by omega), e 13 (by omega), e 18 (by omega), e 21 (by omega), e 22 (by omega), e 23 (by omega), ad_28, ad_28]
    omega
  · unfold oI at *
    rw [ad_13, ad_14, ad_15, ad_16, ad_17, ad_18, ad_19, ad_20, ad_21, ad_22, ad_23, ad_12, if_neg (c := 12 = 0) (by omega)]
    by_cases e : j = N
    · have := hz N (Nat.le_refl _)
      subst e
      simp only [if_true]
      exact ⟨hc, hw, hp, ht, ha, by omega, hs, by omega, by simp, fun _ => ha.1, fun q => absurd q (by decide)⟩
    · simp only [e, if_false]
      exact h2 j (by omega)
  · intro i j hi hj q1 q2 q3
    rw [ad_14] at q1 q2
    rw [ad_23, ad_23] at q3
    split at q1
    · omega
    · split at q2
      · omega
      · exact h3 i j (by omega) (by omega) q1 q2 q3
  · show live _ N + bi _ ≤ 60
    have e1 : live (adds S N w c t p a s) N = live S N := sm_congr (fun j hj => by rw [ad_14, if_neg (by omega)])
    have e2 := bi_le (adds S N w c t p a s 14 N = 97 ∨ adds S N w c t p a s 14 N = 119 ∨ adds S N w c t p a s 14 N = 105)
    omega
  · intro j hj q
    rw [ad_14] at q
    split at q
    · omega
    · rename_i e
      rw [ad_22, ad_21, ad_19, if_neg e, if_neg e]
      exact h4 j (by omega) q
  · intro j hj q
    rw [ad_14] at q
    split at q
    · omega
    · exact h7 j (by omega) q
  · rw [ad_20, ad_22]
    exact hz j (by omega)
