/-! ===== stops are set off ===== -/
/-- between calls -/
def Jnv (S : zS) (N : Nat) (b : Int) : Prop := Inv S N b ∧ slI S N ∧ (∀ j, j < N → S 14 j ≠ 105)
theorem sm_lt {f g : Nat → Int} {n k : Nat} (hk : k < n) (h : ∀ j, j < n → f j ≤ g j) (h2 : f k + 1 ≤ g k) : sm f n + 1 ≤ sm g n := by
  have h1 := sm_one (f := fun j => if j = k then f j + 1 else f j) (g := f) (n := n) (o := k) hk (fun j hj hne => by simp only [if_neg hne])
  have h3 := sm_mono (f := fun j => if j = k then f j + 1 else f j) (g := g) (n := n) (fun j hj => by
    have := h j hj
    by_cases e : j = k
    · simp only [if_pos e]; rw [e]; exact h2
    · simp only [if_neg e]; exact this)
  simp only [if_true] at h1
  omega
/-- an order that waits comes in -/
theorem start_cI {S : zS} {N k : Nat} {b : Int} (h : Jnv S N b) (hk : k < N) (hw : S 14 k = 119) : cI (zu S 14 k 105) N k b ∧ vr (zu S 14 k 105) N k ≤ 159 := by
  obtain ⟨⟨h1, h2, h3, h5⟩, h4, h7⟩ := h
  have hs : ∀ j, zu S 14 k 105 14 j = if j = k then 105 else S 14 j := z14 S k 105
  have hl : live (zu S 14 k 105) N = live S N := sm_congr (fun j hj => by
    rw [hs]
    by_cases e : j = k
    · rw [if_pos e, e, bi_t (by omega), bi_t (by omega)]
    · rw [if_neg e])
  refine ⟨⟨h1, fun j hj => ?_, ?_, ?_, by omega, hk, ?_⟩, ?_⟩
  · have q := h2 j hj
    unfold oI at *
    rw [hs, z14o _ _ _ (b := 13) (by omega), z14o _ _ _ (b := 15) (by omega), z14o _ _ _ (b := 16) (by omega), z14o _ _ _ (b := 17) (by omega), z14o _ _ _ (b := 18) (by omega), z14o _ _ _ (b := 19) (by omega), z14o _ _ _ (b := 20) (by omega), z14o _ _ _ (b := 21) (by omega), z14o _ _ _ (b := 22) (by omega), z14o _ _ _ (b := 23) (by omega), z14o _ _ _ (b := 12) (by omega)]
    obtain ⟨a1, a2, a3, a4, a5, a6, a7, a8, a9⟩ := q
    refine ⟨a1, a2, a3, a4, a5, a6, a7, a8, ?_⟩
    clear a1 a2 a3 a4 a5 a6 a7 a8
    by_cases e : j = k
    · rw [if_pos e]; subst e; omega
    · rw [if_neg e]; exact a9
  · intro i j hi hj q1 q2 q3
    rw [hs] at q1 q2
    split at q1
    · omega
    · split at q2
      · omega
      · exact h3 i j hi hj q1 q2 q3
  · intro j hj q
    rw [hs] at q
    split at q
    · omega
    · exact h4 j hj q
  · intro j hj q
    rw [hs] at q
    split at q
    · assumption
    · exact absurd q (h7 j hj)
  · have q := (h2 k hk).2.2.2.2.2.1
    have h8 := sm_lt (f := fun j => bi (act (zu S 14 k 105) (opp (zu S 14 k 105 13 k)) j)) (g := fun j => bi (zu S 14 k 105 14 j = 97 ∨ zu S 14 k 105 14 j = 119 ∨ zu S 14 k 105 14 j = 105)) (n := N) (k := k) hk (fun j hj => bi_mono (fun z => Or.inl z.1)) (by
      have e0 : zu S 14 k 105 14 k = 105 := by rw [hs, if_pos rfl]
      have z1 : bi (act (zu S 14 k 105) (opp (zu S 14 k 105 13 k)) k) = 0 := bi_f (fun z => by have := z.1; omega)
      have z2 : bi (zu S 14 k 105 14 k = 97 ∨ zu S 14 k 105 14 k = 119 ∨ zu S 14 k 105 14 k = 105) = 1 := bi_t (Or.inr (Or.inr e0))
      exact (show _ + 1 ≤ _ by rw [z1, z2]; decide))
    have h9 : vr (zu S 14 k 105) N k = S 19 k + sm (fun j => bi (act (zu S 14 k 105) (opp (zu S 14 k 105 13 k)) j)) N := rfl
    have h10 : live (zu S 14 k 105) N = sm (fun j => bi (zu S 14 k 105 14 j = 97 ∨ zu S 14 k 105 14 j = 119 ∨ zu S 14 k 105 14 j = 105)) N := rfl
    omega
