/-! ===== rows of orders to come ===== -/
def zI (S : zS) (N : Nat) : Prop := ∀ j, N ≤ j → S 20 j = 0 ∧ S 22 j = 0
theorem behind_z {S : zS} {N k : Nat} (h : zI S N) (hk : k < N) : zI (behind S k) N := fun j hj => by
  rw [bh_20, bh_22, if_neg (by omega)]
  exact h j hj
theorem trd_z {S : zS} {N k o : Nat} (h : zI S N) (hne : k ≠ o) (hk : k < N) (ho : o < N) (p a : Int) : zI (trd S k o p a) N := fun j hj => by
  rw [tr_20 _ hne, tr_22, if_neg (by omega), if_neg (by omega)]
  exact h j hj
theorem meet_z {S : zS} {N k o : Nat} (h : zI S N) (hne : k ≠ o) (hk : k < N) (ho : o < N) : zI (cmMeet S k o) N := by
  have h1 : ∀ q v, zI (zu S 14 q v) N := fun q v j hj => by
    rw [z14o _ _ _ (by omega), z14o _ _ _ (by omega)]
    exact h j hj
  unfold cmMeet
  split
  · split
    · exact h1 _ _
    · exact h1 _ _
  · split
    · have h2 : zI (cmTrade S k o) N := trd_z (fun j hj => by
        rw [z22o _ _ _ (by omega), z22, if_neg (by omega)]
        exact h j hj) hne hk ho _ _
      unfold cmAfter
      split
      · exact behind_z h2 ho
      · exact h2
    · exact h
theorem loop_z {N k : Nat} (f : Nat) : ∀ {S : zS} {b : Int}, cI S N k b → zI S N → zI (cmLoop N k f S) N := by
  induction f with
  | zero => intro S b _ h; exact h
  | succ f ih =>
    intro S b h hz
    show zI (if cmGo S N k then cmLoop N k f (cmMeet S k (oth S N k).toNat) else S) N
    split
    · rename_i hg
      have h1 := (meet_cI h hg).1
      obtain ⟨o, eo, ho, ha, hne, _⟩ := oth_spec h hg
      rw [eo, Int.toNat_natCast] at h1 ⊢
      exact ih h1 (meet_z hz (Ne.symm hne) h.2.2.2.2.2.1 ho)
    · exact hz
theorem comes_z {S : zS} {N k : Nat} {b : Int} (h : cI (zu S 14 k 105) N k b) (hz : zI S N) : zI (comes S N k) N := by
  have h1 : zI (cmLoop N k 159 (zu S 14 k 105)) N := loop_z 159 h (fun j hj => by
    rw [z14o _ _ _ (by omega), z14o _ _ _ (by omega)]
    exact hz j hj)
  unfold comes cmEnd
  generalize cmLoop N k 159 (zu S 14 k 105) = T at *
  split
  · exact behind_z (fun j hj => by rw [z14o _ _ _ (by omega), z14o _ _ _ (by omega)]; exact h1 j hj) h.2.2.2.2.2.1
  · exact h1
theorem soLoop_z {N : Nat} (f : Nat) : ∀ {S : zS} {b : Int}, Jnv S N b → zI S N → zI (soLoop N f S) N := by
  induction f with
  | zero => intro S b _ h; exact h
  | succ f ih =>
    intro S b h hz
    have hf := foF_s S N
    show zI (if S 12 23 = 0 then (match foF S N with | some k => soLoop N f (soStep S N k) | none => S) else S) N
    split
    · cases hq : foF S N with
      | none => exact hz
      | some k =>
        rw [hq] at hf
        have h1 := start_cI (z21_J h hf.1 hf.2.1.1) hf.1 (show zu S 21 k (S 19 k) 14 k = 119 by rw [z21o _ _ _ (by omega)]; exact hf.2.1.1)
        exact ih (soStep_J h hf.1 hf.2.1.1).1 (comes_z h1.1 (fun j hj => by rw [z21o _ _ _ (by omega), z21o _ _ _ (by omega)]; exact hz j hj))
    · exact hz
