/-! ===== an auction's trades ===== -/
def auA (S : zS) (N : Nat) (left : Int) : Int := min left (min (S 19 (fst S 98 N).toNat) (S 19 (fst S 115 N).toNat))
def auS (S : zS) (N : Nat) (p left : Int) : zS := trd S (fst S 98 N).toNat (fst S 115 N).toNat p (auA S N left)
def auLoop (N : Nat) (p : Int) : Nat → Int → zS → zS
  | 0, _, S => S
  | f + 1, left, S => if 0 < left then auLoop N p f (left - auA S N left) (auS S N p left) else S
/-- in an auction: the slices are not looked at -/
def Av (S : zS) (N : Nat) (b : Int) : Prop := Inv S N b ∧ ∀ j, j < N → S 14 j ≠ 105
theorem want_pos {S : zS} {N : Nat} {c p : Int} (h : want S N c p ≠ 0) : ∃ j, j < N ∧ wantP S j c p := by
  induction N with
  | zero => exact absurd rfl h
  | succ n ih =>
    rw [want_suc] at h
    by_cases e : wantP S n c p
    · exact ⟨n, by omega, e⟩
    · rw [if_neg e, Int.add_zero] at h
      obtain ⟨j, hj, q⟩ := ih h
      exact ⟨j, by omega, q⟩
/-- the first order of a side is among those that trade at a price if any are -/
theorem want_first {S : zS} {N : Nat} {c p : Int} (h : want S N c p ≠ 0) : ∃ o : Nat, fst S c N = o ∧ o < N ∧ act S c o ∧ wantP S o c p := by
  obtain ⟨j, hj, q⟩ := want_pos h
  rcases Int.lt_or_le (fst S c N) 0 with z | z
  · exact absurd ⟨q.1, q.2.1⟩ (fst_neg z j hj)
  · obtain ⟨o, ho⟩ := Int.eq_ofNat_of_zero_le z
    have f := fst_pos ho
    refine ⟨o, ho, f.1, f.2.1, f.2.1.1, f.2.1.2, ?_⟩
    have := f.2.2 j hj ⟨q.1, q.2.1⟩
    have q3 := q.2.2
    omega
