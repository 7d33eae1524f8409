/-! ===== the state's invariant; what an order that comes in does ===== -/
def gI (S : zS) (N : Nat) (b : Int) : Prop := S 12 0 = N ∧ N ≤ 1000 ∧ 0 ≤ S 12 12 ∧ S 12 12 ≤ b ∧ 0 ≤ S 12 13 ∧ S 12 13 ≤ b ∧ 0 ≤ S 12 18 ∧ S 12 18 ≤ 300 ∧ (S 12 13 = 0 ↔ S 12 18 = 0) ∧ 0 ≤ S 12 21 ∧ S 12 21 ≤ 50 ∧ (S 12 22 = 114 ∨ S 12 22 = 105) ∧ (S 12 23 = 0 ∨ S 12 23 = 1) ∧ S 12 13 ≤ S 28 19 ∧ S 28 19 ≤ 100 * S 12 13 ∧ 0 ≤ S 28 20 ∧ S 28 20 ≤ 30000 * S 12 13
/-- an order's rows -/
def oI (S : zS) (k : Nat) : Prop := (S 13 k = 98 ∨ S 13 k = 115) ∧ (0 ≤ S 15 k ∧ S 15 k ≤ 5) ∧ pv (S 16 k) ∧ (0 ≤ S 17 k ∧ S 17 k ≤ 300) ∧ (1 ≤ S 18 k ∧ S 18 k ≤ 99) ∧ (0 ≤ S 19 k ∧ 0 ≤ S 20 k ∧ S 19 k + S 20 k ≤ 99) ∧ (1 ≤ S 21 k ∧ S 21 k ≤ 99) ∧ (0 ≤ S 22 k ∧ S 22 k ≤ 99) ∧ (S 14 k = 97 ∨ S 14 k = 119 ∨ S 14 k = 102 ∨ S 14 k = 99 ∨ S 14 k = 105) ∧ (S 14 k = 97 ∨ S 14 k = 119 ∨ S 14 k = 105 → 1 ≤ S 19 k) ∧ (S 14 k = 97 → 0 ≤ S 23 k ∧ S 23 k ≤ S 12 12)
/-- the stamps of the book differ -/
def stI (S : zS) (N : Nat) : Prop := ∀ j k, j < N → k < N → S 14 j = 97 → S 14 k = 97 → S 23 j = S 23 k → j = k
def slI (S : zS) (N : Nat) : Prop := ∀ k, k < N → slcP S k
def live (S : zS) (N : Nat) : Int := sm (fun k => bi (S 14 k = 97 ∨ S 14 k = 119 ∨ S 14 k = 105)) N
def Inv (S : zS) (N : Nat) (b : Int) : Prop := gI S N b ∧ (∀ k, k < N → oI S k) ∧ stI S N ∧ live S N ≤ 60
theorem sm_mono {f g : Nat → Int} {n : Nat} (h : ∀ k, k < n → f k ≤ g k) : sm f n ≤ sm g n := by
  induction n with
  | zero => exact Int.le_refl 0
  | succ n ih =>
    have h1 := ih (fun k hk => h k (by omega))
    have h2 := h n (by omega)
    show sm f n + f n ≤ sm g n + g n
    omega
theorem sm_congr {f g : Nat → Int} {n : Nat} (h : ∀ k, k < n → f k = g k) : sm f n = sm g n := by
  induction n with
  | zero => rfl
  | succ n ih =>
    have h1 := ih (fun k hk => h k (by omega))
    have h2 := h n (by omega)
    show sm f n + f n = sm g n + g n
    omega
/-- one summand changes -/
theorem sm_one {f g : Nat → Int} {n o : Nat} (ho : o < n) (h : ∀ k, k < n → k ≠ o → f k = g k) : sm f n = sm g n + f o - g o := by
  induction n with
  | zero => omega
  | succ n ih =>
    show sm f n + f n = sm g n + g n + f o - g o
    by_cases e : o = n
    · subst e
      have h1 := sm_congr (f := f) (g := g) (n := o) (fun k hk => h k (by omega) (by omega))
      omega
    · have h1 := ih (by omega) (fun k hk hne => h k (by omega) hne)
      have h2 := h n (by omega) (fun q => e q.symm)
      omega
theorem bi_mono {P Q : Prop} [Decidable P] [Decidable Q] (h : P → Q) : bi P ≤ bi Q := by
  unfold bi
  split
  · rename_i hp; rw [if_pos (h hp)]; exact Int.le_refl _
  · split <;> decide
/-- j stands before k on a side of the book -/
abbrev bef (S : zS) (c : Int) (j k : Nat) : Prop := ahd c (S 16 j) (S 16 k) ∨ (S 16 j = S 16 k ∧ S 23 j < S 23 k)
abbrev act (S : zS) (c : Int) (k : Nat) : Prop := S 14 k = 97 ∧ S 13 k = c
theorem fst_neg {S : zS} {c : Int} {N : Nat} (h : fst S c N < 0) : ∀ k, k < N → ¬ act S c k := by
  induction N with
  | zero => intro k hk; omega
  | succ n ih =>
    have hs : fst S c (n + 1) = if S 14 n = 97 ∧ S 13 n = c ∧ (fst S c n < 0 ∨ ahd c (S 16 n) (S 16 (fst S c n).toNat) ∨ (S 16 n = S 16 (fst S c n).toNat ∧ S 23 n < S 23 (fst S c n).toNat)) then (n : Int) else fst S c n := rfl
    rw [hs] at h
    split at h
    · omega
    · rename_i h2
      have h3 := ih h
      intro k hk hq
      rcases Nat.lt_or_ge k n with q | q
      · exact h3 k q hq
      · rw [show k = n by omega] at hq
        exact h2 ⟨hq.1, hq.2, Or.inl h⟩
theorem fst_pos {S : zS} {c : Int} {N o : Nat} (h : fst S c N = o) : o < N ∧ act S c o ∧ ∀ k, k < N → act S c k → ¬ bef S c k o := by
  induction N generalizing o with
  | zero => exact absurd h (by show ¬ ((-1 : Int) = o); omega)
  | succ n ih =>
    have hs : fst S c (n + 1) = if S 14 n = 97 ∧ S 13 n = c ∧ (fst S c n < 0 ∨ ahd c (S 16 n) (S 16 (fst S c n).toNat) ∨ (S 16 n = S 16 (fst S c n).toNat ∧ S 23 n < S 23 (fst S c n).toNat)) then (n : Int) else fst S c n := rfl
    have hl := fst_le S c n
    rw [hs] at h
    split at h
    · rename_i h2
      have e : o = n := by omega
      subst e
      refine ⟨by omega, ⟨h2.1, h2.2.1⟩, fun k hk ha hb => ?_⟩
      rcases Nat.lt_or_ge k o with q | q
      · rcases h2.2.2 with h3 | h3
        · exact fst_neg h3 k q ha
        · rcases Int.lt_or_le (fst S c o) 0 with q3 | q3
          · exact fst_neg q3 k q ha
          obtain ⟨p, hp⟩ := Int.eq_ofNat_of_zero_le q3
          have h4 := ih hp
          rw [hp, Int.toNat_natCast] at h3
          have h5 := h4.2.2 k q ha
          exact h5 (by omega)
      · rw [show k = o by omega] at hb
        omega
    · rename_i h2
      have h3 := ih h
      refine ⟨by omega, h3.2.1, fun k hk ha => ?_⟩
      rcases Nat.lt_or_ge k n with q | q
      · exact h3.2.2 k q ha
      · have e : k = n := by omega
        subst e
        intro hb
        rw [h, Int.toNat_natCast] at h2
        exact h2 ⟨ha.1, ha.2, Or.inr hb⟩
def opp (c : Int) : Int := if c = 98 then 115 else 98
/-- the order of the book that k meets next -/
def oth (S : zS) (N k : Nat) : Int := fst S (opp (S 13 k)) N
abbrev cmGo (S : zS) (N k : Nat) : Prop := S 14 k = 105 ∧ S 12 23 = 0 ∧ 0 ≤ oth S N k ∧ ¬ ahd (S 13 k) (S 16 (oth S N k).toNat) (S 16 k)
def cmTrade (S : zS) (k o : Nat) : zS := trd (zu S 22 o (S 22 o - min (S 19 k) (S 22 o))) k o (S 16 o) (min (S 19 k) (S 22 o))
def cmAfter (S : zS) (o : Nat) : zS := if S 14 o = 97 ∧ S 22 o = 0 then behind S o else S
def cmMeet (S : zS) (k o : Nat) : zS := if S 15 o = S 15 k then (if S 12 22 = 114 then zu S 14 o 99 else zu S 14 k 99) else if wit S (S 16 o) then cmAfter (cmTrade S k o) o else zu S 12 23 1
def cmLoop (N k : Nat) : Nat → zS → zS
  | 0, S => S
  | f + 1, S => if cmGo S N k then cmLoop N k f (cmMeet S k (oth S N k).toNat) else S
def cmEnd (S : zS) (k : Nat) : zS := if S 14 k = 105 then behind (zu S 14 k 97) k else S
def comes (S : zS) (N k : Nat) : zS := cmEnd (cmLoop N k 159 (zu S 14 k 105)) k
