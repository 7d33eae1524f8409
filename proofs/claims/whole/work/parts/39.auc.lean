/-! ===== an auction's trades ===== -/
def auA (S : zS) (N : Nat) (left : Int) : Int := min left (min (S 19 (fst S 98 N).toNat) (S 19 (fst S 115 N).toNat))
def auS (S : zS) (N : Nat) (p left : Int) : zS := trd S (fst S 98 N).toNat (fst S 115 N).toNat p (auA S N left)
def auLoop (N : Nat) (p : Int) : Nat → Int → zS → zS
  | 0, _, S => S
  | f + 1, left, S => if 0 < left then auLoop N p f (left - auA S N left) (auS S N p left) else S
/-- in an auction: the slices are not looked at -/
def Av (S : zS) (N : Nat) (b : Int) : Prop := Inv S N b ∧ ∀ j, j < N → S 14 j ≠ 105
theorem want_pos {S : zS} {N : Nat} {c p : Int} (h : want S N c p ≠ 0) : ∃ j, j < N ∧ wantP S j c p := by
  induction N with
  | zero => exact absurd rfl h
  | succ n ih =>
    rw [want_suc] at h
    by_cases e : wantP S n c p
    · exact ⟨n, by omega, e⟩
    · rw [if_neg e, Int.add_zero] at h
      obtain ⟨j, hj, q⟩ := ih h
      exact ⟨j, by omega, q⟩
/-- the first order of a side is among those that trade at a price if any are -/
theorem want_first {S : zS} {N : Nat} {c p : Int} (h : want S N c p ≠ 0) : ∃ o : Nat, fst S c N = o ∧ o < N ∧ act S c o ∧ wantP S o c p := by
  obtain ⟨j, hj, q⟩ := want_pos h
  rcases Int.lt_or_le (fst S c N) 0 with z | z
  · exact absurd ⟨q.1, q.2.1⟩ (fst_neg z j hj)
  · obtain ⟨o, ho⟩ := Int.eq_ofNat_of_zero_le z
    have f := fst_pos ho
    refine ⟨o, ho, f.1, f.2.1, f.2.1.1, f.2.1.2, ?_⟩
    have := f.2.2 j hj ⟨q.1, q.2.1⟩
    have q3 := q.2.2
    omega
theorem au_want {S : zS} {N k o : Nat} (hne : k ≠ o) (hk : k < N) (ho : o < N) {c p a q : Int} (h1 : wantP S k c p) (h2 : S 13 o ≠ c) (ha : a ≤ S 19 k) (ha2 : a ≤ S 19 o) : want (trd S k o q a) N c p = want S N c p - a ∧ want (trd S o k q a) N c p = want S N c p - a := by
  have key : ∀ T : zS, (∀ j, T 14 j = if j = k ∧ S 19 k - a = 0 then 102 else if j = o ∧ S 19 o - a = 0 then 102 else S 14 j) → (∀ j, T 19 j = if j = k then S 19 k - a else if j = o then S 19 o - a else S 19 j) → (∀ j, T 13 j = S 13 j) → (∀ j, T 16 j = S 16 j) → want T N c p = want S N c p - a := by
    intro T e14 e19 e13 e16
    have := sm_one (f := fun j => if wantP T j c p then T 19 j else 0) (g := fun j => if wantP S j c p then S 19 j else 0) (n := N) (o := k) hk (fun j hj hjk => by
      simp only [wantP, e14, e19, e13, e16, hjk, false_and, if_false]
      by_cases e : j = o
      · subst e
        rw [if_neg (fun z => h2 z.2.1), if_neg (fun z => h2 z.2.1)]
      · simp only [e, false_and, if_false])
    have z2 : (if wantP S k c p then S 19 k else 0) = S 19 k := if_pos h1
    have z1 : (if wantP T k c p then T 19 k else 0) = S 19 k - a := by
      by_cases e : S 19 k - a = 0
      · rw [if_neg (fun z => by have := z.1; rw [e14, if_pos ⟨rfl, e⟩] at this; omega), e]
      · rw [if_pos ⟨by rw [e14, if_neg (fun z => e z.2), if_neg (fun z => hne z.1)]; exact h1.1, by rw [e13]; exact h1.2.1, by rw [e16]; exact h1.2.2⟩, e19, if_pos rfl]
    unfold want
    simp only [z1, z2] at this
    omega
  refine ⟨key _ (tr_14 _ hne _ _) (tr_19 _ hne _ _) (tr_13 _ _ _ _ _) (tr_16 _ _ _ _ _), key _ (fun j => ?_) (fun j => ?_) (tr_13 _ _ _ _ _) (tr_16 _ _ _ _ _)⟩
  · rw [tr_14 _ (Ne.symm hne)]
    (repeat' split) <;> first | rfl | omega
  · rw [tr_19 _ (Ne.symm hne)]
    (repeat' split) <;> first | rfl | omega
theorem au_spec {S : zS} {N : Nat} {b p left : Int} (h : Av S N b) (hv : vol S N p = left) (h0 : 0 < left) : ∃ k o : Nat, fst S 98 N = k ∧ fst S 115 N = o ∧ k < N ∧ o < N ∧ k ≠ o ∧ act S 98 k ∧ act S 115 o ∧ wantP S k 98 p ∧ wantP S o 115 p ∧ 1 ≤ S 19 k ∧ S 19 k ≤ 99 ∧ 1 ≤ S 19 o ∧ S 19 o ≤ 99 := by
  unfold vol at hv
  obtain ⟨k, ek, hk, ak, wk⟩ := want_first (S := S) (N := N) (c := 98) (p := p) (by omega)
  obtain ⟨o, eo, ho, ao, wo⟩ := want_first (S := S) (N := N) (c := 115) (p := p) (by omega)
  have qk := h.1.2.1 k hk
  have qo := h.1.2.1 o ho
  have k1 := qk.2.2.2.2.2.2.2.2.2.1 (Or.inl ak.1)
  have o1 := qo.2.2.2.2.2.2.2.2.2.1 (Or.inl ao.1)
  have k2 := qk.2.2.2.2.2.1
  have o2 := qo.2.2.2.2.2.1
  exact ⟨k, o, ek, eo, hk, ho, fun e => by have := ak.2; rw [e, ao.2] at this; omega, ak, ao, wk, wo, k1, by omega, o1, by omega⟩
theorem au_step {S : zS} {N : Nat} {b p left : Int} (h : Av S N b) (hp : 1 ≤ p ∧ p ≤ 300) (hv : vol S N p = left) (h0 : 0 < left) : Av (auS S N p left) N (b + 1) ∧ vol (auS S N p left) N p = left - auA S N left ∧ 0 ≤ left - auA S N left ∧ (left - auA S N left = 0 ∨ live (auS S N p left) N + 1 ≤ live S N) := by
  obtain ⟨k, o, ek, eo, hk, ho, hne, ak, ao, wk, wo, k1, k2, o1, o2⟩ := au_spec h hv h0
  have ea : auA S N left = min left (min (S 19 k) (S 19 o)) := by unfold auA; rw [ek, eo, Int.toNat_natCast, Int.toNat_natCast]
  unfold auS
  rw [ek, eo, Int.toNat_natCast, Int.toNat_natCast]
  generalize auA S N left = a at *
  have ha : 1 ≤ a ∧ a ≤ left ∧ a ≤ S 19 k ∧ a ≤ S 19 o ∧ a ≤ 99 := by omega
  have hx : a = left ∨ a = S 19 k ∨ a = S 19 o := by omega
  clear ea
  obtain ⟨⟨g1, g2, g3, g4⟩, g5⟩ := h
  have st : ∀ j, trd S k o p a 14 j ≠ 102 → trd S k o p a 14 j = S 14 j := fun j z => by
    rw [tr_14 _ hne] at z ⊢
    split at z
    · exact absurd rfl z
    · rename_i q
      rw [if_neg q]
      split at z
      · exact absurd rfl z
      · rename_i q2
        rw [if_neg q2]
  have lv : ∀ j, j < N → (trd S k o p a 14 j = 97 ∨ trd S k o p a 14 j = 119 ∨ trd S k o p a 14 j = 105) → (S 14 j = 97 ∨ S 14 j = 119 ∨ S 14 j = 105) := fun j _ z => by rw [st j (by omega)] at z; exact z
  have w1 := (au_want (S := S) (N := N) hne hk ho (q := p) wk (by rw [ao.2]; decide) ha.2.2.1 ha.2.2.2.1).1
  have w2 := (au_want (S := S) (N := N) (Ne.symm hne) ho hk (q := p) wo (by rw [ak.2]; decide) ha.2.2.2.1 ha.2.2.1).2
  refine ⟨⟨⟨trd_g g1 hp ⟨ha.1, ha.2.2.2.2⟩, fun j hj => trd_oI hne ⟨ha.1, ha.2.2.1, ha.2.2.2.1⟩ (g2 j hj) ?_ ?_, ?_, ?_⟩, ?_⟩, ?_, by omega, ?_⟩
  · exact fun z => ⟨fun e => by rw [e, ak.1] at z; omega, fun e => by rw [e, ao.1] at z; omega⟩
  · exact fun z => ⟨fun e => by rw [e, ak.1] at z; omega, fun e => by rw [e, ao.1] at z; omega⟩
  · intro i j hi hj q1 q2
    rw [tr_23, tr_23]
    rw [st _ (by omega)] at q1 q2
    exact g3 i j hi hj q1 q2
  · have := live_mono lv
    omega
  · intro j hj q
    rw [st _ (by omega)] at q
    exact g5 j hj q
  · unfold vol at hv ⊢
    rw [w1, w2]
    omega
  · rcases hx with e | e | e
    · exact Or.inl (by omega)
    · refine Or.inr (sm_lt (k := k) hk (fun j hj => bi_mono (lv j hj)) ?_)
      have z : trd S k o p a 14 k = 102 := by rw [tr_14 _ hne, if_pos ⟨rfl, by omega⟩]
      rw [bi_f (by omega), bi_t (Or.inl ak.1)]
      decide
    · refine Or.inr (sm_lt (k := o) ho (fun j hj => bi_mono (lv j hj)) ?_)
      have z : trd S k o p a 14 o = 102 := by rw [tr_14 _ hne, if_neg (fun q => hne q.1.symm), if_pos ⟨rfl, by omega⟩]
      rw [bi_f (by omega), bi_t (Or.inl ao.1)]
      decide
theorem au_live {S : zS} {N : Nat} {b p left : Int} (h : Av S N b) (hv : vol S N p = left) (h0 : 0 < left) : 2 ≤ live S N := by
  obtain ⟨k, o, ek, eo, hk, ho, hne, ak, ao, _⟩ := au_spec h hv h0
  have h1 := sm_one (f := fun j => bi (S 14 j = 97 ∨ S 14 j = 119 ∨ S 14 j = 105)) (g := fun j => if j = k then 0 else bi (S 14 j = 97 ∨ S 14 j = 119 ∨ S 14 j = 105)) (n := N) (o := k) hk (fun j hj hne => by simp only [if_neg hne])
  have h2 := sm_ge (f := fun j => if j = k then 0 else bi (S 14 j = 97 ∨ S 14 j = 119 ∨ S 14 j = 105)) (fun j => by split <;> first | exact Int.le_refl 0 | exact (bi_le _).1) ho
  have z1 : bi (S 14 k = 97 ∨ S 14 k = 119 ∨ S 14 k = 105) = 1 := bi_t (Or.inl ak.1)
  have z2 : bi (S 14 o = 97 ∨ S 14 o = 119 ∨ S 14 o = 105) = 1 := bi_t (Or.inl ao.1)
  simp only [if_neg (Ne.symm hne), if_true, z1, z2] at h1 h2
  unfold live
  omega
theorem auLoop_Av {N : Nat} {p : Int} (hp : 1 ≤ p ∧ p ≤ 300) (f : Nat) : ∀ {S : zS} {b left : Int}, Av S N b → vol S N p = left → Av (auLoop N p f left S) N (b + f) := by
  induction f with
  | zero => intro S b left h _; rw [show b + ((0 : Nat) : Int) = b by omega]; exact h
  | succ f ih =>
    intro S b left h hv
    show Av (if 0 < left then auLoop N p f (left - auA S N left) (auS S N p left) else S) N _
    split
    · rename_i h0
      have h1 := au_step h hp hv h0
      have h2 := ih h1.1 h1.2.1
      rw [show b + ((f + 1 : Nat) : Int) = b + 1 + f by omega]
      exact h2
    · exact ⟨⟨gI_mono h.1.1 (by omega), h.1.2⟩, h.2⟩
/-- the slices shown anew at the end of an auction, of the first n orders -/
def shA (S : zS) : Nat → zS
  | 0 => S
  | n + 1 => if S 14 n = 97 then shows (shA S n) n else shA S n
theorem shA_o (S : zS) (n : Nat) {b : Nat} (h : b ≠ 22) (j : Nat) : shA S n b j = S b j := by
  induction n with
  | zero => rfl
  | succ n ih =>
    show (if S 14 n = 97 then shows (shA S n) n else shA S n) b j = _
    split
    · unfold shows; rw [z22o _ _ _ h]; exact ih
    · exact ih
theorem shA_22 (S : zS) (n j : Nat) : shA S n 22 j = if j < n ∧ S 14 j = 97 then min (S 21 j) (S 19 j) else S 22 j := by
  induction n with
  | zero => rw [if_neg (fun q => Nat.not_lt_zero _ q.1)]; rfl
  | succ n ih =>
    show (if S 14 n = 97 then shows (shA S n) n else shA S n) 22 j = _
    split
    · unfold shows
      rw [z22, shA_o _ _ (by omega), shA_o _ _ (by omega), ih]
      by_cases e : j = n
      · subst e; rw [if_pos rfl, if_pos ⟨by omega, by assumption⟩]
      · rw [if_neg e]
        by_cases e2 : j < n ∧ S 14 j = 97
        · rw [if_pos e2, if_pos ⟨by omega, e2.2⟩]
        · rw [if_neg e2, if_neg (fun q => e2 ⟨by omega, q.2⟩)]
    · rw [ih]
      by_cases e2 : j < n ∧ S 14 j = 97
      · rw [if_pos e2, if_pos ⟨by omega, e2.2⟩]
      · rw [if_neg e2, if_neg (fun q => e2 ⟨by
          have : j ≠ n := fun e => by subst e; exact absurd q.2 (by assumption)
          omega, q.2⟩)]
/-- after the auction's trades: slices shown, the floor open -/
def auEnd (S : zS) (N : Nat) : zS := zu (shA S N) 12 23 0
theorem ae_12 (S : zS) (N j : Nat) : auEnd S N 12 j = if j = 23 then 0 else S 12 j := by
  unfold auEnd; rw [zu_eq, shA_o _ _ (by omega)]; simp only [true_and]
theorem ae_22 (S : zS) (N j : Nat) : auEnd S N 22 j = if j < N ∧ S 14 j = 97 then min (S 21 j) (S 19 j) else S 22 j := by
  unfold auEnd; rw [zu_ne _ _ (by omega), shA_22]
theorem ae_o (S : zS) (N : Nat) {b : Nat} (h : b ≠ 12 ∧ b ≠ 22) (j : Nat) : auEnd S N b j = S b j := by
  unfold auEnd; rw [zu_ne _ _ (by omega), shA_o _ _ (by omega)]
theorem auEnd_J {S : zS} {N : Nat} {b : Int} (h : Av S N b) : Jnv (auEnd S N) N b := by
  obtain ⟨⟨h1, h2, h3, h4⟩, h5⟩ := h
  have e14 : ∀ j, auEnd S N 14 j = S 14 j := fun j => ae_o S N (by omega) j
  refine ⟨⟨?_, fun j hj => ?_, ?_, ?_⟩, fun j hj q => ?_, fun j hj => ?_⟩
  · unfold gI at *
    have e : ∀ j, auEnd S N 28 j = S 28 j := fun j => ae_o S N (by omega) j
    have f : ∀ j, j ≠ 23 → auEnd S N 12 j = S 12 j := fun j hj => by rw [ae_12, if_neg hj]
    have g : auEnd S N 12 23 = 0 := by rw [ae_12, if_pos rfl]
    rw [e, e, g, f 0 (by omega), f 12 (by omega), f 13 (by omega), f 18 (by omega), f 21 (by omega), f 22 (by omega)]
    obtain ⟨a1, a2, a3, a4, a5, a6, a7, a8, a9, a10, a11, a12, a13, a14⟩ := h1
    exact ⟨a1, a2, a3, a4, a5, a6, a7, a8, a9, a10, a11, a12, Or.inl rfl, a14⟩
  · have := h2 j hj
    unfold oI at *
    rw [e14, ae_22, ae_12, ae_o S N (b := 13) (by omega), ae_o S N (b := 15) (by omega), ae_o S N (b := 16) (by omega), ae_o S N (b := 17) (by omega), ae_o S N (b := 18) (by omega), ae_o S N (b := 19) (by omega), ae_o S N (b := 20) (by omega), ae_o S N (b := 21) (by omega), ae_o S N (b := 23) (by omega), if_neg (c := (12 : Nat) = 23) (by omega)]
    obtain ⟨a1, a2, a3, a4, a5, a6, a7, a8, a9⟩ := this
    refine ⟨a1, a2, a3, a4, a5, a6, a7, ?_, a9⟩
    clear a1 a2 a3 a4 a5 a9 h1 h2 h3 h4 h5
    split <;> omega
  · intro i j hi hj q1 q2 q3
    rw [e14] at q1 q2
    rw [ae_o S N (by omega), ae_o S N (by omega)] at q3
    exact h3 i j hi hj q1 q2 q3
  · have := live_mono (S := S) (S' := auEnd S N) (N := N) (fun j hj q => by rw [e14] at q; exact q)
    omega
  · rw [e14] at q
    have := h2 j hj
    unfold oI at this
    rw [ae_22, if_pos ⟨hj, q⟩, ae_o S N (by omega), ae_o S N (by omega)]
    have h21 := this.2.2.2.2.2.2.1
    have h19 := this.2.2.2.2.2.2.2.2.2.1 (Or.inl q)
    omega
  · rw [e14]; exact h5 j hj
/-- an auction by the reference -/
def tAuc (S : zS) : Int := if S 12 23 = 0 then 1 else 0
def aucV (S : zS) (N : Nat) : Int := if meet S N = 0 then 0 else vol S N (meet S N)
def aucS (S : zS) (N : Nat) : zS := auEnd (auLoop N (meet S N) 60 (aucV S N) S) N
def sAuc (S : zS) (N : Nat) : zS := sT (tAuc S) S (soLoop N 60 (aucS (zu S 12 24 0) N))
