/-! ===== what each call keeps ===== -/
theorem Jnv.mono {S : zS} {N : Nat} {b c : Int} (h : Jnv S N b) (hc : b ≤ c) : Jnv S N c := ⟨⟨gI_mono h.1.1 hc, h.1.2⟩, h.2⟩
theorem J_code {S : zS} {N : Nat} {b : Int} (h : Jnv S N b) (x : Int) : Jnv (zu S 12 24 x) N b := h
theorem z_code {S : zS} {N : Nat} (h : zI S N) (x : Int) : zI (zu S 12 24 x) N := h
theorem J_cancel {S : zS} {N : Nat} {b : Int} (h : Jnv S N b) (k : Nat) : Jnv (zu S 14 k 99) N b := by
  refine ⟨⟨h.1.1, fun j hj => z14_oI (h.1.2.1 j hj), fun i j hi hj q1 q2 q3 => ?_, ?_⟩, fun j hj q => ?_, fun j hj q => ?_⟩
  · rw [z14] at q1 q2
    rw [z14o _ _ _ (by omega), z14o _ _ _ (by omega)] at q3
    split at q1
    · omega
    · split at q2
      · omega
      · exact h.1.2.2.1 i j hi hj q1 q2 q3
  · have := live_mono (S := S) (S' := zu S 14 k 99) (N := N) (fun j hj q => by
      rw [z14] at q
      split at q
      · omega
      · exact q)
    have := h.1.2.2.2
    omega
  · rw [z14] at q
    split at q
    · omega
    · rw [z14o _ _ _ (by omega), z14o _ _ _ (by omega), z14o _ _ _ (by omega)]
      exact h.2.1 j hj q
  · rw [z14] at q
    split at q
    · omega
    · exact h.2.2 j hj q
theorem J_reduce {S : zS} {N : Nat} {b n : Int} (h : Jnv S N b) {k : Nat} (hn : 1 ≤ n ∧ n < S 19 k) : Jnv (zu (zu S 19 k n) 22 k (min (S 22 k) n)) N b := by
  have r : ∀ a, a ≠ 19 → a ≠ 22 → ∀ j, zu (zu S 19 k n) 22 k (min (S 22 k) n) a j = S a j := fun a h1 h2 j => by rw [zu_ne _ _ (by omega), zu_ne _ _ (by omega)]
  have r19 : ∀ j, zu (zu S 19 k n) 22 k (min (S 22 k) n) 19 j = if j = k then n else S 19 j := fun j => by rw [zu_ne _ _ (by omega), zu_eq]; simp only [true_and]
  have r22 : ∀ j, zu (zu S 19 k n) 22 k (min (S 22 k) n) 22 j = if j = k then min (S 22 k) n else S 22 j := fun j => by rw [z22, zu_ne _ _ (by omega)]
  refine ⟨⟨h.1.1, fun j hj => ?_, fun i j hi hj q1 q2 q3 => ?_, ?_⟩, fun j hj q => ?_, fun j hj q => ?_⟩
  · have ho := h.1.2.1 j hj
    unfold oI at ho ⊢
    rw [r19, r22, r 13 (by omega) (by omega), r 14 (by omega) (by omega), r 15 (by omega) (by omega), r 16 (by omega) (by omega), r 17 (by omega) (by omega), r 18 (by omega) (by omega), r 20 (by omega) (by omega), r 21 (by omega) (by omega), r 23 (by omega) (by omega), r 12 (by omega) (by omega)]
    obtain ⟨a1, a2, a3, a4, a5, a6, a7, a8, a9, a10, a11⟩ := ho
    refine ⟨a1, a2, a3, a4, a5, ?_, a7, ?_, a9, ?_, a11⟩
    · clear a1 a2 a3 a4 a5 a7 a8 a9 a10 a11
      by_cases e : j = k
      · subst e; rw [if_pos rfl]; omega
      · rw [if_neg e]; exact a6
    · clear a1 a2 a3 a4 a5 a6 a7 a9 a10 a11
      by_cases e : j = k
      · subst e; rw [if_pos rfl]; omega
      · rw [if_neg e]; exact a8
    · intro q
      by_cases e : j = k
      · rw [if_pos e]; exact hn.1
      · rw [if_neg e]; exact a10 q
  · rw [r 14 (by omega) (by omega)] at q1 q2
    rw [r 23 (by omega) (by omega), r 23 (by omega) (by omega)] at q3
    exact h.1.2.2.1 i j hi hj q1 q2 q3
  · have := live_mono (S := S) (S' := zu (zu S 19 k n) 22 k (min (S 22 k) n)) (N := N) (fun j hj q => by rw [r 14 (by omega) (by omega)] at q; exact q)
    have := h.1.2.2.2
    omega
  · rw [r 14 (by omega) (by omega)] at q
    rw [r19, r22, r 21 (by omega) (by omega)]
    have := h.2.1 j hj q
    by_cases e : j = k
    · subst e; rw [if_pos rfl, if_pos rfl]; omega
    · rw [if_neg e, if_neg e]; exact this
  · rw [r 14 (by omega) (by omega)] at q
    exact h.2.2 j hj q
theorem J_row {S T : zS} {N : Nat} {b : Int} (h : Jnv S N b) (hr : ∀ a, a ≠ 12 → T a = S a) (h12 : T 12 12 = S 12 12) (hg : gI T N b) : Jnv T N b := by
  obtain ⟨⟨h1, h2, h3, h4⟩, h5, h6⟩ := h
  refine ⟨⟨hg, fun j hj => ?_, fun i j hi hj => ?_, ?_⟩, fun j hj => ?_, fun j hj => ?_⟩
  · have := h2 j hj
    unfold oI at this ⊢
    rw [hr 13 (by omega), hr 14 (by omega), hr 15 (by omega), hr 16 (by omega), hr 17 (by omega), hr 18 (by omega), hr 19 (by omega), hr 20 (by omega), hr 21 (by omega), hr 22 (by omega), hr 23 (by omega), h12]
    exact this
  · rw [hr 14 (by omega), hr 23 (by omega)]; exact h3 i j hi hj
  · unfold live at h4 ⊢; rw [hr 14 (by omega)]; exact h4
  · unfold slcP; rw [hr 14 (by omega), hr 22 (by omega), hr 21 (by omega), hr 19 (by omega)]; exact h5 j hj
  · rw [hr 14 (by omega)]; exact h6 j hj
theorem zu_row (S : zS) (i : Nat) (v : Int) {a : Nat} (h : a ≠ 12) : zu S 12 i v a = S a := funext fun j => zu_ne _ _ (by omega)
theorem J_12 {S : zS} {N : Nat} {b v : Int} {i : Nat} (h : Jnv S N b) (hi : (i = 21 ∧ 0 ≤ v ∧ v ≤ 50) ∨ (i = 22 ∧ (v = 114 ∨ v = 105)) ∨ (i = 23 ∧ (v = 0 ∨ v = 1))) : Jnv (zu S 12 i v) N b := by
  refine J_row h (fun a ha => zu_row S i v ha) (zu_ne _ _ (by omega)) ?_
  have hg := h.1.1
  unfold gI at hg ⊢
  have r : ∀ j, j ≠ i → zu S 12 i v 12 j = S 12 j := fun j hj => zu_ne _ _ (by omega)
  have e : zu S 12 i v 12 i = v := zu_same S 12 i v
  have e28 : ∀ j, zu S 12 i v 28 j = S 28 j := fun j => zu_ne _ _ (by omega)
  rw [e28, e28]
  obtain ⟨a1, a2, a3, a4, a5, a6, a7, a8, a9, a10, a11, a12, a13, a14, a15, a16, a17⟩ := hg
  rcases hi with ⟨rfl, hv⟩ | ⟨rfl, hv⟩ | ⟨rfl, hv⟩
  · rw [r 0 (by omega), r 12 (by omega), r 13 (by omega), r 18 (by omega), r 22 (by omega), r 23 (by omega), e]
    exact ⟨a1, a2, a3, a4, a5, a6, a7, a8, a9, hv.1, hv.2, a12, a13, a14, a15, a16, a17⟩
  · rw [r 0 (by omega), r 12 (by omega), r 13 (by omega), r 18 (by omega), r 21 (by omega), r 23 (by omega), e]
    exact ⟨a1, a2, a3, a4, a5, a6, a7, a8, a9, a10, a11, hv, a13, a14, a15, a16, a17⟩
  · rw [r 0 (by omega), r 12 (by omega), r 13 (by omega), r 18 (by omega), r 21 (by omega), r 22 (by omega), e]
    exact ⟨a1, a2, a3, a4, a5, a6, a7, a8, a9, a10, a11, a12, hv, a14, a15, a16, a17⟩
theorem z_12 {S : zS} {N : Nat} (h : zI S N) (i : Nat) (v : Int) : zI (zu S 12 i v) N := fun j hj => by
  rw [zu_ne _ _ (by omega), zu_ne _ _ (by omega)]; exact h j hj
theorem auLoop_z {N : Nat} {p : Int} (hp : 1 ≤ p ∧ p ≤ 300) (f : Nat) : ∀ {S : zS} {b left : Int}, Av S N b → vol S N p = left → zI S N → zI (auLoop N p f left S) N := by
  induction f with
  | zero => intro S b left _ _ h; exact h
  | succ f ih =>
    intro S b left h hv hz
    show zI (if 0 < left then auLoop N p f (left - auA S N left) (auS S N p left) else S) N
    split
    · rename_i h0
      have h1 := au_step h hp hv h0
      obtain ⟨k, o, ek, eo, hk, ho, hne, _⟩ := au_spec h hv h0
      refine ih h1.1 h1.2.1 ?_
      unfold auS
      rw [ek, eo, Int.toNat_natCast, Int.toNat_natCast]
      exact trd_z hz hne hk ho _ _
    · exact hz
theorem aucS_z {S : zS} {N : Nat} {b : Int} (h : Jnv S N b) (hz : zI S N) : zI (aucS S N) N := by
  have hL : zI (auLoop N (meet S N) 60 (aucV S N) S) N := by
    have hv := vol_0 h.1.2.1
    rcases Int.lt_or_le 0 (aucV S N) with q | q
    · exact auLoop_z (hv.2.2 q).2 60 h.Av (hv.2.2 q).1 hz
    · have e : auLoop N (meet S N) 60 (aucV S N) S = S := by
        show (if 0 < aucV S N then _ else S) = S
        rw [if_neg (by omega)]
      rw [e]; exact hz
  intro j hj
  unfold aucS
  rw [ae_o _ _ (by omega), ae_22, if_neg (by omega)]
  exact hL j hj
/-- the orders behind a call that adds one if its code is 0 -/
theorem keep_send {S : zS} {N : Nat} {X : xS} {μ : aM} {b : Int} (h : cO S N X μ b) {w c p a s : Int} (ht : tSend S N w c p a s = 0) : Jnv (sSend S N w c p a s) (N + 1) (b + 19600) ∧ zI (sSend S N w c p a s) (N + 1) := by
  unfold sSend sT
  rw [ht, if_pos rfl]
  unfold tSend at ht
  by_cases hok : okSend w c p a s
  · rw [if_neg (fun z => z hok)] at ht
    have hf : ¬ 60 ≤ many S N 97 + many S N 119 := fun q => by rw [if_pos q] at ht; cases ht
    have hJ : Jnv (zu S 12 24 0) N b := h.J
    have hZ : zI (zu S 12 24 0) N := h.2.2.2.1
    have hN := h.2.2.2.2.1
    have A := adds_J hJ hZ (by omega) hok.1 hok.2.1 (t := 0) (by omega) hok.2.2.1 hok.2.2.2.1 hok.2.2.2.2 (show many S N 97 + many S N 119 ≤ 59 by omega)
    have B := start_cI A.1 (Nat.lt_succ_self N) (by rw [ad_14, if_pos rfl])
    have C := comes_Inv B.1 B.2
    have Z := comes_z B.1 A.2
    have D := soLoop_J (N := N + 1) 60 (S := comes (adds (zu S 12 24 0) N w c 0 p a s) (N + 1) N) (b := b + 320) C
    exact ⟨D.mono (by omega), soLoop_z 60 (b := b + 320) C Z⟩
  · rw [if_pos hok] at ht; cases ht
theorem keep_stop {S : zS} {N : Nat} {X : xS} {μ : aM} {b : Int} (h : cO S N X μ b) {w c t p a : Int} (ht : tStop S N w c t p a = 0) : Jnv (sStop S N w c t p a) (N + 1) (b + 19600) ∧ zI (sStop S N w c t p a) (N + 1) := by
  unfold sStop sT
  rw [ht, if_pos rfl]
  unfold tStop at ht
  by_cases hok : okStop w c t p a
  · rw [if_neg (fun z => z hok)] at ht
    have hf : ¬ 60 ≤ many S N 97 + many S N 119 := fun q => by rw [if_pos q] at ht; cases ht
    have hJ : Jnv (zu S 12 24 0) N b := h.J
    have hZ : zI (zu S 12 24 0) N := h.2.2.2.1
    have hN := h.2.2.2.2.1
    have htt := hok.2.2.1
    have A := adds_J hJ hZ (by omega) hok.1 hok.2.1 (t := t) (by omega) hok.2.2.2.1 hok.2.2.2.2 hok.2.2.2.2 (show many S N 97 + many S N 119 ≤ 59 by omega)
    exact ⟨A.1.mono (by omega), A.2⟩
  · rw [if_pos hok] at ht; cases ht
theorem keep_cancel {S : zS} {N : Nat} {X : xS} {μ : aM} {b : Int} (h : cO S N X μ b) (o : Int) : Jnv (sCancel S N o) N b ∧ zI (sCancel S N o) N := by
  unfold sCancel sT
  split
  · refine ⟨J_cancel (J_code h.J 0) _, fun j hj => ?_⟩
    rw [zu_ne _ _ (by omega), zu_ne _ _ (by omega)]
    exact z_code h.2.2.2.1 0 j hj
  · exact ⟨J_code h.J _, z_code h.2.2.2.1 _⟩
theorem keep_reduce {S : zS} {N : Nat} {X : xS} {μ : aM} {b : Int} (h : cO S N X μ b) (o n : Int) : Jnv (sReduce S N o n) N b ∧ zI (sReduce S N o n) N := by
  unfold sReduce sT
  split
  · rename_i ht
    unfold tReduce at ht
    by_cases q1 : 0 ≤ o ∧ o < (N : Int)
    · rw [if_neg (fun z => z q1)] at ht
      by_cases q2 : n < 1
      · rw [if_pos q2] at ht; cases ht
      · rw [if_neg q2] at ht
        by_cases q3 : S 14 o.toNat = 102 ∨ S 14 o.toNat = 99 ∨ S 19 o.toNat ≤ n
        · rw [if_pos q3] at ht; cases ht
        · obtain ⟨k, rfl⟩ := Int.eq_ofNat_of_zero_le q1.1
          rw [Int.toNat_natCast] at q3 ⊢
          have := J_reduce (J_code h.J 0) (k := k) (n := n) (by have e : zu S 12 24 0 19 k = S 19 k := zu_ne _ _ (by omega); rw [e]; omega)
          refine ⟨?_, fun j hj => ?_⟩
          · have e : zu S 12 24 0 22 k = S 22 k := zu_ne _ _ (by omega)
            rw [e] at this
            exact this
          · have e1 := z_code h.2.2.2.1 0 j hj
            rw [zu_ne _ _ (by omega), zu_ne _ _ (by omega)]
            rw [zu_ne _ _ (by omega), zu_ne _ _ (by omega)]
            exact e1
    · rw [if_pos q1] at ht; cases ht
  · exact ⟨J_code h.J _, z_code h.2.2.2.1 _⟩
theorem keep_band {S : zS} {N : Nat} {X : xS} {μ : aM} {b : Int} (h : cO S N X μ b) (n : Int) : Jnv (sBand S n) N b ∧ zI (sBand S n) N := by
  unfold sBand sT tBand
  by_cases q : 0 ≤ n ∧ n ≤ 50
  · rw [if_pos q, if_pos rfl]
    exact ⟨J_12 (J_code h.J 0) (Or.inl ⟨rfl, q⟩), z_12 (z_code h.2.2.2.1 0) _ _⟩
  · rw [if_neg q, if_neg (by decide)]
    exact ⟨J_code h.J _, z_code h.2.2.2.1 _⟩
theorem keep_rule {S : zS} {N : Nat} {X : xS} {μ : aM} {b : Int} (h : cO S N X μ b) (c : Int) : Jnv (sRule S c) N b ∧ zI (sRule S c) N := by
  unfold sRule sT tRule
  by_cases q : c = 114 ∨ c = 105
  · rw [if_pos q, if_pos rfl]
    exact ⟨J_12 (J_code h.J 0) (Or.inr (Or.inl ⟨rfl, q⟩)), z_12 (z_code h.2.2.2.1 0) _ _⟩
  · rw [if_neg q, if_neg (by decide)]
    exact ⟨J_code h.J _, z_code h.2.2.2.1 _⟩
theorem keep_halt {S : zS} {N : Nat} {X : xS} {μ : aM} {b : Int} (h : cO S N X μ b) : Jnv (sHalt S) N b ∧ zI (sHalt S) N := by
  unfold sHalt sT tHalt
  by_cases q : S 12 23 = 0
  · rw [if_pos q, if_pos rfl]
    exact ⟨J_12 (J_code h.J 0) (Or.inr (Or.inr ⟨rfl, Or.inr rfl⟩)), z_12 (z_code h.2.2.2.1 0) _ _⟩
  · rw [if_neg q, if_neg (by decide)]
    exact ⟨J_code h.J _, z_code h.2.2.2.1 _⟩
theorem keep_auc {S : zS} {N : Nat} {X : xS} {μ : aM} {b : Int} (h : cO S N X μ b) : Jnv (sAuc S N) N (b + 19600) ∧ zI (sAuc S N) N := by
  unfold sAuc sT tAuc
  by_cases q : S 12 23 = 0
  · rw [if_pos q, if_neg (by decide)]
    exact ⟨(J_code h.J _).mono (by omega), z_code h.2.2.2.1 _⟩
  · rw [if_neg q, if_pos rfl]
    have A := aucS_J (J_code h.J 0)
    have Z := aucS_z (J_code h.J 0) (z_code h.2.2.2.1 0)
    exact ⟨(soLoop_J (N := N) 60 A).mono (by omega), soLoop_z 60 A Z⟩
