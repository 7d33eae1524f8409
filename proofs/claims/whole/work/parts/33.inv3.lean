/-! ===== one meeting keeps the invariant ===== -/
def cI (S : zS) (N k : Nat) (b : Int) : Prop := gI S N b ∧ (∀ j, j < N → oI S j) ∧ stI S N ∧ slI S N ∧ live S N ≤ 60 ∧ k < N ∧ (∀ j, j < N → S 14 j = 105 → j = k)
def actN (S : zS) (N : Nat) (c : Int) : Int := sm (fun j => bi (act S c j)) N
def vr (S : zS) (N k : Nat) : Int := S 19 k + actN S N (opp (S 13 k))
theorem gI_mono {S : zS} {N : Nat} {b c : Int} (h : gI S N b) (hc : b ≤ c) : gI S N c := by unfold gI at *; omega
theorem opp_ne (c : Int) : opp c ≠ c := by unfold opp; split <;> omega
theorem live_mono {S S' : zS} {N : Nat} (h : ∀ j, j < N → (S' 14 j = 97 ∨ S' 14 j = 119 ∨ S' 14 j = 105) → (S 14 j = 97 ∨ S 14 j = 119 ∨ S 14 j = 105)) : live S' N ≤ live S N :=
  sm_mono (fun j hj => bi_mono (h j hj))
theorem actN_mono {S S' : zS} {N : Nat} {c : Int} (h : ∀ j, j < N → act S' c j → act S c j) : actN S' N c ≤ actN S N c :=
  sm_mono (fun j hj => bi_mono (h j hj))
theorem actN_le (S : zS) (N : Nat) (c : Int) : 0 ≤ actN S N c := (sm_le (f := fun j => bi (act S c j)) (b := 1) (fun k => bi_le _) N).1
theorem z14 (S : zS) (o : Nat) (v : Int) (j : Nat) : zu S 14 o v 14 j = if j = o then v else S 14 j := by rw [zu_eq]; simp only [true_and]
theorem z14o (S : zS) (o : Nat) (v : Int) {b : Nat} (h : b ≠ 14) (j : Nat) : zu S 14 o v b j = S b j := zu_ne _ _ (fun q => h q.1)
theorem z14_oI {S : zS} {o j : Nat} (h : oI S j) : oI (zu S 14 o 99) j := by
  unfold oI at *
  rw [z14, z14o _ _ _ (b := 13) (by omega), z14o _ _ _ (b := 15) (by omega), z14o _ _ _ (b := 16) (by omega), z14o _ _ _ (b := 17) (by omega), z14o _ _ _ (b := 18) (by omega), z14o _ _ _ (b := 19) (by omega), z14o _ _ _ (b := 20) (by omega), z14o _ _ _ (b := 21) (by omega), z14o _ _ _ (b := 22) (by omega), z14o _ _ _ (b := 23) (by omega), z14o _ _ _ (b := 12) (by omega)]
  obtain ⟨a1, a2, a3, a4, a5, a6, a7, a8, a9⟩ := h
  refine ⟨a1, a2, a3, a4, a5, a6, a7, a8, ?_⟩
  clear a1 a2 a3 a4 a5 a6 a7 a8
  split <;> omega
theorem z14_cI {S : zS} {N k : Nat} {b : Int} (h : cI S N k b) (o : Nat) : cI (zu S 14 o 99) N k (b + 2) := by
  obtain ⟨h1, h2, h3, h4, h5, h6, h7⟩ := h
  have hs : ∀ j, zu S 14 o 99 14 j ≠ 99 → zu S 14 o 99 14 j = S 14 j := fun j q => by
    rw [z14] at q ⊢
    split
    · rename_i e; rw [if_pos e] at q; exact absurd rfl q
    · rfl
  refine ⟨?_, fun j hj => z14_oI (h2 j hj), ?_, ?_, ?_, h6, ?_⟩
  · have := gI_mono h1 (show b ≤ b + 2 by omega)
    exact this
  · intro i j hi hj q1 q2 q3
    rw [hs _ (by omega)] at q1 q2
    exact h3 i j hi hj q1 q2 q3
  · intro j hj q
    rw [hs _ (by omega)] at q
    exact h4 j hj q
  · have := live_mono (S := S) (S' := zu S 14 o 99) (N := N) (fun j hj q => by rw [hs _ (by omega)] at q; exact q)
    omega
  · intro j hj q
    rw [hs _ (by omega)] at q
    exact h7 j hj q
theorem oth_spec {S : zS} {N k : Nat} {b : Int} (h : cI S N k b) (hg : cmGo S N k) : ∃ o : Nat, oth S N k = o ∧ o < N ∧ act S (opp (S 13 k)) o ∧ o ≠ k ∧ 1 ≤ S 22 o ∧ S 22 o ≤ S 19 o ∧ S 22 o ≤ S 21 o ∧ 1 ≤ S 19 k ∧ S 14 k = 105 := by
  obtain ⟨o, ho⟩ := Int.eq_ofNat_of_zero_le hg.2.2.1
  have f := fst_pos (show fst S (opp (S 13 k)) N = o from ho)
  have hk := (h.2.1 k h.2.2.2.2.2.1).2.2.2.2.2.2.2.2.2.1 (Or.inr (Or.inr hg.1))
  have hs := h.2.2.2.1 o f.1 f.2.1.1
  have hne : o ≠ k := fun q => by have := f.2.1.1; rw [q, hg.1] at this; omega
  exact ⟨o, ho, f.1, f.2.1, hne, hs.1, hs.2.2, hs.2.1, hk, hg.1⟩
theorem z22 (S : zS) (o : Nat) (v : Int) (j : Nat) : zu S 22 o v 22 j = if j = o then v else S 22 j := by rw [zu_eq]; simp only [true_and]
theorem z22o (S : zS) (o : Nat) (v : Int) {b : Nat} (h : b ≠ 22) (j : Nat) : zu S 22 o v b j = S b j := zu_ne _ _ (fun q => h q.1)
theorem z22_oI {S : zS} {o j : Nat} {v : Int} (hv : 0 ≤ v ∧ v ≤ 99) (h : oI S j) : oI (zu S 22 o v) j := by
  unfold oI at *
  rw [z22, z22o _ _ _ (b := 13) (by omega), z22o _ _ _ (b := 15) (by omega), z22o _ _ _ (b := 16) (by omega), z22o _ _ _ (b := 17) (by omega), z22o _ _ _ (b := 18) (by omega), z22o _ _ _ (b := 19) (by omega), z22o _ _ _ (b := 20) (by omega), z22o _ _ _ (b := 21) (by omega), z22o _ _ _ (b := 14) (by omega), z22o _ _ _ (b := 23) (by omega), z22o _ _ _ (b := 12) (by omega)]
  obtain ⟨a1, a2, a3, a4, a5, a6, a7, a8, a9⟩ := h
  refine ⟨a1, a2, a3, a4, a5, a6, a7, ?_, a9⟩
  clear a1 a2 a3 a4 a5 a6 a7 a9
  split <;> omega
theorem ct_14 (S : zS) {k o : Nat} (hne : k ≠ o) (j : Nat) : cmTrade S k o 14 j = if j = k ∧ S 19 k - min (S 19 k) (S 22 o) = 0 then 102 else if j = o ∧ S 19 o - min (S 19 k) (S 22 o) = 0 then 102 else S 14 j := tr_14 _ hne _ _ j
theorem ct_19 (S : zS) {k o : Nat} (hne : k ≠ o) (j : Nat) : cmTrade S k o 19 j = if j = k then S 19 k - min (S 19 k) (S 22 o) else if j = o then S 19 o - min (S 19 k) (S 22 o) else S 19 j := tr_19 _ hne _ _ j
theorem ct_22 (S : zS) (k o j : Nat) : cmTrade S k o 22 j = if j = o then S 22 o - min (S 19 k) (S 22 o) else S 22 j := by
  unfold cmTrade
  rw [tr_22, z22]
theorem ct_o (S : zS) (k o : Nat) {b : Nat} (h : b ≠ 19 ∧ b ≠ 20 ∧ b ≠ 14 ∧ b ≠ 12 ∧ b ≠ 24 ∧ b ≠ 25 ∧ b ≠ 26 ∧ b ≠ 27 ∧ b ≠ 28 ∧ b ≠ 22) (j : Nat) : cmTrade S k o b j = S b j := by
  unfold cmTrade
  rw [tr_o _ _ _ _ _ (by omega), z22o _ _ _ (by omega)]
theorem ct_st (S : zS) {k o : Nat} (hne : k ≠ o) {j : Nat} (h : cmTrade S k o 14 j ≠ 102) : cmTrade S k o 14 j = S 14 j := by
  rw [ct_14 _ hne] at h ⊢
  split at h
  · exact absurd rfl h
  · rename_i q
    rw [if_neg q]
    split at h
    · exact absurd rfl h
    · rename_i q2
      rw [if_neg q2]
/-- a trade of the incoming order with the first one of the other side, before its slice is shown anew -/
theorem trade_cI {S : zS} {N k : Nat} {b : Int} (h : cI S N k b) {o : Nat} (ho : o < N) (hne : o ≠ k) (ho97 : S 14 o = 97) (hk : S 14 k = 105) (h22 : 1 ≤ S 22 o ∧ S 22 o ≤ S 19 o ∧ S 22 o ≤ S 21 o) (h19 : 1 ≤ S 19 k) :
    cI (cmAfter (cmTrade S k o) o) N k (b + 2) ∧ vr (cmAfter (cmTrade S k o) o) N k < vr S N k := by
  obtain ⟨h1, h2, h3, h4, h5, h6, h7⟩ := h
  have ha : 1 ≤ min (S 19 k) (S 22 o) ∧ min (S 19 k) (S 22 o) ≤ S 19 k ∧ min (S 19 k) (S 22 o) ≤ S 22 o := by omega
  have oo := h2 o ho
  have ok := h2 k h6
  have g1 : gI (cmTrade S k o) N (b + 1) := by
    refine trd_g (S := zu S 22 o (S 22 o - min (S 19 k) (S 22 o))) h1 ?_ ?_
    · exact ⟨oo.2.2.1.1, oo.2.2.1.2.1⟩
    · have := ok.2.2.2.2.2.1; omega
  have g2 : ∀ j, j < N → oI (cmTrade S k o) j := fun j hj => by
    refine trd_oI (Ne.symm hne) ?_ (z22_oI ?_ (h2 j hj)) ?_ ?_
    · rw [z22o _ _ _ (by omega), z22o _ _ _ (by omega)]; omega
    · have := oo.2.2.2.2.2.2.2.1; omega
    · rw [z22o _ _ _ (by omega)]; exact fun q => ⟨fun e => by rw [e] at q; omega, fun e => by rw [e] at q; omega⟩
    · rw [z22o _ _ _ (by omega)]; exact fun q => ⟨fun e => by rw [e] at q; omega, fun e => by rw [e] at q; omega⟩
  have st : ∀ {j}, cmTrade S k o 14 j ≠ 102 → cmTrade S k o 14 j = S 14 j := fun q => ct_st S (Ne.symm hne) q
  have g3 : stI (cmTrade S k o) N := by
    intro i j hi hj q1 q2
    rw [ct_o _ _ _ (by omega), ct_o _ _ _ (by omega)]
    rw [st (by omega)] at q1 q2
    exact h3 i j hi hj q1 q2
  have g4 : ∀ j, j < N → j ≠ o → slcP (cmTrade S k o) j := by
    intro j hj hjo q
    rw [st (by omega)] at q
    have hjk : j ≠ k := fun e => by rw [e] at q; omega
    rw [ct_22, ct_o _ _ _ (by omega), ct_19 _ (Ne.symm hne), if_neg hjo, if_neg hjk, if_neg hjo]
    exact h4 j hj q
  have g5 : live (cmTrade S k o) N ≤ live S N := live_mono (fun j hj q => by rw [st (by omega)] at q; exact q)
  have g7 : ∀ j, j < N → cmTrade S k o 14 j = 105 → j = k := fun j hj q => by rw [st (by omega)] at q; exact h7 j hj q
  have g8 : vr (cmTrade S k o) N k < vr S N k := by
    unfold vr
    rw [ct_o _ _ _ (b := 13) (by omega), ct_19 _ (Ne.symm hne), if_pos rfl]
    have := actN_mono (S := S) (S' := cmTrade S k o) (N := N) (c := opp (S 13 k)) (fun j hj q => ⟨by have q1 := q.1; rw [st (by omega)] at q1; exact q1, by have q2 := q.2; rw [ct_o _ _ _ (by omega)] at q2; exact q2⟩)
    omega
  have e22 : cmTrade S k o 22 o = S 22 o - min (S 19 k) (S 22 o) := by rw [ct_22, if_pos rfl]
  have e19 : cmTrade S k o 19 o = S 19 o - min (S 19 k) (S 22 o) := by rw [ct_19 _ (Ne.symm hne), if_neg hne, if_pos rfl]
  have e21 : cmTrade S k o 21 o = S 21 o := ct_o _ _ _ (by omega) _
  generalize cmTrade S k o = T at *
  unfold cmAfter
  split
  · rename_i hc
    have hl : 1 ≤ T 19 o := (g2 o ho).2.2.2.2.2.2.2.2.2.1 (Or.inl hc.1)
    refine ⟨⟨?_, fun j hj => bh_oI (g2 o ho) (by unfold gI at g1; omega) hl (g2 j hj), bh_st g3 (fun j hj q => ((g2 j hj).2.2.2.2.2.2.2.2.2.2 q).2) o, bh_sl g4 ⟨by have := oo.2.2.2.2.2.2.1; omega, hl⟩, ?_, h6, ?_⟩, ?_⟩
    · have := bh_g g1 o
      rw [show b + 2 = b + 1 + 1 by omega]
      exact this
    · have : live (behind T o) N = live T N := sm_congr (fun j hj => by rw [bh_14])
      omega
    · intro j hj
      rw [bh_14]
      exact g7 j hj
    · have : vr (behind T o) N k = vr T N k := by
        unfold vr actN act
        simp only [bh_14, bh_13, bh_19]
      omega
  · rename_i hc
    refine ⟨⟨gI_mono g1 (by omega), g2, g3, ?_, by omega, h6, g7⟩, g8⟩
    intro j hj
    by_cases e : j = o
    · subst e
      intro q
      omega
    · exact g4 j hj e
theorem meet_cI {S : zS} {N k : Nat} {b : Int} (h : cI S N k b) (hg : cmGo S N k) : cI (cmMeet S k (oth S N k).toNat) N k (b + 2) ∧ (vr (cmMeet S k (oth S N k).toNat) N k < vr S N k ∨ ¬ cmGo (cmMeet S k (oth S N k).toNat) N k) := by
  obtain ⟨o, eo, ho, ha, hne, q1, q2, q3, q4, q5⟩ := oth_spec h hg
  rw [eo, Int.toNat_natCast]
  unfold cmMeet
  split
  · split
    · refine ⟨z14_cI h o, Or.inl ?_⟩
      unfold vr
      rw [z14o _ _ _ (b := 13) (by omega), z14o _ _ _ (b := 19) (by omega)]
      have := sm_one (f := fun j => bi (act (zu S 14 o 99) (opp (S 13 k)) j)) (g := fun j => bi (act S (opp (S 13 k)) j)) (n := N) (o := o) ho (fun j hj hne => by unfold act; simp only [z14, if_neg hne]; rfl)
      have e1 : bi (act (zu S 14 o 99) (opp (S 13 k)) o) = 0 := bi_f (fun q => by have := q.1; rw [z14, if_pos rfl] at this; omega)
      have e2 : bi (act S (opp (S 13 k)) o) = 1 := bi_t ha
      unfold actN
      omega
    · refine ⟨z14_cI h k, Or.inr (fun q => ?_)⟩
      have := q.1
      rw [z14, if_pos rfl] at this
      omega
  · split
    · have := trade_cI h ho hne ha.1 q5 ⟨q1, q2, q3⟩ q4
      exact ⟨this.1, Or.inl this.2⟩
    · refine ⟨?_, Or.inr (fun q => ?_)⟩
      · obtain ⟨h1, h2, h3, h4, h5, h6, h7⟩ := h
        refine ⟨?_, h2, h3, h4, h5, h6, h7⟩
        clear h2 h3 h4 h5 h6 h7 hg
        have e : ∀ j, j ≠ 23 → zu S 12 23 1 12 j = S 12 j := fun j hj => zu_ne _ _ (fun q => hj q.2)
        unfold gI at *
        rw [e 0 (by omega), e 12 (by omega), e 13 (by omega), e 18 (by omega), e 21 (by omega), e 22 (by omega), zu_same, zu_ne (b := 28) _ _ (by omega), zu_ne (b := 28) _ _ (by omega)]
        omega
      · have := q.2.1
        rw [zu_same] at this
        omega
theorem loop_cI {N k : Nat} (f : Nat) : ∀ {S : zS} {b : Int}, cI S N k b → cI (cmLoop N k f S) N k (b + 2 * f) := by
  induction f with
  | zero => intro S b h; rw [show b + 2 * ((0 : Nat) : Int) = b by omega]; exact h
  | succ f ih =>
    intro S b h
    show cI (if cmGo S N k then cmLoop N k f (cmMeet S k (oth S N k).toNat) else S) N k _
    split
    · rename_i hg
      have h1 := ih (meet_cI h hg).1
      rw [show b + 2 * ((f + 1 : Nat) : Int) = b + 2 + 2 * f by omega]
      exact h1
    · obtain ⟨h1, h2⟩ := h
      exact ⟨gI_mono h1 (by omega), h2⟩
theorem sm_ge {f : Nat → Int} (h : ∀ j, 0 ≤ f j) {n o : Nat} (ho : o < n) : f o ≤ sm f n := by
  induction n with
  | zero => omega
  | succ n ih =>
    show f o ≤ sm f n + f n
    rcases Nat.lt_or_ge o n with q | q
    · have := ih q
      have := h n
      omega
    · rw [show o = n by omega]
      have := sm_le2 (f := f) (b := f n) (n := 0) (fun k hk => by omega)
      have : 0 ≤ sm f n := by
        clear ih ho q this
        induction n with
        | zero => exact Int.le_refl 0
        | succ n ih => show 0 ≤ sm f n + f n; have := h n; omega
      omega
theorem vr_pos {S : zS} {N k : Nat} {b : Int} (h : cI S N k b) (hg : cmGo S N k) : 2 ≤ vr S N k := by
  obtain ⟨o, eo, ho, ha, hne, q1, q2, q3, q4, q5⟩ := oth_spec h hg
  have h1 := sm_ge (f := fun j => bi (act S (opp (S 13 k)) j)) (fun j => (bi_le _).1) ho
  have e2 : bi (act S (opp (S 13 k)) o) = 1 := bi_t ha
  unfold vr actN
  omega
theorem loop_end {N k : Nat} (f : Nat) : ∀ {S : zS} {b : Int}, cI S N k b → vr S N k ≤ f → ¬ cmGo (cmLoop N k f S) N k := by
  induction f with
  | zero =>
    intro S b h hv hg
    have := vr_pos h hg
    omega
  | succ f ih =>
    intro S b h hv
    show ¬ cmGo (if cmGo S N k then cmLoop N k f (cmMeet S k (oth S N k).toNat) else S) N k
    split
    · rename_i hg
      have h1 := meet_cI h hg
      rcases h1.2 with q | q
      · exact ih h1.1 (by omega)
      · cases f with
        | zero => exact q
        | succ f =>
          show ¬ cmGo (if _ then _ else _) N k
          rw [if_neg q]
          exact q
    · assumption
