/-! ===== the class's prices of an auction are the reference's ===== -/
theorem wL_sum {S : zS} {N : Nat} {c : Int} {L : List Nat} (h : L.Pairwise (bef S c)) (p : Int) : wL S c p L = sumL (fun k => if ahd c p (S 16 k) then 0 else S 19 k) L := by
  induction L with
  | nil => rfl
  | cons a t ih =>
    have h1 := List.pairwise_cons.mp h
    show (if ahd c p (S 16 a) then 0 else S 19 a + wL S c p t) = (if ahd c p (S 16 a) then 0 else S 19 a) + sumL _ t
    split
    · rename_i hq
      have : ∀ (u : List Nat), (∀ b, b ∈ u → ahd c p (S 16 b)) → sumL (fun k => if ahd c p (S 16 k) then 0 else S 19 k) u = 0 := by
        intro u
        induction u with
        | nil => intro _; rfl
        | cons b u ih2 =>
          intro hb
          show (if ahd c p (S 16 b) then 0 else S 19 b) + sumL _ u = 0
          rw [if_pos (hb b List.mem_cons_self), ih2 (fun x hx => hb x (List.mem_cons_of_mem _ hx))]
          rfl
      rw [this t (fun b hb => by
        have := h1.1 b hb
        unfold bef ahd at this
        unfold ahd at hq ⊢
        omega)]
      rfl
    · rw [ih h1.2]
theorem wL_want {S : zS} {N : Nat} {c : Int} {L : List Nat} (h : bkL S N c L) (p : Int) : wL S c p L = want S N c p := by
  rw [wL_sum (N := N) h.1, h.sum]
  refine sm_congr (fun k hk => ?_)
  by_cases h1 : act S c k
  · rw [if_pos h1]
    by_cases h2 : ahd c p (S 16 k)
    · rw [if_pos h2, if_neg (fun q => q.2.2 h2)]
    · rw [if_neg h2, if_pos ⟨h1.1, h1.2, h2⟩]
  · rw [if_neg h1, if_neg (fun q => h1 ⟨q.1, q.2.1⟩)]
theorem dm_want {S : zS} {N : Nat} {X : xS} (h : bk S N X) (p : Int) : dm S X p = want S N 98 p := wL_want (h 98 (Or.inl rfl)) p
theorem sp_want {S : zS} {N : Nat} {X : xS} (h : bk S N X) (p : Int) : sp S X p = want S N 115 p := wL_want (h 115 (Or.inr rfl)) p
/-- q is no worse than p -/
def nwo (V O : Int → Int) (q p : Int) : Prop := V p < V q ∨ (V p = V q ∧ (O q < O p ∨ (O q = O p ∧ q ≤ p)))
/-- m is the best of the prices P; 0: none trades -/
def bst_ (V O : Int → Int) (P : Int → Prop) (m : Int) : Prop := (m = 0 ∧ ∀ p, P p → V p ≤ 0) ∨ (P m ∧ 0 < V m ∧ ∀ p, P p → 0 < V p → nwo V O m p)
theorem bst_uniq {V O : Int → Int} {P : Int → Prop} {m n : Int} (hm : bst_ V O P m) (hn : bst_ V O P n) : m = n := by
  rcases hm with ⟨h1, h2⟩ | ⟨h1, h2, h3⟩
  · rcases hn with ⟨g1, g2⟩ | ⟨g1, g2, g3⟩
    · omega
    · have := h2 n g1; omega
  · rcases hn with ⟨g1, g2⟩ | ⟨g1, g2, g3⟩
    · have := g2 m h1; omega
    · have a := h3 n g1 g2
      have b := g3 m h1 h2
      unfold nwo at a b
      omega
theorem nwo_trans {V O : Int → Int} {a b c : Int} (h1 : nwo V O a b) (h2 : nwo V O b c) : nwo V O a c := by unfold nwo at *; omega
/-- the best of some prices that stand for all -/
theorem bst_sub {V O : Int → Int} {P Q : Int → Prop} {m : Int} (hm : bst_ V O Q m) (h1 : ∀ p, Q p → 0 < V p → P p) (h2 : ∀ p, P p → 0 < V p → ∃ q, Q q ∧ q ≤ p ∧ V q = V p ∧ O q = O p) : bst_ V O P m := by
  rcases hm with ⟨a1, a2⟩ | ⟨a1, a2, a3⟩
  · refine Or.inl ⟨a1, fun p hp => ?_⟩
    rcases Int.lt_or_le 0 (V p) with q | q
    · obtain ⟨r, r1, r2, r3, r4⟩ := h2 p hp q
      have := a2 r r1
      omega
    · exact q
  · refine Or.inr ⟨h1 m a1 a2, a2, fun p hp hv => ?_⟩
    obtain ⟨r, r1, r2, r3, r4⟩ := h2 p hp hv
    exact nwo_trans (a3 r r1 (by omega)) (Or.inr ⟨by omega, Or.inr ⟨r4, r2⟩⟩)
/-- what the class's row of the best price says -/
def bX (V O : Int → Int) (P : Int → Prop) (X : xS) : Prop := (X.2 0 = 0 ∧ X.2 1 = 0 ∧ X.2 2 = 0 ∧ ∀ p, P p → V p ≤ 0) ∨ (P (X.2 0) ∧ 0 < V (X.2 0) ∧ X.2 1 = V (X.2 0) ∧ X.2 2 = O (X.2 0) ∧ ∀ p, P p → 0 < V p → nwo V O (X.2 0) p)
theorem bX.bst {V O : Int → Int} {P : Int → Prop} {X : xS} (h : bX V O P X) : bst_ V O P (X.2 0) := by
  rcases h with ⟨h1, _, _, h2⟩ | ⟨h1, h2, _, _, h3⟩
  · exact Or.inl ⟨h1, h2⟩
  · exact Or.inr ⟨h1, h2, h3⟩
theorem bX.off {S : zS} {V O : Int → Int} {P : Int → Prop} {X : xS} (h : bX V O P X) (p : Int) (hV : V p = min (dm S X p) (sp S X p)) (hO : O p = gap (dm S X p) (sp S X p)) : bX V O (fun q => P q ∨ q = p) (offX S X p) := by
  unfold offX takeX
  rw [← hV, ← hO]
  by_cases hb : 0 < V p ∧ btr X p (V p) (O p)
  · rw [if_pos hb]
    refine Or.inr ⟨Or.inr rfl, hb.1, rfl, rfl, fun q hq hv => ?_⟩
    show nwo V O p q
    have h2 := hb.2
    unfold btr at h2
    rcases hq with hq | rfl
    · rcases h with ⟨a1, a2, a3, a4⟩ | ⟨a1, a2, a3, a4, a5⟩
      · have := a4 q hq; omega
      · have := a5 q hq hv
        unfold nwo at this ⊢
        omega
    · unfold nwo; omega
  · rw [if_neg hb]
    rcases h with ⟨a1, a2, a3, a4⟩ | ⟨a1, a2, a3, a4, a5⟩
    · refine Or.inl ⟨a1, a2, a3, fun q hq => ?_⟩
      rcases hq with hq | rfl
      · exact a4 q hq
      · rcases Int.lt_or_le 0 (V q) with z | z
        · exact absurd ⟨z, Or.inl ⟨by omega, by omega⟩⟩ hb
        · exact z
    · refine Or.inr ⟨Or.inl a1, a2, a3, a4, fun q hq hv => ?_⟩
      rcases hq with hq | rfl
      · exact a5 q hq hv
      · have h2 : ¬ btr X q (V q) (O q) := fun z => hb ⟨hv, z⟩
        unfold btr at h2
        unfold nwo
        omega
theorem bX.iff {V O : Int → Int} {P Q : Int → Prop} {X : xS} (h : bX V O P X) (e : ∀ p, Q p ↔ P p) : bX V O Q X := by
  have : Q = P := funext fun p => propext (e p)
  rw [this]; exact h
theorem gap_odd (d s : Int) : gap d s = d + s - 2 * min d s := by unfold gap; split <;> omega
theorem clrX_b {V O : Int → Int} (X : xS) : bX V O (fun _ => False) (clrX X) := Or.inl ⟨rfl, rfl, rfl, fun _ h => h.elim⟩
theorem ofs_b {S : zS} {V O : Int → Int} (X0 : xS) (hV : ∀ p, V p = min (dm S X0 p) (sp S X0 p)) (hO : ∀ p, O p = gap (dm S X0 p) (sp S X0 p)) (ps : List Int) : ∀ {P : Int → Prop} {X : xS}, X.1 = X0.1 → bX V O P X → bX V O (fun q => P q ∨ q ∈ ps) (ofs S ps X) := by
  induction ps with
  | nil => intro P X _ h; exact h.iff (fun p => ⟨fun q => q.elim id (fun z => nomatch z), Or.inl⟩)
  | cons a t ih =>
    intro P X e h
    have e1 : ∀ p, dm S X p = dm S X0 p := fun p => by unfold dm; rw [e]
    have e2 : ∀ p, sp S X p = sp S X0 p := fun p => by unfold sp; rw [e]
    have h1 := h.off (S := S) a (by rw [e1, e2]; exact hV a) (by rw [e1, e2]; exact hO a)
    have h2 := ih (P := fun q => P q ∨ q = a) (X := offX S X a) ((offX_1 S X a).trans e) h1
    refine h2.iff (fun p => ?_)
    rw [List.mem_cons]
    exact ⟨fun q => by rcases q with q | q | q; exact Or.inl (Or.inl q); exact Or.inl (Or.inr q); exact Or.inr q, fun q => by rcases q with (q | q) | q; exact Or.inl q; exact Or.inr (Or.inl q); exact Or.inr (Or.inr q)⟩
theorem trX_b {S : zS} {V O : Int → Int} (X0 : xS) (hV : ∀ p, V p = min (dm S X0 p) (sp S X0 p)) (hO : ∀ p, O p = gap (dm S X0 p) (sp S X0 p)) (X : xS) (e : X.1 = X0.1) (h : bX V O (fun _ => False) X) (n : Nat) : bX V O (fun p => pv p ∧ 1 ≤ p ∧ p ≤ n) (trX S X n) := by
  induction n with
  | zero => exact h.iff (fun p => ⟨fun q => by have := q.2; omega, fun q => q.elim⟩)
  | succ n ih =>
    show bX V O _ (if pv ((n + 1 : Nat) : Int) then offX S (trX S X n) ((n + 1 : Nat) : Int) else trX S X n)
    have e3 : (trX S X n).1 = X0.1 := (trX_1 S X n).trans e
    have e1 : ∀ p, dm S (trX S X n) p = dm S X0 p := fun p => by unfold dm; rw [e3]
    have e2 : ∀ p, sp S (trX S X n) p = sp S X0 p := fun p => by unfold sp; rw [e3]
    split
    · rename_i hp
      refine (ih.off (S := S) ((n + 1 : Nat) : Int) (by rw [e1, e2]; exact hV _) (by rw [e1, e2]; exact hO _)).iff (fun p => ?_)
      refine ⟨fun q => ?_, fun q => ?_⟩
      · by_cases z : p = ((n + 1 : Nat) : Int)
        · exact Or.inr z
        · exact Or.inl ⟨q.1, q.2.1, by omega⟩
      · rcases q with q | q
        · exact ⟨q.1, q.2.1, by omega⟩
        · rw [q]; exact ⟨hp, by omega, by omega⟩
    · rename_i hp
      refine ih.iff (fun p => ⟨fun q => ⟨q.1, q.2.1, ?_⟩, fun q => ⟨q.1, q.2.1, by omega⟩⟩)
      have : p ≠ ((n + 1 : Nat) : Int) := fun z => hp (z ▸ q.1)
      omega
theorem meetF_b {S : zS} {N : Nat} (hf : ∀ k, k < N → 0 ≤ S 19 k ∧ S 19 k ≤ 1000) (n : Nat) : bst_ (vol S N) (odd S N) (fun p => pv p ∧ 1 ≤ p ∧ p ≤ n) (meetF S N n) := by
  induction n with
  | zero => exact Or.inl ⟨rfl, fun p q => by have := q.2; omega⟩
  | succ n ih =>
    rw [meetF_suc]
    have hv0 := (vol_le hf ((n + 1 : Nat) : Int)).1
    have hl := meetF_le S N n
    generalize meetF S N n = m at *
    by_cases hc : pv ((n + 1 : Nat) : Int) ∧ vol S N ((n + 1 : Nat) : Int) ≠ 0 ∧ (m = 0 ∨ vol S N m < vol S N ((n + 1 : Nat) : Int) ∨ (vol S N ((n + 1 : Nat) : Int) = vol S N m ∧ odd S N ((n + 1 : Nat) : Int) < odd S N m))
    · rw [if_pos hc]
      refine Or.inr ⟨⟨hc.1, by omega, by omega⟩, by omega, fun p hp hv => ?_⟩
      by_cases z : p = ((n + 1 : Nat) : Int)
      · rw [z]; unfold nwo; omega
      · have hp2 : pv p ∧ 1 ≤ p ∧ p ≤ n := ⟨hp.1, hp.2.1, by omega⟩
        rcases ih with ⟨a1, a2⟩ | ⟨a1, a2, a3⟩
        · have := a2 p hp2; omega
        · have h3 := a3 p hp2 hv
          have h4 := hc.2.2
          unfold nwo at h3 ⊢
          omega
    · rw [if_neg hc]
      rcases ih with ⟨a1, a2⟩ | ⟨a1, a2, a3⟩
      · refine Or.inl ⟨a1, fun p hp => ?_⟩
        by_cases z : p = ((n + 1 : Nat) : Int)
        · rcases Int.lt_or_le 0 (vol S N p) with y | y
          · exact absurd ⟨z ▸ hp.1, by rw [← z]; omega, Or.inl a1⟩ hc
          · exact y
        · exact a2 p ⟨hp.1, hp.2.1, by omega⟩
      · refine Or.inr ⟨⟨a1.1, a1.2.1, by omega⟩, a2, fun p hp hv => ?_⟩
        by_cases z : p = ((n + 1 : Nat) : Int)
        · have h2 : ¬ (vol S N m < vol S N ((n + 1 : Nat) : Int) ∨ (vol S N ((n + 1 : Nat) : Int) = vol S N m ∧ odd S N ((n + 1 : Nat) : Int) < odd S N m)) := fun y => hc ⟨z ▸ hp.1, by rw [← z]; omega, Or.inr y⟩
          rw [z]
          unfold nwo
          omega
        · exact a3 p ⟨hp.1, hp.2.1, by omega⟩ hv
theorem VO {S : zS} {N : Nat} {X : xS} (h : bk S N X) : (∀ p, vol S N p = min (dm S X p) (sp S X p)) ∧ ∀ p, odd S N p = gap (dm S X p) (sp S X p) := by
  refine ⟨fun p => by rw [dm_want h, sp_want h]; rfl, fun p => ?_⟩
  rw [gap_odd, dm_want h, sp_want h]
  rfl
theorem btX_meet {S : zS} {N : Nat} {X : xS} (h : bk S N X) (ho : ∀ k, k < N → oI S k) : (btX S X).2 0 = meet S N := by
  unfold btX meet
  generalize 300 = n
  exact bst_uniq (trX_b X (VO h).1 (VO h).2 (clrX X) rfl (clrX_b X) n).bst (meetF_b (hf_of ho) n)
theorem max_le (ps : List Int) {p : Int} (h : ∃ q, q ∈ ps ∧ q ≤ p) : ∃ q, q ∈ ps ∧ q ≤ p ∧ ∀ r, r ∈ ps → r ≤ p → r ≤ q := by
  induction ps with
  | nil => obtain ⟨q, hq, _⟩ := h; cases hq
  | cons a t ih =>
    by_cases ht : ∃ q, q ∈ t ∧ q ≤ p
    · obtain ⟨q, q1, q2, q3⟩ := ih ht
      by_cases ha : a ≤ p ∧ q < a
      · refine ⟨a, List.mem_cons_self, ha.1, fun r hr hrp => ?_⟩
        rcases List.mem_cons.mp hr with e | e
        · omega
        · have := q3 r e hrp; omega
      · refine ⟨q, List.mem_cons_of_mem _ q1, q2, fun r hr hrp => ?_⟩
        rcases List.mem_cons.mp hr with e | e
        · omega
        · exact q3 r e hrp
    · obtain ⟨q, q1, q2⟩ := h
      rcases List.mem_cons.mp q1 with e | e
      · refine ⟨a, List.mem_cons_self, by omega, fun r hr hrp => ?_⟩
        rcases List.mem_cons.mp hr with e2 | e2
        · omega
        · exact absurd ⟨r, e2, hrp⟩ ht
      · exact absurd ⟨q, e, q2⟩ ht
theorem pv_step {p q : Int} (hp : pv p) (hq : pv q) (h : p < q) : p + stp p ≤ q := by unfold pv stp at *; split <;> (try split) <;> omega
theorem pv_stp {p : Int} (hp : pv p) (h : p + stp p ≤ 300) : pv (p + stp p) := by unfold pv stp at *; split at h <;> (try split at h) <;> (try split) <;> omega
theorem bsX_meet {S : zS} {N : Nat} {X : xS} (h : bk S N X) (ho : ∀ k, k < N → oI S k) : (bsX S X).2 0 = meet S N := by
  have hb := ofs_b (S := S) X (VO h).1 (VO h).2 (bsP S X) (P := fun _ => False) (X := clrX X) rfl (clrX_b X)
  have hpr : ∀ k, k < N → pv (S 16 k) := fun k hk => (ho k hk).2.2.1
  have hsm : ∀ c k, sC c → k ∈ X.1 c → k < N ∧ act S c k := fun c k hc hk => ((h c hc).2 k).mp hk
  obtain ⟨n, hn⟩ : ∃ n : Nat, n = 300 := ⟨_, rfl⟩
  unfold meet
  rw [← hn]
  refine bst_uniq (bst_sub hb.bst (P := fun p => pv p ∧ 1 ≤ p ∧ p ≤ (n : Int)) ?_ ?_) (meetF_b (hf_of ho) n)
  · intro p hp hv
    have hp : p ∈ bsP S X := hp.elim (fun z => z.elim) id
    rcases List.mem_append.mp hp with q | q
    · obtain ⟨a, ha, rfl⟩ := List.mem_map.mp q
      have := hpr a (hsm 115 a (Or.inr rfl) ha).1
      exact ⟨this, this.1, by have := this.2.1; omega⟩
    · obtain ⟨a, ha, rfl⟩ := List.mem_map.mp q
      have hpa := hpr a (hsm 98 a (Or.inl rfl) ha).1
      have hw : want S N 98 (S 16 a + stp (S 16 a)) ≠ 0 := fun z => by unfold vol at hv; omega
      obtain ⟨j, hj, hw⟩ := want_pos hw
      have hpj := hpr j hj
      have h3 := hw.2.2
      unfold ahd at h3
      have h300 : S 16 a + stp (S 16 a) ≤ 300 := by have := hpj.2.1; omega
      have := pv_stp hpa h300
      exact ⟨this, this.1, by have := this.2.1; omega⟩
  · intro p hp hv
    have hpv := hp.1
    have hw : want S N 115 p ≠ 0 := fun z => by unfold vol at hv; omega
    obtain ⟨j, hj, hw⟩ := want_pos hw
    have hjm : j ∈ X.1 115 := ((h 115 (Or.inr rfl)).2 j).mpr ⟨hj, hw.1, hw.2.1⟩
    have h3 := hw.2.2
    unfold ahd at h3
    obtain ⟨q, q1, q2, q3⟩ := max_le (bsP S X) (p := p) ⟨S 16 j, List.mem_append_left _ (List.mem_map.mpr ⟨j, hjm, rfl⟩), by omega⟩
    have eb : want S N 98 q = want S N 98 p := by
      refine sm_congr (fun k hk => ?_)
      have : wantP S k 98 q ↔ wantP S k 98 p := by
        refine ⟨fun z => ⟨z.1, z.2.1, fun y => ?_⟩, fun z => ⟨z.1, z.2.1, fun y => ?_⟩⟩
        · have hkm : k ∈ X.1 98 := ((h 98 (Or.inl rfl)).2 k).mpr ⟨hk, z.1, z.2.1⟩
          unfold ahd at y
          have hlt : S 16 k < p := by omega
          have h4 := pv_step (hpr k hk) hpv hlt
          have h5 := q3 (S 16 k + stp (S 16 k)) (List.mem_append_right _ (List.mem_map.mpr ⟨k, hkm, rfl⟩)) h4
          have h6 := z.2.2
          unfold ahd at h6
          have h7 : 1 ≤ stp (S 16 k) := by unfold stp; split <;> (try split) <;> omega
          omega
        · have h6 := z.2.2
          unfold ahd at h6 y
          omega
      by_cases z : wantP S k 98 p
      · rw [if_pos z, if_pos (this.mpr z)]
      · rw [if_neg z, if_neg (fun y => z (this.mp y))]
    have es : want S N 115 q = want S N 115 p := by
      refine sm_congr (fun k hk => ?_)
      have : wantP S k 115 q ↔ wantP S k 115 p := by
        refine ⟨fun z => ⟨z.1, z.2.1, fun y => ?_⟩, fun z => ⟨z.1, z.2.1, fun y => ?_⟩⟩
        · have h6 := z.2.2
          unfold ahd at h6 y
          omega
        · have hkm : k ∈ X.1 115 := ((h 115 (Or.inr rfl)).2 k).mpr ⟨hk, z.1, z.2.1⟩
          have h6 := z.2.2
          unfold ahd at h6 y
          have h5 := q3 (S 16 k) (List.mem_append_left _ (List.mem_map.mpr ⟨k, hkm, rfl⟩)) (by omega)
          omega
      by_cases z : wantP S k 115 p
      · rw [if_pos z, if_pos (this.mpr z)]
      · rw [if_neg z, if_neg (fun y => z (this.mp y))]
    have ev : vol S N q = vol S N p := by unfold vol; rw [eb, es]
    exact ⟨q, Or.inr q1, q2, ev, by unfold odd; rw [eb, es, ev]⟩
