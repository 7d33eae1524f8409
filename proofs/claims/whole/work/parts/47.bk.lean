/-! ===== the book's chains against the rows ===== -/
/-- the chain of a side is what is active there, in its order -/
def bkL (S : zS) (N : Nat) (c : Int) (L : List Nat) : Prop := L.Pairwise (bef S c) ∧ ∀ k, k ∈ L ↔ k < N ∧ act S c k
def bk (S : zS) (N : Nat) (X : xS) : Prop := ∀ c, sC c → bkL S N c (X.1 c)
theorem bef_irr (S : zS) (c : Int) (k : Nat) : ¬ bef S c k k := by unfold bef ahd; omega
theorem bkL.nd {S : zS} {N : Nat} {c : Int} {L : List Nat} (h : bkL S N c L) : L.Nodup := by
  refine h.1.imp (fun {a b} hab e => ?_)
  subst e
  exact bef_irr S c a hab
theorem bkL.lk {S : zS} {N : Nat} {c : Int} {L : List Nat} (h : bkL S N c L) : lkL S N c L := ⟨h.nd, fun a ha => ⟨((h.2 a).mp ha).1, ((h.2 a).mp ha).2.2⟩⟩
def sumL (f : Nat → Int) : List Nat → Int
  | [] => 0
  | a :: t => f a + sumL f t
theorem sm_0 (n : Nat) : sm (fun _ => 0) n = 0 := by
  induction n with
  | zero => rfl
  | succ n ih => show sm (fun _ => 0) n + 0 = 0; rw [ih]; rfl
theorem sumL_sm (f : Nat → Int) {N : Nat} {L : List Nat} (hd : L.Nodup) (hN : ∀ a, a ∈ L → a < N) : sumL f L = sm (fun k => if k ∈ L then f k else 0) N := by
  induction L with
  | nil =>
    rw [sm_congr (g := fun _ => 0) (fun k _ => if_neg List.not_mem_nil), sm_0]
    rfl
  | cons a t ih =>
    have h1 := List.nodup_cons.mp hd
    have ih := ih h1.2 (fun b hb => hN b (List.mem_cons_of_mem _ hb))
    have h2 := sm_one (f := fun k => if k ∈ a :: t then f k else 0) (g := fun k => if k ∈ t then f k else 0) (n := N) (o := a) (hN a List.mem_cons_self) (fun k _ hk => by
      by_cases h : k ∈ t
      · rw [if_pos h, if_pos (List.mem_cons_of_mem _ h)]
      · rw [if_neg h, if_neg (fun q => by rcases List.mem_cons.mp q with q | q; exact hk q; exact h q)])
    rw [h2]
    simp only [List.mem_cons, true_or, if_true, if_neg h1.1]
    show f a + sumL f t = _
    rw [ih]
    omega
theorem sumL_1 (L : List Nat) : sumL (fun _ => 1) L = L.length := by
  induction L with
  | nil => rfl
  | cons a t ih => show 1 + sumL (fun _ => 1) t = _; rw [ih, List.length_cons]; omega
theorem lkL.len {S : zS} {N : Nat} {c : Int} {L : List Nat} (h : lkL S N c L) : L.length ≤ N := by
  have h1 := sumL_sm (fun _ => 1) h.1 (fun a ha => h.lt ha)
  rw [sumL_1] at h1
  have h2 := sm_le2 (f := fun k => if k ∈ L then 1 else 0) (b := 1) (n := N) (fun k _ => by split <;> omega)
  omega
/-- a sum over a chain is one over the rows -/
theorem bkL.sum {S : zS} {N : Nat} {c : Int} {L : List Nat} (h : bkL S N c L) (f : Nat → Int) : sumL f L = sm (fun k => if act S c k then f k else 0) N := by
  rw [sumL_sm f h.nd (fun a ha => ((h.2 a).mp ha).1)]
  refine sm_congr (fun k hk => ?_)
  by_cases q : act S c k
  · rw [if_pos q, if_pos ((h.2 k).mpr ⟨hk, q⟩)]
  · rw [if_neg q, if_neg (fun z => q ((h.2 k).mp z).2)]
theorem bkL.fst_nil {S : zS} {N : Nat} {c : Int} (h : bkL S N c []) : fst S c N < 0 := by
  rcases Int.lt_or_le (fst S c N) 0 with q | q
  · exact q
  · obtain ⟨o, ho⟩ := Int.eq_ofNat_of_zero_le q
    have h1 := fst_pos ho
    exact absurd ((h.2 o).mpr ⟨h1.1, h1.2.1⟩) List.not_mem_nil
theorem bkL.fst_cons {S : zS} {N : Nat} {c : Int} {a : Nat} {t : List Nat} (h : bkL S N c (a :: t)) : fst S c N = a := by
  have ha := (h.2 a).mp List.mem_cons_self
  rcases Int.lt_or_le (fst S c N) 0 with q | q
  · exact absurd ha.2 (fst_neg q a ha.1)
  · obtain ⟨o, ho⟩ := Int.eq_ofNat_of_zero_le q
    have h1 := fst_pos ho
    have h2 := (h.2 o).mpr ⟨h1.1, h1.2.1⟩
    rcases List.mem_cons.mp h2 with e | e
    · rw [ho, e]
    · exact absurd ((List.pairwise_cons.mp h.1).1 o e) (h1.2.2 a ha.1 ha.2)
theorem bkL.hd {S : zS} {N : Nat} {c : Int} {L : List Nat} (h : bkL S N c L) : hd L = if fst S c N < 0 then 0 else 30 + (fst S c N).toNat := by
  cases L with
  | nil => rw [if_pos h.fst_nil]; rfl
  | cons a t => rw [h.fst_cons, if_neg (by omega), Int.toNat_natCast]; rfl
theorem pair_imp {R Q : Nat → Nat → Prop} {L : List Nat} (h : L.Pairwise R) (hi : ∀ a b, a ∈ L → b ∈ L → R a b → Q a b) : L.Pairwise Q := by
  induction L with
  | nil => exact List.Pairwise.nil
  | cons a t ih =>
    have h1 := List.pairwise_cons.mp h
    exact List.pairwise_cons.mpr ⟨fun b hb => hi a b List.mem_cons_self (List.mem_cons_of_mem _ hb) (h1.1 b hb), ih h1.2 (fun x y hx hy => hi x y (List.mem_cons_of_mem _ hx) (List.mem_cons_of_mem _ hy))⟩
/-- nothing of the book changes -/
theorem bkL.cong {S S' : zS} {N : Nat} {c : Int} {L : List Nat} (h : bkL S N c L) (ha : ∀ k, k < N → (act S' c k ↔ act S c k)) (hp : ∀ k, act S c k → S' 16 k = S 16 k ∧ S' 23 k = S 23 k) : bkL S' N c L := by
  refine ⟨pair_imp h.1 (fun a b ha hb hab => ?_), fun k => (h.2 k).trans ⟨fun q => ⟨q.1, (ha k q.1).mpr q.2⟩, fun q => ⟨q.1, (ha k q.1).mp q.2⟩⟩⟩
  have h1 := hp a ((h.2 a).mp ha).2
  have h2 := hp b ((h.2 b).mp hb).2
  unfold bef
  rw [h1.1, h1.2, h2.1, h2.2]
  exact hab
theorem bk.cong {S S' : zS} {N : Nat} {X : xS} (h : bk S N X) (h14 : ∀ k, k < N → (S' 14 k = 97 ↔ S 14 k = 97)) (h13 : ∀ k, S' 13 k = S 13 k) (h16 : ∀ k, S' 16 k = S 16 k) (h23 : ∀ k, S 14 k = 97 → S' 23 k = S 23 k) : bk S' N X := fun c hc =>
  (h c hc).cong (fun k hk => by unfold act; rw [h13, h14 k hk]) (fun k hk => ⟨h16 k, h23 k hk.1⟩)
/-- an order leaves a chain -/
theorem bkL.rm {S S' : zS} {N : Nat} {c : Int} {L : List Nat} {o : Nat} (h : bkL S N c L) (ha : ∀ k, k < N → (act S' c k ↔ act S c k ∧ k ≠ o)) (hp : ∀ k, act S c k → S' 16 k = S 16 k ∧ S' 23 k = S 23 k) : bkL S' N c (rmv o L) := by
  refine ⟨pair_imp (h.1.sublist (rmv_sub o L)) (fun a b ha hb hab => ?_), fun k => ?_⟩
  · have h1 := hp a ((h.2 a).mp ((rmv_sub o L).subset ha)).2
    have h2 := hp b ((h.2 b).mp ((rmv_sub o L).subset hb)).2
    unfold bef
    rw [h1.1, h1.2, h2.1, h2.2]
    exact hab
  · rw [rmv_mem h.nd, h.2 k]
    refine ⟨fun q => ⟨q.1.1, (ha k q.1.1).mpr ⟨q.1.2, q.2⟩⟩, fun q => ?_⟩
    have := (ha k q.1).mp q.2
    exact ⟨⟨q.1, this.1⟩, this.2⟩
theorem insL_mem {S : zS} {c : Int} {k j : Nat} {L : List Nat} : j ∈ insL S c k L ↔ j = k ∨ j ∈ L := by
  induction L with
  | nil => exact List.mem_cons
  | cons a t ih =>
    show j ∈ (if _ then k :: a :: t else a :: insL S c k t) ↔ _
    split
    · exact List.mem_cons
    · rw [List.mem_cons, ih, List.mem_cons]
      exact ⟨fun q => by rcases q with q | q | q; exact Or.inr (Or.inl q); exact Or.inl q; exact Or.inr (Or.inr q), fun q => by rcases q with q | q | q; exact Or.inr (Or.inl q); exact Or.inl q; exact Or.inr (Or.inr q)⟩
theorem ins_pair {S S' : zS} {c : Int} {k : Nat} {L : List Nat} (h : L.Pairwise (bef S c)) (hk : k ∉ L) (h16 : ∀ j, S' 16 j = S 16 j) (h23 : ∀ j, j ∈ L → S' 23 j = S 23 j) (hb : ∀ j, j ∈ L → S 23 j < S' 23 k) : (insL S c k L).Pairwise (bef S' c) := by
  induction L with
  | nil => exact List.pairwise_singleton _ _
  | cons a t ih =>
    have h1 := List.pairwise_cons.mp h
    have ea := h23 a List.mem_cons_self
    have eb := hb a List.mem_cons_self
    have ih := ih h1.2 (fun q => hk (List.mem_cons_of_mem _ q)) (fun j hj => h23 j (List.mem_cons_of_mem _ hj)) (fun j hj => hb j (List.mem_cons_of_mem _ hj))
    show (if ahd c (S 16 k) (S 16 a) then k :: a :: t else a :: insL S c k t).Pairwise _
    split
    · rename_i hq
      refine List.pairwise_cons.mpr ⟨fun x hx => ?_, pair_imp h (fun x y hx hy hxy => ?_)⟩
      · unfold bef
        rw [h16, h16]
        left
        rcases List.mem_cons.mp hx with e | e
        · rw [e]; exact hq
        · have := h1.1 x e
          unfold bef ahd at this
          unfold ahd at hq ⊢
          omega
      · unfold bef
        rw [h16, h16, h23 x hx, h23 y hy]
        exact hxy
    · rename_i hq
      refine List.pairwise_cons.mpr ⟨fun x hx => ?_, ih⟩
      unfold bef
      rw [h16, h16]
      rcases insL_mem.mp hx with e | e
      · subst e
        rw [ea]
        unfold ahd at hq ⊢
        omega
      · have := h1.1 x e
        rw [ea, h23 x (List.mem_cons_of_mem _ e)]
        exact this
/-- an order goes behind the last one of its level -/
theorem bkL.ins {S S' : zS} {N : Nat} {c : Int} {L : List Nat} {k : Nat} (h : bkL S N c L) (hk : ¬ act S c k) (ha : ∀ j, j < N → (act S' c j ↔ j = k ∨ act S c j)) (hN : k < N) (h16 : ∀ j, S' 16 j = S 16 j) (h23 : ∀ j, act S c j → S' 23 j = S 23 j) (hb : ∀ j, j < N → act S c j → S 23 j < S' 23 k) : bkL S' N c (insL S c k L) := by
  refine ⟨ins_pair h.1 (fun q => hk ((h.2 k).mp q).2) h16 (fun j hj => h23 j ((h.2 j).mp hj).2) (fun j hj => hb j ((h.2 j).mp hj).1 ((h.2 j).mp hj).2), fun j => ?_⟩
  rw [insL_mem, h.2 j]
  refine ⟨fun q => ?_, fun q => ?_⟩
  · rcases q with q | q
    · rw [q]; exact ⟨hN, (ha k hN).mpr (Or.inl rfl)⟩
    · exact ⟨q.1, (ha j q.1).mpr (Or.inr q.2)⟩
  · rcases (ha j q.1).mp q.2 with e | e
    · exact Or.inl e
    · exact Or.inr ⟨q.1, e⟩
/-- the chain of one side changes, the other's orders stay -/
theorem bk.up {S S' : zS} {N : Nat} {X : xS} {c : Int} {L : List Nat} (h : bk S N X) (hL : bkL S' N c L) (ho : ∀ d, sC d → d ≠ c → (∀ k, k < N → (act S' d k ↔ act S d k)) ∧ ∀ k, act S d k → S' 16 k = S 16 k ∧ S' 23 k = S 23 k) : bk S' N (upL X c L) := fun d hd => by
  by_cases e : d = c
  · subst e; rw [upL_s]; exact hL
  · rw [upL_o _ _ e]
    exact (h d hd).cong (ho d hd e).1 (ho d hd e).2
theorem bk.P {S : zS} {N : Nat} {X : xS} (h : bk S N X) (ho : ∀ k, k < N → oI S k) (hN : N ≤ 1000) : bkP S N X := fun c hc => ⟨(h c hc).lk, fun a ha => by
  have := (ho a ((h c hc).lk.lt ha)).2.2.2.2.2.1
  omega, by have := (h c hc).lk.len; omega⟩
