/-! ===== the class's levels are the reference's ===== -/
/-- the prices of a chain, each once; q: the price before -/
def dp (S : zS) : Int → List Nat → List Int
  | _, [] => []
  | q, a :: t => if S 16 a = q then dp S q t else S 16 a :: dp S (S 16 a) t
def gL : List Int → Int → Int
  | [], _ => 0
  | P :: D, i => if i = 0 then P else gL D (i - 1)
theorem lvC_dp (S : zS) (L : List Nat) : ∀ q, lvC S q L = (dp S q L).length := by
  induction L with
  | nil => intro q; rfl
  | cons a t ih =>
    intro q
    show (if S 16 a = q then lvC S q t else 1 + lvC S (S 16 a) t) = ((if S 16 a = q then dp S q t else S 16 a :: dp S (S 16 a) t).length : Int)
    split
    · exact ih q
    · rw [ih, List.length_cons]; omega
/-- q comes no later than the prices of a chain, which are in order -/
def mon (S : zS) (c q : Int) (L : List Nat) : Prop := L.Pairwise (fun a b => ¬ ahd c (S 16 b) (S 16 a)) ∧ ∀ a, a ∈ L → 1 ≤ S 16 a ∧ (q = 0 ∨ ¬ ahd c (S 16 a) q)
theorem mon.tl {S : zS} {c q : Int} {a : Nat} {t : List Nat} (h : mon S c q (a :: t)) : mon S c q t ∧ mon S c (S 16 a) t := by
  have h1 := List.pairwise_cons.mp h.1
  exact ⟨⟨h1.2, fun b hb => h.2 b (List.mem_cons_of_mem _ hb)⟩, ⟨h1.2, fun b hb => ⟨(h.2 b (List.mem_cons_of_mem _ hb)).1, Or.inr (h1.1 b hb)⟩⟩⟩
theorem bkL.mon {S : zS} {N : Nat} {c : Int} {L : List Nat} (h : bkL S N c L) (hp : ∀ k, k < N → pv (S 16 k)) : mon S c 0 L :=
  ⟨h.1.imp (fun {a b} hab => by unfold bef ahd at hab; unfold ahd; omega), fun a ha => ⟨(hp a ((h.2 a).mp ha).1).1, Or.inl rfl⟩⟩
theorem hO_spec {S : zS} {c lv : Int} {L : List Nat} : ∀ {r q : Int}, mon S c q L → (hO S lv r q L = 0 ∧ gL (dp S q L) (lv - r - 1) = 0) ∨ ∃ p a t, L = p ++ a :: t ∧ hO S lv r q L = 30 + a ∧ gL (dp S q L) (lv - r - 1) = S 16 a ∧ S 16 a ≠ q ∧ ∀ b, b ∈ p → S 16 b ≠ S 16 a := by
  induction L with
  | nil => intro r q _; exact Or.inl ⟨rfl, rfl⟩
  | cons a t ih =>
    intro r q h
    have ht := h.tl
    have ha := h.2 a List.mem_cons_self
    have e1 : hO S lv r q (a :: t) = if S 16 a = q then hO S lv r q t else if r + 1 = lv then 30 + a else hO S lv (r + 1) (S 16 a) t := rfl
    have e2 : dp S q (a :: t) = if S 16 a = q then dp S q t else S 16 a :: dp S (S 16 a) t := rfl
    by_cases hq : S 16 a = q
    · rw [e1, e2, if_pos hq, if_pos hq]
      rcases ih ht.1 (r := r) with i | ⟨p, b, u, i1, i2, i3, i4, i5⟩
      · exact Or.inl i
      · refine Or.inr ⟨a :: p, b, u, by rw [i1]; rfl, i2, i3, i4, fun x hx => ?_⟩
        rcases List.mem_cons.mp hx with e | e
        · rw [e, hq]; exact Ne.symm i4
        · exact i5 x e
    · rw [e1, e2, if_neg hq, if_neg hq]
      have e3 : gL (S 16 a :: dp S (S 16 a) t) (lv - r - 1) = if lv - r - 1 = 0 then S 16 a else gL (dp S (S 16 a) t) (lv - r - 1 - 1) := rfl
      by_cases hl : r + 1 = lv
      · rw [if_pos hl, e3, if_pos (by omega)]
        exact Or.inr ⟨[], a, t, rfl, rfl, rfl, hq, fun b hb => nomatch hb⟩
      · rw [if_neg hl, e3, if_neg (by omega)]
        have e4 : lv - r - 1 - 1 = lv - (r + 1) - 1 := by omega
        rw [e4]
        rcases ih ht.2 (r := r + 1) with i | ⟨p, b, u, i1, i2, i3, i4, i5⟩
        · exact Or.inl i
        · have hb : b ∈ t := by rw [i1]; simp
          have hab := (List.pairwise_cons.mp h.1).1 b hb
          have hb1 := (ht.1.2 b hb).1
          refine Or.inr ⟨a :: p, b, u, by rw [i1]; rfl, i2, i3, ?_, fun x hx => ?_⟩
          · intro z
            rcases ha.2 with y | y
            · omega
            · unfold ahd at hab y; omega
          · rcases List.mem_cons.mp hx with e | e
            · rw [e]; exact Ne.symm i4
            · exact i5 x e
theorem dp_mem {S : zS} {c : Int} {L : List Nat} : ∀ {q : Int}, mon S c q L → ∀ P, P ∈ dp S q L ↔ P ≠ q ∧ ∃ a, a ∈ L ∧ S 16 a = P := by
  induction L with
  | nil => intro q _ P; exact ⟨(fun h => nomatch h), (fun ⟨_, _, h, _⟩ => nomatch h)⟩
  | cons a t ih =>
    intro q h P
    have ht := h.tl
    have ha := h.2 a List.mem_cons_self
    show P ∈ (if S 16 a = q then dp S q t else S 16 a :: dp S (S 16 a) t) ↔ _
    by_cases hq : S 16 a = q
    · rw [if_pos hq, ih ht.1]
      refine ⟨fun ⟨z, b, hb, e⟩ => ⟨z, b, List.mem_cons_of_mem _ hb, e⟩, fun ⟨z, b, hb, e⟩ => ⟨z, b, ?_, e⟩⟩
      rcases List.mem_cons.mp hb with y | y
      · exact absurd (e.symm.trans (by rw [y, hq])) z
      · exact y
    · rw [if_neg hq, List.mem_cons, ih ht.2]
      refine ⟨fun z => ?_, fun ⟨z, b, hb, e⟩ => ?_⟩
      · rcases z with z | ⟨z, b, hb, e⟩
        · exact ⟨by rw [z]; exact hq, a, List.mem_cons_self, z.symm⟩
        · refine ⟨fun y => ?_, b, List.mem_cons_of_mem _ hb, e⟩
          have hab := (List.pairwise_cons.mp h.1).1 b hb
          have hb1 := (ht.1.2 b hb).1
          rcases ha.2 with x | x
          · omega
          · unfold ahd at hab x; omega
      · by_cases y : P = S 16 a
        · exact Or.inl y
        · right
          refine ⟨y, b, ?_, e⟩
          rcases List.mem_cons.mp hb with x | x
          · rw [x] at e; exact absurd e.symm y
          · exact x
theorem dp_pair {S : zS} {c : Int} {L : List Nat} : ∀ {q : Int}, mon S c q L → (dp S q L).Pairwise (ahd c) := by
  induction L with
  | nil => intro q _; exact List.Pairwise.nil
  | cons a t ih =>
    intro q h
    have ht := h.tl
    show (if S 16 a = q then dp S q t else S 16 a :: dp S (S 16 a) t).Pairwise (ahd c)
    by_cases hq : S 16 a = q
    · rw [if_pos hq]; exact ih ht.1
    · rw [if_neg hq]
      refine List.pairwise_cons.mpr ⟨fun P hP => ?_, ih ht.2⟩
      obtain ⟨z, b, hb, e⟩ := (dp_mem ht.2 P).mp hP
      have hab := (List.pairwise_cons.mp h.1).1 b hb
      unfold ahd at *
      omega
theorem manyAt_pos {S : zS} {N : Nat} {c P : Int} : manyAt S N c P ≠ 0 ↔ ∃ k, k < N ∧ isAtP S k c P := by
  constructor
  · intro h
    induction N with
    | zero => exact absurd rfl h
    | succ n ih =>
      have e : manyAt S (n + 1) c P = manyAt S n c P + bi (isAtP S n c P) := rfl
      by_cases q : isAtP S n c P
      · exact ⟨n, by omega, q⟩
      · rw [e, bi_f q] at h
        obtain ⟨k, hk, hq⟩ := ih (by omega)
        exact ⟨k, by omega, hq⟩
  · intro ⟨k, hk, hq⟩
    have h1 := sm_ge (f := fun k => bi (isAtP S k c P)) (fun j => (bi_le _).1) hk
    have h2 : bi (isAtP S k c P) = 1 := bi_t hq
    simp only [h2] at h1
    unfold manyAt
    omega
def ix (c P : Int) : Int := if c = 98 then 301 - P else P
theorem ix_ahd (c P Q : Int) : ahd c P Q ↔ ix c P < ix c Q := by unfold ahd ix; split <;> omega
theorem ix_try (c : Int) (p : Nat) : ix c (tryP c p) = p := by unfold ix tryP; split <;> omega
theorem ix_inj {c P Q : Int} (h : ix c P = ix c Q) : P = Q := by unfold ix at h; split at h <;> omega
theorem lvP_gL {S : zS} {N : Nat} {c lv : Int} (n : Nat) : ∀ (p : Nat) (D : List Int), p + n = 301 → 1 ≤ p → D.Pairwise (ahd c) → (∀ P, P ∈ D → manyAt S N c P ≠ 0 ∧ p ≤ ix c P ∧ ix c P ≤ 300) → (∀ P, manyAt S N c P ≠ 0 → p ≤ ix c P → P ∈ D) → lvP S N c lv p n = gL D (lv - aheadL S N c (p - 1)) := by
  induction n with
  | zero =>
    intro p D hp h1 hD hin hall
    cases D with
    | nil => rfl
    | cons P D => have := hin P List.mem_cons_self; omega
  | succ n ih =>
    intro p D hp h1 hD hin hall
    have eA := aheadL_suc S N c h1
    have ih := fun D => ih (p + 1) D (by omega) (by omega)
    rw [show p + 1 - 1 = p by omega, eA] at ih
    rw [lvP_suc]
    have hix := ix_try c p
    by_cases hm : manyAt S N c (tryP c p) ≠ 0
    · have hT := hall (tryP c p) hm (by omega)
      cases D with
      | nil => cases hT
      | cons P D =>
        have hPc := List.pairwise_cons.mp hD
        have e : P = tryP c p := by
          rcases List.mem_cons.mp hT with z | z
          · exact z.symm
          · have h2 := (ix_ahd c P _).mp (hPc.1 _ z)
            have h3 := (hin P List.mem_cons_self).2.1
            omega
        subst e
        have eG : gL (tryP c p :: D) (lv - aheadL S N c (p - 1)) = if lv - aheadL S N c (p - 1) = 0 then tryP c p else gL D (lv - aheadL S N c (p - 1) - 1) := rfl
        rw [eG]
        rw [bi_t hm] at ih
        by_cases hl : aheadL S N c (p - 1) = lv
        · rw [if_pos ⟨hm, hl⟩, if_pos (by omega)]
        · rw [if_neg (fun z => hl z.2), if_neg (by omega), ih D hPc.2 (fun P hP => ?_) (fun P hP hi => ?_)]
          · congr 1; omega
          · have h2 := hin P (List.mem_cons_of_mem _ hP)
            have h3 := (ix_ahd c _ P).mp (hPc.1 P hP)
            exact ⟨h2.1, by omega, h2.2.2⟩
          · rcases List.mem_cons.mp (hall P hP (by omega)) with z | z
            · rw [z] at hi; omega
            · exact z
    · rw [if_neg (fun z => hm z.1)]
      rw [bi_f hm, Int.add_zero] at ih
      refine ih D hD (fun P hP => ?_) (fun P hP hi => hall P hP (by omega))
      have h2 := hin P hP
      refine ⟨h2.1, ?_, h2.2.2⟩
      have : ix c P ≠ p := fun z => by
        have : P = tryP c p := ix_inj (z.trans hix.symm)
        exact hm (this ▸ h2.1)
      omega
theorem priceL_gL {S : zS} {N : Nat} {c : Int} {L : List Nat} (h : bkL S N c L) (hp : ∀ k, k < N → pv (S 16 k)) (lv : Int) : priceL S N c lv = gL (dp S 0 L) lv := by
  have hm := h.mon hp
  have hall : ∀ P, manyAt S N c P ≠ 0 ↔ P ∈ dp S 0 L := fun P => by
    rw [manyAt_pos, dp_mem hm]
    constructor
    · intro ⟨k, hk, q⟩
      have := hp k hk
      refine ⟨fun z => ?_, k, (h.2 k).mpr ⟨hk, q.1, q.2.1⟩, q.2.2⟩
      have h1 := this.1
      rw [q.2.2] at h1; omega
    · intro ⟨z, a, ha, e⟩
      have h1 := (h.2 a).mp ha
      exact ⟨a, h1.1, h1.2.1, h1.2.2, e⟩
  have hr : ∀ P, manyAt S N c P ≠ 0 → 1 ≤ ix c P ∧ ix c P ≤ 300 := fun P z => by
    obtain ⟨k, hk, q⟩ := manyAt_pos.mp z
    have h1 := hp k hk
    have h2 := h1.1
    have h3 := h1.2.1
    rw [q.2.2] at h2 h3
    unfold ix
    split <;> omega
  have := lvP_gL (S := S) (N := N) (c := c) (lv := lv) 300 1 (dp S 0 L) rfl (Nat.le_refl 1) (dp_pair hm) (fun P hP => by
    have := (hall P).mpr hP
    exact ⟨this, (hr P this).1, (hr P this).2⟩) (fun P hP _ => (hall P).mp hP)
  unfold priceL
  rw [this]
  congr 1
  show lv - sm _ 0 = lv
  exact Int.sub_zero lv
theorem gL_out {D : List Int} : ∀ {i : Int}, i < 0 ∨ D.length ≤ i → gL D i = 0 := by
  induction D with
  | nil => intro i _; rfl
  | cons P D ih =>
    intro i h
    rw [List.length_cons] at h
    show (if i = 0 then P else gL D (i - 1)) = 0
    rw [if_neg (by omega)]
    exact ih (by omega)
theorem gL_in {D : List Int} (hD : ∀ P, P ∈ D → P ≠ 0) : ∀ {i : Int}, 0 ≤ i → i < D.length → gL D i ≠ 0 := by
  induction D with
  | nil => intro i _ h; simp at h; omega
  | cons P D ih =>
    intro i h0 h
    rw [List.length_cons] at h
    show (if i = 0 then P else gL D (i - 1)) ≠ 0
    split
    · exact hD P List.mem_cons_self
    · exact ih (fun Q hQ => hD Q (List.mem_cons_of_mem _ hQ)) (by omega) (by omega)
/-- the number of levels, by the reference -/
theorem levels_ok {S : zS} {N : Nat} {c : Int} {L : List Nat} (h : bkL S N c L) (hp : ∀ k, k < N → pv (S 16 k)) (hN : N ≤ 1000) : ∃ n : Nat, n ≤ 1000 ∧ lvC S 0 L = n ∧ (∀ i : Nat, i < n → priceL S N c i ≠ 0) ∧ priceL S N c n = 0 := by
  have hm := h.mon hp
  have hlen : ∀ (L : List Nat) (q : Int), (dp S q L).length ≤ L.length := by
    intro L
    induction L with
    | nil => intro q; exact Nat.le_refl 0
    | cons a t ih =>
      intro q
      show (if S 16 a = q then dp S q t else S 16 a :: dp S (S 16 a) t).length ≤ _
      have h1 := ih q
      have h2 := ih (S 16 a)
      split
      · rw [List.length_cons]; omega
      · rw [List.length_cons, List.length_cons]; omega
  have h1 := hlen L 0
  have h2 := h.lk.len
  refine ⟨(dp S 0 L).length, by omega, lvC_dp S L 0, fun i hi => ?_, ?_⟩
  · rw [priceL_gL h hp]
    exact gL_in (fun P hP => ((dp_mem hm P).mp hP).1) (by omega) (by omega)
  · rw [priceL_gL h hp]
    exact gL_out (Or.inr (Int.le_refl _))
/-- the first order of a level, by the class -/
theorem head_ok {S : zS} {N : Nat} {c : Int} {L : List Nat} (h : bkL S N c L) (hp : ∀ k, k < N → pv (S 16 k)) (lv : Int) : (hO S lv (-1) 0 L = 0 ∧ priceL S N c lv = 0) ∨ ∃ p a t, L = p ++ a :: t ∧ hO S lv (-1) 0 L = 30 + a ∧ priceL S N c lv = S 16 a ∧ 1 ≤ S 16 a ∧ ∀ b, b ∈ p → S 16 b ≠ S 16 a := by
  rw [priceL_gL h hp]
  have h1 := hO_spec (lv := lv) (r := -1) (h.mon hp)
  rw [show lv - -1 - 1 = lv by omega] at h1
  rcases h1 with i | ⟨p, a, t, i1, i2, i3, i4, i5⟩
  · exact Or.inl i
  · exact Or.inr ⟨p, a, t, i1, i2, i3, ((h.mon hp).2 a (by rw [i1]; simp)).1, i5⟩
/-- the sum over the orders of a level, from its first one on -/
def wk (S : zS) (P : Int) (f : Nat → Int) : List Nat → Int
  | [] => 0
  | b :: t => if S 16 b = P then f b + wk S P f t else 0
theorem sumL_app (f : Nat → Int) (p t : List Nat) : sumL f (p ++ t) = sumL f p + sumL f t := by
  induction p with
  | nil => exact (Int.zero_add _).symm
  | cons a p ih => show f a + sumL f (p ++ t) = f a + sumL f p + sumL f t; rw [ih]; omega
theorem sumL_none {f : Nat → Int} {L : List Nat} (h : ∀ a, a ∈ L → f a = 0) : sumL f L = 0 := by
  induction L with
  | nil => rfl
  | cons a t ih => show f a + sumL f t = 0; rw [h a List.mem_cons_self, ih (fun b hb => h b (List.mem_cons_of_mem _ hb))]; rfl
theorem wk_sum {S : zS} {c P : Int} (f : Nat → Int) {L : List Nat} (h : mon S c P L) (hP : P ≠ 0) : wk S P f L = sumL (fun k => if S 16 k = P then f k else 0) L := by
  induction L with
  | nil => rfl
  | cons a t ih =>
    have ht := h.tl
    show (if S 16 a = P then f a + wk S P f t else 0) = (if S 16 a = P then f a else 0) + sumL _ t
    by_cases e : S 16 a = P
    · rw [if_pos e, if_pos e, ih ht.1]
    · rw [if_neg e, if_neg e, sumL_none]; · rfl
      intro b hb
      have hab := (List.pairwise_cons.mp h.1).1 b hb
      have ha := (h.2 a List.mem_cons_self).2
      refine if_neg (fun z => ?_)
      unfold ahd at *
      omega
theorem wk_at {S : zS} {N : Nat} {c : Int} {L p t : List Nat} {a : Nat} (h : bkL S N c L) (hp : ∀ k, k < N → pv (S 16 k)) (e : L = p ++ a :: t) (hn : ∀ b, b ∈ p → S 16 b ≠ S 16 a) (f : Nat → Int) : wk S (S 16 a) f (a :: t) = sumAt f S N c (S 16 a) := by
  have hm := h.mon hp
  have ha : 1 ≤ S 16 a := (hm.2 a (by rw [e]; simp)).1
  have hm2 : mon S c (S 16 a) (a :: t) := by
    rw [e] at hm
    have h1 := List.pairwise_append.mp hm.1
    refine ⟨h1.2.1, fun b hb => ⟨(hm.2 b (List.mem_append_right _ hb)).1, Or.inr ?_⟩⟩
    rcases List.mem_cons.mp hb with z | z
    · rw [z]; unfold ahd; omega
    · exact (List.pairwise_cons.mp h1.2.1).1 b z
  rw [wk_sum f hm2 (by omega)]
  have e1 : sumL (fun k => if S 16 k = S 16 a then f k else 0) (a :: t) = sumL (fun k => if S 16 k = S 16 a then f k else 0) L := by
    rw [e, sumL_app, sumL_none (L := p) (fun b hb => if_neg (hn b hb)), Int.zero_add]
  rw [e1, h.sum]
  refine sm_congr (fun k hk => ?_)
  by_cases q : act S c k
  · rw [if_pos q]
    by_cases z : S 16 k = S 16 a
    · rw [if_pos z, if_pos ⟨q.1, q.2, z⟩]
    · rw [if_neg z, if_neg (fun y => z y.2.2)]
  · rw [if_neg q, if_neg (fun y => q ⟨y.1, y.2.1⟩)]
theorem many_sum (S : zS) (N : Nat) (c P : Int) : sumAt (fun _ => 1) S N c P = manyAt S N c P := rfl
/-- the order of a place in a level -/
def oA (S : zS) (P pl : Int) : Int → List Nat → Option Nat
  | _, [] => none
  | i, b :: t => if S 16 b = P then (if i = pl then some b else oA S P pl (i + 1) t) else none
/-- how many orders of a chain have a price -/
def cnt (S : zS) (P : Int) (L : List Nat) : Int := sumL (fun k => bi (S 16 k = P)) L
theorem cnt_snoc (S : zS) (P : Int) (p : List Nat) (b : Nat) : cnt S P (p ++ [b]) = cnt S P p + bi (S 16 b = P) := by
  unfold cnt; rw [sumL_app]; show _ + (_ + 0) = _; rw [Int.add_zero]
theorem ahead_cnt {S : zS} {N : Nat} {c P : Int} {L p t : List Nat} {k : Nat} (h : bkL S N c L) (e : L = p ++ k :: t) (hk : S 16 k = P) : aheadO S N c P k = cnt S P p := by
  have e1 : aheadO S N c P k = sumL (fun o => bi (S 16 o = P ∧ S 23 o < S 23 k)) L := by
    rw [h.sum]
    refine sm_congr (fun o ho => ?_)
    by_cases q : act S c o
    · rw [if_pos q]
      by_cases z : S 16 o = P ∧ S 23 o < S 23 k
      · rw [bi_t z, bi_t ⟨⟨q.1, q.2, z.1⟩, z.2⟩]
      · rw [bi_f z, bi_f (fun y => z ⟨y.1.2.2, y.2⟩)]
    · rw [if_neg q, bi_f (fun y => q ⟨y.1.1, y.1.2.1⟩)]
  rw [e1, e, sumL_app]
  have hP := h.1
  rw [e] at hP
  have h1 := List.pairwise_append.mp hP
  have h2 := List.pairwise_cons.mp h1.2.1
  rw [sumL_none (L := k :: t) (fun o ho => bi_f (fun y => by
    rcases List.mem_cons.mp ho with z | z
    · rw [z] at y; omega
    · have := h2.1 o z
      unfold bef ahd at this
      omega)), Int.add_zero]
  unfold cnt
  have : ∀ (u : List Nat), (∀ o, o ∈ u → o ∈ p) → sumL (fun o => bi (S 16 o = P ∧ S 23 o < S 23 k)) u = sumL (fun o => bi (S 16 o = P)) u := by
    intro u
    induction u with
    | nil => intro _; rfl
    | cons o u ih =>
      intro hu
      show bi _ + sumL _ u = bi _ + sumL _ u
      rw [ih (fun x hx => hu x (List.mem_cons_of_mem _ hx))]
      have hb := h1.2.2 o (hu o List.mem_cons_self) k List.mem_cons_self
      by_cases z : S 16 o = P
      · rw [bi_t z, bi_t ⟨z, by unfold bef ahd at hb; omega⟩]
      · rw [bi_f z, bi_f (fun y => z y.1)]
  exact this p (fun o ho => ho)
theorem oA_spec {S : zS} {N : Nat} {c P pl : Int} {L : List Nat} (h : bkL S N c L) (hP : P ≠ 0) : ∀ (t p : List Nat), L = p ++ t → mon S c P t → (∀ k u v, L = u ++ k :: v → k ∈ p → S 16 k = P → cnt S P u ≠ pl) → match oA S P pl (cnt S P p) t with
    | some k => k < N ∧ ordQ S N c P pl k
    | none => ∀ k, k < N → ¬ ordQ S N c P pl k := by
  intro t
  induction t with
  | nil =>
    intro p e hm hno
    show ∀ k, k < N → ¬ ordQ S N c P pl k
    intro k hk hq
    have hkL : k ∈ L := (h.2 k).mpr ⟨hk, hq.1.1, hq.1.2.1⟩
    obtain ⟨u, v, e2⟩ := List.append_of_mem hkL
    have h3 := ahead_cnt h e2 hq.1.2.2
    rw [e, List.append_nil] at hkL
    exact hno k u v e2 hkL hq.1.2.2 (h3.symm.trans hq.2)
  | cons b t ih =>
    intro p e hm hno
    have ht := hm.tl
    show match (if S 16 b = P then (if cnt S P p = pl then some b else oA S P pl (cnt S P p + 1) t) else none) with
      | some k => k < N ∧ ordQ S N c P pl k
      | none => ∀ k, k < N → ¬ ordQ S N c P pl k
    have hbL : b ∈ L := by rw [e]; simp
    have hbN := (h.2 b).mp hbL
    by_cases hb : S 16 b = P
    · rw [if_pos hb]
      by_cases hl : cnt S P p = pl
      · rw [if_pos hl]
        exact ⟨hbN.1, ⟨hbN.2.1, hbN.2.2, hb⟩, (ahead_cnt h e hb).trans hl⟩
      · rw [if_neg hl]
        have i := ih (p ++ [b]) (by rw [e]; exact snoc_eq b t) ht.1 (fun k u v e2 hk hq => by
          rcases List.mem_append.mp hk with z | z
          · exact hno k u v e2 z hq
          · have z := List.mem_singleton.mp z
            subst z
            have h1 := ahead_cnt h e2 hq
            have h2 := ahead_cnt h e hq
            rw [← h1, h2]; exact hl)
        rw [cnt_snoc, bi_t hb] at i
        exact i
    · rw [if_neg hb]
      show ∀ k, k < N → ¬ ordQ S N c P pl k
      intro k hk hq
      have hkL : k ∈ L := (h.2 k).mpr ⟨hk, hq.1.1, hq.1.2.1⟩
      obtain ⟨u, v, e2⟩ := List.append_of_mem hkL
      have h3 := ahead_cnt h e2 hq.1.2.2
      have hkp : k ∈ p := by
        rw [e] at hkL
        rcases List.mem_append.mp hkL with z | z
        · exact z
        · exfalso
          have hbm := (hm.2 b List.mem_cons_self).2
          rcases List.mem_cons.mp z with y | y
          · rw [y] at hq; exact hb hq.1.2.2
          · have := (List.pairwise_cons.mp hm.1).1 k y
            have := hq.1.2.2
            unfold ahd at *
            omega
      exact hno k u v e2 hkp hq.1.2.2 (h3.symm.trans hq.2)
theorem ord_uniq {S : zS} {N : Nat} {c P pl : Int} (hs : stI S N) {j k : Nat} (hj : j < N) (hk : k < N) (qj : ordQ S N c P pl j) (qk : ordQ S N c P pl k) : j = k := by
  have key : ∀ {j k : Nat}, j < N → ordQ S N c P pl j → ordQ S N c P pl k → S 23 j < S 23 k → False := fun {j k} hj qj qk h => by
    have h1 := sm_lt (f := fun o => bi (isAtP S o c P ∧ S 23 o < S 23 j)) (g := fun o => bi (isAtP S o c P ∧ S 23 o < S 23 k)) hj (fun o _ => bi_mono (fun z => ⟨z.1, by have := z.2; omega⟩)) (by
      show bi _ + 1 ≤ bi _
      rw [bi_f (fun z => absurd z.2 (by omega)), bi_t ⟨qj.1, h⟩]
      decide)
    have h2 := qj.2
    have h3 := qk.2
    unfold aheadO at h2 h3
    omega
  rcases Int.lt_trichotomy (S 23 j) (S 23 k) with q | q | q
  · exact (key hj qj qk q).elim
  · exact hs j k hj hk qj.1.1 qk.1.1 q
  · exact (key hk qk qj q).elim
theorem oA_fnd {S : zS} {N : Nat} {c pl : Int} {L p t : List Nat} {a : Nat} (h : bkL S N c L) (hp : ∀ k, k < N → pv (S 16 k)) (hs : stI S N) (e : L = p ++ a :: t) (hn : ∀ b, b ∈ p → S 16 b ≠ S 16 a) : fndS (ordQ S N c (S 16 a) pl) N (oA S (S 16 a) pl 0 (a :: t)) := by
  have hm := h.mon hp
  have ha : 1 ≤ S 16 a := (hm.2 a (by rw [e]; simp)).1
  have hm2 : mon S c (S 16 a) (a :: t) := by
    rw [e] at hm
    have h1 := List.pairwise_append.mp hm.1
    refine ⟨h1.2.1, fun b hb => ⟨(hm.2 b (List.mem_append_right _ hb)).1, Or.inr ?_⟩⟩
    rcases List.mem_cons.mp hb with z | z
    · rw [z]; unfold ahd; omega
    · exact (List.pairwise_cons.mp h1.2.1).1 b z
  have h1 := oA_spec (pl := pl) h (P := S 16 a) (by omega) (a :: t) p e hm2 (fun k u v e2 hk hq => absurd hq (hn k hk))
  have hc : cnt S (S 16 a) p = 0 := sumL_none (fun b hb => bi_f (hn b hb))
  rw [hc] at h1
  cases hr : oA S (S 16 a) pl 0 (a :: t) with
  | none => rw [hr] at h1; exact h1
  | some k =>
    rw [hr] at h1
    exact ⟨h1.1, h1.2, fun j hj q => by have := ord_uniq hs (by have := h1.1; omega) h1.1 q h1.2; omega⟩
