/-! ===== words for the walks: exact contracts; the memory as the reference's state and the class's state over a base ===== -/
theorem nar_b0 : nar .boolean 0 = True := eq_true (Or.inl rfl)
theorem nar_b1 : nar .boolean 1 = True := eq_true (Or.inr rfl)
def bi (P : Prop) [Decidable P] : Int := if P then 1 else 0
theorem bi_t {P : Prop} [Decidable P] (h : P) : bi P = 1 := if_pos h
theorem bi_f {P : Prop} [Decidable P] (h : ¬ P) : bi P = 0 := if_neg h
theorem bi_0 (P : Prop) [Decidable P] : (bi P = 0) = ¬ P := by unfold bi; split <;> simp [*]
theorem bi_01 (P : Prop) [Decidable P] : bi P = 0 ∨ bi P = 1 := by unfold bi; split <;> simp
theorem nar_bi (P : Prop) [Decidable P] : nar .boolean (bi P) = True := eq_true (bi_01 P)
theorem nr_0_0 (x : Int) : nar (aTy 0 0) x = True := rfl
theorem nr_0_1 (x : Int) : nar (aTy 0 1) x = True := rfl
theorem nr_0_2 (x : Int) : nar (aTy 0 2) x = True := rfl
theorem nr_1_0 (x : Int) : nar (aTy 1 0) x = (x = 0 ∨ x = 1) := rfl
theorem nr_2_0 (x : Int) : nar (aTy 2 0) x = True := rfl
theorem nr_2_1 (x : Int) : nar (aTy 2 1) x = True := rfl
theorem nr_2_2 (x : Int) : nar (aTy 2 2) x = (x = 0 ∨ x = 1) := rfl
theorem nr_2_3 (x : Int) : nar (aTy 2 3) x = True := rfl
theorem nr_2_4 (x : Int) : nar (aTy 2 4) x = True := rfl
theorem nr_2_5 (x : Int) : nar (aTy 2 5) x = True := rfl
theorem nr_2_6 (x : Int) : nar (aTy 2 6) x = True := rfl
theorem nr_2_7 (x : Int) : nar (aTy 2 7) x = True := rfl
theorem nr_2_8 (x : Int) : nar (aTy 2 8) x = True := rfl
theorem nr_2_9 (x : Int) : nar (aTy 2 9) x = True := rfl
theorem nr_2_10 (x : Int) : nar (aTy 2 10) x = (0 ≤ x ∧ x ≤ 65535) := rfl
theorem nr_3_4 (x : Int) : nar (aTy 3 4) x = True := rfl
theorem nr_3_5 (x : Int) : nar (aTy 3 5) x = True := rfl
theorem nr_4_5 (x : Int) : nar (aTy 4 5) x = True := rfl
theorem nr_4_6 (x : Int) : nar (aTy 4 6) x = True := rfl
theorem nr_4_7 (x : Int) : nar (aTy 4 7) x = (0 ≤ x ∧ x ≤ 65535) := rfl
theorem nr_4_8 (x : Int) : nar (aTy 4 8) x = (x = 0 ∨ x = 1) := rfl
theorem nr_5_0 (x : Int) : nar (aTy 5 0) x = True := rfl
theorem nr_5_12 (x : Int) : nar (aTy 5 12) x = True := rfl
theorem nr_5_13 (x : Int) : nar (aTy 5 13) x = True := rfl
theorem nr_5_18 (x : Int) : nar (aTy 5 18) x = True := rfl
theorem nr_5_21 (x : Int) : nar (aTy 5 21) x = True := rfl
theorem nr_5_22 (x : Int) : nar (aTy 5 22) x = (0 ≤ x ∧ x ≤ 65535) := rfl
theorem nr_5_23 (x : Int) : nar (aTy 5 23) x = (x = 0 ∨ x = 1) := rfl
theorem nr_5_24 (x : Int) : nar (aTy 5 24) x = True := rfl
theorem nr_c (x : Int) : nar .char x = (0 ≤ x ∧ x ≤ 65535) := rfl
theorem nr_z (x : Int) : nar .boolean x = (x = 0 ∨ x = 1) := rfl
theorem nar_i (x : Int) : nar .int x = True := rfl
theorem Ct_of2 {l : Launch} {M : aMd} (hl : l.stackTraces = false) (hy : plainName M.1.cls = true) (hd : Nat.ble 1 M.2.2.2.2.1 = true) {as : List aV} {μ : aM} {K : aRs} {X : aXs} (hc : as.all (fun v => !c2V v) = true) (hn : Nat.ble as.length M.2.2.1 = true) (h : okM μ → okS (rN μ) as → Bd l M K X (rN μ) 0 (as ++ List.replicate (M.2.2.1 - as.length) aU) [] μ 0) : Ct l M as μ K X :=
  Ct_of hl hy (Nat.le_of_ble_eq_true hd) (fun v hv => by have := List.all_eq_true.mp hc v hv; simpa using this) (Nat.le_of_ble_eq_true hn) h
def nX : aXs := fun _ _ => False
/-- M answers exactly r, and leaves exactly μ' -/
def CtE (l : Launch) (M : aMd) (as : List aV) (μ : aM) (r : Option aV) (μ' : aM) : Prop := Ct l M as μ (fun r1 μ1 => r1 = r ∧ μ1 = μ') nX
theorem CtE.use {l : Launch} {M : aMd} {as : List aV} {μ μ' : aM} {r : Option aV} {K : aRs} {X : aXs} (h : CtE l M as μ r μ') (k : okM μ' → (∀ v, r = some v → okV (rN μ') v) → K r μ') : Ct l M as μ K X :=
  Ct.mono h (fun r1 μ1 h1 h2 _ h3 => by obtain ⟨rfl, rfl⟩ := h3; exact k h1 h2) (fun _ _ _ _ h => h.elim)
/-- the contract of a body whose walk comes to one end -/
theorem CtE.of {l : Launch} {M : aMd} (hl : l.stackTraces = false) (hy : plainName M.1.cls = true) (hd : Nat.ble 1 M.2.2.2.2.1 = true) {as : List aV} {μ μ' : aM} {r : Option aV} (hc : as.all (fun v => !c2V v) = true) (hn : Nat.ble as.length M.2.2.1 = true) (h : ∀ K : aRs, okM μ → K r μ' → Bd l M K nX (rN μ) 0 (as ++ List.replicate (M.2.2.1 - as.length) aU) [] μ 0) : CtE l M as μ r μ' :=
  Ct_of2 hl hy hd hc hn (fun hM _ => h _ hM ⟨rfl, rfl⟩)
-- the reference's state
abbrev zS : Type := Nat → Nat → Int
def zu (S : zS) (a j : Nat) (x : Int) : zS := up2 S a j x
theorem zu_eq (S : zS) (a j : Nat) (x : Int) (b i : Nat) : zu S a j x b i = if b = a ∧ i = j then x else S b i := rfl
def put (S : zS) (μ : aM) : aM := (fun a j => if 12 ≤ a ∧ a ≤ 27 then S a j else μ.1 a j, fun a j => if a = 12 ∧ (j = 19 ∨ j = 20) then S 28 j else μ.2.1 a j, μ.2.2)
theorem rI_put (S : zS) (μ : aM) {a : Nat} (h1 : 12 ≤ a) (h2 : a ≤ 27) (j : Nat) : rI (put S μ) a j = S a j := if_pos ⟨h1, h2⟩
theorem rR_put (S : zS) (μ : aM) (a j : Nat) : rR (put S μ) a j = rR μ a j := rfl
theorem rD_put (S : zS) (μ : aM) (a j : Nat) : rD (put S μ) a j = rD μ a j := rfl
theorem rN_put (S : zS) (μ : aM) : rN (put S μ) = rN μ := rfl
theorem rL_put19 (S : zS) (μ : aM) : rL (put S μ) 12 19 = S 28 19 := rfl
theorem rL_put20 (S : zS) (μ : aM) : rL (put S μ) 12 20 = S 28 20 := rfl
theorem okA_put (S : zS) (μ : aM) (a : Nat) : okA (put S μ) a = okA μ a := rfl
theorem sI_put (S : zS) (μ : aM) {a : Nat} (h1 : 12 ≤ a) (h2 : a ≤ 27) (j : Nat) (x : Int) : sI (put S μ) a j x = put (zu S a j x) μ := by
  refine Prod.ext ?_ (Prod.ext ?_ rfl)
  · funext b i
    show (if b = a ∧ i = j then x else if 12 ≤ b ∧ b ≤ 27 then S b i else μ.1 b i) = if 12 ≤ b ∧ b ≤ 27 then (if b = a ∧ i = j then x else S b i) else μ.1 b i
    by_cases h : b = a ∧ i = j
    · rw [if_pos h, if_pos (by omega), if_pos h]
    · simp only [if_neg h]
  · funext b i
    show (if b = 12 ∧ (i = 19 ∨ i = 20) then S 28 i else μ.2.1 b i) = if b = 12 ∧ (i = 19 ∨ i = 20) then (if 28 = a ∧ i = j then x else S 28 i) else μ.2.1 b i
    rw [if_neg (show ¬ (28 = a ∧ i = j) by omega)]
theorem sL_put (S : zS) (μ : aM) {j : Nat} (h : j = 19 ∨ j = 20) (x : Int) : sL (put S μ) 12 j x = put (zu S 28 j x) μ := by
  refine Prod.ext ?_ (Prod.ext ?_ rfl)
  · funext b i
    show (if 12 ≤ b ∧ b ≤ 27 then S b i else μ.1 b i) = if 12 ≤ b ∧ b ≤ 27 then (if b = 28 ∧ i = j then x else S b i) else μ.1 b i
    split
    · rw [if_neg (by omega)]
    · rfl
  · funext b i
    show (if b = 12 ∧ i = j then x else if b = 12 ∧ (i = 19 ∨ i = 20) then S 28 i else μ.2.1 b i) = if b = 12 ∧ (i = 19 ∨ i = 20) then (if 28 = 28 ∧ i = j then x else S 28 i) else μ.2.1 b i
    by_cases h1 : b = 12 ∧ i = j
    · rw [if_pos h1, if_pos (by omega), if_pos ⟨rfl, h1.2⟩]
    · rw [if_neg h1]; split
      · rw [if_neg (by omega)]
      · rfl
theorem sL_put19 (S : zS) (μ : aM) (x : Int) : sL (put S μ) 12 19 x = put (zu S 28 19 x) μ := sL_put S μ (Or.inl rfl) x
theorem sL_put20 (S : zS) (μ : aM) (x : Int) : sL (put S μ) 12 20 x = put (zu S 28 20 x) μ := sL_put S μ (Or.inr rfl) x
/-- what the reference's references are -/
def mref : Nat → Nat
  | 1 => 13
  | 2 => 14
  | 3 => 15
  | 4 => 16
  | 5 => 17
  | 6 => 18
  | 7 => 19
  | 8 => 20
  | 9 => 21
  | 10 => 22
  | 11 => 23
  | 14 => 24
  | 15 => 25
  | 16 => 26
  | 17 => 27
  | _ => 0
theorem mr_1 : mref 1 = 13 := rfl
theorem mr_2 : mref 2 = 14 := rfl
theorem mr_3 : mref 3 = 15 := rfl
theorem mr_4 : mref 4 = 16 := rfl
theorem mr_5 : mref 5 = 17 := rfl
theorem mr_6 : mref 6 = 18 := rfl
theorem mr_7 : mref 7 = 19 := rfl
theorem mr_8 : mref 8 = 20 := rfl
theorem mr_9 : mref 9 = 21 := rfl
theorem mr_10 : mref 10 = 22 := rfl
theorem mr_11 : mref 11 = 23 := rfl
theorem mr_14 : mref 14 = 24 := rfl
theorem mr_15 : mref 15 = 25 := rfl
theorem mr_16 : mref 16 = 26 := rfl
theorem mr_17 : mref 17 = 27 := rfl
def mB (μ : aM) : Prop := (∀ j, rR μ 12 j = mref j) ∧ 28 ≤ rN μ
theorem mB.ok {μ : aM} (h : mB μ) (a : Nat) (h1 : 2 ≤ a) (h2 : a ≤ 29) : okA μ a := ⟨h1, by have := h.2; omega⟩
theorem wr_suc {k : Nat} (h : k < 1000000) : wr ((k : Int) + 1) = ((k + 1 : Nat) : Int) := by rw [wr_id (by omega) (by omega)]; omega
theorem shp_2 : shp 2 = (4, 0) := rfl
theorem shp_3 : shp 3 = (10, 512) := rfl
theorem shp_4 : shp 4 = (1, 0) := rfl
theorem shp_5 : shp 5 = (1, 0) := rfl
theorem shp_6 : shp 6 = (3, 0) := rfl
theorem shp_7 : shp 7 = (7, 50) := rfl
theorem shp_8 : shp 8 = (7, 50) := rfl
theorem shp_9 : shp 9 = (7, 50) := rfl
theorem shp_10 : shp 10 = (7, 50) := rfl
theorem shp_11 : shp 11 = (0, 0) := rfl
theorem shp_12 : shp 12 = (5, 0) := rfl
theorem shp_13 : shp 13 = (6, 2000) := rfl
theorem shp_14 : shp 14 = (6, 2000) := rfl
theorem shp_15 : shp 15 = (7, 2000) := rfl
theorem shp_16 : shp 16 = (7, 2000) := rfl
theorem shp_17 : shp 17 = (7, 2000) := rfl
theorem shp_18 : shp 18 = (7, 2000) := rfl
theorem shp_19 : shp 19 = (7, 2000) := rfl
theorem shp_20 : shp 20 = (7, 2000) := rfl
theorem shp_21 : shp 21 = (7, 2000) := rfl
theorem shp_22 : shp 22 = (7, 2000) := rfl
theorem shp_23 : shp 23 = (7, 2000) := rfl
theorem shp_24 : shp 24 = (7, 50) := rfl
theorem shp_25 : shp 25 = (7, 50) := rfl
theorem shp_26 : shp 26 = (7, 50) := rfl
theorem shp_27 : shp 27 = (7, 50) := rfl
theorem shp_28 : shp 28 = (8, 1) := rfl
theorem shp_29 : shp 29 = (9, 1) := rfl
theorem up_to (N : Nat) {P : Nat → Prop} (h : ∀ k, k ≤ N → (k < N → P (k + 1)) → P k) : ∀ k, k ≤ N → P k := by
  have h1 : ∀ d k, k ≤ N → N - k = d → P k := by
    intro d
    induction d with
    | zero => exact fun k hk hd => h k hk (fun q => by omega)
    | succ d ih => exact fun k hk hd => h k hk (fun q => ih (k + 1) (by omega) (by omega))
  exact fun k hk => h1 _ k hk rfl
/-- a sum over 0 .. n-1 -/
def sm (f : Nat → Int) : Nat → Int
  | 0 => 0
  | n + 1 => sm f n + f n
theorem sm_le {f : Nat → Int} {b : Int} (hf : ∀ k, 0 ≤ f k ∧ f k ≤ b) (n : Nat) : 0 ≤ sm f n ∧ sm f n ≤ n * b := by
  induction n with
  | zero => exact ⟨Int.le_refl _, by simp [sm]⟩
  | succ n ih =>
    have h1 := hf n
    have h2 : ((n + 1 : Nat) : Int) * b = n * b + b := by rw [Int.natCast_add, Int.add_mul]; simp
    rw [h2]
    show 0 ≤ sm f n + f n ∧ sm f n + f n ≤ _
    omega
theorem bi_le (P : Prop) [Decidable P] : 0 ≤ bi P ∧ bi P ≤ 1 := by rcases bi_01 P with h | h <;> omega
