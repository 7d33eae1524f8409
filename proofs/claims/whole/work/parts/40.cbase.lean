/-! ===== the class's state, laid over a memory: S the rows (as the reference has them), X.1 the chains, X.2 the best price's row ===== -/
/-- a state of an order, as the class has it: what comes in is active -/
def cst (x : Int) : Int := if x = 105 then 97 else x
theorem cst_ne {x : Int} (h : x ≠ 105) : cst x = x := if_neg h
/-- the name at the head of a chain -/
def hd : List Nat → Nat
  | [] => 0
  | a :: _ => 30 + a
/-- the name behind k in a chain -/
def nx : List Nat → Nat → Nat
  | [], _ => 0
  | a :: t, k => if k = a then hd t else nx t k
abbrev xS : Type := (Int → List Nat) × (Nat → Int)
/-- an order's number; no name stands for more than some hundreds of them -/
def nmb (k : Nat) : Int := if k < 1000 then k else 0
theorem nmb_k {k : Nat} (h : k < 1000) : nmb k = k := if_pos h
/-- the fields of order k -/
def oF (S : zS) (k : Nat) (x : Int) : Nat → Int
  | 0 => nmb k
  | 1 => S 15 k
  | 2 => bi (S 13 k = 98)
  | 3 => S 17 k
  | 4 => S 16 k
  | 5 => S 18 k
  | 6 => S 19 k
  | 7 => S 20 k
  | 8 => S 21 k
  | 9 => S 22 k
  | 10 => cst (S 14 k)
  | _ => x
def gF (S : zS) (x : Int) : Nat → Int
  | 5 => S 12 0
  | 6 => S 12 21
  | 7 => S 12 22
  | 8 => S 12 23
  | _ => x
def tF (S : zS) (x : Int) : Nat → Int
  | 4 => S 12 13
  | 5 => S 12 18
  | _ => x
def lF (S : zS) (x : Int) : Nat → Int
  | 6 => S 28 19
  | 7 => S 28 20
  | _ => x
def cI_ (S : zS) (b : Nat → Int) (f : Nat → Nat → Int) (a j : Nat) : Int := if 30 ≤ a then oF S (a - 30) (f a j) j else if a = 2 then gF S (f a j) j else if a = 6 then tF S (f a j) j else if a = 11 then b j else if 7 ≤ a ∧ a ≤ 10 then S (a + 17) j else f a j
def cL_ (S : zS) (f : Nat → Nat → Int) (a j : Nat) : Int := if a = 6 then lF S (f a j) j else f a j
def cR_ (S : zS) (L : Int → List Nat) (f : Nat → Nat → Nat) (a j : Nat) : Nat := if 30 ≤ a ∧ j = 11 then nx (L (S 13 (a - 30))) (a - 30) else if a = 4 ∧ j = 1 then hd (L 98) else if a = 5 ∧ j = 1 then hd (L 115) else f a j
def cput (S : zS) (X : xS) (μ : aM) : aM := (cI_ S X.2 μ.1, cL_ S μ.2.1, cR_ S X.1 μ.2.2.1, μ.2.2.2)
theorem cput_I (S : zS) (X : xS) (μ : aM) (a j : Nat) : rI (cput S X μ) a j = cI_ S X.2 μ.1 a j := rfl
theorem okA_cput (S : zS) (X : xS) (μ : aM) (a : Nat) : okA (cput S X μ) a = okA μ a := rfl
theorem rN_cput (S : zS) (X : xS) (μ : aM) : rN (cput S X μ) = rN μ := rfl
theorem rD_cput (S : zS) (X : xS) (μ : aM) (a j : Nat) : rD (cput S X μ) a j = rD μ a j := rfl
theorem cI_o (S : zS) (b : Nat → Int) (f : Nat → Nat → Int) (k j : Nat) : cI_ S b f (30 + k) j = oF S k (f (30 + k) j) j := by
  unfold cI_; rw [if_pos (by omega), Nat.add_sub_cancel_left]
theorem ro_0 (S : zS) (X : xS) (μ : aM) (k : Nat) : rI (cput S X μ) (30 + k) 0 = nmb k := cI_o S X.2 μ.1 k 0
theorem ro_1 (S : zS) (X : xS) (μ : aM) (k : Nat) : rI (cput S X μ) (30 + k) 1 = S 15 k := cI_o S X.2 μ.1 k 1
theorem ro_2 (S : zS) (X : xS) (μ : aM) (k : Nat) : rI (cput S X μ) (30 + k) 2 = bi (S 13 k = 98) := cI_o S X.2 μ.1 k 2
theorem ro_3 (S : zS) (X : xS) (μ : aM) (k : Nat) : rI (cput S X μ) (30 + k) 3 = S 17 k := cI_o S X.2 μ.1 k 3
theorem ro_4 (S : zS) (X : xS) (μ : aM) (k : Nat) : rI (cput S X μ) (30 + k) 4 = S 16 k := cI_o S X.2 μ.1 k 4
theorem ro_5 (S : zS) (X : xS) (μ : aM) (k : Nat) : rI (cput S X μ) (30 + k) 5 = S 18 k := cI_o S X.2 μ.1 k 5
theorem ro_6 (S : zS) (X : xS) (μ : aM) (k : Nat) : rI (cput S X μ) (30 + k) 6 = S 19 k := cI_o S X.2 μ.1 k 6
theorem ro_7 (S : zS) (X : xS) (μ : aM) (k : Nat) : rI (cput S X μ) (30 + k) 7 = S 20 k := cI_o S X.2 μ.1 k 7
theorem ro_8 (S : zS) (X : xS) (μ : aM) (k : Nat) : rI (cput S X μ) (30 + k) 8 = S 21 k := cI_o S X.2 μ.1 k 8
theorem ro_9 (S : zS) (X : xS) (μ : aM) (k : Nat) : rI (cput S X μ) (30 + k) 9 = S 22 k := cI_o S X.2 μ.1 k 9
theorem ro_10 (S : zS) (X : xS) (μ : aM) (k : Nat) : rI (cput S X μ) (30 + k) 10 = cst (S 14 k) := cI_o S X.2 μ.1 k 10
theorem rg_5 (S : zS) (X : xS) (μ : aM) : rI (cput S X μ) 2 5 = S 12 0 := rfl
theorem rg_6 (S : zS) (X : xS) (μ : aM) : rI (cput S X μ) 2 6 = S 12 21 := rfl
theorem rg_7 (S : zS) (X : xS) (μ : aM) : rI (cput S X μ) 2 7 = S 12 22 := rfl
theorem rg_8 (S : zS) (X : xS) (μ : aM) : rI (cput S X μ) 2 8 = S 12 23 := rfl
theorem rt_4 (S : zS) (X : xS) (μ : aM) : rI (cput S X μ) 6 4 = S 12 13 := rfl
theorem rt_5 (S : zS) (X : xS) (μ : aM) : rI (cput S X μ) 6 5 = S 12 18 := rfl
theorem rp_7 (S : zS) (X : xS) (μ : aM) (j : Nat) : rI (cput S X μ) 7 j = S 24 j := rfl
theorem rp_8 (S : zS) (X : xS) (μ : aM) (j : Nat) : rI (cput S X μ) 8 j = S 25 j := rfl
theorem rp_9 (S : zS) (X : xS) (μ : aM) (j : Nat) : rI (cput S X μ) 9 j = S 26 j := rfl
theorem rp_10 (S : zS) (X : xS) (μ : aM) (j : Nat) : rI (cput S X μ) 10 j = S 27 j := rfl
theorem rb_11 (S : zS) (X : xS) (μ : aM) (j : Nat) : rI (cput S X μ) 11 j = X.2 j := rfl
theorem rl_6 (S : zS) (X : xS) (μ : aM) : rL (cput S X μ) 6 6 = S 28 19 := rfl
theorem rl_7 (S : zS) (X : xS) (μ : aM) : rL (cput S X μ) 6 7 = S 28 20 := rfl
theorem rr_o (S : zS) (X : xS) (μ : aM) (k : Nat) : rR (cput S X μ) (30 + k) 11 = nx (X.1 (S 13 k)) k := by
  show (if 30 ≤ 30 + k ∧ 11 = 11 then nx (X.1 (S 13 (30 + k - 30))) (30 + k - 30) else _) = _
  rw [if_pos ⟨by omega, rfl⟩, Nat.add_sub_cancel_left]
theorem rr_2 (S : zS) (X : xS) (μ : aM) (j : Nat) : rR (cput S X μ) 2 j = rR μ 2 j := rfl
theorem rr_6 (S : zS) (X : xS) (μ : aM) (j : Nat) : rR (cput S X μ) 6 j = rR μ 6 j := rfl
theorem rr_3 (S : zS) (X : xS) (μ : aM) (j : Nat) : rR (cput S X μ) 3 j = rR μ 3 j := rfl
theorem rr_4 (S : zS) (X : xS) (μ : aM) : rR (cput S X μ) 4 1 = hd (X.1 98) := rfl
theorem rr_5 (S : zS) (X : xS) (μ : aM) : rR (cput S X μ) 5 1 = hd (X.1 115) := rfl
/-- the base: what is fixed -/
def cB (N : Nat) (μ : aM) : Prop := (rR μ 2 0 = 3 ∧ rR μ 2 1 = 4 ∧ rR μ 2 2 = 5 ∧ rR μ 2 3 = 6 ∧ rR μ 2 4 = 11) ∧ (rR μ 6 0 = 7 ∧ rR μ 6 1 = 8 ∧ rR μ 6 2 = 9 ∧ rR μ 6 3 = 10) ∧ (rI μ 4 0 = 1 ∧ rI μ 5 0 = 0) ∧ (∀ k, k < N → rR μ 3 k = 30 + k) ∧ rN μ = 28 + N
theorem cB.g0 {N : Nat} {μ : aM} (h : cB N μ) : rR μ 2 0 = 3 := h.1.1
theorem cB.g1 {N : Nat} {μ : aM} (h : cB N μ) : rR μ 2 1 = 4 := h.1.2.1
theorem cB.g2 {N : Nat} {μ : aM} (h : cB N μ) : rR μ 2 2 = 5 := h.1.2.2.1
theorem cB.g3 {N : Nat} {μ : aM} (h : cB N μ) : rR μ 2 3 = 6 := h.1.2.2.2.1
theorem cB.g4 {N : Nat} {μ : aM} (h : cB N μ) : rR μ 2 4 = 11 := h.1.2.2.2.2
theorem cB.t0 {N : Nat} {μ : aM} (h : cB N μ) : rR μ 6 0 = 7 := h.2.1.1
theorem cB.t1 {N : Nat} {μ : aM} (h : cB N μ) : rR μ 6 1 = 8 := h.2.1.2.1
theorem cB.t2 {N : Nat} {μ : aM} (h : cB N μ) : rR μ 6 2 = 9 := h.2.1.2.2.1
theorem cB.t3 {N : Nat} {μ : aM} (h : cB N μ) : rR μ 6 3 = 10 := h.2.1.2.2.2
theorem cB.o {N : Nat} {μ : aM} (h : cB N μ) {k : Nat} (hk : k < N) : rR μ 3 k = 30 + k := h.2.2.2.1 k hk
theorem cB.n {N : Nat} {μ : aM} (h : cB N μ) : rN μ = 28 + N := h.2.2.2.2
theorem cB.ok {N : Nat} {μ : aM} (h : cB N μ) (a : Nat) (h1 : 2 ≤ a ∧ a ≤ 29) : okA μ a = True := eq_true ⟨h1.1, by have := h.n; omega⟩
theorem cB.ko {N : Nat} {μ : aM} (h : cB N μ) {k : Nat} (hk : k < N) : okA μ (30 + k) = True := eq_true ⟨by omega, by have := h.n; omega⟩
theorem shp_o (k : Nat) : shp (30 + k) = (2, 0) := by unfold shp; rw [if_pos (by omega)]
theorem o_ne (k : Nat) : (30 + k = 0) = False := eq_false (by omega)
theorem o_eq (j k : Nat) : (30 + j = 30 + k) = (j = k) := propext ⟨fun h => by omega, fun h => by omega⟩
theorem z_eq0 : ((0 : Nat) = 0) = True := eq_true rfl
/-- the two sides of the book, by their letters -/
def sd (c : Int) : Nat := if c = 98 then 4 else 5
abbrev sC (c : Int) : Prop := c = 98 ∨ c = 115
theorem sd_98 : sd 98 = 4 := rfl
theorem sd_115 : sd 115 = 5 := rfl
theorem shp_sd (c : Int) : shp (sd c) = (1, 0) := by unfold sd; split <;> rfl
theorem cB.ks {N : Nat} {μ : aM} (h : cB N μ) (c : Int) : okA μ (sd c) = True := by unfold sd; split <;> first | exact h.ok 4 (by omega) | exact h.ok 5 (by omega)
theorem rs_0 {N : Nat} {μ : aM} (h : cB N μ) (S : zS) (X : xS) (c : Int) : rI (cput S X μ) (sd c) 0 = bi (c = 98) := by
  unfold sd bi
  split
  · exact h.2.2.1.1
  · exact h.2.2.1.2
theorem rs_1 (S : zS) (X : xS) (μ : aM) {c : Int} (hc : sC c) : rR (cput S X μ) (sd c) 1 = hd (X.1 c) := by
  rcases hc with rfl | rfl <;> rfl
theorem sd_ne (c : Int) : (sd c = 0) = False := by unfold sd; split <;> exact eq_false (by omega)
-- writes
theorem oF_up (S : zS) (r i : Nat) (v : Int) (hr : r = 12 ∨ 23 ≤ r) (k : Nat) (x : Int) (j : Nat) : oF (zu S r i v) k x j = oF S k x j := by
  have z : ∀ b, 13 ≤ b ∧ b ≤ 22 → ∀ n, zu S r i v b n = S b n := fun b h n => zu_ne S v (by omega)
  match j with
  | 0 => rfl
  | 1 => exact z 15 (by omega) k
  | 3 => exact z 17 (by omega) k
  | 4 => exact z 16 (by omega) k
  | 5 => exact z 18 (by omega) k
  | 6 => exact z 19 (by omega) k
  | 7 => exact z 20 (by omega) k
  | 8 => exact z 21 (by omega) k
  | 9 => exact z 22 (by omega) k
  | 2 => show bi (zu S r i v 13 k = 98) = _; rw [z 13 (by omega)]; rfl
  | 10 => show cst (zu S r i v 14 k) = _; rw [z 14 (by omega)]; rfl
  | n + 11 => rfl
theorem oF_6 (S : zS) (i : Nat) (v : Int) (k : Nat) (x : Int) (j : Nat) : oF (zu S 19 i v) k x j = if k = i ∧ j = 6 then v else oF S k x j := by
  match j with
  | 0 => rw [if_neg (by omega)]; rfl
  | 1 => rw [if_neg (by omega)]; rfl
  | 2 => rw [if_neg (by omega)]; show bi (zu S 19 i v 13 k = 98) = _; rw [zu_ne S v (by omega)]; rfl
  | 3 => rw [if_neg (by omega)]; rfl
  | 4 => rw [if_neg (by omega)]; rfl
  | 5 => rw [if_neg (by omega)]; rfl
  | 6 => show (if 19 = 19 ∧ k = i then v else S 19 k) = _; split <;> split <;> first | rfl | (exfalso; omega)
  | 7 => rw [if_neg (by omega)]; rfl
  | 8 => rw [if_neg (by omega)]; rfl
  | 9 => rw [if_neg (by omega)]; rfl
  | 10 => rw [if_neg (by omega)]; show cst (zu S 19 i v 14 k) = _; rw [zu_ne S v (by omega)]; rfl
  | n + 11 => rw [if_neg (by omega)]; rfl
theorem oF_7 (S : zS) (i : Nat) (v : Int) (k : Nat) (x : Int) (j : Nat) : oF (zu S 20 i v) k x j = if k = i ∧ j = 7 then v else oF S k x j := by
  match j with
  | 0 => rw [if_neg (by omega)]; rfl
  | 1 => rw [if_neg (by omega)]; rfl
  | 2 => rw [if_neg (by omega)]; show bi (zu S 20 i v 13 k = 98) = _; rw [zu_ne S v (by omega)]; rfl
  | 3 => rw [if_neg (by omega)]; rfl
  | 4 => rw [if_neg (by omega)]; rfl
  | 5 => rw [if_neg (by omega)]; rfl
  | 6 => rw [if_neg (by omega)]; rfl
  | 7 => show (if 20 = 20 ∧ k = i then v else S 20 k) = _; split <;> split <;> first | rfl | (exfalso; omega)
  | 8 => rw [if_neg (by omega)]; rfl
  | 9 => rw [if_neg (by omega)]; rfl
  | 10 => rw [if_neg (by omega)]; show cst (zu S 20 i v 14 k) = _; rw [zu_ne S v (by omega)]; rfl
  | n + 11 => rw [if_neg (by omega)]; rfl
theorem oF_8 (S : zS) (i : Nat) (v : Int) (k : Nat) (x : Int) (j : Nat) : oF (zu S 21 i v) k x j = if k = i ∧ j = 8 then v else oF S k x j := by
  match j with
  | 0 => rw [if_neg (by omega)]; rfl
  | 1 => rw [if_neg (by omega)]; rfl
  | 2 => rw [if_neg (by omega)]; show bi (zu S 21 i v 13 k = 98) = _; rw [zu_ne S v (by omega)]; rfl
  | 3 => rw [if_neg (by omega)]; rfl
  | 4 => rw [if_neg (by omega)]; rfl
  | 5 => rw [if_neg (by omega)]; rfl
  | 6 => rw [if_neg (by omega)]; rfl
  | 7 => rw [if_neg (by omega)]; rfl
  | 8 => show (if 21 = 21 ∧ k = i then v else S 21 k) = _; split <;> split <;> first | rfl | (exfalso; omega)
  | 9 => rw [if_neg (by omega)]; rfl
  | 10 => rw [if_neg (by omega)]; show cst (zu S 21 i v 14 k) = _; rw [zu_ne S v (by omega)]; rfl
  | n + 11 => rw [if_neg (by omega)]; rfl
theorem oF_9 (S : zS) (i : Nat) (v : Int) (k : Nat) (x : Int) (j : Nat) : oF (zu S 22 i v) k x j = if k = i ∧ j = 9 then v else oF S k x j := by
  match j with
  | 0 => rw [if_neg (by omega)]; rfl
  | 1 => rw [if_neg (by omega)]; rfl
  | 2 => rw [if_neg (by omega)]; show bi (zu S 22 i v 13 k = 98) = _; rw [zu_ne S v (by omega)]; rfl
  | 3 => rw [if_neg (by omega)]; rfl
  | 4 => rw [if_neg (by omega)]; rfl
  | 5 => rw [if_neg (by omega)]; rfl
  | 6 => rw [if_neg (by omega)]; rfl
  | 7 => rw [if_neg (by omega)]; rfl
  | 8 => rw [if_neg (by omega)]; rfl
  | 9 => show (if 22 = 22 ∧ k = i then v else S 22 k) = _; split <;> split <;> first | rfl | (exfalso; omega)
  | 10 => rw [if_neg (by omega)]; show cst (zu S 22 i v 14 k) = _; rw [zu_ne S v (by omega)]; rfl
  | n + 11 => rw [if_neg (by omega)]; rfl
theorem oF_10 (S : zS) (i : Nat) (v : Int) (k : Nat) (x : Int) (j : Nat) : oF (zu S 14 i v) k x j = if k = i ∧ j = 10 then cst v else oF S k x j := by
  match j with
  | 0 => rw [if_neg (by omega)]; rfl
  | 1 => rw [if_neg (by omega)]; rfl
  | 2 => rw [if_neg (by omega)]; show bi (zu S 14 i v 13 k = 98) = _; rw [zu_ne S v (by omega)]; rfl
  | 3 => rw [if_neg (by omega)]; rfl
  | 4 => rw [if_neg (by omega)]; rfl
  | 5 => rw [if_neg (by omega)]; rfl
  | 6 => rw [if_neg (by omega)]; rfl
  | 7 => rw [if_neg (by omega)]; rfl
  | 8 => rw [if_neg (by omega)]; rfl
  | 9 => rw [if_neg (by omega)]; rfl
  | 10 => show cst (if 14 = 14 ∧ k = i then v else S 14 k) = _; split <;> split <;> first | rfl | (exfalso; omega)
  | n + 11 => rw [if_neg (by omega)]; rfl
theorem gF_5 (S : zS) (v x : Int) (j : Nat) : gF (zu S 12 0 v) x j = if j = 5 then v else gF S x j := by
  match j with
  | 0 => rfl
  | 1 => rfl
  | 2 => rfl
  | 3 => rfl
  | 4 => rfl
  | 5 => rfl
  | 6 => rfl
  | 7 => rfl
  | 8 => rfl
  | n + 9 => rw [if_neg (by omega)]; rfl
theorem gF_6 (S : zS) (v x : Int) (j : Nat) : gF (zu S 12 21 v) x j = if j = 6 then v else gF S x j := by
  match j with
  | 0 => rfl
  | 1 => rfl
  | 2 => rfl
  | 3 => rfl
  | 4 => rfl
  | 5 => rfl
  | 6 => rfl
  | 7 => rfl
  | 8 => rfl
  | n + 9 => rw [if_neg (by omega)]; rfl
theorem gF_7 (S : zS) (v x : Int) (j : Nat) : gF (zu S 12 22 v) x j = if j = 7 then v else gF S x j := by
  match j with
  | 0 => rfl
  | 1 => rfl
  | 2 => rfl
  | 3 => rfl
  | 4 => rfl
  | 5 => rfl
  | 6 => rfl
  | 7 => rfl
  | 8 => rfl
  | n + 9 => rw [if_neg (by omega)]; rfl
theorem gF_8 (S : zS) (v x : Int) (j : Nat) : gF (zu S 12 23 v) x j = if j = 8 then v else gF S x j := by
  match j with
  | 0 => rfl
  | 1 => rfl
  | 2 => rfl
  | 3 => rfl
  | 4 => rfl
  | 5 => rfl
  | 6 => rfl
  | 7 => rfl
  | 8 => rfl
  | n + 9 => rw [if_neg (by omega)]; rfl
theorem tF_4 (S : zS) (v x : Int) (j : Nat) : tF (zu S 12 13 v) x j = if j = 4 then v else tF S x j := by
  match j with
  | 0 => rfl
  | 1 => rfl
  | 2 => rfl
  | 3 => rfl
  | 4 => rfl
  | 5 => rfl
  | n + 6 => rw [if_neg (by omega)]; rfl
theorem tF_5 (S : zS) (v x : Int) (j : Nat) : tF (zu S 12 18 v) x j = if j = 5 then v else tF S x j := by
  match j with
  | 0 => rfl
  | 1 => rfl
  | 2 => rfl
  | 3 => rfl
  | 4 => rfl
  | 5 => rfl
  | n + 6 => rw [if_neg (by omega)]; rfl
theorem lF_6 (S : zS) (v x : Int) (j : Nat) : lF (zu S 28 19 v) x j = if j = 6 then v else lF S x j := by
  match j with
  | 0 => rfl
  | 1 => rfl
  | 2 => rfl
  | 3 => rfl
  | 4 => rfl
  | 5 => rfl
  | 6 => rfl
  | 7 => rfl
  | n + 8 => rw [if_neg (by omega)]; rfl
theorem lF_7 (S : zS) (v x : Int) (j : Nat) : lF (zu S 28 20 v) x j = if j = 7 then v else lF S x j := by
  match j with
  | 0 => rfl
  | 1 => rfl
  | 2 => rfl
  | 3 => rfl
  | 4 => rfl
  | 5 => rfl
  | 6 => rfl
  | 7 => rfl
  | n + 8 => rw [if_neg (by omega)]; rfl
theorem gF_up (S : zS) (r i : Nat) (v : Int) (hr : r ≠ 12 ∨ (i ≠ 0 ∧ i ≠ 21 ∧ i ≠ 22 ∧ i ≠ 23)) (x : Int) (j : Nat) : gF (zu S r i v) x j = gF S x j := by
  match j with
  | 5 => exact zu_ne S v (by omega)
  | 6 => exact zu_ne S v (by omega)
  | 7 => exact zu_ne S v (by omega)
  | 8 => exact zu_ne S v (by omega)
  | 0 => rfl
  | 1 => rfl
  | 2 => rfl
  | 3 => rfl
  | 4 => rfl
  | n + 9 => rfl
theorem tF_up (S : zS) (r i : Nat) (v : Int) (hr : r ≠ 12 ∨ (i ≠ 13 ∧ i ≠ 18)) (x : Int) (j : Nat) : tF (zu S r i v) x j = tF S x j := by
  match j with
  | 4 => exact zu_ne S v (by omega)
  | 5 => exact zu_ne S v (by omega)
  | 0 => rfl
  | 1 => rfl
  | 2 => rfl
  | 3 => rfl
  | n + 6 => rfl
theorem cI_lo (S : zS) (b : Nat → Int) (f : Nat → Nat → Int) {a : Nat} (h : a < 30) (j : Nat) : cI_ S b f a j = if a = 2 then gF S (f a j) j else if a = 6 then tF S (f a j) j else if a = 11 then b j else if 7 ≤ a ∧ a ≤ 10 then S (a + 17) j else f a j := by
  unfold cI_; rw [if_neg (by omega)]
theorem cL_up (S : zS) (r i : Nat) (v : Int) (hr : r ≠ 28) (f : Nat → Nat → Int) : cL_ (zu S r i v) f = cL_ S f := by
  funext a j
  unfold cL_
  split
  · match j with
    | 6 => exact zu_ne S v (by omega)
    | 7 => exact zu_ne S v (by omega)
    | 0 => rfl
    | 1 => rfl
    | 2 => rfl
    | 3 => rfl
    | 4 => rfl
    | 5 => rfl
    | n + 8 => rfl
  · rfl
theorem cR_up (S : zS) (r i : Nat) (v : Int) (hr : r ≠ 13) (L : Int → List Nat) (f : Nat → Nat → Nat) : cR_ (zu S r i v) L f = cR_ S L f := by
  funext a j
  unfold cR_
  rw [show zu S r i v 13 (a - 30) = S 13 (a - 30) from zu_ne S v (by omega)]
/-- a write of an int that the rows show -/
theorem sI_c {S : zS} {r i : Nat} {v w : Int} {X X' : xS} {μ : aM} {a j : Nat} (h1 : r ≠ 13) (h2 : r ≠ 28) (hX : X'.1 = X.1) (h : ∀ b n, (if b = a ∧ n = j then w else cI_ S X.2 μ.1 b n) = cI_ (zu S r i v) X'.2 μ.1 b n) : sI (cput S X μ) a j w = cput (zu S r i v) X' μ := by
  refine Prod.ext (funext fun b => funext fun n => h b n) (Prod.ext ?_ (Prod.ext ?_ rfl))
  · exact (cL_up S r i v h2 _).symm
  · show cR_ S X.1 _ = cR_ (zu S r i v) X'.1 _
    rw [cR_up S r i v h1, hX]
theorem so_6 (S : zS) (X : xS) (μ : aM) (k : Nat) (v : Int) : sI (cput S X μ) (30 + k) 6 v = cput (zu S 19 k v) X μ := by
  refine sI_c (by omega) (by omega) rfl (fun b n => ?_)
  rcases Nat.lt_or_ge b 30 with hb | hb
  · rw [if_neg (by omega), cI_lo _ _ _ hb, cI_lo _ _ _ hb, gF_up _ _ _ _ (by omega), tF_up _ _ _ _ (by omega)]
    (repeat' split) <;> first | rfl | exact (zu_ne S v (by omega)).symm
  · obtain ⟨m, rfl⟩ : ∃ m, b = 30 + m := ⟨b - 30, by omega⟩
    rw [cI_o, cI_o, oF_6]; simp only [o_eq]
theorem so_7 (S : zS) (X : xS) (μ : aM) (k : Nat) (v : Int) : sI (cput S X μ) (30 + k) 7 v = cput (zu S 20 k v) X μ := by
  refine sI_c (by omega) (by omega) rfl (fun b n => ?_)
  rcases Nat.lt_or_ge b 30 with hb | hb
  · rw [if_neg (by omega), cI_lo _ _ _ hb, cI_lo _ _ _ hb, gF_up _ _ _ _ (by omega), tF_up _ _ _ _ (by omega)]
    (repeat' split) <;> first | rfl | exact (zu_ne S v (by omega)).symm
  · obtain ⟨m, rfl⟩ : ∃ m, b = 30 + m := ⟨b - 30, by omega⟩
    rw [cI_o, cI_o, oF_7]; simp only [o_eq]
theorem so_8 (S : zS) (X : xS) (μ : aM) (k : Nat) (v : Int) : sI (cput S X μ) (30 + k) 8 v = cput (zu S 21 k v) X μ := by
  refine sI_c (by omega) (by omega) rfl (fun b n => ?_)
  rcases Nat.lt_or_ge b 30 with hb | hb
  · rw [if_neg (by omega), cI_lo _ _ _ hb, cI_lo _ _ _ hb, gF_up _ _ _ _ (by omega), tF_up _ _ _ _ (by omega)]
    (repeat' split) <;> first | rfl | exact (zu_ne S v (by omega)).symm
  · obtain ⟨m, rfl⟩ : ∃ m, b = 30 + m := ⟨b - 30, by omega⟩
    rw [cI_o, cI_o, oF_8]; simp only [o_eq]
theorem so_9 (S : zS) (X : xS) (μ : aM) (k : Nat) (v : Int) : sI (cput S X μ) (30 + k) 9 v = cput (zu S 22 k v) X μ := by
  refine sI_c (by omega) (by omega) rfl (fun b n => ?_)
  rcases Nat.lt_or_ge b 30 with hb | hb
  · rw [if_neg (by omega), cI_lo _ _ _ hb, cI_lo _ _ _ hb, gF_up _ _ _ _ (by omega), tF_up _ _ _ _ (by omega)]
    (repeat' split) <;> first | rfl | exact (zu_ne S v (by omega)).symm
  · obtain ⟨m, rfl⟩ : ∃ m, b = 30 + m := ⟨b - 30, by omega⟩
    rw [cI_o, cI_o, oF_9]; simp only [o_eq]
theorem so_10 (S : zS) (X : xS) (μ : aM) (k : Nat) {v : Int} (h : v ≠ 105) : sI (cput S X μ) (30 + k) 10 v = cput (zu S 14 k v) X μ := by
  refine sI_c (by omega) (by omega) rfl (fun b n => ?_)
  rcases Nat.lt_or_ge b 30 with hb | hb
  · rw [if_neg (by omega), cI_lo _ _ _ hb, cI_lo _ _ _ hb, gF_up _ _ _ _ (by omega), tF_up _ _ _ _ (by omega)]
    (repeat' split) <;> first | rfl | exact (zu_ne S v (by omega)).symm
  · obtain ⟨m, rfl⟩ : ∃ m, b = 30 + m := ⟨b - 30, by omega⟩
    rw [cI_o, cI_o, oF_10, cst_ne h]; simp only [o_eq]
/-- what comes in: the class says active at once -/
theorem so_in (S : zS) (X : xS) (μ : aM) (k : Nat) : sI (cput S X μ) (30 + k) 10 97 = cput (zu S 14 k 105) X μ := by
  refine sI_c (by omega) (by omega) rfl (fun b n => ?_)
  rcases Nat.lt_or_ge b 30 with hb | hb
  · rw [if_neg (by omega), cI_lo _ _ _ hb, cI_lo _ _ _ hb, gF_up _ _ _ _ (by omega), tF_up _ _ _ _ (by omega)]
    (repeat' split) <;> first | rfl | exact (zu_ne S 105 (by omega)).symm
  · obtain ⟨m, rfl⟩ : ∃ m, b = 30 + m := ⟨b - 30, by omega⟩
    rw [cI_o, cI_o, oF_10, show cst 105 = 97 from rfl]; simp only [o_eq]
theorem sg_6 (S : zS) (X : xS) (μ : aM) (v : Int) : sI (cput S X μ) 2 6 v = cput (zu S 12 21 v) X μ := by
  refine sI_c (by omega) (by omega) rfl (fun b n => ?_)
  rcases Nat.lt_or_ge b 30 with hb | hb
  · rw [cI_lo _ _ _ hb, cI_lo _ _ _ hb, gF_6, tF_up _ _ _ _ (by omega)]
    by_cases e : b = 2
    · subst e; simp
    · simp only [if_neg e, if_neg (show ¬ (b = 2 ∧ n = 6) from fun q => e q.1)]
      (repeat' split) <;> first | rfl | exact (zu_ne S v (by omega)).symm
  · rw [if_neg (by omega)]
    obtain ⟨m, rfl⟩ : ∃ m, b = 30 + m := ⟨b - 30, by omega⟩
    rw [cI_o, cI_o, oF_up _ _ _ _ (by omega)]
theorem sg_7 (S : zS) (X : xS) (μ : aM) (v : Int) : sI (cput S X μ) 2 7 v = cput (zu S 12 22 v) X μ := by
  refine sI_c (by omega) (by omega) rfl (fun b n => ?_)
  rcases Nat.lt_or_ge b 30 with hb | hb
  · rw [cI_lo _ _ _ hb, cI_lo _ _ _ hb, gF_7, tF_up _ _ _ _ (by omega)]
    by_cases e : b = 2
    · subst e; simp
    · simp only [if_neg e, if_neg (show ¬ (b = 2 ∧ n = 7) from fun q => e q.1)]
      (repeat' split) <;> first | rfl | exact (zu_ne S v (by omega)).symm
  · rw [if_neg (by omega)]
    obtain ⟨m, rfl⟩ : ∃ m, b = 30 + m := ⟨b - 30, by omega⟩
    rw [cI_o, cI_o, oF_up _ _ _ _ (by omega)]
theorem sg_8 (S : zS) (X : xS) (μ : aM) (v : Int) : sI (cput S X μ) 2 8 v = cput (zu S 12 23 v) X μ := by
  refine sI_c (by omega) (by omega) rfl (fun b n => ?_)
  rcases Nat.lt_or_ge b 30 with hb | hb
  · rw [cI_lo _ _ _ hb, cI_lo _ _ _ hb, gF_8, tF_up _ _ _ _ (by omega)]
    by_cases e : b = 2
    · subst e; simp
    · simp only [if_neg e, if_neg (show ¬ (b = 2 ∧ n = 8) from fun q => e q.1)]
      (repeat' split) <;> first | rfl | exact (zu_ne S v (by omega)).symm
  · rw [if_neg (by omega)]
    obtain ⟨m, rfl⟩ : ∃ m, b = 30 + m := ⟨b - 30, by omega⟩
    rw [cI_o, cI_o, oF_up _ _ _ _ (by omega)]
theorem st_4 (S : zS) (X : xS) (μ : aM) (v : Int) : sI (cput S X μ) 6 4 v = cput (zu S 12 13 v) X μ := by
  refine sI_c (by omega) (by omega) rfl (fun b n => ?_)
  rcases Nat.lt_or_ge b 30 with hb | hb
  · rw [cI_lo _ _ _ hb, cI_lo _ _ _ hb, tF_4, gF_up _ _ _ _ (by omega)]
    by_cases e : b = 6
    · subst e; simp
    · simp only [if_neg e, if_neg (show ¬ (b = 6 ∧ n = 4) from fun q => e q.1)]
      (repeat' split) <;> first | rfl | exact (zu_ne S v (by omega)).symm
  · rw [if_neg (by omega)]
    obtain ⟨m, rfl⟩ : ∃ m, b = 30 + m := ⟨b - 30, by omega⟩
    rw [cI_o, cI_o, oF_up _ _ _ _ (by omega)]
theorem st_5 (S : zS) (X : xS) (μ : aM) (v : Int) : sI (cput S X μ) 6 5 v = cput (zu S 12 18 v) X μ := by
  refine sI_c (by omega) (by omega) rfl (fun b n => ?_)
  rcases Nat.lt_or_ge b 30 with hb | hb
  · rw [cI_lo _ _ _ hb, cI_lo _ _ _ hb, tF_5, gF_up _ _ _ _ (by omega)]
    by_cases e : b = 6
    · subst e; simp
    · simp only [if_neg e, if_neg (show ¬ (b = 6 ∧ n = 5) from fun q => e q.1)]
      (repeat' split) <;> first | rfl | exact (zu_ne S v (by omega)).symm
  · rw [if_neg (by omega)]
    obtain ⟨m, rfl⟩ : ∃ m, b = 30 + m := ⟨b - 30, by omega⟩
    rw [cI_o, cI_o, oF_up _ _ _ _ (by omega)]
theorem sp_7 (S : zS) (X : xS) (μ : aM) (j : Nat) (v : Int) : sI (cput S X μ) 7 j v = cput (zu S 24 j v) X μ := by
  refine sI_c (by omega) (by omega) rfl (fun b n => ?_)
  rcases Nat.lt_or_ge b 30 with hb | hb
  · rw [cI_lo _ _ _ hb, cI_lo _ _ _ hb, tF_up _ _ _ _ (by omega), gF_up _ _ _ _ (by omega)]
    by_cases e : b = 7
    · subst e; simp [zu_eq]
    · rw [if_neg (fun q => e q.1)]
      (repeat' split) <;> first | rfl | exact (zu_ne S v (by omega)).symm
  · rw [if_neg (by omega)]
    obtain ⟨m, rfl⟩ : ∃ m, b = 30 + m := ⟨b - 30, by omega⟩
    rw [cI_o, cI_o, oF_up _ _ _ _ (by omega)]
theorem sp_8 (S : zS) (X : xS) (μ : aM) (j : Nat) (v : Int) : sI (cput S X μ) 8 j v = cput (zu S 25 j v) X μ := by
  refine sI_c (by omega) (by omega) rfl (fun b n => ?_)
  rcases Nat.lt_or_ge b 30 with hb | hb
  · rw [cI_lo _ _ _ hb, cI_lo _ _ _ hb, tF_up _ _ _ _ (by omega), gF_up _ _ _ _ (by omega)]
    by_cases e : b = 8
    · subst e; simp [zu_eq]
    · rw [if_neg (fun q => e q.1)]
      (repeat' split) <;> first | rfl | exact (zu_ne S v (by omega)).symm
  · rw [if_neg (by omega)]
    obtain ⟨m, rfl⟩ : ∃ m, b = 30 + m := ⟨b - 30, by omega⟩
    rw [cI_o, cI_o, oF_up _ _ _ _ (by omega)]
theorem sp_9 (S : zS) (X : xS) (μ : aM) (j : Nat) (v : Int) : sI (cput S X μ) 9 j v = cput (zu S 26 j v) X μ := by
  refine sI_c (by omega) (by omega) rfl (fun b n => ?_)
  rcases Nat.lt_or_ge b 30 with hb | hb
  · rw [cI_lo _ _ _ hb, cI_lo _ _ _ hb, tF_up _ _ _ _ (by omega), gF_up _ _ _ _ (by omega)]
    by_cases e : b = 9
    · subst e; simp [zu_eq]
    · rw [if_neg (fun q => e q.1)]
      (repeat' split) <;> first | rfl | exact (zu_ne S v (by omega)).symm
  · rw [if_neg (by omega)]
    obtain ⟨m, rfl⟩ : ∃ m, b = 30 + m := ⟨b - 30, by omega⟩
    rw [cI_o, cI_o, oF_up _ _ _ _ (by omega)]
theorem sp_10 (S : zS) (X : xS) (μ : aM) (j : Nat) (v : Int) : sI (cput S X μ) 10 j v = cput (zu S 27 j v) X μ := by
  refine sI_c (by omega) (by omega) rfl (fun b n => ?_)
  rcases Nat.lt_or_ge b 30 with hb | hb
  · rw [cI_lo _ _ _ hb, cI_lo _ _ _ hb, tF_up _ _ _ _ (by omega), gF_up _ _ _ _ (by omega)]
    by_cases e : b = 10
    · subst e; simp [zu_eq]
    · rw [if_neg (fun q => e q.1)]
      (repeat' split) <;> first | rfl | exact (zu_ne S v (by omega)).symm
  · rw [if_neg (by omega)]
    obtain ⟨m, rfl⟩ : ∃ m, b = 30 + m := ⟨b - 30, by omega⟩
    rw [cI_o, cI_o, oF_up _ _ _ _ (by omega)]
theorem sl_6 (S : zS) (X : xS) (μ : aM) (v : Int) : sL (cput S X μ) 6 6 v = cput (zu S 28 19 v) X μ := by
  refine Prod.ext (funext fun b => funext fun n => ?_) (Prod.ext (funext fun b => funext fun n => ?_) (Prod.ext ?_ rfl))
  · show cI_ S X.2 μ.1 b n = cI_ (zu S 28 19 v) X.2 μ.1 b n
    rcases Nat.lt_or_ge b 30 with hb | hb
    · rw [cI_lo _ _ _ hb, cI_lo _ _ _ hb, tF_up _ _ _ _ (by omega), gF_up _ _ _ _ (by omega)]
      (repeat' split) <;> first | rfl | exact (zu_ne S v (by omega)).symm
    · obtain ⟨m, rfl⟩ : ∃ m, b = 30 + m := ⟨b - 30, by omega⟩
      rw [cI_o, cI_o, oF_up _ _ _ _ (by omega)]
  · show (if b = 6 ∧ n = 6 then v else cL_ S μ.2.1 b n) = cL_ (zu S 28 19 v) μ.2.1 b n
    unfold cL_
    by_cases e : b = 6
    · subst e; simp [lF_6]
    · simp only [if_neg e, if_neg (show ¬ (b = 6 ∧ n = 6) from fun q => e q.1)]
  · exact (cR_up S 28 _ v (by omega) _ _).symm
theorem sl_7 (S : zS) (X : xS) (μ : aM) (v : Int) : sL (cput S X μ) 6 7 v = cput (zu S 28 20 v) X μ := by
  refine Prod.ext (funext fun b => funext fun n => ?_) (Prod.ext (funext fun b => funext fun n => ?_) (Prod.ext ?_ rfl))
  · show cI_ S X.2 μ.1 b n = cI_ (zu S 28 20 v) X.2 μ.1 b n
    rcases Nat.lt_or_ge b 30 with hb | hb
    · rw [cI_lo _ _ _ hb, cI_lo _ _ _ hb, tF_up _ _ _ _ (by omega), gF_up _ _ _ _ (by omega)]
      (repeat' split) <;> first | rfl | exact (zu_ne S v (by omega)).symm
    · obtain ⟨m, rfl⟩ : ∃ m, b = 30 + m := ⟨b - 30, by omega⟩
      rw [cI_o, cI_o, oF_up _ _ _ _ (by omega)]
  · show (if b = 6 ∧ n = 7 then v else cL_ S μ.2.1 b n) = cL_ (zu S 28 20 v) μ.2.1 b n
    unfold cL_
    by_cases e : b = 6
    · subst e; simp [lF_7]
    · simp only [if_neg e, if_neg (show ¬ (b = 6 ∧ n = 7) from fun q => e q.1)]
  · exact (cR_up S 28 _ v (by omega) _ _).symm
/-- the best price's row is written -/
def bst (X : xS) (j : Nat) (v : Int) : xS := (X.1, fun i => if i = j then v else X.2 i)
theorem sb_11 (S : zS) (X : xS) (μ : aM) (j : Nat) (v : Int) : sI (cput S X μ) 11 j v = cput S (bst X j v) μ := by
  refine Prod.ext (funext fun b => funext fun n => ?_) rfl
  show (if b = 11 ∧ n = j then v else cI_ S X.2 μ.1 b n) = cI_ S (bst X j v).2 μ.1 b n
  rcases Nat.lt_or_ge b 30 with hb | hb
  · rw [cI_lo _ _ _ hb, cI_lo _ _ _ hb]
    by_cases e : b = 11
    · subst e; simp [bst]
    · rw [if_neg (fun q => e q.1)]
      simp only [if_neg e]
  · rw [if_neg (by omega)]
    obtain ⟨m, rfl⟩ : ∃ m, b = 30 + m := ⟨b - 30, by omega⟩
    rw [cI_o, cI_o]
/-- what the class doesn't show: stamps, the call's code -/
theorem hid (S : zS) (X : xS) (μ : aM) (r i : Nat) (v : Int) (h : r = 23 ∨ (r = 12 ∧ (i = 12 ∨ i = 24))) : cput (zu S r i v) X μ = cput S X μ := by
  refine Prod.ext (funext fun b => funext fun n => ?_) (Prod.ext (cL_up S r i v (by omega) _) (Prod.ext (cR_up S r i v (by omega) _ _) rfl))
  show cI_ (zu S r i v) X.2 μ.1 b n = cI_ S X.2 μ.1 b n
  rcases Nat.lt_or_ge b 30 with hb | hb
  · rw [cI_lo _ _ _ hb, cI_lo _ _ _ hb, tF_up _ _ _ _ (by omega), gF_up _ _ _ _ (by omega)]
    (repeat' split) <;> first | rfl | exact zu_ne S v (by omega)
  · obtain ⟨m, rfl⟩ : ∃ m, b = 30 + m := ⟨b - 30, by omega⟩
    rw [cI_o, cI_o, oF_up _ _ _ _ (by omega)]
/-- what came in is put into the book -/
theorem hid_in {S : zS} {k : Nat} (h : S 14 k = 105) (X : xS) (μ : aM) : cput (zu S 14 k 97) X μ = cput S X μ := by
  refine Prod.ext (funext fun b => funext fun n => ?_) (Prod.ext (cL_up S 14 k 97 (by omega) _) (Prod.ext (cR_up S 14 k 97 (by omega) _ _) rfl))
  show cI_ (zu S 14 k 97) X.2 μ.1 b n = cI_ S X.2 μ.1 b n
  rcases Nat.lt_or_ge b 30 with hb | hb
  · rw [cI_lo _ _ _ hb, cI_lo _ _ _ hb, tF_up _ _ _ _ (by omega), gF_up _ _ _ _ (by omega)]
    (repeat' split) <;> first | rfl | exact zu_ne S 97 (by omega)
  · obtain ⟨m, rfl⟩ : ∃ m, b = 30 + m := ⟨b - 30, by omega⟩
    rw [cI_o, cI_o, oF_10]
    split
    · rename_i e
      obtain ⟨rfl, rfl⟩ := e
      show cst 97 = cst (S 14 m)
      rw [h]; rfl
    · rfl
/-- a chain is changed -/
def upL (X : xS) (c : Int) (L : List Nat) : xS := (fun d => if d = c then L else X.1 d, X.2)
theorem upL_s (X : xS) (c : Int) (L : List Nat) : (upL X c L).1 c = L := if_pos rfl
theorem upL_o (X : xS) {c d : Int} (L : List Nat) (h : d ≠ c) : (upL X c L).1 d = X.1 d := if_neg h
/-- a memory that shows another chain of side c -/
theorem ptr {S : zS} {X : xS} {μ M : aM} {c : Int} (hc : sC c) {L : List Nat} (h1 : M.1 = (cput S X μ).1) (h2 : M.2.1 = (cput S X μ).2.1) (h4 : M.2.2.2 = (cput S X μ).2.2.2) (h : rR M (sd c) 1 = hd L) (ho : ∀ i, S 13 i = c → rR M (30 + i) 11 = nx L i) (hq : ∀ a j, ¬ (a = sd c ∧ j = 1) → ¬ (30 ≤ a ∧ j = 11 ∧ S 13 (a - 30) = c) → rR M a j = rR (cput S X μ) a j) : M = cput S (upL X c L) μ := by
  refine Prod.ext h1 (Prod.ext h2 (Prod.ext (funext fun a => funext fun j => ?_) h4))
  show rR M a j = cR_ S (upL X c L).1 μ.2.2.1 a j
  unfold cR_
  by_cases e1 : 30 ≤ a ∧ j = 11
  · obtain ⟨e1, rfl⟩ := e1
    obtain ⟨i, rfl⟩ : ∃ i, a = 30 + i := ⟨a - 30, by omega⟩
    rw [if_pos ⟨e1, rfl⟩, Nat.add_sub_cancel_left]
    by_cases e2 : S 13 i = c
    · rw [ho i e2, e2, upL_s]
    · rw [upL_o _ _ e2, hq _ _ (fun q => by rcases hc with rfl | rfl <;> have := q.2 <;> omega) (fun q => e2 (by rw [← q.2.2, Nat.add_sub_cancel_left])), rr_o]
  · rw [if_neg e1]
    by_cases e2 : a = sd c ∧ j = 1
    · obtain ⟨rfl, rfl⟩ := e2
      rw [h]
      rcases hc with rfl | rfl
      · rfl
      · rfl
    · rw [hq a j e2 (fun q => e1 ⟨q.1, q.2.1⟩)]
      show cR_ S X.1 μ.2.2.1 a j = _
      unfold cR_
      rw [if_neg e1]
      rcases hc with rfl | rfl
      · have e3 : ¬ (a = 4 ∧ j = 1) := e2
        rw [if_neg e3, if_neg e3]
        rfl
      · have e3 : ¬ (a = 5 ∧ j = 1) := e2
        rw [if_neg e3, if_neg e3]
        rfl
