/-! ===== the abstract machine: ints as numbers, objects by logical names; one memory for all objects of the claim ===== -/
abbrev aV : Type := Int ⊕ (Nat ⊕ (Int ⊕ (UInt32 ⊕ (UInt64 ⊕ Unit))))
abbrev aI (x : Int) : aV := .inl x
abbrev aR (r : Nat) : aV := .inr (.inl r)
abbrev aL (x : Int) : aV := .inr (.inr (.inl x))
abbrev aF (x : UInt32) : aV := .inr (.inr (.inr (.inl x)))
abbrev aD (x : UInt64) : aV := .inr (.inr (.inr (.inr (.inl x))))
abbrev aU : aV := .inr (.inr (.inr (.inr (.inr ()))))
/-- ints; longs; references (0: null); doubles; how many objects there are (named 2, 3, ..) -/
abbrev aM : Type := (Nat → Nat → Int) × (Nat → Nat → Int) × (Nat → Nat → Nat) × (Nat → Nat → UInt64) × Nat
def rI (μ : aM) (a k : Nat) : Int := μ.1 a k
def rL (μ : aM) (a k : Nat) : Int := μ.2.1 a k
def rR (μ : aM) (a k : Nat) : Nat := μ.2.2.1 a k
def rD (μ : aM) (a k : Nat) : UInt64 := μ.2.2.2.1 a k
def rN (μ : aM) : Nat := μ.2.2.2.2
def up2 {α : Type} (f : Nat → Nat → α) (a k : Nat) (x : α) : Nat → Nat → α := fun b j => if b = a ∧ j = k then x else f b j
def sI (μ : aM) (a k : Nat) (x : Int) : aM := (up2 μ.1 a k x, μ.2)
def sL (μ : aM) (a k : Nat) (x : Int) : aM := (μ.1, up2 μ.2.1 a k x, μ.2.2)
def sR (μ : aM) (a k : Nat) (x : Nat) : aM := (μ.1, μ.2.1, up2 μ.2.2.1 a k x, μ.2.2.2)
def sD (μ : aM) (a k : Nat) (x : UInt64) : aM := (μ.1, μ.2.1, μ.2.2.1, up2 μ.2.2.2.1 a k x, μ.2.2.2.2)
/-- one more object, all zero -/
def sN (μ : aM) : aM := (fun b j => if b = μ.2.2.2.2 + 2 then 0 else μ.1 b j, fun b j => if b = μ.2.2.2.2 + 2 then 0 else μ.2.1 b j, fun b j => if b = μ.2.2.2.2 + 2 then 0 else μ.2.2.1 b j, fun b j => if b = μ.2.2.2.2 + 2 then 0 else μ.2.2.2.1 b j, μ.2.2.2.2 + 1)
def in32 (x : Int) : Prop := -2147483648 ≤ x ∧ x ≤ 2147483647
def in64 (x : Int) : Prop := -9223372036854775808 ≤ x ∧ x ≤ 9223372036854775807
def wr (x : Int) : Int := (x + 2147483648) % 4294967296 - 2147483648
def wr64 (x : Int) : Int := (x + 9223372036854775808) % 18446744073709551616 - 9223372036854775808
theorem wr_in (x : Int) : in32 (wr x) := by unfold in32 wr; omega
theorem wr64_in (x : Int) : in64 (wr64 x) := by unfold in64 wr64; omega
theorem wr_id {x : Int} (h1 : -2147483648 ≤ x) (h2 : x ≤ 2147483647) : wr x = x := by unfold wr; omega
theorem wr64_id {x : Int} (h1 : -9223372036854775808 ≤ x) (h2 : x ≤ 9223372036854775807) : wr64 x = x := by unfold wr64; omega
theorem of_wr (x : Int) : Int32.ofInt (wr x) = Int32.ofInt x := by
  apply Int32.toInt_inj.mp
  rw [Int32.toInt_ofInt, Int32.toInt_ofInt]
  unfold wr
  rw [Int.bmod_def, Int.bmod_def]
  show (if ((x + 2147483648) % 4294967296 - 2147483648) % ((4294967296 : Nat) : Int) < (((4294967296 : Nat) : Int) + 1) / 2 then ((x + 2147483648) % 4294967296 - 2147483648) % ((4294967296 : Nat) : Int) else ((x + 2147483648) % 4294967296 - 2147483648) % ((4294967296 : Nat) : Int) - ((4294967296 : Nat) : Int)) = (if x % ((4294967296 : Nat) : Int) < (((4294967296 : Nat) : Int) + 1) / 2 then x % ((4294967296 : Nat) : Int) else x % ((4294967296 : Nat) : Int) - ((4294967296 : Nat) : Int))
  split <;> split <;> omega
theorem of_wr64 (x : Int) : Int64.ofInt (wr64 x) = Int64.ofInt x := by
  apply Int64.toInt_inj.mp
  rw [Int64.toInt_ofInt, Int64.toInt_ofInt]
  unfold wr64
  rw [Int.bmod_def, Int.bmod_def]
  show (if ((x + 9223372036854775808) % 18446744073709551616 - 9223372036854775808) % ((18446744073709551616 : Nat) : Int) < (((18446744073709551616 : Nat) : Int) + 1) / 2 then ((x + 9223372036854775808) % 18446744073709551616 - 9223372036854775808) % ((18446744073709551616 : Nat) : Int) else ((x + 9223372036854775808) % 18446744073709551616 - 9223372036854775808) % ((18446744073709551616 : Nat) : Int) - ((18446744073709551616 : Nat) : Int)) = (if x % ((18446744073709551616 : Nat) : Int) < (((18446744073709551616 : Nat) : Int) + 1) / 2 then x % ((18446744073709551616 : Nat) : Int) else x % ((18446744073709551616 : Nat) : Int) - ((18446744073709551616 : Nat) : Int))
  split <;> split <;> omega
theorem to_of {x : Int} (h : in32 x) : (Int32.ofInt x).toInt = x := Int32.toInt_ofInt_of_le (by have := h.1; omega) (by have := h.2; omega)
theorem to_of64 {x : Int} (h : in64 x) : (Int64.ofInt x).toInt = x := Int64.toInt_ofInt_of_le (by have := h.1; omega) (by have := h.2; omega)
theorem of_lt {x y : Int} (h : in32 x) (h2 : in32 y) : (Int32.ofInt x < Int32.ofInt y) ↔ x < y := by rw [Int32.lt_iff_toInt_lt, to_of h, to_of h2]
theorem of_le {x y : Int} (h : in32 x) (h2 : in32 y) : (Int32.ofInt x ≤ Int32.ofInt y) ↔ x ≤ y := by rw [Int32.le_iff_toInt_le, to_of h, to_of h2]
theorem of_eq {x y : Int} (h : in32 x) (h2 : in32 y) : (Int32.ofInt x = Int32.ofInt y) ↔ x = y := by rw [← Int32.toInt_inj, to_of h, to_of h2]
theorem of_clamp {x : Int} (h0 : 0 ≤ x) (h : in32 x) : (Int32.ofInt x).toNatClampNeg = x.toNat := by
  show (Int32.ofInt x).toInt.toNat = x.toNat
  rw [to_of h]
theorem of_in {x : Int} {n : Nat} (h : in32 x) (h0 : 0 ≤ x) (h1 : x < n) : vp_in (Int32.ofInt x) n := by
  intro q
  rcases q with q | q
  · have : (0 : Int32) = Int32.ofInt 0 := rfl
    rw [this, of_lt h ⟨by omega, by omega⟩] at q
    omega
  · rw [of_clamp h0 h] at q
    omega
-- values and cells
def cr (ad : Nat → Nat) (r : Nat) : Option Nat := if r = 0 then none else some (ad r)
def cv (ad : Nat → Nat) (v : aV) : Value := match v with
  | .inl x => .int (Int32.ofInt x)
  | .inr (.inl r) => va_rf (cr ad r)
  | .inr (.inr (.inl x)) => .long (Int64.ofInt x)
  | .inr (.inr (.inr (.inl x))) => .float x
  | .inr (.inr (.inr (.inr (.inl x)))) => .double x
  | .inr (.inr (.inr (.inr (.inr _)))) => .null
def okV (n : Nat) (v : aV) : Prop := match v with
  | .inl x => in32 x
  | .inr (.inl r) => r < n + 2
  | .inr (.inr (.inl x)) => in64 x
  | _ => True
def okS (n : Nat) (st : List aV) : Prop := ∀ v ∈ st, okV n v
def okM (μ : aM) : Prop := (∀ a k, in32 (rI μ a k)) ∧ (∀ a k, in64 (rL μ a k)) ∧ ∀ a k, rR μ a k < rN μ + 2
def c2V (v : aV) : Bool := match v with
  | .inr (.inr (.inl _)) => true
  | .inr (.inr (.inr (.inr (.inl _)))) => true
  | _ => false
def isU (v : aV) : Bool := match v with
  | .inr (.inr (.inr (.inr (.inr _)))) => true
  | _ => false
/-- classes -/
abbrev aCl : List vw_C := [(RX0, TX0, 3), (RX1, TX1, 2), (RX2, TX2, 12), (RX3, TX3, 8), (RX4, TX4, 9), (RX5, TX5, 25)]
def aTy (ci k : Nat) : FieldType := match ci with
  | 0 => tyX0 k
  | 1 => tyX1 k
  | 2 => tyX2 k
  | 3 => tyX3 k
  | 4 => tyX4 k
  | _ => tyX5 k
def aNf (ci : Nat) : Nat := match ci with
  | 0 => 3
  | 1 => 2
  | 2 => 12
  | 3 => 8
  | 4 => 9
  | _ => 25
/-- what is named how: kind (0..5: an object of that class; 6 char[], 7 int[], 8 long[], 9 double[], 10 orders) and length -/
def shp (a : Nat) : Nat × Nat := if 30 ≤ a then (2, 0) else match a with
  | 2 => (4, 0)
  | 3 => (10, 512)
  | 4 => (1, 0)
  | 5 => (1, 0)
  | 6 => (3, 0)
  | 7 => (7, 50)
  | 8 => (7, 50)
  | 9 => (7, 50)
  | 10 => (7, 50)
  | 11 => (0, 0)
  | 12 => (5, 0)
  | 13 => (6, 2000)
  | 14 => (6, 2000)
  | 15 => (7, 2000)
  | 16 => (7, 2000)
  | 17 => (7, 2000)
  | 18 => (7, 2000)
  | 19 => (7, 2000)
  | 20 => (7, 2000)
  | 21 => (7, 2000)
  | 22 => (7, 2000)
  | 23 => (7, 2000)
  | 24 => (7, 50)
  | 25 => (7, 50)
  | 26 => (7, 50)
  | 27 => (7, 50)
  | 28 => (8, 1)
  | _ => (9, 1)
def aFv (ad : Nat → Nat) (μ : aM) (a ci k : Nat) : Value := match aTy ci k with
  | .long => .long (Int64.ofInt (rL μ a k))
  | .object _ => va_rf (cr ad (rR μ a k))
  | .array _ => va_rf (cr ad (rR μ a k))
  | _ => .int (Int32.ofInt (rI μ a k))
def aE (cA : Nat → ClassId) (ad : Nat → Nat) (μ : aM) (a : Nat) : va_E := match (shp a).1 with
  | 6 => .inl (cA 0, (shp a).2, .inl (fun j => Int32.ofInt (rI μ a j)))
  | 7 => .inl (cA 1, (shp a).2, .inl (fun j => Int32.ofInt (rI μ a j)))
  | 8 => .inl (cA 2, (shp a).2, .inr (.inl (fun j => Int64.ofInt (rL μ a j))))
  | 9 => .inl (cA 3, (shp a).2, .inr (.inr (.inr (.inl (fun j => rD μ a j)))))
  | 10 => .inl (cA 4, (shp a).2, .inr (.inr (.inr (.inr (fun j => cr ad (rR μ a j))))))
  | ci => .inr (ci, (List.range (aNf ci)).map (aFv ad μ a ci))
def aW (cA : Nat → ClassId) (ad : Nat → Nat) (μ : aM) : va_W := (List.range (rN μ)).map (fun i => (ad (i + 2), aE cA ad μ (i + 2)))
abbrev aTs (cA : Nat → ClassId) : List (ClassId × FieldType) := [(cA 0, .char), (cA 1, .int), (cA 2, .long), (cA 3, .double), (cA 4, .object RX2)]
/-- a name that stands for an object -/
def okA (μ : aM) (a : Nat) : Prop := 2 ≤ a ∧ a < rN μ + 2
theorem aW_get {cA : Nat → ClassId} {ad : Nat → Nat} {μ : aM} {a : Nat} (h : okA μ a) : (aW cA ad μ)[a - 2]? = some (ad a, aE cA ad μ a) := by
  obtain ⟨h1, h2⟩ := h
  have e : a - 2 + 2 = a := by omega
  simp only [aW, List.getElem?_map, List.getElem?_range (show a - 2 < rN μ by omega), Option.map_some, e]
theorem aW_set {cA : Nat → ClassId} {ad : Nat → Nat} {μ μ' : aM} {a : Nat} (h : okA μ a) (hN : rN μ' = rN μ) (he : ∀ b, b ≠ a → aE cA ad μ' b = aE cA ad μ b) {e : va_E} (hx : e = aE cA ad μ' a) : (aW cA ad μ).set (a - 2) (ad a, e) = aW cA ad μ' := by
  subst hx
  obtain ⟨h1, h2⟩ := h
  apply List.ext_getElem?
  intro j
  unfold aW
  rw [List.getElem?_set]
  by_cases hj : a - 2 = j
  · subst hj
    have e : a - 2 + 2 = a := by omega
    rw [if_pos rfl]
    simp only [List.length_map, List.length_range, List.getElem?_map, hN]
    rw [if_pos (by omega), List.getElem?_range (by omega)]
    simp [e]
  · rw [if_neg hj]
    simp only [List.getElem?_map, hN]
    by_cases hr : j < rN μ
    · rw [List.getElem?_range hr]
      simp only [Option.map_some]
      rw [he (j + 2) (by omega)]
    · rw [List.getElem?_eq_none (by simpa using hr)]
      rfl
theorem aW_push {cA : Nat → ClassId} {ad : Nat → Nat} {μ : aM} {q : Nat} {e : va_E} (he : ∀ b, b < rN μ + 2 → aE cA (fun i => if i = rN μ + 2 then q else ad i) (sN μ) b = aE cA ad μ b) (hx : e = aE cA (fun i => if i = rN μ + 2 then q else ad i) (sN μ) (rN μ + 2)) : aW cA ad μ ++ [(q, e)] = aW cA (fun i => if i = rN μ + 2 then q else ad i) (sN μ) := by
  subst hx
  unfold aW
  rw [show rN (sN μ) = rN μ + 1 from rfl, List.range_succ, List.map_append]
  congr 1
  · apply List.map_congr_left
    intro i hi
    have hi : i < rN μ := List.mem_range.mp hi
    refine Prod.ext ?_ (he (i + 2) (by omega)).symm
    show ad (i + 2) = if i + 2 = rN μ + 2 then q else ad (i + 2)
    rw [if_neg (by omega)]
  · simp
