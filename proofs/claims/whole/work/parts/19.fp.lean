/-! ===== floats: quotients of whole numbers are no NaNs ===== -/
/-- a datum that an encoding of the format can hold, no NaN -/
def fpG (f : FP.Core.Fmt) : FP.Core.Datum → Prop
  | .nan => False
  | .inf _ => True
  | .fin _ c q => c < 2 ^ f.p ∧ q ≤ f.qmax
def fpF (f : FP.Core.Fmt) : FP.Core.Datum → Prop
  | .nan => False
  | .inf _ => False
  | .fin _ c q => c < 2 ^ f.p ∧ q ≤ f.qmax ∧ c ≠ 0
theorem fp_round {f : FP.Core.Fmt} (h1 : f.tails < 2 ^ f.p) (h2 : f.qmin ≤ f.qmax) (s : Bool) (num den : Nat) (e : Int) : fpG f (FP.Core.roundRatio f s num den e) := by
  unfold FP.Core.roundRatio
  split
  · exact ⟨by have := h1; omega, h2⟩
  · unfold FP.Core.roundAt FP.Core.settle FP.Core.bound
    split
    · split
      · exact ⟨‹_›, ‹_›⟩
      · trivial
    · split
      · exact ⟨h1, ‹_›⟩
      · trivial
theorem fp_1_64 : FP.Core.b64.tails < 2 ^ FP.Core.b64.p := by decide
theorem fp_2_64 : FP.Core.b64.qmin ≤ FP.Core.b64.qmax := by decide
theorem fp_1_32 : FP.Core.b32.tails < 2 ^ FP.Core.b32.p := by decide
theorem fp_2_32 : FP.Core.b32.qmin ≤ FP.Core.b32.qmax := by decide
theorem fp_asm64 (s : Bool) (e t : Nat) : FP.Core.assemble FP.Core.b64 s e t = (s.toNat * 2048 + e) * 4503599627370496 + t := rfl
theorem fp_asm32 (s : Bool) (e t : Nat) : FP.Core.assemble FP.Core.b32 s e t = (s.toNat * 256 + e) * 8388608 + t := rfl
theorem fp_n64 {d : FP.Core.Datum} (h : fpG FP.Core.b64 d) : FP.Core.encode FP.Core.b64 d < 18446744073709551616 ∧ FP.Core.encode FP.Core.b64 d % 9223372036854775808 ≤ 9218868437227405312 := by
  cases d with
  | nan => exact h.elim
  | inf s => cases s <;> decide
  | fin s c q =>
    have h1 : c < 9007199254740992 := h.1
    have h2 : q ≤ 971 := h.2
    have h3 : FP.Core.b64.qmin = -1074 := by decide
    have hs : s.toNat ≤ 1 := by cases s <;> decide
    show (if c < 4503599627370496 then _ else _) < _ ∧ (if c < 4503599627370496 then _ else _) % _ ≤ _
    rw [h3, show FP.Core.b64.tails = 4503599627370496 from rfl]
    split
    · rw [fp_asm64]
      omega
    · rw [fp_asm64]
      omega
theorem fp_n32 {d : FP.Core.Datum} (h : fpG FP.Core.b32 d) : FP.Core.encode FP.Core.b32 d < 4294967296 ∧ FP.Core.encode FP.Core.b32 d % 2147483648 ≤ 2139095040 := by
  cases d with
  | nan => exact h.elim
  | inf s => cases s <;> decide
  | fin s c q =>
    have h1 : c < 16777216 := h.1
    have h2 : q ≤ 104 := h.2
    have h3 : FP.Core.b32.qmin = -149 := by decide
    have hs : s.toNat ≤ 1 := by cases s <;> decide
    show (if c < 8388608 then _ else _) < _ ∧ (if c < 8388608 then _ else _) % _ ≤ _
    rw [h3, show FP.Core.b32.tails = 8388608 from rfl]
    split
    · rw [fp_asm32]
      omega
    · rw [fp_asm32]
      omega
theorem fp_v64 {n : Nat} (h1 : n < 18446744073709551616) (h2 : n % 9223372036854775808 ≤ 9218868437227405312) : vf_n64 (.ofNat n) := by
  unfold vf_n64
  rw [UInt64.le_iff_toNat_le, UInt64.toNat_and, UInt64.toNat_ofNat']
  rw [Nat.mod_eq_of_lt h1]
  show n &&& 0x7fffffffffffffff ≤ 0x7ff0000000000000
  rw [show (0x7fffffffffffffff : Nat) = 2 ^ 63 - 1 by decide, Nat.and_two_pow_sub_one_eq_mod]
  exact h2
theorem fp_v32 {n : Nat} (h1 : n < 4294967296) (h2 : n % 2147483648 ≤ 2139095040) : vf_n32 (.ofNat n) := by
  unfold vf_n32
  rw [UInt32.le_iff_toNat_le, UInt32.toNat_and, UInt32.toNat_ofNat']
  rw [Nat.mod_eq_of_lt h1]
  show n &&& 0x7fffffff ≤ 0x7f800000
  rw [show (0x7fffffff : Nat) = 2 ^ 31 - 1 by decide, Nat.and_two_pow_sub_one_eq_mod]
  exact h2
theorem fp_int64 {i : Int} (h0 : 0 < i) (h1 : i < 2 ^ 53) : fpF FP.Core.b64 (FP.Core.round FP.Core.b64 (FP.Core.ofInt i)) := by
  have hc : 0 < i.natAbs := by omega
  have hc2 : i.natAbs < 2 ^ 53 := by omega
  show fpF FP.Core.b64 (FP.Core.roundRatio FP.Core.b64 (decide (i < 0)) i.natAbs 1 0)
  generalize i.natAbs = c at *
  generalize decide (i < 0) = s
  unfold FP.Core.roundRatio
  rw [if_neg (by omega)]
  have hl : c.log2 ≤ 52 := by
    have := (Nat.log2_lt (k := 53) (by omega)).mpr hc2
    omega
  have hq : FP.Core.quantum FP.Core.b64 c 1 0 ≤ 0 := by
    have hk : FP.Core.leading c 1 ≤ c.log2 := by
      unfold FP.Core.leading
      have h1 : (1 : Nat).log2 = 0 := by decide
      rw [h1]
      simp only [Int.natCast_zero, Int.sub_zero]
      split <;> omega
    have hm : FP.Core.b64.qmin ≤ 0 := by decide
    have hp : FP.Core.b64.p = 53 := rfl
    unfold FP.Core.quantum
    rw [hp]
    omega
  generalize FP.Core.quantum FP.Core.b64 c 1 0 = q at *
  have hx : FP.Core.b64.qmax = 971 := by decide
  have en : FP.Core.nearest (FP.Core.unitsNum c 0 q) (FP.Core.unitsDen 1 0 q) = FP.Core.unitsNum c 0 q := by
    have ed : FP.Core.unitsDen 1 0 q = 1 := by
      unfold FP.Core.unitsDen
      rw [show (q - 0).toNat = 0 by omega]
    rw [ed]
    unfold FP.Core.nearest
    rw [Nat.mod_one, if_pos (by decide), Nat.div_one]
  have ep : 0 < FP.Core.unitsNum c 0 q := Nat.mul_pos hc (Nat.pow_pos (by decide))
  unfold FP.Core.roundAt FP.Core.settle FP.Core.bound
  rw [en]
  split
  · rw [if_pos (by omega)]
    exact ⟨‹_›, by omega, by omega⟩
  · rw [if_pos (by omega)]
    exact ⟨fp_1_64, by omega, by decide⟩
theorem fp_dec64 {d : FP.Core.Datum} (h : fpF FP.Core.b64 d) : ∃ s c q, FP.Core.decode FP.Core.b64 (FP.Core.encode FP.Core.b64 d) = .fin s c q ∧ c ≠ 0 := by
  cases d with
  | nan => exact h.elim
  | inf s => exact h.elim
  | fin s c q =>
    have h1 : c < 9007199254740992 := h.1
    have h2 : q ≤ 971 := h.2.1
    have h4 : c ≠ 0 := h.2.2
    have h3 : FP.Core.b64.qmin = -1074 := by decide
    have hs : s.toNat ≤ 1 := by cases s <;> decide
    have e1 : ∀ n, FP.Core.fieldE FP.Core.b64 n = n / 4503599627370496 % 2048 := fun n => rfl
    have e2 : ∀ n, FP.Core.fieldT FP.Core.b64 n = n % 4503599627370496 := fun n => rfl
    have e3 : FP.Core.b64.exps - 1 = 2047 := rfl
    have e4 : FP.Core.encode FP.Core.b64 (.fin s c q) = if c < 4503599627370496 then (s.toNat * 2048 + 0) * 4503599627370496 + c else (s.toNat * 2048 + ((q - FP.Core.b64.qmin).toNat + 1)) * 4503599627370496 + (c - 4503599627370496) := rfl
    rw [e4, h3]
    unfold FP.Core.decode
    rw [e1, e2, e3]
    split
    · rw [if_neg (by omega), if_pos (by omega)]
      exact ⟨_, _, _, rfl, by omega⟩
    · rw [if_neg (by omega), if_neg (by omega)]
      exact ⟨_, _, _, rfl, by show FP.Core.b64.tails + _ ≠ 0; rw [show FP.Core.b64.tails = 4503599627370496 from rfl]; omega⟩
theorem fp_div64 {a b : Int} (a0 : 0 ≤ a) (a1 : a < 2 ^ 53) (b0 : 0 < b) (b1 : b < 2 ^ 53) : fpG FP.Core.b64 (FP.Core.quotient FP.Core.b64 (FP.Core.decode FP.Core.b64 (FP.Core.fromInt FP.Core.b64 a)) (FP.Core.decode FP.Core.b64 (FP.Core.fromInt FP.Core.b64 b))) := by
  obtain ⟨s2, c2, q2, e2, n2⟩ := fp_dec64 (fp_int64 b0 b1)
  have e1 : ∃ s c q, FP.Core.decode FP.Core.b64 (FP.Core.fromInt FP.Core.b64 a) = .fin s c q := by
    rcases Int.lt_or_eq_of_le a0 with h | h
    · obtain ⟨s, c, q, e, _⟩ := fp_dec64 (fp_int64 h a1)
      exact ⟨s, c, q, e⟩
    · subst h
      exact ⟨false, 0, -1074, by decide⟩
  obtain ⟨s1, c1, q1, e1⟩ := e1
  unfold FP.Core.fromInt at *
  rw [e1, e2]
  unfold FP.Core.quotient
  show fpG _ (if c2 = 0 then _ else _)
  rw [if_neg n2]
  exact fp_round fp_1_64 fp_2_64 _ _ _ _
theorem fp_int32 {i : Int} (h0 : 0 < i) (h1 : i < 2 ^ 24) : fpF FP.Core.b32 (FP.Core.round FP.Core.b32 (FP.Core.ofInt i)) := by
  have hc : 0 < i.natAbs := by omega
  have hc2 : i.natAbs < 2 ^ 24 := by omega
  show fpF FP.Core.b32 (FP.Core.roundRatio FP.Core.b32 (decide (i < 0)) i.natAbs 1 0)
  generalize i.natAbs = c at *
  generalize decide (i < 0) = s
  unfold FP.Core.roundRatio
  rw [if_neg (by omega)]
  have hl : c.log2 ≤ 23 := by
    have := (Nat.log2_lt (k := 24) (by omega)).mpr hc2
    omega
  have hq : FP.Core.quantum FP.Core.b32 c 1 0 ≤ 0 := by
    have hk : FP.Core.leading c 1 ≤ c.log2 := by
      unfold FP.Core.leading
      have h1 : (1 : Nat).log2 = 0 := by decide
      rw [h1]
      simp only [Int.natCast_zero, Int.sub_zero]
      split <;> omega
    have hm : FP.Core.b32.qmin ≤ 0 := by decide
    have hp : FP.Core.b32.p = 24 := rfl
    unfold FP.Core.quantum
    rw [hp]
    omega
  generalize FP.Core.quantum FP.Core.b32 c 1 0 = q at *
  have hx : FP.Core.b32.qmax = 104 := by decide
  have en : FP.Core.nearest (FP.Core.unitsNum c 0 q) (FP.Core.unitsDen 1 0 q) = FP.Core.unitsNum c 0 q := by
    have ed : FP.Core.unitsDen 1 0 q = 1 := by
      unfold FP.Core.unitsDen
      rw [show (q - 0).toNat = 0 by omega]
    rw [ed]
    unfold FP.Core.nearest
    rw [Nat.mod_one, if_pos (by decide), Nat.div_one]
  have ep : 0 < FP.Core.unitsNum c 0 q := Nat.mul_pos hc (Nat.pow_pos (by decide))
  unfold FP.Core.roundAt FP.Core.settle FP.Core.bound
  rw [en]
  split
  · rw [if_pos (by omega)]
    exact ⟨‹_›, by omega, by omega⟩
  · rw [if_pos (by omega)]
    exact ⟨fp_1_32, by omega, by decide⟩
theorem fp_dec32 {d : FP.Core.Datum} (h : fpF FP.Core.b32 d) : ∃ s c q, FP.Core.decode FP.Core.b32 (FP.Core.encode FP.Core.b32 d) = .fin s c q ∧ c ≠ 0 := by
  cases d with
  | nan => exact h.elim
  | inf s => exact h.elim
  | fin s c q =>
    have h1 : c < 16777216 := h.1
    have h2 : q ≤ 104 := h.2.1
    have h4 : c ≠ 0 := h.2.2
    have h3 : FP.Core.b32.qmin = -149 := by decide
    have hs : s.toNat ≤ 1 := by cases s <;> decide
    have e1 : ∀ n, FP.Core.fieldE FP.Core.b32 n = n / 8388608 % 256 := fun n => rfl
    have e2 : ∀ n, FP.Core.fieldT FP.Core.b32 n = n % 8388608 := fun n => rfl
    have e3 : FP.Core.b32.exps - 1 = 255 := rfl
    have e4 : FP.Core.encode FP.Core.b32 (.fin s c q) = if c < 8388608 then (s.toNat * 256 + 0) * 8388608 + c else (s.toNat * 256 + ((q - FP.Core.b32.qmin).toNat + 1)) * 8388608 + (c - 8388608) := rfl
    rw [e4, h3]
    unfold FP.Core.decode
    rw [e1, e2, e3]
    split
    · rw [if_neg (by omega), if_pos (by omega)]
      exact ⟨_, _, _, rfl, by omega⟩
    · rw [if_neg (by omega), if_neg (by omega)]
      exact ⟨_, _, _, rfl, by show FP.Core.b32.tails + _ ≠ 0; rw [show FP.Core.b32.tails = 8388608 from rfl]; omega⟩
theorem fp_div32 {a b : Int} (a0 : 0 ≤ a) (a1 : a < 2 ^ 24) (b0 : 0 < b) (b1 : b < 2 ^ 24) : fpG FP.Core.b32 (FP.Core.quotient FP.Core.b32 (FP.Core.decode FP.Core.b32 (FP.Core.fromInt FP.Core.b32 a)) (FP.Core.decode FP.Core.b32 (FP.Core.fromInt FP.Core.b32 b))) := by
  obtain ⟨s2, c2, q2, e2, n2⟩ := fp_dec32 (fp_int32 b0 b1)
  have e1 : ∃ s c q, FP.Core.decode FP.Core.b32 (FP.Core.fromInt FP.Core.b32 a) = .fin s c q := by
    rcases Int.lt_or_eq_of_le a0 with h | h
    · obtain ⟨s, c, q, e, _⟩ := fp_dec32 (fp_int32 h a1)
      exact ⟨s, c, q, e⟩
    · subst h
      exact ⟨false, 0, -149, by decide⟩
  obtain ⟨s1, c1, q1, e1⟩ := e1
  unfold FP.Core.fromInt at *
  rw [e1, e2]
  unfold FP.Core.quotient
  show fpG _ (if c2 = 0 then _ else _)
  rw [if_neg n2]
  exact fp_round fp_1_32 fp_2_32 _ _ _ _
theorem fp_ddiv {a b : Int} (a0 : 0 ≤ a) (a1 : a < 2 ^ 53) (b0 : 0 < b) (b1 : b < 2 ^ 53) : vf_n64 (FP.ddiv (FP.l2d (Int64.ofInt a)) (FP.l2d (Int64.ofInt b))) := by
  have hf : ∀ {x : Int}, 0 ≤ x → x < 2 ^ 53 → (FP.l2d (Int64.ofInt x)).toNat = FP.Core.fromInt FP.Core.b64 x := fun {x} h0 h1 => by
    show (UInt64.ofNat (FP.Core.fromInt FP.Core.b64 (Int64.ofInt x).toInt)).toNat = _
    rw [Int64.toInt_ofInt_of_le (by omega) (by omega), UInt64.toNat_ofNat', Nat.mod_eq_of_lt]
    exact (fp_n64 (fp_round fp_1_64 fp_2_64 _ _ _ _)).1
  have h := fp_n64 (fp_div64 a0 a1 b0 b1)
  show vf_n64 (UInt64.ofNat (FP.Core.div FP.Core.b64 (FP.l2d (Int64.ofInt a)).toNat (FP.l2d (Int64.ofInt b)).toNat))
  rw [hf a0 a1, hf (by omega) b1]
  exact fp_v64 h.1 h.2
theorem fp_fdiv {a b : Int} (a0 : 0 ≤ a) (a1 : a < 2 ^ 24) (b0 : 0 < b) (b1 : b < 2 ^ 24) : vf_n32 (FP.fdiv (FP.i2f (Int32.ofInt a)) (FP.i2f (Int32.ofInt b))) := by
  have hf : ∀ {x : Int}, 0 ≤ x → x < 2 ^ 24 → (FP.i2f (Int32.ofInt x)).toNat = FP.Core.fromInt FP.Core.b32 x := fun {x} h0 h1 => by
    show (UInt32.ofNat (FP.Core.fromInt FP.Core.b32 (Int32.ofInt x).toInt)).toNat = _
    rw [Int32.toInt_ofInt_of_le (by omega) (by omega), UInt32.toNat_ofNat', Nat.mod_eq_of_lt]
    exact (fp_n32 (fp_round fp_1_32 fp_2_32 _ _ _ _)).1
  have h := fp_n32 (fp_div32 a0 a1 b0 b1)
  show vf_n32 (UInt32.ofNat (FP.Core.div FP.Core.b32 (FP.i2f (Int32.ofInt a)).toNat (FP.i2f (Int32.ofInt b)).toNat))
  rw [hf a0 a1, hf (by omega) b1]
  exact fp_v32 h.1 h.2
theorem fp_conv {x : UInt32} (h : x.toNat % 2147483648 ≤ 2139095040) : vf_n64 (FP.f2d x) := by
  have hne : FP.Core.decode FP.Core.b32 x.toNat ≠ .nan := by
    generalize x.toNat = n at *
    have e1 : FP.Core.fieldE FP.Core.b32 n = n / 8388608 % 256 := rfl
    have e2 : FP.Core.fieldT FP.Core.b32 n = n % 8388608 := rfl
    have e3 : FP.Core.b32.exps - 1 = 255 := rfl
    unfold FP.Core.decode
    rw [e1, e2, e3]
    split
    · rw [if_pos (by omega)]
      exact fun q => FP.Core.Datum.noConfusion q
    · split <;> exact fun q => FP.Core.Datum.noConfusion q
  have hne2 : FP.Core.fIsNaN x = false := decide_eq_false hne
  unfold FP.f2d
  rw [hne2]
  show vf_n64 (UInt64.ofNat (FP.Core.encode FP.Core.b64 (FP.Core.round FP.Core.b64 (FP.Core.decode FP.Core.b32 x.toNat))))
  have g : fpG FP.Core.b64 (FP.Core.round FP.Core.b64 (FP.Core.decode FP.Core.b32 x.toNat)) := by
    generalize x.toNat = n at *
    have e1 : FP.Core.fieldE FP.Core.b32 n = n / 8388608 % 256 := rfl
    have e2 : FP.Core.fieldT FP.Core.b32 n = n % 8388608 := rfl
    have e3 : FP.Core.b32.exps - 1 = 255 := rfl
    unfold FP.Core.decode
    rw [e1, e2, e3]
    split
    · rw [if_pos (by omega)]
      trivial
    · split
      · exact fp_round fp_1_64 fp_2_64 _ _ _ _
      · exact fp_round fp_1_64 fp_2_64 _ _ _ _
  exact fp_v64 (fp_n64 g).1 (fp_n64 g).2
/-- what is told of an order's share, as a double -/
theorem fp_f2d {a b : Int} (a0 : 0 ≤ a) (a1 : a < 2 ^ 24) (b0 : 0 < b) (b1 : b < 2 ^ 24) : vf_n64 (FP.f2d (FP.fdiv (FP.i2f (Int32.ofInt a)) (FP.i2f (Int32.ofInt b)))) := by
  have h := fp_fdiv a0 a1 b0 b1
  unfold vf_n32 at h
  rw [UInt32.le_iff_toNat_le, UInt32.toNat_and] at h
  refine fp_conv ?_
  have h : (FP.fdiv (FP.i2f (Int32.ofInt a)) (FP.i2f (Int32.ofInt b))).toNat &&& 0x7fffffff ≤ 0x7f800000 := h
  rw [show (0x7fffffff : Nat) = 2 ^ 31 - 1 by decide, Nat.and_two_pow_sub_one_eq_mod] at h
  exact h
