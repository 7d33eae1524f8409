/-! ===== steps: stores, numbers, branches ===== -/
section ST2
variable {p : Program} {l : Launch} {e : Env} {R : Room} {s : State} {m : MethodId} {args : Array Value} {below : List Frame} {meth : Method} {c : Code} {nL : Nat} {cA : Nat → ClassId} {D : va_G} {A : Nat → Prop} {n0 : Nat} {ad0 : Nat → Nat} {Q : State → Prop}
variable {cc : ByteArray} {own : String}
def sSt (k n : Nat) (f : aV → Bool) : aSt := fun κ ls st μ g => match st with
  | v :: st => f v = true ∧ κ n (lst ls k v) st μ g
  | _ => False
def sSt2 (k n : Nat) (f : aV → Bool) : aSt := fun κ ls st μ g => match st with
  | v :: st => f v = true ∧ κ n (lst (lst ls (k + 1) aU) k v) st μ g
  | _ => False
def sInc (i : Nat) (d : Int) (n : Nat) : aSt := fun κ ls st μ g => match lg ls i with
  | .inl x => κ n (lst ls i (aI (wr (x + d)))) st μ g
  | _ => False
theorem ok_istore_n (F : aFx p l R s m args meth c cc nL own cA D A) {pc : Nat} {k : Fin 4} (i : Nat) (hi : (k : Nat) = i) (hn : i < nL) (d : decode cc pc = .ok (.istore_n k, 1)) : aOk p l e R s m args below meth c nL cA D A n0 ad0 Q pc (sSt i (pc + 1) isI) := by
  intro κ hκ ls st μ g h H locs ad lsA hH hS hL hM hl hs ha hn0
  match st, h, hs with
  | v :: st, h, hs =>
    obtain ⟨x, rfl⟩ := isI_e h.1
    exact lv_istore_n F.1 F.2.1 d hi (aLo_has hL) hn rfl (fun lsB hB => hκ _ _ _ _ _ h.2 H locs ad lsB hH hS (aLo_set1 hL rfl hB) hM (okS_lst hl (okS_hd hs) i) (okS_tl hs) ha hn0)
theorem ok_istore (F : aFx p l R s m args meth c cc nL own cA D A) {pc : Nat} {i : Nat} (hn : i < nL) (d : decode cc pc = .ok (.istore i, 2)) : aOk p l e R s m args below meth c nL cA D A n0 ad0 Q pc (sSt i (pc + 2) isI) := by
  intro κ hκ ls st μ g h H locs ad lsA hH hS hL hM hl hs ha hn0
  match st, h, hs with
  | v :: st, h, hs =>
    obtain ⟨x, rfl⟩ := isI_e h.1
    exact lv_istore F.1 F.2.1 d (aLo_has hL) hn rfl (fun lsB hB => hκ _ _ _ _ _ h.2 H locs ad lsB hH hS (aLo_set1 hL rfl hB) hM (okS_lst hl (okS_hd hs) i) (okS_tl hs) ha hn0)
theorem ok_fstore (F : aFx p l R s m args meth c cc nL own cA D A) {pc : Nat} {i : Nat} (hn : i < nL) (d : decode cc pc = .ok (.fstore i, 2)) : aOk p l e R s m args below meth c nL cA D A n0 ad0 Q pc (sSt i (pc + 2) isF) := by
  intro κ hκ ls st μ g h H locs ad lsA hH hS hL hM hl hs ha hn0
  match st, h, hs with
  | v :: st, h, hs =>
    obtain ⟨x, rfl⟩ := isF_e h.1
    exact lv_fstore F.1 F.2.1 d (aLo_has hL) hn rfl (fun lsB hB => hκ _ _ _ _ _ h.2 H locs ad lsB hH hS (aLo_set1 hL rfl hB) hM (okS_lst hl (okS_hd hs) i) (okS_tl hs) ha hn0)
theorem ok_dstore (F : aFx p l R s m args meth c cc nL own cA D A) {pc : Nat} {i : Nat} (hn : i + 1 < nL) (d : decode cc pc = .ok (.dstore i, 2)) : aOk p l e R s m args below meth c nL cA D A n0 ad0 Q pc (sSt2 i (pc + 2) isD) := by
  intro κ hκ ls st μ g h H locs ad lsA hH hS hL hM hl hs ha hn0
  match st, h, hs with
  | v :: st, h, hs =>
    obtain ⟨x, rfl⟩ := isD_e h.1
    exact lv_dstore F.1 F.2.1 d (aLo_has hL) hn rfl (fun lsB hB => hκ _ _ _ _ _ h.2 H locs ad lsB hH hS (aLo_set2 hL rfl rfl hB) hM (okS_lst (okS_lst hl (v := aU) trivial _) (okS_hd hs) i) (okS_tl hs) ha hn0)
theorem ok_astore_n (F : aFx p l R s m args meth c cc nL own cA D A) {pc : Nat} {k : Fin 4} (i : Nat) (hi : (k : Nat) = i) (hn : i < nL) (d : decode cc pc = .ok (.astore_n k, 1)) : aOk p l e R s m args below meth c nL cA D A n0 ad0 Q pc (sSt i (pc + 1) isR) := by
  intro κ hκ ls st μ g h H locs ad lsA hH hS hL hM hl hs ha hn0
  match st, h, hs with
  | v :: st, h, hs =>
    obtain ⟨x, rfl⟩ := isR_e h.1
    have hw := fun lsB hB => hκ _ _ _ _ _ h.2 H locs ad lsB hH hS hB hM (okS_lst hl (okS_hd hs) i) (okS_tl hs) ha hn0
    have e1 : cv ad (aR x) = va_rf (cr ad x) := rfl
    simp only [List.map_cons, e1]
    by_cases hx : x = 0
    · rw [show va_rf (cr ad x) = .null by rw [hx]; rfl]
      exact lv_astore_nN F.1 F.2.1 d hi (aLo_has hL) hn rfl (fun lsB hB => hw lsB (aLo_set1 hL (by rw [hx]; rfl) hB))
    · have e2 : va_rf (cr ad x) = .ref (ad x) := by unfold cr; rw [if_neg hx]; rfl
      rw [e2]
      exact lv_astore_n F.1 F.2.1 d hi (aLo_has hL) hn rfl (fun lsB hB => hw lsB (aLo_set1 hL (by rw [e1, e2]) hB))
theorem ok_astore (F : aFx p l R s m args meth c cc nL own cA D A) {pc : Nat} {i : Nat} (hn : i < nL) (d : decode cc pc = .ok (.astore i, 2)) : aOk p l e R s m args below meth c nL cA D A n0 ad0 Q pc (sSt i (pc + 2) isR) := by
  intro κ hκ ls st μ g h H locs ad lsA hH hS hL hM hl hs ha hn0
  match st, h, hs with
  | v :: st, h, hs =>
    obtain ⟨x, rfl⟩ := isR_e h.1
    have hw := fun lsB hB => hκ _ _ _ _ _ h.2 H locs ad lsB hH hS hB hM (okS_lst hl (okS_hd hs) i) (okS_tl hs) ha hn0
    have e1 : cv ad (aR x) = va_rf (cr ad x) := rfl
    simp only [List.map_cons, e1]
    by_cases hx : x = 0
    · rw [show va_rf (cr ad x) = .null by rw [hx]; rfl]
      exact lv_astoreN F.1 F.2.1 d (aLo_has hL) hn rfl (fun lsB hB => hw lsB (aLo_set1 hL (by rw [hx]; rfl) hB))
    · have e2 : va_rf (cr ad x) = .ref (ad x) := by unfold cr; rw [if_neg hx]; rfl
      rw [e2]
      exact lv_astore F.1 F.2.1 d (aLo_has hL) hn rfl (fun lsB hB => hw lsB (aLo_set1 hL (by rw [e1, e2]) hB))
theorem ok_iinc (F : aFx p l R s m args meth c cc nL own cA D A) {pc : Nat} {i : Nat} {n : Int} (hn : i < nL) (d : decode cc pc = .ok (.iinc i n, 3)) : aOk p l e R s m args below meth c nL cA D A n0 ad0 Q pc (sInc i n (pc + 3)) := by
  intro κ hκ ls st μ g h H locs ad lsA hH hS hL hM hl hs ha hn0
  unfold sInc at h
  split at h
  · next x hx =>
    have hg : ls[i]? = some (aI x) := (lg_get (by rw [hx]; rfl)).trans (congrArg some hx)
    obtain ⟨k, hk⟩ := List.getElem?_of_mem (lcv_mem (ad := ad) hg rfl)
    refine lv_iinc (v := Int32.ofInt (wr (x + n))) F.1 F.2.1 d (aLo_has hL) hk (by rw [of_wr, Int32.ofInt_add]) hn rfl (fun lsB hB => hκ _ _ _ _ _ h H locs ad lsB hH hS (aLo_set1 hL rfl hB) hM (okS_lst hl (v := aI (wr (x + n))) (wr_in _) i) hs ha hn0)
  · exact h.elim
-- numbers
def sBin (f : Int → Int → Int) (n : Nat) : aSt := fun κ ls st μ g => match st with
  | .inl b :: .inl a :: st => κ n ls (aI (f a b) :: st) μ g
  | _ => False
def sUn (f : Int → Int) (n : Nat) : aSt := fun κ ls st μ g => match st with
  | .inl a :: st => κ n ls (aI (f a) :: st) μ g
  | _ => False
def sRem (n : Nat) : aSt := fun κ ls st μ g => match st with
  | .inl b :: .inl a :: st => b ≠ 0 ∧ κ n ls (aI (a.tmod b) :: st) μ g
  | _ => False
def fAdd (a b : Int) : Int := wr (a + b)
def fSub (a b : Int) : Int := wr (a - b)
def fMul (a b : Int) : Int := wr (a * b)
def fAnd (a b : Int) : Int := (Int32.ofInt a &&& Int32.ofInt b).toInt
def fOr (a b : Int) : Int := (Int32.ofInt a ||| Int32.ofInt b).toInt
def fXor (a b : Int) : Int := (Int32.ofInt a ^^^ Int32.ofInt b).toInt
def fUshr (a b : Int) : Int := ((Int32.ofInt a).toUInt32 >>> ((Int32.ofInt b).toUInt32 &&& Int32.toUInt32 31)).toInt32.toInt
def fI2c (a : Int) : Int := (((Int32.ofInt a).toUInt32 % 65536).toInt32).toInt
theorem to_in (x : Int32) : in32 x.toInt := ⟨by have := x.le_toInt; omega, by have := x.toInt_lt; omega⟩
theorem ok_iadd (F : aFx p l R s m args meth c cc nL own cA D A) {pc : Nat} (d : decode cc pc = .ok (.iadd, 1)) : aOk p l e R s m args below meth c nL cA D A n0 ad0 Q pc (sBin fAdd (pc + 1)) := by
  intro κ hκ ls st μ g h H locs ad lsA hH hS hL hM hl hs ha hn0
  match st, h, hs with
  | .inl b :: .inl a :: st, h, hs =>
    have hw := hκ _ _ _ _ _ h H locs ad lsA hH hS hL hM hl (okS_cons (wr_in _) (okS_tl (okS_tl hs))) ha hn0
    simp only [List.map_cons, cv, fAdd, of_wr, Int32.ofInt_add] at hw
    exact lv_iadd F.1 F.2.1 d hw
theorem ok_isub (F : aFx p l R s m args meth c cc nL own cA D A) {pc : Nat} (d : decode cc pc = .ok (.isub, 1)) : aOk p l e R s m args below meth c nL cA D A n0 ad0 Q pc (sBin fSub (pc + 1)) := by
  intro κ hκ ls st μ g h H locs ad lsA hH hS hL hM hl hs ha hn0
  match st, h, hs with
  | .inl b :: .inl a :: st, h, hs =>
    have hw := hκ _ _ _ _ _ h H locs ad lsA hH hS hL hM hl (okS_cons (wr_in _) (okS_tl (okS_tl hs))) ha hn0
    simp only [List.map_cons, cv, fSub, of_wr, Int32.ofInt_sub] at hw
    exact lv_isub F.1 F.2.1 d hw
theorem ok_imul (F : aFx p l R s m args meth c cc nL own cA D A) {pc : Nat} (d : decode cc pc = .ok (.imul, 1)) : aOk p l e R s m args below meth c nL cA D A n0 ad0 Q pc (sBin fMul (pc + 1)) := by
  intro κ hκ ls st μ g h H locs ad lsA hH hS hL hM hl hs ha hn0
  match st, h, hs with
  | .inl b :: .inl a :: st, h, hs =>
    have hw := hκ _ _ _ _ _ h H locs ad lsA hH hS hL hM hl (okS_cons (wr_in _) (okS_tl (okS_tl hs))) ha hn0
    simp only [List.map_cons, cv, fMul, of_wr, Int32.ofInt_mul] at hw
    exact lv_imul F.1 F.2.1 d hw
theorem ok_iand (F : aFx p l R s m args meth c cc nL own cA D A) {pc : Nat} (d : decode cc pc = .ok (.iand, 1)) : aOk p l e R s m args below meth c nL cA D A n0 ad0 Q pc (sBin fAnd (pc + 1)) := by
  intro κ hκ ls st μ g h H locs ad lsA hH hS hL hM hl hs ha hn0
  match st, h, hs with
  | .inl b :: .inl a :: st, h, hs =>
    have hw := hκ _ _ _ _ _ h H locs ad lsA hH hS hL hM hl (okS_cons (to_in _) (okS_tl (okS_tl hs))) ha hn0
    simp only [List.map_cons, cv, fAnd, Int32.ofInt_toInt] at hw
    exact lv_iand F.1 F.2.1 d hw
theorem ok_ior (F : aFx p l R s m args meth c cc nL own cA D A) {pc : Nat} (d : decode cc pc = .ok (.ior, 1)) : aOk p l e R s m args below meth c nL cA D A n0 ad0 Q pc (sBin fOr (pc + 1)) := by
  intro κ hκ ls st μ g h H locs ad lsA hH hS hL hM hl hs ha hn0
  match st, h, hs with
  | .inl b :: .inl a :: st, h, hs =>
    have hw := hκ _ _ _ _ _ h H locs ad lsA hH hS hL hM hl (okS_cons (to_in _) (okS_tl (okS_tl hs))) ha hn0
    simp only [List.map_cons, cv, fOr, Int32.ofInt_toInt] at hw
    exact lv_ior F.1 F.2.1 d hw
theorem ok_ixor (F : aFx p l R s m args meth c cc nL own cA D A) {pc : Nat} (d : decode cc pc = .ok (.ixor, 1)) : aOk p l e R s m args below meth c nL cA D A n0 ad0 Q pc (sBin fXor (pc + 1)) := by
  intro κ hκ ls st μ g h H locs ad lsA hH hS hL hM hl hs ha hn0
  match st, h, hs with
  | .inl b :: .inl a :: st, h, hs =>
    have hw := hκ _ _ _ _ _ h H locs ad lsA hH hS hL hM hl (okS_cons (to_in _) (okS_tl (okS_tl hs))) ha hn0
    simp only [List.map_cons, cv, fXor, Int32.ofInt_toInt] at hw
    exact lv_ixor F.1 F.2.1 d hw
theorem ok_iushr (F : aFx p l R s m args meth c cc nL own cA D A) {pc : Nat} (d : decode cc pc = .ok (.iushr, 1)) : aOk p l e R s m args below meth c nL cA D A n0 ad0 Q pc (sBin fUshr (pc + 1)) := by
  intro κ hκ ls st μ g h H locs ad lsA hH hS hL hM hl hs ha hn0
  match st, h, hs with
  | .inl b :: .inl a :: st, h, hs =>
    have hw := hκ _ _ _ _ _ h H locs ad lsA hH hS hL hM hl (okS_cons (to_in _) (okS_tl (okS_tl hs))) ha hn0
    simp only [List.map_cons, cv, fUshr, Int32.ofInt_toInt] at hw
    exact lv_iushr F.1 F.2.1 d rfl hw
theorem ok_i2c (F : aFx p l R s m args meth c cc nL own cA D A) {pc : Nat} (d : decode cc pc = .ok (.i2c, 1)) : aOk p l e R s m args below meth c nL cA D A n0 ad0 Q pc (sUn fI2c (pc + 1)) := by
  intro κ hκ ls st μ g h H locs ad lsA hH hS hL hM hl hs ha hn0
  match st, h, hs with
  | .inl a :: st, h, hs =>
    have hw := hκ _ _ _ _ _ h H locs ad lsA hH hS hL hM hl (okS_cons (to_in _) (okS_tl hs)) ha hn0
    simp only [List.map_cons, cv, fI2c, Int32.ofInt_toInt] at hw
    exact lv_i2c F.1 F.2.1 d rfl hw
theorem ok_ineg (F : aFx p l R s m args meth c cc nL own cA D A) {pc : Nat} (d : decode cc pc = .ok (.ineg, 1)) : aOk p l e R s m args below meth c nL cA D A n0 ad0 Q pc (sUn (fun a => wr (-a)) (pc + 1)) := by
  intro κ hκ ls st μ g h H locs ad lsA hH hS hL hM hl hs ha hn0
  match st, h, hs with
  | .inl a :: st, h, hs =>
    have hw := hκ _ _ _ _ _ h H locs ad lsA hH hS hL hM hl (okS_cons (wr_in _) (okS_tl hs)) ha hn0
    simp only [List.map_cons, cv, of_wr, Int32.ofInt_neg] at hw
    first | exact lv_ineg F.1 F.2.1 d hw | (refine lv_ineg F.1 F.2.1 d ?_; simpa using hw)
theorem ok_irem (F : aFx p l R s m args meth c cc nL own cA D A) {pc : Nat} (d : decode cc pc = .ok (.irem, 1)) : aOk p l e R s m args below meth c nL cA D A n0 ad0 Q pc (sRem (pc + 1)) := by
  intro κ hκ ls st μ g h H locs ad lsA hH hS hL hM hl hs ha hn0
  match st, h, hs with
  | .inl b :: .inl a :: st, h, hs =>
    have hb : in32 b := okS_hd hs
    have ha' : in32 a := okS_hd (okS_tl hs)
    have e1 : (Int32.ofInt a % Int32.ofInt b).toInt = a.tmod b := by rw [Int32.toInt_mod, to_of ha', to_of hb]
    have hin : in32 (a.tmod b) := by rw [← e1]; exact to_in _
    have hw := hκ _ _ _ _ _ h.2 H locs ad lsA hH hS hL hM hl (okS_cons hin (okS_tl (okS_tl hs))) ha hn0
    simp only [List.map_cons, cv] at hw
    have e2 : Int32.ofInt (a.tmod b) = Int32.ofInt a - Int32.ofInt a / Int32.ofInt b * Int32.ofInt b := by
      rw [← Int32.ofInt_tdiv (by have := ha'.1; show (-2147483648 : Int) ≤ a; omega) (by have := ha'.2; show a ≤ (2147483647 : Int); omega) (by have := hb.1; show (-2147483648 : Int) ≤ b; omega) (by have := hb.2; show b ≤ (2147483647 : Int); omega), ← Int32.ofInt_mul, ← Int32.ofInt_sub, Int.tmod_def, Int.mul_comm]
    rw [e2] at hw
    exact lv_irem F.1 F.2.1 d (x := Int32.ofInt a) (y := Int32.ofInt b) (fun q => h.1 (by rw [show (0 : Int32) = Int32.ofInt 0 from rfl, of_eq hb ⟨by omega, by omega⟩] at q; exact q)) hw
-- longs
def sI2l (n : Nat) : aSt := fun κ ls st μ g => match st with
  | .inl a :: st => κ n ls (aL a :: st) μ g
  | _ => False
def sLbin (f : Int → Int → Int) (n : Nat) : aSt := fun κ ls st μ g => match st with
  | .inr (.inr (.inl b)) :: .inr (.inr (.inl a)) :: st => κ n ls (aL (f a b) :: st) μ g
  | _ => False
def sLcmp (n : Nat) : aSt := fun κ ls st μ g => match st with
  | .inr (.inr (.inl b)) :: .inr (.inr (.inl a)) :: st => κ n ls (aI (if a < b then -1 else if a = b then 0 else 1) :: st) μ g
  | _ => False
theorem ok_i2l (F : aFx p l R s m args meth c cc nL own cA D A) {pc : Nat} (d : decode cc pc = .ok (.i2l, 1)) : aOk p l e R s m args below meth c nL cA D A n0 ad0 Q pc (sI2l (pc + 1)) := by
  intro κ hκ ls st μ g h H locs ad lsA hH hS hL hM hl hs ha hn0
  match st, h, hs with
  | .inl a :: st, h, hs =>
    have hi : in32 a := okS_hd hs
    have hw := hκ _ _ _ _ _ h H locs ad lsA hH hS hL hM hl (okS_cons (show in64 a from ⟨by have := hi.1; omega, by have := hi.2; omega⟩) (okS_tl hs)) ha hn0
    exact lv_i2l F.1 F.2.1 d (Int32.toInt64_ofInt (by have := hi.1; show (-2147483648 : Int) ≤ a; omega) (by have := hi.2; show a ≤ (2147483647 : Int); omega)) hw
theorem ok_ladd (F : aFx p l R s m args meth c cc nL own cA D A) {pc : Nat} (d : decode cc pc = .ok (.ladd, 1)) : aOk p l e R s m args below meth c nL cA D A n0 ad0 Q pc (sLbin (fun a b => wr64 (a + b)) (pc + 1)) := by
  intro κ hκ ls st μ g h H locs ad lsA hH hS hL hM hl hs ha hn0
  match st, h, hs with
  | .inr (.inr (.inl b)) :: .inr (.inr (.inl a)) :: st, h, hs =>
    have hw := hκ _ _ _ _ _ h H locs ad lsA hH hS hL hM hl (okS_cons (wr64_in _) (okS_tl (okS_tl hs))) ha hn0
    simp only [List.map_cons, cv, of_wr64, Int64.ofInt_add] at hw
    exact lv_ladd F.1 F.2.1 d hw
theorem ok_lmul (F : aFx p l R s m args meth c cc nL own cA D A) {pc : Nat} (d : decode cc pc = .ok (.lmul, 1)) : aOk p l e R s m args below meth c nL cA D A n0 ad0 Q pc (sLbin (fun a b => wr64 (a * b)) (pc + 1)) := by
  intro κ hκ ls st μ g h H locs ad lsA hH hS hL hM hl hs ha hn0
  match st, h, hs with
  | .inr (.inr (.inl b)) :: .inr (.inr (.inl a)) :: st, h, hs =>
    have hw := hκ _ _ _ _ _ h H locs ad lsA hH hS hL hM hl (okS_cons (wr64_in _) (okS_tl (okS_tl hs))) ha hn0
    simp only [List.map_cons, cv, of_wr64, Int64.ofInt_mul] at hw
    exact lv_lmul F.1 F.2.1 d hw
theorem of_lt64 {x y : Int} (h : in64 x) (h2 : in64 y) : (Int64.ofInt x < Int64.ofInt y) ↔ x < y := by rw [Int64.lt_iff_toInt_lt, to_of64 h, to_of64 h2]
theorem of_eq64 {x y : Int} (h : in64 x) (h2 : in64 y) : (Int64.ofInt x = Int64.ofInt y) ↔ x = y := by rw [← Int64.toInt_inj, to_of64 h, to_of64 h2]
theorem lg_cmp_of {a b : Int} (h : in64 a) (h2 : in64 b) : lg_cmp (Int64.ofInt a) (Int64.ofInt b) = Int32.ofInt (if a < b then -1 else if a = b then 0 else 1) := by
  unfold lg_cmp
  simp only [of_lt64 h2 h, of_eq64 h h2]
  by_cases h3 : a < b
  · rw [if_pos h3, if_neg (by omega), if_neg (by omega)]; rfl
  · by_cases h4 : a = b
    · simp only [if_neg h3, if_pos h4, if_neg (show ¬ b < a by omega)]; rfl
    · simp only [if_neg h3, if_neg h4, if_pos (show b < a by omega)]; rfl
theorem ok_lcmp (F : aFx p l R s m args meth c cc nL own cA D A) {pc : Nat} (d : decode cc pc = .ok (.lcmp, 1)) : aOk p l e R s m args below meth c nL cA D A n0 ad0 Q pc (sLcmp (pc + 1)) := by
  intro κ hκ ls st μ g h H locs ad lsA hH hS hL hM hl hs ha hn0
  match st, h, hs with
  | .inr (.inr (.inl b)) :: .inr (.inr (.inl a)) :: st, h, hs =>
    have hb : in64 b := okS_hd hs
    have ha' : in64 a := okS_hd (okS_tl hs)
    have hw := hκ _ _ _ _ _ h H locs ad lsA hH hS hL hM hl (okS_cons (show in32 _ by split; exact ⟨by omega, by omega⟩; split <;> exact ⟨by omega, by omega⟩) (okS_tl (okS_tl hs))) ha hn0
    refine W.lcmp F.1 F.2.1 d ?_
    rw [lg_cmp_of ha' hb]
    exact hw
-- the stack
def sDup (n : Nat) : aSt := fun κ ls st μ g => match st with
  | v :: st => c2V v = false ∧ κ n ls (v :: v :: st) μ g
  | _ => False
def sDup2 (n : Nat) : aSt := fun κ ls st μ g => match st with
  | v :: w :: st => c2V v = false ∧ c2V w = false ∧ κ n ls (v :: w :: v :: w :: st) μ g
  | _ => False
theorem cat1_cv (ad : Nat → Nat) {v : aV} (h : c2V v = false) : (cv ad v).category = 1 := by
  have h1 := cat_cv ad v
  rw [h] at h1
  rcases lv_cat (cv ad v) with q | q
  · exact q
  · rw [q] at h1; cases h1
theorem ok_dup (F : aFx p l R s m args meth c cc nL own cA D A) {pc : Nat} (d : decode cc pc = .ok (.dup, 1)) : aOk p l e R s m args below meth c nL cA D A n0 ad0 Q pc (sDup (pc + 1)) := by
  intro κ hκ ls st μ g h H locs ad lsA hH hS hL hM hl hs ha hn0
  match st, h, hs with
  | v :: st, h, hs => exact lv_dup F.1 F.2.1 d (cat1_cv ad h.1) (hκ _ _ _ _ _ h.2 H locs ad lsA hH hS hL hM hl (okS_cons (okS_hd hs) hs) ha hn0)
theorem ok_dup2 (F : aFx p l R s m args meth c cc nL own cA D A) {pc : Nat} (d : decode cc pc = .ok (.dup2, 1)) : aOk p l e R s m args below meth c nL cA D A n0 ad0 Q pc (sDup2 (pc + 1)) := by
  intro κ hκ ls st μ g h H locs ad lsA hH hS hL hM hl hs ha hn0
  match st, h, hs with
  | v :: w :: st, h, hs => exact lv_dup2_11 F.1 F.2.1 d (cat1_cv ad h.1) (cat1_cv ad h.2.1) (hκ _ _ _ _ _ h.2.2 H locs ad lsA hH hS hL hM hl (okS_cons (okS_hd hs) (okS_cons (okS_hd (okS_tl hs)) hs)) ha hn0)
-- branches
def sIf (P : Int → Prop) (tgt n : Nat) : aSt := fun κ ls st μ g => match st with
  | .inl a :: st => (P a → κ tgt ls st μ g) ∧ (¬ P a → κ n ls st μ g)
  | _ => False
def sIc (P : Int → Int → Prop) (tgt n : Nat) : aSt := fun κ ls st μ g => match st with
  | .inl b :: .inl a :: st => (P a b → κ tgt ls st μ g) ∧ (¬ P a b → κ n ls st μ g)
  | _ => False
def sNul (tgt n : Nat) : aSt := fun κ ls st μ g => match st with
  | .inr (.inl r) :: st => (r = 0 → κ tgt ls st μ g) ∧ (r ≠ 0 → κ n ls st μ g)
  | _ => False
def sGoto (tgt : Nat) : aSt := fun κ ls st μ g => κ tgt ls st μ g
theorem ok_goto (F : aFx p l R s m args meth c cc nL own cA D A) {pc : Nat} {off : Int} (tgt : Nat) (ht : (pc : Int) + off = (tgt : Int)) (d : decode cc pc = .ok (.goto off, 3)) : aOk p l e R s m args below meth c nL cA D A n0 ad0 Q pc (sGoto tgt) :=
  fun κ hκ ls st μ g h H locs ad lsA hH hS hL hM hl hs ha hn0 => lv_goto F.1 F.2.1 d ht (hκ _ _ _ _ _ h H locs ad lsA hH hS hL hM hl hs ha hn0)
theorem z_eq {a : Int} (h : in32 a) : (Int32.ofInt a = 0) ↔ a = 0 := by rw [show (0 : Int32) = Int32.ofInt 0 from rfl, of_eq h ⟨by omega, by omega⟩]
theorem z_lt {a : Int} (h : in32 a) : (Int32.ofInt a < 0) ↔ a < 0 := by rw [show (0 : Int32) = Int32.ofInt 0 from rfl, of_lt h ⟨by omega, by omega⟩]
theorem z_le {a : Int} (h : in32 a) : (Int32.ofInt a ≤ 0) ↔ a ≤ 0 := by rw [show (0 : Int32) = Int32.ofInt 0 from rfl, of_le h ⟨by omega, by omega⟩]
theorem z_gt {a : Int} (h : in32 a) : (0 < Int32.ofInt a) ↔ 0 < a := by rw [show (0 : Int32) = Int32.ofInt 0 from rfl, of_lt ⟨by omega, by omega⟩ h]
theorem z_ge {a : Int} (h : in32 a) : (0 ≤ Int32.ofInt a) ↔ 0 ≤ a := by rw [show (0 : Int32) = Int32.ofInt 0 from rfl, of_le ⟨by omega, by omega⟩ h]
theorem ok_if_eq (F : aFx p l R s m args meth c cc nL own cA D A) {pc : Nat} {off : Int} (tgt : Nat) (ht : (pc : Int) + off = (tgt : Int)) (d : decode cc pc = .ok (.ifCond .eq off, 3)) : aOk p l e R s m args below meth c nL cA D A n0 ad0 Q pc (sIf (fun a => a = 0) tgt (pc + 3)) := by
  intro κ hκ ls st μ g h H locs ad lsA hH hS hL hM hl hs ha hn0
  match st, h, hs with
  | .inl a :: st, h, hs =>
    have ha' : in32 a := okS_hd hs
    refine lv_if_eq F.1 F.2.1 d ht (fun q => hκ _ _ _ _ _ (h.1 (by simpa [z_eq ha', ge_iff_le, gt_iff_lt] using q)) H locs ad lsA hH hS hL hM hl (okS_tl hs) ha hn0) (fun q => hκ _ _ _ _ _ (h.2 (by simpa [z_eq ha', ge_iff_le, gt_iff_lt] using q)) H locs ad lsA hH hS hL hM hl (okS_tl hs) ha hn0)
theorem ok_if_ne (F : aFx p l R s m args meth c cc nL own cA D A) {pc : Nat} {off : Int} (tgt : Nat) (ht : (pc : Int) + off = (tgt : Int)) (d : decode cc pc = .ok (.ifCond .ne off, 3)) : aOk p l e R s m args below meth c nL cA D A n0 ad0 Q pc (sIf (fun a => a ≠ 0) tgt (pc + 3)) := by
  intro κ hκ ls st μ g h H locs ad lsA hH hS hL hM hl hs ha hn0
  match st, h, hs with
  | .inl a :: st, h, hs =>
    have ha' : in32 a := okS_hd hs
    refine lv_if_ne F.1 F.2.1 d ht (fun q => hκ _ _ _ _ _ (h.1 (by simpa [z_eq ha', ge_iff_le, gt_iff_lt] using q)) H locs ad lsA hH hS hL hM hl (okS_tl hs) ha hn0) (fun q => hκ _ _ _ _ _ (h.2 (by simpa [z_eq ha', ge_iff_le, gt_iff_lt] using q)) H locs ad lsA hH hS hL hM hl (okS_tl hs) ha hn0)
theorem ok_if_lt (F : aFx p l R s m args meth c cc nL own cA D A) {pc : Nat} {off : Int} (tgt : Nat) (ht : (pc : Int) + off = (tgt : Int)) (d : decode cc pc = .ok (.ifCond .lt off, 3)) : aOk p l e R s m args below meth c nL cA D A n0 ad0 Q pc (sIf (fun a => a < 0) tgt (pc + 3)) := by
  intro κ hκ ls st μ g h H locs ad lsA hH hS hL hM hl hs ha hn0
  match st, h, hs with
  | .inl a :: st, h, hs =>
    have ha' : in32 a := okS_hd hs
    refine lv_if_lt F.1 F.2.1 d ht (fun q => hκ _ _ _ _ _ (h.1 (by simpa [z_lt ha', ge_iff_le, gt_iff_lt] using q)) H locs ad lsA hH hS hL hM hl (okS_tl hs) ha hn0) (fun q => hκ _ _ _ _ _ (h.2 (by simpa [z_lt ha', ge_iff_le, gt_iff_lt] using q)) H locs ad lsA hH hS hL hM hl (okS_tl hs) ha hn0)
theorem ok_if_ge (F : aFx p l R s m args meth c cc nL own cA D A) {pc : Nat} {off : Int} (tgt : Nat) (ht : (pc : Int) + off = (tgt : Int)) (d : decode cc pc = .ok (.ifCond .ge off, 3)) : aOk p l e R s m args below meth c nL cA D A n0 ad0 Q pc (sIf (fun a => a ≥ 0) tgt (pc + 3)) := by
  intro κ hκ ls st μ g h H locs ad lsA hH hS hL hM hl hs ha hn0
  match st, h, hs with
  | .inl a :: st, h, hs =>
    have ha' : in32 a := okS_hd hs
    refine lv_if_ge F.1 F.2.1 d ht (fun q => hκ _ _ _ _ _ (h.1 (by simpa [z_ge ha', ge_iff_le, gt_iff_lt] using q)) H locs ad lsA hH hS hL hM hl (okS_tl hs) ha hn0) (fun q => hκ _ _ _ _ _ (h.2 (by simpa [z_ge ha', ge_iff_le, gt_iff_lt] using q)) H locs ad lsA hH hS hL hM hl (okS_tl hs) ha hn0)
theorem ok_if_gt (F : aFx p l R s m args meth c cc nL own cA D A) {pc : Nat} {off : Int} (tgt : Nat) (ht : (pc : Int) + off = (tgt : Int)) (d : decode cc pc = .ok (.ifCond .gt off, 3)) : aOk p l e R s m args below meth c nL cA D A n0 ad0 Q pc (sIf (fun a => a > 0) tgt (pc + 3)) := by
  intro κ hκ ls st μ g h H locs ad lsA hH hS hL hM hl hs ha hn0
  match st, h, hs with
  | .inl a :: st, h, hs =>
    have ha' : in32 a := okS_hd hs
    refine lv_if_gt F.1 F.2.1 d ht (fun q => hκ _ _ _ _ _ (h.1 (by simpa [z_gt ha', ge_iff_le, gt_iff_lt] using q)) H locs ad lsA hH hS hL hM hl (okS_tl hs) ha hn0) (fun q => hκ _ _ _ _ _ (h.2 (by simpa [z_gt ha', ge_iff_le, gt_iff_lt] using q)) H locs ad lsA hH hS hL hM hl (okS_tl hs) ha hn0)
theorem ok_if_le (F : aFx p l R s m args meth c cc nL own cA D A) {pc : Nat} {off : Int} (tgt : Nat) (ht : (pc : Int) + off = (tgt : Int)) (d : decode cc pc = .ok (.ifCond .le off, 3)) : aOk p l e R s m args below meth c nL cA D A n0 ad0 Q pc (sIf (fun a => a ≤ 0) tgt (pc + 3)) := by
  intro κ hκ ls st μ g h H locs ad lsA hH hS hL hM hl hs ha hn0
  match st, h, hs with
  | .inl a :: st, h, hs =>
    have ha' : in32 a := okS_hd hs
    refine lv_if_le F.1 F.2.1 d ht (fun q => hκ _ _ _ _ _ (h.1 (by simpa [z_le ha', ge_iff_le, gt_iff_lt] using q)) H locs ad lsA hH hS hL hM hl (okS_tl hs) ha hn0) (fun q => hκ _ _ _ _ _ (h.2 (by simpa [z_le ha', ge_iff_le, gt_iff_lt] using q)) H locs ad lsA hH hS hL hM hl (okS_tl hs) ha hn0)
theorem ok_icmp_eq (F : aFx p l R s m args meth c cc nL own cA D A) {pc : Nat} {off : Int} (tgt : Nat) (ht : (pc : Int) + off = (tgt : Int)) (d : decode cc pc = .ok (.if_icmp .eq off, 3)) : aOk p l e R s m args below meth c nL cA D A n0 ad0 Q pc (sIc (fun a b => a = b) tgt (pc + 3)) := by
  intro κ hκ ls st μ g h H locs ad lsA hH hS hL hM hl hs ha hn0
  match st, h, hs with
  | .inl b :: .inl a :: st, h, hs =>
    have hb : in32 b := okS_hd hs
    have ha' : in32 a := okS_hd (okS_tl hs)
    refine lv_icmp_eq F.1 F.2.1 d ht (fun q => hκ _ _ _ _ _ (h.1 (by simpa [of_eq ha' hb, ge_iff_le, gt_iff_lt] using q)) H locs ad lsA hH hS hL hM hl (okS_tl (okS_tl hs)) ha hn0) (fun q => hκ _ _ _ _ _ (h.2 (by simpa [of_eq ha' hb, ge_iff_le, gt_iff_lt] using q)) H locs ad lsA hH hS hL hM hl (okS_tl (okS_tl hs)) ha hn0)
theorem ok_icmp_ne (F : aFx p l R s m args meth c cc nL own cA D A) {pc : Nat} {off : Int} (tgt : Nat) (ht : (pc : Int) + off = (tgt : Int)) (d : decode cc pc = .ok (.if_icmp .ne off, 3)) : aOk p l e R s m args below meth c nL cA D A n0 ad0 Q pc (sIc (fun a b => a ≠ b) tgt (pc + 3)) := by
  intro κ hκ ls st μ g h H locs ad lsA hH hS hL hM hl hs ha hn0
  match st, h, hs with
  | .inl b :: .inl a :: st, h, hs =>
    have hb : in32 b := okS_hd hs
    have ha' : in32 a := okS_hd (okS_tl hs)
    refine lv_icmp_ne F.1 F.2.1 d ht (fun q => hκ _ _ _ _ _ (h.1 (by simpa [of_eq ha' hb, ge_iff_le, gt_iff_lt] using q)) H locs ad lsA hH hS hL hM hl (okS_tl (okS_tl hs)) ha hn0) (fun q => hκ _ _ _ _ _ (h.2 (by simpa [of_eq ha' hb, ge_iff_le, gt_iff_lt] using q)) H locs ad lsA hH hS hL hM hl (okS_tl (okS_tl hs)) ha hn0)
theorem ok_icmp_lt (F : aFx p l R s m args meth c cc nL own cA D A) {pc : Nat} {off : Int} (tgt : Nat) (ht : (pc : Int) + off = (tgt : Int)) (d : decode cc pc = .ok (.if_icmp .lt off, 3)) : aOk p l e R s m args below meth c nL cA D A n0 ad0 Q pc (sIc (fun a b => a < b) tgt (pc + 3)) := by
  intro κ hκ ls st μ g h H locs ad lsA hH hS hL hM hl hs ha hn0
  match st, h, hs with
  | .inl b :: .inl a :: st, h, hs =>
    have hb : in32 b := okS_hd hs
    have ha' : in32 a := okS_hd (okS_tl hs)
    refine lv_icmp_lt F.1 F.2.1 d ht (fun q => hκ _ _ _ _ _ (h.1 (by simpa [of_lt ha' hb, ge_iff_le, gt_iff_lt] using q)) H locs ad lsA hH hS hL hM hl (okS_tl (okS_tl hs)) ha hn0) (fun q => hκ _ _ _ _ _ (h.2 (by simpa [of_lt ha' hb, ge_iff_le, gt_iff_lt] using q)) H locs ad lsA hH hS hL hM hl (okS_tl (okS_tl hs)) ha hn0)
theorem ok_icmp_ge (F : aFx p l R s m args meth c cc nL own cA D A) {pc : Nat} {off : Int} (tgt : Nat) (ht : (pc : Int) + off = (tgt : Int)) (d : decode cc pc = .ok (.if_icmp .ge off, 3)) : aOk p l e R s m args below meth c nL cA D A n0 ad0 Q pc (sIc (fun a b => a ≥ b) tgt (pc + 3)) := by
  intro κ hκ ls st μ g h H locs ad lsA hH hS hL hM hl hs ha hn0
  match st, h, hs with
  | .inl b :: .inl a :: st, h, hs =>
    have hb : in32 b := okS_hd hs
    have ha' : in32 a := okS_hd (okS_tl hs)
    refine lv_icmp_ge F.1 F.2.1 d ht (fun q => hκ _ _ _ _ _ (h.1 (by simpa [of_le hb ha', ge_iff_le, gt_iff_lt] using q)) H locs ad lsA hH hS hL hM hl (okS_tl (okS_tl hs)) ha hn0) (fun q => hκ _ _ _ _ _ (h.2 (by simpa [of_le hb ha', ge_iff_le, gt_iff_lt] using q)) H locs ad lsA hH hS hL hM hl (okS_tl (okS_tl hs)) ha hn0)
theorem ok_icmp_gt (F : aFx p l R s m args meth c cc nL own cA D A) {pc : Nat} {off : Int} (tgt : Nat) (ht : (pc : Int) + off = (tgt : Int)) (d : decode cc pc = .ok (.if_icmp .gt off, 3)) : aOk p l e R s m args below meth c nL cA D A n0 ad0 Q pc (sIc (fun a b => a > b) tgt (pc + 3)) := by
  intro κ hκ ls st μ g h H locs ad lsA hH hS hL hM hl hs ha hn0
  match st, h, hs with
  | .inl b :: .inl a :: st, h, hs =>
    have hb : in32 b := okS_hd hs
    have ha' : in32 a := okS_hd (okS_tl hs)
    refine lv_icmp_gt F.1 F.2.1 d ht (fun q => hκ _ _ _ _ _ (h.1 (by simpa [of_lt hb ha', ge_iff_le, gt_iff_lt] using q)) H locs ad lsA hH hS hL hM hl (okS_tl (okS_tl hs)) ha hn0) (fun q => hκ _ _ _ _ _ (h.2 (by simpa [of_lt hb ha', ge_iff_le, gt_iff_lt] using q)) H locs ad lsA hH hS hL hM hl (okS_tl (okS_tl hs)) ha hn0)
theorem ok_icmp_le (F : aFx p l R s m args meth c cc nL own cA D A) {pc : Nat} {off : Int} (tgt : Nat) (ht : (pc : Int) + off = (tgt : Int)) (d : decode cc pc = .ok (.if_icmp .le off, 3)) : aOk p l e R s m args below meth c nL cA D A n0 ad0 Q pc (sIc (fun a b => a ≤ b) tgt (pc + 3)) := by
  intro κ hκ ls st μ g h H locs ad lsA hH hS hL hM hl hs ha hn0
  match st, h, hs with
  | .inl b :: .inl a :: st, h, hs =>
    have hb : in32 b := okS_hd hs
    have ha' : in32 a := okS_hd (okS_tl hs)
    refine lv_icmp_le F.1 F.2.1 d ht (fun q => hκ _ _ _ _ _ (h.1 (by simpa [of_le ha' hb, ge_iff_le, gt_iff_lt] using q)) H locs ad lsA hH hS hL hM hl (okS_tl (okS_tl hs)) ha hn0) (fun q => hκ _ _ _ _ _ (h.2 (by simpa [of_le ha' hb, ge_iff_le, gt_iff_lt] using q)) H locs ad lsA hH hS hL hM hl (okS_tl (okS_tl hs)) ha hn0)
theorem ok_ifnull (F : aFx p l R s m args meth c cc nL own cA D A) {pc : Nat} {off : Int} (tgt : Nat) (ht : (pc : Int) + off = (tgt : Int)) (d : decode cc pc = .ok (.ifnull off, 3)) : aOk p l e R s m args below meth c nL cA D A n0 ad0 Q pc (sNul tgt (pc + 3)) := by
  intro κ hκ ls st μ g h H locs ad lsA hH hS hL hM hl hs ha hn0
  match st, h, hs with
  | .inr (.inl r) :: st, h, hs =>
    show W _ _ _ _ _ _ _ _ _ _ _ _ _ _ _ (F0 m pc lsA (va_rf (cr ad r) :: st.map (cv ad)))
    by_cases hr : r = 0
    · rw [show va_rf (cr ad r) = .null by rw [hr]; rfl]
      exact lv_ifnullN F.1 F.2.1 d ht (hκ _ _ _ _ _ (h.1 hr) H locs ad lsA hH hS hL hM hl (okS_tl hs) ha hn0)
    · rw [show va_rf (cr ad r) = .ref (ad r) by unfold cr; rw [if_neg hr]; rfl]
      exact lv_ifnull F.1 F.2.1 d (hκ _ _ _ _ _ (h.2 hr) H locs ad lsA hH hS hL hM hl (okS_tl hs) ha hn0)
def sNn (tgt n : Nat) : aSt := fun κ ls st μ g => match st with
  | .inr (.inl r) :: st => (r ≠ 0 → κ tgt ls st μ g) ∧ (r = 0 → κ n ls st μ g)
  | _ => False
theorem ok_ifnonnull (F : aFx p l R s m args meth c cc nL own cA D A) {pc : Nat} {off : Int} (tgt : Nat) (ht : (pc : Int) + off = (tgt : Int)) (d : decode cc pc = .ok (.ifnonnull off, 3)) : aOk p l e R s m args below meth c nL cA D A n0 ad0 Q pc (sNn tgt (pc + 3)) := by
  intro κ hκ ls st μ g h H locs ad lsA hH hS hL hM hl hs ha hn0
  match st, h, hs with
  | .inr (.inl r) :: st, h, hs =>
    show W _ _ _ _ _ _ _ _ _ _ _ _ _ _ _ (F0 m pc lsA (va_rf (cr ad r) :: st.map (cv ad)))
    by_cases hr : r = 0
    · rw [show va_rf (cr ad r) = .null by rw [hr]; rfl]
      exact lv_ifnonnullN F.1 F.2.1 d (hκ _ _ _ _ _ (h.2 hr) H locs ad lsA hH hS hL hM hl (okS_tl hs) ha hn0)
    · rw [show va_rf (cr ad r) = .ref (ad r) by unfold cr; rw [if_neg hr]; rfl]
      exact lv_ifnonnull F.1 F.2.1 d ht (hκ _ _ _ _ _ (h.1 hr) H locs ad lsA hH hS hL hM hl (okS_tl hs) ha hn0)
end ST2
