/-! ===== the steps that are left, and the words of the printed tables ===== -/
def pEq : Int → Prop := fun a => a = 0
def pNe : Int → Prop := fun a => a ≠ 0
def pLt : Int → Prop := fun a => a < 0
def pGe : Int → Prop := fun a => a ≥ 0
def pGt : Int → Prop := fun a => a > 0
def pLe : Int → Prop := fun a => a ≤ 0
def qEq : Int → Int → Prop := fun a b => a = b
def qNe : Int → Int → Prop := fun a b => a ≠ b
def qLt : Int → Int → Prop := fun a b => a < b
def qGe : Int → Int → Prop := fun a b => a ≥ b
def qGt : Int → Int → Prop := fun a b => a > b
def qLe : Int → Int → Prop := fun a b => a ≤ b
def fNeg (a : Int) : Int := wr (-a)
def fLadd (a b : Int) : Int := wr64 (a + b)
def fLmul (a b : Int) : Int := wr64 (a * b)
def fShl (a b : Int) : Int := (Int32.ofInt a <<< (Int32.ofInt b &&& 31)).toInt
def sMath (f : aSt) (GR : Nat) : aSt := fun κ ls st μ g => g ≤ GR ∧ f κ ls st μ g
def sI2f (n : Nat) : aSt := fun κ ls st μ g => match st with
  | .inl a :: st => κ n ls (aF (FP.i2f (Int32.ofInt a)) :: st) μ g
  | _ => False
def sL2d (n : Nat) : aSt := fun κ ls st μ g => match st with
  | .inr (.inr (.inl a)) :: st => κ n ls (aD (FP.l2d (Int64.ofInt a)) :: st) μ g
  | _ => False
def sFdiv (n : Nat) : aSt := fun κ ls st μ g => match st with
  | .inr (.inr (.inr (.inl b))) :: .inr (.inr (.inr (.inl a))) :: st => vf_n32 (FP.fdiv a b) ∧ κ n ls (aF (FP.fdiv a b) :: st) μ g
  | _ => False
def sDdiv (n : Nat) : aSt := fun κ ls st μ g => match st with
  | .inr (.inr (.inr (.inr (.inl b)))) :: .inr (.inr (.inr (.inr (.inl a)))) :: st => vf_n64 (FP.ddiv a b) ∧ κ n ls (aD (FP.ddiv a b) :: st) μ g
  | _ => False
section ST8
variable {p : Program} {l : Launch} {e : Env} {R : Room} {s : State} {m : MethodId} {args : Array Value} {below : List Frame} {meth : Method} {c : Code} {nL : Nat} {cA : Nat → ClassId} {D : va_G} {A : Nat → Prop} {n0 : Nat} {ad0 : Nat → Nat} {Q : State → Prop}
variable {cc : ByteArray} {own : String}
theorem ok_ishl (F : aFx p l R s m args meth c cc nL own cA D A) {pc : Nat} (d : decode cc pc = .ok (.ishl, 1)) : aOk p l e R s m args below meth c nL cA D A n0 ad0 Q pc (sBin fShl (pc + 1)) := by
  intro κ hκ ls st μ g h H locs ad lsA hH hS hL hM hl hs ha hn0
  match st, h, hs with
  | .inl b :: .inl a :: st, h, hs =>
    have hw := hκ _ _ _ _ _ h H locs ad lsA hH hS hL hM hl (okS_cons (to_in _) (okS_tl (okS_tl hs))) ha hn0
    simp only [List.map_cons, cv, fShl, Int32.ofInt_toInt] at hw
    exact lv_ishl F.1 F.2.1 d hw
theorem ok_i2f (F : aFx p l R s m args meth c cc nL own cA D A) {pc : Nat} (d : decode cc pc = .ok (.i2f, 1)) : aOk p l e R s m args below meth c nL cA D A n0 ad0 Q pc (sI2f (pc + 1)) := by
  intro κ hκ ls st μ g h H locs ad lsA hH hS hL hM hl hs ha hn0
  match st, h, hs with
  | .inl a :: st, h, hs => exact lv_i2f F.1 F.2.1 d (hκ _ _ _ _ _ h H locs ad lsA hH hS hL hM hl (okS_cons (v := aF _) trivial (okS_tl hs)) ha hn0)
theorem ok_l2d (F : aFx p l R s m args meth c cc nL own cA D A) {pc : Nat} (d : decode cc pc = .ok (.l2d, 1)) : aOk p l e R s m args below meth c nL cA D A n0 ad0 Q pc (sL2d (pc + 1)) := by
  intro κ hκ ls st μ g h H locs ad lsA hH hS hL hM hl hs ha hn0
  match st, h, hs with
  | .inr (.inr (.inl a)) :: st, h, hs => exact lv_l2d F.1 F.2.1 d (hκ _ _ _ _ _ h H locs ad lsA hH hS hL hM hl (okS_cons (v := aD _) trivial (okS_tl hs)) ha hn0)
theorem ok_fdiv (F : aFx p l R s m args meth c cc nL own cA D A) {pc : Nat} (d : decode cc pc = .ok (.fdiv, 1)) : aOk p l e R s m args below meth c nL cA D A n0 ad0 Q pc (sFdiv (pc + 1)) := by
  intro κ hκ ls st μ g h H locs ad lsA hH hS hL hM hl hs ha hn0
  match st, h, hs with
  | .inr (.inr (.inr (.inl b))) :: .inr (.inr (.inr (.inl a))) :: st, h, hs => exact lv_fdiv F.1 F.2.1 d h.1 (hκ _ _ _ _ _ h.2 H locs ad lsA hH hS hL hM hl (okS_cons (v := aF _) trivial (okS_tl (okS_tl hs))) ha hn0)
theorem ok_ddiv (F : aFx p l R s m args meth c cc nL own cA D A) {pc : Nat} (d : decode cc pc = .ok (.ddiv, 1)) : aOk p l e R s m args below meth c nL cA D A n0 ad0 Q pc (sDdiv (pc + 1)) := by
  intro κ hκ ls st μ g h H locs ad lsA hH hS hL hM hl hs ha hn0
  match st, h, hs with
  | .inr (.inr (.inr (.inr (.inl b)))) :: .inr (.inr (.inr (.inr (.inl a)))) :: st, h, hs => exact lv_ddiv F.1 F.2.1 d h.1 (hκ _ _ _ _ _ h.2 H locs ad lsA hH hS hL hM hl (okS_cons (v := aD _) trivial (okS_tl (okS_tl hs))) ha hn0)
end ST8
theorem tn {l : Launch} {M : aMd} {K : aRs} {X : aXs} {n0 : Nat} : ∀ q ∈ ([] : aTb), aSo l M K X n0 q.1 q.2 := fun _ h => nomatch h
theorem tc {l : Launch} {M : aMd} {K : aRs} {X : aXs} {n0 k : Nat} {f : aSt} {t : aTb} (h : aSo l M K X n0 k f) (hs : ∀ q ∈ t, aSo l M K X n0 q.1 q.2) : ∀ q ∈ (k, f) :: t, aSo l M K X n0 q.1 q.2 := List.forall_mem_cons.mpr ⟨h, hs⟩
