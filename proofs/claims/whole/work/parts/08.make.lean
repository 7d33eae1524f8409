/-! ===== steps: making objects and arrays; Object.<init>; Math; == of references; switches ===== -/
def adp (ad : Nat → Nat) (n q : Nat) : Nat → Nat := fun i => if i = n + 2 then q else ad i
def cs9 : List aV → Nat
  | [] => 0
  | v :: st => (if c2V v then 2 else 1) + cs9 st
theorem cs9_eq (ad : Nat → Nat) (st : List aV) : ((st.map (cv ad)).map fun v => v.category).sum = cs9 st := by
  induction st with
  | nil => rfl
  | cons v st ih =>
    simp only [List.map_cons, List.sum_cons, cs9, ih]
    congr 1
    have h := cat_cv ad v
    cases hc : c2V v
    · simp only [hc] at h ⊢; exact cat1_cv ad hc
    · rw [hc] at h; simpa using h
theorem cv_adp {ad : Nat → Nat} {n q : Nat} {v : aV} (h : okV n v) : cv (adp ad n q) v = cv ad v := by
  rcases v with x | x | x | x | x | x <;> try rfl
  have h : x < n + 2 := h
  show va_rf (cr (adp ad n q) x) = va_rf (cr ad x)
  unfold cr adp
  rw [if_neg (show ¬ x = n + 2 by omega)]
theorem okS_up {n n' : Nat} {st : List aV} (h : okS n st) (hn : n ≤ n') : okS n' st := fun v hv => by
  have h1 := h v hv
  rcases v with x | x | x | x | x | x <;> first | exact h1 | (have h1 : x < n + 2 := h1; show x < n' + 2; omega)
theorem aLo_adp {ad : Nat → Nat} {lsA : Array Slot} {nL n q : Nat} {ls : List aV} (h : aLo ad lsA nL ls) (ho : okS n ls) : aLo (adp ad n q) lsA nL ls := ⟨h.1, h.2.1, h.2.2.1, fun k v hk hu => by
  rw [cv_adp (ho v (List.mem_of_getElem? hk))]
  exact h.2.2.2 k v hk hu⟩
theorem map_adp {ad : Nat → Nat} {n q : Nat} {st : List aV} (ho : okS n st) : st.map (cv (adp ad n q)) = st.map (cv ad) := List.map_congr_left fun v hv => cv_adp (ho v hv)
theorem aE_adp {cA : Nat → ClassId} {ad : Nat → Nat} {μ : aM} {q : Nat} (hM : okM μ) (b : Nat) (hb : b < rN μ + 2) : aE cA (adp ad (rN μ) q) (sN μ) b = aE cA ad μ b := by
  refine aE_congr (fun j => by rw [rI_sN, if_neg (by omega)]) (fun j => by rw [rL_sN, if_neg (by omega)]) (fun j => ?_) (fun j => by rw [rD_sN, if_neg (by omega)])
  rw [rR_sN, if_neg (by omega)]
  have h9 := hM.2.2 b j
  unfold cr adp
  rw [if_neg (show ¬ rR μ b j = rN μ + 2 by omega)]
section ST5
variable {p : Program} {l : Launch} {e : Env} {R : Room} {s : State} {m : MethodId} {args : Array Value} {below : List Frame} {meth : Method} {c : Code} {nL : Nat} {cA : Nat → ClassId} {D : va_G} {A : Nat → Prop} {n0 : Nat} {ad0 : Nat → Nat} {Q : State → Prop}
variable {cc : ByteArray} {own : String}
/-- behind the making of an object: on with it -/
theorem made {pc g N : Nat} {ls st : List aV} {μ : aM} (h : AW p l e R s m args below meth c nL cA D A n0 ad0 Q pc ls (aR (rN μ + 2) :: st) (sN μ) (g + 1)) (hN : N ≤ 2000) {H1 : Heap} {locs : List Loc} {ad : Nat → Nat} {lsA : Array Slot} {q : Nat} {x : va_E} (hx : x = aE cA (adp ad (rN μ) q) (sN μ) (rN μ + 2))
    (h1 : va_P D aCl (aW cA ad μ ++ [(q, x)]) H1) (h2 : va_D A (aW cA ad μ ++ [(q, x)])) (h3 : va_S A s.heap H1 locs) (hL : aLo ad lsA nL ls) (hM : okM μ) (hl : okS (rN μ) ls) (hs : okS (rN μ) st) (ha : aAg n0 ad0 ad) (hn0 : n0 ≤ rN μ) :
    W p l e R s m args below meth c H1 locs (g + 1) (2000 * g + N) Q (F0 m pc lsA (.ref q :: st.map (cv ad))) := by
  have e1 : aW cA ad μ ++ [(q, x)] = aW cA (adp ad (rN μ) q) (sN μ) := aW_push (fun b hb => aE_adp hM b hb) hx
  rw [e1] at h1 h2
  refine W.widen (k := g + 1) (n := 2000 * (g + 1)) (by omega) (by omega) ?_
  have hw := h H1 locs (adp ad (rN μ) q) lsA ⟨h1, h2⟩ h3 (aLo_adp hL hl) (okM_sN hM) (okS_up hl (by rw [rN_sN]; omega)) (okS_cons (show rN μ + 2 < rN (sN μ) + 2 by rw [rN_sN]; omega) (okS_up hs (by rw [rN_sN]; omega))) (fun i hi => by
    show (if i = rN μ + 2 then q else ad i) = ad0 i
    rw [if_neg (by omega)]
    exact ha i hi) (by rw [rN_sN]; omega)
  rw [List.map_cons, map_adp hs] at hw
  have e2 : cv (adp ad (rN μ) q) (aR (rN μ + 2)) = .ref q := by
    show va_rf (cr (adp ad (rN μ) q) (rN μ + 2)) = .ref q
    unfold cr adp
    rw [if_neg (by omega), if_pos rfl]
    rfl
  rw [e2] at hw
  exact hw
def sNewA (kd n GR : Nat) : aSt := fun κ ls st μ g => match st with
  | .inl x :: st => 0 ≤ x ∧ x ≤ 2000 ∧ shp (rN μ + 2) = (kd, x.toNat) ∧ g + 1 ≤ GR ∧ κ n ls (aR (rN μ + 2) :: st) (sN μ) (g + 1)
  | _ => False
def sNewO (ci n GR : Nat) : aSt := fun κ ls st μ g => (shp (rN μ + 2)).1 = ci ∧ g + 1 ≤ GR ∧ κ n ls (aR (rN μ + 2) :: st) (sN μ) (g + 1)
theorem ra_of {cA' : ClassId} {k : Nat} {ty : FieldType} (F : aFx p l R s m args meth c cc nL own cA D A) (hk : (aTs cA)[k]? = some (cA k, ty)) (hK : va_K D aCl (aTs cA ++ [(cA', ty)]) s) : cA' = cA k := by
  have h1 := ((tsK F).2 k _ hk).2
  have h2 := (hK.2 5 (cA', ty) rfl).2
  cases ty with
  | object C =>
    obtain ⟨kA, comp, q1, q2, q3, q4⟩ := h1
    obtain ⟨kB, comp2, r1, r2, r3, r4⟩ := h2
    exact Option.some.inj (r4.symm.trans q4)
  | _ => exact Option.some.inj ((show s.vm.findClass _ = some cA' from h2).symm.trans (show s.vm.findClass _ = some (cA k) from h1))
theorem of_neg {x : Int} (h : in32 x) (h0 : 0 ≤ x) : ¬ Int32.ofInt x < 0 := by rw [z_lt h]; omega
theorem ok_newarr (F : aFx p l R s m args meth c cc nL own cA D A) {GR : Nat} (hG : GR ≤ R.cells ∧ 2000 * GR ≤ R.slots) {pc kd k : Nat} {atype : ArrayType} {ty : FieldType} (hty : newarray.typeOf atype = ty) (hk : (aTs cA)[k]? = some (cA k, ty)) (hbt : componentBytes ty ≤ 8) {a0 : Nat → vp_A} (hc0 : ∀ (N : Nat) (cB : ClassId), vp_cell cB (a0 N) = arrV cB N (fun _ => defaultValue ty))
    (hE : ∀ (ad : Nat → Nat) (μ : aM) (a N : Nat), shp a = (kd, N) → (∀ j, rI μ a j = 0) → (∀ j, rL μ a j = 0) → (∀ j, rR μ a j = 0) → (∀ j, rD μ a j = 0) → aE cA ad μ a = .inl (cA k, a0 N)) (harr : Cond.arrayClass (newarray.typeOf atype) ∈ bgL) (d : decode cc pc = .ok (.newarray atype, 2)) : aOk p l e R s m args below meth c nL cA D A n0 ad0 Q pc (sNewA kd (pc + 2) GR) := by
  intro κ hκ ls st μ g h H locs ad lsA hH hS hL hM hl hs ha hn0
  match st, h, hs with
  | .inl x :: st, ⟨h1, h2, h3, h4, h5⟩, hs =>
    have hx : in32 x := okS_hd hs
    refine va_newa F.1 F.2.1 (F.2.2.2.2.1 _ harr) hty (tsK F) hH.1 hH.2 hS F.2.2.2.2.2.2.1 (N' := x.toNat) (hc0 x.toNat) (of_neg hx h1) (of_clamp h1 hx) (Nat.le_trans (Nat.mul_le_mul (show x.toNat ≤ 2000 by omega) hbt) (by decide)) (by omega) (by omega) d (fun q cA' H1 k1 k2 k3 k4 => ?_)
    have e1 := ra_of F hk k1
    subst e1
    exact made (hκ _ _ _ _ _ h5) (by omega) (hE _ _ _ _ h3 (fun j => by rw [rI_sN, if_pos rfl]) (fun j => by rw [rL_sN, if_pos rfl]) (fun j => by rw [rR_sN, if_pos rfl]) (fun j => by rw [rD_sN, if_pos rfl])).symm k2 k3 k4 hL hM hl (okS_tl hs) ha hn0
theorem ok_newI (F : aFx p l R s m args meth c cc nL own cA D A) {GR : Nat} (hG : GR ≤ R.cells ∧ 2000 * GR ≤ R.slots) {pc : Nat} (harr : Cond.arrayClass .int ∈ bgL) (d : decode cc pc = .ok (.newarray .int, 2)) : aOk p l e R s m args below meth c nL cA D A n0 ad0 Q pc (sNewA 7 (pc + 2) GR) :=
  ok_newarr F hG (k := 1) (atype := .int) (a0 := fun N => (N, .inl (fun _ => 0))) rfl rfl (by decide) (fun N cB => rfl) (fun ad μ a N hs h1 h2 h3 h4 => by rw [aE_int (by rw [hs]), hs]; simp only [h1]; rfl) harr d
theorem ok_newC (F : aFx p l R s m args meth c cc nL own cA D A) {GR : Nat} (hG : GR ≤ R.cells ∧ 2000 * GR ≤ R.slots) {pc : Nat} (harr : Cond.arrayClass .char ∈ bgL) (d : decode cc pc = .ok (.newarray .char, 2)) : aOk p l e R s m args below meth c nL cA D A n0 ad0 Q pc (sNewA 6 (pc + 2) GR) :=
  ok_newarr F hG (k := 0) (atype := .char) (a0 := fun N => (N, .inl (fun _ => 0))) rfl rfl (by decide) (fun N cB => rfl) (fun ad μ a N hs h1 h2 h3 h4 => by rw [aE_char (by rw [hs]), hs]; simp only [h1]; rfl) harr d
theorem ok_newL (F : aFx p l R s m args meth c cc nL own cA D A) {GR : Nat} (hG : GR ≤ R.cells ∧ 2000 * GR ≤ R.slots) {pc : Nat} (harr : Cond.arrayClass .long ∈ bgL) (d : decode cc pc = .ok (.newarray .long, 2)) : aOk p l e R s m args below meth c nL cA D A n0 ad0 Q pc (sNewA 8 (pc + 2) GR) :=
  ok_newarr F hG (k := 2) (atype := .long) (a0 := fun N => (N, .inr (.inl (fun _ => 0)))) rfl rfl (by decide) (fun N cB => rfl) (fun ad μ a N hs h1 h2 h3 h4 => by rw [aE_long (by rw [hs]), hs]; simp only [h2]; rfl) harr d
theorem ok_newD (F : aFx p l R s m args meth c cc nL own cA D A) {GR : Nat} (hG : GR ≤ R.cells ∧ 2000 * GR ≤ R.slots) {pc : Nat} (harr : Cond.arrayClass .double ∈ bgL) (d : decode cc pc = .ok (.newarray .double, 2)) : aOk p l e R s m args below meth c nL cA D A n0 ad0 Q pc (sNewA 9 (pc + 2) GR) :=
  ok_newarr F hG (k := 3) (atype := .double) (a0 := fun N => (N, .inr (.inr (.inr (.inl (fun _ => 0)))))) rfl rfl (by decide) (fun N cB => rfl) (fun ad μ a N hs h1 h2 h3 h4 => by rw [aE_dbl (by rw [hs]), hs]; simp only [h4]) harr d
theorem ok_newQ (F : aFx p l R s m args meth c cc nL own cA D A) {GR : Nat} (hG : GR ≤ R.cells ∧ 2000 * GR ≤ R.slots) {pc ix : Nat} (hcl : Cond.classLink own ix RX2 ∈ bgL) (hover : va_AO RX2 s) (d : decode cc pc = .ok (.anewarray ix, 3)) : aOk p l e R s m args below meth c nL cA D A n0 ad0 Q pc (sNewA 10 (pc + 3) GR) := by
  intro κ hκ ls st μ g h H locs ad lsA hH hS hL hM hl hs ha hn0
  match st, h, hs with
  | .inl x :: st, ⟨h1, h2, h3, h4, h5⟩, hs =>
    have hx : in32 x := okS_hd hs
    refine va_newq F.1 F.2.1 F.2.2.2.1 (F.2.2.2.2.1 _ hcl) hover (tsK F) hH.1 hH.2 hS F.2.2.2.2.2.2.1 (N' := x.toNat) (of_neg hx h1) (of_clamp h1 hx) (by omega) (by omega) (by omega) d (fun q cA' H1 k1 k2 k3 k4 => ?_)
    have e1 := ra_of (k := 4) F rfl k1
    subst e1
    exact made (hκ _ _ _ _ _ h5) (by omega) (by
      rw [aE_ord (by rw [h3]), h3]
      congr 7
      funext j
      rw [rR_sN, if_pos rfl]
      rfl) k2 k3 k4 hL hM hl (okS_tl hs) ha hn0
def sty9 : FieldType → Bool
  | .int => true
  | .boolean => true
  | .char => true
  | .long => true
  | .object _ => true
  | .array _ => true
  | _ => false
theorem ok_newO (F : aFx p l R s m args meth c cc nL own cA D A) {GR : Nat} (hG : GR ≤ R.cells ∧ 2000 * GR ≤ R.slots) {pc ix ci N : Nat} {C : String} {T : u_T} (X : aCx ci C T N) (hN : N ≤ 2000) (hst : ∀ j, j < N → sty9 (aTy ci j) = true) (hcl : Cond.classLink own ix C ∈ bgL) (hins : Cond.instantiable C N ∈ bgL) (hini : Cond.initialized C ∈ bgL) (d : decode cc pc = .ok (.new ix, 3)) : aOk p l e R s m args below meth c nL cA D A n0 ad0 Q pc (sNewO ci (pc + 3) GR) := by
  intro κ hκ ls st μ g h H locs ad lsA hH hS hL hM hl hs ha hn0
  obtain ⟨h1, h4, h5⟩ := h
  refine va_new (fs := (List.range (aNf ci)).map (aFv ad (sN μ) (rN μ + 2) ci)) F.1 F.2.1 F.2.2.2.2.1 X.1 (aTy ci) X.2.1 F.2.2.2.1 (F.2.2.2.2.1 _ hcl) (F.2.2.2.2.1 _ hins) (F.2.2.2.2.1 _ hini) (tsK F) hH.1 hH.2 hS F.2.2.2.2.2.2.1 X.2.2.2.1 (fun j hj => ?_) (by omega) (by omega) d (fun q H1 k1 k2 k3 => ?_)
  · unfold vp_V
    rw [List.getD_eq_getElem?_getD, fs_get X.2.2.2.2.1 hj]
    have h9 := hst j hj
    unfold aFv
    simp only [rI_sN, rL_sN, rR_sN, if_pos]
    cases ht : aTy ci j <;> rw [ht] at h9 <;> first | rfl | cases h9
  · refine made (hκ _ _ _ _ _ h5) hN ?_ k1 k2 k3 hL hM hl hs ha hn0
    rw [aE_obj h1 X.2.2.2.2.2]
    congr 2
    apply List.map_congr_left
    intro j _
    exact (aFv_congr (ad := ad) (ad' := adp ad (rN μ) q) (fun _ => rfl) (fun _ => rfl) (fun j => by rw [rR_sN, if_pos rfl]; rfl) ci j).symm
def sObj (n : Nat) : aSt := fun κ ls st μ g => match st with
  | .inr (.inl a) :: st => okA μ a ∧ cs9 st ≤ 8 ∧ κ n ls st μ g
  | _ => False
theorem fxR (F : aFx p l R s m args meth c cc nL own cA D A) : 1 ≤ R.frames ∧ 22 ≤ R.locals := F.2.2.2.2.2.2.2.2.2.1
theorem ok_objInit (F : aFx p l R s m args meth c cc nL own cA D A) {pc ix : Nat} (h1 : Cond.methodLink own ix Lib.objectInit ∈ bgL) (h2 : Cond.instanceMethod Lib.objectInit ∈ bgL) (h3 : Cond.code Lib.objectInit ⟨#[0xb1]⟩ 1 none ∈ bgL) (d : decode cc pc = .ok (.invokespecial ix, 3)) : aOk p l e R s m args below meth c nL cA D A n0 ad0 Q pc (sObj (pc + 3)) := by
  intro κ hκ ls st μ g h H locs ad lsA hH hS hL hM hl hs ha hn0
  match st, h, hs with
  | .inr (.inl a) :: st, ⟨k1, k2, k3⟩, hs =>
    show W _ _ _ _ _ _ _ _ _ _ _ _ _ _ _ (F0 m pc lsA (va_rf (cr ad a) :: st.map (cv ad)))
    rw [cr_ok k1]
    refine W.objInit F.1 F.2.1 F.2.2.2.1 (F.2.2.2.2.1 _ h1) (F.2.2.2.2.1 _ h2) (F.2.2.2.2.1 _ h3) rfl (hL.1.trans F.2.2.1.symm) rfl d (fxR F).1 (by rw [cs9_eq]; show 2 * 0 + cs9 st + 12 ≤ _; have := (fxR F).2; omega) (hκ _ _ _ _ _ k3 H locs ad lsA hH hS hL hM hl (okS_tl hs) ha hn0)
-- Math
def sMin (n : Nat) : aSt := fun κ ls st μ g => match st with
  | .inl y :: .inl x :: st => cs9 st ≤ 8 ∧ κ n ls (aI (min x y) :: st) μ g
  | _ => False
def sAbs (n : Nat) : aSt := fun κ ls st μ g => match st with
  | .inl x :: st => cs9 st ≤ 8 ∧ κ n ls (aI (wr (if 0 ≤ x then x else -x)) :: st) μ g
  | _ => False
theorem ok_min (F : aFx p l R s m args meth c cc nL own cA D A) {GR : Nat} (hG : GR ≤ R.cells ∧ 2000 * GR ≤ R.slots) {pc ix : Nat} (h1 : Cond.methodLink own ix Lib.Math.min.name ∈ bgL) (h2 : Cond.static Lib.Math.min.name ∈ bgL) (h3 : Cond.initialized "java/lang/Math" ∈ bgL) (h4 : Cond.code Lib.Math.min.name Lib.Math.min.code 2 (some .int) ∈ bgL) (d : decode cc pc = .ok (.invokestatic ix, 3)) : aOk p l e R s m args below meth c nL cA D A n0 ad0 Q pc (fun κ ls st μ g => g ≤ GR ∧ sMin (pc + 3) κ ls st μ g) := by
  intro κ hκ ls st μ g h H locs ad lsA hH hS hL hM hl hs ha hn0
  obtain ⟨hg, h⟩ := h
  match st, h, hs with
  | .inl y :: .inl x :: st, ⟨k2, k3⟩, hs =>
    have hy : in32 y := okS_hd hs
    have hx : in32 x := okS_hd (okS_tl hs)
    have hw := hκ _ _ _ _ _ k3 H locs ad lsA hH hS hL hM hl (okS_cons (v := aI (min x y)) (show in32 _ by unfold in32 at *; omega) (okS_tl (okS_tl hs))) ha hn0
    refine va_mmin F.1 F.2.1 (F.2.2.1.trans hL.1.symm) F.2.2.2.1 (F.2.2.2.2.1 _ h1) (F.2.2.2.2.1 _ h2) (F.2.2.2.2.1 _ h3) (F.2.2.2.2.1 _ h4) (fxR F).1 (by rw [cs9_eq]; have := (fxR F).2; omega) (by omega) (by omega) d ?_
    have e1 : (if Int32.ofInt y < Int32.ofInt x then Int32.ofInt y else Int32.ofInt x) = Int32.ofInt (min x y) := by
      simp only [of_lt hy hx]
      by_cases q : y < x
      · rw [if_pos q, Int.min_eq_right (by omega)]
      · rw [if_neg q, Int.min_eq_left (by omega)]
    rw [e1]
    exact hw
theorem ok_abs (F : aFx p l R s m args meth c cc nL own cA D A) {GR : Nat} (hG : GR ≤ R.cells ∧ 2000 * GR ≤ R.slots) {pc ix : Nat} (h1 : Cond.methodLink own ix Lib.Math.abs.name ∈ bgL) (h2 : Cond.static Lib.Math.abs.name ∈ bgL) (h3 : Cond.initialized "java/lang/Math" ∈ bgL) (h4 : Cond.code Lib.Math.abs.name Lib.Math.abs.code 1 (some .int) ∈ bgL) (d : decode cc pc = .ok (.invokestatic ix, 3)) : aOk p l e R s m args below meth c nL cA D A n0 ad0 Q pc (fun κ ls st μ g => g ≤ GR ∧ sAbs (pc + 3) κ ls st μ g) := by
  intro κ hκ ls st μ g h H locs ad lsA hH hS hL hM hl hs ha hn0
  obtain ⟨hg, h⟩ := h
  match st, h, hs with
  | .inl x :: st, ⟨k2, k3⟩, hs =>
    have hx : in32 x := okS_hd hs
    have hw := hκ _ _ _ _ _ k3 H locs ad lsA hH hS hL hM hl (okS_cons (v := aI _) (wr_in _) (okS_tl hs)) ha hn0
    refine va_mabs F.1 F.2.1 (F.2.2.1.trans hL.1.symm) F.2.2.2.1 (F.2.2.2.2.1 _ h1) (F.2.2.2.2.1 _ h2) (F.2.2.2.2.1 _ h3) (F.2.2.2.2.1 _ h4) (fxR F).1 (by rw [cs9_eq]; have := (fxR F).2; omega) (by omega) (by omega) d ?_
    have e1 : (if 0 ≤ Int32.ofInt x then Int32.ofInt x else 0 - Int32.ofInt x) = Int32.ofInt (wr (if 0 ≤ x then x else -x)) := by
      rw [of_wr]
      simp only [z_ge hx]
      by_cases q : 0 ≤ x
      · rw [if_pos q, if_pos q]
      · rw [if_neg q, if_neg q, Int32.ofInt_neg]
        simp
    rw [e1]
    exact hw
-- == of references
def sAcmp (tgt n : Nat) : aSt := fun κ ls st μ g => match st with
  | .inr (.inl b) :: .inr (.inl a) :: st => (a = 0 ∨ okA μ a) ∧ (b = 0 ∨ okA μ b) ∧ (a = b → κ tgt ls st μ g) ∧ (a ≠ b → κ n ls st μ g)
  | _ => False
theorem ad_inj {ad : Nat → Nat} {μ : aM} (hD : va_D A (aW cA ad μ)) {a b : Nat} (h1 : okA μ a) (h2 : okA μ b) (h : ad a = ad b) : a = b := by
  have h3 := hD.1 (a - 2) (b - 2) _ _ (aW_get h1) (aW_get h2) h
  have := h1.1
  have := h2.1
  omega
theorem ok_acmp (F : aFx p l R s m args meth c cc nL own cA D A) {pc : Nat} {off : Int} (tgt : Nat) (ht : (pc : Int) + off = (tgt : Int)) (d : decode cc pc = .ok (.if_acmp .eq off, 3)) : aOk p l e R s m args below meth c nL cA D A n0 ad0 Q pc (sAcmp tgt (pc + 3)) := by
  intro κ hκ ls st μ g h H locs ad lsA hH hS hL hM hl hs ha hn0
  match st, h, hs with
  | .inr (.inl b) :: .inr (.inl a) :: st, ⟨k1, k2, k3, k4⟩, hs =>
    have e1 : cr ad a = cr ad b ↔ a = b := by
      refine ⟨fun q => ?_, fun q => by rw [q]⟩
      rcases k1 with rfl | k1
      · rcases k2 with rfl | k2
        · rfl
        · rw [cr_ok k2] at q; cases q
      · rcases k2 with rfl | k2
        · rw [cr_ok k1] at q; cases q
        · rw [cr_ok k1, cr_ok k2] at q
          exact ad_inj hH.2 k1 k2 (Option.some.inj q)
    exact lv_acmp_eq F.1 F.2.1 d ht (fun q => hκ _ _ _ _ _ (k3 (e1.mp q)) H locs ad lsA hH hS hL hM hl (okS_tl (okS_tl hs)) ha hn0) (fun q => hκ _ _ _ _ _ (k4 (fun z => q (e1.mpr z))) H locs ad lsA hH hS hL hM hl (okS_tl (okS_tl hs)) ha hn0)
end ST5
