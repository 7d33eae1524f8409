/-! ===== returns, throws; a method's body; the walk as one formula ===== -/
section ST7
variable {p : Program} {l : Launch} {e : Env} {R : Room} {s : State} {m : MethodId} {args : Array Value} {below : List Frame} {meth : Method} {c : Code} {nL : Nat} {cA : Nat → ClassId} {D : va_G} {A : Nat → Prop} {n0 : Nat} {ad0 : Nat → Nat} {Q : State → Prop}
variable {cc : ByteArray} {own : String} {K : aRs} {X : aXs} {G : Nat}
def sRetI (ty : FieldType) (G : Nat) (K : aRs) : aSt := fun κ ls st μ g => match st with
  | [.inl x] => nar ty x ∧ g ≤ G ∧ K (some (aI x)) μ
  | _ => False
def sRetL (G : Nat) (K : aRs) : aSt := fun κ ls st μ g => match st with
  | [.inr (.inr (.inl x))] => g ≤ G ∧ K (some (aL x)) μ
  | _ => False
def sRetF (G : Nat) (K : aRs) : aSt := fun κ ls st μ g => match st with
  | [.inr (.inr (.inr (.inl x)))] => g ≤ G ∧ K (some (aF x)) μ
  | _ => False
def sRetD (G : Nat) (K : aRs) : aSt := fun κ ls st μ g => match st with
  | [.inr (.inr (.inr (.inr (.inl x))))] => g ≤ G ∧ K (some (aD x)) μ
  | _ => False
def sRetR (G : Nat) (K : aRs) : aSt := fun κ ls st μ g => match st with
  | [.inr (.inl x)] => g ≤ G ∧ K (some (aR x)) μ
  | _ => False
def sRetV (G : Nat) (K : aRs) : aSt := fun κ ls st μ g => match st with
  | [] => g ≤ G ∧ K none μ
  | _ => False
theorem ok_ireturn (F : aFx p l R s m args meth c cc nL own cA D A) {pc : Nat} {ty : FieldType} (hr : meth.sig.returnType = some ty) (ht : ty = .int ∨ ty = .boolean ∨ ty = .char) (d : decode cc pc = .ok (.ireturn, 1)) : aOk p l e R s m args below meth c nL cA D A n0 ad0 (vx_MQ below (aQc cA D A ad0 n0 K) (aXc cA D A ad0 n0 X) args s G (2000 * G) A) pc (sRetI ty G K) := by
  intro κ hκ ls st μ g h H locs ad lsA hH hS hL hM hl hs ha hn0
  match st, h, hs with
  | [.inl x], ⟨h1, h2, h3⟩, hs =>
    refine vx_ret (W.widen (k := G) (n := 2000 * G) h2 (Nat.mul_le_mul_left _ h2) ?_)
    exact W.zret F.1 F.2.1 hr (nar_ok (okS_hd hs) h1 ht).1 (fun t hT hW => ⟨⟨some (aI x), μ, ad, rfl, h3, by rw [hT]; exact hH, hM, fun v hv => by cases hv; exact okS_hd hs, ha, hn0⟩, hS.F hT⟩) (fun q hq => hS.2.2 q hq) d F.2.2.2.2.2.2.2.1
theorem ok_lreturn (F : aFx p l R s m args meth c cc nL own cA D A) {pc : Nat} (hr : meth.sig.returnType = some .long) (d : decode cc pc = .ok (.lreturn, 1)) : aOk p l e R s m args below meth c nL cA D A n0 ad0 (vx_MQ below (aQc cA D A ad0 n0 K) (aXc cA D A ad0 n0 X) args s G (2000 * G) A) pc (sRetL G K) := by
  intro κ hκ ls st μ g h H locs ad lsA hH hS hL hM hl hs ha hn0
  match st, h, hs with
  | [.inr (.inr (.inl x))], ⟨h2, h3⟩, hs =>
    refine vx_ret (W.widen (k := G) (n := 2000 * G) h2 (Nat.mul_le_mul_left _ h2) ?_)
    exact W.lret F.1 F.2.1 hr (fun t hT hW => ⟨⟨some (aL x), μ, ad, rfl, h3, by rw [hT]; exact hH, hM, fun v hv => by cases hv; exact okS_hd hs, ha, hn0⟩, hS.F hT⟩) (fun q hq => hS.2.2 q hq) d F.2.2.2.2.2.2.2.1
theorem ok_freturn (F : aFx p l R s m args meth c cc nL own cA D A) {pc : Nat} (hr : meth.sig.returnType = some .float) (d : decode cc pc = .ok (.freturn, 1)) : aOk p l e R s m args below meth c nL cA D A n0 ad0 (vx_MQ below (aQc cA D A ad0 n0 K) (aXc cA D A ad0 n0 X) args s G (2000 * G) A) pc (sRetF G K) := by
  intro κ hκ ls st μ g h H locs ad lsA hH hS hL hM hl hs ha hn0
  match st, h, hs with
  | [.inr (.inr (.inr (.inl x)))], ⟨h2, h3⟩, hs =>
    refine vx_ret (W.widen (k := G) (n := 2000 * G) h2 (Nat.mul_le_mul_left _ h2) ?_)
    exact W.fret F.1 F.2.1 hr (fun t hT hW => ⟨⟨some (aF x), μ, ad, rfl, h3, by rw [hT]; exact hH, hM, fun v hv => by cases hv; exact okS_hd hs, ha, hn0⟩, hS.F hT⟩) (fun q hq => hS.2.2 q hq) d F.2.2.2.2.2.2.2.1
theorem ok_dreturn (F : aFx p l R s m args meth c cc nL own cA D A) {pc : Nat} (hr : meth.sig.returnType = some .double) (d : decode cc pc = .ok (.dreturn, 1)) : aOk p l e R s m args below meth c nL cA D A n0 ad0 (vx_MQ below (aQc cA D A ad0 n0 K) (aXc cA D A ad0 n0 X) args s G (2000 * G) A) pc (sRetD G K) := by
  intro κ hκ ls st μ g h H locs ad lsA hH hS hL hM hl hs ha hn0
  match st, h, hs with
  | [.inr (.inr (.inr (.inr (.inl x))))], ⟨h2, h3⟩, hs =>
    refine vx_ret (W.widen (k := G) (n := 2000 * G) h2 (Nat.mul_le_mul_left _ h2) ?_)
    exact W.dret F.1 F.2.1 hr (fun t hT hW => ⟨⟨some (aD x), μ, ad, rfl, h3, by rw [hT]; exact hH, hM, fun v hv => by cases hv; exact okS_hd hs, ha, hn0⟩, hS.F hT⟩) (fun q hq => hS.2.2 q hq) d F.2.2.2.2.2.2.2.1
theorem ok_areturn (F : aFx p l R s m args meth c cc nL own cA D A) {pc : Nat} {rt : FieldType} (hr : meth.sig.returnType = some rt) (hrt : (∃ n, rt = .object n) ∨ ∃ t, rt = .array t) (d : decode cc pc = .ok (.areturn, 1)) : aOk p l e R s m args below meth c nL cA D A n0 ad0 (vx_MQ below (aQc cA D A ad0 n0 K) (aXc cA D A ad0 n0 X) args s G (2000 * G) A) pc (sRetR G K) := by
  intro κ hκ ls st μ g h H locs ad lsA hH hS hL hM hl hs ha hn0
  match st, h, hs with
  | [.inr (.inl x)], ⟨h2, h3⟩, hs =>
    refine vx_ret (W.widen (k := G) (n := 2000 * G) h2 (Nat.mul_le_mul_left _ h2) ?_)
    refine W.aret F.1 F.2.1 hr hrt ?_ (fun t hT hW => ⟨⟨some (aR x), μ, ad, rfl, h3, by rw [hT]; exact hH, hM, fun v hv => by cases hv; exact okS_hd hs, ha, hn0⟩, hS.F hT⟩) (fun q hq => hS.2.2 q hq) d F.2.2.2.2.2.2.2.1
    show va_rf (cr ad x) = _ ∨ ∃ a, va_rf (cr ad x) = _
    cases cr ad x with
    | none => exact Or.inl rfl
    | some a => exact Or.inr ⟨a, rfl⟩
theorem ok_return (F : aFx p l R s m args meth c cc nL own cA D A) {pc : Nat} (hr : meth.sig.returnType = none) (d : decode cc pc = .ok (.return_, 1)) : aOk p l e R s m args below meth c nL cA D A n0 ad0 (vx_MQ below (aQc cA D A ad0 n0 K) (aXc cA D A ad0 n0 X) args s G (2000 * G) A) pc (sRetV G K) := by
  intro κ hκ ls st μ g h H locs ad lsA hH hS hL hM hl hs ha hn0
  match st, h, hs with
  | [], ⟨h2, h3⟩, hs =>
    refine vx_ret (W.widen (k := G) (n := 2000 * G) h2 (Nat.mul_le_mul_left _ h2) ?_)
    exact W.vret F.1 F.2.1 hr (fun t hT hW => ⟨⟨none, μ, ad, rfl, h3, by rw [hT]; exact hH, hM, (fun v hv => nomatch hv), ha, hn0⟩, hS.F hT⟩) (fun q hq => hS.2.2 q hq) d F.2.2.2.2.2.2.2.1
/-- what is thrown in a callee goes on to the caller -/
theorem aAx_out (F : aFx p l R s m args meth c cc nL own cA D A) (hx0 : ∀ x ∈ c.exceptionTable.toList, False) (pc : Nat) : aAx p l e R s m args below meth c nL cA D A n0 ad0 (vx_MQ below (aQc cA D A ad0 n0 K) (aXc cA D A ad0 n0 X) args s G (2000 * G) A) G pc X :=
  fun k μ' H locs ad lsA rest q ce g hX hH hS hM ha hn _ hce hcv hcl hg =>
    vx_out (fun x hx => (hx0 x hx).elim) F.2.2.2.2.2.2.2.1 hce hcv hcl (fun t hT hW => ⟨⟨k, μ', ad, rfl, hX, by rw [hT]; exact hH, hM, ha, hn⟩, hS.F hT⟩) (fun z hz => hS.2.2 z hz) hg (Nat.mul_le_mul_left _ hg)
def sThrow (k G : Nat) (X : aXs) : aSt := fun κ ls st μ g => X k μ ∧ g + 1 ≤ G ∧ cs9 st ≤ 8
theorem ok_throw (F : aFx p l R s m args meth c cc nL own cA D A) (Y : aFy s) (hG : G ≤ R.cells ∧ 2000 * G ≤ R.slots) (hx0 : ∀ x ∈ c.exceptionTable.toList, False) {pc ik ic k : Nat} {names : List String} (hcls : Bundle.fit (exN k) = true) (hnames : ∀ n ∈ names, Bundle.fit n = true) (hk : Cond.classLink own ik (exN k) ∈ bgL) (hini : Cond.initialized (exN k) ∈ bgL)
    (hat1 : ∀ w ∈ (vx_at0 own ic (exN k) names).filter goodWord, w ∈ bgL) (hat2 : ∀ w ∈ (vx_at0 own ic (exN k) names).filter (fun w => !goodWord w), w ∈ Cond.castable (exN k) (exN k) :: dcs) (hgood : ∀ w ∈ Cond.classLink own ik (exN k) :: Cond.initialized (exN k) :: vx_at0 own ic (exN k) names, vx_ot w = true)
    (d0 : decode cc pc = .ok (.new ik, 3)) (d3 : decode cc (pc + 3) = .ok (.dup, 1)) (d4 : decode cc (pc + 4) = .ok (.invokespecial ic, 3)) (d7 : decode cc (pc + 7) = .ok (.athrow, 1)) (hf : names.length + 3 < R.frames) (hlo : 8 + (13 * (names.length + 1) + 42) ≤ R.locals) :
    aOk p l e R s m args below meth c nL cA D A n0 ad0 (vx_MQ below (aQc cA D A ad0 n0 K) (aXc cA D A ad0 n0 X) args s G (2000 * G) A) pc (sThrow k G X) := by
  intro κ hκ ls st μ g h H locs ad lsA hH hS hL hM hl hs ha hn0
  obtain ⟨h1, h2, h3⟩ := h
  refine vx_throw0 (names := names) F.1 F.2.1 F.2.2.2.2.2.2.2.2.1 F.2.2.2.1 hcls hnames (F.2.2.2.2.1 _ hk) (F.2.2.2.2.1 _ hini) ?_ hgood F.2.2.2.2.2.2.2.2.2.2.1 F.2.2.2.2.2.2.2.2.2.2.2 hS (hL.1.trans F.2.2.1.symm) d0 d3 d4 d7 (fun x hx => (hx0 x hx).elim) hf (by rw [cs9_eq]; omega) (by omega) (by omega) F.2.2.2.2.2.2.2.1 ?_ (fun z hz => hS.2.2 z hz) h2 (by omega)
  · exact vx_hat (fun w hw => F.2.2.2.2.1 w (hat1 w hw)) hat2 (vx_c (va_Nw.use rfl (Y.1 k)) (fun w hw => by
    have h9 := Y.2.2.2 w hw
    simp only [dcs, List.mem_cons, List.not_mem_nil, or_false] at hw
    rcases hw with rfl | rfl | rfl <;> exact va_Nw.use rfl h9))
  · intro t hal hsz hq
    refine ⟨⟨k, μ, ad, rfl, h1, hH.kept hq, hM, ha, hn0⟩, Nat.le_trans hS.1 hsz, fun q h5 h6 => ?_⟩
    rw [hq q (Nat.lt_of_lt_of_le h5 hS.1)]
    exact hS.2.1 q h5 h6
end ST7
/-- what holds at a method's walk -/
def aFa (l : Launch) (M : aMd) (p : Program) (s : State) (m : MethodId) (args : Array Value) (meth : Method) (c : Code) (cA : Nat → ClassId) (D : va_G) (A : Nat → Prop) : Prop :=
  aFx p l (rmM M.2.2.2.2.1 M.2.2.2.2.2) s m args meth c M.2.1 M.2.2.1 M.1.cls cA D A ∧ aFy s ∧ (∀ x ∈ c.exceptionTable.toList, False) ∧ meth.sig.returnType = M.2.2.2.1 ∧ meth.name = M.1.name
/-- from pc of M, in any machine that fits, the walk comes to K or X -/
def Bd (l : Launch) (M : aMd) (K : aRs) (X : aXs) (n0 : Nat) : aK := fun pc ls st μ g =>
  ∀ (p : Program) (e : Env) (s : State) (m : MethodId) (args : Array Value) (below : List Frame) (meth : Method) (c : Code) (cA : Nat → ClassId) (D : va_G) (A : Nat → Prop) (ad0 : Nat → Nat), aFa l M p s m args meth c cA D A →
    AW p l e (rmM M.2.2.2.2.1 M.2.2.2.2.2) s m args below meth c M.2.2.1 cA D A n0 ad0 (vx_MQ below (aQc cA D A ad0 n0 K) (aXc cA D A ad0 n0 X) args s M.2.2.2.2.2 (2000 * M.2.2.2.2.2) A) pc ls st μ g
/-- a step of M at pc is sound -/
def aSo (l : Launch) (M : aMd) (K : aRs) (X : aXs) (n0 pc : Nat) (f : aSt) : Prop :=
  ∀ (p : Program) (e : Env) (s : State) (m : MethodId) (args : Array Value) (below : List Frame) (meth : Method) (c : Code) (cA : Nat → ClassId) (D : va_G) (A : Nat → Prop) (ad0 : Nat → Nat), aFa l M p s m args meth c cA D A →
    aOk p l e (rmM M.2.2.2.2.1 M.2.2.2.2.2) s m args below meth c M.2.2.1 cA D A n0 ad0 (vx_MQ below (aQc cA D A ad0 n0 K) (aXc cA D A ad0 n0 X) args s M.2.2.2.2.2 (2000 * M.2.2.2.2.2) A) pc f
/-- a table of steps -/
abbrev aTb : Type := List (Nat × aSt)
def tb : aTb → Nat → aSt
  | [], _ => fun _ _ _ _ _ => False
  | (k, f) :: t, pc => if pc = k then f else tb t pc
theorem tb_ok {l : Launch} {M : aMd} {K : aRs} {X : aXs} {n0 : Nat} {t : aTb} (h : ∀ q ∈ t, aSo l M K X n0 q.1 q.2) (pc : Nat) : aSo l M K X n0 pc (tb t pc) := by
  induction t with
  | nil => exact fun _ _ _ _ _ _ _ _ _ _ _ _ _ κ _ ls st μ g h => h.elim
  | cons q t ih =>
    obtain ⟨k, f⟩ := q
    unfold tb
    split
    · next hk => rw [hk]; exact h _ List.mem_cons_self
    · exact ih fun q hq => h q (List.mem_cons_of_mem _ hq)
def cutb : List Nat → Nat → Bool
  | [], _ => false
  | a :: t, n => (n == a) || cutb t n
/-- the walk as a formula: to the cuts, where J takes over -/
def wpk (t : aTb) (cuts : List Nat) (J : aK) : Nat → aK
  | 0 => fun _ _ _ _ _ => False
  | n + 1 => fun pc ls st μ g => if cutb cuts pc = true then J pc ls st μ g else tb t pc (wpk t cuts J n) ls st μ g
theorem wpk_ok {l : Launch} {M : aMd} {K : aRs} {X : aXs} {n0 : Nat} {t : aTb} (h : ∀ q ∈ t, aSo l M K X n0 q.1 q.2) (cuts : List Nat) (n : Nat) {pc : Nat} {ls st : List aV} {μ : aM} {g : Nat} (hw : wpk t cuts (Bd l M K X n0) n pc ls st μ g) : Bd l M K X n0 pc ls st μ g := by
  induction n generalizing pc ls st μ g with
  | zero => exact hw.elim
  | succ n ih =>
    unfold wpk at hw
    split at hw
    · exact hw
    · intro p e s m args below meth c cA D A ad0 hF
      exact tb_ok h pc p e s m args below meth c cA D A ad0 hF _ (fun pc' ls' st' μ' g' hk => ih hk p e s m args below meth c cA D A ad0 hF) ls st μ g hw
/-- W walks the table; in the proofs W is a variable, so that nothing unfolds it -/
def isW (t : aTb) (cuts : List Nat) (J : aK) (W : Nat → aK) : Prop := ∀ (n pc : Nat) (ls st : List aV) (μ : aM) (g : Nat), W (n + 1) pc ls st μ g = if cutb cuts pc = true then J pc ls st μ g else tb t pc (W n) ls st μ g
theorem wp_ok {l : Launch} {M : aMd} {K : aRs} {X : aXs} {n0 : Nat} {t : aTb} (h : ∀ q ∈ t, aSo l M K X n0 q.1 q.2) (cuts : List Nat) (n : Nat) {pc : Nat} {ls st : List aV} {μ : aM} {g : Nat} (hw : ∀ W : Nat → aK, isW t cuts (Bd l M K X n0) W → tb t pc (W n) ls st μ g) : Bd l M K X n0 pc ls st μ g := by
  intro p e s m args below meth c cA D A ad0 hF
  exact tb_ok h pc p e s m args below meth c cA D A ad0 hF _ (fun pc' ls' st' μ' g' hk => wpk_ok h cuts n hk p e s m args below meth c cA D A ad0 hF) ls st μ g (hw (wpk t cuts (Bd l M K X n0)) (fun _ _ _ _ _ _ => rfl))
theorem arg_mem {ad : Nat → Nat} : ∀ (as : List aV) (i : Nat), (∀ v ∈ as, c2V v = false) → ∀ (k : Nat) (v : aV), as[k]? = some v → (i + k, cv ad v) ∈ lv_args i (as.map (cv ad)) := by
  intro as
  induction as with
  | nil => intro i _ k v h; simp at h
  | cons a as ih =>
    intro i hc k v h
    have hca : (cv ad a).category = 1 := cat1_cv ad (hc a List.mem_cons_self)
    simp only [List.map_cons, lv_args, hca]
    cases k with
    | zero =>
      simp at h
      subst h
      exact List.mem_cons_self
    | succ k =>
      refine List.mem_cons_of_mem _ ?_
      have h1 := ih (i + 1) (fun v hv => hc v (List.mem_cons_of_mem _ hv)) k v (by simpa using h)
      rw [show i + 1 + k = i + (k + 1) by omega] at h1
      exact h1
theorem sl_len {ad : Nat → Nat} : ∀ (as : List aV), (∀ v ∈ as, c2V v = false) → (lg_sl (as.map (cv ad))).length = as.length := by
  intro as
  induction as with
  | nil => intro _; rfl
  | cons a as ih =>
    intro hc
    have hca : (cv ad a).category = 1 := cat1_cv ad (hc a List.mem_cons_self)
    have h1 := ih (fun v hv => hc v (List.mem_cons_of_mem _ hv))
    unfold lg_sl at h1 ⊢
    rw [List.map_cons, List.flatMap_cons, List.length_append, h1, hca]
    simp
    omega
theorem entry_lo {ad : Nat → Nat} {nL : Nat} {as : List aV} (hc : ∀ v ∈ as, c2V v = false) (hn : as.length ≤ nL) : aLo ad ((lg_sl (as.map (cv ad)) ++ List.replicate (nL - (lg_sl (as.map (cv ad))).length) Slot.unset).toArray) nL (as ++ List.replicate (nL - as.length) aU) := by
  have hl := lv_entry (as.map (cv ad)) (n := nL) (by rw [sl_len as hc]; exact hn)
  refine ⟨hl.1, by simp; omega, hl.2.1, fun k v hk hu => ?_⟩
  rcases Nat.lt_or_ge k as.length with h | h
  · rw [List.getElem?_append_left h] at hk
    have h1 := arg_mem (ad := ad) as 0 hc k v hk
    rw [Nat.zero_add] at h1
    exact hl.2.2 _ h1
  · rw [List.getElem?_append_right h] at hk
    have h2 := List.mem_of_getElem? hk
    rw [List.mem_replicate] at h2
    rw [h2.2] at hu
    cases hu
/-- a contract by its body's walk -/
theorem Ct_of {l : Launch} {M : aMd} (hl : l.stackTraces = false) (hy : plainName M.1.cls = true) (hd : 1 ≤ M.2.2.2.2.1) {as : List aV} {μ : aM} {K : aRs} {X : aXs} (hc : ∀ v ∈ as, c2V v = false) (hn : as.length ≤ M.2.2.1) (h : okM μ → okS (rN μ) as → Bd l M K X (rN μ) 0 (as ++ List.replicate (M.2.2.1 - as.length) aU) [] μ 0) : Ct l M as μ K X := by
  intro hM has cA D A ad sz hA
  refine vx_ofW (cc := M.2.1) (maxL := M.2.2.1) (ret := M.2.2.2.1) hy rfl ?_
  intro p e s m args below meth c s₁ B hml ht hv
  obtain ⟨rfl, hsz, hH, hK, ⟨hz1, hz2⟩, hY⟩ := hv
  have hts := atoms_spec (ws := Cond.code M.1 M.2.1 M.2.2.1 M.2.2.2.1 :: bgL) B.pre
  have F : aFx p l (rmM M.2.2.2.2.1 M.2.2.2.2.2) s m ((as.map (cv ad)).toArray) meth c M.2.1 M.2.2.1 M.1.cls cA D A := ⟨B.exec, B.bytes, hml, findClass_of_methodNamed B.named, fun w hw => hts w (List.mem_cons_of_mem _ hw), hK, fun q hq => hA q (by omega), B.notSynchronized, hl, ⟨hd, by show 22 ≤ 40 * _; omega⟩, hz1, hz2⟩
  have hw := h hM has p e s m ((as.map (cv ad)).toArray) below meth c cA D A ad ⟨F, hY, ht, B.returns, (name_of_methodNamed B.named B.method).1⟩ s.heap [] ad _ hH va_S.rf (entry_lo hc hn) hM (fun v hv => by
    rcases List.mem_append.mp hv with q | q
    · exact has v q
    · rw [(List.mem_replicate.mp q).2]; exact trivial) (fun v hv => by cases hv) (fun i _ => rfl) (Nat.le_refl _)
  rw [lg_entry_eq]
  exact hw
/-- a contract says more than a weaker one -/
theorem Ct.mono {l : Launch} {M : aMd} {as : List aV} {μ : aM} {K K' : aRs} {X X' : aXs} (h : Ct l M as μ K X) (hk : ∀ r μ', okM μ' → (∀ v, r = some v → okV (rN μ') v) → rN μ ≤ rN μ' → K r μ' → K' r μ') (hx : ∀ k μ', okM μ' → rN μ ≤ rN μ' → X k μ' → X' k μ') : Ct l M as μ K' X' := by
  intro hM has cA D A ad sz hA
  have h1 := h hM has cA D A ad sz hA
  unfold vx_Met at h1 ⊢
  intro p e ha hc hk' s m args below hf happ hpre ht
  obtain ⟨n, o, h2, h3, h4, h5⟩ := h1 p e ha hc hk' s m args below hf happ hpre ht
  refine ⟨n, o, h2, h3, h4, ?_⟩
  rcases h5 with ⟨⟨⟨r, μ', ad', q1, q2, q3, q4, q5, q6, q7⟩, hF⟩, hL⟩ | ⟨q, hq, E, ce, L, ⟨⟨k, μ', ad', e1, e2, e3, e4, e5, e6⟩, hF⟩, hr⟩
  · exact Or.inl ⟨⟨⟨r, μ', ad', q1, hk r μ' q4 q5 q7 q2, q3, q4, q5, q6, q7⟩, hF⟩, hL⟩
  · exact Or.inr ⟨q, hq, E, ce, L, ⟨⟨k, μ', ad', e1, hx k μ' e4 e6 e2, e3, e4, e5, e6⟩, hF⟩, hr⟩
