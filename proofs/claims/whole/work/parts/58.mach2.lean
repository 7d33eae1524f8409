/-! ===== methods with a table of their own, the law's machine ===== -/
/-- a step at pc is sound for B -/
def Snd (B : aK) (pc : Nat) (f : aSt) : Prop := ∀ κ : aK, (∀ pc' ls st μ g, κ pc' ls st μ g → B pc' ls st μ g) → ∀ ls st μ g, f κ ls st μ g → B pc ls st μ g
theorem tbG_ok {B : aK} {t : aTb} (h : ∀ q ∈ t, Snd B q.1 q.2) (pc : Nat) : Snd B pc (tb t pc) := by
  induction t with
  | nil => exact fun κ _ ls st μ g h => h.elim
  | cons q t ih =>
    obtain ⟨k, f⟩ := q
    unfold tb
    split
    · next hk => rw [hk]; exact h _ List.mem_cons_self
    · exact ih fun q hq => h q (List.mem_cons_of_mem _ hq)
theorem wpkG_ok {B : aK} {t : aTb} (h : ∀ q ∈ t, Snd B q.1 q.2) (cuts : List Nat) (n : Nat) {pc : Nat} {ls st : List aV} {μ : aM} {g : Nat} (hw : wpk t cuts B n pc ls st μ g) : B pc ls st μ g := by
  induction n generalizing pc ls st μ g with
  | zero => exact hw.elim
  | succ n ih =>
    unfold wpk at hw
    split at hw
    · exact hw
    · exact tbG_ok h pc _ (fun pc' ls' st' μ' g' hk => ih hk) ls st μ g hw
theorem wpG_ok {B : aK} {t : aTb} (h : ∀ q ∈ t, Snd B q.1 q.2) (cuts : List Nat) (n : Nat) {pc : Nat} {ls st : List aV} {μ : aM} {g : Nat} (hw : ∀ W : Nat → aK, isW t cuts B W → tb t pc (W n) ls st μ g) : B pc ls st μ g :=
  tbG_ok h pc _ (fun pc' ls' st' μ' g' hk => wpkG_ok h cuts n hk) ls st μ g (hw (wpk t cuts B) (fun _ _ _ _ _ _ => rfl))
theorem tnG {B : aK} : ∀ q ∈ ([] : aTb), Snd B q.1 q.2 := fun _ h => nomatch h
theorem tcG {B : aK} {k : Nat} {f : aSt} {t : aTb} (h : Snd B k f) (hs : ∀ q ∈ t, Snd B q.1 q.2) : ∀ q ∈ (k, f) :: t, Snd B q.1 q.2 := List.forall_mem_cons.mpr ⟨h, hs⟩
/-- what holds at the walk of a method with a table -/
def aFh (l : Launch) (M : aMd) (hh : List (Nat × Nat × Nat × Nat)) (p : Program) (s : State) (m : MethodId) (args : Array Value) (meth : Method) (c : Code) (cA : Nat → ClassId) (D : va_G) (A : Nat → Prop) : Prop :=
  aFx p l (rmM M.2.2.2.2.1 M.2.2.2.2.2) s m args meth c M.2.1 M.2.2.1 M.1.cls cA D A ∧ aFy s ∧ c.exceptionTable.toList = tableOf hh ∧ meth.sig.returnType = M.2.2.2.1 ∧ meth.name = M.1.name
def BdH (l : Launch) (M : aMd) (hh : List (Nat × Nat × Nat × Nat)) (K : aRs) (n0 : Nat) : aK := fun pc ls st μ g =>
  ∀ (p : Program) (e : Env) (s : State) (m : MethodId) (args : Array Value) (below : List Frame) (meth : Method) (c : Code) (cA : Nat → ClassId) (D : va_G) (A : Nat → Prop) (ad0 : Nat → Nat), aFh l M hh p s m args meth c cA D A →
    AW p l e (rmM M.2.2.2.2.1 M.2.2.2.2.2) s m args below meth c M.2.2.1 cA D A n0 ad0 (vx_MQ below (aQc cA D A ad0 n0 K) (aXc cA D A ad0 n0 nX) args s M.2.2.2.2.2 (2000 * M.2.2.2.2.2) A) pc ls st μ g
theorem sH {l : Launch} {M : aMd} {hh : List (Nat × Nat × Nat × Nat)} {K : aRs} {n0 pc : Nat} {f : aSt} (h : ∀ (p : Program) (e : Env) (s : State) (m : MethodId) (args : Array Value) (below : List Frame) (meth : Method) (c : Code) (cA : Nat → ClassId) (D : va_G) (A : Nat → Prop) (ad0 : Nat → Nat), aFh l M hh p s m args meth c cA D A →
    aOk p l e (rmM M.2.2.2.2.1 M.2.2.2.2.2) s m args below meth c M.2.2.1 cA D A n0 ad0 (vx_MQ below (aQc cA D A ad0 n0 K) (aXc cA D A ad0 n0 nX) args s M.2.2.2.2.2 (2000 * M.2.2.2.2.2) A) pc f) : Snd (BdH l M hh K n0) pc f :=
  fun κ hκ ls st μ g hf p e s m args below meth c cA D A ad0 F => h p e s m args below meth c cA D A ad0 F κ (fun pc' ls' st' μ' g' hk => hκ _ _ _ _ _ hk p e s m args below meth c cA D A ad0 F) ls st μ g hf
/-- CONTRACT of a method with a table: it returns to K -/
def CtH (l : Launch) (M : aMd) (hh : List (Nat × Nat × Nat × Nat)) (as : List aV) (μ : aM) (K : aRs) : Prop :=
  okM μ → okS (rN μ) as → ∀ (cA : Nat → ClassId) (D : va_G) (A : Nat → Prop) (ad : Nat → Nat) (sz : Nat), (∀ q, sz ≤ q → A q) →
    vx_Met l M.1 (Cond.codeWith M.1 M.2.1 M.2.2.1 M.2.2.2.1 hh :: bgL) (rmM M.2.2.2.2.1 M.2.2.2.2.2) (va_Pc (as.map (cv ad)) (aPre cA D A ad μ sz)) (aQc cA D A ad (rN μ) K) (aXc cA D A ad (rN μ) nX) M.2.2.2.2.2 (2000 * M.2.2.2.2.2) A
theorem CtH_of {l : Launch} {M : aMd} {hh : List (Nat × Nat × Nat × Nat)} (hl : l.stackTraces = false) (hy : plainName M.1.cls = true) (hd : Nat.ble 1 M.2.2.2.2.1 = true) {as : List aV} {μ : aM} {K : aRs} (hc : as.all (fun v => !c2V v) = true) (hn : Nat.ble as.length M.2.2.1 = true) (h : okM μ → okS (rN μ) as → BdH l M hh K (rN μ) 0 (as ++ List.replicate (M.2.2.1 - as.length) aU) [] μ 0) : CtH l M hh as μ K := by
  intro hM has cA D A ad sz hA
  have hc : ∀ v ∈ as, c2V v = false := fun v hv => by have := List.all_eq_true.mp hc v hv; simpa using this
  refine vx_ofWH (cc := M.2.1) (maxL := M.2.2.1) (ret := M.2.2.2.1) (hh := hh) hy rfl ?_
  intro p e s m args below meth c s₁ B hml hv
  obtain ⟨rfl, hsz, hH, hK, ⟨hz1, hz2⟩, hY⟩ := hv
  have hts := atoms_spec (ws := Cond.codeWith M.1 M.2.1 M.2.2.1 M.2.2.2.1 hh :: bgL) B.pre
  have ht := vx_table (x := M.1) B (hts _ List.mem_cons_self)
  have hdd := Nat.le_of_ble_eq_true hd
  have F : aFx p l (rmM M.2.2.2.2.1 M.2.2.2.2.2) s m ((as.map (cv ad)).toArray) meth c M.2.1 M.2.2.1 M.1.cls cA D A := ⟨B.exec, B.bytes, hml, findClass_of_methodNamed B.named, fun w hw => hts w (List.mem_cons_of_mem _ hw), hK, fun q hq => hA q (by omega), B.notSynchronized, hl, ⟨hdd, by show 22 ≤ 40 * _; omega⟩, hz1, hz2⟩
  have hw := h hM has p e s m ((as.map (cv ad)).toArray) below meth c cA D A ad ⟨F, hY, ht, B.returns, (name_of_methodNamed B.named B.method).1⟩ s.heap [] ad _ hH va_S.rf (entry_lo hc (Nat.le_of_ble_eq_true hn)) hM (fun v hv => by
    rcases List.mem_append.mp hv with q | q
    · exact has v q
    · rw [(List.mem_replicate.mp q).2]; exact trivial) (fun v hv => by cases hv) (fun i _ => rfl) (Nat.le_refl _)
  rw [lg_entry_eq]
  exact hw
/-- a row of a method's table: exception k, caught behind hp, goes on at nx -/
def hRow (tab : List ExceptionTableEntry) (own : String) (cc : ByteArray) (pc nL k nx : Nat) : Prop :=
  ∃ (pre : List ExceptionTableEntry) (x : ExceptionTableEntry) (suf : List ExceptionTableEntry), tab = pre ++ x :: suf ∧ (∀ z ∈ pre, covers z pc = false ∨ (z.catchType ≠ 0 ∧ ∃ k' : Nat, Cond.classLink own z.catchType (exN k') ∈ bgL ∧ (k, k') ∈ ncs)) ∧ covers x pc = true ∧ x.catchType ≠ 0 ∧ Cond.classLink own x.catchType (exN k) ∈ bgL ∧
    ((∃ i, i < nL ∧ decode cc x.handlerPc = .ok (.astore i, 2) ∧ nx = x.handlerPc + 2) ∨ (∃ i : Fin 4, (i : Nat) < nL ∧ decode cc x.handlerPc = .ok (.astore_n i, 1) ∧ nx = x.handlerPc + 1))
section ST9
variable {p : Program} {l : Launch} {e : Env} {R : Room} {s : State} {m : MethodId} {args : Array Value} {below : List Frame} {meth : Method} {c : Code} {nL : Nat} {cA : Nat → ClassId} {D : va_G} {A : Nat → Prop} {n0 : Nat} {ad0 : Nat → Nat} {Q : State → Prop}
variable {cc : ByteArray} {own : String}
theorem blank_lo {ad : Nat → Nat} {lsB : Array Slot} {L : List (Nat × Value)} (h : lv_has lsB nL L) : aLo ad lsB nL (List.replicate nL aU) := ⟨h.1, List.length_replicate, h.2.1, fun k v hk hu => by
  have h2 := List.mem_of_getElem? hk
  rw [List.mem_replicate] at h2
  rw [h2.2] at hu
  cases hu⟩
theorem ax_hs (F : aFx p l R s m args meth c cc nL own cA D A) (Y : aFy s) {GR pc : Nat} {κ : aK} (hκ : ∀ pc' ls st μ g, κ pc' ls st μ g → AW p l e R s m args below meth c nL cA D A n0 ad0 Q pc' ls st μ g) {hs : List (Nat × Nat)} (hrows : ∀ h ∈ hs, hRow c.exceptionTable.toList own cc pc nL h.1 h.2) :
    aAx p l e R s m args below meth c nL cA D A n0 ad0 Q GR pc (fun k μ' => ∃ h ∈ hs, h.1 = k ∧ ∀ g', g' ≤ GR → κ h.2 (List.replicate nL aU) [] μ' g') := by
  intro k μ' H locs ad lsA rest q ce g hX hH hS hM ha hn0 hL hq hv hcl hg
  obtain ⟨h, hm, rfl, hk⟩ := hX
  obtain ⟨pre, x, suf, e1, hpass, hcov, hct, hlink, hdec⟩ := hrows h hm
  refine vx_catch (own := own) (name := exN h.1) (E := exN h.1) F.2.2.2.1 pre x suf e1 (fun z hz => ?_) hcov hct (F.2.2.2.2.1 _ hlink) (va_Nw.use rfl (Y.1 h.1)) hq hv hcl ?_
  · rcases hpass z hz with i | ⟨i1, k', i2, i3⟩
    · exact Or.inl i
    · exact Or.inr ⟨i1, exN k', F.2.2.2.2.1 _ i2, Y.2.2.1 _ i3⟩
  · have go := hκ _ _ _ _ _ (hk g hg)
    have hblank : okS (rN μ') (List.replicate nL aU) := fun v hv => by rw [(List.mem_replicate.mp hv).2]; exact trivial
    rcases hdec with ⟨i, hi, d, hnx⟩ | ⟨i, hi, d, hnx⟩
    · rw [hnx] at go
      exact lv_astore F.1 F.2.1 d hL hi rfl (fun lsB hB => go H locs ad lsB hH hS (blank_lo hB) hM hblank (fun v hv => by cases hv) ha hn0)
    · rw [hnx] at go
      exact lv_astore_n F.1 F.2.1 d rfl hL hi rfl (fun lsB hB => go H locs ad lsB hH hS (blank_lo hB) hM hblank (fun v hv => by cases hv) ha hn0)
/-- a virtual call in a method that catches -/
def sCallVH (n ci : Nat) (T : List aV → aM → aRs → aXs → Prop) (nx G GR nL : Nat) (hs : List (Nat × Nat)) : aSt := fun κ ls st μ g => match st.drop n with
  | .inr (.inl b) :: rest => okA μ b ∧ (shp b).1 = ci ∧ cs9 rest ≤ 8 ∧ g + G ≤ GR ∧ T (aR b :: (st.take n).reverse) μ (fun r μ' => κ nx ls (r.toList ++ rest) μ' (g + G)) (fun k μ' => ∃ h ∈ hs, h.1 = k ∧ ∀ g', g' ≤ GR → κ h.2 (List.replicate nL aU) [] μ' g')
  | _ => False
theorem ok_callVH (F : aFx p l R s m args meth c cc nL own cA D A) (Y : aFy s) {GR : Nat} (hG : GR ≤ R.cells ∧ 2000 * GR ≤ R.slots) {pc ix n ci N : Nat} {T : u_T} (M : aMd) (S : aSite M n) (X9 : aCx ci M.1.cls T N) (h1 : Cond.methodLink own ix M.1 ∈ bgL) (h2 : Cond.instanceMethod M.1 ∈ bgL) (h3 : Cond.selects M.1.cls M.1 M.1 ∈ bgL)
    (hR : M.2.2.2.2.1 + 1 ≤ R.frames ∧ 8 + (M.2.2.1 + 11) + 40 * M.2.2.2.2.1 ≤ R.locals) {hs : List (Nat × Nat)} (hrows : ∀ h ∈ hs, hRow c.exceptionTable.toList own cc pc nL h.1 h.2) (d : decode cc pc = .ok (.invokevirtual ix, 3)) : aOk p l e R s m args below meth c nL cA D A n0 ad0 Q pc (sCallVH n ci (fun as μ K X => Ct l M as μ K X) (pc + 3) M.2.2.2.2.2 GR nL hs) := by
  intro κ hκ ls st μ g h
  exact ok_callV F Y hG M S X9 h1 h2 h3 hR (ax_hs F Y hκ hrows) d κ hκ ls st μ g h
def aSiteH (M : aMd) (hh : List (Nat × Nat × Nat × Nat)) (n : Nat) : Prop := (Cond.initialized M.1.cls ∈ bgL ∧ Cond.codeWith M.1 M.2.1 M.2.2.1 M.2.2.2.1 hh ∈ bgL) ∧ (M.1.cls ≠ "java/lang/invoke/MethodHandle" ∧ M.1.cls ≠ "java/lang/invoke/VarHandle" ∧ (parseMethodDescriptor M.1.desc).map (fun d => d.parameters.length) = some n)
theorem ok_callSH (F : aFx p l R s m args meth c cc nL own cA D A) (Y : aFy s) {GR : Nat} (hG : GR ≤ R.cells ∧ 2000 * GR ≤ R.slots) {pc ix n : Nat} (M : aMd) (hh : List (Nat × Nat × Nat × Nat)) (S : aSiteH M hh n) (h1 : Cond.methodLink own ix M.1 ∈ bgL) (h2 : Cond.static M.1 ∈ bgL)
    (hR : M.2.2.2.2.1 + 1 ≤ R.frames ∧ 8 + (M.2.2.1 + 11) + 40 * M.2.2.2.2.1 ≤ R.locals) (d : decode cc pc = .ok (.invokestatic ix, 3)) : aOk p l e R s m args below meth c nL cA D A n0 ad0 Q pc (sCallS n (fun as μ K => CtH l M hh as μ K) (pc + 3) M.2.2.2.2.2 GR) := by
  intro κ hκ ls st μ g h H locs ad lsA hH hS hL hM hl hs ha hn0
  obtain ⟨k0, k3, k4, k5⟩ := h
  have hrest : okS (rN μ) (st.drop n) := fun v hv => hs v (List.mem_of_mem_drop hv)
  have has : okS (rN μ) (st.take n).reverse := fun v hv => hs v (List.mem_of_mem_take (List.mem_reverse.mp hv))
  have hC := k5 hM has cA D A ad H.size (fun q hq => F.2.2.2.2.2.2.1 q (Nat.le_trans hS.1 hq))
  refine run_W (K := _) (X := nX) (as' := ((st.take n).reverse.map (cv ad)).toArray) (vx_runSX (hh := hh) (n := n) (bytes := M.2.1) (maxL := M.2.2.1) (ret := M.2.2.2.1) (Ts := bgL) (own := own) ⟨F.1, F.2.1, F.2.2.1, F.2.2.2.1, F.2.2.2.2.1⟩ hC ?_ ⟨aPre_blind _ _ _ _ _ _ _, fun U hU hW => ⟨rfl, pre_at F Y hH hS U hU hW⟩⟩ rfl (by simp [k0]) hL.1 ?_ (by rw [cs9_eq]; show 2 * 0 + cs9 (st.drop n) ≤ 8; omega) d ⟨by omega, by omega⟩) hS hL hl hrest ha hn0 k4 (fun r μ' hK => hκ _ _ _ _ _ hK) aAx_no
  · exact vx_cwSW n F.2.2.2.2.1 (bg_cons h1 (bg_cons h2 (bg_cons S.1.1 (bg_cons S.1.2 bg_in)))) rfl rfl rfl S.2 hR
  · show st.map (cv ad) = _
    rw [List.map_reverse, List.reverse_reverse, ← List.map_append, List.take_append_drop]
/-- f2d of no NaN -/
def sF2d (n : Nat) : aSt := fun κ ls st μ g => match st with
  | .inr (.inr (.inr (.inl a))) :: st => vf_n64 (FP.f2d a) ∧ κ n ls (aD (FP.f2d a) :: st) μ g
  | _ => False
theorem ok_f2d (F : aFx p l R s m args meth c cc nL own cA D A) {pc : Nat} (d : decode cc pc = .ok (.f2d, 1)) : aOk p l e R s m args below meth c nL cA D A n0 ad0 Q pc (sF2d (pc + 1)) := by
  intro κ hκ ls st μ g h H locs ad lsA hH hS hL hM hl hs ha hn0
  match st, h, hs with
  | .inr (.inr (.inr (.inl a))) :: st, h, hs => exact lv_f2d F.1 F.2.1 d h.1 (hκ _ _ _ _ _ h.2 H locs ad lsA hH hS hL hM hl (okS_cons (v := aD _) trivial (okS_tl hs)) ha hn0)
/-- two doubles that are the same -/
def sDcmp (op : CmpOp) (n : Nat) : aSt := fun κ ls st μ g => match st with
  | .inr (.inr (.inr (.inr (.inl b)))) :: .inr (.inr (.inr (.inr (.inl a)))) :: st => Op.cmpValue (FP.dcmp a b) op = 0 ∧ κ n ls (aI 0 :: st) μ g
  | _ => False
theorem ok_dcmp (F : aFx p l R s m args meth c cc nL own cA D A) {pc : Nat} {op : CmpOp} (d : decode cc pc = .ok (.dcmp op, 1)) : aOk p l e R s m args below meth c nL cA D A n0 ad0 Q pc (sDcmp op (pc + 1)) := by
  intro κ hκ ls st μ g h H locs ad lsA hH hS hL hM hl hs ha hn0
  match st, h, hs with
  | .inr (.inr (.inr (.inr (.inl b)))) :: .inr (.inr (.inr (.inr (.inl a)))) :: st, h, hs =>
    have hw := hκ _ _ _ _ _ h.2 H locs ad lsA hH hS hL hM hl (okS_cons (v := aI 0) (show in32 0 from ⟨by omega, by omega⟩) (okS_tl (okS_tl hs))) ha hn0
    refine lv_dcmp F.1 F.2.1 d ?_
    rw [h.1]
    exact hw
end ST9
