/-! ===== the walk in the abstract machine: AW, and a step for each instruction ===== -/
def lg : List aV → Nat → aV
  | [], _ => aU
  | a :: _, 0 => a
  | _ :: l, k + 1 => lg l k
def clr (v : aV) : aV := if c2V v then aU else v
def lst : List aV → Nat → aV → List aV
  | [], _, _ => []
  | _ :: l, 0, v => v :: l
  | a :: l, k + 1, v => (if k = 0 then clr a else a) :: lst l k v
theorem lg_get {ls : List aV} {k : Nat} (h : isU (lg ls k) = false) : ls[k]? = some (lg ls k) := by
  induction ls generalizing k with
  | nil => simp [lg, isU] at h
  | cons a l ih =>
    cases k with
    | zero => rfl
    | succ k => simpa [lg] using ih (k := k) (by simpa [lg] using h)
theorem lst_len (ls : List aV) (k : Nat) (v : aV) : (lst ls k v).length = ls.length := by
  induction ls generalizing k with
  | nil => rfl
  | cons a l ih => cases k <;> simp [lst, ih]
theorem lst_get {ls : List aV} {k j : Nat} {v w : aV} (h : (lst ls k v)[j]? = some w) (hu : isU w = false) : (j = k ∧ w = v) ∨ (j ≠ k ∧ ls[j]? = some w ∧ ¬ (j + 1 = k ∧ c2V w = true)) := by
  induction ls generalizing k j with
  | nil => simp [lst] at h
  | cons a l ih =>
    cases k with
    | zero =>
      cases j with
      | zero => left; simp [lst] at h; exact ⟨rfl, h.symm⟩
      | succ j => right; simp [lst] at h; exact ⟨by omega, by simpa using h, by omega⟩
    | succ k =>
      cases j with
      | zero =>
        right
        simp only [lst, List.getElem?_cons_zero, Option.some.injEq] at h
        refine ⟨by omega, ?_, ?_⟩
        · by_cases hk : k = 0
          · rw [if_pos hk] at h
            unfold clr at h
            split at h
            · subst h; simp [isU] at hu
            · simp [h]
          · rw [if_neg hk] at h; simp [h]
        · rintro ⟨hk, hc⟩
          rw [if_pos (by omega)] at h
          unfold clr at h
          split at h
          · subst h; simp [isU] at hu
          · subst h; exact absurd hc (by assumption)
      | succ j =>
        simp only [lst, List.getElem?_cons_succ] at h
        rcases ih h with ⟨h1, h2⟩ | ⟨h1, h2, h3⟩
        · exact Or.inl ⟨by omega, h2⟩
        · exact Or.inr ⟨by omega, by simpa using h2, fun q => h3 ⟨by omega, q.2⟩⟩
def aLo (ad : Nat → Nat) (lsA : Array Slot) (nL : Nat) (ls : List aV) : Prop := lsA.size = nL ∧ ls.length = nL ∧ lv_wf lsA ∧ ∀ (k : Nat) (v : aV), ls[k]? = some v → isU v = false → lsA[k]? = some (.val (cv ad v))
theorem aLo_at {ad : Nat → Nat} {lsA : Array Slot} {nL : Nat} {ls : List aV} (h : aLo ad lsA nL ls) {k : Nat} (hu : isU (lg ls k) = false) : lsA[k]? = some (.val (cv ad (lg ls k))) := h.2.2.2 k _ (lg_get hu) hu
/-- the listed values of the locals, as the kit's rows want them -/
def lcv (ad : Nat → Nat) (ls : List aV) : List (Nat × Value) := (List.range ls.length).filterMap (fun k => match ls[k]? with
  | some v => if isU v then none else some (k, cv ad v)
  | none => none)
theorem lcv_mem {ad : Nat → Nat} {ls : List aV} {k : Nat} {v : aV} (h : ls[k]? = some v) (hu : isU v = false) : (k, cv ad v) ∈ lcv ad ls := by
  have hk : k < ls.length := (List.getElem?_eq_some_iff.mp h).1
  refine List.mem_filterMap.mpr ⟨k, List.mem_range.mpr hk, ?_⟩
  simp [h, hu]
theorem aLo_has {ad : Nat → Nat} {lsA : Array Slot} {nL : Nat} {ls : List aV} (h : aLo ad lsA nL ls) : lv_has lsA nL (lcv ad ls) := by
  refine ⟨h.1, h.2.2.1, fun q hq => ?_⟩
  obtain ⟨k, -, hk⟩ := List.mem_filterMap.mp hq
  split at hk
  · next v hv =>
    split at hk
    · cases hk
    · next hu =>
      cases hk
      exact h.2.2.2 k v hv (by simpa using hu)
  · cases hk
theorem cat_cv (ad : Nat → Nat) (v : aV) : ((cv ad v).category == 2) = c2V v := by
  rcases v with x | x | x | x | x | x <;> try rfl
  show ((va_rf (cr ad x)).category == 2) = false
  unfold cr
  split <;> rfl
theorem aLo_set1 {ad : Nat → Nat} {lsA lsB : Array Slot} {nL : Nat} {ls : List aV} (h : aLo ad lsA nL ls) {i : Nat} {v : aV} {w : Value} (hw : w = cv ad v)
    (hb : lv_has lsB nL ((i, w) :: (lcv ad ls).filter (fun q => !(q.1 == i) && !(q.1 + 1 == i && q.2.category == 2)))) : aLo ad lsB nL (lst ls i v) := by
  subst hw
  refine ⟨hb.1, by rw [lst_len]; exact h.2.1, hb.2.1, fun k x hk hu => ?_⟩
  rcases lst_get hk hu with ⟨rfl, rfl⟩ | ⟨h1, h2, h3⟩
  · exact hb.2.2 (k, cv ad x) List.mem_cons_self
  · refine hb.2.2 (k, cv ad x) (List.mem_cons_of_mem _ (List.mem_filter.mpr ⟨lcv_mem h2 hu, ?_⟩))
    have e := cat_cv ad x
    simp only [Bool.and_eq_true, Bool.not_eq_true', beq_eq_false_iff_ne, ne_eq]
    refine ⟨h1, ?_⟩
    rw [e]
    cases hc : c2V x
    · simp
    · simp; intro q; exact h3 ⟨q, hc⟩
theorem aLo_set2 {ad : Nat → Nat} {lsA lsB : Array Slot} {nL : Nat} {ls : List aV} (h : aLo ad lsA nL ls) {i : Nat} {v : aV} {w : Value} (hw : w = cv ad v) (hc2 : c2V v = true)
    (hb : lv_has lsB nL ((i, w) :: (lcv ad ls).filter (fun q => !(q.1 == i) && (!(q.1 == i + 1) && !(q.1 + 1 == i && q.2.category == 2))))) : aLo ad lsB nL (lst (lst ls (i + 1) aU) i v) := by
  subst hw
  refine ⟨hb.1, by rw [lst_len, lst_len]; exact h.2.1, hb.2.1, fun k x hk hu => ?_⟩
  rcases lst_get hk hu with ⟨rfl, rfl⟩ | ⟨h1, h2, h3⟩
  · exact hb.2.2 (k, cv ad x) List.mem_cons_self
  · rcases lst_get h2 hu with ⟨rfl, rfl⟩ | ⟨h4, h5, h6⟩
    · simp [isU] at hu
    · refine hb.2.2 (k, cv ad x) (List.mem_cons_of_mem _ (List.mem_filter.mpr ⟨lcv_mem h5 hu, ?_⟩))
      have e := cat_cv ad x
      simp only [Bool.and_eq_true, Bool.not_eq_true', beq_eq_false_iff_ne, ne_eq]
      refine ⟨h1, h4, ?_⟩
      rw [e]
      cases hc : c2V x
      · simp
      · simp; intro q; exact h3 ⟨q, hc⟩
/-- what stays the same through a method's walk -/
def aFx (p : Program) (l : Launch) (R : Room) (s : State) (m : MethodId) (args : Array Value) (meth : Method) (c : Code) (cc : ByteArray) (nL : Nat) (own : String) (cA : Nat → ClassId) (D : va_G) (A : Nat → Prop) : Prop :=
  p.tables.exec = Jvm.exec ∧ c.code = cc ∧ c.maxLocals = nL ∧ s.vm.findClass own = some m.cls ∧ (∀ w ∈ bgL, w.before args s = true) ∧ va_K D aCl (aTs cA) s ∧ (∀ q, s.heap.size ≤ q → A q) ∧ meth.locks = false ∧ l.stackTraces = false ∧ (1 ≤ R.frames ∧ 22 ≤ R.locals) ∧
  vx_Zq Bundle.tN "UNASSIGNED_STACK" Bundle.steD A s s.heap ∧ vx_Zq Bundle.tN "SUPPRESSED_SENTINEL" Bundle.listD A s s.heap
/-- names that stood for n0 objects at the start stand for them still -/
def aAg (n0 : Nat) (ad0 ad : Nat → Nat) : Prop := ∀ i, i < n0 + 2 → ad i = ad0 i
/-- the heap holds the memory -/
def aHp (cA : Nat → ClassId) (D : va_G) (A : Nat → Prop) (ad : Nat → Nat) (μ : aM) (H : Heap) : Prop := va_P D aCl (aW cA ad μ) H ∧ va_D A (aW cA ad μ)
section AWS
variable (p : Program) (l : Launch) (e : Env) (R : Room) (s : State) (m : MethodId) (args : Array Value) (below : List Frame) (meth : Method) (c : Code) (nL : Nat) (cA : Nat → ClassId) (D : va_G) (A : Nat → Prop) (n0 : Nat) (ad0 : Nat → Nat) (Q : State → Prop)
/-- at pc, with these locals, this stack, this memory, g units of room used: the machine comes to Q -/
def AW (pc : Nat) (ls st : List aV) (μ : aM) (g : Nat) : Prop :=
  ∀ (H : Heap) (locs : List Loc) (ad : Nat → Nat) (lsA : Array Slot), aHp cA D A ad μ H → va_S A s.heap H locs → aLo ad lsA nL ls → okM μ → okS (rN μ) ls → okS (rN μ) st → aAg n0 ad0 ad → n0 ≤ rN μ →
    W p l e R s m args below meth c H locs g (2000 * g) Q (F0 m pc lsA (st.map (cv ad)))
end AWS
/-- what goes on at a pc -/
abbrev aK : Type := Nat → List aV → List aV → aM → Nat → Prop
abbrev aSt : Type := aK → List aV → List aV → aM → Nat → Prop
section ST
variable {p : Program} {l : Launch} {e : Env} {R : Room} {s : State} {m : MethodId} {args : Array Value} {below : List Frame} {meth : Method} {c : Code} {nL : Nat} {cA : Nat → ClassId} {D : va_G} {A : Nat → Prop} {n0 : Nat} {ad0 : Nat → Nat} {Q : State → Prop}
/-- a step is sound at pc -/
def aOk (p : Program) (l : Launch) (e : Env) (R : Room) (s : State) (m : MethodId) (args : Array Value) (below : List Frame) (meth : Method) (c : Code) (nL : Nat) (cA : Nat → ClassId) (D : va_G) (A : Nat → Prop) (n0 : Nat) (ad0 : Nat → Nat) (Q : State → Prop) (pc : Nat) (f : aSt) : Prop :=
  ∀ κ : aK, (∀ pc' ls st μ g, κ pc' ls st μ g → AW p l e R s m args below meth c nL cA D A n0 ad0 Q pc' ls st μ g) → ∀ ls st μ g, f κ ls st μ g → AW p l e R s m args below meth c nL cA D A n0 ad0 Q pc ls st μ g
variable {cc : ByteArray} {own : String}
theorem okS_cons {n : Nat} {v : aV} {st : List aV} (h : okV n v) (hs : okS n st) : okS n (v :: st) := fun w hw => (List.mem_cons.mp hw).elim (fun q => by rw [q]; exact h) (hs w)
theorem okS_hd {n : Nat} {v : aV} {st : List aV} (h : okS n (v :: st)) : okV n v := h v List.mem_cons_self
theorem okS_tl {n : Nat} {v : aV} {st : List aV} (h : okS n (v :: st)) : okS n st := fun w hw => h w (List.mem_cons_of_mem _ hw)
theorem okS_lg {n : Nat} {ls : List aV} (h : okS n ls) (k : Nat) : okV n (lg ls k) := by
  induction ls generalizing k with
  | nil => exact trivial
  | cons a l ih => cases k with
    | zero => exact okS_hd h
    | succ k => exact ih (okS_tl h) k
theorem okS_lst {n : Nat} {ls : List aV} (h : okS n ls) {v : aV} (hv : okV n v) (k : Nat) : okS n (lst ls k v) := by
  induction ls generalizing k with
  | nil => exact fun _ hw => by simp [lst] at hw
  | cons a l ih => cases k with
    | zero => exact okS_cons hv (okS_tl h)
    | succ k =>
      refine okS_cons ?_ (ih (okS_tl h) k)
      split
      · unfold clr; split
        · trivial
        · exact okS_hd h
      · exact okS_hd h
-- a step that only changes the stack by values
def sPush (v : aV) (n : Nat) : aSt := fun κ ls st μ g => κ n ls (v :: st) μ g
def sLd (k n : Nat) (f : aV → Bool) : aSt := fun κ ls st μ g => f (lg ls k) = true ∧ κ n ls (lg ls k :: st) μ g
def isI (v : aV) : Bool := match v with
  | .inl _ => true
  | _ => false
def isR (v : aV) : Bool := match v with
  | .inr (.inl _) => true
  | _ => false
def isF (v : aV) : Bool := match v with
  | .inr (.inr (.inr (.inl _))) => true
  | _ => false
def isD (v : aV) : Bool := match v with
  | .inr (.inr (.inr (.inr (.inl _)))) => true
  | _ => false
theorem isI_e {v : aV} (h : isI v = true) : ∃ x, v = aI x := by rcases v with x | x | x | x | x | x <;> first | exact ⟨_, rfl⟩ | cases h
theorem isR_e {v : aV} (h : isR v = true) : ∃ x, v = aR x := by rcases v with x | x | x | x | x | x <;> first | exact ⟨_, rfl⟩ | cases h
theorem isF_e {v : aV} (h : isF v = true) : ∃ x, v = aF x := by rcases v with x | x | x | x | x | x <;> first | exact ⟨_, rfl⟩ | cases h
theorem isD_e {v : aV} (h : isD v = true) : ∃ x, v = aD x := by rcases v with x | x | x | x | x | x <;> first | exact ⟨_, rfl⟩ | cases h
theorem ok_iconst (F : aFx p l R s m args meth c cc nL own cA D A) {pc : Nat} {n : Int} (hn : in32 n) (d : decode cc pc = .ok (.iconst n, 1)) : aOk p l e R s m args below meth c nL cA D A n0 ad0 Q pc (sPush (aI n) (pc + 1)) :=
  fun κ hκ ls st μ g h H locs ad lsA hH hS hL hM hl hs ha hn0 => lv_iconst F.1 F.2.1 d rfl (hκ _ _ _ _ _ h H locs ad lsA hH hS hL hM hl (okS_cons hn hs) ha hn0)
theorem ok_bipush (F : aFx p l R s m args meth c cc nL own cA D A) {pc : Nat} {n : Int} (hn : in32 n) (hv : (Int8.ofInt n).toInt32 = Int32.ofInt n) (d : decode cc pc = .ok (.bipush n, 2)) : aOk p l e R s m args below meth c nL cA D A n0 ad0 Q pc (sPush (aI n) (pc + 2)) :=
  fun κ hκ ls st μ g h H locs ad lsA hH hS hL hM hl hs ha hn0 => lv_bipush F.1 F.2.1 d hv (hκ _ _ _ _ _ h H locs ad lsA hH hS hL hM hl (okS_cons hn hs) ha hn0)
theorem ok_sipush (F : aFx p l R s m args meth c cc nL own cA D A) {pc : Nat} {n : Int} (hn : in32 n) (hv : (Int16.ofInt n).toInt32 = Int32.ofInt n) (d : decode cc pc = .ok (.sipush n, 3)) : aOk p l e R s m args below meth c nL cA D A n0 ad0 Q pc (sPush (aI n) (pc + 3)) :=
  fun κ hκ ls st μ g h H locs ad lsA hH hS hL hM hl hs ha hn0 => lv_sipush F.1 F.2.1 d hv (hκ _ _ _ _ _ h H locs ad lsA hH hS hL hM hl (okS_cons hn hs) ha hn0)
theorem ok_ldcw (F : aFx p l R s m args meth c cc nL own cA D A) {pc : Nat} {ix : Nat} {n : Int} (hn : in32 n) (hc : Jvm.Cond.constant own ix (Int32.ofInt n) ∈ bgL) (d : decode cc pc = .ok (.ldc_w ix, 3)) : aOk p l e R s m args below meth c nL cA D A n0 ad0 Q pc (sPush (aI n) (pc + 3)) :=
  fun κ hκ ls st μ g h H locs ad lsA hH hS hL hM hl hs ha hn0 => lv_ldcw F.1 F.2.1 F.2.2.2.1 (F.2.2.2.2.1 _ hc) d (hκ _ _ _ _ _ h H locs ad lsA hH hS hL hM hl (okS_cons hn hs) ha hn0)
theorem ok_lconst (F : aFx p l R s m args meth c cc nL own cA D A) {pc : Nat} {n : Fin 2} (d : decode cc pc = .ok (.lconst n, 1)) : aOk p l e R s m args below meth c nL cA D A n0 ad0 Q pc (sPush (aL (n.val : Int)) (pc + 1)) :=
  fun κ hκ ls st μ g h H locs ad lsA hH hS hL hM hl hs ha hn0 => lv_lconst F.1 F.2.1 d (by rcases n with ⟨n, hn⟩; match n, hn with | 0, _ => rfl | 1, _ => rfl) (hκ _ _ _ _ _ h H locs ad lsA hH hS hL hM hl (okS_cons (show in64 _ from by rcases n with ⟨n, hn⟩; unfold in64; show _ ≤ ((n : Nat) : Int) ∧ ((n : Nat) : Int) ≤ _; omega) hs) ha hn0)
theorem ok_null (F : aFx p l R s m args meth c cc nL own cA D A) {pc : Nat} (d : decode cc pc = .ok (.aconst_null, 1)) : aOk p l e R s m args below meth c nL cA D A n0 ad0 Q pc (sPush (aR 0) (pc + 1)) :=
  fun κ hκ ls st μ g h H locs ad lsA hH hS hL hM hl hs ha hn0 => lv_null F.1 F.2.1 d (hκ _ _ _ _ _ h H locs ad lsA hH hS hL hM hl (okS_cons (show 0 < rN μ + 2 by omega) hs) ha hn0)
theorem ok_fconst0 (F : aFx p l R s m args meth c cc nL own cA D A) {pc : Nat} (d : decode cc pc = .ok (.fconst 0, 1)) : aOk p l e R s m args below meth c nL cA D A n0 ad0 Q pc (sPush (aF 0) (pc + 1)) :=
  fun κ hκ ls st μ g h H locs ad lsA hH hS hL hM hl hs ha hn0 => lv_fconst0 F.1 F.2.1 d (hκ _ _ _ _ _ h H locs ad lsA hH hS hL hM hl (okS_cons trivial hs) ha hn0)
theorem ok_dconst0 (F : aFx p l R s m args meth c cc nL own cA D A) {pc : Nat} (d : decode cc pc = .ok (.dconst 0, 1)) : aOk p l e R s m args below meth c nL cA D A n0 ad0 Q pc (sPush (aD 0) (pc + 1)) :=
  fun κ hκ ls st μ g h H locs ad lsA hH hS hL hM hl hs ha hn0 => lv_dconst0 F.1 F.2.1 d (hκ _ _ _ _ _ h H locs ad lsA hH hS hL hM hl (okS_cons trivial hs) ha hn0)
theorem ok_iload_n (F : aFx p l R s m args meth c cc nL own cA D A) {pc : Nat} {k : Fin 4} (i : Nat) (hi : (k : Nat) = i) (d : decode cc pc = .ok (.iload_n k, 1)) : aOk p l e R s m args below meth c nL cA D A n0 ad0 Q pc (sLd i (pc + 1) isI) := by
  intro κ hκ ls st μ g h H locs ad lsA hH hS hL hM hl hs ha hn0
  obtain ⟨x, hx⟩ := isI_e h.1
  have hv := okS_lg hl i
  have hat := aLo_at hL (k := i) (by rw [hx]; rfl)
  have hk := h.2
  rw [hx] at hv hat hk
  exact lv_iload_n F.1 F.2.1 d hi hat (hκ _ _ _ _ _ hk H locs ad lsA hH hS hL hM hl (okS_cons hv hs) ha hn0)
theorem ok_iload (F : aFx p l R s m args meth c cc nL own cA D A) {pc : Nat} {i : Nat} (d : decode cc pc = .ok (.iload i, 2)) : aOk p l e R s m args below meth c nL cA D A n0 ad0 Q pc (sLd i (pc + 2) isI) := by
  intro κ hκ ls st μ g h H locs ad lsA hH hS hL hM hl hs ha hn0
  obtain ⟨x, hx⟩ := isI_e h.1
  have hv := okS_lg hl i
  have hat := aLo_at hL (k := i) (by rw [hx]; rfl)
  have hk := h.2
  rw [hx] at hv hat hk
  exact lv_iload F.1 F.2.1 d hat (hκ _ _ _ _ _ hk H locs ad lsA hH hS hL hM hl (okS_cons hv hs) ha hn0)
theorem ok_fload (F : aFx p l R s m args meth c cc nL own cA D A) {pc : Nat} {i : Nat} (d : decode cc pc = .ok (.fload i, 2)) : aOk p l e R s m args below meth c nL cA D A n0 ad0 Q pc (sLd i (pc + 2) isF) := by
  intro κ hκ ls st μ g h H locs ad lsA hH hS hL hM hl hs ha hn0
  obtain ⟨x, hx⟩ := isF_e h.1
  have hv := okS_lg hl i
  have hat := aLo_at hL (k := i) (by rw [hx]; rfl)
  have hk := h.2
  rw [hx] at hv hat hk
  exact lv_fload F.1 F.2.1 d hat (hκ _ _ _ _ _ hk H locs ad lsA hH hS hL hM hl (okS_cons hv hs) ha hn0)
theorem ok_dload (F : aFx p l R s m args meth c cc nL own cA D A) {pc : Nat} {i : Nat} (d : decode cc pc = .ok (.dload i, 2)) : aOk p l e R s m args below meth c nL cA D A n0 ad0 Q pc (sLd i (pc + 2) isD) := by
  intro κ hκ ls st μ g h H locs ad lsA hH hS hL hM hl hs ha hn0
  obtain ⟨x, hx⟩ := isD_e h.1
  have hv := okS_lg hl i
  have hat := aLo_at hL (k := i) (by rw [hx]; rfl)
  have hk := h.2
  rw [hx] at hv hat hk
  exact lv_dload F.1 F.2.1 d hat (hκ _ _ _ _ _ hk H locs ad lsA hH hS hL hM hl (okS_cons hv hs) ha hn0)
theorem ok_aload_n (F : aFx p l R s m args meth c cc nL own cA D A) {pc : Nat} {k : Fin 4} (i : Nat) (hi : (k : Nat) = i) (d : decode cc pc = .ok (.aload_n k, 1)) : aOk p l e R s m args below meth c nL cA D A n0 ad0 Q pc (sLd i (pc + 1) isR) := by
  intro κ hκ ls st μ g h H locs ad lsA hH hS hL hM hl hs ha hn0
  obtain ⟨x, hx⟩ := isR_e h.1
  have hv := okS_lg hl i
  have hat := aLo_at hL (k := i) (by rw [hx]; rfl)
  have hk := h.2
  rw [hx] at hv hat hk
  have hw := hκ _ _ _ _ _ hk H locs ad lsA hH hS hL hM hl (okS_cons hv hs) ha hn0
  simp only [List.map_cons] at hw
  have e : cv ad (aR x) = va_rf (cr ad x) := rfl
  rw [e] at hat hw
  unfold cr at hat hw
  by_cases hx0 : x = 0
  · rw [if_pos hx0] at hat hw
    exact lv_aload_nN F.1 F.2.1 d hi hat hw
  · rw [if_neg hx0] at hat hw
    exact lv_aload_n F.1 F.2.1 d hi hat hw
theorem ok_aload (F : aFx p l R s m args meth c cc nL own cA D A) {pc : Nat} {i : Nat} (d : decode cc pc = .ok (.aload i, 2)) : aOk p l e R s m args below meth c nL cA D A n0 ad0 Q pc (sLd i (pc + 2) isR) := by
  intro κ hκ ls st μ g h H locs ad lsA hH hS hL hM hl hs ha hn0
  obtain ⟨x, hx⟩ := isR_e h.1
  have hv := okS_lg hl i
  have hat := aLo_at hL (k := i) (by rw [hx]; rfl)
  have hk := h.2
  rw [hx] at hv hat hk
  have hw := hκ _ _ _ _ _ hk H locs ad lsA hH hS hL hM hl (okS_cons hv hs) ha hn0
  simp only [List.map_cons] at hw
  have e : cv ad (aR x) = va_rf (cr ad x) := rfl
  rw [e] at hat hw
  unfold cr at hat hw
  by_cases hx0 : x = 0
  · rw [if_pos hx0] at hat hw
    exact lv_aloadN F.1 F.2.1 d hat hw
  · rw [if_neg hx0] at hat hw
    exact lv_aload F.1 F.2.1 d hat hw
end ST
