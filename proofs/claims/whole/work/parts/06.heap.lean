/-! ===== steps: objects, arrays, making them ===== -/
section ST3
variable {p : Program} {l : Launch} {e : Env} {R : Room} {s : State} {m : MethodId} {args : Array Value} {below : List Frame} {meth : Method} {c : Code} {nL : Nat} {cA : Nat → ClassId} {D : va_G} {A : Nat → Prop} {n0 : Nat} {ad0 : Nat → Nat} {Q : State → Prop}
variable {cc : ByteArray} {own : String}
/-- what a class's rows say -/
def aCx (ci : Nat) (C : String) (T : u_T) (N : Nat) : Prop := (∀ w ∈ u_ws C T N, w ∈ bgL) ∧ (∀ k, k < N → parseFieldDescriptor (T k).2.2.1 = some (aTy ci k)) ∧ (∀ a, a < N → ∀ b, b < N → a ≠ b → (T a).2.1 ≠ (T b).2.1) ∧ aCl[ci]? = some (C, T, N) ∧ aNf ci = N ∧ ci < 6
theorem cxX0 : aCx 0 RX0 TX0 3 := ⟨inX0, tyX0_ok, nmX0, rfl, rfl, by decide⟩
theorem cxX1 : aCx 1 RX1 TX1 2 := ⟨inX1, tyX1_ok, nmX1, rfl, rfl, by decide⟩
theorem cxX2 : aCx 2 RX2 TX2 12 := ⟨inX2, tyX2_ok, nmX2, rfl, rfl, by decide⟩
theorem cxX3 : aCx 3 RX3 TX3 8 := ⟨inX3, tyX3_ok, nmX3, rfl, rfl, by decide⟩
theorem cxX4 : aCx 4 RX4 TX4 9 := ⟨inX4, tyX4_ok, nmX4, rfl, rfl, by decide⟩
theorem cxX5 : aCx 5 RX5 TX5 25 := ⟨inX5, tyX5_ok, nmX5, rfl, rfl, by decide⟩
theorem aE_obj {ad : Nat → Nat} {μ : aM} {a ci : Nat} (h : (shp a).1 = ci) (hc : ci < 6) : aE cA ad μ a = .inr (ci, (List.range (aNf ci)).map (aFv ad μ a ci)) := by
  unfold aE
  rw [h]
  match ci, hc with
  | 0, _ => rfl
  | 1, _ => rfl
  | 2, _ => rfl
  | 3, _ => rfl
  | 4, _ => rfl
  | 5, _ => rfl
theorem aE_char {ad : Nat → Nat} {μ : aM} {a : Nat} (h : (shp a).1 = 6) : aE cA ad μ a = .inl (cA 0, (shp a).2, .inl (fun j => Int32.ofInt (rI μ a j))) := by unfold aE; rw [h]; rfl
theorem aE_int {ad : Nat → Nat} {μ : aM} {a : Nat} (h : (shp a).1 = 7) : aE cA ad μ a = .inl (cA 1, (shp a).2, .inl (fun j => Int32.ofInt (rI μ a j))) := by unfold aE; rw [h]; rfl
theorem aE_long {ad : Nat → Nat} {μ : aM} {a : Nat} (h : (shp a).1 = 8) : aE cA ad μ a = .inl (cA 2, (shp a).2, .inr (.inl (fun j => Int64.ofInt (rL μ a j)))) := by unfold aE; rw [h]; rfl
theorem aE_dbl {ad : Nat → Nat} {μ : aM} {a : Nat} (h : (shp a).1 = 9) : aE cA ad μ a = .inl (cA 3, (shp a).2, .inr (.inr (.inr (.inl (fun j => rD μ a j))))) := by unfold aE; rw [h]; rfl
theorem aE_ord {ad : Nat → Nat} {μ : aM} {a : Nat} (h : (shp a).1 = 10) : aE cA ad μ a = .inl (cA 4, (shp a).2, .inr (.inr (.inr (.inr (fun j => cr ad (rR μ a j)))))) := by unfold aE; rw [h]; rfl
theorem aFv_congr {ad ad' : Nat → Nat} {μ μ' : aM} {a : Nat} (h1 : ∀ j, rI μ' a j = rI μ a j) (h2 : ∀ j, rL μ' a j = rL μ a j) (h3 : ∀ j, cr ad' (rR μ' a j) = cr ad (rR μ a j)) (ci k : Nat) : aFv ad' μ' a ci k = aFv ad μ a ci k := by
  unfold aFv
  split <;> simp only [h1, h2, h3]
theorem aE_congr {ad ad' : Nat → Nat} {μ μ' : aM} {a : Nat} (h1 : ∀ j, rI μ' a j = rI μ a j) (h2 : ∀ j, rL μ' a j = rL μ a j) (h3 : ∀ j, cr ad' (rR μ' a j) = cr ad (rR μ a j)) (h4 : ∀ j, rD μ' a j = rD μ a j) : aE cA ad' μ' a = aE cA ad μ a := by
  have e : aFv ad' μ' a = aFv ad μ a := funext fun ci => funext fun k => aFv_congr h1 h2 h3 ci k
  unfold aE
  simp only [h1, h2, h3, h4, e]
theorem rI_sI (μ : aM) (a k : Nat) (x : Int) (b j : Nat) : rI (sI μ a k x) b j = if b = a ∧ j = k then x else rI μ b j := rfl
theorem rL_sL (μ : aM) (a k : Nat) (x : Int) (b j : Nat) : rL (sL μ a k x) b j = if b = a ∧ j = k then x else rL μ b j := rfl
theorem rR_sR (μ : aM) (a k : Nat) (x : Nat) (b j : Nat) : rR (sR μ a k x) b j = if b = a ∧ j = k then x else rR μ b j := rfl
theorem rD_sD (μ : aM) (a k : Nat) (x : UInt64) (b j : Nat) : rD (sD μ a k x) b j = if b = a ∧ j = k then x else rD μ b j := rfl
theorem rL_sI (μ : aM) (a k : Nat) (x : Int) (b j : Nat) : rL (sI μ a k x) b j = rL μ b j := rfl
theorem rR_sI (μ : aM) (a k : Nat) (x : Int) (b j : Nat) : rR (sI μ a k x) b j = rR μ b j := rfl
theorem rD_sI (μ : aM) (a k : Nat) (x : Int) (b j : Nat) : rD (sI μ a k x) b j = rD μ b j := rfl
theorem rN_sI (μ : aM) (a k : Nat) (x : Int) : rN (sI μ a k x) = rN μ := rfl
theorem rI_sL (μ : aM) (a k : Nat) (x : Int) (b j : Nat) : rI (sL μ a k x) b j = rI μ b j := rfl
theorem rR_sL (μ : aM) (a k : Nat) (x : Int) (b j : Nat) : rR (sL μ a k x) b j = rR μ b j := rfl
theorem rD_sL (μ : aM) (a k : Nat) (x : Int) (b j : Nat) : rD (sL μ a k x) b j = rD μ b j := rfl
theorem rN_sL (μ : aM) (a k : Nat) (x : Int) : rN (sL μ a k x) = rN μ := rfl
theorem rI_sR (μ : aM) (a k : Nat) (x : Nat) (b j : Nat) : rI (sR μ a k x) b j = rI μ b j := rfl
theorem rL_sR (μ : aM) (a k : Nat) (x : Nat) (b j : Nat) : rL (sR μ a k x) b j = rL μ b j := rfl
theorem rD_sR (μ : aM) (a k : Nat) (x : Nat) (b j : Nat) : rD (sR μ a k x) b j = rD μ b j := rfl
theorem rN_sR (μ : aM) (a k : Nat) (x : Nat) : rN (sR μ a k x) = rN μ := rfl
theorem rI_sD (μ : aM) (a k : Nat) (x : UInt64) (b j : Nat) : rI (sD μ a k x) b j = rI μ b j := rfl
theorem rL_sD (μ : aM) (a k : Nat) (x : UInt64) (b j : Nat) : rL (sD μ a k x) b j = rL μ b j := rfl
theorem rR_sD (μ : aM) (a k : Nat) (x : UInt64) (b j : Nat) : rR (sD μ a k x) b j = rR μ b j := rfl
theorem rN_sD (μ : aM) (a k : Nat) (x : UInt64) : rN (sD μ a k x) = rN μ := rfl
theorem rI_sN (μ : aM) (b j : Nat) : rI (sN μ) b j = if b = rN μ + 2 then 0 else rI μ b j := rfl
theorem rL_sN (μ : aM) (b j : Nat) : rL (sN μ) b j = if b = rN μ + 2 then 0 else rL μ b j := rfl
theorem rR_sN (μ : aM) (b j : Nat) : rR (sN μ) b j = if b = rN μ + 2 then 0 else rR μ b j := rfl
theorem rD_sN (μ : aM) (b j : Nat) : rD (sN μ) b j = if b = rN μ + 2 then 0 else rD μ b j := rfl
theorem rN_sN (μ : aM) : rN (sN μ) = rN μ + 1 := rfl
theorem okM_sI {μ : aM} (h : okM μ) {x : Int} (hx : in32 x) (a k : Nat) : okM (sI μ a k x) := ⟨fun b j => by rw [rI_sI]; split; exact hx; exact h.1 b j, h.2.1, h.2.2⟩
theorem okM_sL {μ : aM} (h : okM μ) {x : Int} (hx : in64 x) (a k : Nat) : okM (sL μ a k x) := ⟨h.1, fun b j => by rw [rL_sL]; split; exact hx; exact h.2.1 b j, h.2.2⟩
theorem okM_sR {μ : aM} (h : okM μ) {x : Nat} (hx : x < rN μ + 2) (a k : Nat) : okM (sR μ a k x) := ⟨h.1, h.2.1, fun b j => by rw [rR_sR, rN_sR]; split; exact hx; exact h.2.2 b j⟩
theorem okM_sD {μ : aM} (h : okM μ) (x : UInt64) (a k : Nat) : okM (sD μ a k x) := ⟨h.1, h.2.1, h.2.2⟩
theorem okM_sN {μ : aM} (h : okM μ) : okM (sN μ) := ⟨fun b j => by rw [rI_sN]; split; exact ⟨by omega, by omega⟩; exact h.1 b j, fun b j => by rw [rL_sN]; split; exact ⟨by omega, by omega⟩; exact h.2.1 b j, fun b j => by rw [rR_sN, rN_sN]; split; omega; have := h.2.2 b j; omega⟩
theorem fs_get {ad : Nat → Nat} {μ : aM} {a ci k N : Nat} (hN : aNf ci = N) (hk : k < N) : ((List.range (aNf ci)).map (aFv ad μ a ci))[k]? = some (aFv ad μ a ci k) := by
  rw [List.getElem?_map, List.getElem?_range (by omega)]; rfl
theorem fs_set {ad : Nat → Nat} {μ μ' : aM} {a ci k N : Nat} {v : Value} (hN : aNf ci = N) (hk : k < N) (hv : v = aFv ad μ' a ci k) (ho : ∀ j, j < N → j ≠ k → aFv ad μ' a ci j = aFv ad μ a ci j) : ((List.range (aNf ci)).map (aFv ad μ a ci)).set k v = (List.range (aNf ci)).map (aFv ad μ' a ci) := by
  subst hv
  apply List.ext_getElem?
  intro j
  rw [List.getElem?_set]
  by_cases hj : k = j
  · subst hj
    rw [if_pos rfl, if_pos (by simp; omega), List.getElem?_map, List.getElem?_range (by omega)]; rfl
  · rw [if_neg hj]
    by_cases hr : j < aNf ci
    · rw [List.getElem?_map, List.getElem?_map, List.getElem?_range hr]
      simp only [Option.map_some]
      rw [ho j (by omega) (fun q => hj q.symm)]
    · rw [List.getElem?_eq_none (by simp; omega), List.getElem?_eq_none (by simp; omega)]
-- fields
def sGetI (ci k n : Nat) : aSt := fun κ ls st μ g => match st with
  | .inr (.inl a) :: st => okA μ a ∧ (shp a).1 = ci ∧ κ n ls (aI (rI μ a k) :: st) μ g
  | _ => False
def sGetL (ci k n : Nat) : aSt := fun κ ls st μ g => match st with
  | .inr (.inl a) :: st => okA μ a ∧ (shp a).1 = ci ∧ κ n ls (aL (rL μ a k) :: st) μ g
  | _ => False
def sGetR (ci k n : Nat) : aSt := fun κ ls st μ g => match st with
  | .inr (.inl a) :: st => okA μ a ∧ (shp a).1 = ci ∧ κ n ls (aR (rR μ a k) :: st) μ g
  | _ => False
def nar (ty : FieldType) (x : Int) : Prop := match ty with
  | .boolean => x = 0 ∨ x = 1
  | .char => 0 ≤ x ∧ x ≤ 65535
  | _ => True
def sPutI (ci k n : Nat) : aSt := fun κ ls st μ g => match st with
  | .inl x :: .inr (.inl a) :: st => okA μ a ∧ (shp a).1 = ci ∧ nar (aTy ci k) x ∧ κ n ls st (sI μ a k x) g
  | _ => False
def sPutL (ci k n : Nat) : aSt := fun κ ls st μ g => match st with
  | .inr (.inr (.inl x)) :: .inr (.inl a) :: st => okA μ a ∧ (shp a).1 = ci ∧ κ n ls st (sL μ a k x) g
  | _ => False
def sPutR (ci k n : Nat) : aSt := fun κ ls st μ g => match st with
  | .inr (.inl x) :: .inr (.inl a) :: st => okA μ a ∧ (shp a).1 = ci ∧ κ n ls st (sR μ a k x) g
  | _ => False
theorem cr_ok {μ : aM} {ad : Nat → Nat} {a : Nat} (h : okA μ a) : cr ad a = some (ad a) := by unfold cr; rw [if_neg (by have := h.1; omega)]
theorem ok_get (F : aFx p l R s m args meth c cc nL own cA D A) {pc ix ci k N : Nat} {C : String} {T : u_T} (X : aCx ci C T N) (hk : k < N) (hC : (T k).1 = C) (hlink : Cond.fieldLink own ix C (T k).2.1 (T k).2.2.1 ∈ bgL) (d : decode cc pc = .ok (.getfield ix, 3)) {a : Nat} {st ls : List aV} {μ : aM} {g : Nat} {w : aV}
    (hw : ∀ ad, aFv ad μ a ci k = cv ad w) (hok : okM μ → okV (rN μ) w) (ho : okA μ a) (hs : (shp a).1 = ci) (h : AW p l e R s m args below meth c nL cA D A n0 ad0 Q (pc + 3) ls (w :: st) μ g) : AW p l e R s m args below meth c nL cA D A n0 ad0 Q pc ls (aR a :: st) μ g := by
  intro H locs ad lsA hH hS hL hM hl hs' ha hn0
  have hw' := h H locs ad lsA hH hS hL hM hl (okS_cons (hok hM) (okS_tl hs')) ha hn0
  show W _ _ _ _ _ _ _ _ _ _ _ _ _ _ _ (F0 m pc lsA (va_rf (cr ad a) :: st.map (cv ad)))
  rw [cr_ok ho]
  refine va_get F.1 F.2.1 F.2.2.2.2.1 X.1 F.2.2.2.1 F.2.2.2.2.2.1 hH.1 (a - 2) (by rw [aW_get ho, aE_obj hs X.2.2.2.2.2]) X.2.2.2.1 k hk (F.2.2.2.2.1 _ hlink) (fun x h => by rw [← hC]; exact h) (fs_get X.2.2.2.2.1 hk) d ?_
  rw [hw]
  exact hw'
theorem ok_getI (F : aFx p l R s m args meth c cc nL own cA D A) {pc ix ci k N : Nat} {C : String} {T : u_T} (X : aCx ci C T N) (hk : k < N) (hC : (T k).1 = C) (hlink : Cond.fieldLink own ix C (T k).2.1 (T k).2.2.1 ∈ bgL) (hty : ∀ ad μ a, aFv ad μ a ci k = .int (Int32.ofInt (rI μ a k))) (d : decode cc pc = .ok (.getfield ix, 3)) : aOk p l e R s m args below meth c nL cA D A n0 ad0 Q pc (sGetI ci k (pc + 3)) := by
  intro κ hκ ls st μ g h
  match st, h with
  | .inr (.inl a) :: st, h => exact ok_get F (w := aI (rI μ a k)) X hk hC hlink d (fun ad => hty ad μ a) (fun hM => hM.1 a k) h.1 h.2.1 (hκ _ _ _ _ _ h.2.2)
theorem ok_getL (F : aFx p l R s m args meth c cc nL own cA D A) {pc ix ci k N : Nat} {C : String} {T : u_T} (X : aCx ci C T N) (hk : k < N) (hC : (T k).1 = C) (hlink : Cond.fieldLink own ix C (T k).2.1 (T k).2.2.1 ∈ bgL) (hty : ∀ ad μ a, aFv ad μ a ci k = .long (Int64.ofInt (rL μ a k))) (d : decode cc pc = .ok (.getfield ix, 3)) : aOk p l e R s m args below meth c nL cA D A n0 ad0 Q pc (sGetL ci k (pc + 3)) := by
  intro κ hκ ls st μ g h
  match st, h with
  | .inr (.inl a) :: st, h => exact ok_get F (w := aL (rL μ a k)) X hk hC hlink d (fun ad => hty ad μ a) (fun hM => hM.2.1 a k) h.1 h.2.1 (hκ _ _ _ _ _ h.2.2)
theorem ok_getR (F : aFx p l R s m args meth c cc nL own cA D A) {pc ix ci k N : Nat} {C : String} {T : u_T} (X : aCx ci C T N) (hk : k < N) (hC : (T k).1 = C) (hlink : Cond.fieldLink own ix C (T k).2.1 (T k).2.2.1 ∈ bgL) (hty : ∀ ad μ a, aFv ad μ a ci k = va_rf (cr ad (rR μ a k))) (d : decode cc pc = .ok (.getfield ix, 3)) : aOk p l e R s m args below meth c nL cA D A n0 ad0 Q pc (sGetR ci k (pc + 3)) := by
  intro κ hκ ls st μ g h
  match st, h with
  | .inr (.inl a) :: st, h => exact ok_get F (w := aR (rR μ a k)) X hk hC hlink d (fun ad => hty ad μ a) (fun hM => hM.2.2 a k) h.1 h.2.1 (hκ _ _ _ _ _ h.2.2)
/-- a store into a field, whatever its type; μ' is the memory behind it -/
theorem ok_put (F : aFx p l R s m args meth c cc nL own cA D A) {pc ix ci k N : Nat} {C : String} {T : u_T} (X : aCx ci C T N) (hk : k < N) (hC : (T k).1 = C) (hlink : Cond.fieldLink own ix C (T k).2.1 (T k).2.2.1 ∈ bgL) (hfin : (T k).2.2.2 = false ∨ (meth.name = "<init>" ∧ (T k).1 = own)) (d : decode cc pc = .ok (.putfield ix, 3)) {a : Nat} {st ls : List aV} {μ μ' : aM} {g : Nat} {w : aV}
    (hw : ∀ ad, aFv ad μ' a ci k = cv ad w) (ho1 : ∀ ad j, j ≠ k → aFv ad μ' a ci j = aFv ad μ a ci j) (ho2 : ∀ ad b, b ≠ a → aE cA ad μ' b = aE cA ad μ b) (hN : rN μ' = rN μ) (hM' : okV (rN μ) w → okM μ → okM μ') (hn : ∀ ad, okV (rN μ) w → narrow (aTy ci k) (cv ad w) = cv ad w ∧ fits (aTy ci k) (cv ad w) = true) (ho : okA μ a) (hs : (shp a).1 = ci)
    (h : AW p l e R s m args below meth c nL cA D A n0 ad0 Q (pc + 3) ls st μ' g) : AW p l e R s m args below meth c nL cA D A n0 ad0 Q pc ls (w :: aR a :: st) μ g := by
  intro H locs ad lsA hH hS hL hM hl hs' ha hn0
  have hwv := okS_hd hs'
  have hset : (aW cA ad μ).set (a - 2) (ad a, .inr (ci, ((List.range (aNf ci)).map (aFv ad μ a ci)).set k (cv ad w))) = aW cA ad μ' := by
    refine aW_set ho hN (ho2 ad) ?_
    rw [aE_obj hs X.2.2.2.2.2, fs_set X.2.2.2.2.1 hk (hw ad).symm (fun j _ hj => ho1 ad j hj)]
  have kk : ∀ (H1 : Heap) (locs1 : List Loc), va_P D aCl ((aW cA ad μ).set (a - 2) (ad a, .inr (ci, ((List.range (aNf ci)).map (aFv ad μ a ci)).set k (cv ad w)))) H1 → va_D A ((aW cA ad μ).set (a - 2) (ad a, .inr (ci, ((List.range (aNf ci)).map (aFv ad μ a ci)).set k (cv ad w)))) → va_S A s.heap H1 locs1 → W p l e R s m args below meth c H1 locs1 g (2000 * g) Q (F0 m (pc + 3) lsA (st.map (cv ad))) := by
    intro H1 locs1 h1 h2 h3
    rw [hset] at h1 h2
    exact h H1 locs1 ad lsA ⟨h1, h2⟩ h3 hL (hM' hwv hM) (by rw [hN]; exact hl) (by rw [hN]; exact okS_tl (okS_tl hs')) ha (by rw [hN]; exact hn0)
  show W _ _ _ _ _ _ _ _ _ _ _ _ _ _ _ (F0 m pc lsA (cv ad w :: va_rf (cr ad a) :: st.map (cv ad)))
  rw [cr_ok ho]
  have hl9 : k < ((List.range (aNf ci)).map (aFv ad μ a ci)).length := by rw [List.length_map, List.length_range, X.2.2.2.2.1]; exact hk
  rcases hfin with hfin | ⟨hf1, hf2⟩
  · exact va_put F.1 F.2.1 F.2.2.2.2.1 X.1 (aTy ci) X.2.1 X.2.2.1 F.2.2.2.1 F.2.2.2.2.2.1 hH.1 hH.2 hS (a - 2) (by rw [aW_get ho, aE_obj hs X.2.2.2.2.2]) X.2.2.2.1 k hk (F.2.2.2.2.1 _ hlink) (fun x h => by rw [← hC]; exact h) hfin (X.2.1 k hk) (hn ad hwv).1 (hn ad hwv).2 hl9 d kk
  · cases hq : (T k).2.2.2 with
    | false => exact va_put F.1 F.2.1 F.2.2.2.2.1 X.1 (aTy ci) X.2.1 X.2.2.1 F.2.2.2.1 F.2.2.2.2.2.1 hH.1 hH.2 hS (a - 2) (by rw [aW_get ho, aE_obj hs X.2.2.2.2.2]) X.2.2.2.1 k hk (F.2.2.2.2.1 _ hlink) (fun x h => by rw [← hC]; exact h) hq (X.2.1 k hk) (hn ad hwv).1 (hn ad hwv).2 hl9 d kk
    | true => exact va_putF F.1 F.2.1 F.2.2.2.2.1 X.1 (aTy ci) X.2.1 X.2.2.1 F.2.2.2.1 F.2.2.2.2.2.1 hH.1 hH.2 hS (a - 2) (by rw [aW_get ho, aE_obj hs X.2.2.2.2.2]) X.2.2.2.1 k hk (F.2.2.2.2.1 _ hlink) (fun x h => by rw [← hC]; exact h) hq hf1 hf2 (X.2.1 k hk) (hn ad hwv).1 (hn ad hwv).2 hl9 d kk
theorem nar_ok {ty : FieldType} {x : Int} (hx : in32 x) (h : nar ty x) (ht : ty = .int ∨ ty = .boolean ∨ ty = .char) : narrow ty (.int (Int32.ofInt x)) = .int (Int32.ofInt x) ∧ fits ty (.int (Int32.ofInt x)) = true := by
  rcases ht with rfl | rfl | rfl
  · exact ⟨rfl, rfl⟩
  · rcases h with rfl | rfl <;> exact ⟨by decide, by decide⟩
  · obtain ⟨h1, h2⟩ := h
    constructor
    · show Value.int _ = _
      congr 1
      obtain ⟨n, rfl⟩ := Int.eq_ofNat_of_zero_le h1
      apply Int32.toInt_inj.mp
      have hn : n ≤ 65535 := by omega
      rw [to_of hx]
      have e0 : Int32.ofInt (n : Int) = (UInt32.ofNat n).toInt32 := by
        rw [UInt32.toInt32_ofNat']
        apply Int32.toInt_inj.mp
        rw [to_of hx]
        exact (Int32.toInt_ofNat_of_lt (by omega)).symm
      have e1 : (Int32.ofInt (n : Int)).toUInt32 = UInt32.ofNat n := by
        rw [e0]
        rfl
      rw [e1]
      have e2 : (UInt32.ofNat n).toUInt16.toUInt32 = UInt32.ofNat n := by
        apply UInt32.toNat_inj.mp
        simp [UInt32.toNat_ofNat']
        omega
      rw [e2, ← e0]
      exact to_of hx
    · show (decide ((0 : Int32) ≤ Int32.ofInt x) && decide (Int32.ofInt x ≤ (65535 : Int32))) = true
      rw [show (0 : Int32) = Int32.ofInt 0 from rfl, show (65535 : Int32) = Int32.ofInt 65535 from rfl, decide_eq_true ((of_le ⟨by omega, by omega⟩ hx).mpr h1), decide_eq_true ((of_le hx ⟨by omega, by omega⟩).mpr h2)]
      rfl
end ST3
