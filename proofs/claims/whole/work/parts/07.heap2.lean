/-! ===== steps: stores into fields; arrays; making objects; Math ===== -/
section ST4
variable {p : Program} {l : Launch} {e : Env} {R : Room} {s : State} {m : MethodId} {args : Array Value} {below : List Frame} {meth : Method} {c : Code} {nL : Nat} {cA : Nat → ClassId} {D : va_G} {A : Nat → Prop} {n0 : Nat} {ad0 : Nat → Nat} {Q : State → Prop}
variable {cc : ByteArray} {own : String}
theorem ok_putI (F : aFx p l R s m args meth c cc nL own cA D A) {pc ix ci k N : Nat} {C : String} {T : u_T} (X : aCx ci C T N) (hk : k < N) (hC : (T k).1 = C) (hlink : Cond.fieldLink own ix C (T k).2.1 (T k).2.2.1 ∈ bgL) (hfin : (T k).2.2.2 = false ∨ (meth.name = "<init>" ∧ (T k).1 = own)) (hty : ∀ ad μ a, aFv ad μ a ci k = .int (Int32.ofInt (rI μ a k))) (ht : aTy ci k = .int ∨ aTy ci k = .boolean ∨ aTy ci k = .char) (d : decode cc pc = .ok (.putfield ix, 3)) : aOk p l e R s m args below meth c nL cA D A n0 ad0 Q pc (sPutI ci k (pc + 3)) := by
  intro κ hκ ls st μ g h
  match st, h with
  | .inl x :: .inr (.inl a) :: st, h =>
    refine ok_put F (w := aI x) (μ' := sI μ a k x) X hk hC hlink hfin d (fun ad => by rw [hty, rI_sI, if_pos ⟨rfl, rfl⟩]; rfl) (fun ad j hj => ?_) (fun ad b hb => aE_congr (fun j => by rw [rI_sI, if_neg (fun q => hb q.1)]) (fun _ => rfl) (fun _ => rfl) (fun _ => rfl)) rfl (fun hx hM => okM_sI hM hx a k) (fun ad hx => nar_ok hx h.2.2.1 ht) h.1 h.2.1 (hκ _ _ _ _ _ h.2.2.2)
    unfold aFv
    split <;> simp only [rI_sI, rL_sI, rR_sI]
    rw [if_neg (fun q => hj q.2)]
theorem ok_putL (F : aFx p l R s m args meth c cc nL own cA D A) {pc ix ci k N : Nat} {C : String} {T : u_T} (X : aCx ci C T N) (hk : k < N) (hC : (T k).1 = C) (hlink : Cond.fieldLink own ix C (T k).2.1 (T k).2.2.1 ∈ bgL) (hfin : (T k).2.2.2 = false ∨ (meth.name = "<init>" ∧ (T k).1 = own)) (hty : ∀ ad μ a, aFv ad μ a ci k = .long (Int64.ofInt (rL μ a k))) (ht : aTy ci k = .long) (d : decode cc pc = .ok (.putfield ix, 3)) : aOk p l e R s m args below meth c nL cA D A n0 ad0 Q pc (sPutL ci k (pc + 3)) := by
  intro κ hκ ls st μ g h
  match st, h with
  | .inr (.inr (.inl x)) :: .inr (.inl a) :: st, h =>
    refine ok_put F (w := aL x) (μ' := sL μ a k x) X hk hC hlink hfin d (fun ad => by rw [hty, rL_sL, if_pos ⟨rfl, rfl⟩]; rfl) (fun ad j hj => ?_) (fun ad b hb => aE_congr (fun _ => rfl) (fun j => by rw [rL_sL, if_neg (fun q => hb q.1)]) (fun _ => rfl) (fun _ => rfl)) rfl (fun hx hM => okM_sL hM hx a k) (fun ad hx => by rw [ht]; exact ⟨rfl, rfl⟩) h.1 h.2.1 (hκ _ _ _ _ _ h.2.2)
    unfold aFv
    split <;> simp only [rI_sL, rL_sL, rR_sL]
    rw [if_neg (fun q => hj q.2)]
theorem ref_fits {ty : FieldType} (ht : (∃ n, ty = .object n) ∨ ∃ t, ty = .array t) (r : Option Nat) : narrow ty (va_rf r) = va_rf r ∧ fits ty (va_rf r) = true := by
  rcases ht with ⟨n, rfl⟩ | ⟨t, rfl⟩ <;> cases r <;> exact ⟨rfl, rfl⟩
theorem ok_putR (F : aFx p l R s m args meth c cc nL own cA D A) {pc ix ci k N : Nat} {C : String} {T : u_T} (X : aCx ci C T N) (hk : k < N) (hC : (T k).1 = C) (hlink : Cond.fieldLink own ix C (T k).2.1 (T k).2.2.1 ∈ bgL) (hfin : (T k).2.2.2 = false ∨ (meth.name = "<init>" ∧ (T k).1 = own)) (hty : ∀ ad μ a, aFv ad μ a ci k = va_rf (cr ad (rR μ a k))) (ht : (∃ n, aTy ci k = .object n) ∨ ∃ t, aTy ci k = .array t) (d : decode cc pc = .ok (.putfield ix, 3)) : aOk p l e R s m args below meth c nL cA D A n0 ad0 Q pc (sPutR ci k (pc + 3)) := by
  intro κ hκ ls st μ g h
  match st, h with
  | .inr (.inl x) :: .inr (.inl a) :: st, h =>
    refine ok_put F (w := aR x) (μ' := sR μ a k x) X hk hC hlink hfin d (fun ad => by rw [hty, rR_sR, if_pos ⟨rfl, rfl⟩]; rfl) (fun ad j hj => ?_) (fun ad b hb => aE_congr (fun _ => rfl) (fun _ => rfl) (fun j => by rw [rR_sR, if_neg (fun q => hb q.1)]) (fun _ => rfl)) rfl (fun hx hM => okM_sR hM hx a k) (fun ad hx => ref_fits ht _) h.1 h.2.1 (hκ _ _ _ _ _ h.2.2)
    unfold aFv
    split <;> simp only [rI_sR, rL_sR, rR_sR]
    · rw [if_neg (fun q => hj q.2)]
    · rw [if_neg (fun q => hj q.2)]
-- arrays
def sAldI (kd n : Nat) : aSt := fun κ ls st μ g => match st with
  | .inl i :: .inr (.inl a) :: st => okA μ a ∧ (shp a).1 = kd ∧ 0 ≤ i ∧ i < (shp a).2 ∧ κ n ls (aI (rI μ a i.toNat) :: st) μ g
  | _ => False
def sAldL (n : Nat) : aSt := fun κ ls st μ g => match st with
  | .inl i :: .inr (.inl a) :: st => okA μ a ∧ (shp a).1 = 8 ∧ 0 ≤ i ∧ i < (shp a).2 ∧ κ n ls (aL (rL μ a i.toNat) :: st) μ g
  | _ => False
def sAldD (n : Nat) : aSt := fun κ ls st μ g => match st with
  | .inl i :: .inr (.inl a) :: st => okA μ a ∧ (shp a).1 = 9 ∧ 0 ≤ i ∧ i < (shp a).2 ∧ κ n ls (aD (rD μ a i.toNat) :: st) μ g
  | _ => False
def sAldR (n : Nat) : aSt := fun κ ls st μ g => match st with
  | .inl i :: .inr (.inl a) :: st => okA μ a ∧ (shp a).1 = 10 ∧ 0 ≤ i ∧ i < (shp a).2 ∧ κ n ls (aR (rR μ a i.toNat) :: st) μ g
  | _ => False
def sAstI (n : Nat) : aSt := fun κ ls st μ g => match st with
  | .inl x :: .inl i :: .inr (.inl a) :: st => okA μ a ∧ (shp a).1 = 7 ∧ 0 ≤ i ∧ i < (shp a).2 ∧ κ n ls st (sI μ a i.toNat x) g
  | _ => False
def sAstC (n : Nat) : aSt := fun κ ls st μ g => match st with
  | .inl x :: .inl i :: .inr (.inl a) :: st => okA μ a ∧ (shp a).1 = 6 ∧ 0 ≤ i ∧ i < (shp a).2 ∧ (0 ≤ x ∧ x ≤ 65535) ∧ κ n ls st (sI μ a i.toNat x) g
  | _ => False
def sAstL (n : Nat) : aSt := fun κ ls st μ g => match st with
  | .inr (.inr (.inl x)) :: .inl i :: .inr (.inl a) :: st => okA μ a ∧ (shp a).1 = 8 ∧ 0 ≤ i ∧ i < (shp a).2 ∧ κ n ls st (sL μ a i.toNat x) g
  | _ => False
def sAstD (n : Nat) : aSt := fun κ ls st μ g => match st with
  | .inr (.inr (.inr (.inr (.inl x)))) :: .inl i :: .inr (.inl a) :: st => okA μ a ∧ (shp a).1 = 9 ∧ 0 ≤ i ∧ i < (shp a).2 ∧ κ n ls st (sD μ a i.toNat x) g
  | _ => False
def sAstR (n : Nat) : aSt := fun κ ls st μ g => match st with
  | .inr (.inl x) :: .inl i :: .inr (.inl a) :: st => okA μ a ∧ (shp a).1 = 10 ∧ 0 ≤ i ∧ i < (shp a).2 ∧ okA μ x ∧ (shp x).1 = 2 ∧ κ n ls st (sR μ a i.toNat x) g
  | _ => False
def sAlen (n : Nat) : aSt := fun κ ls st μ g => match st with
  | .inr (.inl a) :: st => okA μ a ∧ 6 ≤ (shp a).1 ∧ (shp a).1 ≤ 10 ∧ κ n ls (aI ((shp a).2 : Int) :: st) μ g
  | _ => False
theorem tsK (F : aFx p l R s m args meth c cc nL own cA D A) : va_K D aCl (aTs cA) s := F.2.2.2.2.2.1
theorem ok_iald (F : aFx p l R s m args meth c cc nL own cA D A) {pc : Nat} (d : decode cc pc = .ok (.iaload, 1)) : aOk p l e R s m args below meth c nL cA D A n0 ad0 Q pc (sAldI 7 (pc + 1)) := by
  intro κ hκ ls st μ g h H locs ad lsA hH hS hL hM hl hs ha hn0
  match st, h, hs with
  | .inl i :: .inr (.inl a) :: st, ⟨h1, h2, h3, h4, h5⟩, hs =>
    have hi : in32 i := okS_hd hs
    have hw := hκ _ _ _ _ _ h5 H locs ad lsA hH hS hL hM hl (okS_cons (v := aI _) (hM.1 _ _) (okS_tl (okS_tl hs))) ha hn0
    show W _ _ _ _ _ _ _ _ _ _ _ _ _ _ _ (F0 m pc lsA (.int (Int32.ofInt i) :: va_rf (cr ad a) :: st.map (cv ad)))
    rw [cr_ok h1]
    refine va_iald F.1 F.2.1 (tsK F) hH.1 (a - 2) 1 ((aW_get h1).trans (by rw [aE_int h2])) rfl (of_in hi h3 h4) d ?_
    rw [of_clamp h3 hi]
    exact hw
theorem ok_cald (F : aFx p l R s m args meth c cc nL own cA D A) {pc : Nat} (d : decode cc pc = .ok (.caload, 1)) : aOk p l e R s m args below meth c nL cA D A n0 ad0 Q pc (sAldI 6 (pc + 1)) := by
  intro κ hκ ls st μ g h H locs ad lsA hH hS hL hM hl hs ha hn0
  match st, h, hs with
  | .inl i :: .inr (.inl a) :: st, ⟨h1, h2, h3, h4, h5⟩, hs =>
    have hi : in32 i := okS_hd hs
    have hw := hκ _ _ _ _ _ h5 H locs ad lsA hH hS hL hM hl (okS_cons (v := aI _) (hM.1 _ _) (okS_tl (okS_tl hs))) ha hn0
    show W _ _ _ _ _ _ _ _ _ _ _ _ _ _ _ (F0 m pc lsA (.int (Int32.ofInt i) :: va_rf (cr ad a) :: st.map (cv ad)))
    rw [cr_ok h1]
    refine va_cald F.1 F.2.1 (tsK F) hH.1 (a - 2) 0 ((aW_get h1).trans (by rw [aE_char h2])) rfl (of_in hi h3 h4) d ?_
    rw [of_clamp h3 hi]
    exact hw
theorem ok_lald (F : aFx p l R s m args meth c cc nL own cA D A) {pc : Nat} (d : decode cc pc = .ok (.laload, 1)) : aOk p l e R s m args below meth c nL cA D A n0 ad0 Q pc (sAldL (pc + 1)) := by
  intro κ hκ ls st μ g h H locs ad lsA hH hS hL hM hl hs ha hn0
  match st, h, hs with
  | .inl i :: .inr (.inl a) :: st, ⟨h1, h2, h3, h4, h5⟩, hs =>
    have hi : in32 i := okS_hd hs
    have hw := hκ _ _ _ _ _ h5 H locs ad lsA hH hS hL hM hl (okS_cons (v := aL _) (hM.2.1 _ _) (okS_tl (okS_tl hs))) ha hn0
    show W _ _ _ _ _ _ _ _ _ _ _ _ _ _ _ (F0 m pc lsA (.int (Int32.ofInt i) :: va_rf (cr ad a) :: st.map (cv ad)))
    rw [cr_ok h1]
    refine va_lald F.1 F.2.1 (tsK F) hH.1 (a - 2) 2 ((aW_get h1).trans (by rw [aE_long h2])) rfl (of_in hi h3 h4) d ?_
    rw [of_clamp h3 hi]
    exact hw
theorem ok_dald (F : aFx p l R s m args meth c cc nL own cA D A) {pc : Nat} (d : decode cc pc = .ok (.daload, 1)) : aOk p l e R s m args below meth c nL cA D A n0 ad0 Q pc (sAldD (pc + 1)) := by
  intro κ hκ ls st μ g h H locs ad lsA hH hS hL hM hl hs ha hn0
  match st, h, hs with
  | .inl i :: .inr (.inl a) :: st, ⟨h1, h2, h3, h4, h5⟩, hs =>
    have hi : in32 i := okS_hd hs
    have hw := hκ _ _ _ _ _ h5 H locs ad lsA hH hS hL hM hl (okS_cons (v := aD _) trivial (okS_tl (okS_tl hs))) ha hn0
    show W _ _ _ _ _ _ _ _ _ _ _ _ _ _ _ (F0 m pc lsA (.int (Int32.ofInt i) :: va_rf (cr ad a) :: st.map (cv ad)))
    rw [cr_ok h1]
    refine va_dald F.1 F.2.1 (tsK F) hH.1 (a - 2) 3 ((aW_get h1).trans (by rw [aE_dbl h2])) rfl (of_in hi h3 h4) d ?_
    rw [of_clamp h3 hi]
    exact hw
theorem ok_aald (F : aFx p l R s m args meth c cc nL own cA D A) {pc : Nat} (d : decode cc pc = .ok (.aaload, 1)) : aOk p l e R s m args below meth c nL cA D A n0 ad0 Q pc (sAldR (pc + 1)) := by
  intro κ hκ ls st μ g h H locs ad lsA hH hS hL hM hl hs ha hn0
  match st, h, hs with
  | .inl i :: .inr (.inl a) :: st, ⟨h1, h2, h3, h4, h5⟩, hs =>
    have hi : in32 i := okS_hd hs
    have hw := hκ _ _ _ _ _ h5 H locs ad lsA hH hS hL hM hl (okS_cons (v := aR _) (hM.2.2 _ _) (okS_tl (okS_tl hs))) ha hn0
    show W _ _ _ _ _ _ _ _ _ _ _ _ _ _ _ (F0 m pc lsA (.int (Int32.ofInt i) :: va_rf (cr ad a) :: st.map (cv ad)))
    rw [cr_ok h1]
    refine va_aldq F.1 F.2.1 (tsK F) hH.1 (a - 2) 4 ((aW_get h1).trans (by rw [aE_ord h2])) rfl (of_in hi h3 h4) d ?_
    rw [of_clamp h3 hi]
    exact hw
theorem ok_alen (F : aFx p l R s m args meth c cc nL own cA D A) {pc : Nat} (d : decode cc pc = .ok (.arraylength, 1)) : aOk p l e R s m args below meth c nL cA D A n0 ad0 Q pc (sAlen (pc + 1)) := by
  intro κ hκ ls st μ g h H locs ad lsA hH hS hL hM hl hs ha hn0
  match st, h, hs with
  | .inr (.inl a) :: st, ⟨h1, h2, h3, h5⟩, hs =>
    have hle : ((shp a).2 : Int) ≤ 2000 := by
      unfold shp
      split
      · simp
      · split <;> simp
    have hw := hκ _ _ _ _ _ h5 H locs ad lsA hH hS hL hM hl (okS_cons (v := aI _) (show in32 _ from ⟨by omega, by omega⟩) (okS_tl hs)) ha hn0
    show W _ _ _ _ _ _ _ _ _ _ _ _ _ _ _ (F0 m pc lsA (va_rf (cr ad a) :: st.map (cv ad)))
    rw [cr_ok h1]
    have hv : Int32.ofNat (shp a).2 = Int32.ofInt ((shp a).2 : Int) := by
      apply Int32.toInt_inj.mp
      rw [to_of ⟨by omega, by omega⟩]
      exact Int32.toInt_ofNat_of_lt (by omega)
    rcases (show (shp a).1 = 6 ∨ (shp a).1 = 7 ∨ (shp a).1 = 8 ∨ (shp a).1 = 9 ∨ (shp a).1 = 10 by omega) with q | q | q | q | q
    · exact va_alen F.1 F.2.1 (tsK F) hH.1 (a - 2) 0 ((aW_get h1).trans (by rw [aE_char q])) rfl hv d hw
    · exact va_alen F.1 F.2.1 (tsK F) hH.1 (a - 2) 1 ((aW_get h1).trans (by rw [aE_int q])) rfl hv d hw
    · exact va_alen F.1 F.2.1 (tsK F) hH.1 (a - 2) 2 ((aW_get h1).trans (by rw [aE_long q])) rfl hv d hw
    · exact va_alen F.1 F.2.1 (tsK F) hH.1 (a - 2) 3 ((aW_get h1).trans (by rw [aE_dbl q])) rfl hv d hw
    · exact va_alen F.1 F.2.1 (tsK F) hH.1 (a - 2) 4 ((aW_get h1).trans (by rw [aE_ord q])) rfl hv d hw
theorem ok_iast (F : aFx p l R s m args meth c cc nL own cA D A) {pc : Nat} (d : decode cc pc = .ok (.iastore, 1)) : aOk p l e R s m args below meth c nL cA D A n0 ad0 Q pc (sAstI (pc + 1)) := by
  intro κ hκ ls st μ g h H locs ad lsA hH hS hL hM hl hs ha hn0
  match st, h, hs with
  | .inl x :: .inl i :: .inr (.inl a) :: st, ⟨h1, h2, h3, h4, h5⟩, hs =>
    have hx : in32 x := okS_hd hs
    have hi : in32 i := okS_hd (okS_tl hs)
    show W _ _ _ _ _ _ _ _ _ _ _ _ _ _ _ (F0 m pc lsA (.int (Int32.ofInt x) :: .int (Int32.ofInt i) :: va_rf (cr ad a) :: st.map (cv ad)))
    rw [cr_ok h1]
    refine va_iast F.1 F.2.1 (tsK F) hH.1 hH.2 hS (a - 2) 1 ((aW_get h1).trans (by rw [aE_int h2])) rfl (of_in hi h3 h4) d (fun H1 locs1 k1 k2 k3 => ?_)
    rw [aW_set (μ' := sI μ a i.toNat x) h1 rfl (fun b hb => aE_congr (fun j => by rw [rI_sI, if_neg (fun q => hb q.1)]) (fun _ => rfl) (fun _ => rfl) (fun _ => rfl)) (by
      rw [aE_int h2, of_clamp h3 hi]
      congr 4
      funext j
      simp only [upd, rI_sI]
      by_cases hj : j = i.toNat <;> simp [hj])] at k1 k2
    exact hκ _ _ _ _ _ h5 H1 locs1 ad lsA ⟨k1, k2⟩ k3 hL (okM_sI hM hx _ _) hl (okS_tl (okS_tl (okS_tl hs))) ha hn0
theorem ok_cast (F : aFx p l R s m args meth c cc nL own cA D A) {pc : Nat} (d : decode cc pc = .ok (.castore, 1)) : aOk p l e R s m args below meth c nL cA D A n0 ad0 Q pc (sAstC (pc + 1)) := by
  intro κ hκ ls st μ g h H locs ad lsA hH hS hL hM hl hs ha hn0
  match st, h, hs with
  | .inl x :: .inl i :: .inr (.inl a) :: st, ⟨h1, h2, h3, h4, hc, h5⟩, hs =>
    have hx : in32 x := okS_hd hs
    have hi : in32 i := okS_hd (okS_tl hs)
    have hn : vp_nar .char (Int32.ofInt x) = Int32.ofInt x := by
      have h9 := (nar_ok (ty := .char) hx hc (Or.inr (Or.inr rfl))).1
      unfold vp_nar
      rw [h9]
    show W _ _ _ _ _ _ _ _ _ _ _ _ _ _ _ (F0 m pc lsA (.int (Int32.ofInt x) :: .int (Int32.ofInt i) :: va_rf (cr ad a) :: st.map (cv ad)))
    rw [cr_ok h1]
    refine va_cast F.1 F.2.1 (tsK F) hH.1 hH.2 hS (a - 2) 0 ((aW_get h1).trans (by rw [aE_char h2])) rfl (of_in hi h3 h4) d (fun H1 locs1 k1 k2 k3 => ?_)
    rw [hn] at k1 k2
    rw [aW_set (μ' := sI μ a i.toNat x) h1 rfl (fun b hb => aE_congr (fun j => by rw [rI_sI, if_neg (fun q => hb q.1)]) (fun _ => rfl) (fun _ => rfl) (fun _ => rfl)) (by
      rw [aE_char h2, of_clamp h3 hi]
      congr 4
      funext j
      simp only [upd, rI_sI]
      by_cases hj : j = i.toNat <;> simp [hj])] at k1 k2
    exact hκ _ _ _ _ _ h5 H1 locs1 ad lsA ⟨k1, k2⟩ k3 hL (okM_sI hM hx _ _) hl (okS_tl (okS_tl (okS_tl hs))) ha hn0
theorem ok_last (F : aFx p l R s m args meth c cc nL own cA D A) {pc : Nat} (d : decode cc pc = .ok (.lastore, 1)) : aOk p l e R s m args below meth c nL cA D A n0 ad0 Q pc (sAstL (pc + 1)) := by
  intro κ hκ ls st μ g h H locs ad lsA hH hS hL hM hl hs ha hn0
  match st, h, hs with
  | .inr (.inr (.inl x)) :: .inl i :: .inr (.inl a) :: st, ⟨h1, h2, h3, h4, h5⟩, hs =>
    have hx : in64 x := okS_hd hs
    have hi : in32 i := okS_hd (okS_tl hs)
    show W _ _ _ _ _ _ _ _ _ _ _ _ _ _ _ (F0 m pc lsA (.long (Int64.ofInt x) :: .int (Int32.ofInt i) :: va_rf (cr ad a) :: st.map (cv ad)))
    rw [cr_ok h1]
    refine va_last F.1 F.2.1 (tsK F) hH.1 hH.2 hS (a - 2) 2 ((aW_get h1).trans (by rw [aE_long h2])) rfl (of_in hi h3 h4) d (fun H1 locs1 k1 k2 k3 => ?_)
    rw [aW_set (μ' := sL μ a i.toNat x) h1 rfl (fun b hb => aE_congr (fun _ => rfl) (fun j => by rw [rL_sL, if_neg (fun q => hb q.1)]) (fun _ => rfl) (fun _ => rfl)) (by
      rw [aE_long h2, of_clamp h3 hi]
      congr 5
      funext j
      simp only [vp_updL, rL_sL]
      by_cases hj : j = i.toNat <;> simp [hj])] at k1 k2
    exact hκ _ _ _ _ _ h5 H1 locs1 ad lsA ⟨k1, k2⟩ k3 hL (okM_sL hM hx _ _) hl (okS_tl (okS_tl (okS_tl hs))) ha hn0
theorem ok_dast (F : aFx p l R s m args meth c cc nL own cA D A) {pc : Nat} (d : decode cc pc = .ok (.dastore, 1)) : aOk p l e R s m args below meth c nL cA D A n0 ad0 Q pc (sAstD (pc + 1)) := by
  intro κ hκ ls st μ g h H locs ad lsA hH hS hL hM hl hs ha hn0
  match st, h, hs with
  | .inr (.inr (.inr (.inr (.inl x)))) :: .inl i :: .inr (.inl a) :: st, ⟨h1, h2, h3, h4, h5⟩, hs =>
    have hi : in32 i := okS_hd (okS_tl hs)
    show W _ _ _ _ _ _ _ _ _ _ _ _ _ _ _ (F0 m pc lsA (.double x :: .int (Int32.ofInt i) :: va_rf (cr ad a) :: st.map (cv ad)))
    rw [cr_ok h1]
    refine va_dast F.1 F.2.1 (tsK F) hH.1 hH.2 hS (a - 2) 3 ((aW_get h1).trans (by rw [aE_dbl h2])) rfl (of_in hi h3 h4) d (fun H1 locs1 k1 k2 k3 => ?_)
    rw [aW_set (μ' := sD μ a i.toNat x) h1 rfl (fun b hb => aE_congr (fun _ => rfl) (fun _ => rfl) (fun _ => rfl) (fun j => by rw [rD_sD, if_neg (fun q => hb q.1)])) (by
      rw [aE_dbl h2, of_clamp h3 hi]
      congr 7
      funext j
      simp only [vf_upd, rD_sD]
      by_cases hj : j = i.toNat <;> simp [hj])] at k1 k2
    exact hκ _ _ _ _ _ h5 H1 locs1 ad lsA ⟨k1, k2⟩ k3 hL (okM_sD hM x _ _) hl (okS_tl (okS_tl (okS_tl hs))) ha hn0
theorem ok_aast (F : aFx p l R s m args meth c cc nL own cA D A) {pc : Nat} (d : decode cc pc = .ok (.aastore, 1)) : aOk p l e R s m args below meth c nL cA D A n0 ad0 Q pc (sAstR (pc + 1)) := by
  intro κ hκ ls st μ g h H locs ad lsA hH hS hL hM hl hs ha hn0
  match st, h, hs with
  | .inr (.inl x) :: .inl i :: .inr (.inl a) :: st, ⟨h1, h2, h3, h4, hx, hx2, h5⟩, hs =>
    have hi : in32 i := okS_hd (okS_tl hs)
    show W _ _ _ _ _ _ _ _ _ _ _ _ _ _ _ (F0 m pc lsA (va_rf (cr ad x) :: .int (Int32.ofInt i) :: va_rf (cr ad a) :: st.map (cv ad)))
    rw [cr_ok h1, cr_ok hx]
    refine va_astq (r := (RX2, TX2, 12)) F.1 F.2.1 (tsK F) hH.1 hH.2 hS (a - 2) 4 (x - 2) 2 ((aW_get h1).trans (by rw [aE_ord h2])) rfl ((aW_get hx).trans (by rw [aE_obj hx2 (by decide)])) rfl (of_in hi h3 h4) d (fun H1 locs1 k1 k2 k3 => ?_)
    rw [aW_set (μ' := sR μ a i.toNat x) h1 rfl (fun b hb => aE_congr (fun _ => rfl) (fun _ => rfl) (fun j => by rw [rR_sR, if_neg (fun q => hb q.1)]) (fun _ => rfl)) (by
      rw [aE_ord h2, of_clamp h3 hi]
      congr 7
      funext j
      simp only [va_up, rR_sR]
      by_cases hj : j = i.toNat <;> simp [hj, cr_ok hx])] at k1 k2
    exact hκ _ _ _ _ _ h5 H1 locs1 ad lsA ⟨k1, k2⟩ k3 hL (okM_sR hM hx.2 _ _) hl (okS_tl (okS_tl (okS_tl hs))) ha hn0
end ST4
