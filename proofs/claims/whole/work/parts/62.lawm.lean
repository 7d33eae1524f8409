/-! ===== the law's machine ===== -/
/-- what holds at the law's walk: a script of L ints xs, named 1 -/
def aFl (l : Launch) (L : Nat) (xs : Nat → Int32) (p : Program) (s : State) (m : MethodId) (meth : Method) (c : Code) (b : Nat) (cA : Nat → ClassId) (D : va_G) (A : Nat → Prop) : Prop :=
  aFx p l room_1 s m #[Value.ref b] meth c code 9 RL cA D A ∧ aFy s ∧ (va_X b L xs s s.heap ∧ b < s.heap.size ∧ ¬ A b) ∧ meth.sig.returnType = ret ∧ ∀ q, A q → s.heap.size ≤ q
def BL (l : Launch) (L : Nat) (xs : Nat → Int32) : aK := fun pc ls st μ g =>
  ∀ (p : Program) (e : Env) (s : State) (m : MethodId) (below : List Frame) (meth : Method) (c : Code) (b : Nat) (cA : Nat → ClassId) (D : va_G) (A : Nat → Prop) (ad0 : Nat → Nat), aFl l L xs p s m meth c b cA D A → ad0 1 = b →
    AW p l e room_1 s m #[Value.ref b] below meth c 9 cA D A 0 ad0 (lw_Z below #[Value.ref b] s) pc ls st μ g
theorem sLw {l : Launch} {L : Nat} {xs : Nat → Int32} {pc : Nat} {f : aSt} (h : ∀ (p : Program) (e : Env) (s : State) (m : MethodId) (below : List Frame) (meth : Method) (c : Code) (b : Nat) (cA : Nat → ClassId) (D : va_G) (A : Nat → Prop) (ad0 : Nat → Nat), aFl l L xs p s m meth c b cA D A → ad0 1 = b →
    aOk p l e room_1 s m #[Value.ref b] below meth c 9 cA D A 0 ad0 (lw_Z below #[Value.ref b] s) pc f) : Snd (BL l L xs) pc f :=
  fun κ hκ ls st μ g hf p e s m below meth c b cA D A ad0 F hb => h p e s m below meth c b cA D A ad0 F hb κ (fun pc' ls' st' μ' g' hk => hκ _ _ _ _ _ hk p e s m below meth c b cA D A ad0 F hb) ls st μ g hf
/-- the end, with 1 -/
def sLret : aSt := fun κ ls st μ g => match st with
  | [.inl x] => x = 1 ∧ g ≤ 3600
  | _ => False
/-- a number of the script; its length -/
def sSld (L : Nat) (xs : Nat → Int32) (n : Nat) : aSt := fun κ ls st μ g => match st with
  | .inl i :: .inr (.inl r) :: st => r = 1 ∧ 0 ≤ i ∧ i < L ∧ κ n ls (aI (xs i.toNat).toInt :: st) μ g
  | _ => False
def sSlen (L n : Nat) : aSt := fun κ ls st μ g => match st with
  | .inr (.inl r) :: st => r = 1 ∧ κ n ls (aI (L : Int) :: st) μ g
  | _ => False
def swC (κ : Nat → Prop) : List Nat → Int → Int → Prop
  | [], _, _ => True
  | t :: ts, k, v => (v = k → κ t) ∧ swC κ ts (k + 1) v
def sSw (ts : List Nat) (hi : Int) (d : Nat) : aSt := fun κ ls st μ g => match st with
  | .inl v :: st => ((v < 0 ∨ hi < v) → κ d ls st μ g) ∧ swC (fun t => κ t ls st μ g) ts 0 v
  | _ => False
theorem swC_at {κ : Nat → Prop} {ts : List Nat} : ∀ {k v : Int} {i t : Nat}, swC κ ts k v → ts[i]? = some t → v = k + i → κ t := by
  induction ts with
  | nil => intro k v i t _ h; simp at h
  | cons a ts ih =>
    intro k v i t h hi hv
    cases i with
    | zero =>
      simp at hi
      subst hi
      exact h.1 (by omega)
    | succ i => exact ih h.2 (by simpa using hi) (by omega)
section STL
variable {p : Program} {l : Launch} {e : Env} {s : State} {m : MethodId} {below : List Frame} {meth : Method} {c : Code} {b : Nat} {cA : Nat → ClassId} {D : va_G} {A : Nat → Prop} {ad0 : Nat → Nat} {Q : State → Prop} {L : Nat} {xs : Nat → Int32}
theorem ok_lret (F : aFl l L xs p s m meth c b cA D A) {pc : Nat} (d : decode code pc = .ok (.ireturn, 1)) : aOk p l e room_1 s m #[Value.ref b] below meth c 9 cA D A 0 ad0 (lw_Z below #[Value.ref b] s) pc sLret := by
  intro κ hκ ls st μ g h H locs ad lsA hH hS hL hM hl hs ha hn0
  unfold sLret at h
  split at h
  · obtain ⟨rfl, hg⟩ := h
    refine va_forget (fun q hq => F.2.2.2.2 q.base (hS.2.2 q hq)) ?_
    refine W.widen (k := 603072) (n := 7207018) (by omega) (by omega) ?_
    refine W.base ?_
    exact lw_ret (Drawn.sameBut.refl s.drawn lw_cs) F.1.1 F.1.2.1 F.2.2.2.1 F.1.2.2.2.2.2.2.2.1 d
  · exact h.elim
theorem ok_sld (F : aFl l L xs p s m meth c b cA D A) (hb : ad0 1 = b) {pc : Nat} (d : decode code pc = .ok (.iaload, 1)) : aOk p l e room_1 s m #[Value.ref b] below meth c 9 cA D A 0 ad0 Q pc (sSld L xs (pc + 1)) := by
  intro κ hκ ls st μ g h H locs ad lsA hH hS hL hM hl hs ha hn0
  unfold sSld at h
  split at h
  · next i r st =>
    obtain ⟨rfl, h0, h1, hk⟩ := h
    have hi : in32 i := okS_hd hs
    have e1 : ad 1 = b := (ha 1 (by omega)).trans hb
    have go := hκ _ _ _ _ _ hk H locs ad lsA hH hS hL hM hl (okS_cons (v := aI (xs i.toNat).toInt) (to_in _) (okS_tl (okS_tl hs))) ha hn0
    have e2 : (xs (Int32.ofInt i).toNatClampNeg) = xs i.toNat := by rw [of_clamp h0 hi]
    show W _ _ _ _ _ _ _ _ _ _ _ _ _ _ _ (F0 m pc lsA (.int (Int32.ofInt i) :: va_rf (cr ad 1) :: st.map (cv ad)))
    rw [show va_rf (cr ad 1) = .ref b by unfold cr; rw [if_neg (by decide), e1]; rfl]
    refine va_sld F.1.1 F.1.2.1 F.2.2.1.1 F.2.2.1.2.1 F.2.2.1.2.2 hS (of_in hi h0 h1) d ?_
    rw [e2]
    simpa only [List.map_cons, cv, Int32.ofInt_toInt] using go
  · exact h.elim
theorem ofNat_ofInt (n : Nat) : Int32.ofNat n = Int32.ofInt (n : Int) := rfl
theorem ok_slen (F : aFl l L xs p s m meth c b cA D A) (hb : ad0 1 = b) (hL3 : L ≤ 3072) {pc : Nat} (d : decode code pc = .ok (.arraylength, 1)) : aOk p l e room_1 s m #[Value.ref b] below meth c 9 cA D A 0 ad0 Q pc (sSlen L (pc + 1)) := by
  intro κ hκ ls st μ g h H locs ad lsA hH hS hL hM hl hs ha hn0
  unfold sSlen at h
  split at h
  · next r st =>
    obtain ⟨rfl, hk⟩ := h
    have e1 : ad 1 = b := (ha 1 (by omega)).trans hb
    have go := hκ _ _ _ _ _ hk H locs ad lsA hH hS hL hM hl (okS_cons (v := aI (L : Int)) (show in32 _ from ⟨by omega, by omega⟩) (okS_tl hs)) ha hn0
    show W _ _ _ _ _ _ _ _ _ _ _ _ _ _ _ (F0 m pc lsA (va_rf (cr ad 1) :: st.map (cv ad)))
    rw [show va_rf (cr ad 1) = .ref b by unfold cr; rw [if_neg (by decide), e1]; rfl]
    refine va_slen F.1.1 F.1.2.1 F.2.2.1.1 F.2.2.1.2.1 F.2.2.1.2.2 hS d ?_
    rw [ofNat_ofInt]
    exact go
  · exact h.elim
theorem ok_sw (F : aFl l L xs p s m meth c b cA D A) {pc : Nat} {ts : List Nat} {hi dflt : Int} {dt len : Nat} {offs : Array Int} (d : decode code pc = .ok (.tableswitch dflt 0 hi offs, len)) (hd : (pc : Int) + dflt = (dt : Int)) (hn : hi + 1 = ts.length) (ho : ∀ i : Fin ts.length, (offs[(i : Nat)]?).map (fun off => (pc : Int) + off) = some ((ts[i] : Nat) : Int)) : aOk p l e room_1 s m #[Value.ref b] below meth c 9 cA D A 0 ad0 Q pc (sSw ts hi dt) := by
  intro κ hκ ls st μ g h H locs ad lsA hH hS hL hM hl hs ha hn0
  unfold sSw at h
  split at h
  · next v st =>
    have hv : in32 v := okS_hd hs
    have ev : (Int32.ofInt v).toInt = v := to_of hv
    by_cases hr : v < 0 ∨ hi < v
    · exact lv_tableOut F.1.1 F.1.2.1 d (by rw [ev]; exact hr) hd (hκ _ _ _ _ _ (h.1 hr) H locs ad lsA hH hS hL hM hl (okS_tl hs) ha hn0)
    · have hlt : v.toNat < ts.length := by omega
      have h1 := ho ⟨v.toNat, hlt⟩
      cases hoff : offs[v.toNat]? with
      | none =>
        have : (offs[v.toNat]?).map (fun off => (pc : Int) + off) = some ((ts[v.toNat] : Nat) : Int) := h1
        rw [hoff] at this; cases this
      | some off =>
        have h2 : (offs[v.toNat]?).map (fun off => (pc : Int) + off) = some ((ts[v.toNat] : Nat) : Int) := h1
        rw [hoff] at h2
        have h3 : (pc : Int) + off = ((ts[v.toNat] : Nat) : Int) := Option.some.inj h2
        have hk := swC_at h.2 (List.getElem?_eq_getElem hlt) (show v = 0 + (v.toNat : Int) by omega)
        exact lv_tableIn F.1.1 F.1.2.1 d (by rw [ev]; omega) (by rw [ev]; omega) (by rw [ev, show v - 0 = v by omega]; exact hoff) h3 (hκ _ _ _ _ _ hk H locs ad lsA hH hS hL hM hl (okS_tl hs) ha hn0)
  · exact h.elim
end STL
