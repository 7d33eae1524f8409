/-! ===== contracts over the abstract machine; calls, returns, throws; a method's walk as one formula ===== -/
abbrev aMd : Type := MethodName × ByteArray × Nat × Option FieldType × Nat × Nat
def exN : Nat → String
  | 1 => "java/lang/IllegalArgumentException"
  | 2 => "java/lang/IllegalStateException"
  | 3 => "java/util/NoSuchElementException"
  | 4 => "java/lang/IndexOutOfBoundsException"
  | _ => "java/lang/ArithmeticException"
def rmM (d G : Nat) : Room := { frames := d, cells := G, slots := 2000 * G, locals := 40 * d }
/-- pairs of exceptions of which the first isn't a kind of the second -/
def ncs : List (Nat × Nat) := [(2, 1), (2, 3), (1, 3), (3, 1), (4, 1), (4, 3)]
/-- the constructors above, declared -/
def dcs : List Cond := [.declares (Bundle.init0 "java/lang/RuntimeException"), .declares (Bundle.init0 "java/lang/Exception"), .declares (Bundle.init0 Bundle.tN)]
def aFy (s : State) : Prop := (∀ k, va_Nw (.castable (exN k) (exN k)) s) ∧ va_AO RX2 s ∧ (∀ q ∈ ncs, va_Nc (exN q.1) (exN q.2) s) ∧ ∀ w ∈ dcs, va_Nw w s
theorem dcs_warm {s U : State} (hW : s.WarmedH U.vm) (h : ∀ w ∈ dcs, va_Nw w s) : ∀ w ∈ dcs, va_Nw w U := by
  intro w hw
  have h1 := h w hw
  simp only [dcs, List.mem_cons, List.not_mem_nil, or_false] at hw
  rcases hw with rfl | rfl | rfl <;> exact va_Nw.warmD hW h1
theorem dcs_same {s U : State} (hvm : s.vm = U.vm) (h : ∀ w ∈ dcs, va_Nw w s) : ∀ w ∈ dcs, va_Nw w U := by
  intro w hw
  have h1 := h w hw
  simp only [dcs, List.mem_cons, List.not_mem_nil, or_false] at hw
  rcases hw with rfl | rfl | rfl <;> exact va_Nw.same rfl hvm h1
theorem aFy.moved {s U : State} (hW : s.WarmedH U.vm) (h : aFy s) : aFy U := ⟨fun k => va_Nw.warmC hW (h.1 k), va_AO.moved hW.alike h.2.1, fun q hq => va_Nc.moved hW.alike (h.2.2.1 q hq), dcs_warm hW h.2.2.2⟩
theorem aFy.same {s U : State} (hvm : s.vm = U.vm) (h : aFy s) : aFy U := ⟨fun k => va_Nw.same rfl hvm (h.1 k), va_AO.moved (by rw [hvm]; exact Vm.Alike.refl _) h.2.1, fun q hq => va_Nc.moved (by rw [hvm]; exact Vm.Alike.refl _) (h.2.2.1 q hq), dcs_same hvm h.2.2.2⟩
def aPre (cA : Nat → ClassId) (D : va_G) (A : Nat → Prop) (ad : Nat → Nat) (μ : aM) (sz : Nat) (U : State) : Prop := U.heap.size = sz ∧ aHp cA D A ad μ U.heap ∧ va_K D aCl (aTs cA) U ∧ (vx_Zq Bundle.tN "UNASSIGNED_STACK" Bundle.steD A U U.heap ∧ vx_Zq Bundle.tN "SUPPRESSED_SENTINEL" Bundle.listD A U U.heap) ∧ aFy U
abbrev aRs : Type := Option aV → aM → Prop
abbrev aXs : Type := Nat → aM → Prop
def aQc (cA : Nat → ClassId) (D : va_G) (A : Nat → Prop) (ad : Nat → Nat) (n0 : Nat) (K : aRs) : Array Value → State → Outcome → State → Prop := fun _ st oc t =>
  (∃ (r : Option aV) (μ' : aM) (ad' : Nat → Nat), oc = .returned (r.map (cv ad')) ∧ K r μ' ∧ aHp cA D A ad' μ' t.heap ∧ okM μ' ∧ (∀ v, r = some v → okV (rN μ') v) ∧ aAg n0 ad ad' ∧ n0 ≤ rN μ') ∧ va_F A st t
def aXc (cA : Nat → ClassId) (D : va_G) (A : Nat → Prop) (ad : Nat → Nat) (n0 : Nat) (X : aXs) : String → State → State → Prop := fun E st t =>
  (∃ (k : Nat) (μ' : aM) (ad' : Nat → Nat), E = exN k ∧ X k μ' ∧ aHp cA D A ad' μ' t.heap ∧ okM μ' ∧ aAg n0 ad ad' ∧ n0 ≤ rN μ') ∧ va_F A st t
/-- CONTRACT: from these arguments and this memory, M comes to K, or throws to X -/
def Ct (l : Launch) (M : aMd) (as : List aV) (μ : aM) (K : aRs) (X : aXs) : Prop :=
  okM μ → okS (rN μ) as → ∀ (cA : Nat → ClassId) (D : va_G) (A : Nat → Prop) (ad : Nat → Nat) (sz : Nat), (∀ q, sz ≤ q → A q) →
    vx_Met l M.1 (Cond.code M.1 M.2.1 M.2.2.1 M.2.2.2.1 :: bgL) (rmM M.2.2.2.2.1 M.2.2.2.2.2) (va_Pc (as.map (cv ad)) (aPre cA D A ad μ sz)) (aQc cA D A ad (rN μ) K) (aXc cA D A ad (rN μ) X) M.2.2.2.2.2 (2000 * M.2.2.2.2.2) A
theorem cv_ag {n : Nat} {ad ad' : Nat → Nat} (h : aAg n ad ad') {v : aV} (hv : okV n v) : cv ad' v = cv ad v := by
  rcases v with x | x | x | x | x | x <;> try rfl
  have hv : x < n + 2 := hv
  show va_rf (cr ad' x) = va_rf (cr ad x)
  unfold cr
  rw [h x hv]
theorem aLo_ag {n : Nat} {ad ad' : Nat → Nat} (h : aAg n ad ad') {lsA : Array Slot} {nL : Nat} {ls : List aV} (hL : aLo ad lsA nL ls) (ho : okS n ls) : aLo ad' lsA nL ls := ⟨hL.1, hL.2.1, hL.2.2.1, fun k v hk hu => by
  rw [cv_ag h (ho v (List.mem_of_getElem? hk))]
  exact hL.2.2.2 k v hk hu⟩
theorem map_ag {n : Nat} {ad ad' : Nat → Nat} (h : aAg n ad ad') {st : List aV} (ho : okS n st) : st.map (cv ad') = st.map (cv ad) := List.map_congr_left fun v hv => cv_ag h (ho v hv)
theorem aAg.trans {n0 n : Nat} {a b c : Nat → Nat} (h1 : aAg n0 a b) (h2 : aAg n b c) (hn : n0 ≤ n) : aAg n0 a c := fun i hi => (h2 i (by omega)).trans (h1 i hi)
theorem aHp.kept {cA : Nat → ClassId} {D : va_G} {A : Nat → Prop} {ad : Nat → Nat} {μ : aM} {H H1 : Heap} (h : aHp cA D A ad μ H) (hq : ∀ q : Nat, q < H.size → H1[q]? = H[q]?) : aHp cA D A ad μ H1 := ⟨fun k x hx => (h.1 k x hx).kept (hq _ (h.1 k x hx).lt), h.2⟩
theorem aPre_blind (av : List Value) (cA : Nat → ClassId) (D : va_G) (A : Nat → Prop) (ad : Nat → Nat) (μ : aM) (sz : Nat) : FrameBlind (va_Pc av (aPre cA D A ad μ sz)) := fun a U g mk q => by
  obtain ⟨q0, q1, q2, q3, ⟨q4, q5⟩, q6⟩ := q
  exact ⟨q0, q1, q2, va_K.moved (u := U) (U := U.calling g mk a) (Vm.Alike.refl U.vm) q3, ⟨vx_Zq.moved (u := U) (U := U.calling g mk a) (Vm.Alike.refl U.vm) q4, vx_Zq.moved (u := U) (U := U.calling g mk a) (Vm.Alike.refl U.vm) q5⟩, aFy.same (s := U) (U := U.calling g mk a) rfl q6⟩
section ST6
variable {p : Program} {l : Launch} {e : Env} {R : Room} {s : State} {m : MethodId} {args : Array Value} {below : List Frame} {meth : Method} {c : Code} {nL : Nat} {cA : Nat → ClassId} {D : va_G} {A : Nat → Prop} {n0 : Nat} {ad0 : Nat → Nat} {Q : State → Prop}
variable {cc : ByteArray} {own : String}
/-- an exception thrown over this pc comes to Q -/
def aAx (p : Program) (l : Launch) (e : Env) (R : Room) (s : State) (m : MethodId) (args : Array Value) (below : List Frame) (meth : Method) (c : Code) (nL : Nat) (cA : Nat → ClassId) (D : va_G) (A : Nat → Prop) (n0 : Nat) (ad0 : Nat → Nat) (Q : State → Prop) (GR pc : Nat) (X : aXs) : Prop :=
  ∀ (k : Nat) (μ' : aM) (H : Heap) (locs : List Loc) (ad : Nat → Nat) (lsA : Array Slot) (rest : List Value) (q : Addr) (ce : Cell) (g : Nat), X k μ' → aHp cA D A ad μ' H → va_S A s.heap H locs → okM μ' → aAg n0 ad0 ad → n0 ≤ rN μ' → lv_has lsA nL [] → H[q]? = some ce → ce.vm = .none → s.vm.findClass (exN k) = some ce.cls → g ≤ GR →
    vx_W p l e R s m args below meth c H locs g (2000 * g) Q (F0 m pc lsA rest) q
theorem aAx_no {GR pc : Nat} : aAx p l e R s m args below meth c nL cA D A n0 ad0 Q GR pc (fun _ _ => False) := fun _ _ _ _ _ _ _ _ _ _ h => h.elim
theorem run_W {GR G pc g : Nat} {ls rest : List aV} {μ : aM} {H : Heap} {locs : List Loc} {ad : Nat → Nat} {lsA : Array Slot} {st0 : List Value} {K : aRs} {X : aXs} {as' : Array Value}
    (hr : vx_Run p l e R s m args below meth c H locs g (2000 * g) G (2000 * G) (F0 m pc lsA st0) (rest.map (cv ad)) (aQc cA D A ad (rN μ) K as') (aXc cA D A ad (rN μ) X) A)
    (hS : va_S A s.heap H locs) (hL : aLo ad lsA nL ls) (hl : okS (rN μ) ls) (hs : okS (rN μ) rest) (ha : aAg n0 ad0 ad) (hn0 : n0 ≤ rN μ) (hg : g + G ≤ GR)
    (hk : ∀ r μ', K r μ' → AW p l e R s m args below meth c nL cA D A n0 ad0 Q (pc + 3) ls (r.toList ++ rest) μ' (g + G)) (hx : aAx p l e R s m args below meth c nL cA D A n0 ad0 Q GR pc X) : W p l e R s m args below meth c H locs g (2000 * g) Q (F0 m pc lsA st0) := by
  intro T hT XX
  have hcs : 2000 * g + 2000 * G = 2000 * (g + G) := by omega
  rcases hr T hT XX with ⟨v, st₀, t, T', L, h0, X', hL', e1, e2, ⟨⟨r, μ', ad', hv, hK, hH', hM', hr', hag, hn'⟩, hF⟩, st⟩ | ⟨q, st₀, t, T', L, E, ce, h0, X', hL', e1, e2, ⟨⟨k, μ', ad', hE, hX', hH', hM', hag, hn'⟩, hF⟩, hce, hcv, hcl, st⟩
  · have hv := Outcome.returned.inj hv
    subst hv
    obtain ⟨k1, k2, k3⟩ := vx_keep h0 e1 hS (fun q _ h => h) (fun q h => h) hL' hF
    rw [hcs] at X'
    have hrs : okS (rN μ') (r.toList ++ rest) := by
      intro v hv
      rcases List.mem_append.mp hv with h | h
      · cases r with
        | none => cases h
        | some w => rw [List.mem_singleton.mp h]; exact hr' w rfl
      · exact okS_up hs hn' v h
    obtain ⟨t2, a1, b1⟩ := hk r μ' hK T'.heap (locs ++ L) ad' lsA (by rw [e1]; exact hH') k3 (aLo_ag hag hL hl) hM' (okS_up hl hn') hrs (aAg.trans ha hag hn0) (by omega) T' rfl X'
    refine ⟨t2, st t2 ?_, b1⟩
    have e3 : (r.map (cv ad')).toList ++ rest.map (cv ad) = (r.toList ++ rest).map (cv ad') := by
      rw [List.map_append, map_ag hag hs]
      cases r <;> rfl
    show Steps _ _ _ (T'.setTop { F0 m pc lsA st0 with pc := pc + 3, stack := (r.map (cv ad')).toList ++ rest.map (cv ad) }) _
    rw [e3]
    exact a1
  · obtain ⟨k1, k2, k3⟩ := vx_keep h0 e1 hS (fun q _ h => h) (fun q h => h) hL' hF
    rw [hcs] at X'
    subst hE
    obtain ⟨t2, a1, b1⟩ := hx k μ' T'.heap (locs ++ L) ad' lsA (rest.map (cv ad)) q ce (g + G) hX' (by rw [e1]; exact hH') k3 hM' (aAg.trans ha hag hn0) (by omega) ⟨hL.1, hL.2.2.1, fun q hq => by cases hq⟩ (by rw [e1]; exact hce) hcv hcl hg T' rfl X'
    exact ⟨t2, st.trans a1, b1⟩
theorem pre_at (F : aFx p l R s m args meth c cc nL own cA D A) (Y : aFy s) {ad : Nat → Nat} {μ : aM} {H : Heap} {locs : List Loc} (hH : aHp cA D A ad μ H) (hS : va_S A s.heap H locs) (U : State) (hU : U.heap = H) (hW : s.WarmedH U.vm) : aPre cA D A ad μ H.size U :=
  ⟨by rw [hU], by rw [hU]; exact hH, va_K.moved hW.alike (tsK F), ⟨by rw [hU]; exact vx_Zq.moved hW.alike (F.2.2.2.2.2.2.2.2.2.2.1.kept hS.2.1), by rw [hU]; exact vx_Zq.moved hW.alike (F.2.2.2.2.2.2.2.2.2.2.2.kept hS.2.1)⟩, Y.moved hW⟩
/-- a virtual call (ci: the class of the receiver), n arguments -/
def sCallV (n ci : Nat) (T : List aV → aM → aRs → Prop) (nx G GR : Nat) : aSt := fun κ ls st μ g => match st.drop n with
  | .inr (.inl b) :: rest => okA μ b ∧ (shp b).1 = ci ∧ cs9 rest ≤ 8 ∧ g + G ≤ GR ∧ T (aR b :: (st.take n).reverse) μ (fun r μ' => κ nx ls (r.toList ++ rest) μ' (g + G))
  | _ => False
def sCallS (n : Nat) (T : List aV → aM → aRs → Prop) (nx G GR : Nat) : aSt := fun κ ls st μ g => n ≤ st.length ∧ cs9 (st.drop n) ≤ 8 ∧ g + G ≤ GR ∧ T ((st.take n).reverse) μ (fun r μ' => κ nx ls (r.toList ++ st.drop n) μ' (g + G))
def aSite (M : aMd) (n : Nat) : Prop := (Cond.initialized M.1.cls ∈ bgL ∧ Cond.code M.1 M.2.1 M.2.2.1 M.2.2.2.1 ∈ bgL) ∧ (M.1.cls ≠ "java/lang/invoke/MethodHandle" ∧ M.1.cls ≠ "java/lang/invoke/VarHandle" ∧ (parseMethodDescriptor M.1.desc).map (fun d => d.parameters.length) = some n)
theorem bg_one {w : Cond} (h : w ∈ bgL) : GoodIn bgL [w] := fun x hx => by rw [List.mem_singleton.mp hx]; exact bg_in w h
theorem bg_cons {w : Cond} {ws : List Cond} (h : w ∈ bgL) (hs : GoodIn bgL ws) : GoodIn bgL (w :: ws) := fun x hx => (List.mem_cons.mp hx).elim (fun q => by rw [q]; exact bg_in w h) (hs x)
theorem split_n {n : Nat} {st : List aV} {b : aV} {rest : List aV} (h : st.drop n = b :: rest) : (st.take n).length = n ∧ st = st.take n ++ b :: rest := by
  refine ⟨?_, by rw [← h, List.take_append_drop]⟩
  rw [List.length_take]
  have h1 : (st.drop n).length = st.length - n := List.length_drop
  rw [h] at h1
  simp only [List.length_cons] at h1
  omega
theorem ok_callV (F : aFx p l R s m args meth c cc nL own cA D A) (Y : aFy s) {GR : Nat} (hG : GR ≤ R.cells ∧ 2000 * GR ≤ R.slots) {pc ix n ci N : Nat} {T : u_T} (M : aMd) (S : aSite M n) (X9 : aCx ci M.1.cls T N) (h1 : Cond.methodLink own ix M.1 ∈ bgL) (h2 : Cond.instanceMethod M.1 ∈ bgL) (h3 : Cond.selects M.1.cls M.1 M.1 ∈ bgL)
    (hR : M.2.2.2.2.1 + 1 ≤ R.frames ∧ 8 + (M.2.2.1 + 11) + 40 * M.2.2.2.2.1 ≤ R.locals) {X : aXs} (hx : aAx p l e R s m args below meth c nL cA D A n0 ad0 Q GR pc X) (d : decode cc pc = .ok (.invokevirtual ix, 3)) : aOk p l e R s m args below meth c nL cA D A n0 ad0 Q pc (sCallV n ci (fun as μ K => Ct l M as μ K X) (pc + 3) M.2.2.2.2.2 GR) := by
  intro κ hκ ls st μ g h H locs ad lsA hH hS hL hM hl hs ha hn0
  unfold sCallV at h
  split at h
  · next b rest hd =>
    obtain ⟨k1, k2, k3, k4, k5⟩ := h
    obtain ⟨e1, e2⟩ := split_n hd
    have hrest : okS (rN μ) rest := fun v hv => hs v (by rw [e2]; exact List.mem_append_right _ (List.mem_cons_of_mem _ hv))
    have hb : okV (rN μ) (aR b) := hs _ (by rw [e2]; exact List.mem_append_right _ List.mem_cons_self)
    have has : okS (rN μ) (aR b :: (st.take n).reverse) := okS_cons hb (fun v hv => hs v (List.mem_of_mem_take (List.mem_reverse.mp hv)))
    have hC := k5 hM has cA D A ad H.size (fun q hq => F.2.2.2.2.2.2.1 q (Nat.le_trans hS.1 hq))
    have e3 : cv ad (aR b) = .ref (ad b) := by show va_rf (cr ad b) = _; rw [cr_ok k1]; rfl
    rw [List.map_cons, e3] at hC
    refine run_W (K := _) (as' := (Value.ref (ad b) :: ((st.take n).reverse.map (cv ad))).toArray) (vx_runV (n := n) (bytes := M.2.1) (maxL := M.2.2.1) (ret := M.2.2.2.1) (C := M.1.cls) (Ts := bgL) (own := own) ⟨F.1, F.2.1, F.2.2.1, F.2.2.2.1, F.2.2.2.2.1⟩ hC ?_ ⟨aPre_blind _ _ _ _ _ _ _, va_recv (tsK F) hH.1 X9.2.2.2.1 ((aW_get k1).trans (by rw [aE_obj k2 X9.2.2.2.2.2])), fun U hU hW => ⟨rfl, pre_at F Y hH hS U hU hW⟩⟩ rfl (by rw [List.length_map, List.length_reverse]; exact e1) hL.1 ?_ (by rw [cs9_eq]; show 2 * 0 + cs9 rest ≤ 8; omega) d ⟨by omega, by omega⟩) hS hL hl hrest ha hn0 k4 (fun r μ' hK => hκ _ _ _ _ _ hK) hx
    · exact cwV n F.2.2.2.2.1 (bg_cons h1 (bg_cons h2 (bg_cons h3 (bg_cons S.1.1 (bg_cons S.1.2 bg_in))))) rfl rfl rfl ⟨rfl, S.2⟩ hR
    · show st.map (cv ad) = _
      rw [List.map_reverse, List.reverse_reverse]
      conv => lhs; rw [e2]
      rw [List.map_append, List.map_cons, e3]
  · exact h.elim
theorem ok_callS (F : aFx p l R s m args meth c cc nL own cA D A) (Y : aFy s) {GR : Nat} (hG : GR ≤ R.cells ∧ 2000 * GR ≤ R.slots) {pc ix n : Nat} (M : aMd) (S : aSite M n) (h1 : Cond.methodLink own ix M.1 ∈ bgL) (h2 : Cond.static M.1 ∈ bgL)
    (hR : M.2.2.2.2.1 + 1 ≤ R.frames ∧ 8 + (M.2.2.1 + 11) + 40 * M.2.2.2.2.1 ≤ R.locals) {X : aXs} (hx : aAx p l e R s m args below meth c nL cA D A n0 ad0 Q GR pc X) (d : decode cc pc = .ok (.invokestatic ix, 3)) : aOk p l e R s m args below meth c nL cA D A n0 ad0 Q pc (sCallS n (fun as μ K => Ct l M as μ K X) (pc + 3) M.2.2.2.2.2 GR) := by
  intro κ hκ ls st μ g h H locs ad lsA hH hS hL hM hl hs ha hn0
  obtain ⟨k0, k3, k4, k5⟩ := h
  have hrest : okS (rN μ) (st.drop n) := fun v hv => hs v (List.mem_of_mem_drop hv)
  have has : okS (rN μ) (st.take n).reverse := fun v hv => hs v (List.mem_of_mem_take (List.mem_reverse.mp hv))
  have hC := k5 hM has cA D A ad H.size (fun q hq => F.2.2.2.2.2.2.1 q (Nat.le_trans hS.1 hq))
  refine run_W (K := _) (as' := ((st.take n).reverse.map (cv ad)).toArray) (vx_runS (n := n) (bytes := M.2.1) (maxL := M.2.2.1) (ret := M.2.2.2.1) (Ts := bgL) (own := own) ⟨F.1, F.2.1, F.2.2.1, F.2.2.2.1, F.2.2.2.2.1⟩ hC ?_ ⟨aPre_blind _ _ _ _ _ _ _, fun U hU hW => ⟨rfl, pre_at F Y hH hS U hU hW⟩⟩ rfl (by simp [k0]) hL.1 ?_ (by rw [cs9_eq]; show 2 * 0 + cs9 (st.drop n) ≤ 8; omega) d ⟨by omega, by omega⟩) hS hL hl hrest ha hn0 k4 (fun r μ' hK => hκ _ _ _ _ _ hK) hx
  · exact va_cwS n F.2.2.2.2.1 (bg_cons h1 (bg_cons h2 (bg_cons S.1.1 (bg_cons S.1.2 bg_in)))) rfl rfl rfl S.2 hR
  · show st.map (cv ad) = _
    rw [List.map_reverse, List.reverse_reverse, ← List.map_append, List.take_append_drop]
/-- a constructor's call: as a virtual one, by its name alone -/
theorem ok_callI (F : aFx p l R s m args meth c cc nL own cA D A) (Y : aFy s) {GR : Nat} (hG : GR ≤ R.cells ∧ 2000 * GR ≤ R.slots) {pc ix n ci : Nat} (M : aMd) (S : aSite M n) (hret : M.2.2.2.1 = none) (hin : M.1.name = "<init>") (h1 : Cond.methodLink own ix M.1 ∈ bgL) (h2 : Cond.instanceMethod M.1 ∈ bgL)
    (hR : M.2.2.2.2.1 + 1 ≤ R.frames ∧ 8 + (M.2.2.1 + 11) + 40 * M.2.2.2.2.1 ≤ R.locals) {X : aXs} (hx : aAx p l e R s m args below meth c nL cA D A n0 ad0 Q GR pc X) (d : decode cc pc = .ok (.invokespecial ix, 3)) : aOk p l e R s m args below meth c nL cA D A n0 ad0 Q pc (sCallV n ci (fun as μ K => Ct l M as μ K X) (pc + 3) M.2.2.2.2.2 GR) := by
  obtain ⟨y, cb, mL, ret, dd, GG⟩ := M
  have hret : ret = none := hret
  subst hret
  have hR : dd + 1 ≤ R.frames ∧ 8 + (mL + 11) + 40 * dd ≤ R.locals := hR
  intro κ hκ ls st μ g h H locs ad lsA hH hS hL hM hl hs ha hn0
  unfold sCallV at h
  split at h
  · next b rest hd =>
    obtain ⟨k1, k2, k3, k4, k5⟩ := h
    obtain ⟨e1, e2⟩ := split_n hd
    have hrest : okS (rN μ) rest := fun v hv => hs v (by rw [e2]; exact List.mem_append_right _ (List.mem_cons_of_mem _ hv))
    have hb : okV (rN μ) (aR b) := hs _ (by rw [e2]; exact List.mem_append_right _ List.mem_cons_self)
    have has : okS (rN μ) (aR b :: (st.take n).reverse) := okS_cons hb (fun v hv => hs v (List.mem_of_mem_take (List.mem_reverse.mp hv)))
    have hC := k5 hM has cA D A ad H.size (fun q hq => F.2.2.2.2.2.2.1 q (Nat.le_trans hS.1 hq))
    have e3 : cv ad (aR b) = .ref (ad b) := by show va_rf (cr ad b) = _; rw [cr_ok k1]; rfl
    rw [List.map_cons, e3] at hC
    refine run_W (K := _) (as' := (Value.ref (ad b) :: ((st.take n).reverse.map (cv ad))).toArray) (vx_runI (n := n) (bytes := cb) (maxL := mL) (Ts := bgL) (own := own) ⟨F.1, F.2.1, F.2.2.1, F.2.2.2.1, F.2.2.2.2.1⟩ hC ?_ ⟨aPre_blind _ _ _ _ _ _ _, fun U hU hW => ⟨rfl, pre_at F Y hH hS U hU hW⟩⟩ rfl (by rw [List.length_map, List.length_reverse]; exact e1) hL.1 ?_ (by rw [cs9_eq]; show 2 * 0 + cs9 rest ≤ 8; omega) d ⟨by have k4 : g + GG ≤ GR := k4; show g + GG ≤ _; omega, by have k4 : g + GG ≤ GR := k4; show 2000 * g + 2000 * GG ≤ _; omega⟩) hS hL hl hrest ha hn0 k4 (fun r μ' hK => hκ _ _ _ _ _ hK) hx
    · exact ⟨callB_of n F.2.2.2.2.1 (bg_cons S.1.2 bg_in) rfl rfl rfl (F.2.2.2.2.1 _ S.1.1) (F.2.2.2.2.1 _ h1) S.2 hR, hin, F.2.2.2.2.1 _ h2⟩
    · show st.map (cv ad) = _
      rw [List.map_reverse, List.reverse_reverse]
      conv => lhs; rw [e2]
      rw [List.map_append, List.map_cons, e3]
  · exact h.elim
end ST6
