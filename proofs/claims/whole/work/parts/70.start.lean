/-! ===== the law's start ===== -/
theorem e0_ok : okM (eM [] [] 0) := ⟨fun a k => by
  show in32 (if a < 30 then 0 else oF S0 (a - 30) 0 k)
  split
  · exact ⟨by decide, by decide⟩
  · generalize a - 30 = q
    match k with
    | 0 => show in32 (nmb q); unfold nmb in32; split <;> omega
    | 1 | 2 | 3 | 4 | 5 | 6 | 7 | 8 | 9 | 10 => all_goals (show in32 0; exact ⟨by decide, by decide⟩)
    | n + 11 => show in32 0; exact ⟨by decide, by decide⟩, fun a k => (show in64 0 from ⟨by decide, by decide⟩), fun a k => (show (0 : Nat) < 2 by decide)⟩
theorem rO {s : State} {args : Array Value} {ty : FieldType} (hn : ∀ C, ty ≠ .object C) (h : (Cond.arrayClass ty).before args s = true) : ∃ cA : ClassId, ArrOfT s cA ty ∧ va_RA s cA ty := by
  obtain ⟨cA, kA, comp, h1, h2, h3⟩ := Cond.arrayClass_spec h
  refine ⟨cA, fun n z => ⟨fun k h => ?_, kA, h2, comp, h3⟩, ?_⟩
  · cases h
  · unfold va_RA
    split
    · exact absurd rfl (hn _)
    · exact h1
theorem rQ {s : State} {args : Array Value} {C : String} (h : (Cond.arrayOver (.object C)).before args s = true) : ∃ cA : ClassId, ArrOfT s cA (.object C) ∧ va_RA s cA (.object C) := by
  obtain ⟨comp, cA, kA, h1, h2, h3, h4, h5⟩ := Cond.arrayOver_spec h
  refine ⟨cA, fun n z => ⟨fun k h => ?_, kA, h3, comp, h4⟩, kA, comp, h3, h4, h1, h5⟩
  cases h
set_option maxHeartbeats 4000000 in
theorem whole_start {p : Program} {e : Env} {s : State} {m : MethodId} {below : List Frame} {meth : Method} {c : Code} (l : Launch) (hflags : l.flags = flags0) {b L : Nat} {xs : Nat → Int32} (hL : L ≤ 3072) (C0 : lw_At p s m meth c b L xs) : W p l e room_1 s m #[Value.ref b] below meth c s.heap [] 0 0 (lw_Z below #[Value.ref b] s) (entryFrame m ([Value.ref b] : List Value).toArray 9) := by
  obtain ⟨hx, hb, hr, hml, hown, hts, hX, hbl, hlocks, hgv⟩ := id C0
  have hl : l.stackTraces = false := by unfold Launch.stackTraces; rw [hflags]; decide
  have hbg : ∀ w ∈ bgL, w.before #[Value.ref b] s = true := fun w hw => hts w (bg_lw hw)
  have hs := flat_of_before _ hgv
  obtain ⟨c0, j0, K0⟩ := u_known (C := RX0) (T := TX0) (N := 3) (n := 3) hbg cxX0.1 (hbg _ iaX0)
  obtain ⟨c1, j1, K1⟩ := u_known (C := RX1) (T := TX1) (N := 2) (n := 2) hbg cxX1.1 (hbg _ iaX1)
  obtain ⟨c2, j2, K2⟩ := u_known (C := RX2) (T := TX2) (N := 12) (n := 12) hbg cxX2.1 (hbg _ iaX2)
  obtain ⟨c3, j3, K3⟩ := u_known (C := RX3) (T := TX3) (N := 8) (n := 8) hbg cxX3.1 (hbg _ iaX3)
  obtain ⟨c4, j4, K4⟩ := u_known (C := RX4) (T := TX4) (N := 9) (n := 9) hbg cxX4.1 (hbg _ iaX4)
  obtain ⟨c5, j5, K5⟩ := u_known (C := RX5) (T := TX5) (N := 25) (n := 25) hbg cxX5.1 (hbg _ iaX5)
  obtain ⟨dC, dI, hKc⟩ : ∃ (dC : Nat → ClassId) (dI : Nat → Nat → Nat), ∀ (k : Nat) (q : vw_C), aCl[k]? = some q → u_Kn s q.1 q.2.1 q.2.2 (dC k) (dI k) := by
    refine ⟨fun k => if k = 0 then c0 else if k = 1 then c1 else if k = 2 then c2 else if k = 3 then c3 else if k = 4 then c4 else c5, fun k => if k = 0 then j0 else if k = 1 then j1 else if k = 2 then j2 else if k = 3 then j3 else if k = 4 then j4 else j5, ?_⟩
    intro k q hq
    match k, hq with
    | 0, hq => cases hq; exact K0
    | 1, hq => cases hq; exact K1
    | 2, hq => cases hq; exact K2
    | 3, hq => cases hq; exact K3
    | 4, hq => cases hq; exact K4
    | 5, hq => cases hq; exact K5
    | k + 6, hq => simp [aCl] at hq
  obtain ⟨a0, A0⟩ := rO (fun C h => by cases h) (hbg _ ar_char)
  obtain ⟨a1, A1⟩ := rO (fun C h => by cases h) (hbg _ ar_int)
  obtain ⟨a2, A2⟩ := rO (fun C h => by cases h) (hbg _ ar_long)
  obtain ⟨a3, A3⟩ := rO (fun C h => by cases h) (hbg _ ar_double)
  have hov : (Cond.arrayOver (.object RX2)).before #[Value.ref b] s = true := hts _ (by decide +kernel)
  obtain ⟨a4, A4⟩ := rQ hov
  obtain ⟨cA, hcA⟩ : ∃ cA : Nat → ClassId, ∀ (k : Nat) (q : ClassId × FieldType), (aTs cA)[k]? = some q → ArrOfT s q.1 q.2 ∧ va_RA s q.1 q.2 := by
    refine ⟨fun k => if k = 0 then a0 else if k = 1 then a1 else if k = 2 then a2 else if k = 3 then a3 else a4, ?_⟩
    intro k q hq
    match k, hq with
    | 0, hq => cases hq; exact A0
    | 1, hq => cases hq; exact A1
    | 2, hq => cases hq; exact A2
    | 3, hq => cases hq; exact A3
    | 4, hq => cases hq; exact A4
    | k + 5, hq => simp [aTs] at hq
  have hA : ∀ q : Nat, s.heap.size ≤ q → (fun q : Nat => s.heap.size ≤ q) q := fun _ h => h
  have hiT : (Cond.initialized Bundle.tN).before #[Value.ref b] s = true := hts _ (by decide +kernel)
  have hz1 : vx_Zq Bundle.tN "UNASSIGNED_STACK" Bundle.steD (fun q : Nat => s.heap.size ≤ q) s s.heap := vx_Zqof (hts _ (by decide +kernel)) hiT (hs _ (by decide +kernel)) (fun a ha => Nat.not_le.mpr ha)
  have hz2 : vx_Zq Bundle.tN "SUPPRESSED_SENTINEL" Bundle.listD (fun q : Nat => s.heap.size ≤ q) s s.heap := vx_Zqof (hts _ (by decide +kernel)) hiT (hs _ (by decide +kernel)) (fun a ha => Nat.not_le.mpr ha)
  have hY : aFy s := by
    refine ⟨fun k => ?_, va_AO.of hov, fun q hq => ?_, fun w hw => ?_⟩
    · match k with
      | 0 => exact va_Nw.of (w := .castable (exN 0) (exN 0)) rfl (hts _ (by decide +kernel))
      | 1 => exact va_Nw.of (w := .castable (exN 1) (exN 1)) rfl (hts _ (by decide +kernel))
      | 2 => exact va_Nw.of (w := .castable (exN 2) (exN 2)) rfl (hts _ (by decide +kernel))
      | 3 => exact va_Nw.of (w := .castable (exN 3) (exN 3)) rfl (hts _ (by decide +kernel))
      | 4 => exact va_Nw.of (w := .castable (exN 4) (exN 4)) rfl (hts _ (by decide +kernel))
      | n + 5 => exact va_Nw.of (w := .castable (exN 0) (exN 0)) rfl (hts _ (by decide +kernel))
    · simp only [ncs, List.mem_cons, List.not_mem_nil, or_false] at hq
      rcases hq with rfl | rfl | rfl | rfl | rfl | rfl <;> exact va_Nc.of (hs _ (by decide +kernel))
    · simp only [dcs, List.mem_cons, List.not_mem_nil, or_false] at hw
      rcases hw with rfl | rfl | rfl <;> exact va_Nw.of rfl (hts _ (by decide +kernel))
  have F : aFl l L xs p s m meth c b cA (dC, dI) (fun q : Nat => s.heap.size ≤ q) := ⟨⟨hx, hb, hml, hown, hbg, ⟨hKc, hcA⟩, hA, hlocks, hl, ⟨by decide, by decide⟩, hz1, hz2⟩, hY, ⟨hX, hbl, Nat.not_le.mpr hbl⟩, hr, fun q hq => hq⟩
  have go := lw_all l hl hL (xs := xs) p e s m below meth c b cA (dC, dI) (fun q : Nat => s.heap.size ≤ q) (fun _ => b) F rfl
  have hH : aHp cA (dC, dI) (fun q : Nat => s.heap.size ≤ q) (fun _ => b) (eM [] [] 0) s.heap := ⟨fun k q h => by
    have h : ([] : va_W)[k]? = some q := h
    simp at h, ⟨fun i j p q h => by
    have h : ([] : va_W)[i]? = some p := h
    simp at h, fun k q h => by
    have h : ([] : va_W)[k]? = some q := h
    simp at h⟩⟩
  have hw := go s.heap [] (fun _ => b) _ hH va_S.rf (entry_lo (as := [aR 1]) (fun v hv => by rw [List.mem_singleton.mp hv]; rfl) (by decide)) e0_ok (fun v hv => by
    rcases List.mem_cons.mp hv with q | q
    · rw [q]; exact (show (1 : Nat) < 2 by decide)
    · rw [(List.mem_replicate (n := 8).mp q).2]; exact trivial) (fun v hv => by cases hv) (fun i _ => rfl) (Nat.le_refl _)
  rw [lg_entry_eq]
  exact hw
