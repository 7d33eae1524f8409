/-! ===== the law's wrappers: methods, tables of steps, by program (gen/mkwrap.py) ===== -/
theorem dL_send_0 : decode cL_send 0 = .ok (.aload 6, 2) := by decide +kernel
theorem dL_send_2 : decode cL_send 2 = .ok (.iconst 0, 1) := by decide +kernel
theorem dL_send_3 : decode cL_send 3 = .ok (.aload_n 0, 1) := by decide +kernel
theorem dL_send_4 : decode cL_send 4 = .ok (.iload_n 1, 1) := by decide +kernel
theorem dL_send_5 : decode cL_send 5 = .ok (.iload_n 2, 1) := by decide +kernel
theorem dL_send_6 : decode cL_send 6 = .ok (.iload_n 3, 1) := by decide +kernel
theorem dL_send_7 : decode cL_send 7 = .ok (.iload 4, 2) := by decide +kernel
theorem dL_send_9 : decode cL_send 9 = .ok (.iload 5, 2) := by decide +kernel
theorem dL_send_11 : decode cL_send 11 = .ok (.invokevirtual 7, 3) := by decide +kernel
theorem dL_send_14 : decode cL_send 14 = .ok (.i2l, 1) := by decide +kernel
theorem dL_send_15 : decode cL_send 15 = .ok (.lastore, 1) := by decide +kernel
theorem dL_send_16 : decode cL_send 16 = .ok (.goto 11, 3) := by decide +kernel
theorem dL_send_19 : decode cL_send 19 = .ok (.astore 7, 2) := by decide +kernel
theorem dL_send_21 : decode cL_send 21 = .ok (.iconst 1, 1) := by decide +kernel
theorem dL_send_22 : decode cL_send 22 = .ok (.ireturn, 1) := by decide +kernel
theorem dL_send_23 : decode cL_send 23 = .ok (.astore 7, 2) := by decide +kernel
theorem dL_send_25 : decode cL_send 25 = .ok (.iconst 2, 1) := by decide +kernel
theorem dL_send_26 : decode cL_send 26 = .ok (.ireturn, 1) := by decide +kernel
theorem dL_send_27 : decode cL_send 27 = .ok (.iconst 0, 1) := by decide +kernel
theorem dL_send_28 : decode cL_send 28 = .ok (.ireturn, 1) := by decide +kernel
abbrev mdL_send : aMd := (yL_send, cL_send, 8, (some FieldType.int), 8, 3)
abbrev hhL_send : List (Nat × Nat × Nat × Nat) := [(0, 16, 19, 13), (0, 16, 23, 15)]
theorem siL_send : aSiteH mdL_send hhL_send 7 := ⟨⟨niRL, bg 228 (by decide +kernel) rfl⟩, by decide +kernel, by decide +kernel, by decide +kernel⟩
theorem stL_send : Cond.static yL_send ∈ bgL := bg 227 (by decide +kernel) rfl
theorem rwL_send : ∀ h ∈ ([(1, 21), (2, 25)] : List (Nat × Nat)), hRow (tableOf hhL_send) RL cL_send 11 8 h.1 h.2 := List.forall_mem_cons.mpr ⟨⟨[], ⟨0, 16, 19, 13⟩, [⟨0, 16, 23, 15⟩], rfl, (fun z hz => nomatch hz), by decide, by decide, ckRL_13, Or.inl ⟨7, by decide, dL_send_19, rfl⟩⟩, List.forall_mem_cons.mpr ⟨⟨[⟨0, 16, 19, 13⟩], ⟨0, 16, 23, 15⟩, [], rfl, (List.forall_mem_cons.mpr ⟨Or.inr ⟨by decide, 1, ckRL_13, by decide⟩, (fun z hz => nomatch hz)⟩), by decide, by decide, ckRL_15, Or.inl ⟨7, by decide, dL_send_23, rfl⟩⟩, (fun z hz => nomatch hz)⟩⟩
def tbL_send (l : Launch) (K : aRs) : aTb := [
  (0, sLd 6 2 isR),
  (2, sPush (aI 0) 3),
  (3, sLd 0 4 isR),
  (4, sLd 1 5 isI),
  (5, sLd 2 6 isI),
  (6, sLd 3 7 isI),
  (7, sLd 4 9 isI),
  (9, sLd 5 11 isI),
  (11, sCallVH 5 4 (fun as μ K X => Ct l mdX4_send as μ K X) 14 3 3 8 [(1, 21), (2, 25)]),
  (14, sI2l 15),
  (15, sAstL 16),
  (16, sGoto 27),
  (19, sSt 7 21 isR),
  (21, sPush (aI 1) 22),
  (22, sRetI .int 3 K),
  (23, sSt 7 25 isR),
  (25, sPush (aI 2) 26),
  (26, sRetI .int 3 K),
  (27, sPush (aI 0) 28),
  (28, sRetI .int 3 K)]
theorem snL_send (l : Launch) (K : aRs) (n0 : Nat) : ∀ q ∈ tbL_send l K, Snd (BdH l mdL_send hhL_send K n0) q.1 q.2 :=
  tcG (sH (fun p e s m args below meth c cA D A ad0 h => ok_aload h.1 dL_send_0)) <|
  tcG (sH (fun p e s m args below meth c cA D A ad0 h => ok_iconst h.1 ⟨by decide, by decide⟩ dL_send_2)) <|
  tcG (sH (fun p e s m args below meth c cA D A ad0 h => ok_aload_n h.1 0 rfl dL_send_3)) <|
  tcG (sH (fun p e s m args below meth c cA D A ad0 h => ok_iload_n h.1 1 rfl dL_send_4)) <|
  tcG (sH (fun p e s m args below meth c cA D A ad0 h => ok_iload_n h.1 2 rfl dL_send_5)) <|
  tcG (sH (fun p e s m args below meth c cA D A ad0 h => ok_iload_n h.1 3 rfl dL_send_6)) <|
  tcG (sH (fun p e s m args below meth c cA D A ad0 h => ok_iload h.1 dL_send_7)) <|
  tcG (sH (fun p e s m args below meth c cA D A ad0 h => ok_iload h.1 dL_send_9)) <|
  tcG (sH (fun p e s m args below meth c cA D A ad0 h => ok_callVH h.1 h.2.1 ⟨Nat.le_refl _, Nat.le_refl _⟩ mdX4_send siX4_send cxX4 mkRL_7 imX4_send seX4_send ⟨by decide, by decide⟩ (by rw [h.2.2.1]; exact rwL_send) dL_send_11)) <|
  tcG (sH (fun p e s m args below meth c cA D A ad0 h => ok_i2l h.1 dL_send_14)) <|
  tcG (sH (fun p e s m args below meth c cA D A ad0 h => ok_last h.1 dL_send_15)) <|
  tcG (sH (fun p e s m args below meth c cA D A ad0 h => ok_goto h.1 27 (by decide) dL_send_16)) <|
  tcG (sH (fun p e s m args below meth c cA D A ad0 h => ok_astore h.1 (by decide) dL_send_19)) <|
  tcG (sH (fun p e s m args below meth c cA D A ad0 h => ok_iconst h.1 ⟨by decide, by decide⟩ dL_send_21)) <|
  tcG (sH (fun p e s m args below meth c cA D A ad0 h => ok_ireturn h.1 h.2.2.2.1 (Or.inl rfl) dL_send_22)) <|
  tcG (sH (fun p e s m args below meth c cA D A ad0 h => ok_astore h.1 (by decide) dL_send_23)) <|
  tcG (sH (fun p e s m args below meth c cA D A ad0 h => ok_iconst h.1 ⟨by decide, by decide⟩ dL_send_25)) <|
  tcG (sH (fun p e s m args below meth c cA D A ad0 h => ok_ireturn h.1 h.2.2.2.1 (Or.inl rfl) dL_send_26)) <|
  tcG (sH (fun p e s m args below meth c cA D A ad0 h => ok_iconst h.1 ⟨by decide, by decide⟩ dL_send_27)) <|
  tcG (sH (fun p e s m args below meth c cA D A ad0 h => ok_ireturn h.1 h.2.2.2.1 (Or.inl rfl) dL_send_28)) <|
  tnG
abbrev cuL_send : List Nat := [14, 21, 25]
theorem tL_send_0 (l : Launch) (K : aRs) : tb (tbL_send l K) 0 = sLd 6 2 isR := (rfl)
theorem wL_send_0 {l : Launch} {K : aRs} {J : aK} {W : Nat → aK} (hW : isW (tbL_send l K) cuL_send J W) (n : Nat) (ls st : List aV) (μ : aM) (g : Nat) : W (n + 1) 0 ls st μ g = (sLd 6 2 isR) (W n) ls st μ g := (hW n 0 ls st μ g).trans rfl
theorem wL_send_2 {l : Launch} {K : aRs} {J : aK} {W : Nat → aK} (hW : isW (tbL_send l K) cuL_send J W) (n : Nat) (ls st : List aV) (μ : aM) (g : Nat) : W (n + 1) 2 ls st μ g = (sPush (aI 0) 3) (W n) ls st μ g := (hW n 2 ls st μ g).trans rfl
theorem wL_send_3 {l : Launch} {K : aRs} {J : aK} {W : Nat → aK} (hW : isW (tbL_send l K) cuL_send J W) (n : Nat) (ls st : List aV) (μ : aM) (g : Nat) : W (n + 1) 3 ls st μ g = (sLd 0 4 isR) (W n) ls st μ g := (hW n 3 ls st μ g).trans rfl
theorem wL_send_4 {l : Launch} {K : aRs} {J : aK} {W : Nat → aK} (hW : isW (tbL_send l K) cuL_send J W) (n : Nat) (ls st : List aV) (μ : aM) (g : Nat) : W (n + 1) 4 ls st μ g = (sLd 1 5 isI) (W n) ls st μ g := (hW n 4 ls st μ g).trans rfl
theorem wL_send_5 {l : Launch} {K : aRs} {J : aK} {W : Nat → aK} (hW : isW (tbL_send l K) cuL_send J W) (n : Nat) (ls st : List aV) (μ : aM) (g : Nat) : W (n + 1) 5 ls st μ g = (sLd 2 6 isI) (W n) ls st μ g := (hW n 5 ls st μ g).trans rfl
theorem wL_send_6 {l : Launch} {K : aRs} {J : aK} {W : Nat → aK} (hW : isW (tbL_send l K) cuL_send J W) (n : Nat) (ls st : List aV) (μ : aM) (g : Nat) : W (n + 1) 6 ls st μ g = (sLd 3 7 isI) (W n) ls st μ g := (hW n 6 ls st μ g).trans rfl
theorem wL_send_7 {l : Launch} {K : aRs} {J : aK} {W : Nat → aK} (hW : isW (tbL_send l K) cuL_send J W) (n : Nat) (ls st : List aV) (μ : aM) (g : Nat) : W (n + 1) 7 ls st μ g = (sLd 4 9 isI) (W n) ls st μ g := (hW n 7 ls st μ g).trans rfl
theorem wL_send_9 {l : Launch} {K : aRs} {J : aK} {W : Nat → aK} (hW : isW (tbL_send l K) cuL_send J W) (n : Nat) (ls st : List aV) (μ : aM) (g : Nat) : W (n + 1) 9 ls st μ g = (sLd 5 11 isI) (W n) ls st μ g := (hW n 9 ls st μ g).trans rfl
theorem wL_send_11 {l : Launch} {K : aRs} {J : aK} {W : Nat → aK} (hW : isW (tbL_send l K) cuL_send J W) (n : Nat) (ls st : List aV) (μ : aM) (g : Nat) : W (n + 1) 11 ls st μ g = (sCallVH 5 4 (fun as μ K X => Ct l mdX4_send as μ K X) 14 3 3 8 [(1, 21), (2, 25)]) (W n) ls st μ g := (hW n 11 ls st μ g).trans rfl
theorem tL_send_14 (l : Launch) (K : aRs) : tb (tbL_send l K) 14 = sI2l 15 := (rfl)
theorem wL_send_14 {l : Launch} {K : aRs} {J : aK} {W : Nat → aK} (hW : isW (tbL_send l K) cuL_send J W) (n : Nat) (ls st : List aV) (μ : aM) (g : Nat) : W (n + 1) 14 ls st μ g = J 14 ls st μ g := (hW n 14 ls st μ g).trans rfl
theorem wL_send_15 {l : Launch} {K : aRs} {J : aK} {W : Nat → aK} (hW : isW (tbL_send l K) cuL_send J W) (n : Nat) (ls st : List aV) (μ : aM) (g : Nat) : W (n + 1) 15 ls st μ g = (sAstL 16) (W n) ls st μ g := (hW n 15 ls st μ g).trans rfl
theorem wL_send_16 {l : Launch} {K : aRs} {J : aK} {W : Nat → aK} (hW : isW (tbL_send l K) cuL_send J W) (n : Nat) (ls st : List aV) (μ : aM) (g : Nat) : W (n + 1) 16 ls st μ g = (sGoto 27) (W n) ls st μ g := (hW n 16 ls st μ g).trans rfl
theorem wL_send_19 {l : Launch} {K : aRs} {J : aK} {W : Nat → aK} (hW : isW (tbL_send l K) cuL_send J W) (n : Nat) (ls st : List aV) (μ : aM) (g : Nat) : W (n + 1) 19 ls st μ g = (sSt 7 21 isR) (W n) ls st μ g := (hW n 19 ls st μ g).trans rfl
theorem tL_send_21 (l : Launch) (K : aRs) : tb (tbL_send l K) 21 = sPush (aI 1) 22 := (rfl)
theorem wL_send_21 {l : Launch} {K : aRs} {J : aK} {W : Nat → aK} (hW : isW (tbL_send l K) cuL_send J W) (n : Nat) (ls st : List aV) (μ : aM) (g : Nat) : W (n + 1) 21 ls st μ g = J 21 ls st μ g := (hW n 21 ls st μ g).trans rfl
theorem wL_send_22 {l : Launch} {K : aRs} {J : aK} {W : Nat → aK} (hW : isW (tbL_send l K) cuL_send J W) (n : Nat) (ls st : List aV) (μ : aM) (g : Nat) : W (n + 1) 22 ls st μ g = (sRetI .int 3 K) (W n) ls st μ g := (hW n 22 ls st μ g).trans rfl
theorem wL_send_23 {l : Launch} {K : aRs} {J : aK} {W : Nat → aK} (hW : isW (tbL_send l K) cuL_send J W) (n : Nat) (ls st : List aV) (μ : aM) (g : Nat) : W (n + 1) 23 ls st μ g = (sSt 7 25 isR) (W n) ls st μ g := (hW n 23 ls st μ g).trans rfl
theorem tL_send_25 (l : Launch) (K : aRs) : tb (tbL_send l K) 25 = sPush (aI 2) 26 := (rfl)
theorem wL_send_25 {l : Launch} {K : aRs} {J : aK} {W : Nat → aK} (hW : isW (tbL_send l K) cuL_send J W) (n : Nat) (ls st : List aV) (μ : aM) (g : Nat) : W (n + 1) 25 ls st μ g = J 25 ls st μ g := (hW n 25 ls st μ g).trans rfl
theorem wL_send_26 {l : Launch} {K : aRs} {J : aK} {W : Nat → aK} (hW : isW (tbL_send l K) cuL_send J W) (n : Nat) (ls st : List aV) (μ : aM) (g : Nat) : W (n + 1) 26 ls st μ g = (sRetI .int 3 K) (W n) ls st μ g := (hW n 26 ls st μ g).trans rfl
theorem wL_send_27 {l : Launch} {K : aRs} {J : aK} {W : Nat → aK} (hW : isW (tbL_send l K) cuL_send J W) (n : Nat) (ls st : List aV) (μ : aM) (g : Nat) : W (n + 1) 27 ls st μ g = (sPush (aI 0) 28) (W n) ls st μ g := (hW n 27 ls st μ g).trans rfl
theorem wL_send_28 {l : Launch} {K : aRs} {J : aK} {W : Nat → aK} (hW : isW (tbL_send l K) cuL_send J W) (n : Nat) (ls st : List aV) (μ : aM) (g : Nat) : W (n + 1) 28 ls st μ g = (sRetI .int 3 K) (W n) ls st μ g := (hW n 28 ls st μ g).trans rfl
theorem dL_sendStop_0 : decode cL_sendStop 0 = .ok (.aload 6, 2) := by decide +kernel
theorem dL_sendStop_2 : decode cL_sendStop 2 = .ok (.iconst 0, 1) := by decide +kernel
theorem dL_sendStop_3 : decode cL_sendStop 3 = .ok (.aload_n 0, 1) := by decide +kernel
theorem dL_sendStop_4 : decode cL_sendStop 4 = .ok (.iload_n 1, 1) := by decide +kernel
theorem dL_sendStop_5 : decode cL_sendStop 5 = .ok (.iload_n 2, 1) := by decide +kernel
theorem dL_sendStop_6 : decode cL_sendStop 6 = .ok (.iload_n 3, 1) := by decide +kernel
theorem dL_sendStop_7 : decode cL_sendStop 7 = .ok (.iload 4, 2) := by decide +kernel
theorem dL_sendStop_9 : decode cL_sendStop 9 = .ok (.iload 5, 2) := by decide +kernel
theorem dL_sendStop_11 : decode cL_sendStop 11 = .ok (.invokevirtual 17, 3) := by decide +kernel
theorem dL_sendStop_14 : decode cL_sendStop 14 = .ok (.i2l, 1) := by decide +kernel
theorem dL_sendStop_15 : decode cL_sendStop 15 = .ok (.lastore, 1) := by decide +kernel
theorem dL_sendStop_16 : decode cL_sendStop 16 = .ok (.goto 11, 3) := by decide +kernel
theorem dL_sendStop_19 : decode cL_sendStop 19 = .ok (.astore 7, 2) := by decide +kernel
theorem dL_sendStop_21 : decode cL_sendStop 21 = .ok (.iconst 1, 1) := by decide +kernel
theorem dL_sendStop_22 : decode cL_sendStop 22 = .ok (.ireturn, 1) := by decide +kernel
theorem dL_sendStop_23 : decode cL_sendStop 23 = .ok (.astore 7, 2) := by decide +kernel
theorem dL_sendStop_25 : decode cL_sendStop 25 = .ok (.iconst 2, 1) := by decide +kernel
theorem dL_sendStop_26 : decode cL_sendStop 26 = .ok (.ireturn, 1) := by decide +kernel
theorem dL_sendStop_27 : decode cL_sendStop 27 = .ok (.iconst 0, 1) := by decide +kernel
theorem dL_sendStop_28 : decode cL_sendStop 28 = .ok (.ireturn, 1) := by decide +kernel
abbrev mdL_sendStop : aMd := (yL_sendStop, cL_sendStop, 8, (some FieldType.int), 7, 3)
abbrev hhL_sendStop : List (Nat × Nat × Nat × Nat) := [(0, 16, 19, 13), (0, 16, 23, 15)]
theorem siL_sendStop : aSiteH mdL_sendStop hhL_sendStop 7 := ⟨⟨niRL, bg 470 (by decide +kernel) rfl⟩, by decide +kernel, by decide +kernel, by decide +kernel⟩
theorem stL_sendStop : Cond.static yL_sendStop ∈ bgL := bg 469 (by decide +kernel) rfl
theorem rwL_sendStop : ∀ h ∈ ([(1, 21), (2, 25)] : List (Nat × Nat)), hRow (tableOf hhL_sendStop) RL cL_sendStop 11 8 h.1 h.2 := List.forall_mem_cons.mpr ⟨⟨[], ⟨0, 16, 19, 13⟩, [⟨0, 16, 23, 15⟩], rfl, (fun z hz => nomatch hz), by decide, by decide, ckRL_13, Or.inl ⟨7, by decide, dL_sendStop_19, rfl⟩⟩, List.forall_mem_cons.mpr ⟨⟨[⟨0, 16, 19, 13⟩], ⟨0, 16, 23, 15⟩, [], rfl, (List.forall_mem_cons.mpr ⟨Or.inr ⟨by decide, 1, ckRL_13, by decide⟩, (fun z hz => nomatch hz)⟩), by decide, by decide, ckRL_15, Or.inl ⟨7, by decide, dL_sendStop_23, rfl⟩⟩, (fun z hz => nomatch hz)⟩⟩
def tbL_sendStop (l : Launch) (K : aRs) : aTb := [
  (0, sLd 6 2 isR),
  (2, sPush (aI 0) 3),
  (3, sLd 0 4 isR),
  (4, sLd 1 5 isI),
  (5, sLd 2 6 isI),
  (6, sLd 3 7 isI),
  (7, sLd 4 9 isI),
  (9, sLd 5 11 isI),
  (11, sCallVH 5 4 (fun as μ K X => Ct l mdX4_sendStop as μ K X) 14 3 3 8 [(1, 21), (2, 25)]),
  (14, sI2l 15),
  (15, sAstL 16),
  (16, sGoto 27),
  (19, sSt 7 21 isR),
  (21, sPush (aI 1) 22),
  (22, sRetI .int 3 K),
  (23, sSt 7 25 isR),
  (25, sPush (aI 2) 26),
  (26, sRetI .int 3 K),
  (27, sPush (aI 0) 28),
  (28, sRetI .int 3 K)]
theorem snL_sendStop (l : Launch) (K : aRs) (n0 : Nat) : ∀ q ∈ tbL_sendStop l K, Snd (BdH l mdL_sendStop hhL_sendStop K n0) q.1 q.2 :=
  tcG (sH (fun p e s m args below meth c cA D A ad0 h => ok_aload h.1 dL_sendStop_0)) <|
  tcG (sH (fun p e s m args below meth c cA D A ad0 h => ok_iconst h.1 ⟨by decide, by decide⟩ dL_sendStop_2)) <|
  tcG (sH (fun p e s m args below meth c cA D A ad0 h => ok_aload_n h.1 0 rfl dL_sendStop_3)) <|
  tcG (sH (fun p e s m args below meth c cA D A ad0 h => ok_iload_n h.1 1 rfl dL_sendStop_4)) <|
  tcG (sH (fun p e s m args below meth c cA D A ad0 h => ok_iload_n h.1 2 rfl dL_sendStop_5)) <|
  tcG (sH (fun p e s m args below meth c cA D A ad0 h => ok_iload_n h.1 3 rfl dL_sendStop_6)) <|
  tcG (sH (fun p e s m args below meth c cA D A ad0 h => ok_iload h.1 dL_sendStop_7)) <|
  tcG (sH (fun p e s m args below meth c cA D A ad0 h => ok_iload h.1 dL_sendStop_9)) <|
  tcG (sH (fun p e s m args below meth c cA D A ad0 h => ok_callVH h.1 h.2.1 ⟨Nat.le_refl _, Nat.le_refl _⟩ mdX4_sendStop siX4_sendStop cxX4 mkRL_17 imX4_sendStop seX4_sendStop ⟨by decide, by decide⟩ (by rw [h.2.2.1]; exact rwL_sendStop) dL_sendStop_11)) <|
  tcG (sH (fun p e s m args below meth c cA D A ad0 h => ok_i2l h.1 dL_sendStop_14)) <|
  tcG (sH (fun p e s m args below meth c cA D A ad0 h => ok_last h.1 dL_sendStop_15)) <|
  tcG (sH (fun p e s m args below meth c cA D A ad0 h => ok_goto h.1 27 (by decide) dL_sendStop_16)) <|
  tcG (sH (fun p e s m args below meth c cA D A ad0 h => ok_astore h.1 (by decide) dL_sendStop_19)) <|
  tcG (sH (fun p e s m args below meth c cA D A ad0 h => ok_iconst h.1 ⟨by decide, by decide⟩ dL_sendStop_21)) <|
  tcG (sH (fun p e s m args below meth c cA D A ad0 h => ok_ireturn h.1 h.2.2.2.1 (Or.inl rfl) dL_sendStop_22)) <|
  tcG (sH (fun p e s m args below meth c cA D A ad0 h => ok_astore h.1 (by decide) dL_sendStop_23)) <|
  tcG (sH (fun p e s m args below meth c cA D A ad0 h => ok_iconst h.1 ⟨by decide, by decide⟩ dL_sendStop_25)) <|
  tcG (sH (fun p e s m args below meth c cA D A ad0 h => ok_ireturn h.1 h.2.2.2.1 (Or.inl rfl) dL_sendStop_26)) <|
  tcG (sH (fun p e s m args below meth c cA D A ad0 h => ok_iconst h.1 ⟨by decide, by decide⟩ dL_sendStop_27)) <|
  tcG (sH (fun p e s m args below meth c cA D A ad0 h => ok_ireturn h.1 h.2.2.2.1 (Or.inl rfl) dL_sendStop_28)) <|
  tnG
abbrev cuL_sendStop : List Nat := [14, 21, 25]
theorem tL_sendStop_0 (l : Launch) (K : aRs) : tb (tbL_sendStop l K) 0 = sLd 6 2 isR := (rfl)
theorem wL_sendStop_0 {l : Launch} {K : aRs} {J : aK} {W : Nat → aK} (hW : isW (tbL_sendStop l K) cuL_sendStop J W) (n : Nat) (ls st : List aV) (μ : aM) (g : Nat) : W (n + 1) 0 ls st μ g = (sLd 6 2 isR) (W n) ls st μ g := (hW n 0 ls st μ g).trans rfl
theorem wL_sendStop_2 {l : Launch} {K : aRs} {J : aK} {W : Nat → aK} (hW : isW (tbL_sendStop l K) cuL_sendStop J W) (n : Nat) (ls st : List aV) (μ : aM) (g : Nat) : W (n + 1) 2 ls st μ g = (sPush (aI 0) 3) (W n) ls st μ g := (hW n 2 ls st μ g).trans rfl
theorem wL_sendStop_3 {l : Launch} {K : aRs} {J : aK} {W : Nat → aK} (hW : isW (tbL_sendStop l K) cuL_sendStop J W) (n : Nat) (ls st : List aV) (μ : aM) (g : Nat) : W (n + 1) 3 ls st μ g = (sLd 0 4 isR) (W n) ls st μ g := (hW n 3 ls st μ g).trans rfl
theorem wL_sendStop_4 {l : Launch} {K : aRs} {J : aK} {W : Nat → aK} (hW : isW (tbL_sendStop l K) cuL_sendStop J W) (n : Nat) (ls st : List aV) (μ : aM) (g : Nat) : W (n + 1) 4 ls st μ g = (sLd 1 5 isI) (W n) ls st μ g := (hW n 4 ls st μ g).trans rfl
theorem wL_sendStop_5 {l : Launch} {K : aRs} {J : aK} {W : Nat → aK} (hW : isW (tbL_sendStop l K) cuL_sendStop J W) (n : Nat) (ls st : List aV) (μ : aM) (g : Nat) : W (n + 1) 5 ls st μ g = (sLd 2 6 isI) (W n) ls st μ g := (hW n 5 ls st μ g).trans rfl
theorem wL_sendStop_6 {l : Launch} {K : aRs} {J : aK} {W : Nat → aK} (hW : isW (tbL_sendStop l K) cuL_sendStop J W) (n : Nat) (ls st : List aV) (μ : aM) (g : Nat) : W (n + 1) 6 ls st μ g = (sLd 3 7 isI) (W n) ls st μ g := (hW n 6 ls st μ g).trans rfl
theorem wL_sendStop_7 {l : Launch} {K : aRs} {J : aK} {W : Nat → aK} (hW : isW (tbL_sendStop l K) cuL_sendStop J W) (n : Nat) (ls st : List aV) (μ : aM) (g : Nat) : W (n + 1) 7 ls st μ g = (sLd 4 9 isI) (W n) ls st μ g := (hW n 7 ls st μ g).trans rfl
theorem wL_sendStop_9 {l : Launch} {K : aRs} {J : aK} {W : Nat → aK} (hW : isW (tbL_sendStop l K) cuL_sendStop J W) (n : Nat) (ls st : List aV) (μ : aM) (g : Nat) : W (n + 1) 9 ls st μ g = (sLd 5 11 isI) (W n) ls st μ g := (hW n 9 ls st μ g).trans rfl
theorem wL_sendStop_11 {l : Launch} {K : aRs} {J : aK} {W : Nat → aK} (hW : isW (tbL_sendStop l K) cuL_sendStop J W) (n : Nat) (ls st : List aV) (μ : aM) (g : Nat) : W (n + 1) 11 ls st μ g = (sCallVH 5 4 (fun as μ K X => Ct l mdX4_sendStop as μ K X) 14 3 3 8 [(1, 21), (2, 25)]) (W n) ls st μ g := (hW n 11 ls st μ g).trans rfl
theorem tL_sendStop_14 (l : Launch) (K : aRs) : tb (tbL_sendStop l K) 14 = sI2l 15 := (rfl)
theorem wL_sendStop_14 {l : Launch} {K : aRs} {J : aK} {W : Nat → aK} (hW : isW (tbL_sendStop l K) cuL_sendStop J W) (n : Nat) (ls st : List aV) (μ : aM) (g : Nat) : W (n + 1) 14 ls st μ g = J 14 ls st μ g := (hW n 14 ls st μ g).trans rfl
theorem wL_sendStop_15 {l : Launch} {K : aRs} {J : aK} {W : Nat → aK} (hW : isW (tbL_sendStop l K) cuL_sendStop J W) (n : Nat) (ls st : List aV) (μ : aM) (g : Nat) : W (n + 1) 15 ls st μ g = (sAstL 16) (W n) ls st μ g := (hW n 15 ls st μ g).trans rfl
theorem wL_sendStop_16 {l : Launch} {K : aRs} {J : aK} {W : Nat → aK} (hW : isW (tbL_sendStop l K) cuL_sendStop J W) (n : Nat) (ls st : List aV) (μ : aM) (g : Nat) : W (n + 1) 16 ls st μ g = (sGoto 27) (W n) ls st μ g := (hW n 16 ls st μ g).trans rfl
theorem wL_sendStop_19 {l : Launch} {K : aRs} {J : aK} {W : Nat → aK} (hW : isW (tbL_sendStop l K) cuL_sendStop J W) (n : Nat) (ls st : List aV) (μ : aM) (g : Nat) : W (n + 1) 19 ls st μ g = (sSt 7 21 isR) (W n) ls st μ g := (hW n 19 ls st μ g).trans rfl
theorem tL_sendStop_21 (l : Launch) (K : aRs) : tb (tbL_sendStop l K) 21 = sPush (aI 1) 22 := (rfl)
theorem wL_sendStop_21 {l : Launch} {K : aRs} {J : aK} {W : Nat → aK} (hW : isW (tbL_sendStop l K) cuL_sendStop J W) (n : Nat) (ls st : List aV) (μ : aM) (g : Nat) : W (n + 1) 21 ls st μ g = J 21 ls st μ g := (hW n 21 ls st μ g).trans rfl
theorem wL_sendStop_22 {l : Launch} {K : aRs} {J : aK} {W : Nat → aK} (hW : isW (tbL_sendStop l K) cuL_sendStop J W) (n : Nat) (ls st : List aV) (μ : aM) (g : Nat) : W (n + 1) 22 ls st μ g = (sRetI .int 3 K) (W n) ls st μ g := (hW n 22 ls st μ g).trans rfl
theorem wL_sendStop_23 {l : Launch} {K : aRs} {J : aK} {W : Nat → aK} (hW : isW (tbL_sendStop l K) cuL_sendStop J W) (n : Nat) (ls st : List aV) (μ : aM) (g : Nat) : W (n + 1) 23 ls st μ g = (sSt 7 25 isR) (W n) ls st μ g := (hW n 23 ls st μ g).trans rfl
theorem tL_sendStop_25 (l : Launch) (K : aRs) : tb (tbL_sendStop l K) 25 = sPush (aI 2) 26 := (rfl)
theorem wL_sendStop_25 {l : Launch} {K : aRs} {J : aK} {W : Nat → aK} (hW : isW (tbL_sendStop l K) cuL_sendStop J W) (n : Nat) (ls st : List aV) (μ : aM) (g : Nat) : W (n + 1) 25 ls st μ g = J 25 ls st μ g := (hW n 25 ls st μ g).trans rfl
theorem wL_sendStop_26 {l : Launch} {K : aRs} {J : aK} {W : Nat → aK} (hW : isW (tbL_sendStop l K) cuL_sendStop J W) (n : Nat) (ls st : List aV) (μ : aM) (g : Nat) : W (n + 1) 26 ls st μ g = (sRetI .int 3 K) (W n) ls st μ g := (hW n 26 ls st μ g).trans rfl
theorem wL_sendStop_27 {l : Launch} {K : aRs} {J : aK} {W : Nat → aK} (hW : isW (tbL_sendStop l K) cuL_sendStop J W) (n : Nat) (ls st : List aV) (μ : aM) (g : Nat) : W (n + 1) 27 ls st μ g = (sPush (aI 0) 28) (W n) ls st μ g := (hW n 27 ls st μ g).trans rfl
theorem wL_sendStop_28 {l : Launch} {K : aRs} {J : aK} {W : Nat → aK} (hW : isW (tbL_sendStop l K) cuL_sendStop J W) (n : Nat) (ls st : List aV) (μ : aM) (g : Nat) : W (n + 1) 28 ls st μ g = (sRetI .int 3 K) (W n) ls st μ g := (hW n 28 ls st μ g).trans rfl
theorem dL_cancel_0 : decode cL_cancel 0 = .ok (.aload_n 2, 1) := by decide +kernel
theorem dL_cancel_1 : decode cL_cancel 1 = .ok (.iconst 0, 1) := by decide +kernel
theorem dL_cancel_2 : decode cL_cancel 2 = .ok (.aload_n 0, 1) := by decide +kernel
theorem dL_cancel_3 : decode cL_cancel 3 = .ok (.iload_n 1, 1) := by decide +kernel
theorem dL_cancel_4 : decode cL_cancel 4 = .ok (.invokevirtual 20, 3) := by decide +kernel
theorem dL_cancel_7 : decode cL_cancel 7 = .ok (.i2l, 1) := by decide +kernel
theorem dL_cancel_8 : decode cL_cancel 8 = .ok (.lastore, 1) := by decide +kernel
theorem dL_cancel_9 : decode cL_cancel 9 = .ok (.goto 9, 3) := by decide +kernel
theorem dL_cancel_12 : decode cL_cancel 12 = .ok (.astore_n 3, 1) := by decide +kernel
theorem dL_cancel_13 : decode cL_cancel 13 = .ok (.iconst 1, 1) := by decide +kernel
theorem dL_cancel_14 : decode cL_cancel 14 = .ok (.ireturn, 1) := by decide +kernel
theorem dL_cancel_15 : decode cL_cancel 15 = .ok (.astore_n 3, 1) := by decide +kernel
theorem dL_cancel_16 : decode cL_cancel 16 = .ok (.iconst 2, 1) := by decide +kernel
theorem dL_cancel_17 : decode cL_cancel 17 = .ok (.ireturn, 1) := by decide +kernel
theorem dL_cancel_18 : decode cL_cancel 18 = .ok (.iconst 0, 1) := by decide +kernel
theorem dL_cancel_19 : decode cL_cancel 19 = .ok (.ireturn, 1) := by decide +kernel
abbrev mdL_cancel : aMd := (yL_cancel, cL_cancel, 4, (some FieldType.int), 8, 2)
abbrev hhL_cancel : List (Nat × Nat × Nat × Nat) := [(0, 9, 12, 24), (0, 9, 15, 15)]
theorem siL_cancel : aSiteH mdL_cancel hhL_cancel 3 := ⟨⟨niRL, bg 477 (by decide +kernel) rfl⟩, by decide +kernel, by decide +kernel, by decide +kernel⟩
theorem stL_cancel : Cond.static yL_cancel ∈ bgL := bg 476 (by decide +kernel) rfl
theorem rwL_cancel : ∀ h ∈ ([(3, 13), (2, 16)] : List (Nat × Nat)), hRow (tableOf hhL_cancel) RL cL_cancel 4 4 h.1 h.2 := List.forall_mem_cons.mpr ⟨⟨[], ⟨0, 9, 12, 24⟩, [⟨0, 9, 15, 15⟩], rfl, (fun z hz => nomatch hz), by decide, by decide, ckRL_24, Or.inr ⟨3, by decide, dL_cancel_12, rfl⟩⟩, List.forall_mem_cons.mpr ⟨⟨[⟨0, 9, 12, 24⟩], ⟨0, 9, 15, 15⟩, [], rfl, (List.forall_mem_cons.mpr ⟨Or.inr ⟨by decide, 3, ckRL_24, by decide⟩, (fun z hz => nomatch hz)⟩), by decide, by decide, ckRL_15, Or.inr ⟨3, by decide, dL_cancel_15, rfl⟩⟩, (fun z hz => nomatch hz)⟩⟩
def tbL_cancel (l : Launch) (K : aRs) : aTb := [
  (0, sLd 2 1 isR),
  (1, sPush (aI 0) 2),
  (2, sLd 0 3 isR),
  (3, sLd 1 4 isI),
  (4, sCallVH 1 4 (fun as μ K X => Ct l mdX4_cancel as μ K X) 7 2 2 4 [(3, 13), (2, 16)]),
  (7, sI2l 8),
  (8, sAstL 9),
  (9, sGoto 18),
  (12, sSt 3 13 isR),
  (13, sPush (aI 1) 14),
  (14, sRetI .int 2 K),
  (15, sSt 3 16 isR),
  (16, sPush (aI 2) 17),
  (17, sRetI .int 2 K),
  (18, sPush (aI 0) 19),
  (19, sRetI .int 2 K)]
theorem snL_cancel (l : Launch) (K : aRs) (n0 : Nat) : ∀ q ∈ tbL_cancel l K, Snd (BdH l mdL_cancel hhL_cancel K n0) q.1 q.2 :=
  tcG (sH (fun p e s m args below meth c cA D A ad0 h => ok_aload_n h.1 2 rfl dL_cancel_0)) <|
  tcG (sH (fun p e s m args below meth c cA D A ad0 h => ok_iconst h.1 ⟨by decide, by decide⟩ dL_cancel_1)) <|
  tcG (sH (fun p e s m args below meth c cA D A ad0 h => ok_aload_n h.1 0 rfl dL_cancel_2)) <|
  tcG (sH (fun p e s m args below meth c cA D A ad0 h => ok_iload_n h.1 1 rfl dL_cancel_3)) <|
  tcG (sH (fun p e s m args below meth c cA D A ad0 h => ok_callVH h.1 h.2.1 ⟨Nat.le_refl _, Nat.le_refl _⟩ mdX4_cancel siX4_cancel cxX4 mkRL_20 imX4_cancel seX4_cancel ⟨by decide, by decide⟩ (by rw [h.2.2.1]; exact rwL_cancel) dL_cancel_4)) <|
  tcG (sH (fun p e s m args below meth c cA D A ad0 h => ok_i2l h.1 dL_cancel_7)) <|
  tcG (sH (fun p e s m args below meth c cA D A ad0 h => ok_last h.1 dL_cancel_8)) <|
  tcG (sH (fun p e s m args below meth c cA D A ad0 h => ok_goto h.1 18 (by decide) dL_cancel_9)) <|
  tcG (sH (fun p e s m args below meth c cA D A ad0 h => ok_astore_n h.1 3 rfl (by decide) dL_cancel_12)) <|
  tcG (sH (fun p e s m args below meth c cA D A ad0 h => ok_iconst h.1 ⟨by decide, by decide⟩ dL_cancel_13)) <|
  tcG (sH (fun p e s m args below meth c cA D A ad0 h => ok_ireturn h.1 h.2.2.2.1 (Or.inl rfl) dL_cancel_14)) <|
  tcG (sH (fun p e s m args below meth c cA D A ad0 h => ok_astore_n h.1 3 rfl (by decide) dL_cancel_15)) <|
  tcG (sH (fun p e s m args below meth c cA D A ad0 h => ok_iconst h.1 ⟨by decide, by decide⟩ dL_cancel_16)) <|
  tcG (sH (fun p e s m args below meth c cA D A ad0 h => ok_ireturn h.1 h.2.2.2.1 (Or.inl rfl) dL_cancel_17)) <|
  tcG (sH (fun p e s m args below meth c cA D A ad0 h => ok_iconst h.1 ⟨by decide, by decide⟩ dL_cancel_18)) <|
  tcG (sH (fun p e s m args below meth c cA D A ad0 h => ok_ireturn h.1 h.2.2.2.1 (Or.inl rfl) dL_cancel_19)) <|
  tnG
abbrev cuL_cancel : List Nat := [7, 13, 16]
theorem tL_cancel_0 (l : Launch) (K : aRs) : tb (tbL_cancel l K) 0 = sLd 2 1 isR := (rfl)
theorem wL_cancel_0 {l : Launch} {K : aRs} {J : aK} {W : Nat → aK} (hW : isW (tbL_cancel l K) cuL_cancel J W) (n : Nat) (ls st : List aV) (μ : aM) (g : Nat) : W (n + 1) 0 ls st μ g = (sLd 2 1 isR) (W n) ls st μ g := (hW n 0 ls st μ g).trans rfl
theorem wL_cancel_1 {l : Launch} {K : aRs} {J : aK} {W : Nat → aK} (hW : isW (tbL_cancel l K) cuL_cancel J W) (n : Nat) (ls st : List aV) (μ : aM) (g : Nat) : W (n + 1) 1 ls st μ g = (sPush (aI 0) 2) (W n) ls st μ g := (hW n 1 ls st μ g).trans rfl
theorem wL_cancel_2 {l : Launch} {K : aRs} {J : aK} {W : Nat → aK} (hW : isW (tbL_cancel l K) cuL_cancel J W) (n : Nat) (ls st : List aV) (μ : aM) (g : Nat) : W (n + 1) 2 ls st μ g = (sLd 0 3 isR) (W n) ls st μ g := (hW n 2 ls st μ g).trans rfl
theorem wL_cancel_3 {l : Launch} {K : aRs} {J : aK} {W : Nat → aK} (hW : isW (tbL_cancel l K) cuL_cancel J W) (n : Nat) (ls st : List aV) (μ : aM) (g : Nat) : W (n + 1) 3 ls st μ g = (sLd 1 4 isI) (W n) ls st μ g := (hW n 3 ls st μ g).trans rfl
theorem wL_cancel_4 {l : Launch} {K : aRs} {J : aK} {W : Nat → aK} (hW : isW (tbL_cancel l K) cuL_cancel J W) (n : Nat) (ls st : List aV) (μ : aM) (g : Nat) : W (n + 1) 4 ls st μ g = (sCallVH 1 4 (fun as μ K X => Ct l mdX4_cancel as μ K X) 7 2 2 4 [(3, 13), (2, 16)]) (W n) ls st μ g := (hW n 4 ls st μ g).trans rfl
theorem tL_cancel_7 (l : Launch) (K : aRs) : tb (tbL_cancel l K) 7 = sI2l 8 := (rfl)
theorem wL_cancel_7 {l : Launch} {K : aRs} {J : aK} {W : Nat → aK} (hW : isW (tbL_cancel l K) cuL_cancel J W) (n : Nat) (ls st : List aV) (μ : aM) (g : Nat) : W (n + 1) 7 ls st μ g = J 7 ls st μ g := (hW n 7 ls st μ g).trans rfl
theorem wL_cancel_8 {l : Launch} {K : aRs} {J : aK} {W : Nat → aK} (hW : isW (tbL_cancel l K) cuL_cancel J W) (n : Nat) (ls st : List aV) (μ : aM) (g : Nat) : W (n + 1) 8 ls st μ g = (sAstL 9) (W n) ls st μ g := (hW n 8 ls st μ g).trans rfl
theorem wL_cancel_9 {l : Launch} {K : aRs} {J : aK} {W : Nat → aK} (hW : isW (tbL_cancel l K) cuL_cancel J W) (n : Nat) (ls st : List aV) (μ : aM) (g : Nat) : W (n + 1) 9 ls st μ g = (sGoto 18) (W n) ls st μ g := (hW n 9 ls st μ g).trans rfl
theorem wL_cancel_12 {l : Launch} {K : aRs} {J : aK} {W : Nat → aK} (hW : isW (tbL_cancel l K) cuL_cancel J W) (n : Nat) (ls st : List aV) (μ : aM) (g : Nat) : W (n + 1) 12 ls st μ g = (sSt 3 13 isR) (W n) ls st μ g := (hW n 12 ls st μ g).trans rfl
theorem tL_cancel_13 (l : Launch) (K : aRs) : tb (tbL_cancel l K) 13 = sPush (aI 1) 14 := (rfl)
theorem wL_cancel_13 {l : Launch} {K : aRs} {J : aK} {W : Nat → aK} (hW : isW (tbL_cancel l K) cuL_cancel J W) (n : Nat) (ls st : List aV) (μ : aM) (g : Nat) : W (n + 1) 13 ls st μ g = J 13 ls st μ g := (hW n 13 ls st μ g).trans rfl
theorem wL_cancel_14 {l : Launch} {K : aRs} {J : aK} {W : Nat → aK} (hW : isW (tbL_cancel l K) cuL_cancel J W) (n : Nat) (ls st : List aV) (μ : aM) (g : Nat) : W (n + 1) 14 ls st μ g = (sRetI .int 2 K) (W n) ls st μ g := (hW n 14 ls st μ g).trans rfl
theorem wL_cancel_15 {l : Launch} {K : aRs} {J : aK} {W : Nat → aK} (hW : isW (tbL_cancel l K) cuL_cancel J W) (n : Nat) (ls st : List aV) (μ : aM) (g : Nat) : W (n + 1) 15 ls st μ g = (sSt 3 16 isR) (W n) ls st μ g := (hW n 15 ls st μ g).trans rfl
theorem tL_cancel_16 (l : Launch) (K : aRs) : tb (tbL_cancel l K) 16 = sPush (aI 2) 17 := (rfl)
theorem wL_cancel_16 {l : Launch} {K : aRs} {J : aK} {W : Nat → aK} (hW : isW (tbL_cancel l K) cuL_cancel J W) (n : Nat) (ls st : List aV) (μ : aM) (g : Nat) : W (n + 1) 16 ls st μ g = J 16 ls st μ g := (hW n 16 ls st μ g).trans rfl
theorem wL_cancel_17 {l : Launch} {K : aRs} {J : aK} {W : Nat → aK} (hW : isW (tbL_cancel l K) cuL_cancel J W) (n : Nat) (ls st : List aV) (μ : aM) (g : Nat) : W (n + 1) 17 ls st μ g = (sRetI .int 2 K) (W n) ls st μ g := (hW n 17 ls st μ g).trans rfl
theorem wL_cancel_18 {l : Launch} {K : aRs} {J : aK} {W : Nat → aK} (hW : isW (tbL_cancel l K) cuL_cancel J W) (n : Nat) (ls st : List aV) (μ : aM) (g : Nat) : W (n + 1) 18 ls st μ g = (sPush (aI 0) 19) (W n) ls st μ g := (hW n 18 ls st μ g).trans rfl
theorem wL_cancel_19 {l : Launch} {K : aRs} {J : aK} {W : Nat → aK} (hW : isW (tbL_cancel l K) cuL_cancel J W) (n : Nat) (ls st : List aV) (μ : aM) (g : Nat) : W (n + 1) 19 ls st μ g = (sRetI .int 2 K) (W n) ls st μ g := (hW n 19 ls st μ g).trans rfl
theorem dL_reduce_0 : decode cL_reduce 0 = .ok (.aload_n 3, 1) := by decide +kernel
theorem dL_reduce_1 : decode cL_reduce 1 = .ok (.iconst 0, 1) := by decide +kernel
theorem dL_reduce_2 : decode cL_reduce 2 = .ok (.aload_n 0, 1) := by decide +kernel
theorem dL_reduce_3 : decode cL_reduce 3 = .ok (.iload_n 1, 1) := by decide +kernel
theorem dL_reduce_4 : decode cL_reduce 4 = .ok (.iload_n 2, 1) := by decide +kernel
theorem dL_reduce_5 : decode cL_reduce 5 = .ok (.invokevirtual 26, 3) := by decide +kernel
theorem dL_reduce_8 : decode cL_reduce 8 = .ok (.i2l, 1) := by decide +kernel
theorem dL_reduce_9 : decode cL_reduce 9 = .ok (.lastore, 1) := by decide +kernel
theorem dL_reduce_10 : decode cL_reduce 10 = .ok (.goto 15, 3) := by decide +kernel
theorem dL_reduce_13 : decode cL_reduce 13 = .ok (.astore 4, 2) := by decide +kernel
theorem dL_reduce_15 : decode cL_reduce 15 = .ok (.iconst 1, 1) := by decide +kernel
theorem dL_reduce_16 : decode cL_reduce 16 = .ok (.ireturn, 1) := by decide +kernel
theorem dL_reduce_17 : decode cL_reduce 17 = .ok (.astore 4, 2) := by decide +kernel
theorem dL_reduce_19 : decode cL_reduce 19 = .ok (.iconst 2, 1) := by decide +kernel
theorem dL_reduce_20 : decode cL_reduce 20 = .ok (.ireturn, 1) := by decide +kernel
theorem dL_reduce_21 : decode cL_reduce 21 = .ok (.astore 4, 2) := by decide +kernel
theorem dL_reduce_23 : decode cL_reduce 23 = .ok (.iconst 3, 1) := by decide +kernel
theorem dL_reduce_24 : decode cL_reduce 24 = .ok (.ireturn, 1) := by decide +kernel
theorem dL_reduce_25 : decode cL_reduce 25 = .ok (.iconst 0, 1) := by decide +kernel
theorem dL_reduce_26 : decode cL_reduce 26 = .ok (.ireturn, 1) := by decide +kernel
abbrev mdL_reduce : aMd := (yL_reduce, cL_reduce, 5, (some FieldType.int), 8, 3)
abbrev hhL_reduce : List (Nat × Nat × Nat × Nat) := [(0, 10, 13, 24), (0, 10, 17, 13), (0, 10, 21, 15)]
theorem siL_reduce : aSiteH mdL_reduce hhL_reduce 4 := ⟨⟨niRL, bg 508 (by decide +kernel) rfl⟩, by decide +kernel, by decide +kernel, by decide +kernel⟩
theorem stL_reduce : Cond.static yL_reduce ∈ bgL := bg 507 (by decide +kernel) rfl
theorem rwL_reduce : ∀ h ∈ ([(3, 15), (1, 19), (2, 23)] : List (Nat × Nat)), hRow (tableOf hhL_reduce) RL cL_reduce 5 5 h.1 h.2 := List.forall_mem_cons.mpr ⟨⟨[], ⟨0, 10, 13, 24⟩, [⟨0, 10, 17, 13⟩, ⟨0, 10, 21, 15⟩], rfl, (fun z hz => nomatch hz), by decide, by decide, ckRL_24, Or.inl ⟨4, by decide, dL_reduce_13, rfl⟩⟩, List.forall_mem_cons.mpr ⟨⟨[⟨0, 10, 13, 24⟩], ⟨0, 10, 17, 13⟩, [⟨0, 10, 21, 15⟩], rfl, (List.forall_mem_cons.mpr ⟨Or.inr ⟨by decide, 3, ckRL_24, by decide⟩, (fun z hz => nomatch hz)⟩), by decide, by decide, ckRL_13, Or.inl ⟨4, by decide, dL_reduce_17, rfl⟩⟩, List.forall_mem_cons.mpr ⟨⟨[⟨0, 10, 13, 24⟩, ⟨0, 10, 17, 13⟩], ⟨0, 10, 21, 15⟩, [], rfl, (List.forall_mem_cons.mpr ⟨Or.inr ⟨by decide, 3, ckRL_24, by decide⟩, (List.forall_mem_cons.mpr ⟨Or.inr ⟨by decide, 1, ckRL_13, by decide⟩, (fun z hz => nomatch hz)⟩)⟩), by decide, by decide, ckRL_15, Or.inl ⟨4, by decide, dL_reduce_21, rfl⟩⟩, (fun z hz => nomatch hz)⟩⟩⟩
def tbL_reduce (l : Launch) (K : aRs) : aTb := [
  (0, sLd 3 1 isR),
  (1, sPush (aI 0) 2),
  (2, sLd 0 3 isR),
  (3, sLd 1 4 isI),
  (4, sLd 2 5 isI),
  (5, sCallVH 2 4 (fun as μ K X => Ct l mdX4_reduce as μ K X) 8 3 3 5 [(3, 15), (1, 19), (2, 23)]),
  (8, sI2l 9),
  (9, sAstL 10),
  (10, sGoto 25),
  (13, sSt 4 15 isR),
  (15, sPush (aI 1) 16),
  (16, sRetI .int 3 K),
  (17, sSt 4 19 isR),
  (19, sPush (aI 2) 20),
  (20, sRetI .int 3 K),
  (21, sSt 4 23 isR),
  (23, sPush (aI 3) 24),
  (24, sRetI .int 3 K),
  (25, sPush (aI 0) 26),
  (26, sRetI .int 3 K)]
theorem snL_reduce (l : Launch) (K : aRs) (n0 : Nat) : ∀ q ∈ tbL_reduce l K, Snd (BdH l mdL_reduce hhL_reduce K n0) q.1 q.2 :=
  tcG (sH (fun p e s m args below meth c cA D A ad0 h => ok_aload_n h.1 3 rfl dL_reduce_0)) <|
  tcG (sH (fun p e s m args below meth c cA D A ad0 h => ok_iconst h.1 ⟨by decide, by decide⟩ dL_reduce_1)) <|
  tcG (sH (fun p e s m args below meth c cA D A ad0 h => ok_aload_n h.1 0 rfl dL_reduce_2)) <|
  tcG (sH (fun p e s m args below meth c cA D A ad0 h => ok_iload_n h.1 1 rfl dL_reduce_3)) <|
  tcG (sH (fun p e s m args below meth c cA D A ad0 h => ok_iload_n h.1 2 rfl dL_reduce_4)) <|
  tcG (sH (fun p e s m args below meth c cA D A ad0 h => ok_callVH h.1 h.2.1 ⟨Nat.le_refl _, Nat.le_refl _⟩ mdX4_reduce siX4_reduce cxX4 mkRL_26 imX4_reduce seX4_reduce ⟨by decide, by decide⟩ (by rw [h.2.2.1]; exact rwL_reduce) dL_reduce_5)) <|
  tcG (sH (fun p e s m args below meth c cA D A ad0 h => ok_i2l h.1 dL_reduce_8)) <|
  tcG (sH (fun p e s m args below meth c cA D A ad0 h => ok_last h.1 dL_reduce_9)) <|
  tcG (sH (fun p e s m args below meth c cA D A ad0 h => ok_goto h.1 25 (by decide) dL_reduce_10)) <|
  tcG (sH (fun p e s m args below meth c cA D A ad0 h => ok_astore h.1 (by decide) dL_reduce_13)) <|
  tcG (sH (fun p e s m args below meth c cA D A ad0 h => ok_iconst h.1 ⟨by decide, by decide⟩ dL_reduce_15)) <|
  tcG (sH (fun p e s m args below meth c cA D A ad0 h => ok_ireturn h.1 h.2.2.2.1 (Or.inl rfl) dL_reduce_16)) <|
  tcG (sH (fun p e s m args below meth c cA D A ad0 h => ok_astore h.1 (by decide) dL_reduce_17)) <|
  tcG (sH (fun p e s m args below meth c cA D A ad0 h => ok_iconst h.1 ⟨by decide, by decide⟩ dL_reduce_19)) <|
  tcG (sH (fun p e s m args below meth c cA D A ad0 h => ok_ireturn h.1 h.2.2.2.1 (Or.inl rfl) dL_reduce_20)) <|
  tcG (sH (fun p e s m args below meth c cA D A ad0 h => ok_astore h.1 (by decide) dL_reduce_21)) <|
  tcG (sH (fun p e s m args below meth c cA D A ad0 h => ok_iconst h.1 ⟨by decide, by decide⟩ dL_reduce_23)) <|
  tcG (sH (fun p e s m args below meth c cA D A ad0 h => ok_ireturn h.1 h.2.2.2.1 (Or.inl rfl) dL_reduce_24)) <|
  tcG (sH (fun p e s m args below meth c cA D A ad0 h => ok_iconst h.1 ⟨by decide, by decide⟩ dL_reduce_25)) <|
  tcG (sH (fun p e s m args below meth c cA D A ad0 h => ok_ireturn h.1 h.2.2.2.1 (Or.inl rfl) dL_reduce_26)) <|
  tnG
abbrev cuL_reduce : List Nat := [8, 15, 19, 23]
theorem tL_reduce_0 (l : Launch) (K : aRs) : tb (tbL_reduce l K) 0 = sLd 3 1 isR := (rfl)
theorem wL_reduce_0 {l : Launch} {K : aRs} {J : aK} {W : Nat → aK} (hW : isW (tbL_reduce l K) cuL_reduce J W) (n : Nat) (ls st : List aV) (μ : aM) (g : Nat) : W (n + 1) 0 ls st μ g = (sLd 3 1 isR) (W n) ls st μ g := (hW n 0 ls st μ g).trans rfl
theorem wL_reduce_1 {l : Launch} {K : aRs} {J : aK} {W : Nat → aK} (hW : isW (tbL_reduce l K) cuL_reduce J W) (n : Nat) (ls st : List aV) (μ : aM) (g : Nat) : W (n + 1) 1 ls st μ g = (sPush (aI 0) 2) (W n) ls st μ g := (hW n 1 ls st μ g).trans rfl
theorem wL_reduce_2 {l : Launch} {K : aRs} {J : aK} {W : Nat → aK} (hW : isW (tbL_reduce l K) cuL_reduce J W) (n : Nat) (ls st : List aV) (μ : aM) (g : Nat) : W (n + 1) 2 ls st μ g = (sLd 0 3 isR) (W n) ls st μ g := (hW n 2 ls st μ g).trans rfl
theorem wL_reduce_3 {l : Launch} {K : aRs} {J : aK} {W : Nat → aK} (hW : isW (tbL_reduce l K) cuL_reduce J W) (n : Nat) (ls st : List aV) (μ : aM) (g : Nat) : W (n + 1) 3 ls st μ g = (sLd 1 4 isI) (W n) ls st μ g := (hW n 3 ls st μ g).trans rfl
theorem wL_reduce_4 {l : Launch} {K : aRs} {J : aK} {W : Nat → aK} (hW : isW (tbL_reduce l K) cuL_reduce J W) (n : Nat) (ls st : List aV) (μ : aM) (g : Nat) : W (n + 1) 4 ls st μ g = (sLd 2 5 isI) (W n) ls st μ g := (hW n 4 ls st μ g).trans rfl
theorem wL_reduce_5 {l : Launch} {K : aRs} {J : aK} {W : Nat → aK} (hW : isW (tbL_reduce l K) cuL_reduce J W) (n : Nat) (ls st : List aV) (μ : aM) (g : Nat) : W (n + 1) 5 ls st μ g = (sCallVH 2 4 (fun as μ K X => Ct l mdX4_reduce as μ K X) 8 3 3 5 [(3, 15), (1, 19), (2, 23)]) (W n) ls st μ g := (hW n 5 ls st μ g).trans rfl
theorem tL_reduce_8 (l : Launch) (K : aRs) : tb (tbL_reduce l K) 8 = sI2l 9 := (rfl)
theorem wL_reduce_8 {l : Launch} {K : aRs} {J : aK} {W : Nat → aK} (hW : isW (tbL_reduce l K) cuL_reduce J W) (n : Nat) (ls st : List aV) (μ : aM) (g : Nat) : W (n + 1) 8 ls st μ g = J 8 ls st μ g := (hW n 8 ls st μ g).trans rfl
theorem wL_reduce_9 {l : Launch} {K : aRs} {J : aK} {W : Nat → aK} (hW : isW (tbL_reduce l K) cuL_reduce J W) (n : Nat) (ls st : List aV) (μ : aM) (g : Nat) : W (n + 1) 9 ls st μ g = (sAstL 10) (W n) ls st μ g := (hW n 9 ls st μ g).trans rfl
theorem wL_reduce_10 {l : Launch} {K : aRs} {J : aK} {W : Nat → aK} (hW : isW (tbL_reduce l K) cuL_reduce J W) (n : Nat) (ls st : List aV) (μ : aM) (g : Nat) : W (n + 1) 10 ls st μ g = (sGoto 25) (W n) ls st μ g := (hW n 10 ls st μ g).trans rfl
theorem wL_reduce_13 {l : Launch} {K : aRs} {J : aK} {W : Nat → aK} (hW : isW (tbL_reduce l K) cuL_reduce J W) (n : Nat) (ls st : List aV) (μ : aM) (g : Nat) : W (n + 1) 13 ls st μ g = (sSt 4 15 isR) (W n) ls st μ g := (hW n 13 ls st μ g).trans rfl
theorem tL_reduce_15 (l : Launch) (K : aRs) : tb (tbL_reduce l K) 15 = sPush (aI 1) 16 := (rfl)
theorem wL_reduce_15 {l : Launch} {K : aRs} {J : aK} {W : Nat → aK} (hW : isW (tbL_reduce l K) cuL_reduce J W) (n : Nat) (ls st : List aV) (μ : aM) (g : Nat) : W (n + 1) 15 ls st μ g = J 15 ls st μ g := (hW n 15 ls st μ g).trans rfl
theorem wL_reduce_16 {l : Launch} {K : aRs} {J : aK} {W : Nat → aK} (hW : isW (tbL_reduce l K) cuL_reduce J W) (n : Nat) (ls st : List aV) (μ : aM) (g : Nat) : W (n + 1) 16 ls st μ g = (sRetI .int 3 K) (W n) ls st μ g := (hW n 16 ls st μ g).trans rfl
theorem wL_reduce_17 {l : Launch} {K : aRs} {J : aK} {W : Nat → aK} (hW : isW (tbL_reduce l K) cuL_reduce J W) (n : Nat) (ls st : List aV) (μ : aM) (g : Nat) : W (n + 1) 17 ls st μ g = (sSt 4 19 isR) (W n) ls st μ g := (hW n 17 ls st μ g).trans rfl
theorem tL_reduce_19 (l : Launch) (K : aRs) : tb (tbL_reduce l K) 19 = sPush (aI 2) 20 := (rfl)
theorem wL_reduce_19 {l : Launch} {K : aRs} {J : aK} {W : Nat → aK} (hW : isW (tbL_reduce l K) cuL_reduce J W) (n : Nat) (ls st : List aV) (μ : aM) (g : Nat) : W (n + 1) 19 ls st μ g = J 19 ls st μ g := (hW n 19 ls st μ g).trans rfl
theorem wL_reduce_20 {l : Launch} {K : aRs} {J : aK} {W : Nat → aK} (hW : isW (tbL_reduce l K) cuL_reduce J W) (n : Nat) (ls st : List aV) (μ : aM) (g : Nat) : W (n + 1) 20 ls st μ g = (sRetI .int 3 K) (W n) ls st μ g := (hW n 20 ls st μ g).trans rfl
theorem wL_reduce_21 {l : Launch} {K : aRs} {J : aK} {W : Nat → aK} (hW : isW (tbL_reduce l K) cuL_reduce J W) (n : Nat) (ls st : List aV) (μ : aM) (g : Nat) : W (n + 1) 21 ls st μ g = (sSt 4 23 isR) (W n) ls st μ g := (hW n 21 ls st μ g).trans rfl
theorem tL_reduce_23 (l : Launch) (K : aRs) : tb (tbL_reduce l K) 23 = sPush (aI 3) 24 := (rfl)
theorem wL_reduce_23 {l : Launch} {K : aRs} {J : aK} {W : Nat → aK} (hW : isW (tbL_reduce l K) cuL_reduce J W) (n : Nat) (ls st : List aV) (μ : aM) (g : Nat) : W (n + 1) 23 ls st μ g = J 23 ls st μ g := (hW n 23 ls st μ g).trans rfl
theorem wL_reduce_24 {l : Launch} {K : aRs} {J : aK} {W : Nat → aK} (hW : isW (tbL_reduce l K) cuL_reduce J W) (n : Nat) (ls st : List aV) (μ : aM) (g : Nat) : W (n + 1) 24 ls st μ g = (sRetI .int 3 K) (W n) ls st μ g := (hW n 24 ls st μ g).trans rfl
theorem wL_reduce_25 {l : Launch} {K : aRs} {J : aK} {W : Nat → aK} (hW : isW (tbL_reduce l K) cuL_reduce J W) (n : Nat) (ls st : List aV) (μ : aM) (g : Nat) : W (n + 1) 25 ls st μ g = (sPush (aI 0) 26) (W n) ls st μ g := (hW n 25 ls st μ g).trans rfl
theorem wL_reduce_26 {l : Launch} {K : aRs} {J : aK} {W : Nat → aK} (hW : isW (tbL_reduce l K) cuL_reduce J W) (n : Nat) (ls st : List aV) (μ : aM) (g : Nat) : W (n + 1) 26 ls st μ g = (sRetI .int 3 K) (W n) ls st μ g := (hW n 26 ls st μ g).trans rfl
theorem dL_setBand_0 : decode cL_setBand 0 = .ok (.aload_n 2, 1) := by decide +kernel
theorem dL_setBand_1 : decode cL_setBand 1 = .ok (.iconst 0, 1) := by decide +kernel
theorem dL_setBand_2 : decode cL_setBand 2 = .ok (.aload_n 0, 1) := by decide +kernel
theorem dL_setBand_3 : decode cL_setBand 3 = .ok (.iload_n 1, 1) := by decide +kernel
theorem dL_setBand_4 : decode cL_setBand 4 = .ok (.invokevirtual 30, 3) := by decide +kernel
theorem dL_setBand_7 : decode cL_setBand 7 = .ok (.i2l, 1) := by decide +kernel
theorem dL_setBand_8 : decode cL_setBand 8 = .ok (.lastore, 1) := by decide +kernel
theorem dL_setBand_9 : decode cL_setBand 9 = .ok (.goto 6, 3) := by decide +kernel
theorem dL_setBand_12 : decode cL_setBand 12 = .ok (.astore_n 3, 1) := by decide +kernel
theorem dL_setBand_13 : decode cL_setBand 13 = .ok (.iconst 1, 1) := by decide +kernel
theorem dL_setBand_14 : decode cL_setBand 14 = .ok (.ireturn, 1) := by decide +kernel
theorem dL_setBand_15 : decode cL_setBand 15 = .ok (.iconst 0, 1) := by decide +kernel
theorem dL_setBand_16 : decode cL_setBand 16 = .ok (.ireturn, 1) := by decide +kernel
abbrev mdL_setBand : aMd := (yL_setBand, cL_setBand, 4, (some FieldType.int), 7, 1)
abbrev hhL_setBand : List (Nat × Nat × Nat × Nat) := [(0, 9, 12, 13)]
theorem siL_setBand : aSiteH mdL_setBand hhL_setBand 3 := ⟨⟨niRL, bg 515 (by decide +kernel) rfl⟩, by decide +kernel, by decide +kernel, by decide +kernel⟩
theorem stL_setBand : Cond.static yL_setBand ∈ bgL := bg 514 (by decide +kernel) rfl
theorem rwL_setBand : ∀ h ∈ ([(1, 13)] : List (Nat × Nat)), hRow (tableOf hhL_setBand) RL cL_setBand 4 4 h.1 h.2 := List.forall_mem_cons.mpr ⟨⟨[], ⟨0, 9, 12, 13⟩, [], rfl, (fun z hz => nomatch hz), by decide, by decide, ckRL_13, Or.inr ⟨3, by decide, dL_setBand_12, rfl⟩⟩, (fun z hz => nomatch hz)⟩
def tbL_setBand (l : Launch) (K : aRs) : aTb := [
  (0, sLd 2 1 isR),
  (1, sPush (aI 0) 2),
  (2, sLd 0 3 isR),
  (3, sLd 1 4 isI),
  (4, sCallVH 1 4 (fun as μ K X => Ct l mdX4_setBand as μ K X) 7 1 1 4 [(1, 13)]),
  (7, sI2l 8),
  (8, sAstL 9),
  (9, sGoto 15),
  (12, sSt 3 13 isR),
  (13, sPush (aI 1) 14),
  (14, sRetI .int 1 K),
  (15, sPush (aI 0) 16),
  (16, sRetI .int 1 K)]
theorem snL_setBand (l : Launch) (K : aRs) (n0 : Nat) : ∀ q ∈ tbL_setBand l K, Snd (BdH l mdL_setBand hhL_setBand K n0) q.1 q.2 :=
  tcG (sH (fun p e s m args below meth c cA D A ad0 h => ok_aload_n h.1 2 rfl dL_setBand_0)) <|
  tcG (sH (fun p e s m args below meth c cA D A ad0 h => ok_iconst h.1 ⟨by decide, by decide⟩ dL_setBand_1)) <|
  tcG (sH (fun p e s m args below meth c cA D A ad0 h => ok_aload_n h.1 0 rfl dL_setBand_2)) <|
  tcG (sH (fun p e s m args below meth c cA D A ad0 h => ok_iload_n h.1 1 rfl dL_setBand_3)) <|
  tcG (sH (fun p e s m args below meth c cA D A ad0 h => ok_callVH h.1 h.2.1 ⟨Nat.le_refl _, Nat.le_refl _⟩ mdX4_setBand siX4_setBand cxX4 mkRL_30 imX4_setBand seX4_setBand ⟨by decide, by decide⟩ (by rw [h.2.2.1]; exact rwL_setBand) dL_setBand_4)) <|
  tcG (sH (fun p e s m args below meth c cA D A ad0 h => ok_i2l h.1 dL_setBand_7)) <|
  tcG (sH (fun p e s m args below meth c cA D A ad0 h => ok_last h.1 dL_setBand_8)) <|
  tcG (sH (fun p e s m args below meth c cA D A ad0 h => ok_goto h.1 15 (by decide) dL_setBand_9)) <|
  tcG (sH (fun p e s m args below meth c cA D A ad0 h => ok_astore_n h.1 3 rfl (by decide) dL_setBand_12)) <|
  tcG (sH (fun p e s m args below meth c cA D A ad0 h => ok_iconst h.1 ⟨by decide, by decide⟩ dL_setBand_13)) <|
  tcG (sH (fun p e s m args below meth c cA D A ad0 h => ok_ireturn h.1 h.2.2.2.1 (Or.inl rfl) dL_setBand_14)) <|
  tcG (sH (fun p e s m args below meth c cA D A ad0 h => ok_iconst h.1 ⟨by decide, by decide⟩ dL_setBand_15)) <|
  tcG (sH (fun p e s m args below meth c cA D A ad0 h => ok_ireturn h.1 h.2.2.2.1 (Or.inl rfl) dL_setBand_16)) <|
  tnG
abbrev cuL_setBand : List Nat := [7, 13]
theorem tL_setBand_0 (l : Launch) (K : aRs) : tb (tbL_setBand l K) 0 = sLd 2 1 isR := (rfl)
theorem wL_setBand_0 {l : Launch} {K : aRs} {J : aK} {W : Nat → aK} (hW : isW (tbL_setBand l K) cuL_setBand J W) (n : Nat) (ls st : List aV) (μ : aM) (g : Nat) : W (n + 1) 0 ls st μ g = (sLd 2 1 isR) (W n) ls st μ g := (hW n 0 ls st μ g).trans rfl
theorem wL_setBand_1 {l : Launch} {K : aRs} {J : aK} {W : Nat → aK} (hW : isW (tbL_setBand l K) cuL_setBand J W) (n : Nat) (ls st : List aV) (μ : aM) (g : Nat) : W (n + 1) 1 ls st μ g = (sPush (aI 0) 2) (W n) ls st μ g := (hW n 1 ls st μ g).trans rfl
theorem wL_setBand_2 {l : Launch} {K : aRs} {J : aK} {W : Nat → aK} (hW : isW (tbL_setBand l K) cuL_setBand J W) (n : Nat) (ls st : List aV) (μ : aM) (g : Nat) : W (n + 1) 2 ls st μ g = (sLd 0 3 isR) (W n) ls st μ g := (hW n 2 ls st μ g).trans rfl
theorem wL_setBand_3 {l : Launch} {K : aRs} {J : aK} {W : Nat → aK} (hW : isW (tbL_setBand l K) cuL_setBand J W) (n : Nat) (ls st : List aV) (μ : aM) (g : Nat) : W (n + 1) 3 ls st μ g = (sLd 1 4 isI) (W n) ls st μ g := (hW n 3 ls st μ g).trans rfl
theorem wL_setBand_4 {l : Launch} {K : aRs} {J : aK} {W : Nat → aK} (hW : isW (tbL_setBand l K) cuL_setBand J W) (n : Nat) (ls st : List aV) (μ : aM) (g : Nat) : W (n + 1) 4 ls st μ g = (sCallVH 1 4 (fun as μ K X => Ct l mdX4_setBand as μ K X) 7 1 1 4 [(1, 13)]) (W n) ls st μ g := (hW n 4 ls st μ g).trans rfl
theorem tL_setBand_7 (l : Launch) (K : aRs) : tb (tbL_setBand l K) 7 = sI2l 8 := (rfl)
theorem wL_setBand_7 {l : Launch} {K : aRs} {J : aK} {W : Nat → aK} (hW : isW (tbL_setBand l K) cuL_setBand J W) (n : Nat) (ls st : List aV) (μ : aM) (g : Nat) : W (n + 1) 7 ls st μ g = J 7 ls st μ g := (hW n 7 ls st μ g).trans rfl
theorem wL_setBand_8 {l : Launch} {K : aRs} {J : aK} {W : Nat → aK} (hW : isW (tbL_setBand l K) cuL_setBand J W) (n : Nat) (ls st : List aV) (μ : aM) (g : Nat) : W (n + 1) 8 ls st μ g = (sAstL 9) (W n) ls st μ g := (hW n 8 ls st μ g).trans rfl
theorem wL_setBand_9 {l : Launch} {K : aRs} {J : aK} {W : Nat → aK} (hW : isW (tbL_setBand l K) cuL_setBand J W) (n : Nat) (ls st : List aV) (μ : aM) (g : Nat) : W (n + 1) 9 ls st μ g = (sGoto 15) (W n) ls st μ g := (hW n 9 ls st μ g).trans rfl
theorem wL_setBand_12 {l : Launch} {K : aRs} {J : aK} {W : Nat → aK} (hW : isW (tbL_setBand l K) cuL_setBand J W) (n : Nat) (ls st : List aV) (μ : aM) (g : Nat) : W (n + 1) 12 ls st μ g = (sSt 3 13 isR) (W n) ls st μ g := (hW n 12 ls st μ g).trans rfl
theorem tL_setBand_13 (l : Launch) (K : aRs) : tb (tbL_setBand l K) 13 = sPush (aI 1) 14 := (rfl)
theorem wL_setBand_13 {l : Launch} {K : aRs} {J : aK} {W : Nat → aK} (hW : isW (tbL_setBand l K) cuL_setBand J W) (n : Nat) (ls st : List aV) (μ : aM) (g : Nat) : W (n + 1) 13 ls st μ g = J 13 ls st μ g := (hW n 13 ls st μ g).trans rfl
theorem wL_setBand_14 {l : Launch} {K : aRs} {J : aK} {W : Nat → aK} (hW : isW (tbL_setBand l K) cuL_setBand J W) (n : Nat) (ls st : List aV) (μ : aM) (g : Nat) : W (n + 1) 14 ls st μ g = (sRetI .int 1 K) (W n) ls st μ g := (hW n 14 ls st μ g).trans rfl
theorem wL_setBand_15 {l : Launch} {K : aRs} {J : aK} {W : Nat → aK} (hW : isW (tbL_setBand l K) cuL_setBand J W) (n : Nat) (ls st : List aV) (μ : aM) (g : Nat) : W (n + 1) 15 ls st μ g = (sPush (aI 0) 16) (W n) ls st μ g := (hW n 15 ls st μ g).trans rfl
theorem wL_setBand_16 {l : Launch} {K : aRs} {J : aK} {W : Nat → aK} (hW : isW (tbL_setBand l K) cuL_setBand J W) (n : Nat) (ls st : List aV) (μ : aM) (g : Nat) : W (n + 1) 16 ls st μ g = (sRetI .int 1 K) (W n) ls st μ g := (hW n 16 ls st μ g).trans rfl
theorem dL_setRule_0 : decode cL_setRule 0 = .ok (.aload_n 2, 1) := by decide +kernel
theorem dL_setRule_1 : decode cL_setRule 1 = .ok (.iconst 0, 1) := by decide +kernel
theorem dL_setRule_2 : decode cL_setRule 2 = .ok (.aload_n 0, 1) := by decide +kernel
theorem dL_setRule_3 : decode cL_setRule 3 = .ok (.iload_n 1, 1) := by decide +kernel
theorem dL_setRule_4 : decode cL_setRule 4 = .ok (.invokevirtual 33, 3) := by decide +kernel
theorem dL_setRule_7 : decode cL_setRule 7 = .ok (.i2l, 1) := by decide +kernel
theorem dL_setRule_8 : decode cL_setRule 8 = .ok (.lastore, 1) := by decide +kernel
theorem dL_setRule_9 : decode cL_setRule 9 = .ok (.goto 6, 3) := by decide +kernel
theorem dL_setRule_12 : decode cL_setRule 12 = .ok (.astore_n 3, 1) := by decide +kernel
theorem dL_setRule_13 : decode cL_setRule 13 = .ok (.iconst 1, 1) := by decide +kernel
theorem dL_setRule_14 : decode cL_setRule 14 = .ok (.ireturn, 1) := by decide +kernel
theorem dL_setRule_15 : decode cL_setRule 15 = .ok (.iconst 0, 1) := by decide +kernel
theorem dL_setRule_16 : decode cL_setRule 16 = .ok (.ireturn, 1) := by decide +kernel
abbrev mdL_setRule : aMd := (yL_setRule, cL_setRule, 4, (some FieldType.int), 7, 1)
abbrev hhL_setRule : List (Nat × Nat × Nat × Nat) := [(0, 9, 12, 13)]
theorem siL_setRule : aSiteH mdL_setRule hhL_setRule 3 := ⟨⟨niRL, bg 522 (by decide +kernel) rfl⟩, by decide +kernel, by decide +kernel, by decide +kernel⟩
theorem stL_setRule : Cond.static yL_setRule ∈ bgL := bg 521 (by decide +kernel) rfl
theorem rwL_setRule : ∀ h ∈ ([(1, 13)] : List (Nat × Nat)), hRow (tableOf hhL_setRule) RL cL_setRule 4 4 h.1 h.2 := List.forall_mem_cons.mpr ⟨⟨[], ⟨0, 9, 12, 13⟩, [], rfl, (fun z hz => nomatch hz), by decide, by decide, ckRL_13, Or.inr ⟨3, by decide, dL_setRule_12, rfl⟩⟩, (fun z hz => nomatch hz)⟩
def tbL_setRule (l : Launch) (K : aRs) : aTb := [
  (0, sLd 2 1 isR),
  (1, sPush (aI 0) 2),
  (2, sLd 0 3 isR),
  (3, sLd 1 4 isI),
  (4, sCallVH 1 4 (fun as μ K X => Ct l mdX4_setRule as μ K X) 7 1 1 4 [(1, 13)]),
  (7, sI2l 8),
  (8, sAstL 9),
  (9, sGoto 15),
  (12, sSt 3 13 isR),
  (13, sPush (aI 1) 14),
  (14, sRetI .int 1 K),
  (15, sPush (aI 0) 16),
  (16, sRetI .int 1 K)]
theorem snL_setRule (l : Launch) (K : aRs) (n0 : Nat) : ∀ q ∈ tbL_setRule l K, Snd (BdH l mdL_setRule hhL_setRule K n0) q.1 q.2 :=
  tcG (sH (fun p e s m args below meth c cA D A ad0 h => ok_aload_n h.1 2 rfl dL_setRule_0)) <|
  tcG (sH (fun p e s m args below meth c cA D A ad0 h => ok_iconst h.1 ⟨by decide, by decide⟩ dL_setRule_1)) <|
  tcG (sH (fun p e s m args below meth c cA D A ad0 h => ok_aload_n h.1 0 rfl dL_setRule_2)) <|
  tcG (sH (fun p e s m args below meth c cA D A ad0 h => ok_iload_n h.1 1 rfl dL_setRule_3)) <|
  tcG (sH (fun p e s m args below meth c cA D A ad0 h => ok_callVH h.1 h.2.1 ⟨Nat.le_refl _, Nat.le_refl _⟩ mdX4_setRule siX4_setRule cxX4 mkRL_33 imX4_setRule seX4_setRule ⟨by decide, by decide⟩ (by rw [h.2.2.1]; exact rwL_setRule) dL_setRule_4)) <|
  tcG (sH (fun p e s m args below meth c cA D A ad0 h => ok_i2l h.1 dL_setRule_7)) <|
  tcG (sH (fun p e s m args below meth c cA D A ad0 h => ok_last h.1 dL_setRule_8)) <|
  tcG (sH (fun p e s m args below meth c cA D A ad0 h => ok_goto h.1 15 (by decide) dL_setRule_9)) <|
  tcG (sH (fun p e s m args below meth c cA D A ad0 h => ok_astore_n h.1 3 rfl (by decide) dL_setRule_12)) <|
  tcG (sH (fun p e s m args below meth c cA D A ad0 h => ok_iconst h.1 ⟨by decide, by decide⟩ dL_setRule_13)) <|
  tcG (sH (fun p e s m args below meth c cA D A ad0 h => ok_ireturn h.1 h.2.2.2.1 (Or.inl rfl) dL_setRule_14)) <|
  tcG (sH (fun p e s m args below meth c cA D A ad0 h => ok_iconst h.1 ⟨by decide, by decide⟩ dL_setRule_15)) <|
  tcG (sH (fun p e s m args below meth c cA D A ad0 h => ok_ireturn h.1 h.2.2.2.1 (Or.inl rfl) dL_setRule_16)) <|
  tnG
abbrev cuL_setRule : List Nat := [7, 13]
theorem tL_setRule_0 (l : Launch) (K : aRs) : tb (tbL_setRule l K) 0 = sLd 2 1 isR := (rfl)
theorem wL_setRule_0 {l : Launch} {K : aRs} {J : aK} {W : Nat → aK} (hW : isW (tbL_setRule l K) cuL_setRule J W) (n : Nat) (ls st : List aV) (μ : aM) (g : Nat) : W (n + 1) 0 ls st μ g = (sLd 2 1 isR) (W n) ls st μ g := (hW n 0 ls st μ g).trans rfl
theorem wL_setRule_1 {l : Launch} {K : aRs} {J : aK} {W : Nat → aK} (hW : isW (tbL_setRule l K) cuL_setRule J W) (n : Nat) (ls st : List aV) (μ : aM) (g : Nat) : W (n + 1) 1 ls st μ g = (sPush (aI 0) 2) (W n) ls st μ g := (hW n 1 ls st μ g).trans rfl
theorem wL_setRule_2 {l : Launch} {K : aRs} {J : aK} {W : Nat → aK} (hW : isW (tbL_setRule l K) cuL_setRule J W) (n : Nat) (ls st : List aV) (μ : aM) (g : Nat) : W (n + 1) 2 ls st μ g = (sLd 0 3 isR) (W n) ls st μ g := (hW n 2 ls st μ g).trans rfl
theorem wL_setRule_3 {l : Launch} {K : aRs} {J : aK} {W : Nat → aK} (hW : isW (tbL_setRule l K) cuL_setRule J W) (n : Nat) (ls st : List aV) (μ : aM) (g : Nat) : W (n + 1) 3 ls st μ g = (sLd 1 4 isI) (W n) ls st μ g := (hW n 3 ls st μ g).trans rfl
theorem wL_setRule_4 {l : Launch} {K : aRs} {J : aK} {W : Nat → aK} (hW : isW (tbL_setRule l K) cuL_setRule J W) (n : Nat) (ls st : List aV) (μ : aM) (g : Nat) : W (n + 1) 4 ls st μ g = (sCallVH 1 4 (fun as μ K X => Ct l mdX4_setRule as μ K X) 7 1 1 4 [(1, 13)]) (W n) ls st μ g := (hW n 4 ls st μ g).trans rfl
theorem tL_setRule_7 (l : Launch) (K : aRs) : tb (tbL_setRule l K) 7 = sI2l 8 := (rfl)
theorem wL_setRule_7 {l : Launch} {K : aRs} {J : aK} {W : Nat → aK} (hW : isW (tbL_setRule l K) cuL_setRule J W) (n : Nat) (ls st : List aV) (μ : aM) (g : Nat) : W (n + 1) 7 ls st μ g = J 7 ls st μ g := (hW n 7 ls st μ g).trans rfl
theorem wL_setRule_8 {l : Launch} {K : aRs} {J : aK} {W : Nat → aK} (hW : isW (tbL_setRule l K) cuL_setRule J W) (n : Nat) (ls st : List aV) (μ : aM) (g : Nat) : W (n + 1) 8 ls st μ g = (sAstL 9) (W n) ls st μ g := (hW n 8 ls st μ g).trans rfl
theorem wL_setRule_9 {l : Launch} {K : aRs} {J : aK} {W : Nat → aK} (hW : isW (tbL_setRule l K) cuL_setRule J W) (n : Nat) (ls st : List aV) (μ : aM) (g : Nat) : W (n + 1) 9 ls st μ g = (sGoto 15) (W n) ls st μ g := (hW n 9 ls st μ g).trans rfl
theorem wL_setRule_12 {l : Launch} {K : aRs} {J : aK} {W : Nat → aK} (hW : isW (tbL_setRule l K) cuL_setRule J W) (n : Nat) (ls st : List aV) (μ : aM) (g : Nat) : W (n + 1) 12 ls st μ g = (sSt 3 13 isR) (W n) ls st μ g := (hW n 12 ls st μ g).trans rfl
theorem tL_setRule_13 (l : Launch) (K : aRs) : tb (tbL_setRule l K) 13 = sPush (aI 1) 14 := (rfl)
theorem wL_setRule_13 {l : Launch} {K : aRs} {J : aK} {W : Nat → aK} (hW : isW (tbL_setRule l K) cuL_setRule J W) (n : Nat) (ls st : List aV) (μ : aM) (g : Nat) : W (n + 1) 13 ls st μ g = J 13 ls st μ g := (hW n 13 ls st μ g).trans rfl
theorem wL_setRule_14 {l : Launch} {K : aRs} {J : aK} {W : Nat → aK} (hW : isW (tbL_setRule l K) cuL_setRule J W) (n : Nat) (ls st : List aV) (μ : aM) (g : Nat) : W (n + 1) 14 ls st μ g = (sRetI .int 1 K) (W n) ls st μ g := (hW n 14 ls st μ g).trans rfl
theorem wL_setRule_15 {l : Launch} {K : aRs} {J : aK} {W : Nat → aK} (hW : isW (tbL_setRule l K) cuL_setRule J W) (n : Nat) (ls st : List aV) (μ : aM) (g : Nat) : W (n + 1) 15 ls st μ g = (sPush (aI 0) 16) (W n) ls st μ g := (hW n 15 ls st μ g).trans rfl
theorem wL_setRule_16 {l : Launch} {K : aRs} {J : aK} {W : Nat → aK} (hW : isW (tbL_setRule l K) cuL_setRule J W) (n : Nat) (ls st : List aV) (μ : aM) (g : Nat) : W (n + 1) 16 ls st μ g = (sRetI .int 1 K) (W n) ls st μ g := (hW n 16 ls st μ g).trans rfl
theorem dL_halt_0 : decode cL_halt 0 = .ok (.aload_n 1, 1) := by decide +kernel
theorem dL_halt_1 : decode cL_halt 1 = .ok (.iconst 0, 1) := by decide +kernel
theorem dL_halt_2 : decode cL_halt 2 = .ok (.aload_n 0, 1) := by decide +kernel
theorem dL_halt_3 : decode cL_halt 3 = .ok (.invokevirtual 37, 3) := by decide +kernel
theorem dL_halt_6 : decode cL_halt 6 = .ok (.i2l, 1) := by decide +kernel
theorem dL_halt_7 : decode cL_halt 7 = .ok (.lastore, 1) := by decide +kernel
theorem dL_halt_8 : decode cL_halt 8 = .ok (.goto 6, 3) := by decide +kernel
theorem dL_halt_11 : decode cL_halt 11 = .ok (.astore_n 2, 1) := by decide +kernel
theorem dL_halt_12 : decode cL_halt 12 = .ok (.iconst 1, 1) := by decide +kernel
theorem dL_halt_13 : decode cL_halt 13 = .ok (.ireturn, 1) := by decide +kernel
theorem dL_halt_14 : decode cL_halt 14 = .ok (.iconst 0, 1) := by decide +kernel
theorem dL_halt_15 : decode cL_halt 15 = .ok (.ireturn, 1) := by decide +kernel
abbrev mdL_halt : aMd := (yL_halt, cL_halt, 3, (some FieldType.int), 7, 1)
abbrev hhL_halt : List (Nat × Nat × Nat × Nat) := [(0, 8, 11, 15)]
theorem siL_halt : aSiteH mdL_halt hhL_halt 2 := ⟨⟨niRL, bg 529 (by decide +kernel) rfl⟩, by decide +kernel, by decide +kernel, by decide +kernel⟩
theorem stL_halt : Cond.static yL_halt ∈ bgL := bg 528 (by decide +kernel) rfl
theorem rwL_halt : ∀ h ∈ ([(2, 12)] : List (Nat × Nat)), hRow (tableOf hhL_halt) RL cL_halt 3 3 h.1 h.2 := List.forall_mem_cons.mpr ⟨⟨[], ⟨0, 8, 11, 15⟩, [], rfl, (fun z hz => nomatch hz), by decide, by decide, ckRL_15, Or.inr ⟨2, by decide, dL_halt_11, rfl⟩⟩, (fun z hz => nomatch hz)⟩
def tbL_halt (l : Launch) (K : aRs) : aTb := [
  (0, sLd 1 1 isR),
  (1, sPush (aI 0) 2),
  (2, sLd 0 3 isR),
  (3, sCallVH 0 4 (fun as μ K X => Ct l mdX4_halt as μ K X) 6 1 1 3 [(2, 12)]),
  (6, sI2l 7),
  (7, sAstL 8),
  (8, sGoto 14),
  (11, sSt 2 12 isR),
  (12, sPush (aI 1) 13),
  (13, sRetI .int 1 K),
  (14, sPush (aI 0) 15),
  (15, sRetI .int 1 K)]
theorem snL_halt (l : Launch) (K : aRs) (n0 : Nat) : ∀ q ∈ tbL_halt l K, Snd (BdH l mdL_halt hhL_halt K n0) q.1 q.2 :=
  tcG (sH (fun p e s m args below meth c cA D A ad0 h => ok_aload_n h.1 1 rfl dL_halt_0)) <|
  tcG (sH (fun p e s m args below meth c cA D A ad0 h => ok_iconst h.1 ⟨by decide, by decide⟩ dL_halt_1)) <|
  tcG (sH (fun p e s m args below meth c cA D A ad0 h => ok_aload_n h.1 0 rfl dL_halt_2)) <|
  tcG (sH (fun p e s m args below meth c cA D A ad0 h => ok_callVH h.1 h.2.1 ⟨Nat.le_refl _, Nat.le_refl _⟩ mdX4_halt siX4_halt cxX4 mkRL_37 imX4_halt seX4_halt ⟨by decide, by decide⟩ (by rw [h.2.2.1]; exact rwL_halt) dL_halt_3)) <|
  tcG (sH (fun p e s m args below meth c cA D A ad0 h => ok_i2l h.1 dL_halt_6)) <|
  tcG (sH (fun p e s m args below meth c cA D A ad0 h => ok_last h.1 dL_halt_7)) <|
  tcG (sH (fun p e s m args below meth c cA D A ad0 h => ok_goto h.1 14 (by decide) dL_halt_8)) <|
  tcG (sH (fun p e s m args below meth c cA D A ad0 h => ok_astore_n h.1 2 rfl (by decide) dL_halt_11)) <|
  tcG (sH (fun p e s m args below meth c cA D A ad0 h => ok_iconst h.1 ⟨by decide, by decide⟩ dL_halt_12)) <|
  tcG (sH (fun p e s m args below meth c cA D A ad0 h => ok_ireturn h.1 h.2.2.2.1 (Or.inl rfl) dL_halt_13)) <|
  tcG (sH (fun p e s m args below meth c cA D A ad0 h => ok_iconst h.1 ⟨by decide, by decide⟩ dL_halt_14)) <|
  tcG (sH (fun p e s m args below meth c cA D A ad0 h => ok_ireturn h.1 h.2.2.2.1 (Or.inl rfl) dL_halt_15)) <|
  tnG
abbrev cuL_halt : List Nat := [6, 12]
theorem tL_halt_0 (l : Launch) (K : aRs) : tb (tbL_halt l K) 0 = sLd 1 1 isR := (rfl)
theorem wL_halt_0 {l : Launch} {K : aRs} {J : aK} {W : Nat → aK} (hW : isW (tbL_halt l K) cuL_halt J W) (n : Nat) (ls st : List aV) (μ : aM) (g : Nat) : W (n + 1) 0 ls st μ g = (sLd 1 1 isR) (W n) ls st μ g := (hW n 0 ls st μ g).trans rfl
theorem wL_halt_1 {l : Launch} {K : aRs} {J : aK} {W : Nat → aK} (hW : isW (tbL_halt l K) cuL_halt J W) (n : Nat) (ls st : List aV) (μ : aM) (g : Nat) : W (n + 1) 1 ls st μ g = (sPush (aI 0) 2) (W n) ls st μ g := (hW n 1 ls st μ g).trans rfl
theorem wL_halt_2 {l : Launch} {K : aRs} {J : aK} {W : Nat → aK} (hW : isW (tbL_halt l K) cuL_halt J W) (n : Nat) (ls st : List aV) (μ : aM) (g : Nat) : W (n + 1) 2 ls st μ g = (sLd 0 3 isR) (W n) ls st μ g := (hW n 2 ls st μ g).trans rfl
theorem wL_halt_3 {l : Launch} {K : aRs} {J : aK} {W : Nat → aK} (hW : isW (tbL_halt l K) cuL_halt J W) (n : Nat) (ls st : List aV) (μ : aM) (g : Nat) : W (n + 1) 3 ls st μ g = (sCallVH 0 4 (fun as μ K X => Ct l mdX4_halt as μ K X) 6 1 1 3 [(2, 12)]) (W n) ls st μ g := (hW n 3 ls st μ g).trans rfl
theorem tL_halt_6 (l : Launch) (K : aRs) : tb (tbL_halt l K) 6 = sI2l 7 := (rfl)
theorem wL_halt_6 {l : Launch} {K : aRs} {J : aK} {W : Nat → aK} (hW : isW (tbL_halt l K) cuL_halt J W) (n : Nat) (ls st : List aV) (μ : aM) (g : Nat) : W (n + 1) 6 ls st μ g = J 6 ls st μ g := (hW n 6 ls st μ g).trans rfl
theorem wL_halt_7 {l : Launch} {K : aRs} {J : aK} {W : Nat → aK} (hW : isW (tbL_halt l K) cuL_halt J W) (n : Nat) (ls st : List aV) (μ : aM) (g : Nat) : W (n + 1) 7 ls st μ g = (sAstL 8) (W n) ls st μ g := (hW n 7 ls st μ g).trans rfl
theorem wL_halt_8 {l : Launch} {K : aRs} {J : aK} {W : Nat → aK} (hW : isW (tbL_halt l K) cuL_halt J W) (n : Nat) (ls st : List aV) (μ : aM) (g : Nat) : W (n + 1) 8 ls st μ g = (sGoto 14) (W n) ls st μ g := (hW n 8 ls st μ g).trans rfl
theorem wL_halt_11 {l : Launch} {K : aRs} {J : aK} {W : Nat → aK} (hW : isW (tbL_halt l K) cuL_halt J W) (n : Nat) (ls st : List aV) (μ : aM) (g : Nat) : W (n + 1) 11 ls st μ g = (sSt 2 12 isR) (W n) ls st μ g := (hW n 11 ls st μ g).trans rfl
theorem tL_halt_12 (l : Launch) (K : aRs) : tb (tbL_halt l K) 12 = sPush (aI 1) 13 := (rfl)
theorem wL_halt_12 {l : Launch} {K : aRs} {J : aK} {W : Nat → aK} (hW : isW (tbL_halt l K) cuL_halt J W) (n : Nat) (ls st : List aV) (μ : aM) (g : Nat) : W (n + 1) 12 ls st μ g = J 12 ls st μ g := (hW n 12 ls st μ g).trans rfl
theorem wL_halt_13 {l : Launch} {K : aRs} {J : aK} {W : Nat → aK} (hW : isW (tbL_halt l K) cuL_halt J W) (n : Nat) (ls st : List aV) (μ : aM) (g : Nat) : W (n + 1) 13 ls st μ g = (sRetI .int 1 K) (W n) ls st μ g := (hW n 13 ls st μ g).trans rfl
theorem wL_halt_14 {l : Launch} {K : aRs} {J : aK} {W : Nat → aK} (hW : isW (tbL_halt l K) cuL_halt J W) (n : Nat) (ls st : List aV) (μ : aM) (g : Nat) : W (n + 1) 14 ls st μ g = (sPush (aI 0) 15) (W n) ls st μ g := (hW n 14 ls st μ g).trans rfl
theorem wL_halt_15 {l : Launch} {K : aRs} {J : aK} {W : Nat → aK} (hW : isW (tbL_halt l K) cuL_halt J W) (n : Nat) (ls st : List aV) (μ : aM) (g : Nat) : W (n + 1) 15 ls st μ g = (sRetI .int 1 K) (W n) ls st μ g := (hW n 15 ls st μ g).trans rfl
theorem dL_auction_0 : decode cL_auction 0 = .ok (.aload_n 1, 1) := by decide +kernel
theorem dL_auction_1 : decode cL_auction 1 = .ok (.iconst 0, 1) := by decide +kernel
theorem dL_auction_2 : decode cL_auction 2 = .ok (.aload_n 0, 1) := by decide +kernel
theorem dL_auction_3 : decode cL_auction 3 = .ok (.invokevirtual 41, 3) := by decide +kernel
theorem dL_auction_6 : decode cL_auction 6 = .ok (.i2l, 1) := by decide +kernel
theorem dL_auction_7 : decode cL_auction 7 = .ok (.lastore, 1) := by decide +kernel
theorem dL_auction_8 : decode cL_auction 8 = .ok (.goto 6, 3) := by decide +kernel
theorem dL_auction_11 : decode cL_auction 11 = .ok (.astore_n 2, 1) := by decide +kernel
theorem dL_auction_12 : decode cL_auction 12 = .ok (.iconst 1, 1) := by decide +kernel
theorem dL_auction_13 : decode cL_auction 13 = .ok (.ireturn, 1) := by decide +kernel
theorem dL_auction_14 : decode cL_auction 14 = .ok (.iconst 0, 1) := by decide +kernel
theorem dL_auction_15 : decode cL_auction 15 = .ok (.ireturn, 1) := by decide +kernel
abbrev mdL_auction : aMd := (yL_auction, cL_auction, 3, (some FieldType.int), 8, 1)
abbrev hhL_auction : List (Nat × Nat × Nat × Nat) := [(0, 8, 11, 15)]
theorem siL_auction : aSiteH mdL_auction hhL_auction 2 := ⟨⟨niRL, bg 536 (by decide +kernel) rfl⟩, by decide +kernel, by decide +kernel, by decide +kernel⟩
theorem stL_auction : Cond.static yL_auction ∈ bgL := bg 535 (by decide +kernel) rfl
theorem rwL_auction : ∀ h ∈ ([(2, 12)] : List (Nat × Nat)), hRow (tableOf hhL_auction) RL cL_auction 3 3 h.1 h.2 := List.forall_mem_cons.mpr ⟨⟨[], ⟨0, 8, 11, 15⟩, [], rfl, (fun z hz => nomatch hz), by decide, by decide, ckRL_15, Or.inr ⟨2, by decide, dL_auction_11, rfl⟩⟩, (fun z hz => nomatch hz)⟩
def tbL_auction (l : Launch) (K : aRs) : aTb := [
  (0, sLd 1 1 isR),
  (1, sPush (aI 0) 2),
  (2, sLd 0 3 isR),
  (3, sCallVH 0 4 (fun as μ K X => Ct l mdX4_auction as μ K X) 6 1 1 3 [(2, 12)]),
  (6, sI2l 7),
  (7, sAstL 8),
  (8, sGoto 14),
  (11, sSt 2 12 isR),
  (12, sPush (aI 1) 13),
  (13, sRetI .int 1 K),
  (14, sPush (aI 0) 15),
  (15, sRetI .int 1 K)]
theorem snL_auction (l : Launch) (K : aRs) (n0 : Nat) : ∀ q ∈ tbL_auction l K, Snd (BdH l mdL_auction hhL_auction K n0) q.1 q.2 :=
  tcG (sH (fun p e s m args below meth c cA D A ad0 h => ok_aload_n h.1 1 rfl dL_auction_0)) <|
  tcG (sH (fun p e s m args below meth c cA D A ad0 h => ok_iconst h.1 ⟨by decide, by decide⟩ dL_auction_1)) <|
  tcG (sH (fun p e s m args below meth c cA D A ad0 h => ok_aload_n h.1 0 rfl dL_auction_2)) <|
  tcG (sH (fun p e s m args below meth c cA D A ad0 h => ok_callVH h.1 h.2.1 ⟨Nat.le_refl _, Nat.le_refl _⟩ mdX4_auction siX4_auction cxX4 mkRL_41 imX4_auction seX4_auction ⟨by decide, by decide⟩ (by rw [h.2.2.1]; exact rwL_auction) dL_auction_3)) <|
  tcG (sH (fun p e s m args below meth c cA D A ad0 h => ok_i2l h.1 dL_auction_6)) <|
  tcG (sH (fun p e s m args below meth c cA D A ad0 h => ok_last h.1 dL_auction_7)) <|
  tcG (sH (fun p e s m args below meth c cA D A ad0 h => ok_goto h.1 14 (by decide) dL_auction_8)) <|
  tcG (sH (fun p e s m args below meth c cA D A ad0 h => ok_astore_n h.1 2 rfl (by decide) dL_auction_11)) <|
  tcG (sH (fun p e s m args below meth c cA D A ad0 h => ok_iconst h.1 ⟨by decide, by decide⟩ dL_auction_12)) <|
  tcG (sH (fun p e s m args below meth c cA D A ad0 h => ok_ireturn h.1 h.2.2.2.1 (Or.inl rfl) dL_auction_13)) <|
  tcG (sH (fun p e s m args below meth c cA D A ad0 h => ok_iconst h.1 ⟨by decide, by decide⟩ dL_auction_14)) <|
  tcG (sH (fun p e s m args below meth c cA D A ad0 h => ok_ireturn h.1 h.2.2.2.1 (Or.inl rfl) dL_auction_15)) <|
  tnG
abbrev cuL_auction : List Nat := [6, 12]
theorem tL_auction_0 (l : Launch) (K : aRs) : tb (tbL_auction l K) 0 = sLd 1 1 isR := (rfl)
theorem wL_auction_0 {l : Launch} {K : aRs} {J : aK} {W : Nat → aK} (hW : isW (tbL_auction l K) cuL_auction J W) (n : Nat) (ls st : List aV) (μ : aM) (g : Nat) : W (n + 1) 0 ls st μ g = (sLd 1 1 isR) (W n) ls st μ g := (hW n 0 ls st μ g).trans rfl
theorem wL_auction_1 {l : Launch} {K : aRs} {J : aK} {W : Nat → aK} (hW : isW (tbL_auction l K) cuL_auction J W) (n : Nat) (ls st : List aV) (μ : aM) (g : Nat) : W (n + 1) 1 ls st μ g = (sPush (aI 0) 2) (W n) ls st μ g := (hW n 1 ls st μ g).trans rfl
theorem wL_auction_2 {l : Launch} {K : aRs} {J : aK} {W : Nat → aK} (hW : isW (tbL_auction l K) cuL_auction J W) (n : Nat) (ls st : List aV) (μ : aM) (g : Nat) : W (n + 1) 2 ls st μ g = (sLd 0 3 isR) (W n) ls st μ g := (hW n 2 ls st μ g).trans rfl
theorem wL_auction_3 {l : Launch} {K : aRs} {J : aK} {W : Nat → aK} (hW : isW (tbL_auction l K) cuL_auction J W) (n : Nat) (ls st : List aV) (μ : aM) (g : Nat) : W (n + 1) 3 ls st μ g = (sCallVH 0 4 (fun as μ K X => Ct l mdX4_auction as μ K X) 6 1 1 3 [(2, 12)]) (W n) ls st μ g := (hW n 3 ls st μ g).trans rfl
theorem tL_auction_6 (l : Launch) (K : aRs) : tb (tbL_auction l K) 6 = sI2l 7 := (rfl)
theorem wL_auction_6 {l : Launch} {K : aRs} {J : aK} {W : Nat → aK} (hW : isW (tbL_auction l K) cuL_auction J W) (n : Nat) (ls st : List aV) (μ : aM) (g : Nat) : W (n + 1) 6 ls st μ g = J 6 ls st μ g := (hW n 6 ls st μ g).trans rfl
theorem wL_auction_7 {l : Launch} {K : aRs} {J : aK} {W : Nat → aK} (hW : isW (tbL_auction l K) cuL_auction J W) (n : Nat) (ls st : List aV) (μ : aM) (g : Nat) : W (n + 1) 7 ls st μ g = (sAstL 8) (W n) ls st μ g := (hW n 7 ls st μ g).trans rfl
theorem wL_auction_8 {l : Launch} {K : aRs} {J : aK} {W : Nat → aK} (hW : isW (tbL_auction l K) cuL_auction J W) (n : Nat) (ls st : List aV) (μ : aM) (g : Nat) : W (n + 1) 8 ls st μ g = (sGoto 14) (W n) ls st μ g := (hW n 8 ls st μ g).trans rfl
theorem wL_auction_11 {l : Launch} {K : aRs} {J : aK} {W : Nat → aK} (hW : isW (tbL_auction l K) cuL_auction J W) (n : Nat) (ls st : List aV) (μ : aM) (g : Nat) : W (n + 1) 11 ls st μ g = (sSt 2 12 isR) (W n) ls st μ g := (hW n 11 ls st μ g).trans rfl
theorem tL_auction_12 (l : Launch) (K : aRs) : tb (tbL_auction l K) 12 = sPush (aI 1) 13 := (rfl)
theorem wL_auction_12 {l : Launch} {K : aRs} {J : aK} {W : Nat → aK} (hW : isW (tbL_auction l K) cuL_auction J W) (n : Nat) (ls st : List aV) (μ : aM) (g : Nat) : W (n + 1) 12 ls st μ g = J 12 ls st μ g := (hW n 12 ls st μ g).trans rfl
theorem wL_auction_13 {l : Launch} {K : aRs} {J : aK} {W : Nat → aK} (hW : isW (tbL_auction l K) cuL_auction J W) (n : Nat) (ls st : List aV) (μ : aM) (g : Nat) : W (n + 1) 13 ls st μ g = (sRetI .int 1 K) (W n) ls st μ g := (hW n 13 ls st μ g).trans rfl
theorem wL_auction_14 {l : Launch} {K : aRs} {J : aK} {W : Nat → aK} (hW : isW (tbL_auction l K) cuL_auction J W) (n : Nat) (ls st : List aV) (μ : aM) (g : Nat) : W (n + 1) 14 ls st μ g = (sPush (aI 0) 15) (W n) ls st μ g := (hW n 14 ls st μ g).trans rfl
theorem wL_auction_15 {l : Launch} {K : aRs} {J : aK} {W : Nat → aK} (hW : isW (tbL_auction l K) cuL_auction J W) (n : Nat) (ls st : List aV) (μ : aM) (g : Nat) : W (n + 1) 15 ls st μ g = (sRetI .int 1 K) (W n) ls st μ g := (hW n 15 ls st μ g).trans rfl
theorem dL_stateOf_0 : decode cL_stateOf 0 = .ok (.aload_n 2, 1) := by decide +kernel
theorem dL_stateOf_1 : decode cL_stateOf 1 = .ok (.iconst 0, 1) := by decide +kernel
theorem dL_stateOf_2 : decode cL_stateOf 2 = .ok (.aload_n 0, 1) := by decide +kernel
theorem dL_stateOf_3 : decode cL_stateOf 3 = .ok (.iload_n 1, 1) := by decide +kernel
theorem dL_stateOf_4 : decode cL_stateOf 4 = .ok (.invokevirtual 44, 3) := by decide +kernel
theorem dL_stateOf_7 : decode cL_stateOf 7 = .ok (.i2l, 1) := by decide +kernel
theorem dL_stateOf_8 : decode cL_stateOf 8 = .ok (.lastore, 1) := by decide +kernel
theorem dL_stateOf_9 : decode cL_stateOf 9 = .ok (.goto 6, 3) := by decide +kernel
theorem dL_stateOf_12 : decode cL_stateOf 12 = .ok (.astore_n 3, 1) := by decide +kernel
theorem dL_stateOf_13 : decode cL_stateOf 13 = .ok (.iconst 1, 1) := by decide +kernel
theorem dL_stateOf_14 : decode cL_stateOf 14 = .ok (.ireturn, 1) := by decide +kernel
theorem dL_stateOf_15 : decode cL_stateOf 15 = .ok (.iconst 0, 1) := by decide +kernel
theorem dL_stateOf_16 : decode cL_stateOf 16 = .ok (.ireturn, 1) := by decide +kernel
abbrev mdL_stateOf : aMd := (yL_stateOf, cL_stateOf, 4, (some FieldType.int), 8, 1)
abbrev hhL_stateOf : List (Nat × Nat × Nat × Nat) := [(0, 9, 12, 24)]
theorem siL_stateOf : aSiteH mdL_stateOf hhL_stateOf 3 := ⟨⟨niRL, bg 559 (by decide +kernel) rfl⟩, by decide +kernel, by decide +kernel, by decide +kernel⟩
theorem stL_stateOf : Cond.static yL_stateOf ∈ bgL := bg 558 (by decide +kernel) rfl
theorem rwL_stateOf : ∀ h ∈ ([(3, 13)] : List (Nat × Nat)), hRow (tableOf hhL_stateOf) RL cL_stateOf 4 4 h.1 h.2 := List.forall_mem_cons.mpr ⟨⟨[], ⟨0, 9, 12, 24⟩, [], rfl, (fun z hz => nomatch hz), by decide, by decide, ckRL_24, Or.inr ⟨3, by decide, dL_stateOf_12, rfl⟩⟩, (fun z hz => nomatch hz)⟩
def tbL_stateOf (l : Launch) (K : aRs) : aTb := [
  (0, sLd 2 1 isR),
  (1, sPush (aI 0) 2),
  (2, sLd 0 3 isR),
  (3, sLd 1 4 isI),
  (4, sCallVH 1 4 (fun as μ K X => Ct l mdX4_stateOf as μ K X) 7 1 1 4 [(3, 13)]),
  (7, sI2l 8),
  (8, sAstL 9),
  (9, sGoto 15),
  (12, sSt 3 13 isR),
  (13, sPush (aI 1) 14),
  (14, sRetI .int 1 K),
  (15, sPush (aI 0) 16),
  (16, sRetI .int 1 K)]
theorem snL_stateOf (l : Launch) (K : aRs) (n0 : Nat) : ∀ q ∈ tbL_stateOf l K, Snd (BdH l mdL_stateOf hhL_stateOf K n0) q.1 q.2 :=
  tcG (sH (fun p e s m args below meth c cA D A ad0 h => ok_aload_n h.1 2 rfl dL_stateOf_0)) <|
  tcG (sH (fun p e s m args below meth c cA D A ad0 h => ok_iconst h.1 ⟨by decide, by decide⟩ dL_stateOf_1)) <|
  tcG (sH (fun p e s m args below meth c cA D A ad0 h => ok_aload_n h.1 0 rfl dL_stateOf_2)) <|
  tcG (sH (fun p e s m args below meth c cA D A ad0 h => ok_iload_n h.1 1 rfl dL_stateOf_3)) <|
  tcG (sH (fun p e s m args below meth c cA D A ad0 h => ok_callVH h.1 h.2.1 ⟨Nat.le_refl _, Nat.le_refl _⟩ mdX4_stateOf siX4_stateOf cxX4 mkRL_44 imX4_stateOf seX4_stateOf ⟨by decide, by decide⟩ (by rw [h.2.2.1]; exact rwL_stateOf) dL_stateOf_4)) <|
  tcG (sH (fun p e s m args below meth c cA D A ad0 h => ok_i2l h.1 dL_stateOf_7)) <|
  tcG (sH (fun p e s m args below meth c cA D A ad0 h => ok_last h.1 dL_stateOf_8)) <|
  tcG (sH (fun p e s m args below meth c cA D A ad0 h => ok_goto h.1 15 (by decide) dL_stateOf_9)) <|
  tcG (sH (fun p e s m args below meth c cA D A ad0 h => ok_astore_n h.1 3 rfl (by decide) dL_stateOf_12)) <|
  tcG (sH (fun p e s m args below meth c cA D A ad0 h => ok_iconst h.1 ⟨by decide, by decide⟩ dL_stateOf_13)) <|
  tcG (sH (fun p e s m args below meth c cA D A ad0 h => ok_ireturn h.1 h.2.2.2.1 (Or.inl rfl) dL_stateOf_14)) <|
  tcG (sH (fun p e s m args below meth c cA D A ad0 h => ok_iconst h.1 ⟨by decide, by decide⟩ dL_stateOf_15)) <|
  tcG (sH (fun p e s m args below meth c cA D A ad0 h => ok_ireturn h.1 h.2.2.2.1 (Or.inl rfl) dL_stateOf_16)) <|
  tnG
abbrev cuL_stateOf : List Nat := [7, 13]
theorem tL_stateOf_0 (l : Launch) (K : aRs) : tb (tbL_stateOf l K) 0 = sLd 2 1 isR := (rfl)
theorem wL_stateOf_0 {l : Launch} {K : aRs} {J : aK} {W : Nat → aK} (hW : isW (tbL_stateOf l K) cuL_stateOf J W) (n : Nat) (ls st : List aV) (μ : aM) (g : Nat) : W (n + 1) 0 ls st μ g = (sLd 2 1 isR) (W n) ls st μ g := (hW n 0 ls st μ g).trans rfl
theorem wL_stateOf_1 {l : Launch} {K : aRs} {J : aK} {W : Nat → aK} (hW : isW (tbL_stateOf l K) cuL_stateOf J W) (n : Nat) (ls st : List aV) (μ : aM) (g : Nat) : W (n + 1) 1 ls st μ g = (sPush (aI 0) 2) (W n) ls st μ g := (hW n 1 ls st μ g).trans rfl
theorem wL_stateOf_2 {l : Launch} {K : aRs} {J : aK} {W : Nat → aK} (hW : isW (tbL_stateOf l K) cuL_stateOf J W) (n : Nat) (ls st : List aV) (μ : aM) (g : Nat) : W (n + 1) 2 ls st μ g = (sLd 0 3 isR) (W n) ls st μ g := (hW n 2 ls st μ g).trans rfl
theorem wL_stateOf_3 {l : Launch} {K : aRs} {J : aK} {W : Nat → aK} (hW : isW (tbL_stateOf l K) cuL_stateOf J W) (n : Nat) (ls st : List aV) (μ : aM) (g : Nat) : W (n + 1) 3 ls st μ g = (sLd 1 4 isI) (W n) ls st μ g := (hW n 3 ls st μ g).trans rfl
theorem wL_stateOf_4 {l : Launch} {K : aRs} {J : aK} {W : Nat → aK} (hW : isW (tbL_stateOf l K) cuL_stateOf J W) (n : Nat) (ls st : List aV) (μ : aM) (g : Nat) : W (n + 1) 4 ls st μ g = (sCallVH 1 4 (fun as μ K X => Ct l mdX4_stateOf as μ K X) 7 1 1 4 [(3, 13)]) (W n) ls st μ g := (hW n 4 ls st μ g).trans rfl
theorem tL_stateOf_7 (l : Launch) (K : aRs) : tb (tbL_stateOf l K) 7 = sI2l 8 := (rfl)
theorem wL_stateOf_7 {l : Launch} {K : aRs} {J : aK} {W : Nat → aK} (hW : isW (tbL_stateOf l K) cuL_stateOf J W) (n : Nat) (ls st : List aV) (μ : aM) (g : Nat) : W (n + 1) 7 ls st μ g = J 7 ls st μ g := (hW n 7 ls st μ g).trans rfl
theorem wL_stateOf_8 {l : Launch} {K : aRs} {J : aK} {W : Nat → aK} (hW : isW (tbL_stateOf l K) cuL_stateOf J W) (n : Nat) (ls st : List aV) (μ : aM) (g : Nat) : W (n + 1) 8 ls st μ g = (sAstL 9) (W n) ls st μ g := (hW n 8 ls st μ g).trans rfl
theorem wL_stateOf_9 {l : Launch} {K : aRs} {J : aK} {W : Nat → aK} (hW : isW (tbL_stateOf l K) cuL_stateOf J W) (n : Nat) (ls st : List aV) (μ : aM) (g : Nat) : W (n + 1) 9 ls st μ g = (sGoto 15) (W n) ls st μ g := (hW n 9 ls st μ g).trans rfl
theorem wL_stateOf_12 {l : Launch} {K : aRs} {J : aK} {W : Nat → aK} (hW : isW (tbL_stateOf l K) cuL_stateOf J W) (n : Nat) (ls st : List aV) (μ : aM) (g : Nat) : W (n + 1) 12 ls st μ g = (sSt 3 13 isR) (W n) ls st μ g := (hW n 12 ls st μ g).trans rfl
theorem tL_stateOf_13 (l : Launch) (K : aRs) : tb (tbL_stateOf l K) 13 = sPush (aI 1) 14 := (rfl)
theorem wL_stateOf_13 {l : Launch} {K : aRs} {J : aK} {W : Nat → aK} (hW : isW (tbL_stateOf l K) cuL_stateOf J W) (n : Nat) (ls st : List aV) (μ : aM) (g : Nat) : W (n + 1) 13 ls st μ g = J 13 ls st μ g := (hW n 13 ls st μ g).trans rfl
theorem wL_stateOf_14 {l : Launch} {K : aRs} {J : aK} {W : Nat → aK} (hW : isW (tbL_stateOf l K) cuL_stateOf J W) (n : Nat) (ls st : List aV) (μ : aM) (g : Nat) : W (n + 1) 14 ls st μ g = (sRetI .int 1 K) (W n) ls st μ g := (hW n 14 ls st μ g).trans rfl
theorem wL_stateOf_15 {l : Launch} {K : aRs} {J : aK} {W : Nat → aK} (hW : isW (tbL_stateOf l K) cuL_stateOf J W) (n : Nat) (ls st : List aV) (μ : aM) (g : Nat) : W (n + 1) 15 ls st μ g = (sPush (aI 0) 16) (W n) ls st μ g := (hW n 15 ls st μ g).trans rfl
theorem wL_stateOf_16 {l : Launch} {K : aRs} {J : aK} {W : Nat → aK} (hW : isW (tbL_stateOf l K) cuL_stateOf J W) (n : Nat) (ls st : List aV) (μ : aM) (g : Nat) : W (n + 1) 16 ls st μ g = (sRetI .int 1 K) (W n) ls st μ g := (hW n 16 ls st μ g).trans rfl
theorem dL_leftOf_0 : decode cL_leftOf 0 = .ok (.aload_n 2, 1) := by decide +kernel
theorem dL_leftOf_1 : decode cL_leftOf 1 = .ok (.iconst 0, 1) := by decide +kernel
theorem dL_leftOf_2 : decode cL_leftOf 2 = .ok (.aload_n 0, 1) := by decide +kernel
theorem dL_leftOf_3 : decode cL_leftOf 3 = .ok (.iload_n 1, 1) := by decide +kernel
theorem dL_leftOf_4 : decode cL_leftOf 4 = .ok (.invokevirtual 48, 3) := by decide +kernel
theorem dL_leftOf_7 : decode cL_leftOf 7 = .ok (.i2l, 1) := by decide +kernel
theorem dL_leftOf_8 : decode cL_leftOf 8 = .ok (.lastore, 1) := by decide +kernel
theorem dL_leftOf_9 : decode cL_leftOf 9 = .ok (.goto 6, 3) := by decide +kernel
theorem dL_leftOf_12 : decode cL_leftOf 12 = .ok (.astore_n 3, 1) := by decide +kernel
theorem dL_leftOf_13 : decode cL_leftOf 13 = .ok (.iconst 1, 1) := by decide +kernel
theorem dL_leftOf_14 : decode cL_leftOf 14 = .ok (.ireturn, 1) := by decide +kernel
theorem dL_leftOf_15 : decode cL_leftOf 15 = .ok (.iconst 0, 1) := by decide +kernel
theorem dL_leftOf_16 : decode cL_leftOf 16 = .ok (.ireturn, 1) := by decide +kernel
abbrev mdL_leftOf : aMd := (yL_leftOf, cL_leftOf, 4, (some FieldType.int), 8, 1)
abbrev hhL_leftOf : List (Nat × Nat × Nat × Nat) := [(0, 9, 12, 24)]
theorem siL_leftOf : aSiteH mdL_leftOf hhL_leftOf 3 := ⟨⟨niRL, bg 566 (by decide +kernel) rfl⟩, by decide +kernel, by decide +kernel, by decide +kernel⟩
theorem stL_leftOf : Cond.static yL_leftOf ∈ bgL := bg 565 (by decide +kernel) rfl
theorem rwL_leftOf : ∀ h ∈ ([(3, 13)] : List (Nat × Nat)), hRow (tableOf hhL_leftOf) RL cL_leftOf 4 4 h.1 h.2 := List.forall_mem_cons.mpr ⟨⟨[], ⟨0, 9, 12, 24⟩, [], rfl, (fun z hz => nomatch hz), by decide, by decide, ckRL_24, Or.inr ⟨3, by decide, dL_leftOf_12, rfl⟩⟩, (fun z hz => nomatch hz)⟩
def tbL_leftOf (l : Launch) (K : aRs) : aTb := [
  (0, sLd 2 1 isR),
  (1, sPush (aI 0) 2),
  (2, sLd 0 3 isR),
  (3, sLd 1 4 isI),
  (4, sCallVH 1 4 (fun as μ K X => Ct l mdX4_leftOf as μ K X) 7 1 1 4 [(3, 13)]),
  (7, sI2l 8),
  (8, sAstL 9),
  (9, sGoto 15),
  (12, sSt 3 13 isR),
  (13, sPush (aI 1) 14),
  (14, sRetI .int 1 K),
  (15, sPush (aI 0) 16),
  (16, sRetI .int 1 K)]
theorem snL_leftOf (l : Launch) (K : aRs) (n0 : Nat) : ∀ q ∈ tbL_leftOf l K, Snd (BdH l mdL_leftOf hhL_leftOf K n0) q.1 q.2 :=
  tcG (sH (fun p e s m args below meth c cA D A ad0 h => ok_aload_n h.1 2 rfl dL_leftOf_0)) <|
  tcG (sH (fun p e s m args below meth c cA D A ad0 h => ok_iconst h.1 ⟨by decide, by decide⟩ dL_leftOf_1)) <|
  tcG (sH (fun p e s m args below meth c cA D A ad0 h => ok_aload_n h.1 0 rfl dL_leftOf_2)) <|
  tcG (sH (fun p e s m args below meth c cA D A ad0 h => ok_iload_n h.1 1 rfl dL_leftOf_3)) <|
  tcG (sH (fun p e s m args below meth c cA D A ad0 h => ok_callVH h.1 h.2.1 ⟨Nat.le_refl _, Nat.le_refl _⟩ mdX4_leftOf siX4_leftOf cxX4 mkRL_48 imX4_leftOf seX4_leftOf ⟨by decide, by decide⟩ (by rw [h.2.2.1]; exact rwL_leftOf) dL_leftOf_4)) <|
  tcG (sH (fun p e s m args below meth c cA D A ad0 h => ok_i2l h.1 dL_leftOf_7)) <|
  tcG (sH (fun p e s m args below meth c cA D A ad0 h => ok_last h.1 dL_leftOf_8)) <|
  tcG (sH (fun p e s m args below meth c cA D A ad0 h => ok_goto h.1 15 (by decide) dL_leftOf_9)) <|
  tcG (sH (fun p e s m args below meth c cA D A ad0 h => ok_astore_n h.1 3 rfl (by decide) dL_leftOf_12)) <|
  tcG (sH (fun p e s m args below meth c cA D A ad0 h => ok_iconst h.1 ⟨by decide, by decide⟩ dL_leftOf_13)) <|
  tcG (sH (fun p e s m args below meth c cA D A ad0 h => ok_ireturn h.1 h.2.2.2.1 (Or.inl rfl) dL_leftOf_14)) <|
  tcG (sH (fun p e s m args below meth c cA D A ad0 h => ok_iconst h.1 ⟨by decide, by decide⟩ dL_leftOf_15)) <|
  tcG (sH (fun p e s m args below meth c cA D A ad0 h => ok_ireturn h.1 h.2.2.2.1 (Or.inl rfl) dL_leftOf_16)) <|
  tnG
abbrev cuL_leftOf : List Nat := [7, 13]
theorem tL_leftOf_0 (l : Launch) (K : aRs) : tb (tbL_leftOf l K) 0 = sLd 2 1 isR := (rfl)
theorem wL_leftOf_0 {l : Launch} {K : aRs} {J : aK} {W : Nat → aK} (hW : isW (tbL_leftOf l K) cuL_leftOf J W) (n : Nat) (ls st : List aV) (μ : aM) (g : Nat) : W (n + 1) 0 ls st μ g = (sLd 2 1 isR) (W n) ls st μ g := (hW n 0 ls st μ g).trans rfl
theorem wL_leftOf_1 {l : Launch} {K : aRs} {J : aK} {W : Nat → aK} (hW : isW (tbL_leftOf l K) cuL_leftOf J W) (n : Nat) (ls st : List aV) (μ : aM) (g : Nat) : W (n + 1) 1 ls st μ g = (sPush (aI 0) 2) (W n) ls st μ g := (hW n 1 ls st μ g).trans rfl
theorem wL_leftOf_2 {l : Launch} {K : aRs} {J : aK} {W : Nat → aK} (hW : isW (tbL_leftOf l K) cuL_leftOf J W) (n : Nat) (ls st : List aV) (μ : aM) (g : Nat) : W (n + 1) 2 ls st μ g = (sLd 0 3 isR) (W n) ls st μ g := (hW n 2 ls st μ g).trans rfl
theorem wL_leftOf_3 {l : Launch} {K : aRs} {J : aK} {W : Nat → aK} (hW : isW (tbL_leftOf l K) cuL_leftOf J W) (n : Nat) (ls st : List aV) (μ : aM) (g : Nat) : W (n + 1) 3 ls st μ g = (sLd 1 4 isI) (W n) ls st μ g := (hW n 3 ls st μ g).trans rfl
theorem wL_leftOf_4 {l : Launch} {K : aRs} {J : aK} {W : Nat → aK} (hW : isW (tbL_leftOf l K) cuL_leftOf J W) (n : Nat) (ls st : List aV) (μ : aM) (g : Nat) : W (n + 1) 4 ls st μ g = (sCallVH 1 4 (fun as μ K X => Ct l mdX4_leftOf as μ K X) 7 1 1 4 [(3, 13)]) (W n) ls st μ g := (hW n 4 ls st μ g).trans rfl
theorem tL_leftOf_7 (l : Launch) (K : aRs) : tb (tbL_leftOf l K) 7 = sI2l 8 := (rfl)
theorem wL_leftOf_7 {l : Launch} {K : aRs} {J : aK} {W : Nat → aK} (hW : isW (tbL_leftOf l K) cuL_leftOf J W) (n : Nat) (ls st : List aV) (μ : aM) (g : Nat) : W (n + 1) 7 ls st μ g = J 7 ls st μ g := (hW n 7 ls st μ g).trans rfl
theorem wL_leftOf_8 {l : Launch} {K : aRs} {J : aK} {W : Nat → aK} (hW : isW (tbL_leftOf l K) cuL_leftOf J W) (n : Nat) (ls st : List aV) (μ : aM) (g : Nat) : W (n + 1) 8 ls st μ g = (sAstL 9) (W n) ls st μ g := (hW n 8 ls st μ g).trans rfl
theorem wL_leftOf_9 {l : Launch} {K : aRs} {J : aK} {W : Nat → aK} (hW : isW (tbL_leftOf l K) cuL_leftOf J W) (n : Nat) (ls st : List aV) (μ : aM) (g : Nat) : W (n + 1) 9 ls st μ g = (sGoto 15) (W n) ls st μ g := (hW n 9 ls st μ g).trans rfl
theorem wL_leftOf_12 {l : Launch} {K : aRs} {J : aK} {W : Nat → aK} (hW : isW (tbL_leftOf l K) cuL_leftOf J W) (n : Nat) (ls st : List aV) (μ : aM) (g : Nat) : W (n + 1) 12 ls st μ g = (sSt 3 13 isR) (W n) ls st μ g := (hW n 12 ls st μ g).trans rfl
theorem tL_leftOf_13 (l : Launch) (K : aRs) : tb (tbL_leftOf l K) 13 = sPush (aI 1) 14 := (rfl)
theorem wL_leftOf_13 {l : Launch} {K : aRs} {J : aK} {W : Nat → aK} (hW : isW (tbL_leftOf l K) cuL_leftOf J W) (n : Nat) (ls st : List aV) (μ : aM) (g : Nat) : W (n + 1) 13 ls st μ g = J 13 ls st μ g := (hW n 13 ls st μ g).trans rfl
theorem wL_leftOf_14 {l : Launch} {K : aRs} {J : aK} {W : Nat → aK} (hW : isW (tbL_leftOf l K) cuL_leftOf J W) (n : Nat) (ls st : List aV) (μ : aM) (g : Nat) : W (n + 1) 14 ls st μ g = (sRetI .int 1 K) (W n) ls st μ g := (hW n 14 ls st μ g).trans rfl
theorem wL_leftOf_15 {l : Launch} {K : aRs} {J : aK} {W : Nat → aK} (hW : isW (tbL_leftOf l K) cuL_leftOf J W) (n : Nat) (ls st : List aV) (μ : aM) (g : Nat) : W (n + 1) 15 ls st μ g = (sPush (aI 0) 16) (W n) ls st μ g := (hW n 15 ls st μ g).trans rfl
theorem wL_leftOf_16 {l : Launch} {K : aRs} {J : aK} {W : Nat → aK} (hW : isW (tbL_leftOf l K) cuL_leftOf J W) (n : Nat) (ls st : List aV) (μ : aM) (g : Nat) : W (n + 1) 16 ls st μ g = (sRetI .int 1 K) (W n) ls st μ g := (hW n 16 ls st μ g).trans rfl
theorem dL_shownOf_0 : decode cL_shownOf 0 = .ok (.aload_n 2, 1) := by decide +kernel
theorem dL_shownOf_1 : decode cL_shownOf 1 = .ok (.iconst 0, 1) := by decide +kernel
theorem dL_shownOf_2 : decode cL_shownOf 2 = .ok (.aload_n 0, 1) := by decide +kernel
theorem dL_shownOf_3 : decode cL_shownOf 3 = .ok (.iload_n 1, 1) := by decide +kernel
theorem dL_shownOf_4 : decode cL_shownOf 4 = .ok (.invokevirtual 51, 3) := by decide +kernel
theorem dL_shownOf_7 : decode cL_shownOf 7 = .ok (.i2l, 1) := by decide +kernel
theorem dL_shownOf_8 : decode cL_shownOf 8 = .ok (.lastore, 1) := by decide +kernel
theorem dL_shownOf_9 : decode cL_shownOf 9 = .ok (.goto 9, 3) := by decide +kernel
theorem dL_shownOf_12 : decode cL_shownOf 12 = .ok (.astore_n 3, 1) := by decide +kernel
theorem dL_shownOf_13 : decode cL_shownOf 13 = .ok (.iconst 1, 1) := by decide +kernel
theorem dL_shownOf_14 : decode cL_shownOf 14 = .ok (.ireturn, 1) := by decide +kernel
theorem dL_shownOf_15 : decode cL_shownOf 15 = .ok (.astore_n 3, 1) := by decide +kernel
theorem dL_shownOf_16 : decode cL_shownOf 16 = .ok (.iconst 2, 1) := by decide +kernel
theorem dL_shownOf_17 : decode cL_shownOf 17 = .ok (.ireturn, 1) := by decide +kernel
theorem dL_shownOf_18 : decode cL_shownOf 18 = .ok (.iconst 0, 1) := by decide +kernel
theorem dL_shownOf_19 : decode cL_shownOf 19 = .ok (.ireturn, 1) := by decide +kernel
abbrev mdL_shownOf : aMd := (yL_shownOf, cL_shownOf, 4, (some FieldType.int), 8, 2)
abbrev hhL_shownOf : List (Nat × Nat × Nat × Nat) := [(0, 9, 12, 24), (0, 9, 15, 15)]
theorem siL_shownOf : aSiteH mdL_shownOf hhL_shownOf 3 := ⟨⟨niRL, bg 573 (by decide +kernel) rfl⟩, by decide +kernel, by decide +kernel, by decide +kernel⟩
theorem stL_shownOf : Cond.static yL_shownOf ∈ bgL := bg 572 (by decide +kernel) rfl
theorem rwL_shownOf : ∀ h ∈ ([(3, 13), (2, 16)] : List (Nat × Nat)), hRow (tableOf hhL_shownOf) RL cL_shownOf 4 4 h.1 h.2 := List.forall_mem_cons.mpr ⟨⟨[], ⟨0, 9, 12, 24⟩, [⟨0, 9, 15, 15⟩], rfl, (fun z hz => nomatch hz), by decide, by decide, ckRL_24, Or.inr ⟨3, by decide, dL_shownOf_12, rfl⟩⟩, List.forall_mem_cons.mpr ⟨⟨[⟨0, 9, 12, 24⟩], ⟨0, 9, 15, 15⟩, [], rfl, (List.forall_mem_cons.mpr ⟨Or.inr ⟨by decide, 3, ckRL_24, by decide⟩, (fun z hz => nomatch hz)⟩), by decide, by decide, ckRL_15, Or.inr ⟨3, by decide, dL_shownOf_15, rfl⟩⟩, (fun z hz => nomatch hz)⟩⟩
def tbL_shownOf (l : Launch) (K : aRs) : aTb := [
  (0, sLd 2 1 isR),
  (1, sPush (aI 0) 2),
  (2, sLd 0 3 isR),
  (3, sLd 1 4 isI),
  (4, sCallVH 1 4 (fun as μ K X => Ct l mdX4_shownOf as μ K X) 7 2 2 4 [(3, 13), (2, 16)]),
  (7, sI2l 8),
  (8, sAstL 9),
  (9, sGoto 18),
  (12, sSt 3 13 isR),
  (13, sPush (aI 1) 14),
  (14, sRetI .int 2 K),
  (15, sSt 3 16 isR),
  (16, sPush (aI 2) 17),
  (17, sRetI .int 2 K),
  (18, sPush (aI 0) 19),
  (19, sRetI .int 2 K)]
theorem snL_shownOf (l : Launch) (K : aRs) (n0 : Nat) : ∀ q ∈ tbL_shownOf l K, Snd (BdH l mdL_shownOf hhL_shownOf K n0) q.1 q.2 :=
  tcG (sH (fun p e s m args below meth c cA D A ad0 h => ok_aload_n h.1 2 rfl dL_shownOf_0)) <|
  tcG (sH (fun p e s m args below meth c cA D A ad0 h => ok_iconst h.1 ⟨by decide, by decide⟩ dL_shownOf_1)) <|
  tcG (sH (fun p e s m args below meth c cA D A ad0 h => ok_aload_n h.1 0 rfl dL_shownOf_2)) <|
  tcG (sH (fun p e s m args below meth c cA D A ad0 h => ok_iload_n h.1 1 rfl dL_shownOf_3)) <|
  tcG (sH (fun p e s m args below meth c cA D A ad0 h => ok_callVH h.1 h.2.1 ⟨Nat.le_refl _, Nat.le_refl _⟩ mdX4_shownOf siX4_shownOf cxX4 mkRL_51 imX4_shownOf seX4_shownOf ⟨by decide, by decide⟩ (by rw [h.2.2.1]; exact rwL_shownOf) dL_shownOf_4)) <|
  tcG (sH (fun p e s m args below meth c cA D A ad0 h => ok_i2l h.1 dL_shownOf_7)) <|
  tcG (sH (fun p e s m args below meth c cA D A ad0 h => ok_last h.1 dL_shownOf_8)) <|
  tcG (sH (fun p e s m args below meth c cA D A ad0 h => ok_goto h.1 18 (by decide) dL_shownOf_9)) <|
  tcG (sH (fun p e s m args below meth c cA D A ad0 h => ok_astore_n h.1 3 rfl (by decide) dL_shownOf_12)) <|
  tcG (sH (fun p e s m args below meth c cA D A ad0 h => ok_iconst h.1 ⟨by decide, by decide⟩ dL_shownOf_13)) <|
  tcG (sH (fun p e s m args below meth c cA D A ad0 h => ok_ireturn h.1 h.2.2.2.1 (Or.inl rfl) dL_shownOf_14)) <|
  tcG (sH (fun p e s m args below meth c cA D A ad0 h => ok_astore_n h.1 3 rfl (by decide) dL_shownOf_15)) <|
  tcG (sH (fun p e s m args below meth c cA D A ad0 h => ok_iconst h.1 ⟨by decide, by decide⟩ dL_shownOf_16)) <|
  tcG (sH (fun p e s m args below meth c cA D A ad0 h => ok_ireturn h.1 h.2.2.2.1 (Or.inl rfl) dL_shownOf_17)) <|
  tcG (sH (fun p e s m args below meth c cA D A ad0 h => ok_iconst h.1 ⟨by decide, by decide⟩ dL_shownOf_18)) <|
  tcG (sH (fun p e s m args below meth c cA D A ad0 h => ok_ireturn h.1 h.2.2.2.1 (Or.inl rfl) dL_shownOf_19)) <|
  tnG
abbrev cuL_shownOf : List Nat := [7, 13, 16]
theorem tL_shownOf_0 (l : Launch) (K : aRs) : tb (tbL_shownOf l K) 0 = sLd 2 1 isR := (rfl)
theorem wL_shownOf_0 {l : Launch} {K : aRs} {J : aK} {W : Nat → aK} (hW : isW (tbL_shownOf l K) cuL_shownOf J W) (n : Nat) (ls st : List aV) (μ : aM) (g : Nat) : W (n + 1) 0 ls st μ g = (sLd 2 1 isR) (W n) ls st μ g := (hW n 0 ls st μ g).trans rfl
theorem wL_shownOf_1 {l : Launch} {K : aRs} {J : aK} {W : Nat → aK} (hW : isW (tbL_shownOf l K) cuL_shownOf J W) (n : Nat) (ls st : List aV) (μ : aM) (g : Nat) : W (n + 1) 1 ls st μ g = (sPush (aI 0) 2) (W n) ls st μ g := (hW n 1 ls st μ g).trans rfl
theorem wL_shownOf_2 {l : Launch} {K : aRs} {J : aK} {W : Nat → aK} (hW : isW (tbL_shownOf l K) cuL_shownOf J W) (n : Nat) (ls st : List aV) (μ : aM) (g : Nat) : W (n + 1) 2 ls st μ g = (sLd 0 3 isR) (W n) ls st μ g := (hW n 2 ls st μ g).trans rfl
theorem wL_shownOf_3 {l : Launch} {K : aRs} {J : aK} {W : Nat → aK} (hW : isW (tbL_shownOf l K) cuL_shownOf J W) (n : Nat) (ls st : List aV) (μ : aM) (g : Nat) : W (n + 1) 3 ls st μ g = (sLd 1 4 isI) (W n) ls st μ g := (hW n 3 ls st μ g).trans rfl
theorem wL_shownOf_4 {l : Launch} {K : aRs} {J : aK} {W : Nat → aK} (hW : isW (tbL_shownOf l K) cuL_shownOf J W) (n : Nat) (ls st : List aV) (μ : aM) (g : Nat) : W (n + 1) 4 ls st μ g = (sCallVH 1 4 (fun as μ K X => Ct l mdX4_shownOf as μ K X) 7 2 2 4 [(3, 13), (2, 16)]) (W n) ls st μ g := (hW n 4 ls st μ g).trans rfl
theorem tL_shownOf_7 (l : Launch) (K : aRs) : tb (tbL_shownOf l K) 7 = sI2l 8 := (rfl)
theorem wL_shownOf_7 {l : Launch} {K : aRs} {J : aK} {W : Nat → aK} (hW : isW (tbL_shownOf l K) cuL_shownOf J W) (n : Nat) (ls st : List aV) (μ : aM) (g : Nat) : W (n + 1) 7 ls st μ g = J 7 ls st μ g := (hW n 7 ls st μ g).trans rfl
theorem wL_shownOf_8 {l : Launch} {K : aRs} {J : aK} {W : Nat → aK} (hW : isW (tbL_shownOf l K) cuL_shownOf J W) (n : Nat) (ls st : List aV) (μ : aM) (g : Nat) : W (n + 1) 8 ls st μ g = (sAstL 9) (W n) ls st μ g := (hW n 8 ls st μ g).trans rfl
theorem wL_shownOf_9 {l : Launch} {K : aRs} {J : aK} {W : Nat → aK} (hW : isW (tbL_shownOf l K) cuL_shownOf J W) (n : Nat) (ls st : List aV) (μ : aM) (g : Nat) : W (n + 1) 9 ls st μ g = (sGoto 18) (W n) ls st μ g := (hW n 9 ls st μ g).trans rfl
theorem wL_shownOf_12 {l : Launch} {K : aRs} {J : aK} {W : Nat → aK} (hW : isW (tbL_shownOf l K) cuL_shownOf J W) (n : Nat) (ls st : List aV) (μ : aM) (g : Nat) : W (n + 1) 12 ls st μ g = (sSt 3 13 isR) (W n) ls st μ g := (hW n 12 ls st μ g).trans rfl
theorem tL_shownOf_13 (l : Launch) (K : aRs) : tb (tbL_shownOf l K) 13 = sPush (aI 1) 14 := (rfl)
theorem wL_shownOf_13 {l : Launch} {K : aRs} {J : aK} {W : Nat → aK} (hW : isW (tbL_shownOf l K) cuL_shownOf J W) (n : Nat) (ls st : List aV) (μ : aM) (g : Nat) : W (n + 1) 13 ls st μ g = J 13 ls st μ g := (hW n 13 ls st μ g).trans rfl
theorem wL_shownOf_14 {l : Launch} {K : aRs} {J : aK} {W : Nat → aK} (hW : isW (tbL_shownOf l K) cuL_shownOf J W) (n : Nat) (ls st : List aV) (μ : aM) (g : Nat) : W (n + 1) 14 ls st μ g = (sRetI .int 2 K) (W n) ls st μ g := (hW n 14 ls st μ g).trans rfl
theorem wL_shownOf_15 {l : Launch} {K : aRs} {J : aK} {W : Nat → aK} (hW : isW (tbL_shownOf l K) cuL_shownOf J W) (n : Nat) (ls st : List aV) (μ : aM) (g : Nat) : W (n + 1) 15 ls st μ g = (sSt 3 16 isR) (W n) ls st μ g := (hW n 15 ls st μ g).trans rfl
theorem tL_shownOf_16 (l : Launch) (K : aRs) : tb (tbL_shownOf l K) 16 = sPush (aI 2) 17 := (rfl)
theorem wL_shownOf_16 {l : Launch} {K : aRs} {J : aK} {W : Nat → aK} (hW : isW (tbL_shownOf l K) cuL_shownOf J W) (n : Nat) (ls st : List aV) (μ : aM) (g : Nat) : W (n + 1) 16 ls st μ g = J 16 ls st μ g := (hW n 16 ls st μ g).trans rfl
theorem wL_shownOf_17 {l : Launch} {K : aRs} {J : aK} {W : Nat → aK} (hW : isW (tbL_shownOf l K) cuL_shownOf J W) (n : Nat) (ls st : List aV) (μ : aM) (g : Nat) : W (n + 1) 17 ls st μ g = (sRetI .int 2 K) (W n) ls st μ g := (hW n 17 ls st μ g).trans rfl
theorem wL_shownOf_18 {l : Launch} {K : aRs} {J : aK} {W : Nat → aK} (hW : isW (tbL_shownOf l K) cuL_shownOf J W) (n : Nat) (ls st : List aV) (μ : aM) (g : Nat) : W (n + 1) 18 ls st μ g = (sPush (aI 0) 19) (W n) ls st μ g := (hW n 18 ls st μ g).trans rfl
theorem wL_shownOf_19 {l : Launch} {K : aRs} {J : aK} {W : Nat → aK} (hW : isW (tbL_shownOf l K) cuL_shownOf J W) (n : Nat) (ls st : List aV) (μ : aM) (g : Nat) : W (n + 1) 19 ls st μ g = (sRetI .int 2 K) (W n) ls st μ g := (hW n 19 ls st μ g).trans rfl
theorem dL_filledShare_0 : decode cL_filledShare 0 = .ok (.aload_n 2, 1) := by decide +kernel
theorem dL_filledShare_1 : decode cL_filledShare 1 = .ok (.iconst 0, 1) := by decide +kernel
theorem dL_filledShare_2 : decode cL_filledShare 2 = .ok (.aload_n 0, 1) := by decide +kernel
theorem dL_filledShare_3 : decode cL_filledShare 3 = .ok (.iload_n 1, 1) := by decide +kernel
theorem dL_filledShare_4 : decode cL_filledShare 4 = .ok (.invokevirtual 54, 3) := by decide +kernel
theorem dL_filledShare_7 : decode cL_filledShare 7 = .ok (.f2d, 1) := by decide +kernel
theorem dL_filledShare_8 : decode cL_filledShare 8 = .ok (.dastore, 1) := by decide +kernel
theorem dL_filledShare_9 : decode cL_filledShare 9 = .ok (.goto 6, 3) := by decide +kernel
theorem dL_filledShare_12 : decode cL_filledShare 12 = .ok (.astore_n 3, 1) := by decide +kernel
theorem dL_filledShare_13 : decode cL_filledShare 13 = .ok (.iconst 1, 1) := by decide +kernel
theorem dL_filledShare_14 : decode cL_filledShare 14 = .ok (.ireturn, 1) := by decide +kernel
theorem dL_filledShare_15 : decode cL_filledShare 15 = .ok (.iconst 0, 1) := by decide +kernel
theorem dL_filledShare_16 : decode cL_filledShare 16 = .ok (.ireturn, 1) := by decide +kernel
abbrev mdL_filledShare : aMd := (yL_filledShare, cL_filledShare, 4, (some FieldType.int), 8, 1)
abbrev hhL_filledShare : List (Nat × Nat × Nat × Nat) := [(0, 9, 12, 24)]
theorem siL_filledShare : aSiteH mdL_filledShare hhL_filledShare 3 := ⟨⟨niRL, bg 580 (by decide +kernel) rfl⟩, by decide +kernel, by decide +kernel, by decide +kernel⟩
theorem stL_filledShare : Cond.static yL_filledShare ∈ bgL := bg 579 (by decide +kernel) rfl
theorem rwL_filledShare : ∀ h ∈ ([(3, 13)] : List (Nat × Nat)), hRow (tableOf hhL_filledShare) RL cL_filledShare 4 4 h.1 h.2 := List.forall_mem_cons.mpr ⟨⟨[], ⟨0, 9, 12, 24⟩, [], rfl, (fun z hz => nomatch hz), by decide, by decide, ckRL_24, Or.inr ⟨3, by decide, dL_filledShare_12, rfl⟩⟩, (fun z hz => nomatch hz)⟩
def tbL_filledShare (l : Launch) (K : aRs) : aTb := [
  (0, sLd 2 1 isR),
  (1, sPush (aI 0) 2),
  (2, sLd 0 3 isR),
  (3, sLd 1 4 isI),
  (4, sCallVH 1 4 (fun as μ K X => Ct l mdX4_filledShare as μ K X) 7 1 1 4 [(3, 13)]),
  (7, sF2d 8),
  (8, sAstD 9),
  (9, sGoto 15),
  (12, sSt 3 13 isR),
  (13, sPush (aI 1) 14),
  (14, sRetI .int 1 K),
  (15, sPush (aI 0) 16),
  (16, sRetI .int 1 K)]
theorem snL_filledShare (l : Launch) (K : aRs) (n0 : Nat) : ∀ q ∈ tbL_filledShare l K, Snd (BdH l mdL_filledShare hhL_filledShare K n0) q.1 q.2 :=
  tcG (sH (fun p e s m args below meth c cA D A ad0 h => ok_aload_n h.1 2 rfl dL_filledShare_0)) <|
  tcG (sH (fun p e s m args below meth c cA D A ad0 h => ok_iconst h.1 ⟨by decide, by decide⟩ dL_filledShare_1)) <|
  tcG (sH (fun p e s m args below meth c cA D A ad0 h => ok_aload_n h.1 0 rfl dL_filledShare_2)) <|
  tcG (sH (fun p e s m args below meth c cA D A ad0 h => ok_iload_n h.1 1 rfl dL_filledShare_3)) <|
  tcG (sH (fun p e s m args below meth c cA D A ad0 h => ok_callVH h.1 h.2.1 ⟨Nat.le_refl _, Nat.le_refl _⟩ mdX4_filledShare siX4_filledShare cxX4 mkRL_54 imX4_filledShare seX4_filledShare ⟨by decide, by decide⟩ (by rw [h.2.2.1]; exact rwL_filledShare) dL_filledShare_4)) <|
  tcG (sH (fun p e s m args below meth c cA D A ad0 h => ok_f2d h.1 dL_filledShare_7)) <|
  tcG (sH (fun p e s m args below meth c cA D A ad0 h => ok_dast h.1 dL_filledShare_8)) <|
  tcG (sH (fun p e s m args below meth c cA D A ad0 h => ok_goto h.1 15 (by decide) dL_filledShare_9)) <|
  tcG (sH (fun p e s m args below meth c cA D A ad0 h => ok_astore_n h.1 3 rfl (by decide) dL_filledShare_12)) <|
  tcG (sH (fun p e s m args below meth c cA D A ad0 h => ok_iconst h.1 ⟨by decide, by decide⟩ dL_filledShare_13)) <|
  tcG (sH (fun p e s m args below meth c cA D A ad0 h => ok_ireturn h.1 h.2.2.2.1 (Or.inl rfl) dL_filledShare_14)) <|
  tcG (sH (fun p e s m args below meth c cA D A ad0 h => ok_iconst h.1 ⟨by decide, by decide⟩ dL_filledShare_15)) <|
  tcG (sH (fun p e s m args below meth c cA D A ad0 h => ok_ireturn h.1 h.2.2.2.1 (Or.inl rfl) dL_filledShare_16)) <|
  tnG
abbrev cuL_filledShare : List Nat := [7, 13]
theorem tL_filledShare_0 (l : Launch) (K : aRs) : tb (tbL_filledShare l K) 0 = sLd 2 1 isR := (rfl)
theorem wL_filledShare_0 {l : Launch} {K : aRs} {J : aK} {W : Nat → aK} (hW : isW (tbL_filledShare l K) cuL_filledShare J W) (n : Nat) (ls st : List aV) (μ : aM) (g : Nat) : W (n + 1) 0 ls st μ g = (sLd 2 1 isR) (W n) ls st μ g := (hW n 0 ls st μ g).trans rfl
theorem wL_filledShare_1 {l : Launch} {K : aRs} {J : aK} {W : Nat → aK} (hW : isW (tbL_filledShare l K) cuL_filledShare J W) (n : Nat) (ls st : List aV) (μ : aM) (g : Nat) : W (n + 1) 1 ls st μ g = (sPush (aI 0) 2) (W n) ls st μ g := (hW n 1 ls st μ g).trans rfl
theorem wL_filledShare_2 {l : Launch} {K : aRs} {J : aK} {W : Nat → aK} (hW : isW (tbL_filledShare l K) cuL_filledShare J W) (n : Nat) (ls st : List aV) (μ : aM) (g : Nat) : W (n + 1) 2 ls st μ g = (sLd 0 3 isR) (W n) ls st μ g := (hW n 2 ls st μ g).trans rfl
theorem wL_filledShare_3 {l : Launch} {K : aRs} {J : aK} {W : Nat → aK} (hW : isW (tbL_filledShare l K) cuL_filledShare J W) (n : Nat) (ls st : List aV) (μ : aM) (g : Nat) : W (n + 1) 3 ls st μ g = (sLd 1 4 isI) (W n) ls st μ g := (hW n 3 ls st μ g).trans rfl
theorem wL_filledShare_4 {l : Launch} {K : aRs} {J : aK} {W : Nat → aK} (hW : isW (tbL_filledShare l K) cuL_filledShare J W) (n : Nat) (ls st : List aV) (μ : aM) (g : Nat) : W (n + 1) 4 ls st μ g = (sCallVH 1 4 (fun as μ K X => Ct l mdX4_filledShare as μ K X) 7 1 1 4 [(3, 13)]) (W n) ls st μ g := (hW n 4 ls st μ g).trans rfl
theorem tL_filledShare_7 (l : Launch) (K : aRs) : tb (tbL_filledShare l K) 7 = sF2d 8 := (rfl)
theorem wL_filledShare_7 {l : Launch} {K : aRs} {J : aK} {W : Nat → aK} (hW : isW (tbL_filledShare l K) cuL_filledShare J W) (n : Nat) (ls st : List aV) (μ : aM) (g : Nat) : W (n + 1) 7 ls st μ g = J 7 ls st μ g := (hW n 7 ls st μ g).trans rfl
theorem wL_filledShare_8 {l : Launch} {K : aRs} {J : aK} {W : Nat → aK} (hW : isW (tbL_filledShare l K) cuL_filledShare J W) (n : Nat) (ls st : List aV) (μ : aM) (g : Nat) : W (n + 1) 8 ls st μ g = (sAstD 9) (W n) ls st μ g := (hW n 8 ls st μ g).trans rfl
theorem wL_filledShare_9 {l : Launch} {K : aRs} {J : aK} {W : Nat → aK} (hW : isW (tbL_filledShare l K) cuL_filledShare J W) (n : Nat) (ls st : List aV) (μ : aM) (g : Nat) : W (n + 1) 9 ls st μ g = (sGoto 15) (W n) ls st μ g := (hW n 9 ls st μ g).trans rfl
theorem wL_filledShare_12 {l : Launch} {K : aRs} {J : aK} {W : Nat → aK} (hW : isW (tbL_filledShare l K) cuL_filledShare J W) (n : Nat) (ls st : List aV) (μ : aM) (g : Nat) : W (n + 1) 12 ls st μ g = (sSt 3 13 isR) (W n) ls st μ g := (hW n 12 ls st μ g).trans rfl
theorem tL_filledShare_13 (l : Launch) (K : aRs) : tb (tbL_filledShare l K) 13 = sPush (aI 1) 14 := (rfl)
theorem wL_filledShare_13 {l : Launch} {K : aRs} {J : aK} {W : Nat → aK} (hW : isW (tbL_filledShare l K) cuL_filledShare J W) (n : Nat) (ls st : List aV) (μ : aM) (g : Nat) : W (n + 1) 13 ls st μ g = J 13 ls st μ g := (hW n 13 ls st μ g).trans rfl
theorem wL_filledShare_14 {l : Launch} {K : aRs} {J : aK} {W : Nat → aK} (hW : isW (tbL_filledShare l K) cuL_filledShare J W) (n : Nat) (ls st : List aV) (μ : aM) (g : Nat) : W (n + 1) 14 ls st μ g = (sRetI .int 1 K) (W n) ls st μ g := (hW n 14 ls st μ g).trans rfl
theorem wL_filledShare_15 {l : Launch} {K : aRs} {J : aK} {W : Nat → aK} (hW : isW (tbL_filledShare l K) cuL_filledShare J W) (n : Nat) (ls st : List aV) (μ : aM) (g : Nat) : W (n + 1) 15 ls st μ g = (sPush (aI 0) 16) (W n) ls st μ g := (hW n 15 ls st μ g).trans rfl
theorem wL_filledShare_16 {l : Launch} {K : aRs} {J : aK} {W : Nat → aK} (hW : isW (tbL_filledShare l K) cuL_filledShare J W) (n : Nat) (ls st : List aV) (μ : aM) (g : Nat) : W (n + 1) 16 ls st μ g = (sRetI .int 1 K) (W n) ls st μ g := (hW n 16 ls st μ g).trans rfl
theorem dL_levels_0 : decode cL_levels 0 = .ok (.aload_n 2, 1) := by decide +kernel
theorem dL_levels_1 : decode cL_levels 1 = .ok (.iconst 0, 1) := by decide +kernel
theorem dL_levels_2 : decode cL_levels 2 = .ok (.aload_n 0, 1) := by decide +kernel
theorem dL_levels_3 : decode cL_levels 3 = .ok (.iload_n 1, 1) := by decide +kernel
theorem dL_levels_4 : decode cL_levels 4 = .ok (.invokevirtual 58, 3) := by decide +kernel
theorem dL_levels_7 : decode cL_levels 7 = .ok (.i2l, 1) := by decide +kernel
theorem dL_levels_8 : decode cL_levels 8 = .ok (.lastore, 1) := by decide +kernel
theorem dL_levels_9 : decode cL_levels 9 = .ok (.goto 6, 3) := by decide +kernel
theorem dL_levels_12 : decode cL_levels 12 = .ok (.astore_n 3, 1) := by decide +kernel
theorem dL_levels_13 : decode cL_levels 13 = .ok (.iconst 1, 1) := by decide +kernel
theorem dL_levels_14 : decode cL_levels 14 = .ok (.ireturn, 1) := by decide +kernel
theorem dL_levels_15 : decode cL_levels 15 = .ok (.iconst 0, 1) := by decide +kernel
theorem dL_levels_16 : decode cL_levels 16 = .ok (.ireturn, 1) := by decide +kernel
abbrev mdL_levels : aMd := (yL_levels, cL_levels, 4, (some FieldType.int), 8, 1)
abbrev hhL_levels : List (Nat × Nat × Nat × Nat) := [(0, 9, 12, 13)]
theorem siL_levels : aSiteH mdL_levels hhL_levels 3 := ⟨⟨niRL, bg 587 (by decide +kernel) rfl⟩, by decide +kernel, by decide +kernel, by decide +kernel⟩
theorem stL_levels : Cond.static yL_levels ∈ bgL := bg 586 (by decide +kernel) rfl
theorem rwL_levels : ∀ h ∈ ([(1, 13)] : List (Nat × Nat)), hRow (tableOf hhL_levels) RL cL_levels 4 4 h.1 h.2 := List.forall_mem_cons.mpr ⟨⟨[], ⟨0, 9, 12, 13⟩, [], rfl, (fun z hz => nomatch hz), by decide, by decide, ckRL_13, Or.inr ⟨3, by decide, dL_levels_12, rfl⟩⟩, (fun z hz => nomatch hz)⟩
def tbL_levels (l : Launch) (K : aRs) : aTb := [
  (0, sLd 2 1 isR),
  (1, sPush (aI 0) 2),
  (2, sLd 0 3 isR),
  (3, sLd 1 4 isI),
  (4, sCallVH 1 4 (fun as μ K X => Ct l mdX4_levels as μ K X) 7 1 1 4 [(1, 13)]),
  (7, sI2l 8),
  (8, sAstL 9),
  (9, sGoto 15),
  (12, sSt 3 13 isR),
  (13, sPush (aI 1) 14),
  (14, sRetI .int 1 K),
  (15, sPush (aI 0) 16),
  (16, sRetI .int 1 K)]
theorem snL_levels (l : Launch) (K : aRs) (n0 : Nat) : ∀ q ∈ tbL_levels l K, Snd (BdH l mdL_levels hhL_levels K n0) q.1 q.2 :=
  tcG (sH (fun p e s m args below meth c cA D A ad0 h => ok_aload_n h.1 2 rfl dL_levels_0)) <|
  tcG (sH (fun p e s m args below meth c cA D A ad0 h => ok_iconst h.1 ⟨by decide, by decide⟩ dL_levels_1)) <|
  tcG (sH (fun p e s m args below meth c cA D A ad0 h => ok_aload_n h.1 0 rfl dL_levels_2)) <|
  tcG (sH (fun p e s m args below meth c cA D A ad0 h => ok_iload_n h.1 1 rfl dL_levels_3)) <|
  tcG (sH (fun p e s m args below meth c cA D A ad0 h => ok_callVH h.1 h.2.1 ⟨Nat.le_refl _, Nat.le_refl _⟩ mdX4_levels siX4_levels cxX4 mkRL_58 imX4_levels seX4_levels ⟨by decide, by decide⟩ (by rw [h.2.2.1]; exact rwL_levels) dL_levels_4)) <|
  tcG (sH (fun p e s m args below meth c cA D A ad0 h => ok_i2l h.1 dL_levels_7)) <|
  tcG (sH (fun p e s m args below meth c cA D A ad0 h => ok_last h.1 dL_levels_8)) <|
  tcG (sH (fun p e s m args below meth c cA D A ad0 h => ok_goto h.1 15 (by decide) dL_levels_9)) <|
  tcG (sH (fun p e s m args below meth c cA D A ad0 h => ok_astore_n h.1 3 rfl (by decide) dL_levels_12)) <|
  tcG (sH (fun p e s m args below meth c cA D A ad0 h => ok_iconst h.1 ⟨by decide, by decide⟩ dL_levels_13)) <|
  tcG (sH (fun p e s m args below meth c cA D A ad0 h => ok_ireturn h.1 h.2.2.2.1 (Or.inl rfl) dL_levels_14)) <|
  tcG (sH (fun p e s m args below meth c cA D A ad0 h => ok_iconst h.1 ⟨by decide, by decide⟩ dL_levels_15)) <|
  tcG (sH (fun p e s m args below meth c cA D A ad0 h => ok_ireturn h.1 h.2.2.2.1 (Or.inl rfl) dL_levels_16)) <|
  tnG
abbrev cuL_levels : List Nat := [7, 13]
theorem tL_levels_0 (l : Launch) (K : aRs) : tb (tbL_levels l K) 0 = sLd 2 1 isR := (rfl)
theorem wL_levels_0 {l : Launch} {K : aRs} {J : aK} {W : Nat → aK} (hW : isW (tbL_levels l K) cuL_levels J W) (n : Nat) (ls st : List aV) (μ : aM) (g : Nat) : W (n + 1) 0 ls st μ g = (sLd 2 1 isR) (W n) ls st μ g := (hW n 0 ls st μ g).trans rfl
theorem wL_levels_1 {l : Launch} {K : aRs} {J : aK} {W : Nat → aK} (hW : isW (tbL_levels l K) cuL_levels J W) (n : Nat) (ls st : List aV) (μ : aM) (g : Nat) : W (n + 1) 1 ls st μ g = (sPush (aI 0) 2) (W n) ls st μ g := (hW n 1 ls st μ g).trans rfl
theorem wL_levels_2 {l : Launch} {K : aRs} {J : aK} {W : Nat → aK} (hW : isW (tbL_levels l K) cuL_levels J W) (n : Nat) (ls st : List aV) (μ : aM) (g : Nat) : W (n + 1) 2 ls st μ g = (sLd 0 3 isR) (W n) ls st μ g := (hW n 2 ls st μ g).trans rfl
theorem wL_levels_3 {l : Launch} {K : aRs} {J : aK} {W : Nat → aK} (hW : isW (tbL_levels l K) cuL_levels J W) (n : Nat) (ls st : List aV) (μ : aM) (g : Nat) : W (n + 1) 3 ls st μ g = (sLd 1 4 isI) (W n) ls st μ g := (hW n 3 ls st μ g).trans rfl
theorem wL_levels_4 {l : Launch} {K : aRs} {J : aK} {W : Nat → aK} (hW : isW (tbL_levels l K) cuL_levels J W) (n : Nat) (ls st : List aV) (μ : aM) (g : Nat) : W (n + 1) 4 ls st μ g = (sCallVH 1 4 (fun as μ K X => Ct l mdX4_levels as μ K X) 7 1 1 4 [(1, 13)]) (W n) ls st μ g := (hW n 4 ls st μ g).trans rfl
theorem tL_levels_7 (l : Launch) (K : aRs) : tb (tbL_levels l K) 7 = sI2l 8 := (rfl)
theorem wL_levels_7 {l : Launch} {K : aRs} {J : aK} {W : Nat → aK} (hW : isW (tbL_levels l K) cuL_levels J W) (n : Nat) (ls st : List aV) (μ : aM) (g : Nat) : W (n + 1) 7 ls st μ g = J 7 ls st μ g := (hW n 7 ls st μ g).trans rfl
theorem wL_levels_8 {l : Launch} {K : aRs} {J : aK} {W : Nat → aK} (hW : isW (tbL_levels l K) cuL_levels J W) (n : Nat) (ls st : List aV) (μ : aM) (g : Nat) : W (n + 1) 8 ls st μ g = (sAstL 9) (W n) ls st μ g := (hW n 8 ls st μ g).trans rfl
theorem wL_levels_9 {l : Launch} {K : aRs} {J : aK} {W : Nat → aK} (hW : isW (tbL_levels l K) cuL_levels J W) (n : Nat) (ls st : List aV) (μ : aM) (g : Nat) : W (n + 1) 9 ls st μ g = (sGoto 15) (W n) ls st μ g := (hW n 9 ls st μ g).trans rfl
theorem wL_levels_12 {l : Launch} {K : aRs} {J : aK} {W : Nat → aK} (hW : isW (tbL_levels l K) cuL_levels J W) (n : Nat) (ls st : List aV) (μ : aM) (g : Nat) : W (n + 1) 12 ls st μ g = (sSt 3 13 isR) (W n) ls st μ g := (hW n 12 ls st μ g).trans rfl
theorem tL_levels_13 (l : Launch) (K : aRs) : tb (tbL_levels l K) 13 = sPush (aI 1) 14 := (rfl)
theorem wL_levels_13 {l : Launch} {K : aRs} {J : aK} {W : Nat → aK} (hW : isW (tbL_levels l K) cuL_levels J W) (n : Nat) (ls st : List aV) (μ : aM) (g : Nat) : W (n + 1) 13 ls st μ g = J 13 ls st μ g := (hW n 13 ls st μ g).trans rfl
theorem wL_levels_14 {l : Launch} {K : aRs} {J : aK} {W : Nat → aK} (hW : isW (tbL_levels l K) cuL_levels J W) (n : Nat) (ls st : List aV) (μ : aM) (g : Nat) : W (n + 1) 14 ls st μ g = (sRetI .int 1 K) (W n) ls st μ g := (hW n 14 ls st μ g).trans rfl
theorem wL_levels_15 {l : Launch} {K : aRs} {J : aK} {W : Nat → aK} (hW : isW (tbL_levels l K) cuL_levels J W) (n : Nat) (ls st : List aV) (μ : aM) (g : Nat) : W (n + 1) 15 ls st μ g = (sPush (aI 0) 16) (W n) ls st μ g := (hW n 15 ls st μ g).trans rfl
theorem wL_levels_16 {l : Launch} {K : aRs} {J : aK} {W : Nat → aK} (hW : isW (tbL_levels l K) cuL_levels J W) (n : Nat) (ls st : List aV) (μ : aM) (g : Nat) : W (n + 1) 16 ls st μ g = (sRetI .int 1 K) (W n) ls st μ g := (hW n 16 ls st μ g).trans rfl
theorem dL_levelPrice_0 : decode cL_levelPrice 0 = .ok (.aload_n 3, 1) := by decide +kernel
theorem dL_levelPrice_1 : decode cL_levelPrice 1 = .ok (.iconst 0, 1) := by decide +kernel
theorem dL_levelPrice_2 : decode cL_levelPrice 2 = .ok (.aload_n 0, 1) := by decide +kernel
theorem dL_levelPrice_3 : decode cL_levelPrice 3 = .ok (.iload_n 1, 1) := by decide +kernel
theorem dL_levelPrice_4 : decode cL_levelPrice 4 = .ok (.iload_n 2, 1) := by decide +kernel
theorem dL_levelPrice_5 : decode cL_levelPrice 5 = .ok (.invokevirtual 62, 3) := by decide +kernel
theorem dL_levelPrice_8 : decode cL_levelPrice 8 = .ok (.i2l, 1) := by decide +kernel
theorem dL_levelPrice_9 : decode cL_levelPrice 9 = .ok (.lastore, 1) := by decide +kernel
theorem dL_levelPrice_10 : decode cL_levelPrice 10 = .ok (.goto 11, 3) := by decide +kernel
theorem dL_levelPrice_13 : decode cL_levelPrice 13 = .ok (.astore 4, 2) := by decide +kernel
theorem dL_levelPrice_15 : decode cL_levelPrice 15 = .ok (.iconst 1, 1) := by decide +kernel
theorem dL_levelPrice_16 : decode cL_levelPrice 16 = .ok (.ireturn, 1) := by decide +kernel
theorem dL_levelPrice_17 : decode cL_levelPrice 17 = .ok (.astore 4, 2) := by decide +kernel
theorem dL_levelPrice_19 : decode cL_levelPrice 19 = .ok (.iconst 2, 1) := by decide +kernel
theorem dL_levelPrice_20 : decode cL_levelPrice 20 = .ok (.ireturn, 1) := by decide +kernel
theorem dL_levelPrice_21 : decode cL_levelPrice 21 = .ok (.iconst 0, 1) := by decide +kernel
theorem dL_levelPrice_22 : decode cL_levelPrice 22 = .ok (.ireturn, 1) := by decide +kernel
abbrev mdL_levelPrice : aMd := (yL_levelPrice, cL_levelPrice, 5, (some FieldType.int), 9, 2)
abbrev hhL_levelPrice : List (Nat × Nat × Nat × Nat) := [(0, 10, 13, 13), (0, 10, 17, 24)]
theorem siL_levelPrice : aSiteH mdL_levelPrice hhL_levelPrice 4 := ⟨⟨niRL, bg 602 (by decide +kernel) rfl⟩, by decide +kernel, by decide +kernel, by decide +kernel⟩
theorem stL_levelPrice : Cond.static yL_levelPrice ∈ bgL := bg 601 (by decide +kernel) rfl
theorem rwL_levelPrice : ∀ h ∈ ([(1, 15), (3, 19)] : List (Nat × Nat)), hRow (tableOf hhL_levelPrice) RL cL_levelPrice 5 5 h.1 h.2 := List.forall_mem_cons.mpr ⟨⟨[], ⟨0, 10, 13, 13⟩, [⟨0, 10, 17, 24⟩], rfl, (fun z hz => nomatch hz), by decide, by decide, ckRL_13, Or.inl ⟨4, by decide, dL_levelPrice_13, rfl⟩⟩, List.forall_mem_cons.mpr ⟨⟨[⟨0, 10, 13, 13⟩], ⟨0, 10, 17, 24⟩, [], rfl, (List.forall_mem_cons.mpr ⟨Or.inr ⟨by decide, 1, ckRL_13, by decide⟩, (fun z hz => nomatch hz)⟩), by decide, by decide, ckRL_24, Or.inl ⟨4, by decide, dL_levelPrice_17, rfl⟩⟩, (fun z hz => nomatch hz)⟩⟩
def tbL_levelPrice (l : Launch) (K : aRs) : aTb := [
  (0, sLd 3 1 isR),
  (1, sPush (aI 0) 2),
  (2, sLd 0 3 isR),
  (3, sLd 1 4 isI),
  (4, sLd 2 5 isI),
  (5, sCallVH 2 4 (fun as μ K X => Ct l mdX4_levelPrice as μ K X) 8 2 2 5 [(1, 15), (3, 19)]),
  (8, sI2l 9),
  (9, sAstL 10),
  (10, sGoto 21),
  (13, sSt 4 15 isR),
  (15, sPush (aI 1) 16),
  (16, sRetI .int 2 K),
  (17, sSt 4 19 isR),
  (19, sPush (aI 2) 20),
  (20, sRetI .int 2 K),
  (21, sPush (aI 0) 22),
  (22, sRetI .int 2 K)]
theorem snL_levelPrice (l : Launch) (K : aRs) (n0 : Nat) : ∀ q ∈ tbL_levelPrice l K, Snd (BdH l mdL_levelPrice hhL_levelPrice K n0) q.1 q.2 :=
  tcG (sH (fun p e s m args below meth c cA D A ad0 h => ok_aload_n h.1 3 rfl dL_levelPrice_0)) <|
  tcG (sH (fun p e s m args below meth c cA D A ad0 h => ok_iconst h.1 ⟨by decide, by decide⟩ dL_levelPrice_1)) <|
  tcG (sH (fun p e s m args below meth c cA D A ad0 h => ok_aload_n h.1 0 rfl dL_levelPrice_2)) <|
  tcG (sH (fun p e s m args below meth c cA D A ad0 h => ok_iload_n h.1 1 rfl dL_levelPrice_3)) <|
  tcG (sH (fun p e s m args below meth c cA D A ad0 h => ok_iload_n h.1 2 rfl dL_levelPrice_4)) <|
  tcG (sH (fun p e s m args below meth c cA D A ad0 h => ok_callVH h.1 h.2.1 ⟨Nat.le_refl _, Nat.le_refl _⟩ mdX4_levelPrice siX4_levelPrice cxX4 mkRL_62 imX4_levelPrice seX4_levelPrice ⟨by decide, by decide⟩ (by rw [h.2.2.1]; exact rwL_levelPrice) dL_levelPrice_5)) <|
  tcG (sH (fun p e s m args below meth c cA D A ad0 h => ok_i2l h.1 dL_levelPrice_8)) <|
  tcG (sH (fun p e s m args below meth c cA D A ad0 h => ok_last h.1 dL_levelPrice_9)) <|
  tcG (sH (fun p e s m args below meth c cA D A ad0 h => ok_goto h.1 21 (by decide) dL_levelPrice_10)) <|
  tcG (sH (fun p e s m args below meth c cA D A ad0 h => ok_astore h.1 (by decide) dL_levelPrice_13)) <|
  tcG (sH (fun p e s m args below meth c cA D A ad0 h => ok_iconst h.1 ⟨by decide, by decide⟩ dL_levelPrice_15)) <|
  tcG (sH (fun p e s m args below meth c cA D A ad0 h => ok_ireturn h.1 h.2.2.2.1 (Or.inl rfl) dL_levelPrice_16)) <|
  tcG (sH (fun p e s m args below meth c cA D A ad0 h => ok_astore h.1 (by decide) dL_levelPrice_17)) <|
  tcG (sH (fun p e s m args below meth c cA D A ad0 h => ok_iconst h.1 ⟨by decide, by decide⟩ dL_levelPrice_19)) <|
  tcG (sH (fun p e s m args below meth c cA D A ad0 h => ok_ireturn h.1 h.2.2.2.1 (Or.inl rfl) dL_levelPrice_20)) <|
  tcG (sH (fun p e s m args below meth c cA D A ad0 h => ok_iconst h.1 ⟨by decide, by decide⟩ dL_levelPrice_21)) <|
  tcG (sH (fun p e s m args below meth c cA D A ad0 h => ok_ireturn h.1 h.2.2.2.1 (Or.inl rfl) dL_levelPrice_22)) <|
  tnG
abbrev cuL_levelPrice : List Nat := [8, 15, 19]
theorem tL_levelPrice_0 (l : Launch) (K : aRs) : tb (tbL_levelPrice l K) 0 = sLd 3 1 isR := (rfl)
theorem wL_levelPrice_0 {l : Launch} {K : aRs} {J : aK} {W : Nat → aK} (hW : isW (tbL_levelPrice l K) cuL_levelPrice J W) (n : Nat) (ls st : List aV) (μ : aM) (g : Nat) : W (n + 1) 0 ls st μ g = (sLd 3 1 isR) (W n) ls st μ g := (hW n 0 ls st μ g).trans rfl
theorem wL_levelPrice_1 {l : Launch} {K : aRs} {J : aK} {W : Nat → aK} (hW : isW (tbL_levelPrice l K) cuL_levelPrice J W) (n : Nat) (ls st : List aV) (μ : aM) (g : Nat) : W (n + 1) 1 ls st μ g = (sPush (aI 0) 2) (W n) ls st μ g := (hW n 1 ls st μ g).trans rfl
theorem wL_levelPrice_2 {l : Launch} {K : aRs} {J : aK} {W : Nat → aK} (hW : isW (tbL_levelPrice l K) cuL_levelPrice J W) (n : Nat) (ls st : List aV) (μ : aM) (g : Nat) : W (n + 1) 2 ls st μ g = (sLd 0 3 isR) (W n) ls st μ g := (hW n 2 ls st μ g).trans rfl
theorem wL_levelPrice_3 {l : Launch} {K : aRs} {J : aK} {W : Nat → aK} (hW : isW (tbL_levelPrice l K) cuL_levelPrice J W) (n : Nat) (ls st : List aV) (μ : aM) (g : Nat) : W (n + 1) 3 ls st μ g = (sLd 1 4 isI) (W n) ls st μ g := (hW n 3 ls st μ g).trans rfl
theorem wL_levelPrice_4 {l : Launch} {K : aRs} {J : aK} {W : Nat → aK} (hW : isW (tbL_levelPrice l K) cuL_levelPrice J W) (n : Nat) (ls st : List aV) (μ : aM) (g : Nat) : W (n + 1) 4 ls st μ g = (sLd 2 5 isI) (W n) ls st μ g := (hW n 4 ls st μ g).trans rfl
theorem wL_levelPrice_5 {l : Launch} {K : aRs} {J : aK} {W : Nat → aK} (hW : isW (tbL_levelPrice l K) cuL_levelPrice J W) (n : Nat) (ls st : List aV) (μ : aM) (g : Nat) : W (n + 1) 5 ls st μ g = (sCallVH 2 4 (fun as μ K X => Ct l mdX4_levelPrice as μ K X) 8 2 2 5 [(1, 15), (3, 19)]) (W n) ls st μ g := (hW n 5 ls st μ g).trans rfl
theorem tL_levelPrice_8 (l : Launch) (K : aRs) : tb (tbL_levelPrice l K) 8 = sI2l 9 := (rfl)
theorem wL_levelPrice_8 {l : Launch} {K : aRs} {J : aK} {W : Nat → aK} (hW : isW (tbL_levelPrice l K) cuL_levelPrice J W) (n : Nat) (ls st : List aV) (μ : aM) (g : Nat) : W (n + 1) 8 ls st μ g = J 8 ls st μ g := (hW n 8 ls st μ g).trans rfl
theorem wL_levelPrice_9 {l : Launch} {K : aRs} {J : aK} {W : Nat → aK} (hW : isW (tbL_levelPrice l K) cuL_levelPrice J W) (n : Nat) (ls st : List aV) (μ : aM) (g : Nat) : W (n + 1) 9 ls st μ g = (sAstL 10) (W n) ls st μ g := (hW n 9 ls st μ g).trans rfl
theorem wL_levelPrice_10 {l : Launch} {K : aRs} {J : aK} {W : Nat → aK} (hW : isW (tbL_levelPrice l K) cuL_levelPrice J W) (n : Nat) (ls st : List aV) (μ : aM) (g : Nat) : W (n + 1) 10 ls st μ g = (sGoto 21) (W n) ls st μ g := (hW n 10 ls st μ g).trans rfl
theorem wL_levelPrice_13 {l : Launch} {K : aRs} {J : aK} {W : Nat → aK} (hW : isW (tbL_levelPrice l K) cuL_levelPrice J W) (n : Nat) (ls st : List aV) (μ : aM) (g : Nat) : W (n + 1) 13 ls st μ g = (sSt 4 15 isR) (W n) ls st μ g := (hW n 13 ls st μ g).trans rfl
theorem tL_levelPrice_15 (l : Launch) (K : aRs) : tb (tbL_levelPrice l K) 15 = sPush (aI 1) 16 := (rfl)
theorem wL_levelPrice_15 {l : Launch} {K : aRs} {J : aK} {W : Nat → aK} (hW : isW (tbL_levelPrice l K) cuL_levelPrice J W) (n : Nat) (ls st : List aV) (μ : aM) (g : Nat) : W (n + 1) 15 ls st μ g = J 15 ls st μ g := (hW n 15 ls st μ g).trans rfl
theorem wL_levelPrice_16 {l : Launch} {K : aRs} {J : aK} {W : Nat → aK} (hW : isW (tbL_levelPrice l K) cuL_levelPrice J W) (n : Nat) (ls st : List aV) (μ : aM) (g : Nat) : W (n + 1) 16 ls st μ g = (sRetI .int 2 K) (W n) ls st μ g := (hW n 16 ls st μ g).trans rfl
theorem wL_levelPrice_17 {l : Launch} {K : aRs} {J : aK} {W : Nat → aK} (hW : isW (tbL_levelPrice l K) cuL_levelPrice J W) (n : Nat) (ls st : List aV) (μ : aM) (g : Nat) : W (n + 1) 17 ls st μ g = (sSt 4 19 isR) (W n) ls st μ g := (hW n 17 ls st μ g).trans rfl
theorem tL_levelPrice_19 (l : Launch) (K : aRs) : tb (tbL_levelPrice l K) 19 = sPush (aI 2) 20 := (rfl)
theorem wL_levelPrice_19 {l : Launch} {K : aRs} {J : aK} {W : Nat → aK} (hW : isW (tbL_levelPrice l K) cuL_levelPrice J W) (n : Nat) (ls st : List aV) (μ : aM) (g : Nat) : W (n + 1) 19 ls st μ g = J 19 ls st μ g := (hW n 19 ls st μ g).trans rfl
theorem wL_levelPrice_20 {l : Launch} {K : aRs} {J : aK} {W : Nat → aK} (hW : isW (tbL_levelPrice l K) cuL_levelPrice J W) (n : Nat) (ls st : List aV) (μ : aM) (g : Nat) : W (n + 1) 20 ls st μ g = (sRetI .int 2 K) (W n) ls st μ g := (hW n 20 ls st μ g).trans rfl
theorem wL_levelPrice_21 {l : Launch} {K : aRs} {J : aK} {W : Nat → aK} (hW : isW (tbL_levelPrice l K) cuL_levelPrice J W) (n : Nat) (ls st : List aV) (μ : aM) (g : Nat) : W (n + 1) 21 ls st μ g = (sPush (aI 0) 22) (W n) ls st μ g := (hW n 21 ls st μ g).trans rfl
theorem wL_levelPrice_22 {l : Launch} {K : aRs} {J : aK} {W : Nat → aK} (hW : isW (tbL_levelPrice l K) cuL_levelPrice J W) (n : Nat) (ls st : List aV) (μ : aM) (g : Nat) : W (n + 1) 22 ls st μ g = (sRetI .int 2 K) (W n) ls st μ g := (hW n 22 ls st μ g).trans rfl
theorem dL_shownAt_0 : decode cL_shownAt 0 = .ok (.aload_n 3, 1) := by decide +kernel
theorem dL_shownAt_1 : decode cL_shownAt 1 = .ok (.iconst 0, 1) := by decide +kernel
theorem dL_shownAt_2 : decode cL_shownAt 2 = .ok (.aload_n 0, 1) := by decide +kernel
theorem dL_shownAt_3 : decode cL_shownAt 3 = .ok (.iload_n 1, 1) := by decide +kernel
theorem dL_shownAt_4 : decode cL_shownAt 4 = .ok (.iload_n 2, 1) := by decide +kernel
theorem dL_shownAt_5 : decode cL_shownAt 5 = .ok (.invokevirtual 66, 3) := by decide +kernel
theorem dL_shownAt_8 : decode cL_shownAt 8 = .ok (.i2l, 1) := by decide +kernel
theorem dL_shownAt_9 : decode cL_shownAt 9 = .ok (.lastore, 1) := by decide +kernel
theorem dL_shownAt_10 : decode cL_shownAt 10 = .ok (.goto 11, 3) := by decide +kernel
theorem dL_shownAt_13 : decode cL_shownAt 13 = .ok (.astore 4, 2) := by decide +kernel
theorem dL_shownAt_15 : decode cL_shownAt 15 = .ok (.iconst 1, 1) := by decide +kernel
theorem dL_shownAt_16 : decode cL_shownAt 16 = .ok (.ireturn, 1) := by decide +kernel
theorem dL_shownAt_17 : decode cL_shownAt 17 = .ok (.astore 4, 2) := by decide +kernel
theorem dL_shownAt_19 : decode cL_shownAt 19 = .ok (.iconst 2, 1) := by decide +kernel
theorem dL_shownAt_20 : decode cL_shownAt 20 = .ok (.ireturn, 1) := by decide +kernel
theorem dL_shownAt_21 : decode cL_shownAt 21 = .ok (.iconst 0, 1) := by decide +kernel
theorem dL_shownAt_22 : decode cL_shownAt 22 = .ok (.ireturn, 1) := by decide +kernel
abbrev mdL_shownAt : aMd := (yL_shownAt, cL_shownAt, 5, (some FieldType.int), 9, 2)
abbrev hhL_shownAt : List (Nat × Nat × Nat × Nat) := [(0, 10, 13, 13), (0, 10, 17, 24)]
theorem siL_shownAt : aSiteH mdL_shownAt hhL_shownAt 4 := ⟨⟨niRL, bg 617 (by decide +kernel) rfl⟩, by decide +kernel, by decide +kernel, by decide +kernel⟩
theorem stL_shownAt : Cond.static yL_shownAt ∈ bgL := bg 616 (by decide +kernel) rfl
theorem rwL_shownAt : ∀ h ∈ ([(1, 15), (3, 19)] : List (Nat × Nat)), hRow (tableOf hhL_shownAt) RL cL_shownAt 5 5 h.1 h.2 := List.forall_mem_cons.mpr ⟨⟨[], ⟨0, 10, 13, 13⟩, [⟨0, 10, 17, 24⟩], rfl, (fun z hz => nomatch hz), by decide, by decide, ckRL_13, Or.inl ⟨4, by decide, dL_shownAt_13, rfl⟩⟩, List.forall_mem_cons.mpr ⟨⟨[⟨0, 10, 13, 13⟩], ⟨0, 10, 17, 24⟩, [], rfl, (List.forall_mem_cons.mpr ⟨Or.inr ⟨by decide, 1, ckRL_13, by decide⟩, (fun z hz => nomatch hz)⟩), by decide, by decide, ckRL_24, Or.inl ⟨4, by decide, dL_shownAt_17, rfl⟩⟩, (fun z hz => nomatch hz)⟩⟩
def tbL_shownAt (l : Launch) (K : aRs) : aTb := [
  (0, sLd 3 1 isR),
  (1, sPush (aI 0) 2),
  (2, sLd 0 3 isR),
  (3, sLd 1 4 isI),
  (4, sLd 2 5 isI),
  (5, sCallVH 2 4 (fun as μ K X => Ct l mdX4_shownAt as μ K X) 8 2 2 5 [(1, 15), (3, 19)]),
  (8, sI2l 9),
  (9, sAstL 10),
  (10, sGoto 21),
  (13, sSt 4 15 isR),
  (15, sPush (aI 1) 16),
  (16, sRetI .int 2 K),
  (17, sSt 4 19 isR),
  (19, sPush (aI 2) 20),
  (20, sRetI .int 2 K),
  (21, sPush (aI 0) 22),
  (22, sRetI .int 2 K)]
theorem snL_shownAt (l : Launch) (K : aRs) (n0 : Nat) : ∀ q ∈ tbL_shownAt l K, Snd (BdH l mdL_shownAt hhL_shownAt K n0) q.1 q.2 :=
  tcG (sH (fun p e s m args below meth c cA D A ad0 h => ok_aload_n h.1 3 rfl dL_shownAt_0)) <|
  tcG (sH (fun p e s m args below meth c cA D A ad0 h => ok_iconst h.1 ⟨by decide, by decide⟩ dL_shownAt_1)) <|
  tcG (sH (fun p e s m args below meth c cA D A ad0 h => ok_aload_n h.1 0 rfl dL_shownAt_2)) <|
  tcG (sH (fun p e s m args below meth c cA D A ad0 h => ok_iload_n h.1 1 rfl dL_shownAt_3)) <|
  tcG (sH (fun p e s m args below meth c cA D A ad0 h => ok_iload_n h.1 2 rfl dL_shownAt_4)) <|
  tcG (sH (fun p e s m args below meth c cA D A ad0 h => ok_callVH h.1 h.2.1 ⟨Nat.le_refl _, Nat.le_refl _⟩ mdX4_shownAt siX4_shownAt cxX4 mkRL_66 imX4_shownAt seX4_shownAt ⟨by decide, by decide⟩ (by rw [h.2.2.1]; exact rwL_shownAt) dL_shownAt_5)) <|
  tcG (sH (fun p e s m args below meth c cA D A ad0 h => ok_i2l h.1 dL_shownAt_8)) <|
  tcG (sH (fun p e s m args below meth c cA D A ad0 h => ok_last h.1 dL_shownAt_9)) <|
  tcG (sH (fun p e s m args below meth c cA D A ad0 h => ok_goto h.1 21 (by decide) dL_shownAt_10)) <|
  tcG (sH (fun p e s m args below meth c cA D A ad0 h => ok_astore h.1 (by decide) dL_shownAt_13)) <|
  tcG (sH (fun p e s m args below meth c cA D A ad0 h => ok_iconst h.1 ⟨by decide, by decide⟩ dL_shownAt_15)) <|
  tcG (sH (fun p e s m args below meth c cA D A ad0 h => ok_ireturn h.1 h.2.2.2.1 (Or.inl rfl) dL_shownAt_16)) <|
  tcG (sH (fun p e s m args below meth c cA D A ad0 h => ok_astore h.1 (by decide) dL_shownAt_17)) <|
  tcG (sH (fun p e s m args below meth c cA D A ad0 h => ok_iconst h.1 ⟨by decide, by decide⟩ dL_shownAt_19)) <|
  tcG (sH (fun p e s m args below meth c cA D A ad0 h => ok_ireturn h.1 h.2.2.2.1 (Or.inl rfl) dL_shownAt_20)) <|
  tcG (sH (fun p e s m args below meth c cA D A ad0 h => ok_iconst h.1 ⟨by decide, by decide⟩ dL_shownAt_21)) <|
  tcG (sH (fun p e s m args below meth c cA D A ad0 h => ok_ireturn h.1 h.2.2.2.1 (Or.inl rfl) dL_shownAt_22)) <|
  tnG
abbrev cuL_shownAt : List Nat := [8, 15, 19]
theorem tL_shownAt_0 (l : Launch) (K : aRs) : tb (tbL_shownAt l K) 0 = sLd 3 1 isR := (rfl)
theorem wL_shownAt_0 {l : Launch} {K : aRs} {J : aK} {W : Nat → aK} (hW : isW (tbL_shownAt l K) cuL_shownAt J W) (n : Nat) (ls st : List aV) (μ : aM) (g : Nat) : W (n + 1) 0 ls st μ g = (sLd 3 1 isR) (W n) ls st μ g := (hW n 0 ls st μ g).trans rfl
theorem wL_shownAt_1 {l : Launch} {K : aRs} {J : aK} {W : Nat → aK} (hW : isW (tbL_shownAt l K) cuL_shownAt J W) (n : Nat) (ls st : List aV) (μ : aM) (g : Nat) : W (n + 1) 1 ls st μ g = (sPush (aI 0) 2) (W n) ls st μ g := (hW n 1 ls st μ g).trans rfl
theorem wL_shownAt_2 {l : Launch} {K : aRs} {J : aK} {W : Nat → aK} (hW : isW (tbL_shownAt l K) cuL_shownAt J W) (n : Nat) (ls st : List aV) (μ : aM) (g : Nat) : W (n + 1) 2 ls st μ g = (sLd 0 3 isR) (W n) ls st μ g := (hW n 2 ls st μ g).trans rfl
theorem wL_shownAt_3 {l : Launch} {K : aRs} {J : aK} {W : Nat → aK} (hW : isW (tbL_shownAt l K) cuL_shownAt J W) (n : Nat) (ls st : List aV) (μ : aM) (g : Nat) : W (n + 1) 3 ls st μ g = (sLd 1 4 isI) (W n) ls st μ g := (hW n 3 ls st μ g).trans rfl
theorem wL_shownAt_4 {l : Launch} {K : aRs} {J : aK} {W : Nat → aK} (hW : isW (tbL_shownAt l K) cuL_shownAt J W) (n : Nat) (ls st : List aV) (μ : aM) (g : Nat) : W (n + 1) 4 ls st μ g = (sLd 2 5 isI) (W n) ls st μ g := (hW n 4 ls st μ g).trans rfl
theorem wL_shownAt_5 {l : Launch} {K : aRs} {J : aK} {W : Nat → aK} (hW : isW (tbL_shownAt l K) cuL_shownAt J W) (n : Nat) (ls st : List aV) (μ : aM) (g : Nat) : W (n + 1) 5 ls st μ g = (sCallVH 2 4 (fun as μ K X => Ct l mdX4_shownAt as μ K X) 8 2 2 5 [(1, 15), (3, 19)]) (W n) ls st μ g := (hW n 5 ls st μ g).trans rfl
theorem tL_shownAt_8 (l : Launch) (K : aRs) : tb (tbL_shownAt l K) 8 = sI2l 9 := (rfl)
theorem wL_shownAt_8 {l : Launch} {K : aRs} {J : aK} {W : Nat → aK} (hW : isW (tbL_shownAt l K) cuL_shownAt J W) (n : Nat) (ls st : List aV) (μ : aM) (g : Nat) : W (n + 1) 8 ls st μ g = J 8 ls st μ g := (hW n 8 ls st μ g).trans rfl
theorem wL_shownAt_9 {l : Launch} {K : aRs} {J : aK} {W : Nat → aK} (hW : isW (tbL_shownAt l K) cuL_shownAt J W) (n : Nat) (ls st : List aV) (μ : aM) (g : Nat) : W (n + 1) 9 ls st μ g = (sAstL 10) (W n) ls st μ g := (hW n 9 ls st μ g).trans rfl
theorem wL_shownAt_10 {l : Launch} {K : aRs} {J : aK} {W : Nat → aK} (hW : isW (tbL_shownAt l K) cuL_shownAt J W) (n : Nat) (ls st : List aV) (μ : aM) (g : Nat) : W (n + 1) 10 ls st μ g = (sGoto 21) (W n) ls st μ g := (hW n 10 ls st μ g).trans rfl
theorem wL_shownAt_13 {l : Launch} {K : aRs} {J : aK} {W : Nat → aK} (hW : isW (tbL_shownAt l K) cuL_shownAt J W) (n : Nat) (ls st : List aV) (μ : aM) (g : Nat) : W (n + 1) 13 ls st μ g = (sSt 4 15 isR) (W n) ls st μ g := (hW n 13 ls st μ g).trans rfl
theorem tL_shownAt_15 (l : Launch) (K : aRs) : tb (tbL_shownAt l K) 15 = sPush (aI 1) 16 := (rfl)
theorem wL_shownAt_15 {l : Launch} {K : aRs} {J : aK} {W : Nat → aK} (hW : isW (tbL_shownAt l K) cuL_shownAt J W) (n : Nat) (ls st : List aV) (μ : aM) (g : Nat) : W (n + 1) 15 ls st μ g = J 15 ls st μ g := (hW n 15 ls st μ g).trans rfl
theorem wL_shownAt_16 {l : Launch} {K : aRs} {J : aK} {W : Nat → aK} (hW : isW (tbL_shownAt l K) cuL_shownAt J W) (n : Nat) (ls st : List aV) (μ : aM) (g : Nat) : W (n + 1) 16 ls st μ g = (sRetI .int 2 K) (W n) ls st μ g := (hW n 16 ls st μ g).trans rfl
theorem wL_shownAt_17 {l : Launch} {K : aRs} {J : aK} {W : Nat → aK} (hW : isW (tbL_shownAt l K) cuL_shownAt J W) (n : Nat) (ls st : List aV) (μ : aM) (g : Nat) : W (n + 1) 17 ls st μ g = (sSt 4 19 isR) (W n) ls st μ g := (hW n 17 ls st μ g).trans rfl
theorem tL_shownAt_19 (l : Launch) (K : aRs) : tb (tbL_shownAt l K) 19 = sPush (aI 2) 20 := (rfl)
theorem wL_shownAt_19 {l : Launch} {K : aRs} {J : aK} {W : Nat → aK} (hW : isW (tbL_shownAt l K) cuL_shownAt J W) (n : Nat) (ls st : List aV) (μ : aM) (g : Nat) : W (n + 1) 19 ls st μ g = J 19 ls st μ g := (hW n 19 ls st μ g).trans rfl
theorem wL_shownAt_20 {l : Launch} {K : aRs} {J : aK} {W : Nat → aK} (hW : isW (tbL_shownAt l K) cuL_shownAt J W) (n : Nat) (ls st : List aV) (μ : aM) (g : Nat) : W (n + 1) 20 ls st μ g = (sRetI .int 2 K) (W n) ls st μ g := (hW n 20 ls st μ g).trans rfl
theorem wL_shownAt_21 {l : Launch} {K : aRs} {J : aK} {W : Nat → aK} (hW : isW (tbL_shownAt l K) cuL_shownAt J W) (n : Nat) (ls st : List aV) (μ : aM) (g : Nat) : W (n + 1) 21 ls st μ g = (sPush (aI 0) 22) (W n) ls st μ g := (hW n 21 ls st μ g).trans rfl
theorem wL_shownAt_22 {l : Launch} {K : aRs} {J : aK} {W : Nat → aK} (hW : isW (tbL_shownAt l K) cuL_shownAt J W) (n : Nat) (ls st : List aV) (μ : aM) (g : Nat) : W (n + 1) 22 ls st μ g = (sRetI .int 2 K) (W n) ls st μ g := (hW n 22 ls st μ g).trans rfl
theorem dL_leftAt_0 : decode cL_leftAt 0 = .ok (.aload_n 3, 1) := by decide +kernel
theorem dL_leftAt_1 : decode cL_leftAt 1 = .ok (.iconst 0, 1) := by decide +kernel
theorem dL_leftAt_2 : decode cL_leftAt 2 = .ok (.aload_n 0, 1) := by decide +kernel
theorem dL_leftAt_3 : decode cL_leftAt 3 = .ok (.iload_n 1, 1) := by decide +kernel
theorem dL_leftAt_4 : decode cL_leftAt 4 = .ok (.iload_n 2, 1) := by decide +kernel
theorem dL_leftAt_5 : decode cL_leftAt 5 = .ok (.invokevirtual 69, 3) := by decide +kernel
theorem dL_leftAt_8 : decode cL_leftAt 8 = .ok (.i2l, 1) := by decide +kernel
theorem dL_leftAt_9 : decode cL_leftAt 9 = .ok (.lastore, 1) := by decide +kernel
theorem dL_leftAt_10 : decode cL_leftAt 10 = .ok (.goto 11, 3) := by decide +kernel
theorem dL_leftAt_13 : decode cL_leftAt 13 = .ok (.astore 4, 2) := by decide +kernel
theorem dL_leftAt_15 : decode cL_leftAt 15 = .ok (.iconst 1, 1) := by decide +kernel
theorem dL_leftAt_16 : decode cL_leftAt 16 = .ok (.ireturn, 1) := by decide +kernel
theorem dL_leftAt_17 : decode cL_leftAt 17 = .ok (.astore 4, 2) := by decide +kernel
theorem dL_leftAt_19 : decode cL_leftAt 19 = .ok (.iconst 2, 1) := by decide +kernel
theorem dL_leftAt_20 : decode cL_leftAt 20 = .ok (.ireturn, 1) := by decide +kernel
theorem dL_leftAt_21 : decode cL_leftAt 21 = .ok (.iconst 0, 1) := by decide +kernel
theorem dL_leftAt_22 : decode cL_leftAt 22 = .ok (.ireturn, 1) := by decide +kernel
abbrev mdL_leftAt : aMd := (yL_leftAt, cL_leftAt, 5, (some FieldType.int), 9, 2)
abbrev hhL_leftAt : List (Nat × Nat × Nat × Nat) := [(0, 10, 13, 13), (0, 10, 17, 24)]
theorem siL_leftAt : aSiteH mdL_leftAt hhL_leftAt 4 := ⟨⟨niRL, bg 624 (by decide +kernel) rfl⟩, by decide +kernel, by decide +kernel, by decide +kernel⟩
theorem stL_leftAt : Cond.static yL_leftAt ∈ bgL := bg 623 (by decide +kernel) rfl
theorem rwL_leftAt : ∀ h ∈ ([(1, 15), (3, 19)] : List (Nat × Nat)), hRow (tableOf hhL_leftAt) RL cL_leftAt 5 5 h.1 h.2 := List.forall_mem_cons.mpr ⟨⟨[], ⟨0, 10, 13, 13⟩, [⟨0, 10, 17, 24⟩], rfl, (fun z hz => nomatch hz), by decide, by decide, ckRL_13, Or.inl ⟨4, by decide, dL_leftAt_13, rfl⟩⟩, List.forall_mem_cons.mpr ⟨⟨[⟨0, 10, 13, 13⟩], ⟨0, 10, 17, 24⟩, [], rfl, (List.forall_mem_cons.mpr ⟨Or.inr ⟨by decide, 1, ckRL_13, by decide⟩, (fun z hz => nomatch hz)⟩), by decide, by decide, ckRL_24, Or.inl ⟨4, by decide, dL_leftAt_17, rfl⟩⟩, (fun z hz => nomatch hz)⟩⟩
def tbL_leftAt (l : Launch) (K : aRs) : aTb := [
  (0, sLd 3 1 isR),
  (1, sPush (aI 0) 2),
  (2, sLd 0 3 isR),
  (3, sLd 1 4 isI),
  (4, sLd 2 5 isI),
  (5, sCallVH 2 4 (fun as μ K X => Ct l mdX4_leftAt as μ K X) 8 2 2 5 [(1, 15), (3, 19)]),
  (8, sI2l 9),
  (9, sAstL 10),
  (10, sGoto 21),
  (13, sSt 4 15 isR),
  (15, sPush (aI 1) 16),
  (16, sRetI .int 2 K),
  (17, sSt 4 19 isR),
  (19, sPush (aI 2) 20),
  (20, sRetI .int 2 K),
  (21, sPush (aI 0) 22),
  (22, sRetI .int 2 K)]
theorem snL_leftAt (l : Launch) (K : aRs) (n0 : Nat) : ∀ q ∈ tbL_leftAt l K, Snd (BdH l mdL_leftAt hhL_leftAt K n0) q.1 q.2 :=
  tcG (sH (fun p e s m args below meth c cA D A ad0 h => ok_aload_n h.1 3 rfl dL_leftAt_0)) <|
  tcG (sH (fun p e s m args below meth c cA D A ad0 h => ok_iconst h.1 ⟨by decide, by decide⟩ dL_leftAt_1)) <|
  tcG (sH (fun p e s m args below meth c cA D A ad0 h => ok_aload_n h.1 0 rfl dL_leftAt_2)) <|
  tcG (sH (fun p e s m args below meth c cA D A ad0 h => ok_iload_n h.1 1 rfl dL_leftAt_3)) <|
  tcG (sH (fun p e s m args below meth c cA D A ad0 h => ok_iload_n h.1 2 rfl dL_leftAt_4)) <|
  tcG (sH (fun p e s m args below meth c cA D A ad0 h => ok_callVH h.1 h.2.1 ⟨Nat.le_refl _, Nat.le_refl _⟩ mdX4_leftAt siX4_leftAt cxX4 mkRL_69 imX4_leftAt seX4_leftAt ⟨by decide, by decide⟩ (by rw [h.2.2.1]; exact rwL_leftAt) dL_leftAt_5)) <|
  tcG (sH (fun p e s m args below meth c cA D A ad0 h => ok_i2l h.1 dL_leftAt_8)) <|
  tcG (sH (fun p e s m args below meth c cA D A ad0 h => ok_last h.1 dL_leftAt_9)) <|
  tcG (sH (fun p e s m args below meth c cA D A ad0 h => ok_goto h.1 21 (by decide) dL_leftAt_10)) <|
  tcG (sH (fun p e s m args below meth c cA D A ad0 h => ok_astore h.1 (by decide) dL_leftAt_13)) <|
  tcG (sH (fun p e s m args below meth c cA D A ad0 h => ok_iconst h.1 ⟨by decide, by decide⟩ dL_leftAt_15)) <|
  tcG (sH (fun p e s m args below meth c cA D A ad0 h => ok_ireturn h.1 h.2.2.2.1 (Or.inl rfl) dL_leftAt_16)) <|
  tcG (sH (fun p e s m args below meth c cA D A ad0 h => ok_astore h.1 (by decide) dL_leftAt_17)) <|
  tcG (sH (fun p e s m args below meth c cA D A ad0 h => ok_iconst h.1 ⟨by decide, by decide⟩ dL_leftAt_19)) <|
  tcG (sH (fun p e s m args below meth c cA D A ad0 h => ok_ireturn h.1 h.2.2.2.1 (Or.inl rfl) dL_leftAt_20)) <|
  tcG (sH (fun p e s m args below meth c cA D A ad0 h => ok_iconst h.1 ⟨by decide, by decide⟩ dL_leftAt_21)) <|
  tcG (sH (fun p e s m args below meth c cA D A ad0 h => ok_ireturn h.1 h.2.2.2.1 (Or.inl rfl) dL_leftAt_22)) <|
  tnG
abbrev cuL_leftAt : List Nat := [8, 15, 19]
theorem tL_leftAt_0 (l : Launch) (K : aRs) : tb (tbL_leftAt l K) 0 = sLd 3 1 isR := (rfl)
theorem wL_leftAt_0 {l : Launch} {K : aRs} {J : aK} {W : Nat → aK} (hW : isW (tbL_leftAt l K) cuL_leftAt J W) (n : Nat) (ls st : List aV) (μ : aM) (g : Nat) : W (n + 1) 0 ls st μ g = (sLd 3 1 isR) (W n) ls st μ g := (hW n 0 ls st μ g).trans rfl
theorem wL_leftAt_1 {l : Launch} {K : aRs} {J : aK} {W : Nat → aK} (hW : isW (tbL_leftAt l K) cuL_leftAt J W) (n : Nat) (ls st : List aV) (μ : aM) (g : Nat) : W (n + 1) 1 ls st μ g = (sPush (aI 0) 2) (W n) ls st μ g := (hW n 1 ls st μ g).trans rfl
theorem wL_leftAt_2 {l : Launch} {K : aRs} {J : aK} {W : Nat → aK} (hW : isW (tbL_leftAt l K) cuL_leftAt J W) (n : Nat) (ls st : List aV) (μ : aM) (g : Nat) : W (n + 1) 2 ls st μ g = (sLd 0 3 isR) (W n) ls st μ g := (hW n 2 ls st μ g).trans rfl
theorem wL_leftAt_3 {l : Launch} {K : aRs} {J : aK} {W : Nat → aK} (hW : isW (tbL_leftAt l K) cuL_leftAt J W) (n : Nat) (ls st : List aV) (μ : aM) (g : Nat) : W (n + 1) 3 ls st μ g = (sLd 1 4 isI) (W n) ls st μ g := (hW n 3 ls st μ g).trans rfl
theorem wL_leftAt_4 {l : Launch} {K : aRs} {J : aK} {W : Nat → aK} (hW : isW (tbL_leftAt l K) cuL_leftAt J W) (n : Nat) (ls st : List aV) (μ : aM) (g : Nat) : W (n + 1) 4 ls st μ g = (sLd 2 5 isI) (W n) ls st μ g := (hW n 4 ls st μ g).trans rfl
theorem wL_leftAt_5 {l : Launch} {K : aRs} {J : aK} {W : Nat → aK} (hW : isW (tbL_leftAt l K) cuL_leftAt J W) (n : Nat) (ls st : List aV) (μ : aM) (g : Nat) : W (n + 1) 5 ls st μ g = (sCallVH 2 4 (fun as μ K X => Ct l mdX4_leftAt as μ K X) 8 2 2 5 [(1, 15), (3, 19)]) (W n) ls st μ g := (hW n 5 ls st μ g).trans rfl
theorem tL_leftAt_8 (l : Launch) (K : aRs) : tb (tbL_leftAt l K) 8 = sI2l 9 := (rfl)
theorem wL_leftAt_8 {l : Launch} {K : aRs} {J : aK} {W : Nat → aK} (hW : isW (tbL_leftAt l K) cuL_leftAt J W) (n : Nat) (ls st : List aV) (μ : aM) (g : Nat) : W (n + 1) 8 ls st μ g = J 8 ls st μ g := (hW n 8 ls st μ g).trans rfl
theorem wL_leftAt_9 {l : Launch} {K : aRs} {J : aK} {W : Nat → aK} (hW : isW (tbL_leftAt l K) cuL_leftAt J W) (n : Nat) (ls st : List aV) (μ : aM) (g : Nat) : W (n + 1) 9 ls st μ g = (sAstL 10) (W n) ls st μ g := (hW n 9 ls st μ g).trans rfl
theorem wL_leftAt_10 {l : Launch} {K : aRs} {J : aK} {W : Nat → aK} (hW : isW (tbL_leftAt l K) cuL_leftAt J W) (n : Nat) (ls st : List aV) (μ : aM) (g : Nat) : W (n + 1) 10 ls st μ g = (sGoto 21) (W n) ls st μ g := (hW n 10 ls st μ g).trans rfl
theorem wL_leftAt_13 {l : Launch} {K : aRs} {J : aK} {W : Nat → aK} (hW : isW (tbL_leftAt l K) cuL_leftAt J W) (n : Nat) (ls st : List aV) (μ : aM) (g : Nat) : W (n + 1) 13 ls st μ g = (sSt 4 15 isR) (W n) ls st μ g := (hW n 13 ls st μ g).trans rfl
theorem tL_leftAt_15 (l : Launch) (K : aRs) : tb (tbL_leftAt l K) 15 = sPush (aI 1) 16 := (rfl)
theorem wL_leftAt_15 {l : Launch} {K : aRs} {J : aK} {W : Nat → aK} (hW : isW (tbL_leftAt l K) cuL_leftAt J W) (n : Nat) (ls st : List aV) (μ : aM) (g : Nat) : W (n + 1) 15 ls st μ g = J 15 ls st μ g := (hW n 15 ls st μ g).trans rfl
theorem wL_leftAt_16 {l : Launch} {K : aRs} {J : aK} {W : Nat → aK} (hW : isW (tbL_leftAt l K) cuL_leftAt J W) (n : Nat) (ls st : List aV) (μ : aM) (g : Nat) : W (n + 1) 16 ls st μ g = (sRetI .int 2 K) (W n) ls st μ g := (hW n 16 ls st μ g).trans rfl
theorem wL_leftAt_17 {l : Launch} {K : aRs} {J : aK} {W : Nat → aK} (hW : isW (tbL_leftAt l K) cuL_leftAt J W) (n : Nat) (ls st : List aV) (μ : aM) (g : Nat) : W (n + 1) 17 ls st μ g = (sSt 4 19 isR) (W n) ls st μ g := (hW n 17 ls st μ g).trans rfl
theorem tL_leftAt_19 (l : Launch) (K : aRs) : tb (tbL_leftAt l K) 19 = sPush (aI 2) 20 := (rfl)
theorem wL_leftAt_19 {l : Launch} {K : aRs} {J : aK} {W : Nat → aK} (hW : isW (tbL_leftAt l K) cuL_leftAt J W) (n : Nat) (ls st : List aV) (μ : aM) (g : Nat) : W (n + 1) 19 ls st μ g = J 19 ls st μ g := (hW n 19 ls st μ g).trans rfl
theorem wL_leftAt_20 {l : Launch} {K : aRs} {J : aK} {W : Nat → aK} (hW : isW (tbL_leftAt l K) cuL_leftAt J W) (n : Nat) (ls st : List aV) (μ : aM) (g : Nat) : W (n + 1) 20 ls st μ g = (sRetI .int 2 K) (W n) ls st μ g := (hW n 20 ls st μ g).trans rfl
theorem wL_leftAt_21 {l : Launch} {K : aRs} {J : aK} {W : Nat → aK} (hW : isW (tbL_leftAt l K) cuL_leftAt J W) (n : Nat) (ls st : List aV) (μ : aM) (g : Nat) : W (n + 1) 21 ls st μ g = (sPush (aI 0) 22) (W n) ls st μ g := (hW n 21 ls st μ g).trans rfl
theorem wL_leftAt_22 {l : Launch} {K : aRs} {J : aK} {W : Nat → aK} (hW : isW (tbL_leftAt l K) cuL_leftAt J W) (n : Nat) (ls st : List aV) (μ : aM) (g : Nat) : W (n + 1) 22 ls st μ g = (sRetI .int 2 K) (W n) ls st μ g := (hW n 22 ls st μ g).trans rfl
theorem dL_ordersAt_0 : decode cL_ordersAt 0 = .ok (.aload_n 3, 1) := by decide +kernel
theorem dL_ordersAt_1 : decode cL_ordersAt 1 = .ok (.iconst 0, 1) := by decide +kernel
theorem dL_ordersAt_2 : decode cL_ordersAt 2 = .ok (.aload_n 0, 1) := by decide +kernel
theorem dL_ordersAt_3 : decode cL_ordersAt 3 = .ok (.iload_n 1, 1) := by decide +kernel
theorem dL_ordersAt_4 : decode cL_ordersAt 4 = .ok (.iload_n 2, 1) := by decide +kernel
theorem dL_ordersAt_5 : decode cL_ordersAt 5 = .ok (.invokevirtual 72, 3) := by decide +kernel
theorem dL_ordersAt_8 : decode cL_ordersAt 8 = .ok (.i2l, 1) := by decide +kernel
theorem dL_ordersAt_9 : decode cL_ordersAt 9 = .ok (.lastore, 1) := by decide +kernel
theorem dL_ordersAt_10 : decode cL_ordersAt 10 = .ok (.goto 11, 3) := by decide +kernel
theorem dL_ordersAt_13 : decode cL_ordersAt 13 = .ok (.astore 4, 2) := by decide +kernel
theorem dL_ordersAt_15 : decode cL_ordersAt 15 = .ok (.iconst 1, 1) := by decide +kernel
theorem dL_ordersAt_16 : decode cL_ordersAt 16 = .ok (.ireturn, 1) := by decide +kernel
theorem dL_ordersAt_17 : decode cL_ordersAt 17 = .ok (.astore 4, 2) := by decide +kernel
theorem dL_ordersAt_19 : decode cL_ordersAt 19 = .ok (.iconst 2, 1) := by decide +kernel
theorem dL_ordersAt_20 : decode cL_ordersAt 20 = .ok (.ireturn, 1) := by decide +kernel
theorem dL_ordersAt_21 : decode cL_ordersAt 21 = .ok (.iconst 0, 1) := by decide +kernel
theorem dL_ordersAt_22 : decode cL_ordersAt 22 = .ok (.ireturn, 1) := by decide +kernel
abbrev mdL_ordersAt : aMd := (yL_ordersAt, cL_ordersAt, 5, (some FieldType.int), 9, 2)
abbrev hhL_ordersAt : List (Nat × Nat × Nat × Nat) := [(0, 10, 13, 13), (0, 10, 17, 24)]
theorem siL_ordersAt : aSiteH mdL_ordersAt hhL_ordersAt 4 := ⟨⟨niRL, bg 631 (by decide +kernel) rfl⟩, by decide +kernel, by decide +kernel, by decide +kernel⟩
theorem stL_ordersAt : Cond.static yL_ordersAt ∈ bgL := bg 630 (by decide +kernel) rfl
theorem rwL_ordersAt : ∀ h ∈ ([(1, 15), (3, 19)] : List (Nat × Nat)), hRow (tableOf hhL_ordersAt) RL cL_ordersAt 5 5 h.1 h.2 := List.forall_mem_cons.mpr ⟨⟨[], ⟨0, 10, 13, 13⟩, [⟨0, 10, 17, 24⟩], rfl, (fun z hz => nomatch hz), by decide, by decide, ckRL_13, Or.inl ⟨4, by decide, dL_ordersAt_13, rfl⟩⟩, List.forall_mem_cons.mpr ⟨⟨[⟨0, 10, 13, 13⟩], ⟨0, 10, 17, 24⟩, [], rfl, (List.forall_mem_cons.mpr ⟨Or.inr ⟨by decide, 1, ckRL_13, by decide⟩, (fun z hz => nomatch hz)⟩), by decide, by decide, ckRL_24, Or.inl ⟨4, by decide, dL_ordersAt_17, rfl⟩⟩, (fun z hz => nomatch hz)⟩⟩
def tbL_ordersAt (l : Launch) (K : aRs) : aTb := [
  (0, sLd 3 1 isR),
  (1, sPush (aI 0) 2),
  (2, sLd 0 3 isR),
  (3, sLd 1 4 isI),
  (4, sLd 2 5 isI),
  (5, sCallVH 2 4 (fun as μ K X => Ct l mdX4_ordersAt as μ K X) 8 2 2 5 [(1, 15), (3, 19)]),
  (8, sI2l 9),
  (9, sAstL 10),
  (10, sGoto 21),
  (13, sSt 4 15 isR),
  (15, sPush (aI 1) 16),
  (16, sRetI .int 2 K),
  (17, sSt 4 19 isR),
  (19, sPush (aI 2) 20),
  (20, sRetI .int 2 K),
  (21, sPush (aI 0) 22),
  (22, sRetI .int 2 K)]
theorem snL_ordersAt (l : Launch) (K : aRs) (n0 : Nat) : ∀ q ∈ tbL_ordersAt l K, Snd (BdH l mdL_ordersAt hhL_ordersAt K n0) q.1 q.2 :=
  tcG (sH (fun p e s m args below meth c cA D A ad0 h => ok_aload_n h.1 3 rfl dL_ordersAt_0)) <|
  tcG (sH (fun p e s m args below meth c cA D A ad0 h => ok_iconst h.1 ⟨by decide, by decide⟩ dL_ordersAt_1)) <|
  tcG (sH (fun p e s m args below meth c cA D A ad0 h => ok_aload_n h.1 0 rfl dL_ordersAt_2)) <|
  tcG (sH (fun p e s m args below meth c cA D A ad0 h => ok_iload_n h.1 1 rfl dL_ordersAt_3)) <|
  tcG (sH (fun p e s m args below meth c cA D A ad0 h => ok_iload_n h.1 2 rfl dL_ordersAt_4)) <|
  tcG (sH (fun p e s m args below meth c cA D A ad0 h => ok_callVH h.1 h.2.1 ⟨Nat.le_refl _, Nat.le_refl _⟩ mdX4_ordersAt siX4_ordersAt cxX4 mkRL_72 imX4_ordersAt seX4_ordersAt ⟨by decide, by decide⟩ (by rw [h.2.2.1]; exact rwL_ordersAt) dL_ordersAt_5)) <|
  tcG (sH (fun p e s m args below meth c cA D A ad0 h => ok_i2l h.1 dL_ordersAt_8)) <|
  tcG (sH (fun p e s m args below meth c cA D A ad0 h => ok_last h.1 dL_ordersAt_9)) <|
  tcG (sH (fun p e s m args below meth c cA D A ad0 h => ok_goto h.1 21 (by decide) dL_ordersAt_10)) <|
  tcG (sH (fun p e s m args below meth c cA D A ad0 h => ok_astore h.1 (by decide) dL_ordersAt_13)) <|
  tcG (sH (fun p e s m args below meth c cA D A ad0 h => ok_iconst h.1 ⟨by decide, by decide⟩ dL_ordersAt_15)) <|
  tcG (sH (fun p e s m args below meth c cA D A ad0 h => ok_ireturn h.1 h.2.2.2.1 (Or.inl rfl) dL_ordersAt_16)) <|
  tcG (sH (fun p e s m args below meth c cA D A ad0 h => ok_astore h.1 (by decide) dL_ordersAt_17)) <|
  tcG (sH (fun p e s m args below meth c cA D A ad0 h => ok_iconst h.1 ⟨by decide, by decide⟩ dL_ordersAt_19)) <|
  tcG (sH (fun p e s m args below meth c cA D A ad0 h => ok_ireturn h.1 h.2.2.2.1 (Or.inl rfl) dL_ordersAt_20)) <|
  tcG (sH (fun p e s m args below meth c cA D A ad0 h => ok_iconst h.1 ⟨by decide, by decide⟩ dL_ordersAt_21)) <|
  tcG (sH (fun p e s m args below meth c cA D A ad0 h => ok_ireturn h.1 h.2.2.2.1 (Or.inl rfl) dL_ordersAt_22)) <|
  tnG
abbrev cuL_ordersAt : List Nat := [8, 15, 19]
theorem tL_ordersAt_0 (l : Launch) (K : aRs) : tb (tbL_ordersAt l K) 0 = sLd 3 1 isR := (rfl)
theorem wL_ordersAt_0 {l : Launch} {K : aRs} {J : aK} {W : Nat → aK} (hW : isW (tbL_ordersAt l K) cuL_ordersAt J W) (n : Nat) (ls st : List aV) (μ : aM) (g : Nat) : W (n + 1) 0 ls st μ g = (sLd 3 1 isR) (W n) ls st μ g := (hW n 0 ls st μ g).trans rfl
theorem wL_ordersAt_1 {l : Launch} {K : aRs} {J : aK} {W : Nat → aK} (hW : isW (tbL_ordersAt l K) cuL_ordersAt J W) (n : Nat) (ls st : List aV) (μ : aM) (g : Nat) : W (n + 1) 1 ls st μ g = (sPush (aI 0) 2) (W n) ls st μ g := (hW n 1 ls st μ g).trans rfl
theorem wL_ordersAt_2 {l : Launch} {K : aRs} {J : aK} {W : Nat → aK} (hW : isW (tbL_ordersAt l K) cuL_ordersAt J W) (n : Nat) (ls st : List aV) (μ : aM) (g : Nat) : W (n + 1) 2 ls st μ g = (sLd 0 3 isR) (W n) ls st μ g := (hW n 2 ls st μ g).trans rfl
theorem wL_ordersAt_3 {l : Launch} {K : aRs} {J : aK} {W : Nat → aK} (hW : isW (tbL_ordersAt l K) cuL_ordersAt J W) (n : Nat) (ls st : List aV) (μ : aM) (g : Nat) : W (n + 1) 3 ls st μ g = (sLd 1 4 isI) (W n) ls st μ g := (hW n 3 ls st μ g).trans rfl
theorem wL_ordersAt_4 {l : Launch} {K : aRs} {J : aK} {W : Nat → aK} (hW : isW (tbL_ordersAt l K) cuL_ordersAt J W) (n : Nat) (ls st : List aV) (μ : aM) (g : Nat) : W (n + 1) 4 ls st μ g = (sLd 2 5 isI) (W n) ls st μ g := (hW n 4 ls st μ g).trans rfl
theorem wL_ordersAt_5 {l : Launch} {K : aRs} {J : aK} {W : Nat → aK} (hW : isW (tbL_ordersAt l K) cuL_ordersAt J W) (n : Nat) (ls st : List aV) (μ : aM) (g : Nat) : W (n + 1) 5 ls st μ g = (sCallVH 2 4 (fun as μ K X => Ct l mdX4_ordersAt as μ K X) 8 2 2 5 [(1, 15), (3, 19)]) (W n) ls st μ g := (hW n 5 ls st μ g).trans rfl
theorem tL_ordersAt_8 (l : Launch) (K : aRs) : tb (tbL_ordersAt l K) 8 = sI2l 9 := (rfl)
theorem wL_ordersAt_8 {l : Launch} {K : aRs} {J : aK} {W : Nat → aK} (hW : isW (tbL_ordersAt l K) cuL_ordersAt J W) (n : Nat) (ls st : List aV) (μ : aM) (g : Nat) : W (n + 1) 8 ls st μ g = J 8 ls st μ g := (hW n 8 ls st μ g).trans rfl
theorem wL_ordersAt_9 {l : Launch} {K : aRs} {J : aK} {W : Nat → aK} (hW : isW (tbL_ordersAt l K) cuL_ordersAt J W) (n : Nat) (ls st : List aV) (μ : aM) (g : Nat) : W (n + 1) 9 ls st μ g = (sAstL 10) (W n) ls st μ g := (hW n 9 ls st μ g).trans rfl
theorem wL_ordersAt_10 {l : Launch} {K : aRs} {J : aK} {W : Nat → aK} (hW : isW (tbL_ordersAt l K) cuL_ordersAt J W) (n : Nat) (ls st : List aV) (μ : aM) (g : Nat) : W (n + 1) 10 ls st μ g = (sGoto 21) (W n) ls st μ g := (hW n 10 ls st μ g).trans rfl
theorem wL_ordersAt_13 {l : Launch} {K : aRs} {J : aK} {W : Nat → aK} (hW : isW (tbL_ordersAt l K) cuL_ordersAt J W) (n : Nat) (ls st : List aV) (μ : aM) (g : Nat) : W (n + 1) 13 ls st μ g = (sSt 4 15 isR) (W n) ls st μ g := (hW n 13 ls st μ g).trans rfl
theorem tL_ordersAt_15 (l : Launch) (K : aRs) : tb (tbL_ordersAt l K) 15 = sPush (aI 1) 16 := (rfl)
theorem wL_ordersAt_15 {l : Launch} {K : aRs} {J : aK} {W : Nat → aK} (hW : isW (tbL_ordersAt l K) cuL_ordersAt J W) (n : Nat) (ls st : List aV) (μ : aM) (g : Nat) : W (n + 1) 15 ls st μ g = J 15 ls st μ g := (hW n 15 ls st μ g).trans rfl
theorem wL_ordersAt_16 {l : Launch} {K : aRs} {J : aK} {W : Nat → aK} (hW : isW (tbL_ordersAt l K) cuL_ordersAt J W) (n : Nat) (ls st : List aV) (μ : aM) (g : Nat) : W (n + 1) 16 ls st μ g = (sRetI .int 2 K) (W n) ls st μ g := (hW n 16 ls st μ g).trans rfl
theorem wL_ordersAt_17 {l : Launch} {K : aRs} {J : aK} {W : Nat → aK} (hW : isW (tbL_ordersAt l K) cuL_ordersAt J W) (n : Nat) (ls st : List aV) (μ : aM) (g : Nat) : W (n + 1) 17 ls st μ g = (sSt 4 19 isR) (W n) ls st μ g := (hW n 17 ls st μ g).trans rfl
theorem tL_ordersAt_19 (l : Launch) (K : aRs) : tb (tbL_ordersAt l K) 19 = sPush (aI 2) 20 := (rfl)
theorem wL_ordersAt_19 {l : Launch} {K : aRs} {J : aK} {W : Nat → aK} (hW : isW (tbL_ordersAt l K) cuL_ordersAt J W) (n : Nat) (ls st : List aV) (μ : aM) (g : Nat) : W (n + 1) 19 ls st μ g = J 19 ls st μ g := (hW n 19 ls st μ g).trans rfl
theorem wL_ordersAt_20 {l : Launch} {K : aRs} {J : aK} {W : Nat → aK} (hW : isW (tbL_ordersAt l K) cuL_ordersAt J W) (n : Nat) (ls st : List aV) (μ : aM) (g : Nat) : W (n + 1) 20 ls st μ g = (sRetI .int 2 K) (W n) ls st μ g := (hW n 20 ls st μ g).trans rfl
theorem wL_ordersAt_21 {l : Launch} {K : aRs} {J : aK} {W : Nat → aK} (hW : isW (tbL_ordersAt l K) cuL_ordersAt J W) (n : Nat) (ls st : List aV) (μ : aM) (g : Nat) : W (n + 1) 21 ls st μ g = (sPush (aI 0) 22) (W n) ls st μ g := (hW n 21 ls st μ g).trans rfl
theorem wL_ordersAt_22 {l : Launch} {K : aRs} {J : aK} {W : Nat → aK} (hW : isW (tbL_ordersAt l K) cuL_ordersAt J W) (n : Nat) (ls st : List aV) (μ : aM) (g : Nat) : W (n + 1) 22 ls st μ g = (sRetI .int 2 K) (W n) ls st μ g := (hW n 22 ls st μ g).trans rfl
theorem dL_orderAt_0 : decode cL_orderAt 0 = .ok (.aload 4, 2) := by decide +kernel
theorem dL_orderAt_2 : decode cL_orderAt 2 = .ok (.iconst 0, 1) := by decide +kernel
theorem dL_orderAt_3 : decode cL_orderAt 3 = .ok (.aload_n 0, 1) := by decide +kernel
theorem dL_orderAt_4 : decode cL_orderAt 4 = .ok (.iload_n 1, 1) := by decide +kernel
theorem dL_orderAt_5 : decode cL_orderAt 5 = .ok (.iload_n 2, 1) := by decide +kernel
theorem dL_orderAt_6 : decode cL_orderAt 6 = .ok (.iload_n 3, 1) := by decide +kernel
theorem dL_orderAt_7 : decode cL_orderAt 7 = .ok (.invokevirtual 75, 3) := by decide +kernel
theorem dL_orderAt_10 : decode cL_orderAt 10 = .ok (.i2l, 1) := by decide +kernel
theorem dL_orderAt_11 : decode cL_orderAt 11 = .ok (.lastore, 1) := by decide +kernel
theorem dL_orderAt_12 : decode cL_orderAt 12 = .ok (.goto 15, 3) := by decide +kernel
theorem dL_orderAt_15 : decode cL_orderAt 15 = .ok (.astore 5, 2) := by decide +kernel
theorem dL_orderAt_17 : decode cL_orderAt 17 = .ok (.iconst 1, 1) := by decide +kernel
theorem dL_orderAt_18 : decode cL_orderAt 18 = .ok (.ireturn, 1) := by decide +kernel
theorem dL_orderAt_19 : decode cL_orderAt 19 = .ok (.astore 5, 2) := by decide +kernel
theorem dL_orderAt_21 : decode cL_orderAt 21 = .ok (.iconst 2, 1) := by decide +kernel
theorem dL_orderAt_22 : decode cL_orderAt 22 = .ok (.ireturn, 1) := by decide +kernel
theorem dL_orderAt_23 : decode cL_orderAt 23 = .ok (.astore 5, 2) := by decide +kernel
theorem dL_orderAt_25 : decode cL_orderAt 25 = .ok (.iconst 3, 1) := by decide +kernel
theorem dL_orderAt_26 : decode cL_orderAt 26 = .ok (.ireturn, 1) := by decide +kernel
theorem dL_orderAt_27 : decode cL_orderAt 27 = .ok (.iconst 0, 1) := by decide +kernel
theorem dL_orderAt_28 : decode cL_orderAt 28 = .ok (.ireturn, 1) := by decide +kernel
abbrev mdL_orderAt : aMd := (yL_orderAt, cL_orderAt, 6, (some FieldType.int), 9, 3)
abbrev hhL_orderAt : List (Nat × Nat × Nat × Nat) := [(0, 12, 15, 13), (0, 12, 19, 24), (0, 12, 23, 79)]
theorem siL_orderAt : aSiteH mdL_orderAt hhL_orderAt 5 := ⟨⟨niRL, bg 638 (by decide +kernel) rfl⟩, by decide +kernel, by decide +kernel, by decide +kernel⟩
theorem stL_orderAt : Cond.static yL_orderAt ∈ bgL := bg 637 (by decide +kernel) rfl
theorem rwL_orderAt : ∀ h ∈ ([(1, 17), (3, 21), (4, 25)] : List (Nat × Nat)), hRow (tableOf hhL_orderAt) RL cL_orderAt 7 6 h.1 h.2 := List.forall_mem_cons.mpr ⟨⟨[], ⟨0, 12, 15, 13⟩, [⟨0, 12, 19, 24⟩, ⟨0, 12, 23, 79⟩], rfl, (fun z hz => nomatch hz), by decide, by decide, ckRL_13, Or.inl ⟨5, by decide, dL_orderAt_15, rfl⟩⟩, List.forall_mem_cons.mpr ⟨⟨[⟨0, 12, 15, 13⟩], ⟨0, 12, 19, 24⟩, [⟨0, 12, 23, 79⟩], rfl, (List.forall_mem_cons.mpr ⟨Or.inr ⟨by decide, 1, ckRL_13, by decide⟩, (fun z hz => nomatch hz)⟩), by decide, by decide, ckRL_24, Or.inl ⟨5, by decide, dL_orderAt_19, rfl⟩⟩, List.forall_mem_cons.mpr ⟨⟨[⟨0, 12, 15, 13⟩, ⟨0, 12, 19, 24⟩], ⟨0, 12, 23, 79⟩, [], rfl, (List.forall_mem_cons.mpr ⟨Or.inr ⟨by decide, 1, ckRL_13, by decide⟩, (List.forall_mem_cons.mpr ⟨Or.inr ⟨by decide, 3, ckRL_24, by decide⟩, (fun z hz => nomatch hz)⟩)⟩), by decide, by decide, ckRL_79, Or.inl ⟨5, by decide, dL_orderAt_23, rfl⟩⟩, (fun z hz => nomatch hz)⟩⟩⟩
def tbL_orderAt (l : Launch) (K : aRs) : aTb := [
  (0, sLd 4 2 isR),
  (2, sPush (aI 0) 3),
  (3, sLd 0 4 isR),
  (4, sLd 1 5 isI),
  (5, sLd 2 6 isI),
  (6, sLd 3 7 isI),
  (7, sCallVH 3 4 (fun as μ K X => Ct l mdX4_orderAt as μ K X) 10 3 3 6 [(1, 17), (3, 21), (4, 25)]),
  (10, sI2l 11),
  (11, sAstL 12),
  (12, sGoto 27),
  (15, sSt 5 17 isR),
  (17, sPush (aI 1) 18),
  (18, sRetI .int 3 K),
  (19, sSt 5 21 isR),
  (21, sPush (aI 2) 22),
  (22, sRetI .int 3 K),
  (23, sSt 5 25 isR),
  (25, sPush (aI 3) 26),
  (26, sRetI .int 3 K),
  (27, sPush (aI 0) 28),
  (28, sRetI .int 3 K)]
theorem snL_orderAt (l : Launch) (K : aRs) (n0 : Nat) : ∀ q ∈ tbL_orderAt l K, Snd (BdH l mdL_orderAt hhL_orderAt K n0) q.1 q.2 :=
  tcG (sH (fun p e s m args below meth c cA D A ad0 h => ok_aload h.1 dL_orderAt_0)) <|
  tcG (sH (fun p e s m args below meth c cA D A ad0 h => ok_iconst h.1 ⟨by decide, by decide⟩ dL_orderAt_2)) <|
  tcG (sH (fun p e s m args below meth c cA D A ad0 h => ok_aload_n h.1 0 rfl dL_orderAt_3)) <|
  tcG (sH (fun p e s m args below meth c cA D A ad0 h => ok_iload_n h.1 1 rfl dL_orderAt_4)) <|
  tcG (sH (fun p e s m args below meth c cA D A ad0 h => ok_iload_n h.1 2 rfl dL_orderAt_5)) <|
  tcG (sH (fun p e s m args below meth c cA D A ad0 h => ok_iload_n h.1 3 rfl dL_orderAt_6)) <|
  tcG (sH (fun p e s m args below meth c cA D A ad0 h => ok_callVH h.1 h.2.1 ⟨Nat.le_refl _, Nat.le_refl _⟩ mdX4_orderAt siX4_orderAt cxX4 mkRL_75 imX4_orderAt seX4_orderAt ⟨by decide, by decide⟩ (by rw [h.2.2.1]; exact rwL_orderAt) dL_orderAt_7)) <|
  tcG (sH (fun p e s m args below meth c cA D A ad0 h => ok_i2l h.1 dL_orderAt_10)) <|
  tcG (sH (fun p e s m args below meth c cA D A ad0 h => ok_last h.1 dL_orderAt_11)) <|
  tcG (sH (fun p e s m args below meth c cA D A ad0 h => ok_goto h.1 27 (by decide) dL_orderAt_12)) <|
  tcG (sH (fun p e s m args below meth c cA D A ad0 h => ok_astore h.1 (by decide) dL_orderAt_15)) <|
  tcG (sH (fun p e s m args below meth c cA D A ad0 h => ok_iconst h.1 ⟨by decide, by decide⟩ dL_orderAt_17)) <|
  tcG (sH (fun p e s m args below meth c cA D A ad0 h => ok_ireturn h.1 h.2.2.2.1 (Or.inl rfl) dL_orderAt_18)) <|
  tcG (sH (fun p e s m args below meth c cA D A ad0 h => ok_astore h.1 (by decide) dL_orderAt_19)) <|
  tcG (sH (fun p e s m args below meth c cA D A ad0 h => ok_iconst h.1 ⟨by decide, by decide⟩ dL_orderAt_21)) <|
  tcG (sH (fun p e s m args below meth c cA D A ad0 h => ok_ireturn h.1 h.2.2.2.1 (Or.inl rfl) dL_orderAt_22)) <|
  tcG (sH (fun p e s m args below meth c cA D A ad0 h => ok_astore h.1 (by decide) dL_orderAt_23)) <|
  tcG (sH (fun p e s m args below meth c cA D A ad0 h => ok_iconst h.1 ⟨by decide, by decide⟩ dL_orderAt_25)) <|
  tcG (sH (fun p e s m args below meth c cA D A ad0 h => ok_ireturn h.1 h.2.2.2.1 (Or.inl rfl) dL_orderAt_26)) <|
  tcG (sH (fun p e s m args below meth c cA D A ad0 h => ok_iconst h.1 ⟨by decide, by decide⟩ dL_orderAt_27)) <|
  tcG (sH (fun p e s m args below meth c cA D A ad0 h => ok_ireturn h.1 h.2.2.2.1 (Or.inl rfl) dL_orderAt_28)) <|
  tnG
abbrev cuL_orderAt : List Nat := [10, 17, 21, 25]
theorem tL_orderAt_0 (l : Launch) (K : aRs) : tb (tbL_orderAt l K) 0 = sLd 4 2 isR := (rfl)
theorem wL_orderAt_0 {l : Launch} {K : aRs} {J : aK} {W : Nat → aK} (hW : isW (tbL_orderAt l K) cuL_orderAt J W) (n : Nat) (ls st : List aV) (μ : aM) (g : Nat) : W (n + 1) 0 ls st μ g = (sLd 4 2 isR) (W n) ls st μ g := (hW n 0 ls st μ g).trans rfl
theorem wL_orderAt_2 {l : Launch} {K : aRs} {J : aK} {W : Nat → aK} (hW : isW (tbL_orderAt l K) cuL_orderAt J W) (n : Nat) (ls st : List aV) (μ : aM) (g : Nat) : W (n + 1) 2 ls st μ g = (sPush (aI 0) 3) (W n) ls st μ g := (hW n 2 ls st μ g).trans rfl
theorem wL_orderAt_3 {l : Launch} {K : aRs} {J : aK} {W : Nat → aK} (hW : isW (tbL_orderAt l K) cuL_orderAt J W) (n : Nat) (ls st : List aV) (μ : aM) (g : Nat) : W (n + 1) 3 ls st μ g = (sLd 0 4 isR) (W n) ls st μ g := (hW n 3 ls st μ g).trans rfl
theorem wL_orderAt_4 {l : Launch} {K : aRs} {J : aK} {W : Nat → aK} (hW : isW (tbL_orderAt l K) cuL_orderAt J W) (n : Nat) (ls st : List aV) (μ : aM) (g : Nat) : W (n + 1) 4 ls st μ g = (sLd 1 5 isI) (W n) ls st μ g := (hW n 4 ls st μ g).trans rfl
theorem wL_orderAt_5 {l : Launch} {K : aRs} {J : aK} {W : Nat → aK} (hW : isW (tbL_orderAt l K) cuL_orderAt J W) (n : Nat) (ls st : List aV) (μ : aM) (g : Nat) : W (n + 1) 5 ls st μ g = (sLd 2 6 isI) (W n) ls st μ g := (hW n 5 ls st μ g).trans rfl
theorem wL_orderAt_6 {l : Launch} {K : aRs} {J : aK} {W : Nat → aK} (hW : isW (tbL_orderAt l K) cuL_orderAt J W) (n : Nat) (ls st : List aV) (μ : aM) (g : Nat) : W (n + 1) 6 ls st μ g = (sLd 3 7 isI) (W n) ls st μ g := (hW n 6 ls st μ g).trans rfl
theorem wL_orderAt_7 {l : Launch} {K : aRs} {J : aK} {W : Nat → aK} (hW : isW (tbL_orderAt l K) cuL_orderAt J W) (n : Nat) (ls st : List aV) (μ : aM) (g : Nat) : W (n + 1) 7 ls st μ g = (sCallVH 3 4 (fun as μ K X => Ct l mdX4_orderAt as μ K X) 10 3 3 6 [(1, 17), (3, 21), (4, 25)]) (W n) ls st μ g := (hW n 7 ls st μ g).trans rfl
theorem tL_orderAt_10 (l : Launch) (K : aRs) : tb (tbL_orderAt l K) 10 = sI2l 11 := (rfl)
theorem wL_orderAt_10 {l : Launch} {K : aRs} {J : aK} {W : Nat → aK} (hW : isW (tbL_orderAt l K) cuL_orderAt J W) (n : Nat) (ls st : List aV) (μ : aM) (g : Nat) : W (n + 1) 10 ls st μ g = J 10 ls st μ g := (hW n 10 ls st μ g).trans rfl
theorem wL_orderAt_11 {l : Launch} {K : aRs} {J : aK} {W : Nat → aK} (hW : isW (tbL_orderAt l K) cuL_orderAt J W) (n : Nat) (ls st : List aV) (μ : aM) (g : Nat) : W (n + 1) 11 ls st μ g = (sAstL 12) (W n) ls st μ g := (hW n 11 ls st μ g).trans rfl
theorem wL_orderAt_12 {l : Launch} {K : aRs} {J : aK} {W : Nat → aK} (hW : isW (tbL_orderAt l K) cuL_orderAt J W) (n : Nat) (ls st : List aV) (μ : aM) (g : Nat) : W (n + 1) 12 ls st μ g = (sGoto 27) (W n) ls st μ g := (hW n 12 ls st μ g).trans rfl
theorem wL_orderAt_15 {l : Launch} {K : aRs} {J : aK} {W : Nat → aK} (hW : isW (tbL_orderAt l K) cuL_orderAt J W) (n : Nat) (ls st : List aV) (μ : aM) (g : Nat) : W (n + 1) 15 ls st μ g = (sSt 5 17 isR) (W n) ls st μ g := (hW n 15 ls st μ g).trans rfl
theorem tL_orderAt_17 (l : Launch) (K : aRs) : tb (tbL_orderAt l K) 17 = sPush (aI 1) 18 := (rfl)
theorem wL_orderAt_17 {l : Launch} {K : aRs} {J : aK} {W : Nat → aK} (hW : isW (tbL_orderAt l K) cuL_orderAt J W) (n : Nat) (ls st : List aV) (μ : aM) (g : Nat) : W (n + 1) 17 ls st μ g = J 17 ls st μ g := (hW n 17 ls st μ g).trans rfl
theorem wL_orderAt_18 {l : Launch} {K : aRs} {J : aK} {W : Nat → aK} (hW : isW (tbL_orderAt l K) cuL_orderAt J W) (n : Nat) (ls st : List aV) (μ : aM) (g : Nat) : W (n + 1) 18 ls st μ g = (sRetI .int 3 K) (W n) ls st μ g := (hW n 18 ls st μ g).trans rfl
theorem wL_orderAt_19 {l : Launch} {K : aRs} {J : aK} {W : Nat → aK} (hW : isW (tbL_orderAt l K) cuL_orderAt J W) (n : Nat) (ls st : List aV) (μ : aM) (g : Nat) : W (n + 1) 19 ls st μ g = (sSt 5 21 isR) (W n) ls st μ g := (hW n 19 ls st μ g).trans rfl
theorem tL_orderAt_21 (l : Launch) (K : aRs) : tb (tbL_orderAt l K) 21 = sPush (aI 2) 22 := (rfl)
theorem wL_orderAt_21 {l : Launch} {K : aRs} {J : aK} {W : Nat → aK} (hW : isW (tbL_orderAt l K) cuL_orderAt J W) (n : Nat) (ls st : List aV) (μ : aM) (g : Nat) : W (n + 1) 21 ls st μ g = J 21 ls st μ g := (hW n 21 ls st μ g).trans rfl
theorem wL_orderAt_22 {l : Launch} {K : aRs} {J : aK} {W : Nat → aK} (hW : isW (tbL_orderAt l K) cuL_orderAt J W) (n : Nat) (ls st : List aV) (μ : aM) (g : Nat) : W (n + 1) 22 ls st μ g = (sRetI .int 3 K) (W n) ls st μ g := (hW n 22 ls st μ g).trans rfl
theorem wL_orderAt_23 {l : Launch} {K : aRs} {J : aK} {W : Nat → aK} (hW : isW (tbL_orderAt l K) cuL_orderAt J W) (n : Nat) (ls st : List aV) (μ : aM) (g : Nat) : W (n + 1) 23 ls st μ g = (sSt 5 25 isR) (W n) ls st μ g := (hW n 23 ls st μ g).trans rfl
theorem tL_orderAt_25 (l : Launch) (K : aRs) : tb (tbL_orderAt l K) 25 = sPush (aI 3) 26 := (rfl)
theorem wL_orderAt_25 {l : Launch} {K : aRs} {J : aK} {W : Nat → aK} (hW : isW (tbL_orderAt l K) cuL_orderAt J W) (n : Nat) (ls st : List aV) (μ : aM) (g : Nat) : W (n + 1) 25 ls st μ g = J 25 ls st μ g := (hW n 25 ls st μ g).trans rfl
theorem wL_orderAt_26 {l : Launch} {K : aRs} {J : aK} {W : Nat → aK} (hW : isW (tbL_orderAt l K) cuL_orderAt J W) (n : Nat) (ls st : List aV) (μ : aM) (g : Nat) : W (n + 1) 26 ls st μ g = (sRetI .int 3 K) (W n) ls st μ g := (hW n 26 ls st μ g).trans rfl
theorem wL_orderAt_27 {l : Launch} {K : aRs} {J : aK} {W : Nat → aK} (hW : isW (tbL_orderAt l K) cuL_orderAt J W) (n : Nat) (ls st : List aV) (μ : aM) (g : Nat) : W (n + 1) 27 ls st μ g = (sPush (aI 0) 28) (W n) ls st μ g := (hW n 27 ls st μ g).trans rfl
theorem wL_orderAt_28 {l : Launch} {K : aRs} {J : aK} {W : Nat → aK} (hW : isW (tbL_orderAt l K) cuL_orderAt J W) (n : Nat) (ls st : List aV) (μ : aM) (g : Nat) : W (n + 1) 28 ls st μ g = (sRetI .int 3 K) (W n) ls st μ g := (hW n 28 ls st μ g).trans rfl
theorem dL_spread_0 : decode cL_spread 0 = .ok (.aload_n 1, 1) := by decide +kernel
theorem dL_spread_1 : decode cL_spread 1 = .ok (.iconst 0, 1) := by decide +kernel
theorem dL_spread_2 : decode cL_spread 2 = .ok (.aload_n 0, 1) := by decide +kernel
theorem dL_spread_3 : decode cL_spread 3 = .ok (.invokevirtual 81, 3) := by decide +kernel
theorem dL_spread_6 : decode cL_spread 6 = .ok (.i2l, 1) := by decide +kernel
theorem dL_spread_7 : decode cL_spread 7 = .ok (.lastore, 1) := by decide +kernel
theorem dL_spread_8 : decode cL_spread 8 = .ok (.goto 6, 3) := by decide +kernel
theorem dL_spread_11 : decode cL_spread 11 = .ok (.astore_n 2, 1) := by decide +kernel
theorem dL_spread_12 : decode cL_spread 12 = .ok (.iconst 1, 1) := by decide +kernel
theorem dL_spread_13 : decode cL_spread 13 = .ok (.ireturn, 1) := by decide +kernel
theorem dL_spread_14 : decode cL_spread 14 = .ok (.iconst 0, 1) := by decide +kernel
theorem dL_spread_15 : decode cL_spread 15 = .ok (.ireturn, 1) := by decide +kernel
abbrev mdL_spread : aMd := (yL_spread, cL_spread, 3, (some FieldType.int), 7, 1)
abbrev hhL_spread : List (Nat × Nat × Nat × Nat) := [(0, 8, 11, 24)]
theorem siL_spread : aSiteH mdL_spread hhL_spread 2 := ⟨⟨niRL, bg 693 (by decide +kernel) rfl⟩, by decide +kernel, by decide +kernel, by decide +kernel⟩
theorem stL_spread : Cond.static yL_spread ∈ bgL := bg 692 (by decide +kernel) rfl
theorem rwL_spread : ∀ h ∈ ([(3, 12)] : List (Nat × Nat)), hRow (tableOf hhL_spread) RL cL_spread 3 3 h.1 h.2 := List.forall_mem_cons.mpr ⟨⟨[], ⟨0, 8, 11, 24⟩, [], rfl, (fun z hz => nomatch hz), by decide, by decide, ckRL_24, Or.inr ⟨2, by decide, dL_spread_11, rfl⟩⟩, (fun z hz => nomatch hz)⟩
def tbL_spread (l : Launch) (K : aRs) : aTb := [
  (0, sLd 1 1 isR),
  (1, sPush (aI 0) 2),
  (2, sLd 0 3 isR),
  (3, sCallVH 0 4 (fun as μ K X => Ct l mdX4_spread as μ K X) 6 1 1 3 [(3, 12)]),
  (6, sI2l 7),
  (7, sAstL 8),
  (8, sGoto 14),
  (11, sSt 2 12 isR),
  (12, sPush (aI 1) 13),
  (13, sRetI .int 1 K),
  (14, sPush (aI 0) 15),
  (15, sRetI .int 1 K)]
theorem snL_spread (l : Launch) (K : aRs) (n0 : Nat) : ∀ q ∈ tbL_spread l K, Snd (BdH l mdL_spread hhL_spread K n0) q.1 q.2 :=
  tcG (sH (fun p e s m args below meth c cA D A ad0 h => ok_aload_n h.1 1 rfl dL_spread_0)) <|
  tcG (sH (fun p e s m args below meth c cA D A ad0 h => ok_iconst h.1 ⟨by decide, by decide⟩ dL_spread_1)) <|
  tcG (sH (fun p e s m args below meth c cA D A ad0 h => ok_aload_n h.1 0 rfl dL_spread_2)) <|
  tcG (sH (fun p e s m args below meth c cA D A ad0 h => ok_callVH h.1 h.2.1 ⟨Nat.le_refl _, Nat.le_refl _⟩ mdX4_spread siX4_spread cxX4 mkRL_81 imX4_spread seX4_spread ⟨by decide, by decide⟩ (by rw [h.2.2.1]; exact rwL_spread) dL_spread_3)) <|
  tcG (sH (fun p e s m args below meth c cA D A ad0 h => ok_i2l h.1 dL_spread_6)) <|
  tcG (sH (fun p e s m args below meth c cA D A ad0 h => ok_last h.1 dL_spread_7)) <|
  tcG (sH (fun p e s m args below meth c cA D A ad0 h => ok_goto h.1 14 (by decide) dL_spread_8)) <|
  tcG (sH (fun p e s m args below meth c cA D A ad0 h => ok_astore_n h.1 2 rfl (by decide) dL_spread_11)) <|
  tcG (sH (fun p e s m args below meth c cA D A ad0 h => ok_iconst h.1 ⟨by decide, by decide⟩ dL_spread_12)) <|
  tcG (sH (fun p e s m args below meth c cA D A ad0 h => ok_ireturn h.1 h.2.2.2.1 (Or.inl rfl) dL_spread_13)) <|
  tcG (sH (fun p e s m args below meth c cA D A ad0 h => ok_iconst h.1 ⟨by decide, by decide⟩ dL_spread_14)) <|
  tcG (sH (fun p e s m args below meth c cA D A ad0 h => ok_ireturn h.1 h.2.2.2.1 (Or.inl rfl) dL_spread_15)) <|
  tnG
abbrev cuL_spread : List Nat := [6, 12]
theorem tL_spread_0 (l : Launch) (K : aRs) : tb (tbL_spread l K) 0 = sLd 1 1 isR := (rfl)
theorem wL_spread_0 {l : Launch} {K : aRs} {J : aK} {W : Nat → aK} (hW : isW (tbL_spread l K) cuL_spread J W) (n : Nat) (ls st : List aV) (μ : aM) (g : Nat) : W (n + 1) 0 ls st μ g = (sLd 1 1 isR) (W n) ls st μ g := (hW n 0 ls st μ g).trans rfl
theorem wL_spread_1 {l : Launch} {K : aRs} {J : aK} {W : Nat → aK} (hW : isW (tbL_spread l K) cuL_spread J W) (n : Nat) (ls st : List aV) (μ : aM) (g : Nat) : W (n + 1) 1 ls st μ g = (sPush (aI 0) 2) (W n) ls st μ g := (hW n 1 ls st μ g).trans rfl
theorem wL_spread_2 {l : Launch} {K : aRs} {J : aK} {W : Nat → aK} (hW : isW (tbL_spread l K) cuL_spread J W) (n : Nat) (ls st : List aV) (μ : aM) (g : Nat) : W (n + 1) 2 ls st μ g = (sLd 0 3 isR) (W n) ls st μ g := (hW n 2 ls st μ g).trans rfl
theorem wL_spread_3 {l : Launch} {K : aRs} {J : aK} {W : Nat → aK} (hW : isW (tbL_spread l K) cuL_spread J W) (n : Nat) (ls st : List aV) (μ : aM) (g : Nat) : W (n + 1) 3 ls st μ g = (sCallVH 0 4 (fun as μ K X => Ct l mdX4_spread as μ K X) 6 1 1 3 [(3, 12)]) (W n) ls st μ g := (hW n 3 ls st μ g).trans rfl
theorem tL_spread_6 (l : Launch) (K : aRs) : tb (tbL_spread l K) 6 = sI2l 7 := (rfl)
theorem wL_spread_6 {l : Launch} {K : aRs} {J : aK} {W : Nat → aK} (hW : isW (tbL_spread l K) cuL_spread J W) (n : Nat) (ls st : List aV) (μ : aM) (g : Nat) : W (n + 1) 6 ls st μ g = J 6 ls st μ g := (hW n 6 ls st μ g).trans rfl
theorem wL_spread_7 {l : Launch} {K : aRs} {J : aK} {W : Nat → aK} (hW : isW (tbL_spread l K) cuL_spread J W) (n : Nat) (ls st : List aV) (μ : aM) (g : Nat) : W (n + 1) 7 ls st μ g = (sAstL 8) (W n) ls st μ g := (hW n 7 ls st μ g).trans rfl
theorem wL_spread_8 {l : Launch} {K : aRs} {J : aK} {W : Nat → aK} (hW : isW (tbL_spread l K) cuL_spread J W) (n : Nat) (ls st : List aV) (μ : aM) (g : Nat) : W (n + 1) 8 ls st μ g = (sGoto 14) (W n) ls st μ g := (hW n 8 ls st μ g).trans rfl
theorem wL_spread_11 {l : Launch} {K : aRs} {J : aK} {W : Nat → aK} (hW : isW (tbL_spread l K) cuL_spread J W) (n : Nat) (ls st : List aV) (μ : aM) (g : Nat) : W (n + 1) 11 ls st μ g = (sSt 2 12 isR) (W n) ls st μ g := (hW n 11 ls st μ g).trans rfl
theorem tL_spread_12 (l : Launch) (K : aRs) : tb (tbL_spread l K) 12 = sPush (aI 1) 13 := (rfl)
theorem wL_spread_12 {l : Launch} {K : aRs} {J : aK} {W : Nat → aK} (hW : isW (tbL_spread l K) cuL_spread J W) (n : Nat) (ls st : List aV) (μ : aM) (g : Nat) : W (n + 1) 12 ls st μ g = J 12 ls st μ g := (hW n 12 ls st μ g).trans rfl
theorem wL_spread_13 {l : Launch} {K : aRs} {J : aK} {W : Nat → aK} (hW : isW (tbL_spread l K) cuL_spread J W) (n : Nat) (ls st : List aV) (μ : aM) (g : Nat) : W (n + 1) 13 ls st μ g = (sRetI .int 1 K) (W n) ls st μ g := (hW n 13 ls st μ g).trans rfl
theorem wL_spread_14 {l : Launch} {K : aRs} {J : aK} {W : Nat → aK} (hW : isW (tbL_spread l K) cuL_spread J W) (n : Nat) (ls st : List aV) (μ : aM) (g : Nat) : W (n + 1) 14 ls st μ g = (sPush (aI 0) 15) (W n) ls st μ g := (hW n 14 ls st μ g).trans rfl
theorem wL_spread_15 {l : Launch} {K : aRs} {J : aK} {W : Nat → aK} (hW : isW (tbL_spread l K) cuL_spread J W) (n : Nat) (ls st : List aV) (μ : aM) (g : Nat) : W (n + 1) 15 ls st μ g = (sRetI .int 1 K) (W n) ls st μ g := (hW n 15 ls st μ g).trans rfl
theorem dL_auctionPrice_0 : decode cL_auctionPrice 0 = .ok (.aload_n 1, 1) := by decide +kernel
theorem dL_auctionPrice_1 : decode cL_auctionPrice 1 = .ok (.iconst 0, 1) := by decide +kernel
theorem dL_auctionPrice_2 : decode cL_auctionPrice 2 = .ok (.aload_n 0, 1) := by decide +kernel
theorem dL_auctionPrice_3 : decode cL_auctionPrice 3 = .ok (.invokevirtual 84, 3) := by decide +kernel
theorem dL_auctionPrice_6 : decode cL_auctionPrice 6 = .ok (.i2l, 1) := by decide +kernel
theorem dL_auctionPrice_7 : decode cL_auctionPrice 7 = .ok (.lastore, 1) := by decide +kernel
theorem dL_auctionPrice_8 : decode cL_auctionPrice 8 = .ok (.goto 6, 3) := by decide +kernel
theorem dL_auctionPrice_11 : decode cL_auctionPrice 11 = .ok (.astore_n 2, 1) := by decide +kernel
theorem dL_auctionPrice_12 : decode cL_auctionPrice 12 = .ok (.iconst 1, 1) := by decide +kernel
theorem dL_auctionPrice_13 : decode cL_auctionPrice 13 = .ok (.ireturn, 1) := by decide +kernel
theorem dL_auctionPrice_14 : decode cL_auctionPrice 14 = .ok (.iconst 0, 1) := by decide +kernel
theorem dL_auctionPrice_15 : decode cL_auctionPrice 15 = .ok (.ireturn, 1) := by decide +kernel
abbrev mdL_auctionPrice : aMd := (yL_auctionPrice, cL_auctionPrice, 3, (some FieldType.int), 7, 1)
abbrev hhL_auctionPrice : List (Nat × Nat × Nat × Nat) := [(0, 8, 11, 24)]
theorem siL_auctionPrice : aSiteH mdL_auctionPrice hhL_auctionPrice 2 := ⟨⟨niRL, bg 700 (by decide +kernel) rfl⟩, by decide +kernel, by decide +kernel, by decide +kernel⟩
theorem stL_auctionPrice : Cond.static yL_auctionPrice ∈ bgL := bg 699 (by decide +kernel) rfl
theorem rwL_auctionPrice : ∀ h ∈ ([(3, 12)] : List (Nat × Nat)), hRow (tableOf hhL_auctionPrice) RL cL_auctionPrice 3 3 h.1 h.2 := List.forall_mem_cons.mpr ⟨⟨[], ⟨0, 8, 11, 24⟩, [], rfl, (fun z hz => nomatch hz), by decide, by decide, ckRL_24, Or.inr ⟨2, by decide, dL_auctionPrice_11, rfl⟩⟩, (fun z hz => nomatch hz)⟩
def tbL_auctionPrice (l : Launch) (K : aRs) : aTb := [
  (0, sLd 1 1 isR),
  (1, sPush (aI 0) 2),
  (2, sLd 0 3 isR),
  (3, sCallVH 0 4 (fun as μ K X => Ct l mdX4_auctionPrice as μ K X) 6 1 1 3 [(3, 12)]),
  (6, sI2l 7),
  (7, sAstL 8),
  (8, sGoto 14),
  (11, sSt 2 12 isR),
  (12, sPush (aI 1) 13),
  (13, sRetI .int 1 K),
  (14, sPush (aI 0) 15),
  (15, sRetI .int 1 K)]
theorem snL_auctionPrice (l : Launch) (K : aRs) (n0 : Nat) : ∀ q ∈ tbL_auctionPrice l K, Snd (BdH l mdL_auctionPrice hhL_auctionPrice K n0) q.1 q.2 :=
  tcG (sH (fun p e s m args below meth c cA D A ad0 h => ok_aload_n h.1 1 rfl dL_auctionPrice_0)) <|
  tcG (sH (fun p e s m args below meth c cA D A ad0 h => ok_iconst h.1 ⟨by decide, by decide⟩ dL_auctionPrice_1)) <|
  tcG (sH (fun p e s m args below meth c cA D A ad0 h => ok_aload_n h.1 0 rfl dL_auctionPrice_2)) <|
  tcG (sH (fun p e s m args below meth c cA D A ad0 h => ok_callVH h.1 h.2.1 ⟨Nat.le_refl _, Nat.le_refl _⟩ mdX4_auctionPrice siX4_auctionPrice cxX4 mkRL_84 imX4_auctionPrice seX4_auctionPrice ⟨by decide, by decide⟩ (by rw [h.2.2.1]; exact rwL_auctionPrice) dL_auctionPrice_3)) <|
  tcG (sH (fun p e s m args below meth c cA D A ad0 h => ok_i2l h.1 dL_auctionPrice_6)) <|
  tcG (sH (fun p e s m args below meth c cA D A ad0 h => ok_last h.1 dL_auctionPrice_7)) <|
  tcG (sH (fun p e s m args below meth c cA D A ad0 h => ok_goto h.1 14 (by decide) dL_auctionPrice_8)) <|
  tcG (sH (fun p e s m args below meth c cA D A ad0 h => ok_astore_n h.1 2 rfl (by decide) dL_auctionPrice_11)) <|
  tcG (sH (fun p e s m args below meth c cA D A ad0 h => ok_iconst h.1 ⟨by decide, by decide⟩ dL_auctionPrice_12)) <|
  tcG (sH (fun p e s m args below meth c cA D A ad0 h => ok_ireturn h.1 h.2.2.2.1 (Or.inl rfl) dL_auctionPrice_13)) <|
  tcG (sH (fun p e s m args below meth c cA D A ad0 h => ok_iconst h.1 ⟨by decide, by decide⟩ dL_auctionPrice_14)) <|
  tcG (sH (fun p e s m args below meth c cA D A ad0 h => ok_ireturn h.1 h.2.2.2.1 (Or.inl rfl) dL_auctionPrice_15)) <|
  tnG
abbrev cuL_auctionPrice : List Nat := [6, 12]
theorem tL_auctionPrice_0 (l : Launch) (K : aRs) : tb (tbL_auctionPrice l K) 0 = sLd 1 1 isR := (rfl)
theorem wL_auctionPrice_0 {l : Launch} {K : aRs} {J : aK} {W : Nat → aK} (hW : isW (tbL_auctionPrice l K) cuL_auctionPrice J W) (n : Nat) (ls st : List aV) (μ : aM) (g : Nat) : W (n + 1) 0 ls st μ g = (sLd 1 1 isR) (W n) ls st μ g := (hW n 0 ls st μ g).trans rfl
theorem wL_auctionPrice_1 {l : Launch} {K : aRs} {J : aK} {W : Nat → aK} (hW : isW (tbL_auctionPrice l K) cuL_auctionPrice J W) (n : Nat) (ls st : List aV) (μ : aM) (g : Nat) : W (n + 1) 1 ls st μ g = (sPush (aI 0) 2) (W n) ls st μ g := (hW n 1 ls st μ g).trans rfl
theorem wL_auctionPrice_2 {l : Launch} {K : aRs} {J : aK} {W : Nat → aK} (hW : isW (tbL_auctionPrice l K) cuL_auctionPrice J W) (n : Nat) (ls st : List aV) (μ : aM) (g : Nat) : W (n + 1) 2 ls st μ g = (sLd 0 3 isR) (W n) ls st μ g := (hW n 2 ls st μ g).trans rfl
theorem wL_auctionPrice_3 {l : Launch} {K : aRs} {J : aK} {W : Nat → aK} (hW : isW (tbL_auctionPrice l K) cuL_auctionPrice J W) (n : Nat) (ls st : List aV) (μ : aM) (g : Nat) : W (n + 1) 3 ls st μ g = (sCallVH 0 4 (fun as μ K X => Ct l mdX4_auctionPrice as μ K X) 6 1 1 3 [(3, 12)]) (W n) ls st μ g := (hW n 3 ls st μ g).trans rfl
theorem tL_auctionPrice_6 (l : Launch) (K : aRs) : tb (tbL_auctionPrice l K) 6 = sI2l 7 := (rfl)
theorem wL_auctionPrice_6 {l : Launch} {K : aRs} {J : aK} {W : Nat → aK} (hW : isW (tbL_auctionPrice l K) cuL_auctionPrice J W) (n : Nat) (ls st : List aV) (μ : aM) (g : Nat) : W (n + 1) 6 ls st μ g = J 6 ls st μ g := (hW n 6 ls st μ g).trans rfl
theorem wL_auctionPrice_7 {l : Launch} {K : aRs} {J : aK} {W : Nat → aK} (hW : isW (tbL_auctionPrice l K) cuL_auctionPrice J W) (n : Nat) (ls st : List aV) (μ : aM) (g : Nat) : W (n + 1) 7 ls st μ g = (sAstL 8) (W n) ls st μ g := (hW n 7 ls st μ g).trans rfl
theorem wL_auctionPrice_8 {l : Launch} {K : aRs} {J : aK} {W : Nat → aK} (hW : isW (tbL_auctionPrice l K) cuL_auctionPrice J W) (n : Nat) (ls st : List aV) (μ : aM) (g : Nat) : W (n + 1) 8 ls st μ g = (sGoto 14) (W n) ls st μ g := (hW n 8 ls st μ g).trans rfl
theorem wL_auctionPrice_11 {l : Launch} {K : aRs} {J : aK} {W : Nat → aK} (hW : isW (tbL_auctionPrice l K) cuL_auctionPrice J W) (n : Nat) (ls st : List aV) (μ : aM) (g : Nat) : W (n + 1) 11 ls st μ g = (sSt 2 12 isR) (W n) ls st μ g := (hW n 11 ls st μ g).trans rfl
theorem tL_auctionPrice_12 (l : Launch) (K : aRs) : tb (tbL_auctionPrice l K) 12 = sPush (aI 1) 13 := (rfl)
theorem wL_auctionPrice_12 {l : Launch} {K : aRs} {J : aK} {W : Nat → aK} (hW : isW (tbL_auctionPrice l K) cuL_auctionPrice J W) (n : Nat) (ls st : List aV) (μ : aM) (g : Nat) : W (n + 1) 12 ls st μ g = J 12 ls st μ g := (hW n 12 ls st μ g).trans rfl
theorem wL_auctionPrice_13 {l : Launch} {K : aRs} {J : aK} {W : Nat → aK} (hW : isW (tbL_auctionPrice l K) cuL_auctionPrice J W) (n : Nat) (ls st : List aV) (μ : aM) (g : Nat) : W (n + 1) 13 ls st μ g = (sRetI .int 1 K) (W n) ls st μ g := (hW n 13 ls st μ g).trans rfl
theorem wL_auctionPrice_14 {l : Launch} {K : aRs} {J : aK} {W : Nat → aK} (hW : isW (tbL_auctionPrice l K) cuL_auctionPrice J W) (n : Nat) (ls st : List aV) (μ : aM) (g : Nat) : W (n + 1) 14 ls st μ g = (sPush (aI 0) 15) (W n) ls st μ g := (hW n 14 ls st μ g).trans rfl
theorem wL_auctionPrice_15 {l : Launch} {K : aRs} {J : aK} {W : Nat → aK} (hW : isW (tbL_auctionPrice l K) cuL_auctionPrice J W) (n : Nat) (ls st : List aV) (μ : aM) (g : Nat) : W (n + 1) 15 ls st μ g = (sRetI .int 1 K) (W n) ls st μ g := (hW n 15 ls st μ g).trans rfl
theorem dL_auctionPriceByTrying_0 : decode cL_auctionPriceByTrying 0 = .ok (.aload_n 1, 1) := by decide +kernel
theorem dL_auctionPriceByTrying_1 : decode cL_auctionPriceByTrying 1 = .ok (.iconst 0, 1) := by decide +kernel
theorem dL_auctionPriceByTrying_2 : decode cL_auctionPriceByTrying 2 = .ok (.aload_n 0, 1) := by decide +kernel
theorem dL_auctionPriceByTrying_3 : decode cL_auctionPriceByTrying 3 = .ok (.invokevirtual 87, 3) := by decide +kernel
theorem dL_auctionPriceByTrying_6 : decode cL_auctionPriceByTrying 6 = .ok (.i2l, 1) := by decide +kernel
theorem dL_auctionPriceByTrying_7 : decode cL_auctionPriceByTrying 7 = .ok (.lastore, 1) := by decide +kernel
theorem dL_auctionPriceByTrying_8 : decode cL_auctionPriceByTrying 8 = .ok (.goto 6, 3) := by decide +kernel
theorem dL_auctionPriceByTrying_11 : decode cL_auctionPriceByTrying 11 = .ok (.astore_n 2, 1) := by decide +kernel
theorem dL_auctionPriceByTrying_12 : decode cL_auctionPriceByTrying 12 = .ok (.iconst 1, 1) := by decide +kernel
theorem dL_auctionPriceByTrying_13 : decode cL_auctionPriceByTrying 13 = .ok (.ireturn, 1) := by decide +kernel
theorem dL_auctionPriceByTrying_14 : decode cL_auctionPriceByTrying 14 = .ok (.iconst 0, 1) := by decide +kernel
theorem dL_auctionPriceByTrying_15 : decode cL_auctionPriceByTrying 15 = .ok (.ireturn, 1) := by decide +kernel
abbrev mdL_auctionPriceByTrying : aMd := (yL_auctionPriceByTrying, cL_auctionPriceByTrying, 3, (some FieldType.int), 7, 1)
abbrev hhL_auctionPriceByTrying : List (Nat × Nat × Nat × Nat) := [(0, 8, 11, 24)]
theorem siL_auctionPriceByTrying : aSiteH mdL_auctionPriceByTrying hhL_auctionPriceByTrying 2 := ⟨⟨niRL, bg 707 (by decide +kernel) rfl⟩, by decide +kernel, by decide +kernel, by decide +kernel⟩
theorem stL_auctionPriceByTrying : Cond.static yL_auctionPriceByTrying ∈ bgL := bg 706 (by decide +kernel) rfl
theorem rwL_auctionPriceByTrying : ∀ h ∈ ([(3, 12)] : List (Nat × Nat)), hRow (tableOf hhL_auctionPriceByTrying) RL cL_auctionPriceByTrying 3 3 h.1 h.2 := List.forall_mem_cons.mpr ⟨⟨[], ⟨0, 8, 11, 24⟩, [], rfl, (fun z hz => nomatch hz), by decide, by decide, ckRL_24, Or.inr ⟨2, by decide, dL_auctionPriceByTrying_11, rfl⟩⟩, (fun z hz => nomatch hz)⟩
def tbL_auctionPriceByTrying (l : Launch) (K : aRs) : aTb := [
  (0, sLd 1 1 isR),
  (1, sPush (aI 0) 2),
  (2, sLd 0 3 isR),
  (3, sCallVH 0 4 (fun as μ K X => Ct l mdX4_auctionPriceByTrying as μ K X) 6 1 1 3 [(3, 12)]),
  (6, sI2l 7),
  (7, sAstL 8),
  (8, sGoto 14),
  (11, sSt 2 12 isR),
  (12, sPush (aI 1) 13),
  (13, sRetI .int 1 K),
  (14, sPush (aI 0) 15),
  (15, sRetI .int 1 K)]
theorem snL_auctionPriceByTrying (l : Launch) (K : aRs) (n0 : Nat) : ∀ q ∈ tbL_auctionPriceByTrying l K, Snd (BdH l mdL_auctionPriceByTrying hhL_auctionPriceByTrying K n0) q.1 q.2 :=
  tcG (sH (fun p e s m args below meth c cA D A ad0 h => ok_aload_n h.1 1 rfl dL_auctionPriceByTrying_0)) <|
  tcG (sH (fun p e s m args below meth c cA D A ad0 h => ok_iconst h.1 ⟨by decide, by decide⟩ dL_auctionPriceByTrying_1)) <|
  tcG (sH (fun p e s m args below meth c cA D A ad0 h => ok_aload_n h.1 0 rfl dL_auctionPriceByTrying_2)) <|
  tcG (sH (fun p e s m args below meth c cA D A ad0 h => ok_callVH h.1 h.2.1 ⟨Nat.le_refl _, Nat.le_refl _⟩ mdX4_auctionPriceByTrying siX4_auctionPriceByTrying cxX4 mkRL_87 imX4_auctionPriceByTrying seX4_auctionPriceByTrying ⟨by decide, by decide⟩ (by rw [h.2.2.1]; exact rwL_auctionPriceByTrying) dL_auctionPriceByTrying_3)) <|
  tcG (sH (fun p e s m args below meth c cA D A ad0 h => ok_i2l h.1 dL_auctionPriceByTrying_6)) <|
  tcG (sH (fun p e s m args below meth c cA D A ad0 h => ok_last h.1 dL_auctionPriceByTrying_7)) <|
  tcG (sH (fun p e s m args below meth c cA D A ad0 h => ok_goto h.1 14 (by decide) dL_auctionPriceByTrying_8)) <|
  tcG (sH (fun p e s m args below meth c cA D A ad0 h => ok_astore_n h.1 2 rfl (by decide) dL_auctionPriceByTrying_11)) <|
  tcG (sH (fun p e s m args below meth c cA D A ad0 h => ok_iconst h.1 ⟨by decide, by decide⟩ dL_auctionPriceByTrying_12)) <|
  tcG (sH (fun p e s m args below meth c cA D A ad0 h => ok_ireturn h.1 h.2.2.2.1 (Or.inl rfl) dL_auctionPriceByTrying_13)) <|
  tcG (sH (fun p e s m args below meth c cA D A ad0 h => ok_iconst h.1 ⟨by decide, by decide⟩ dL_auctionPriceByTrying_14)) <|
  tcG (sH (fun p e s m args below meth c cA D A ad0 h => ok_ireturn h.1 h.2.2.2.1 (Or.inl rfl) dL_auctionPriceByTrying_15)) <|
  tnG
abbrev cuL_auctionPriceByTrying : List Nat := [6, 12]
theorem tL_auctionPriceByTrying_0 (l : Launch) (K : aRs) : tb (tbL_auctionPriceByTrying l K) 0 = sLd 1 1 isR := (rfl)
theorem wL_auctionPriceByTrying_0 {l : Launch} {K : aRs} {J : aK} {W : Nat → aK} (hW : isW (tbL_auctionPriceByTrying l K) cuL_auctionPriceByTrying J W) (n : Nat) (ls st : List aV) (μ : aM) (g : Nat) : W (n + 1) 0 ls st μ g = (sLd 1 1 isR) (W n) ls st μ g := (hW n 0 ls st μ g).trans rfl
theorem wL_auctionPriceByTrying_1 {l : Launch} {K : aRs} {J : aK} {W : Nat → aK} (hW : isW (tbL_auctionPriceByTrying l K) cuL_auctionPriceByTrying J W) (n : Nat) (ls st : List aV) (μ : aM) (g : Nat) : W (n + 1) 1 ls st μ g = (sPush (aI 0) 2) (W n) ls st μ g := (hW n 1 ls st μ g).trans rfl
theorem wL_auctionPriceByTrying_2 {l : Launch} {K : aRs} {J : aK} {W : Nat → aK} (hW : isW (tbL_auctionPriceByTrying l K) cuL_auctionPriceByTrying J W) (n : Nat) (ls st : List aV) (μ : aM) (g : Nat) : W (n + 1) 2 ls st μ g = (sLd 0 3 isR) (W n) ls st μ g := (hW n 2 ls st μ g).trans rfl
theorem wL_auctionPriceByTrying_3 {l : Launch} {K : aRs} {J : aK} {W : Nat → aK} (hW : isW (tbL_auctionPriceByTrying l K) cuL_auctionPriceByTrying J W) (n : Nat) (ls st : List aV) (μ : aM) (g : Nat) : W (n + 1) 3 ls st μ g = (sCallVH 0 4 (fun as μ K X => Ct l mdX4_auctionPriceByTrying as μ K X) 6 1 1 3 [(3, 12)]) (W n) ls st μ g := (hW n 3 ls st μ g).trans rfl
theorem tL_auctionPriceByTrying_6 (l : Launch) (K : aRs) : tb (tbL_auctionPriceByTrying l K) 6 = sI2l 7 := (rfl)
theorem wL_auctionPriceByTrying_6 {l : Launch} {K : aRs} {J : aK} {W : Nat → aK} (hW : isW (tbL_auctionPriceByTrying l K) cuL_auctionPriceByTrying J W) (n : Nat) (ls st : List aV) (μ : aM) (g : Nat) : W (n + 1) 6 ls st μ g = J 6 ls st μ g := (hW n 6 ls st μ g).trans rfl
theorem wL_auctionPriceByTrying_7 {l : Launch} {K : aRs} {J : aK} {W : Nat → aK} (hW : isW (tbL_auctionPriceByTrying l K) cuL_auctionPriceByTrying J W) (n : Nat) (ls st : List aV) (μ : aM) (g : Nat) : W (n + 1) 7 ls st μ g = (sAstL 8) (W n) ls st μ g := (hW n 7 ls st μ g).trans rfl
theorem wL_auctionPriceByTrying_8 {l : Launch} {K : aRs} {J : aK} {W : Nat → aK} (hW : isW (tbL_auctionPriceByTrying l K) cuL_auctionPriceByTrying J W) (n : Nat) (ls st : List aV) (μ : aM) (g : Nat) : W (n + 1) 8 ls st μ g = (sGoto 14) (W n) ls st μ g := (hW n 8 ls st μ g).trans rfl
theorem wL_auctionPriceByTrying_11 {l : Launch} {K : aRs} {J : aK} {W : Nat → aK} (hW : isW (tbL_auctionPriceByTrying l K) cuL_auctionPriceByTrying J W) (n : Nat) (ls st : List aV) (μ : aM) (g : Nat) : W (n + 1) 11 ls st μ g = (sSt 2 12 isR) (W n) ls st μ g := (hW n 11 ls st μ g).trans rfl
theorem tL_auctionPriceByTrying_12 (l : Launch) (K : aRs) : tb (tbL_auctionPriceByTrying l K) 12 = sPush (aI 1) 13 := (rfl)
theorem wL_auctionPriceByTrying_12 {l : Launch} {K : aRs} {J : aK} {W : Nat → aK} (hW : isW (tbL_auctionPriceByTrying l K) cuL_auctionPriceByTrying J W) (n : Nat) (ls st : List aV) (μ : aM) (g : Nat) : W (n + 1) 12 ls st μ g = J 12 ls st μ g := (hW n 12 ls st μ g).trans rfl
theorem wL_auctionPriceByTrying_13 {l : Launch} {K : aRs} {J : aK} {W : Nat → aK} (hW : isW (tbL_auctionPriceByTrying l K) cuL_auctionPriceByTrying J W) (n : Nat) (ls st : List aV) (μ : aM) (g : Nat) : W (n + 1) 13 ls st μ g = (sRetI .int 1 K) (W n) ls st μ g := (hW n 13 ls st μ g).trans rfl
theorem wL_auctionPriceByTrying_14 {l : Launch} {K : aRs} {J : aK} {W : Nat → aK} (hW : isW (tbL_auctionPriceByTrying l K) cuL_auctionPriceByTrying J W) (n : Nat) (ls st : List aV) (μ : aM) (g : Nat) : W (n + 1) 14 ls st μ g = (sPush (aI 0) 15) (W n) ls st μ g := (hW n 14 ls st μ g).trans rfl
theorem wL_auctionPriceByTrying_15 {l : Launch} {K : aRs} {J : aK} {W : Nat → aK} (hW : isW (tbL_auctionPriceByTrying l K) cuL_auctionPriceByTrying J W) (n : Nat) (ls st : List aV) (μ : aM) (g : Nat) : W (n + 1) 15 ls st μ g = (sRetI .int 1 K) (W n) ls st μ g := (hW n 15 ls st μ g).trans rfl
theorem dL_volumeAt_0 : decode cL_volumeAt 0 = .ok (.aload_n 2, 1) := by decide +kernel
theorem dL_volumeAt_1 : decode cL_volumeAt 1 = .ok (.iconst 0, 1) := by decide +kernel
theorem dL_volumeAt_2 : decode cL_volumeAt 2 = .ok (.aload_n 0, 1) := by decide +kernel
theorem dL_volumeAt_3 : decode cL_volumeAt 3 = .ok (.iload_n 1, 1) := by decide +kernel
theorem dL_volumeAt_4 : decode cL_volumeAt 4 = .ok (.invokevirtual 90, 3) := by decide +kernel
theorem dL_volumeAt_7 : decode cL_volumeAt 7 = .ok (.i2l, 1) := by decide +kernel
theorem dL_volumeAt_8 : decode cL_volumeAt 8 = .ok (.lastore, 1) := by decide +kernel
theorem dL_volumeAt_9 : decode cL_volumeAt 9 = .ok (.goto 6, 3) := by decide +kernel
theorem dL_volumeAt_12 : decode cL_volumeAt 12 = .ok (.astore_n 3, 1) := by decide +kernel
theorem dL_volumeAt_13 : decode cL_volumeAt 13 = .ok (.iconst 1, 1) := by decide +kernel
theorem dL_volumeAt_14 : decode cL_volumeAt 14 = .ok (.ireturn, 1) := by decide +kernel
theorem dL_volumeAt_15 : decode cL_volumeAt 15 = .ok (.iconst 0, 1) := by decide +kernel
theorem dL_volumeAt_16 : decode cL_volumeAt 16 = .ok (.ireturn, 1) := by decide +kernel
abbrev mdL_volumeAt : aMd := (yL_volumeAt, cL_volumeAt, 4, (some FieldType.int), 7, 1)
abbrev hhL_volumeAt : List (Nat × Nat × Nat × Nat) := [(0, 9, 12, 13)]
theorem siL_volumeAt : aSiteH mdL_volumeAt hhL_volumeAt 3 := ⟨⟨niRL, bg 714 (by decide +kernel) rfl⟩, by decide +kernel, by decide +kernel, by decide +kernel⟩
theorem stL_volumeAt : Cond.static yL_volumeAt ∈ bgL := bg 713 (by decide +kernel) rfl
theorem rwL_volumeAt : ∀ h ∈ ([(1, 13)] : List (Nat × Nat)), hRow (tableOf hhL_volumeAt) RL cL_volumeAt 4 4 h.1 h.2 := List.forall_mem_cons.mpr ⟨⟨[], ⟨0, 9, 12, 13⟩, [], rfl, (fun z hz => nomatch hz), by decide, by decide, ckRL_13, Or.inr ⟨3, by decide, dL_volumeAt_12, rfl⟩⟩, (fun z hz => nomatch hz)⟩
def tbL_volumeAt (l : Launch) (K : aRs) : aTb := [
  (0, sLd 2 1 isR),
  (1, sPush (aI 0) 2),
  (2, sLd 0 3 isR),
  (3, sLd 1 4 isI),
  (4, sCallVH 1 4 (fun as μ K X => Ct l mdX4_volumeAt as μ K X) 7 1 1 4 [(1, 13)]),
  (7, sI2l 8),
  (8, sAstL 9),
  (9, sGoto 15),
  (12, sSt 3 13 isR),
  (13, sPush (aI 1) 14),
  (14, sRetI .int 1 K),
  (15, sPush (aI 0) 16),
  (16, sRetI .int 1 K)]
theorem snL_volumeAt (l : Launch) (K : aRs) (n0 : Nat) : ∀ q ∈ tbL_volumeAt l K, Snd (BdH l mdL_volumeAt hhL_volumeAt K n0) q.1 q.2 :=
  tcG (sH (fun p e s m args below meth c cA D A ad0 h => ok_aload_n h.1 2 rfl dL_volumeAt_0)) <|
  tcG (sH (fun p e s m args below meth c cA D A ad0 h => ok_iconst h.1 ⟨by decide, by decide⟩ dL_volumeAt_1)) <|
  tcG (sH (fun p e s m args below meth c cA D A ad0 h => ok_aload_n h.1 0 rfl dL_volumeAt_2)) <|
  tcG (sH (fun p e s m args below meth c cA D A ad0 h => ok_iload_n h.1 1 rfl dL_volumeAt_3)) <|
  tcG (sH (fun p e s m args below meth c cA D A ad0 h => ok_callVH h.1 h.2.1 ⟨Nat.le_refl _, Nat.le_refl _⟩ mdX4_volumeAt siX4_volumeAt cxX4 mkRL_90 imX4_volumeAt seX4_volumeAt ⟨by decide, by decide⟩ (by rw [h.2.2.1]; exact rwL_volumeAt) dL_volumeAt_4)) <|
  tcG (sH (fun p e s m args below meth c cA D A ad0 h => ok_i2l h.1 dL_volumeAt_7)) <|
  tcG (sH (fun p e s m args below meth c cA D A ad0 h => ok_last h.1 dL_volumeAt_8)) <|
  tcG (sH (fun p e s m args below meth c cA D A ad0 h => ok_goto h.1 15 (by decide) dL_volumeAt_9)) <|
  tcG (sH (fun p e s m args below meth c cA D A ad0 h => ok_astore_n h.1 3 rfl (by decide) dL_volumeAt_12)) <|
  tcG (sH (fun p e s m args below meth c cA D A ad0 h => ok_iconst h.1 ⟨by decide, by decide⟩ dL_volumeAt_13)) <|
  tcG (sH (fun p e s m args below meth c cA D A ad0 h => ok_ireturn h.1 h.2.2.2.1 (Or.inl rfl) dL_volumeAt_14)) <|
  tcG (sH (fun p e s m args below meth c cA D A ad0 h => ok_iconst h.1 ⟨by decide, by decide⟩ dL_volumeAt_15)) <|
  tcG (sH (fun p e s m args below meth c cA D A ad0 h => ok_ireturn h.1 h.2.2.2.1 (Or.inl rfl) dL_volumeAt_16)) <|
  tnG
abbrev cuL_volumeAt : List Nat := [7, 13]
theorem tL_volumeAt_0 (l : Launch) (K : aRs) : tb (tbL_volumeAt l K) 0 = sLd 2 1 isR := (rfl)
theorem wL_volumeAt_0 {l : Launch} {K : aRs} {J : aK} {W : Nat → aK} (hW : isW (tbL_volumeAt l K) cuL_volumeAt J W) (n : Nat) (ls st : List aV) (μ : aM) (g : Nat) : W (n + 1) 0 ls st μ g = (sLd 2 1 isR) (W n) ls st μ g := (hW n 0 ls st μ g).trans rfl
theorem wL_volumeAt_1 {l : Launch} {K : aRs} {J : aK} {W : Nat → aK} (hW : isW (tbL_volumeAt l K) cuL_volumeAt J W) (n : Nat) (ls st : List aV) (μ : aM) (g : Nat) : W (n + 1) 1 ls st μ g = (sPush (aI 0) 2) (W n) ls st μ g := (hW n 1 ls st μ g).trans rfl
theorem wL_volumeAt_2 {l : Launch} {K : aRs} {J : aK} {W : Nat → aK} (hW : isW (tbL_volumeAt l K) cuL_volumeAt J W) (n : Nat) (ls st : List aV) (μ : aM) (g : Nat) : W (n + 1) 2 ls st μ g = (sLd 0 3 isR) (W n) ls st μ g := (hW n 2 ls st μ g).trans rfl
theorem wL_volumeAt_3 {l : Launch} {K : aRs} {J : aK} {W : Nat → aK} (hW : isW (tbL_volumeAt l K) cuL_volumeAt J W) (n : Nat) (ls st : List aV) (μ : aM) (g : Nat) : W (n + 1) 3 ls st μ g = (sLd 1 4 isI) (W n) ls st μ g := (hW n 3 ls st μ g).trans rfl
theorem wL_volumeAt_4 {l : Launch} {K : aRs} {J : aK} {W : Nat → aK} (hW : isW (tbL_volumeAt l K) cuL_volumeAt J W) (n : Nat) (ls st : List aV) (μ : aM) (g : Nat) : W (n + 1) 4 ls st μ g = (sCallVH 1 4 (fun as μ K X => Ct l mdX4_volumeAt as μ K X) 7 1 1 4 [(1, 13)]) (W n) ls st μ g := (hW n 4 ls st μ g).trans rfl
theorem tL_volumeAt_7 (l : Launch) (K : aRs) : tb (tbL_volumeAt l K) 7 = sI2l 8 := (rfl)
theorem wL_volumeAt_7 {l : Launch} {K : aRs} {J : aK} {W : Nat → aK} (hW : isW (tbL_volumeAt l K) cuL_volumeAt J W) (n : Nat) (ls st : List aV) (μ : aM) (g : Nat) : W (n + 1) 7 ls st μ g = J 7 ls st μ g := (hW n 7 ls st μ g).trans rfl
theorem wL_volumeAt_8 {l : Launch} {K : aRs} {J : aK} {W : Nat → aK} (hW : isW (tbL_volumeAt l K) cuL_volumeAt J W) (n : Nat) (ls st : List aV) (μ : aM) (g : Nat) : W (n + 1) 8 ls st μ g = (sAstL 9) (W n) ls st μ g := (hW n 8 ls st μ g).trans rfl
theorem wL_volumeAt_9 {l : Launch} {K : aRs} {J : aK} {W : Nat → aK} (hW : isW (tbL_volumeAt l K) cuL_volumeAt J W) (n : Nat) (ls st : List aV) (μ : aM) (g : Nat) : W (n + 1) 9 ls st μ g = (sGoto 15) (W n) ls st μ g := (hW n 9 ls st μ g).trans rfl
theorem wL_volumeAt_12 {l : Launch} {K : aRs} {J : aK} {W : Nat → aK} (hW : isW (tbL_volumeAt l K) cuL_volumeAt J W) (n : Nat) (ls st : List aV) (μ : aM) (g : Nat) : W (n + 1) 12 ls st μ g = (sSt 3 13 isR) (W n) ls st μ g := (hW n 12 ls st μ g).trans rfl
theorem tL_volumeAt_13 (l : Launch) (K : aRs) : tb (tbL_volumeAt l K) 13 = sPush (aI 1) 14 := (rfl)
theorem wL_volumeAt_13 {l : Launch} {K : aRs} {J : aK} {W : Nat → aK} (hW : isW (tbL_volumeAt l K) cuL_volumeAt J W) (n : Nat) (ls st : List aV) (μ : aM) (g : Nat) : W (n + 1) 13 ls st μ g = J 13 ls st μ g := (hW n 13 ls st μ g).trans rfl
theorem wL_volumeAt_14 {l : Launch} {K : aRs} {J : aK} {W : Nat → aK} (hW : isW (tbL_volumeAt l K) cuL_volumeAt J W) (n : Nat) (ls st : List aV) (μ : aM) (g : Nat) : W (n + 1) 14 ls st μ g = (sRetI .int 1 K) (W n) ls st μ g := (hW n 14 ls st μ g).trans rfl
theorem wL_volumeAt_15 {l : Launch} {K : aRs} {J : aK} {W : Nat → aK} (hW : isW (tbL_volumeAt l K) cuL_volumeAt J W) (n : Nat) (ls st : List aV) (μ : aM) (g : Nat) : W (n + 1) 15 ls st μ g = (sPush (aI 0) 16) (W n) ls st μ g := (hW n 15 ls st μ g).trans rfl
theorem wL_volumeAt_16 {l : Launch} {K : aRs} {J : aK} {W : Nat → aK} (hW : isW (tbL_volumeAt l K) cuL_volumeAt J W) (n : Nat) (ls st : List aV) (μ : aM) (g : Nat) : W (n + 1) 16 ls st μ g = (sRetI .int 1 K) (W n) ls st μ g := (hW n 16 ls st μ g).trans rfl
theorem dL_tradePrice_0 : decode cL_tradePrice 0 = .ok (.aload_n 2, 1) := by decide +kernel
theorem dL_tradePrice_1 : decode cL_tradePrice 1 = .ok (.iconst 0, 1) := by decide +kernel
theorem dL_tradePrice_2 : decode cL_tradePrice 2 = .ok (.aload_n 0, 1) := by decide +kernel
theorem dL_tradePrice_3 : decode cL_tradePrice 3 = .ok (.iload_n 1, 1) := by decide +kernel
theorem dL_tradePrice_4 : decode cL_tradePrice 4 = .ok (.invokevirtual 93, 3) := by decide +kernel
theorem dL_tradePrice_7 : decode cL_tradePrice 7 = .ok (.i2l, 1) := by decide +kernel
theorem dL_tradePrice_8 : decode cL_tradePrice 8 = .ok (.lastore, 1) := by decide +kernel
theorem dL_tradePrice_9 : decode cL_tradePrice 9 = .ok (.goto 6, 3) := by decide +kernel
theorem dL_tradePrice_12 : decode cL_tradePrice 12 = .ok (.astore_n 3, 1) := by decide +kernel
theorem dL_tradePrice_13 : decode cL_tradePrice 13 = .ok (.iconst 1, 1) := by decide +kernel
theorem dL_tradePrice_14 : decode cL_tradePrice 14 = .ok (.ireturn, 1) := by decide +kernel
theorem dL_tradePrice_15 : decode cL_tradePrice 15 = .ok (.iconst 0, 1) := by decide +kernel
theorem dL_tradePrice_16 : decode cL_tradePrice 16 = .ok (.ireturn, 1) := by decide +kernel
abbrev mdL_tradePrice : aMd := (yL_tradePrice, cL_tradePrice, 4, (some FieldType.int), 8, 1)
abbrev hhL_tradePrice : List (Nat × Nat × Nat × Nat) := [(0, 9, 12, 24)]
theorem siL_tradePrice : aSiteH mdL_tradePrice hhL_tradePrice 3 := ⟨⟨niRL, bg 721 (by decide +kernel) rfl⟩, by decide +kernel, by decide +kernel, by decide +kernel⟩
theorem stL_tradePrice : Cond.static yL_tradePrice ∈ bgL := bg 720 (by decide +kernel) rfl
theorem rwL_tradePrice : ∀ h ∈ ([(3, 13)] : List (Nat × Nat)), hRow (tableOf hhL_tradePrice) RL cL_tradePrice 4 4 h.1 h.2 := List.forall_mem_cons.mpr ⟨⟨[], ⟨0, 9, 12, 24⟩, [], rfl, (fun z hz => nomatch hz), by decide, by decide, ckRL_24, Or.inr ⟨3, by decide, dL_tradePrice_12, rfl⟩⟩, (fun z hz => nomatch hz)⟩
def tbL_tradePrice (l : Launch) (K : aRs) : aTb := [
  (0, sLd 2 1 isR),
  (1, sPush (aI 0) 2),
  (2, sLd 0 3 isR),
  (3, sLd 1 4 isI),
  (4, sCallVH 1 4 (fun as μ K X => Ct l mdX4_tradePrice as μ K X) 7 1 1 4 [(3, 13)]),
  (7, sI2l 8),
  (8, sAstL 9),
  (9, sGoto 15),
  (12, sSt 3 13 isR),
  (13, sPush (aI 1) 14),
  (14, sRetI .int 1 K),
  (15, sPush (aI 0) 16),
  (16, sRetI .int 1 K)]
theorem snL_tradePrice (l : Launch) (K : aRs) (n0 : Nat) : ∀ q ∈ tbL_tradePrice l K, Snd (BdH l mdL_tradePrice hhL_tradePrice K n0) q.1 q.2 :=
  tcG (sH (fun p e s m args below meth c cA D A ad0 h => ok_aload_n h.1 2 rfl dL_tradePrice_0)) <|
  tcG (sH (fun p e s m args below meth c cA D A ad0 h => ok_iconst h.1 ⟨by decide, by decide⟩ dL_tradePrice_1)) <|
  tcG (sH (fun p e s m args below meth c cA D A ad0 h => ok_aload_n h.1 0 rfl dL_tradePrice_2)) <|
  tcG (sH (fun p e s m args below meth c cA D A ad0 h => ok_iload_n h.1 1 rfl dL_tradePrice_3)) <|
  tcG (sH (fun p e s m args below meth c cA D A ad0 h => ok_callVH h.1 h.2.1 ⟨Nat.le_refl _, Nat.le_refl _⟩ mdX4_tradePrice siX4_tradePrice cxX4 mkRL_93 imX4_tradePrice seX4_tradePrice ⟨by decide, by decide⟩ (by rw [h.2.2.1]; exact rwL_tradePrice) dL_tradePrice_4)) <|
  tcG (sH (fun p e s m args below meth c cA D A ad0 h => ok_i2l h.1 dL_tradePrice_7)) <|
  tcG (sH (fun p e s m args below meth c cA D A ad0 h => ok_last h.1 dL_tradePrice_8)) <|
  tcG (sH (fun p e s m args below meth c cA D A ad0 h => ok_goto h.1 15 (by decide) dL_tradePrice_9)) <|
  tcG (sH (fun p e s m args below meth c cA D A ad0 h => ok_astore_n h.1 3 rfl (by decide) dL_tradePrice_12)) <|
  tcG (sH (fun p e s m args below meth c cA D A ad0 h => ok_iconst h.1 ⟨by decide, by decide⟩ dL_tradePrice_13)) <|
  tcG (sH (fun p e s m args below meth c cA D A ad0 h => ok_ireturn h.1 h.2.2.2.1 (Or.inl rfl) dL_tradePrice_14)) <|
  tcG (sH (fun p e s m args below meth c cA D A ad0 h => ok_iconst h.1 ⟨by decide, by decide⟩ dL_tradePrice_15)) <|
  tcG (sH (fun p e s m args below meth c cA D A ad0 h => ok_ireturn h.1 h.2.2.2.1 (Or.inl rfl) dL_tradePrice_16)) <|
  tnG
abbrev cuL_tradePrice : List Nat := [7, 13]
theorem tL_tradePrice_0 (l : Launch) (K : aRs) : tb (tbL_tradePrice l K) 0 = sLd 2 1 isR := (rfl)
theorem wL_tradePrice_0 {l : Launch} {K : aRs} {J : aK} {W : Nat → aK} (hW : isW (tbL_tradePrice l K) cuL_tradePrice J W) (n : Nat) (ls st : List aV) (μ : aM) (g : Nat) : W (n + 1) 0 ls st μ g = (sLd 2 1 isR) (W n) ls st μ g := (hW n 0 ls st μ g).trans rfl
theorem wL_tradePrice_1 {l : Launch} {K : aRs} {J : aK} {W : Nat → aK} (hW : isW (tbL_tradePrice l K) cuL_tradePrice J W) (n : Nat) (ls st : List aV) (μ : aM) (g : Nat) : W (n + 1) 1 ls st μ g = (sPush (aI 0) 2) (W n) ls st μ g := (hW n 1 ls st μ g).trans rfl
theorem wL_tradePrice_2 {l : Launch} {K : aRs} {J : aK} {W : Nat → aK} (hW : isW (tbL_tradePrice l K) cuL_tradePrice J W) (n : Nat) (ls st : List aV) (μ : aM) (g : Nat) : W (n + 1) 2 ls st μ g = (sLd 0 3 isR) (W n) ls st μ g := (hW n 2 ls st μ g).trans rfl
theorem wL_tradePrice_3 {l : Launch} {K : aRs} {J : aK} {W : Nat → aK} (hW : isW (tbL_tradePrice l K) cuL_tradePrice J W) (n : Nat) (ls st : List aV) (μ : aM) (g : Nat) : W (n + 1) 3 ls st μ g = (sLd 1 4 isI) (W n) ls st μ g := (hW n 3 ls st μ g).trans rfl
theorem wL_tradePrice_4 {l : Launch} {K : aRs} {J : aK} {W : Nat → aK} (hW : isW (tbL_tradePrice l K) cuL_tradePrice J W) (n : Nat) (ls st : List aV) (μ : aM) (g : Nat) : W (n + 1) 4 ls st μ g = (sCallVH 1 4 (fun as μ K X => Ct l mdX4_tradePrice as μ K X) 7 1 1 4 [(3, 13)]) (W n) ls st μ g := (hW n 4 ls st μ g).trans rfl
theorem tL_tradePrice_7 (l : Launch) (K : aRs) : tb (tbL_tradePrice l K) 7 = sI2l 8 := (rfl)
theorem wL_tradePrice_7 {l : Launch} {K : aRs} {J : aK} {W : Nat → aK} (hW : isW (tbL_tradePrice l K) cuL_tradePrice J W) (n : Nat) (ls st : List aV) (μ : aM) (g : Nat) : W (n + 1) 7 ls st μ g = J 7 ls st μ g := (hW n 7 ls st μ g).trans rfl
theorem wL_tradePrice_8 {l : Launch} {K : aRs} {J : aK} {W : Nat → aK} (hW : isW (tbL_tradePrice l K) cuL_tradePrice J W) (n : Nat) (ls st : List aV) (μ : aM) (g : Nat) : W (n + 1) 8 ls st μ g = (sAstL 9) (W n) ls st μ g := (hW n 8 ls st μ g).trans rfl
theorem wL_tradePrice_9 {l : Launch} {K : aRs} {J : aK} {W : Nat → aK} (hW : isW (tbL_tradePrice l K) cuL_tradePrice J W) (n : Nat) (ls st : List aV) (μ : aM) (g : Nat) : W (n + 1) 9 ls st μ g = (sGoto 15) (W n) ls st μ g := (hW n 9 ls st μ g).trans rfl
theorem wL_tradePrice_12 {l : Launch} {K : aRs} {J : aK} {W : Nat → aK} (hW : isW (tbL_tradePrice l K) cuL_tradePrice J W) (n : Nat) (ls st : List aV) (μ : aM) (g : Nat) : W (n + 1) 12 ls st μ g = (sSt 3 13 isR) (W n) ls st μ g := (hW n 12 ls st μ g).trans rfl
theorem tL_tradePrice_13 (l : Launch) (K : aRs) : tb (tbL_tradePrice l K) 13 = sPush (aI 1) 14 := (rfl)
theorem wL_tradePrice_13 {l : Launch} {K : aRs} {J : aK} {W : Nat → aK} (hW : isW (tbL_tradePrice l K) cuL_tradePrice J W) (n : Nat) (ls st : List aV) (μ : aM) (g : Nat) : W (n + 1) 13 ls st μ g = J 13 ls st μ g := (hW n 13 ls st μ g).trans rfl
theorem wL_tradePrice_14 {l : Launch} {K : aRs} {J : aK} {W : Nat → aK} (hW : isW (tbL_tradePrice l K) cuL_tradePrice J W) (n : Nat) (ls st : List aV) (μ : aM) (g : Nat) : W (n + 1) 14 ls st μ g = (sRetI .int 1 K) (W n) ls st μ g := (hW n 14 ls st μ g).trans rfl
theorem wL_tradePrice_15 {l : Launch} {K : aRs} {J : aK} {W : Nat → aK} (hW : isW (tbL_tradePrice l K) cuL_tradePrice J W) (n : Nat) (ls st : List aV) (μ : aM) (g : Nat) : W (n + 1) 15 ls st μ g = (sPush (aI 0) 16) (W n) ls st μ g := (hW n 15 ls st μ g).trans rfl
theorem wL_tradePrice_16 {l : Launch} {K : aRs} {J : aK} {W : Nat → aK} (hW : isW (tbL_tradePrice l K) cuL_tradePrice J W) (n : Nat) (ls st : List aV) (μ : aM) (g : Nat) : W (n + 1) 16 ls st μ g = (sRetI .int 1 K) (W n) ls st μ g := (hW n 16 ls st μ g).trans rfl
theorem dL_tradeAmount_0 : decode cL_tradeAmount 0 = .ok (.aload_n 2, 1) := by decide +kernel
theorem dL_tradeAmount_1 : decode cL_tradeAmount 1 = .ok (.iconst 0, 1) := by decide +kernel
theorem dL_tradeAmount_2 : decode cL_tradeAmount 2 = .ok (.aload_n 0, 1) := by decide +kernel
theorem dL_tradeAmount_3 : decode cL_tradeAmount 3 = .ok (.iload_n 1, 1) := by decide +kernel
theorem dL_tradeAmount_4 : decode cL_tradeAmount 4 = .ok (.invokevirtual 96, 3) := by decide +kernel
theorem dL_tradeAmount_7 : decode cL_tradeAmount 7 = .ok (.i2l, 1) := by decide +kernel
theorem dL_tradeAmount_8 : decode cL_tradeAmount 8 = .ok (.lastore, 1) := by decide +kernel
theorem dL_tradeAmount_9 : decode cL_tradeAmount 9 = .ok (.goto 6, 3) := by decide +kernel
theorem dL_tradeAmount_12 : decode cL_tradeAmount 12 = .ok (.astore_n 3, 1) := by decide +kernel
theorem dL_tradeAmount_13 : decode cL_tradeAmount 13 = .ok (.iconst 1, 1) := by decide +kernel
theorem dL_tradeAmount_14 : decode cL_tradeAmount 14 = .ok (.ireturn, 1) := by decide +kernel
theorem dL_tradeAmount_15 : decode cL_tradeAmount 15 = .ok (.iconst 0, 1) := by decide +kernel
theorem dL_tradeAmount_16 : decode cL_tradeAmount 16 = .ok (.ireturn, 1) := by decide +kernel
abbrev mdL_tradeAmount : aMd := (yL_tradeAmount, cL_tradeAmount, 4, (some FieldType.int), 8, 1)
abbrev hhL_tradeAmount : List (Nat × Nat × Nat × Nat) := [(0, 9, 12, 24)]
theorem siL_tradeAmount : aSiteH mdL_tradeAmount hhL_tradeAmount 3 := ⟨⟨niRL, bg 736 (by decide +kernel) rfl⟩, by decide +kernel, by decide +kernel, by decide +kernel⟩
theorem stL_tradeAmount : Cond.static yL_tradeAmount ∈ bgL := bg 735 (by decide +kernel) rfl
theorem rwL_tradeAmount : ∀ h ∈ ([(3, 13)] : List (Nat × Nat)), hRow (tableOf hhL_tradeAmount) RL cL_tradeAmount 4 4 h.1 h.2 := List.forall_mem_cons.mpr ⟨⟨[], ⟨0, 9, 12, 24⟩, [], rfl, (fun z hz => nomatch hz), by decide, by decide, ckRL_24, Or.inr ⟨3, by decide, dL_tradeAmount_12, rfl⟩⟩, (fun z hz => nomatch hz)⟩
def tbL_tradeAmount (l : Launch) (K : aRs) : aTb := [
  (0, sLd 2 1 isR),
  (1, sPush (aI 0) 2),
  (2, sLd 0 3 isR),
  (3, sLd 1 4 isI),
  (4, sCallVH 1 4 (fun as μ K X => Ct l mdX4_tradeAmount as μ K X) 7 1 1 4 [(3, 13)]),
  (7, sI2l 8),
  (8, sAstL 9),
  (9, sGoto 15),
  (12, sSt 3 13 isR),
  (13, sPush (aI 1) 14),
  (14, sRetI .int 1 K),
  (15, sPush (aI 0) 16),
  (16, sRetI .int 1 K)]
theorem snL_tradeAmount (l : Launch) (K : aRs) (n0 : Nat) : ∀ q ∈ tbL_tradeAmount l K, Snd (BdH l mdL_tradeAmount hhL_tradeAmount K n0) q.1 q.2 :=
  tcG (sH (fun p e s m args below meth c cA D A ad0 h => ok_aload_n h.1 2 rfl dL_tradeAmount_0)) <|
  tcG (sH (fun p e s m args below meth c cA D A ad0 h => ok_iconst h.1 ⟨by decide, by decide⟩ dL_tradeAmount_1)) <|
  tcG (sH (fun p e s m args below meth c cA D A ad0 h => ok_aload_n h.1 0 rfl dL_tradeAmount_2)) <|
  tcG (sH (fun p e s m args below meth c cA D A ad0 h => ok_iload_n h.1 1 rfl dL_tradeAmount_3)) <|
  tcG (sH (fun p e s m args below meth c cA D A ad0 h => ok_callVH h.1 h.2.1 ⟨Nat.le_refl _, Nat.le_refl _⟩ mdX4_tradeAmount siX4_tradeAmount cxX4 mkRL_96 imX4_tradeAmount seX4_tradeAmount ⟨by decide, by decide⟩ (by rw [h.2.2.1]; exact rwL_tradeAmount) dL_tradeAmount_4)) <|
  tcG (sH (fun p e s m args below meth c cA D A ad0 h => ok_i2l h.1 dL_tradeAmount_7)) <|
  tcG (sH (fun p e s m args below meth c cA D A ad0 h => ok_last h.1 dL_tradeAmount_8)) <|
  tcG (sH (fun p e s m args below meth c cA D A ad0 h => ok_goto h.1 15 (by decide) dL_tradeAmount_9)) <|
  tcG (sH (fun p e s m args below meth c cA D A ad0 h => ok_astore_n h.1 3 rfl (by decide) dL_tradeAmount_12)) <|
  tcG (sH (fun p e s m args below meth c cA D A ad0 h => ok_iconst h.1 ⟨by decide, by decide⟩ dL_tradeAmount_13)) <|
  tcG (sH (fun p e s m args below meth c cA D A ad0 h => ok_ireturn h.1 h.2.2.2.1 (Or.inl rfl) dL_tradeAmount_14)) <|
  tcG (sH (fun p e s m args below meth c cA D A ad0 h => ok_iconst h.1 ⟨by decide, by decide⟩ dL_tradeAmount_15)) <|
  tcG (sH (fun p e s m args below meth c cA D A ad0 h => ok_ireturn h.1 h.2.2.2.1 (Or.inl rfl) dL_tradeAmount_16)) <|
  tnG
abbrev cuL_tradeAmount : List Nat := [7, 13]
theorem tL_tradeAmount_0 (l : Launch) (K : aRs) : tb (tbL_tradeAmount l K) 0 = sLd 2 1 isR := (rfl)
theorem wL_tradeAmount_0 {l : Launch} {K : aRs} {J : aK} {W : Nat → aK} (hW : isW (tbL_tradeAmount l K) cuL_tradeAmount J W) (n : Nat) (ls st : List aV) (μ : aM) (g : Nat) : W (n + 1) 0 ls st μ g = (sLd 2 1 isR) (W n) ls st μ g := (hW n 0 ls st μ g).trans rfl
theorem wL_tradeAmount_1 {l : Launch} {K : aRs} {J : aK} {W : Nat → aK} (hW : isW (tbL_tradeAmount l K) cuL_tradeAmount J W) (n : Nat) (ls st : List aV) (μ : aM) (g : Nat) : W (n + 1) 1 ls st μ g = (sPush (aI 0) 2) (W n) ls st μ g := (hW n 1 ls st μ g).trans rfl
theorem wL_tradeAmount_2 {l : Launch} {K : aRs} {J : aK} {W : Nat → aK} (hW : isW (tbL_tradeAmount l K) cuL_tradeAmount J W) (n : Nat) (ls st : List aV) (μ : aM) (g : Nat) : W (n + 1) 2 ls st μ g = (sLd 0 3 isR) (W n) ls st μ g := (hW n 2 ls st μ g).trans rfl
theorem wL_tradeAmount_3 {l : Launch} {K : aRs} {J : aK} {W : Nat → aK} (hW : isW (tbL_tradeAmount l K) cuL_tradeAmount J W) (n : Nat) (ls st : List aV) (μ : aM) (g : Nat) : W (n + 1) 3 ls st μ g = (sLd 1 4 isI) (W n) ls st μ g := (hW n 3 ls st μ g).trans rfl
theorem wL_tradeAmount_4 {l : Launch} {K : aRs} {J : aK} {W : Nat → aK} (hW : isW (tbL_tradeAmount l K) cuL_tradeAmount J W) (n : Nat) (ls st : List aV) (μ : aM) (g : Nat) : W (n + 1) 4 ls st μ g = (sCallVH 1 4 (fun as μ K X => Ct l mdX4_tradeAmount as μ K X) 7 1 1 4 [(3, 13)]) (W n) ls st μ g := (hW n 4 ls st μ g).trans rfl
theorem tL_tradeAmount_7 (l : Launch) (K : aRs) : tb (tbL_tradeAmount l K) 7 = sI2l 8 := (rfl)
theorem wL_tradeAmount_7 {l : Launch} {K : aRs} {J : aK} {W : Nat → aK} (hW : isW (tbL_tradeAmount l K) cuL_tradeAmount J W) (n : Nat) (ls st : List aV) (μ : aM) (g : Nat) : W (n + 1) 7 ls st μ g = J 7 ls st μ g := (hW n 7 ls st μ g).trans rfl
theorem wL_tradeAmount_8 {l : Launch} {K : aRs} {J : aK} {W : Nat → aK} (hW : isW (tbL_tradeAmount l K) cuL_tradeAmount J W) (n : Nat) (ls st : List aV) (μ : aM) (g : Nat) : W (n + 1) 8 ls st μ g = (sAstL 9) (W n) ls st μ g := (hW n 8 ls st μ g).trans rfl
theorem wL_tradeAmount_9 {l : Launch} {K : aRs} {J : aK} {W : Nat → aK} (hW : isW (tbL_tradeAmount l K) cuL_tradeAmount J W) (n : Nat) (ls st : List aV) (μ : aM) (g : Nat) : W (n + 1) 9 ls st μ g = (sGoto 15) (W n) ls st μ g := (hW n 9 ls st μ g).trans rfl
theorem wL_tradeAmount_12 {l : Launch} {K : aRs} {J : aK} {W : Nat → aK} (hW : isW (tbL_tradeAmount l K) cuL_tradeAmount J W) (n : Nat) (ls st : List aV) (μ : aM) (g : Nat) : W (n + 1) 12 ls st μ g = (sSt 3 13 isR) (W n) ls st μ g := (hW n 12 ls st μ g).trans rfl
theorem tL_tradeAmount_13 (l : Launch) (K : aRs) : tb (tbL_tradeAmount l K) 13 = sPush (aI 1) 14 := (rfl)
theorem wL_tradeAmount_13 {l : Launch} {K : aRs} {J : aK} {W : Nat → aK} (hW : isW (tbL_tradeAmount l K) cuL_tradeAmount J W) (n : Nat) (ls st : List aV) (μ : aM) (g : Nat) : W (n + 1) 13 ls st μ g = J 13 ls st μ g := (hW n 13 ls st μ g).trans rfl
theorem wL_tradeAmount_14 {l : Launch} {K : aRs} {J : aK} {W : Nat → aK} (hW : isW (tbL_tradeAmount l K) cuL_tradeAmount J W) (n : Nat) (ls st : List aV) (μ : aM) (g : Nat) : W (n + 1) 14 ls st μ g = (sRetI .int 1 K) (W n) ls st μ g := (hW n 14 ls st μ g).trans rfl
theorem wL_tradeAmount_15 {l : Launch} {K : aRs} {J : aK} {W : Nat → aK} (hW : isW (tbL_tradeAmount l K) cuL_tradeAmount J W) (n : Nat) (ls st : List aV) (μ : aM) (g : Nat) : W (n + 1) 15 ls st μ g = (sPush (aI 0) 16) (W n) ls st μ g := (hW n 15 ls st μ g).trans rfl
theorem wL_tradeAmount_16 {l : Launch} {K : aRs} {J : aK} {W : Nat → aK} (hW : isW (tbL_tradeAmount l K) cuL_tradeAmount J W) (n : Nat) (ls st : List aV) (μ : aM) (g : Nat) : W (n + 1) 16 ls st μ g = (sRetI .int 1 K) (W n) ls st μ g := (hW n 16 ls st μ g).trans rfl
theorem dL_tradeBuyer_0 : decode cL_tradeBuyer 0 = .ok (.aload_n 2, 1) := by decide +kernel
theorem dL_tradeBuyer_1 : decode cL_tradeBuyer 1 = .ok (.iconst 0, 1) := by decide +kernel
theorem dL_tradeBuyer_2 : decode cL_tradeBuyer 2 = .ok (.aload_n 0, 1) := by decide +kernel
theorem dL_tradeBuyer_3 : decode cL_tradeBuyer 3 = .ok (.iload_n 1, 1) := by decide +kernel
theorem dL_tradeBuyer_4 : decode cL_tradeBuyer 4 = .ok (.invokevirtual 99, 3) := by decide +kernel
theorem dL_tradeBuyer_7 : decode cL_tradeBuyer 7 = .ok (.i2l, 1) := by decide +kernel
theorem dL_tradeBuyer_8 : decode cL_tradeBuyer 8 = .ok (.lastore, 1) := by decide +kernel
theorem dL_tradeBuyer_9 : decode cL_tradeBuyer 9 = .ok (.goto 6, 3) := by decide +kernel
theorem dL_tradeBuyer_12 : decode cL_tradeBuyer 12 = .ok (.astore_n 3, 1) := by decide +kernel
theorem dL_tradeBuyer_13 : decode cL_tradeBuyer 13 = .ok (.iconst 1, 1) := by decide +kernel
theorem dL_tradeBuyer_14 : decode cL_tradeBuyer 14 = .ok (.ireturn, 1) := by decide +kernel
theorem dL_tradeBuyer_15 : decode cL_tradeBuyer 15 = .ok (.iconst 0, 1) := by decide +kernel
theorem dL_tradeBuyer_16 : decode cL_tradeBuyer 16 = .ok (.ireturn, 1) := by decide +kernel
abbrev mdL_tradeBuyer : aMd := (yL_tradeBuyer, cL_tradeBuyer, 4, (some FieldType.int), 8, 1)
abbrev hhL_tradeBuyer : List (Nat × Nat × Nat × Nat) := [(0, 9, 12, 24)]
theorem siL_tradeBuyer : aSiteH mdL_tradeBuyer hhL_tradeBuyer 3 := ⟨⟨niRL, bg 743 (by decide +kernel) rfl⟩, by decide +kernel, by decide +kernel, by decide +kernel⟩
theorem stL_tradeBuyer : Cond.static yL_tradeBuyer ∈ bgL := bg 742 (by decide +kernel) rfl
theorem rwL_tradeBuyer : ∀ h ∈ ([(3, 13)] : List (Nat × Nat)), hRow (tableOf hhL_tradeBuyer) RL cL_tradeBuyer 4 4 h.1 h.2 := List.forall_mem_cons.mpr ⟨⟨[], ⟨0, 9, 12, 24⟩, [], rfl, (fun z hz => nomatch hz), by decide, by decide, ckRL_24, Or.inr ⟨3, by decide, dL_tradeBuyer_12, rfl⟩⟩, (fun z hz => nomatch hz)⟩
def tbL_tradeBuyer (l : Launch) (K : aRs) : aTb := [
  (0, sLd 2 1 isR),
  (1, sPush (aI 0) 2),
  (2, sLd 0 3 isR),
  (3, sLd 1 4 isI),
  (4, sCallVH 1 4 (fun as μ K X => Ct l mdX4_tradeBuyer as μ K X) 7 1 1 4 [(3, 13)]),
  (7, sI2l 8),
  (8, sAstL 9),
  (9, sGoto 15),
  (12, sSt 3 13 isR),
  (13, sPush (aI 1) 14),
  (14, sRetI .int 1 K),
  (15, sPush (aI 0) 16),
  (16, sRetI .int 1 K)]
theorem snL_tradeBuyer (l : Launch) (K : aRs) (n0 : Nat) : ∀ q ∈ tbL_tradeBuyer l K, Snd (BdH l mdL_tradeBuyer hhL_tradeBuyer K n0) q.1 q.2 :=
  tcG (sH (fun p e s m args below meth c cA D A ad0 h => ok_aload_n h.1 2 rfl dL_tradeBuyer_0)) <|
  tcG (sH (fun p e s m args below meth c cA D A ad0 h => ok_iconst h.1 ⟨by decide, by decide⟩ dL_tradeBuyer_1)) <|
  tcG (sH (fun p e s m args below meth c cA D A ad0 h => ok_aload_n h.1 0 rfl dL_tradeBuyer_2)) <|
  tcG (sH (fun p e s m args below meth c cA D A ad0 h => ok_iload_n h.1 1 rfl dL_tradeBuyer_3)) <|
  tcG (sH (fun p e s m args below meth c cA D A ad0 h => ok_callVH h.1 h.2.1 ⟨Nat.le_refl _, Nat.le_refl _⟩ mdX4_tradeBuyer siX4_tradeBuyer cxX4 mkRL_99 imX4_tradeBuyer seX4_tradeBuyer ⟨by decide, by decide⟩ (by rw [h.2.2.1]; exact rwL_tradeBuyer) dL_tradeBuyer_4)) <|
  tcG (sH (fun p e s m args below meth c cA D A ad0 h => ok_i2l h.1 dL_tradeBuyer_7)) <|
  tcG (sH (fun p e s m args below meth c cA D A ad0 h => ok_last h.1 dL_tradeBuyer_8)) <|
  tcG (sH (fun p e s m args below meth c cA D A ad0 h => ok_goto h.1 15 (by decide) dL_tradeBuyer_9)) <|
  tcG (sH (fun p e s m args below meth c cA D A ad0 h => ok_astore_n h.1 3 rfl (by decide) dL_tradeBuyer_12)) <|
  tcG (sH (fun p e s m args below meth c cA D A ad0 h => ok_iconst h.1 ⟨by decide, by decide⟩ dL_tradeBuyer_13)) <|
  tcG (sH (fun p e s m args below meth c cA D A ad0 h => ok_ireturn h.1 h.2.2.2.1 (Or.inl rfl) dL_tradeBuyer_14)) <|
  tcG (sH (fun p e s m args below meth c cA D A ad0 h => ok_iconst h.1 ⟨by decide, by decide⟩ dL_tradeBuyer_15)) <|
  tcG (sH (fun p e s m args below meth c cA D A ad0 h => ok_ireturn h.1 h.2.2.2.1 (Or.inl rfl) dL_tradeBuyer_16)) <|
  tnG
abbrev cuL_tradeBuyer : List Nat := [7, 13]
theorem tL_tradeBuyer_0 (l : Launch) (K : aRs) : tb (tbL_tradeBuyer l K) 0 = sLd 2 1 isR := (rfl)
theorem wL_tradeBuyer_0 {l : Launch} {K : aRs} {J : aK} {W : Nat → aK} (hW : isW (tbL_tradeBuyer l K) cuL_tradeBuyer J W) (n : Nat) (ls st : List aV) (μ : aM) (g : Nat) : W (n + 1) 0 ls st μ g = (sLd 2 1 isR) (W n) ls st μ g := (hW n 0 ls st μ g).trans rfl
theorem wL_tradeBuyer_1 {l : Launch} {K : aRs} {J : aK} {W : Nat → aK} (hW : isW (tbL_tradeBuyer l K) cuL_tradeBuyer J W) (n : Nat) (ls st : List aV) (μ : aM) (g : Nat) : W (n + 1) 1 ls st μ g = (sPush (aI 0) 2) (W n) ls st μ g := (hW n 1 ls st μ g).trans rfl
theorem wL_tradeBuyer_2 {l : Launch} {K : aRs} {J : aK} {W : Nat → aK} (hW : isW (tbL_tradeBuyer l K) cuL_tradeBuyer J W) (n : Nat) (ls st : List aV) (μ : aM) (g : Nat) : W (n + 1) 2 ls st μ g = (sLd 0 3 isR) (W n) ls st μ g := (hW n 2 ls st μ g).trans rfl
theorem wL_tradeBuyer_3 {l : Launch} {K : aRs} {J : aK} {W : Nat → aK} (hW : isW (tbL_tradeBuyer l K) cuL_tradeBuyer J W) (n : Nat) (ls st : List aV) (μ : aM) (g : Nat) : W (n + 1) 3 ls st μ g = (sLd 1 4 isI) (W n) ls st μ g := (hW n 3 ls st μ g).trans rfl
theorem wL_tradeBuyer_4 {l : Launch} {K : aRs} {J : aK} {W : Nat → aK} (hW : isW (tbL_tradeBuyer l K) cuL_tradeBuyer J W) (n : Nat) (ls st : List aV) (μ : aM) (g : Nat) : W (n + 1) 4 ls st μ g = (sCallVH 1 4 (fun as μ K X => Ct l mdX4_tradeBuyer as μ K X) 7 1 1 4 [(3, 13)]) (W n) ls st μ g := (hW n 4 ls st μ g).trans rfl
theorem tL_tradeBuyer_7 (l : Launch) (K : aRs) : tb (tbL_tradeBuyer l K) 7 = sI2l 8 := (rfl)
theorem wL_tradeBuyer_7 {l : Launch} {K : aRs} {J : aK} {W : Nat → aK} (hW : isW (tbL_tradeBuyer l K) cuL_tradeBuyer J W) (n : Nat) (ls st : List aV) (μ : aM) (g : Nat) : W (n + 1) 7 ls st μ g = J 7 ls st μ g := (hW n 7 ls st μ g).trans rfl
theorem wL_tradeBuyer_8 {l : Launch} {K : aRs} {J : aK} {W : Nat → aK} (hW : isW (tbL_tradeBuyer l K) cuL_tradeBuyer J W) (n : Nat) (ls st : List aV) (μ : aM) (g : Nat) : W (n + 1) 8 ls st μ g = (sAstL 9) (W n) ls st μ g := (hW n 8 ls st μ g).trans rfl
theorem wL_tradeBuyer_9 {l : Launch} {K : aRs} {J : aK} {W : Nat → aK} (hW : isW (tbL_tradeBuyer l K) cuL_tradeBuyer J W) (n : Nat) (ls st : List aV) (μ : aM) (g : Nat) : W (n + 1) 9 ls st μ g = (sGoto 15) (W n) ls st μ g := (hW n 9 ls st μ g).trans rfl
theorem wL_tradeBuyer_12 {l : Launch} {K : aRs} {J : aK} {W : Nat → aK} (hW : isW (tbL_tradeBuyer l K) cuL_tradeBuyer J W) (n : Nat) (ls st : List aV) (μ : aM) (g : Nat) : W (n + 1) 12 ls st μ g = (sSt 3 13 isR) (W n) ls st μ g := (hW n 12 ls st μ g).trans rfl
theorem tL_tradeBuyer_13 (l : Launch) (K : aRs) : tb (tbL_tradeBuyer l K) 13 = sPush (aI 1) 14 := (rfl)
theorem wL_tradeBuyer_13 {l : Launch} {K : aRs} {J : aK} {W : Nat → aK} (hW : isW (tbL_tradeBuyer l K) cuL_tradeBuyer J W) (n : Nat) (ls st : List aV) (μ : aM) (g : Nat) : W (n + 1) 13 ls st μ g = J 13 ls st μ g := (hW n 13 ls st μ g).trans rfl
theorem wL_tradeBuyer_14 {l : Launch} {K : aRs} {J : aK} {W : Nat → aK} (hW : isW (tbL_tradeBuyer l K) cuL_tradeBuyer J W) (n : Nat) (ls st : List aV) (μ : aM) (g : Nat) : W (n + 1) 14 ls st μ g = (sRetI .int 1 K) (W n) ls st μ g := (hW n 14 ls st μ g).trans rfl
theorem wL_tradeBuyer_15 {l : Launch} {K : aRs} {J : aK} {W : Nat → aK} (hW : isW (tbL_tradeBuyer l K) cuL_tradeBuyer J W) (n : Nat) (ls st : List aV) (μ : aM) (g : Nat) : W (n + 1) 15 ls st μ g = (sPush (aI 0) 16) (W n) ls st μ g := (hW n 15 ls st μ g).trans rfl
theorem wL_tradeBuyer_16 {l : Launch} {K : aRs} {J : aK} {W : Nat → aK} (hW : isW (tbL_tradeBuyer l K) cuL_tradeBuyer J W) (n : Nat) (ls st : List aV) (μ : aM) (g : Nat) : W (n + 1) 16 ls st μ g = (sRetI .int 1 K) (W n) ls st μ g := (hW n 16 ls st μ g).trans rfl
theorem dL_tradeSeller_0 : decode cL_tradeSeller 0 = .ok (.aload_n 2, 1) := by decide +kernel
theorem dL_tradeSeller_1 : decode cL_tradeSeller 1 = .ok (.iconst 0, 1) := by decide +kernel
theorem dL_tradeSeller_2 : decode cL_tradeSeller 2 = .ok (.aload_n 0, 1) := by decide +kernel
theorem dL_tradeSeller_3 : decode cL_tradeSeller 3 = .ok (.iload_n 1, 1) := by decide +kernel
theorem dL_tradeSeller_4 : decode cL_tradeSeller 4 = .ok (.invokevirtual 102, 3) := by decide +kernel
theorem dL_tradeSeller_7 : decode cL_tradeSeller 7 = .ok (.i2l, 1) := by decide +kernel
theorem dL_tradeSeller_8 : decode cL_tradeSeller 8 = .ok (.lastore, 1) := by decide +kernel
theorem dL_tradeSeller_9 : decode cL_tradeSeller 9 = .ok (.goto 6, 3) := by decide +kernel
theorem dL_tradeSeller_12 : decode cL_tradeSeller 12 = .ok (.astore_n 3, 1) := by decide +kernel
theorem dL_tradeSeller_13 : decode cL_tradeSeller 13 = .ok (.iconst 1, 1) := by decide +kernel
theorem dL_tradeSeller_14 : decode cL_tradeSeller 14 = .ok (.ireturn, 1) := by decide +kernel
theorem dL_tradeSeller_15 : decode cL_tradeSeller 15 = .ok (.iconst 0, 1) := by decide +kernel
theorem dL_tradeSeller_16 : decode cL_tradeSeller 16 = .ok (.ireturn, 1) := by decide +kernel
abbrev mdL_tradeSeller : aMd := (yL_tradeSeller, cL_tradeSeller, 4, (some FieldType.int), 8, 1)
abbrev hhL_tradeSeller : List (Nat × Nat × Nat × Nat) := [(0, 9, 12, 24)]
theorem siL_tradeSeller : aSiteH mdL_tradeSeller hhL_tradeSeller 3 := ⟨⟨niRL, bg 750 (by decide +kernel) rfl⟩, by decide +kernel, by decide +kernel, by decide +kernel⟩
theorem stL_tradeSeller : Cond.static yL_tradeSeller ∈ bgL := bg 749 (by decide +kernel) rfl
theorem rwL_tradeSeller : ∀ h ∈ ([(3, 13)] : List (Nat × Nat)), hRow (tableOf hhL_tradeSeller) RL cL_tradeSeller 4 4 h.1 h.2 := List.forall_mem_cons.mpr ⟨⟨[], ⟨0, 9, 12, 24⟩, [], rfl, (fun z hz => nomatch hz), by decide, by decide, ckRL_24, Or.inr ⟨3, by decide, dL_tradeSeller_12, rfl⟩⟩, (fun z hz => nomatch hz)⟩
def tbL_tradeSeller (l : Launch) (K : aRs) : aTb := [
  (0, sLd 2 1 isR),
  (1, sPush (aI 0) 2),
  (2, sLd 0 3 isR),
  (3, sLd 1 4 isI),
  (4, sCallVH 1 4 (fun as μ K X => Ct l mdX4_tradeSeller as μ K X) 7 1 1 4 [(3, 13)]),
  (7, sI2l 8),
  (8, sAstL 9),
  (9, sGoto 15),
  (12, sSt 3 13 isR),
  (13, sPush (aI 1) 14),
  (14, sRetI .int 1 K),
  (15, sPush (aI 0) 16),
  (16, sRetI .int 1 K)]
theorem snL_tradeSeller (l : Launch) (K : aRs) (n0 : Nat) : ∀ q ∈ tbL_tradeSeller l K, Snd (BdH l mdL_tradeSeller hhL_tradeSeller K n0) q.1 q.2 :=
  tcG (sH (fun p e s m args below meth c cA D A ad0 h => ok_aload_n h.1 2 rfl dL_tradeSeller_0)) <|
  tcG (sH (fun p e s m args below meth c cA D A ad0 h => ok_iconst h.1 ⟨by decide, by decide⟩ dL_tradeSeller_1)) <|
  tcG (sH (fun p e s m args below meth c cA D A ad0 h => ok_aload_n h.1 0 rfl dL_tradeSeller_2)) <|
  tcG (sH (fun p e s m args below meth c cA D A ad0 h => ok_iload_n h.1 1 rfl dL_tradeSeller_3)) <|
  tcG (sH (fun p e s m args below meth c cA D A ad0 h => ok_callVH h.1 h.2.1 ⟨Nat.le_refl _, Nat.le_refl _⟩ mdX4_tradeSeller siX4_tradeSeller cxX4 mkRL_102 imX4_tradeSeller seX4_tradeSeller ⟨by decide, by decide⟩ (by rw [h.2.2.1]; exact rwL_tradeSeller) dL_tradeSeller_4)) <|
  tcG (sH (fun p e s m args below meth c cA D A ad0 h => ok_i2l h.1 dL_tradeSeller_7)) <|
  tcG (sH (fun p e s m args below meth c cA D A ad0 h => ok_last h.1 dL_tradeSeller_8)) <|
  tcG (sH (fun p e s m args below meth c cA D A ad0 h => ok_goto h.1 15 (by decide) dL_tradeSeller_9)) <|
  tcG (sH (fun p e s m args below meth c cA D A ad0 h => ok_astore_n h.1 3 rfl (by decide) dL_tradeSeller_12)) <|
  tcG (sH (fun p e s m args below meth c cA D A ad0 h => ok_iconst h.1 ⟨by decide, by decide⟩ dL_tradeSeller_13)) <|
  tcG (sH (fun p e s m args below meth c cA D A ad0 h => ok_ireturn h.1 h.2.2.2.1 (Or.inl rfl) dL_tradeSeller_14)) <|
  tcG (sH (fun p e s m args below meth c cA D A ad0 h => ok_iconst h.1 ⟨by decide, by decide⟩ dL_tradeSeller_15)) <|
  tcG (sH (fun p e s m args below meth c cA D A ad0 h => ok_ireturn h.1 h.2.2.2.1 (Or.inl rfl) dL_tradeSeller_16)) <|
  tnG
abbrev cuL_tradeSeller : List Nat := [7, 13]
theorem tL_tradeSeller_0 (l : Launch) (K : aRs) : tb (tbL_tradeSeller l K) 0 = sLd 2 1 isR := (rfl)
theorem wL_tradeSeller_0 {l : Launch} {K : aRs} {J : aK} {W : Nat → aK} (hW : isW (tbL_tradeSeller l K) cuL_tradeSeller J W) (n : Nat) (ls st : List aV) (μ : aM) (g : Nat) : W (n + 1) 0 ls st μ g = (sLd 2 1 isR) (W n) ls st μ g := (hW n 0 ls st μ g).trans rfl
theorem wL_tradeSeller_1 {l : Launch} {K : aRs} {J : aK} {W : Nat → aK} (hW : isW (tbL_tradeSeller l K) cuL_tradeSeller J W) (n : Nat) (ls st : List aV) (μ : aM) (g : Nat) : W (n + 1) 1 ls st μ g = (sPush (aI 0) 2) (W n) ls st μ g := (hW n 1 ls st μ g).trans rfl
theorem wL_tradeSeller_2 {l : Launch} {K : aRs} {J : aK} {W : Nat → aK} (hW : isW (tbL_tradeSeller l K) cuL_tradeSeller J W) (n : Nat) (ls st : List aV) (μ : aM) (g : Nat) : W (n + 1) 2 ls st μ g = (sLd 0 3 isR) (W n) ls st μ g := (hW n 2 ls st μ g).trans rfl
theorem wL_tradeSeller_3 {l : Launch} {K : aRs} {J : aK} {W : Nat → aK} (hW : isW (tbL_tradeSeller l K) cuL_tradeSeller J W) (n : Nat) (ls st : List aV) (μ : aM) (g : Nat) : W (n + 1) 3 ls st μ g = (sLd 1 4 isI) (W n) ls st μ g := (hW n 3 ls st μ g).trans rfl
theorem wL_tradeSeller_4 {l : Launch} {K : aRs} {J : aK} {W : Nat → aK} (hW : isW (tbL_tradeSeller l K) cuL_tradeSeller J W) (n : Nat) (ls st : List aV) (μ : aM) (g : Nat) : W (n + 1) 4 ls st μ g = (sCallVH 1 4 (fun as μ K X => Ct l mdX4_tradeSeller as μ K X) 7 1 1 4 [(3, 13)]) (W n) ls st μ g := (hW n 4 ls st μ g).trans rfl
theorem tL_tradeSeller_7 (l : Launch) (K : aRs) : tb (tbL_tradeSeller l K) 7 = sI2l 8 := (rfl)
theorem wL_tradeSeller_7 {l : Launch} {K : aRs} {J : aK} {W : Nat → aK} (hW : isW (tbL_tradeSeller l K) cuL_tradeSeller J W) (n : Nat) (ls st : List aV) (μ : aM) (g : Nat) : W (n + 1) 7 ls st μ g = J 7 ls st μ g := (hW n 7 ls st μ g).trans rfl
theorem wL_tradeSeller_8 {l : Launch} {K : aRs} {J : aK} {W : Nat → aK} (hW : isW (tbL_tradeSeller l K) cuL_tradeSeller J W) (n : Nat) (ls st : List aV) (μ : aM) (g : Nat) : W (n + 1) 8 ls st μ g = (sAstL 9) (W n) ls st μ g := (hW n 8 ls st μ g).trans rfl
theorem wL_tradeSeller_9 {l : Launch} {K : aRs} {J : aK} {W : Nat → aK} (hW : isW (tbL_tradeSeller l K) cuL_tradeSeller J W) (n : Nat) (ls st : List aV) (μ : aM) (g : Nat) : W (n + 1) 9 ls st μ g = (sGoto 15) (W n) ls st μ g := (hW n 9 ls st μ g).trans rfl
theorem wL_tradeSeller_12 {l : Launch} {K : aRs} {J : aK} {W : Nat → aK} (hW : isW (tbL_tradeSeller l K) cuL_tradeSeller J W) (n : Nat) (ls st : List aV) (μ : aM) (g : Nat) : W (n + 1) 12 ls st μ g = (sSt 3 13 isR) (W n) ls st μ g := (hW n 12 ls st μ g).trans rfl
theorem tL_tradeSeller_13 (l : Launch) (K : aRs) : tb (tbL_tradeSeller l K) 13 = sPush (aI 1) 14 := (rfl)
theorem wL_tradeSeller_13 {l : Launch} {K : aRs} {J : aK} {W : Nat → aK} (hW : isW (tbL_tradeSeller l K) cuL_tradeSeller J W) (n : Nat) (ls st : List aV) (μ : aM) (g : Nat) : W (n + 1) 13 ls st μ g = J 13 ls st μ g := (hW n 13 ls st μ g).trans rfl
theorem wL_tradeSeller_14 {l : Launch} {K : aRs} {J : aK} {W : Nat → aK} (hW : isW (tbL_tradeSeller l K) cuL_tradeSeller J W) (n : Nat) (ls st : List aV) (μ : aM) (g : Nat) : W (n + 1) 14 ls st μ g = (sRetI .int 1 K) (W n) ls st μ g := (hW n 14 ls st μ g).trans rfl
theorem wL_tradeSeller_15 {l : Launch} {K : aRs} {J : aK} {W : Nat → aK} (hW : isW (tbL_tradeSeller l K) cuL_tradeSeller J W) (n : Nat) (ls st : List aV) (μ : aM) (g : Nat) : W (n + 1) 15 ls st μ g = (sPush (aI 0) 16) (W n) ls st μ g := (hW n 15 ls st μ g).trans rfl
theorem wL_tradeSeller_16 {l : Launch} {K : aRs} {J : aK} {W : Nat → aK} (hW : isW (tbL_tradeSeller l K) cuL_tradeSeller J W) (n : Nat) (ls st : List aV) (μ : aM) (g : Nat) : W (n + 1) 16 ls st μ g = (sRetI .int 1 K) (W n) ls st μ g := (hW n 16 ls st μ g).trans rfl
theorem dL_meanPrice_0 : decode cL_meanPrice 0 = .ok (.aload_n 1, 1) := by decide +kernel
theorem dL_meanPrice_1 : decode cL_meanPrice 1 = .ok (.iconst 0, 1) := by decide +kernel
theorem dL_meanPrice_2 : decode cL_meanPrice 2 = .ok (.aload_n 0, 1) := by decide +kernel
theorem dL_meanPrice_3 : decode cL_meanPrice 3 = .ok (.invokevirtual 105, 3) := by decide +kernel
theorem dL_meanPrice_6 : decode cL_meanPrice 6 = .ok (.dastore, 1) := by decide +kernel
theorem dL_meanPrice_7 : decode cL_meanPrice 7 = .ok (.goto 6, 3) := by decide +kernel
theorem dL_meanPrice_10 : decode cL_meanPrice 10 = .ok (.astore_n 2, 1) := by decide +kernel
theorem dL_meanPrice_11 : decode cL_meanPrice 11 = .ok (.iconst 1, 1) := by decide +kernel
theorem dL_meanPrice_12 : decode cL_meanPrice 12 = .ok (.ireturn, 1) := by decide +kernel
theorem dL_meanPrice_13 : decode cL_meanPrice 13 = .ok (.iconst 0, 1) := by decide +kernel
theorem dL_meanPrice_14 : decode cL_meanPrice 14 = .ok (.ireturn, 1) := by decide +kernel
abbrev mdL_meanPrice : aMd := (yL_meanPrice, cL_meanPrice, 3, (some FieldType.int), 7, 1)
abbrev hhL_meanPrice : List (Nat × Nat × Nat × Nat) := [(0, 7, 10, 109)]
theorem siL_meanPrice : aSiteH mdL_meanPrice hhL_meanPrice 2 := ⟨⟨niRL, bg 757 (by decide +kernel) rfl⟩, by decide +kernel, by decide +kernel, by decide +kernel⟩
theorem stL_meanPrice : Cond.static yL_meanPrice ∈ bgL := bg 756 (by decide +kernel) rfl
theorem rwL_meanPrice : ∀ h ∈ ([(5, 11)] : List (Nat × Nat)), hRow (tableOf hhL_meanPrice) RL cL_meanPrice 3 3 h.1 h.2 := List.forall_mem_cons.mpr ⟨⟨[], ⟨0, 7, 10, 109⟩, [], rfl, (fun z hz => nomatch hz), by decide, by decide, ckRL_109, Or.inr ⟨2, by decide, dL_meanPrice_10, rfl⟩⟩, (fun z hz => nomatch hz)⟩
def tbL_meanPrice (l : Launch) (K : aRs) : aTb := [
  (0, sLd 1 1 isR),
  (1, sPush (aI 0) 2),
  (2, sLd 0 3 isR),
  (3, sCallVH 0 4 (fun as μ K X => Ct l mdX4_meanPrice as μ K X) 6 1 1 3 [(5, 11)]),
  (6, sAstD 7),
  (7, sGoto 13),
  (10, sSt 2 11 isR),
  (11, sPush (aI 1) 12),
  (12, sRetI .int 1 K),
  (13, sPush (aI 0) 14),
  (14, sRetI .int 1 K)]
theorem snL_meanPrice (l : Launch) (K : aRs) (n0 : Nat) : ∀ q ∈ tbL_meanPrice l K, Snd (BdH l mdL_meanPrice hhL_meanPrice K n0) q.1 q.2 :=
  tcG (sH (fun p e s m args below meth c cA D A ad0 h => ok_aload_n h.1 1 rfl dL_meanPrice_0)) <|
  tcG (sH (fun p e s m args below meth c cA D A ad0 h => ok_iconst h.1 ⟨by decide, by decide⟩ dL_meanPrice_1)) <|
  tcG (sH (fun p e s m args below meth c cA D A ad0 h => ok_aload_n h.1 0 rfl dL_meanPrice_2)) <|
  tcG (sH (fun p e s m args below meth c cA D A ad0 h => ok_callVH h.1 h.2.1 ⟨Nat.le_refl _, Nat.le_refl _⟩ mdX4_meanPrice siX4_meanPrice cxX4 mkRL_105 imX4_meanPrice seX4_meanPrice ⟨by decide, by decide⟩ (by rw [h.2.2.1]; exact rwL_meanPrice) dL_meanPrice_3)) <|
  tcG (sH (fun p e s m args below meth c cA D A ad0 h => ok_dast h.1 dL_meanPrice_6)) <|
  tcG (sH (fun p e s m args below meth c cA D A ad0 h => ok_goto h.1 13 (by decide) dL_meanPrice_7)) <|
  tcG (sH (fun p e s m args below meth c cA D A ad0 h => ok_astore_n h.1 2 rfl (by decide) dL_meanPrice_10)) <|
  tcG (sH (fun p e s m args below meth c cA D A ad0 h => ok_iconst h.1 ⟨by decide, by decide⟩ dL_meanPrice_11)) <|
  tcG (sH (fun p e s m args below meth c cA D A ad0 h => ok_ireturn h.1 h.2.2.2.1 (Or.inl rfl) dL_meanPrice_12)) <|
  tcG (sH (fun p e s m args below meth c cA D A ad0 h => ok_iconst h.1 ⟨by decide, by decide⟩ dL_meanPrice_13)) <|
  tcG (sH (fun p e s m args below meth c cA D A ad0 h => ok_ireturn h.1 h.2.2.2.1 (Or.inl rfl) dL_meanPrice_14)) <|
  tnG
abbrev cuL_meanPrice : List Nat := [6, 11]
theorem tL_meanPrice_0 (l : Launch) (K : aRs) : tb (tbL_meanPrice l K) 0 = sLd 1 1 isR := (rfl)
theorem wL_meanPrice_0 {l : Launch} {K : aRs} {J : aK} {W : Nat → aK} (hW : isW (tbL_meanPrice l K) cuL_meanPrice J W) (n : Nat) (ls st : List aV) (μ : aM) (g : Nat) : W (n + 1) 0 ls st μ g = (sLd 1 1 isR) (W n) ls st μ g := (hW n 0 ls st μ g).trans rfl
theorem wL_meanPrice_1 {l : Launch} {K : aRs} {J : aK} {W : Nat → aK} (hW : isW (tbL_meanPrice l K) cuL_meanPrice J W) (n : Nat) (ls st : List aV) (μ : aM) (g : Nat) : W (n + 1) 1 ls st μ g = (sPush (aI 0) 2) (W n) ls st μ g := (hW n 1 ls st μ g).trans rfl
theorem wL_meanPrice_2 {l : Launch} {K : aRs} {J : aK} {W : Nat → aK} (hW : isW (tbL_meanPrice l K) cuL_meanPrice J W) (n : Nat) (ls st : List aV) (μ : aM) (g : Nat) : W (n + 1) 2 ls st μ g = (sLd 0 3 isR) (W n) ls st μ g := (hW n 2 ls st μ g).trans rfl
theorem wL_meanPrice_3 {l : Launch} {K : aRs} {J : aK} {W : Nat → aK} (hW : isW (tbL_meanPrice l K) cuL_meanPrice J W) (n : Nat) (ls st : List aV) (μ : aM) (g : Nat) : W (n + 1) 3 ls st μ g = (sCallVH 0 4 (fun as μ K X => Ct l mdX4_meanPrice as μ K X) 6 1 1 3 [(5, 11)]) (W n) ls st μ g := (hW n 3 ls st μ g).trans rfl
theorem tL_meanPrice_6 (l : Launch) (K : aRs) : tb (tbL_meanPrice l K) 6 = sAstD 7 := (rfl)
theorem wL_meanPrice_6 {l : Launch} {K : aRs} {J : aK} {W : Nat → aK} (hW : isW (tbL_meanPrice l K) cuL_meanPrice J W) (n : Nat) (ls st : List aV) (μ : aM) (g : Nat) : W (n + 1) 6 ls st μ g = J 6 ls st μ g := (hW n 6 ls st μ g).trans rfl
theorem wL_meanPrice_7 {l : Launch} {K : aRs} {J : aK} {W : Nat → aK} (hW : isW (tbL_meanPrice l K) cuL_meanPrice J W) (n : Nat) (ls st : List aV) (μ : aM) (g : Nat) : W (n + 1) 7 ls st μ g = (sGoto 13) (W n) ls st μ g := (hW n 7 ls st μ g).trans rfl
theorem wL_meanPrice_10 {l : Launch} {K : aRs} {J : aK} {W : Nat → aK} (hW : isW (tbL_meanPrice l K) cuL_meanPrice J W) (n : Nat) (ls st : List aV) (μ : aM) (g : Nat) : W (n + 1) 10 ls st μ g = (sSt 2 11 isR) (W n) ls st μ g := (hW n 10 ls st μ g).trans rfl
theorem tL_meanPrice_11 (l : Launch) (K : aRs) : tb (tbL_meanPrice l K) 11 = sPush (aI 1) 12 := (rfl)
theorem wL_meanPrice_11 {l : Launch} {K : aRs} {J : aK} {W : Nat → aK} (hW : isW (tbL_meanPrice l K) cuL_meanPrice J W) (n : Nat) (ls st : List aV) (μ : aM) (g : Nat) : W (n + 1) 11 ls st μ g = J 11 ls st μ g := (hW n 11 ls st μ g).trans rfl
theorem wL_meanPrice_12 {l : Launch} {K : aRs} {J : aK} {W : Nat → aK} (hW : isW (tbL_meanPrice l K) cuL_meanPrice J W) (n : Nat) (ls st : List aV) (μ : aM) (g : Nat) : W (n + 1) 12 ls st μ g = (sRetI .int 1 K) (W n) ls st μ g := (hW n 12 ls st μ g).trans rfl
theorem wL_meanPrice_13 {l : Launch} {K : aRs} {J : aK} {W : Nat → aK} (hW : isW (tbL_meanPrice l K) cuL_meanPrice J W) (n : Nat) (ls st : List aV) (μ : aM) (g : Nat) : W (n + 1) 13 ls st μ g = (sPush (aI 0) 14) (W n) ls st μ g := (hW n 13 ls st μ g).trans rfl
theorem wL_meanPrice_14 {l : Launch} {K : aRs} {J : aK} {W : Nat → aK} (hW : isW (tbL_meanPrice l K) cuL_meanPrice J W) (n : Nat) (ls st : List aV) (μ : aM) (g : Nat) : W (n + 1) 14 ls st μ g = (sRetI .int 1 K) (W n) ls st μ g := (hW n 14 ls st μ g).trans rfl
