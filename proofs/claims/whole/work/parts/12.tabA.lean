/-! ===== tables of steps, by program (gen/mktab.py) ===== -/
theorem dX0_init_0 : decode cX0_init 0 = .ok (.aload_n 0, 1) := by decide +kernel
theorem dX0_init_1 : decode cX0_init 1 = .ok (.invokespecial 3, 3) := by decide +kernel
theorem dX0_init_4 : decode cX0_init 4 = .ok (.aload_n 0, 1) := by decide +kernel
theorem dX0_init_5 : decode cX0_init 5 = .ok (.iconst 0, 1) := by decide +kernel
theorem dX0_init_6 : decode cX0_init 6 = .ok (.putfield 9, 3) := by decide +kernel
theorem dX0_init_9 : decode cX0_init 9 = .ok (.aload_n 0, 1) := by decide +kernel
theorem dX0_init_10 : decode cX0_init 10 = .ok (.iconst 0, 1) := by decide +kernel
theorem dX0_init_11 : decode cX0_init 11 = .ok (.putfield 15, 3) := by decide +kernel
theorem dX0_init_14 : decode cX0_init 14 = .ok (.aload_n 0, 1) := by decide +kernel
theorem dX0_init_15 : decode cX0_init 15 = .ok (.iconst 0, 1) := by decide +kernel
theorem dX0_init_16 : decode cX0_init 16 = .ok (.putfield 18, 3) := by decide +kernel
theorem dX0_init_19 : decode cX0_init 19 = .ok (.return_, 1) := by decide +kernel
def tbX0_init (l : Launch) (K : aRs) (X : aXs) : aTb := [
  (0, sLd 0 1 isR),
  (1, sObj 4),
  (4, sLd 0 5 isR),
  (5, sPush (aI 0) 6),
  (6, sPutI 0 0 9),
  (9, sLd 0 10 isR),
  (10, sPush (aI 0) 11),
  (11, sPutI 0 1 14),
  (14, sLd 0 15 isR),
  (15, sPush (aI 0) 16),
  (16, sPutI 0 2 19),
  (19, sRetV 0 K)]
theorem snX0_init (l : Launch) (K : aRs) (X : aXs) (n0 : Nat) : ∀ q ∈ tbX0_init l K X, aSo l mdX0_init K X n0 q.1 q.2 :=
  tc (fun p e s m args below meth c cA D A ad0 h => ok_aload_n h.1 0 rfl dX0_init_0) <|
  tc (fun p e s m args below meth c cA D A ad0 h => ok_objInit h.1 mkRX0_3 oi1 oi2 dX0_init_1) <|
  tc (fun p e s m args below meth c cA D A ad0 h => ok_aload_n h.1 0 rfl dX0_init_4) <|
  tc (fun p e s m args below meth c cA D A ad0 h => ok_iconst h.1 ⟨by decide, by decide⟩ dX0_init_5) <|
  tc (fun p e s m args below meth c cA D A ad0 h => ok_putI h.1 cxX0 (by decide) rfl fkRX0_9 (Or.inr ⟨h.2.2.2.2, rfl⟩) (fun _ _ _ => rfl) (Or.inl rfl) dX0_init_6) <|
  tc (fun p e s m args below meth c cA D A ad0 h => ok_aload_n h.1 0 rfl dX0_init_9) <|
  tc (fun p e s m args below meth c cA D A ad0 h => ok_iconst h.1 ⟨by decide, by decide⟩ dX0_init_10) <|
  tc (fun p e s m args below meth c cA D A ad0 h => ok_putI h.1 cxX0 (by decide) rfl fkRX0_15 (Or.inr ⟨h.2.2.2.2, rfl⟩) (fun _ _ _ => rfl) (Or.inl rfl) dX0_init_11) <|
  tc (fun p e s m args below meth c cA D A ad0 h => ok_aload_n h.1 0 rfl dX0_init_14) <|
  tc (fun p e s m args below meth c cA D A ad0 h => ok_iconst h.1 ⟨by decide, by decide⟩ dX0_init_15) <|
  tc (fun p e s m args below meth c cA D A ad0 h => ok_putI h.1 cxX0 (by decide) rfl fkRX0_18 (Or.inr ⟨h.2.2.2.2, rfl⟩) (fun _ _ _ => rfl) (Or.inl rfl) dX0_init_16) <|
  tc (fun p e s m args below meth c cA D A ad0 h => ok_return h.1 h.2.2.2.1 dX0_init_19) <|
  tn
abbrev cuX0_init : List Nat := []
theorem tX0_init_0 (l : Launch) (K : aRs) (X : aXs) : tb (tbX0_init l K X) 0 = sLd 0 1 isR := (rfl)
theorem wX0_init_0 {l : Launch} {K : aRs} {X : aXs} {J : aK} {W : Nat → aK} (hW : isW (tbX0_init l K X) cuX0_init J W) (n : Nat) (ls st : List aV) (μ : aM) (g : Nat) : W (n + 1) 0 ls st μ g = (sLd 0 1 isR) (W n) ls st μ g := (hW n 0 ls st μ g).trans rfl
theorem wX0_init_1 {l : Launch} {K : aRs} {X : aXs} {J : aK} {W : Nat → aK} (hW : isW (tbX0_init l K X) cuX0_init J W) (n : Nat) (ls st : List aV) (μ : aM) (g : Nat) : W (n + 1) 1 ls st μ g = (sObj 4) (W n) ls st μ g := (hW n 1 ls st μ g).trans rfl
theorem wX0_init_4 {l : Launch} {K : aRs} {X : aXs} {J : aK} {W : Nat → aK} (hW : isW (tbX0_init l K X) cuX0_init J W) (n : Nat) (ls st : List aV) (μ : aM) (g : Nat) : W (n + 1) 4 ls st μ g = (sLd 0 5 isR) (W n) ls st μ g := (hW n 4 ls st μ g).trans rfl
theorem wX0_init_5 {l : Launch} {K : aRs} {X : aXs} {J : aK} {W : Nat → aK} (hW : isW (tbX0_init l K X) cuX0_init J W) (n : Nat) (ls st : List aV) (μ : aM) (g : Nat) : W (n + 1) 5 ls st μ g = (sPush (aI 0) 6) (W n) ls st μ g := (hW n 5 ls st μ g).trans rfl
theorem wX0_init_6 {l : Launch} {K : aRs} {X : aXs} {J : aK} {W : Nat → aK} (hW : isW (tbX0_init l K X) cuX0_init J W) (n : Nat) (ls st : List aV) (μ : aM) (g : Nat) : W (n + 1) 6 ls st μ g = (sPutI 0 0 9) (W n) ls st μ g := (hW n 6 ls st μ g).trans rfl
theorem wX0_init_9 {l : Launch} {K : aRs} {X : aXs} {J : aK} {W : Nat → aK} (hW : isW (tbX0_init l K X) cuX0_init J W) (n : Nat) (ls st : List aV) (μ : aM) (g : Nat) : W (n + 1) 9 ls st μ g = (sLd 0 10 isR) (W n) ls st μ g := (hW n 9 ls st μ g).trans rfl
theorem wX0_init_10 {l : Launch} {K : aRs} {X : aXs} {J : aK} {W : Nat → aK} (hW : isW (tbX0_init l K X) cuX0_init J W) (n : Nat) (ls st : List aV) (μ : aM) (g : Nat) : W (n + 1) 10 ls st μ g = (sPush (aI 0) 11) (W n) ls st μ g := (hW n 10 ls st μ g).trans rfl
theorem wX0_init_11 {l : Launch} {K : aRs} {X : aXs} {J : aK} {W : Nat → aK} (hW : isW (tbX0_init l K X) cuX0_init J W) (n : Nat) (ls st : List aV) (μ : aM) (g : Nat) : W (n + 1) 11 ls st μ g = (sPutI 0 1 14) (W n) ls st μ g := (hW n 11 ls st μ g).trans rfl
theorem wX0_init_14 {l : Launch} {K : aRs} {X : aXs} {J : aK} {W : Nat → aK} (hW : isW (tbX0_init l K X) cuX0_init J W) (n : Nat) (ls st : List aV) (μ : aM) (g : Nat) : W (n + 1) 14 ls st μ g = (sLd 0 15 isR) (W n) ls st μ g := (hW n 14 ls st μ g).trans rfl
theorem wX0_init_15 {l : Launch} {K : aRs} {X : aXs} {J : aK} {W : Nat → aK} (hW : isW (tbX0_init l K X) cuX0_init J W) (n : Nat) (ls st : List aV) (μ : aM) (g : Nat) : W (n + 1) 15 ls st μ g = (sPush (aI 0) 16) (W n) ls st μ g := (hW n 15 ls st μ g).trans rfl
theorem wX0_init_16 {l : Launch} {K : aRs} {X : aXs} {J : aK} {W : Nat → aK} (hW : isW (tbX0_init l K X) cuX0_init J W) (n : Nat) (ls st : List aV) (μ : aM) (g : Nat) : W (n + 1) 16 ls st μ g = (sPutI 0 2 19) (W n) ls st μ g := (hW n 16 ls st μ g).trans rfl
theorem wX0_init_19 {l : Launch} {K : aRs} {X : aXs} {J : aK} {W : Nat → aK} (hW : isW (tbX0_init l K X) cuX0_init J W) (n : Nat) (ls st : List aV) (μ : aM) (g : Nat) : W (n + 1) 19 ls st μ g = (sRetV 0 K) (W n) ls st μ g := (hW n 19 ls st μ g).trans rfl
theorem dX0_clear_0 : decode cX0_clear 0 = .ok (.aload_n 0, 1) := by decide +kernel
theorem dX0_clear_1 : decode cX0_clear 1 = .ok (.iconst 0, 1) := by decide +kernel
theorem dX0_clear_2 : decode cX0_clear 2 = .ok (.putfield 9, 3) := by decide +kernel
theorem dX0_clear_5 : decode cX0_clear 5 = .ok (.aload_n 0, 1) := by decide +kernel
theorem dX0_clear_6 : decode cX0_clear 6 = .ok (.iconst 0, 1) := by decide +kernel
theorem dX0_clear_7 : decode cX0_clear 7 = .ok (.putfield 15, 3) := by decide +kernel
theorem dX0_clear_10 : decode cX0_clear 10 = .ok (.aload_n 0, 1) := by decide +kernel
theorem dX0_clear_11 : decode cX0_clear 11 = .ok (.iconst 0, 1) := by decide +kernel
theorem dX0_clear_12 : decode cX0_clear 12 = .ok (.putfield 18, 3) := by decide +kernel
theorem dX0_clear_15 : decode cX0_clear 15 = .ok (.return_, 1) := by decide +kernel
def tbX0_clear (l : Launch) (K : aRs) (X : aXs) : aTb := [
  (0, sLd 0 1 isR),
  (1, sPush (aI 0) 2),
  (2, sPutI 0 0 5),
  (5, sLd 0 6 isR),
  (6, sPush (aI 0) 7),
  (7, sPutI 0 1 10),
  (10, sLd 0 11 isR),
  (11, sPush (aI 0) 12),
  (12, sPutI 0 2 15),
  (15, sRetV 0 K)]
theorem snX0_clear (l : Launch) (K : aRs) (X : aXs) (n0 : Nat) : ∀ q ∈ tbX0_clear l K X, aSo l mdX0_clear K X n0 q.1 q.2 :=
  tc (fun p e s m args below meth c cA D A ad0 h => ok_aload_n h.1 0 rfl dX0_clear_0) <|
  tc (fun p e s m args below meth c cA D A ad0 h => ok_iconst h.1 ⟨by decide, by decide⟩ dX0_clear_1) <|
  tc (fun p e s m args below meth c cA D A ad0 h => ok_putI h.1 cxX0 (by decide) rfl fkRX0_9 (Or.inl rfl) (fun _ _ _ => rfl) (Or.inl rfl) dX0_clear_2) <|
  tc (fun p e s m args below meth c cA D A ad0 h => ok_aload_n h.1 0 rfl dX0_clear_5) <|
  tc (fun p e s m args below meth c cA D A ad0 h => ok_iconst h.1 ⟨by decide, by decide⟩ dX0_clear_6) <|
  tc (fun p e s m args below meth c cA D A ad0 h => ok_putI h.1 cxX0 (by decide) rfl fkRX0_15 (Or.inl rfl) (fun _ _ _ => rfl) (Or.inl rfl) dX0_clear_7) <|
  tc (fun p e s m args below meth c cA D A ad0 h => ok_aload_n h.1 0 rfl dX0_clear_10) <|
  tc (fun p e s m args below meth c cA D A ad0 h => ok_iconst h.1 ⟨by decide, by decide⟩ dX0_clear_11) <|
  tc (fun p e s m args below meth c cA D A ad0 h => ok_putI h.1 cxX0 (by decide) rfl fkRX0_18 (Or.inl rfl) (fun _ _ _ => rfl) (Or.inl rfl) dX0_clear_12) <|
  tc (fun p e s m args below meth c cA D A ad0 h => ok_return h.1 h.2.2.2.1 dX0_clear_15) <|
  tn
abbrev cuX0_clear : List Nat := []
theorem tX0_clear_0 (l : Launch) (K : aRs) (X : aXs) : tb (tbX0_clear l K X) 0 = sLd 0 1 isR := (rfl)
theorem wX0_clear_0 {l : Launch} {K : aRs} {X : aXs} {J : aK} {W : Nat → aK} (hW : isW (tbX0_clear l K X) cuX0_clear J W) (n : Nat) (ls st : List aV) (μ : aM) (g : Nat) : W (n + 1) 0 ls st μ g = (sLd 0 1 isR) (W n) ls st μ g := (hW n 0 ls st μ g).trans rfl
theorem wX0_clear_1 {l : Launch} {K : aRs} {X : aXs} {J : aK} {W : Nat → aK} (hW : isW (tbX0_clear l K X) cuX0_clear J W) (n : Nat) (ls st : List aV) (μ : aM) (g : Nat) : W (n + 1) 1 ls st μ g = (sPush (aI 0) 2) (W n) ls st μ g := (hW n 1 ls st μ g).trans rfl
theorem wX0_clear_2 {l : Launch} {K : aRs} {X : aXs} {J : aK} {W : Nat → aK} (hW : isW (tbX0_clear l K X) cuX0_clear J W) (n : Nat) (ls st : List aV) (μ : aM) (g : Nat) : W (n + 1) 2 ls st μ g = (sPutI 0 0 5) (W n) ls st μ g := (hW n 2 ls st μ g).trans rfl
theorem wX0_clear_5 {l : Launch} {K : aRs} {X : aXs} {J : aK} {W : Nat → aK} (hW : isW (tbX0_clear l K X) cuX0_clear J W) (n : Nat) (ls st : List aV) (μ : aM) (g : Nat) : W (n + 1) 5 ls st μ g = (sLd 0 6 isR) (W n) ls st μ g := (hW n 5 ls st μ g).trans rfl
theorem wX0_clear_6 {l : Launch} {K : aRs} {X : aXs} {J : aK} {W : Nat → aK} (hW : isW (tbX0_clear l K X) cuX0_clear J W) (n : Nat) (ls st : List aV) (μ : aM) (g : Nat) : W (n + 1) 6 ls st μ g = (sPush (aI 0) 7) (W n) ls st μ g := (hW n 6 ls st μ g).trans rfl
theorem wX0_clear_7 {l : Launch} {K : aRs} {X : aXs} {J : aK} {W : Nat → aK} (hW : isW (tbX0_clear l K X) cuX0_clear J W) (n : Nat) (ls st : List aV) (μ : aM) (g : Nat) : W (n + 1) 7 ls st μ g = (sPutI 0 1 10) (W n) ls st μ g := (hW n 7 ls st μ g).trans rfl
theorem wX0_clear_10 {l : Launch} {K : aRs} {X : aXs} {J : aK} {W : Nat → aK} (hW : isW (tbX0_clear l K X) cuX0_clear J W) (n : Nat) (ls st : List aV) (μ : aM) (g : Nat) : W (n + 1) 10 ls st μ g = (sLd 0 11 isR) (W n) ls st μ g := (hW n 10 ls st μ g).trans rfl
theorem wX0_clear_11 {l : Launch} {K : aRs} {X : aXs} {J : aK} {W : Nat → aK} (hW : isW (tbX0_clear l K X) cuX0_clear J W) (n : Nat) (ls st : List aV) (μ : aM) (g : Nat) : W (n + 1) 11 ls st μ g = (sPush (aI 0) 12) (W n) ls st μ g := (hW n 11 ls st μ g).trans rfl
theorem wX0_clear_12 {l : Launch} {K : aRs} {X : aXs} {J : aK} {W : Nat → aK} (hW : isW (tbX0_clear l K X) cuX0_clear J W) (n : Nat) (ls st : List aV) (μ : aM) (g : Nat) : W (n + 1) 12 ls st μ g = (sPutI 0 2 15) (W n) ls st μ g := (hW n 12 ls st μ g).trans rfl
theorem wX0_clear_15 {l : Launch} {K : aRs} {X : aXs} {J : aK} {W : Nat → aK} (hW : isW (tbX0_clear l K X) cuX0_clear J W) (n : Nat) (ls st : List aV) (μ : aM) (g : Nat) : W (n + 1) 15 ls st μ g = (sRetV 0 K) (W n) ls st μ g := (hW n 15 ls st μ g).trans rfl
theorem dX0_take_0 : decode cX0_take 0 = .ok (.iload_n 2, 1) := by decide +kernel
theorem dX0_take_1 : decode cX0_take 1 = .ok (.iload_n 3, 1) := by decide +kernel
theorem dX0_take_2 : decode cX0_take 2 = .ok (.invokestatic 21, 3) := by decide +kernel
theorem dX0_take_5 : decode cX0_take 5 = .ok (.istore 4, 2) := by decide +kernel
theorem dX0_take_7 : decode cX0_take 7 = .ok (.iload_n 2, 1) := by decide +kernel
theorem dX0_take_8 : decode cX0_take 8 = .ok (.iload_n 3, 1) := by decide +kernel
theorem dX0_take_9 : decode cX0_take 9 = .ok (.isub, 1) := by decide +kernel
theorem dX0_take_10 : decode cX0_take 10 = .ok (.invokestatic 27, 3) := by decide +kernel
theorem dX0_take_13 : decode cX0_take 13 = .ok (.istore 5, 2) := by decide +kernel
theorem dX0_take_15 : decode cX0_take 15 = .ok (.iload 4, 2) := by decide +kernel
theorem dX0_take_17 : decode cX0_take 17 = .ok (.ifCond .le 32, 3) := by decide +kernel
theorem dX0_take_20 : decode cX0_take 20 = .ok (.aload_n 0, 1) := by decide +kernel
theorem dX0_take_21 : decode cX0_take 21 = .ok (.iload_n 1, 1) := by decide +kernel
theorem dX0_take_22 : decode cX0_take 22 = .ok (.iload 4, 2) := by decide +kernel
theorem dX0_take_24 : decode cX0_take 24 = .ok (.iload 5, 2) := by decide +kernel
theorem dX0_take_26 : decode cX0_take 26 = .ok (.invokevirtual 31, 3) := by decide +kernel
theorem dX0_take_29 : decode cX0_take 29 = .ok (.ifCond .eq 20, 3) := by decide +kernel
theorem dX0_take_32 : decode cX0_take 32 = .ok (.aload_n 0, 1) := by decide +kernel
theorem dX0_take_33 : decode cX0_take 33 = .ok (.iload_n 1, 1) := by decide +kernel
theorem dX0_take_34 : decode cX0_take 34 = .ok (.putfield 9, 3) := by decide +kernel
theorem dX0_take_37 : decode cX0_take 37 = .ok (.aload_n 0, 1) := by decide +kernel
theorem dX0_take_38 : decode cX0_take 38 = .ok (.iload 4, 2) := by decide +kernel
theorem dX0_take_40 : decode cX0_take 40 = .ok (.putfield 15, 3) := by decide +kernel
theorem dX0_take_43 : decode cX0_take 43 = .ok (.aload_n 0, 1) := by decide +kernel
theorem dX0_take_44 : decode cX0_take 44 = .ok (.iload 5, 2) := by decide +kernel
theorem dX0_take_46 : decode cX0_take 46 = .ok (.putfield 18, 3) := by decide +kernel
theorem dX0_take_49 : decode cX0_take 49 = .ok (.return_, 1) := by decide +kernel
def tbX0_take (l : Launch) (K : aRs) (X : aXs) : aTb := [
  (0, sLd 2 1 isI),
  (1, sLd 3 2 isI),
  (2, sMath (sMin 5) 0),
  (5, sSt 4 7 isI),
  (7, sLd 2 8 isI),
  (8, sLd 3 9 isI),
  (9, sBin fSub 10),
  (10, sMath (sAbs 13) 0),
  (13, sSt 5 15 isI),
  (15, sLd 4 17 isI),
  (17, sIf pLe 49 20),
  (20, sLd 0 21 isR),
  (21, sLd 1 22 isI),
  (22, sLd 4 24 isI),
  (24, sLd 5 26 isI),
  (26, sCallV 3 0 (fun as μ K => Ct l mdX0_isBetter as μ K X) 29 0 0),
  (29, sIf pEq 49 32),
  (32, sLd 0 33 isR),
  (33, sLd 1 34 isI),
  (34, sPutI 0 0 37),
  (37, sLd 0 38 isR),
  (38, sLd 4 40 isI),
  (40, sPutI 0 1 43),
  (43, sLd 0 44 isR),
  (44, sLd 5 46 isI),
  (46, sPutI 0 2 49),
  (49, sRetV 0 K)]
theorem snX0_take (l : Launch) (K : aRs) (X : aXs) (n0 : Nat) : ∀ q ∈ tbX0_take l K X, aSo l mdX0_take K X n0 q.1 q.2 :=
  tc (fun p e s m args below meth c cA D A ad0 h => ok_iload_n h.1 2 rfl dX0_take_0) <|
  tc (fun p e s m args below meth c cA D A ad0 h => ok_iload_n h.1 3 rfl dX0_take_1) <|
  tc (fun p e s m args below meth c cA D A ad0 h => ok_min h.1 ⟨Nat.le_refl _, Nat.le_refl _⟩ mkRX0_21 smath_min nimath kmath_min dX0_take_2) <|
  tc (fun p e s m args below meth c cA D A ad0 h => ok_istore h.1 (by decide) dX0_take_5) <|
  tc (fun p e s m args below meth c cA D A ad0 h => ok_iload_n h.1 2 rfl dX0_take_7) <|
  tc (fun p e s m args below meth c cA D A ad0 h => ok_iload_n h.1 3 rfl dX0_take_8) <|
  tc (fun p e s m args below meth c cA D A ad0 h => ok_isub h.1 dX0_take_9) <|
  tc (fun p e s m args below meth c cA D A ad0 h => ok_abs h.1 ⟨Nat.le_refl _, Nat.le_refl _⟩ mkRX0_27 smath_abs nimath kmath_abs dX0_take_10) <|
  tc (fun p e s m args below meth c cA D A ad0 h => ok_istore h.1 (by decide) dX0_take_13) <|
  tc (fun p e s m args below meth c cA D A ad0 h => ok_iload h.1 dX0_take_15) <|
  tc (fun p e s m args below meth c cA D A ad0 h => ok_if_le h.1 49 (by decide) dX0_take_17) <|
  tc (fun p e s m args below meth c cA D A ad0 h => ok_aload_n h.1 0 rfl dX0_take_20) <|
  tc (fun p e s m args below meth c cA D A ad0 h => ok_iload_n h.1 1 rfl dX0_take_21) <|
  tc (fun p e s m args below meth c cA D A ad0 h => ok_iload h.1 dX0_take_22) <|
  tc (fun p e s m args below meth c cA D A ad0 h => ok_iload h.1 dX0_take_24) <|
  tc (fun p e s m args below meth c cA D A ad0 h => ok_callV h.1 h.2.1 ⟨Nat.le_refl _, Nat.le_refl _⟩ mdX0_isBetter siX0_isBetter cxX0 mkRX0_31 imX0_isBetter seX0_isBetter ⟨by decide, by decide⟩ (aAx_out h.1 h.2.2.1 _) dX0_take_26) <|
  tc (fun p e s m args below meth c cA D A ad0 h => ok_if_eq h.1 49 (by decide) dX0_take_29) <|
  tc (fun p e s m args below meth c cA D A ad0 h => ok_aload_n h.1 0 rfl dX0_take_32) <|
  tc (fun p e s m args below meth c cA D A ad0 h => ok_iload_n h.1 1 rfl dX0_take_33) <|
  tc (fun p e s m args below meth c cA D A ad0 h => ok_putI h.1 cxX0 (by decide) rfl fkRX0_9 (Or.inl rfl) (fun _ _ _ => rfl) (Or.inl rfl) dX0_take_34) <|
  tc (fun p e s m args below meth c cA D A ad0 h => ok_aload_n h.1 0 rfl dX0_take_37) <|
  tc (fun p e s m args below meth c cA D A ad0 h => ok_iload h.1 dX0_take_38) <|
  tc (fun p e s m args below meth c cA D A ad0 h => ok_putI h.1 cxX0 (by decide) rfl fkRX0_15 (Or.inl rfl) (fun _ _ _ => rfl) (Or.inl rfl) dX0_take_40) <|
  tc (fun p e s m args below meth c cA D A ad0 h => ok_aload_n h.1 0 rfl dX0_take_43) <|
  tc (fun p e s m args below meth c cA D A ad0 h => ok_iload h.1 dX0_take_44) <|
  tc (fun p e s m args below meth c cA D A ad0 h => ok_putI h.1 cxX0 (by decide) rfl fkRX0_18 (Or.inl rfl) (fun _ _ _ => rfl) (Or.inl rfl) dX0_take_46) <|
  tc (fun p e s m args below meth c cA D A ad0 h => ok_return h.1 h.2.2.2.1 dX0_take_49) <|
  tn
abbrev cuX0_take : List Nat := [29]
theorem tX0_take_0 (l : Launch) (K : aRs) (X : aXs) : tb (tbX0_take l K X) 0 = sLd 2 1 isI := (rfl)
theorem wX0_take_0 {l : Launch} {K : aRs} {X : aXs} {J : aK} {W : Nat → aK} (hW : isW (tbX0_take l K X) cuX0_take J W) (n : Nat) (ls st : List aV) (μ : aM) (g : Nat) : W (n + 1) 0 ls st μ g = (sLd 2 1 isI) (W n) ls st μ g := (hW n 0 ls st μ g).trans rfl
theorem wX0_take_1 {l : Launch} {K : aRs} {X : aXs} {J : aK} {W : Nat → aK} (hW : isW (tbX0_take l K X) cuX0_take J W) (n : Nat) (ls st : List aV) (μ : aM) (g : Nat) : W (n + 1) 1 ls st μ g = (sLd 3 2 isI) (W n) ls st μ g := (hW n 1 ls st μ g).trans rfl
theorem wX0_take_2 {l : Launch} {K : aRs} {X : aXs} {J : aK} {W : Nat → aK} (hW : isW (tbX0_take l K X) cuX0_take J W) (n : Nat) (ls st : List aV) (μ : aM) (g : Nat) : W (n + 1) 2 ls st μ g = (sMath (sMin 5) 0) (W n) ls st μ g := (hW n 2 ls st μ g).trans rfl
theorem wX0_take_5 {l : Launch} {K : aRs} {X : aXs} {J : aK} {W : Nat → aK} (hW : isW (tbX0_take l K X) cuX0_take J W) (n : Nat) (ls st : List aV) (μ : aM) (g : Nat) : W (n + 1) 5 ls st μ g = (sSt 4 7 isI) (W n) ls st μ g := (hW n 5 ls st μ g).trans rfl
theorem wX0_take_7 {l : Launch} {K : aRs} {X : aXs} {J : aK} {W : Nat → aK} (hW : isW (tbX0_take l K X) cuX0_take J W) (n : Nat) (ls st : List aV) (μ : aM) (g : Nat) : W (n + 1) 7 ls st μ g = (sLd 2 8 isI) (W n) ls st μ g := (hW n 7 ls st μ g).trans rfl
theorem wX0_take_8 {l : Launch} {K : aRs} {X : aXs} {J : aK} {W : Nat → aK} (hW : isW (tbX0_take l K X) cuX0_take J W) (n : Nat) (ls st : List aV) (μ : aM) (g : Nat) : W (n + 1) 8 ls st μ g = (sLd 3 9 isI) (W n) ls st μ g := (hW n 8 ls st μ g).trans rfl
theorem wX0_take_9 {l : Launch} {K : aRs} {X : aXs} {J : aK} {W : Nat → aK} (hW : isW (tbX0_take l K X) cuX0_take J W) (n : Nat) (ls st : List aV) (μ : aM) (g : Nat) : W (n + 1) 9 ls st μ g = (sBin fSub 10) (W n) ls st μ g := (hW n 9 ls st μ g).trans rfl
theorem wX0_take_10 {l : Launch} {K : aRs} {X : aXs} {J : aK} {W : Nat → aK} (hW : isW (tbX0_take l K X) cuX0_take J W) (n : Nat) (ls st : List aV) (μ : aM) (g : Nat) : W (n + 1) 10 ls st μ g = (sMath (sAbs 13) 0) (W n) ls st μ g := (hW n 10 ls st μ g).trans rfl
theorem wX0_take_13 {l : Launch} {K : aRs} {X : aXs} {J : aK} {W : Nat → aK} (hW : isW (tbX0_take l K X) cuX0_take J W) (n : Nat) (ls st : List aV) (μ : aM) (g : Nat) : W (n + 1) 13 ls st μ g = (sSt 5 15 isI) (W n) ls st μ g := (hW n 13 ls st μ g).trans rfl
theorem wX0_take_15 {l : Launch} {K : aRs} {X : aXs} {J : aK} {W : Nat → aK} (hW : isW (tbX0_take l K X) cuX0_take J W) (n : Nat) (ls st : List aV) (μ : aM) (g : Nat) : W (n + 1) 15 ls st μ g = (sLd 4 17 isI) (W n) ls st μ g := (hW n 15 ls st μ g).trans rfl
theorem wX0_take_17 {l : Launch} {K : aRs} {X : aXs} {J : aK} {W : Nat → aK} (hW : isW (tbX0_take l K X) cuX0_take J W) (n : Nat) (ls st : List aV) (μ : aM) (g : Nat) : W (n + 1) 17 ls st μ g = (sIf pLe 49 20) (W n) ls st μ g := (hW n 17 ls st μ g).trans rfl
theorem wX0_take_20 {l : Launch} {K : aRs} {X : aXs} {J : aK} {W : Nat → aK} (hW : isW (tbX0_take l K X) cuX0_take J W) (n : Nat) (ls st : List aV) (μ : aM) (g : Nat) : W (n + 1) 20 ls st μ g = (sLd 0 21 isR) (W n) ls st μ g := (hW n 20 ls st μ g).trans rfl
theorem wX0_take_21 {l : Launch} {K : aRs} {X : aXs} {J : aK} {W : Nat → aK} (hW : isW (tbX0_take l K X) cuX0_take J W) (n : Nat) (ls st : List aV) (μ : aM) (g : Nat) : W (n + 1) 21 ls st μ g = (sLd 1 22 isI) (W n) ls st μ g := (hW n 21 ls st μ g).trans rfl
theorem wX0_take_22 {l : Launch} {K : aRs} {X : aXs} {J : aK} {W : Nat → aK} (hW : isW (tbX0_take l K X) cuX0_take J W) (n : Nat) (ls st : List aV) (μ : aM) (g : Nat) : W (n + 1) 22 ls st μ g = (sLd 4 24 isI) (W n) ls st μ g := (hW n 22 ls st μ g).trans rfl
theorem wX0_take_24 {l : Launch} {K : aRs} {X : aXs} {J : aK} {W : Nat → aK} (hW : isW (tbX0_take l K X) cuX0_take J W) (n : Nat) (ls st : List aV) (μ : aM) (g : Nat) : W (n + 1) 24 ls st μ g = (sLd 5 26 isI) (W n) ls st μ g := (hW n 24 ls st μ g).trans rfl
theorem wX0_take_26 {l : Launch} {K : aRs} {X : aXs} {J : aK} {W : Nat → aK} (hW : isW (tbX0_take l K X) cuX0_take J W) (n : Nat) (ls st : List aV) (μ : aM) (g : Nat) : W (n + 1) 26 ls st μ g = (sCallV 3 0 (fun as μ K => Ct l mdX0_isBetter as μ K X) 29 0 0) (W n) ls st μ g := (hW n 26 ls st μ g).trans rfl
theorem tX0_take_29 (l : Launch) (K : aRs) (X : aXs) : tb (tbX0_take l K X) 29 = sIf pEq 49 32 := (rfl)
theorem wX0_take_29 {l : Launch} {K : aRs} {X : aXs} {J : aK} {W : Nat → aK} (hW : isW (tbX0_take l K X) cuX0_take J W) (n : Nat) (ls st : List aV) (μ : aM) (g : Nat) : W (n + 1) 29 ls st μ g = J 29 ls st μ g := (hW n 29 ls st μ g).trans rfl
theorem wX0_take_32 {l : Launch} {K : aRs} {X : aXs} {J : aK} {W : Nat → aK} (hW : isW (tbX0_take l K X) cuX0_take J W) (n : Nat) (ls st : List aV) (μ : aM) (g : Nat) : W (n + 1) 32 ls st μ g = (sLd 0 33 isR) (W n) ls st μ g := (hW n 32 ls st μ g).trans rfl
theorem wX0_take_33 {l : Launch} {K : aRs} {X : aXs} {J : aK} {W : Nat → aK} (hW : isW (tbX0_take l K X) cuX0_take J W) (n : Nat) (ls st : List aV) (μ : aM) (g : Nat) : W (n + 1) 33 ls st μ g = (sLd 1 34 isI) (W n) ls st μ g := (hW n 33 ls st μ g).trans rfl
theorem wX0_take_34 {l : Launch} {K : aRs} {X : aXs} {J : aK} {W : Nat → aK} (hW : isW (tbX0_take l K X) cuX0_take J W) (n : Nat) (ls st : List aV) (μ : aM) (g : Nat) : W (n + 1) 34 ls st μ g = (sPutI 0 0 37) (W n) ls st μ g := (hW n 34 ls st μ g).trans rfl
theorem wX0_take_37 {l : Launch} {K : aRs} {X : aXs} {J : aK} {W : Nat → aK} (hW : isW (tbX0_take l K X) cuX0_take J W) (n : Nat) (ls st : List aV) (μ : aM) (g : Nat) : W (n + 1) 37 ls st μ g = (sLd 0 38 isR) (W n) ls st μ g := (hW n 37 ls st μ g).trans rfl
theorem wX0_take_38 {l : Launch} {K : aRs} {X : aXs} {J : aK} {W : Nat → aK} (hW : isW (tbX0_take l K X) cuX0_take J W) (n : Nat) (ls st : List aV) (μ : aM) (g : Nat) : W (n + 1) 38 ls st μ g = (sLd 4 40 isI) (W n) ls st μ g := (hW n 38 ls st μ g).trans rfl
theorem wX0_take_40 {l : Launch} {K : aRs} {X : aXs} {J : aK} {W : Nat → aK} (hW : isW (tbX0_take l K X) cuX0_take J W) (n : Nat) (ls st : List aV) (μ : aM) (g : Nat) : W (n + 1) 40 ls st μ g = (sPutI 0 1 43) (W n) ls st μ g := (hW n 40 ls st μ g).trans rfl
theorem wX0_take_43 {l : Launch} {K : aRs} {X : aXs} {J : aK} {W : Nat → aK} (hW : isW (tbX0_take l K X) cuX0_take J W) (n : Nat) (ls st : List aV) (μ : aM) (g : Nat) : W (n + 1) 43 ls st μ g = (sLd 0 44 isR) (W n) ls st μ g := (hW n 43 ls st μ g).trans rfl
theorem wX0_take_44 {l : Launch} {K : aRs} {X : aXs} {J : aK} {W : Nat → aK} (hW : isW (tbX0_take l K X) cuX0_take J W) (n : Nat) (ls st : List aV) (μ : aM) (g : Nat) : W (n + 1) 44 ls st μ g = (sLd 5 46 isI) (W n) ls st μ g := (hW n 44 ls st μ g).trans rfl
theorem wX0_take_46 {l : Launch} {K : aRs} {X : aXs} {J : aK} {W : Nat → aK} (hW : isW (tbX0_take l K X) cuX0_take J W) (n : Nat) (ls st : List aV) (μ : aM) (g : Nat) : W (n + 1) 46 ls st μ g = (sPutI 0 2 49) (W n) ls st μ g := (hW n 46 ls st μ g).trans rfl
theorem wX0_take_49 {l : Launch} {K : aRs} {X : aXs} {J : aK} {W : Nat → aK} (hW : isW (tbX0_take l K X) cuX0_take J W) (n : Nat) (ls st : List aV) (μ : aM) (g : Nat) : W (n + 1) 49 ls st μ g = (sRetV 0 K) (W n) ls st μ g := (hW n 49 ls st μ g).trans rfl
theorem dX0_isBetter_0 : decode cX0_isBetter 0 = .ok (.iload_n 2, 1) := by decide +kernel
theorem dX0_isBetter_1 : decode cX0_isBetter 1 = .ok (.aload_n 0, 1) := by decide +kernel
theorem dX0_isBetter_2 : decode cX0_isBetter 2 = .ok (.getfield 15, 3) := by decide +kernel
theorem dX0_isBetter_5 : decode cX0_isBetter 5 = .ok (.if_icmp .eq 17, 3) := by decide +kernel
theorem dX0_isBetter_8 : decode cX0_isBetter 8 = .ok (.iload_n 2, 1) := by decide +kernel
theorem dX0_isBetter_9 : decode cX0_isBetter 9 = .ok (.aload_n 0, 1) := by decide +kernel
theorem dX0_isBetter_10 : decode cX0_isBetter 10 = .ok (.getfield 15, 3) := by decide +kernel
theorem dX0_isBetter_13 : decode cX0_isBetter 13 = .ok (.if_icmp .le 7, 3) := by decide +kernel
theorem dX0_isBetter_16 : decode cX0_isBetter 16 = .ok (.iconst 1, 1) := by decide +kernel
theorem dX0_isBetter_17 : decode cX0_isBetter 17 = .ok (.goto 4, 3) := by decide +kernel
theorem dX0_isBetter_20 : decode cX0_isBetter 20 = .ok (.iconst 0, 1) := by decide +kernel
theorem dX0_isBetter_21 : decode cX0_isBetter 21 = .ok (.ireturn, 1) := by decide +kernel
theorem dX0_isBetter_22 : decode cX0_isBetter 22 = .ok (.iload_n 3, 1) := by decide +kernel
theorem dX0_isBetter_23 : decode cX0_isBetter 23 = .ok (.aload_n 0, 1) := by decide +kernel
theorem dX0_isBetter_24 : decode cX0_isBetter 24 = .ok (.getfield 18, 3) := by decide +kernel
theorem dX0_isBetter_27 : decode cX0_isBetter 27 = .ok (.if_icmp .eq 17, 3) := by decide +kernel
theorem dX0_isBetter_30 : decode cX0_isBetter 30 = .ok (.iload_n 3, 1) := by decide +kernel
theorem dX0_isBetter_31 : decode cX0_isBetter 31 = .ok (.aload_n 0, 1) := by decide +kernel
theorem dX0_isBetter_32 : decode cX0_isBetter 32 = .ok (.getfield 18, 3) := by decide +kernel
theorem dX0_isBetter_35 : decode cX0_isBetter 35 = .ok (.if_icmp .ge 7, 3) := by decide +kernel
theorem dX0_isBetter_38 : decode cX0_isBetter 38 = .ok (.iconst 1, 1) := by decide +kernel
theorem dX0_isBetter_39 : decode cX0_isBetter 39 = .ok (.goto 4, 3) := by decide +kernel
theorem dX0_isBetter_42 : decode cX0_isBetter 42 = .ok (.iconst 0, 1) := by decide +kernel
theorem dX0_isBetter_43 : decode cX0_isBetter 43 = .ok (.ireturn, 1) := by decide +kernel
theorem dX0_isBetter_44 : decode cX0_isBetter 44 = .ok (.iload_n 1, 1) := by decide +kernel
theorem dX0_isBetter_45 : decode cX0_isBetter 45 = .ok (.aload_n 0, 1) := by decide +kernel
theorem dX0_isBetter_46 : decode cX0_isBetter 46 = .ok (.getfield 9, 3) := by decide +kernel
theorem dX0_isBetter_49 : decode cX0_isBetter 49 = .ok (.if_icmp .ge 7, 3) := by decide +kernel
theorem dX0_isBetter_52 : decode cX0_isBetter 52 = .ok (.iconst 1, 1) := by decide +kernel
theorem dX0_isBetter_53 : decode cX0_isBetter 53 = .ok (.goto 4, 3) := by decide +kernel
theorem dX0_isBetter_56 : decode cX0_isBetter 56 = .ok (.iconst 0, 1) := by decide +kernel
theorem dX0_isBetter_57 : decode cX0_isBetter 57 = .ok (.ireturn, 1) := by decide +kernel
def tbX0_isBetter (l : Launch) (K : aRs) (X : aXs) : aTb := [
  (0, sLd 2 1 isI),
  (1, sLd 0 2 isR),
  (2, sGetI 0 1 5),
  (5, sIc qEq 22 8),
  (8, sLd 2 9 isI),
  (9, sLd 0 10 isR),
  (10, sGetI 0 1 13),
  (13, sIc qLe 20 16),
  (16, sPush (aI 1) 17),
  (17, sGoto 21),
  (20, sPush (aI 0) 21),
  (21, sRetI .boolean 0 K),
  (22, sLd 3 23 isI),
  (23, sLd 0 24 isR),
  (24, sGetI 0 2 27),
  (27, sIc qEq 44 30),
  (30, sLd 3 31 isI),
  (31, sLd 0 32 isR),
  (32, sGetI 0 2 35),
  (35, sIc qGe 42 38),
  (38, sPush (aI 1) 39),
  (39, sGoto 43),
  (42, sPush (aI 0) 43),
  (43, sRetI .boolean 0 K),
  (44, sLd 1 45 isI),
  (45, sLd 0 46 isR),
  (46, sGetI 0 0 49),
  (49, sIc qGe 56 52),
  (52, sPush (aI 1) 53),
  (53, sGoto 57),
  (56, sPush (aI 0) 57),
  (57, sRetI .boolean 0 K)]
theorem snX0_isBetter (l : Launch) (K : aRs) (X : aXs) (n0 : Nat) : ∀ q ∈ tbX0_isBetter l K X, aSo l mdX0_isBetter K X n0 q.1 q.2 :=
  tc (fun p e s m args below meth c cA D A ad0 h => ok_iload_n h.1 2 rfl dX0_isBetter_0) <|
  tc (fun p e s m args below meth c cA D A ad0 h => ok_aload_n h.1 0 rfl dX0_isBetter_1) <|
  tc (fun p e s m args below meth c cA D A ad0 h => ok_getI h.1 cxX0 (by decide) rfl fkRX0_15 (fun _ _ _ => rfl) dX0_isBetter_2) <|
  tc (fun p e s m args below meth c cA D A ad0 h => ok_icmp_eq h.1 22 (by decide) dX0_isBetter_5) <|
  tc (fun p e s m args below meth c cA D A ad0 h => ok_iload_n h.1 2 rfl dX0_isBetter_8) <|
  tc (fun p e s m args below meth c cA D A ad0 h => ok_aload_n h.1 0 rfl dX0_isBetter_9) <|
  tc (fun p e s m args below meth c cA D A ad0 h => ok_getI h.1 cxX0 (by decide) rfl fkRX0_15 (fun _ _ _ => rfl) dX0_isBetter_10) <|
  tc (fun p e s m args below meth c cA D A ad0 h => ok_icmp_le h.1 20 (by decide) dX0_isBetter_13) <|
  tc (fun p e s m args below meth c cA D A ad0 h => ok_iconst h.1 ⟨by decide, by decide⟩ dX0_isBetter_16) <|
  tc (fun p e s m args below meth c cA D A ad0 h => ok_goto h.1 21 (by decide) dX0_isBetter_17) <|
  tc (fun p e s m args below meth c cA D A ad0 h => ok_iconst h.1 ⟨by decide, by decide⟩ dX0_isBetter_20) <|
  tc (fun p e s m args below meth c cA D A ad0 h => ok_ireturn h.1 h.2.2.2.1 (Or.inr (Or.inl rfl)) dX0_isBetter_21) <|
  tc (fun p e s m args below meth c cA D A ad0 h => ok_iload_n h.1 3 rfl dX0_isBetter_22) <|
  tc (fun p e s m args below meth c cA D A ad0 h => ok_aload_n h.1 0 rfl dX0_isBetter_23) <|
  tc (fun p e s m args below meth c cA D A ad0 h => ok_getI h.1 cxX0 (by decide) rfl fkRX0_18 (fun _ _ _ => rfl) dX0_isBetter_24) <|
  tc (fun p e s m args below meth c cA D A ad0 h => ok_icmp_eq h.1 44 (by decide) dX0_isBetter_27) <|
  tc (fun p e s m args below meth c cA D A ad0 h => ok_iload_n h.1 3 rfl dX0_isBetter_30) <|
  tc (fun p e s m args below meth c cA D A ad0 h => ok_aload_n h.1 0 rfl dX0_isBetter_31) <|
  tc (fun p e s m args below meth c cA D A ad0 h => ok_getI h.1 cxX0 (by decide) rfl fkRX0_18 (fun _ _ _ => rfl) dX0_isBetter_32) <|
  tc (fun p e s m args below meth c cA D A ad0 h => ok_icmp_ge h.1 42 (by decide) dX0_isBetter_35) <|
  tc (fun p e s m args below meth c cA D A ad0 h => ok_iconst h.1 ⟨by decide, by decide⟩ dX0_isBetter_38) <|
  tc (fun p e s m args below meth c cA D A ad0 h => ok_goto h.1 43 (by decide) dX0_isBetter_39) <|
  tc (fun p e s m args below meth c cA D A ad0 h => ok_iconst h.1 ⟨by decide, by decide⟩ dX0_isBetter_42) <|
  tc (fun p e s m args below meth c cA D A ad0 h => ok_ireturn h.1 h.2.2.2.1 (Or.inr (Or.inl rfl)) dX0_isBetter_43) <|
  tc (fun p e s m args below meth c cA D A ad0 h => ok_iload_n h.1 1 rfl dX0_isBetter_44) <|
  tc (fun p e s m args below meth c cA D A ad0 h => ok_aload_n h.1 0 rfl dX0_isBetter_45) <|
  tc (fun p e s m args below meth c cA D A ad0 h => ok_getI h.1 cxX0 (by decide) rfl fkRX0_9 (fun _ _ _ => rfl) dX0_isBetter_46) <|
  tc (fun p e s m args below meth c cA D A ad0 h => ok_icmp_ge h.1 56 (by decide) dX0_isBetter_49) <|
  tc (fun p e s m args below meth c cA D A ad0 h => ok_iconst h.1 ⟨by decide, by decide⟩ dX0_isBetter_52) <|
  tc (fun p e s m args below meth c cA D A ad0 h => ok_goto h.1 57 (by decide) dX0_isBetter_53) <|
  tc (fun p e s m args below meth c cA D A ad0 h => ok_iconst h.1 ⟨by decide, by decide⟩ dX0_isBetter_56) <|
  tc (fun p e s m args below meth c cA D A ad0 h => ok_ireturn h.1 h.2.2.2.1 (Or.inr (Or.inl rfl)) dX0_isBetter_57) <|
  tn
abbrev cuX0_isBetter : List Nat := []
theorem tX0_isBetter_0 (l : Launch) (K : aRs) (X : aXs) : tb (tbX0_isBetter l K X) 0 = sLd 2 1 isI := (rfl)
theorem wX0_isBetter_0 {l : Launch} {K : aRs} {X : aXs} {J : aK} {W : Nat → aK} (hW : isW (tbX0_isBetter l K X) cuX0_isBetter J W) (n : Nat) (ls st : List aV) (μ : aM) (g : Nat) : W (n + 1) 0 ls st μ g = (sLd 2 1 isI) (W n) ls st μ g := (hW n 0 ls st μ g).trans rfl
theorem wX0_isBetter_1 {l : Launch} {K : aRs} {X : aXs} {J : aK} {W : Nat → aK} (hW : isW (tbX0_isBetter l K X) cuX0_isBetter J W) (n : Nat) (ls st : List aV) (μ : aM) (g : Nat) : W (n + 1) 1 ls st μ g = (sLd 0 2 isR) (W n) ls st μ g := (hW n 1 ls st μ g).trans rfl
theorem wX0_isBetter_2 {l : Launch} {K : aRs} {X : aXs} {J : aK} {W : Nat → aK} (hW : isW (tbX0_isBetter l K X) cuX0_isBetter J W) (n : Nat) (ls st : List aV) (μ : aM) (g : Nat) : W (n + 1) 2 ls st μ g = (sGetI 0 1 5) (W n) ls st μ g := (hW n 2 ls st μ g).trans rfl
theorem wX0_isBetter_5 {l : Launch} {K : aRs} {X : aXs} {J : aK} {W : Nat → aK} (hW : isW (tbX0_isBetter l K X) cuX0_isBetter J W) (n : Nat) (ls st : List aV) (μ : aM) (g : Nat) : W (n + 1) 5 ls st μ g = (sIc qEq 22 8) (W n) ls st μ g := (hW n 5 ls st μ g).trans rfl
theorem wX0_isBetter_8 {l : Launch} {K : aRs} {X : aXs} {J : aK} {W : Nat → aK} (hW : isW (tbX0_isBetter l K X) cuX0_isBetter J W) (n : Nat) (ls st : List aV) (μ : aM) (g : Nat) : W (n + 1) 8 ls st μ g = (sLd 2 9 isI) (W n) ls st μ g := (hW n 8 ls st μ g).trans rfl
theorem wX0_isBetter_9 {l : Launch} {K : aRs} {X : aXs} {J : aK} {W : Nat → aK} (hW : isW (tbX0_isBetter l K X) cuX0_isBetter J W) (n : Nat) (ls st : List aV) (μ : aM) (g : Nat) : W (n + 1) 9 ls st μ g = (sLd 0 10 isR) (W n) ls st μ g := (hW n 9 ls st μ g).trans rfl
theorem wX0_isBetter_10 {l : Launch} {K : aRs} {X : aXs} {J : aK} {W : Nat → aK} (hW : isW (tbX0_isBetter l K X) cuX0_isBetter J W) (n : Nat) (ls st : List aV) (μ : aM) (g : Nat) : W (n + 1) 10 ls st μ g = (sGetI 0 1 13) (W n) ls st μ g := (hW n 10 ls st μ g).trans rfl
theorem wX0_isBetter_13 {l : Launch} {K : aRs} {X : aXs} {J : aK} {W : Nat → aK} (hW : isW (tbX0_isBetter l K X) cuX0_isBetter J W) (n : Nat) (ls st : List aV) (μ : aM) (g : Nat) : W (n + 1) 13 ls st μ g = (sIc qLe 20 16) (W n) ls st μ g := (hW n 13 ls st μ g).trans rfl
theorem wX0_isBetter_16 {l : Launch} {K : aRs} {X : aXs} {J : aK} {W : Nat → aK} (hW : isW (tbX0_isBetter l K X) cuX0_isBetter J W) (n : Nat) (ls st : List aV) (μ : aM) (g : Nat) : W (n + 1) 16 ls st μ g = (sPush (aI 1) 17) (W n) ls st μ g := (hW n 16 ls st μ g).trans rfl
theorem wX0_isBetter_17 {l : Launch} {K : aRs} {X : aXs} {J : aK} {W : Nat → aK} (hW : isW (tbX0_isBetter l K X) cuX0_isBetter J W) (n : Nat) (ls st : List aV) (μ : aM) (g : Nat) : W (n + 1) 17 ls st μ g = (sGoto 21) (W n) ls st μ g := (hW n 17 ls st μ g).trans rfl
theorem wX0_isBetter_20 {l : Launch} {K : aRs} {X : aXs} {J : aK} {W : Nat → aK} (hW : isW (tbX0_isBetter l K X) cuX0_isBetter J W) (n : Nat) (ls st : List aV) (μ : aM) (g : Nat) : W (n + 1) 20 ls st μ g = (sPush (aI 0) 21) (W n) ls st μ g := (hW n 20 ls st μ g).trans rfl
theorem wX0_isBetter_21 {l : Launch} {K : aRs} {X : aXs} {J : aK} {W : Nat → aK} (hW : isW (tbX0_isBetter l K X) cuX0_isBetter J W) (n : Nat) (ls st : List aV) (μ : aM) (g : Nat) : W (n + 1) 21 ls st μ g = (sRetI .boolean 0 K) (W n) ls st μ g := (hW n 21 ls st μ g).trans rfl
theorem wX0_isBetter_22 {l : Launch} {K : aRs} {X : aXs} {J : aK} {W : Nat → aK} (hW : isW (tbX0_isBetter l K X) cuX0_isBetter J W) (n : Nat) (ls st : List aV) (μ : aM) (g : Nat) : W (n + 1) 22 ls st μ g = (sLd 3 23 isI) (W n) ls st μ g := (hW n 22 ls st μ g).trans rfl
theorem wX0_isBetter_23 {l : Launch} {K : aRs} {X : aXs} {J : aK} {W : Nat → aK} (hW : isW (tbX0_isBetter l K X) cuX0_isBetter J W) (n : Nat) (ls st : List aV) (μ : aM) (g : Nat) : W (n + 1) 23 ls st μ g = (sLd 0 24 isR) (W n) ls st μ g := (hW n 23 ls st μ g).trans rfl
theorem wX0_isBetter_24 {l : Launch} {K : aRs} {X : aXs} {J : aK} {W : Nat → aK} (hW : isW (tbX0_isBetter l K X) cuX0_isBetter J W) (n : Nat) (ls st : List aV) (μ : aM) (g : Nat) : W (n + 1) 24 ls st μ g = (sGetI 0 2 27) (W n) ls st μ g := (hW n 24 ls st μ g).trans rfl
theorem wX0_isBetter_27 {l : Launch} {K : aRs} {X : aXs} {J : aK} {W : Nat → aK} (hW : isW (tbX0_isBetter l K X) cuX0_isBetter J W) (n : Nat) (ls st : List aV) (μ : aM) (g : Nat) : W (n + 1) 27 ls st μ g = (sIc qEq 44 30) (W n) ls st μ g := (hW n 27 ls st μ g).trans rfl
theorem wX0_isBetter_30 {l : Launch} {K : aRs} {X : aXs} {J : aK} {W : Nat → aK} (hW : isW (tbX0_isBetter l K X) cuX0_isBetter J W) (n : Nat) (ls st : List aV) (μ : aM) (g : Nat) : W (n + 1) 30 ls st μ g = (sLd 3 31 isI) (W n) ls st μ g := (hW n 30 ls st μ g).trans rfl
theorem wX0_isBetter_31 {l : Launch} {K : aRs} {X : aXs} {J : aK} {W : Nat → aK} (hW : isW (tbX0_isBetter l K X) cuX0_isBetter J W) (n : Nat) (ls st : List aV) (μ : aM) (g : Nat) : W (n + 1) 31 ls st μ g = (sLd 0 32 isR) (W n) ls st μ g := (hW n 31 ls st μ g).trans rfl
theorem wX0_isBetter_32 {l : Launch} {K : aRs} {X : aXs} {J : aK} {W : Nat → aK} (hW : isW (tbX0_isBetter l K X) cuX0_isBetter J W) (n : Nat) (ls st : List aV) (μ : aM) (g : Nat) : W (n + 1) 32 ls st μ g = (sGetI 0 2 35) (W n) ls st μ g := (hW n 32 ls st μ g).trans rfl
theorem wX0_isBetter_35 {l : Launch} {K : aRs} {X : aXs} {J : aK} {W : Nat → aK} (hW : isW (tbX0_isBetter l K X) cuX0_isBetter J W) (n : Nat) (ls st : List aV) (μ : aM) (g : Nat) : W (n + 1) 35 ls st μ g = (sIc qGe 42 38) (W n) ls st μ g := (hW n 35 ls st μ g).trans rfl
theorem wX0_isBetter_38 {l : Launch} {K : aRs} {X : aXs} {J : aK} {W : Nat → aK} (hW : isW (tbX0_isBetter l K X) cuX0_isBetter J W) (n : Nat) (ls st : List aV) (μ : aM) (g : Nat) : W (n + 1) 38 ls st μ g = (sPush (aI 1) 39) (W n) ls st μ g := (hW n 38 ls st μ g).trans rfl
theorem wX0_isBetter_39 {l : Launch} {K : aRs} {X : aXs} {J : aK} {W : Nat → aK} (hW : isW (tbX0_isBetter l K X) cuX0_isBetter J W) (n : Nat) (ls st : List aV) (μ : aM) (g : Nat) : W (n + 1) 39 ls st μ g = (sGoto 43) (W n) ls st μ g := (hW n 39 ls st μ g).trans rfl
theorem wX0_isBetter_42 {l : Launch} {K : aRs} {X : aXs} {J : aK} {W : Nat → aK} (hW : isW (tbX0_isBetter l K X) cuX0_isBetter J W) (n : Nat) (ls st : List aV) (μ : aM) (g : Nat) : W (n + 1) 42 ls st μ g = (sPush (aI 0) 43) (W n) ls st μ g := (hW n 42 ls st μ g).trans rfl
theorem wX0_isBetter_43 {l : Launch} {K : aRs} {X : aXs} {J : aK} {W : Nat → aK} (hW : isW (tbX0_isBetter l K X) cuX0_isBetter J W) (n : Nat) (ls st : List aV) (μ : aM) (g : Nat) : W (n + 1) 43 ls st μ g = (sRetI .boolean 0 K) (W n) ls st μ g := (hW n 43 ls st μ g).trans rfl
theorem wX0_isBetter_44 {l : Launch} {K : aRs} {X : aXs} {J : aK} {W : Nat → aK} (hW : isW (tbX0_isBetter l K X) cuX0_isBetter J W) (n : Nat) (ls st : List aV) (μ : aM) (g : Nat) : W (n + 1) 44 ls st μ g = (sLd 1 45 isI) (W n) ls st μ g := (hW n 44 ls st μ g).trans rfl
theorem wX0_isBetter_45 {l : Launch} {K : aRs} {X : aXs} {J : aK} {W : Nat → aK} (hW : isW (tbX0_isBetter l K X) cuX0_isBetter J W) (n : Nat) (ls st : List aV) (μ : aM) (g : Nat) : W (n + 1) 45 ls st μ g = (sLd 0 46 isR) (W n) ls st μ g := (hW n 45 ls st μ g).trans rfl
theorem wX0_isBetter_46 {l : Launch} {K : aRs} {X : aXs} {J : aK} {W : Nat → aK} (hW : isW (tbX0_isBetter l K X) cuX0_isBetter J W) (n : Nat) (ls st : List aV) (μ : aM) (g : Nat) : W (n + 1) 46 ls st μ g = (sGetI 0 0 49) (W n) ls st μ g := (hW n 46 ls st μ g).trans rfl
theorem wX0_isBetter_49 {l : Launch} {K : aRs} {X : aXs} {J : aK} {W : Nat → aK} (hW : isW (tbX0_isBetter l K X) cuX0_isBetter J W) (n : Nat) (ls st : List aV) (μ : aM) (g : Nat) : W (n + 1) 49 ls st μ g = (sIc qGe 56 52) (W n) ls st μ g := (hW n 49 ls st μ g).trans rfl
theorem wX0_isBetter_52 {l : Launch} {K : aRs} {X : aXs} {J : aK} {W : Nat → aK} (hW : isW (tbX0_isBetter l K X) cuX0_isBetter J W) (n : Nat) (ls st : List aV) (μ : aM) (g : Nat) : W (n + 1) 52 ls st μ g = (sPush (aI 1) 53) (W n) ls st μ g := (hW n 52 ls st μ g).trans rfl
theorem wX0_isBetter_53 {l : Launch} {K : aRs} {X : aXs} {J : aK} {W : Nat → aK} (hW : isW (tbX0_isBetter l K X) cuX0_isBetter J W) (n : Nat) (ls st : List aV) (μ : aM) (g : Nat) : W (n + 1) 53 ls st μ g = (sGoto 57) (W n) ls st μ g := (hW n 53 ls st μ g).trans rfl
theorem wX0_isBetter_56 {l : Launch} {K : aRs} {X : aXs} {J : aK} {W : Nat → aK} (hW : isW (tbX0_isBetter l K X) cuX0_isBetter J W) (n : Nat) (ls st : List aV) (μ : aM) (g : Nat) : W (n + 1) 56 ls st μ g = (sPush (aI 0) 57) (W n) ls st μ g := (hW n 56 ls st μ g).trans rfl
theorem wX0_isBetter_57 {l : Launch} {K : aRs} {X : aXs} {J : aK} {W : Nat → aK} (hW : isW (tbX0_isBetter l K X) cuX0_isBetter J W) (n : Nat) (ls st : List aV) (μ : aM) (g : Nat) : W (n + 1) 57 ls st μ g = (sRetI .boolean 0 K) (W n) ls st μ g := (hW n 57 ls st μ g).trans rfl
theorem dX1_init_0 : decode cX1_init 0 = .ok (.aload_n 0, 1) := by decide +kernel
theorem dX1_init_1 : decode cX1_init 1 = .ok (.invokespecial 3, 3) := by decide +kernel
theorem dX1_init_4 : decode cX1_init 4 = .ok (.aload_n 0, 1) := by decide +kernel
theorem dX1_init_5 : decode cX1_init 5 = .ok (.iload_n 1, 1) := by decide +kernel
theorem dX1_init_6 : decode cX1_init 6 = .ok (.putfield 9, 3) := by decide +kernel
theorem dX1_init_9 : decode cX1_init 9 = .ok (.aload_n 0, 1) := by decide +kernel
theorem dX1_init_10 : decode cX1_init 10 = .ok (.aconst_null, 1) := by decide +kernel
theorem dX1_init_11 : decode cX1_init 11 = .ok (.putfield 15, 3) := by decide +kernel
theorem dX1_init_14 : decode cX1_init 14 = .ok (.return_, 1) := by decide +kernel
def tbX1_init (l : Launch) (K : aRs) (X : aXs) : aTb := [
  (0, sLd 0 1 isR),
  (1, sObj 4),
  (4, sLd 0 5 isR),
  (5, sLd 1 6 isI),
  (6, sPutI 1 0 9),
  (9, sLd 0 10 isR),
  (10, sPush (aR 0) 11),
  (11, sPutR 1 1 14),
  (14, sRetV 0 K)]
theorem snX1_init (l : Launch) (K : aRs) (X : aXs) (n0 : Nat) : ∀ q ∈ tbX1_init l K X, aSo l mdX1_init K X n0 q.1 q.2 :=
  tc (fun p e s m args below meth c cA D A ad0 h => ok_aload_n h.1 0 rfl dX1_init_0) <|
  tc (fun p e s m args below meth c cA D A ad0 h => ok_objInit h.1 mkRX1_3 oi1 oi2 dX1_init_1) <|
  tc (fun p e s m args below meth c cA D A ad0 h => ok_aload_n h.1 0 rfl dX1_init_4) <|
  tc (fun p e s m args below meth c cA D A ad0 h => ok_iload_n h.1 1 rfl dX1_init_5) <|
  tc (fun p e s m args below meth c cA D A ad0 h => ok_putI h.1 cxX1 (by decide) rfl fkRX1_9 (Or.inr ⟨h.2.2.2.2, rfl⟩) (fun _ _ _ => rfl) (Or.inr (Or.inl rfl)) dX1_init_6) <|
  tc (fun p e s m args below meth c cA D A ad0 h => ok_aload_n h.1 0 rfl dX1_init_9) <|
  tc (fun p e s m args below meth c cA D A ad0 h => ok_null h.1 dX1_init_10) <|
  tc (fun p e s m args below meth c cA D A ad0 h => ok_putR h.1 cxX1 (by decide) rfl fkRX1_15 (Or.inr ⟨h.2.2.2.2, rfl⟩) (fun _ _ _ => rfl) (Or.inl ⟨_, rfl⟩) dX1_init_11) <|
  tc (fun p e s m args below meth c cA D A ad0 h => ok_return h.1 h.2.2.2.1 dX1_init_14) <|
  tn
abbrev cuX1_init : List Nat := []
theorem tX1_init_0 (l : Launch) (K : aRs) (X : aXs) : tb (tbX1_init l K X) 0 = sLd 0 1 isR := (rfl)
theorem wX1_init_0 {l : Launch} {K : aRs} {X : aXs} {J : aK} {W : Nat → aK} (hW : isW (tbX1_init l K X) cuX1_init J W) (n : Nat) (ls st : List aV) (μ : aM) (g : Nat) : W (n + 1) 0 ls st μ g = (sLd 0 1 isR) (W n) ls st μ g := (hW n 0 ls st μ g).trans rfl
theorem wX1_init_1 {l : Launch} {K : aRs} {X : aXs} {J : aK} {W : Nat → aK} (hW : isW (tbX1_init l K X) cuX1_init J W) (n : Nat) (ls st : List aV) (μ : aM) (g : Nat) : W (n + 1) 1 ls st μ g = (sObj 4) (W n) ls st μ g := (hW n 1 ls st μ g).trans rfl
theorem wX1_init_4 {l : Launch} {K : aRs} {X : aXs} {J : aK} {W : Nat → aK} (hW : isW (tbX1_init l K X) cuX1_init J W) (n : Nat) (ls st : List aV) (μ : aM) (g : Nat) : W (n + 1) 4 ls st μ g = (sLd 0 5 isR) (W n) ls st μ g := (hW n 4 ls st μ g).trans rfl
theorem wX1_init_5 {l : Launch} {K : aRs} {X : aXs} {J : aK} {W : Nat → aK} (hW : isW (tbX1_init l K X) cuX1_init J W) (n : Nat) (ls st : List aV) (μ : aM) (g : Nat) : W (n + 1) 5 ls st μ g = (sLd 1 6 isI) (W n) ls st μ g := (hW n 5 ls st μ g).trans rfl
theorem wX1_init_6 {l : Launch} {K : aRs} {X : aXs} {J : aK} {W : Nat → aK} (hW : isW (tbX1_init l K X) cuX1_init J W) (n : Nat) (ls st : List aV) (μ : aM) (g : Nat) : W (n + 1) 6 ls st μ g = (sPutI 1 0 9) (W n) ls st μ g := (hW n 6 ls st μ g).trans rfl
theorem wX1_init_9 {l : Launch} {K : aRs} {X : aXs} {J : aK} {W : Nat → aK} (hW : isW (tbX1_init l K X) cuX1_init J W) (n : Nat) (ls st : List aV) (μ : aM) (g : Nat) : W (n + 1) 9 ls st μ g = (sLd 0 10 isR) (W n) ls st μ g := (hW n 9 ls st μ g).trans rfl
theorem wX1_init_10 {l : Launch} {K : aRs} {X : aXs} {J : aK} {W : Nat → aK} (hW : isW (tbX1_init l K X) cuX1_init J W) (n : Nat) (ls st : List aV) (μ : aM) (g : Nat) : W (n + 1) 10 ls st μ g = (sPush (aR 0) 11) (W n) ls st μ g := (hW n 10 ls st μ g).trans rfl
theorem wX1_init_11 {l : Launch} {K : aRs} {X : aXs} {J : aK} {W : Nat → aK} (hW : isW (tbX1_init l K X) cuX1_init J W) (n : Nat) (ls st : List aV) (μ : aM) (g : Nat) : W (n + 1) 11 ls st μ g = (sPutR 1 1 14) (W n) ls st μ g := (hW n 11 ls st μ g).trans rfl
theorem wX1_init_14 {l : Launch} {K : aRs} {X : aXs} {J : aK} {W : Nat → aK} (hW : isW (tbX1_init l K X) cuX1_init J W) (n : Nat) (ls st : List aV) (μ : aM) (g : Nat) : W (n + 1) 14 ls st μ g = (sRetV 0 K) (W n) ls st μ g := (hW n 14 ls st μ g).trans rfl
theorem dX1_isAtLeast_0 : decode cX1_isAtLeast 0 = .ok (.aload_n 0, 1) := by decide +kernel
theorem dX1_isAtLeast_1 : decode cX1_isAtLeast 1 = .ok (.getfield 9, 3) := by decide +kernel
theorem dX1_isAtLeast_4 : decode cX1_isAtLeast 4 = .ok (.ifCond .eq 16, 3) := by decide +kernel
theorem dX1_isAtLeast_7 : decode cX1_isAtLeast 7 = .ok (.iload_n 1, 1) := by decide +kernel
theorem dX1_isAtLeast_8 : decode cX1_isAtLeast 8 = .ok (.iload_n 2, 1) := by decide +kernel
theorem dX1_isAtLeast_9 : decode cX1_isAtLeast 9 = .ok (.if_icmp .lt 7, 3) := by decide +kernel
theorem dX1_isAtLeast_12 : decode cX1_isAtLeast 12 = .ok (.iconst 1, 1) := by decide +kernel
theorem dX1_isAtLeast_13 : decode cX1_isAtLeast 13 = .ok (.goto 17, 3) := by decide +kernel
theorem dX1_isAtLeast_16 : decode cX1_isAtLeast 16 = .ok (.iconst 0, 1) := by decide +kernel
theorem dX1_isAtLeast_17 : decode cX1_isAtLeast 17 = .ok (.goto 13, 3) := by decide +kernel
theorem dX1_isAtLeast_20 : decode cX1_isAtLeast 20 = .ok (.iload_n 1, 1) := by decide +kernel
theorem dX1_isAtLeast_21 : decode cX1_isAtLeast 21 = .ok (.iload_n 2, 1) := by decide +kernel
theorem dX1_isAtLeast_22 : decode cX1_isAtLeast 22 = .ok (.if_icmp .gt 7, 3) := by decide +kernel
theorem dX1_isAtLeast_25 : decode cX1_isAtLeast 25 = .ok (.iconst 1, 1) := by decide +kernel
theorem dX1_isAtLeast_26 : decode cX1_isAtLeast 26 = .ok (.goto 4, 3) := by decide +kernel
theorem dX1_isAtLeast_29 : decode cX1_isAtLeast 29 = .ok (.iconst 0, 1) := by decide +kernel
theorem dX1_isAtLeast_30 : decode cX1_isAtLeast 30 = .ok (.ireturn, 1) := by decide +kernel
def tbX1_isAtLeast (l : Launch) (K : aRs) (X : aXs) : aTb := [
  (0, sLd 0 1 isR),
  (1, sGetI 1 0 4),
  (4, sIf pEq 20 7),
  (7, sLd 1 8 isI),
  (8, sLd 2 9 isI),
  (9, sIc qLt 16 12),
  (12, sPush (aI 1) 13),
  (13, sGoto 30),
  (16, sPush (aI 0) 17),
  (17, sGoto 30),
  (20, sLd 1 21 isI),
  (21, sLd 2 22 isI),
  (22, sIc qGt 29 25),
  (25, sPush (aI 1) 26),
  (26, sGoto 30),
  (29, sPush (aI 0) 30),
  (30, sRetI .boolean 0 K)]
theorem snX1_isAtLeast (l : Launch) (K : aRs) (X : aXs) (n0 : Nat) : ∀ q ∈ tbX1_isAtLeast l K X, aSo l mdX1_isAtLeast K X n0 q.1 q.2 :=
  tc (fun p e s m args below meth c cA D A ad0 h => ok_aload_n h.1 0 rfl dX1_isAtLeast_0) <|
  tc (fun p e s m args below meth c cA D A ad0 h => ok_getI h.1 cxX1 (by decide) rfl fkRX1_9 (fun _ _ _ => rfl) dX1_isAtLeast_1) <|
  tc (fun p e s m args below meth c cA D A ad0 h => ok_if_eq h.1 20 (by decide) dX1_isAtLeast_4) <|
  tc (fun p e s m args below meth c cA D A ad0 h => ok_iload_n h.1 1 rfl dX1_isAtLeast_7) <|
  tc (fun p e s m args below meth c cA D A ad0 h => ok_iload_n h.1 2 rfl dX1_isAtLeast_8) <|
  tc (fun p e s m args below meth c cA D A ad0 h => ok_icmp_lt h.1 16 (by decide) dX1_isAtLeast_9) <|
  tc (fun p e s m args below meth c cA D A ad0 h => ok_iconst h.1 ⟨by decide, by decide⟩ dX1_isAtLeast_12) <|
  tc (fun p e s m args below meth c cA D A ad0 h => ok_goto h.1 30 (by decide) dX1_isAtLeast_13) <|
  tc (fun p e s m args below meth c cA D A ad0 h => ok_iconst h.1 ⟨by decide, by decide⟩ dX1_isAtLeast_16) <|
  tc (fun p e s m args below meth c cA D A ad0 h => ok_goto h.1 30 (by decide) dX1_isAtLeast_17) <|
  tc (fun p e s m args below meth c cA D A ad0 h => ok_iload_n h.1 1 rfl dX1_isAtLeast_20) <|
  tc (fun p e s m args below meth c cA D A ad0 h => ok_iload_n h.1 2 rfl dX1_isAtLeast_21) <|
  tc (fun p e s m args below meth c cA D A ad0 h => ok_icmp_gt h.1 29 (by decide) dX1_isAtLeast_22) <|
  tc (fun p e s m args below meth c cA D A ad0 h => ok_iconst h.1 ⟨by decide, by decide⟩ dX1_isAtLeast_25) <|
  tc (fun p e s m args below meth c cA D A ad0 h => ok_goto h.1 30 (by decide) dX1_isAtLeast_26) <|
  tc (fun p e s m args below meth c cA D A ad0 h => ok_iconst h.1 ⟨by decide, by decide⟩ dX1_isAtLeast_29) <|
  tc (fun p e s m args below meth c cA D A ad0 h => ok_ireturn h.1 h.2.2.2.1 (Or.inr (Or.inl rfl)) dX1_isAtLeast_30) <|
  tn
abbrev cuX1_isAtLeast : List Nat := []
theorem tX1_isAtLeast_0 (l : Launch) (K : aRs) (X : aXs) : tb (tbX1_isAtLeast l K X) 0 = sLd 0 1 isR := (rfl)
theorem wX1_isAtLeast_0 {l : Launch} {K : aRs} {X : aXs} {J : aK} {W : Nat → aK} (hW : isW (tbX1_isAtLeast l K X) cuX1_isAtLeast J W) (n : Nat) (ls st : List aV) (μ : aM) (g : Nat) : W (n + 1) 0 ls st μ g = (sLd 0 1 isR) (W n) ls st μ g := (hW n 0 ls st μ g).trans rfl
theorem wX1_isAtLeast_1 {l : Launch} {K : aRs} {X : aXs} {J : aK} {W : Nat → aK} (hW : isW (tbX1_isAtLeast l K X) cuX1_isAtLeast J W) (n : Nat) (ls st : List aV) (μ : aM) (g : Nat) : W (n + 1) 1 ls st μ g = (sGetI 1 0 4) (W n) ls st μ g := (hW n 1 ls st μ g).trans rfl
theorem wX1_isAtLeast_4 {l : Launch} {K : aRs} {X : aXs} {J : aK} {W : Nat → aK} (hW : isW (tbX1_isAtLeast l K X) cuX1_isAtLeast J W) (n : Nat) (ls st : List aV) (μ : aM) (g : Nat) : W (n + 1) 4 ls st μ g = (sIf pEq 20 7) (W n) ls st μ g := (hW n 4 ls st μ g).trans rfl
theorem wX1_isAtLeast_7 {l : Launch} {K : aRs} {X : aXs} {J : aK} {W : Nat → aK} (hW : isW (tbX1_isAtLeast l K X) cuX1_isAtLeast J W) (n : Nat) (ls st : List aV) (μ : aM) (g : Nat) : W (n + 1) 7 ls st μ g = (sLd 1 8 isI) (W n) ls st μ g := (hW n 7 ls st μ g).trans rfl
theorem wX1_isAtLeast_8 {l : Launch} {K : aRs} {X : aXs} {J : aK} {W : Nat → aK} (hW : isW (tbX1_isAtLeast l K X) cuX1_isAtLeast J W) (n : Nat) (ls st : List aV) (μ : aM) (g : Nat) : W (n + 1) 8 ls st μ g = (sLd 2 9 isI) (W n) ls st μ g := (hW n 8 ls st μ g).trans rfl
theorem wX1_isAtLeast_9 {l : Launch} {K : aRs} {X : aXs} {J : aK} {W : Nat → aK} (hW : isW (tbX1_isAtLeast l K X) cuX1_isAtLeast J W) (n : Nat) (ls st : List aV) (μ : aM) (g : Nat) : W (n + 1) 9 ls st μ g = (sIc qLt 16 12) (W n) ls st μ g := (hW n 9 ls st μ g).trans rfl
theorem wX1_isAtLeast_12 {l : Launch} {K : aRs} {X : aXs} {J : aK} {W : Nat → aK} (hW : isW (tbX1_isAtLeast l K X) cuX1_isAtLeast J W) (n : Nat) (ls st : List aV) (μ : aM) (g : Nat) : W (n + 1) 12 ls st μ g = (sPush (aI 1) 13) (W n) ls st μ g := (hW n 12 ls st μ g).trans rfl
theorem wX1_isAtLeast_13 {l : Launch} {K : aRs} {X : aXs} {J : aK} {W : Nat → aK} (hW : isW (tbX1_isAtLeast l K X) cuX1_isAtLeast J W) (n : Nat) (ls st : List aV) (μ : aM) (g : Nat) : W (n + 1) 13 ls st μ g = (sGoto 30) (W n) ls st μ g := (hW n 13 ls st μ g).trans rfl
theorem wX1_isAtLeast_16 {l : Launch} {K : aRs} {X : aXs} {J : aK} {W : Nat → aK} (hW : isW (tbX1_isAtLeast l K X) cuX1_isAtLeast J W) (n : Nat) (ls st : List aV) (μ : aM) (g : Nat) : W (n + 1) 16 ls st μ g = (sPush (aI 0) 17) (W n) ls st μ g := (hW n 16 ls st μ g).trans rfl
theorem wX1_isAtLeast_17 {l : Launch} {K : aRs} {X : aXs} {J : aK} {W : Nat → aK} (hW : isW (tbX1_isAtLeast l K X) cuX1_isAtLeast J W) (n : Nat) (ls st : List aV) (μ : aM) (g : Nat) : W (n + 1) 17 ls st μ g = (sGoto 30) (W n) ls st μ g := (hW n 17 ls st μ g).trans rfl
theorem wX1_isAtLeast_20 {l : Launch} {K : aRs} {X : aXs} {J : aK} {W : Nat → aK} (hW : isW (tbX1_isAtLeast l K X) cuX1_isAtLeast J W) (n : Nat) (ls st : List aV) (μ : aM) (g : Nat) : W (n + 1) 20 ls st μ g = (sLd 1 21 isI) (W n) ls st μ g := (hW n 20 ls st μ g).trans rfl
theorem wX1_isAtLeast_21 {l : Launch} {K : aRs} {X : aXs} {J : aK} {W : Nat → aK} (hW : isW (tbX1_isAtLeast l K X) cuX1_isAtLeast J W) (n : Nat) (ls st : List aV) (μ : aM) (g : Nat) : W (n + 1) 21 ls st μ g = (sLd 2 22 isI) (W n) ls st μ g := (hW n 21 ls st μ g).trans rfl
theorem wX1_isAtLeast_22 {l : Launch} {K : aRs} {X : aXs} {J : aK} {W : Nat → aK} (hW : isW (tbX1_isAtLeast l K X) cuX1_isAtLeast J W) (n : Nat) (ls st : List aV) (μ : aM) (g : Nat) : W (n + 1) 22 ls st μ g = (sIc qGt 29 25) (W n) ls st μ g := (hW n 22 ls st μ g).trans rfl
theorem wX1_isAtLeast_25 {l : Launch} {K : aRs} {X : aXs} {J : aK} {W : Nat → aK} (hW : isW (tbX1_isAtLeast l K X) cuX1_isAtLeast J W) (n : Nat) (ls st : List aV) (μ : aM) (g : Nat) : W (n + 1) 25 ls st μ g = (sPush (aI 1) 26) (W n) ls st μ g := (hW n 25 ls st μ g).trans rfl
theorem wX1_isAtLeast_26 {l : Launch} {K : aRs} {X : aXs} {J : aK} {W : Nat → aK} (hW : isW (tbX1_isAtLeast l K X) cuX1_isAtLeast J W) (n : Nat) (ls st : List aV) (μ : aM) (g : Nat) : W (n + 1) 26 ls st μ g = (sGoto 30) (W n) ls st μ g := (hW n 26 ls st μ g).trans rfl
theorem wX1_isAtLeast_29 {l : Launch} {K : aRs} {X : aXs} {J : aK} {W : Nat → aK} (hW : isW (tbX1_isAtLeast l K X) cuX1_isAtLeast J W) (n : Nat) (ls st : List aV) (μ : aM) (g : Nat) : W (n + 1) 29 ls st μ g = (sPush (aI 0) 30) (W n) ls st μ g := (hW n 29 ls st μ g).trans rfl
theorem wX1_isAtLeast_30 {l : Launch} {K : aRs} {X : aXs} {J : aK} {W : Nat → aK} (hW : isW (tbX1_isAtLeast l K X) cuX1_isAtLeast J W) (n : Nat) (ls st : List aV) (μ : aM) (g : Nat) : W (n + 1) 30 ls st μ g = (sRetI .boolean 0 K) (W n) ls st μ g := (hW n 30 ls st μ g).trans rfl
theorem dX1_putIn_0 : decode cX1_putIn 0 = .ok (.aconst_null, 1) := by decide +kernel
theorem dX1_putIn_1 : decode cX1_putIn 1 = .ok (.astore_n 2, 1) := by decide +kernel
theorem dX1_putIn_2 : decode cX1_putIn 2 = .ok (.aload_n 0, 1) := by decide +kernel
theorem dX1_putIn_3 : decode cX1_putIn 3 = .ok (.getfield 15, 3) := by decide +kernel
theorem dX1_putIn_6 : decode cX1_putIn 6 = .ok (.astore_n 3, 1) := by decide +kernel
theorem dX1_putIn_7 : decode cX1_putIn 7 = .ok (.aload_n 3, 1) := by decide +kernel
theorem dX1_putIn_8 : decode cX1_putIn 8 = .ok (.ifnull 28, 3) := by decide +kernel
theorem dX1_putIn_11 : decode cX1_putIn 11 = .ok (.aload_n 0, 1) := by decide +kernel
theorem dX1_putIn_12 : decode cX1_putIn 12 = .ok (.aload_n 3, 1) := by decide +kernel
theorem dX1_putIn_13 : decode cX1_putIn 13 = .ok (.getfield 19, 3) := by decide +kernel
theorem dX1_putIn_16 : decode cX1_putIn 16 = .ok (.aload_n 1, 1) := by decide +kernel
theorem dX1_putIn_17 : decode cX1_putIn 17 = .ok (.getfield 19, 3) := by decide +kernel
theorem dX1_putIn_20 : decode cX1_putIn 20 = .ok (.invokevirtual 25, 3) := by decide +kernel
theorem dX1_putIn_23 : decode cX1_putIn 23 = .ok (.ifCond .eq 13, 3) := by decide +kernel
theorem dX1_putIn_26 : decode cX1_putIn 26 = .ok (.aload_n 3, 1) := by decide +kernel
theorem dX1_putIn_27 : decode cX1_putIn 27 = .ok (.astore_n 2, 1) := by decide +kernel
theorem dX1_putIn_28 : decode cX1_putIn 28 = .ok (.aload_n 3, 1) := by decide +kernel
theorem dX1_putIn_29 : decode cX1_putIn 29 = .ok (.getfield 29, 3) := by decide +kernel
theorem dX1_putIn_32 : decode cX1_putIn 32 = .ok (.astore_n 3, 1) := by decide +kernel
theorem dX1_putIn_33 : decode cX1_putIn 33 = .ok (.goto (-26), 3) := by decide +kernel
theorem dX1_putIn_36 : decode cX1_putIn 36 = .ok (.aload_n 2, 1) := by decide +kernel
theorem dX1_putIn_37 : decode cX1_putIn 37 = .ok (.ifnonnull 19, 3) := by decide +kernel
theorem dX1_putIn_40 : decode cX1_putIn 40 = .ok (.aload_n 1, 1) := by decide +kernel
theorem dX1_putIn_41 : decode cX1_putIn 41 = .ok (.aload_n 0, 1) := by decide +kernel
theorem dX1_putIn_42 : decode cX1_putIn 42 = .ok (.getfield 15, 3) := by decide +kernel
theorem dX1_putIn_45 : decode cX1_putIn 45 = .ok (.putfield 29, 3) := by decide +kernel
theorem dX1_putIn_48 : decode cX1_putIn 48 = .ok (.aload_n 0, 1) := by decide +kernel
theorem dX1_putIn_49 : decode cX1_putIn 49 = .ok (.aload_n 1, 1) := by decide +kernel
theorem dX1_putIn_50 : decode cX1_putIn 50 = .ok (.putfield 15, 3) := by decide +kernel
theorem dX1_putIn_53 : decode cX1_putIn 53 = .ok (.goto 16, 3) := by decide +kernel
theorem dX1_putIn_56 : decode cX1_putIn 56 = .ok (.aload_n 1, 1) := by decide +kernel
theorem dX1_putIn_57 : decode cX1_putIn 57 = .ok (.aload_n 2, 1) := by decide +kernel
theorem dX1_putIn_58 : decode cX1_putIn 58 = .ok (.getfield 29, 3) := by decide +kernel
theorem dX1_putIn_61 : decode cX1_putIn 61 = .ok (.putfield 29, 3) := by decide +kernel
theorem dX1_putIn_64 : decode cX1_putIn 64 = .ok (.aload_n 2, 1) := by decide +kernel
theorem dX1_putIn_65 : decode cX1_putIn 65 = .ok (.aload_n 1, 1) := by decide +kernel
theorem dX1_putIn_66 : decode cX1_putIn 66 = .ok (.putfield 29, 3) := by decide +kernel
theorem dX1_putIn_69 : decode cX1_putIn 69 = .ok (.return_, 1) := by decide +kernel
def tbX1_putIn (l : Launch) (K : aRs) (X : aXs) : aTb := [
  (0, sPush (aR 0) 1),
  (1, sSt 2 2 isR),
  (2, sLd 0 3 isR),
  (3, sGetR 1 1 6),
  (6, sSt 3 7 isR),
  (7, sLd 3 8 isR),
  (8, sNul 36 11),
  (11, sLd 0 12 isR),
  (12, sLd 3 13 isR),
  (13, sGetI 2 4 16),
  (16, sLd 1 17 isR),
  (17, sGetI 2 4 20),
  (20, sCallV 2 1 (fun as μ K => Ct l mdX1_isAtLeast as μ K X) 23 0 0),
  (23, sIf pEq 36 26),
  (26, sLd 3 27 isR),
  (27, sSt 2 28 isR),
  (28, sLd 3 29 isR),
  (29, sGetR 2 11 32),
  (32, sSt 3 33 isR),
  (33, sGoto 7),
  (36, sLd 2 37 isR),
  (37, sNn 56 40),
  (40, sLd 1 41 isR),
  (41, sLd 0 42 isR),
  (42, sGetR 1 1 45),
  (45, sPutR 2 11 48),
  (48, sLd 0 49 isR),
  (49, sLd 1 50 isR),
  (50, sPutR 1 1 53),
  (53, sGoto 69),
  (56, sLd 1 57 isR),
  (57, sLd 2 58 isR),
  (58, sGetR 2 11 61),
  (61, sPutR 2 11 64),
  (64, sLd 2 65 isR),
  (65, sLd 1 66 isR),
  (66, sPutR 2 11 69),
  (69, sRetV 0 K)]
theorem snX1_putIn (l : Launch) (K : aRs) (X : aXs) (n0 : Nat) : ∀ q ∈ tbX1_putIn l K X, aSo l mdX1_putIn K X n0 q.1 q.2 :=
  tc (fun p e s m args below meth c cA D A ad0 h => ok_null h.1 dX1_putIn_0) <|
  tc (fun p e s m args below meth c cA D A ad0 h => ok_astore_n h.1 2 rfl (by decide) dX1_putIn_1) <|
  tc (fun p e s m args below meth c cA D A ad0 h => ok_aload_n h.1 0 rfl dX1_putIn_2) <|
  tc (fun p e s m args below meth c cA D A ad0 h => ok_getR h.1 cxX1 (by decide) rfl fkRX1_15 (fun _ _ _ => rfl) dX1_putIn_3) <|
  tc (fun p e s m args below meth c cA D A ad0 h => ok_astore_n h.1 3 rfl (by decide) dX1_putIn_6) <|
  tc (fun p e s m args below meth c cA D A ad0 h => ok_aload_n h.1 3 rfl dX1_putIn_7) <|
  tc (fun p e s m args below meth c cA D A ad0 h => ok_ifnull h.1 36 (by decide) dX1_putIn_8) <|
  tc (fun p e s m args below meth c cA D A ad0 h => ok_aload_n h.1 0 rfl dX1_putIn_11) <|
  tc (fun p e s m args below meth c cA D A ad0 h => ok_aload_n h.1 3 rfl dX1_putIn_12) <|
  tc (fun p e s m args below meth c cA D A ad0 h => ok_getI h.1 cxX2 (by decide) rfl fkRX1_19 (fun _ _ _ => rfl) dX1_putIn_13) <|
  tc (fun p e s m args below meth c cA D A ad0 h => ok_aload_n h.1 1 rfl dX1_putIn_16) <|
  tc (fun p e s m args below meth c cA D A ad0 h => ok_getI h.1 cxX2 (by decide) rfl fkRX1_19 (fun _ _ _ => rfl) dX1_putIn_17) <|
  tc (fun p e s m args below meth c cA D A ad0 h => ok_callV h.1 h.2.1 ⟨Nat.le_refl _, Nat.le_refl _⟩ mdX1_isAtLeast siX1_isAtLeast cxX1 mkRX1_25 imX1_isAtLeast seX1_isAtLeast ⟨by decide, by decide⟩ (aAx_out h.1 h.2.2.1 _) dX1_putIn_20) <|
  tc (fun p e s m args below meth c cA D A ad0 h => ok_if_eq h.1 36 (by decide) dX1_putIn_23) <|
  tc (fun p e s m args below meth c cA D A ad0 h => ok_aload_n h.1 3 rfl dX1_putIn_26) <|
  tc (fun p e s m args below meth c cA D A ad0 h => ok_astore_n h.1 2 rfl (by decide) dX1_putIn_27) <|
  tc (fun p e s m args below meth c cA D A ad0 h => ok_aload_n h.1 3 rfl dX1_putIn_28) <|
  tc (fun p e s m args below meth c cA D A ad0 h => ok_getR h.1 cxX2 (by decide) rfl fkRX1_29 (fun _ _ _ => rfl) dX1_putIn_29) <|
  tc (fun p e s m args below meth c cA D A ad0 h => ok_astore_n h.1 3 rfl (by decide) dX1_putIn_32) <|
  tc (fun p e s m args below meth c cA D A ad0 h => ok_goto h.1 7 (by decide) dX1_putIn_33) <|
  tc (fun p e s m args below meth c cA D A ad0 h => ok_aload_n h.1 2 rfl dX1_putIn_36) <|
  tc (fun p e s m args below meth c cA D A ad0 h => ok_ifnonnull h.1 56 (by decide) dX1_putIn_37) <|
  tc (fun p e s m args below meth c cA D A ad0 h => ok_aload_n h.1 1 rfl dX1_putIn_40) <|
  tc (fun p e s m args below meth c cA D A ad0 h => ok_aload_n h.1 0 rfl dX1_putIn_41) <|
  tc (fun p e s m args below meth c cA D A ad0 h => ok_getR h.1 cxX1 (by decide) rfl fkRX1_15 (fun _ _ _ => rfl) dX1_putIn_42) <|
  tc (fun p e s m args below meth c cA D A ad0 h => ok_putR h.1 cxX2 (by decide) rfl fkRX1_29 (Or.inl rfl) (fun _ _ _ => rfl) (Or.inl ⟨_, rfl⟩) dX1_putIn_45) <|
  tc (fun p e s m args below meth c cA D A ad0 h => ok_aload_n h.1 0 rfl dX1_putIn_48) <|
  tc (fun p e s m args below meth c cA D A ad0 h => ok_aload_n h.1 1 rfl dX1_putIn_49) <|
  tc (fun p e s m args below meth c cA D A ad0 h => ok_putR h.1 cxX1 (by decide) rfl fkRX1_15 (Or.inl rfl) (fun _ _ _ => rfl) (Or.inl ⟨_, rfl⟩) dX1_putIn_50) <|
  tc (fun p e s m args below meth c cA D A ad0 h => ok_goto h.1 69 (by decide) dX1_putIn_53) <|
  tc (fun p e s m args below meth c cA D A ad0 h => ok_aload_n h.1 1 rfl dX1_putIn_56) <|
  tc (fun p e s m args below meth c cA D A ad0 h => ok_aload_n h.1 2 rfl dX1_putIn_57) <|
  tc (fun p e s m args below meth c cA D A ad0 h => ok_getR h.1 cxX2 (by decide) rfl fkRX1_29 (fun _ _ _ => rfl) dX1_putIn_58) <|
  tc (fun p e s m args below meth c cA D A ad0 h => ok_putR h.1 cxX2 (by decide) rfl fkRX1_29 (Or.inl rfl) (fun _ _ _ => rfl) (Or.inl ⟨_, rfl⟩) dX1_putIn_61) <|
  tc (fun p e s m args below meth c cA D A ad0 h => ok_aload_n h.1 2 rfl dX1_putIn_64) <|
  tc (fun p e s m args below meth c cA D A ad0 h => ok_aload_n h.1 1 rfl dX1_putIn_65) <|
  tc (fun p e s m args below meth c cA D A ad0 h => ok_putR h.1 cxX2 (by decide) rfl fkRX1_29 (Or.inl rfl) (fun _ _ _ => rfl) (Or.inl ⟨_, rfl⟩) dX1_putIn_66) <|
  tc (fun p e s m args below meth c cA D A ad0 h => ok_return h.1 h.2.2.2.1 dX1_putIn_69) <|
  tn
abbrev cuX1_putIn : List Nat := [7, 23]
theorem tX1_putIn_0 (l : Launch) (K : aRs) (X : aXs) : tb (tbX1_putIn l K X) 0 = sPush (aR 0) 1 := (rfl)
theorem wX1_putIn_0 {l : Launch} {K : aRs} {X : aXs} {J : aK} {W : Nat → aK} (hW : isW (tbX1_putIn l K X) cuX1_putIn J W) (n : Nat) (ls st : List aV) (μ : aM) (g : Nat) : W (n + 1) 0 ls st μ g = (sPush (aR 0) 1) (W n) ls st μ g := (hW n 0 ls st μ g).trans rfl
theorem wX1_putIn_1 {l : Launch} {K : aRs} {X : aXs} {J : aK} {W : Nat → aK} (hW : isW (tbX1_putIn l K X) cuX1_putIn J W) (n : Nat) (ls st : List aV) (μ : aM) (g : Nat) : W (n + 1) 1 ls st μ g = (sSt 2 2 isR) (W n) ls st μ g := (hW n 1 ls st μ g).trans rfl
theorem wX1_putIn_2 {l : Launch} {K : aRs} {X : aXs} {J : aK} {W : Nat → aK} (hW : isW (tbX1_putIn l K X) cuX1_putIn J W) (n : Nat) (ls st : List aV) (μ : aM) (g : Nat) : W (n + 1) 2 ls st μ g = (sLd 0 3 isR) (W n) ls st μ g := (hW n 2 ls st μ g).trans rfl
theorem wX1_putIn_3 {l : Launch} {K : aRs} {X : aXs} {J : aK} {W : Nat → aK} (hW : isW (tbX1_putIn l K X) cuX1_putIn J W) (n : Nat) (ls st : List aV) (μ : aM) (g : Nat) : W (n + 1) 3 ls st μ g = (sGetR 1 1 6) (W n) ls st μ g := (hW n 3 ls st μ g).trans rfl
theorem wX1_putIn_6 {l : Launch} {K : aRs} {X : aXs} {J : aK} {W : Nat → aK} (hW : isW (tbX1_putIn l K X) cuX1_putIn J W) (n : Nat) (ls st : List aV) (μ : aM) (g : Nat) : W (n + 1) 6 ls st μ g = (sSt 3 7 isR) (W n) ls st μ g := (hW n 6 ls st μ g).trans rfl
theorem tX1_putIn_7 (l : Launch) (K : aRs) (X : aXs) : tb (tbX1_putIn l K X) 7 = sLd 3 8 isR := (rfl)
theorem wX1_putIn_7 {l : Launch} {K : aRs} {X : aXs} {J : aK} {W : Nat → aK} (hW : isW (tbX1_putIn l K X) cuX1_putIn J W) (n : Nat) (ls st : List aV) (μ : aM) (g : Nat) : W (n + 1) 7 ls st μ g = J 7 ls st μ g := (hW n 7 ls st μ g).trans rfl
theorem wX1_putIn_8 {l : Launch} {K : aRs} {X : aXs} {J : aK} {W : Nat → aK} (hW : isW (tbX1_putIn l K X) cuX1_putIn J W) (n : Nat) (ls st : List aV) (μ : aM) (g : Nat) : W (n + 1) 8 ls st μ g = (sNul 36 11) (W n) ls st μ g := (hW n 8 ls st μ g).trans rfl
theorem wX1_putIn_11 {l : Launch} {K : aRs} {X : aXs} {J : aK} {W : Nat → aK} (hW : isW (tbX1_putIn l K X) cuX1_putIn J W) (n : Nat) (ls st : List aV) (μ : aM) (g : Nat) : W (n + 1) 11 ls st μ g = (sLd 0 12 isR) (W n) ls st μ g := (hW n 11 ls st μ g).trans rfl
theorem wX1_putIn_12 {l : Launch} {K : aRs} {X : aXs} {J : aK} {W : Nat → aK} (hW : isW (tbX1_putIn l K X) cuX1_putIn J W) (n : Nat) (ls st : List aV) (μ : aM) (g : Nat) : W (n + 1) 12 ls st μ g = (sLd 3 13 isR) (W n) ls st μ g := (hW n 12 ls st μ g).trans rfl
theorem wX1_putIn_13 {l : Launch} {K : aRs} {X : aXs} {J : aK} {W : Nat → aK} (hW : isW (tbX1_putIn l K X) cuX1_putIn J W) (n : Nat) (ls st : List aV) (μ : aM) (g : Nat) : W (n + 1) 13 ls st μ g = (sGetI 2 4 16) (W n) ls st μ g := (hW n 13 ls st μ g).trans rfl
theorem wX1_putIn_16 {l : Launch} {K : aRs} {X : aXs} {J : aK} {W : Nat → aK} (hW : isW (tbX1_putIn l K X) cuX1_putIn J W) (n : Nat) (ls st : List aV) (μ : aM) (g : Nat) : W (n + 1) 16 ls st μ g = (sLd 1 17 isR) (W n) ls st μ g := (hW n 16 ls st μ g).trans rfl
theorem wX1_putIn_17 {l : Launch} {K : aRs} {X : aXs} {J : aK} {W : Nat → aK} (hW : isW (tbX1_putIn l K X) cuX1_putIn J W) (n : Nat) (ls st : List aV) (μ : aM) (g : Nat) : W (n + 1) 17 ls st μ g = (sGetI 2 4 20) (W n) ls st μ g := (hW n 17 ls st μ g).trans rfl
theorem wX1_putIn_20 {l : Launch} {K : aRs} {X : aXs} {J : aK} {W : Nat → aK} (hW : isW (tbX1_putIn l K X) cuX1_putIn J W) (n : Nat) (ls st : List aV) (μ : aM) (g : Nat) : W (n + 1) 20 ls st μ g = (sCallV 2 1 (fun as μ K => Ct l mdX1_isAtLeast as μ K X) 23 0 0) (W n) ls st μ g := (hW n 20 ls st μ g).trans rfl
theorem tX1_putIn_23 (l : Launch) (K : aRs) (X : aXs) : tb (tbX1_putIn l K X) 23 = sIf pEq 36 26 := (rfl)
theorem wX1_putIn_23 {l : Launch} {K : aRs} {X : aXs} {J : aK} {W : Nat → aK} (hW : isW (tbX1_putIn l K X) cuX1_putIn J W) (n : Nat) (ls st : List aV) (μ : aM) (g : Nat) : W (n + 1) 23 ls st μ g = J 23 ls st μ g := (hW n 23 ls st μ g).trans rfl
theorem wX1_putIn_26 {l : Launch} {K : aRs} {X : aXs} {J : aK} {W : Nat → aK} (hW : isW (tbX1_putIn l K X) cuX1_putIn J W) (n : Nat) (ls st : List aV) (μ : aM) (g : Nat) : W (n + 1) 26 ls st μ g = (sLd 3 27 isR) (W n) ls st μ g := (hW n 26 ls st μ g).trans rfl
theorem wX1_putIn_27 {l : Launch} {K : aRs} {X : aXs} {J : aK} {W : Nat → aK} (hW : isW (tbX1_putIn l K X) cuX1_putIn J W) (n : Nat) (ls st : List aV) (μ : aM) (g : Nat) : W (n + 1) 27 ls st μ g = (sSt 2 28 isR) (W n) ls st μ g := (hW n 27 ls st μ g).trans rfl
theorem wX1_putIn_28 {l : Launch} {K : aRs} {X : aXs} {J : aK} {W : Nat → aK} (hW : isW (tbX1_putIn l K X) cuX1_putIn J W) (n : Nat) (ls st : List aV) (μ : aM) (g : Nat) : W (n + 1) 28 ls st μ g = (sLd 3 29 isR) (W n) ls st μ g := (hW n 28 ls st μ g).trans rfl
theorem wX1_putIn_29 {l : Launch} {K : aRs} {X : aXs} {J : aK} {W : Nat → aK} (hW : isW (tbX1_putIn l K X) cuX1_putIn J W) (n : Nat) (ls st : List aV) (μ : aM) (g : Nat) : W (n + 1) 29 ls st μ g = (sGetR 2 11 32) (W n) ls st μ g := (hW n 29 ls st μ g).trans rfl
theorem wX1_putIn_32 {l : Launch} {K : aRs} {X : aXs} {J : aK} {W : Nat → aK} (hW : isW (tbX1_putIn l K X) cuX1_putIn J W) (n : Nat) (ls st : List aV) (μ : aM) (g : Nat) : W (n + 1) 32 ls st μ g = (sSt 3 33 isR) (W n) ls st μ g := (hW n 32 ls st μ g).trans rfl
theorem wX1_putIn_33 {l : Launch} {K : aRs} {X : aXs} {J : aK} {W : Nat → aK} (hW : isW (tbX1_putIn l K X) cuX1_putIn J W) (n : Nat) (ls st : List aV) (μ : aM) (g : Nat) : W (n + 1) 33 ls st μ g = (sGoto 7) (W n) ls st μ g := (hW n 33 ls st μ g).trans rfl
theorem wX1_putIn_36 {l : Launch} {K : aRs} {X : aXs} {J : aK} {W : Nat → aK} (hW : isW (tbX1_putIn l K X) cuX1_putIn J W) (n : Nat) (ls st : List aV) (μ : aM) (g : Nat) : W (n + 1) 36 ls st μ g = (sLd 2 37 isR) (W n) ls st μ g := (hW n 36 ls st μ g).trans rfl
theorem wX1_putIn_37 {l : Launch} {K : aRs} {X : aXs} {J : aK} {W : Nat → aK} (hW : isW (tbX1_putIn l K X) cuX1_putIn J W) (n : Nat) (ls st : List aV) (μ : aM) (g : Nat) : W (n + 1) 37 ls st μ g = (sNn 56 40) (W n) ls st μ g := (hW n 37 ls st μ g).trans rfl
theorem wX1_putIn_40 {l : Launch} {K : aRs} {X : aXs} {J : aK} {W : Nat → aK} (hW : isW (tbX1_putIn l K X) cuX1_putIn J W) (n : Nat) (ls st : List aV) (μ : aM) (g : Nat) : W (n + 1) 40 ls st μ g = (sLd 1 41 isR) (W n) ls st μ g := (hW n 40 ls st μ g).trans rfl
theorem wX1_putIn_41 {l : Launch} {K : aRs} {X : aXs} {J : aK} {W : Nat → aK} (hW : isW (tbX1_putIn l K X) cuX1_putIn J W) (n : Nat) (ls st : List aV) (μ : aM) (g : Nat) : W (n + 1) 41 ls st μ g = (sLd 0 42 isR) (W n) ls st μ g := (hW n 41 ls st μ g).trans rfl
theorem wX1_putIn_42 {l : Launch} {K : aRs} {X : aXs} {J : aK} {W : Nat → aK} (hW : isW (tbX1_putIn l K X) cuX1_putIn J W) (n : Nat) (ls st : List aV) (μ : aM) (g : Nat) : W (n + 1) 42 ls st μ g = (sGetR 1 1 45) (W n) ls st μ g := (hW n 42 ls st μ g).trans rfl
theorem wX1_putIn_45 {l : Launch} {K : aRs} {X : aXs} {J : aK} {W : Nat → aK} (hW : isW (tbX1_putIn l K X) cuX1_putIn J W) (n : Nat) (ls st : List aV) (μ : aM) (g : Nat) : W (n + 1) 45 ls st μ g = (sPutR 2 11 48) (W n) ls st μ g := (hW n 45 ls st μ g).trans rfl
theorem wX1_putIn_48 {l : Launch} {K : aRs} {X : aXs} {J : aK} {W : Nat → aK} (hW : isW (tbX1_putIn l K X) cuX1_putIn J W) (n : Nat) (ls st : List aV) (μ : aM) (g : Nat) : W (n + 1) 48 ls st μ g = (sLd 0 49 isR) (W n) ls st μ g := (hW n 48 ls st μ g).trans rfl
theorem wX1_putIn_49 {l : Launch} {K : aRs} {X : aXs} {J : aK} {W : Nat → aK} (hW : isW (tbX1_putIn l K X) cuX1_putIn J W) (n : Nat) (ls st : List aV) (μ : aM) (g : Nat) : W (n + 1) 49 ls st μ g = (sLd 1 50 isR) (W n) ls st μ g := (hW n 49 ls st μ g).trans rfl
theorem wX1_putIn_50 {l : Launch} {K : aRs} {X : aXs} {J : aK} {W : Nat → aK} (hW : isW (tbX1_putIn l K X) cuX1_putIn J W) (n : Nat) (ls st : List aV) (μ : aM) (g : Nat) : W (n + 1) 50 ls st μ g = (sPutR 1 1 53) (W n) ls st μ g := (hW n 50 ls st μ g).trans rfl
theorem wX1_putIn_53 {l : Launch} {K : aRs} {X : aXs} {J : aK} {W : Nat → aK} (hW : isW (tbX1_putIn l K X) cuX1_putIn J W) (n : Nat) (ls st : List aV) (μ : aM) (g : Nat) : W (n + 1) 53 ls st μ g = (sGoto 69) (W n) ls st μ g := (hW n 53 ls st μ g).trans rfl
theorem wX1_putIn_56 {l : Launch} {K : aRs} {X : aXs} {J : aK} {W : Nat → aK} (hW : isW (tbX1_putIn l K X) cuX1_putIn J W) (n : Nat) (ls st : List aV) (μ : aM) (g : Nat) : W (n + 1) 56 ls st μ g = (sLd 1 57 isR) (W n) ls st μ g := (hW n 56 ls st μ g).trans rfl
theorem wX1_putIn_57 {l : Launch} {K : aRs} {X : aXs} {J : aK} {W : Nat → aK} (hW : isW (tbX1_putIn l K X) cuX1_putIn J W) (n : Nat) (ls st : List aV) (μ : aM) (g : Nat) : W (n + 1) 57 ls st μ g = (sLd 2 58 isR) (W n) ls st μ g := (hW n 57 ls st μ g).trans rfl
theorem wX1_putIn_58 {l : Launch} {K : aRs} {X : aXs} {J : aK} {W : Nat → aK} (hW : isW (tbX1_putIn l K X) cuX1_putIn J W) (n : Nat) (ls st : List aV) (μ : aM) (g : Nat) : W (n + 1) 58 ls st μ g = (sGetR 2 11 61) (W n) ls st μ g := (hW n 58 ls st μ g).trans rfl
theorem wX1_putIn_61 {l : Launch} {K : aRs} {X : aXs} {J : aK} {W : Nat → aK} (hW : isW (tbX1_putIn l K X) cuX1_putIn J W) (n : Nat) (ls st : List aV) (μ : aM) (g : Nat) : W (n + 1) 61 ls st μ g = (sPutR 2 11 64) (W n) ls st μ g := (hW n 61 ls st μ g).trans rfl
theorem wX1_putIn_64 {l : Launch} {K : aRs} {X : aXs} {J : aK} {W : Nat → aK} (hW : isW (tbX1_putIn l K X) cuX1_putIn J W) (n : Nat) (ls st : List aV) (μ : aM) (g : Nat) : W (n + 1) 64 ls st μ g = (sLd 2 65 isR) (W n) ls st μ g := (hW n 64 ls st μ g).trans rfl
theorem wX1_putIn_65 {l : Launch} {K : aRs} {X : aXs} {J : aK} {W : Nat → aK} (hW : isW (tbX1_putIn l K X) cuX1_putIn J W) (n : Nat) (ls st : List aV) (μ : aM) (g : Nat) : W (n + 1) 65 ls st μ g = (sLd 1 66 isR) (W n) ls st μ g := (hW n 65 ls st μ g).trans rfl
theorem wX1_putIn_66 {l : Launch} {K : aRs} {X : aXs} {J : aK} {W : Nat → aK} (hW : isW (tbX1_putIn l K X) cuX1_putIn J W) (n : Nat) (ls st : List aV) (μ : aM) (g : Nat) : W (n + 1) 66 ls st μ g = (sPutR 2 11 69) (W n) ls st μ g := (hW n 66 ls st μ g).trans rfl
theorem wX1_putIn_69 {l : Launch} {K : aRs} {X : aXs} {J : aK} {W : Nat → aK} (hW : isW (tbX1_putIn l K X) cuX1_putIn J W) (n : Nat) (ls st : List aV) (μ : aM) (g : Nat) : W (n + 1) 69 ls st μ g = (sRetV 0 K) (W n) ls st μ g := (hW n 69 ls st μ g).trans rfl
theorem dX1_takeOut_0 : decode cX1_takeOut 0 = .ok (.aconst_null, 1) := by decide +kernel
theorem dX1_takeOut_1 : decode cX1_takeOut 1 = .ok (.astore_n 2, 1) := by decide +kernel
theorem dX1_takeOut_2 : decode cX1_takeOut 2 = .ok (.aload_n 0, 1) := by decide +kernel
theorem dX1_takeOut_3 : decode cX1_takeOut 3 = .ok (.getfield 15, 3) := by decide +kernel
theorem dX1_takeOut_6 : decode cX1_takeOut 6 = .ok (.astore_n 3, 1) := by decide +kernel
theorem dX1_takeOut_7 : decode cX1_takeOut 7 = .ok (.aload_n 3, 1) := by decide +kernel
theorem dX1_takeOut_8 : decode cX1_takeOut 8 = .ok (.ifnull 18, 3) := by decide +kernel
theorem dX1_takeOut_11 : decode cX1_takeOut 11 = .ok (.aload_n 3, 1) := by decide +kernel
theorem dX1_takeOut_12 : decode cX1_takeOut 12 = .ok (.aload_n 1, 1) := by decide +kernel
theorem dX1_takeOut_13 : decode cX1_takeOut 13 = .ok (.if_acmp .eq 13, 3) := by decide +kernel
theorem dX1_takeOut_16 : decode cX1_takeOut 16 = .ok (.aload_n 3, 1) := by decide +kernel
theorem dX1_takeOut_17 : decode cX1_takeOut 17 = .ok (.astore_n 2, 1) := by decide +kernel
theorem dX1_takeOut_18 : decode cX1_takeOut 18 = .ok (.aload_n 3, 1) := by decide +kernel
theorem dX1_takeOut_19 : decode cX1_takeOut 19 = .ok (.getfield 29, 3) := by decide +kernel
theorem dX1_takeOut_22 : decode cX1_takeOut 22 = .ok (.astore_n 3, 1) := by decide +kernel
theorem dX1_takeOut_23 : decode cX1_takeOut 23 = .ok (.goto (-16), 3) := by decide +kernel
theorem dX1_takeOut_26 : decode cX1_takeOut 26 = .ok (.aload_n 2, 1) := by decide +kernel
theorem dX1_takeOut_27 : decode cX1_takeOut 27 = .ok (.ifnonnull 14, 3) := by decide +kernel
theorem dX1_takeOut_30 : decode cX1_takeOut 30 = .ok (.aload_n 0, 1) := by decide +kernel
theorem dX1_takeOut_31 : decode cX1_takeOut 31 = .ok (.aload_n 1, 1) := by decide +kernel
theorem dX1_takeOut_32 : decode cX1_takeOut 32 = .ok (.getfield 29, 3) := by decide +kernel
theorem dX1_takeOut_35 : decode cX1_takeOut 35 = .ok (.putfield 15, 3) := by decide +kernel
theorem dX1_takeOut_38 : decode cX1_takeOut 38 = .ok (.goto 11, 3) := by decide +kernel
theorem dX1_takeOut_41 : decode cX1_takeOut 41 = .ok (.aload_n 2, 1) := by decide +kernel
theorem dX1_takeOut_42 : decode cX1_takeOut 42 = .ok (.aload_n 1, 1) := by decide +kernel
theorem dX1_takeOut_43 : decode cX1_takeOut 43 = .ok (.getfield 29, 3) := by decide +kernel
theorem dX1_takeOut_46 : decode cX1_takeOut 46 = .ok (.putfield 29, 3) := by decide +kernel
theorem dX1_takeOut_49 : decode cX1_takeOut 49 = .ok (.aload_n 1, 1) := by decide +kernel
theorem dX1_takeOut_50 : decode cX1_takeOut 50 = .ok (.aconst_null, 1) := by decide +kernel
theorem dX1_takeOut_51 : decode cX1_takeOut 51 = .ok (.putfield 29, 3) := by decide +kernel
theorem dX1_takeOut_54 : decode cX1_takeOut 54 = .ok (.return_, 1) := by decide +kernel
def tbX1_takeOut (l : Launch) (K : aRs) (X : aXs) : aTb := [
  (0, sPush (aR 0) 1),
  (1, sSt 2 2 isR),
  (2, sLd 0 3 isR),
  (3, sGetR 1 1 6),
  (6, sSt 3 7 isR),
  (7, sLd 3 8 isR),
  (8, sNul 26 11),
  (11, sLd 3 12 isR),
  (12, sLd 1 13 isR),
  (13, sAcmp 26 16),
  (16, sLd 3 17 isR),
  (17, sSt 2 18 isR),
  (18, sLd 3 19 isR),
  (19, sGetR 2 11 22),
  (22, sSt 3 23 isR),
  (23, sGoto 7),
  (26, sLd 2 27 isR),
  (27, sNn 41 30),
  (30, sLd 0 31 isR),
  (31, sLd 1 32 isR),
  (32, sGetR 2 11 35),
  (35, sPutR 1 1 38),
  (38, sGoto 49),
  (41, sLd 2 42 isR),
  (42, sLd 1 43 isR),
  (43, sGetR 2 11 46),
  (46, sPutR 2 11 49),
  (49, sLd 1 50 isR),
  (50, sPush (aR 0) 51),
  (51, sPutR 2 11 54),
  (54, sRetV 0 K)]
theorem snX1_takeOut (l : Launch) (K : aRs) (X : aXs) (n0 : Nat) : ∀ q ∈ tbX1_takeOut l K X, aSo l mdX1_takeOut K X n0 q.1 q.2 :=
  tc (fun p e s m args below meth c cA D A ad0 h => ok_null h.1 dX1_takeOut_0) <|
  tc (fun p e s m args below meth c cA D A ad0 h => ok_astore_n h.1 2 rfl (by decide) dX1_takeOut_1) <|
  tc (fun p e s m args below meth c cA D A ad0 h => ok_aload_n h.1 0 rfl dX1_takeOut_2) <|
  tc (fun p e s m args below meth c cA D A ad0 h => ok_getR h.1 cxX1 (by decide) rfl fkRX1_15 (fun _ _ _ => rfl) dX1_takeOut_3) <|
  tc (fun p e s m args below meth c cA D A ad0 h => ok_astore_n h.1 3 rfl (by decide) dX1_takeOut_6) <|
  tc (fun p e s m args below meth c cA D A ad0 h => ok_aload_n h.1 3 rfl dX1_takeOut_7) <|
  tc (fun p e s m args below meth c cA D A ad0 h => ok_ifnull h.1 26 (by decide) dX1_takeOut_8) <|
  tc (fun p e s m args below meth c cA D A ad0 h => ok_aload_n h.1 3 rfl dX1_takeOut_11) <|
  tc (fun p e s m args below meth c cA D A ad0 h => ok_aload_n h.1 1 rfl dX1_takeOut_12) <|
  tc (fun p e s m args below meth c cA D A ad0 h => ok_acmp h.1 26 (by decide) dX1_takeOut_13) <|
  tc (fun p e s m args below meth c cA D A ad0 h => ok_aload_n h.1 3 rfl dX1_takeOut_16) <|
  tc (fun p e s m args below meth c cA D A ad0 h => ok_astore_n h.1 2 rfl (by decide) dX1_takeOut_17) <|
  tc (fun p e s m args below meth c cA D A ad0 h => ok_aload_n h.1 3 rfl dX1_takeOut_18) <|
  tc (fun p e s m args below meth c cA D A ad0 h => ok_getR h.1 cxX2 (by decide) rfl fkRX1_29 (fun _ _ _ => rfl) dX1_takeOut_19) <|
  tc (fun p e s m args below meth c cA D A ad0 h => ok_astore_n h.1 3 rfl (by decide) dX1_takeOut_22) <|
  tc (fun p e s m args below meth c cA D A ad0 h => ok_goto h.1 7 (by decide) dX1_takeOut_23) <|
  tc (fun p e s m args below meth c cA D A ad0 h => ok_aload_n h.1 2 rfl dX1_takeOut_26) <|
  tc (fun p e s m args below meth c cA D A ad0 h => ok_ifnonnull h.1 41 (by decide) dX1_takeOut_27) <|
  tc (fun p e s m args below meth c cA D A ad0 h => ok_aload_n h.1 0 rfl dX1_takeOut_30) <|
  tc (fun p e s m args below meth c cA D A ad0 h => ok_aload_n h.1 1 rfl dX1_takeOut_31) <|
  tc (fun p e s m args below meth c cA D A ad0 h => ok_getR h.1 cxX2 (by decide) rfl fkRX1_29 (fun _ _ _ => rfl) dX1_takeOut_32) <|
  tc (fun p e s m args below meth c cA D A ad0 h => ok_putR h.1 cxX1 (by decide) rfl fkRX1_15 (Or.inl rfl) (fun _ _ _ => rfl) (Or.inl ⟨_, rfl⟩) dX1_takeOut_35) <|
  tc (fun p e s m args below meth c cA D A ad0 h => ok_goto h.1 49 (by decide) dX1_takeOut_38) <|
  tc (fun p e s m args below meth c cA D A ad0 h => ok_aload_n h.1 2 rfl dX1_takeOut_41) <|
  tc (fun p e s m args below meth c cA D A ad0 h => ok_aload_n h.1 1 rfl dX1_takeOut_42) <|
  tc (fun p e s m args below meth c cA D A ad0 h => ok_getR h.1 cxX2 (by decide) rfl fkRX1_29 (fun _ _ _ => rfl) dX1_takeOut_43) <|
  tc (fun p e s m args below meth c cA D A ad0 h => ok_putR h.1 cxX2 (by decide) rfl fkRX1_29 (Or.inl rfl) (fun _ _ _ => rfl) (Or.inl ⟨_, rfl⟩) dX1_takeOut_46) <|
  tc (fun p e s m args below meth c cA D A ad0 h => ok_aload_n h.1 1 rfl dX1_takeOut_49) <|
  tc (fun p e s m args below meth c cA D A ad0 h => ok_null h.1 dX1_takeOut_50) <|
  tc (fun p e s m args below meth c cA D A ad0 h => ok_putR h.1 cxX2 (by decide) rfl fkRX1_29 (Or.inl rfl) (fun _ _ _ => rfl) (Or.inl ⟨_, rfl⟩) dX1_takeOut_51) <|
  tc (fun p e s m args below meth c cA D A ad0 h => ok_return h.1 h.2.2.2.1 dX1_takeOut_54) <|
  tn
abbrev cuX1_takeOut : List Nat := [7]
theorem tX1_takeOut_0 (l : Launch) (K : aRs) (X : aXs) : tb (tbX1_takeOut l K X) 0 = sPush (aR 0) 1 := (rfl)
theorem wX1_takeOut_0 {l : Launch} {K : aRs} {X : aXs} {J : aK} {W : Nat → aK} (hW : isW (tbX1_takeOut l K X) cuX1_takeOut J W) (n : Nat) (ls st : List aV) (μ : aM) (g : Nat) : W (n + 1) 0 ls st μ g = (sPush (aR 0) 1) (W n) ls st μ g := (hW n 0 ls st μ g).trans rfl
theorem wX1_takeOut_1 {l : Launch} {K : aRs} {X : aXs} {J : aK} {W : Nat → aK} (hW : isW (tbX1_takeOut l K X) cuX1_takeOut J W) (n : Nat) (ls st : List aV) (μ : aM) (g : Nat) : W (n + 1) 1 ls st μ g = (sSt 2 2 isR) (W n) ls st μ g := (hW n 1 ls st μ g).trans rfl
theorem wX1_takeOut_2 {l : Launch} {K : aRs} {X : aXs} {J : aK} {W : Nat → aK} (hW : isW (tbX1_takeOut l K X) cuX1_takeOut J W) (n : Nat) (ls st : List aV) (μ : aM) (g : Nat) : W (n + 1) 2 ls st μ g = (sLd 0 3 isR) (W n) ls st μ g := (hW n 2 ls st μ g).trans rfl
theorem wX1_takeOut_3 {l : Launch} {K : aRs} {X : aXs} {J : aK} {W : Nat → aK} (hW : isW (tbX1_takeOut l K X) cuX1_takeOut J W) (n : Nat) (ls st : List aV) (μ : aM) (g : Nat) : W (n + 1) 3 ls st μ g = (sGetR 1 1 6) (W n) ls st μ g := (hW n 3 ls st μ g).trans rfl
theorem wX1_takeOut_6 {l : Launch} {K : aRs} {X : aXs} {J : aK} {W : Nat → aK} (hW : isW (tbX1_takeOut l K X) cuX1_takeOut J W) (n : Nat) (ls st : List aV) (μ : aM) (g : Nat) : W (n + 1) 6 ls st μ g = (sSt 3 7 isR) (W n) ls st μ g := (hW n 6 ls st μ g).trans rfl
theorem tX1_takeOut_7 (l : Launch) (K : aRs) (X : aXs) : tb (tbX1_takeOut l K X) 7 = sLd 3 8 isR := (rfl)
theorem wX1_takeOut_7 {l : Launch} {K : aRs} {X : aXs} {J : aK} {W : Nat → aK} (hW : isW (tbX1_takeOut l K X) cuX1_takeOut J W) (n : Nat) (ls st : List aV) (μ : aM) (g : Nat) : W (n + 1) 7 ls st μ g = J 7 ls st μ g := (hW n 7 ls st μ g).trans rfl
theorem wX1_takeOut_8 {l : Launch} {K : aRs} {X : aXs} {J : aK} {W : Nat → aK} (hW : isW (tbX1_takeOut l K X) cuX1_takeOut J W) (n : Nat) (ls st : List aV) (μ : aM) (g : Nat) : W (n + 1) 8 ls st μ g = (sNul 26 11) (W n) ls st μ g := (hW n 8 ls st μ g).trans rfl
theorem wX1_takeOut_11 {l : Launch} {K : aRs} {X : aXs} {J : aK} {W : Nat → aK} (hW : isW (tbX1_takeOut l K X) cuX1_takeOut J W) (n : Nat) (ls st : List aV) (μ : aM) (g : Nat) : W (n + 1) 11 ls st μ g = (sLd 3 12 isR) (W n) ls st μ g := (hW n 11 ls st μ g).trans rfl
theorem wX1_takeOut_12 {l : Launch} {K : aRs} {X : aXs} {J : aK} {W : Nat → aK} (hW : isW (tbX1_takeOut l K X) cuX1_takeOut J W) (n : Nat) (ls st : List aV) (μ : aM) (g : Nat) : W (n + 1) 12 ls st μ g = (sLd 1 13 isR) (W n) ls st μ g := (hW n 12 ls st μ g).trans rfl
theorem wX1_takeOut_13 {l : Launch} {K : aRs} {X : aXs} {J : aK} {W : Nat → aK} (hW : isW (tbX1_takeOut l K X) cuX1_takeOut J W) (n : Nat) (ls st : List aV) (μ : aM) (g : Nat) : W (n + 1) 13 ls st μ g = (sAcmp 26 16) (W n) ls st μ g := (hW n 13 ls st μ g).trans rfl
theorem wX1_takeOut_16 {l : Launch} {K : aRs} {X : aXs} {J : aK} {W : Nat → aK} (hW : isW (tbX1_takeOut l K X) cuX1_takeOut J W) (n : Nat) (ls st : List aV) (μ : aM) (g : Nat) : W (n + 1) 16 ls st μ g = (sLd 3 17 isR) (W n) ls st μ g := (hW n 16 ls st μ g).trans rfl
theorem wX1_takeOut_17 {l : Launch} {K : aRs} {X : aXs} {J : aK} {W : Nat → aK} (hW : isW (tbX1_takeOut l K X) cuX1_takeOut J W) (n : Nat) (ls st : List aV) (μ : aM) (g : Nat) : W (n + 1) 17 ls st μ g = (sSt 2 18 isR) (W n) ls st μ g := (hW n 17 ls st μ g).trans rfl
theorem wX1_takeOut_18 {l : Launch} {K : aRs} {X : aXs} {J : aK} {W : Nat → aK} (hW : isW (tbX1_takeOut l K X) cuX1_takeOut J W) (n : Nat) (ls st : List aV) (μ : aM) (g : Nat) : W (n + 1) 18 ls st μ g = (sLd 3 19 isR) (W n) ls st μ g := (hW n 18 ls st μ g).trans rfl
theorem wX1_takeOut_19 {l : Launch} {K : aRs} {X : aXs} {J : aK} {W : Nat → aK} (hW : isW (tbX1_takeOut l K X) cuX1_takeOut J W) (n : Nat) (ls st : List aV) (μ : aM) (g : Nat) : W (n + 1) 19 ls st μ g = (sGetR 2 11 22) (W n) ls st μ g := (hW n 19 ls st μ g).trans rfl
theorem wX1_takeOut_22 {l : Launch} {K : aRs} {X : aXs} {J : aK} {W : Nat → aK} (hW : isW (tbX1_takeOut l K X) cuX1_takeOut J W) (n : Nat) (ls st : List aV) (μ : aM) (g : Nat) : W (n + 1) 22 ls st μ g = (sSt 3 23 isR) (W n) ls st μ g := (hW n 22 ls st μ g).trans rfl
theorem wX1_takeOut_23 {l : Launch} {K : aRs} {X : aXs} {J : aK} {W : Nat → aK} (hW : isW (tbX1_takeOut l K X) cuX1_takeOut J W) (n : Nat) (ls st : List aV) (μ : aM) (g : Nat) : W (n + 1) 23 ls st μ g = (sGoto 7) (W n) ls st μ g := (hW n 23 ls st μ g).trans rfl
theorem wX1_takeOut_26 {l : Launch} {K : aRs} {X : aXs} {J : aK} {W : Nat → aK} (hW : isW (tbX1_takeOut l K X) cuX1_takeOut J W) (n : Nat) (ls st : List aV) (μ : aM) (g : Nat) : W (n + 1) 26 ls st μ g = (sLd 2 27 isR) (W n) ls st μ g := (hW n 26 ls st μ g).trans rfl
theorem wX1_takeOut_27 {l : Launch} {K : aRs} {X : aXs} {J : aK} {W : Nat → aK} (hW : isW (tbX1_takeOut l K X) cuX1_takeOut J W) (n : Nat) (ls st : List aV) (μ : aM) (g : Nat) : W (n + 1) 27 ls st μ g = (sNn 41 30) (W n) ls st μ g := (hW n 27 ls st μ g).trans rfl
theorem wX1_takeOut_30 {l : Launch} {K : aRs} {X : aXs} {J : aK} {W : Nat → aK} (hW : isW (tbX1_takeOut l K X) cuX1_takeOut J W) (n : Nat) (ls st : List aV) (μ : aM) (g : Nat) : W (n + 1) 30 ls st μ g = (sLd 0 31 isR) (W n) ls st μ g := (hW n 30 ls st μ g).trans rfl
theorem wX1_takeOut_31 {l : Launch} {K : aRs} {X : aXs} {J : aK} {W : Nat → aK} (hW : isW (tbX1_takeOut l K X) cuX1_takeOut J W) (n : Nat) (ls st : List aV) (μ : aM) (g : Nat) : W (n + 1) 31 ls st μ g = (sLd 1 32 isR) (W n) ls st μ g := (hW n 31 ls st μ g).trans rfl
theorem wX1_takeOut_32 {l : Launch} {K : aRs} {X : aXs} {J : aK} {W : Nat → aK} (hW : isW (tbX1_takeOut l K X) cuX1_takeOut J W) (n : Nat) (ls st : List aV) (μ : aM) (g : Nat) : W (n + 1) 32 ls st μ g = (sGetR 2 11 35) (W n) ls st μ g := (hW n 32 ls st μ g).trans rfl
theorem wX1_takeOut_35 {l : Launch} {K : aRs} {X : aXs} {J : aK} {W : Nat → aK} (hW : isW (tbX1_takeOut l K X) cuX1_takeOut J W) (n : Nat) (ls st : List aV) (μ : aM) (g : Nat) : W (n + 1) 35 ls st μ g = (sPutR 1 1 38) (W n) ls st μ g := (hW n 35 ls st μ g).trans rfl
theorem wX1_takeOut_38 {l : Launch} {K : aRs} {X : aXs} {J : aK} {W : Nat → aK} (hW : isW (tbX1_takeOut l K X) cuX1_takeOut J W) (n : Nat) (ls st : List aV) (μ : aM) (g : Nat) : W (n + 1) 38 ls st μ g = (sGoto 49) (W n) ls st μ g := (hW n 38 ls st μ g).trans rfl
theorem wX1_takeOut_41 {l : Launch} {K : aRs} {X : aXs} {J : aK} {W : Nat → aK} (hW : isW (tbX1_takeOut l K X) cuX1_takeOut J W) (n : Nat) (ls st : List aV) (μ : aM) (g : Nat) : W (n + 1) 41 ls st μ g = (sLd 2 42 isR) (W n) ls st μ g := (hW n 41 ls st μ g).trans rfl
theorem wX1_takeOut_42 {l : Launch} {K : aRs} {X : aXs} {J : aK} {W : Nat → aK} (hW : isW (tbX1_takeOut l K X) cuX1_takeOut J W) (n : Nat) (ls st : List aV) (μ : aM) (g : Nat) : W (n + 1) 42 ls st μ g = (sLd 1 43 isR) (W n) ls st μ g := (hW n 42 ls st μ g).trans rfl
theorem wX1_takeOut_43 {l : Launch} {K : aRs} {X : aXs} {J : aK} {W : Nat → aK} (hW : isW (tbX1_takeOut l K X) cuX1_takeOut J W) (n : Nat) (ls st : List aV) (μ : aM) (g : Nat) : W (n + 1) 43 ls st μ g = (sGetR 2 11 46) (W n) ls st μ g := (hW n 43 ls st μ g).trans rfl
theorem wX1_takeOut_46 {l : Launch} {K : aRs} {X : aXs} {J : aK} {W : Nat → aK} (hW : isW (tbX1_takeOut l K X) cuX1_takeOut J W) (n : Nat) (ls st : List aV) (μ : aM) (g : Nat) : W (n + 1) 46 ls st μ g = (sPutR 2 11 49) (W n) ls st μ g := (hW n 46 ls st μ g).trans rfl
theorem wX1_takeOut_49 {l : Launch} {K : aRs} {X : aXs} {J : aK} {W : Nat → aK} (hW : isW (tbX1_takeOut l K X) cuX1_takeOut J W) (n : Nat) (ls st : List aV) (μ : aM) (g : Nat) : W (n + 1) 49 ls st μ g = (sLd 1 50 isR) (W n) ls st μ g := (hW n 49 ls st μ g).trans rfl
theorem wX1_takeOut_50 {l : Launch} {K : aRs} {X : aXs} {J : aK} {W : Nat → aK} (hW : isW (tbX1_takeOut l K X) cuX1_takeOut J W) (n : Nat) (ls st : List aV) (μ : aM) (g : Nat) : W (n + 1) 50 ls st μ g = (sPush (aR 0) 51) (W n) ls st μ g := (hW n 50 ls st μ g).trans rfl
theorem wX1_takeOut_51 {l : Launch} {K : aRs} {X : aXs} {J : aK} {W : Nat → aK} (hW : isW (tbX1_takeOut l K X) cuX1_takeOut J W) (n : Nat) (ls st : List aV) (μ : aM) (g : Nat) : W (n + 1) 51 ls st μ g = (sPutR 2 11 54) (W n) ls st μ g := (hW n 51 ls st μ g).trans rfl
theorem wX1_takeOut_54 {l : Launch} {K : aRs} {X : aXs} {J : aK} {W : Nat → aK} (hW : isW (tbX1_takeOut l K X) cuX1_takeOut J W) (n : Nat) (ls st : List aV) (μ : aM) (g : Nat) : W (n + 1) 54 ls st μ g = (sRetV 0 K) (W n) ls st μ g := (hW n 54 ls st μ g).trans rfl
theorem dX1_dropIfFilled_0 : decode cX1_dropIfFilled 0 = .ok (.aload_n 1, 1) := by decide +kernel
theorem dX1_dropIfFilled_1 : decode cX1_dropIfFilled 1 = .ok (.getfield 32, 3) := by decide +kernel
theorem dX1_dropIfFilled_4 : decode cX1_dropIfFilled 4 = .ok (.ifCond .ne 8, 3) := by decide +kernel
theorem dX1_dropIfFilled_7 : decode cX1_dropIfFilled 7 = .ok (.aload_n 0, 1) := by decide +kernel
theorem dX1_dropIfFilled_8 : decode cX1_dropIfFilled 8 = .ok (.aload_n 1, 1) := by decide +kernel
theorem dX1_dropIfFilled_9 : decode cX1_dropIfFilled 9 = .ok (.invokevirtual 35, 3) := by decide +kernel
theorem dX1_dropIfFilled_12 : decode cX1_dropIfFilled 12 = .ok (.return_, 1) := by decide +kernel
def tbX1_dropIfFilled (l : Launch) (K : aRs) (X : aXs) : aTb := [
  (0, sLd 1 1 isR),
  (1, sGetI 2 6 4),
  (4, sIf pNe 12 7),
  (7, sLd 0 8 isR),
  (8, sLd 1 9 isR),
  (9, sCallV 1 1 (fun as μ K => Ct l mdX1_takeOut as μ K X) 12 0 0),
  (12, sRetV 0 K)]
theorem snX1_dropIfFilled (l : Launch) (K : aRs) (X : aXs) (n0 : Nat) : ∀ q ∈ tbX1_dropIfFilled l K X, aSo l mdX1_dropIfFilled K X n0 q.1 q.2 :=
  tc (fun p e s m args below meth c cA D A ad0 h => ok_aload_n h.1 1 rfl dX1_dropIfFilled_0) <|
  tc (fun p e s m args below meth c cA D A ad0 h => ok_getI h.1 cxX2 (by decide) rfl fkRX1_32 (fun _ _ _ => rfl) dX1_dropIfFilled_1) <|
  tc (fun p e s m args below meth c cA D A ad0 h => ok_if_ne h.1 12 (by decide) dX1_dropIfFilled_4) <|
  tc (fun p e s m args below meth c cA D A ad0 h => ok_aload_n h.1 0 rfl dX1_dropIfFilled_7) <|
  tc (fun p e s m args below meth c cA D A ad0 h => ok_aload_n h.1 1 rfl dX1_dropIfFilled_8) <|
  tc (fun p e s m args below meth c cA D A ad0 h => ok_callV h.1 h.2.1 ⟨Nat.le_refl _, Nat.le_refl _⟩ mdX1_takeOut siX1_takeOut cxX1 mkRX1_35 imX1_takeOut seX1_takeOut ⟨by decide, by decide⟩ (aAx_out h.1 h.2.2.1 _) dX1_dropIfFilled_9) <|
  tc (fun p e s m args below meth c cA D A ad0 h => ok_return h.1 h.2.2.2.1 dX1_dropIfFilled_12) <|
  tn
abbrev cuX1_dropIfFilled : List Nat := [12]
theorem tX1_dropIfFilled_0 (l : Launch) (K : aRs) (X : aXs) : tb (tbX1_dropIfFilled l K X) 0 = sLd 1 1 isR := (rfl)
theorem wX1_dropIfFilled_0 {l : Launch} {K : aRs} {X : aXs} {J : aK} {W : Nat → aK} (hW : isW (tbX1_dropIfFilled l K X) cuX1_dropIfFilled J W) (n : Nat) (ls st : List aV) (μ : aM) (g : Nat) : W (n + 1) 0 ls st μ g = (sLd 1 1 isR) (W n) ls st μ g := (hW n 0 ls st μ g).trans rfl
theorem wX1_dropIfFilled_1 {l : Launch} {K : aRs} {X : aXs} {J : aK} {W : Nat → aK} (hW : isW (tbX1_dropIfFilled l K X) cuX1_dropIfFilled J W) (n : Nat) (ls st : List aV) (μ : aM) (g : Nat) : W (n + 1) 1 ls st μ g = (sGetI 2 6 4) (W n) ls st μ g := (hW n 1 ls st μ g).trans rfl
theorem wX1_dropIfFilled_4 {l : Launch} {K : aRs} {X : aXs} {J : aK} {W : Nat → aK} (hW : isW (tbX1_dropIfFilled l K X) cuX1_dropIfFilled J W) (n : Nat) (ls st : List aV) (μ : aM) (g : Nat) : W (n + 1) 4 ls st μ g = (sIf pNe 12 7) (W n) ls st μ g := (hW n 4 ls st μ g).trans rfl
theorem wX1_dropIfFilled_7 {l : Launch} {K : aRs} {X : aXs} {J : aK} {W : Nat → aK} (hW : isW (tbX1_dropIfFilled l K X) cuX1_dropIfFilled J W) (n : Nat) (ls st : List aV) (μ : aM) (g : Nat) : W (n + 1) 7 ls st μ g = (sLd 0 8 isR) (W n) ls st μ g := (hW n 7 ls st μ g).trans rfl
theorem wX1_dropIfFilled_8 {l : Launch} {K : aRs} {X : aXs} {J : aK} {W : Nat → aK} (hW : isW (tbX1_dropIfFilled l K X) cuX1_dropIfFilled J W) (n : Nat) (ls st : List aV) (μ : aM) (g : Nat) : W (n + 1) 8 ls st μ g = (sLd 1 9 isR) (W n) ls st μ g := (hW n 8 ls st μ g).trans rfl
theorem wX1_dropIfFilled_9 {l : Launch} {K : aRs} {X : aXs} {J : aK} {W : Nat → aK} (hW : isW (tbX1_dropIfFilled l K X) cuX1_dropIfFilled J W) (n : Nat) (ls st : List aV) (μ : aM) (g : Nat) : W (n + 1) 9 ls st μ g = (sCallV 1 1 (fun as μ K => Ct l mdX1_takeOut as μ K X) 12 0 0) (W n) ls st μ g := (hW n 9 ls st μ g).trans rfl
theorem tX1_dropIfFilled_12 (l : Launch) (K : aRs) (X : aXs) : tb (tbX1_dropIfFilled l K X) 12 = sRetV 0 K := (rfl)
theorem wX1_dropIfFilled_12 {l : Launch} {K : aRs} {X : aXs} {J : aK} {W : Nat → aK} (hW : isW (tbX1_dropIfFilled l K X) cuX1_dropIfFilled J W) (n : Nat) (ls st : List aV) (μ : aM) (g : Nat) : W (n + 1) 12 ls st μ g = J 12 ls st μ g := (hW n 12 ls st μ g).trans rfl
theorem dX1_settle_0 : decode cX1_settle 0 = .ok (.aload_n 1, 1) := by decide +kernel
theorem dX1_settle_1 : decode cX1_settle 1 = .ok (.getfield 32, 3) := by decide +kernel
theorem dX1_settle_4 : decode cX1_settle 4 = .ok (.ifCond .ne 11, 3) := by decide +kernel
theorem dX1_settle_7 : decode cX1_settle 7 = .ok (.aload_n 0, 1) := by decide +kernel
theorem dX1_settle_8 : decode cX1_settle 8 = .ok (.aload_n 1, 1) := by decide +kernel
theorem dX1_settle_9 : decode cX1_settle 9 = .ok (.invokevirtual 35, 3) := by decide +kernel
theorem dX1_settle_12 : decode cX1_settle 12 = .ok (.goto 24, 3) := by decide +kernel
theorem dX1_settle_15 : decode cX1_settle 15 = .ok (.aload_n 1, 1) := by decide +kernel
theorem dX1_settle_16 : decode cX1_settle 16 = .ok (.getfield 39, 3) := by decide +kernel
theorem dX1_settle_19 : decode cX1_settle 19 = .ok (.ifCond .ne 17, 3) := by decide +kernel
theorem dX1_settle_22 : decode cX1_settle 22 = .ok (.aload_n 1, 1) := by decide +kernel
theorem dX1_settle_23 : decode cX1_settle 23 = .ok (.invokevirtual 42, 3) := by decide +kernel
theorem dX1_settle_26 : decode cX1_settle 26 = .ok (.aload_n 0, 1) := by decide +kernel
theorem dX1_settle_27 : decode cX1_settle 27 = .ok (.aload_n 1, 1) := by decide +kernel
theorem dX1_settle_28 : decode cX1_settle 28 = .ok (.invokevirtual 35, 3) := by decide +kernel
theorem dX1_settle_31 : decode cX1_settle 31 = .ok (.aload_n 0, 1) := by decide +kernel
theorem dX1_settle_32 : decode cX1_settle 32 = .ok (.aload_n 1, 1) := by decide +kernel
theorem dX1_settle_33 : decode cX1_settle 33 = .ok (.invokevirtual 45, 3) := by decide +kernel
theorem dX1_settle_36 : decode cX1_settle 36 = .ok (.return_, 1) := by decide +kernel
def tbX1_settle (l : Launch) (K : aRs) (X : aXs) : aTb := [
  (0, sLd 1 1 isR),
  (1, sGetI 2 6 4),
  (4, sIf pNe 15 7),
  (7, sLd 0 8 isR),
  (8, sLd 1 9 isR),
  (9, sCallV 1 1 (fun as μ K => Ct l mdX1_takeOut as μ K X) 12 0 0),
  (12, sGoto 36),
  (15, sLd 1 16 isR),
  (16, sGetI 2 9 19),
  (19, sIf pNe 36 22),
  (22, sLd 1 23 isR),
  (23, sCallV 0 2 (fun as μ K => Ct l mdX2_showSlice as μ K X) 26 0 0),
  (26, sLd 0 27 isR),
  (27, sLd 1 28 isR),
  (28, sCallV 1 1 (fun as μ K => Ct l mdX1_takeOut as μ K X) 31 0 0),
  (31, sLd 0 32 isR),
  (32, sLd 1 33 isR),
  (33, sCallV 1 1 (fun as μ K => Ct l mdX1_putIn as μ K X) 36 0 0),
  (36, sRetV 0 K)]
theorem snX1_settle (l : Launch) (K : aRs) (X : aXs) (n0 : Nat) : ∀ q ∈ tbX1_settle l K X, aSo l mdX1_settle K X n0 q.1 q.2 :=
  tc (fun p e s m args below meth c cA D A ad0 h => ok_aload_n h.1 1 rfl dX1_settle_0) <|
  tc (fun p e s m args below meth c cA D A ad0 h => ok_getI h.1 cxX2 (by decide) rfl fkRX1_32 (fun _ _ _ => rfl) dX1_settle_1) <|
  tc (fun p e s m args below meth c cA D A ad0 h => ok_if_ne h.1 15 (by decide) dX1_settle_4) <|
  tc (fun p e s m args below meth c cA D A ad0 h => ok_aload_n h.1 0 rfl dX1_settle_7) <|
  tc (fun p e s m args below meth c cA D A ad0 h => ok_aload_n h.1 1 rfl dX1_settle_8) <|
  tc (fun p e s m args below meth c cA D A ad0 h => ok_callV h.1 h.2.1 ⟨Nat.le_refl _, Nat.le_refl _⟩ mdX1_takeOut siX1_takeOut cxX1 mkRX1_35 imX1_takeOut seX1_takeOut ⟨by decide, by decide⟩ (aAx_out h.1 h.2.2.1 _) dX1_settle_9) <|
  tc (fun p e s m args below meth c cA D A ad0 h => ok_goto h.1 36 (by decide) dX1_settle_12) <|
  tc (fun p e s m args below meth c cA D A ad0 h => ok_aload_n h.1 1 rfl dX1_settle_15) <|
  tc (fun p e s m args below meth c cA D A ad0 h => ok_getI h.1 cxX2 (by decide) rfl fkRX1_39 (fun _ _ _ => rfl) dX1_settle_16) <|
  tc (fun p e s m args below meth c cA D A ad0 h => ok_if_ne h.1 36 (by decide) dX1_settle_19) <|
  tc (fun p e s m args below meth c cA D A ad0 h => ok_aload_n h.1 1 rfl dX1_settle_22) <|
  tc (fun p e s m args below meth c cA D A ad0 h => ok_callV h.1 h.2.1 ⟨Nat.le_refl _, Nat.le_refl _⟩ mdX2_showSlice siX2_showSlice cxX2 mkRX1_42 imX2_showSlice seX2_showSlice ⟨by decide, by decide⟩ (aAx_out h.1 h.2.2.1 _) dX1_settle_23) <|
  tc (fun p e s m args below meth c cA D A ad0 h => ok_aload_n h.1 0 rfl dX1_settle_26) <|
  tc (fun p e s m args below meth c cA D A ad0 h => ok_aload_n h.1 1 rfl dX1_settle_27) <|
  tc (fun p e s m args below meth c cA D A ad0 h => ok_callV h.1 h.2.1 ⟨Nat.le_refl _, Nat.le_refl _⟩ mdX1_takeOut siX1_takeOut cxX1 mkRX1_35 imX1_takeOut seX1_takeOut ⟨by decide, by decide⟩ (aAx_out h.1 h.2.2.1 _) dX1_settle_28) <|
  tc (fun p e s m args below meth c cA D A ad0 h => ok_aload_n h.1 0 rfl dX1_settle_31) <|
  tc (fun p e s m args below meth c cA D A ad0 h => ok_aload_n h.1 1 rfl dX1_settle_32) <|
  tc (fun p e s m args below meth c cA D A ad0 h => ok_callV h.1 h.2.1 ⟨Nat.le_refl _, Nat.le_refl _⟩ mdX1_putIn siX1_putIn cxX1 mkRX1_45 imX1_putIn seX1_putIn ⟨by decide, by decide⟩ (aAx_out h.1 h.2.2.1 _) dX1_settle_33) <|
  tc (fun p e s m args below meth c cA D A ad0 h => ok_return h.1 h.2.2.2.1 dX1_settle_36) <|
  tn
abbrev cuX1_settle : List Nat := [12, 26, 31, 36]
theorem tX1_settle_0 (l : Launch) (K : aRs) (X : aXs) : tb (tbX1_settle l K X) 0 = sLd 1 1 isR := (rfl)
theorem wX1_settle_0 {l : Launch} {K : aRs} {X : aXs} {J : aK} {W : Nat → aK} (hW : isW (tbX1_settle l K X) cuX1_settle J W) (n : Nat) (ls st : List aV) (μ : aM) (g : Nat) : W (n + 1) 0 ls st μ g = (sLd 1 1 isR) (W n) ls st μ g := (hW n 0 ls st μ g).trans rfl
theorem wX1_settle_1 {l : Launch} {K : aRs} {X : aXs} {J : aK} {W : Nat → aK} (hW : isW (tbX1_settle l K X) cuX1_settle J W) (n : Nat) (ls st : List aV) (μ : aM) (g : Nat) : W (n + 1) 1 ls st μ g = (sGetI 2 6 4) (W n) ls st μ g := (hW n 1 ls st μ g).trans rfl
theorem wX1_settle_4 {l : Launch} {K : aRs} {X : aXs} {J : aK} {W : Nat → aK} (hW : isW (tbX1_settle l K X) cuX1_settle J W) (n : Nat) (ls st : List aV) (μ : aM) (g : Nat) : W (n + 1) 4 ls st μ g = (sIf pNe 15 7) (W n) ls st μ g := (hW n 4 ls st μ g).trans rfl
theorem wX1_settle_7 {l : Launch} {K : aRs} {X : aXs} {J : aK} {W : Nat → aK} (hW : isW (tbX1_settle l K X) cuX1_settle J W) (n : Nat) (ls st : List aV) (μ : aM) (g : Nat) : W (n + 1) 7 ls st μ g = (sLd 0 8 isR) (W n) ls st μ g := (hW n 7 ls st μ g).trans rfl
theorem wX1_settle_8 {l : Launch} {K : aRs} {X : aXs} {J : aK} {W : Nat → aK} (hW : isW (tbX1_settle l K X) cuX1_settle J W) (n : Nat) (ls st : List aV) (μ : aM) (g : Nat) : W (n + 1) 8 ls st μ g = (sLd 1 9 isR) (W n) ls st μ g := (hW n 8 ls st μ g).trans rfl
theorem wX1_settle_9 {l : Launch} {K : aRs} {X : aXs} {J : aK} {W : Nat → aK} (hW : isW (tbX1_settle l K X) cuX1_settle J W) (n : Nat) (ls st : List aV) (μ : aM) (g : Nat) : W (n + 1) 9 ls st μ g = (sCallV 1 1 (fun as μ K => Ct l mdX1_takeOut as μ K X) 12 0 0) (W n) ls st μ g := (hW n 9 ls st μ g).trans rfl
theorem tX1_settle_12 (l : Launch) (K : aRs) (X : aXs) : tb (tbX1_settle l K X) 12 = sGoto 36 := (rfl)
theorem wX1_settle_12 {l : Launch} {K : aRs} {X : aXs} {J : aK} {W : Nat → aK} (hW : isW (tbX1_settle l K X) cuX1_settle J W) (n : Nat) (ls st : List aV) (μ : aM) (g : Nat) : W (n + 1) 12 ls st μ g = J 12 ls st μ g := (hW n 12 ls st μ g).trans rfl
theorem wX1_settle_15 {l : Launch} {K : aRs} {X : aXs} {J : aK} {W : Nat → aK} (hW : isW (tbX1_settle l K X) cuX1_settle J W) (n : Nat) (ls st : List aV) (μ : aM) (g : Nat) : W (n + 1) 15 ls st μ g = (sLd 1 16 isR) (W n) ls st μ g := (hW n 15 ls st μ g).trans rfl
theorem wX1_settle_16 {l : Launch} {K : aRs} {X : aXs} {J : aK} {W : Nat → aK} (hW : isW (tbX1_settle l K X) cuX1_settle J W) (n : Nat) (ls st : List aV) (μ : aM) (g : Nat) : W (n + 1) 16 ls st μ g = (sGetI 2 9 19) (W n) ls st μ g := (hW n 16 ls st μ g).trans rfl
theorem wX1_settle_19 {l : Launch} {K : aRs} {X : aXs} {J : aK} {W : Nat → aK} (hW : isW (tbX1_settle l K X) cuX1_settle J W) (n : Nat) (ls st : List aV) (μ : aM) (g : Nat) : W (n + 1) 19 ls st μ g = (sIf pNe 36 22) (W n) ls st μ g := (hW n 19 ls st μ g).trans rfl
theorem wX1_settle_22 {l : Launch} {K : aRs} {X : aXs} {J : aK} {W : Nat → aK} (hW : isW (tbX1_settle l K X) cuX1_settle J W) (n : Nat) (ls st : List aV) (μ : aM) (g : Nat) : W (n + 1) 22 ls st μ g = (sLd 1 23 isR) (W n) ls st μ g := (hW n 22 ls st μ g).trans rfl
theorem wX1_settle_23 {l : Launch} {K : aRs} {X : aXs} {J : aK} {W : Nat → aK} (hW : isW (tbX1_settle l K X) cuX1_settle J W) (n : Nat) (ls st : List aV) (μ : aM) (g : Nat) : W (n + 1) 23 ls st μ g = (sCallV 0 2 (fun as μ K => Ct l mdX2_showSlice as μ K X) 26 0 0) (W n) ls st μ g := (hW n 23 ls st μ g).trans rfl
theorem tX1_settle_26 (l : Launch) (K : aRs) (X : aXs) : tb (tbX1_settle l K X) 26 = sLd 0 27 isR := (rfl)
theorem wX1_settle_26 {l : Launch} {K : aRs} {X : aXs} {J : aK} {W : Nat → aK} (hW : isW (tbX1_settle l K X) cuX1_settle J W) (n : Nat) (ls st : List aV) (μ : aM) (g : Nat) : W (n + 1) 26 ls st μ g = J 26 ls st μ g := (hW n 26 ls st μ g).trans rfl
theorem wX1_settle_27 {l : Launch} {K : aRs} {X : aXs} {J : aK} {W : Nat → aK} (hW : isW (tbX1_settle l K X) cuX1_settle J W) (n : Nat) (ls st : List aV) (μ : aM) (g : Nat) : W (n + 1) 27 ls st μ g = (sLd 1 28 isR) (W n) ls st μ g := (hW n 27 ls st μ g).trans rfl
theorem wX1_settle_28 {l : Launch} {K : aRs} {X : aXs} {J : aK} {W : Nat → aK} (hW : isW (tbX1_settle l K X) cuX1_settle J W) (n : Nat) (ls st : List aV) (μ : aM) (g : Nat) : W (n + 1) 28 ls st μ g = (sCallV 1 1 (fun as μ K => Ct l mdX1_takeOut as μ K X) 31 0 0) (W n) ls st μ g := (hW n 28 ls st μ g).trans rfl
theorem tX1_settle_31 (l : Launch) (K : aRs) (X : aXs) : tb (tbX1_settle l K X) 31 = sLd 0 32 isR := (rfl)
theorem wX1_settle_31 {l : Launch} {K : aRs} {X : aXs} {J : aK} {W : Nat → aK} (hW : isW (tbX1_settle l K X) cuX1_settle J W) (n : Nat) (ls st : List aV) (μ : aM) (g : Nat) : W (n + 1) 31 ls st μ g = J 31 ls st μ g := (hW n 31 ls st μ g).trans rfl
theorem wX1_settle_32 {l : Launch} {K : aRs} {X : aXs} {J : aK} {W : Nat → aK} (hW : isW (tbX1_settle l K X) cuX1_settle J W) (n : Nat) (ls st : List aV) (μ : aM) (g : Nat) : W (n + 1) 32 ls st μ g = (sLd 1 33 isR) (W n) ls st μ g := (hW n 32 ls st μ g).trans rfl
theorem wX1_settle_33 {l : Launch} {K : aRs} {X : aXs} {J : aK} {W : Nat → aK} (hW : isW (tbX1_settle l K X) cuX1_settle J W) (n : Nat) (ls st : List aV) (μ : aM) (g : Nat) : W (n + 1) 33 ls st μ g = (sCallV 1 1 (fun as μ K => Ct l mdX1_putIn as μ K X) 36 0 0) (W n) ls st μ g := (hW n 33 ls st μ g).trans rfl
theorem tX1_settle_36 (l : Launch) (K : aRs) (X : aXs) : tb (tbX1_settle l K X) 36 = sRetV 0 K := (rfl)
theorem wX1_settle_36 {l : Launch} {K : aRs} {X : aXs} {J : aK} {W : Nat → aK} (hW : isW (tbX1_settle l K X) cuX1_settle J W) (n : Nat) (ls st : List aV) (μ : aM) (g : Nat) : W (n + 1) 36 ls st μ g = J 36 ls st μ g := (hW n 36 ls st μ g).trans rfl
theorem dX1_showSlices_0 : decode cX1_showSlices 0 = .ok (.aload_n 0, 1) := by decide +kernel
theorem dX1_showSlices_1 : decode cX1_showSlices 1 = .ok (.getfield 15, 3) := by decide +kernel
theorem dX1_showSlices_4 : decode cX1_showSlices 4 = .ok (.astore_n 1, 1) := by decide +kernel
theorem dX1_showSlices_5 : decode cX1_showSlices 5 = .ok (.aload_n 1, 1) := by decide +kernel
theorem dX1_showSlices_6 : decode cX1_showSlices 6 = .ok (.ifnull 15, 3) := by decide +kernel
theorem dX1_showSlices_9 : decode cX1_showSlices 9 = .ok (.aload_n 1, 1) := by decide +kernel
theorem dX1_showSlices_10 : decode cX1_showSlices 10 = .ok (.invokevirtual 42, 3) := by decide +kernel
theorem dX1_showSlices_13 : decode cX1_showSlices 13 = .ok (.aload_n 1, 1) := by decide +kernel
theorem dX1_showSlices_14 : decode cX1_showSlices 14 = .ok (.getfield 29, 3) := by decide +kernel
theorem dX1_showSlices_17 : decode cX1_showSlices 17 = .ok (.astore_n 1, 1) := by decide +kernel
theorem dX1_showSlices_18 : decode cX1_showSlices 18 = .ok (.goto (-13), 3) := by decide +kernel
theorem dX1_showSlices_21 : decode cX1_showSlices 21 = .ok (.return_, 1) := by decide +kernel
def tbX1_showSlices (l : Launch) (K : aRs) (X : aXs) : aTb := [
  (0, sLd 0 1 isR),
  (1, sGetR 1 1 4),
  (4, sSt 1 5 isR),
  (5, sLd 1 6 isR),
  (6, sNul 21 9),
  (9, sLd 1 10 isR),
  (10, sCallV 0 2 (fun as μ K => Ct l mdX2_showSlice as μ K X) 13 0 0),
  (13, sLd 1 14 isR),
  (14, sGetR 2 11 17),
  (17, sSt 1 18 isR),
  (18, sGoto 5),
  (21, sRetV 0 K)]
theorem snX1_showSlices (l : Launch) (K : aRs) (X : aXs) (n0 : Nat) : ∀ q ∈ tbX1_showSlices l K X, aSo l mdX1_showSlices K X n0 q.1 q.2 :=
  tc (fun p e s m args below meth c cA D A ad0 h => ok_aload_n h.1 0 rfl dX1_showSlices_0) <|
  tc (fun p e s m args below meth c cA D A ad0 h => ok_getR h.1 cxX1 (by decide) rfl fkRX1_15 (fun _ _ _ => rfl) dX1_showSlices_1) <|
  tc (fun p e s m args below meth c cA D A ad0 h => ok_astore_n h.1 1 rfl (by decide) dX1_showSlices_4) <|
  tc (fun p e s m args below meth c cA D A ad0 h => ok_aload_n h.1 1 rfl dX1_showSlices_5) <|
  tc (fun p e s m args below meth c cA D A ad0 h => ok_ifnull h.1 21 (by decide) dX1_showSlices_6) <|
  tc (fun p e s m args below meth c cA D A ad0 h => ok_aload_n h.1 1 rfl dX1_showSlices_9) <|
  tc (fun p e s m args below meth c cA D A ad0 h => ok_callV h.1 h.2.1 ⟨Nat.le_refl _, Nat.le_refl _⟩ mdX2_showSlice siX2_showSlice cxX2 mkRX1_42 imX2_showSlice seX2_showSlice ⟨by decide, by decide⟩ (aAx_out h.1 h.2.2.1 _) dX1_showSlices_10) <|
  tc (fun p e s m args below meth c cA D A ad0 h => ok_aload_n h.1 1 rfl dX1_showSlices_13) <|
  tc (fun p e s m args below meth c cA D A ad0 h => ok_getR h.1 cxX2 (by decide) rfl fkRX1_29 (fun _ _ _ => rfl) dX1_showSlices_14) <|
  tc (fun p e s m args below meth c cA D A ad0 h => ok_astore_n h.1 1 rfl (by decide) dX1_showSlices_17) <|
  tc (fun p e s m args below meth c cA D A ad0 h => ok_goto h.1 5 (by decide) dX1_showSlices_18) <|
  tc (fun p e s m args below meth c cA D A ad0 h => ok_return h.1 h.2.2.2.1 dX1_showSlices_21) <|
  tn
abbrev cuX1_showSlices : List Nat := [5, 13]
theorem tX1_showSlices_0 (l : Launch) (K : aRs) (X : aXs) : tb (tbX1_showSlices l K X) 0 = sLd 0 1 isR := (rfl)
theorem wX1_showSlices_0 {l : Launch} {K : aRs} {X : aXs} {J : aK} {W : Nat → aK} (hW : isW (tbX1_showSlices l K X) cuX1_showSlices J W) (n : Nat) (ls st : List aV) (μ : aM) (g : Nat) : W (n + 1) 0 ls st μ g = (sLd 0 1 isR) (W n) ls st μ g := (hW n 0 ls st μ g).trans rfl
theorem wX1_showSlices_1 {l : Launch} {K : aRs} {X : aXs} {J : aK} {W : Nat → aK} (hW : isW (tbX1_showSlices l K X) cuX1_showSlices J W) (n : Nat) (ls st : List aV) (μ : aM) (g : Nat) : W (n + 1) 1 ls st μ g = (sGetR 1 1 4) (W n) ls st μ g := (hW n 1 ls st μ g).trans rfl
theorem wX1_showSlices_4 {l : Launch} {K : aRs} {X : aXs} {J : aK} {W : Nat → aK} (hW : isW (tbX1_showSlices l K X) cuX1_showSlices J W) (n : Nat) (ls st : List aV) (μ : aM) (g : Nat) : W (n + 1) 4 ls st μ g = (sSt 1 5 isR) (W n) ls st μ g := (hW n 4 ls st μ g).trans rfl
theorem tX1_showSlices_5 (l : Launch) (K : aRs) (X : aXs) : tb (tbX1_showSlices l K X) 5 = sLd 1 6 isR := (rfl)
theorem wX1_showSlices_5 {l : Launch} {K : aRs} {X : aXs} {J : aK} {W : Nat → aK} (hW : isW (tbX1_showSlices l K X) cuX1_showSlices J W) (n : Nat) (ls st : List aV) (μ : aM) (g : Nat) : W (n + 1) 5 ls st μ g = J 5 ls st μ g := (hW n 5 ls st μ g).trans rfl
theorem wX1_showSlices_6 {l : Launch} {K : aRs} {X : aXs} {J : aK} {W : Nat → aK} (hW : isW (tbX1_showSlices l K X) cuX1_showSlices J W) (n : Nat) (ls st : List aV) (μ : aM) (g : Nat) : W (n + 1) 6 ls st μ g = (sNul 21 9) (W n) ls st μ g := (hW n 6 ls st μ g).trans rfl
theorem wX1_showSlices_9 {l : Launch} {K : aRs} {X : aXs} {J : aK} {W : Nat → aK} (hW : isW (tbX1_showSlices l K X) cuX1_showSlices J W) (n : Nat) (ls st : List aV) (μ : aM) (g : Nat) : W (n + 1) 9 ls st μ g = (sLd 1 10 isR) (W n) ls st μ g := (hW n 9 ls st μ g).trans rfl
theorem wX1_showSlices_10 {l : Launch} {K : aRs} {X : aXs} {J : aK} {W : Nat → aK} (hW : isW (tbX1_showSlices l K X) cuX1_showSlices J W) (n : Nat) (ls st : List aV) (μ : aM) (g : Nat) : W (n + 1) 10 ls st μ g = (sCallV 0 2 (fun as μ K => Ct l mdX2_showSlice as μ K X) 13 0 0) (W n) ls st μ g := (hW n 10 ls st μ g).trans rfl
theorem tX1_showSlices_13 (l : Launch) (K : aRs) (X : aXs) : tb (tbX1_showSlices l K X) 13 = sLd 1 14 isR := (rfl)
theorem wX1_showSlices_13 {l : Launch} {K : aRs} {X : aXs} {J : aK} {W : Nat → aK} (hW : isW (tbX1_showSlices l K X) cuX1_showSlices J W) (n : Nat) (ls st : List aV) (μ : aM) (g : Nat) : W (n + 1) 13 ls st μ g = J 13 ls st μ g := (hW n 13 ls st μ g).trans rfl
theorem wX1_showSlices_14 {l : Launch} {K : aRs} {X : aXs} {J : aK} {W : Nat → aK} (hW : isW (tbX1_showSlices l K X) cuX1_showSlices J W) (n : Nat) (ls st : List aV) (μ : aM) (g : Nat) : W (n + 1) 14 ls st μ g = (sGetR 2 11 17) (W n) ls st μ g := (hW n 14 ls st μ g).trans rfl
theorem wX1_showSlices_17 {l : Launch} {K : aRs} {X : aXs} {J : aK} {W : Nat → aK} (hW : isW (tbX1_showSlices l K X) cuX1_showSlices J W) (n : Nat) (ls st : List aV) (μ : aM) (g : Nat) : W (n + 1) 17 ls st μ g = (sSt 1 18 isR) (W n) ls st μ g := (hW n 17 ls st μ g).trans rfl
theorem wX1_showSlices_18 {l : Launch} {K : aRs} {X : aXs} {J : aK} {W : Nat → aK} (hW : isW (tbX1_showSlices l K X) cuX1_showSlices J W) (n : Nat) (ls st : List aV) (μ : aM) (g : Nat) : W (n + 1) 18 ls st μ g = (sGoto 5) (W n) ls st μ g := (hW n 18 ls st μ g).trans rfl
theorem wX1_showSlices_21 {l : Launch} {K : aRs} {X : aXs} {J : aK} {W : Nat → aK} (hW : isW (tbX1_showSlices l K X) cuX1_showSlices J W) (n : Nat) (ls st : List aV) (μ : aM) (g : Nat) : W (n + 1) 21 ls st μ g = (sRetV 0 K) (W n) ls st μ g := (hW n 21 ls st μ g).trans rfl
theorem dX1_slicesHold_0 : decode cX1_slicesHold 0 = .ok (.aload_n 0, 1) := by decide +kernel
theorem dX1_slicesHold_1 : decode cX1_slicesHold 1 = .ok (.getfield 15, 3) := by decide +kernel
theorem dX1_slicesHold_4 : decode cX1_slicesHold 4 = .ok (.astore_n 1, 1) := by decide +kernel
theorem dX1_slicesHold_5 : decode cX1_slicesHold 5 = .ok (.aload_n 1, 1) := by decide +kernel
theorem dX1_slicesHold_6 : decode cX1_slicesHold 6 = .ok (.ifnull 32, 3) := by decide +kernel
theorem dX1_slicesHold_9 : decode cX1_slicesHold 9 = .ok (.aload_n 1, 1) := by decide +kernel
theorem dX1_slicesHold_10 : decode cX1_slicesHold 10 = .ok (.getfield 39, 3) := by decide +kernel
theorem dX1_slicesHold_13 : decode cX1_slicesHold 13 = .ok (.iconst 1, 1) := by decide +kernel
theorem dX1_slicesHold_14 : decode cX1_slicesHold 14 = .ok (.if_icmp .lt 14, 3) := by decide +kernel
theorem dX1_slicesHold_17 : decode cX1_slicesHold 17 = .ok (.aload_n 1, 1) := by decide +kernel
theorem dX1_slicesHold_18 : decode cX1_slicesHold 18 = .ok (.getfield 39, 3) := by decide +kernel
theorem dX1_slicesHold_21 : decode cX1_slicesHold 21 = .ok (.aload_n 1, 1) := by decide +kernel
theorem dX1_slicesHold_22 : decode cX1_slicesHold 22 = .ok (.getfield 48, 3) := by decide +kernel
theorem dX1_slicesHold_25 : decode cX1_slicesHold 25 = .ok (.if_icmp .le 5, 3) := by decide +kernel
theorem dX1_slicesHold_28 : decode cX1_slicesHold 28 = .ok (.iconst 0, 1) := by decide +kernel
theorem dX1_slicesHold_29 : decode cX1_slicesHold 29 = .ok (.ireturn, 1) := by decide +kernel
theorem dX1_slicesHold_30 : decode cX1_slicesHold 30 = .ok (.aload_n 1, 1) := by decide +kernel
theorem dX1_slicesHold_31 : decode cX1_slicesHold 31 = .ok (.getfield 29, 3) := by decide +kernel
theorem dX1_slicesHold_34 : decode cX1_slicesHold 34 = .ok (.astore_n 1, 1) := by decide +kernel
theorem dX1_slicesHold_35 : decode cX1_slicesHold 35 = .ok (.goto (-30), 3) := by decide +kernel
theorem dX1_slicesHold_38 : decode cX1_slicesHold 38 = .ok (.iconst 1, 1) := by decide +kernel
theorem dX1_slicesHold_39 : decode cX1_slicesHold 39 = .ok (.ireturn, 1) := by decide +kernel
def tbX1_slicesHold (l : Launch) (K : aRs) (X : aXs) : aTb := [
  (0, sLd 0 1 isR),
  (1, sGetR 1 1 4),
  (4, sSt 1 5 isR),
  (5, sLd 1 6 isR),
  (6, sNul 38 9),
  (9, sLd 1 10 isR),
  (10, sGetI 2 9 13),
  (13, sPush (aI 1) 14),
  (14, sIc qLt 28 17),
  (17, sLd 1 18 isR),
  (18, sGetI 2 9 21),
  (21, sLd 1 22 isR),
  (22, sGetI 2 8 25),
  (25, sIc qLe 30 28),
  (28, sPush (aI 0) 29),
  (29, sRetI .boolean 0 K),
  (30, sLd 1 31 isR),
  (31, sGetR 2 11 34),
  (34, sSt 1 35 isR),
  (35, sGoto 5),
  (38, sPush (aI 1) 39),
  (39, sRetI .boolean 0 K)]
theorem snX1_slicesHold (l : Launch) (K : aRs) (X : aXs) (n0 : Nat) : ∀ q ∈ tbX1_slicesHold l K X, aSo l mdX1_slicesHold K X n0 q.1 q.2 :=
  tc (fun p e s m args below meth c cA D A ad0 h => ok_aload_n h.1 0 rfl dX1_slicesHold_0) <|
  tc (fun p e s m args below meth c cA D A ad0 h => ok_getR h.1 cxX1 (by decide) rfl fkRX1_15 (fun _ _ _ => rfl) dX1_slicesHold_1) <|
  tc (fun p e s m args below meth c cA D A ad0 h => ok_astore_n h.1 1 rfl (by decide) dX1_slicesHold_4) <|
  tc (fun p e s m args below meth c cA D A ad0 h => ok_aload_n h.1 1 rfl dX1_slicesHold_5) <|
  tc (fun p e s m args below meth c cA D A ad0 h => ok_ifnull h.1 38 (by decide) dX1_slicesHold_6) <|
  tc (fun p e s m args below meth c cA D A ad0 h => ok_aload_n h.1 1 rfl dX1_slicesHold_9) <|
  tc (fun p e s m args below meth c cA D A ad0 h => ok_getI h.1 cxX2 (by decide) rfl fkRX1_39 (fun _ _ _ => rfl) dX1_slicesHold_10) <|
  tc (fun p e s m args below meth c cA D A ad0 h => ok_iconst h.1 ⟨by decide, by decide⟩ dX1_slicesHold_13) <|
  tc (fun p e s m args below meth c cA D A ad0 h => ok_icmp_lt h.1 28 (by decide) dX1_slicesHold_14) <|
  tc (fun p e s m args below meth c cA D A ad0 h => ok_aload_n h.1 1 rfl dX1_slicesHold_17) <|
  tc (fun p e s m args below meth c cA D A ad0 h => ok_getI h.1 cxX2 (by decide) rfl fkRX1_39 (fun _ _ _ => rfl) dX1_slicesHold_18) <|
  tc (fun p e s m args below meth c cA D A ad0 h => ok_aload_n h.1 1 rfl dX1_slicesHold_21) <|
  tc (fun p e s m args below meth c cA D A ad0 h => ok_getI h.1 cxX2 (by decide) rfl fkRX1_48 (fun _ _ _ => rfl) dX1_slicesHold_22) <|
  tc (fun p e s m args below meth c cA D A ad0 h => ok_icmp_le h.1 30 (by decide) dX1_slicesHold_25) <|
  tc (fun p e s m args below meth c cA D A ad0 h => ok_iconst h.1 ⟨by decide, by decide⟩ dX1_slicesHold_28) <|
  tc (fun p e s m args below meth c cA D A ad0 h => ok_ireturn h.1 h.2.2.2.1 (Or.inr (Or.inl rfl)) dX1_slicesHold_29) <|
  tc (fun p e s m args below meth c cA D A ad0 h => ok_aload_n h.1 1 rfl dX1_slicesHold_30) <|
  tc (fun p e s m args below meth c cA D A ad0 h => ok_getR h.1 cxX2 (by decide) rfl fkRX1_29 (fun _ _ _ => rfl) dX1_slicesHold_31) <|
  tc (fun p e s m args below meth c cA D A ad0 h => ok_astore_n h.1 1 rfl (by decide) dX1_slicesHold_34) <|
  tc (fun p e s m args below meth c cA D A ad0 h => ok_goto h.1 5 (by decide) dX1_slicesHold_35) <|
  tc (fun p e s m args below meth c cA D A ad0 h => ok_iconst h.1 ⟨by decide, by decide⟩ dX1_slicesHold_38) <|
  tc (fun p e s m args below meth c cA D A ad0 h => ok_ireturn h.1 h.2.2.2.1 (Or.inr (Or.inl rfl)) dX1_slicesHold_39) <|
  tn
abbrev cuX1_slicesHold : List Nat := [5]
theorem tX1_slicesHold_0 (l : Launch) (K : aRs) (X : aXs) : tb (tbX1_slicesHold l K X) 0 = sLd 0 1 isR := (rfl)
theorem wX1_slicesHold_0 {l : Launch} {K : aRs} {X : aXs} {J : aK} {W : Nat → aK} (hW : isW (tbX1_slicesHold l K X) cuX1_slicesHold J W) (n : Nat) (ls st : List aV) (μ : aM) (g : Nat) : W (n + 1) 0 ls st μ g = (sLd 0 1 isR) (W n) ls st μ g := (hW n 0 ls st μ g).trans rfl
theorem wX1_slicesHold_1 {l : Launch} {K : aRs} {X : aXs} {J : aK} {W : Nat → aK} (hW : isW (tbX1_slicesHold l K X) cuX1_slicesHold J W) (n : Nat) (ls st : List aV) (μ : aM) (g : Nat) : W (n + 1) 1 ls st μ g = (sGetR 1 1 4) (W n) ls st μ g := (hW n 1 ls st μ g).trans rfl
theorem wX1_slicesHold_4 {l : Launch} {K : aRs} {X : aXs} {J : aK} {W : Nat → aK} (hW : isW (tbX1_slicesHold l K X) cuX1_slicesHold J W) (n : Nat) (ls st : List aV) (μ : aM) (g : Nat) : W (n + 1) 4 ls st μ g = (sSt 1 5 isR) (W n) ls st μ g := (hW n 4 ls st μ g).trans rfl
theorem tX1_slicesHold_5 (l : Launch) (K : aRs) (X : aXs) : tb (tbX1_slicesHold l K X) 5 = sLd 1 6 isR := (rfl)
theorem wX1_slicesHold_5 {l : Launch} {K : aRs} {X : aXs} {J : aK} {W : Nat → aK} (hW : isW (tbX1_slicesHold l K X) cuX1_slicesHold J W) (n : Nat) (ls st : List aV) (μ : aM) (g : Nat) : W (n + 1) 5 ls st μ g = J 5 ls st μ g := (hW n 5 ls st μ g).trans rfl
theorem wX1_slicesHold_6 {l : Launch} {K : aRs} {X : aXs} {J : aK} {W : Nat → aK} (hW : isW (tbX1_slicesHold l K X) cuX1_slicesHold J W) (n : Nat) (ls st : List aV) (μ : aM) (g : Nat) : W (n + 1) 6 ls st μ g = (sNul 38 9) (W n) ls st μ g := (hW n 6 ls st μ g).trans rfl
theorem wX1_slicesHold_9 {l : Launch} {K : aRs} {X : aXs} {J : aK} {W : Nat → aK} (hW : isW (tbX1_slicesHold l K X) cuX1_slicesHold J W) (n : Nat) (ls st : List aV) (μ : aM) (g : Nat) : W (n + 1) 9 ls st μ g = (sLd 1 10 isR) (W n) ls st μ g := (hW n 9 ls st μ g).trans rfl
theorem wX1_slicesHold_10 {l : Launch} {K : aRs} {X : aXs} {J : aK} {W : Nat → aK} (hW : isW (tbX1_slicesHold l K X) cuX1_slicesHold J W) (n : Nat) (ls st : List aV) (μ : aM) (g : Nat) : W (n + 1) 10 ls st μ g = (sGetI 2 9 13) (W n) ls st μ g := (hW n 10 ls st μ g).trans rfl
theorem wX1_slicesHold_13 {l : Launch} {K : aRs} {X : aXs} {J : aK} {W : Nat → aK} (hW : isW (tbX1_slicesHold l K X) cuX1_slicesHold J W) (n : Nat) (ls st : List aV) (μ : aM) (g : Nat) : W (n + 1) 13 ls st μ g = (sPush (aI 1) 14) (W n) ls st μ g := (hW n 13 ls st μ g).trans rfl
theorem wX1_slicesHold_14 {l : Launch} {K : aRs} {X : aXs} {J : aK} {W : Nat → aK} (hW : isW (tbX1_slicesHold l K X) cuX1_slicesHold J W) (n : Nat) (ls st : List aV) (μ : aM) (g : Nat) : W (n + 1) 14 ls st μ g = (sIc qLt 28 17) (W n) ls st μ g := (hW n 14 ls st μ g).trans rfl
theorem wX1_slicesHold_17 {l : Launch} {K : aRs} {X : aXs} {J : aK} {W : Nat → aK} (hW : isW (tbX1_slicesHold l K X) cuX1_slicesHold J W) (n : Nat) (ls st : List aV) (μ : aM) (g : Nat) : W (n + 1) 17 ls st μ g = (sLd 1 18 isR) (W n) ls st μ g := (hW n 17 ls st μ g).trans rfl
theorem wX1_slicesHold_18 {l : Launch} {K : aRs} {X : aXs} {J : aK} {W : Nat → aK} (hW : isW (tbX1_slicesHold l K X) cuX1_slicesHold J W) (n : Nat) (ls st : List aV) (μ : aM) (g : Nat) : W (n + 1) 18 ls st μ g = (sGetI 2 9 21) (W n) ls st μ g := (hW n 18 ls st μ g).trans rfl
theorem wX1_slicesHold_21 {l : Launch} {K : aRs} {X : aXs} {J : aK} {W : Nat → aK} (hW : isW (tbX1_slicesHold l K X) cuX1_slicesHold J W) (n : Nat) (ls st : List aV) (μ : aM) (g : Nat) : W (n + 1) 21 ls st μ g = (sLd 1 22 isR) (W n) ls st μ g := (hW n 21 ls st μ g).trans rfl
theorem wX1_slicesHold_22 {l : Launch} {K : aRs} {X : aXs} {J : aK} {W : Nat → aK} (hW : isW (tbX1_slicesHold l K X) cuX1_slicesHold J W) (n : Nat) (ls st : List aV) (μ : aM) (g : Nat) : W (n + 1) 22 ls st μ g = (sGetI 2 8 25) (W n) ls st μ g := (hW n 22 ls st μ g).trans rfl
theorem wX1_slicesHold_25 {l : Launch} {K : aRs} {X : aXs} {J : aK} {W : Nat → aK} (hW : isW (tbX1_slicesHold l K X) cuX1_slicesHold J W) (n : Nat) (ls st : List aV) (μ : aM) (g : Nat) : W (n + 1) 25 ls st μ g = (sIc qLe 30 28) (W n) ls st μ g := (hW n 25 ls st μ g).trans rfl
theorem wX1_slicesHold_28 {l : Launch} {K : aRs} {X : aXs} {J : aK} {W : Nat → aK} (hW : isW (tbX1_slicesHold l K X) cuX1_slicesHold J W) (n : Nat) (ls st : List aV) (μ : aM) (g : Nat) : W (n + 1) 28 ls st μ g = (sPush (aI 0) 29) (W n) ls st μ g := (hW n 28 ls st μ g).trans rfl
theorem wX1_slicesHold_29 {l : Launch} {K : aRs} {X : aXs} {J : aK} {W : Nat → aK} (hW : isW (tbX1_slicesHold l K X) cuX1_slicesHold J W) (n : Nat) (ls st : List aV) (μ : aM) (g : Nat) : W (n + 1) 29 ls st μ g = (sRetI .boolean 0 K) (W n) ls st μ g := (hW n 29 ls st μ g).trans rfl
theorem wX1_slicesHold_30 {l : Launch} {K : aRs} {X : aXs} {J : aK} {W : Nat → aK} (hW : isW (tbX1_slicesHold l K X) cuX1_slicesHold J W) (n : Nat) (ls st : List aV) (μ : aM) (g : Nat) : W (n + 1) 30 ls st μ g = (sLd 1 31 isR) (W n) ls st μ g := (hW n 30 ls st μ g).trans rfl
theorem wX1_slicesHold_31 {l : Launch} {K : aRs} {X : aXs} {J : aK} {W : Nat → aK} (hW : isW (tbX1_slicesHold l K X) cuX1_slicesHold J W) (n : Nat) (ls st : List aV) (μ : aM) (g : Nat) : W (n + 1) 31 ls st μ g = (sGetR 2 11 34) (W n) ls st μ g := (hW n 31 ls st μ g).trans rfl
theorem wX1_slicesHold_34 {l : Launch} {K : aRs} {X : aXs} {J : aK} {W : Nat → aK} (hW : isW (tbX1_slicesHold l K X) cuX1_slicesHold J W) (n : Nat) (ls st : List aV) (μ : aM) (g : Nat) : W (n + 1) 34 ls st μ g = (sSt 1 35 isR) (W n) ls st μ g := (hW n 34 ls st μ g).trans rfl
theorem wX1_slicesHold_35 {l : Launch} {K : aRs} {X : aXs} {J : aK} {W : Nat → aK} (hW : isW (tbX1_slicesHold l K X) cuX1_slicesHold J W) (n : Nat) (ls st : List aV) (μ : aM) (g : Nat) : W (n + 1) 35 ls st μ g = (sGoto 5) (W n) ls st μ g := (hW n 35 ls st μ g).trans rfl
theorem wX1_slicesHold_38 {l : Launch} {K : aRs} {X : aXs} {J : aK} {W : Nat → aK} (hW : isW (tbX1_slicesHold l K X) cuX1_slicesHold J W) (n : Nat) (ls st : List aV) (μ : aM) (g : Nat) : W (n + 1) 38 ls st μ g = (sPush (aI 1) 39) (W n) ls st μ g := (hW n 38 ls st μ g).trans rfl
theorem wX1_slicesHold_39 {l : Launch} {K : aRs} {X : aXs} {J : aK} {W : Nat → aK} (hW : isW (tbX1_slicesHold l K X) cuX1_slicesHold J W) (n : Nat) (ls st : List aV) (μ : aM) (g : Nat) : W (n + 1) 39 ls st μ g = (sRetI .boolean 0 K) (W n) ls st μ g := (hW n 39 ls st μ g).trans rfl
theorem dX1_leftAtLeast_0 : decode cX1_leftAtLeast 0 = .ok (.iconst 0, 1) := by decide +kernel
theorem dX1_leftAtLeast_1 : decode cX1_leftAtLeast 1 = .ok (.istore_n 2, 1) := by decide +kernel
theorem dX1_leftAtLeast_2 : decode cX1_leftAtLeast 2 = .ok (.aload_n 0, 1) := by decide +kernel
theorem dX1_leftAtLeast_3 : decode cX1_leftAtLeast 3 = .ok (.getfield 15, 3) := by decide +kernel
theorem dX1_leftAtLeast_6 : decode cX1_leftAtLeast 6 = .ok (.astore_n 3, 1) := by decide +kernel
theorem dX1_leftAtLeast_7 : decode cX1_leftAtLeast 7 = .ok (.aload_n 3, 1) := by decide +kernel
theorem dX1_leftAtLeast_8 : decode cX1_leftAtLeast 8 = .ok (.ifnull 30, 3) := by decide +kernel
theorem dX1_leftAtLeast_11 : decode cX1_leftAtLeast 11 = .ok (.aload_n 0, 1) := by decide +kernel
theorem dX1_leftAtLeast_12 : decode cX1_leftAtLeast 12 = .ok (.aload_n 3, 1) := by decide +kernel
theorem dX1_leftAtLeast_13 : decode cX1_leftAtLeast 13 = .ok (.getfield 19, 3) := by decide +kernel
theorem dX1_leftAtLeast_16 : decode cX1_leftAtLeast 16 = .ok (.iload_n 1, 1) := by decide +kernel
theorem dX1_leftAtLeast_17 : decode cX1_leftAtLeast 17 = .ok (.invokevirtual 25, 3) := by decide +kernel
theorem dX1_leftAtLeast_20 : decode cX1_leftAtLeast 20 = .ok (.ifCond .eq 18, 3) := by decide +kernel
theorem dX1_leftAtLeast_23 : decode cX1_leftAtLeast 23 = .ok (.iload_n 2, 1) := by decide +kernel
theorem dX1_leftAtLeast_24 : decode cX1_leftAtLeast 24 = .ok (.aload_n 3, 1) := by decide +kernel
theorem dX1_leftAtLeast_25 : decode cX1_leftAtLeast 25 = .ok (.getfield 32, 3) := by decide +kernel
theorem dX1_leftAtLeast_28 : decode cX1_leftAtLeast 28 = .ok (.iadd, 1) := by decide +kernel
theorem dX1_leftAtLeast_29 : decode cX1_leftAtLeast 29 = .ok (.istore_n 2, 1) := by decide +kernel
theorem dX1_leftAtLeast_30 : decode cX1_leftAtLeast 30 = .ok (.aload_n 3, 1) := by decide +kernel
theorem dX1_leftAtLeast_31 : decode cX1_leftAtLeast 31 = .ok (.getfield 29, 3) := by decide +kernel
theorem dX1_leftAtLeast_34 : decode cX1_leftAtLeast 34 = .ok (.astore_n 3, 1) := by decide +kernel
theorem dX1_leftAtLeast_35 : decode cX1_leftAtLeast 35 = .ok (.goto (-28), 3) := by decide +kernel
theorem dX1_leftAtLeast_38 : decode cX1_leftAtLeast 38 = .ok (.iload_n 2, 1) := by decide +kernel
theorem dX1_leftAtLeast_39 : decode cX1_leftAtLeast 39 = .ok (.ireturn, 1) := by decide +kernel
def tbX1_leftAtLeast (l : Launch) (K : aRs) (X : aXs) : aTb := [
  (0, sPush (aI 0) 1),
  (1, sSt 2 2 isI),
  (2, sLd 0 3 isR),
  (3, sGetR 1 1 6),
  (6, sSt 3 7 isR),
  (7, sLd 3 8 isR),
  (8, sNul 38 11),
  (11, sLd 0 12 isR),
  (12, sLd 3 13 isR),
  (13, sGetI 2 4 16),
  (16, sLd 1 17 isI),
  (17, sCallV 2 1 (fun as μ K => Ct l mdX1_isAtLeast as μ K X) 20 0 0),
  (20, sIf pEq 38 23),
  (23, sLd 2 24 isI),
  (24, sLd 3 25 isR),
  (25, sGetI 2 6 28),
  (28, sBin fAdd 29),
  (29, sSt 2 30 isI),
  (30, sLd 3 31 isR),
  (31, sGetR 2 11 34),
  (34, sSt 3 35 isR),
  (35, sGoto 7),
  (38, sLd 2 39 isI),
  (39, sRetI .int 0 K)]
theorem snX1_leftAtLeast (l : Launch) (K : aRs) (X : aXs) (n0 : Nat) : ∀ q ∈ tbX1_leftAtLeast l K X, aSo l mdX1_leftAtLeast K X n0 q.1 q.2 :=
  tc (fun p e s m args below meth c cA D A ad0 h => ok_iconst h.1 ⟨by decide, by decide⟩ dX1_leftAtLeast_0) <|
  tc (fun p e s m args below meth c cA D A ad0 h => ok_istore_n h.1 2 rfl (by decide) dX1_leftAtLeast_1) <|
  tc (fun p e s m args below meth c cA D A ad0 h => ok_aload_n h.1 0 rfl dX1_leftAtLeast_2) <|
  tc (fun p e s m args below meth c cA D A ad0 h => ok_getR h.1 cxX1 (by decide) rfl fkRX1_15 (fun _ _ _ => rfl) dX1_leftAtLeast_3) <|
  tc (fun p e s m args below meth c cA D A ad0 h => ok_astore_n h.1 3 rfl (by decide) dX1_leftAtLeast_6) <|
  tc (fun p e s m args below meth c cA D A ad0 h => ok_aload_n h.1 3 rfl dX1_leftAtLeast_7) <|
  tc (fun p e s m args below meth c cA D A ad0 h => ok_ifnull h.1 38 (by decide) dX1_leftAtLeast_8) <|
  tc (fun p e s m args below meth c cA D A ad0 h => ok_aload_n h.1 0 rfl dX1_leftAtLeast_11) <|
  tc (fun p e s m args below meth c cA D A ad0 h => ok_aload_n h.1 3 rfl dX1_leftAtLeast_12) <|
  tc (fun p e s m args below meth c cA D A ad0 h => ok_getI h.1 cxX2 (by decide) rfl fkRX1_19 (fun _ _ _ => rfl) dX1_leftAtLeast_13) <|
  tc (fun p e s m args below meth c cA D A ad0 h => ok_iload_n h.1 1 rfl dX1_leftAtLeast_16) <|
  tc (fun p e s m args below meth c cA D A ad0 h => ok_callV h.1 h.2.1 ⟨Nat.le_refl _, Nat.le_refl _⟩ mdX1_isAtLeast siX1_isAtLeast cxX1 mkRX1_25 imX1_isAtLeast seX1_isAtLeast ⟨by decide, by decide⟩ (aAx_out h.1 h.2.2.1 _) dX1_leftAtLeast_17) <|
  tc (fun p e s m args below meth c cA D A ad0 h => ok_if_eq h.1 38 (by decide) dX1_leftAtLeast_20) <|
  tc (fun p e s m args below meth c cA D A ad0 h => ok_iload_n h.1 2 rfl dX1_leftAtLeast_23) <|
  tc (fun p e s m args below meth c cA D A ad0 h => ok_aload_n h.1 3 rfl dX1_leftAtLeast_24) <|
  tc (fun p e s m args below meth c cA D A ad0 h => ok_getI h.1 cxX2 (by decide) rfl fkRX1_32 (fun _ _ _ => rfl) dX1_leftAtLeast_25) <|
  tc (fun p e s m args below meth c cA D A ad0 h => ok_iadd h.1 dX1_leftAtLeast_28) <|
  tc (fun p e s m args below meth c cA D A ad0 h => ok_istore_n h.1 2 rfl (by decide) dX1_leftAtLeast_29) <|
  tc (fun p e s m args below meth c cA D A ad0 h => ok_aload_n h.1 3 rfl dX1_leftAtLeast_30) <|
  tc (fun p e s m args below meth c cA D A ad0 h => ok_getR h.1 cxX2 (by decide) rfl fkRX1_29 (fun _ _ _ => rfl) dX1_leftAtLeast_31) <|
  tc (fun p e s m args below meth c cA D A ad0 h => ok_astore_n h.1 3 rfl (by decide) dX1_leftAtLeast_34) <|
  tc (fun p e s m args below meth c cA D A ad0 h => ok_goto h.1 7 (by decide) dX1_leftAtLeast_35) <|
  tc (fun p e s m args below meth c cA D A ad0 h => ok_iload_n h.1 2 rfl dX1_leftAtLeast_38) <|
  tc (fun p e s m args below meth c cA D A ad0 h => ok_ireturn h.1 h.2.2.2.1 (Or.inl rfl) dX1_leftAtLeast_39) <|
  tn
abbrev cuX1_leftAtLeast : List Nat := [7, 20]
theorem tX1_leftAtLeast_0 (l : Launch) (K : aRs) (X : aXs) : tb (tbX1_leftAtLeast l K X) 0 = sPush (aI 0) 1 := (rfl)
theorem wX1_leftAtLeast_0 {l : Launch} {K : aRs} {X : aXs} {J : aK} {W : Nat → aK} (hW : isW (tbX1_leftAtLeast l K X) cuX1_leftAtLeast J W) (n : Nat) (ls st : List aV) (μ : aM) (g : Nat) : W (n + 1) 0 ls st μ g = (sPush (aI 0) 1) (W n) ls st μ g := (hW n 0 ls st μ g).trans rfl
theorem wX1_leftAtLeast_1 {l : Launch} {K : aRs} {X : aXs} {J : aK} {W : Nat → aK} (hW : isW (tbX1_leftAtLeast l K X) cuX1_leftAtLeast J W) (n : Nat) (ls st : List aV) (μ : aM) (g : Nat) : W (n + 1) 1 ls st μ g = (sSt 2 2 isI) (W n) ls st μ g := (hW n 1 ls st μ g).trans rfl
theorem wX1_leftAtLeast_2 {l : Launch} {K : aRs} {X : aXs} {J : aK} {W : Nat → aK} (hW : isW (tbX1_leftAtLeast l K X) cuX1_leftAtLeast J W) (n : Nat) (ls st : List aV) (μ : aM) (g : Nat) : W (n + 1) 2 ls st μ g = (sLd 0 3 isR) (W n) ls st μ g := (hW n 2 ls st μ g).trans rfl
theorem wX1_leftAtLeast_3 {l : Launch} {K : aRs} {X : aXs} {J : aK} {W : Nat → aK} (hW : isW (tbX1_leftAtLeast l K X) cuX1_leftAtLeast J W) (n : Nat) (ls st : List aV) (μ : aM) (g : Nat) : W (n + 1) 3 ls st μ g = (sGetR 1 1 6) (W n) ls st μ g := (hW n 3 ls st μ g).trans rfl
theorem wX1_leftAtLeast_6 {l : Launch} {K : aRs} {X : aXs} {J : aK} {W : Nat → aK} (hW : isW (tbX1_leftAtLeast l K X) cuX1_leftAtLeast J W) (n : Nat) (ls st : List aV) (μ : aM) (g : Nat) : W (n + 1) 6 ls st μ g = (sSt 3 7 isR) (W n) ls st μ g := (hW n 6 ls st μ g).trans rfl
theorem tX1_leftAtLeast_7 (l : Launch) (K : aRs) (X : aXs) : tb (tbX1_leftAtLeast l K X) 7 = sLd 3 8 isR := (rfl)
theorem wX1_leftAtLeast_7 {l : Launch} {K : aRs} {X : aXs} {J : aK} {W : Nat → aK} (hW : isW (tbX1_leftAtLeast l K X) cuX1_leftAtLeast J W) (n : Nat) (ls st : List aV) (μ : aM) (g : Nat) : W (n + 1) 7 ls st μ g = J 7 ls st μ g := (hW n 7 ls st μ g).trans rfl
theorem wX1_leftAtLeast_8 {l : Launch} {K : aRs} {X : aXs} {J : aK} {W : Nat → aK} (hW : isW (tbX1_leftAtLeast l K X) cuX1_leftAtLeast J W) (n : Nat) (ls st : List aV) (μ : aM) (g : Nat) : W (n + 1) 8 ls st μ g = (sNul 38 11) (W n) ls st μ g := (hW n 8 ls st μ g).trans rfl
theorem wX1_leftAtLeast_11 {l : Launch} {K : aRs} {X : aXs} {J : aK} {W : Nat → aK} (hW : isW (tbX1_leftAtLeast l K X) cuX1_leftAtLeast J W) (n : Nat) (ls st : List aV) (μ : aM) (g : Nat) : W (n + 1) 11 ls st μ g = (sLd 0 12 isR) (W n) ls st μ g := (hW n 11 ls st μ g).trans rfl
theorem wX1_leftAtLeast_12 {l : Launch} {K : aRs} {X : aXs} {J : aK} {W : Nat → aK} (hW : isW (tbX1_leftAtLeast l K X) cuX1_leftAtLeast J W) (n : Nat) (ls st : List aV) (μ : aM) (g : Nat) : W (n + 1) 12 ls st μ g = (sLd 3 13 isR) (W n) ls st μ g := (hW n 12 ls st μ g).trans rfl
theorem wX1_leftAtLeast_13 {l : Launch} {K : aRs} {X : aXs} {J : aK} {W : Nat → aK} (hW : isW (tbX1_leftAtLeast l K X) cuX1_leftAtLeast J W) (n : Nat) (ls st : List aV) (μ : aM) (g : Nat) : W (n + 1) 13 ls st μ g = (sGetI 2 4 16) (W n) ls st μ g := (hW n 13 ls st μ g).trans rfl
theorem wX1_leftAtLeast_16 {l : Launch} {K : aRs} {X : aXs} {J : aK} {W : Nat → aK} (hW : isW (tbX1_leftAtLeast l K X) cuX1_leftAtLeast J W) (n : Nat) (ls st : List aV) (μ : aM) (g : Nat) : W (n + 1) 16 ls st μ g = (sLd 1 17 isI) (W n) ls st μ g := (hW n 16 ls st μ g).trans rfl
theorem wX1_leftAtLeast_17 {l : Launch} {K : aRs} {X : aXs} {J : aK} {W : Nat → aK} (hW : isW (tbX1_leftAtLeast l K X) cuX1_leftAtLeast J W) (n : Nat) (ls st : List aV) (μ : aM) (g : Nat) : W (n + 1) 17 ls st μ g = (sCallV 2 1 (fun as μ K => Ct l mdX1_isAtLeast as μ K X) 20 0 0) (W n) ls st μ g := (hW n 17 ls st μ g).trans rfl
theorem tX1_leftAtLeast_20 (l : Launch) (K : aRs) (X : aXs) : tb (tbX1_leftAtLeast l K X) 20 = sIf pEq 38 23 := (rfl)
theorem wX1_leftAtLeast_20 {l : Launch} {K : aRs} {X : aXs} {J : aK} {W : Nat → aK} (hW : isW (tbX1_leftAtLeast l K X) cuX1_leftAtLeast J W) (n : Nat) (ls st : List aV) (μ : aM) (g : Nat) : W (n + 1) 20 ls st μ g = J 20 ls st μ g := (hW n 20 ls st μ g).trans rfl
theorem wX1_leftAtLeast_23 {l : Launch} {K : aRs} {X : aXs} {J : aK} {W : Nat → aK} (hW : isW (tbX1_leftAtLeast l K X) cuX1_leftAtLeast J W) (n : Nat) (ls st : List aV) (μ : aM) (g : Nat) : W (n + 1) 23 ls st μ g = (sLd 2 24 isI) (W n) ls st μ g := (hW n 23 ls st μ g).trans rfl
theorem wX1_leftAtLeast_24 {l : Launch} {K : aRs} {X : aXs} {J : aK} {W : Nat → aK} (hW : isW (tbX1_leftAtLeast l K X) cuX1_leftAtLeast J W) (n : Nat) (ls st : List aV) (μ : aM) (g : Nat) : W (n + 1) 24 ls st μ g = (sLd 3 25 isR) (W n) ls st μ g := (hW n 24 ls st μ g).trans rfl
theorem wX1_leftAtLeast_25 {l : Launch} {K : aRs} {X : aXs} {J : aK} {W : Nat → aK} (hW : isW (tbX1_leftAtLeast l K X) cuX1_leftAtLeast J W) (n : Nat) (ls st : List aV) (μ : aM) (g : Nat) : W (n + 1) 25 ls st μ g = (sGetI 2 6 28) (W n) ls st μ g := (hW n 25 ls st μ g).trans rfl
theorem wX1_leftAtLeast_28 {l : Launch} {K : aRs} {X : aXs} {J : aK} {W : Nat → aK} (hW : isW (tbX1_leftAtLeast l K X) cuX1_leftAtLeast J W) (n : Nat) (ls st : List aV) (μ : aM) (g : Nat) : W (n + 1) 28 ls st μ g = (sBin fAdd 29) (W n) ls st μ g := (hW n 28 ls st μ g).trans rfl
theorem wX1_leftAtLeast_29 {l : Launch} {K : aRs} {X : aXs} {J : aK} {W : Nat → aK} (hW : isW (tbX1_leftAtLeast l K X) cuX1_leftAtLeast J W) (n : Nat) (ls st : List aV) (μ : aM) (g : Nat) : W (n + 1) 29 ls st μ g = (sSt 2 30 isI) (W n) ls st μ g := (hW n 29 ls st μ g).trans rfl
theorem wX1_leftAtLeast_30 {l : Launch} {K : aRs} {X : aXs} {J : aK} {W : Nat → aK} (hW : isW (tbX1_leftAtLeast l K X) cuX1_leftAtLeast J W) (n : Nat) (ls st : List aV) (μ : aM) (g : Nat) : W (n + 1) 30 ls st μ g = (sLd 3 31 isR) (W n) ls st μ g := (hW n 30 ls st μ g).trans rfl
theorem wX1_leftAtLeast_31 {l : Launch} {K : aRs} {X : aXs} {J : aK} {W : Nat → aK} (hW : isW (tbX1_leftAtLeast l K X) cuX1_leftAtLeast J W) (n : Nat) (ls st : List aV) (μ : aM) (g : Nat) : W (n + 1) 31 ls st μ g = (sGetR 2 11 34) (W n) ls st μ g := (hW n 31 ls st μ g).trans rfl
theorem wX1_leftAtLeast_34 {l : Launch} {K : aRs} {X : aXs} {J : aK} {W : Nat → aK} (hW : isW (tbX1_leftAtLeast l K X) cuX1_leftAtLeast J W) (n : Nat) (ls st : List aV) (μ : aM) (g : Nat) : W (n + 1) 34 ls st μ g = (sSt 3 35 isR) (W n) ls st μ g := (hW n 34 ls st μ g).trans rfl
theorem wX1_leftAtLeast_35 {l : Launch} {K : aRs} {X : aXs} {J : aK} {W : Nat → aK} (hW : isW (tbX1_leftAtLeast l K X) cuX1_leftAtLeast J W) (n : Nat) (ls st : List aV) (μ : aM) (g : Nat) : W (n + 1) 35 ls st μ g = (sGoto 7) (W n) ls st μ g := (hW n 35 ls st μ g).trans rfl
theorem wX1_leftAtLeast_38 {l : Launch} {K : aRs} {X : aXs} {J : aK} {W : Nat → aK} (hW : isW (tbX1_leftAtLeast l K X) cuX1_leftAtLeast J W) (n : Nat) (ls st : List aV) (μ : aM) (g : Nat) : W (n + 1) 38 ls st μ g = (sLd 2 39 isI) (W n) ls st μ g := (hW n 38 ls st μ g).trans rfl
theorem wX1_leftAtLeast_39 {l : Launch} {K : aRs} {X : aXs} {J : aK} {W : Nat → aK} (hW : isW (tbX1_leftAtLeast l K X) cuX1_leftAtLeast J W) (n : Nat) (ls st : List aV) (μ : aM) (g : Nat) : W (n + 1) 39 ls st μ g = (sRetI .int 0 K) (W n) ls st μ g := (hW n 39 ls st μ g).trans rfl
theorem dX1_ownerBits_0 : decode cX1_ownerBits 0 = .ok (.iconst 0, 1) := by decide +kernel
theorem dX1_ownerBits_1 : decode cX1_ownerBits 1 = .ok (.istore_n 1, 1) := by decide +kernel
theorem dX1_ownerBits_2 : decode cX1_ownerBits 2 = .ok (.aload_n 0, 1) := by decide +kernel
theorem dX1_ownerBits_3 : decode cX1_ownerBits 3 = .ok (.getfield 15, 3) := by decide +kernel
theorem dX1_ownerBits_6 : decode cX1_ownerBits 6 = .ok (.astore_n 2, 1) := by decide +kernel
theorem dX1_ownerBits_7 : decode cX1_ownerBits 7 = .ok (.aload_n 2, 1) := by decide +kernel
theorem dX1_ownerBits_8 : decode cX1_ownerBits 8 = .ok (.ifnull 20, 3) := by decide +kernel
theorem dX1_ownerBits_11 : decode cX1_ownerBits 11 = .ok (.iload_n 1, 1) := by decide +kernel
theorem dX1_ownerBits_12 : decode cX1_ownerBits 12 = .ok (.iconst 1, 1) := by decide +kernel
theorem dX1_ownerBits_13 : decode cX1_ownerBits 13 = .ok (.aload_n 2, 1) := by decide +kernel
theorem dX1_ownerBits_14 : decode cX1_ownerBits 14 = .ok (.getfield 51, 3) := by decide +kernel
theorem dX1_ownerBits_17 : decode cX1_ownerBits 17 = .ok (.ishl, 1) := by decide +kernel
theorem dX1_ownerBits_18 : decode cX1_ownerBits 18 = .ok (.ior, 1) := by decide +kernel
theorem dX1_ownerBits_19 : decode cX1_ownerBits 19 = .ok (.istore_n 1, 1) := by decide +kernel
theorem dX1_ownerBits_20 : decode cX1_ownerBits 20 = .ok (.aload_n 2, 1) := by decide +kernel
theorem dX1_ownerBits_21 : decode cX1_ownerBits 21 = .ok (.getfield 29, 3) := by decide +kernel
theorem dX1_ownerBits_24 : decode cX1_ownerBits 24 = .ok (.astore_n 2, 1) := by decide +kernel
theorem dX1_ownerBits_25 : decode cX1_ownerBits 25 = .ok (.goto (-18), 3) := by decide +kernel
theorem dX1_ownerBits_28 : decode cX1_ownerBits 28 = .ok (.iload_n 1, 1) := by decide +kernel
theorem dX1_ownerBits_29 : decode cX1_ownerBits 29 = .ok (.ireturn, 1) := by decide +kernel
def tbX1_ownerBits (l : Launch) (K : aRs) (X : aXs) : aTb := [
  (0, sPush (aI 0) 1),
  (1, sSt 1 2 isI),
  (2, sLd 0 3 isR),
  (3, sGetR 1 1 6),
  (6, sSt 2 7 isR),
  (7, sLd 2 8 isR),
  (8, sNul 28 11),
  (11, sLd 1 12 isI),
  (12, sPush (aI 1) 13),
  (13, sLd 2 14 isR),
  (14, sGetI 2 1 17),
  (17, sBin fShl 18),
  (18, sBin fOr 19),
  (19, sSt 1 20 isI),
  (20, sLd 2 21 isR),
  (21, sGetR 2 11 24),
  (24, sSt 2 25 isR),
  (25, sGoto 7),
  (28, sLd 1 29 isI),
  (29, sRetI .int 0 K)]
theorem snX1_ownerBits (l : Launch) (K : aRs) (X : aXs) (n0 : Nat) : ∀ q ∈ tbX1_ownerBits l K X, aSo l mdX1_ownerBits K X n0 q.1 q.2 :=
  tc (fun p e s m args below meth c cA D A ad0 h => ok_iconst h.1 ⟨by decide, by decide⟩ dX1_ownerBits_0) <|
  tc (fun p e s m args below meth c cA D A ad0 h => ok_istore_n h.1 1 rfl (by decide) dX1_ownerBits_1) <|
  tc (fun p e s m args below meth c cA D A ad0 h => ok_aload_n h.1 0 rfl dX1_ownerBits_2) <|
  tc (fun p e s m args below meth c cA D A ad0 h => ok_getR h.1 cxX1 (by decide) rfl fkRX1_15 (fun _ _ _ => rfl) dX1_ownerBits_3) <|
  tc (fun p e s m args below meth c cA D A ad0 h => ok_astore_n h.1 2 rfl (by decide) dX1_ownerBits_6) <|
  tc (fun p e s m args below meth c cA D A ad0 h => ok_aload_n h.1 2 rfl dX1_ownerBits_7) <|
  tc (fun p e s m args below meth c cA D A ad0 h => ok_ifnull h.1 28 (by decide) dX1_ownerBits_8) <|
  tc (fun p e s m args below meth c cA D A ad0 h => ok_iload_n h.1 1 rfl dX1_ownerBits_11) <|
  tc (fun p e s m args below meth c cA D A ad0 h => ok_iconst h.1 ⟨by decide, by decide⟩ dX1_ownerBits_12) <|
  tc (fun p e s m args below meth c cA D A ad0 h => ok_aload_n h.1 2 rfl dX1_ownerBits_13) <|
  tc (fun p e s m args below meth c cA D A ad0 h => ok_getI h.1 cxX2 (by decide) rfl fkRX1_51 (fun _ _ _ => rfl) dX1_ownerBits_14) <|
  tc (fun p e s m args below meth c cA D A ad0 h => ok_ishl h.1 dX1_ownerBits_17) <|
  tc (fun p e s m args below meth c cA D A ad0 h => ok_ior h.1 dX1_ownerBits_18) <|
  tc (fun p e s m args below meth c cA D A ad0 h => ok_istore_n h.1 1 rfl (by decide) dX1_ownerBits_19) <|
  tc (fun p e s m args below meth c cA D A ad0 h => ok_aload_n h.1 2 rfl dX1_ownerBits_20) <|
  tc (fun p e s m args below meth c cA D A ad0 h => ok_getR h.1 cxX2 (by decide) rfl fkRX1_29 (fun _ _ _ => rfl) dX1_ownerBits_21) <|
  tc (fun p e s m args below meth c cA D A ad0 h => ok_astore_n h.1 2 rfl (by decide) dX1_ownerBits_24) <|
  tc (fun p e s m args below meth c cA D A ad0 h => ok_goto h.1 7 (by decide) dX1_ownerBits_25) <|
  tc (fun p e s m args below meth c cA D A ad0 h => ok_iload_n h.1 1 rfl dX1_ownerBits_28) <|
  tc (fun p e s m args below meth c cA D A ad0 h => ok_ireturn h.1 h.2.2.2.1 (Or.inl rfl) dX1_ownerBits_29) <|
  tn
abbrev cuX1_ownerBits : List Nat := [7]
theorem tX1_ownerBits_0 (l : Launch) (K : aRs) (X : aXs) : tb (tbX1_ownerBits l K X) 0 = sPush (aI 0) 1 := (rfl)
theorem wX1_ownerBits_0 {l : Launch} {K : aRs} {X : aXs} {J : aK} {W : Nat → aK} (hW : isW (tbX1_ownerBits l K X) cuX1_ownerBits J W) (n : Nat) (ls st : List aV) (μ : aM) (g : Nat) : W (n + 1) 0 ls st μ g = (sPush (aI 0) 1) (W n) ls st μ g := (hW n 0 ls st μ g).trans rfl
theorem wX1_ownerBits_1 {l : Launch} {K : aRs} {X : aXs} {J : aK} {W : Nat → aK} (hW : isW (tbX1_ownerBits l K X) cuX1_ownerBits J W) (n : Nat) (ls st : List aV) (μ : aM) (g : Nat) : W (n + 1) 1 ls st μ g = (sSt 1 2 isI) (W n) ls st μ g := (hW n 1 ls st μ g).trans rfl
theorem wX1_ownerBits_2 {l : Launch} {K : aRs} {X : aXs} {J : aK} {W : Nat → aK} (hW : isW (tbX1_ownerBits l K X) cuX1_ownerBits J W) (n : Nat) (ls st : List aV) (μ : aM) (g : Nat) : W (n + 1) 2 ls st μ g = (sLd 0 3 isR) (W n) ls st μ g := (hW n 2 ls st μ g).trans rfl
theorem wX1_ownerBits_3 {l : Launch} {K : aRs} {X : aXs} {J : aK} {W : Nat → aK} (hW : isW (tbX1_ownerBits l K X) cuX1_ownerBits J W) (n : Nat) (ls st : List aV) (μ : aM) (g : Nat) : W (n + 1) 3 ls st μ g = (sGetR 1 1 6) (W n) ls st μ g := (hW n 3 ls st μ g).trans rfl
theorem wX1_ownerBits_6 {l : Launch} {K : aRs} {X : aXs} {J : aK} {W : Nat → aK} (hW : isW (tbX1_ownerBits l K X) cuX1_ownerBits J W) (n : Nat) (ls st : List aV) (μ : aM) (g : Nat) : W (n + 1) 6 ls st μ g = (sSt 2 7 isR) (W n) ls st μ g := (hW n 6 ls st μ g).trans rfl
theorem tX1_ownerBits_7 (l : Launch) (K : aRs) (X : aXs) : tb (tbX1_ownerBits l K X) 7 = sLd 2 8 isR := (rfl)
theorem wX1_ownerBits_7 {l : Launch} {K : aRs} {X : aXs} {J : aK} {W : Nat → aK} (hW : isW (tbX1_ownerBits l K X) cuX1_ownerBits J W) (n : Nat) (ls st : List aV) (μ : aM) (g : Nat) : W (n + 1) 7 ls st μ g = J 7 ls st μ g := (hW n 7 ls st μ g).trans rfl
theorem wX1_ownerBits_8 {l : Launch} {K : aRs} {X : aXs} {J : aK} {W : Nat → aK} (hW : isW (tbX1_ownerBits l K X) cuX1_ownerBits J W) (n : Nat) (ls st : List aV) (μ : aM) (g : Nat) : W (n + 1) 8 ls st μ g = (sNul 28 11) (W n) ls st μ g := (hW n 8 ls st μ g).trans rfl
theorem wX1_ownerBits_11 {l : Launch} {K : aRs} {X : aXs} {J : aK} {W : Nat → aK} (hW : isW (tbX1_ownerBits l K X) cuX1_ownerBits J W) (n : Nat) (ls st : List aV) (μ : aM) (g : Nat) : W (n + 1) 11 ls st μ g = (sLd 1 12 isI) (W n) ls st μ g := (hW n 11 ls st μ g).trans rfl
theorem wX1_ownerBits_12 {l : Launch} {K : aRs} {X : aXs} {J : aK} {W : Nat → aK} (hW : isW (tbX1_ownerBits l K X) cuX1_ownerBits J W) (n : Nat) (ls st : List aV) (μ : aM) (g : Nat) : W (n + 1) 12 ls st μ g = (sPush (aI 1) 13) (W n) ls st μ g := (hW n 12 ls st μ g).trans rfl
theorem wX1_ownerBits_13 {l : Launch} {K : aRs} {X : aXs} {J : aK} {W : Nat → aK} (hW : isW (tbX1_ownerBits l K X) cuX1_ownerBits J W) (n : Nat) (ls st : List aV) (μ : aM) (g : Nat) : W (n + 1) 13 ls st μ g = (sLd 2 14 isR) (W n) ls st μ g := (hW n 13 ls st μ g).trans rfl
theorem wX1_ownerBits_14 {l : Launch} {K : aRs} {X : aXs} {J : aK} {W : Nat → aK} (hW : isW (tbX1_ownerBits l K X) cuX1_ownerBits J W) (n : Nat) (ls st : List aV) (μ : aM) (g : Nat) : W (n + 1) 14 ls st μ g = (sGetI 2 1 17) (W n) ls st μ g := (hW n 14 ls st μ g).trans rfl
theorem wX1_ownerBits_17 {l : Launch} {K : aRs} {X : aXs} {J : aK} {W : Nat → aK} (hW : isW (tbX1_ownerBits l K X) cuX1_ownerBits J W) (n : Nat) (ls st : List aV) (μ : aM) (g : Nat) : W (n + 1) 17 ls st μ g = (sBin fShl 18) (W n) ls st μ g := (hW n 17 ls st μ g).trans rfl
theorem wX1_ownerBits_18 {l : Launch} {K : aRs} {X : aXs} {J : aK} {W : Nat → aK} (hW : isW (tbX1_ownerBits l K X) cuX1_ownerBits J W) (n : Nat) (ls st : List aV) (μ : aM) (g : Nat) : W (n + 1) 18 ls st μ g = (sBin fOr 19) (W n) ls st μ g := (hW n 18 ls st μ g).trans rfl
theorem wX1_ownerBits_19 {l : Launch} {K : aRs} {X : aXs} {J : aK} {W : Nat → aK} (hW : isW (tbX1_ownerBits l K X) cuX1_ownerBits J W) (n : Nat) (ls st : List aV) (μ : aM) (g : Nat) : W (n + 1) 19 ls st μ g = (sSt 1 20 isI) (W n) ls st μ g := (hW n 19 ls st μ g).trans rfl
theorem wX1_ownerBits_20 {l : Launch} {K : aRs} {X : aXs} {J : aK} {W : Nat → aK} (hW : isW (tbX1_ownerBits l K X) cuX1_ownerBits J W) (n : Nat) (ls st : List aV) (μ : aM) (g : Nat) : W (n + 1) 20 ls st μ g = (sLd 2 21 isR) (W n) ls st μ g := (hW n 20 ls st μ g).trans rfl
theorem wX1_ownerBits_21 {l : Launch} {K : aRs} {X : aXs} {J : aK} {W : Nat → aK} (hW : isW (tbX1_ownerBits l K X) cuX1_ownerBits J W) (n : Nat) (ls st : List aV) (μ : aM) (g : Nat) : W (n + 1) 21 ls st μ g = (sGetR 2 11 24) (W n) ls st μ g := (hW n 21 ls st μ g).trans rfl
theorem wX1_ownerBits_24 {l : Launch} {K : aRs} {X : aXs} {J : aK} {W : Nat → aK} (hW : isW (tbX1_ownerBits l K X) cuX1_ownerBits J W) (n : Nat) (ls st : List aV) (μ : aM) (g : Nat) : W (n + 1) 24 ls st μ g = (sSt 2 25 isR) (W n) ls st μ g := (hW n 24 ls st μ g).trans rfl
theorem wX1_ownerBits_25 {l : Launch} {K : aRs} {X : aXs} {J : aK} {W : Nat → aK} (hW : isW (tbX1_ownerBits l K X) cuX1_ownerBits J W) (n : Nat) (ls st : List aV) (μ : aM) (g : Nat) : W (n + 1) 25 ls st μ g = (sGoto 7) (W n) ls st μ g := (hW n 25 ls st μ g).trans rfl
theorem wX1_ownerBits_28 {l : Launch} {K : aRs} {X : aXs} {J : aK} {W : Nat → aK} (hW : isW (tbX1_ownerBits l K X) cuX1_ownerBits J W) (n : Nat) (ls st : List aV) (μ : aM) (g : Nat) : W (n + 1) 28 ls st μ g = (sLd 1 29 isI) (W n) ls st μ g := (hW n 28 ls st μ g).trans rfl
theorem wX1_ownerBits_29 {l : Launch} {K : aRs} {X : aXs} {J : aK} {W : Nat → aK} (hW : isW (tbX1_ownerBits l K X) cuX1_ownerBits J W) (n : Nat) (ls st : List aV) (μ : aM) (g : Nat) : W (n + 1) 29 ls st μ g = (sRetI .int 0 K) (W n) ls st μ g := (hW n 29 ls st μ g).trans rfl
theorem dX1_countLevels_0 : decode cX1_countLevels 0 = .ok (.iconst 0, 1) := by decide +kernel
theorem dX1_countLevels_1 : decode cX1_countLevels 1 = .ok (.istore_n 1, 1) := by decide +kernel
theorem dX1_countLevels_2 : decode cX1_countLevels 2 = .ok (.iconst 0, 1) := by decide +kernel
theorem dX1_countLevels_3 : decode cX1_countLevels 3 = .ok (.istore_n 2, 1) := by decide +kernel
theorem dX1_countLevels_4 : decode cX1_countLevels 4 = .ok (.aload_n 0, 1) := by decide +kernel
theorem dX1_countLevels_5 : decode cX1_countLevels 5 = .ok (.getfield 15, 3) := by decide +kernel
theorem dX1_countLevels_8 : decode cX1_countLevels 8 = .ok (.astore_n 3, 1) := by decide +kernel
theorem dX1_countLevels_9 : decode cX1_countLevels 9 = .ok (.aload_n 3, 1) := by decide +kernel
theorem dX1_countLevels_10 : decode cX1_countLevels 10 = .ok (.ifnull 27, 3) := by decide +kernel
theorem dX1_countLevels_13 : decode cX1_countLevels 13 = .ok (.aload_n 3, 1) := by decide +kernel
theorem dX1_countLevels_14 : decode cX1_countLevels 14 = .ok (.getfield 19, 3) := by decide +kernel
theorem dX1_countLevels_17 : decode cX1_countLevels 17 = .ok (.iload_n 2, 1) := by decide +kernel
theorem dX1_countLevels_18 : decode cX1_countLevels 18 = .ok (.if_icmp .eq 11, 3) := by decide +kernel
theorem dX1_countLevels_21 : decode cX1_countLevels 21 = .ok (.aload_n 3, 1) := by decide +kernel
theorem dX1_countLevels_22 : decode cX1_countLevels 22 = .ok (.getfield 19, 3) := by decide +kernel
theorem dX1_countLevels_25 : decode cX1_countLevels 25 = .ok (.istore_n 2, 1) := by decide +kernel
theorem dX1_countLevels_26 : decode cX1_countLevels 26 = .ok (.iinc 1 1, 3) := by decide +kernel
theorem dX1_countLevels_29 : decode cX1_countLevels 29 = .ok (.aload_n 3, 1) := by decide +kernel
theorem dX1_countLevels_30 : decode cX1_countLevels 30 = .ok (.getfield 29, 3) := by decide +kernel
theorem dX1_countLevels_33 : decode cX1_countLevels 33 = .ok (.astore_n 3, 1) := by decide +kernel
theorem dX1_countLevels_34 : decode cX1_countLevels 34 = .ok (.goto (-25), 3) := by decide +kernel
theorem dX1_countLevels_37 : decode cX1_countLevels 37 = .ok (.iload_n 1, 1) := by decide +kernel
theorem dX1_countLevels_38 : decode cX1_countLevels 38 = .ok (.ireturn, 1) := by decide +kernel
def tbX1_countLevels (l : Launch) (K : aRs) (X : aXs) : aTb := [
  (0, sPush (aI 0) 1),
  (1, sSt 1 2 isI),
  (2, sPush (aI 0) 3),
  (3, sSt 2 4 isI),
  (4, sLd 0 5 isR),
  (5, sGetR 1 1 8),
  (8, sSt 3 9 isR),
  (9, sLd 3 10 isR),
  (10, sNul 37 13),
  (13, sLd 3 14 isR),
  (14, sGetI 2 4 17),
  (17, sLd 2 18 isI),
  (18, sIc qEq 29 21),
  (21, sLd 3 22 isR),
  (22, sGetI 2 4 25),
  (25, sSt 2 26 isI),
  (26, sInc 1 1 29),
  (29, sLd 3 30 isR),
  (30, sGetR 2 11 33),
  (33, sSt 3 34 isR),
  (34, sGoto 9),
  (37, sLd 1 38 isI),
  (38, sRetI .int 0 K)]
theorem snX1_countLevels (l : Launch) (K : aRs) (X : aXs) (n0 : Nat) : ∀ q ∈ tbX1_countLevels l K X, aSo l mdX1_countLevels K X n0 q.1 q.2 :=
  tc (fun p e s m args below meth c cA D A ad0 h => ok_iconst h.1 ⟨by decide, by decide⟩ dX1_countLevels_0) <|
  tc (fun p e s m args below meth c cA D A ad0 h => ok_istore_n h.1 1 rfl (by decide) dX1_countLevels_1) <|
  tc (fun p e s m args below meth c cA D A ad0 h => ok_iconst h.1 ⟨by decide, by decide⟩ dX1_countLevels_2) <|
  tc (fun p e s m args below meth c cA D A ad0 h => ok_istore_n h.1 2 rfl (by decide) dX1_countLevels_3) <|
  tc (fun p e s m args below meth c cA D A ad0 h => ok_aload_n h.1 0 rfl dX1_countLevels_4) <|
  tc (fun p e s m args below meth c cA D A ad0 h => ok_getR h.1 cxX1 (by decide) rfl fkRX1_15 (fun _ _ _ => rfl) dX1_countLevels_5) <|
  tc (fun p e s m args below meth c cA D A ad0 h => ok_astore_n h.1 3 rfl (by decide) dX1_countLevels_8) <|
  tc (fun p e s m args below meth c cA D A ad0 h => ok_aload_n h.1 3 rfl dX1_countLevels_9) <|
  tc (fun p e s m args below meth c cA D A ad0 h => ok_ifnull h.1 37 (by decide) dX1_countLevels_10) <|
  tc (fun p e s m args below meth c cA D A ad0 h => ok_aload_n h.1 3 rfl dX1_countLevels_13) <|
  tc (fun p e s m args below meth c cA D A ad0 h => ok_getI h.1 cxX2 (by decide) rfl fkRX1_19 (fun _ _ _ => rfl) dX1_countLevels_14) <|
  tc (fun p e s m args below meth c cA D A ad0 h => ok_iload_n h.1 2 rfl dX1_countLevels_17) <|
  tc (fun p e s m args below meth c cA D A ad0 h => ok_icmp_eq h.1 29 (by decide) dX1_countLevels_18) <|
  tc (fun p e s m args below meth c cA D A ad0 h => ok_aload_n h.1 3 rfl dX1_countLevels_21) <|
  tc (fun p e s m args below meth c cA D A ad0 h => ok_getI h.1 cxX2 (by decide) rfl fkRX1_19 (fun _ _ _ => rfl) dX1_countLevels_22) <|
  tc (fun p e s m args below meth c cA D A ad0 h => ok_istore_n h.1 2 rfl (by decide) dX1_countLevels_25) <|
  tc (fun p e s m args below meth c cA D A ad0 h => ok_iinc h.1 (by decide) dX1_countLevels_26) <|
  tc (fun p e s m args below meth c cA D A ad0 h => ok_aload_n h.1 3 rfl dX1_countLevels_29) <|
  tc (fun p e s m args below meth c cA D A ad0 h => ok_getR h.1 cxX2 (by decide) rfl fkRX1_29 (fun _ _ _ => rfl) dX1_countLevels_30) <|
  tc (fun p e s m args below meth c cA D A ad0 h => ok_astore_n h.1 3 rfl (by decide) dX1_countLevels_33) <|
  tc (fun p e s m args below meth c cA D A ad0 h => ok_goto h.1 9 (by decide) dX1_countLevels_34) <|
  tc (fun p e s m args below meth c cA D A ad0 h => ok_iload_n h.1 1 rfl dX1_countLevels_37) <|
  tc (fun p e s m args below meth c cA D A ad0 h => ok_ireturn h.1 h.2.2.2.1 (Or.inl rfl) dX1_countLevels_38) <|
  tn
abbrev cuX1_countLevels : List Nat := [9]
theorem tX1_countLevels_0 (l : Launch) (K : aRs) (X : aXs) : tb (tbX1_countLevels l K X) 0 = sPush (aI 0) 1 := (rfl)
theorem wX1_countLevels_0 {l : Launch} {K : aRs} {X : aXs} {J : aK} {W : Nat → aK} (hW : isW (tbX1_countLevels l K X) cuX1_countLevels J W) (n : Nat) (ls st : List aV) (μ : aM) (g : Nat) : W (n + 1) 0 ls st μ g = (sPush (aI 0) 1) (W n) ls st μ g := (hW n 0 ls st μ g).trans rfl
theorem wX1_countLevels_1 {l : Launch} {K : aRs} {X : aXs} {J : aK} {W : Nat → aK} (hW : isW (tbX1_countLevels l K X) cuX1_countLevels J W) (n : Nat) (ls st : List aV) (μ : aM) (g : Nat) : W (n + 1) 1 ls st μ g = (sSt 1 2 isI) (W n) ls st μ g := (hW n 1 ls st μ g).trans rfl
theorem wX1_countLevels_2 {l : Launch} {K : aRs} {X : aXs} {J : aK} {W : Nat → aK} (hW : isW (tbX1_countLevels l K X) cuX1_countLevels J W) (n : Nat) (ls st : List aV) (μ : aM) (g : Nat) : W (n + 1) 2 ls st μ g = (sPush (aI 0) 3) (W n) ls st μ g := (hW n 2 ls st μ g).trans rfl
theorem wX1_countLevels_3 {l : Launch} {K : aRs} {X : aXs} {J : aK} {W : Nat → aK} (hW : isW (tbX1_countLevels l K X) cuX1_countLevels J W) (n : Nat) (ls st : List aV) (μ : aM) (g : Nat) : W (n + 1) 3 ls st μ g = (sSt 2 4 isI) (W n) ls st μ g := (hW n 3 ls st μ g).trans rfl
theorem wX1_countLevels_4 {l : Launch} {K : aRs} {X : aXs} {J : aK} {W : Nat → aK} (hW : isW (tbX1_countLevels l K X) cuX1_countLevels J W) (n : Nat) (ls st : List aV) (μ : aM) (g : Nat) : W (n + 1) 4 ls st μ g = (sLd 0 5 isR) (W n) ls st μ g := (hW n 4 ls st μ g).trans rfl
theorem wX1_countLevels_5 {l : Launch} {K : aRs} {X : aXs} {J : aK} {W : Nat → aK} (hW : isW (tbX1_countLevels l K X) cuX1_countLevels J W) (n : Nat) (ls st : List aV) (μ : aM) (g : Nat) : W (n + 1) 5 ls st μ g = (sGetR 1 1 8) (W n) ls st μ g := (hW n 5 ls st μ g).trans rfl
theorem wX1_countLevels_8 {l : Launch} {K : aRs} {X : aXs} {J : aK} {W : Nat → aK} (hW : isW (tbX1_countLevels l K X) cuX1_countLevels J W) (n : Nat) (ls st : List aV) (μ : aM) (g : Nat) : W (n + 1) 8 ls st μ g = (sSt 3 9 isR) (W n) ls st μ g := (hW n 8 ls st μ g).trans rfl
theorem tX1_countLevels_9 (l : Launch) (K : aRs) (X : aXs) : tb (tbX1_countLevels l K X) 9 = sLd 3 10 isR := (rfl)
theorem wX1_countLevels_9 {l : Launch} {K : aRs} {X : aXs} {J : aK} {W : Nat → aK} (hW : isW (tbX1_countLevels l K X) cuX1_countLevels J W) (n : Nat) (ls st : List aV) (μ : aM) (g : Nat) : W (n + 1) 9 ls st μ g = J 9 ls st μ g := (hW n 9 ls st μ g).trans rfl
theorem wX1_countLevels_10 {l : Launch} {K : aRs} {X : aXs} {J : aK} {W : Nat → aK} (hW : isW (tbX1_countLevels l K X) cuX1_countLevels J W) (n : Nat) (ls st : List aV) (μ : aM) (g : Nat) : W (n + 1) 10 ls st μ g = (sNul 37 13) (W n) ls st μ g := (hW n 10 ls st μ g).trans rfl
theorem wX1_countLevels_13 {l : Launch} {K : aRs} {X : aXs} {J : aK} {W : Nat → aK} (hW : isW (tbX1_countLevels l K X) cuX1_countLevels J W) (n : Nat) (ls st : List aV) (μ : aM) (g : Nat) : W (n + 1) 13 ls st μ g = (sLd 3 14 isR) (W n) ls st μ g := (hW n 13 ls st μ g).trans rfl
theorem wX1_countLevels_14 {l : Launch} {K : aRs} {X : aXs} {J : aK} {W : Nat → aK} (hW : isW (tbX1_countLevels l K X) cuX1_countLevels J W) (n : Nat) (ls st : List aV) (μ : aM) (g : Nat) : W (n + 1) 14 ls st μ g = (sGetI 2 4 17) (W n) ls st μ g := (hW n 14 ls st μ g).trans rfl
theorem wX1_countLevels_17 {l : Launch} {K : aRs} {X : aXs} {J : aK} {W : Nat → aK} (hW : isW (tbX1_countLevels l K X) cuX1_countLevels J W) (n : Nat) (ls st : List aV) (μ : aM) (g : Nat) : W (n + 1) 17 ls st μ g = (sLd 2 18 isI) (W n) ls st μ g := (hW n 17 ls st μ g).trans rfl
theorem wX1_countLevels_18 {l : Launch} {K : aRs} {X : aXs} {J : aK} {W : Nat → aK} (hW : isW (tbX1_countLevels l K X) cuX1_countLevels J W) (n : Nat) (ls st : List aV) (μ : aM) (g : Nat) : W (n + 1) 18 ls st μ g = (sIc qEq 29 21) (W n) ls st μ g := (hW n 18 ls st μ g).trans rfl
theorem wX1_countLevels_21 {l : Launch} {K : aRs} {X : aXs} {J : aK} {W : Nat → aK} (hW : isW (tbX1_countLevels l K X) cuX1_countLevels J W) (n : Nat) (ls st : List aV) (μ : aM) (g : Nat) : W (n + 1) 21 ls st μ g = (sLd 3 22 isR) (W n) ls st μ g := (hW n 21 ls st μ g).trans rfl
theorem wX1_countLevels_22 {l : Launch} {K : aRs} {X : aXs} {J : aK} {W : Nat → aK} (hW : isW (tbX1_countLevels l K X) cuX1_countLevels J W) (n : Nat) (ls st : List aV) (μ : aM) (g : Nat) : W (n + 1) 22 ls st μ g = (sGetI 2 4 25) (W n) ls st μ g := (hW n 22 ls st μ g).trans rfl
theorem wX1_countLevels_25 {l : Launch} {K : aRs} {X : aXs} {J : aK} {W : Nat → aK} (hW : isW (tbX1_countLevels l K X) cuX1_countLevels J W) (n : Nat) (ls st : List aV) (μ : aM) (g : Nat) : W (n + 1) 25 ls st μ g = (sSt 2 26 isI) (W n) ls st μ g := (hW n 25 ls st μ g).trans rfl
theorem wX1_countLevels_26 {l : Launch} {K : aRs} {X : aXs} {J : aK} {W : Nat → aK} (hW : isW (tbX1_countLevels l K X) cuX1_countLevels J W) (n : Nat) (ls st : List aV) (μ : aM) (g : Nat) : W (n + 1) 26 ls st μ g = (sInc 1 1 29) (W n) ls st μ g := (hW n 26 ls st μ g).trans rfl
theorem wX1_countLevels_29 {l : Launch} {K : aRs} {X : aXs} {J : aK} {W : Nat → aK} (hW : isW (tbX1_countLevels l K X) cuX1_countLevels J W) (n : Nat) (ls st : List aV) (μ : aM) (g : Nat) : W (n + 1) 29 ls st μ g = (sLd 3 30 isR) (W n) ls st μ g := (hW n 29 ls st μ g).trans rfl
theorem wX1_countLevels_30 {l : Launch} {K : aRs} {X : aXs} {J : aK} {W : Nat → aK} (hW : isW (tbX1_countLevels l K X) cuX1_countLevels J W) (n : Nat) (ls st : List aV) (μ : aM) (g : Nat) : W (n + 1) 30 ls st μ g = (sGetR 2 11 33) (W n) ls st μ g := (hW n 30 ls st μ g).trans rfl
theorem wX1_countLevels_33 {l : Launch} {K : aRs} {X : aXs} {J : aK} {W : Nat → aK} (hW : isW (tbX1_countLevels l K X) cuX1_countLevels J W) (n : Nat) (ls st : List aV) (μ : aM) (g : Nat) : W (n + 1) 33 ls st μ g = (sSt 3 34 isR) (W n) ls st μ g := (hW n 33 ls st μ g).trans rfl
theorem wX1_countLevels_34 {l : Launch} {K : aRs} {X : aXs} {J : aK} {W : Nat → aK} (hW : isW (tbX1_countLevels l K X) cuX1_countLevels J W) (n : Nat) (ls st : List aV) (μ : aM) (g : Nat) : W (n + 1) 34 ls st μ g = (sGoto 9) (W n) ls st μ g := (hW n 34 ls st μ g).trans rfl
theorem wX1_countLevels_37 {l : Launch} {K : aRs} {X : aXs} {J : aK} {W : Nat → aK} (hW : isW (tbX1_countLevels l K X) cuX1_countLevels J W) (n : Nat) (ls st : List aV) (μ : aM) (g : Nat) : W (n + 1) 37 ls st μ g = (sLd 1 38 isI) (W n) ls st μ g := (hW n 37 ls st μ g).trans rfl
theorem wX1_countLevels_38 {l : Launch} {K : aRs} {X : aXs} {J : aK} {W : Nat → aK} (hW : isW (tbX1_countLevels l K X) cuX1_countLevels J W) (n : Nat) (ls st : List aV) (μ : aM) (g : Nat) : W (n + 1) 38 ls st μ g = (sRetI .int 0 K) (W n) ls st μ g := (hW n 38 ls st μ g).trans rfl
theorem dX1_headOf_0 : decode cX1_headOf 0 = .ok (.iconst (-1), 1) := by decide +kernel
theorem dX1_headOf_1 : decode cX1_headOf 1 = .ok (.istore_n 2, 1) := by decide +kernel
theorem dX1_headOf_2 : decode cX1_headOf 2 = .ok (.iconst 0, 1) := by decide +kernel
theorem dX1_headOf_3 : decode cX1_headOf 3 = .ok (.istore_n 3, 1) := by decide +kernel
theorem dX1_headOf_4 : decode cX1_headOf 4 = .ok (.aload_n 0, 1) := by decide +kernel
theorem dX1_headOf_5 : decode cX1_headOf 5 = .ok (.getfield 15, 3) := by decide +kernel
theorem dX1_headOf_8 : decode cX1_headOf 8 = .ok (.astore 4, 2) := by decide +kernel
theorem dX1_headOf_10 : decode cX1_headOf 10 = .ok (.aload 4, 2) := by decide +kernel
theorem dX1_headOf_12 : decode cX1_headOf 12 = .ok (.ifnull 39, 3) := by decide +kernel
theorem dX1_headOf_15 : decode cX1_headOf 15 = .ok (.aload 4, 2) := by decide +kernel
theorem dX1_headOf_17 : decode cX1_headOf 17 = .ok (.getfield 19, 3) := by decide +kernel
theorem dX1_headOf_20 : decode cX1_headOf 20 = .ok (.iload_n 3, 1) := by decide +kernel
theorem dX1_headOf_21 : decode cX1_headOf 21 = .ok (.if_icmp .eq 20, 3) := by decide +kernel
theorem dX1_headOf_24 : decode cX1_headOf 24 = .ok (.aload 4, 2) := by decide +kernel
theorem dX1_headOf_26 : decode cX1_headOf 26 = .ok (.getfield 19, 3) := by decide +kernel
theorem dX1_headOf_29 : decode cX1_headOf 29 = .ok (.istore_n 3, 1) := by decide +kernel
theorem dX1_headOf_30 : decode cX1_headOf 30 = .ok (.iinc 2 1, 3) := by decide +kernel
theorem dX1_headOf_33 : decode cX1_headOf 33 = .ok (.iload_n 2, 1) := by decide +kernel
theorem dX1_headOf_34 : decode cX1_headOf 34 = .ok (.iload_n 1, 1) := by decide +kernel
theorem dX1_headOf_35 : decode cX1_headOf 35 = .ok (.if_icmp .ne 6, 3) := by decide +kernel
theorem dX1_headOf_38 : decode cX1_headOf 38 = .ok (.aload 4, 2) := by decide +kernel
theorem dX1_headOf_40 : decode cX1_headOf 40 = .ok (.areturn, 1) := by decide +kernel
theorem dX1_headOf_41 : decode cX1_headOf 41 = .ok (.aload 4, 2) := by decide +kernel
theorem dX1_headOf_43 : decode cX1_headOf 43 = .ok (.getfield 29, 3) := by decide +kernel
theorem dX1_headOf_46 : decode cX1_headOf 46 = .ok (.astore 4, 2) := by decide +kernel
theorem dX1_headOf_48 : decode cX1_headOf 48 = .ok (.goto (-38), 3) := by decide +kernel
theorem dX1_headOf_51 : decode cX1_headOf 51 = .ok (.aconst_null, 1) := by decide +kernel
theorem dX1_headOf_52 : decode cX1_headOf 52 = .ok (.areturn, 1) := by decide +kernel
def tbX1_headOf (l : Launch) (K : aRs) (X : aXs) : aTb := [
  (0, sPush (aI (-1)) 1),
  (1, sSt 2 2 isI),
  (2, sPush (aI 0) 3),
  (3, sSt 3 4 isI),
  (4, sLd 0 5 isR),
  (5, sGetR 1 1 8),
  (8, sSt 4 10 isR),
  (10, sLd 4 12 isR),
  (12, sNul 51 15),
  (15, sLd 4 17 isR),
  (17, sGetI 2 4 20),
  (20, sLd 3 21 isI),
  (21, sIc qEq 41 24),
  (24, sLd 4 26 isR),
  (26, sGetI 2 4 29),
  (29, sSt 3 30 isI),
  (30, sInc 2 1 33),
  (33, sLd 2 34 isI),
  (34, sLd 1 35 isI),
  (35, sIc qNe 41 38),
  (38, sLd 4 40 isR),
  (40, sRetR 0 K),
  (41, sLd 4 43 isR),
  (43, sGetR 2 11 46),
  (46, sSt 4 48 isR),
  (48, sGoto 10),
  (51, sPush (aR 0) 52),
  (52, sRetR 0 K)]
theorem snX1_headOf (l : Launch) (K : aRs) (X : aXs) (n0 : Nat) : ∀ q ∈ tbX1_headOf l K X, aSo l mdX1_headOf K X n0 q.1 q.2 :=
  tc (fun p e s m args below meth c cA D A ad0 h => ok_iconst h.1 ⟨by decide, by decide⟩ dX1_headOf_0) <|
  tc (fun p e s m args below meth c cA D A ad0 h => ok_istore_n h.1 2 rfl (by decide) dX1_headOf_1) <|
  tc (fun p e s m args below meth c cA D A ad0 h => ok_iconst h.1 ⟨by decide, by decide⟩ dX1_headOf_2) <|
  tc (fun p e s m args below meth c cA D A ad0 h => ok_istore_n h.1 3 rfl (by decide) dX1_headOf_3) <|
  tc (fun p e s m args below meth c cA D A ad0 h => ok_aload_n h.1 0 rfl dX1_headOf_4) <|
  tc (fun p e s m args below meth c cA D A ad0 h => ok_getR h.1 cxX1 (by decide) rfl fkRX1_15 (fun _ _ _ => rfl) dX1_headOf_5) <|
  tc (fun p e s m args below meth c cA D A ad0 h => ok_astore h.1 (by decide) dX1_headOf_8) <|
  tc (fun p e s m args below meth c cA D A ad0 h => ok_aload h.1 dX1_headOf_10) <|
  tc (fun p e s m args below meth c cA D A ad0 h => ok_ifnull h.1 51 (by decide) dX1_headOf_12) <|
  tc (fun p e s m args below meth c cA D A ad0 h => ok_aload h.1 dX1_headOf_15) <|
  tc (fun p e s m args below meth c cA D A ad0 h => ok_getI h.1 cxX2 (by decide) rfl fkRX1_19 (fun _ _ _ => rfl) dX1_headOf_17) <|
  tc (fun p e s m args below meth c cA D A ad0 h => ok_iload_n h.1 3 rfl dX1_headOf_20) <|
  tc (fun p e s m args below meth c cA D A ad0 h => ok_icmp_eq h.1 41 (by decide) dX1_headOf_21) <|
  tc (fun p e s m args below meth c cA D A ad0 h => ok_aload h.1 dX1_headOf_24) <|
  tc (fun p e s m args below meth c cA D A ad0 h => ok_getI h.1 cxX2 (by decide) rfl fkRX1_19 (fun _ _ _ => rfl) dX1_headOf_26) <|
  tc (fun p e s m args below meth c cA D A ad0 h => ok_istore_n h.1 3 rfl (by decide) dX1_headOf_29) <|
  tc (fun p e s m args below meth c cA D A ad0 h => ok_iinc h.1 (by decide) dX1_headOf_30) <|
  tc (fun p e s m args below meth c cA D A ad0 h => ok_iload_n h.1 2 rfl dX1_headOf_33) <|
  tc (fun p e s m args below meth c cA D A ad0 h => ok_iload_n h.1 1 rfl dX1_headOf_34) <|
  tc (fun p e s m args below meth c cA D A ad0 h => ok_icmp_ne h.1 41 (by decide) dX1_headOf_35) <|
  tc (fun p e s m args below meth c cA D A ad0 h => ok_aload h.1 dX1_headOf_38) <|
  tc (fun p e s m args below meth c cA D A ad0 h => ok_areturn h.1 h.2.2.2.1 (Or.inl ⟨_, rfl⟩) dX1_headOf_40) <|
  tc (fun p e s m args below meth c cA D A ad0 h => ok_aload h.1 dX1_headOf_41) <|
  tc (fun p e s m args below meth c cA D A ad0 h => ok_getR h.1 cxX2 (by decide) rfl fkRX1_29 (fun _ _ _ => rfl) dX1_headOf_43) <|
  tc (fun p e s m args below meth c cA D A ad0 h => ok_astore h.1 (by decide) dX1_headOf_46) <|
  tc (fun p e s m args below meth c cA D A ad0 h => ok_goto h.1 10 (by decide) dX1_headOf_48) <|
  tc (fun p e s m args below meth c cA D A ad0 h => ok_null h.1 dX1_headOf_51) <|
  tc (fun p e s m args below meth c cA D A ad0 h => ok_areturn h.1 h.2.2.2.1 (Or.inl ⟨_, rfl⟩) dX1_headOf_52) <|
  tn
abbrev cuX1_headOf : List Nat := [10]
theorem tX1_headOf_0 (l : Launch) (K : aRs) (X : aXs) : tb (tbX1_headOf l K X) 0 = sPush (aI (-1)) 1 := (rfl)
theorem wX1_headOf_0 {l : Launch} {K : aRs} {X : aXs} {J : aK} {W : Nat → aK} (hW : isW (tbX1_headOf l K X) cuX1_headOf J W) (n : Nat) (ls st : List aV) (μ : aM) (g : Nat) : W (n + 1) 0 ls st μ g = (sPush (aI (-1)) 1) (W n) ls st μ g := (hW n 0 ls st μ g).trans rfl
theorem wX1_headOf_1 {l : Launch} {K : aRs} {X : aXs} {J : aK} {W : Nat → aK} (hW : isW (tbX1_headOf l K X) cuX1_headOf J W) (n : Nat) (ls st : List aV) (μ : aM) (g : Nat) : W (n + 1) 1 ls st μ g = (sSt 2 2 isI) (W n) ls st μ g := (hW n 1 ls st μ g).trans rfl
theorem wX1_headOf_2 {l : Launch} {K : aRs} {X : aXs} {J : aK} {W : Nat → aK} (hW : isW (tbX1_headOf l K X) cuX1_headOf J W) (n : Nat) (ls st : List aV) (μ : aM) (g : Nat) : W (n + 1) 2 ls st μ g = (sPush (aI 0) 3) (W n) ls st μ g := (hW n 2 ls st μ g).trans rfl
theorem wX1_headOf_3 {l : Launch} {K : aRs} {X : aXs} {J : aK} {W : Nat → aK} (hW : isW (tbX1_headOf l K X) cuX1_headOf J W) (n : Nat) (ls st : List aV) (μ : aM) (g : Nat) : W (n + 1) 3 ls st μ g = (sSt 3 4 isI) (W n) ls st μ g := (hW n 3 ls st μ g).trans rfl
theorem wX1_headOf_4 {l : Launch} {K : aRs} {X : aXs} {J : aK} {W : Nat → aK} (hW : isW (tbX1_headOf l K X) cuX1_headOf J W) (n : Nat) (ls st : List aV) (μ : aM) (g : Nat) : W (n + 1) 4 ls st μ g = (sLd 0 5 isR) (W n) ls st μ g := (hW n 4 ls st μ g).trans rfl
theorem wX1_headOf_5 {l : Launch} {K : aRs} {X : aXs} {J : aK} {W : Nat → aK} (hW : isW (tbX1_headOf l K X) cuX1_headOf J W) (n : Nat) (ls st : List aV) (μ : aM) (g : Nat) : W (n + 1) 5 ls st μ g = (sGetR 1 1 8) (W n) ls st μ g := (hW n 5 ls st μ g).trans rfl
theorem wX1_headOf_8 {l : Launch} {K : aRs} {X : aXs} {J : aK} {W : Nat → aK} (hW : isW (tbX1_headOf l K X) cuX1_headOf J W) (n : Nat) (ls st : List aV) (μ : aM) (g : Nat) : W (n + 1) 8 ls st μ g = (sSt 4 10 isR) (W n) ls st μ g := (hW n 8 ls st μ g).trans rfl
theorem tX1_headOf_10 (l : Launch) (K : aRs) (X : aXs) : tb (tbX1_headOf l K X) 10 = sLd 4 12 isR := (rfl)
theorem wX1_headOf_10 {l : Launch} {K : aRs} {X : aXs} {J : aK} {W : Nat → aK} (hW : isW (tbX1_headOf l K X) cuX1_headOf J W) (n : Nat) (ls st : List aV) (μ : aM) (g : Nat) : W (n + 1) 10 ls st μ g = J 10 ls st μ g := (hW n 10 ls st μ g).trans rfl
theorem wX1_headOf_12 {l : Launch} {K : aRs} {X : aXs} {J : aK} {W : Nat → aK} (hW : isW (tbX1_headOf l K X) cuX1_headOf J W) (n : Nat) (ls st : List aV) (μ : aM) (g : Nat) : W (n + 1) 12 ls st μ g = (sNul 51 15) (W n) ls st μ g := (hW n 12 ls st μ g).trans rfl
theorem wX1_headOf_15 {l : Launch} {K : aRs} {X : aXs} {J : aK} {W : Nat → aK} (hW : isW (tbX1_headOf l K X) cuX1_headOf J W) (n : Nat) (ls st : List aV) (μ : aM) (g : Nat) : W (n + 1) 15 ls st μ g = (sLd 4 17 isR) (W n) ls st μ g := (hW n 15 ls st μ g).trans rfl
theorem wX1_headOf_17 {l : Launch} {K : aRs} {X : aXs} {J : aK} {W : Nat → aK} (hW : isW (tbX1_headOf l K X) cuX1_headOf J W) (n : Nat) (ls st : List aV) (μ : aM) (g : Nat) : W (n + 1) 17 ls st μ g = (sGetI 2 4 20) (W n) ls st μ g := (hW n 17 ls st μ g).trans rfl
theorem wX1_headOf_20 {l : Launch} {K : aRs} {X : aXs} {J : aK} {W : Nat → aK} (hW : isW (tbX1_headOf l K X) cuX1_headOf J W) (n : Nat) (ls st : List aV) (μ : aM) (g : Nat) : W (n + 1) 20 ls st μ g = (sLd 3 21 isI) (W n) ls st μ g := (hW n 20 ls st μ g).trans rfl
theorem wX1_headOf_21 {l : Launch} {K : aRs} {X : aXs} {J : aK} {W : Nat → aK} (hW : isW (tbX1_headOf l K X) cuX1_headOf J W) (n : Nat) (ls st : List aV) (μ : aM) (g : Nat) : W (n + 1) 21 ls st μ g = (sIc qEq 41 24) (W n) ls st μ g := (hW n 21 ls st μ g).trans rfl
theorem wX1_headOf_24 {l : Launch} {K : aRs} {X : aXs} {J : aK} {W : Nat → aK} (hW : isW (tbX1_headOf l K X) cuX1_headOf J W) (n : Nat) (ls st : List aV) (μ : aM) (g : Nat) : W (n + 1) 24 ls st μ g = (sLd 4 26 isR) (W n) ls st μ g := (hW n 24 ls st μ g).trans rfl
theorem wX1_headOf_26 {l : Launch} {K : aRs} {X : aXs} {J : aK} {W : Nat → aK} (hW : isW (tbX1_headOf l K X) cuX1_headOf J W) (n : Nat) (ls st : List aV) (μ : aM) (g : Nat) : W (n + 1) 26 ls st μ g = (sGetI 2 4 29) (W n) ls st μ g := (hW n 26 ls st μ g).trans rfl
theorem wX1_headOf_29 {l : Launch} {K : aRs} {X : aXs} {J : aK} {W : Nat → aK} (hW : isW (tbX1_headOf l K X) cuX1_headOf J W) (n : Nat) (ls st : List aV) (μ : aM) (g : Nat) : W (n + 1) 29 ls st μ g = (sSt 3 30 isI) (W n) ls st μ g := (hW n 29 ls st μ g).trans rfl
theorem wX1_headOf_30 {l : Launch} {K : aRs} {X : aXs} {J : aK} {W : Nat → aK} (hW : isW (tbX1_headOf l K X) cuX1_headOf J W) (n : Nat) (ls st : List aV) (μ : aM) (g : Nat) : W (n + 1) 30 ls st μ g = (sInc 2 1 33) (W n) ls st μ g := (hW n 30 ls st μ g).trans rfl
theorem wX1_headOf_33 {l : Launch} {K : aRs} {X : aXs} {J : aK} {W : Nat → aK} (hW : isW (tbX1_headOf l K X) cuX1_headOf J W) (n : Nat) (ls st : List aV) (μ : aM) (g : Nat) : W (n + 1) 33 ls st μ g = (sLd 2 34 isI) (W n) ls st μ g := (hW n 33 ls st μ g).trans rfl
theorem wX1_headOf_34 {l : Launch} {K : aRs} {X : aXs} {J : aK} {W : Nat → aK} (hW : isW (tbX1_headOf l K X) cuX1_headOf J W) (n : Nat) (ls st : List aV) (μ : aM) (g : Nat) : W (n + 1) 34 ls st μ g = (sLd 1 35 isI) (W n) ls st μ g := (hW n 34 ls st μ g).trans rfl
theorem wX1_headOf_35 {l : Launch} {K : aRs} {X : aXs} {J : aK} {W : Nat → aK} (hW : isW (tbX1_headOf l K X) cuX1_headOf J W) (n : Nat) (ls st : List aV) (μ : aM) (g : Nat) : W (n + 1) 35 ls st μ g = (sIc qNe 41 38) (W n) ls st μ g := (hW n 35 ls st μ g).trans rfl
theorem wX1_headOf_38 {l : Launch} {K : aRs} {X : aXs} {J : aK} {W : Nat → aK} (hW : isW (tbX1_headOf l K X) cuX1_headOf J W) (n : Nat) (ls st : List aV) (μ : aM) (g : Nat) : W (n + 1) 38 ls st μ g = (sLd 4 40 isR) (W n) ls st μ g := (hW n 38 ls st μ g).trans rfl
theorem wX1_headOf_40 {l : Launch} {K : aRs} {X : aXs} {J : aK} {W : Nat → aK} (hW : isW (tbX1_headOf l K X) cuX1_headOf J W) (n : Nat) (ls st : List aV) (μ : aM) (g : Nat) : W (n + 1) 40 ls st μ g = (sRetR 0 K) (W n) ls st μ g := (hW n 40 ls st μ g).trans rfl
theorem wX1_headOf_41 {l : Launch} {K : aRs} {X : aXs} {J : aK} {W : Nat → aK} (hW : isW (tbX1_headOf l K X) cuX1_headOf J W) (n : Nat) (ls st : List aV) (μ : aM) (g : Nat) : W (n + 1) 41 ls st μ g = (sLd 4 43 isR) (W n) ls st μ g := (hW n 41 ls st μ g).trans rfl
theorem wX1_headOf_43 {l : Launch} {K : aRs} {X : aXs} {J : aK} {W : Nat → aK} (hW : isW (tbX1_headOf l K X) cuX1_headOf J W) (n : Nat) (ls st : List aV) (μ : aM) (g : Nat) : W (n + 1) 43 ls st μ g = (sGetR 2 11 46) (W n) ls st μ g := (hW n 43 ls st μ g).trans rfl
theorem wX1_headOf_46 {l : Launch} {K : aRs} {X : aXs} {J : aK} {W : Nat → aK} (hW : isW (tbX1_headOf l K X) cuX1_headOf J W) (n : Nat) (ls st : List aV) (μ : aM) (g : Nat) : W (n + 1) 46 ls st μ g = (sSt 4 48 isR) (W n) ls st μ g := (hW n 46 ls st μ g).trans rfl
theorem wX1_headOf_48 {l : Launch} {K : aRs} {X : aXs} {J : aK} {W : Nat → aK} (hW : isW (tbX1_headOf l K X) cuX1_headOf J W) (n : Nat) (ls st : List aV) (μ : aM) (g : Nat) : W (n + 1) 48 ls st μ g = (sGoto 10) (W n) ls st μ g := (hW n 48 ls st μ g).trans rfl
theorem wX1_headOf_51 {l : Launch} {K : aRs} {X : aXs} {J : aK} {W : Nat → aK} (hW : isW (tbX1_headOf l K X) cuX1_headOf J W) (n : Nat) (ls st : List aV) (μ : aM) (g : Nat) : W (n + 1) 51 ls st μ g = (sPush (aR 0) 52) (W n) ls st μ g := (hW n 51 ls st μ g).trans rfl
theorem wX1_headOf_52 {l : Launch} {K : aRs} {X : aXs} {J : aK} {W : Nat → aK} (hW : isW (tbX1_headOf l K X) cuX1_headOf J W) (n : Nat) (ls st : List aV) (μ : aM) (g : Nat) : W (n + 1) 52 ls st μ g = (sRetR 0 K) (W n) ls st μ g := (hW n 52 ls st μ g).trans rfl
theorem dX2_init_0 : decode cX2_init 0 = .ok (.aload_n 0, 1) := by decide +kernel
theorem dX2_init_1 : decode cX2_init 1 = .ok (.invokespecial 3, 3) := by decide +kernel
theorem dX2_init_4 : decode cX2_init 4 = .ok (.aload_n 0, 1) := by decide +kernel
theorem dX2_init_5 : decode cX2_init 5 = .ok (.iload_n 1, 1) := by decide +kernel
theorem dX2_init_6 : decode cX2_init 6 = .ok (.putfield 9, 3) := by decide +kernel
theorem dX2_init_9 : decode cX2_init 9 = .ok (.aload_n 0, 1) := by decide +kernel
theorem dX2_init_10 : decode cX2_init 10 = .ok (.iload_n 2, 1) := by decide +kernel
theorem dX2_init_11 : decode cX2_init 11 = .ok (.putfield 15, 3) := by decide +kernel
theorem dX2_init_14 : decode cX2_init 14 = .ok (.aload_n 0, 1) := by decide +kernel
theorem dX2_init_15 : decode cX2_init 15 = .ok (.iload_n 3, 1) := by decide +kernel
theorem dX2_init_16 : decode cX2_init 16 = .ok (.putfield 18, 3) := by decide +kernel
theorem dX2_init_19 : decode cX2_init 19 = .ok (.aload_n 0, 1) := by decide +kernel
theorem dX2_init_20 : decode cX2_init 20 = .ok (.iload 4, 2) := by decide +kernel
theorem dX2_init_22 : decode cX2_init 22 = .ok (.putfield 22, 3) := by decide +kernel
theorem dX2_init_25 : decode cX2_init 25 = .ok (.aload_n 0, 1) := by decide +kernel
theorem dX2_init_26 : decode cX2_init 26 = .ok (.iload 5, 2) := by decide +kernel
theorem dX2_init_28 : decode cX2_init 28 = .ok (.putfield 25, 3) := by decide +kernel
theorem dX2_init_31 : decode cX2_init 31 = .ok (.aload_n 0, 1) := by decide +kernel
theorem dX2_init_32 : decode cX2_init 32 = .ok (.iload 6, 2) := by decide +kernel
theorem dX2_init_34 : decode cX2_init 34 = .ok (.putfield 28, 3) := by decide +kernel
theorem dX2_init_37 : decode cX2_init 37 = .ok (.aload_n 0, 1) := by decide +kernel
theorem dX2_init_38 : decode cX2_init 38 = .ok (.iload 6, 2) := by decide +kernel
theorem dX2_init_40 : decode cX2_init 40 = .ok (.putfield 31, 3) := by decide +kernel
theorem dX2_init_43 : decode cX2_init 43 = .ok (.aload_n 0, 1) := by decide +kernel
theorem dX2_init_44 : decode cX2_init 44 = .ok (.iconst 0, 1) := by decide +kernel
theorem dX2_init_45 : decode cX2_init 45 = .ok (.putfield 34, 3) := by decide +kernel
theorem dX2_init_48 : decode cX2_init 48 = .ok (.aload_n 0, 1) := by decide +kernel
theorem dX2_init_49 : decode cX2_init 49 = .ok (.iload 7, 2) := by decide +kernel
theorem dX2_init_51 : decode cX2_init 51 = .ok (.putfield 37, 3) := by decide +kernel
theorem dX2_init_54 : decode cX2_init 54 = .ok (.aload_n 0, 1) := by decide +kernel
theorem dX2_init_55 : decode cX2_init 55 = .ok (.iconst 0, 1) := by decide +kernel
theorem dX2_init_56 : decode cX2_init 56 = .ok (.putfield 40, 3) := by decide +kernel
theorem dX2_init_59 : decode cX2_init 59 = .ok (.aload_n 0, 1) := by decide +kernel
theorem dX2_init_60 : decode cX2_init 60 = .ok (.bipush 119, 2) := by decide +kernel
theorem dX2_init_62 : decode cX2_init 62 = .ok (.putfield 43, 3) := by decide +kernel
theorem dX2_init_65 : decode cX2_init 65 = .ok (.aload_n 0, 1) := by decide +kernel
theorem dX2_init_66 : decode cX2_init 66 = .ok (.aconst_null, 1) := by decide +kernel
theorem dX2_init_67 : decode cX2_init 67 = .ok (.putfield 47, 3) := by decide +kernel
theorem dX2_init_70 : decode cX2_init 70 = .ok (.return_, 1) := by decide +kernel
def tbX2_init (l : Launch) (K : aRs) (X : aXs) : aTb := [
  (0, sLd 0 1 isR),
  (1, sObj 4),
  (4, sLd 0 5 isR),
  (5, sLd 1 6 isI),
  (6, sPutI 2 0 9),
  (9, sLd 0 10 isR),
  (10, sLd 2 11 isI),
  (11, sPutI 2 1 14),
  (14, sLd 0 15 isR),
  (15, sLd 3 16 isI),
  (16, sPutI 2 2 19),
  (19, sLd 0 20 isR),
  (20, sLd 4 22 isI),
  (22, sPutI 2 3 25),
  (25, sLd 0 26 isR),
  (26, sLd 5 28 isI),
  (28, sPutI 2 4 31),
  (31, sLd 0 32 isR),
  (32, sLd 6 34 isI),
  (34, sPutI 2 5 37),
  (37, sLd 0 38 isR),
  (38, sLd 6 40 isI),
  (40, sPutI 2 6 43),
  (43, sLd 0 44 isR),
  (44, sPush (aI 0) 45),
  (45, sPutI 2 7 48),
  (48, sLd 0 49 isR),
  (49, sLd 7 51 isI),
  (51, sPutI 2 8 54),
  (54, sLd 0 55 isR),
  (55, sPush (aI 0) 56),
  (56, sPutI 2 9 59),
  (59, sLd 0 60 isR),
  (60, sPush (aI 119) 62),
  (62, sPutI 2 10 65),
  (65, sLd 0 66 isR),
  (66, sPush (aR 0) 67),
  (67, sPutR 2 11 70),
  (70, sRetV 0 K)]
theorem snX2_init (l : Launch) (K : aRs) (X : aXs) (n0 : Nat) : ∀ q ∈ tbX2_init l K X, aSo l mdX2_init K X n0 q.1 q.2 :=
  tc (fun p e s m args below meth c cA D A ad0 h => ok_aload_n h.1 0 rfl dX2_init_0) <|
  tc (fun p e s m args below meth c cA D A ad0 h => ok_objInit h.1 mkRX2_3 oi1 oi2 dX2_init_1) <|
  tc (fun p e s m args below meth c cA D A ad0 h => ok_aload_n h.1 0 rfl dX2_init_4) <|
  tc (fun p e s m args below meth c cA D A ad0 h => ok_iload_n h.1 1 rfl dX2_init_5) <|
  tc (fun p e s m args below meth c cA D A ad0 h => ok_putI h.1 cxX2 (by decide) rfl fkRX2_9 (Or.inr ⟨h.2.2.2.2, rfl⟩) (fun _ _ _ => rfl) (Or.inl rfl) dX2_init_6) <|
  tc (fun p e s m args below meth c cA D A ad0 h => ok_aload_n h.1 0 rfl dX2_init_9) <|
  tc (fun p e s m args below meth c cA D A ad0 h => ok_iload_n h.1 2 rfl dX2_init_10) <|
  tc (fun p e s m args below meth c cA D A ad0 h => ok_putI h.1 cxX2 (by decide) rfl fkRX2_15 (Or.inr ⟨h.2.2.2.2, rfl⟩) (fun _ _ _ => rfl) (Or.inl rfl) dX2_init_11) <|
  tc (fun p e s m args below meth c cA D A ad0 h => ok_aload_n h.1 0 rfl dX2_init_14) <|
  tc (fun p e s m args below meth c cA D A ad0 h => ok_iload_n h.1 3 rfl dX2_init_15) <|
  tc (fun p e s m args below meth c cA D A ad0 h => ok_putI h.1 cxX2 (by decide) rfl fkRX2_18 (Or.inr ⟨h.2.2.2.2, rfl⟩) (fun _ _ _ => rfl) (Or.inr (Or.inl rfl)) dX2_init_16) <|
  tc (fun p e s m args below meth c cA D A ad0 h => ok_aload_n h.1 0 rfl dX2_init_19) <|
  tc (fun p e s m args below meth c cA D A ad0 h => ok_iload h.1 dX2_init_20) <|
  tc (fun p e s m args below meth c cA D A ad0 h => ok_putI h.1 cxX2 (by decide) rfl fkRX2_22 (Or.inr ⟨h.2.2.2.2, rfl⟩) (fun _ _ _ => rfl) (Or.inl rfl) dX2_init_22) <|
  tc (fun p e s m args below meth c cA D A ad0 h => ok_aload_n h.1 0 rfl dX2_init_25) <|
  tc (fun p e s m args below meth c cA D A ad0 h => ok_iload h.1 dX2_init_26) <|
  tc (fun p e s m args below meth c cA D A ad0 h => ok_putI h.1 cxX2 (by decide) rfl fkRX2_25 (Or.inr ⟨h.2.2.2.2, rfl⟩) (fun _ _ _ => rfl) (Or.inl rfl) dX2_init_28) <|
  tc (fun p e s m args below meth c cA D A ad0 h => ok_aload_n h.1 0 rfl dX2_init_31) <|
  tc (fun p e s m args below meth c cA D A ad0 h => ok_iload h.1 dX2_init_32) <|
  tc (fun p e s m args below meth c cA D A ad0 h => ok_putI h.1 cxX2 (by decide) rfl fkRX2_28 (Or.inr ⟨h.2.2.2.2, rfl⟩) (fun _ _ _ => rfl) (Or.inl rfl) dX2_init_34) <|
  tc (fun p e s m args below meth c cA D A ad0 h => ok_aload_n h.1 0 rfl dX2_init_37) <|
  tc (fun p e s m args below meth c cA D A ad0 h => ok_iload h.1 dX2_init_38) <|
  tc (fun p e s m args below meth c cA D A ad0 h => ok_putI h.1 cxX2 (by decide) rfl fkRX2_31 (Or.inr ⟨h.2.2.2.2, rfl⟩) (fun _ _ _ => rfl) (Or.inl rfl) dX2_init_40) <|
  tc (fun p e s m args below meth c cA D A ad0 h => ok_aload_n h.1 0 rfl dX2_init_43) <|
  tc (fun p e s m args below meth c cA D A ad0 h => ok_iconst h.1 ⟨by decide, by decide⟩ dX2_init_44) <|
  tc (fun p e s m args below meth c cA D A ad0 h => ok_putI h.1 cxX2 (by decide) rfl fkRX2_34 (Or.inr ⟨h.2.2.2.2, rfl⟩) (fun _ _ _ => rfl) (Or.inl rfl) dX2_init_45) <|
  tc (fun p e s m args below meth c cA D A ad0 h => ok_aload_n h.1 0 rfl dX2_init_48) <|
  tc (fun p e s m args below meth c cA D A ad0 h => ok_iload h.1 dX2_init_49) <|
  tc (fun p e s m args below meth c cA D A ad0 h => ok_putI h.1 cxX2 (by decide) rfl fkRX2_37 (Or.inr ⟨h.2.2.2.2, rfl⟩) (fun _ _ _ => rfl) (Or.inl rfl) dX2_init_51) <|
  tc (fun p e s m args below meth c cA D A ad0 h => ok_aload_n h.1 0 rfl dX2_init_54) <|
  tc (fun p e s m args below meth c cA D A ad0 h => ok_iconst h.1 ⟨by decide, by decide⟩ dX2_init_55) <|
  tc (fun p e s m args below meth c cA D A ad0 h => ok_putI h.1 cxX2 (by decide) rfl fkRX2_40 (Or.inr ⟨h.2.2.2.2, rfl⟩) (fun _ _ _ => rfl) (Or.inl rfl) dX2_init_56) <|
  tc (fun p e s m args below meth c cA D A ad0 h => ok_aload_n h.1 0 rfl dX2_init_59) <|
  tc (fun p e s m args below meth c cA D A ad0 h => ok_bipush h.1 ⟨by decide, by decide⟩ (by decide) dX2_init_60) <|
  tc (fun p e s m args below meth c cA D A ad0 h => ok_putI h.1 cxX2 (by decide) rfl fkRX2_43 (Or.inr ⟨h.2.2.2.2, rfl⟩) (fun _ _ _ => rfl) (Or.inr (Or.inr rfl)) dX2_init_62) <|
  tc (fun p e s m args below meth c cA D A ad0 h => ok_aload_n h.1 0 rfl dX2_init_65) <|
  tc (fun p e s m args below meth c cA D A ad0 h => ok_null h.1 dX2_init_66) <|
  tc (fun p e s m args below meth c cA D A ad0 h => ok_putR h.1 cxX2 (by decide) rfl fkRX2_47 (Or.inr ⟨h.2.2.2.2, rfl⟩) (fun _ _ _ => rfl) (Or.inl ⟨_, rfl⟩) dX2_init_67) <|
  tc (fun p e s m args below meth c cA D A ad0 h => ok_return h.1 h.2.2.2.1 dX2_init_70) <|
  tn
abbrev cuX2_init : List Nat := []
theorem tX2_init_0 (l : Launch) (K : aRs) (X : aXs) : tb (tbX2_init l K X) 0 = sLd 0 1 isR := (rfl)
theorem wX2_init_0 {l : Launch} {K : aRs} {X : aXs} {J : aK} {W : Nat → aK} (hW : isW (tbX2_init l K X) cuX2_init J W) (n : Nat) (ls st : List aV) (μ : aM) (g : Nat) : W (n + 1) 0 ls st μ g = (sLd 0 1 isR) (W n) ls st μ g := (hW n 0 ls st μ g).trans rfl
theorem wX2_init_1 {l : Launch} {K : aRs} {X : aXs} {J : aK} {W : Nat → aK} (hW : isW (tbX2_init l K X) cuX2_init J W) (n : Nat) (ls st : List aV) (μ : aM) (g : Nat) : W (n + 1) 1 ls st μ g = (sObj 4) (W n) ls st μ g := (hW n 1 ls st μ g).trans rfl
theorem wX2_init_4 {l : Launch} {K : aRs} {X : aXs} {J : aK} {W : Nat → aK} (hW : isW (tbX2_init l K X) cuX2_init J W) (n : Nat) (ls st : List aV) (μ : aM) (g : Nat) : W (n + 1) 4 ls st μ g = (sLd 0 5 isR) (W n) ls st μ g := (hW n 4 ls st μ g).trans rfl
theorem wX2_init_5 {l : Launch} {K : aRs} {X : aXs} {J : aK} {W : Nat → aK} (hW : isW (tbX2_init l K X) cuX2_init J W) (n : Nat) (ls st : List aV) (μ : aM) (g : Nat) : W (n + 1) 5 ls st μ g = (sLd 1 6 isI) (W n) ls st μ g := (hW n 5 ls st μ g).trans rfl
theorem wX2_init_6 {l : Launch} {K : aRs} {X : aXs} {J : aK} {W : Nat → aK} (hW : isW (tbX2_init l K X) cuX2_init J W) (n : Nat) (ls st : List aV) (μ : aM) (g : Nat) : W (n + 1) 6 ls st μ g = (sPutI 2 0 9) (W n) ls st μ g := (hW n 6 ls st μ g).trans rfl
theorem wX2_init_9 {l : Launch} {K : aRs} {X : aXs} {J : aK} {W : Nat → aK} (hW : isW (tbX2_init l K X) cuX2_init J W) (n : Nat) (ls st : List aV) (μ : aM) (g : Nat) : W (n + 1) 9 ls st μ g = (sLd 0 10 isR) (W n) ls st μ g := (hW n 9 ls st μ g).trans rfl
theorem wX2_init_10 {l : Launch} {K : aRs} {X : aXs} {J : aK} {W : Nat → aK} (hW : isW (tbX2_init l K X) cuX2_init J W) (n : Nat) (ls st : List aV) (μ : aM) (g : Nat) : W (n + 1) 10 ls st μ g = (sLd 2 11 isI) (W n) ls st μ g := (hW n 10 ls st μ g).trans rfl
theorem wX2_init_11 {l : Launch} {K : aRs} {X : aXs} {J : aK} {W : Nat → aK} (hW : isW (tbX2_init l K X) cuX2_init J W) (n : Nat) (ls st : List aV) (μ : aM) (g : Nat) : W (n + 1) 11 ls st μ g = (sPutI 2 1 14) (W n) ls st μ g := (hW n 11 ls st μ g).trans rfl
theorem wX2_init_14 {l : Launch} {K : aRs} {X : aXs} {J : aK} {W : Nat → aK} (hW : isW (tbX2_init l K X) cuX2_init J W) (n : Nat) (ls st : List aV) (μ : aM) (g : Nat) : W (n + 1) 14 ls st μ g = (sLd 0 15 isR) (W n) ls st μ g := (hW n 14 ls st μ g).trans rfl
theorem wX2_init_15 {l : Launch} {K : aRs} {X : aXs} {J : aK} {W : Nat → aK} (hW : isW (tbX2_init l K X) cuX2_init J W) (n : Nat) (ls st : List aV) (μ : aM) (g : Nat) : W (n + 1) 15 ls st μ g = (sLd 3 16 isI) (W n) ls st μ g := (hW n 15 ls st μ g).trans rfl
theorem wX2_init_16 {l : Launch} {K : aRs} {X : aXs} {J : aK} {W : Nat → aK} (hW : isW (tbX2_init l K X) cuX2_init J W) (n : Nat) (ls st : List aV) (μ : aM) (g : Nat) : W (n + 1) 16 ls st μ g = (sPutI 2 2 19) (W n) ls st μ g := (hW n 16 ls st μ g).trans rfl
theorem wX2_init_19 {l : Launch} {K : aRs} {X : aXs} {J : aK} {W : Nat → aK} (hW : isW (tbX2_init l K X) cuX2_init J W) (n : Nat) (ls st : List aV) (μ : aM) (g : Nat) : W (n + 1) 19 ls st μ g = (sLd 0 20 isR) (W n) ls st μ g := (hW n 19 ls st μ g).trans rfl
theorem wX2_init_20 {l : Launch} {K : aRs} {X : aXs} {J : aK} {W : Nat → aK} (hW : isW (tbX2_init l K X) cuX2_init J W) (n : Nat) (ls st : List aV) (μ : aM) (g : Nat) : W (n + 1) 20 ls st μ g = (sLd 4 22 isI) (W n) ls st μ g := (hW n 20 ls st μ g).trans rfl
theorem wX2_init_22 {l : Launch} {K : aRs} {X : aXs} {J : aK} {W : Nat → aK} (hW : isW (tbX2_init l K X) cuX2_init J W) (n : Nat) (ls st : List aV) (μ : aM) (g : Nat) : W (n + 1) 22 ls st μ g = (sPutI 2 3 25) (W n) ls st μ g := (hW n 22 ls st μ g).trans rfl
theorem wX2_init_25 {l : Launch} {K : aRs} {X : aXs} {J : aK} {W : Nat → aK} (hW : isW (tbX2_init l K X) cuX2_init J W) (n : Nat) (ls st : List aV) (μ : aM) (g : Nat) : W (n + 1) 25 ls st μ g = (sLd 0 26 isR) (W n) ls st μ g := (hW n 25 ls st μ g).trans rfl
theorem wX2_init_26 {l : Launch} {K : aRs} {X : aXs} {J : aK} {W : Nat → aK} (hW : isW (tbX2_init l K X) cuX2_init J W) (n : Nat) (ls st : List aV) (μ : aM) (g : Nat) : W (n + 1) 26 ls st μ g = (sLd 5 28 isI) (W n) ls st μ g := (hW n 26 ls st μ g).trans rfl
theorem wX2_init_28 {l : Launch} {K : aRs} {X : aXs} {J : aK} {W : Nat → aK} (hW : isW (tbX2_init l K X) cuX2_init J W) (n : Nat) (ls st : List aV) (μ : aM) (g : Nat) : W (n + 1) 28 ls st μ g = (sPutI 2 4 31) (W n) ls st μ g := (hW n 28 ls st μ g).trans rfl
theorem wX2_init_31 {l : Launch} {K : aRs} {X : aXs} {J : aK} {W : Nat → aK} (hW : isW (tbX2_init l K X) cuX2_init J W) (n : Nat) (ls st : List aV) (μ : aM) (g : Nat) : W (n + 1) 31 ls st μ g = (sLd 0 32 isR) (W n) ls st μ g := (hW n 31 ls st μ g).trans rfl
theorem wX2_init_32 {l : Launch} {K : aRs} {X : aXs} {J : aK} {W : Nat → aK} (hW : isW (tbX2_init l K X) cuX2_init J W) (n : Nat) (ls st : List aV) (μ : aM) (g : Nat) : W (n + 1) 32 ls st μ g = (sLd 6 34 isI) (W n) ls st μ g := (hW n 32 ls st μ g).trans rfl
theorem wX2_init_34 {l : Launch} {K : aRs} {X : aXs} {J : aK} {W : Nat → aK} (hW : isW (tbX2_init l K X) cuX2_init J W) (n : Nat) (ls st : List aV) (μ : aM) (g : Nat) : W (n + 1) 34 ls st μ g = (sPutI 2 5 37) (W n) ls st μ g := (hW n 34 ls st μ g).trans rfl
theorem wX2_init_37 {l : Launch} {K : aRs} {X : aXs} {J : aK} {W : Nat → aK} (hW : isW (tbX2_init l K X) cuX2_init J W) (n : Nat) (ls st : List aV) (μ : aM) (g : Nat) : W (n + 1) 37 ls st μ g = (sLd 0 38 isR) (W n) ls st μ g := (hW n 37 ls st μ g).trans rfl
theorem wX2_init_38 {l : Launch} {K : aRs} {X : aXs} {J : aK} {W : Nat → aK} (hW : isW (tbX2_init l K X) cuX2_init J W) (n : Nat) (ls st : List aV) (μ : aM) (g : Nat) : W (n + 1) 38 ls st μ g = (sLd 6 40 isI) (W n) ls st μ g := (hW n 38 ls st μ g).trans rfl
theorem wX2_init_40 {l : Launch} {K : aRs} {X : aXs} {J : aK} {W : Nat → aK} (hW : isW (tbX2_init l K X) cuX2_init J W) (n : Nat) (ls st : List aV) (μ : aM) (g : Nat) : W (n + 1) 40 ls st μ g = (sPutI 2 6 43) (W n) ls st μ g := (hW n 40 ls st μ g).trans rfl
theorem wX2_init_43 {l : Launch} {K : aRs} {X : aXs} {J : aK} {W : Nat → aK} (hW : isW (tbX2_init l K X) cuX2_init J W) (n : Nat) (ls st : List aV) (μ : aM) (g : Nat) : W (n + 1) 43 ls st μ g = (sLd 0 44 isR) (W n) ls st μ g := (hW n 43 ls st μ g).trans rfl
theorem wX2_init_44 {l : Launch} {K : aRs} {X : aXs} {J : aK} {W : Nat → aK} (hW : isW (tbX2_init l K X) cuX2_init J W) (n : Nat) (ls st : List aV) (μ : aM) (g : Nat) : W (n + 1) 44 ls st μ g = (sPush (aI 0) 45) (W n) ls st μ g := (hW n 44 ls st μ g).trans rfl
theorem wX2_init_45 {l : Launch} {K : aRs} {X : aXs} {J : aK} {W : Nat → aK} (hW : isW (tbX2_init l K X) cuX2_init J W) (n : Nat) (ls st : List aV) (μ : aM) (g : Nat) : W (n + 1) 45 ls st μ g = (sPutI 2 7 48) (W n) ls st μ g := (hW n 45 ls st μ g).trans rfl
theorem wX2_init_48 {l : Launch} {K : aRs} {X : aXs} {J : aK} {W : Nat → aK} (hW : isW (tbX2_init l K X) cuX2_init J W) (n : Nat) (ls st : List aV) (μ : aM) (g : Nat) : W (n + 1) 48 ls st μ g = (sLd 0 49 isR) (W n) ls st μ g := (hW n 48 ls st μ g).trans rfl
theorem wX2_init_49 {l : Launch} {K : aRs} {X : aXs} {J : aK} {W : Nat → aK} (hW : isW (tbX2_init l K X) cuX2_init J W) (n : Nat) (ls st : List aV) (μ : aM) (g : Nat) : W (n + 1) 49 ls st μ g = (sLd 7 51 isI) (W n) ls st μ g := (hW n 49 ls st μ g).trans rfl
theorem wX2_init_51 {l : Launch} {K : aRs} {X : aXs} {J : aK} {W : Nat → aK} (hW : isW (tbX2_init l K X) cuX2_init J W) (n : Nat) (ls st : List aV) (μ : aM) (g : Nat) : W (n + 1) 51 ls st μ g = (sPutI 2 8 54) (W n) ls st μ g := (hW n 51 ls st μ g).trans rfl
theorem wX2_init_54 {l : Launch} {K : aRs} {X : aXs} {J : aK} {W : Nat → aK} (hW : isW (tbX2_init l K X) cuX2_init J W) (n : Nat) (ls st : List aV) (μ : aM) (g : Nat) : W (n + 1) 54 ls st μ g = (sLd 0 55 isR) (W n) ls st μ g := (hW n 54 ls st μ g).trans rfl
theorem wX2_init_55 {l : Launch} {K : aRs} {X : aXs} {J : aK} {W : Nat → aK} (hW : isW (tbX2_init l K X) cuX2_init J W) (n : Nat) (ls st : List aV) (μ : aM) (g : Nat) : W (n + 1) 55 ls st μ g = (sPush (aI 0) 56) (W n) ls st μ g := (hW n 55 ls st μ g).trans rfl
theorem wX2_init_56 {l : Launch} {K : aRs} {X : aXs} {J : aK} {W : Nat → aK} (hW : isW (tbX2_init l K X) cuX2_init J W) (n : Nat) (ls st : List aV) (μ : aM) (g : Nat) : W (n + 1) 56 ls st μ g = (sPutI 2 9 59) (W n) ls st μ g := (hW n 56 ls st μ g).trans rfl
theorem wX2_init_59 {l : Launch} {K : aRs} {X : aXs} {J : aK} {W : Nat → aK} (hW : isW (tbX2_init l K X) cuX2_init J W) (n : Nat) (ls st : List aV) (μ : aM) (g : Nat) : W (n + 1) 59 ls st μ g = (sLd 0 60 isR) (W n) ls st μ g := (hW n 59 ls st μ g).trans rfl
theorem wX2_init_60 {l : Launch} {K : aRs} {X : aXs} {J : aK} {W : Nat → aK} (hW : isW (tbX2_init l K X) cuX2_init J W) (n : Nat) (ls st : List aV) (μ : aM) (g : Nat) : W (n + 1) 60 ls st μ g = (sPush (aI 119) 62) (W n) ls st μ g := (hW n 60 ls st μ g).trans rfl
theorem wX2_init_62 {l : Launch} {K : aRs} {X : aXs} {J : aK} {W : Nat → aK} (hW : isW (tbX2_init l K X) cuX2_init J W) (n : Nat) (ls st : List aV) (μ : aM) (g : Nat) : W (n + 1) 62 ls st μ g = (sPutI 2 10 65) (W n) ls st μ g := (hW n 62 ls st μ g).trans rfl
theorem wX2_init_65 {l : Launch} {K : aRs} {X : aXs} {J : aK} {W : Nat → aK} (hW : isW (tbX2_init l K X) cuX2_init J W) (n : Nat) (ls st : List aV) (μ : aM) (g : Nat) : W (n + 1) 65 ls st μ g = (sLd 0 66 isR) (W n) ls st μ g := (hW n 65 ls st μ g).trans rfl
theorem wX2_init_66 {l : Launch} {K : aRs} {X : aXs} {J : aK} {W : Nat → aK} (hW : isW (tbX2_init l K X) cuX2_init J W) (n : Nat) (ls st : List aV) (μ : aM) (g : Nat) : W (n + 1) 66 ls st μ g = (sPush (aR 0) 67) (W n) ls st μ g := (hW n 66 ls st μ g).trans rfl
theorem wX2_init_67 {l : Launch} {K : aRs} {X : aXs} {J : aK} {W : Nat → aK} (hW : isW (tbX2_init l K X) cuX2_init J W) (n : Nat) (ls st : List aV) (μ : aM) (g : Nat) : W (n + 1) 67 ls st μ g = (sPutR 2 11 70) (W n) ls st μ g := (hW n 67 ls st μ g).trans rfl
theorem wX2_init_70 {l : Launch} {K : aRs} {X : aXs} {J : aK} {W : Nat → aK} (hW : isW (tbX2_init l K X) cuX2_init J W) (n : Nat) (ls st : List aV) (μ : aM) (g : Nat) : W (n + 1) 70 ls st μ g = (sRetV 0 K) (W n) ls st μ g := (hW n 70 ls st μ g).trans rfl
theorem dX2_isLive_0 : decode cX2_isLive 0 = .ok (.aload_n 0, 1) := by decide +kernel
theorem dX2_isLive_1 : decode cX2_isLive 1 = .ok (.getfield 43, 3) := by decide +kernel
theorem dX2_isLive_4 : decode cX2_isLive 4 = .ok (.bipush 97, 2) := by decide +kernel
theorem dX2_isLive_6 : decode cX2_isLive 6 = .ok (.if_icmp .eq 12, 3) := by decide +kernel
theorem dX2_isLive_9 : decode cX2_isLive 9 = .ok (.aload_n 0, 1) := by decide +kernel
theorem dX2_isLive_10 : decode cX2_isLive 10 = .ok (.getfield 43, 3) := by decide +kernel
theorem dX2_isLive_13 : decode cX2_isLive 13 = .ok (.bipush 119, 2) := by decide +kernel
theorem dX2_isLive_15 : decode cX2_isLive 15 = .ok (.if_icmp .ne 7, 3) := by decide +kernel
theorem dX2_isLive_18 : decode cX2_isLive 18 = .ok (.iconst 1, 1) := by decide +kernel
theorem dX2_isLive_19 : decode cX2_isLive 19 = .ok (.goto 4, 3) := by decide +kernel
theorem dX2_isLive_22 : decode cX2_isLive 22 = .ok (.iconst 0, 1) := by decide +kernel
theorem dX2_isLive_23 : decode cX2_isLive 23 = .ok (.ireturn, 1) := by decide +kernel
def tbX2_isLive (l : Launch) (K : aRs) (X : aXs) : aTb := [
  (0, sLd 0 1 isR),
  (1, sGetI 2 10 4),
  (4, sPush (aI 97) 6),
  (6, sIc qEq 18 9),
  (9, sLd 0 10 isR),
  (10, sGetI 2 10 13),
  (13, sPush (aI 119) 15),
  (15, sIc qNe 22 18),
  (18, sPush (aI 1) 19),
  (19, sGoto 23),
  (22, sPush (aI 0) 23),
  (23, sRetI .boolean 0 K)]
theorem snX2_isLive (l : Launch) (K : aRs) (X : aXs) (n0 : Nat) : ∀ q ∈ tbX2_isLive l K X, aSo l mdX2_isLive K X n0 q.1 q.2 :=
  tc (fun p e s m args below meth c cA D A ad0 h => ok_aload_n h.1 0 rfl dX2_isLive_0) <|
  tc (fun p e s m args below meth c cA D A ad0 h => ok_getI h.1 cxX2 (by decide) rfl fkRX2_43 (fun _ _ _ => rfl) dX2_isLive_1) <|
  tc (fun p e s m args below meth c cA D A ad0 h => ok_bipush h.1 ⟨by decide, by decide⟩ (by decide) dX2_isLive_4) <|
  tc (fun p e s m args below meth c cA D A ad0 h => ok_icmp_eq h.1 18 (by decide) dX2_isLive_6) <|
  tc (fun p e s m args below meth c cA D A ad0 h => ok_aload_n h.1 0 rfl dX2_isLive_9) <|
  tc (fun p e s m args below meth c cA D A ad0 h => ok_getI h.1 cxX2 (by decide) rfl fkRX2_43 (fun _ _ _ => rfl) dX2_isLive_10) <|
  tc (fun p e s m args below meth c cA D A ad0 h => ok_bipush h.1 ⟨by decide, by decide⟩ (by decide) dX2_isLive_13) <|
  tc (fun p e s m args below meth c cA D A ad0 h => ok_icmp_ne h.1 22 (by decide) dX2_isLive_15) <|
  tc (fun p e s m args below meth c cA D A ad0 h => ok_iconst h.1 ⟨by decide, by decide⟩ dX2_isLive_18) <|
  tc (fun p e s m args below meth c cA D A ad0 h => ok_goto h.1 23 (by decide) dX2_isLive_19) <|
  tc (fun p e s m args below meth c cA D A ad0 h => ok_iconst h.1 ⟨by decide, by decide⟩ dX2_isLive_22) <|
  tc (fun p e s m args below meth c cA D A ad0 h => ok_ireturn h.1 h.2.2.2.1 (Or.inr (Or.inl rfl)) dX2_isLive_23) <|
  tn
abbrev cuX2_isLive : List Nat := []
theorem tX2_isLive_0 (l : Launch) (K : aRs) (X : aXs) : tb (tbX2_isLive l K X) 0 = sLd 0 1 isR := (rfl)
theorem wX2_isLive_0 {l : Launch} {K : aRs} {X : aXs} {J : aK} {W : Nat → aK} (hW : isW (tbX2_isLive l K X) cuX2_isLive J W) (n : Nat) (ls st : List aV) (μ : aM) (g : Nat) : W (n + 1) 0 ls st μ g = (sLd 0 1 isR) (W n) ls st μ g := (hW n 0 ls st μ g).trans rfl
theorem wX2_isLive_1 {l : Launch} {K : aRs} {X : aXs} {J : aK} {W : Nat → aK} (hW : isW (tbX2_isLive l K X) cuX2_isLive J W) (n : Nat) (ls st : List aV) (μ : aM) (g : Nat) : W (n + 1) 1 ls st μ g = (sGetI 2 10 4) (W n) ls st μ g := (hW n 1 ls st μ g).trans rfl
theorem wX2_isLive_4 {l : Launch} {K : aRs} {X : aXs} {J : aK} {W : Nat → aK} (hW : isW (tbX2_isLive l K X) cuX2_isLive J W) (n : Nat) (ls st : List aV) (μ : aM) (g : Nat) : W (n + 1) 4 ls st μ g = (sPush (aI 97) 6) (W n) ls st μ g := (hW n 4 ls st μ g).trans rfl
theorem wX2_isLive_6 {l : Launch} {K : aRs} {X : aXs} {J : aK} {W : Nat → aK} (hW : isW (tbX2_isLive l K X) cuX2_isLive J W) (n : Nat) (ls st : List aV) (μ : aM) (g : Nat) : W (n + 1) 6 ls st μ g = (sIc qEq 18 9) (W n) ls st μ g := (hW n 6 ls st μ g).trans rfl
theorem wX2_isLive_9 {l : Launch} {K : aRs} {X : aXs} {J : aK} {W : Nat → aK} (hW : isW (tbX2_isLive l K X) cuX2_isLive J W) (n : Nat) (ls st : List aV) (μ : aM) (g : Nat) : W (n + 1) 9 ls st μ g = (sLd 0 10 isR) (W n) ls st μ g := (hW n 9 ls st μ g).trans rfl
theorem wX2_isLive_10 {l : Launch} {K : aRs} {X : aXs} {J : aK} {W : Nat → aK} (hW : isW (tbX2_isLive l K X) cuX2_isLive J W) (n : Nat) (ls st : List aV) (μ : aM) (g : Nat) : W (n + 1) 10 ls st μ g = (sGetI 2 10 13) (W n) ls st μ g := (hW n 10 ls st μ g).trans rfl
theorem wX2_isLive_13 {l : Launch} {K : aRs} {X : aXs} {J : aK} {W : Nat → aK} (hW : isW (tbX2_isLive l K X) cuX2_isLive J W) (n : Nat) (ls st : List aV) (μ : aM) (g : Nat) : W (n + 1) 13 ls st μ g = (sPush (aI 119) 15) (W n) ls st μ g := (hW n 13 ls st μ g).trans rfl
theorem wX2_isLive_15 {l : Launch} {K : aRs} {X : aXs} {J : aK} {W : Nat → aK} (hW : isW (tbX2_isLive l K X) cuX2_isLive J W) (n : Nat) (ls st : List aV) (μ : aM) (g : Nat) : W (n + 1) 15 ls st μ g = (sIc qNe 22 18) (W n) ls st μ g := (hW n 15 ls st μ g).trans rfl
theorem wX2_isLive_18 {l : Launch} {K : aRs} {X : aXs} {J : aK} {W : Nat → aK} (hW : isW (tbX2_isLive l K X) cuX2_isLive J W) (n : Nat) (ls st : List aV) (μ : aM) (g : Nat) : W (n + 1) 18 ls st μ g = (sPush (aI 1) 19) (W n) ls st μ g := (hW n 18 ls st μ g).trans rfl
theorem wX2_isLive_19 {l : Launch} {K : aRs} {X : aXs} {J : aK} {W : Nat → aK} (hW : isW (tbX2_isLive l K X) cuX2_isLive J W) (n : Nat) (ls st : List aV) (μ : aM) (g : Nat) : W (n + 1) 19 ls st μ g = (sGoto 23) (W n) ls st μ g := (hW n 19 ls st μ g).trans rfl
theorem wX2_isLive_22 {l : Launch} {K : aRs} {X : aXs} {J : aK} {W : Nat → aK} (hW : isW (tbX2_isLive l K X) cuX2_isLive J W) (n : Nat) (ls st : List aV) (μ : aM) (g : Nat) : W (n + 1) 22 ls st μ g = (sPush (aI 0) 23) (W n) ls st μ g := (hW n 22 ls st μ g).trans rfl
theorem wX2_isLive_23 {l : Launch} {K : aRs} {X : aXs} {J : aK} {W : Nat → aK} (hW : isW (tbX2_isLive l K X) cuX2_isLive J W) (n : Nat) (ls st : List aV) (μ : aM) (g : Nat) : W (n + 1) 23 ls st μ g = (sRetI .boolean 0 K) (W n) ls st μ g := (hW n 23 ls st μ g).trans rfl
theorem dX2_showSlice_0 : decode cX2_showSlice 0 = .ok (.aload_n 0, 1) := by decide +kernel
theorem dX2_showSlice_1 : decode cX2_showSlice 1 = .ok (.aload_n 0, 1) := by decide +kernel
theorem dX2_showSlice_2 : decode cX2_showSlice 2 = .ok (.getfield 37, 3) := by decide +kernel
theorem dX2_showSlice_5 : decode cX2_showSlice 5 = .ok (.aload_n 0, 1) := by decide +kernel
theorem dX2_showSlice_6 : decode cX2_showSlice 6 = .ok (.getfield 31, 3) := by decide +kernel
theorem dX2_showSlice_9 : decode cX2_showSlice 9 = .ok (.invokestatic 51, 3) := by decide +kernel
theorem dX2_showSlice_12 : decode cX2_showSlice 12 = .ok (.putfield 40, 3) := by decide +kernel
theorem dX2_showSlice_15 : decode cX2_showSlice 15 = .ok (.return_, 1) := by decide +kernel
def tbX2_showSlice (l : Launch) (K : aRs) (X : aXs) : aTb := [
  (0, sLd 0 1 isR),
  (1, sLd 0 2 isR),
  (2, sGetI 2 8 5),
  (5, sLd 0 6 isR),
  (6, sGetI 2 6 9),
  (9, sMath (sMin 12) 0),
  (12, sPutI 2 9 15),
  (15, sRetV 0 K)]
theorem snX2_showSlice (l : Launch) (K : aRs) (X : aXs) (n0 : Nat) : ∀ q ∈ tbX2_showSlice l K X, aSo l mdX2_showSlice K X n0 q.1 q.2 :=
  tc (fun p e s m args below meth c cA D A ad0 h => ok_aload_n h.1 0 rfl dX2_showSlice_0) <|
  tc (fun p e s m args below meth c cA D A ad0 h => ok_aload_n h.1 0 rfl dX2_showSlice_1) <|
  tc (fun p e s m args below meth c cA D A ad0 h => ok_getI h.1 cxX2 (by decide) rfl fkRX2_37 (fun _ _ _ => rfl) dX2_showSlice_2) <|
  tc (fun p e s m args below meth c cA D A ad0 h => ok_aload_n h.1 0 rfl dX2_showSlice_5) <|
  tc (fun p e s m args below meth c cA D A ad0 h => ok_getI h.1 cxX2 (by decide) rfl fkRX2_31 (fun _ _ _ => rfl) dX2_showSlice_6) <|
  tc (fun p e s m args below meth c cA D A ad0 h => ok_min h.1 ⟨Nat.le_refl _, Nat.le_refl _⟩ mkRX2_51 smath_min nimath kmath_min dX2_showSlice_9) <|
  tc (fun p e s m args below meth c cA D A ad0 h => ok_putI h.1 cxX2 (by decide) rfl fkRX2_40 (Or.inl rfl) (fun _ _ _ => rfl) (Or.inl rfl) dX2_showSlice_12) <|
  tc (fun p e s m args below meth c cA D A ad0 h => ok_return h.1 h.2.2.2.1 dX2_showSlice_15) <|
  tn
abbrev cuX2_showSlice : List Nat := []
theorem tX2_showSlice_0 (l : Launch) (K : aRs) (X : aXs) : tb (tbX2_showSlice l K X) 0 = sLd 0 1 isR := (rfl)
theorem wX2_showSlice_0 {l : Launch} {K : aRs} {X : aXs} {J : aK} {W : Nat → aK} (hW : isW (tbX2_showSlice l K X) cuX2_showSlice J W) (n : Nat) (ls st : List aV) (μ : aM) (g : Nat) : W (n + 1) 0 ls st μ g = (sLd 0 1 isR) (W n) ls st μ g := (hW n 0 ls st μ g).trans rfl
theorem wX2_showSlice_1 {l : Launch} {K : aRs} {X : aXs} {J : aK} {W : Nat → aK} (hW : isW (tbX2_showSlice l K X) cuX2_showSlice J W) (n : Nat) (ls st : List aV) (μ : aM) (g : Nat) : W (n + 1) 1 ls st μ g = (sLd 0 2 isR) (W n) ls st μ g := (hW n 1 ls st μ g).trans rfl
theorem wX2_showSlice_2 {l : Launch} {K : aRs} {X : aXs} {J : aK} {W : Nat → aK} (hW : isW (tbX2_showSlice l K X) cuX2_showSlice J W) (n : Nat) (ls st : List aV) (μ : aM) (g : Nat) : W (n + 1) 2 ls st μ g = (sGetI 2 8 5) (W n) ls st μ g := (hW n 2 ls st μ g).trans rfl
theorem wX2_showSlice_5 {l : Launch} {K : aRs} {X : aXs} {J : aK} {W : Nat → aK} (hW : isW (tbX2_showSlice l K X) cuX2_showSlice J W) (n : Nat) (ls st : List aV) (μ : aM) (g : Nat) : W (n + 1) 5 ls st μ g = (sLd 0 6 isR) (W n) ls st μ g := (hW n 5 ls st μ g).trans rfl
theorem wX2_showSlice_6 {l : Launch} {K : aRs} {X : aXs} {J : aK} {W : Nat → aK} (hW : isW (tbX2_showSlice l K X) cuX2_showSlice J W) (n : Nat) (ls st : List aV) (μ : aM) (g : Nat) : W (n + 1) 6 ls st μ g = (sGetI 2 6 9) (W n) ls st μ g := (hW n 6 ls st μ g).trans rfl
theorem wX2_showSlice_9 {l : Launch} {K : aRs} {X : aXs} {J : aK} {W : Nat → aK} (hW : isW (tbX2_showSlice l K X) cuX2_showSlice J W) (n : Nat) (ls st : List aV) (μ : aM) (g : Nat) : W (n + 1) 9 ls st μ g = (sMath (sMin 12) 0) (W n) ls st μ g := (hW n 9 ls st μ g).trans rfl
theorem wX2_showSlice_12 {l : Launch} {K : aRs} {X : aXs} {J : aK} {W : Nat → aK} (hW : isW (tbX2_showSlice l K X) cuX2_showSlice J W) (n : Nat) (ls st : List aV) (μ : aM) (g : Nat) : W (n + 1) 12 ls st μ g = (sPutI 2 9 15) (W n) ls st μ g := (hW n 12 ls st μ g).trans rfl
theorem wX2_showSlice_15 {l : Launch} {K : aRs} {X : aXs} {J : aK} {W : Nat → aK} (hW : isW (tbX2_showSlice l K X) cuX2_showSlice J W) (n : Nat) (ls st : List aV) (μ : aM) (g : Nat) : W (n + 1) 15 ls st μ g = (sRetV 0 K) (W n) ls st μ g := (hW n 15 ls st μ g).trans rfl
theorem dX2_fill_0 : decode cX2_fill 0 = .ok (.aload_n 0, 1) := by decide +kernel
theorem dX2_fill_1 : decode cX2_fill 1 = .ok (.dup, 1) := by decide +kernel
theorem dX2_fill_2 : decode cX2_fill 2 = .ok (.getfield 31, 3) := by decide +kernel
theorem dX2_fill_5 : decode cX2_fill 5 = .ok (.iload_n 1, 1) := by decide +kernel
theorem dX2_fill_6 : decode cX2_fill 6 = .ok (.isub, 1) := by decide +kernel
theorem dX2_fill_7 : decode cX2_fill 7 = .ok (.putfield 31, 3) := by decide +kernel
theorem dX2_fill_10 : decode cX2_fill 10 = .ok (.aload_n 0, 1) := by decide +kernel
theorem dX2_fill_11 : decode cX2_fill 11 = .ok (.dup, 1) := by decide +kernel
theorem dX2_fill_12 : decode cX2_fill 12 = .ok (.getfield 34, 3) := by decide +kernel
theorem dX2_fill_15 : decode cX2_fill 15 = .ok (.iload_n 1, 1) := by decide +kernel
theorem dX2_fill_16 : decode cX2_fill 16 = .ok (.iadd, 1) := by decide +kernel
theorem dX2_fill_17 : decode cX2_fill 17 = .ok (.putfield 34, 3) := by decide +kernel
theorem dX2_fill_20 : decode cX2_fill 20 = .ok (.aload_n 0, 1) := by decide +kernel
theorem dX2_fill_21 : decode cX2_fill 21 = .ok (.getfield 31, 3) := by decide +kernel
theorem dX2_fill_24 : decode cX2_fill 24 = .ok (.ifCond .ne 9, 3) := by decide +kernel
theorem dX2_fill_27 : decode cX2_fill 27 = .ok (.aload_n 0, 1) := by decide +kernel
theorem dX2_fill_28 : decode cX2_fill 28 = .ok (.bipush 102, 2) := by decide +kernel
theorem dX2_fill_30 : decode cX2_fill 30 = .ok (.putfield 43, 3) := by decide +kernel
theorem dX2_fill_33 : decode cX2_fill 33 = .ok (.return_, 1) := by decide +kernel
def tbX2_fill (l : Launch) (K : aRs) (X : aXs) : aTb := [
  (0, sLd 0 1 isR),
  (1, sDup 2),
  (2, sGetI 2 6 5),
  (5, sLd 1 6 isI),
  (6, sBin fSub 7),
  (7, sPutI 2 6 10),
  (10, sLd 0 11 isR),
  (11, sDup 12),
  (12, sGetI 2 7 15),
  (15, sLd 1 16 isI),
  (16, sBin fAdd 17),
  (17, sPutI 2 7 20),
  (20, sLd 0 21 isR),
  (21, sGetI 2 6 24),
  (24, sIf pNe 33 27),
  (27, sLd 0 28 isR),
  (28, sPush (aI 102) 30),
  (30, sPutI 2 10 33),
  (33, sRetV 0 K)]
theorem snX2_fill (l : Launch) (K : aRs) (X : aXs) (n0 : Nat) : ∀ q ∈ tbX2_fill l K X, aSo l mdX2_fill K X n0 q.1 q.2 :=
  tc (fun p e s m args below meth c cA D A ad0 h => ok_aload_n h.1 0 rfl dX2_fill_0) <|
  tc (fun p e s m args below meth c cA D A ad0 h => ok_dup h.1 dX2_fill_1) <|
  tc (fun p e s m args below meth c cA D A ad0 h => ok_getI h.1 cxX2 (by decide) rfl fkRX2_31 (fun _ _ _ => rfl) dX2_fill_2) <|
  tc (fun p e s m args below meth c cA D A ad0 h => ok_iload_n h.1 1 rfl dX2_fill_5) <|
  tc (fun p e s m args below meth c cA D A ad0 h => ok_isub h.1 dX2_fill_6) <|
  tc (fun p e s m args below meth c cA D A ad0 h => ok_putI h.1 cxX2 (by decide) rfl fkRX2_31 (Or.inl rfl) (fun _ _ _ => rfl) (Or.inl rfl) dX2_fill_7) <|
  tc (fun p e s m args below meth c cA D A ad0 h => ok_aload_n h.1 0 rfl dX2_fill_10) <|
  tc (fun p e s m args below meth c cA D A ad0 h => ok_dup h.1 dX2_fill_11) <|
  tc (fun p e s m args below meth c cA D A ad0 h => ok_getI h.1 cxX2 (by decide) rfl fkRX2_34 (fun _ _ _ => rfl) dX2_fill_12) <|
  tc (fun p e s m args below meth c cA D A ad0 h => ok_iload_n h.1 1 rfl dX2_fill_15) <|
  tc (fun p e s m args below meth c cA D A ad0 h => ok_iadd h.1 dX2_fill_16) <|
  tc (fun p e s m args below meth c cA D A ad0 h => ok_putI h.1 cxX2 (by decide) rfl fkRX2_34 (Or.inl rfl) (fun _ _ _ => rfl) (Or.inl rfl) dX2_fill_17) <|
  tc (fun p e s m args below meth c cA D A ad0 h => ok_aload_n h.1 0 rfl dX2_fill_20) <|
  tc (fun p e s m args below meth c cA D A ad0 h => ok_getI h.1 cxX2 (by decide) rfl fkRX2_31 (fun _ _ _ => rfl) dX2_fill_21) <|
  tc (fun p e s m args below meth c cA D A ad0 h => ok_if_ne h.1 33 (by decide) dX2_fill_24) <|
  tc (fun p e s m args below meth c cA D A ad0 h => ok_aload_n h.1 0 rfl dX2_fill_27) <|
  tc (fun p e s m args below meth c cA D A ad0 h => ok_bipush h.1 ⟨by decide, by decide⟩ (by decide) dX2_fill_28) <|
  tc (fun p e s m args below meth c cA D A ad0 h => ok_putI h.1 cxX2 (by decide) rfl fkRX2_43 (Or.inl rfl) (fun _ _ _ => rfl) (Or.inr (Or.inr rfl)) dX2_fill_30) <|
  tc (fun p e s m args below meth c cA D A ad0 h => ok_return h.1 h.2.2.2.1 dX2_fill_33) <|
  tn
abbrev cuX2_fill : List Nat := []
theorem tX2_fill_0 (l : Launch) (K : aRs) (X : aXs) : tb (tbX2_fill l K X) 0 = sLd 0 1 isR := (rfl)
theorem wX2_fill_0 {l : Launch} {K : aRs} {X : aXs} {J : aK} {W : Nat → aK} (hW : isW (tbX2_fill l K X) cuX2_fill J W) (n : Nat) (ls st : List aV) (μ : aM) (g : Nat) : W (n + 1) 0 ls st μ g = (sLd 0 1 isR) (W n) ls st μ g := (hW n 0 ls st μ g).trans rfl
theorem wX2_fill_1 {l : Launch} {K : aRs} {X : aXs} {J : aK} {W : Nat → aK} (hW : isW (tbX2_fill l K X) cuX2_fill J W) (n : Nat) (ls st : List aV) (μ : aM) (g : Nat) : W (n + 1) 1 ls st μ g = (sDup 2) (W n) ls st μ g := (hW n 1 ls st μ g).trans rfl
theorem wX2_fill_2 {l : Launch} {K : aRs} {X : aXs} {J : aK} {W : Nat → aK} (hW : isW (tbX2_fill l K X) cuX2_fill J W) (n : Nat) (ls st : List aV) (μ : aM) (g : Nat) : W (n + 1) 2 ls st μ g = (sGetI 2 6 5) (W n) ls st μ g := (hW n 2 ls st μ g).trans rfl
theorem wX2_fill_5 {l : Launch} {K : aRs} {X : aXs} {J : aK} {W : Nat → aK} (hW : isW (tbX2_fill l K X) cuX2_fill J W) (n : Nat) (ls st : List aV) (μ : aM) (g : Nat) : W (n + 1) 5 ls st μ g = (sLd 1 6 isI) (W n) ls st μ g := (hW n 5 ls st μ g).trans rfl
theorem wX2_fill_6 {l : Launch} {K : aRs} {X : aXs} {J : aK} {W : Nat → aK} (hW : isW (tbX2_fill l K X) cuX2_fill J W) (n : Nat) (ls st : List aV) (μ : aM) (g : Nat) : W (n + 1) 6 ls st μ g = (sBin fSub 7) (W n) ls st μ g := (hW n 6 ls st μ g).trans rfl
theorem wX2_fill_7 {l : Launch} {K : aRs} {X : aXs} {J : aK} {W : Nat → aK} (hW : isW (tbX2_fill l K X) cuX2_fill J W) (n : Nat) (ls st : List aV) (μ : aM) (g : Nat) : W (n + 1) 7 ls st μ g = (sPutI 2 6 10) (W n) ls st μ g := (hW n 7 ls st μ g).trans rfl
theorem wX2_fill_10 {l : Launch} {K : aRs} {X : aXs} {J : aK} {W : Nat → aK} (hW : isW (tbX2_fill l K X) cuX2_fill J W) (n : Nat) (ls st : List aV) (μ : aM) (g : Nat) : W (n + 1) 10 ls st μ g = (sLd 0 11 isR) (W n) ls st μ g := (hW n 10 ls st μ g).trans rfl
theorem wX2_fill_11 {l : Launch} {K : aRs} {X : aXs} {J : aK} {W : Nat → aK} (hW : isW (tbX2_fill l K X) cuX2_fill J W) (n : Nat) (ls st : List aV) (μ : aM) (g : Nat) : W (n + 1) 11 ls st μ g = (sDup 12) (W n) ls st μ g := (hW n 11 ls st μ g).trans rfl
theorem wX2_fill_12 {l : Launch} {K : aRs} {X : aXs} {J : aK} {W : Nat → aK} (hW : isW (tbX2_fill l K X) cuX2_fill J W) (n : Nat) (ls st : List aV) (μ : aM) (g : Nat) : W (n + 1) 12 ls st μ g = (sGetI 2 7 15) (W n) ls st μ g := (hW n 12 ls st μ g).trans rfl
theorem wX2_fill_15 {l : Launch} {K : aRs} {X : aXs} {J : aK} {W : Nat → aK} (hW : isW (tbX2_fill l K X) cuX2_fill J W) (n : Nat) (ls st : List aV) (μ : aM) (g : Nat) : W (n + 1) 15 ls st μ g = (sLd 1 16 isI) (W n) ls st μ g := (hW n 15 ls st μ g).trans rfl
theorem wX2_fill_16 {l : Launch} {K : aRs} {X : aXs} {J : aK} {W : Nat → aK} (hW : isW (tbX2_fill l K X) cuX2_fill J W) (n : Nat) (ls st : List aV) (μ : aM) (g : Nat) : W (n + 1) 16 ls st μ g = (sBin fAdd 17) (W n) ls st μ g := (hW n 16 ls st μ g).trans rfl
theorem wX2_fill_17 {l : Launch} {K : aRs} {X : aXs} {J : aK} {W : Nat → aK} (hW : isW (tbX2_fill l K X) cuX2_fill J W) (n : Nat) (ls st : List aV) (μ : aM) (g : Nat) : W (n + 1) 17 ls st μ g = (sPutI 2 7 20) (W n) ls st μ g := (hW n 17 ls st μ g).trans rfl
theorem wX2_fill_20 {l : Launch} {K : aRs} {X : aXs} {J : aK} {W : Nat → aK} (hW : isW (tbX2_fill l K X) cuX2_fill J W) (n : Nat) (ls st : List aV) (μ : aM) (g : Nat) : W (n + 1) 20 ls st μ g = (sLd 0 21 isR) (W n) ls st μ g := (hW n 20 ls st μ g).trans rfl
theorem wX2_fill_21 {l : Launch} {K : aRs} {X : aXs} {J : aK} {W : Nat → aK} (hW : isW (tbX2_fill l K X) cuX2_fill J W) (n : Nat) (ls st : List aV) (μ : aM) (g : Nat) : W (n + 1) 21 ls st μ g = (sGetI 2 6 24) (W n) ls st μ g := (hW n 21 ls st μ g).trans rfl
theorem wX2_fill_24 {l : Launch} {K : aRs} {X : aXs} {J : aK} {W : Nat → aK} (hW : isW (tbX2_fill l K X) cuX2_fill J W) (n : Nat) (ls st : List aV) (μ : aM) (g : Nat) : W (n + 1) 24 ls st μ g = (sIf pNe 33 27) (W n) ls st μ g := (hW n 24 ls st μ g).trans rfl
theorem wX2_fill_27 {l : Launch} {K : aRs} {X : aXs} {J : aK} {W : Nat → aK} (hW : isW (tbX2_fill l K X) cuX2_fill J W) (n : Nat) (ls st : List aV) (μ : aM) (g : Nat) : W (n + 1) 27 ls st μ g = (sLd 0 28 isR) (W n) ls st μ g := (hW n 27 ls st μ g).trans rfl
theorem wX2_fill_28 {l : Launch} {K : aRs} {X : aXs} {J : aK} {W : Nat → aK} (hW : isW (tbX2_fill l K X) cuX2_fill J W) (n : Nat) (ls st : List aV) (μ : aM) (g : Nat) : W (n + 1) 28 ls st μ g = (sPush (aI 102) 30) (W n) ls st μ g := (hW n 28 ls st μ g).trans rfl
theorem wX2_fill_30 {l : Launch} {K : aRs} {X : aXs} {J : aK} {W : Nat → aK} (hW : isW (tbX2_fill l K X) cuX2_fill J W) (n : Nat) (ls st : List aV) (μ : aM) (g : Nat) : W (n + 1) 30 ls st μ g = (sPutI 2 10 33) (W n) ls st μ g := (hW n 30 ls st μ g).trans rfl
theorem wX2_fill_33 {l : Launch} {K : aRs} {X : aXs} {J : aK} {W : Nat → aK} (hW : isW (tbX2_fill l K X) cuX2_fill J W) (n : Nat) (ls st : List aV) (μ : aM) (g : Nat) : W (n + 1) 33 ls st μ g = (sRetV 0 K) (W n) ls st μ g := (hW n 33 ls st μ g).trans rfl
theorem dX3_init_0 : decode cX3_init 0 = .ok (.aload_n 0, 1) := by decide +kernel
theorem dX3_init_1 : decode cX3_init 1 = .ok (.invokespecial 3, 3) := by decide +kernel
theorem dX3_init_4 : decode cX3_init 4 = .ok (.aload_n 0, 1) := by decide +kernel
theorem dX3_init_5 : decode cX3_init 5 = .ok (.bipush 50, 2) := by decide +kernel
theorem dX3_init_7 : decode cX3_init 7 = .ok (.newarray .int, 2) := by decide +kernel
theorem dX3_init_9 : decode cX3_init 9 = .ok (.putfield 9, 3) := by decide +kernel
theorem dX3_init_12 : decode cX3_init 12 = .ok (.aload_n 0, 1) := by decide +kernel
theorem dX3_init_13 : decode cX3_init 13 = .ok (.bipush 50, 2) := by decide +kernel
theorem dX3_init_15 : decode cX3_init 15 = .ok (.newarray .int, 2) := by decide +kernel
theorem dX3_init_17 : decode cX3_init 17 = .ok (.putfield 15, 3) := by decide +kernel
theorem dX3_init_20 : decode cX3_init 20 = .ok (.aload_n 0, 1) := by decide +kernel
theorem dX3_init_21 : decode cX3_init 21 = .ok (.bipush 50, 2) := by decide +kernel
theorem dX3_init_23 : decode cX3_init 23 = .ok (.newarray .int, 2) := by decide +kernel
theorem dX3_init_25 : decode cX3_init 25 = .ok (.putfield 18, 3) := by decide +kernel
theorem dX3_init_28 : decode cX3_init 28 = .ok (.aload_n 0, 1) := by decide +kernel
theorem dX3_init_29 : decode cX3_init 29 = .ok (.bipush 50, 2) := by decide +kernel
theorem dX3_init_31 : decode cX3_init 31 = .ok (.newarray .int, 2) := by decide +kernel
theorem dX3_init_33 : decode cX3_init 33 = .ok (.putfield 21, 3) := by decide +kernel
theorem dX3_init_36 : decode cX3_init 36 = .ok (.aload_n 0, 1) := by decide +kernel
theorem dX3_init_37 : decode cX3_init 37 = .ok (.iconst 0, 1) := by decide +kernel
theorem dX3_init_38 : decode cX3_init 38 = .ok (.putfield 24, 3) := by decide +kernel
theorem dX3_init_41 : decode cX3_init 41 = .ok (.aload_n 0, 1) := by decide +kernel
theorem dX3_init_42 : decode cX3_init 42 = .ok (.iconst 0, 1) := by decide +kernel
theorem dX3_init_43 : decode cX3_init 43 = .ok (.putfield 28, 3) := by decide +kernel
theorem dX3_init_46 : decode cX3_init 46 = .ok (.aload_n 0, 1) := by decide +kernel
theorem dX3_init_47 : decode cX3_init 47 = .ok (.lconst 0, 1) := by decide +kernel
theorem dX3_init_48 : decode cX3_init 48 = .ok (.putfield 31, 3) := by decide +kernel
theorem dX3_init_51 : decode cX3_init 51 = .ok (.aload_n 0, 1) := by decide +kernel
theorem dX3_init_52 : decode cX3_init 52 = .ok (.lconst 0, 1) := by decide +kernel
theorem dX3_init_53 : decode cX3_init 53 = .ok (.putfield 35, 3) := by decide +kernel
theorem dX3_init_56 : decode cX3_init 56 = .ok (.return_, 1) := by decide +kernel
def tbX3_init (l : Launch) (K : aRs) (X : aXs) : aTb := [
  (0, sLd 0 1 isR),
  (1, sObj 4),
  (4, sLd 0 5 isR),
  (5, sPush (aI 50) 7),
  (7, sNewA 7 9 4),
  (9, sPutR 3 0 12),
  (12, sLd 0 13 isR),
  (13, sPush (aI 50) 15),
  (15, sNewA 7 17 4),
  (17, sPutR 3 1 20),
  (20, sLd 0 21 isR),
  (21, sPush (aI 50) 23),
  (23, sNewA 7 25 4),
  (25, sPutR 3 2 28),
  (28, sLd 0 29 isR),
  (29, sPush (aI 50) 31),
  (31, sNewA 7 33 4),
  (33, sPutR 3 3 36),
  (36, sLd 0 37 isR),
  (37, sPush (aI 0) 38),
  (38, sPutI 3 4 41),
  (41, sLd 0 42 isR),
  (42, sPush (aI 0) 43),
  (43, sPutI 3 5 46),
  (46, sLd 0 47 isR),
  (47, sPush (aL 0) 48),
  (48, sPutL 3 6 51),
  (51, sLd 0 52 isR),
  (52, sPush (aL 0) 53),
  (53, sPutL 3 7 56),
  (56, sRetV 4 K)]
theorem snX3_init (l : Launch) (K : aRs) (X : aXs) (n0 : Nat) : ∀ q ∈ tbX3_init l K X, aSo l mdX3_init K X n0 q.1 q.2 :=
  tc (fun p e s m args below meth c cA D A ad0 h => ok_aload_n h.1 0 rfl dX3_init_0) <|
  tc (fun p e s m args below meth c cA D A ad0 h => ok_objInit h.1 mkRX3_3 oi1 oi2 dX3_init_1) <|
  tc (fun p e s m args below meth c cA D A ad0 h => ok_aload_n h.1 0 rfl dX3_init_4) <|
  tc (fun p e s m args below meth c cA D A ad0 h => ok_bipush h.1 ⟨by decide, by decide⟩ (by decide) dX3_init_5) <|
  tc (fun p e s m args below meth c cA D A ad0 h => ok_newI h.1 ⟨Nat.le_refl _, Nat.le_refl _⟩ ar_int dX3_init_7) <|
  tc (fun p e s m args below meth c cA D A ad0 h => ok_putR h.1 cxX3 (by decide) rfl fkRX3_9 (Or.inr ⟨h.2.2.2.2, rfl⟩) (fun _ _ _ => rfl) (Or.inr ⟨_, rfl⟩) dX3_init_9) <|
  tc (fun p e s m args below meth c cA D A ad0 h => ok_aload_n h.1 0 rfl dX3_init_12) <|
  tc (fun p e s m args below meth c cA D A ad0 h => ok_bipush h.1 ⟨by decide, by decide⟩ (by decide) dX3_init_13) <|
  tc (fun p e s m args below meth c cA D A ad0 h => ok_newI h.1 ⟨Nat.le_refl _, Nat.le_refl _⟩ ar_int dX3_init_15) <|
  tc (fun p e s m args below meth c cA D A ad0 h => ok_putR h.1 cxX3 (by decide) rfl fkRX3_15 (Or.inr ⟨h.2.2.2.2, rfl⟩) (fun _ _ _ => rfl) (Or.inr ⟨_, rfl⟩) dX3_init_17) <|
  tc (fun p e s m args below meth c cA D A ad0 h => ok_aload_n h.1 0 rfl dX3_init_20) <|
  tc (fun p e s m args below meth c cA D A ad0 h => ok_bipush h.1 ⟨by decide, by decide⟩ (by decide) dX3_init_21) <|
  tc (fun p e s m args below meth c cA D A ad0 h => ok_newI h.1 ⟨Nat.le_refl _, Nat.le_refl _⟩ ar_int dX3_init_23) <|
  tc (fun p e s m args below meth c cA D A ad0 h => ok_putR h.1 cxX3 (by decide) rfl fkRX3_18 (Or.inr ⟨h.2.2.2.2, rfl⟩) (fun _ _ _ => rfl) (Or.inr ⟨_, rfl⟩) dX3_init_25) <|
  tc (fun p e s m args below meth c cA D A ad0 h => ok_aload_n h.1 0 rfl dX3_init_28) <|
  tc (fun p e s m args below meth c cA D A ad0 h => ok_bipush h.1 ⟨by decide, by decide⟩ (by decide) dX3_init_29) <|
  tc (fun p e s m args below meth c cA D A ad0 h => ok_newI h.1 ⟨Nat.le_refl _, Nat.le_refl _⟩ ar_int dX3_init_31) <|
  tc (fun p e s m args below meth c cA D A ad0 h => ok_putR h.1 cxX3 (by decide) rfl fkRX3_21 (Or.inr ⟨h.2.2.2.2, rfl⟩) (fun _ _ _ => rfl) (Or.inr ⟨_, rfl⟩) dX3_init_33) <|
  tc (fun p e s m args below meth c cA D A ad0 h => ok_aload_n h.1 0 rfl dX3_init_36) <|
  tc (fun p e s m args below meth c cA D A ad0 h => ok_iconst h.1 ⟨by decide, by decide⟩ dX3_init_37) <|
  tc (fun p e s m args below meth c cA D A ad0 h => ok_putI h.1 cxX3 (by decide) rfl fkRX3_24 (Or.inr ⟨h.2.2.2.2, rfl⟩) (fun _ _ _ => rfl) (Or.inl rfl) dX3_init_38) <|
  tc (fun p e s m args below meth c cA D A ad0 h => ok_aload_n h.1 0 rfl dX3_init_41) <|
  tc (fun p e s m args below meth c cA D A ad0 h => ok_iconst h.1 ⟨by decide, by decide⟩ dX3_init_42) <|
  tc (fun p e s m args below meth c cA D A ad0 h => ok_putI h.1 cxX3 (by decide) rfl fkRX3_28 (Or.inr ⟨h.2.2.2.2, rfl⟩) (fun _ _ _ => rfl) (Or.inl rfl) dX3_init_43) <|
  tc (fun p e s m args below meth c cA D A ad0 h => ok_aload_n h.1 0 rfl dX3_init_46) <|
  tc (fun p e s m args below meth c cA D A ad0 h => ok_lconst h.1 dX3_init_47) <|
  tc (fun p e s m args below meth c cA D A ad0 h => ok_putL h.1 cxX3 (by decide) rfl fkRX3_31 (Or.inr ⟨h.2.2.2.2, rfl⟩) (fun _ _ _ => rfl) rfl dX3_init_48) <|
  tc (fun p e s m args below meth c cA D A ad0 h => ok_aload_n h.1 0 rfl dX3_init_51) <|
  tc (fun p e s m args below meth c cA D A ad0 h => ok_lconst h.1 dX3_init_52) <|
  tc (fun p e s m args below meth c cA D A ad0 h => ok_putL h.1 cxX3 (by decide) rfl fkRX3_35 (Or.inr ⟨h.2.2.2.2, rfl⟩) (fun _ _ _ => rfl) rfl dX3_init_53) <|
  tc (fun p e s m args below meth c cA D A ad0 h => ok_return h.1 h.2.2.2.1 dX3_init_56) <|
  tn
abbrev cuX3_init : List Nat := []
theorem tX3_init_0 (l : Launch) (K : aRs) (X : aXs) : tb (tbX3_init l K X) 0 = sLd 0 1 isR := (rfl)
theorem wX3_init_0 {l : Launch} {K : aRs} {X : aXs} {J : aK} {W : Nat → aK} (hW : isW (tbX3_init l K X) cuX3_init J W) (n : Nat) (ls st : List aV) (μ : aM) (g : Nat) : W (n + 1) 0 ls st μ g = (sLd 0 1 isR) (W n) ls st μ g := (hW n 0 ls st μ g).trans rfl
theorem wX3_init_1 {l : Launch} {K : aRs} {X : aXs} {J : aK} {W : Nat → aK} (hW : isW (tbX3_init l K X) cuX3_init J W) (n : Nat) (ls st : List aV) (μ : aM) (g : Nat) : W (n + 1) 1 ls st μ g = (sObj 4) (W n) ls st μ g := (hW n 1 ls st μ g).trans rfl
theorem wX3_init_4 {l : Launch} {K : aRs} {X : aXs} {J : aK} {W : Nat → aK} (hW : isW (tbX3_init l K X) cuX3_init J W) (n : Nat) (ls st : List aV) (μ : aM) (g : Nat) : W (n + 1) 4 ls st μ g = (sLd 0 5 isR) (W n) ls st μ g := (hW n 4 ls st μ g).trans rfl
theorem wX3_init_5 {l : Launch} {K : aRs} {X : aXs} {J : aK} {W : Nat → aK} (hW : isW (tbX3_init l K X) cuX3_init J W) (n : Nat) (ls st : List aV) (μ : aM) (g : Nat) : W (n + 1) 5 ls st μ g = (sPush (aI 50) 7) (W n) ls st μ g := (hW n 5 ls st μ g).trans rfl
theorem wX3_init_7 {l : Launch} {K : aRs} {X : aXs} {J : aK} {W : Nat → aK} (hW : isW (tbX3_init l K X) cuX3_init J W) (n : Nat) (ls st : List aV) (μ : aM) (g : Nat) : W (n + 1) 7 ls st μ g = (sNewA 7 9 4) (W n) ls st μ g := (hW n 7 ls st μ g).trans rfl
theorem wX3_init_9 {l : Launch} {K : aRs} {X : aXs} {J : aK} {W : Nat → aK} (hW : isW (tbX3_init l K X) cuX3_init J W) (n : Nat) (ls st : List aV) (μ : aM) (g : Nat) : W (n + 1) 9 ls st μ g = (sPutR 3 0 12) (W n) ls st μ g := (hW n 9 ls st μ g).trans rfl
theorem wX3_init_12 {l : Launch} {K : aRs} {X : aXs} {J : aK} {W : Nat → aK} (hW : isW (tbX3_init l K X) cuX3_init J W) (n : Nat) (ls st : List aV) (μ : aM) (g : Nat) : W (n + 1) 12 ls st μ g = (sLd 0 13 isR) (W n) ls st μ g := (hW n 12 ls st μ g).trans rfl
theorem wX3_init_13 {l : Launch} {K : aRs} {X : aXs} {J : aK} {W : Nat → aK} (hW : isW (tbX3_init l K X) cuX3_init J W) (n : Nat) (ls st : List aV) (μ : aM) (g : Nat) : W (n + 1) 13 ls st μ g = (sPush (aI 50) 15) (W n) ls st μ g := (hW n 13 ls st μ g).trans rfl
theorem wX3_init_15 {l : Launch} {K : aRs} {X : aXs} {J : aK} {W : Nat → aK} (hW : isW (tbX3_init l K X) cuX3_init J W) (n : Nat) (ls st : List aV) (μ : aM) (g : Nat) : W (n + 1) 15 ls st μ g = (sNewA 7 17 4) (W n) ls st μ g := (hW n 15 ls st μ g).trans rfl
theorem wX3_init_17 {l : Launch} {K : aRs} {X : aXs} {J : aK} {W : Nat → aK} (hW : isW (tbX3_init l K X) cuX3_init J W) (n : Nat) (ls st : List aV) (μ : aM) (g : Nat) : W (n + 1) 17 ls st μ g = (sPutR 3 1 20) (W n) ls st μ g := (hW n 17 ls st μ g).trans rfl
theorem wX3_init_20 {l : Launch} {K : aRs} {X : aXs} {J : aK} {W : Nat → aK} (hW : isW (tbX3_init l K X) cuX3_init J W) (n : Nat) (ls st : List aV) (μ : aM) (g : Nat) : W (n + 1) 20 ls st μ g = (sLd 0 21 isR) (W n) ls st μ g := (hW n 20 ls st μ g).trans rfl
theorem wX3_init_21 {l : Launch} {K : aRs} {X : aXs} {J : aK} {W : Nat → aK} (hW : isW (tbX3_init l K X) cuX3_init J W) (n : Nat) (ls st : List aV) (μ : aM) (g : Nat) : W (n + 1) 21 ls st μ g = (sPush (aI 50) 23) (W n) ls st μ g := (hW n 21 ls st μ g).trans rfl
theorem wX3_init_23 {l : Launch} {K : aRs} {X : aXs} {J : aK} {W : Nat → aK} (hW : isW (tbX3_init l K X) cuX3_init J W) (n : Nat) (ls st : List aV) (μ : aM) (g : Nat) : W (n + 1) 23 ls st μ g = (sNewA 7 25 4) (W n) ls st μ g := (hW n 23 ls st μ g).trans rfl
theorem wX3_init_25 {l : Launch} {K : aRs} {X : aXs} {J : aK} {W : Nat → aK} (hW : isW (tbX3_init l K X) cuX3_init J W) (n : Nat) (ls st : List aV) (μ : aM) (g : Nat) : W (n + 1) 25 ls st μ g = (sPutR 3 2 28) (W n) ls st μ g := (hW n 25 ls st μ g).trans rfl
theorem wX3_init_28 {l : Launch} {K : aRs} {X : aXs} {J : aK} {W : Nat → aK} (hW : isW (tbX3_init l K X) cuX3_init J W) (n : Nat) (ls st : List aV) (μ : aM) (g : Nat) : W (n + 1) 28 ls st μ g = (sLd 0 29 isR) (W n) ls st μ g := (hW n 28 ls st μ g).trans rfl
theorem wX3_init_29 {l : Launch} {K : aRs} {X : aXs} {J : aK} {W : Nat → aK} (hW : isW (tbX3_init l K X) cuX3_init J W) (n : Nat) (ls st : List aV) (μ : aM) (g : Nat) : W (n + 1) 29 ls st μ g = (sPush (aI 50) 31) (W n) ls st μ g := (hW n 29 ls st μ g).trans rfl
theorem wX3_init_31 {l : Launch} {K : aRs} {X : aXs} {J : aK} {W : Nat → aK} (hW : isW (tbX3_init l K X) cuX3_init J W) (n : Nat) (ls st : List aV) (μ : aM) (g : Nat) : W (n + 1) 31 ls st μ g = (sNewA 7 33 4) (W n) ls st μ g := (hW n 31 ls st μ g).trans rfl
theorem wX3_init_33 {l : Launch} {K : aRs} {X : aXs} {J : aK} {W : Nat → aK} (hW : isW (tbX3_init l K X) cuX3_init J W) (n : Nat) (ls st : List aV) (μ : aM) (g : Nat) : W (n + 1) 33 ls st μ g = (sPutR 3 3 36) (W n) ls st μ g := (hW n 33 ls st μ g).trans rfl
theorem wX3_init_36 {l : Launch} {K : aRs} {X : aXs} {J : aK} {W : Nat → aK} (hW : isW (tbX3_init l K X) cuX3_init J W) (n : Nat) (ls st : List aV) (μ : aM) (g : Nat) : W (n + 1) 36 ls st μ g = (sLd 0 37 isR) (W n) ls st μ g := (hW n 36 ls st μ g).trans rfl
theorem wX3_init_37 {l : Launch} {K : aRs} {X : aXs} {J : aK} {W : Nat → aK} (hW : isW (tbX3_init l K X) cuX3_init J W) (n : Nat) (ls st : List aV) (μ : aM) (g : Nat) : W (n + 1) 37 ls st μ g = (sPush (aI 0) 38) (W n) ls st μ g := (hW n 37 ls st μ g).trans rfl
theorem wX3_init_38 {l : Launch} {K : aRs} {X : aXs} {J : aK} {W : Nat → aK} (hW : isW (tbX3_init l K X) cuX3_init J W) (n : Nat) (ls st : List aV) (μ : aM) (g : Nat) : W (n + 1) 38 ls st μ g = (sPutI 3 4 41) (W n) ls st μ g := (hW n 38 ls st μ g).trans rfl
theorem wX3_init_41 {l : Launch} {K : aRs} {X : aXs} {J : aK} {W : Nat → aK} (hW : isW (tbX3_init l K X) cuX3_init J W) (n : Nat) (ls st : List aV) (μ : aM) (g : Nat) : W (n + 1) 41 ls st μ g = (sLd 0 42 isR) (W n) ls st μ g := (hW n 41 ls st μ g).trans rfl
theorem wX3_init_42 {l : Launch} {K : aRs} {X : aXs} {J : aK} {W : Nat → aK} (hW : isW (tbX3_init l K X) cuX3_init J W) (n : Nat) (ls st : List aV) (μ : aM) (g : Nat) : W (n + 1) 42 ls st μ g = (sPush (aI 0) 43) (W n) ls st μ g := (hW n 42 ls st μ g).trans rfl
theorem wX3_init_43 {l : Launch} {K : aRs} {X : aXs} {J : aK} {W : Nat → aK} (hW : isW (tbX3_init l K X) cuX3_init J W) (n : Nat) (ls st : List aV) (μ : aM) (g : Nat) : W (n + 1) 43 ls st μ g = (sPutI 3 5 46) (W n) ls st μ g := (hW n 43 ls st μ g).trans rfl
theorem wX3_init_46 {l : Launch} {K : aRs} {X : aXs} {J : aK} {W : Nat → aK} (hW : isW (tbX3_init l K X) cuX3_init J W) (n : Nat) (ls st : List aV) (μ : aM) (g : Nat) : W (n + 1) 46 ls st μ g = (sLd 0 47 isR) (W n) ls st μ g := (hW n 46 ls st μ g).trans rfl
theorem wX3_init_47 {l : Launch} {K : aRs} {X : aXs} {J : aK} {W : Nat → aK} (hW : isW (tbX3_init l K X) cuX3_init J W) (n : Nat) (ls st : List aV) (μ : aM) (g : Nat) : W (n + 1) 47 ls st μ g = (sPush (aL 0) 48) (W n) ls st μ g := (hW n 47 ls st μ g).trans rfl
theorem wX3_init_48 {l : Launch} {K : aRs} {X : aXs} {J : aK} {W : Nat → aK} (hW : isW (tbX3_init l K X) cuX3_init J W) (n : Nat) (ls st : List aV) (μ : aM) (g : Nat) : W (n + 1) 48 ls st μ g = (sPutL 3 6 51) (W n) ls st μ g := (hW n 48 ls st μ g).trans rfl
theorem wX3_init_51 {l : Launch} {K : aRs} {X : aXs} {J : aK} {W : Nat → aK} (hW : isW (tbX3_init l K X) cuX3_init J W) (n : Nat) (ls st : List aV) (μ : aM) (g : Nat) : W (n + 1) 51 ls st μ g = (sLd 0 52 isR) (W n) ls st μ g := (hW n 51 ls st μ g).trans rfl
theorem wX3_init_52 {l : Launch} {K : aRs} {X : aXs} {J : aK} {W : Nat → aK} (hW : isW (tbX3_init l K X) cuX3_init J W) (n : Nat) (ls st : List aV) (μ : aM) (g : Nat) : W (n + 1) 52 ls st μ g = (sPush (aL 0) 53) (W n) ls st μ g := (hW n 52 ls st μ g).trans rfl
theorem wX3_init_53 {l : Launch} {K : aRs} {X : aXs} {J : aK} {W : Nat → aK} (hW : isW (tbX3_init l K X) cuX3_init J W) (n : Nat) (ls st : List aV) (μ : aM) (g : Nat) : W (n + 1) 53 ls st μ g = (sPutL 3 7 56) (W n) ls st μ g := (hW n 53 ls st μ g).trans rfl
theorem wX3_init_56 {l : Launch} {K : aRs} {X : aXs} {J : aK} {W : Nat → aK} (hW : isW (tbX3_init l K X) cuX3_init J W) (n : Nat) (ls st : List aV) (μ : aM) (g : Nat) : W (n + 1) 56 ls st μ g = (sRetV 4 K) (W n) ls st μ g := (hW n 56 ls st μ g).trans rfl
theorem dX3_add_0 : decode cX3_add 0 = .ok (.aload_n 0, 1) := by decide +kernel
theorem dX3_add_1 : decode cX3_add 1 = .ok (.getfield 24, 3) := by decide +kernel
theorem dX3_add_4 : decode cX3_add 4 = .ok (.bipush 50, 2) := by decide +kernel
theorem dX3_add_6 : decode cX3_add 6 = .ok (.invokestatic 38, 3) := by decide +kernel
theorem dX3_add_9 : decode cX3_add 9 = .ok (.istore 5, 2) := by decide +kernel
theorem dX3_add_11 : decode cX3_add 11 = .ok (.aload_n 0, 1) := by decide +kernel
theorem dX3_add_12 : decode cX3_add 12 = .ok (.getfield 9, 3) := by decide +kernel
theorem dX3_add_15 : decode cX3_add 15 = .ok (.iload 5, 2) := by decide +kernel
theorem dX3_add_17 : decode cX3_add 17 = .ok (.iload_n 1, 1) := by decide +kernel
theorem dX3_add_18 : decode cX3_add 18 = .ok (.iastore, 1) := by decide +kernel
theorem dX3_add_19 : decode cX3_add 19 = .ok (.aload_n 0, 1) := by decide +kernel
theorem dX3_add_20 : decode cX3_add 20 = .ok (.getfield 15, 3) := by decide +kernel
theorem dX3_add_23 : decode cX3_add 23 = .ok (.iload 5, 2) := by decide +kernel
theorem dX3_add_25 : decode cX3_add 25 = .ok (.iload_n 2, 1) := by decide +kernel
theorem dX3_add_26 : decode cX3_add 26 = .ok (.iastore, 1) := by decide +kernel
theorem dX3_add_27 : decode cX3_add 27 = .ok (.aload_n 0, 1) := by decide +kernel
theorem dX3_add_28 : decode cX3_add 28 = .ok (.getfield 18, 3) := by decide +kernel
theorem dX3_add_31 : decode cX3_add 31 = .ok (.iload 5, 2) := by decide +kernel
theorem dX3_add_33 : decode cX3_add 33 = .ok (.iload_n 3, 1) := by decide +kernel
theorem dX3_add_34 : decode cX3_add 34 = .ok (.iastore, 1) := by decide +kernel
theorem dX3_add_35 : decode cX3_add 35 = .ok (.aload_n 0, 1) := by decide +kernel
theorem dX3_add_36 : decode cX3_add 36 = .ok (.getfield 21, 3) := by decide +kernel
theorem dX3_add_39 : decode cX3_add 39 = .ok (.iload 5, 2) := by decide +kernel
theorem dX3_add_41 : decode cX3_add 41 = .ok (.iload 4, 2) := by decide +kernel
theorem dX3_add_43 : decode cX3_add 43 = .ok (.iastore, 1) := by decide +kernel
theorem dX3_add_44 : decode cX3_add 44 = .ok (.aload_n 0, 1) := by decide +kernel
theorem dX3_add_45 : decode cX3_add 45 = .ok (.dup, 1) := by decide +kernel
theorem dX3_add_46 : decode cX3_add 46 = .ok (.getfield 24, 3) := by decide +kernel
theorem dX3_add_49 : decode cX3_add 49 = .ok (.iconst 1, 1) := by decide +kernel
theorem dX3_add_50 : decode cX3_add 50 = .ok (.iadd, 1) := by decide +kernel
theorem dX3_add_51 : decode cX3_add 51 = .ok (.putfield 24, 3) := by decide +kernel
theorem dX3_add_54 : decode cX3_add 54 = .ok (.aload_n 0, 1) := by decide +kernel
theorem dX3_add_55 : decode cX3_add 55 = .ok (.iload_n 1, 1) := by decide +kernel
theorem dX3_add_56 : decode cX3_add 56 = .ok (.putfield 28, 3) := by decide +kernel
theorem dX3_add_59 : decode cX3_add 59 = .ok (.aload_n 0, 1) := by decide +kernel
theorem dX3_add_60 : decode cX3_add 60 = .ok (.dup, 1) := by decide +kernel
theorem dX3_add_61 : decode cX3_add 61 = .ok (.getfield 31, 3) := by decide +kernel
theorem dX3_add_64 : decode cX3_add 64 = .ok (.iload_n 2, 1) := by decide +kernel
theorem dX3_add_65 : decode cX3_add 65 = .ok (.i2l, 1) := by decide +kernel
theorem dX3_add_66 : decode cX3_add 66 = .ok (.ladd, 1) := by decide +kernel
theorem dX3_add_67 : decode cX3_add 67 = .ok (.putfield 31, 3) := by decide +kernel
theorem dX3_add_70 : decode cX3_add 70 = .ok (.aload_n 0, 1) := by decide +kernel
theorem dX3_add_71 : decode cX3_add 71 = .ok (.dup, 1) := by decide +kernel
theorem dX3_add_72 : decode cX3_add 72 = .ok (.getfield 35, 3) := by decide +kernel
theorem dX3_add_75 : decode cX3_add 75 = .ok (.iload_n 2, 1) := by decide +kernel
theorem dX3_add_76 : decode cX3_add 76 = .ok (.i2l, 1) := by decide +kernel
theorem dX3_add_77 : decode cX3_add 77 = .ok (.iload_n 1, 1) := by decide +kernel
theorem dX3_add_78 : decode cX3_add 78 = .ok (.i2l, 1) := by decide +kernel
theorem dX3_add_79 : decode cX3_add 79 = .ok (.lmul, 1) := by decide +kernel
theorem dX3_add_80 : decode cX3_add 80 = .ok (.ladd, 1) := by decide +kernel
theorem dX3_add_81 : decode cX3_add 81 = .ok (.putfield 35, 3) := by decide +kernel
theorem dX3_add_84 : decode cX3_add 84 = .ok (.return_, 1) := by decide +kernel
def tbX3_add (l : Launch) (K : aRs) (X : aXs) : aTb := [
  (0, sLd 0 1 isR),
  (1, sGetI 3 4 4),
  (4, sPush (aI 50) 6),
  (6, sCallS 2 (fun as μ K => Ct l mdJ9_floorMod_7cf53 as μ K X) 9 0 0),
  (9, sSt 5 11 isI),
  (11, sLd 0 12 isR),
  (12, sGetR 3 0 15),
  (15, sLd 5 17 isI),
  (17, sLd 1 18 isI),
  (18, sAstI 19),
  (19, sLd 0 20 isR),
  (20, sGetR 3 1 23),
  (23, sLd 5 25 isI),
  (25, sLd 2 26 isI),
  (26, sAstI 27),
  (27, sLd 0 28 isR),
  (28, sGetR 3 2 31),
  (31, sLd 5 33 isI),
  (33, sLd 3 34 isI),
  (34, sAstI 35),
  (35, sLd 0 36 isR),
  (36, sGetR 3 3 39),
  (39, sLd 5 41 isI),
  (41, sLd 4 43 isI),
  (43, sAstI 44),
  (44, sLd 0 45 isR),
  (45, sDup 46),
  (46, sGetI 3 4 49),
  (49, sPush (aI 1) 50),
  (50, sBin fAdd 51),
  (51, sPutI 3 4 54),
  (54, sLd 0 55 isR),
  (55, sLd 1 56 isI),
  (56, sPutI 3 5 59),
  (59, sLd 0 60 isR),
  (60, sDup 61),
  (61, sGetL 3 6 64),
  (64, sLd 2 65 isI),
  (65, sI2l 66),
  (66, sLbin fLadd 67),
  (67, sPutL 3 6 70),
  (70, sLd 0 71 isR),
  (71, sDup 72),
  (72, sGetL 3 7 75),
  (75, sLd 2 76 isI),
  (76, sI2l 77),
  (77, sLd 1 78 isI),
  (78, sI2l 79),
  (79, sLbin fLmul 80),
  (80, sLbin fLadd 81),
  (81, sPutL 3 7 84),
  (84, sRetV 0 K)]
theorem snX3_add (l : Launch) (K : aRs) (X : aXs) (n0 : Nat) : ∀ q ∈ tbX3_add l K X, aSo l mdX3_add K X n0 q.1 q.2 :=
  tc (fun p e s m args below meth c cA D A ad0 h => ok_aload_n h.1 0 rfl dX3_add_0) <|
  tc (fun p e s m args below meth c cA D A ad0 h => ok_getI h.1 cxX3 (by decide) rfl fkRX3_24 (fun _ _ _ => rfl) dX3_add_1) <|
  tc (fun p e s m args below meth c cA D A ad0 h => ok_bipush h.1 ⟨by decide, by decide⟩ (by decide) dX3_add_4) <|
  tc (fun p e s m args below meth c cA D A ad0 h => ok_callS h.1 h.2.1 ⟨Nat.le_refl _, Nat.le_refl _⟩ mdJ9_floorMod_7cf53 siJ9_floorMod_7cf53 mkRX3_38 stJ9_floorMod_7cf53 ⟨by decide, by decide⟩ (aAx_out h.1 h.2.2.1 _) dX3_add_6) <|
  tc (fun p e s m args below meth c cA D A ad0 h => ok_istore h.1 (by decide) dX3_add_9) <|
  tc (fun p e s m args below meth c cA D A ad0 h => ok_aload_n h.1 0 rfl dX3_add_11) <|
  tc (fun p e s m args below meth c cA D A ad0 h => ok_getR h.1 cxX3 (by decide) rfl fkRX3_9 (fun _ _ _ => rfl) dX3_add_12) <|
  tc (fun p e s m args below meth c cA D A ad0 h => ok_iload h.1 dX3_add_15) <|
  tc (fun p e s m args below meth c cA D A ad0 h => ok_iload_n h.1 1 rfl dX3_add_17) <|
  tc (fun p e s m args below meth c cA D A ad0 h => ok_iast h.1 dX3_add_18) <|
  tc (fun p e s m args below meth c cA D A ad0 h => ok_aload_n h.1 0 rfl dX3_add_19) <|
  tc (fun p e s m args below meth c cA D A ad0 h => ok_getR h.1 cxX3 (by decide) rfl fkRX3_15 (fun _ _ _ => rfl) dX3_add_20) <|
  tc (fun p e s m args below meth c cA D A ad0 h => ok_iload h.1 dX3_add_23) <|
  tc (fun p e s m args below meth c cA D A ad0 h => ok_iload_n h.1 2 rfl dX3_add_25) <|
  tc (fun p e s m args below meth c cA D A ad0 h => ok_iast h.1 dX3_add_26) <|
  tc (fun p e s m args below meth c cA D A ad0 h => ok_aload_n h.1 0 rfl dX3_add_27) <|
  tc (fun p e s m args below meth c cA D A ad0 h => ok_getR h.1 cxX3 (by decide) rfl fkRX3_18 (fun _ _ _ => rfl) dX3_add_28) <|
  tc (fun p e s m args below meth c cA D A ad0 h => ok_iload h.1 dX3_add_31) <|
  tc (fun p e s m args below meth c cA D A ad0 h => ok_iload_n h.1 3 rfl dX3_add_33) <|
  tc (fun p e s m args below meth c cA D A ad0 h => ok_iast h.1 dX3_add_34) <|
  tc (fun p e s m args below meth c cA D A ad0 h => ok_aload_n h.1 0 rfl dX3_add_35) <|
  tc (fun p e s m args below meth c cA D A ad0 h => ok_getR h.1 cxX3 (by decide) rfl fkRX3_21 (fun _ _ _ => rfl) dX3_add_36) <|
  tc (fun p e s m args below meth c cA D A ad0 h => ok_iload h.1 dX3_add_39) <|
  tc (fun p e s m args below meth c cA D A ad0 h => ok_iload h.1 dX3_add_41) <|
  tc (fun p e s m args below meth c cA D A ad0 h => ok_iast h.1 dX3_add_43) <|
  tc (fun p e s m args below meth c cA D A ad0 h => ok_aload_n h.1 0 rfl dX3_add_44) <|
  tc (fun p e s m args below meth c cA D A ad0 h => ok_dup h.1 dX3_add_45) <|
  tc (fun p e s m args below meth c cA D A ad0 h => ok_getI h.1 cxX3 (by decide) rfl fkRX3_24 (fun _ _ _ => rfl) dX3_add_46) <|
  tc (fun p e s m args below meth c cA D A ad0 h => ok_iconst h.1 ⟨by decide, by decide⟩ dX3_add_49) <|
  tc (fun p e s m args below meth c cA D A ad0 h => ok_iadd h.1 dX3_add_50) <|
  tc (fun p e s m args below meth c cA D A ad0 h => ok_putI h.1 cxX3 (by decide) rfl fkRX3_24 (Or.inl rfl) (fun _ _ _ => rfl) (Or.inl rfl) dX3_add_51) <|
  tc (fun p e s m args below meth c cA D A ad0 h => ok_aload_n h.1 0 rfl dX3_add_54) <|
  tc (fun p e s m args below meth c cA D A ad0 h => ok_iload_n h.1 1 rfl dX3_add_55) <|
  tc (fun p e s m args below meth c cA D A ad0 h => ok_putI h.1 cxX3 (by decide) rfl fkRX3_28 (Or.inl rfl) (fun _ _ _ => rfl) (Or.inl rfl) dX3_add_56) <|
  tc (fun p e s m args below meth c cA D A ad0 h => ok_aload_n h.1 0 rfl dX3_add_59) <|
  tc (fun p e s m args below meth c cA D A ad0 h => ok_dup h.1 dX3_add_60) <|
  tc (fun p e s m args below meth c cA D A ad0 h => ok_getL h.1 cxX3 (by decide) rfl fkRX3_31 (fun _ _ _ => rfl) dX3_add_61) <|
  tc (fun p e s m args below meth c cA D A ad0 h => ok_iload_n h.1 2 rfl dX3_add_64) <|
  tc (fun p e s m args below meth c cA D A ad0 h => ok_i2l h.1 dX3_add_65) <|
  tc (fun p e s m args below meth c cA D A ad0 h => ok_ladd h.1 dX3_add_66) <|
  tc (fun p e s m args below meth c cA D A ad0 h => ok_putL h.1 cxX3 (by decide) rfl fkRX3_31 (Or.inl rfl) (fun _ _ _ => rfl) rfl dX3_add_67) <|
  tc (fun p e s m args below meth c cA D A ad0 h => ok_aload_n h.1 0 rfl dX3_add_70) <|
  tc (fun p e s m args below meth c cA D A ad0 h => ok_dup h.1 dX3_add_71) <|
  tc (fun p e s m args below meth c cA D A ad0 h => ok_getL h.1 cxX3 (by decide) rfl fkRX3_35 (fun _ _ _ => rfl) dX3_add_72) <|
  tc (fun p e s m args below meth c cA D A ad0 h => ok_iload_n h.1 2 rfl dX3_add_75) <|
  tc (fun p e s m args below meth c cA D A ad0 h => ok_i2l h.1 dX3_add_76) <|
  tc (fun p e s m args below meth c cA D A ad0 h => ok_iload_n h.1 1 rfl dX3_add_77) <|
  tc (fun p e s m args below meth c cA D A ad0 h => ok_i2l h.1 dX3_add_78) <|
  tc (fun p e s m args below meth c cA D A ad0 h => ok_lmul h.1 dX3_add_79) <|
  tc (fun p e s m args below meth c cA D A ad0 h => ok_ladd h.1 dX3_add_80) <|
  tc (fun p e s m args below meth c cA D A ad0 h => ok_putL h.1 cxX3 (by decide) rfl fkRX3_35 (Or.inl rfl) (fun _ _ _ => rfl) rfl dX3_add_81) <|
  tc (fun p e s m args below meth c cA D A ad0 h => ok_return h.1 h.2.2.2.1 dX3_add_84) <|
  tn
abbrev cuX3_add : List Nat := [9]
theorem tX3_add_0 (l : Launch) (K : aRs) (X : aXs) : tb (tbX3_add l K X) 0 = sLd 0 1 isR := (rfl)
theorem wX3_add_0 {l : Launch} {K : aRs} {X : aXs} {J : aK} {W : Nat → aK} (hW : isW (tbX3_add l K X) cuX3_add J W) (n : Nat) (ls st : List aV) (μ : aM) (g : Nat) : W (n + 1) 0 ls st μ g = (sLd 0 1 isR) (W n) ls st μ g := (hW n 0 ls st μ g).trans rfl
theorem wX3_add_1 {l : Launch} {K : aRs} {X : aXs} {J : aK} {W : Nat → aK} (hW : isW (tbX3_add l K X) cuX3_add J W) (n : Nat) (ls st : List aV) (μ : aM) (g : Nat) : W (n + 1) 1 ls st μ g = (sGetI 3 4 4) (W n) ls st μ g := (hW n 1 ls st μ g).trans rfl
theorem wX3_add_4 {l : Launch} {K : aRs} {X : aXs} {J : aK} {W : Nat → aK} (hW : isW (tbX3_add l K X) cuX3_add J W) (n : Nat) (ls st : List aV) (μ : aM) (g : Nat) : W (n + 1) 4 ls st μ g = (sPush (aI 50) 6) (W n) ls st μ g := (hW n 4 ls st μ g).trans rfl
theorem wX3_add_6 {l : Launch} {K : aRs} {X : aXs} {J : aK} {W : Nat → aK} (hW : isW (tbX3_add l K X) cuX3_add J W) (n : Nat) (ls st : List aV) (μ : aM) (g : Nat) : W (n + 1) 6 ls st μ g = (sCallS 2 (fun as μ K => Ct l mdJ9_floorMod_7cf53 as μ K X) 9 0 0) (W n) ls st μ g := (hW n 6 ls st μ g).trans rfl
theorem tX3_add_9 (l : Launch) (K : aRs) (X : aXs) : tb (tbX3_add l K X) 9 = sSt 5 11 isI := (rfl)
theorem wX3_add_9 {l : Launch} {K : aRs} {X : aXs} {J : aK} {W : Nat → aK} (hW : isW (tbX3_add l K X) cuX3_add J W) (n : Nat) (ls st : List aV) (μ : aM) (g : Nat) : W (n + 1) 9 ls st μ g = J 9 ls st μ g := (hW n 9 ls st μ g).trans rfl
theorem wX3_add_11 {l : Launch} {K : aRs} {X : aXs} {J : aK} {W : Nat → aK} (hW : isW (tbX3_add l K X) cuX3_add J W) (n : Nat) (ls st : List aV) (μ : aM) (g : Nat) : W (n + 1) 11 ls st μ g = (sLd 0 12 isR) (W n) ls st μ g := (hW n 11 ls st μ g).trans rfl
theorem wX3_add_12 {l : Launch} {K : aRs} {X : aXs} {J : aK} {W : Nat → aK} (hW : isW (tbX3_add l K X) cuX3_add J W) (n : Nat) (ls st : List aV) (μ : aM) (g : Nat) : W (n + 1) 12 ls st μ g = (sGetR 3 0 15) (W n) ls st μ g := (hW n 12 ls st μ g).trans rfl
theorem wX3_add_15 {l : Launch} {K : aRs} {X : aXs} {J : aK} {W : Nat → aK} (hW : isW (tbX3_add l K X) cuX3_add J W) (n : Nat) (ls st : List aV) (μ : aM) (g : Nat) : W (n + 1) 15 ls st μ g = (sLd 5 17 isI) (W n) ls st μ g := (hW n 15 ls st μ g).trans rfl
theorem wX3_add_17 {l : Launch} {K : aRs} {X : aXs} {J : aK} {W : Nat → aK} (hW : isW (tbX3_add l K X) cuX3_add J W) (n : Nat) (ls st : List aV) (μ : aM) (g : Nat) : W (n + 1) 17 ls st μ g = (sLd 1 18 isI) (W n) ls st μ g := (hW n 17 ls st μ g).trans rfl
theorem wX3_add_18 {l : Launch} {K : aRs} {X : aXs} {J : aK} {W : Nat → aK} (hW : isW (tbX3_add l K X) cuX3_add J W) (n : Nat) (ls st : List aV) (μ : aM) (g : Nat) : W (n + 1) 18 ls st μ g = (sAstI 19) (W n) ls st μ g := (hW n 18 ls st μ g).trans rfl
theorem wX3_add_19 {l : Launch} {K : aRs} {X : aXs} {J : aK} {W : Nat → aK} (hW : isW (tbX3_add l K X) cuX3_add J W) (n : Nat) (ls st : List aV) (μ : aM) (g : Nat) : W (n + 1) 19 ls st μ g = (sLd 0 20 isR) (W n) ls st μ g := (hW n 19 ls st μ g).trans rfl
theorem wX3_add_20 {l : Launch} {K : aRs} {X : aXs} {J : aK} {W : Nat → aK} (hW : isW (tbX3_add l K X) cuX3_add J W) (n : Nat) (ls st : List aV) (μ : aM) (g : Nat) : W (n + 1) 20 ls st μ g = (sGetR 3 1 23) (W n) ls st μ g := (hW n 20 ls st μ g).trans rfl
theorem wX3_add_23 {l : Launch} {K : aRs} {X : aXs} {J : aK} {W : Nat → aK} (hW : isW (tbX3_add l K X) cuX3_add J W) (n : Nat) (ls st : List aV) (μ : aM) (g : Nat) : W (n + 1) 23 ls st μ g = (sLd 5 25 isI) (W n) ls st μ g := (hW n 23 ls st μ g).trans rfl
theorem wX3_add_25 {l : Launch} {K : aRs} {X : aXs} {J : aK} {W : Nat → aK} (hW : isW (tbX3_add l K X) cuX3_add J W) (n : Nat) (ls st : List aV) (μ : aM) (g : Nat) : W (n + 1) 25 ls st μ g = (sLd 2 26 isI) (W n) ls st μ g := (hW n 25 ls st μ g).trans rfl
theorem wX3_add_26 {l : Launch} {K : aRs} {X : aXs} {J : aK} {W : Nat → aK} (hW : isW (tbX3_add l K X) cuX3_add J W) (n : Nat) (ls st : List aV) (μ : aM) (g : Nat) : W (n + 1) 26 ls st μ g = (sAstI 27) (W n) ls st μ g := (hW n 26 ls st μ g).trans rfl
theorem wX3_add_27 {l : Launch} {K : aRs} {X : aXs} {J : aK} {W : Nat → aK} (hW : isW (tbX3_add l K X) cuX3_add J W) (n : Nat) (ls st : List aV) (μ : aM) (g : Nat) : W (n + 1) 27 ls st μ g = (sLd 0 28 isR) (W n) ls st μ g := (hW n 27 ls st μ g).trans rfl
theorem wX3_add_28 {l : Launch} {K : aRs} {X : aXs} {J : aK} {W : Nat → aK} (hW : isW (tbX3_add l K X) cuX3_add J W) (n : Nat) (ls st : List aV) (μ : aM) (g : Nat) : W (n + 1) 28 ls st μ g = (sGetR 3 2 31) (W n) ls st μ g := (hW n 28 ls st μ g).trans rfl
theorem wX3_add_31 {l : Launch} {K : aRs} {X : aXs} {J : aK} {W : Nat → aK} (hW : isW (tbX3_add l K X) cuX3_add J W) (n : Nat) (ls st : List aV) (μ : aM) (g : Nat) : W (n + 1) 31 ls st μ g = (sLd 5 33 isI) (W n) ls st μ g := (hW n 31 ls st μ g).trans rfl
theorem wX3_add_33 {l : Launch} {K : aRs} {X : aXs} {J : aK} {W : Nat → aK} (hW : isW (tbX3_add l K X) cuX3_add J W) (n : Nat) (ls st : List aV) (μ : aM) (g : Nat) : W (n + 1) 33 ls st μ g = (sLd 3 34 isI) (W n) ls st μ g := (hW n 33 ls st μ g).trans rfl
theorem wX3_add_34 {l : Launch} {K : aRs} {X : aXs} {J : aK} {W : Nat → aK} (hW : isW (tbX3_add l K X) cuX3_add J W) (n : Nat) (ls st : List aV) (μ : aM) (g : Nat) : W (n + 1) 34 ls st μ g = (sAstI 35) (W n) ls st μ g := (hW n 34 ls st μ g).trans rfl
theorem wX3_add_35 {l : Launch} {K : aRs} {X : aXs} {J : aK} {W : Nat → aK} (hW : isW (tbX3_add l K X) cuX3_add J W) (n : Nat) (ls st : List aV) (μ : aM) (g : Nat) : W (n + 1) 35 ls st μ g = (sLd 0 36 isR) (W n) ls st μ g := (hW n 35 ls st μ g).trans rfl
theorem wX3_add_36 {l : Launch} {K : aRs} {X : aXs} {J : aK} {W : Nat → aK} (hW : isW (tbX3_add l K X) cuX3_add J W) (n : Nat) (ls st : List aV) (μ : aM) (g : Nat) : W (n + 1) 36 ls st μ g = (sGetR 3 3 39) (W n) ls st μ g := (hW n 36 ls st μ g).trans rfl
theorem wX3_add_39 {l : Launch} {K : aRs} {X : aXs} {J : aK} {W : Nat → aK} (hW : isW (tbX3_add l K X) cuX3_add J W) (n : Nat) (ls st : List aV) (μ : aM) (g : Nat) : W (n + 1) 39 ls st μ g = (sLd 5 41 isI) (W n) ls st μ g := (hW n 39 ls st μ g).trans rfl
theorem wX3_add_41 {l : Launch} {K : aRs} {X : aXs} {J : aK} {W : Nat → aK} (hW : isW (tbX3_add l K X) cuX3_add J W) (n : Nat) (ls st : List aV) (μ : aM) (g : Nat) : W (n + 1) 41 ls st μ g = (sLd 4 43 isI) (W n) ls st μ g := (hW n 41 ls st μ g).trans rfl
theorem wX3_add_43 {l : Launch} {K : aRs} {X : aXs} {J : aK} {W : Nat → aK} (hW : isW (tbX3_add l K X) cuX3_add J W) (n : Nat) (ls st : List aV) (μ : aM) (g : Nat) : W (n + 1) 43 ls st μ g = (sAstI 44) (W n) ls st μ g := (hW n 43 ls st μ g).trans rfl
theorem wX3_add_44 {l : Launch} {K : aRs} {X : aXs} {J : aK} {W : Nat → aK} (hW : isW (tbX3_add l K X) cuX3_add J W) (n : Nat) (ls st : List aV) (μ : aM) (g : Nat) : W (n + 1) 44 ls st μ g = (sLd 0 45 isR) (W n) ls st μ g := (hW n 44 ls st μ g).trans rfl
theorem wX3_add_45 {l : Launch} {K : aRs} {X : aXs} {J : aK} {W : Nat → aK} (hW : isW (tbX3_add l K X) cuX3_add J W) (n : Nat) (ls st : List aV) (μ : aM) (g : Nat) : W (n + 1) 45 ls st μ g = (sDup 46) (W n) ls st μ g := (hW n 45 ls st μ g).trans rfl
theorem wX3_add_46 {l : Launch} {K : aRs} {X : aXs} {J : aK} {W : Nat → aK} (hW : isW (tbX3_add l K X) cuX3_add J W) (n : Nat) (ls st : List aV) (μ : aM) (g : Nat) : W (n + 1) 46 ls st μ g = (sGetI 3 4 49) (W n) ls st μ g := (hW n 46 ls st μ g).trans rfl
theorem wX3_add_49 {l : Launch} {K : aRs} {X : aXs} {J : aK} {W : Nat → aK} (hW : isW (tbX3_add l K X) cuX3_add J W) (n : Nat) (ls st : List aV) (μ : aM) (g : Nat) : W (n + 1) 49 ls st μ g = (sPush (aI 1) 50) (W n) ls st μ g := (hW n 49 ls st μ g).trans rfl
theorem wX3_add_50 {l : Launch} {K : aRs} {X : aXs} {J : aK} {W : Nat → aK} (hW : isW (tbX3_add l K X) cuX3_add J W) (n : Nat) (ls st : List aV) (μ : aM) (g : Nat) : W (n + 1) 50 ls st μ g = (sBin fAdd 51) (W n) ls st μ g := (hW n 50 ls st μ g).trans rfl
theorem wX3_add_51 {l : Launch} {K : aRs} {X : aXs} {J : aK} {W : Nat → aK} (hW : isW (tbX3_add l K X) cuX3_add J W) (n : Nat) (ls st : List aV) (μ : aM) (g : Nat) : W (n + 1) 51 ls st μ g = (sPutI 3 4 54) (W n) ls st μ g := (hW n 51 ls st μ g).trans rfl
theorem wX3_add_54 {l : Launch} {K : aRs} {X : aXs} {J : aK} {W : Nat → aK} (hW : isW (tbX3_add l K X) cuX3_add J W) (n : Nat) (ls st : List aV) (μ : aM) (g : Nat) : W (n + 1) 54 ls st μ g = (sLd 0 55 isR) (W n) ls st μ g := (hW n 54 ls st μ g).trans rfl
theorem wX3_add_55 {l : Launch} {K : aRs} {X : aXs} {J : aK} {W : Nat → aK} (hW : isW (tbX3_add l K X) cuX3_add J W) (n : Nat) (ls st : List aV) (μ : aM) (g : Nat) : W (n + 1) 55 ls st μ g = (sLd 1 56 isI) (W n) ls st μ g := (hW n 55 ls st μ g).trans rfl
theorem wX3_add_56 {l : Launch} {K : aRs} {X : aXs} {J : aK} {W : Nat → aK} (hW : isW (tbX3_add l K X) cuX3_add J W) (n : Nat) (ls st : List aV) (μ : aM) (g : Nat) : W (n + 1) 56 ls st μ g = (sPutI 3 5 59) (W n) ls st μ g := (hW n 56 ls st μ g).trans rfl
theorem wX3_add_59 {l : Launch} {K : aRs} {X : aXs} {J : aK} {W : Nat → aK} (hW : isW (tbX3_add l K X) cuX3_add J W) (n : Nat) (ls st : List aV) (μ : aM) (g : Nat) : W (n + 1) 59 ls st μ g = (sLd 0 60 isR) (W n) ls st μ g := (hW n 59 ls st μ g).trans rfl
theorem wX3_add_60 {l : Launch} {K : aRs} {X : aXs} {J : aK} {W : Nat → aK} (hW : isW (tbX3_add l K X) cuX3_add J W) (n : Nat) (ls st : List aV) (μ : aM) (g : Nat) : W (n + 1) 60 ls st μ g = (sDup 61) (W n) ls st μ g := (hW n 60 ls st μ g).trans rfl
theorem wX3_add_61 {l : Launch} {K : aRs} {X : aXs} {J : aK} {W : Nat → aK} (hW : isW (tbX3_add l K X) cuX3_add J W) (n : Nat) (ls st : List aV) (μ : aM) (g : Nat) : W (n + 1) 61 ls st μ g = (sGetL 3 6 64) (W n) ls st μ g := (hW n 61 ls st μ g).trans rfl
theorem wX3_add_64 {l : Launch} {K : aRs} {X : aXs} {J : aK} {W : Nat → aK} (hW : isW (tbX3_add l K X) cuX3_add J W) (n : Nat) (ls st : List aV) (μ : aM) (g : Nat) : W (n + 1) 64 ls st μ g = (sLd 2 65 isI) (W n) ls st μ g := (hW n 64 ls st μ g).trans rfl
theorem wX3_add_65 {l : Launch} {K : aRs} {X : aXs} {J : aK} {W : Nat → aK} (hW : isW (tbX3_add l K X) cuX3_add J W) (n : Nat) (ls st : List aV) (μ : aM) (g : Nat) : W (n + 1) 65 ls st μ g = (sI2l 66) (W n) ls st μ g := (hW n 65 ls st μ g).trans rfl
theorem wX3_add_66 {l : Launch} {K : aRs} {X : aXs} {J : aK} {W : Nat → aK} (hW : isW (tbX3_add l K X) cuX3_add J W) (n : Nat) (ls st : List aV) (μ : aM) (g : Nat) : W (n + 1) 66 ls st μ g = (sLbin fLadd 67) (W n) ls st μ g := (hW n 66 ls st μ g).trans rfl
theorem wX3_add_67 {l : Launch} {K : aRs} {X : aXs} {J : aK} {W : Nat → aK} (hW : isW (tbX3_add l K X) cuX3_add J W) (n : Nat) (ls st : List aV) (μ : aM) (g : Nat) : W (n + 1) 67 ls st μ g = (sPutL 3 6 70) (W n) ls st μ g := (hW n 67 ls st μ g).trans rfl
theorem wX3_add_70 {l : Launch} {K : aRs} {X : aXs} {J : aK} {W : Nat → aK} (hW : isW (tbX3_add l K X) cuX3_add J W) (n : Nat) (ls st : List aV) (μ : aM) (g : Nat) : W (n + 1) 70 ls st μ g = (sLd 0 71 isR) (W n) ls st μ g := (hW n 70 ls st μ g).trans rfl
theorem wX3_add_71 {l : Launch} {K : aRs} {X : aXs} {J : aK} {W : Nat → aK} (hW : isW (tbX3_add l K X) cuX3_add J W) (n : Nat) (ls st : List aV) (μ : aM) (g : Nat) : W (n + 1) 71 ls st μ g = (sDup 72) (W n) ls st μ g := (hW n 71 ls st μ g).trans rfl
theorem wX3_add_72 {l : Launch} {K : aRs} {X : aXs} {J : aK} {W : Nat → aK} (hW : isW (tbX3_add l K X) cuX3_add J W) (n : Nat) (ls st : List aV) (μ : aM) (g : Nat) : W (n + 1) 72 ls st μ g = (sGetL 3 7 75) (W n) ls st μ g := (hW n 72 ls st μ g).trans rfl
theorem wX3_add_75 {l : Launch} {K : aRs} {X : aXs} {J : aK} {W : Nat → aK} (hW : isW (tbX3_add l K X) cuX3_add J W) (n : Nat) (ls st : List aV) (μ : aM) (g : Nat) : W (n + 1) 75 ls st μ g = (sLd 2 76 isI) (W n) ls st μ g := (hW n 75 ls st μ g).trans rfl
theorem wX3_add_76 {l : Launch} {K : aRs} {X : aXs} {J : aK} {W : Nat → aK} (hW : isW (tbX3_add l K X) cuX3_add J W) (n : Nat) (ls st : List aV) (μ : aM) (g : Nat) : W (n + 1) 76 ls st μ g = (sI2l 77) (W n) ls st μ g := (hW n 76 ls st μ g).trans rfl
theorem wX3_add_77 {l : Launch} {K : aRs} {X : aXs} {J : aK} {W : Nat → aK} (hW : isW (tbX3_add l K X) cuX3_add J W) (n : Nat) (ls st : List aV) (μ : aM) (g : Nat) : W (n + 1) 77 ls st μ g = (sLd 1 78 isI) (W n) ls st μ g := (hW n 77 ls st μ g).trans rfl
theorem wX3_add_78 {l : Launch} {K : aRs} {X : aXs} {J : aK} {W : Nat → aK} (hW : isW (tbX3_add l K X) cuX3_add J W) (n : Nat) (ls st : List aV) (μ : aM) (g : Nat) : W (n + 1) 78 ls st μ g = (sI2l 79) (W n) ls st μ g := (hW n 78 ls st μ g).trans rfl
theorem wX3_add_79 {l : Launch} {K : aRs} {X : aXs} {J : aK} {W : Nat → aK} (hW : isW (tbX3_add l K X) cuX3_add J W) (n : Nat) (ls st : List aV) (μ : aM) (g : Nat) : W (n + 1) 79 ls st μ g = (sLbin fLmul 80) (W n) ls st μ g := (hW n 79 ls st μ g).trans rfl
theorem wX3_add_80 {l : Launch} {K : aRs} {X : aXs} {J : aK} {W : Nat → aK} (hW : isW (tbX3_add l K X) cuX3_add J W) (n : Nat) (ls st : List aV) (μ : aM) (g : Nat) : W (n + 1) 80 ls st μ g = (sLbin fLadd 81) (W n) ls st μ g := (hW n 80 ls st μ g).trans rfl
theorem wX3_add_81 {l : Launch} {K : aRs} {X : aXs} {J : aK} {W : Nat → aK} (hW : isW (tbX3_add l K X) cuX3_add J W) (n : Nat) (ls st : List aV) (μ : aM) (g : Nat) : W (n + 1) 81 ls st μ g = (sPutL 3 7 84) (W n) ls st μ g := (hW n 81 ls st μ g).trans rfl
theorem wX3_add_84 {l : Launch} {K : aRs} {X : aXs} {J : aK} {W : Nat → aK} (hW : isW (tbX3_add l K X) cuX3_add J W) (n : Nat) (ls st : List aV) (μ : aM) (g : Nat) : W (n + 1) 84 ls st μ g = (sRetV 0 K) (W n) ls st μ g := (hW n 84 ls st μ g).trans rfl
theorem dX3_placeOf_0 : decode cX3_placeOf 0 = .ok (.iload_n 1, 1) := by decide +kernel
theorem dX3_placeOf_1 : decode cX3_placeOf 1 = .ok (.ifCond .lt 17, 3) := by decide +kernel
theorem dX3_placeOf_4 : decode cX3_placeOf 4 = .ok (.iload_n 1, 1) := by decide +kernel
theorem dX3_placeOf_5 : decode cX3_placeOf 5 = .ok (.aload_n 0, 1) := by decide +kernel
theorem dX3_placeOf_6 : decode cX3_placeOf 6 = .ok (.getfield 24, 3) := by decide +kernel
theorem dX3_placeOf_9 : decode cX3_placeOf 9 = .ok (.if_icmp .ge 9, 3) := by decide +kernel
theorem dX3_placeOf_12 : decode cX3_placeOf 12 = .ok (.iload_n 1, 1) := by decide +kernel
theorem dX3_placeOf_13 : decode cX3_placeOf 13 = .ok (.bipush 50, 2) := by decide +kernel
theorem dX3_placeOf_15 : decode cX3_placeOf 15 = .ok (.if_icmp .lt 5, 3) := by decide +kernel
theorem dX3_placeOf_18 : decode cX3_placeOf 18 = .ok (.iconst (-1), 1) := by decide +kernel
theorem dX3_placeOf_19 : decode cX3_placeOf 19 = .ok (.ireturn, 1) := by decide +kernel
theorem dX3_placeOf_20 : decode cX3_placeOf 20 = .ok (.aload_n 0, 1) := by decide +kernel
theorem dX3_placeOf_21 : decode cX3_placeOf 21 = .ok (.getfield 24, 3) := by decide +kernel
theorem dX3_placeOf_24 : decode cX3_placeOf 24 = .ok (.iconst 1, 1) := by decide +kernel
theorem dX3_placeOf_25 : decode cX3_placeOf 25 = .ok (.isub, 1) := by decide +kernel
theorem dX3_placeOf_26 : decode cX3_placeOf 26 = .ok (.iload_n 1, 1) := by decide +kernel
theorem dX3_placeOf_27 : decode cX3_placeOf 27 = .ok (.isub, 1) := by decide +kernel
theorem dX3_placeOf_28 : decode cX3_placeOf 28 = .ok (.bipush 50, 2) := by decide +kernel
theorem dX3_placeOf_30 : decode cX3_placeOf 30 = .ok (.invokestatic 38, 3) := by decide +kernel
theorem dX3_placeOf_33 : decode cX3_placeOf 33 = .ok (.ireturn, 1) := by decide +kernel
def tbX3_placeOf (l : Launch) (K : aRs) (X : aXs) : aTb := [
  (0, sLd 1 1 isI),
  (1, sIf pLt 18 4),
  (4, sLd 1 5 isI),
  (5, sLd 0 6 isR),
  (6, sGetI 3 4 9),
  (9, sIc qGe 18 12),
  (12, sLd 1 13 isI),
  (13, sPush (aI 50) 15),
  (15, sIc qLt 20 18),
  (18, sPush (aI (-1)) 19),
  (19, sRetI .int 0 K),
  (20, sLd 0 21 isR),
  (21, sGetI 3 4 24),
  (24, sPush (aI 1) 25),
  (25, sBin fSub 26),
  (26, sLd 1 27 isI),
  (27, sBin fSub 28),
  (28, sPush (aI 50) 30),
  (30, sCallS 2 (fun as μ K => Ct l mdJ9_floorMod_7cf53 as μ K X) 33 0 0),
  (33, sRetI .int 0 K)]
theorem snX3_placeOf (l : Launch) (K : aRs) (X : aXs) (n0 : Nat) : ∀ q ∈ tbX3_placeOf l K X, aSo l mdX3_placeOf K X n0 q.1 q.2 :=
  tc (fun p e s m args below meth c cA D A ad0 h => ok_iload_n h.1 1 rfl dX3_placeOf_0) <|
  tc (fun p e s m args below meth c cA D A ad0 h => ok_if_lt h.1 18 (by decide) dX3_placeOf_1) <|
  tc (fun p e s m args below meth c cA D A ad0 h => ok_iload_n h.1 1 rfl dX3_placeOf_4) <|
  tc (fun p e s m args below meth c cA D A ad0 h => ok_aload_n h.1 0 rfl dX3_placeOf_5) <|
  tc (fun p e s m args below meth c cA D A ad0 h => ok_getI h.1 cxX3 (by decide) rfl fkRX3_24 (fun _ _ _ => rfl) dX3_placeOf_6) <|
  tc (fun p e s m args below meth c cA D A ad0 h => ok_icmp_ge h.1 18 (by decide) dX3_placeOf_9) <|
  tc (fun p e s m args below meth c cA D A ad0 h => ok_iload_n h.1 1 rfl dX3_placeOf_12) <|
  tc (fun p e s m args below meth c cA D A ad0 h => ok_bipush h.1 ⟨by decide, by decide⟩ (by decide) dX3_placeOf_13) <|
  tc (fun p e s m args below meth c cA D A ad0 h => ok_icmp_lt h.1 20 (by decide) dX3_placeOf_15) <|
  tc (fun p e s m args below meth c cA D A ad0 h => ok_iconst h.1 ⟨by decide, by decide⟩ dX3_placeOf_18) <|
  tc (fun p e s m args below meth c cA D A ad0 h => ok_ireturn h.1 h.2.2.2.1 (Or.inl rfl) dX3_placeOf_19) <|
  tc (fun p e s m args below meth c cA D A ad0 h => ok_aload_n h.1 0 rfl dX3_placeOf_20) <|
  tc (fun p e s m args below meth c cA D A ad0 h => ok_getI h.1 cxX3 (by decide) rfl fkRX3_24 (fun _ _ _ => rfl) dX3_placeOf_21) <|
  tc (fun p e s m args below meth c cA D A ad0 h => ok_iconst h.1 ⟨by decide, by decide⟩ dX3_placeOf_24) <|
  tc (fun p e s m args below meth c cA D A ad0 h => ok_isub h.1 dX3_placeOf_25) <|
  tc (fun p e s m args below meth c cA D A ad0 h => ok_iload_n h.1 1 rfl dX3_placeOf_26) <|
  tc (fun p e s m args below meth c cA D A ad0 h => ok_isub h.1 dX3_placeOf_27) <|
  tc (fun p e s m args below meth c cA D A ad0 h => ok_bipush h.1 ⟨by decide, by decide⟩ (by decide) dX3_placeOf_28) <|
  tc (fun p e s m args below meth c cA D A ad0 h => ok_callS h.1 h.2.1 ⟨Nat.le_refl _, Nat.le_refl _⟩ mdJ9_floorMod_7cf53 siJ9_floorMod_7cf53 mkRX3_38 stJ9_floorMod_7cf53 ⟨by decide, by decide⟩ (aAx_out h.1 h.2.2.1 _) dX3_placeOf_30) <|
  tc (fun p e s m args below meth c cA D A ad0 h => ok_ireturn h.1 h.2.2.2.1 (Or.inl rfl) dX3_placeOf_33) <|
  tn
abbrev cuX3_placeOf : List Nat := [33]
theorem tX3_placeOf_0 (l : Launch) (K : aRs) (X : aXs) : tb (tbX3_placeOf l K X) 0 = sLd 1 1 isI := (rfl)
theorem wX3_placeOf_0 {l : Launch} {K : aRs} {X : aXs} {J : aK} {W : Nat → aK} (hW : isW (tbX3_placeOf l K X) cuX3_placeOf J W) (n : Nat) (ls st : List aV) (μ : aM) (g : Nat) : W (n + 1) 0 ls st μ g = (sLd 1 1 isI) (W n) ls st μ g := (hW n 0 ls st μ g).trans rfl
theorem wX3_placeOf_1 {l : Launch} {K : aRs} {X : aXs} {J : aK} {W : Nat → aK} (hW : isW (tbX3_placeOf l K X) cuX3_placeOf J W) (n : Nat) (ls st : List aV) (μ : aM) (g : Nat) : W (n + 1) 1 ls st μ g = (sIf pLt 18 4) (W n) ls st μ g := (hW n 1 ls st μ g).trans rfl
theorem wX3_placeOf_4 {l : Launch} {K : aRs} {X : aXs} {J : aK} {W : Nat → aK} (hW : isW (tbX3_placeOf l K X) cuX3_placeOf J W) (n : Nat) (ls st : List aV) (μ : aM) (g : Nat) : W (n + 1) 4 ls st μ g = (sLd 1 5 isI) (W n) ls st μ g := (hW n 4 ls st μ g).trans rfl
theorem wX3_placeOf_5 {l : Launch} {K : aRs} {X : aXs} {J : aK} {W : Nat → aK} (hW : isW (tbX3_placeOf l K X) cuX3_placeOf J W) (n : Nat) (ls st : List aV) (μ : aM) (g : Nat) : W (n + 1) 5 ls st μ g = (sLd 0 6 isR) (W n) ls st μ g := (hW n 5 ls st μ g).trans rfl
theorem wX3_placeOf_6 {l : Launch} {K : aRs} {X : aXs} {J : aK} {W : Nat → aK} (hW : isW (tbX3_placeOf l K X) cuX3_placeOf J W) (n : Nat) (ls st : List aV) (μ : aM) (g : Nat) : W (n + 1) 6 ls st μ g = (sGetI 3 4 9) (W n) ls st μ g := (hW n 6 ls st μ g).trans rfl
theorem wX3_placeOf_9 {l : Launch} {K : aRs} {X : aXs} {J : aK} {W : Nat → aK} (hW : isW (tbX3_placeOf l K X) cuX3_placeOf J W) (n : Nat) (ls st : List aV) (μ : aM) (g : Nat) : W (n + 1) 9 ls st μ g = (sIc qGe 18 12) (W n) ls st μ g := (hW n 9 ls st μ g).trans rfl
theorem wX3_placeOf_12 {l : Launch} {K : aRs} {X : aXs} {J : aK} {W : Nat → aK} (hW : isW (tbX3_placeOf l K X) cuX3_placeOf J W) (n : Nat) (ls st : List aV) (μ : aM) (g : Nat) : W (n + 1) 12 ls st μ g = (sLd 1 13 isI) (W n) ls st μ g := (hW n 12 ls st μ g).trans rfl
theorem wX3_placeOf_13 {l : Launch} {K : aRs} {X : aXs} {J : aK} {W : Nat → aK} (hW : isW (tbX3_placeOf l K X) cuX3_placeOf J W) (n : Nat) (ls st : List aV) (μ : aM) (g : Nat) : W (n + 1) 13 ls st μ g = (sPush (aI 50) 15) (W n) ls st μ g := (hW n 13 ls st μ g).trans rfl
theorem wX3_placeOf_15 {l : Launch} {K : aRs} {X : aXs} {J : aK} {W : Nat → aK} (hW : isW (tbX3_placeOf l K X) cuX3_placeOf J W) (n : Nat) (ls st : List aV) (μ : aM) (g : Nat) : W (n + 1) 15 ls st μ g = (sIc qLt 20 18) (W n) ls st μ g := (hW n 15 ls st μ g).trans rfl
theorem wX3_placeOf_18 {l : Launch} {K : aRs} {X : aXs} {J : aK} {W : Nat → aK} (hW : isW (tbX3_placeOf l K X) cuX3_placeOf J W) (n : Nat) (ls st : List aV) (μ : aM) (g : Nat) : W (n + 1) 18 ls st μ g = (sPush (aI (-1)) 19) (W n) ls st μ g := (hW n 18 ls st μ g).trans rfl
theorem wX3_placeOf_19 {l : Launch} {K : aRs} {X : aXs} {J : aK} {W : Nat → aK} (hW : isW (tbX3_placeOf l K X) cuX3_placeOf J W) (n : Nat) (ls st : List aV) (μ : aM) (g : Nat) : W (n + 1) 19 ls st μ g = (sRetI .int 0 K) (W n) ls st μ g := (hW n 19 ls st μ g).trans rfl
theorem wX3_placeOf_20 {l : Launch} {K : aRs} {X : aXs} {J : aK} {W : Nat → aK} (hW : isW (tbX3_placeOf l K X) cuX3_placeOf J W) (n : Nat) (ls st : List aV) (μ : aM) (g : Nat) : W (n + 1) 20 ls st μ g = (sLd 0 21 isR) (W n) ls st μ g := (hW n 20 ls st μ g).trans rfl
theorem wX3_placeOf_21 {l : Launch} {K : aRs} {X : aXs} {J : aK} {W : Nat → aK} (hW : isW (tbX3_placeOf l K X) cuX3_placeOf J W) (n : Nat) (ls st : List aV) (μ : aM) (g : Nat) : W (n + 1) 21 ls st μ g = (sGetI 3 4 24) (W n) ls st μ g := (hW n 21 ls st μ g).trans rfl
theorem wX3_placeOf_24 {l : Launch} {K : aRs} {X : aXs} {J : aK} {W : Nat → aK} (hW : isW (tbX3_placeOf l K X) cuX3_placeOf J W) (n : Nat) (ls st : List aV) (μ : aM) (g : Nat) : W (n + 1) 24 ls st μ g = (sPush (aI 1) 25) (W n) ls st μ g := (hW n 24 ls st μ g).trans rfl
theorem wX3_placeOf_25 {l : Launch} {K : aRs} {X : aXs} {J : aK} {W : Nat → aK} (hW : isW (tbX3_placeOf l K X) cuX3_placeOf J W) (n : Nat) (ls st : List aV) (μ : aM) (g : Nat) : W (n + 1) 25 ls st μ g = (sBin fSub 26) (W n) ls st μ g := (hW n 25 ls st μ g).trans rfl
theorem wX3_placeOf_26 {l : Launch} {K : aRs} {X : aXs} {J : aK} {W : Nat → aK} (hW : isW (tbX3_placeOf l K X) cuX3_placeOf J W) (n : Nat) (ls st : List aV) (μ : aM) (g : Nat) : W (n + 1) 26 ls st μ g = (sLd 1 27 isI) (W n) ls st μ g := (hW n 26 ls st μ g).trans rfl
theorem wX3_placeOf_27 {l : Launch} {K : aRs} {X : aXs} {J : aK} {W : Nat → aK} (hW : isW (tbX3_placeOf l K X) cuX3_placeOf J W) (n : Nat) (ls st : List aV) (μ : aM) (g : Nat) : W (n + 1) 27 ls st μ g = (sBin fSub 28) (W n) ls st μ g := (hW n 27 ls st μ g).trans rfl
theorem wX3_placeOf_28 {l : Launch} {K : aRs} {X : aXs} {J : aK} {W : Nat → aK} (hW : isW (tbX3_placeOf l K X) cuX3_placeOf J W) (n : Nat) (ls st : List aV) (μ : aM) (g : Nat) : W (n + 1) 28 ls st μ g = (sPush (aI 50) 30) (W n) ls st μ g := (hW n 28 ls st μ g).trans rfl
theorem wX3_placeOf_30 {l : Launch} {K : aRs} {X : aXs} {J : aK} {W : Nat → aK} (hW : isW (tbX3_placeOf l K X) cuX3_placeOf J W) (n : Nat) (ls st : List aV) (μ : aM) (g : Nat) : W (n + 1) 30 ls st μ g = (sCallS 2 (fun as μ K => Ct l mdJ9_floorMod_7cf53 as μ K X) 33 0 0) (W n) ls st μ g := (hW n 30 ls st μ g).trans rfl
theorem tX3_placeOf_33 (l : Launch) (K : aRs) (X : aXs) : tb (tbX3_placeOf l K X) 33 = sRetI .int 0 K := (rfl)
theorem wX3_placeOf_33 {l : Launch} {K : aRs} {X : aXs} {J : aK} {W : Nat → aK} (hW : isW (tbX3_placeOf l K X) cuX3_placeOf J W) (n : Nat) (ls st : List aV) (μ : aM) (g : Nat) : W (n + 1) 33 ls st μ g = J 33 ls st μ g := (hW n 33 ls st μ g).trans rfl
theorem dJ6_bitCount_0f7a4_0 : decode cJ6_bitCount_0f7a4 0 = .ok (.iload_n 0, 1) := by decide +kernel
theorem dJ6_bitCount_0f7a4_1 : decode cJ6_bitCount_0f7a4 1 = .ok (.iload_n 0, 1) := by decide +kernel
theorem dJ6_bitCount_0f7a4_2 : decode cJ6_bitCount_0f7a4 2 = .ok (.iconst 1, 1) := by decide +kernel
theorem dJ6_bitCount_0f7a4_3 : decode cJ6_bitCount_0f7a4 3 = .ok (.iushr, 1) := by decide +kernel
theorem dJ6_bitCount_0f7a4_4 : decode cJ6_bitCount_0f7a4 4 = .ok (.ldc_w 265, 3) := by decide +kernel
theorem dJ6_bitCount_0f7a4_7 : decode cJ6_bitCount_0f7a4 7 = .ok (.iand, 1) := by decide +kernel
theorem dJ6_bitCount_0f7a4_8 : decode cJ6_bitCount_0f7a4 8 = .ok (.isub, 1) := by decide +kernel
theorem dJ6_bitCount_0f7a4_9 : decode cJ6_bitCount_0f7a4 9 = .ok (.istore_n 0, 1) := by decide +kernel
theorem dJ6_bitCount_0f7a4_10 : decode cJ6_bitCount_0f7a4 10 = .ok (.iload_n 0, 1) := by decide +kernel
theorem dJ6_bitCount_0f7a4_11 : decode cJ6_bitCount_0f7a4 11 = .ok (.ldc_w 266, 3) := by decide +kernel
theorem dJ6_bitCount_0f7a4_14 : decode cJ6_bitCount_0f7a4 14 = .ok (.iand, 1) := by decide +kernel
theorem dJ6_bitCount_0f7a4_15 : decode cJ6_bitCount_0f7a4 15 = .ok (.iload_n 0, 1) := by decide +kernel
theorem dJ6_bitCount_0f7a4_16 : decode cJ6_bitCount_0f7a4 16 = .ok (.iconst 2, 1) := by decide +kernel
theorem dJ6_bitCount_0f7a4_17 : decode cJ6_bitCount_0f7a4 17 = .ok (.iushr, 1) := by decide +kernel
theorem dJ6_bitCount_0f7a4_18 : decode cJ6_bitCount_0f7a4 18 = .ok (.ldc_w 266, 3) := by decide +kernel
theorem dJ6_bitCount_0f7a4_21 : decode cJ6_bitCount_0f7a4 21 = .ok (.iand, 1) := by decide +kernel
theorem dJ6_bitCount_0f7a4_22 : decode cJ6_bitCount_0f7a4 22 = .ok (.iadd, 1) := by decide +kernel
theorem dJ6_bitCount_0f7a4_23 : decode cJ6_bitCount_0f7a4 23 = .ok (.istore_n 0, 1) := by decide +kernel
theorem dJ6_bitCount_0f7a4_24 : decode cJ6_bitCount_0f7a4 24 = .ok (.iload_n 0, 1) := by decide +kernel
theorem dJ6_bitCount_0f7a4_25 : decode cJ6_bitCount_0f7a4 25 = .ok (.iload_n 0, 1) := by decide +kernel
theorem dJ6_bitCount_0f7a4_26 : decode cJ6_bitCount_0f7a4 26 = .ok (.iconst 4, 1) := by decide +kernel
theorem dJ6_bitCount_0f7a4_27 : decode cJ6_bitCount_0f7a4 27 = .ok (.iushr, 1) := by decide +kernel
theorem dJ6_bitCount_0f7a4_28 : decode cJ6_bitCount_0f7a4 28 = .ok (.iadd, 1) := by decide +kernel
theorem dJ6_bitCount_0f7a4_29 : decode cJ6_bitCount_0f7a4 29 = .ok (.ldc_w 267, 3) := by decide +kernel
theorem dJ6_bitCount_0f7a4_32 : decode cJ6_bitCount_0f7a4 32 = .ok (.iand, 1) := by decide +kernel
theorem dJ6_bitCount_0f7a4_33 : decode cJ6_bitCount_0f7a4 33 = .ok (.istore_n 0, 1) := by decide +kernel
theorem dJ6_bitCount_0f7a4_34 : decode cJ6_bitCount_0f7a4 34 = .ok (.iload_n 0, 1) := by decide +kernel
theorem dJ6_bitCount_0f7a4_35 : decode cJ6_bitCount_0f7a4 35 = .ok (.iload_n 0, 1) := by decide +kernel
theorem dJ6_bitCount_0f7a4_36 : decode cJ6_bitCount_0f7a4 36 = .ok (.bipush 8, 2) := by decide +kernel
theorem dJ6_bitCount_0f7a4_38 : decode cJ6_bitCount_0f7a4 38 = .ok (.iushr, 1) := by decide +kernel
theorem dJ6_bitCount_0f7a4_39 : decode cJ6_bitCount_0f7a4 39 = .ok (.iadd, 1) := by decide +kernel
theorem dJ6_bitCount_0f7a4_40 : decode cJ6_bitCount_0f7a4 40 = .ok (.istore_n 0, 1) := by decide +kernel
theorem dJ6_bitCount_0f7a4_41 : decode cJ6_bitCount_0f7a4 41 = .ok (.iload_n 0, 1) := by decide +kernel
theorem dJ6_bitCount_0f7a4_42 : decode cJ6_bitCount_0f7a4 42 = .ok (.iload_n 0, 1) := by decide +kernel
theorem dJ6_bitCount_0f7a4_43 : decode cJ6_bitCount_0f7a4 43 = .ok (.bipush 16, 2) := by decide +kernel
theorem dJ6_bitCount_0f7a4_45 : decode cJ6_bitCount_0f7a4 45 = .ok (.iushr, 1) := by decide +kernel
theorem dJ6_bitCount_0f7a4_46 : decode cJ6_bitCount_0f7a4 46 = .ok (.iadd, 1) := by decide +kernel
theorem dJ6_bitCount_0f7a4_47 : decode cJ6_bitCount_0f7a4 47 = .ok (.istore_n 0, 1) := by decide +kernel
theorem dJ6_bitCount_0f7a4_48 : decode cJ6_bitCount_0f7a4 48 = .ok (.iload_n 0, 1) := by decide +kernel
theorem dJ6_bitCount_0f7a4_49 : decode cJ6_bitCount_0f7a4 49 = .ok (.bipush 63, 2) := by decide +kernel
theorem dJ6_bitCount_0f7a4_51 : decode cJ6_bitCount_0f7a4 51 = .ok (.iand, 1) := by decide +kernel
theorem dJ6_bitCount_0f7a4_52 : decode cJ6_bitCount_0f7a4 52 = .ok (.ireturn, 1) := by decide +kernel
def tbJ6_bitCount_0f7a4 (l : Launch) (K : aRs) (X : aXs) : aTb := [
  (0, sLd 0 1 isI),
  (1, sLd 0 2 isI),
  (2, sPush (aI 1) 3),
  (3, sBin fUshr 4),
  (4, sPush (aI (1431655765)) 7),
  (7, sBin fAnd 8),
  (8, sBin fSub 9),
  (9, sSt 0 10 isI),
  (10, sLd 0 11 isI),
  (11, sPush (aI (858993459)) 14),
  (14, sBin fAnd 15),
  (15, sLd 0 16 isI),
  (16, sPush (aI 2) 17),
  (17, sBin fUshr 18),
  (18, sPush (aI (858993459)) 21),
  (21, sBin fAnd 22),
  (22, sBin fAdd 23),
  (23, sSt 0 24 isI),
  (24, sLd 0 25 isI),
  (25, sLd 0 26 isI),
  (26, sPush (aI 4) 27),
  (27, sBin fUshr 28),
  (28, sBin fAdd 29),
  (29, sPush (aI (252645135)) 32),
  (32, sBin fAnd 33),
  (33, sSt 0 34 isI),
  (34, sLd 0 35 isI),
  (35, sLd 0 36 isI),
  (36, sPush (aI 8) 38),
  (38, sBin fUshr 39),
  (39, sBin fAdd 40),
  (40, sSt 0 41 isI),
  (41, sLd 0 42 isI),
  (42, sLd 0 43 isI),
  (43, sPush (aI 16) 45),
  (45, sBin fUshr 46),
  (46, sBin fAdd 47),
  (47, sSt 0 48 isI),
  (48, sLd 0 49 isI),
  (49, sPush (aI 63) 51),
  (51, sBin fAnd 52),
  (52, sRetI .int 0 K)]
theorem snJ6_bitCount_0f7a4 (l : Launch) (K : aRs) (X : aXs) (n0 : Nat) : ∀ q ∈ tbJ6_bitCount_0f7a4 l K X, aSo l mdJ6_bitCount_0f7a4 K X n0 q.1 q.2 :=
  tc (fun p e s m args below meth c cA D A ad0 h => ok_iload_n h.1 0 rfl dJ6_bitCount_0f7a4_0) <|
  tc (fun p e s m args below meth c cA D A ad0 h => ok_iload_n h.1 0 rfl dJ6_bitCount_0f7a4_1) <|
  tc (fun p e s m args below meth c cA D A ad0 h => ok_iconst h.1 ⟨by decide, by decide⟩ dJ6_bitCount_0f7a4_2) <|
  tc (fun p e s m args below meth c cA D A ad0 h => ok_iushr h.1 dJ6_bitCount_0f7a4_3) <|
  tc (fun p e s m args below meth c cA D A ad0 h => ok_ldcw h.1 ⟨by decide, by decide⟩ kcRJ6_265 dJ6_bitCount_0f7a4_4) <|
  tc (fun p e s m args below meth c cA D A ad0 h => ok_iand h.1 dJ6_bitCount_0f7a4_7) <|
  tc (fun p e s m args below meth c cA D A ad0 h => ok_isub h.1 dJ6_bitCount_0f7a4_8) <|
  tc (fun p e s m args below meth c cA D A ad0 h => ok_istore_n h.1 0 rfl (by decide) dJ6_bitCount_0f7a4_9) <|
  tc (fun p e s m args below meth c cA D A ad0 h => ok_iload_n h.1 0 rfl dJ6_bitCount_0f7a4_10) <|
  tc (fun p e s m args below meth c cA D A ad0 h => ok_ldcw h.1 ⟨by decide, by decide⟩ kcRJ6_266 dJ6_bitCount_0f7a4_11) <|
  tc (fun p e s m args below meth c cA D A ad0 h => ok_iand h.1 dJ6_bitCount_0f7a4_14) <|
  tc (fun p e s m args below meth c cA D A ad0 h => ok_iload_n h.1 0 rfl dJ6_bitCount_0f7a4_15) <|
  tc (fun p e s m args below meth c cA D A ad0 h => ok_iconst h.1 ⟨by decide, by decide⟩ dJ6_bitCount_0f7a4_16) <|
  tc (fun p e s m args below meth c cA D A ad0 h => ok_iushr h.1 dJ6_bitCount_0f7a4_17) <|
  tc (fun p e s m args below meth c cA D A ad0 h => ok_ldcw h.1 ⟨by decide, by decide⟩ kcRJ6_266 dJ6_bitCount_0f7a4_18) <|
  tc (fun p e s m args below meth c cA D A ad0 h => ok_iand h.1 dJ6_bitCount_0f7a4_21) <|
  tc (fun p e s m args below meth c cA D A ad0 h => ok_iadd h.1 dJ6_bitCount_0f7a4_22) <|
  tc (fun p e s m args below meth c cA D A ad0 h => ok_istore_n h.1 0 rfl (by decide) dJ6_bitCount_0f7a4_23) <|
  tc (fun p e s m args below meth c cA D A ad0 h => ok_iload_n h.1 0 rfl dJ6_bitCount_0f7a4_24) <|
  tc (fun p e s m args below meth c cA D A ad0 h => ok_iload_n h.1 0 rfl dJ6_bitCount_0f7a4_25) <|
  tc (fun p e s m args below meth c cA D A ad0 h => ok_iconst h.1 ⟨by decide, by decide⟩ dJ6_bitCount_0f7a4_26) <|
  tc (fun p e s m args below meth c cA D A ad0 h => ok_iushr h.1 dJ6_bitCount_0f7a4_27) <|
  tc (fun p e s m args below meth c cA D A ad0 h => ok_iadd h.1 dJ6_bitCount_0f7a4_28) <|
  tc (fun p e s m args below meth c cA D A ad0 h => ok_ldcw h.1 ⟨by decide, by decide⟩ kcRJ6_267 dJ6_bitCount_0f7a4_29) <|
  tc (fun p e s m args below meth c cA D A ad0 h => ok_iand h.1 dJ6_bitCount_0f7a4_32) <|
  tc (fun p e s m args below meth c cA D A ad0 h => ok_istore_n h.1 0 rfl (by decide) dJ6_bitCount_0f7a4_33) <|
  tc (fun p e s m args below meth c cA D A ad0 h => ok_iload_n h.1 0 rfl dJ6_bitCount_0f7a4_34) <|
  tc (fun p e s m args below meth c cA D A ad0 h => ok_iload_n h.1 0 rfl dJ6_bitCount_0f7a4_35) <|
  tc (fun p e s m args below meth c cA D A ad0 h => ok_bipush h.1 ⟨by decide, by decide⟩ (by decide) dJ6_bitCount_0f7a4_36) <|
  tc (fun p e s m args below meth c cA D A ad0 h => ok_iushr h.1 dJ6_bitCount_0f7a4_38) <|
  tc (fun p e s m args below meth c cA D A ad0 h => ok_iadd h.1 dJ6_bitCount_0f7a4_39) <|
  tc (fun p e s m args below meth c cA D A ad0 h => ok_istore_n h.1 0 rfl (by decide) dJ6_bitCount_0f7a4_40) <|
  tc (fun p e s m args below meth c cA D A ad0 h => ok_iload_n h.1 0 rfl dJ6_bitCount_0f7a4_41) <|
  tc (fun p e s m args below meth c cA D A ad0 h => ok_iload_n h.1 0 rfl dJ6_bitCount_0f7a4_42) <|
  tc (fun p e s m args below meth c cA D A ad0 h => ok_bipush h.1 ⟨by decide, by decide⟩ (by decide) dJ6_bitCount_0f7a4_43) <|
  tc (fun p e s m args below meth c cA D A ad0 h => ok_iushr h.1 dJ6_bitCount_0f7a4_45) <|
  tc (fun p e s m args below meth c cA D A ad0 h => ok_iadd h.1 dJ6_bitCount_0f7a4_46) <|
  tc (fun p e s m args below meth c cA D A ad0 h => ok_istore_n h.1 0 rfl (by decide) dJ6_bitCount_0f7a4_47) <|
  tc (fun p e s m args below meth c cA D A ad0 h => ok_iload_n h.1 0 rfl dJ6_bitCount_0f7a4_48) <|
  tc (fun p e s m args below meth c cA D A ad0 h => ok_bipush h.1 ⟨by decide, by decide⟩ (by decide) dJ6_bitCount_0f7a4_49) <|
  tc (fun p e s m args below meth c cA D A ad0 h => ok_iand h.1 dJ6_bitCount_0f7a4_51) <|
  tc (fun p e s m args below meth c cA D A ad0 h => ok_ireturn h.1 h.2.2.2.1 (Or.inl rfl) dJ6_bitCount_0f7a4_52) <|
  tn
abbrev cuJ6_bitCount_0f7a4 : List Nat := []
theorem tJ6_bitCount_0f7a4_0 (l : Launch) (K : aRs) (X : aXs) : tb (tbJ6_bitCount_0f7a4 l K X) 0 = sLd 0 1 isI := (rfl)
theorem wJ6_bitCount_0f7a4_0 {l : Launch} {K : aRs} {X : aXs} {J : aK} {W : Nat → aK} (hW : isW (tbJ6_bitCount_0f7a4 l K X) cuJ6_bitCount_0f7a4 J W) (n : Nat) (ls st : List aV) (μ : aM) (g : Nat) : W (n + 1) 0 ls st μ g = (sLd 0 1 isI) (W n) ls st μ g := (hW n 0 ls st μ g).trans rfl
theorem wJ6_bitCount_0f7a4_1 {l : Launch} {K : aRs} {X : aXs} {J : aK} {W : Nat → aK} (hW : isW (tbJ6_bitCount_0f7a4 l K X) cuJ6_bitCount_0f7a4 J W) (n : Nat) (ls st : List aV) (μ : aM) (g : Nat) : W (n + 1) 1 ls st μ g = (sLd 0 2 isI) (W n) ls st μ g := (hW n 1 ls st μ g).trans rfl
theorem wJ6_bitCount_0f7a4_2 {l : Launch} {K : aRs} {X : aXs} {J : aK} {W : Nat → aK} (hW : isW (tbJ6_bitCount_0f7a4 l K X) cuJ6_bitCount_0f7a4 J W) (n : Nat) (ls st : List aV) (μ : aM) (g : Nat) : W (n + 1) 2 ls st μ g = (sPush (aI 1) 3) (W n) ls st μ g := (hW n 2 ls st μ g).trans rfl
theorem wJ6_bitCount_0f7a4_3 {l : Launch} {K : aRs} {X : aXs} {J : aK} {W : Nat → aK} (hW : isW (tbJ6_bitCount_0f7a4 l K X) cuJ6_bitCount_0f7a4 J W) (n : Nat) (ls st : List aV) (μ : aM) (g : Nat) : W (n + 1) 3 ls st μ g = (sBin fUshr 4) (W n) ls st μ g := (hW n 3 ls st μ g).trans rfl
theorem wJ6_bitCount_0f7a4_4 {l : Launch} {K : aRs} {X : aXs} {J : aK} {W : Nat → aK} (hW : isW (tbJ6_bitCount_0f7a4 l K X) cuJ6_bitCount_0f7a4 J W) (n : Nat) (ls st : List aV) (μ : aM) (g : Nat) : W (n + 1) 4 ls st μ g = (sPush (aI (1431655765)) 7) (W n) ls st μ g := (hW n 4 ls st μ g).trans rfl
theorem wJ6_bitCount_0f7a4_7 {l : Launch} {K : aRs} {X : aXs} {J : aK} {W : Nat → aK} (hW : isW (tbJ6_bitCount_0f7a4 l K X) cuJ6_bitCount_0f7a4 J W) (n : Nat) (ls st : List aV) (μ : aM) (g : Nat) : W (n + 1) 7 ls st μ g = (sBin fAnd 8) (W n) ls st μ g := (hW n 7 ls st μ g).trans rfl
theorem wJ6_bitCount_0f7a4_8 {l : Launch} {K : aRs} {X : aXs} {J : aK} {W : Nat → aK} (hW : isW (tbJ6_bitCount_0f7a4 l K X) cuJ6_bitCount_0f7a4 J W) (n : Nat) (ls st : List aV) (μ : aM) (g : Nat) : W (n + 1) 8 ls st μ g = (sBin fSub 9) (W n) ls st μ g := (hW n 8 ls st μ g).trans rfl
theorem wJ6_bitCount_0f7a4_9 {l : Launch} {K : aRs} {X : aXs} {J : aK} {W : Nat → aK} (hW : isW (tbJ6_bitCount_0f7a4 l K X) cuJ6_bitCount_0f7a4 J W) (n : Nat) (ls st : List aV) (μ : aM) (g : Nat) : W (n + 1) 9 ls st μ g = (sSt 0 10 isI) (W n) ls st μ g := (hW n 9 ls st μ g).trans rfl
theorem wJ6_bitCount_0f7a4_10 {l : Launch} {K : aRs} {X : aXs} {J : aK} {W : Nat → aK} (hW : isW (tbJ6_bitCount_0f7a4 l K X) cuJ6_bitCount_0f7a4 J W) (n : Nat) (ls st : List aV) (μ : aM) (g : Nat) : W (n + 1) 10 ls st μ g = (sLd 0 11 isI) (W n) ls st μ g := (hW n 10 ls st μ g).trans rfl
theorem wJ6_bitCount_0f7a4_11 {l : Launch} {K : aRs} {X : aXs} {J : aK} {W : Nat → aK} (hW : isW (tbJ6_bitCount_0f7a4 l K X) cuJ6_bitCount_0f7a4 J W) (n : Nat) (ls st : List aV) (μ : aM) (g : Nat) : W (n + 1) 11 ls st μ g = (sPush (aI (858993459)) 14) (W n) ls st μ g := (hW n 11 ls st μ g).trans rfl
theorem wJ6_bitCount_0f7a4_14 {l : Launch} {K : aRs} {X : aXs} {J : aK} {W : Nat → aK} (hW : isW (tbJ6_bitCount_0f7a4 l K X) cuJ6_bitCount_0f7a4 J W) (n : Nat) (ls st : List aV) (μ : aM) (g : Nat) : W (n + 1) 14 ls st μ g = (sBin fAnd 15) (W n) ls st μ g := (hW n 14 ls st μ g).trans rfl
theorem wJ6_bitCount_0f7a4_15 {l : Launch} {K : aRs} {X : aXs} {J : aK} {W : Nat → aK} (hW : isW (tbJ6_bitCount_0f7a4 l K X) cuJ6_bitCount_0f7a4 J W) (n : Nat) (ls st : List aV) (μ : aM) (g : Nat) : W (n + 1) 15 ls st μ g = (sLd 0 16 isI) (W n) ls st μ g := (hW n 15 ls st μ g).trans rfl
theorem wJ6_bitCount_0f7a4_16 {l : Launch} {K : aRs} {X : aXs} {J : aK} {W : Nat → aK} (hW : isW (tbJ6_bitCount_0f7a4 l K X) cuJ6_bitCount_0f7a4 J W) (n : Nat) (ls st : List aV) (μ : aM) (g : Nat) : W (n + 1) 16 ls st μ g = (sPush (aI 2) 17) (W n) ls st μ g := (hW n 16 ls st μ g).trans rfl
theorem wJ6_bitCount_0f7a4_17 {l : Launch} {K : aRs} {X : aXs} {J : aK} {W : Nat → aK} (hW : isW (tbJ6_bitCount_0f7a4 l K X) cuJ6_bitCount_0f7a4 J W) (n : Nat) (ls st : List aV) (μ : aM) (g : Nat) : W (n + 1) 17 ls st μ g = (sBin fUshr 18) (W n) ls st μ g := (hW n 17 ls st μ g).trans rfl
theorem wJ6_bitCount_0f7a4_18 {l : Launch} {K : aRs} {X : aXs} {J : aK} {W : Nat → aK} (hW : isW (tbJ6_bitCount_0f7a4 l K X) cuJ6_bitCount_0f7a4 J W) (n : Nat) (ls st : List aV) (μ : aM) (g : Nat) : W (n + 1) 18 ls st μ g = (sPush (aI (858993459)) 21) (W n) ls st μ g := (hW n 18 ls st μ g).trans rfl
theorem wJ6_bitCount_0f7a4_21 {l : Launch} {K : aRs} {X : aXs} {J : aK} {W : Nat → aK} (hW : isW (tbJ6_bitCount_0f7a4 l K X) cuJ6_bitCount_0f7a4 J W) (n : Nat) (ls st : List aV) (μ : aM) (g : Nat) : W (n + 1) 21 ls st μ g = (sBin fAnd 22) (W n) ls st μ g := (hW n 21 ls st μ g).trans rfl
theorem wJ6_bitCount_0f7a4_22 {l : Launch} {K : aRs} {X : aXs} {J : aK} {W : Nat → aK} (hW : isW (tbJ6_bitCount_0f7a4 l K X) cuJ6_bitCount_0f7a4 J W) (n : Nat) (ls st : List aV) (μ : aM) (g : Nat) : W (n + 1) 22 ls st μ g = (sBin fAdd 23) (W n) ls st μ g := (hW n 22 ls st μ g).trans rfl
theorem wJ6_bitCount_0f7a4_23 {l : Launch} {K : aRs} {X : aXs} {J : aK} {W : Nat → aK} (hW : isW (tbJ6_bitCount_0f7a4 l K X) cuJ6_bitCount_0f7a4 J W) (n : Nat) (ls st : List aV) (μ : aM) (g : Nat) : W (n + 1) 23 ls st μ g = (sSt 0 24 isI) (W n) ls st μ g := (hW n 23 ls st μ g).trans rfl
theorem wJ6_bitCount_0f7a4_24 {l : Launch} {K : aRs} {X : aXs} {J : aK} {W : Nat → aK} (hW : isW (tbJ6_bitCount_0f7a4 l K X) cuJ6_bitCount_0f7a4 J W) (n : Nat) (ls st : List aV) (μ : aM) (g : Nat) : W (n + 1) 24 ls st μ g = (sLd 0 25 isI) (W n) ls st μ g := (hW n 24 ls st μ g).trans rfl
theorem wJ6_bitCount_0f7a4_25 {l : Launch} {K : aRs} {X : aXs} {J : aK} {W : Nat → aK} (hW : isW (tbJ6_bitCount_0f7a4 l K X) cuJ6_bitCount_0f7a4 J W) (n : Nat) (ls st : List aV) (μ : aM) (g : Nat) : W (n + 1) 25 ls st μ g = (sLd 0 26 isI) (W n) ls st μ g := (hW n 25 ls st μ g).trans rfl
theorem wJ6_bitCount_0f7a4_26 {l : Launch} {K : aRs} {X : aXs} {J : aK} {W : Nat → aK} (hW : isW (tbJ6_bitCount_0f7a4 l K X) cuJ6_bitCount_0f7a4 J W) (n : Nat) (ls st : List aV) (μ : aM) (g : Nat) : W (n + 1) 26 ls st μ g = (sPush (aI 4) 27) (W n) ls st μ g := (hW n 26 ls st μ g).trans rfl
theorem wJ6_bitCount_0f7a4_27 {l : Launch} {K : aRs} {X : aXs} {J : aK} {W : Nat → aK} (hW : isW (tbJ6_bitCount_0f7a4 l K X) cuJ6_bitCount_0f7a4 J W) (n : Nat) (ls st : List aV) (μ : aM) (g : Nat) : W (n + 1) 27 ls st μ g = (sBin fUshr 28) (W n) ls st μ g := (hW n 27 ls st μ g).trans rfl
theorem wJ6_bitCount_0f7a4_28 {l : Launch} {K : aRs} {X : aXs} {J : aK} {W : Nat → aK} (hW : isW (tbJ6_bitCount_0f7a4 l K X) cuJ6_bitCount_0f7a4 J W) (n : Nat) (ls st : List aV) (μ : aM) (g : Nat) : W (n + 1) 28 ls st μ g = (sBin fAdd 29) (W n) ls st μ g := (hW n 28 ls st μ g).trans rfl
theorem wJ6_bitCount_0f7a4_29 {l : Launch} {K : aRs} {X : aXs} {J : aK} {W : Nat → aK} (hW : isW (tbJ6_bitCount_0f7a4 l K X) cuJ6_bitCount_0f7a4 J W) (n : Nat) (ls st : List aV) (μ : aM) (g : Nat) : W (n + 1) 29 ls st μ g = (sPush (aI (252645135)) 32) (W n) ls st μ g := (hW n 29 ls st μ g).trans rfl
theorem wJ6_bitCount_0f7a4_32 {l : Launch} {K : aRs} {X : aXs} {J : aK} {W : Nat → aK} (hW : isW (tbJ6_bitCount_0f7a4 l K X) cuJ6_bitCount_0f7a4 J W) (n : Nat) (ls st : List aV) (μ : aM) (g : Nat) : W (n + 1) 32 ls st μ g = (sBin fAnd 33) (W n) ls st μ g := (hW n 32 ls st μ g).trans rfl
theorem wJ6_bitCount_0f7a4_33 {l : Launch} {K : aRs} {X : aXs} {J : aK} {W : Nat → aK} (hW : isW (tbJ6_bitCount_0f7a4 l K X) cuJ6_bitCount_0f7a4 J W) (n : Nat) (ls st : List aV) (μ : aM) (g : Nat) : W (n + 1) 33 ls st μ g = (sSt 0 34 isI) (W n) ls st μ g := (hW n 33 ls st μ g).trans rfl
theorem wJ6_bitCount_0f7a4_34 {l : Launch} {K : aRs} {X : aXs} {J : aK} {W : Nat → aK} (hW : isW (tbJ6_bitCount_0f7a4 l K X) cuJ6_bitCount_0f7a4 J W) (n : Nat) (ls st : List aV) (μ : aM) (g : Nat) : W (n + 1) 34 ls st μ g = (sLd 0 35 isI) (W n) ls st μ g := (hW n 34 ls st μ g).trans rfl
theorem wJ6_bitCount_0f7a4_35 {l : Launch} {K : aRs} {X : aXs} {J : aK} {W : Nat → aK} (hW : isW (tbJ6_bitCount_0f7a4 l K X) cuJ6_bitCount_0f7a4 J W) (n : Nat) (ls st : List aV) (μ : aM) (g : Nat) : W (n + 1) 35 ls st μ g = (sLd 0 36 isI) (W n) ls st μ g := (hW n 35 ls st μ g).trans rfl
theorem wJ6_bitCount_0f7a4_36 {l : Launch} {K : aRs} {X : aXs} {J : aK} {W : Nat → aK} (hW : isW (tbJ6_bitCount_0f7a4 l K X) cuJ6_bitCount_0f7a4 J W) (n : Nat) (ls st : List aV) (μ : aM) (g : Nat) : W (n + 1) 36 ls st μ g = (sPush (aI 8) 38) (W n) ls st μ g := (hW n 36 ls st μ g).trans rfl
theorem wJ6_bitCount_0f7a4_38 {l : Launch} {K : aRs} {X : aXs} {J : aK} {W : Nat → aK} (hW : isW (tbJ6_bitCount_0f7a4 l K X) cuJ6_bitCount_0f7a4 J W) (n : Nat) (ls st : List aV) (μ : aM) (g : Nat) : W (n + 1) 38 ls st μ g = (sBin fUshr 39) (W n) ls st μ g := (hW n 38 ls st μ g).trans rfl
theorem wJ6_bitCount_0f7a4_39 {l : Launch} {K : aRs} {X : aXs} {J : aK} {W : Nat → aK} (hW : isW (tbJ6_bitCount_0f7a4 l K X) cuJ6_bitCount_0f7a4 J W) (n : Nat) (ls st : List aV) (μ : aM) (g : Nat) : W (n + 1) 39 ls st μ g = (sBin fAdd 40) (W n) ls st μ g := (hW n 39 ls st μ g).trans rfl
theorem wJ6_bitCount_0f7a4_40 {l : Launch} {K : aRs} {X : aXs} {J : aK} {W : Nat → aK} (hW : isW (tbJ6_bitCount_0f7a4 l K X) cuJ6_bitCount_0f7a4 J W) (n : Nat) (ls st : List aV) (μ : aM) (g : Nat) : W (n + 1) 40 ls st μ g = (sSt 0 41 isI) (W n) ls st μ g := (hW n 40 ls st μ g).trans rfl
theorem wJ6_bitCount_0f7a4_41 {l : Launch} {K : aRs} {X : aXs} {J : aK} {W : Nat → aK} (hW : isW (tbJ6_bitCount_0f7a4 l K X) cuJ6_bitCount_0f7a4 J W) (n : Nat) (ls st : List aV) (μ : aM) (g : Nat) : W (n + 1) 41 ls st μ g = (sLd 0 42 isI) (W n) ls st μ g := (hW n 41 ls st μ g).trans rfl
theorem wJ6_bitCount_0f7a4_42 {l : Launch} {K : aRs} {X : aXs} {J : aK} {W : Nat → aK} (hW : isW (tbJ6_bitCount_0f7a4 l K X) cuJ6_bitCount_0f7a4 J W) (n : Nat) (ls st : List aV) (μ : aM) (g : Nat) : W (n + 1) 42 ls st μ g = (sLd 0 43 isI) (W n) ls st μ g := (hW n 42 ls st μ g).trans rfl
theorem wJ6_bitCount_0f7a4_43 {l : Launch} {K : aRs} {X : aXs} {J : aK} {W : Nat → aK} (hW : isW (tbJ6_bitCount_0f7a4 l K X) cuJ6_bitCount_0f7a4 J W) (n : Nat) (ls st : List aV) (μ : aM) (g : Nat) : W (n + 1) 43 ls st μ g = (sPush (aI 16) 45) (W n) ls st μ g := (hW n 43 ls st μ g).trans rfl
theorem wJ6_bitCount_0f7a4_45 {l : Launch} {K : aRs} {X : aXs} {J : aK} {W : Nat → aK} (hW : isW (tbJ6_bitCount_0f7a4 l K X) cuJ6_bitCount_0f7a4 J W) (n : Nat) (ls st : List aV) (μ : aM) (g : Nat) : W (n + 1) 45 ls st μ g = (sBin fUshr 46) (W n) ls st μ g := (hW n 45 ls st μ g).trans rfl
theorem wJ6_bitCount_0f7a4_46 {l : Launch} {K : aRs} {X : aXs} {J : aK} {W : Nat → aK} (hW : isW (tbJ6_bitCount_0f7a4 l K X) cuJ6_bitCount_0f7a4 J W) (n : Nat) (ls st : List aV) (μ : aM) (g : Nat) : W (n + 1) 46 ls st μ g = (sBin fAdd 47) (W n) ls st μ g := (hW n 46 ls st μ g).trans rfl
theorem wJ6_bitCount_0f7a4_47 {l : Launch} {K : aRs} {X : aXs} {J : aK} {W : Nat → aK} (hW : isW (tbJ6_bitCount_0f7a4 l K X) cuJ6_bitCount_0f7a4 J W) (n : Nat) (ls st : List aV) (μ : aM) (g : Nat) : W (n + 1) 47 ls st μ g = (sSt 0 48 isI) (W n) ls st μ g := (hW n 47 ls st μ g).trans rfl
theorem wJ6_bitCount_0f7a4_48 {l : Launch} {K : aRs} {X : aXs} {J : aK} {W : Nat → aK} (hW : isW (tbJ6_bitCount_0f7a4 l K X) cuJ6_bitCount_0f7a4 J W) (n : Nat) (ls st : List aV) (μ : aM) (g : Nat) : W (n + 1) 48 ls st μ g = (sLd 0 49 isI) (W n) ls st μ g := (hW n 48 ls st μ g).trans rfl
theorem wJ6_bitCount_0f7a4_49 {l : Launch} {K : aRs} {X : aXs} {J : aK} {W : Nat → aK} (hW : isW (tbJ6_bitCount_0f7a4 l K X) cuJ6_bitCount_0f7a4 J W) (n : Nat) (ls st : List aV) (μ : aM) (g : Nat) : W (n + 1) 49 ls st μ g = (sPush (aI 63) 51) (W n) ls st μ g := (hW n 49 ls st μ g).trans rfl
theorem wJ6_bitCount_0f7a4_51 {l : Launch} {K : aRs} {X : aXs} {J : aK} {W : Nat → aK} (hW : isW (tbJ6_bitCount_0f7a4 l K X) cuJ6_bitCount_0f7a4 J W) (n : Nat) (ls st : List aV) (μ : aM) (g : Nat) : W (n + 1) 51 ls st μ g = (sBin fAnd 52) (W n) ls st μ g := (hW n 51 ls st μ g).trans rfl
theorem wJ6_bitCount_0f7a4_52 {l : Launch} {K : aRs} {X : aXs} {J : aK} {W : Nat → aK} (hW : isW (tbJ6_bitCount_0f7a4 l K X) cuJ6_bitCount_0f7a4 J W) (n : Nat) (ls st : List aV) (μ : aM) (g : Nat) : W (n + 1) 52 ls st μ g = (sRetI .int 0 K) (W n) ls st μ g := (hW n 52 ls st μ g).trans rfl
theorem dJ9_floorMod_7cf53_0 : decode cJ9_floorMod_7cf53 0 = .ok (.iload_n 0, 1) := by decide +kernel
theorem dJ9_floorMod_7cf53_1 : decode cJ9_floorMod_7cf53 1 = .ok (.iload_n 1, 1) := by decide +kernel
theorem dJ9_floorMod_7cf53_2 : decode cJ9_floorMod_7cf53 2 = .ok (.irem, 1) := by decide +kernel
theorem dJ9_floorMod_7cf53_3 : decode cJ9_floorMod_7cf53 3 = .ok (.istore_n 2, 1) := by decide +kernel
theorem dJ9_floorMod_7cf53_4 : decode cJ9_floorMod_7cf53 4 = .ok (.iload_n 0, 1) := by decide +kernel
theorem dJ9_floorMod_7cf53_5 : decode cJ9_floorMod_7cf53 5 = .ok (.iload_n 1, 1) := by decide +kernel
theorem dJ9_floorMod_7cf53_6 : decode cJ9_floorMod_7cf53 6 = .ok (.ixor, 1) := by decide +kernel
theorem dJ9_floorMod_7cf53_7 : decode cJ9_floorMod_7cf53 7 = .ok (.ifCond .ge 11, 3) := by decide +kernel
theorem dJ9_floorMod_7cf53_10 : decode cJ9_floorMod_7cf53 10 = .ok (.iload_n 2, 1) := by decide +kernel
theorem dJ9_floorMod_7cf53_11 : decode cJ9_floorMod_7cf53 11 = .ok (.ifCond .eq 7, 3) := by decide +kernel
theorem dJ9_floorMod_7cf53_14 : decode cJ9_floorMod_7cf53 14 = .ok (.iload_n 2, 1) := by decide +kernel
theorem dJ9_floorMod_7cf53_15 : decode cJ9_floorMod_7cf53 15 = .ok (.iload_n 1, 1) := by decide +kernel
theorem dJ9_floorMod_7cf53_16 : decode cJ9_floorMod_7cf53 16 = .ok (.iadd, 1) := by decide +kernel
theorem dJ9_floorMod_7cf53_17 : decode cJ9_floorMod_7cf53 17 = .ok (.ireturn, 1) := by decide +kernel
theorem dJ9_floorMod_7cf53_18 : decode cJ9_floorMod_7cf53 18 = .ok (.iload_n 2, 1) := by decide +kernel
theorem dJ9_floorMod_7cf53_19 : decode cJ9_floorMod_7cf53 19 = .ok (.ireturn, 1) := by decide +kernel
def tbJ9_floorMod_7cf53 (l : Launch) (K : aRs) (X : aXs) : aTb := [
  (0, sLd 0 1 isI),
  (1, sLd 1 2 isI),
  (2, sRem 3),
  (3, sSt 2 4 isI),
  (4, sLd 0 5 isI),
  (5, sLd 1 6 isI),
  (6, sBin fXor 7),
  (7, sIf pGe 18 10),
  (10, sLd 2 11 isI),
  (11, sIf pEq 18 14),
  (14, sLd 2 15 isI),
  (15, sLd 1 16 isI),
  (16, sBin fAdd 17),
  (17, sRetI .int 0 K),
  (18, sLd 2 19 isI),
  (19, sRetI .int 0 K)]
theorem snJ9_floorMod_7cf53 (l : Launch) (K : aRs) (X : aXs) (n0 : Nat) : ∀ q ∈ tbJ9_floorMod_7cf53 l K X, aSo l mdJ9_floorMod_7cf53 K X n0 q.1 q.2 :=
  tc (fun p e s m args below meth c cA D A ad0 h => ok_iload_n h.1 0 rfl dJ9_floorMod_7cf53_0) <|
  tc (fun p e s m args below meth c cA D A ad0 h => ok_iload_n h.1 1 rfl dJ9_floorMod_7cf53_1) <|
  tc (fun p e s m args below meth c cA D A ad0 h => ok_irem h.1 dJ9_floorMod_7cf53_2) <|
  tc (fun p e s m args below meth c cA D A ad0 h => ok_istore_n h.1 2 rfl (by decide) dJ9_floorMod_7cf53_3) <|
  tc (fun p e s m args below meth c cA D A ad0 h => ok_iload_n h.1 0 rfl dJ9_floorMod_7cf53_4) <|
  tc (fun p e s m args below meth c cA D A ad0 h => ok_iload_n h.1 1 rfl dJ9_floorMod_7cf53_5) <|
  tc (fun p e s m args below meth c cA D A ad0 h => ok_ixor h.1 dJ9_floorMod_7cf53_6) <|
  tc (fun p e s m args below meth c cA D A ad0 h => ok_if_ge h.1 18 (by decide) dJ9_floorMod_7cf53_7) <|
  tc (fun p e s m args below meth c cA D A ad0 h => ok_iload_n h.1 2 rfl dJ9_floorMod_7cf53_10) <|
  tc (fun p e s m args below meth c cA D A ad0 h => ok_if_eq h.1 18 (by decide) dJ9_floorMod_7cf53_11) <|
  tc (fun p e s m args below meth c cA D A ad0 h => ok_iload_n h.1 2 rfl dJ9_floorMod_7cf53_14) <|
  tc (fun p e s m args below meth c cA D A ad0 h => ok_iload_n h.1 1 rfl dJ9_floorMod_7cf53_15) <|
  tc (fun p e s m args below meth c cA D A ad0 h => ok_iadd h.1 dJ9_floorMod_7cf53_16) <|
  tc (fun p e s m args below meth c cA D A ad0 h => ok_ireturn h.1 h.2.2.2.1 (Or.inl rfl) dJ9_floorMod_7cf53_17) <|
  tc (fun p e s m args below meth c cA D A ad0 h => ok_iload_n h.1 2 rfl dJ9_floorMod_7cf53_18) <|
  tc (fun p e s m args below meth c cA D A ad0 h => ok_ireturn h.1 h.2.2.2.1 (Or.inl rfl) dJ9_floorMod_7cf53_19) <|
  tn
abbrev cuJ9_floorMod_7cf53 : List Nat := []
theorem tJ9_floorMod_7cf53_0 (l : Launch) (K : aRs) (X : aXs) : tb (tbJ9_floorMod_7cf53 l K X) 0 = sLd 0 1 isI := (rfl)
theorem wJ9_floorMod_7cf53_0 {l : Launch} {K : aRs} {X : aXs} {J : aK} {W : Nat → aK} (hW : isW (tbJ9_floorMod_7cf53 l K X) cuJ9_floorMod_7cf53 J W) (n : Nat) (ls st : List aV) (μ : aM) (g : Nat) : W (n + 1) 0 ls st μ g = (sLd 0 1 isI) (W n) ls st μ g := (hW n 0 ls st μ g).trans rfl
theorem wJ9_floorMod_7cf53_1 {l : Launch} {K : aRs} {X : aXs} {J : aK} {W : Nat → aK} (hW : isW (tbJ9_floorMod_7cf53 l K X) cuJ9_floorMod_7cf53 J W) (n : Nat) (ls st : List aV) (μ : aM) (g : Nat) : W (n + 1) 1 ls st μ g = (sLd 1 2 isI) (W n) ls st μ g := (hW n 1 ls st μ g).trans rfl
theorem wJ9_floorMod_7cf53_2 {l : Launch} {K : aRs} {X : aXs} {J : aK} {W : Nat → aK} (hW : isW (tbJ9_floorMod_7cf53 l K X) cuJ9_floorMod_7cf53 J W) (n : Nat) (ls st : List aV) (μ : aM) (g : Nat) : W (n + 1) 2 ls st μ g = (sRem 3) (W n) ls st μ g := (hW n 2 ls st μ g).trans rfl
theorem wJ9_floorMod_7cf53_3 {l : Launch} {K : aRs} {X : aXs} {J : aK} {W : Nat → aK} (hW : isW (tbJ9_floorMod_7cf53 l K X) cuJ9_floorMod_7cf53 J W) (n : Nat) (ls st : List aV) (μ : aM) (g : Nat) : W (n + 1) 3 ls st μ g = (sSt 2 4 isI) (W n) ls st μ g := (hW n 3 ls st μ g).trans rfl
theorem wJ9_floorMod_7cf53_4 {l : Launch} {K : aRs} {X : aXs} {J : aK} {W : Nat → aK} (hW : isW (tbJ9_floorMod_7cf53 l K X) cuJ9_floorMod_7cf53 J W) (n : Nat) (ls st : List aV) (μ : aM) (g : Nat) : W (n + 1) 4 ls st μ g = (sLd 0 5 isI) (W n) ls st μ g := (hW n 4 ls st μ g).trans rfl
theorem wJ9_floorMod_7cf53_5 {l : Launch} {K : aRs} {X : aXs} {J : aK} {W : Nat → aK} (hW : isW (tbJ9_floorMod_7cf53 l K X) cuJ9_floorMod_7cf53 J W) (n : Nat) (ls st : List aV) (μ : aM) (g : Nat) : W (n + 1) 5 ls st μ g = (sLd 1 6 isI) (W n) ls st μ g := (hW n 5 ls st μ g).trans rfl
theorem wJ9_floorMod_7cf53_6 {l : Launch} {K : aRs} {X : aXs} {J : aK} {W : Nat → aK} (hW : isW (tbJ9_floorMod_7cf53 l K X) cuJ9_floorMod_7cf53 J W) (n : Nat) (ls st : List aV) (μ : aM) (g : Nat) : W (n + 1) 6 ls st μ g = (sBin fXor 7) (W n) ls st μ g := (hW n 6 ls st μ g).trans rfl
theorem wJ9_floorMod_7cf53_7 {l : Launch} {K : aRs} {X : aXs} {J : aK} {W : Nat → aK} (hW : isW (tbJ9_floorMod_7cf53 l K X) cuJ9_floorMod_7cf53 J W) (n : Nat) (ls st : List aV) (μ : aM) (g : Nat) : W (n + 1) 7 ls st μ g = (sIf pGe 18 10) (W n) ls st μ g := (hW n 7 ls st μ g).trans rfl
theorem wJ9_floorMod_7cf53_10 {l : Launch} {K : aRs} {X : aXs} {J : aK} {W : Nat → aK} (hW : isW (tbJ9_floorMod_7cf53 l K X) cuJ9_floorMod_7cf53 J W) (n : Nat) (ls st : List aV) (μ : aM) (g : Nat) : W (n + 1) 10 ls st μ g = (sLd 2 11 isI) (W n) ls st μ g := (hW n 10 ls st μ g).trans rfl
theorem wJ9_floorMod_7cf53_11 {l : Launch} {K : aRs} {X : aXs} {J : aK} {W : Nat → aK} (hW : isW (tbJ9_floorMod_7cf53 l K X) cuJ9_floorMod_7cf53 J W) (n : Nat) (ls st : List aV) (μ : aM) (g : Nat) : W (n + 1) 11 ls st μ g = (sIf pEq 18 14) (W n) ls st μ g := (hW n 11 ls st μ g).trans rfl
theorem wJ9_floorMod_7cf53_14 {l : Launch} {K : aRs} {X : aXs} {J : aK} {W : Nat → aK} (hW : isW (tbJ9_floorMod_7cf53 l K X) cuJ9_floorMod_7cf53 J W) (n : Nat) (ls st : List aV) (μ : aM) (g : Nat) : W (n + 1) 14 ls st μ g = (sLd 2 15 isI) (W n) ls st μ g := (hW n 14 ls st μ g).trans rfl
theorem wJ9_floorMod_7cf53_15 {l : Launch} {K : aRs} {X : aXs} {J : aK} {W : Nat → aK} (hW : isW (tbJ9_floorMod_7cf53 l K X) cuJ9_floorMod_7cf53 J W) (n : Nat) (ls st : List aV) (μ : aM) (g : Nat) : W (n + 1) 15 ls st μ g = (sLd 1 16 isI) (W n) ls st μ g := (hW n 15 ls st μ g).trans rfl
theorem wJ9_floorMod_7cf53_16 {l : Launch} {K : aRs} {X : aXs} {J : aK} {W : Nat → aK} (hW : isW (tbJ9_floorMod_7cf53 l K X) cuJ9_floorMod_7cf53 J W) (n : Nat) (ls st : List aV) (μ : aM) (g : Nat) : W (n + 1) 16 ls st μ g = (sBin fAdd 17) (W n) ls st μ g := (hW n 16 ls st μ g).trans rfl
theorem wJ9_floorMod_7cf53_17 {l : Launch} {K : aRs} {X : aXs} {J : aK} {W : Nat → aK} (hW : isW (tbJ9_floorMod_7cf53 l K X) cuJ9_floorMod_7cf53 J W) (n : Nat) (ls st : List aV) (μ : aM) (g : Nat) : W (n + 1) 17 ls st μ g = (sRetI .int 0 K) (W n) ls st μ g := (hW n 17 ls st μ g).trans rfl
theorem wJ9_floorMod_7cf53_18 {l : Launch} {K : aRs} {X : aXs} {J : aK} {W : Nat → aK} (hW : isW (tbJ9_floorMod_7cf53 l K X) cuJ9_floorMod_7cf53 J W) (n : Nat) (ls st : List aV) (μ : aM) (g : Nat) : W (n + 1) 18 ls st μ g = (sLd 2 19 isI) (W n) ls st μ g := (hW n 18 ls st μ g).trans rfl
theorem wJ9_floorMod_7cf53_19 {l : Launch} {K : aRs} {X : aXs} {J : aK} {W : Nat → aK} (hW : isW (tbJ9_floorMod_7cf53 l K X) cuJ9_floorMod_7cf53 J W) (n : Nat) (ls st : List aV) (μ : aM) (g : Nat) : W (n + 1) 19 ls st μ g = (sRetI .int 0 K) (W n) ls st μ g := (hW n 19 ls st μ g).trans rfl
theorem dJ9_abs_0f7a4_0 : decode cJ9_abs_0f7a4 0 = .ok (.iload_n 0, 1) := by decide +kernel
theorem dJ9_abs_0f7a4_1 : decode cJ9_abs_0f7a4 1 = .ok (.ifCond .ge 8, 3) := by decide +kernel
theorem dJ9_abs_0f7a4_4 : decode cJ9_abs_0f7a4 4 = .ok (.iload_n 0, 1) := by decide +kernel
theorem dJ9_abs_0f7a4_5 : decode cJ9_abs_0f7a4 5 = .ok (.ineg, 1) := by decide +kernel
theorem dJ9_abs_0f7a4_6 : decode cJ9_abs_0f7a4 6 = .ok (.goto 4, 3) := by decide +kernel
theorem dJ9_abs_0f7a4_9 : decode cJ9_abs_0f7a4 9 = .ok (.iload_n 0, 1) := by decide +kernel
theorem dJ9_abs_0f7a4_10 : decode cJ9_abs_0f7a4 10 = .ok (.ireturn, 1) := by decide +kernel
def tbJ9_abs_0f7a4 (l : Launch) (K : aRs) (X : aXs) : aTb := [
  (0, sLd 0 1 isI),
  (1, sIf pGe 9 4),
  (4, sLd 0 5 isI),
  (5, sUn fNeg 6),
  (6, sGoto 10),
  (9, sLd 0 10 isI),
  (10, sRetI .int 0 K)]
theorem snJ9_abs_0f7a4 (l : Launch) (K : aRs) (X : aXs) (n0 : Nat) : ∀ q ∈ tbJ9_abs_0f7a4 l K X, aSo l mdJ9_abs_0f7a4 K X n0 q.1 q.2 :=
  tc (fun p e s m args below meth c cA D A ad0 h => ok_iload_n h.1 0 rfl dJ9_abs_0f7a4_0) <|
  tc (fun p e s m args below meth c cA D A ad0 h => ok_if_ge h.1 9 (by decide) dJ9_abs_0f7a4_1) <|
  tc (fun p e s m args below meth c cA D A ad0 h => ok_iload_n h.1 0 rfl dJ9_abs_0f7a4_4) <|
  tc (fun p e s m args below meth c cA D A ad0 h => ok_ineg h.1 dJ9_abs_0f7a4_5) <|
  tc (fun p e s m args below meth c cA D A ad0 h => ok_goto h.1 10 (by decide) dJ9_abs_0f7a4_6) <|
  tc (fun p e s m args below meth c cA D A ad0 h => ok_iload_n h.1 0 rfl dJ9_abs_0f7a4_9) <|
  tc (fun p e s m args below meth c cA D A ad0 h => ok_ireturn h.1 h.2.2.2.1 (Or.inl rfl) dJ9_abs_0f7a4_10) <|
  tn
abbrev cuJ9_abs_0f7a4 : List Nat := []
theorem tJ9_abs_0f7a4_0 (l : Launch) (K : aRs) (X : aXs) : tb (tbJ9_abs_0f7a4 l K X) 0 = sLd 0 1 isI := (rfl)
theorem wJ9_abs_0f7a4_0 {l : Launch} {K : aRs} {X : aXs} {J : aK} {W : Nat → aK} (hW : isW (tbJ9_abs_0f7a4 l K X) cuJ9_abs_0f7a4 J W) (n : Nat) (ls st : List aV) (μ : aM) (g : Nat) : W (n + 1) 0 ls st μ g = (sLd 0 1 isI) (W n) ls st μ g := (hW n 0 ls st μ g).trans rfl
theorem wJ9_abs_0f7a4_1 {l : Launch} {K : aRs} {X : aXs} {J : aK} {W : Nat → aK} (hW : isW (tbJ9_abs_0f7a4 l K X) cuJ9_abs_0f7a4 J W) (n : Nat) (ls st : List aV) (μ : aM) (g : Nat) : W (n + 1) 1 ls st μ g = (sIf pGe 9 4) (W n) ls st μ g := (hW n 1 ls st μ g).trans rfl
theorem wJ9_abs_0f7a4_4 {l : Launch} {K : aRs} {X : aXs} {J : aK} {W : Nat → aK} (hW : isW (tbJ9_abs_0f7a4 l K X) cuJ9_abs_0f7a4 J W) (n : Nat) (ls st : List aV) (μ : aM) (g : Nat) : W (n + 1) 4 ls st μ g = (sLd 0 5 isI) (W n) ls st μ g := (hW n 4 ls st μ g).trans rfl
theorem wJ9_abs_0f7a4_5 {l : Launch} {K : aRs} {X : aXs} {J : aK} {W : Nat → aK} (hW : isW (tbJ9_abs_0f7a4 l K X) cuJ9_abs_0f7a4 J W) (n : Nat) (ls st : List aV) (μ : aM) (g : Nat) : W (n + 1) 5 ls st μ g = (sUn fNeg 6) (W n) ls st μ g := (hW n 5 ls st μ g).trans rfl
theorem wJ9_abs_0f7a4_6 {l : Launch} {K : aRs} {X : aXs} {J : aK} {W : Nat → aK} (hW : isW (tbJ9_abs_0f7a4 l K X) cuJ9_abs_0f7a4 J W) (n : Nat) (ls st : List aV) (μ : aM) (g : Nat) : W (n + 1) 6 ls st μ g = (sGoto 10) (W n) ls st μ g := (hW n 6 ls st μ g).trans rfl
theorem wJ9_abs_0f7a4_9 {l : Launch} {K : aRs} {X : aXs} {J : aK} {W : Nat → aK} (hW : isW (tbJ9_abs_0f7a4 l K X) cuJ9_abs_0f7a4 J W) (n : Nat) (ls st : List aV) (μ : aM) (g : Nat) : W (n + 1) 9 ls st μ g = (sLd 0 10 isI) (W n) ls st μ g := (hW n 9 ls st μ g).trans rfl
theorem wJ9_abs_0f7a4_10 {l : Launch} {K : aRs} {X : aXs} {J : aK} {W : Nat → aK} (hW : isW (tbJ9_abs_0f7a4 l K X) cuJ9_abs_0f7a4 J W) (n : Nat) (ls st : List aV) (μ : aM) (g : Nat) : W (n + 1) 10 ls st μ g = (sRetI .int 0 K) (W n) ls st μ g := (hW n 10 ls st μ g).trans rfl
theorem dJ9_min_7cf53_0 : decode cJ9_min_7cf53 0 = .ok (.iload_n 0, 1) := by decide +kernel
theorem dJ9_min_7cf53_1 : decode cJ9_min_7cf53 1 = .ok (.iload_n 1, 1) := by decide +kernel
theorem dJ9_min_7cf53_2 : decode cJ9_min_7cf53 2 = .ok (.if_icmp .gt 7, 3) := by decide +kernel
theorem dJ9_min_7cf53_5 : decode cJ9_min_7cf53 5 = .ok (.iload_n 0, 1) := by decide +kernel
theorem dJ9_min_7cf53_6 : decode cJ9_min_7cf53 6 = .ok (.goto 4, 3) := by decide +kernel
theorem dJ9_min_7cf53_9 : decode cJ9_min_7cf53 9 = .ok (.iload_n 1, 1) := by decide +kernel
theorem dJ9_min_7cf53_10 : decode cJ9_min_7cf53 10 = .ok (.ireturn, 1) := by decide +kernel
def tbJ9_min_7cf53 (l : Launch) (K : aRs) (X : aXs) : aTb := [
  (0, sLd 0 1 isI),
  (1, sLd 1 2 isI),
  (2, sIc qGt 9 5),
  (5, sLd 0 6 isI),
  (6, sGoto 10),
  (9, sLd 1 10 isI),
  (10, sRetI .int 0 K)]
theorem snJ9_min_7cf53 (l : Launch) (K : aRs) (X : aXs) (n0 : Nat) : ∀ q ∈ tbJ9_min_7cf53 l K X, aSo l mdJ9_min_7cf53 K X n0 q.1 q.2 :=
  tc (fun p e s m args below meth c cA D A ad0 h => ok_iload_n h.1 0 rfl dJ9_min_7cf53_0) <|
  tc (fun p e s m args below meth c cA D A ad0 h => ok_iload_n h.1 1 rfl dJ9_min_7cf53_1) <|
  tc (fun p e s m args below meth c cA D A ad0 h => ok_icmp_gt h.1 9 (by decide) dJ9_min_7cf53_2) <|
  tc (fun p e s m args below meth c cA D A ad0 h => ok_iload_n h.1 0 rfl dJ9_min_7cf53_5) <|
  tc (fun p e s m args below meth c cA D A ad0 h => ok_goto h.1 10 (by decide) dJ9_min_7cf53_6) <|
  tc (fun p e s m args below meth c cA D A ad0 h => ok_iload_n h.1 1 rfl dJ9_min_7cf53_9) <|
  tc (fun p e s m args below meth c cA D A ad0 h => ok_ireturn h.1 h.2.2.2.1 (Or.inl rfl) dJ9_min_7cf53_10) <|
  tn
abbrev cuJ9_min_7cf53 : List Nat := []
theorem tJ9_min_7cf53_0 (l : Launch) (K : aRs) (X : aXs) : tb (tbJ9_min_7cf53 l K X) 0 = sLd 0 1 isI := (rfl)
theorem wJ9_min_7cf53_0 {l : Launch} {K : aRs} {X : aXs} {J : aK} {W : Nat → aK} (hW : isW (tbJ9_min_7cf53 l K X) cuJ9_min_7cf53 J W) (n : Nat) (ls st : List aV) (μ : aM) (g : Nat) : W (n + 1) 0 ls st μ g = (sLd 0 1 isI) (W n) ls st μ g := (hW n 0 ls st μ g).trans rfl
theorem wJ9_min_7cf53_1 {l : Launch} {K : aRs} {X : aXs} {J : aK} {W : Nat → aK} (hW : isW (tbJ9_min_7cf53 l K X) cuJ9_min_7cf53 J W) (n : Nat) (ls st : List aV) (μ : aM) (g : Nat) : W (n + 1) 1 ls st μ g = (sLd 1 2 isI) (W n) ls st μ g := (hW n 1 ls st μ g).trans rfl
theorem wJ9_min_7cf53_2 {l : Launch} {K : aRs} {X : aXs} {J : aK} {W : Nat → aK} (hW : isW (tbJ9_min_7cf53 l K X) cuJ9_min_7cf53 J W) (n : Nat) (ls st : List aV) (μ : aM) (g : Nat) : W (n + 1) 2 ls st μ g = (sIc qGt 9 5) (W n) ls st μ g := (hW n 2 ls st μ g).trans rfl
theorem wJ9_min_7cf53_5 {l : Launch} {K : aRs} {X : aXs} {J : aK} {W : Nat → aK} (hW : isW (tbJ9_min_7cf53 l K X) cuJ9_min_7cf53 J W) (n : Nat) (ls st : List aV) (μ : aM) (g : Nat) : W (n + 1) 5 ls st μ g = (sLd 0 6 isI) (W n) ls st μ g := (hW n 5 ls st μ g).trans rfl
theorem wJ9_min_7cf53_6 {l : Launch} {K : aRs} {X : aXs} {J : aK} {W : Nat → aK} (hW : isW (tbJ9_min_7cf53 l K X) cuJ9_min_7cf53 J W) (n : Nat) (ls st : List aV) (μ : aM) (g : Nat) : W (n + 1) 6 ls st μ g = (sGoto 10) (W n) ls st μ g := (hW n 6 ls st μ g).trans rfl
theorem wJ9_min_7cf53_9 {l : Launch} {K : aRs} {X : aXs} {J : aK} {W : Nat → aK} (hW : isW (tbJ9_min_7cf53 l K X) cuJ9_min_7cf53 J W) (n : Nat) (ls st : List aV) (μ : aM) (g : Nat) : W (n + 1) 9 ls st μ g = (sLd 1 10 isI) (W n) ls st μ g := (hW n 9 ls st μ g).trans rfl
theorem wJ9_min_7cf53_10 {l : Launch} {K : aRs} {X : aXs} {J : aK} {W : Nat → aK} (hW : isW (tbJ9_min_7cf53 l K X) cuJ9_min_7cf53 J W) (n : Nat) (ls st : List aV) (μ : aM) (g : Nat) : W (n + 1) 10 ls st μ g = (sRetI .int 0 K) (W n) ls st μ g := (hW n 10 ls st μ g).trans rfl
