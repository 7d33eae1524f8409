/-! ===== tables of steps, by program (gen/mktab.py) ===== -/
theorem dX4_init_0 : decode cX4_init 0 = .ok (.aload_n 0, 1) := by decide +kernel
theorem dX4_init_1 : decode cX4_init 1 = .ok (.invokespecial 3, 3) := by decide +kernel
theorem dX4_init_4 : decode cX4_init 4 = .ok (.aload_n 0, 1) := by decide +kernel
theorem dX4_init_5 : decode cX4_init 5 = .ok (.sipush 512, 3) := by decide +kernel
theorem dX4_init_8 : decode cX4_init 8 = .ok (.anewarray 9, 3) := by decide +kernel
theorem dX4_init_11 : decode cX4_init 11 = .ok (.putfield 11, 3) := by decide +kernel
theorem dX4_init_14 : decode cX4_init 14 = .ok (.aload_n 0, 1) := by decide +kernel
theorem dX4_init_15 : decode cX4_init 15 = .ok (.new 15, 3) := by decide +kernel
theorem dX4_init_18 : decode cX4_init 18 = .ok (.dup, 1) := by decide +kernel
theorem dX4_init_19 : decode cX4_init 19 = .ok (.iconst 1, 1) := by decide +kernel
theorem dX4_init_20 : decode cX4_init 20 = .ok (.invokespecial 17, 3) := by decide +kernel
theorem dX4_init_23 : decode cX4_init 23 = .ok (.putfield 20, 3) := by decide +kernel
theorem dX4_init_26 : decode cX4_init 26 = .ok (.aload_n 0, 1) := by decide +kernel
theorem dX4_init_27 : decode cX4_init 27 = .ok (.new 15, 3) := by decide +kernel
theorem dX4_init_30 : decode cX4_init 30 = .ok (.dup, 1) := by decide +kernel
theorem dX4_init_31 : decode cX4_init 31 = .ok (.iconst 0, 1) := by decide +kernel
theorem dX4_init_32 : decode cX4_init 32 = .ok (.invokespecial 17, 3) := by decide +kernel
theorem dX4_init_35 : decode cX4_init 35 = .ok (.putfield 24, 3) := by decide +kernel
theorem dX4_init_38 : decode cX4_init 38 = .ok (.aload_n 0, 1) := by decide +kernel
theorem dX4_init_39 : decode cX4_init 39 = .ok (.new 27, 3) := by decide +kernel
theorem dX4_init_42 : decode cX4_init 42 = .ok (.dup, 1) := by decide +kernel
theorem dX4_init_43 : decode cX4_init 43 = .ok (.invokespecial 29, 3) := by decide +kernel
theorem dX4_init_46 : decode cX4_init 46 = .ok (.putfield 30, 3) := by decide +kernel
theorem dX4_init_49 : decode cX4_init 49 = .ok (.aload_n 0, 1) := by decide +kernel
theorem dX4_init_50 : decode cX4_init 50 = .ok (.new 34, 3) := by decide +kernel
theorem dX4_init_53 : decode cX4_init 53 = .ok (.dup, 1) := by decide +kernel
theorem dX4_init_54 : decode cX4_init 54 = .ok (.invokespecial 36, 3) := by decide +kernel
theorem dX4_init_57 : decode cX4_init 57 = .ok (.putfield 37, 3) := by decide +kernel
theorem dX4_init_60 : decode cX4_init 60 = .ok (.aload_n 0, 1) := by decide +kernel
theorem dX4_init_61 : decode cX4_init 61 = .ok (.iconst 0, 1) := by decide +kernel
theorem dX4_init_62 : decode cX4_init 62 = .ok (.putfield 41, 3) := by decide +kernel
theorem dX4_init_65 : decode cX4_init 65 = .ok (.aload_n 0, 1) := by decide +kernel
theorem dX4_init_66 : decode cX4_init 66 = .ok (.iconst 0, 1) := by decide +kernel
theorem dX4_init_67 : decode cX4_init 67 = .ok (.putfield 45, 3) := by decide +kernel
theorem dX4_init_70 : decode cX4_init 70 = .ok (.aload_n 0, 1) := by decide +kernel
theorem dX4_init_71 : decode cX4_init 71 = .ok (.bipush 114, 2) := by decide +kernel
theorem dX4_init_73 : decode cX4_init 73 = .ok (.putfield 48, 3) := by decide +kernel
theorem dX4_init_76 : decode cX4_init 76 = .ok (.aload_n 0, 1) := by decide +kernel
theorem dX4_init_77 : decode cX4_init 77 = .ok (.iconst 0, 1) := by decide +kernel
theorem dX4_init_78 : decode cX4_init 78 = .ok (.putfield 52, 3) := by decide +kernel
theorem dX4_init_81 : decode cX4_init 81 = .ok (.return_, 1) := by decide +kernel
def tbX4_init (l : Launch) (K : aRs) (X : aXs) : aTb := [
  (0, sLd 0 1 isR),
  (1, sObj 4),
  (4, sLd 0 5 isR),
  (5, sPush (aI 512) 8),
  (8, sNewA 10 11 9),
  (11, sPutR 4 0 14),
  (14, sLd 0 15 isR),
  (15, sNewO 1 18 9),
  (18, sDup 19),
  (19, sPush (aI 1) 20),
  (20, sCallV 1 1 (fun as μ K => Ct l mdX1_init as μ K X) 23 0 9),
  (23, sPutR 4 1 26),
  (26, sLd 0 27 isR),
  (27, sNewO 1 30 9),
  (30, sDup 31),
  (31, sPush (aI 0) 32),
  (32, sCallV 1 1 (fun as μ K => Ct l mdX1_init as μ K X) 35 0 9),
  (35, sPutR 4 2 38),
  (38, sLd 0 39 isR),
  (39, sNewO 3 42 9),
  (42, sDup 43),
  (43, sCallV 0 3 (fun as μ K => Ct l mdX3_init as μ K X) 46 4 9),
  (46, sPutR 4 3 49),
  (49, sLd 0 50 isR),
  (50, sNewO 0 53 9),
  (53, sDup 54),
  (54, sCallV 0 0 (fun as μ K => Ct l mdX0_init as μ K X) 57 0 9),
  (57, sPutR 4 4 60),
  (60, sLd 0 61 isR),
  (61, sPush (aI 0) 62),
  (62, sPutI 4 5 65),
  (65, sLd 0 66 isR),
  (66, sPush (aI 0) 67),
  (67, sPutI 4 6 70),
  (70, sLd 0 71 isR),
  (71, sPush (aI 114) 73),
  (73, sPutI 4 7 76),
  (76, sLd 0 77 isR),
  (77, sPush (aI 0) 78),
  (78, sPutI 4 8 81),
  (81, sRetV 9 K)]
theorem snX4_init (l : Launch) (K : aRs) (X : aXs) (n0 : Nat) : ∀ q ∈ tbX4_init l K X, aSo l mdX4_init K X n0 q.1 q.2 :=
  tc (fun p e s m args below meth c cA D A ad0 h => ok_aload_n h.1 0 rfl dX4_init_0) <|
  tc (fun p e s m args below meth c cA D A ad0 h => ok_objInit h.1 mkRX4_3 oi1 oi2 dX4_init_1) <|
  tc (fun p e s m args below meth c cA D A ad0 h => ok_aload_n h.1 0 rfl dX4_init_4) <|
  tc (fun p e s m args below meth c cA D A ad0 h => ok_sipush h.1 ⟨by decide, by decide⟩ (by decide) dX4_init_5) <|
  tc (fun p e s m args below meth c cA D A ad0 h => ok_newQ h.1 ⟨Nat.le_refl _, Nat.le_refl _⟩ ckRX4_9 h.2.1.2.1 dX4_init_8) <|
  tc (fun p e s m args below meth c cA D A ad0 h => ok_putR h.1 cxX4 (by decide) rfl fkRX4_11 (Or.inr ⟨h.2.2.2.2, rfl⟩) (fun _ _ _ => rfl) (Or.inr ⟨_, rfl⟩) dX4_init_11) <|
  tc (fun p e s m args below meth c cA D A ad0 h => ok_aload_n h.1 0 rfl dX4_init_14) <|
  tc (fun p e s m args below meth c cA D A ad0 h => ok_newO h.1 ⟨Nat.le_refl _, Nat.le_refl _⟩ cxX1 (by decide) (by decide) ckRX4_15 iaX1 niRX1 dX4_init_15) <|
  tc (fun p e s m args below meth c cA D A ad0 h => ok_dup h.1 dX4_init_18) <|
  tc (fun p e s m args below meth c cA D A ad0 h => ok_iconst h.1 ⟨by decide, by decide⟩ dX4_init_19) <|
  tc (fun p e s m args below meth c cA D A ad0 h => ok_callI h.1 h.2.1 ⟨Nat.le_refl _, Nat.le_refl _⟩ mdX1_init siX1_init rfl rfl mkRX4_17 imX1_init ⟨by decide, by decide⟩ (aAx_out h.1 h.2.2.1 _) dX4_init_20) <|
  tc (fun p e s m args below meth c cA D A ad0 h => ok_putR h.1 cxX4 (by decide) rfl fkRX4_20 (Or.inr ⟨h.2.2.2.2, rfl⟩) (fun _ _ _ => rfl) (Or.inl ⟨_, rfl⟩) dX4_init_23) <|
  tc (fun p e s m args below meth c cA D A ad0 h => ok_aload_n h.1 0 rfl dX4_init_26) <|
  tc (fun p e s m args below meth c cA D A ad0 h => ok_newO h.1 ⟨Nat.le_refl _, Nat.le_refl _⟩ cxX1 (by decide) (by decide) ckRX4_15 iaX1 niRX1 dX4_init_27) <|
  tc (fun p e s m args below meth c cA D A ad0 h => ok_dup h.1 dX4_init_30) <|
  tc (fun p e s m args below meth c cA D A ad0 h => ok_iconst h.1 ⟨by decide, by decide⟩ dX4_init_31) <|
  tc (fun p e s m args below meth c cA D A ad0 h => ok_callI h.1 h.2.1 ⟨Nat.le_refl _, Nat.le_refl _⟩ mdX1_init siX1_init rfl rfl mkRX4_17 imX1_init ⟨by decide, by decide⟩ (aAx_out h.1 h.2.2.1 _) dX4_init_32) <|
  tc (fun p e s m args below meth c cA D A ad0 h => ok_putR h.1 cxX4 (by decide) rfl fkRX4_24 (Or.inr ⟨h.2.2.2.2, rfl⟩) (fun _ _ _ => rfl) (Or.inl ⟨_, rfl⟩) dX4_init_35) <|
  tc (fun p e s m args below meth c cA D A ad0 h => ok_aload_n h.1 0 rfl dX4_init_38) <|
  tc (fun p e s m args below meth c cA D A ad0 h => ok_newO h.1 ⟨Nat.le_refl _, Nat.le_refl _⟩ cxX3 (by decide) (by decide) ckRX4_27 iaX3 niRX3 dX4_init_39) <|
  tc (fun p e s m args below meth c cA D A ad0 h => ok_dup h.1 dX4_init_42) <|
  tc (fun p e s m args below meth c cA D A ad0 h => ok_callI h.1 h.2.1 ⟨Nat.le_refl _, Nat.le_refl _⟩ mdX3_init siX3_init rfl rfl mkRX4_29 imX3_init ⟨by decide, by decide⟩ (aAx_out h.1 h.2.2.1 _) dX4_init_43) <|
  tc (fun p e s m args below meth c cA D A ad0 h => ok_putR h.1 cxX4 (by decide) rfl fkRX4_30 (Or.inr ⟨h.2.2.2.2, rfl⟩) (fun _ _ _ => rfl) (Or.inl ⟨_, rfl⟩) dX4_init_46) <|
  tc (fun p e s m args below meth c cA D A ad0 h => ok_aload_n h.1 0 rfl dX4_init_49) <|
  tc (fun p e s m args below meth c cA D A ad0 h => ok_newO h.1 ⟨Nat.le_refl _, Nat.le_refl _⟩ cxX0 (by decide) (by decide) ckRX4_34 iaX0 niRX0 dX4_init_50) <|
  tc (fun p e s m args below meth c cA D A ad0 h => ok_dup h.1 dX4_init_53) <|
  tc (fun p e s m args below meth c cA D A ad0 h => ok_callI h.1 h.2.1 ⟨Nat.le_refl _, Nat.le_refl _⟩ mdX0_init siX0_init rfl rfl mkRX4_36 imX0_init ⟨by decide, by decide⟩ (aAx_out h.1 h.2.2.1 _) dX4_init_54) <|
  tc (fun p e s m args below meth c cA D A ad0 h => ok_putR h.1 cxX4 (by decide) rfl fkRX4_37 (Or.inr ⟨h.2.2.2.2, rfl⟩) (fun _ _ _ => rfl) (Or.inl ⟨_, rfl⟩) dX4_init_57) <|
  tc (fun p e s m args below meth c cA D A ad0 h => ok_aload_n h.1 0 rfl dX4_init_60) <|
  tc (fun p e s m args below meth c cA D A ad0 h => ok_iconst h.1 ⟨by decide, by decide⟩ dX4_init_61) <|
  tc (fun p e s m args below meth c cA D A ad0 h => ok_putI h.1 cxX4 (by decide) rfl fkRX4_41 (Or.inr ⟨h.2.2.2.2, rfl⟩) (fun _ _ _ => rfl) (Or.inl rfl) dX4_init_62) <|
  tc (fun p e s m args below meth c cA D A ad0 h => ok_aload_n h.1 0 rfl dX4_init_65) <|
  tc (fun p e s m args below meth c cA D A ad0 h => ok_iconst h.1 ⟨by decide, by decide⟩ dX4_init_66) <|
  tc (fun p e s m args below meth c cA D A ad0 h => ok_putI h.1 cxX4 (by decide) rfl fkRX4_45 (Or.inr ⟨h.2.2.2.2, rfl⟩) (fun _ _ _ => rfl) (Or.inl rfl) dX4_init_67) <|
  tc (fun p e s m args below meth c cA D A ad0 h => ok_aload_n h.1 0 rfl dX4_init_70) <|
  tc (fun p e s m args below meth c cA D A ad0 h => ok_bipush h.1 ⟨by decide, by decide⟩ (by decide) dX4_init_71) <|
  tc (fun p e s m args below meth c cA D A ad0 h => ok_putI h.1 cxX4 (by decide) rfl fkRX4_48 (Or.inr ⟨h.2.2.2.2, rfl⟩) (fun _ _ _ => rfl) (Or.inr (Or.inr rfl)) dX4_init_73) <|
  tc (fun p e s m args below meth c cA D A ad0 h => ok_aload_n h.1 0 rfl dX4_init_76) <|
  tc (fun p e s m args below meth c cA D A ad0 h => ok_iconst h.1 ⟨by decide, by decide⟩ dX4_init_77) <|
  tc (fun p e s m args below meth c cA D A ad0 h => ok_putI h.1 cxX4 (by decide) rfl fkRX4_52 (Or.inr ⟨h.2.2.2.2, rfl⟩) (fun _ _ _ => rfl) (Or.inr (Or.inl rfl)) dX4_init_78) <|
  tc (fun p e s m args below meth c cA D A ad0 h => ok_return h.1 h.2.2.2.1 dX4_init_81) <|
  tn
abbrev cuX4_init : List Nat := [23, 35, 46, 57]
theorem tX4_init_0 (l : Launch) (K : aRs) (X : aXs) : tb (tbX4_init l K X) 0 = sLd 0 1 isR := (rfl)
theorem wX4_init_0 {l : Launch} {K : aRs} {X : aXs} {J : aK} {W : Nat → aK} (hW : isW (tbX4_init l K X) cuX4_init J W) (n : Nat) (ls st : List aV) (μ : aM) (g : Nat) : W (n + 1) 0 ls st μ g = (sLd 0 1 isR) (W n) ls st μ g := (hW n 0 ls st μ g).trans rfl
theorem wX4_init_1 {l : Launch} {K : aRs} {X : aXs} {J : aK} {W : Nat → aK} (hW : isW (tbX4_init l K X) cuX4_init J W) (n : Nat) (ls st : List aV) (μ : aM) (g : Nat) : W (n + 1) 1 ls st μ g = (sObj 4) (W n) ls st μ g := (hW n 1 ls st μ g).trans rfl
theorem wX4_init_4 {l : Launch} {K : aRs} {X : aXs} {J : aK} {W : Nat → aK} (hW : isW (tbX4_init l K X) cuX4_init J W) (n : Nat) (ls st : List aV) (μ : aM) (g : Nat) : W (n + 1) 4 ls st μ g = (sLd 0 5 isR) (W n) ls st μ g := (hW n 4 ls st μ g).trans rfl
theorem wX4_init_5 {l : Launch} {K : aRs} {X : aXs} {J : aK} {W : Nat → aK} (hW : isW (tbX4_init l K X) cuX4_init J W) (n : Nat) (ls st : List aV) (μ : aM) (g : Nat) : W (n + 1) 5 ls st μ g = (sPush (aI 512) 8) (W n) ls st μ g := (hW n 5 ls st μ g).trans rfl
theorem wX4_init_8 {l : Launch} {K : aRs} {X : aXs} {J : aK} {W : Nat → aK} (hW : isW (tbX4_init l K X) cuX4_init J W) (n : Nat) (ls st : List aV) (μ : aM) (g : Nat) : W (n + 1) 8 ls st μ g = (sNewA 10 11 9) (W n) ls st μ g := (hW n 8 ls st μ g).trans rfl
theorem wX4_init_11 {l : Launch} {K : aRs} {X : aXs} {J : aK} {W : Nat → aK} (hW : isW (tbX4_init l K X) cuX4_init J W) (n : Nat) (ls st : List aV) (μ : aM) (g : Nat) : W (n + 1) 11 ls st μ g = (sPutR 4 0 14) (W n) ls st μ g := (hW n 11 ls st μ g).trans rfl
theorem wX4_init_14 {l : Launch} {K : aRs} {X : aXs} {J : aK} {W : Nat → aK} (hW : isW (tbX4_init l K X) cuX4_init J W) (n : Nat) (ls st : List aV) (μ : aM) (g : Nat) : W (n + 1) 14 ls st μ g = (sLd 0 15 isR) (W n) ls st μ g := (hW n 14 ls st μ g).trans rfl
theorem wX4_init_15 {l : Launch} {K : aRs} {X : aXs} {J : aK} {W : Nat → aK} (hW : isW (tbX4_init l K X) cuX4_init J W) (n : Nat) (ls st : List aV) (μ : aM) (g : Nat) : W (n + 1) 15 ls st μ g = (sNewO 1 18 9) (W n) ls st μ g := (hW n 15 ls st μ g).trans rfl
theorem wX4_init_18 {l : Launch} {K : aRs} {X : aXs} {J : aK} {W : Nat → aK} (hW : isW (tbX4_init l K X) cuX4_init J W) (n : Nat) (ls st : List aV) (μ : aM) (g : Nat) : W (n + 1) 18 ls st μ g = (sDup 19) (W n) ls st μ g := (hW n 18 ls st μ g).trans rfl
theorem wX4_init_19 {l : Launch} {K : aRs} {X : aXs} {J : aK} {W : Nat → aK} (hW : isW (tbX4_init l K X) cuX4_init J W) (n : Nat) (ls st : List aV) (μ : aM) (g : Nat) : W (n + 1) 19 ls st μ g = (sPush (aI 1) 20) (W n) ls st μ g := (hW n 19 ls st μ g).trans rfl
theorem wX4_init_20 {l : Launch} {K : aRs} {X : aXs} {J : aK} {W : Nat → aK} (hW : isW (tbX4_init l K X) cuX4_init J W) (n : Nat) (ls st : List aV) (μ : aM) (g : Nat) : W (n + 1) 20 ls st μ g = (sCallV 1 1 (fun as μ K => Ct l mdX1_init as μ K X) 23 0 9) (W n) ls st μ g := (hW n 20 ls st μ g).trans rfl
theorem tX4_init_23 (l : Launch) (K : aRs) (X : aXs) : tb (tbX4_init l K X) 23 = sPutR 4 1 26 := (rfl)
theorem wX4_init_23 {l : Launch} {K : aRs} {X : aXs} {J : aK} {W : Nat → aK} (hW : isW (tbX4_init l K X) cuX4_init J W) (n : Nat) (ls st : List aV) (μ : aM) (g : Nat) : W (n + 1) 23 ls st μ g = J 23 ls st μ g := (hW n 23 ls st μ g).trans rfl
theorem wX4_init_26 {l : Launch} {K : aRs} {X : aXs} {J : aK} {W : Nat → aK} (hW : isW (tbX4_init l K X) cuX4_init J W) (n : Nat) (ls st : List aV) (μ : aM) (g : Nat) : W (n + 1) 26 ls st μ g = (sLd 0 27 isR) (W n) ls st μ g := (hW n 26 ls st μ g).trans rfl
theorem wX4_init_27 {l : Launch} {K : aRs} {X : aXs} {J : aK} {W : Nat → aK} (hW : isW (tbX4_init l K X) cuX4_init J W) (n : Nat) (ls st : List aV) (μ : aM) (g : Nat) : W (n + 1) 27 ls st μ g = (sNewO 1 30 9) (W n) ls st μ g := (hW n 27 ls st μ g).trans rfl
theorem wX4_init_30 {l : Launch} {K : aRs} {X : aXs} {J : aK} {W : Nat → aK} (hW : isW (tbX4_init l K X) cuX4_init J W) (n : Nat) (ls st : List aV) (μ : aM) (g : Nat) : W (n + 1) 30 ls st μ g = (sDup 31) (W n) ls st μ g := (hW n 30 ls st μ g).trans rfl
theorem wX4_init_31 {l : Launch} {K : aRs} {X : aXs} {J : aK} {W : Nat → aK} (hW : isW (tbX4_init l K X) cuX4_init J W) (n : Nat) (ls st : List aV) (μ : aM) (g : Nat) : W (n + 1) 31 ls st μ g = (sPush (aI 0) 32) (W n) ls st μ g := (hW n 31 ls st μ g).trans rfl
theorem wX4_init_32 {l : Launch} {K : aRs} {X : aXs} {J : aK} {W : Nat → aK} (hW : isW (tbX4_init l K X) cuX4_init J W) (n : Nat) (ls st : List aV) (μ : aM) (g : Nat) : W (n + 1) 32 ls st μ g = (sCallV 1 1 (fun as μ K => Ct l mdX1_init as μ K X) 35 0 9) (W n) ls st μ g := (hW n 32 ls st μ g).trans rfl
theorem tX4_init_35 (l : Launch) (K : aRs) (X : aXs) : tb (tbX4_init l K X) 35 = sPutR 4 2 38 := (rfl)
theorem wX4_init_35 {l : Launch} {K : aRs} {X : aXs} {J : aK} {W : Nat → aK} (hW : isW (tbX4_init l K X) cuX4_init J W) (n : Nat) (ls st : List aV) (μ : aM) (g : Nat) : W (n + 1) 35 ls st μ g = J 35 ls st μ g := (hW n 35 ls st μ g).trans rfl
theorem wX4_init_38 {l : Launch} {K : aRs} {X : aXs} {J : aK} {W : Nat → aK} (hW : isW (tbX4_init l K X) cuX4_init J W) (n : Nat) (ls st : List aV) (μ : aM) (g : Nat) : W (n + 1) 38 ls st μ g = (sLd 0 39 isR) (W n) ls st μ g := (hW n 38 ls st μ g).trans rfl
theorem wX4_init_39 {l : Launch} {K : aRs} {X : aXs} {J : aK} {W : Nat → aK} (hW : isW (tbX4_init l K X) cuX4_init J W) (n : Nat) (ls st : List aV) (μ : aM) (g : Nat) : W (n + 1) 39 ls st μ g = (sNewO 3 42 9) (W n) ls st μ g := (hW n 39 ls st μ g).trans rfl
theorem wX4_init_42 {l : Launch} {K : aRs} {X : aXs} {J : aK} {W : Nat → aK} (hW : isW (tbX4_init l K X) cuX4_init J W) (n : Nat) (ls st : List aV) (μ : aM) (g : Nat) : W (n + 1) 42 ls st μ g = (sDup 43) (W n) ls st μ g := (hW n 42 ls st μ g).trans rfl
theorem wX4_init_43 {l : Launch} {K : aRs} {X : aXs} {J : aK} {W : Nat → aK} (hW : isW (tbX4_init l K X) cuX4_init J W) (n : Nat) (ls st : List aV) (μ : aM) (g : Nat) : W (n + 1) 43 ls st μ g = (sCallV 0 3 (fun as μ K => Ct l mdX3_init as μ K X) 46 4 9) (W n) ls st μ g := (hW n 43 ls st μ g).trans rfl
theorem tX4_init_46 (l : Launch) (K : aRs) (X : aXs) : tb (tbX4_init l K X) 46 = sPutR 4 3 49 := (rfl)
theorem wX4_init_46 {l : Launch} {K : aRs} {X : aXs} {J : aK} {W : Nat → aK} (hW : isW (tbX4_init l K X) cuX4_init J W) (n : Nat) (ls st : List aV) (μ : aM) (g : Nat) : W (n + 1) 46 ls st μ g = J 46 ls st μ g := (hW n 46 ls st μ g).trans rfl
theorem wX4_init_49 {l : Launch} {K : aRs} {X : aXs} {J : aK} {W : Nat → aK} (hW : isW (tbX4_init l K X) cuX4_init J W) (n : Nat) (ls st : List aV) (μ : aM) (g : Nat) : W (n + 1) 49 ls st μ g = (sLd 0 50 isR) (W n) ls st μ g := (hW n 49 ls st μ g).trans rfl
theorem wX4_init_50 {l : Launch} {K : aRs} {X : aXs} {J : aK} {W : Nat → aK} (hW : isW (tbX4_init l K X) cuX4_init J W) (n : Nat) (ls st : List aV) (μ : aM) (g : Nat) : W (n + 1) 50 ls st μ g = (sNewO 0 53 9) (W n) ls st μ g := (hW n 50 ls st μ g).trans rfl
theorem wX4_init_53 {l : Launch} {K : aRs} {X : aXs} {J : aK} {W : Nat → aK} (hW : isW (tbX4_init l K X) cuX4_init J W) (n : Nat) (ls st : List aV) (μ : aM) (g : Nat) : W (n + 1) 53 ls st μ g = (sDup 54) (W n) ls st μ g := (hW n 53 ls st μ g).trans rfl
theorem wX4_init_54 {l : Launch} {K : aRs} {X : aXs} {J : aK} {W : Nat → aK} (hW : isW (tbX4_init l K X) cuX4_init J W) (n : Nat) (ls st : List aV) (μ : aM) (g : Nat) : W (n + 1) 54 ls st μ g = (sCallV 0 0 (fun as μ K => Ct l mdX0_init as μ K X) 57 0 9) (W n) ls st μ g := (hW n 54 ls st μ g).trans rfl
theorem tX4_init_57 (l : Launch) (K : aRs) (X : aXs) : tb (tbX4_init l K X) 57 = sPutR 4 4 60 := (rfl)
theorem wX4_init_57 {l : Launch} {K : aRs} {X : aXs} {J : aK} {W : Nat → aK} (hW : isW (tbX4_init l K X) cuX4_init J W) (n : Nat) (ls st : List aV) (μ : aM) (g : Nat) : W (n + 1) 57 ls st μ g = J 57 ls st μ g := (hW n 57 ls st μ g).trans rfl
theorem wX4_init_60 {l : Launch} {K : aRs} {X : aXs} {J : aK} {W : Nat → aK} (hW : isW (tbX4_init l K X) cuX4_init J W) (n : Nat) (ls st : List aV) (μ : aM) (g : Nat) : W (n + 1) 60 ls st μ g = (sLd 0 61 isR) (W n) ls st μ g := (hW n 60 ls st μ g).trans rfl
theorem wX4_init_61 {l : Launch} {K : aRs} {X : aXs} {J : aK} {W : Nat → aK} (hW : isW (tbX4_init l K X) cuX4_init J W) (n : Nat) (ls st : List aV) (μ : aM) (g : Nat) : W (n + 1) 61 ls st μ g = (sPush (aI 0) 62) (W n) ls st μ g := (hW n 61 ls st μ g).trans rfl
theorem wX4_init_62 {l : Launch} {K : aRs} {X : aXs} {J : aK} {W : Nat → aK} (hW : isW (tbX4_init l K X) cuX4_init J W) (n : Nat) (ls st : List aV) (μ : aM) (g : Nat) : W (n + 1) 62 ls st μ g = (sPutI 4 5 65) (W n) ls st μ g := (hW n 62 ls st μ g).trans rfl
theorem wX4_init_65 {l : Launch} {K : aRs} {X : aXs} {J : aK} {W : Nat → aK} (hW : isW (tbX4_init l K X) cuX4_init J W) (n : Nat) (ls st : List aV) (μ : aM) (g : Nat) : W (n + 1) 65 ls st μ g = (sLd 0 66 isR) (W n) ls st μ g := (hW n 65 ls st μ g).trans rfl
theorem wX4_init_66 {l : Launch} {K : aRs} {X : aXs} {J : aK} {W : Nat → aK} (hW : isW (tbX4_init l K X) cuX4_init J W) (n : Nat) (ls st : List aV) (μ : aM) (g : Nat) : W (n + 1) 66 ls st μ g = (sPush (aI 0) 67) (W n) ls st μ g := (hW n 66 ls st μ g).trans rfl
theorem wX4_init_67 {l : Launch} {K : aRs} {X : aXs} {J : aK} {W : Nat → aK} (hW : isW (tbX4_init l K X) cuX4_init J W) (n : Nat) (ls st : List aV) (μ : aM) (g : Nat) : W (n + 1) 67 ls st μ g = (sPutI 4 6 70) (W n) ls st μ g := (hW n 67 ls st μ g).trans rfl
theorem wX4_init_70 {l : Launch} {K : aRs} {X : aXs} {J : aK} {W : Nat → aK} (hW : isW (tbX4_init l K X) cuX4_init J W) (n : Nat) (ls st : List aV) (μ : aM) (g : Nat) : W (n + 1) 70 ls st μ g = (sLd 0 71 isR) (W n) ls st μ g := (hW n 70 ls st μ g).trans rfl
theorem wX4_init_71 {l : Launch} {K : aRs} {X : aXs} {J : aK} {W : Nat → aK} (hW : isW (tbX4_init l K X) cuX4_init J W) (n : Nat) (ls st : List aV) (μ : aM) (g : Nat) : W (n + 1) 71 ls st μ g = (sPush (aI 114) 73) (W n) ls st μ g := (hW n 71 ls st μ g).trans rfl
theorem wX4_init_73 {l : Launch} {K : aRs} {X : aXs} {J : aK} {W : Nat → aK} (hW : isW (tbX4_init l K X) cuX4_init J W) (n : Nat) (ls st : List aV) (μ : aM) (g : Nat) : W (n + 1) 73 ls st μ g = (sPutI 4 7 76) (W n) ls st μ g := (hW n 73 ls st μ g).trans rfl
theorem wX4_init_76 {l : Launch} {K : aRs} {X : aXs} {J : aK} {W : Nat → aK} (hW : isW (tbX4_init l K X) cuX4_init J W) (n : Nat) (ls st : List aV) (μ : aM) (g : Nat) : W (n + 1) 76 ls st μ g = (sLd 0 77 isR) (W n) ls st μ g := (hW n 76 ls st μ g).trans rfl
theorem wX4_init_77 {l : Launch} {K : aRs} {X : aXs} {J : aK} {W : Nat → aK} (hW : isW (tbX4_init l K X) cuX4_init J W) (n : Nat) (ls st : List aV) (μ : aM) (g : Nat) : W (n + 1) 77 ls st μ g = (sPush (aI 0) 78) (W n) ls st μ g := (hW n 77 ls st μ g).trans rfl
theorem wX4_init_78 {l : Launch} {K : aRs} {X : aXs} {J : aK} {W : Nat → aK} (hW : isW (tbX4_init l K X) cuX4_init J W) (n : Nat) (ls st : List aV) (μ : aM) (g : Nat) : W (n + 1) 78 ls st μ g = (sPutI 4 8 81) (W n) ls st μ g := (hW n 78 ls st μ g).trans rfl
theorem wX4_init_81 {l : Launch} {K : aRs} {X : aXs} {J : aK} {W : Nat → aK} (hW : isW (tbX4_init l K X) cuX4_init J W) (n : Nat) (ls st : List aV) (μ : aM) (g : Nat) : W (n + 1) 81 ls st μ g = (sRetV 9 K) (W n) ls st μ g := (hW n 81 ls st μ g).trans rfl
theorem dX4_send_0 : decode cX4_send 0 = .ok (.iload_n 1, 1) := by decide +kernel
theorem dX4_send_1 : decode cX4_send 1 = .ok (.invokestatic 56, 3) := by decide +kernel
theorem dX4_send_4 : decode cX4_send 4 = .ok (.ifCond .eq 33, 3) := by decide +kernel
theorem dX4_send_7 : decode cX4_send 7 = .ok (.iload_n 2, 1) := by decide +kernel
theorem dX4_send_8 : decode cX4_send 8 = .ok (.invokestatic 60, 3) := by decide +kernel
theorem dX4_send_11 : decode cX4_send 11 = .ok (.ifCond .eq 26, 3) := by decide +kernel
theorem dX4_send_14 : decode cX4_send 14 = .ok (.iload_n 3, 1) := by decide +kernel
theorem dX4_send_15 : decode cX4_send 15 = .ok (.invokestatic 64, 3) := by decide +kernel
theorem dX4_send_18 : decode cX4_send 18 = .ok (.ifCond .eq 19, 3) := by decide +kernel
theorem dX4_send_21 : decode cX4_send 21 = .ok (.iload 4, 2) := by decide +kernel
theorem dX4_send_23 : decode cX4_send 23 = .ok (.invokestatic 67, 3) := by decide +kernel
theorem dX4_send_26 : decode cX4_send 26 = .ok (.ifCond .eq 11, 3) := by decide +kernel
theorem dX4_send_29 : decode cX4_send 29 = .ok (.iload 5, 2) := by decide +kernel
theorem dX4_send_31 : decode cX4_send 31 = .ok (.invokestatic 67, 3) := by decide +kernel
theorem dX4_send_34 : decode cX4_send 34 = .ok (.ifCond .ne 11, 3) := by decide +kernel
theorem dX4_send_37 : decode cX4_send 37 = .ok (.new 70, 3) := by decide +kernel
theorem dX4_send_40 : decode cX4_send 40 = .ok (.dup, 1) := by decide +kernel
theorem dX4_send_41 : decode cX4_send 41 = .ok (.invokespecial 72, 3) := by decide +kernel
theorem dX4_send_44 : decode cX4_send 44 = .ok (.athrow, 1) := by decide +kernel
theorem dX4_send_45 : decode cX4_send 45 = .ok (.aload_n 0, 1) := by decide +kernel
theorem dX4_send_46 : decode cX4_send 46 = .ok (.invokevirtual 73, 3) := by decide +kernel
theorem dX4_send_49 : decode cX4_send 49 = .ok (.ifCond .eq 11, 3) := by decide +kernel
theorem dX4_send_52 : decode cX4_send 52 = .ok (.new 77, 3) := by decide +kernel
theorem dX4_send_55 : decode cX4_send 55 = .ok (.dup, 1) := by decide +kernel
theorem dX4_send_56 : decode cX4_send 56 = .ok (.invokespecial 79, 3) := by decide +kernel
theorem dX4_send_59 : decode cX4_send 59 = .ok (.athrow, 1) := by decide +kernel
theorem dX4_send_60 : decode cX4_send 60 = .ok (.new 9, 3) := by decide +kernel
theorem dX4_send_63 : decode cX4_send 63 = .ok (.dup, 1) := by decide +kernel
theorem dX4_send_64 : decode cX4_send 64 = .ok (.aload_n 0, 1) := by decide +kernel
theorem dX4_send_65 : decode cX4_send 65 = .ok (.getfield 41, 3) := by decide +kernel
theorem dX4_send_68 : decode cX4_send 68 = .ok (.iload_n 1, 1) := by decide +kernel
theorem dX4_send_69 : decode cX4_send 69 = .ok (.iload_n 2, 1) := by decide +kernel
theorem dX4_send_70 : decode cX4_send 70 = .ok (.bipush 98, 2) := by decide +kernel
theorem dX4_send_72 : decode cX4_send 72 = .ok (.if_icmp .ne 7, 3) := by decide +kernel
theorem dX4_send_75 : decode cX4_send 75 = .ok (.iconst 1, 1) := by decide +kernel
theorem dX4_send_76 : decode cX4_send 76 = .ok (.goto 4, 3) := by decide +kernel
theorem dX4_send_79 : decode cX4_send 79 = .ok (.iconst 0, 1) := by decide +kernel
theorem dX4_send_80 : decode cX4_send 80 = .ok (.iconst 0, 1) := by decide +kernel
theorem dX4_send_81 : decode cX4_send 81 = .ok (.iload_n 3, 1) := by decide +kernel
theorem dX4_send_82 : decode cX4_send 82 = .ok (.iload 4, 2) := by decide +kernel
theorem dX4_send_84 : decode cX4_send 84 = .ok (.iload 5, 2) := by decide +kernel
theorem dX4_send_86 : decode cX4_send 86 = .ok (.invokespecial 80, 3) := by decide +kernel
theorem dX4_send_89 : decode cX4_send 89 = .ok (.astore 6, 2) := by decide +kernel
theorem dX4_send_91 : decode cX4_send 91 = .ok (.aload_n 0, 1) := by decide +kernel
theorem dX4_send_92 : decode cX4_send 92 = .ok (.aload 6, 2) := by decide +kernel
theorem dX4_send_94 : decode cX4_send 94 = .ok (.invokevirtual 83, 3) := by decide +kernel
theorem dX4_send_97 : decode cX4_send 97 = .ok (.aload_n 0, 1) := by decide +kernel
theorem dX4_send_98 : decode cX4_send 98 = .ok (.aload 6, 2) := by decide +kernel
theorem dX4_send_100 : decode cX4_send 100 = .ok (.invokevirtual 87, 3) := by decide +kernel
theorem dX4_send_103 : decode cX4_send 103 = .ok (.aload_n 0, 1) := by decide +kernel
theorem dX4_send_104 : decode cX4_send 104 = .ok (.invokevirtual 90, 3) := by decide +kernel
theorem dX4_send_107 : decode cX4_send 107 = .ok (.aload 6, 2) := by decide +kernel
theorem dX4_send_109 : decode cX4_send 109 = .ok (.getfield 93, 3) := by decide +kernel
theorem dX4_send_112 : decode cX4_send 112 = .ok (.ireturn, 1) := by decide +kernel
def tbX4_send (l : Launch) (K : aRs) (X : aXs) : aTb := [
  (0, sLd 1 1 isI),
  (1, sCallS 1 (fun as μ K => Ct l mdX4_isOwner as μ K X) 4 0 3),
  (4, sIf pEq 37 7),
  (7, sLd 2 8 isI),
  (8, sCallS 1 (fun as μ K => Ct l mdX4_isSide as μ K X) 11 0 3),
  (11, sIf pEq 37 14),
  (14, sLd 3 15 isI),
  (15, sCallS 1 (fun as μ K => Ct l mdX4_isPrice as μ K X) 18 0 3),
  (18, sIf pEq 37 21),
  (21, sLd 4 23 isI),
  (23, sCallS 1 (fun as μ K => Ct l mdX4_isAmount as μ K X) 26 0 3),
  (26, sIf pEq 37 29),
  (29, sLd 5 31 isI),
  (31, sCallS 1 (fun as μ K => Ct l mdX4_isAmount as μ K X) 34 0 3),
  (34, sIf pNe 45 37),
  (37, sThrow 1 3 X),
  (45, sLd 0 46 isR),
  (46, sCallV 0 4 (fun as μ K => Ct l mdX4_isFull as μ K X) 49 0 3),
  (49, sIf pEq 60 52),
  (52, sThrow 2 3 X),
  (60, sNewO 2 63 3),
  (63, sDup 64),
  (64, sLd 0 65 isR),
  (65, sGetI 4 5 68),
  (68, sLd 1 69 isI),
  (69, sLd 2 70 isI),
  (70, sPush (aI 98) 72),
  (72, sIc qNe 79 75),
  (75, sPush (aI 1) 76),
  (76, sGoto 80),
  (79, sPush (aI 0) 80),
  (80, sPush (aI 0) 81),
  (81, sLd 3 82 isI),
  (82, sLd 4 84 isI),
  (84, sLd 5 86 isI),
  (86, sCallV 7 2 (fun as μ K => Ct l mdX2_init as μ K X) 89 0 3),
  (89, sSt 6 91 isR),
  (91, sLd 0 92 isR),
  (92, sLd 6 94 isR),
  (94, sCallV 1 4 (fun as μ K => Ct l mdX4_keep as μ K X) 97 0 3),
  (97, sLd 0 98 isR),
  (98, sLd 6 100 isR),
  (100, sCallV 1 4 (fun as μ K => Ct l mdX4_comeIn as μ K X) 103 0 3),
  (103, sLd 0 104 isR),
  (104, sCallV 0 4 (fun as μ K => Ct l mdX4_setOffStops as μ K X) 107 0 3),
  (107, sLd 6 109 isR),
  (109, sGetI 2 0 112),
  (112, sRetI .int 3 K)]
theorem snX4_send (l : Launch) (K : aRs) (X : aXs) (n0 : Nat) : ∀ q ∈ tbX4_send l K X, aSo l mdX4_send K X n0 q.1 q.2 :=
  tc (fun p e s m args below meth c cA D A ad0 h => ok_iload_n h.1 1 rfl dX4_send_0) <|
  tc (fun p e s m args below meth c cA D A ad0 h => ok_callS h.1 h.2.1 ⟨Nat.le_refl _, Nat.le_refl _⟩ mdX4_isOwner siX4_isOwner mkRX4_56 stX4_isOwner ⟨by decide, by decide⟩ (aAx_out h.1 h.2.2.1 _) dX4_send_1) <|
  tc (fun p e s m args below meth c cA D A ad0 h => ok_if_eq h.1 37 (by decide) dX4_send_4) <|
  tc (fun p e s m args below meth c cA D A ad0 h => ok_iload_n h.1 2 rfl dX4_send_7) <|
  tc (fun p e s m args below meth c cA D A ad0 h => ok_callS h.1 h.2.1 ⟨Nat.le_refl _, Nat.le_refl _⟩ mdX4_isSide siX4_isSide mkRX4_60 stX4_isSide ⟨by decide, by decide⟩ (aAx_out h.1 h.2.2.1 _) dX4_send_8) <|
  tc (fun p e s m args below meth c cA D A ad0 h => ok_if_eq h.1 37 (by decide) dX4_send_11) <|
  tc (fun p e s m args below meth c cA D A ad0 h => ok_iload_n h.1 3 rfl dX4_send_14) <|
  tc (fun p e s m args below meth c cA D A ad0 h => ok_callS h.1 h.2.1 ⟨Nat.le_refl _, Nat.le_refl _⟩ mdX4_isPrice siX4_isPrice mkRX4_64 stX4_isPrice ⟨by decide, by decide⟩ (aAx_out h.1 h.2.2.1 _) dX4_send_15) <|
  tc (fun p e s m args below meth c cA D A ad0 h => ok_if_eq h.1 37 (by decide) dX4_send_18) <|
  tc (fun p e s m args below meth c cA D A ad0 h => ok_iload h.1 dX4_send_21) <|
  tc (fun p e s m args below meth c cA D A ad0 h => ok_callS h.1 h.2.1 ⟨Nat.le_refl _, Nat.le_refl _⟩ mdX4_isAmount siX4_isAmount mkRX4_67 stX4_isAmount ⟨by decide, by decide⟩ (aAx_out h.1 h.2.2.1 _) dX4_send_23) <|
  tc (fun p e s m args below meth c cA D A ad0 h => ok_if_eq h.1 37 (by decide) dX4_send_26) <|
  tc (fun p e s m args below meth c cA D A ad0 h => ok_iload h.1 dX4_send_29) <|
  tc (fun p e s m args below meth c cA D A ad0 h => ok_callS h.1 h.2.1 ⟨Nat.le_refl _, Nat.le_refl _⟩ mdX4_isAmount siX4_isAmount mkRX4_67 stX4_isAmount ⟨by decide, by decide⟩ (aAx_out h.1 h.2.2.1 _) dX4_send_31) <|
  tc (fun p e s m args below meth c cA D A ad0 h => ok_if_ne h.1 45 (by decide) dX4_send_34) <|
  tc (fun p e s m args below meth c cA D A ad0 h => ok_throw h.1 h.2.1 ⟨Nat.le_refl _, Nat.le_refl _⟩ h.2.2.1 (by decide) (by decide) ckRX4_70 niE1 xaE1 xbE1 xcE1 dX4_send_37 dX4_send_40 dX4_send_41 dX4_send_44 (by decide) (by decide)) <|
  tc (fun p e s m args below meth c cA D A ad0 h => ok_aload_n h.1 0 rfl dX4_send_45) <|
  tc (fun p e s m args below meth c cA D A ad0 h => ok_callV h.1 h.2.1 ⟨Nat.le_refl _, Nat.le_refl _⟩ mdX4_isFull siX4_isFull cxX4 mkRX4_73 imX4_isFull seX4_isFull ⟨by decide, by decide⟩ (aAx_out h.1 h.2.2.1 _) dX4_send_46) <|
  tc (fun p e s m args below meth c cA D A ad0 h => ok_if_eq h.1 60 (by decide) dX4_send_49) <|
  tc (fun p e s m args below meth c cA D A ad0 h => ok_throw h.1 h.2.1 ⟨Nat.le_refl _, Nat.le_refl _⟩ h.2.2.1 (by decide) (by decide) ckRX4_77 niE2 xaE2 xbE2 xcE2 dX4_send_52 dX4_send_55 dX4_send_56 dX4_send_59 (by decide) (by decide)) <|
  tc (fun p e s m args below meth c cA D A ad0 h => ok_newO h.1 ⟨Nat.le_refl _, Nat.le_refl _⟩ cxX2 (by decide) (by decide) ckRX4_9 iaX2 niRX2 dX4_send_60) <|
  tc (fun p e s m args below meth c cA D A ad0 h => ok_dup h.1 dX4_send_63) <|
  tc (fun p e s m args below meth c cA D A ad0 h => ok_aload_n h.1 0 rfl dX4_send_64) <|
  tc (fun p e s m args below meth c cA D A ad0 h => ok_getI h.1 cxX4 (by decide) rfl fkRX4_41 (fun _ _ _ => rfl) dX4_send_65) <|
  tc (fun p e s m args below meth c cA D A ad0 h => ok_iload_n h.1 1 rfl dX4_send_68) <|
  tc (fun p e s m args below meth c cA D A ad0 h => ok_iload_n h.1 2 rfl dX4_send_69) <|
  tc (fun p e s m args below meth c cA D A ad0 h => ok_bipush h.1 ⟨by decide, by decide⟩ (by decide) dX4_send_70) <|
  tc (fun p e s m args below meth c cA D A ad0 h => ok_icmp_ne h.1 79 (by decide) dX4_send_72) <|
  tc (fun p e s m args below meth c cA D A ad0 h => ok_iconst h.1 ⟨by decide, by decide⟩ dX4_send_75) <|
  tc (fun p e s m args below meth c cA D A ad0 h => ok_goto h.1 80 (by decide) dX4_send_76) <|
  tc (fun p e s m args below meth c cA D A ad0 h => ok_iconst h.1 ⟨by decide, by decide⟩ dX4_send_79) <|
  tc (fun p e s m args below meth c cA D A ad0 h => ok_iconst h.1 ⟨by decide, by decide⟩ dX4_send_80) <|
  tc (fun p e s m args below meth c cA D A ad0 h => ok_iload_n h.1 3 rfl dX4_send_81) <|
  tc (fun p e s m args below meth c cA D A ad0 h => ok_iload h.1 dX4_send_82) <|
  tc (fun p e s m args below meth c cA D A ad0 h => ok_iload h.1 dX4_send_84) <|
  tc (fun p e s m args below meth c cA D A ad0 h => ok_callI h.1 h.2.1 ⟨Nat.le_refl _, Nat.le_refl _⟩ mdX2_init siX2_init rfl rfl mkRX4_80 imX2_init ⟨by decide, by decide⟩ (aAx_out h.1 h.2.2.1 _) dX4_send_86) <|
  tc (fun p e s m args below meth c cA D A ad0 h => ok_astore h.1 (by decide) dX4_send_89) <|
  tc (fun p e s m args below meth c cA D A ad0 h => ok_aload_n h.1 0 rfl dX4_send_91) <|
  tc (fun p e s m args below meth c cA D A ad0 h => ok_aload h.1 dX4_send_92) <|
  tc (fun p e s m args below meth c cA D A ad0 h => ok_callV h.1 h.2.1 ⟨Nat.le_refl _, Nat.le_refl _⟩ mdX4_keep siX4_keep cxX4 mkRX4_83 imX4_keep seX4_keep ⟨by decide, by decide⟩ (aAx_out h.1 h.2.2.1 _) dX4_send_94) <|
  tc (fun p e s m args below meth c cA D A ad0 h => ok_aload_n h.1 0 rfl dX4_send_97) <|
  tc (fun p e s m args below meth c cA D A ad0 h => ok_aload h.1 dX4_send_98) <|
  tc (fun p e s m args below meth c cA D A ad0 h => ok_callV h.1 h.2.1 ⟨Nat.le_refl _, Nat.le_refl _⟩ mdX4_comeIn siX4_comeIn cxX4 mkRX4_87 imX4_comeIn seX4_comeIn ⟨by decide, by decide⟩ (aAx_out h.1 h.2.2.1 _) dX4_send_100) <|
  tc (fun p e s m args below meth c cA D A ad0 h => ok_aload_n h.1 0 rfl dX4_send_103) <|
  tc (fun p e s m args below meth c cA D A ad0 h => ok_callV h.1 h.2.1 ⟨Nat.le_refl _, Nat.le_refl _⟩ mdX4_setOffStops siX4_setOffStops cxX4 mkRX4_90 imX4_setOffStops seX4_setOffStops ⟨by decide, by decide⟩ (aAx_out h.1 h.2.2.1 _) dX4_send_104) <|
  tc (fun p e s m args below meth c cA D A ad0 h => ok_aload h.1 dX4_send_107) <|
  tc (fun p e s m args below meth c cA D A ad0 h => ok_getI h.1 cxX2 (by decide) rfl fkRX4_93 (fun _ _ _ => rfl) dX4_send_109) <|
  tc (fun p e s m args below meth c cA D A ad0 h => ok_ireturn h.1 h.2.2.2.1 (Or.inl rfl) dX4_send_112) <|
  tn
abbrev cuX4_send : List Nat := [4, 11, 18, 26, 34, 49, 89, 97, 103, 107]
theorem tX4_send_0 (l : Launch) (K : aRs) (X : aXs) : tb (tbX4_send l K X) 0 = sLd 1 1 isI := (rfl)
theorem wX4_send_0 {l : Launch} {K : aRs} {X : aXs} {J : aK} {W : Nat → aK} (hW : isW (tbX4_send l K X) cuX4_send J W) (n : Nat) (ls st : List aV) (μ : aM) (g : Nat) : W (n + 1) 0 ls st μ g = (sLd 1 1 isI) (W n) ls st μ g := (hW n 0 ls st μ g).trans rfl
theorem wX4_send_1 {l : Launch} {K : aRs} {X : aXs} {J : aK} {W : Nat → aK} (hW : isW (tbX4_send l K X) cuX4_send J W) (n : Nat) (ls st : List aV) (μ : aM) (g : Nat) : W (n + 1) 1 ls st μ g = (sCallS 1 (fun as μ K => Ct l mdX4_isOwner as μ K X) 4 0 3) (W n) ls st μ g := (hW n 1 ls st μ g).trans rfl
theorem tX4_send_4 (l : Launch) (K : aRs) (X : aXs) : tb (tbX4_send l K X) 4 = sIf pEq 37 7 := (rfl)
theorem wX4_send_4 {l : Launch} {K : aRs} {X : aXs} {J : aK} {W : Nat → aK} (hW : isW (tbX4_send l K X) cuX4_send J W) (n : Nat) (ls st : List aV) (μ : aM) (g : Nat) : W (n + 1) 4 ls st μ g = J 4 ls st μ g := (hW n 4 ls st μ g).trans rfl
theorem wX4_send_7 {l : Launch} {K : aRs} {X : aXs} {J : aK} {W : Nat → aK} (hW : isW (tbX4_send l K X) cuX4_send J W) (n : Nat) (ls st : List aV) (μ : aM) (g : Nat) : W (n + 1) 7 ls st μ g = (sLd 2 8 isI) (W n) ls st μ g := (hW n 7 ls st μ g).trans rfl
theorem wX4_send_8 {l : Launch} {K : aRs} {X : aXs} {J : aK} {W : Nat → aK} (hW : isW (tbX4_send l K X) cuX4_send J W) (n : Nat) (ls st : List aV) (μ : aM) (g : Nat) : W (n + 1) 8 ls st μ g = (sCallS 1 (fun as μ K => Ct l mdX4_isSide as μ K X) 11 0 3) (W n) ls st μ g := (hW n 8 ls st μ g).trans rfl
theorem tX4_send_11 (l : Launch) (K : aRs) (X : aXs) : tb (tbX4_send l K X) 11 = sIf pEq 37 14 := (rfl)
theorem wX4_send_11 {l : Launch} {K : aRs} {X : aXs} {J : aK} {W : Nat → aK} (hW : isW (tbX4_send l K X) cuX4_send J W) (n : Nat) (ls st : List aV) (μ : aM) (g : Nat) : W (n + 1) 11 ls st μ g = J 11 ls st μ g := (hW n 11 ls st μ g).trans rfl
theorem wX4_send_14 {l : Launch} {K : aRs} {X : aXs} {J : aK} {W : Nat → aK} (hW : isW (tbX4_send l K X) cuX4_send J W) (n : Nat) (ls st : List aV) (μ : aM) (g : Nat) : W (n + 1) 14 ls st μ g = (sLd 3 15 isI) (W n) ls st μ g := (hW n 14 ls st μ g).trans rfl
theorem wX4_send_15 {l : Launch} {K : aRs} {X : aXs} {J : aK} {W : Nat → aK} (hW : isW (tbX4_send l K X) cuX4_send J W) (n : Nat) (ls st : List aV) (μ : aM) (g : Nat) : W (n + 1) 15 ls st μ g = (sCallS 1 (fun as μ K => Ct l mdX4_isPrice as μ K X) 18 0 3) (W n) ls st μ g := (hW n 15 ls st μ g).trans rfl
theorem tX4_send_18 (l : Launch) (K : aRs) (X : aXs) : tb (tbX4_send l K X) 18 = sIf pEq 37 21 := (rfl)
theorem wX4_send_18 {l : Launch} {K : aRs} {X : aXs} {J : aK} {W : Nat → aK} (hW : isW (tbX4_send l K X) cuX4_send J W) (n : Nat) (ls st : List aV) (μ : aM) (g : Nat) : W (n + 1) 18 ls st μ g = J 18 ls st μ g := (hW n 18 ls st μ g).trans rfl
theorem wX4_send_21 {l : Launch} {K : aRs} {X : aXs} {J : aK} {W : Nat → aK} (hW : isW (tbX4_send l K X) cuX4_send J W) (n : Nat) (ls st : List aV) (μ : aM) (g : Nat) : W (n + 1) 21 ls st μ g = (sLd 4 23 isI) (W n) ls st μ g := (hW n 21 ls st μ g).trans rfl
theorem wX4_send_23 {l : Launch} {K : aRs} {X : aXs} {J : aK} {W : Nat → aK} (hW : isW (tbX4_send l K X) cuX4_send J W) (n : Nat) (ls st : List aV) (μ : aM) (g : Nat) : W (n + 1) 23 ls st μ g = (sCallS 1 (fun as μ K => Ct l mdX4_isAmount as μ K X) 26 0 3) (W n) ls st μ g := (hW n 23 ls st μ g).trans rfl
theorem tX4_send_26 (l : Launch) (K : aRs) (X : aXs) : tb (tbX4_send l K X) 26 = sIf pEq 37 29 := (rfl)
theorem wX4_send_26 {l : Launch} {K : aRs} {X : aXs} {J : aK} {W : Nat → aK} (hW : isW (tbX4_send l K X) cuX4_send J W) (n : Nat) (ls st : List aV) (μ : aM) (g : Nat) : W (n + 1) 26 ls st μ g = J 26 ls st μ g := (hW n 26 ls st μ g).trans rfl
theorem wX4_send_29 {l : Launch} {K : aRs} {X : aXs} {J : aK} {W : Nat → aK} (hW : isW (tbX4_send l K X) cuX4_send J W) (n : Nat) (ls st : List aV) (μ : aM) (g : Nat) : W (n + 1) 29 ls st μ g = (sLd 5 31 isI) (W n) ls st μ g := (hW n 29 ls st μ g).trans rfl
theorem wX4_send_31 {l : Launch} {K : aRs} {X : aXs} {J : aK} {W : Nat → aK} (hW : isW (tbX4_send l K X) cuX4_send J W) (n : Nat) (ls st : List aV) (μ : aM) (g : Nat) : W (n + 1) 31 ls st μ g = (sCallS 1 (fun as μ K => Ct l mdX4_isAmount as μ K X) 34 0 3) (W n) ls st μ g := (hW n 31 ls st μ g).trans rfl
theorem tX4_send_34 (l : Launch) (K : aRs) (X : aXs) : tb (tbX4_send l K X) 34 = sIf pNe 45 37 := (rfl)
theorem wX4_send_34 {l : Launch} {K : aRs} {X : aXs} {J : aK} {W : Nat → aK} (hW : isW (tbX4_send l K X) cuX4_send J W) (n : Nat) (ls st : List aV) (μ : aM) (g : Nat) : W (n + 1) 34 ls st μ g = J 34 ls st μ g := (hW n 34 ls st μ g).trans rfl
theorem wX4_send_37 {l : Launch} {K : aRs} {X : aXs} {J : aK} {W : Nat → aK} (hW : isW (tbX4_send l K X) cuX4_send J W) (n : Nat) (ls st : List aV) (μ : aM) (g : Nat) : W (n + 1) 37 ls st μ g = (sThrow 1 3 X) (W n) ls st μ g := (hW n 37 ls st μ g).trans rfl
theorem wX4_send_45 {l : Launch} {K : aRs} {X : aXs} {J : aK} {W : Nat → aK} (hW : isW (tbX4_send l K X) cuX4_send J W) (n : Nat) (ls st : List aV) (μ : aM) (g : Nat) : W (n + 1) 45 ls st μ g = (sLd 0 46 isR) (W n) ls st μ g := (hW n 45 ls st μ g).trans rfl
theorem wX4_send_46 {l : Launch} {K : aRs} {X : aXs} {J : aK} {W : Nat → aK} (hW : isW (tbX4_send l K X) cuX4_send J W) (n : Nat) (ls st : List aV) (μ : aM) (g : Nat) : W (n + 1) 46 ls st μ g = (sCallV 0 4 (fun as μ K => Ct l mdX4_isFull as μ K X) 49 0 3) (W n) ls st μ g := (hW n 46 ls st μ g).trans rfl
theorem tX4_send_49 (l : Launch) (K : aRs) (X : aXs) : tb (tbX4_send l K X) 49 = sIf pEq 60 52 := (rfl)
theorem wX4_send_49 {l : Launch} {K : aRs} {X : aXs} {J : aK} {W : Nat → aK} (hW : isW (tbX4_send l K X) cuX4_send J W) (n : Nat) (ls st : List aV) (μ : aM) (g : Nat) : W (n + 1) 49 ls st μ g = J 49 ls st μ g := (hW n 49 ls st μ g).trans rfl
theorem wX4_send_52 {l : Launch} {K : aRs} {X : aXs} {J : aK} {W : Nat → aK} (hW : isW (tbX4_send l K X) cuX4_send J W) (n : Nat) (ls st : List aV) (μ : aM) (g : Nat) : W (n + 1) 52 ls st μ g = (sThrow 2 3 X) (W n) ls st μ g := (hW n 52 ls st μ g).trans rfl
theorem wX4_send_60 {l : Launch} {K : aRs} {X : aXs} {J : aK} {W : Nat → aK} (hW : isW (tbX4_send l K X) cuX4_send J W) (n : Nat) (ls st : List aV) (μ : aM) (g : Nat) : W (n + 1) 60 ls st μ g = (sNewO 2 63 3) (W n) ls st μ g := (hW n 60 ls st μ g).trans rfl
theorem wX4_send_63 {l : Launch} {K : aRs} {X : aXs} {J : aK} {W : Nat → aK} (hW : isW (tbX4_send l K X) cuX4_send J W) (n : Nat) (ls st : List aV) (μ : aM) (g : Nat) : W (n + 1) 63 ls st μ g = (sDup 64) (W n) ls st μ g := (hW n 63 ls st μ g).trans rfl
theorem wX4_send_64 {l : Launch} {K : aRs} {X : aXs} {J : aK} {W : Nat → aK} (hW : isW (tbX4_send l K X) cuX4_send J W) (n : Nat) (ls st : List aV) (μ : aM) (g : Nat) : W (n + 1) 64 ls st μ g = (sLd 0 65 isR) (W n) ls st μ g := (hW n 64 ls st μ g).trans rfl
theorem wX4_send_65 {l : Launch} {K : aRs} {X : aXs} {J : aK} {W : Nat → aK} (hW : isW (tbX4_send l K X) cuX4_send J W) (n : Nat) (ls st : List aV) (μ : aM) (g : Nat) : W (n + 1) 65 ls st μ g = (sGetI 4 5 68) (W n) ls st μ g := (hW n 65 ls st μ g).trans rfl
theorem wX4_send_68 {l : Launch} {K : aRs} {X : aXs} {J : aK} {W : Nat → aK} (hW : isW (tbX4_send l K X) cuX4_send J W) (n : Nat) (ls st : List aV) (μ : aM) (g : Nat) : W (n + 1) 68 ls st μ g = (sLd 1 69 isI) (W n) ls st μ g := (hW n 68 ls st μ g).trans rfl
theorem wX4_send_69 {l : Launch} {K : aRs} {X : aXs} {J : aK} {W : Nat → aK} (hW : isW (tbX4_send l K X) cuX4_send J W) (n : Nat) (ls st : List aV) (μ : aM) (g : Nat) : W (n + 1) 69 ls st μ g = (sLd 2 70 isI) (W n) ls st μ g := (hW n 69 ls st μ g).trans rfl
theorem wX4_send_70 {l : Launch} {K : aRs} {X : aXs} {J : aK} {W : Nat → aK} (hW : isW (tbX4_send l K X) cuX4_send J W) (n : Nat) (ls st : List aV) (μ : aM) (g : Nat) : W (n + 1) 70 ls st μ g = (sPush (aI 98) 72) (W n) ls st μ g := (hW n 70 ls st μ g).trans rfl
theorem wX4_send_72 {l : Launch} {K : aRs} {X : aXs} {J : aK} {W : Nat → aK} (hW : isW (tbX4_send l K X) cuX4_send J W) (n : Nat) (ls st : List aV) (μ : aM) (g : Nat) : W (n + 1) 72 ls st μ g = (sIc qNe 79 75) (W n) ls st μ g := (hW n 72 ls st μ g).trans rfl
theorem wX4_send_75 {l : Launch} {K : aRs} {X : aXs} {J : aK} {W : Nat → aK} (hW : isW (tbX4_send l K X) cuX4_send J W) (n : Nat) (ls st : List aV) (μ : aM) (g : Nat) : W (n + 1) 75 ls st μ g = (sPush (aI 1) 76) (W n) ls st μ g := (hW n 75 ls st μ g).trans rfl
theorem wX4_send_76 {l : Launch} {K : aRs} {X : aXs} {J : aK} {W : Nat → aK} (hW : isW (tbX4_send l K X) cuX4_send J W) (n : Nat) (ls st : List aV) (μ : aM) (g : Nat) : W (n + 1) 76 ls st μ g = (sGoto 80) (W n) ls st μ g := (hW n 76 ls st μ g).trans rfl
theorem wX4_send_79 {l : Launch} {K : aRs} {X : aXs} {J : aK} {W : Nat → aK} (hW : isW (tbX4_send l K X) cuX4_send J W) (n : Nat) (ls st : List aV) (μ : aM) (g : Nat) : W (n + 1) 79 ls st μ g = (sPush (aI 0) 80) (W n) ls st μ g := (hW n 79 ls st μ g).trans rfl
theorem wX4_send_80 {l : Launch} {K : aRs} {X : aXs} {J : aK} {W : Nat → aK} (hW : isW (tbX4_send l K X) cuX4_send J W) (n : Nat) (ls st : List aV) (μ : aM) (g : Nat) : W (n + 1) 80 ls st μ g = (sPush (aI 0) 81) (W n) ls st μ g := (hW n 80 ls st μ g).trans rfl
theorem wX4_send_81 {l : Launch} {K : aRs} {X : aXs} {J : aK} {W : Nat → aK} (hW : isW (tbX4_send l K X) cuX4_send J W) (n : Nat) (ls st : List aV) (μ : aM) (g : Nat) : W (n + 1) 81 ls st μ g = (sLd 3 82 isI) (W n) ls st μ g := (hW n 81 ls st μ g).trans rfl
theorem wX4_send_82 {l : Launch} {K : aRs} {X : aXs} {J : aK} {W : Nat → aK} (hW : isW (tbX4_send l K X) cuX4_send J W) (n : Nat) (ls st : List aV) (μ : aM) (g : Nat) : W (n + 1) 82 ls st μ g = (sLd 4 84 isI) (W n) ls st μ g := (hW n 82 ls st μ g).trans rfl
theorem wX4_send_84 {l : Launch} {K : aRs} {X : aXs} {J : aK} {W : Nat → aK} (hW : isW (tbX4_send l K X) cuX4_send J W) (n : Nat) (ls st : List aV) (μ : aM) (g : Nat) : W (n + 1) 84 ls st μ g = (sLd 5 86 isI) (W n) ls st μ g := (hW n 84 ls st μ g).trans rfl
theorem wX4_send_86 {l : Launch} {K : aRs} {X : aXs} {J : aK} {W : Nat → aK} (hW : isW (tbX4_send l K X) cuX4_send J W) (n : Nat) (ls st : List aV) (μ : aM) (g : Nat) : W (n + 1) 86 ls st μ g = (sCallV 7 2 (fun as μ K => Ct l mdX2_init as μ K X) 89 0 3) (W n) ls st μ g := (hW n 86 ls st μ g).trans rfl
theorem tX4_send_89 (l : Launch) (K : aRs) (X : aXs) : tb (tbX4_send l K X) 89 = sSt 6 91 isR := (rfl)
theorem wX4_send_89 {l : Launch} {K : aRs} {X : aXs} {J : aK} {W : Nat → aK} (hW : isW (tbX4_send l K X) cuX4_send J W) (n : Nat) (ls st : List aV) (μ : aM) (g : Nat) : W (n + 1) 89 ls st μ g = J 89 ls st μ g := (hW n 89 ls st μ g).trans rfl
theorem wX4_send_91 {l : Launch} {K : aRs} {X : aXs} {J : aK} {W : Nat → aK} (hW : isW (tbX4_send l K X) cuX4_send J W) (n : Nat) (ls st : List aV) (μ : aM) (g : Nat) : W (n + 1) 91 ls st μ g = (sLd 0 92 isR) (W n) ls st μ g := (hW n 91 ls st μ g).trans rfl
theorem wX4_send_92 {l : Launch} {K : aRs} {X : aXs} {J : aK} {W : Nat → aK} (hW : isW (tbX4_send l K X) cuX4_send J W) (n : Nat) (ls st : List aV) (μ : aM) (g : Nat) : W (n + 1) 92 ls st μ g = (sLd 6 94 isR) (W n) ls st μ g := (hW n 92 ls st μ g).trans rfl
theorem wX4_send_94 {l : Launch} {K : aRs} {X : aXs} {J : aK} {W : Nat → aK} (hW : isW (tbX4_send l K X) cuX4_send J W) (n : Nat) (ls st : List aV) (μ : aM) (g : Nat) : W (n + 1) 94 ls st μ g = (sCallV 1 4 (fun as μ K => Ct l mdX4_keep as μ K X) 97 0 3) (W n) ls st μ g := (hW n 94 ls st μ g).trans rfl
theorem tX4_send_97 (l : Launch) (K : aRs) (X : aXs) : tb (tbX4_send l K X) 97 = sLd 0 98 isR := (rfl)
theorem wX4_send_97 {l : Launch} {K : aRs} {X : aXs} {J : aK} {W : Nat → aK} (hW : isW (tbX4_send l K X) cuX4_send J W) (n : Nat) (ls st : List aV) (μ : aM) (g : Nat) : W (n + 1) 97 ls st μ g = J 97 ls st μ g := (hW n 97 ls st μ g).trans rfl
theorem wX4_send_98 {l : Launch} {K : aRs} {X : aXs} {J : aK} {W : Nat → aK} (hW : isW (tbX4_send l K X) cuX4_send J W) (n : Nat) (ls st : List aV) (μ : aM) (g : Nat) : W (n + 1) 98 ls st μ g = (sLd 6 100 isR) (W n) ls st μ g := (hW n 98 ls st μ g).trans rfl
theorem wX4_send_100 {l : Launch} {K : aRs} {X : aXs} {J : aK} {W : Nat → aK} (hW : isW (tbX4_send l K X) cuX4_send J W) (n : Nat) (ls st : List aV) (μ : aM) (g : Nat) : W (n + 1) 100 ls st μ g = (sCallV 1 4 (fun as μ K => Ct l mdX4_comeIn as μ K X) 103 0 3) (W n) ls st μ g := (hW n 100 ls st μ g).trans rfl
theorem tX4_send_103 (l : Launch) (K : aRs) (X : aXs) : tb (tbX4_send l K X) 103 = sLd 0 104 isR := (rfl)
theorem wX4_send_103 {l : Launch} {K : aRs} {X : aXs} {J : aK} {W : Nat → aK} (hW : isW (tbX4_send l K X) cuX4_send J W) (n : Nat) (ls st : List aV) (μ : aM) (g : Nat) : W (n + 1) 103 ls st μ g = J 103 ls st μ g := (hW n 103 ls st μ g).trans rfl
theorem wX4_send_104 {l : Launch} {K : aRs} {X : aXs} {J : aK} {W : Nat → aK} (hW : isW (tbX4_send l K X) cuX4_send J W) (n : Nat) (ls st : List aV) (μ : aM) (g : Nat) : W (n + 1) 104 ls st μ g = (sCallV 0 4 (fun as μ K => Ct l mdX4_setOffStops as μ K X) 107 0 3) (W n) ls st μ g := (hW n 104 ls st μ g).trans rfl
theorem tX4_send_107 (l : Launch) (K : aRs) (X : aXs) : tb (tbX4_send l K X) 107 = sLd 6 109 isR := (rfl)
theorem wX4_send_107 {l : Launch} {K : aRs} {X : aXs} {J : aK} {W : Nat → aK} (hW : isW (tbX4_send l K X) cuX4_send J W) (n : Nat) (ls st : List aV) (μ : aM) (g : Nat) : W (n + 1) 107 ls st μ g = J 107 ls st μ g := (hW n 107 ls st μ g).trans rfl
theorem wX4_send_109 {l : Launch} {K : aRs} {X : aXs} {J : aK} {W : Nat → aK} (hW : isW (tbX4_send l K X) cuX4_send J W) (n : Nat) (ls st : List aV) (μ : aM) (g : Nat) : W (n + 1) 109 ls st μ g = (sGetI 2 0 112) (W n) ls st μ g := (hW n 109 ls st μ g).trans rfl
theorem wX4_send_112 {l : Launch} {K : aRs} {X : aXs} {J : aK} {W : Nat → aK} (hW : isW (tbX4_send l K X) cuX4_send J W) (n : Nat) (ls st : List aV) (μ : aM) (g : Nat) : W (n + 1) 112 ls st μ g = (sRetI .int 3 K) (W n) ls st μ g := (hW n 112 ls st μ g).trans rfl
theorem dX4_sendStop_0 : decode cX4_sendStop 0 = .ok (.iload_n 1, 1) := by decide +kernel
theorem dX4_sendStop_1 : decode cX4_sendStop 1 = .ok (.invokestatic 56, 3) := by decide +kernel
theorem dX4_sendStop_4 : decode cX4_sendStop 4 = .ok (.ifCond .eq 33, 3) := by decide +kernel
theorem dX4_sendStop_7 : decode cX4_sendStop 7 = .ok (.iload_n 2, 1) := by decide +kernel
theorem dX4_sendStop_8 : decode cX4_sendStop 8 = .ok (.invokestatic 60, 3) := by decide +kernel
theorem dX4_sendStop_11 : decode cX4_sendStop 11 = .ok (.ifCond .eq 26, 3) := by decide +kernel
theorem dX4_sendStop_14 : decode cX4_sendStop 14 = .ok (.iload_n 3, 1) := by decide +kernel
theorem dX4_sendStop_15 : decode cX4_sendStop 15 = .ok (.invokestatic 64, 3) := by decide +kernel
theorem dX4_sendStop_18 : decode cX4_sendStop 18 = .ok (.ifCond .eq 19, 3) := by decide +kernel
theorem dX4_sendStop_21 : decode cX4_sendStop 21 = .ok (.iload 4, 2) := by decide +kernel
theorem dX4_sendStop_23 : decode cX4_sendStop 23 = .ok (.invokestatic 64, 3) := by decide +kernel
theorem dX4_sendStop_26 : decode cX4_sendStop 26 = .ok (.ifCond .eq 11, 3) := by decide +kernel
theorem dX4_sendStop_29 : decode cX4_sendStop 29 = .ok (.iload 5, 2) := by decide +kernel
theorem dX4_sendStop_31 : decode cX4_sendStop 31 = .ok (.invokestatic 67, 3) := by decide +kernel
theorem dX4_sendStop_34 : decode cX4_sendStop 34 = .ok (.ifCond .ne 11, 3) := by decide +kernel
theorem dX4_sendStop_37 : decode cX4_sendStop 37 = .ok (.new 70, 3) := by decide +kernel
theorem dX4_sendStop_40 : decode cX4_sendStop 40 = .ok (.dup, 1) := by decide +kernel
theorem dX4_sendStop_41 : decode cX4_sendStop 41 = .ok (.invokespecial 72, 3) := by decide +kernel
theorem dX4_sendStop_44 : decode cX4_sendStop 44 = .ok (.athrow, 1) := by decide +kernel
theorem dX4_sendStop_45 : decode cX4_sendStop 45 = .ok (.aload_n 0, 1) := by decide +kernel
theorem dX4_sendStop_46 : decode cX4_sendStop 46 = .ok (.invokevirtual 73, 3) := by decide +kernel
theorem dX4_sendStop_49 : decode cX4_sendStop 49 = .ok (.ifCond .eq 11, 3) := by decide +kernel
theorem dX4_sendStop_52 : decode cX4_sendStop 52 = .ok (.new 77, 3) := by decide +kernel
theorem dX4_sendStop_55 : decode cX4_sendStop 55 = .ok (.dup, 1) := by decide +kernel
theorem dX4_sendStop_56 : decode cX4_sendStop 56 = .ok (.invokespecial 79, 3) := by decide +kernel
theorem dX4_sendStop_59 : decode cX4_sendStop 59 = .ok (.athrow, 1) := by decide +kernel
theorem dX4_sendStop_60 : decode cX4_sendStop 60 = .ok (.new 9, 3) := by decide +kernel
theorem dX4_sendStop_63 : decode cX4_sendStop 63 = .ok (.dup, 1) := by decide +kernel
theorem dX4_sendStop_64 : decode cX4_sendStop 64 = .ok (.aload_n 0, 1) := by decide +kernel
theorem dX4_sendStop_65 : decode cX4_sendStop 65 = .ok (.getfield 41, 3) := by decide +kernel
theorem dX4_sendStop_68 : decode cX4_sendStop 68 = .ok (.iload_n 1, 1) := by decide +kernel
theorem dX4_sendStop_69 : decode cX4_sendStop 69 = .ok (.iload_n 2, 1) := by decide +kernel
theorem dX4_sendStop_70 : decode cX4_sendStop 70 = .ok (.bipush 98, 2) := by decide +kernel
theorem dX4_sendStop_72 : decode cX4_sendStop 72 = .ok (.if_icmp .ne 7, 3) := by decide +kernel
theorem dX4_sendStop_75 : decode cX4_sendStop 75 = .ok (.iconst 1, 1) := by decide +kernel
theorem dX4_sendStop_76 : decode cX4_sendStop 76 = .ok (.goto 4, 3) := by decide +kernel
theorem dX4_sendStop_79 : decode cX4_sendStop 79 = .ok (.iconst 0, 1) := by decide +kernel
theorem dX4_sendStop_80 : decode cX4_sendStop 80 = .ok (.iload_n 3, 1) := by decide +kernel
theorem dX4_sendStop_81 : decode cX4_sendStop 81 = .ok (.iload 4, 2) := by decide +kernel
theorem dX4_sendStop_83 : decode cX4_sendStop 83 = .ok (.iload 5, 2) := by decide +kernel
theorem dX4_sendStop_85 : decode cX4_sendStop 85 = .ok (.iload 5, 2) := by decide +kernel
theorem dX4_sendStop_87 : decode cX4_sendStop 87 = .ok (.invokespecial 80, 3) := by decide +kernel
theorem dX4_sendStop_90 : decode cX4_sendStop 90 = .ok (.astore 6, 2) := by decide +kernel
theorem dX4_sendStop_92 : decode cX4_sendStop 92 = .ok (.aload_n 0, 1) := by decide +kernel
theorem dX4_sendStop_93 : decode cX4_sendStop 93 = .ok (.aload 6, 2) := by decide +kernel
theorem dX4_sendStop_95 : decode cX4_sendStop 95 = .ok (.invokevirtual 83, 3) := by decide +kernel
theorem dX4_sendStop_98 : decode cX4_sendStop 98 = .ok (.aload 6, 2) := by decide +kernel
theorem dX4_sendStop_100 : decode cX4_sendStop 100 = .ok (.getfield 93, 3) := by decide +kernel
theorem dX4_sendStop_103 : decode cX4_sendStop 103 = .ok (.ireturn, 1) := by decide +kernel
def tbX4_sendStop (l : Launch) (K : aRs) (X : aXs) : aTb := [
  (0, sLd 1 1 isI),
  (1, sCallS 1 (fun as μ K => Ct l mdX4_isOwner as μ K X) 4 0 3),
  (4, sIf pEq 37 7),
  (7, sLd 2 8 isI),
  (8, sCallS 1 (fun as μ K => Ct l mdX4_isSide as μ K X) 11 0 3),
  (11, sIf pEq 37 14),
  (14, sLd 3 15 isI),
  (15, sCallS 1 (fun as μ K => Ct l mdX4_isPrice as μ K X) 18 0 3),
  (18, sIf pEq 37 21),
  (21, sLd 4 23 isI),
  (23, sCallS 1 (fun as μ K => Ct l mdX4_isPrice as μ K X) 26 0 3),
  (26, sIf pEq 37 29),
  (29, sLd 5 31 isI),
  (31, sCallS 1 (fun as μ K => Ct l mdX4_isAmount as μ K X) 34 0 3),
  (34, sIf pNe 45 37),
  (37, sThrow 1 3 X),
  (45, sLd 0 46 isR),
  (46, sCallV 0 4 (fun as μ K => Ct l mdX4_isFull as μ K X) 49 0 3),
  (49, sIf pEq 60 52),
  (52, sThrow 2 3 X),
  (60, sNewO 2 63 3),
  (63, sDup 64),
  (64, sLd 0 65 isR),
  (65, sGetI 4 5 68),
  (68, sLd 1 69 isI),
  (69, sLd 2 70 isI),
  (70, sPush (aI 98) 72),
  (72, sIc qNe 79 75),
  (75, sPush (aI 1) 76),
  (76, sGoto 80),
  (79, sPush (aI 0) 80),
  (80, sLd 3 81 isI),
  (81, sLd 4 83 isI),
  (83, sLd 5 85 isI),
  (85, sLd 5 87 isI),
  (87, sCallV 7 2 (fun as μ K => Ct l mdX2_init as μ K X) 90 0 3),
  (90, sSt 6 92 isR),
  (92, sLd 0 93 isR),
  (93, sLd 6 95 isR),
  (95, sCallV 1 4 (fun as μ K => Ct l mdX4_keep as μ K X) 98 0 3),
  (98, sLd 6 100 isR),
  (100, sGetI 2 0 103),
  (103, sRetI .int 3 K)]
theorem snX4_sendStop (l : Launch) (K : aRs) (X : aXs) (n0 : Nat) : ∀ q ∈ tbX4_sendStop l K X, aSo l mdX4_sendStop K X n0 q.1 q.2 :=
  tc (fun p e s m args below meth c cA D A ad0 h => ok_iload_n h.1 1 rfl dX4_sendStop_0) <|
  tc (fun p e s m args below meth c cA D A ad0 h => ok_callS h.1 h.2.1 ⟨Nat.le_refl _, Nat.le_refl _⟩ mdX4_isOwner siX4_isOwner mkRX4_56 stX4_isOwner ⟨by decide, by decide⟩ (aAx_out h.1 h.2.2.1 _) dX4_sendStop_1) <|
  tc (fun p e s m args below meth c cA D A ad0 h => ok_if_eq h.1 37 (by decide) dX4_sendStop_4) <|
  tc (fun p e s m args below meth c cA D A ad0 h => ok_iload_n h.1 2 rfl dX4_sendStop_7) <|
  tc (fun p e s m args below meth c cA D A ad0 h => ok_callS h.1 h.2.1 ⟨Nat.le_refl _, Nat.le_refl _⟩ mdX4_isSide siX4_isSide mkRX4_60 stX4_isSide ⟨by decide, by decide⟩ (aAx_out h.1 h.2.2.1 _) dX4_sendStop_8) <|
  tc (fun p e s m args below meth c cA D A ad0 h => ok_if_eq h.1 37 (by decide) dX4_sendStop_11) <|
  tc (fun p e s m args below meth c cA D A ad0 h => ok_iload_n h.1 3 rfl dX4_sendStop_14) <|
  tc (fun p e s m args below meth c cA D A ad0 h => ok_callS h.1 h.2.1 ⟨Nat.le_refl _, Nat.le_refl _⟩ mdX4_isPrice siX4_isPrice mkRX4_64 stX4_isPrice ⟨by decide, by decide⟩ (aAx_out h.1 h.2.2.1 _) dX4_sendStop_15) <|
  tc (fun p e s m args below meth c cA D A ad0 h => ok_if_eq h.1 37 (by decide) dX4_sendStop_18) <|
  tc (fun p e s m args below meth c cA D A ad0 h => ok_iload h.1 dX4_sendStop_21) <|
  tc (fun p e s m args below meth c cA D A ad0 h => ok_callS h.1 h.2.1 ⟨Nat.le_refl _, Nat.le_refl _⟩ mdX4_isPrice siX4_isPrice mkRX4_64 stX4_isPrice ⟨by decide, by decide⟩ (aAx_out h.1 h.2.2.1 _) dX4_sendStop_23) <|
  tc (fun p e s m args below meth c cA D A ad0 h => ok_if_eq h.1 37 (by decide) dX4_sendStop_26) <|
  tc (fun p e s m args below meth c cA D A ad0 h => ok_iload h.1 dX4_sendStop_29) <|
  tc (fun p e s m args below meth c cA D A ad0 h => ok_callS h.1 h.2.1 ⟨Nat.le_refl _, Nat.le_refl _⟩ mdX4_isAmount siX4_isAmount mkRX4_67 stX4_isAmount ⟨by decide, by decide⟩ (aAx_out h.1 h.2.2.1 _) dX4_sendStop_31) <|
  tc (fun p e s m args below meth c cA D A ad0 h => ok_if_ne h.1 45 (by decide) dX4_sendStop_34) <|
  tc (fun p e s m args below meth c cA D A ad0 h => ok_throw h.1 h.2.1 ⟨Nat.le_refl _, Nat.le_refl _⟩ h.2.2.1 (by decide) (by decide) ckRX4_70 niE1 xaE1 xbE1 xcE1 dX4_sendStop_37 dX4_sendStop_40 dX4_sendStop_41 dX4_sendStop_44 (by decide) (by decide)) <|
  tc (fun p e s m args below meth c cA D A ad0 h => ok_aload_n h.1 0 rfl dX4_sendStop_45) <|
  tc (fun p e s m args below meth c cA D A ad0 h => ok_callV h.1 h.2.1 ⟨Nat.le_refl _, Nat.le_refl _⟩ mdX4_isFull siX4_isFull cxX4 mkRX4_73 imX4_isFull seX4_isFull ⟨by decide, by decide⟩ (aAx_out h.1 h.2.2.1 _) dX4_sendStop_46) <|
  tc (fun p e s m args below meth c cA D A ad0 h => ok_if_eq h.1 60 (by decide) dX4_sendStop_49) <|
  tc (fun p e s m args below meth c cA D A ad0 h => ok_throw h.1 h.2.1 ⟨Nat.le_refl _, Nat.le_refl _⟩ h.2.2.1 (by decide) (by decide) ckRX4_77 niE2 xaE2 xbE2 xcE2 dX4_sendStop_52 dX4_sendStop_55 dX4_sendStop_56 dX4_sendStop_59 (by decide) (by decide)) <|
  tc (fun p e s m args below meth c cA D A ad0 h => ok_newO h.1 ⟨Nat.le_refl _, Nat.le_refl _⟩ cxX2 (by decide) (by decide) ckRX4_9 iaX2 niRX2 dX4_sendStop_60) <|
  tc (fun p e s m args below meth c cA D A ad0 h => ok_dup h.1 dX4_sendStop_63) <|
  tc (fun p e s m args below meth c cA D A ad0 h => ok_aload_n h.1 0 rfl dX4_sendStop_64) <|
  tc (fun p e s m args below meth c cA D A ad0 h => ok_getI h.1 cxX4 (by decide) rfl fkRX4_41 (fun _ _ _ => rfl) dX4_sendStop_65) <|
  tc (fun p e s m args below meth c cA D A ad0 h => ok_iload_n h.1 1 rfl dX4_sendStop_68) <|
  tc (fun p e s m args below meth c cA D A ad0 h => ok_iload_n h.1 2 rfl dX4_sendStop_69) <|
  tc (fun p e s m args below meth c cA D A ad0 h => ok_bipush h.1 ⟨by decide, by decide⟩ (by decide) dX4_sendStop_70) <|
  tc (fun p e s m args below meth c cA D A ad0 h => ok_icmp_ne h.1 79 (by decide) dX4_sendStop_72) <|
  tc (fun p e s m args below meth c cA D A ad0 h => ok_iconst h.1 ⟨by decide, by decide⟩ dX4_sendStop_75) <|
  tc (fun p e s m args below meth c cA D A ad0 h => ok_goto h.1 80 (by decide) dX4_sendStop_76) <|
  tc (fun p e s m args below meth c cA D A ad0 h => ok_iconst h.1 ⟨by decide, by decide⟩ dX4_sendStop_79) <|
  tc (fun p e s m args below meth c cA D A ad0 h => ok_iload_n h.1 3 rfl dX4_sendStop_80) <|
  tc (fun p e s m args below meth c cA D A ad0 h => ok_iload h.1 dX4_sendStop_81) <|
  tc (fun p e s m args below meth c cA D A ad0 h => ok_iload h.1 dX4_sendStop_83) <|
  tc (fun p e s m args below meth c cA D A ad0 h => ok_iload h.1 dX4_sendStop_85) <|
  tc (fun p e s m args below meth c cA D A ad0 h => ok_callI h.1 h.2.1 ⟨Nat.le_refl _, Nat.le_refl _⟩ mdX2_init siX2_init rfl rfl mkRX4_80 imX2_init ⟨by decide, by decide⟩ (aAx_out h.1 h.2.2.1 _) dX4_sendStop_87) <|
  tc (fun p e s m args below meth c cA D A ad0 h => ok_astore h.1 (by decide) dX4_sendStop_90) <|
  tc (fun p e s m args below meth c cA D A ad0 h => ok_aload_n h.1 0 rfl dX4_sendStop_92) <|
  tc (fun p e s m args below meth c cA D A ad0 h => ok_aload h.1 dX4_sendStop_93) <|
  tc (fun p e s m args below meth c cA D A ad0 h => ok_callV h.1 h.2.1 ⟨Nat.le_refl _, Nat.le_refl _⟩ mdX4_keep siX4_keep cxX4 mkRX4_83 imX4_keep seX4_keep ⟨by decide, by decide⟩ (aAx_out h.1 h.2.2.1 _) dX4_sendStop_95) <|
  tc (fun p e s m args below meth c cA D A ad0 h => ok_aload h.1 dX4_sendStop_98) <|
  tc (fun p e s m args below meth c cA D A ad0 h => ok_getI h.1 cxX2 (by decide) rfl fkRX4_93 (fun _ _ _ => rfl) dX4_sendStop_100) <|
  tc (fun p e s m args below meth c cA D A ad0 h => ok_ireturn h.1 h.2.2.2.1 (Or.inl rfl) dX4_sendStop_103) <|
  tn
abbrev cuX4_sendStop : List Nat := [4, 11, 18, 26, 34, 49, 90, 98]
theorem tX4_sendStop_0 (l : Launch) (K : aRs) (X : aXs) : tb (tbX4_sendStop l K X) 0 = sLd 1 1 isI := (rfl)
theorem wX4_sendStop_0 {l : Launch} {K : aRs} {X : aXs} {J : aK} {W : Nat → aK} (hW : isW (tbX4_sendStop l K X) cuX4_sendStop J W) (n : Nat) (ls st : List aV) (μ : aM) (g : Nat) : W (n + 1) 0 ls st μ g = (sLd 1 1 isI) (W n) ls st μ g := (hW n 0 ls st μ g).trans rfl
theorem wX4_sendStop_1 {l : Launch} {K : aRs} {X : aXs} {J : aK} {W : Nat → aK} (hW : isW (tbX4_sendStop l K X) cuX4_sendStop J W) (n : Nat) (ls st : List aV) (μ : aM) (g : Nat) : W (n + 1) 1 ls st μ g = (sCallS 1 (fun as μ K => Ct l mdX4_isOwner as μ K X) 4 0 3) (W n) ls st μ g := (hW n 1 ls st μ g).trans rfl
theorem tX4_sendStop_4 (l : Launch) (K : aRs) (X : aXs) : tb (tbX4_sendStop l K X) 4 = sIf pEq 37 7 := (rfl)
theorem wX4_sendStop_4 {l : Launch} {K : aRs} {X : aXs} {J : aK} {W : Nat → aK} (hW : isW (tbX4_sendStop l K X) cuX4_sendStop J W) (n : Nat) (ls st : List aV) (μ : aM) (g : Nat) : W (n + 1) 4 ls st μ g = J 4 ls st μ g := (hW n 4 ls st μ g).trans rfl
theorem wX4_sendStop_7 {l : Launch} {K : aRs} {X : aXs} {J : aK} {W : Nat → aK} (hW : isW (tbX4_sendStop l K X) cuX4_sendStop J W) (n : Nat) (ls st : List aV) (μ : aM) (g : Nat) : W (n + 1) 7 ls st μ g = (sLd 2 8 isI) (W n) ls st μ g := (hW n 7 ls st μ g).trans rfl
theorem wX4_sendStop_8 {l : Launch} {K : aRs} {X : aXs} {J : aK} {W : Nat → aK} (hW : isW (tbX4_sendStop l K X) cuX4_sendStop J W) (n : Nat) (ls st : List aV) (μ : aM) (g : Nat) : W (n + 1) 8 ls st μ g = (sCallS 1 (fun as μ K => Ct l mdX4_isSide as μ K X) 11 0 3) (W n) ls st μ g := (hW n 8 ls st μ g).trans rfl
theorem tX4_sendStop_11 (l : Launch) (K : aRs) (X : aXs) : tb (tbX4_sendStop l K X) 11 = sIf pEq 37 14 := (rfl)
theorem wX4_sendStop_11 {l : Launch} {K : aRs} {X : aXs} {J : aK} {W : Nat → aK} (hW : isW (tbX4_sendStop l K X) cuX4_sendStop J W) (n : Nat) (ls st : List aV) (μ : aM) (g : Nat) : W (n + 1) 11 ls st μ g = J 11 ls st μ g := (hW n 11 ls st μ g).trans rfl
theorem wX4_sendStop_14 {l : Launch} {K : aRs} {X : aXs} {J : aK} {W : Nat → aK} (hW : isW (tbX4_sendStop l K X) cuX4_sendStop J W) (n : Nat) (ls st : List aV) (μ : aM) (g : Nat) : W (n + 1) 14 ls st μ g = (sLd 3 15 isI) (W n) ls st μ g := (hW n 14 ls st μ g).trans rfl
theorem wX4_sendStop_15 {l : Launch} {K : aRs} {X : aXs} {J : aK} {W : Nat → aK} (hW : isW (tbX4_sendStop l K X) cuX4_sendStop J W) (n : Nat) (ls st : List aV) (μ : aM) (g : Nat) : W (n + 1) 15 ls st μ g = (sCallS 1 (fun as μ K => Ct l mdX4_isPrice as μ K X) 18 0 3) (W n) ls st μ g := (hW n 15 ls st μ g).trans rfl
theorem tX4_sendStop_18 (l : Launch) (K : aRs) (X : aXs) : tb (tbX4_sendStop l K X) 18 = sIf pEq 37 21 := (rfl)
theorem wX4_sendStop_18 {l : Launch} {K : aRs} {X : aXs} {J : aK} {W : Nat → aK} (hW : isW (tbX4_sendStop l K X) cuX4_sendStop J W) (n : Nat) (ls st : List aV) (μ : aM) (g : Nat) : W (n + 1) 18 ls st μ g = J 18 ls st μ g := (hW n 18 ls st μ g).trans rfl
theorem wX4_sendStop_21 {l : Launch} {K : aRs} {X : aXs} {J : aK} {W : Nat → aK} (hW : isW (tbX4_sendStop l K X) cuX4_sendStop J W) (n : Nat) (ls st : List aV) (μ : aM) (g : Nat) : W (n + 1) 21 ls st μ g = (sLd 4 23 isI) (W n) ls st μ g := (hW n 21 ls st μ g).trans rfl
theorem wX4_sendStop_23 {l : Launch} {K : aRs} {X : aXs} {J : aK} {W : Nat → aK} (hW : isW (tbX4_sendStop l K X) cuX4_sendStop J W) (n : Nat) (ls st : List aV) (μ : aM) (g : Nat) : W (n + 1) 23 ls st μ g = (sCallS 1 (fun as μ K => Ct l mdX4_isPrice as μ K X) 26 0 3) (W n) ls st μ g := (hW n 23 ls st μ g).trans rfl
theorem tX4_sendStop_26 (l : Launch) (K : aRs) (X : aXs) : tb (tbX4_sendStop l K X) 26 = sIf pEq 37 29 := (rfl)
theorem wX4_sendStop_26 {l : Launch} {K : aRs} {X : aXs} {J : aK} {W : Nat → aK} (hW : isW (tbX4_sendStop l K X) cuX4_sendStop J W) (n : Nat) (ls st : List aV) (μ : aM) (g : Nat) : W (n + 1) 26 ls st μ g = J 26 ls st μ g := (hW n 26 ls st μ g).trans rfl
theorem wX4_sendStop_29 {l : Launch} {K : aRs} {X : aXs} {J : aK} {W : Nat → aK} (hW : isW (tbX4_sendStop l K X) cuX4_sendStop J W) (n : Nat) (ls st : List aV) (μ : aM) (g : Nat) : W (n + 1) 29 ls st μ g = (sLd 5 31 isI) (W n) ls st μ g := (hW n 29 ls st μ g).trans rfl
theorem wX4_sendStop_31 {l : Launch} {K : aRs} {X : aXs} {J : aK} {W : Nat → aK} (hW : isW (tbX4_sendStop l K X) cuX4_sendStop J W) (n : Nat) (ls st : List aV) (μ : aM) (g : Nat) : W (n + 1) 31 ls st μ g = (sCallS 1 (fun as μ K => Ct l mdX4_isAmount as μ K X) 34 0 3) (W n) ls st μ g := (hW n 31 ls st μ g).trans rfl
theorem tX4_sendStop_34 (l : Launch) (K : aRs) (X : aXs) : tb (tbX4_sendStop l K X) 34 = sIf pNe 45 37 := (rfl)
theorem wX4_sendStop_34 {l : Launch} {K : aRs} {X : aXs} {J : aK} {W : Nat → aK} (hW : isW (tbX4_sendStop l K X) cuX4_sendStop J W) (n : Nat) (ls st : List aV) (μ : aM) (g : Nat) : W (n + 1) 34 ls st μ g = J 34 ls st μ g := (hW n 34 ls st μ g).trans rfl
theorem wX4_sendStop_37 {l : Launch} {K : aRs} {X : aXs} {J : aK} {W : Nat → aK} (hW : isW (tbX4_sendStop l K X) cuX4_sendStop J W) (n : Nat) (ls st : List aV) (μ : aM) (g : Nat) : W (n + 1) 37 ls st μ g = (sThrow 1 3 X) (W n) ls st μ g := (hW n 37 ls st μ g).trans rfl
theorem wX4_sendStop_45 {l : Launch} {K : aRs} {X : aXs} {J : aK} {W : Nat → aK} (hW : isW (tbX4_sendStop l K X) cuX4_sendStop J W) (n : Nat) (ls st : List aV) (μ : aM) (g : Nat) : W (n + 1) 45 ls st μ g = (sLd 0 46 isR) (W n) ls st μ g := (hW n 45 ls st μ g).trans rfl
theorem wX4_sendStop_46 {l : Launch} {K : aRs} {X : aXs} {J : aK} {W : Nat → aK} (hW : isW (tbX4_sendStop l K X) cuX4_sendStop J W) (n : Nat) (ls st : List aV) (μ : aM) (g : Nat) : W (n + 1) 46 ls st μ g = (sCallV 0 4 (fun as μ K => Ct l mdX4_isFull as μ K X) 49 0 3) (W n) ls st μ g := (hW n 46 ls st μ g).trans rfl
theorem tX4_sendStop_49 (l : Launch) (K : aRs) (X : aXs) : tb (tbX4_sendStop l K X) 49 = sIf pEq 60 52 := (rfl)
theorem wX4_sendStop_49 {l : Launch} {K : aRs} {X : aXs} {J : aK} {W : Nat → aK} (hW : isW (tbX4_sendStop l K X) cuX4_sendStop J W) (n : Nat) (ls st : List aV) (μ : aM) (g : Nat) : W (n + 1) 49 ls st μ g = J 49 ls st μ g := (hW n 49 ls st μ g).trans rfl
theorem wX4_sendStop_52 {l : Launch} {K : aRs} {X : aXs} {J : aK} {W : Nat → aK} (hW : isW (tbX4_sendStop l K X) cuX4_sendStop J W) (n : Nat) (ls st : List aV) (μ : aM) (g : Nat) : W (n + 1) 52 ls st μ g = (sThrow 2 3 X) (W n) ls st μ g := (hW n 52 ls st μ g).trans rfl
theorem wX4_sendStop_60 {l : Launch} {K : aRs} {X : aXs} {J : aK} {W : Nat → aK} (hW : isW (tbX4_sendStop l K X) cuX4_sendStop J W) (n : Nat) (ls st : List aV) (μ : aM) (g : Nat) : W (n + 1) 60 ls st μ g = (sNewO 2 63 3) (W n) ls st μ g := (hW n 60 ls st μ g).trans rfl
theorem wX4_sendStop_63 {l : Launch} {K : aRs} {X : aXs} {J : aK} {W : Nat → aK} (hW : isW (tbX4_sendStop l K X) cuX4_sendStop J W) (n : Nat) (ls st : List aV) (μ : aM) (g : Nat) : W (n + 1) 63 ls st μ g = (sDup 64) (W n) ls st μ g := (hW n 63 ls st μ g).trans rfl
theorem wX4_sendStop_64 {l : Launch} {K : aRs} {X : aXs} {J : aK} {W : Nat → aK} (hW : isW (tbX4_sendStop l K X) cuX4_sendStop J W) (n : Nat) (ls st : List aV) (μ : aM) (g : Nat) : W (n + 1) 64 ls st μ g = (sLd 0 65 isR) (W n) ls st μ g := (hW n 64 ls st μ g).trans rfl
theorem wX4_sendStop_65 {l : Launch} {K : aRs} {X : aXs} {J : aK} {W : Nat → aK} (hW : isW (tbX4_sendStop l K X) cuX4_sendStop J W) (n : Nat) (ls st : List aV) (μ : aM) (g : Nat) : W (n + 1) 65 ls st μ g = (sGetI 4 5 68) (W n) ls st μ g := (hW n 65 ls st μ g).trans rfl
theorem wX4_sendStop_68 {l : Launch} {K : aRs} {X : aXs} {J : aK} {W : Nat → aK} (hW : isW (tbX4_sendStop l K X) cuX4_sendStop J W) (n : Nat) (ls st : List aV) (μ : aM) (g : Nat) : W (n + 1) 68 ls st μ g = (sLd 1 69 isI) (W n) ls st μ g := (hW n 68 ls st μ g).trans rfl
theorem wX4_sendStop_69 {l : Launch} {K : aRs} {X : aXs} {J : aK} {W : Nat → aK} (hW : isW (tbX4_sendStop l K X) cuX4_sendStop J W) (n : Nat) (ls st : List aV) (μ : aM) (g : Nat) : W (n + 1) 69 ls st μ g = (sLd 2 70 isI) (W n) ls st μ g := (hW n 69 ls st μ g).trans rfl
theorem wX4_sendStop_70 {l : Launch} {K : aRs} {X : aXs} {J : aK} {W : Nat → aK} (hW : isW (tbX4_sendStop l K X) cuX4_sendStop J W) (n : Nat) (ls st : List aV) (μ : aM) (g : Nat) : W (n + 1) 70 ls st μ g = (sPush (aI 98) 72) (W n) ls st μ g := (hW n 70 ls st μ g).trans rfl
theorem wX4_sendStop_72 {l : Launch} {K : aRs} {X : aXs} {J : aK} {W : Nat → aK} (hW : isW (tbX4_sendStop l K X) cuX4_sendStop J W) (n : Nat) (ls st : List aV) (μ : aM) (g : Nat) : W (n + 1) 72 ls st μ g = (sIc qNe 79 75) (W n) ls st μ g := (hW n 72 ls st μ g).trans rfl
theorem wX4_sendStop_75 {l : Launch} {K : aRs} {X : aXs} {J : aK} {W : Nat → aK} (hW : isW (tbX4_sendStop l K X) cuX4_sendStop J W) (n : Nat) (ls st : List aV) (μ : aM) (g : Nat) : W (n + 1) 75 ls st μ g = (sPush (aI 1) 76) (W n) ls st μ g := (hW n 75 ls st μ g).trans rfl
theorem wX4_sendStop_76 {l : Launch} {K : aRs} {X : aXs} {J : aK} {W : Nat → aK} (hW : isW (tbX4_sendStop l K X) cuX4_sendStop J W) (n : Nat) (ls st : List aV) (μ : aM) (g : Nat) : W (n + 1) 76 ls st μ g = (sGoto 80) (W n) ls st μ g := (hW n 76 ls st μ g).trans rfl
theorem wX4_sendStop_79 {l : Launch} {K : aRs} {X : aXs} {J : aK} {W : Nat → aK} (hW : isW (tbX4_sendStop l K X) cuX4_sendStop J W) (n : Nat) (ls st : List aV) (μ : aM) (g : Nat) : W (n + 1) 79 ls st μ g = (sPush (aI 0) 80) (W n) ls st μ g := (hW n 79 ls st μ g).trans rfl
theorem wX4_sendStop_80 {l : Launch} {K : aRs} {X : aXs} {J : aK} {W : Nat → aK} (hW : isW (tbX4_sendStop l K X) cuX4_sendStop J W) (n : Nat) (ls st : List aV) (μ : aM) (g : Nat) : W (n + 1) 80 ls st μ g = (sLd 3 81 isI) (W n) ls st μ g := (hW n 80 ls st μ g).trans rfl
theorem wX4_sendStop_81 {l : Launch} {K : aRs} {X : aXs} {J : aK} {W : Nat → aK} (hW : isW (tbX4_sendStop l K X) cuX4_sendStop J W) (n : Nat) (ls st : List aV) (μ : aM) (g : Nat) : W (n + 1) 81 ls st μ g = (sLd 4 83 isI) (W n) ls st μ g := (hW n 81 ls st μ g).trans rfl
theorem wX4_sendStop_83 {l : Launch} {K : aRs} {X : aXs} {J : aK} {W : Nat → aK} (hW : isW (tbX4_sendStop l K X) cuX4_sendStop J W) (n : Nat) (ls st : List aV) (μ : aM) (g : Nat) : W (n + 1) 83 ls st μ g = (sLd 5 85 isI) (W n) ls st μ g := (hW n 83 ls st μ g).trans rfl
theorem wX4_sendStop_85 {l : Launch} {K : aRs} {X : aXs} {J : aK} {W : Nat → aK} (hW : isW (tbX4_sendStop l K X) cuX4_sendStop J W) (n : Nat) (ls st : List aV) (μ : aM) (g : Nat) : W (n + 1) 85 ls st μ g = (sLd 5 87 isI) (W n) ls st μ g := (hW n 85 ls st μ g).trans rfl
theorem wX4_sendStop_87 {l : Launch} {K : aRs} {X : aXs} {J : aK} {W : Nat → aK} (hW : isW (tbX4_sendStop l K X) cuX4_sendStop J W) (n : Nat) (ls st : List aV) (μ : aM) (g : Nat) : W (n + 1) 87 ls st μ g = (sCallV 7 2 (fun as μ K => Ct l mdX2_init as μ K X) 90 0 3) (W n) ls st μ g := (hW n 87 ls st μ g).trans rfl
theorem tX4_sendStop_90 (l : Launch) (K : aRs) (X : aXs) : tb (tbX4_sendStop l K X) 90 = sSt 6 92 isR := (rfl)
theorem wX4_sendStop_90 {l : Launch} {K : aRs} {X : aXs} {J : aK} {W : Nat → aK} (hW : isW (tbX4_sendStop l K X) cuX4_sendStop J W) (n : Nat) (ls st : List aV) (μ : aM) (g : Nat) : W (n + 1) 90 ls st μ g = J 90 ls st μ g := (hW n 90 ls st μ g).trans rfl
theorem wX4_sendStop_92 {l : Launch} {K : aRs} {X : aXs} {J : aK} {W : Nat → aK} (hW : isW (tbX4_sendStop l K X) cuX4_sendStop J W) (n : Nat) (ls st : List aV) (μ : aM) (g : Nat) : W (n + 1) 92 ls st μ g = (sLd 0 93 isR) (W n) ls st μ g := (hW n 92 ls st μ g).trans rfl
theorem wX4_sendStop_93 {l : Launch} {K : aRs} {X : aXs} {J : aK} {W : Nat → aK} (hW : isW (tbX4_sendStop l K X) cuX4_sendStop J W) (n : Nat) (ls st : List aV) (μ : aM) (g : Nat) : W (n + 1) 93 ls st μ g = (sLd 6 95 isR) (W n) ls st μ g := (hW n 93 ls st μ g).trans rfl
theorem wX4_sendStop_95 {l : Launch} {K : aRs} {X : aXs} {J : aK} {W : Nat → aK} (hW : isW (tbX4_sendStop l K X) cuX4_sendStop J W) (n : Nat) (ls st : List aV) (μ : aM) (g : Nat) : W (n + 1) 95 ls st μ g = (sCallV 1 4 (fun as μ K => Ct l mdX4_keep as μ K X) 98 0 3) (W n) ls st μ g := (hW n 95 ls st μ g).trans rfl
theorem tX4_sendStop_98 (l : Launch) (K : aRs) (X : aXs) : tb (tbX4_sendStop l K X) 98 = sLd 6 100 isR := (rfl)
theorem wX4_sendStop_98 {l : Launch} {K : aRs} {X : aXs} {J : aK} {W : Nat → aK} (hW : isW (tbX4_sendStop l K X) cuX4_sendStop J W) (n : Nat) (ls st : List aV) (μ : aM) (g : Nat) : W (n + 1) 98 ls st μ g = J 98 ls st μ g := (hW n 98 ls st μ g).trans rfl
theorem wX4_sendStop_100 {l : Launch} {K : aRs} {X : aXs} {J : aK} {W : Nat → aK} (hW : isW (tbX4_sendStop l K X) cuX4_sendStop J W) (n : Nat) (ls st : List aV) (μ : aM) (g : Nat) : W (n + 1) 100 ls st μ g = (sGetI 2 0 103) (W n) ls st μ g := (hW n 100 ls st μ g).trans rfl
theorem wX4_sendStop_103 {l : Launch} {K : aRs} {X : aXs} {J : aK} {W : Nat → aK} (hW : isW (tbX4_sendStop l K X) cuX4_sendStop J W) (n : Nat) (ls st : List aV) (μ : aM) (g : Nat) : W (n + 1) 103 ls st μ g = (sRetI .int 3 K) (W n) ls st μ g := (hW n 103 ls st μ g).trans rfl
theorem dX4_cancel_0 : decode cX4_cancel 0 = .ok (.aload_n 0, 1) := by decide +kernel
theorem dX4_cancel_1 : decode cX4_cancel 1 = .ok (.iload_n 1, 1) := by decide +kernel
theorem dX4_cancel_2 : decode cX4_cancel 2 = .ok (.invokevirtual 96, 3) := by decide +kernel
theorem dX4_cancel_5 : decode cX4_cancel 5 = .ok (.astore_n 2, 1) := by decide +kernel
theorem dX4_cancel_6 : decode cX4_cancel 6 = .ok (.aload_n 2, 1) := by decide +kernel
theorem dX4_cancel_7 : decode cX4_cancel 7 = .ok (.invokevirtual 100, 3) := by decide +kernel
theorem dX4_cancel_10 : decode cX4_cancel 10 = .ok (.ifCond .ne 11, 3) := by decide +kernel
theorem dX4_cancel_13 : decode cX4_cancel 13 = .ok (.new 77, 3) := by decide +kernel
theorem dX4_cancel_16 : decode cX4_cancel 16 = .ok (.dup, 1) := by decide +kernel
theorem dX4_cancel_17 : decode cX4_cancel 17 = .ok (.invokespecial 79, 3) := by decide +kernel
theorem dX4_cancel_20 : decode cX4_cancel 20 = .ok (.athrow, 1) := by decide +kernel
theorem dX4_cancel_21 : decode cX4_cancel 21 = .ok (.aload_n 2, 1) := by decide +kernel
theorem dX4_cancel_22 : decode cX4_cancel 22 = .ok (.getfield 103, 3) := by decide +kernel
theorem dX4_cancel_25 : decode cX4_cancel 25 = .ok (.bipush 97, 2) := by decide +kernel
theorem dX4_cancel_27 : decode cX4_cancel 27 = .ok (.if_icmp .ne 12, 3) := by decide +kernel
theorem dX4_cancel_30 : decode cX4_cancel 30 = .ok (.aload_n 0, 1) := by decide +kernel
theorem dX4_cancel_31 : decode cX4_cancel 31 = .ok (.aload_n 2, 1) := by decide +kernel
theorem dX4_cancel_32 : decode cX4_cancel 32 = .ok (.invokevirtual 106, 3) := by decide +kernel
theorem dX4_cancel_35 : decode cX4_cancel 35 = .ok (.aload_n 2, 1) := by decide +kernel
theorem dX4_cancel_36 : decode cX4_cancel 36 = .ok (.invokevirtual 110, 3) := by decide +kernel
theorem dX4_cancel_39 : decode cX4_cancel 39 = .ok (.aload_n 2, 1) := by decide +kernel
theorem dX4_cancel_40 : decode cX4_cancel 40 = .ok (.bipush 99, 2) := by decide +kernel
theorem dX4_cancel_42 : decode cX4_cancel 42 = .ok (.putfield 103, 3) := by decide +kernel
theorem dX4_cancel_45 : decode cX4_cancel 45 = .ok (.aload_n 2, 1) := by decide +kernel
theorem dX4_cancel_46 : decode cX4_cancel 46 = .ok (.getfield 113, 3) := by decide +kernel
theorem dX4_cancel_49 : decode cX4_cancel 49 = .ok (.ireturn, 1) := by decide +kernel
def tbX4_cancel (l : Launch) (K : aRs) (X : aXs) : aTb := [
  (0, sLd 0 1 isR),
  (1, sLd 1 2 isI),
  (2, sCallV 1 4 (fun as μ K => Ct l mdX4_knownOrder as μ K X) 5 1 2),
  (5, sSt 2 6 isR),
  (6, sLd 2 7 isR),
  (7, sCallV 0 2 (fun as μ K => Ct l mdX2_isLive as μ K X) 10 0 2),
  (10, sIf pNe 21 13),
  (13, sThrow 2 2 X),
  (21, sLd 2 22 isR),
  (22, sGetI 2 10 25),
  (25, sPush (aI 97) 27),
  (27, sIc qNe 39 30),
  (30, sLd 0 31 isR),
  (31, sLd 2 32 isR),
  (32, sCallV 1 4 (fun as μ K => Ct l mdX4_sideOf as μ K X) 35 0 2),
  (35, sLd 2 36 isR),
  (36, sCallV 1 1 (fun as μ K => Ct l mdX1_takeOut as μ K X) 39 0 2),
  (39, sLd 2 40 isR),
  (40, sPush (aI 99) 42),
  (42, sPutI 2 10 45),
  (45, sLd 2 46 isR),
  (46, sGetI 2 6 49),
  (49, sRetI .int 2 K)]
theorem snX4_cancel (l : Launch) (K : aRs) (X : aXs) (n0 : Nat) : ∀ q ∈ tbX4_cancel l K X, aSo l mdX4_cancel K X n0 q.1 q.2 :=
  tc (fun p e s m args below meth c cA D A ad0 h => ok_aload_n h.1 0 rfl dX4_cancel_0) <|
  tc (fun p e s m args below meth c cA D A ad0 h => ok_iload_n h.1 1 rfl dX4_cancel_1) <|
  tc (fun p e s m args below meth c cA D A ad0 h => ok_callV h.1 h.2.1 ⟨Nat.le_refl _, Nat.le_refl _⟩ mdX4_knownOrder siX4_knownOrder cxX4 mkRX4_96 imX4_knownOrder seX4_knownOrder ⟨by decide, by decide⟩ (aAx_out h.1 h.2.2.1 _) dX4_cancel_2) <|
  tc (fun p e s m args below meth c cA D A ad0 h => ok_astore_n h.1 2 rfl (by decide) dX4_cancel_5) <|
  tc (fun p e s m args below meth c cA D A ad0 h => ok_aload_n h.1 2 rfl dX4_cancel_6) <|
  tc (fun p e s m args below meth c cA D A ad0 h => ok_callV h.1 h.2.1 ⟨Nat.le_refl _, Nat.le_refl _⟩ mdX2_isLive siX2_isLive cxX2 mkRX4_100 imX2_isLive seX2_isLive ⟨by decide, by decide⟩ (aAx_out h.1 h.2.2.1 _) dX4_cancel_7) <|
  tc (fun p e s m args below meth c cA D A ad0 h => ok_if_ne h.1 21 (by decide) dX4_cancel_10) <|
  tc (fun p e s m args below meth c cA D A ad0 h => ok_throw h.1 h.2.1 ⟨Nat.le_refl _, Nat.le_refl _⟩ h.2.2.1 (by decide) (by decide) ckRX4_77 niE2 xaE2 xbE2 xcE2 dX4_cancel_13 dX4_cancel_16 dX4_cancel_17 dX4_cancel_20 (by decide) (by decide)) <|
  tc (fun p e s m args below meth c cA D A ad0 h => ok_aload_n h.1 2 rfl dX4_cancel_21) <|
  tc (fun p e s m args below meth c cA D A ad0 h => ok_getI h.1 cxX2 (by decide) rfl fkRX4_103 (fun _ _ _ => rfl) dX4_cancel_22) <|
  tc (fun p e s m args below meth c cA D A ad0 h => ok_bipush h.1 ⟨by decide, by decide⟩ (by decide) dX4_cancel_25) <|
  tc (fun p e s m args below meth c cA D A ad0 h => ok_icmp_ne h.1 39 (by decide) dX4_cancel_27) <|
  tc (fun p e s m args below meth c cA D A ad0 h => ok_aload_n h.1 0 rfl dX4_cancel_30) <|
  tc (fun p e s m args below meth c cA D A ad0 h => ok_aload_n h.1 2 rfl dX4_cancel_31) <|
  tc (fun p e s m args below meth c cA D A ad0 h => ok_callV h.1 h.2.1 ⟨Nat.le_refl _, Nat.le_refl _⟩ mdX4_sideOf siX4_sideOf cxX4 mkRX4_106 imX4_sideOf seX4_sideOf ⟨by decide, by decide⟩ (aAx_out h.1 h.2.2.1 _) dX4_cancel_32) <|
  tc (fun p e s m args below meth c cA D A ad0 h => ok_aload_n h.1 2 rfl dX4_cancel_35) <|
  tc (fun p e s m args below meth c cA D A ad0 h => ok_callV h.1 h.2.1 ⟨Nat.le_refl _, Nat.le_refl _⟩ mdX1_takeOut siX1_takeOut cxX1 mkRX4_110 imX1_takeOut seX1_takeOut ⟨by decide, by decide⟩ (aAx_out h.1 h.2.2.1 _) dX4_cancel_36) <|
  tc (fun p e s m args below meth c cA D A ad0 h => ok_aload_n h.1 2 rfl dX4_cancel_39) <|
  tc (fun p e s m args below meth c cA D A ad0 h => ok_bipush h.1 ⟨by decide, by decide⟩ (by decide) dX4_cancel_40) <|
  tc (fun p e s m args below meth c cA D A ad0 h => ok_putI h.1 cxX2 (by decide) rfl fkRX4_103 (Or.inl rfl) (fun _ _ _ => rfl) (Or.inr (Or.inr rfl)) dX4_cancel_42) <|
  tc (fun p e s m args below meth c cA D A ad0 h => ok_aload_n h.1 2 rfl dX4_cancel_45) <|
  tc (fun p e s m args below meth c cA D A ad0 h => ok_getI h.1 cxX2 (by decide) rfl fkRX4_113 (fun _ _ _ => rfl) dX4_cancel_46) <|
  tc (fun p e s m args below meth c cA D A ad0 h => ok_ireturn h.1 h.2.2.2.1 (Or.inl rfl) dX4_cancel_49) <|
  tn
abbrev cuX4_cancel : List Nat := [5, 10, 35, 39]
theorem tX4_cancel_0 (l : Launch) (K : aRs) (X : aXs) : tb (tbX4_cancel l K X) 0 = sLd 0 1 isR := (rfl)
theorem wX4_cancel_0 {l : Launch} {K : aRs} {X : aXs} {J : aK} {W : Nat → aK} (hW : isW (tbX4_cancel l K X) cuX4_cancel J W) (n : Nat) (ls st : List aV) (μ : aM) (g : Nat) : W (n + 1) 0 ls st μ g = (sLd 0 1 isR) (W n) ls st μ g := (hW n 0 ls st μ g).trans rfl
theorem wX4_cancel_1 {l : Launch} {K : aRs} {X : aXs} {J : aK} {W : Nat → aK} (hW : isW (tbX4_cancel l K X) cuX4_cancel J W) (n : Nat) (ls st : List aV) (μ : aM) (g : Nat) : W (n + 1) 1 ls st μ g = (sLd 1 2 isI) (W n) ls st μ g := (hW n 1 ls st μ g).trans rfl
theorem wX4_cancel_2 {l : Launch} {K : aRs} {X : aXs} {J : aK} {W : Nat → aK} (hW : isW (tbX4_cancel l K X) cuX4_cancel J W) (n : Nat) (ls st : List aV) (μ : aM) (g : Nat) : W (n + 1) 2 ls st μ g = (sCallV 1 4 (fun as μ K => Ct l mdX4_knownOrder as μ K X) 5 1 2) (W n) ls st μ g := (hW n 2 ls st μ g).trans rfl
theorem tX4_cancel_5 (l : Launch) (K : aRs) (X : aXs) : tb (tbX4_cancel l K X) 5 = sSt 2 6 isR := (rfl)
theorem wX4_cancel_5 {l : Launch} {K : aRs} {X : aXs} {J : aK} {W : Nat → aK} (hW : isW (tbX4_cancel l K X) cuX4_cancel J W) (n : Nat) (ls st : List aV) (μ : aM) (g : Nat) : W (n + 1) 5 ls st μ g = J 5 ls st μ g := (hW n 5 ls st μ g).trans rfl
theorem wX4_cancel_6 {l : Launch} {K : aRs} {X : aXs} {J : aK} {W : Nat → aK} (hW : isW (tbX4_cancel l K X) cuX4_cancel J W) (n : Nat) (ls st : List aV) (μ : aM) (g : Nat) : W (n + 1) 6 ls st μ g = (sLd 2 7 isR) (W n) ls st μ g := (hW n 6 ls st μ g).trans rfl
theorem wX4_cancel_7 {l : Launch} {K : aRs} {X : aXs} {J : aK} {W : Nat → aK} (hW : isW (tbX4_cancel l K X) cuX4_cancel J W) (n : Nat) (ls st : List aV) (μ : aM) (g : Nat) : W (n + 1) 7 ls st μ g = (sCallV 0 2 (fun as μ K => Ct l mdX2_isLive as μ K X) 10 0 2) (W n) ls st μ g := (hW n 7 ls st μ g).trans rfl
theorem tX4_cancel_10 (l : Launch) (K : aRs) (X : aXs) : tb (tbX4_cancel l K X) 10 = sIf pNe 21 13 := (rfl)
theorem wX4_cancel_10 {l : Launch} {K : aRs} {X : aXs} {J : aK} {W : Nat → aK} (hW : isW (tbX4_cancel l K X) cuX4_cancel J W) (n : Nat) (ls st : List aV) (μ : aM) (g : Nat) : W (n + 1) 10 ls st μ g = J 10 ls st μ g := (hW n 10 ls st μ g).trans rfl
theorem wX4_cancel_13 {l : Launch} {K : aRs} {X : aXs} {J : aK} {W : Nat → aK} (hW : isW (tbX4_cancel l K X) cuX4_cancel J W) (n : Nat) (ls st : List aV) (μ : aM) (g : Nat) : W (n + 1) 13 ls st μ g = (sThrow 2 2 X) (W n) ls st μ g := (hW n 13 ls st μ g).trans rfl
theorem wX4_cancel_21 {l : Launch} {K : aRs} {X : aXs} {J : aK} {W : Nat → aK} (hW : isW (tbX4_cancel l K X) cuX4_cancel J W) (n : Nat) (ls st : List aV) (μ : aM) (g : Nat) : W (n + 1) 21 ls st μ g = (sLd 2 22 isR) (W n) ls st μ g := (hW n 21 ls st μ g).trans rfl
theorem wX4_cancel_22 {l : Launch} {K : aRs} {X : aXs} {J : aK} {W : Nat → aK} (hW : isW (tbX4_cancel l K X) cuX4_cancel J W) (n : Nat) (ls st : List aV) (μ : aM) (g : Nat) : W (n + 1) 22 ls st μ g = (sGetI 2 10 25) (W n) ls st μ g := (hW n 22 ls st μ g).trans rfl
theorem wX4_cancel_25 {l : Launch} {K : aRs} {X : aXs} {J : aK} {W : Nat → aK} (hW : isW (tbX4_cancel l K X) cuX4_cancel J W) (n : Nat) (ls st : List aV) (μ : aM) (g : Nat) : W (n + 1) 25 ls st μ g = (sPush (aI 97) 27) (W n) ls st μ g := (hW n 25 ls st μ g).trans rfl
theorem wX4_cancel_27 {l : Launch} {K : aRs} {X : aXs} {J : aK} {W : Nat → aK} (hW : isW (tbX4_cancel l K X) cuX4_cancel J W) (n : Nat) (ls st : List aV) (μ : aM) (g : Nat) : W (n + 1) 27 ls st μ g = (sIc qNe 39 30) (W n) ls st μ g := (hW n 27 ls st μ g).trans rfl
theorem wX4_cancel_30 {l : Launch} {K : aRs} {X : aXs} {J : aK} {W : Nat → aK} (hW : isW (tbX4_cancel l K X) cuX4_cancel J W) (n : Nat) (ls st : List aV) (μ : aM) (g : Nat) : W (n + 1) 30 ls st μ g = (sLd 0 31 isR) (W n) ls st μ g := (hW n 30 ls st μ g).trans rfl
theorem wX4_cancel_31 {l : Launch} {K : aRs} {X : aXs} {J : aK} {W : Nat → aK} (hW : isW (tbX4_cancel l K X) cuX4_cancel J W) (n : Nat) (ls st : List aV) (μ : aM) (g : Nat) : W (n + 1) 31 ls st μ g = (sLd 2 32 isR) (W n) ls st μ g := (hW n 31 ls st μ g).trans rfl
theorem wX4_cancel_32 {l : Launch} {K : aRs} {X : aXs} {J : aK} {W : Nat → aK} (hW : isW (tbX4_cancel l K X) cuX4_cancel J W) (n : Nat) (ls st : List aV) (μ : aM) (g : Nat) : W (n + 1) 32 ls st μ g = (sCallV 1 4 (fun as μ K => Ct l mdX4_sideOf as μ K X) 35 0 2) (W n) ls st μ g := (hW n 32 ls st μ g).trans rfl
theorem tX4_cancel_35 (l : Launch) (K : aRs) (X : aXs) : tb (tbX4_cancel l K X) 35 = sLd 2 36 isR := (rfl)
theorem wX4_cancel_35 {l : Launch} {K : aRs} {X : aXs} {J : aK} {W : Nat → aK} (hW : isW (tbX4_cancel l K X) cuX4_cancel J W) (n : Nat) (ls st : List aV) (μ : aM) (g : Nat) : W (n + 1) 35 ls st μ g = J 35 ls st μ g := (hW n 35 ls st μ g).trans rfl
theorem wX4_cancel_36 {l : Launch} {K : aRs} {X : aXs} {J : aK} {W : Nat → aK} (hW : isW (tbX4_cancel l K X) cuX4_cancel J W) (n : Nat) (ls st : List aV) (μ : aM) (g : Nat) : W (n + 1) 36 ls st μ g = (sCallV 1 1 (fun as μ K => Ct l mdX1_takeOut as μ K X) 39 0 2) (W n) ls st μ g := (hW n 36 ls st μ g).trans rfl
theorem tX4_cancel_39 (l : Launch) (K : aRs) (X : aXs) : tb (tbX4_cancel l K X) 39 = sLd 2 40 isR := (rfl)
theorem wX4_cancel_39 {l : Launch} {K : aRs} {X : aXs} {J : aK} {W : Nat → aK} (hW : isW (tbX4_cancel l K X) cuX4_cancel J W) (n : Nat) (ls st : List aV) (μ : aM) (g : Nat) : W (n + 1) 39 ls st μ g = J 39 ls st μ g := (hW n 39 ls st μ g).trans rfl
theorem wX4_cancel_40 {l : Launch} {K : aRs} {X : aXs} {J : aK} {W : Nat → aK} (hW : isW (tbX4_cancel l K X) cuX4_cancel J W) (n : Nat) (ls st : List aV) (μ : aM) (g : Nat) : W (n + 1) 40 ls st μ g = (sPush (aI 99) 42) (W n) ls st μ g := (hW n 40 ls st μ g).trans rfl
theorem wX4_cancel_42 {l : Launch} {K : aRs} {X : aXs} {J : aK} {W : Nat → aK} (hW : isW (tbX4_cancel l K X) cuX4_cancel J W) (n : Nat) (ls st : List aV) (μ : aM) (g : Nat) : W (n + 1) 42 ls st μ g = (sPutI 2 10 45) (W n) ls st μ g := (hW n 42 ls st μ g).trans rfl
theorem wX4_cancel_45 {l : Launch} {K : aRs} {X : aXs} {J : aK} {W : Nat → aK} (hW : isW (tbX4_cancel l K X) cuX4_cancel J W) (n : Nat) (ls st : List aV) (μ : aM) (g : Nat) : W (n + 1) 45 ls st μ g = (sLd 2 46 isR) (W n) ls st μ g := (hW n 45 ls st μ g).trans rfl
theorem wX4_cancel_46 {l : Launch} {K : aRs} {X : aXs} {J : aK} {W : Nat → aK} (hW : isW (tbX4_cancel l K X) cuX4_cancel J W) (n : Nat) (ls st : List aV) (μ : aM) (g : Nat) : W (n + 1) 46 ls st μ g = (sGetI 2 6 49) (W n) ls st μ g := (hW n 46 ls st μ g).trans rfl
theorem wX4_cancel_49 {l : Launch} {K : aRs} {X : aXs} {J : aK} {W : Nat → aK} (hW : isW (tbX4_cancel l K X) cuX4_cancel J W) (n : Nat) (ls st : List aV) (μ : aM) (g : Nat) : W (n + 1) 49 ls st μ g = (sRetI .int 2 K) (W n) ls st μ g := (hW n 49 ls st μ g).trans rfl
theorem dX4_reduce_0 : decode cX4_reduce 0 = .ok (.aload_n 0, 1) := by decide +kernel
theorem dX4_reduce_1 : decode cX4_reduce 1 = .ok (.iload_n 1, 1) := by decide +kernel
theorem dX4_reduce_2 : decode cX4_reduce 2 = .ok (.invokevirtual 96, 3) := by decide +kernel
theorem dX4_reduce_5 : decode cX4_reduce 5 = .ok (.astore_n 3, 1) := by decide +kernel
theorem dX4_reduce_6 : decode cX4_reduce 6 = .ok (.iload_n 2, 1) := by decide +kernel
theorem dX4_reduce_7 : decode cX4_reduce 7 = .ok (.iconst 1, 1) := by decide +kernel
theorem dX4_reduce_8 : decode cX4_reduce 8 = .ok (.if_icmp .ge 11, 3) := by decide +kernel
theorem dX4_reduce_11 : decode cX4_reduce 11 = .ok (.new 70, 3) := by decide +kernel
theorem dX4_reduce_14 : decode cX4_reduce 14 = .ok (.dup, 1) := by decide +kernel
theorem dX4_reduce_15 : decode cX4_reduce 15 = .ok (.invokespecial 72, 3) := by decide +kernel
theorem dX4_reduce_18 : decode cX4_reduce 18 = .ok (.athrow, 1) := by decide +kernel
theorem dX4_reduce_19 : decode cX4_reduce 19 = .ok (.aload_n 3, 1) := by decide +kernel
theorem dX4_reduce_20 : decode cX4_reduce 20 = .ok (.invokevirtual 100, 3) := by decide +kernel
theorem dX4_reduce_23 : decode cX4_reduce 23 = .ok (.ifCond .eq 11, 3) := by decide +kernel
theorem dX4_reduce_26 : decode cX4_reduce 26 = .ok (.iload_n 2, 1) := by decide +kernel
theorem dX4_reduce_27 : decode cX4_reduce 27 = .ok (.aload_n 3, 1) := by decide +kernel
theorem dX4_reduce_28 : decode cX4_reduce 28 = .ok (.getfield 113, 3) := by decide +kernel
theorem dX4_reduce_31 : decode cX4_reduce 31 = .ok (.if_icmp .lt 11, 3) := by decide +kernel
theorem dX4_reduce_34 : decode cX4_reduce 34 = .ok (.new 77, 3) := by decide +kernel
theorem dX4_reduce_37 : decode cX4_reduce 37 = .ok (.dup, 1) := by decide +kernel
theorem dX4_reduce_38 : decode cX4_reduce 38 = .ok (.invokespecial 79, 3) := by decide +kernel
theorem dX4_reduce_41 : decode cX4_reduce 41 = .ok (.athrow, 1) := by decide +kernel
theorem dX4_reduce_42 : decode cX4_reduce 42 = .ok (.aload_n 3, 1) := by decide +kernel
theorem dX4_reduce_43 : decode cX4_reduce 43 = .ok (.getfield 113, 3) := by decide +kernel
theorem dX4_reduce_46 : decode cX4_reduce 46 = .ok (.istore 4, 2) := by decide +kernel
theorem dX4_reduce_48 : decode cX4_reduce 48 = .ok (.aload_n 3, 1) := by decide +kernel
theorem dX4_reduce_49 : decode cX4_reduce 49 = .ok (.iload_n 2, 1) := by decide +kernel
theorem dX4_reduce_50 : decode cX4_reduce 50 = .ok (.putfield 113, 3) := by decide +kernel
theorem dX4_reduce_53 : decode cX4_reduce 53 = .ok (.aload_n 3, 1) := by decide +kernel
theorem dX4_reduce_54 : decode cX4_reduce 54 = .ok (.aload_n 3, 1) := by decide +kernel
theorem dX4_reduce_55 : decode cX4_reduce 55 = .ok (.getfield 116, 3) := by decide +kernel
theorem dX4_reduce_58 : decode cX4_reduce 58 = .ok (.iload_n 2, 1) := by decide +kernel
theorem dX4_reduce_59 : decode cX4_reduce 59 = .ok (.invokestatic 119, 3) := by decide +kernel
theorem dX4_reduce_62 : decode cX4_reduce 62 = .ok (.putfield 116, 3) := by decide +kernel
theorem dX4_reduce_65 : decode cX4_reduce 65 = .ok (.iload 4, 2) := by decide +kernel
theorem dX4_reduce_67 : decode cX4_reduce 67 = .ok (.ireturn, 1) := by decide +kernel
def tbX4_reduce (l : Launch) (K : aRs) (X : aXs) : aTb := [
  (0, sLd 0 1 isR),
  (1, sLd 1 2 isI),
  (2, sCallV 1 4 (fun as μ K => Ct l mdX4_knownOrder as μ K X) 5 1 3),
  (5, sSt 3 6 isR),
  (6, sLd 2 7 isI),
  (7, sPush (aI 1) 8),
  (8, sIc qGe 19 11),
  (11, sThrow 1 3 X),
  (19, sLd 3 20 isR),
  (20, sCallV 0 2 (fun as μ K => Ct l mdX2_isLive as μ K X) 23 0 3),
  (23, sIf pEq 34 26),
  (26, sLd 2 27 isI),
  (27, sLd 3 28 isR),
  (28, sGetI 2 6 31),
  (31, sIc qLt 42 34),
  (34, sThrow 2 3 X),
  (42, sLd 3 43 isR),
  (43, sGetI 2 6 46),
  (46, sSt 4 48 isI),
  (48, sLd 3 49 isR),
  (49, sLd 2 50 isI),
  (50, sPutI 2 6 53),
  (53, sLd 3 54 isR),
  (54, sLd 3 55 isR),
  (55, sGetI 2 9 58),
  (58, sLd 2 59 isI),
  (59, sMath (sMin 62) 3),
  (62, sPutI 2 9 65),
  (65, sLd 4 67 isI),
  (67, sRetI .int 3 K)]
theorem snX4_reduce (l : Launch) (K : aRs) (X : aXs) (n0 : Nat) : ∀ q ∈ tbX4_reduce l K X, aSo l mdX4_reduce K X n0 q.1 q.2 :=
  tc (fun p e s m args below meth c cA D A ad0 h => ok_aload_n h.1 0 rfl dX4_reduce_0) <|
  tc (fun p e s m args below meth c cA D A ad0 h => ok_iload_n h.1 1 rfl dX4_reduce_1) <|
  tc (fun p e s m args below meth c cA D A ad0 h => ok_callV h.1 h.2.1 ⟨Nat.le_refl _, Nat.le_refl _⟩ mdX4_knownOrder siX4_knownOrder cxX4 mkRX4_96 imX4_knownOrder seX4_knownOrder ⟨by decide, by decide⟩ (aAx_out h.1 h.2.2.1 _) dX4_reduce_2) <|
  tc (fun p e s m args below meth c cA D A ad0 h => ok_astore_n h.1 3 rfl (by decide) dX4_reduce_5) <|
  tc (fun p e s m args below meth c cA D A ad0 h => ok_iload_n h.1 2 rfl dX4_reduce_6) <|
  tc (fun p e s m args below meth c cA D A ad0 h => ok_iconst h.1 ⟨by decide, by decide⟩ dX4_reduce_7) <|
  tc (fun p e s m args below meth c cA D A ad0 h => ok_icmp_ge h.1 19 (by decide) dX4_reduce_8) <|
  tc (fun p e s m args below meth c cA D A ad0 h => ok_throw h.1 h.2.1 ⟨Nat.le_refl _, Nat.le_refl _⟩ h.2.2.1 (by decide) (by decide) ckRX4_70 niE1 xaE1 xbE1 xcE1 dX4_reduce_11 dX4_reduce_14 dX4_reduce_15 dX4_reduce_18 (by decide) (by decide)) <|
  tc (fun p e s m args below meth c cA D A ad0 h => ok_aload_n h.1 3 rfl dX4_reduce_19) <|
  tc (fun p e s m args below meth c cA D A ad0 h => ok_callV h.1 h.2.1 ⟨Nat.le_refl _, Nat.le_refl _⟩ mdX2_isLive siX2_isLive cxX2 mkRX4_100 imX2_isLive seX2_isLive ⟨by decide, by decide⟩ (aAx_out h.1 h.2.2.1 _) dX4_reduce_20) <|
  tc (fun p e s m args below meth c cA D A ad0 h => ok_if_eq h.1 34 (by decide) dX4_reduce_23) <|
  tc (fun p e s m args below meth c cA D A ad0 h => ok_iload_n h.1 2 rfl dX4_reduce_26) <|
  tc (fun p e s m args below meth c cA D A ad0 h => ok_aload_n h.1 3 rfl dX4_reduce_27) <|
  tc (fun p e s m args below meth c cA D A ad0 h => ok_getI h.1 cxX2 (by decide) rfl fkRX4_113 (fun _ _ _ => rfl) dX4_reduce_28) <|
  tc (fun p e s m args below meth c cA D A ad0 h => ok_icmp_lt h.1 42 (by decide) dX4_reduce_31) <|
  tc (fun p e s m args below meth c cA D A ad0 h => ok_throw h.1 h.2.1 ⟨Nat.le_refl _, Nat.le_refl _⟩ h.2.2.1 (by decide) (by decide) ckRX4_77 niE2 xaE2 xbE2 xcE2 dX4_reduce_34 dX4_reduce_37 dX4_reduce_38 dX4_reduce_41 (by decide) (by decide)) <|
  tc (fun p e s m args below meth c cA D A ad0 h => ok_aload_n h.1 3 rfl dX4_reduce_42) <|
  tc (fun p e s m args below meth c cA D A ad0 h => ok_getI h.1 cxX2 (by decide) rfl fkRX4_113 (fun _ _ _ => rfl) dX4_reduce_43) <|
  tc (fun p e s m args below meth c cA D A ad0 h => ok_istore h.1 (by decide) dX4_reduce_46) <|
  tc (fun p e s m args below meth c cA D A ad0 h => ok_aload_n h.1 3 rfl dX4_reduce_48) <|
  tc (fun p e s m args below meth c cA D A ad0 h => ok_iload_n h.1 2 rfl dX4_reduce_49) <|
  tc (fun p e s m args below meth c cA D A ad0 h => ok_putI h.1 cxX2 (by decide) rfl fkRX4_113 (Or.inl rfl) (fun _ _ _ => rfl) (Or.inl rfl) dX4_reduce_50) <|
  tc (fun p e s m args below meth c cA D A ad0 h => ok_aload_n h.1 3 rfl dX4_reduce_53) <|
  tc (fun p e s m args below meth c cA D A ad0 h => ok_aload_n h.1 3 rfl dX4_reduce_54) <|
  tc (fun p e s m args below meth c cA D A ad0 h => ok_getI h.1 cxX2 (by decide) rfl fkRX4_116 (fun _ _ _ => rfl) dX4_reduce_55) <|
  tc (fun p e s m args below meth c cA D A ad0 h => ok_iload_n h.1 2 rfl dX4_reduce_58) <|
  tc (fun p e s m args below meth c cA D A ad0 h => ok_min h.1 ⟨Nat.le_refl _, Nat.le_refl _⟩ mkRX4_119 smath_min nimath kmath_min dX4_reduce_59) <|
  tc (fun p e s m args below meth c cA D A ad0 h => ok_putI h.1 cxX2 (by decide) rfl fkRX4_116 (Or.inl rfl) (fun _ _ _ => rfl) (Or.inl rfl) dX4_reduce_62) <|
  tc (fun p e s m args below meth c cA D A ad0 h => ok_iload h.1 dX4_reduce_65) <|
  tc (fun p e s m args below meth c cA D A ad0 h => ok_ireturn h.1 h.2.2.2.1 (Or.inl rfl) dX4_reduce_67) <|
  tn
abbrev cuX4_reduce : List Nat := [5, 23]
theorem tX4_reduce_0 (l : Launch) (K : aRs) (X : aXs) : tb (tbX4_reduce l K X) 0 = sLd 0 1 isR := (rfl)
theorem wX4_reduce_0 {l : Launch} {K : aRs} {X : aXs} {J : aK} {W : Nat → aK} (hW : isW (tbX4_reduce l K X) cuX4_reduce J W) (n : Nat) (ls st : List aV) (μ : aM) (g : Nat) : W (n + 1) 0 ls st μ g = (sLd 0 1 isR) (W n) ls st μ g := (hW n 0 ls st μ g).trans rfl
theorem wX4_reduce_1 {l : Launch} {K : aRs} {X : aXs} {J : aK} {W : Nat → aK} (hW : isW (tbX4_reduce l K X) cuX4_reduce J W) (n : Nat) (ls st : List aV) (μ : aM) (g : Nat) : W (n + 1) 1 ls st μ g = (sLd 1 2 isI) (W n) ls st μ g := (hW n 1 ls st μ g).trans rfl
theorem wX4_reduce_2 {l : Launch} {K : aRs} {X : aXs} {J : aK} {W : Nat → aK} (hW : isW (tbX4_reduce l K X) cuX4_reduce J W) (n : Nat) (ls st : List aV) (μ : aM) (g : Nat) : W (n + 1) 2 ls st μ g = (sCallV 1 4 (fun as μ K => Ct l mdX4_knownOrder as μ K X) 5 1 3) (W n) ls st μ g := (hW n 2 ls st μ g).trans rfl
theorem tX4_reduce_5 (l : Launch) (K : aRs) (X : aXs) : tb (tbX4_reduce l K X) 5 = sSt 3 6 isR := (rfl)
theorem wX4_reduce_5 {l : Launch} {K : aRs} {X : aXs} {J : aK} {W : Nat → aK} (hW : isW (tbX4_reduce l K X) cuX4_reduce J W) (n : Nat) (ls st : List aV) (μ : aM) (g : Nat) : W (n + 1) 5 ls st μ g = J 5 ls st μ g := (hW n 5 ls st μ g).trans rfl
theorem wX4_reduce_6 {l : Launch} {K : aRs} {X : aXs} {J : aK} {W : Nat → aK} (hW : isW (tbX4_reduce l K X) cuX4_reduce J W) (n : Nat) (ls st : List aV) (μ : aM) (g : Nat) : W (n + 1) 6 ls st μ g = (sLd 2 7 isI) (W n) ls st μ g := (hW n 6 ls st μ g).trans rfl
theorem wX4_reduce_7 {l : Launch} {K : aRs} {X : aXs} {J : aK} {W : Nat → aK} (hW : isW (tbX4_reduce l K X) cuX4_reduce J W) (n : Nat) (ls st : List aV) (μ : aM) (g : Nat) : W (n + 1) 7 ls st μ g = (sPush (aI 1) 8) (W n) ls st μ g := (hW n 7 ls st μ g).trans rfl
theorem wX4_reduce_8 {l : Launch} {K : aRs} {X : aXs} {J : aK} {W : Nat → aK} (hW : isW (tbX4_reduce l K X) cuX4_reduce J W) (n : Nat) (ls st : List aV) (μ : aM) (g : Nat) : W (n + 1) 8 ls st μ g = (sIc qGe 19 11) (W n) ls st μ g := (hW n 8 ls st μ g).trans rfl
theorem wX4_reduce_11 {l : Launch} {K : aRs} {X : aXs} {J : aK} {W : Nat → aK} (hW : isW (tbX4_reduce l K X) cuX4_reduce J W) (n : Nat) (ls st : List aV) (μ : aM) (g : Nat) : W (n + 1) 11 ls st μ g = (sThrow 1 3 X) (W n) ls st μ g := (hW n 11 ls st μ g).trans rfl
theorem wX4_reduce_19 {l : Launch} {K : aRs} {X : aXs} {J : aK} {W : Nat → aK} (hW : isW (tbX4_reduce l K X) cuX4_reduce J W) (n : Nat) (ls st : List aV) (μ : aM) (g : Nat) : W (n + 1) 19 ls st μ g = (sLd 3 20 isR) (W n) ls st μ g := (hW n 19 ls st μ g).trans rfl
theorem wX4_reduce_20 {l : Launch} {K : aRs} {X : aXs} {J : aK} {W : Nat → aK} (hW : isW (tbX4_reduce l K X) cuX4_reduce J W) (n : Nat) (ls st : List aV) (μ : aM) (g : Nat) : W (n + 1) 20 ls st μ g = (sCallV 0 2 (fun as μ K => Ct l mdX2_isLive as μ K X) 23 0 3) (W n) ls st μ g := (hW n 20 ls st μ g).trans rfl
theorem tX4_reduce_23 (l : Launch) (K : aRs) (X : aXs) : tb (tbX4_reduce l K X) 23 = sIf pEq 34 26 := (rfl)
theorem wX4_reduce_23 {l : Launch} {K : aRs} {X : aXs} {J : aK} {W : Nat → aK} (hW : isW (tbX4_reduce l K X) cuX4_reduce J W) (n : Nat) (ls st : List aV) (μ : aM) (g : Nat) : W (n + 1) 23 ls st μ g = J 23 ls st μ g := (hW n 23 ls st μ g).trans rfl
theorem wX4_reduce_26 {l : Launch} {K : aRs} {X : aXs} {J : aK} {W : Nat → aK} (hW : isW (tbX4_reduce l K X) cuX4_reduce J W) (n : Nat) (ls st : List aV) (μ : aM) (g : Nat) : W (n + 1) 26 ls st μ g = (sLd 2 27 isI) (W n) ls st μ g := (hW n 26 ls st μ g).trans rfl
theorem wX4_reduce_27 {l : Launch} {K : aRs} {X : aXs} {J : aK} {W : Nat → aK} (hW : isW (tbX4_reduce l K X) cuX4_reduce J W) (n : Nat) (ls st : List aV) (μ : aM) (g : Nat) : W (n + 1) 27 ls st μ g = (sLd 3 28 isR) (W n) ls st μ g := (hW n 27 ls st μ g).trans rfl
theorem wX4_reduce_28 {l : Launch} {K : aRs} {X : aXs} {J : aK} {W : Nat → aK} (hW : isW (tbX4_reduce l K X) cuX4_reduce J W) (n : Nat) (ls st : List aV) (μ : aM) (g : Nat) : W (n + 1) 28 ls st μ g = (sGetI 2 6 31) (W n) ls st μ g := (hW n 28 ls st μ g).trans rfl
theorem wX4_reduce_31 {l : Launch} {K : aRs} {X : aXs} {J : aK} {W : Nat → aK} (hW : isW (tbX4_reduce l K X) cuX4_reduce J W) (n : Nat) (ls st : List aV) (μ : aM) (g : Nat) : W (n + 1) 31 ls st μ g = (sIc qLt 42 34) (W n) ls st μ g := (hW n 31 ls st μ g).trans rfl
theorem wX4_reduce_34 {l : Launch} {K : aRs} {X : aXs} {J : aK} {W : Nat → aK} (hW : isW (tbX4_reduce l K X) cuX4_reduce J W) (n : Nat) (ls st : List aV) (μ : aM) (g : Nat) : W (n + 1) 34 ls st μ g = (sThrow 2 3 X) (W n) ls st μ g := (hW n 34 ls st μ g).trans rfl
theorem wX4_reduce_42 {l : Launch} {K : aRs} {X : aXs} {J : aK} {W : Nat → aK} (hW : isW (tbX4_reduce l K X) cuX4_reduce J W) (n : Nat) (ls st : List aV) (μ : aM) (g : Nat) : W (n + 1) 42 ls st μ g = (sLd 3 43 isR) (W n) ls st μ g := (hW n 42 ls st μ g).trans rfl
theorem wX4_reduce_43 {l : Launch} {K : aRs} {X : aXs} {J : aK} {W : Nat → aK} (hW : isW (tbX4_reduce l K X) cuX4_reduce J W) (n : Nat) (ls st : List aV) (μ : aM) (g : Nat) : W (n + 1) 43 ls st μ g = (sGetI 2 6 46) (W n) ls st μ g := (hW n 43 ls st μ g).trans rfl
theorem wX4_reduce_46 {l : Launch} {K : aRs} {X : aXs} {J : aK} {W : Nat → aK} (hW : isW (tbX4_reduce l K X) cuX4_reduce J W) (n : Nat) (ls st : List aV) (μ : aM) (g : Nat) : W (n + 1) 46 ls st μ g = (sSt 4 48 isI) (W n) ls st μ g := (hW n 46 ls st μ g).trans rfl
theorem wX4_reduce_48 {l : Launch} {K : aRs} {X : aXs} {J : aK} {W : Nat → aK} (hW : isW (tbX4_reduce l K X) cuX4_reduce J W) (n : Nat) (ls st : List aV) (μ : aM) (g : Nat) : W (n + 1) 48 ls st μ g = (sLd 3 49 isR) (W n) ls st μ g := (hW n 48 ls st μ g).trans rfl
theorem wX4_reduce_49 {l : Launch} {K : aRs} {X : aXs} {J : aK} {W : Nat → aK} (hW : isW (tbX4_reduce l K X) cuX4_reduce J W) (n : Nat) (ls st : List aV) (μ : aM) (g : Nat) : W (n + 1) 49 ls st μ g = (sLd 2 50 isI) (W n) ls st μ g := (hW n 49 ls st μ g).trans rfl
theorem wX4_reduce_50 {l : Launch} {K : aRs} {X : aXs} {J : aK} {W : Nat → aK} (hW : isW (tbX4_reduce l K X) cuX4_reduce J W) (n : Nat) (ls st : List aV) (μ : aM) (g : Nat) : W (n + 1) 50 ls st μ g = (sPutI 2 6 53) (W n) ls st μ g := (hW n 50 ls st μ g).trans rfl
theorem wX4_reduce_53 {l : Launch} {K : aRs} {X : aXs} {J : aK} {W : Nat → aK} (hW : isW (tbX4_reduce l K X) cuX4_reduce J W) (n : Nat) (ls st : List aV) (μ : aM) (g : Nat) : W (n + 1) 53 ls st μ g = (sLd 3 54 isR) (W n) ls st μ g := (hW n 53 ls st μ g).trans rfl
theorem wX4_reduce_54 {l : Launch} {K : aRs} {X : aXs} {J : aK} {W : Nat → aK} (hW : isW (tbX4_reduce l K X) cuX4_reduce J W) (n : Nat) (ls st : List aV) (μ : aM) (g : Nat) : W (n + 1) 54 ls st μ g = (sLd 3 55 isR) (W n) ls st μ g := (hW n 54 ls st μ g).trans rfl
theorem wX4_reduce_55 {l : Launch} {K : aRs} {X : aXs} {J : aK} {W : Nat → aK} (hW : isW (tbX4_reduce l K X) cuX4_reduce J W) (n : Nat) (ls st : List aV) (μ : aM) (g : Nat) : W (n + 1) 55 ls st μ g = (sGetI 2 9 58) (W n) ls st μ g := (hW n 55 ls st μ g).trans rfl
theorem wX4_reduce_58 {l : Launch} {K : aRs} {X : aXs} {J : aK} {W : Nat → aK} (hW : isW (tbX4_reduce l K X) cuX4_reduce J W) (n : Nat) (ls st : List aV) (μ : aM) (g : Nat) : W (n + 1) 58 ls st μ g = (sLd 2 59 isI) (W n) ls st μ g := (hW n 58 ls st μ g).trans rfl
theorem wX4_reduce_59 {l : Launch} {K : aRs} {X : aXs} {J : aK} {W : Nat → aK} (hW : isW (tbX4_reduce l K X) cuX4_reduce J W) (n : Nat) (ls st : List aV) (μ : aM) (g : Nat) : W (n + 1) 59 ls st μ g = (sMath (sMin 62) 3) (W n) ls st μ g := (hW n 59 ls st μ g).trans rfl
theorem wX4_reduce_62 {l : Launch} {K : aRs} {X : aXs} {J : aK} {W : Nat → aK} (hW : isW (tbX4_reduce l K X) cuX4_reduce J W) (n : Nat) (ls st : List aV) (μ : aM) (g : Nat) : W (n + 1) 62 ls st μ g = (sPutI 2 9 65) (W n) ls st μ g := (hW n 62 ls st μ g).trans rfl
theorem wX4_reduce_65 {l : Launch} {K : aRs} {X : aXs} {J : aK} {W : Nat → aK} (hW : isW (tbX4_reduce l K X) cuX4_reduce J W) (n : Nat) (ls st : List aV) (μ : aM) (g : Nat) : W (n + 1) 65 ls st μ g = (sLd 4 67 isI) (W n) ls st μ g := (hW n 65 ls st μ g).trans rfl
theorem wX4_reduce_67 {l : Launch} {K : aRs} {X : aXs} {J : aK} {W : Nat → aK} (hW : isW (tbX4_reduce l K X) cuX4_reduce J W) (n : Nat) (ls st : List aV) (μ : aM) (g : Nat) : W (n + 1) 67 ls st μ g = (sRetI .int 3 K) (W n) ls st μ g := (hW n 67 ls st μ g).trans rfl
theorem dX4_setBand_0 : decode cX4_setBand 0 = .ok (.iload_n 1, 1) := by decide +kernel
theorem dX4_setBand_1 : decode cX4_setBand 1 = .ok (.ifCond .lt 9, 3) := by decide +kernel
theorem dX4_setBand_4 : decode cX4_setBand 4 = .ok (.iload_n 1, 1) := by decide +kernel
theorem dX4_setBand_5 : decode cX4_setBand 5 = .ok (.bipush 50, 2) := by decide +kernel
theorem dX4_setBand_7 : decode cX4_setBand 7 = .ok (.if_icmp .le 11, 3) := by decide +kernel
theorem dX4_setBand_10 : decode cX4_setBand 10 = .ok (.new 70, 3) := by decide +kernel
theorem dX4_setBand_13 : decode cX4_setBand 13 = .ok (.dup, 1) := by decide +kernel
theorem dX4_setBand_14 : decode cX4_setBand 14 = .ok (.invokespecial 72, 3) := by decide +kernel
theorem dX4_setBand_17 : decode cX4_setBand 17 = .ok (.athrow, 1) := by decide +kernel
theorem dX4_setBand_18 : decode cX4_setBand 18 = .ok (.aload_n 0, 1) := by decide +kernel
theorem dX4_setBand_19 : decode cX4_setBand 19 = .ok (.getfield 45, 3) := by decide +kernel
theorem dX4_setBand_22 : decode cX4_setBand 22 = .ok (.istore_n 2, 1) := by decide +kernel
theorem dX4_setBand_23 : decode cX4_setBand 23 = .ok (.aload_n 0, 1) := by decide +kernel
theorem dX4_setBand_24 : decode cX4_setBand 24 = .ok (.iload_n 1, 1) := by decide +kernel
theorem dX4_setBand_25 : decode cX4_setBand 25 = .ok (.putfield 45, 3) := by decide +kernel
theorem dX4_setBand_28 : decode cX4_setBand 28 = .ok (.iload_n 2, 1) := by decide +kernel
theorem dX4_setBand_29 : decode cX4_setBand 29 = .ok (.ireturn, 1) := by decide +kernel
def tbX4_setBand (l : Launch) (K : aRs) (X : aXs) : aTb := [
  (0, sLd 1 1 isI),
  (1, sIf pLt 10 4),
  (4, sLd 1 5 isI),
  (5, sPush (aI 50) 7),
  (7, sIc qLe 18 10),
  (10, sThrow 1 1 X),
  (18, sLd 0 19 isR),
  (19, sGetI 4 6 22),
  (22, sSt 2 23 isI),
  (23, sLd 0 24 isR),
  (24, sLd 1 25 isI),
  (25, sPutI 4 6 28),
  (28, sLd 2 29 isI),
  (29, sRetI .int 1 K)]
theorem snX4_setBand (l : Launch) (K : aRs) (X : aXs) (n0 : Nat) : ∀ q ∈ tbX4_setBand l K X, aSo l mdX4_setBand K X n0 q.1 q.2 :=
  tc (fun p e s m args below meth c cA D A ad0 h => ok_iload_n h.1 1 rfl dX4_setBand_0) <|
  tc (fun p e s m args below meth c cA D A ad0 h => ok_if_lt h.1 10 (by decide) dX4_setBand_1) <|
  tc (fun p e s m args below meth c cA D A ad0 h => ok_iload_n h.1 1 rfl dX4_setBand_4) <|
  tc (fun p e s m args below meth c cA D A ad0 h => ok_bipush h.1 ⟨by decide, by decide⟩ (by decide) dX4_setBand_5) <|
  tc (fun p e s m args below meth c cA D A ad0 h => ok_icmp_le h.1 18 (by decide) dX4_setBand_7) <|
  tc (fun p e s m args below meth c cA D A ad0 h => ok_throw h.1 h.2.1 ⟨Nat.le_refl _, Nat.le_refl _⟩ h.2.2.1 (by decide) (by decide) ckRX4_70 niE1 xaE1 xbE1 xcE1 dX4_setBand_10 dX4_setBand_13 dX4_setBand_14 dX4_setBand_17 (by decide) (by decide)) <|
  tc (fun p e s m args below meth c cA D A ad0 h => ok_aload_n h.1 0 rfl dX4_setBand_18) <|
  tc (fun p e s m args below meth c cA D A ad0 h => ok_getI h.1 cxX4 (by decide) rfl fkRX4_45 (fun _ _ _ => rfl) dX4_setBand_19) <|
  tc (fun p e s m args below meth c cA D A ad0 h => ok_istore_n h.1 2 rfl (by decide) dX4_setBand_22) <|
  tc (fun p e s m args below meth c cA D A ad0 h => ok_aload_n h.1 0 rfl dX4_setBand_23) <|
  tc (fun p e s m args below meth c cA D A ad0 h => ok_iload_n h.1 1 rfl dX4_setBand_24) <|
  tc (fun p e s m args below meth c cA D A ad0 h => ok_putI h.1 cxX4 (by decide) rfl fkRX4_45 (Or.inl rfl) (fun _ _ _ => rfl) (Or.inl rfl) dX4_setBand_25) <|
  tc (fun p e s m args below meth c cA D A ad0 h => ok_iload_n h.1 2 rfl dX4_setBand_28) <|
  tc (fun p e s m args below meth c cA D A ad0 h => ok_ireturn h.1 h.2.2.2.1 (Or.inl rfl) dX4_setBand_29) <|
  tn
abbrev cuX4_setBand : List Nat := []
theorem tX4_setBand_0 (l : Launch) (K : aRs) (X : aXs) : tb (tbX4_setBand l K X) 0 = sLd 1 1 isI := (rfl)
theorem wX4_setBand_0 {l : Launch} {K : aRs} {X : aXs} {J : aK} {W : Nat → aK} (hW : isW (tbX4_setBand l K X) cuX4_setBand J W) (n : Nat) (ls st : List aV) (μ : aM) (g : Nat) : W (n + 1) 0 ls st μ g = (sLd 1 1 isI) (W n) ls st μ g := (hW n 0 ls st μ g).trans rfl
theorem wX4_setBand_1 {l : Launch} {K : aRs} {X : aXs} {J : aK} {W : Nat → aK} (hW : isW (tbX4_setBand l K X) cuX4_setBand J W) (n : Nat) (ls st : List aV) (μ : aM) (g : Nat) : W (n + 1) 1 ls st μ g = (sIf pLt 10 4) (W n) ls st μ g := (hW n 1 ls st μ g).trans rfl
theorem wX4_setBand_4 {l : Launch} {K : aRs} {X : aXs} {J : aK} {W : Nat → aK} (hW : isW (tbX4_setBand l K X) cuX4_setBand J W) (n : Nat) (ls st : List aV) (μ : aM) (g : Nat) : W (n + 1) 4 ls st μ g = (sLd 1 5 isI) (W n) ls st μ g := (hW n 4 ls st μ g).trans rfl
theorem wX4_setBand_5 {l : Launch} {K : aRs} {X : aXs} {J : aK} {W : Nat → aK} (hW : isW (tbX4_setBand l K X) cuX4_setBand J W) (n : Nat) (ls st : List aV) (μ : aM) (g : Nat) : W (n + 1) 5 ls st μ g = (sPush (aI 50) 7) (W n) ls st μ g := (hW n 5 ls st μ g).trans rfl
theorem wX4_setBand_7 {l : Launch} {K : aRs} {X : aXs} {J : aK} {W : Nat → aK} (hW : isW (tbX4_setBand l K X) cuX4_setBand J W) (n : Nat) (ls st : List aV) (μ : aM) (g : Nat) : W (n + 1) 7 ls st μ g = (sIc qLe 18 10) (W n) ls st μ g := (hW n 7 ls st μ g).trans rfl
theorem wX4_setBand_10 {l : Launch} {K : aRs} {X : aXs} {J : aK} {W : Nat → aK} (hW : isW (tbX4_setBand l K X) cuX4_setBand J W) (n : Nat) (ls st : List aV) (μ : aM) (g : Nat) : W (n + 1) 10 ls st μ g = (sThrow 1 1 X) (W n) ls st μ g := (hW n 10 ls st μ g).trans rfl
theorem wX4_setBand_18 {l : Launch} {K : aRs} {X : aXs} {J : aK} {W : Nat → aK} (hW : isW (tbX4_setBand l K X) cuX4_setBand J W) (n : Nat) (ls st : List aV) (μ : aM) (g : Nat) : W (n + 1) 18 ls st μ g = (sLd 0 19 isR) (W n) ls st μ g := (hW n 18 ls st μ g).trans rfl
theorem wX4_setBand_19 {l : Launch} {K : aRs} {X : aXs} {J : aK} {W : Nat → aK} (hW : isW (tbX4_setBand l K X) cuX4_setBand J W) (n : Nat) (ls st : List aV) (μ : aM) (g : Nat) : W (n + 1) 19 ls st μ g = (sGetI 4 6 22) (W n) ls st μ g := (hW n 19 ls st μ g).trans rfl
theorem wX4_setBand_22 {l : Launch} {K : aRs} {X : aXs} {J : aK} {W : Nat → aK} (hW : isW (tbX4_setBand l K X) cuX4_setBand J W) (n : Nat) (ls st : List aV) (μ : aM) (g : Nat) : W (n + 1) 22 ls st μ g = (sSt 2 23 isI) (W n) ls st μ g := (hW n 22 ls st μ g).trans rfl
theorem wX4_setBand_23 {l : Launch} {K : aRs} {X : aXs} {J : aK} {W : Nat → aK} (hW : isW (tbX4_setBand l K X) cuX4_setBand J W) (n : Nat) (ls st : List aV) (μ : aM) (g : Nat) : W (n + 1) 23 ls st μ g = (sLd 0 24 isR) (W n) ls st μ g := (hW n 23 ls st μ g).trans rfl
theorem wX4_setBand_24 {l : Launch} {K : aRs} {X : aXs} {J : aK} {W : Nat → aK} (hW : isW (tbX4_setBand l K X) cuX4_setBand J W) (n : Nat) (ls st : List aV) (μ : aM) (g : Nat) : W (n + 1) 24 ls st μ g = (sLd 1 25 isI) (W n) ls st μ g := (hW n 24 ls st μ g).trans rfl
theorem wX4_setBand_25 {l : Launch} {K : aRs} {X : aXs} {J : aK} {W : Nat → aK} (hW : isW (tbX4_setBand l K X) cuX4_setBand J W) (n : Nat) (ls st : List aV) (μ : aM) (g : Nat) : W (n + 1) 25 ls st μ g = (sPutI 4 6 28) (W n) ls st μ g := (hW n 25 ls st μ g).trans rfl
theorem wX4_setBand_28 {l : Launch} {K : aRs} {X : aXs} {J : aK} {W : Nat → aK} (hW : isW (tbX4_setBand l K X) cuX4_setBand J W) (n : Nat) (ls st : List aV) (μ : aM) (g : Nat) : W (n + 1) 28 ls st μ g = (sLd 2 29 isI) (W n) ls st μ g := (hW n 28 ls st μ g).trans rfl
theorem wX4_setBand_29 {l : Launch} {K : aRs} {X : aXs} {J : aK} {W : Nat → aK} (hW : isW (tbX4_setBand l K X) cuX4_setBand J W) (n : Nat) (ls st : List aV) (μ : aM) (g : Nat) : W (n + 1) 29 ls st μ g = (sRetI .int 1 K) (W n) ls st μ g := (hW n 29 ls st μ g).trans rfl
theorem dX4_setRule_0 : decode cX4_setRule 0 = .ok (.iload_n 1, 1) := by decide +kernel
theorem dX4_setRule_1 : decode cX4_setRule 1 = .ok (.bipush 114, 2) := by decide +kernel
theorem dX4_setRule_3 : decode cX4_setRule 3 = .ok (.if_icmp .eq 17, 3) := by decide +kernel
theorem dX4_setRule_6 : decode cX4_setRule 6 = .ok (.iload_n 1, 1) := by decide +kernel
theorem dX4_setRule_7 : decode cX4_setRule 7 = .ok (.bipush 105, 2) := by decide +kernel
theorem dX4_setRule_9 : decode cX4_setRule 9 = .ok (.if_icmp .eq 11, 3) := by decide +kernel
theorem dX4_setRule_12 : decode cX4_setRule 12 = .ok (.new 70, 3) := by decide +kernel
theorem dX4_setRule_15 : decode cX4_setRule 15 = .ok (.dup, 1) := by decide +kernel
theorem dX4_setRule_16 : decode cX4_setRule 16 = .ok (.invokespecial 72, 3) := by decide +kernel
theorem dX4_setRule_19 : decode cX4_setRule 19 = .ok (.athrow, 1) := by decide +kernel
theorem dX4_setRule_20 : decode cX4_setRule 20 = .ok (.aload_n 0, 1) := by decide +kernel
theorem dX4_setRule_21 : decode cX4_setRule 21 = .ok (.getfield 48, 3) := by decide +kernel
theorem dX4_setRule_24 : decode cX4_setRule 24 = .ok (.istore_n 2, 1) := by decide +kernel
theorem dX4_setRule_25 : decode cX4_setRule 25 = .ok (.aload_n 0, 1) := by decide +kernel
theorem dX4_setRule_26 : decode cX4_setRule 26 = .ok (.iload_n 1, 1) := by decide +kernel
theorem dX4_setRule_27 : decode cX4_setRule 27 = .ok (.putfield 48, 3) := by decide +kernel
theorem dX4_setRule_30 : decode cX4_setRule 30 = .ok (.iload_n 2, 1) := by decide +kernel
theorem dX4_setRule_31 : decode cX4_setRule 31 = .ok (.ireturn, 1) := by decide +kernel
def tbX4_setRule (l : Launch) (K : aRs) (X : aXs) : aTb := [
  (0, sLd 1 1 isI),
  (1, sPush (aI 114) 3),
  (3, sIc qEq 20 6),
  (6, sLd 1 7 isI),
  (7, sPush (aI 105) 9),
  (9, sIc qEq 20 12),
  (12, sThrow 1 1 X),
  (20, sLd 0 21 isR),
  (21, sGetI 4 7 24),
  (24, sSt 2 25 isI),
  (25, sLd 0 26 isR),
  (26, sLd 1 27 isI),
  (27, sPutI 4 7 30),
  (30, sLd 2 31 isI),
  (31, sRetI .char 1 K)]
theorem snX4_setRule (l : Launch) (K : aRs) (X : aXs) (n0 : Nat) : ∀ q ∈ tbX4_setRule l K X, aSo l mdX4_setRule K X n0 q.1 q.2 :=
  tc (fun p e s m args below meth c cA D A ad0 h => ok_iload_n h.1 1 rfl dX4_setRule_0) <|
  tc (fun p e s m args below meth c cA D A ad0 h => ok_bipush h.1 ⟨by decide, by decide⟩ (by decide) dX4_setRule_1) <|
  tc (fun p e s m args below meth c cA D A ad0 h => ok_icmp_eq h.1 20 (by decide) dX4_setRule_3) <|
  tc (fun p e s m args below meth c cA D A ad0 h => ok_iload_n h.1 1 rfl dX4_setRule_6) <|
  tc (fun p e s m args below meth c cA D A ad0 h => ok_bipush h.1 ⟨by decide, by decide⟩ (by decide) dX4_setRule_7) <|
  tc (fun p e s m args below meth c cA D A ad0 h => ok_icmp_eq h.1 20 (by decide) dX4_setRule_9) <|
  tc (fun p e s m args below meth c cA D A ad0 h => ok_throw h.1 h.2.1 ⟨Nat.le_refl _, Nat.le_refl _⟩ h.2.2.1 (by decide) (by decide) ckRX4_70 niE1 xaE1 xbE1 xcE1 dX4_setRule_12 dX4_setRule_15 dX4_setRule_16 dX4_setRule_19 (by decide) (by decide)) <|
  tc (fun p e s m args below meth c cA D A ad0 h => ok_aload_n h.1 0 rfl dX4_setRule_20) <|
  tc (fun p e s m args below meth c cA D A ad0 h => ok_getI h.1 cxX4 (by decide) rfl fkRX4_48 (fun _ _ _ => rfl) dX4_setRule_21) <|
  tc (fun p e s m args below meth c cA D A ad0 h => ok_istore_n h.1 2 rfl (by decide) dX4_setRule_24) <|
  tc (fun p e s m args below meth c cA D A ad0 h => ok_aload_n h.1 0 rfl dX4_setRule_25) <|
  tc (fun p e s m args below meth c cA D A ad0 h => ok_iload_n h.1 1 rfl dX4_setRule_26) <|
  tc (fun p e s m args below meth c cA D A ad0 h => ok_putI h.1 cxX4 (by decide) rfl fkRX4_48 (Or.inl rfl) (fun _ _ _ => rfl) (Or.inr (Or.inr rfl)) dX4_setRule_27) <|
  tc (fun p e s m args below meth c cA D A ad0 h => ok_iload_n h.1 2 rfl dX4_setRule_30) <|
  tc (fun p e s m args below meth c cA D A ad0 h => ok_ireturn h.1 h.2.2.2.1 (Or.inr (Or.inr rfl)) dX4_setRule_31) <|
  tn
abbrev cuX4_setRule : List Nat := []
theorem tX4_setRule_0 (l : Launch) (K : aRs) (X : aXs) : tb (tbX4_setRule l K X) 0 = sLd 1 1 isI := (rfl)
theorem wX4_setRule_0 {l : Launch} {K : aRs} {X : aXs} {J : aK} {W : Nat → aK} (hW : isW (tbX4_setRule l K X) cuX4_setRule J W) (n : Nat) (ls st : List aV) (μ : aM) (g : Nat) : W (n + 1) 0 ls st μ g = (sLd 1 1 isI) (W n) ls st μ g := (hW n 0 ls st μ g).trans rfl
theorem wX4_setRule_1 {l : Launch} {K : aRs} {X : aXs} {J : aK} {W : Nat → aK} (hW : isW (tbX4_setRule l K X) cuX4_setRule J W) (n : Nat) (ls st : List aV) (μ : aM) (g : Nat) : W (n + 1) 1 ls st μ g = (sPush (aI 114) 3) (W n) ls st μ g := (hW n 1 ls st μ g).trans rfl
theorem wX4_setRule_3 {l : Launch} {K : aRs} {X : aXs} {J : aK} {W : Nat → aK} (hW : isW (tbX4_setRule l K X) cuX4_setRule J W) (n : Nat) (ls st : List aV) (μ : aM) (g : Nat) : W (n + 1) 3 ls st μ g = (sIc qEq 20 6) (W n) ls st μ g := (hW n 3 ls st μ g).trans rfl
theorem wX4_setRule_6 {l : Launch} {K : aRs} {X : aXs} {J : aK} {W : Nat → aK} (hW : isW (tbX4_setRule l K X) cuX4_setRule J W) (n : Nat) (ls st : List aV) (μ : aM) (g : Nat) : W (n + 1) 6 ls st μ g = (sLd 1 7 isI) (W n) ls st μ g := (hW n 6 ls st μ g).trans rfl
theorem wX4_setRule_7 {l : Launch} {K : aRs} {X : aXs} {J : aK} {W : Nat → aK} (hW : isW (tbX4_setRule l K X) cuX4_setRule J W) (n : Nat) (ls st : List aV) (μ : aM) (g : Nat) : W (n + 1) 7 ls st μ g = (sPush (aI 105) 9) (W n) ls st μ g := (hW n 7 ls st μ g).trans rfl
theorem wX4_setRule_9 {l : Launch} {K : aRs} {X : aXs} {J : aK} {W : Nat → aK} (hW : isW (tbX4_setRule l K X) cuX4_setRule J W) (n : Nat) (ls st : List aV) (μ : aM) (g : Nat) : W (n + 1) 9 ls st μ g = (sIc qEq 20 12) (W n) ls st μ g := (hW n 9 ls st μ g).trans rfl
theorem wX4_setRule_12 {l : Launch} {K : aRs} {X : aXs} {J : aK} {W : Nat → aK} (hW : isW (tbX4_setRule l K X) cuX4_setRule J W) (n : Nat) (ls st : List aV) (μ : aM) (g : Nat) : W (n + 1) 12 ls st μ g = (sThrow 1 1 X) (W n) ls st μ g := (hW n 12 ls st μ g).trans rfl
theorem wX4_setRule_20 {l : Launch} {K : aRs} {X : aXs} {J : aK} {W : Nat → aK} (hW : isW (tbX4_setRule l K X) cuX4_setRule J W) (n : Nat) (ls st : List aV) (μ : aM) (g : Nat) : W (n + 1) 20 ls st μ g = (sLd 0 21 isR) (W n) ls st μ g := (hW n 20 ls st μ g).trans rfl
theorem wX4_setRule_21 {l : Launch} {K : aRs} {X : aXs} {J : aK} {W : Nat → aK} (hW : isW (tbX4_setRule l K X) cuX4_setRule J W) (n : Nat) (ls st : List aV) (μ : aM) (g : Nat) : W (n + 1) 21 ls st μ g = (sGetI 4 7 24) (W n) ls st μ g := (hW n 21 ls st μ g).trans rfl
theorem wX4_setRule_24 {l : Launch} {K : aRs} {X : aXs} {J : aK} {W : Nat → aK} (hW : isW (tbX4_setRule l K X) cuX4_setRule J W) (n : Nat) (ls st : List aV) (μ : aM) (g : Nat) : W (n + 1) 24 ls st μ g = (sSt 2 25 isI) (W n) ls st μ g := (hW n 24 ls st μ g).trans rfl
theorem wX4_setRule_25 {l : Launch} {K : aRs} {X : aXs} {J : aK} {W : Nat → aK} (hW : isW (tbX4_setRule l K X) cuX4_setRule J W) (n : Nat) (ls st : List aV) (μ : aM) (g : Nat) : W (n + 1) 25 ls st μ g = (sLd 0 26 isR) (W n) ls st μ g := (hW n 25 ls st μ g).trans rfl
theorem wX4_setRule_26 {l : Launch} {K : aRs} {X : aXs} {J : aK} {W : Nat → aK} (hW : isW (tbX4_setRule l K X) cuX4_setRule J W) (n : Nat) (ls st : List aV) (μ : aM) (g : Nat) : W (n + 1) 26 ls st μ g = (sLd 1 27 isI) (W n) ls st μ g := (hW n 26 ls st μ g).trans rfl
theorem wX4_setRule_27 {l : Launch} {K : aRs} {X : aXs} {J : aK} {W : Nat → aK} (hW : isW (tbX4_setRule l K X) cuX4_setRule J W) (n : Nat) (ls st : List aV) (μ : aM) (g : Nat) : W (n + 1) 27 ls st μ g = (sPutI 4 7 30) (W n) ls st μ g := (hW n 27 ls st μ g).trans rfl
theorem wX4_setRule_30 {l : Launch} {K : aRs} {X : aXs} {J : aK} {W : Nat → aK} (hW : isW (tbX4_setRule l K X) cuX4_setRule J W) (n : Nat) (ls st : List aV) (μ : aM) (g : Nat) : W (n + 1) 30 ls st μ g = (sLd 2 31 isI) (W n) ls st μ g := (hW n 30 ls st μ g).trans rfl
theorem wX4_setRule_31 {l : Launch} {K : aRs} {X : aXs} {J : aK} {W : Nat → aK} (hW : isW (tbX4_setRule l K X) cuX4_setRule J W) (n : Nat) (ls st : List aV) (μ : aM) (g : Nat) : W (n + 1) 31 ls st μ g = (sRetI .char 1 K) (W n) ls st μ g := (hW n 31 ls st μ g).trans rfl
theorem dX4_halt_0 : decode cX4_halt 0 = .ok (.aload_n 0, 1) := by decide +kernel
theorem dX4_halt_1 : decode cX4_halt 1 = .ok (.getfield 52, 3) := by decide +kernel
theorem dX4_halt_4 : decode cX4_halt 4 = .ok (.ifCond .eq 11, 3) := by decide +kernel
theorem dX4_halt_7 : decode cX4_halt 7 = .ok (.new 77, 3) := by decide +kernel
theorem dX4_halt_10 : decode cX4_halt 10 = .ok (.dup, 1) := by decide +kernel
theorem dX4_halt_11 : decode cX4_halt 11 = .ok (.invokespecial 79, 3) := by decide +kernel
theorem dX4_halt_14 : decode cX4_halt 14 = .ok (.athrow, 1) := by decide +kernel
theorem dX4_halt_15 : decode cX4_halt 15 = .ok (.aload_n 0, 1) := by decide +kernel
theorem dX4_halt_16 : decode cX4_halt 16 = .ok (.iconst 1, 1) := by decide +kernel
theorem dX4_halt_17 : decode cX4_halt 17 = .ok (.putfield 52, 3) := by decide +kernel
theorem dX4_halt_20 : decode cX4_halt 20 = .ok (.aload_n 0, 1) := by decide +kernel
theorem dX4_halt_21 : decode cX4_halt 21 = .ok (.bipush 97, 2) := by decide +kernel
theorem dX4_halt_23 : decode cX4_halt 23 = .ok (.invokevirtual 125, 3) := by decide +kernel
theorem dX4_halt_26 : decode cX4_halt 26 = .ok (.ireturn, 1) := by decide +kernel
def tbX4_halt (l : Launch) (K : aRs) (X : aXs) : aTb := [
  (0, sLd 0 1 isR),
  (1, sGetI 4 8 4),
  (4, sIf pEq 15 7),
  (7, sThrow 2 1 X),
  (15, sLd 0 16 isR),
  (16, sPush (aI 1) 17),
  (17, sPutI 4 8 20),
  (20, sLd 0 21 isR),
  (21, sPush (aI 97) 23),
  (23, sCallV 1 4 (fun as μ K => Ct l mdX4_countIn as μ K X) 26 0 1),
  (26, sRetI .int 1 K)]
theorem snX4_halt (l : Launch) (K : aRs) (X : aXs) (n0 : Nat) : ∀ q ∈ tbX4_halt l K X, aSo l mdX4_halt K X n0 q.1 q.2 :=
  tc (fun p e s m args below meth c cA D A ad0 h => ok_aload_n h.1 0 rfl dX4_halt_0) <|
  tc (fun p e s m args below meth c cA D A ad0 h => ok_getI h.1 cxX4 (by decide) rfl fkRX4_52 (fun _ _ _ => rfl) dX4_halt_1) <|
  tc (fun p e s m args below meth c cA D A ad0 h => ok_if_eq h.1 15 (by decide) dX4_halt_4) <|
  tc (fun p e s m args below meth c cA D A ad0 h => ok_throw h.1 h.2.1 ⟨Nat.le_refl _, Nat.le_refl _⟩ h.2.2.1 (by decide) (by decide) ckRX4_77 niE2 xaE2 xbE2 xcE2 dX4_halt_7 dX4_halt_10 dX4_halt_11 dX4_halt_14 (by decide) (by decide)) <|
  tc (fun p e s m args below meth c cA D A ad0 h => ok_aload_n h.1 0 rfl dX4_halt_15) <|
  tc (fun p e s m args below meth c cA D A ad0 h => ok_iconst h.1 ⟨by decide, by decide⟩ dX4_halt_16) <|
  tc (fun p e s m args below meth c cA D A ad0 h => ok_putI h.1 cxX4 (by decide) rfl fkRX4_52 (Or.inl rfl) (fun _ _ _ => rfl) (Or.inr (Or.inl rfl)) dX4_halt_17) <|
  tc (fun p e s m args below meth c cA D A ad0 h => ok_aload_n h.1 0 rfl dX4_halt_20) <|
  tc (fun p e s m args below meth c cA D A ad0 h => ok_bipush h.1 ⟨by decide, by decide⟩ (by decide) dX4_halt_21) <|
  tc (fun p e s m args below meth c cA D A ad0 h => ok_callV h.1 h.2.1 ⟨Nat.le_refl _, Nat.le_refl _⟩ mdX4_countIn siX4_countIn cxX4 mkRX4_125 imX4_countIn seX4_countIn ⟨by decide, by decide⟩ (aAx_out h.1 h.2.2.1 _) dX4_halt_23) <|
  tc (fun p e s m args below meth c cA D A ad0 h => ok_ireturn h.1 h.2.2.2.1 (Or.inl rfl) dX4_halt_26) <|
  tn
abbrev cuX4_halt : List Nat := [26]
theorem tX4_halt_0 (l : Launch) (K : aRs) (X : aXs) : tb (tbX4_halt l K X) 0 = sLd 0 1 isR := (rfl)
theorem wX4_halt_0 {l : Launch} {K : aRs} {X : aXs} {J : aK} {W : Nat → aK} (hW : isW (tbX4_halt l K X) cuX4_halt J W) (n : Nat) (ls st : List aV) (μ : aM) (g : Nat) : W (n + 1) 0 ls st μ g = (sLd 0 1 isR) (W n) ls st μ g := (hW n 0 ls st μ g).trans rfl
theorem wX4_halt_1 {l : Launch} {K : aRs} {X : aXs} {J : aK} {W : Nat → aK} (hW : isW (tbX4_halt l K X) cuX4_halt J W) (n : Nat) (ls st : List aV) (μ : aM) (g : Nat) : W (n + 1) 1 ls st μ g = (sGetI 4 8 4) (W n) ls st μ g := (hW n 1 ls st μ g).trans rfl
theorem wX4_halt_4 {l : Launch} {K : aRs} {X : aXs} {J : aK} {W : Nat → aK} (hW : isW (tbX4_halt l K X) cuX4_halt J W) (n : Nat) (ls st : List aV) (μ : aM) (g : Nat) : W (n + 1) 4 ls st μ g = (sIf pEq 15 7) (W n) ls st μ g := (hW n 4 ls st μ g).trans rfl
theorem wX4_halt_7 {l : Launch} {K : aRs} {X : aXs} {J : aK} {W : Nat → aK} (hW : isW (tbX4_halt l K X) cuX4_halt J W) (n : Nat) (ls st : List aV) (μ : aM) (g : Nat) : W (n + 1) 7 ls st μ g = (sThrow 2 1 X) (W n) ls st μ g := (hW n 7 ls st μ g).trans rfl
theorem wX4_halt_15 {l : Launch} {K : aRs} {X : aXs} {J : aK} {W : Nat → aK} (hW : isW (tbX4_halt l K X) cuX4_halt J W) (n : Nat) (ls st : List aV) (μ : aM) (g : Nat) : W (n + 1) 15 ls st μ g = (sLd 0 16 isR) (W n) ls st μ g := (hW n 15 ls st μ g).trans rfl
theorem wX4_halt_16 {l : Launch} {K : aRs} {X : aXs} {J : aK} {W : Nat → aK} (hW : isW (tbX4_halt l K X) cuX4_halt J W) (n : Nat) (ls st : List aV) (μ : aM) (g : Nat) : W (n + 1) 16 ls st μ g = (sPush (aI 1) 17) (W n) ls st μ g := (hW n 16 ls st μ g).trans rfl
theorem wX4_halt_17 {l : Launch} {K : aRs} {X : aXs} {J : aK} {W : Nat → aK} (hW : isW (tbX4_halt l K X) cuX4_halt J W) (n : Nat) (ls st : List aV) (μ : aM) (g : Nat) : W (n + 1) 17 ls st μ g = (sPutI 4 8 20) (W n) ls st μ g := (hW n 17 ls st μ g).trans rfl
theorem wX4_halt_20 {l : Launch} {K : aRs} {X : aXs} {J : aK} {W : Nat → aK} (hW : isW (tbX4_halt l K X) cuX4_halt J W) (n : Nat) (ls st : List aV) (μ : aM) (g : Nat) : W (n + 1) 20 ls st μ g = (sLd 0 21 isR) (W n) ls st μ g := (hW n 20 ls st μ g).trans rfl
theorem wX4_halt_21 {l : Launch} {K : aRs} {X : aXs} {J : aK} {W : Nat → aK} (hW : isW (tbX4_halt l K X) cuX4_halt J W) (n : Nat) (ls st : List aV) (μ : aM) (g : Nat) : W (n + 1) 21 ls st μ g = (sPush (aI 97) 23) (W n) ls st μ g := (hW n 21 ls st μ g).trans rfl
theorem wX4_halt_23 {l : Launch} {K : aRs} {X : aXs} {J : aK} {W : Nat → aK} (hW : isW (tbX4_halt l K X) cuX4_halt J W) (n : Nat) (ls st : List aV) (μ : aM) (g : Nat) : W (n + 1) 23 ls st μ g = (sCallV 1 4 (fun as μ K => Ct l mdX4_countIn as μ K X) 26 0 1) (W n) ls st μ g := (hW n 23 ls st μ g).trans rfl
theorem tX4_halt_26 (l : Launch) (K : aRs) (X : aXs) : tb (tbX4_halt l K X) 26 = sRetI .int 1 K := (rfl)
theorem wX4_halt_26 {l : Launch} {K : aRs} {X : aXs} {J : aK} {W : Nat → aK} (hW : isW (tbX4_halt l K X) cuX4_halt J W) (n : Nat) (ls st : List aV) (μ : aM) (g : Nat) : W (n + 1) 26 ls st μ g = J 26 ls st μ g := (hW n 26 ls st μ g).trans rfl
theorem dX4_auction_0 : decode cX4_auction 0 = .ok (.aload_n 0, 1) := by decide +kernel
theorem dX4_auction_1 : decode cX4_auction 1 = .ok (.getfield 52, 3) := by decide +kernel
theorem dX4_auction_4 : decode cX4_auction 4 = .ok (.ifCond .ne 11, 3) := by decide +kernel
theorem dX4_auction_7 : decode cX4_auction 7 = .ok (.new 77, 3) := by decide +kernel
theorem dX4_auction_10 : decode cX4_auction 10 = .ok (.dup, 1) := by decide +kernel
theorem dX4_auction_11 : decode cX4_auction 11 = .ok (.invokespecial 79, 3) := by decide +kernel
theorem dX4_auction_14 : decode cX4_auction 14 = .ok (.athrow, 1) := by decide +kernel
theorem dX4_auction_15 : decode cX4_auction 15 = .ok (.aload_n 0, 1) := by decide +kernel
theorem dX4_auction_16 : decode cX4_auction 16 = .ok (.invokevirtual 129, 3) := by decide +kernel
theorem dX4_auction_19 : decode cX4_auction 19 = .ok (.istore_n 1, 1) := by decide +kernel
theorem dX4_auction_20 : decode cX4_auction 20 = .ok (.iload_n 1, 1) := by decide +kernel
theorem dX4_auction_21 : decode cX4_auction 21 = .ok (.ifCond .ne 7, 3) := by decide +kernel
theorem dX4_auction_24 : decode cX4_auction 24 = .ok (.iconst 0, 1) := by decide +kernel
theorem dX4_auction_25 : decode cX4_auction 25 = .ok (.goto 8, 3) := by decide +kernel
theorem dX4_auction_28 : decode cX4_auction 28 = .ok (.aload_n 0, 1) := by decide +kernel
theorem dX4_auction_29 : decode cX4_auction 29 = .ok (.iload_n 1, 1) := by decide +kernel
theorem dX4_auction_30 : decode cX4_auction 30 = .ok (.invokevirtual 133, 3) := by decide +kernel
theorem dX4_auction_33 : decode cX4_auction 33 = .ok (.istore_n 2, 1) := by decide +kernel
theorem dX4_auction_34 : decode cX4_auction 34 = .ok (.aload_n 0, 1) := by decide +kernel
theorem dX4_auction_35 : decode cX4_auction 35 = .ok (.iload_n 1, 1) := by decide +kernel
theorem dX4_auction_36 : decode cX4_auction 36 = .ok (.iload_n 2, 1) := by decide +kernel
theorem dX4_auction_37 : decode cX4_auction 37 = .ok (.invokevirtual 137, 3) := by decide +kernel
theorem dX4_auction_40 : decode cX4_auction 40 = .ok (.aload_n 0, 1) := by decide +kernel
theorem dX4_auction_41 : decode cX4_auction 41 = .ok (.getfield 20, 3) := by decide +kernel
theorem dX4_auction_44 : decode cX4_auction 44 = .ok (.invokevirtual 141, 3) := by decide +kernel
theorem dX4_auction_47 : decode cX4_auction 47 = .ok (.aload_n 0, 1) := by decide +kernel
theorem dX4_auction_48 : decode cX4_auction 48 = .ok (.getfield 24, 3) := by decide +kernel
theorem dX4_auction_51 : decode cX4_auction 51 = .ok (.invokevirtual 141, 3) := by decide +kernel
theorem dX4_auction_54 : decode cX4_auction 54 = .ok (.aload_n 0, 1) := by decide +kernel
theorem dX4_auction_55 : decode cX4_auction 55 = .ok (.iconst 0, 1) := by decide +kernel
theorem dX4_auction_56 : decode cX4_auction 56 = .ok (.putfield 52, 3) := by decide +kernel
theorem dX4_auction_59 : decode cX4_auction 59 = .ok (.aload_n 0, 1) := by decide +kernel
theorem dX4_auction_60 : decode cX4_auction 60 = .ok (.invokevirtual 90, 3) := by decide +kernel
theorem dX4_auction_63 : decode cX4_auction 63 = .ok (.iload_n 2, 1) := by decide +kernel
theorem dX4_auction_64 : decode cX4_auction 64 = .ok (.ireturn, 1) := by decide +kernel
def tbX4_auction (l : Launch) (K : aRs) (X : aXs) : aTb := [
  (0, sLd 0 1 isR),
  (1, sGetI 4 8 4),
  (4, sIf pNe 15 7),
  (7, sThrow 2 1 X),
  (15, sLd 0 16 isR),
  (16, sCallV 0 4 (fun as μ K => Ct l mdX4_priceBySums as μ K X) 19 0 1),
  (19, sSt 1 20 isI),
  (20, sLd 1 21 isI),
  (21, sIf pNe 28 24),
  (24, sPush (aI 0) 25),
  (25, sGoto 33),
  (28, sLd 0 29 isR),
  (29, sLd 1 30 isI),
  (30, sCallV 1 4 (fun as μ K => Ct l mdX4_volumeFor as μ K X) 33 0 1),
  (33, sSt 2 34 isI),
  (34, sLd 0 35 isR),
  (35, sLd 1 36 isI),
  (36, sLd 2 37 isI),
  (37, sCallV 2 4 (fun as μ K => Ct l mdX4_tradeFirstOrders as μ K X) 40 0 1),
  (40, sLd 0 41 isR),
  (41, sGetR 4 1 44),
  (44, sCallV 0 1 (fun as μ K => Ct l mdX1_showSlices as μ K X) 47 0 1),
  (47, sLd 0 48 isR),
  (48, sGetR 4 2 51),
  (51, sCallV 0 1 (fun as μ K => Ct l mdX1_showSlices as μ K X) 54 0 1),
  (54, sLd 0 55 isR),
  (55, sPush (aI 0) 56),
  (56, sPutI 4 8 59),
  (59, sLd 0 60 isR),
  (60, sCallV 0 4 (fun as μ K => Ct l mdX4_setOffStops as μ K X) 63 0 1),
  (63, sLd 2 64 isI),
  (64, sRetI .int 1 K)]
theorem snX4_auction (l : Launch) (K : aRs) (X : aXs) (n0 : Nat) : ∀ q ∈ tbX4_auction l K X, aSo l mdX4_auction K X n0 q.1 q.2 :=
  tc (fun p e s m args below meth c cA D A ad0 h => ok_aload_n h.1 0 rfl dX4_auction_0) <|
  tc (fun p e s m args below meth c cA D A ad0 h => ok_getI h.1 cxX4 (by decide) rfl fkRX4_52 (fun _ _ _ => rfl) dX4_auction_1) <|
  tc (fun p e s m args below meth c cA D A ad0 h => ok_if_ne h.1 15 (by decide) dX4_auction_4) <|
  tc (fun p e s m args below meth c cA D A ad0 h => ok_throw h.1 h.2.1 ⟨Nat.le_refl _, Nat.le_refl _⟩ h.2.2.1 (by decide) (by decide) ckRX4_77 niE2 xaE2 xbE2 xcE2 dX4_auction_7 dX4_auction_10 dX4_auction_11 dX4_auction_14 (by decide) (by decide)) <|
  tc (fun p e s m args below meth c cA D A ad0 h => ok_aload_n h.1 0 rfl dX4_auction_15) <|
  tc (fun p e s m args below meth c cA D A ad0 h => ok_callV h.1 h.2.1 ⟨Nat.le_refl _, Nat.le_refl _⟩ mdX4_priceBySums siX4_priceBySums cxX4 mkRX4_129 imX4_priceBySums seX4_priceBySums ⟨by decide, by decide⟩ (aAx_out h.1 h.2.2.1 _) dX4_auction_16) <|
  tc (fun p e s m args below meth c cA D A ad0 h => ok_istore_n h.1 1 rfl (by decide) dX4_auction_19) <|
  tc (fun p e s m args below meth c cA D A ad0 h => ok_iload_n h.1 1 rfl dX4_auction_20) <|
  tc (fun p e s m args below meth c cA D A ad0 h => ok_if_ne h.1 28 (by decide) dX4_auction_21) <|
  tc (fun p e s m args below meth c cA D A ad0 h => ok_iconst h.1 ⟨by decide, by decide⟩ dX4_auction_24) <|
  tc (fun p e s m args below meth c cA D A ad0 h => ok_goto h.1 33 (by decide) dX4_auction_25) <|
  tc (fun p e s m args below meth c cA D A ad0 h => ok_aload_n h.1 0 rfl dX4_auction_28) <|
  tc (fun p e s m args below meth c cA D A ad0 h => ok_iload_n h.1 1 rfl dX4_auction_29) <|
  tc (fun p e s m args below meth c cA D A ad0 h => ok_callV h.1 h.2.1 ⟨Nat.le_refl _, Nat.le_refl _⟩ mdX4_volumeFor siX4_volumeFor cxX4 mkRX4_133 imX4_volumeFor seX4_volumeFor ⟨by decide, by decide⟩ (aAx_out h.1 h.2.2.1 _) dX4_auction_30) <|
  tc (fun p e s m args below meth c cA D A ad0 h => ok_istore_n h.1 2 rfl (by decide) dX4_auction_33) <|
  tc (fun p e s m args below meth c cA D A ad0 h => ok_aload_n h.1 0 rfl dX4_auction_34) <|
  tc (fun p e s m args below meth c cA D A ad0 h => ok_iload_n h.1 1 rfl dX4_auction_35) <|
  tc (fun p e s m args below meth c cA D A ad0 h => ok_iload_n h.1 2 rfl dX4_auction_36) <|
  tc (fun p e s m args below meth c cA D A ad0 h => ok_callV h.1 h.2.1 ⟨Nat.le_refl _, Nat.le_refl _⟩ mdX4_tradeFirstOrders siX4_tradeFirstOrders cxX4 mkRX4_137 imX4_tradeFirstOrders seX4_tradeFirstOrders ⟨by decide, by decide⟩ (aAx_out h.1 h.2.2.1 _) dX4_auction_37) <|
  tc (fun p e s m args below meth c cA D A ad0 h => ok_aload_n h.1 0 rfl dX4_auction_40) <|
  tc (fun p e s m args below meth c cA D A ad0 h => ok_getR h.1 cxX4 (by decide) rfl fkRX4_20 (fun _ _ _ => rfl) dX4_auction_41) <|
  tc (fun p e s m args below meth c cA D A ad0 h => ok_callV h.1 h.2.1 ⟨Nat.le_refl _, Nat.le_refl _⟩ mdX1_showSlices siX1_showSlices cxX1 mkRX4_141 imX1_showSlices seX1_showSlices ⟨by decide, by decide⟩ (aAx_out h.1 h.2.2.1 _) dX4_auction_44) <|
  tc (fun p e s m args below meth c cA D A ad0 h => ok_aload_n h.1 0 rfl dX4_auction_47) <|
  tc (fun p e s m args below meth c cA D A ad0 h => ok_getR h.1 cxX4 (by decide) rfl fkRX4_24 (fun _ _ _ => rfl) dX4_auction_48) <|
  tc (fun p e s m args below meth c cA D A ad0 h => ok_callV h.1 h.2.1 ⟨Nat.le_refl _, Nat.le_refl _⟩ mdX1_showSlices siX1_showSlices cxX1 mkRX4_141 imX1_showSlices seX1_showSlices ⟨by decide, by decide⟩ (aAx_out h.1 h.2.2.1 _) dX4_auction_51) <|
  tc (fun p e s m args below meth c cA D A ad0 h => ok_aload_n h.1 0 rfl dX4_auction_54) <|
  tc (fun p e s m args below meth c cA D A ad0 h => ok_iconst h.1 ⟨by decide, by decide⟩ dX4_auction_55) <|
  tc (fun p e s m args below meth c cA D A ad0 h => ok_putI h.1 cxX4 (by decide) rfl fkRX4_52 (Or.inl rfl) (fun _ _ _ => rfl) (Or.inr (Or.inl rfl)) dX4_auction_56) <|
  tc (fun p e s m args below meth c cA D A ad0 h => ok_aload_n h.1 0 rfl dX4_auction_59) <|
  tc (fun p e s m args below meth c cA D A ad0 h => ok_callV h.1 h.2.1 ⟨Nat.le_refl _, Nat.le_refl _⟩ mdX4_setOffStops siX4_setOffStops cxX4 mkRX4_90 imX4_setOffStops seX4_setOffStops ⟨by decide, by decide⟩ (aAx_out h.1 h.2.2.1 _) dX4_auction_60) <|
  tc (fun p e s m args below meth c cA D A ad0 h => ok_iload_n h.1 2 rfl dX4_auction_63) <|
  tc (fun p e s m args below meth c cA D A ad0 h => ok_ireturn h.1 h.2.2.2.1 (Or.inl rfl) dX4_auction_64) <|
  tn
abbrev cuX4_auction : List Nat := [19, 33, 40, 47, 54, 63]
theorem tX4_auction_0 (l : Launch) (K : aRs) (X : aXs) : tb (tbX4_auction l K X) 0 = sLd 0 1 isR := (rfl)
theorem wX4_auction_0 {l : Launch} {K : aRs} {X : aXs} {J : aK} {W : Nat → aK} (hW : isW (tbX4_auction l K X) cuX4_auction J W) (n : Nat) (ls st : List aV) (μ : aM) (g : Nat) : W (n + 1) 0 ls st μ g = (sLd 0 1 isR) (W n) ls st μ g := (hW n 0 ls st μ g).trans rfl
theorem wX4_auction_1 {l : Launch} {K : aRs} {X : aXs} {J : aK} {W : Nat → aK} (hW : isW (tbX4_auction l K X) cuX4_auction J W) (n : Nat) (ls st : List aV) (μ : aM) (g : Nat) : W (n + 1) 1 ls st μ g = (sGetI 4 8 4) (W n) ls st μ g := (hW n 1 ls st μ g).trans rfl
theorem wX4_auction_4 {l : Launch} {K : aRs} {X : aXs} {J : aK} {W : Nat → aK} (hW : isW (tbX4_auction l K X) cuX4_auction J W) (n : Nat) (ls st : List aV) (μ : aM) (g : Nat) : W (n + 1) 4 ls st μ g = (sIf pNe 15 7) (W n) ls st μ g := (hW n 4 ls st μ g).trans rfl
theorem wX4_auction_7 {l : Launch} {K : aRs} {X : aXs} {J : aK} {W : Nat → aK} (hW : isW (tbX4_auction l K X) cuX4_auction J W) (n : Nat) (ls st : List aV) (μ : aM) (g : Nat) : W (n + 1) 7 ls st μ g = (sThrow 2 1 X) (W n) ls st μ g := (hW n 7 ls st μ g).trans rfl
theorem wX4_auction_15 {l : Launch} {K : aRs} {X : aXs} {J : aK} {W : Nat → aK} (hW : isW (tbX4_auction l K X) cuX4_auction J W) (n : Nat) (ls st : List aV) (μ : aM) (g : Nat) : W (n + 1) 15 ls st μ g = (sLd 0 16 isR) (W n) ls st μ g := (hW n 15 ls st μ g).trans rfl
theorem wX4_auction_16 {l : Launch} {K : aRs} {X : aXs} {J : aK} {W : Nat → aK} (hW : isW (tbX4_auction l K X) cuX4_auction J W) (n : Nat) (ls st : List aV) (μ : aM) (g : Nat) : W (n + 1) 16 ls st μ g = (sCallV 0 4 (fun as μ K => Ct l mdX4_priceBySums as μ K X) 19 0 1) (W n) ls st μ g := (hW n 16 ls st μ g).trans rfl
theorem tX4_auction_19 (l : Launch) (K : aRs) (X : aXs) : tb (tbX4_auction l K X) 19 = sSt 1 20 isI := (rfl)
theorem wX4_auction_19 {l : Launch} {K : aRs} {X : aXs} {J : aK} {W : Nat → aK} (hW : isW (tbX4_auction l K X) cuX4_auction J W) (n : Nat) (ls st : List aV) (μ : aM) (g : Nat) : W (n + 1) 19 ls st μ g = J 19 ls st μ g := (hW n 19 ls st μ g).trans rfl
theorem wX4_auction_20 {l : Launch} {K : aRs} {X : aXs} {J : aK} {W : Nat → aK} (hW : isW (tbX4_auction l K X) cuX4_auction J W) (n : Nat) (ls st : List aV) (μ : aM) (g : Nat) : W (n + 1) 20 ls st μ g = (sLd 1 21 isI) (W n) ls st μ g := (hW n 20 ls st μ g).trans rfl
theorem wX4_auction_21 {l : Launch} {K : aRs} {X : aXs} {J : aK} {W : Nat → aK} (hW : isW (tbX4_auction l K X) cuX4_auction J W) (n : Nat) (ls st : List aV) (μ : aM) (g : Nat) : W (n + 1) 21 ls st μ g = (sIf pNe 28 24) (W n) ls st μ g := (hW n 21 ls st μ g).trans rfl
theorem wX4_auction_24 {l : Launch} {K : aRs} {X : aXs} {J : aK} {W : Nat → aK} (hW : isW (tbX4_auction l K X) cuX4_auction J W) (n : Nat) (ls st : List aV) (μ : aM) (g : Nat) : W (n + 1) 24 ls st μ g = (sPush (aI 0) 25) (W n) ls st μ g := (hW n 24 ls st μ g).trans rfl
theorem wX4_auction_25 {l : Launch} {K : aRs} {X : aXs} {J : aK} {W : Nat → aK} (hW : isW (tbX4_auction l K X) cuX4_auction J W) (n : Nat) (ls st : List aV) (μ : aM) (g : Nat) : W (n + 1) 25 ls st μ g = (sGoto 33) (W n) ls st μ g := (hW n 25 ls st μ g).trans rfl
theorem wX4_auction_28 {l : Launch} {K : aRs} {X : aXs} {J : aK} {W : Nat → aK} (hW : isW (tbX4_auction l K X) cuX4_auction J W) (n : Nat) (ls st : List aV) (μ : aM) (g : Nat) : W (n + 1) 28 ls st μ g = (sLd 0 29 isR) (W n) ls st μ g := (hW n 28 ls st μ g).trans rfl
theorem wX4_auction_29 {l : Launch} {K : aRs} {X : aXs} {J : aK} {W : Nat → aK} (hW : isW (tbX4_auction l K X) cuX4_auction J W) (n : Nat) (ls st : List aV) (μ : aM) (g : Nat) : W (n + 1) 29 ls st μ g = (sLd 1 30 isI) (W n) ls st μ g := (hW n 29 ls st μ g).trans rfl
theorem wX4_auction_30 {l : Launch} {K : aRs} {X : aXs} {J : aK} {W : Nat → aK} (hW : isW (tbX4_auction l K X) cuX4_auction J W) (n : Nat) (ls st : List aV) (μ : aM) (g : Nat) : W (n + 1) 30 ls st μ g = (sCallV 1 4 (fun as μ K => Ct l mdX4_volumeFor as μ K X) 33 0 1) (W n) ls st μ g := (hW n 30 ls st μ g).trans rfl
theorem tX4_auction_33 (l : Launch) (K : aRs) (X : aXs) : tb (tbX4_auction l K X) 33 = sSt 2 34 isI := (rfl)
theorem wX4_auction_33 {l : Launch} {K : aRs} {X : aXs} {J : aK} {W : Nat → aK} (hW : isW (tbX4_auction l K X) cuX4_auction J W) (n : Nat) (ls st : List aV) (μ : aM) (g : Nat) : W (n + 1) 33 ls st μ g = J 33 ls st μ g := (hW n 33 ls st μ g).trans rfl
theorem wX4_auction_34 {l : Launch} {K : aRs} {X : aXs} {J : aK} {W : Nat → aK} (hW : isW (tbX4_auction l K X) cuX4_auction J W) (n : Nat) (ls st : List aV) (μ : aM) (g : Nat) : W (n + 1) 34 ls st μ g = (sLd 0 35 isR) (W n) ls st μ g := (hW n 34 ls st μ g).trans rfl
theorem wX4_auction_35 {l : Launch} {K : aRs} {X : aXs} {J : aK} {W : Nat → aK} (hW : isW (tbX4_auction l K X) cuX4_auction J W) (n : Nat) (ls st : List aV) (μ : aM) (g : Nat) : W (n + 1) 35 ls st μ g = (sLd 1 36 isI) (W n) ls st μ g := (hW n 35 ls st μ g).trans rfl
theorem wX4_auction_36 {l : Launch} {K : aRs} {X : aXs} {J : aK} {W : Nat → aK} (hW : isW (tbX4_auction l K X) cuX4_auction J W) (n : Nat) (ls st : List aV) (μ : aM) (g : Nat) : W (n + 1) 36 ls st μ g = (sLd 2 37 isI) (W n) ls st μ g := (hW n 36 ls st μ g).trans rfl
theorem wX4_auction_37 {l : Launch} {K : aRs} {X : aXs} {J : aK} {W : Nat → aK} (hW : isW (tbX4_auction l K X) cuX4_auction J W) (n : Nat) (ls st : List aV) (μ : aM) (g : Nat) : W (n + 1) 37 ls st μ g = (sCallV 2 4 (fun as μ K => Ct l mdX4_tradeFirstOrders as μ K X) 40 0 1) (W n) ls st μ g := (hW n 37 ls st μ g).trans rfl
theorem tX4_auction_40 (l : Launch) (K : aRs) (X : aXs) : tb (tbX4_auction l K X) 40 = sLd 0 41 isR := (rfl)
theorem wX4_auction_40 {l : Launch} {K : aRs} {X : aXs} {J : aK} {W : Nat → aK} (hW : isW (tbX4_auction l K X) cuX4_auction J W) (n : Nat) (ls st : List aV) (μ : aM) (g : Nat) : W (n + 1) 40 ls st μ g = J 40 ls st μ g := (hW n 40 ls st μ g).trans rfl
theorem wX4_auction_41 {l : Launch} {K : aRs} {X : aXs} {J : aK} {W : Nat → aK} (hW : isW (tbX4_auction l K X) cuX4_auction J W) (n : Nat) (ls st : List aV) (μ : aM) (g : Nat) : W (n + 1) 41 ls st μ g = (sGetR 4 1 44) (W n) ls st μ g := (hW n 41 ls st μ g).trans rfl
theorem wX4_auction_44 {l : Launch} {K : aRs} {X : aXs} {J : aK} {W : Nat → aK} (hW : isW (tbX4_auction l K X) cuX4_auction J W) (n : Nat) (ls st : List aV) (μ : aM) (g : Nat) : W (n + 1) 44 ls st μ g = (sCallV 0 1 (fun as μ K => Ct l mdX1_showSlices as μ K X) 47 0 1) (W n) ls st μ g := (hW n 44 ls st μ g).trans rfl
theorem tX4_auction_47 (l : Launch) (K : aRs) (X : aXs) : tb (tbX4_auction l K X) 47 = sLd 0 48 isR := (rfl)
theorem wX4_auction_47 {l : Launch} {K : aRs} {X : aXs} {J : aK} {W : Nat → aK} (hW : isW (tbX4_auction l K X) cuX4_auction J W) (n : Nat) (ls st : List aV) (μ : aM) (g : Nat) : W (n + 1) 47 ls st μ g = J 47 ls st μ g := (hW n 47 ls st μ g).trans rfl
theorem wX4_auction_48 {l : Launch} {K : aRs} {X : aXs} {J : aK} {W : Nat → aK} (hW : isW (tbX4_auction l K X) cuX4_auction J W) (n : Nat) (ls st : List aV) (μ : aM) (g : Nat) : W (n + 1) 48 ls st μ g = (sGetR 4 2 51) (W n) ls st μ g := (hW n 48 ls st μ g).trans rfl
theorem wX4_auction_51 {l : Launch} {K : aRs} {X : aXs} {J : aK} {W : Nat → aK} (hW : isW (tbX4_auction l K X) cuX4_auction J W) (n : Nat) (ls st : List aV) (μ : aM) (g : Nat) : W (n + 1) 51 ls st μ g = (sCallV 0 1 (fun as μ K => Ct l mdX1_showSlices as μ K X) 54 0 1) (W n) ls st μ g := (hW n 51 ls st μ g).trans rfl
theorem tX4_auction_54 (l : Launch) (K : aRs) (X : aXs) : tb (tbX4_auction l K X) 54 = sLd 0 55 isR := (rfl)
theorem wX4_auction_54 {l : Launch} {K : aRs} {X : aXs} {J : aK} {W : Nat → aK} (hW : isW (tbX4_auction l K X) cuX4_auction J W) (n : Nat) (ls st : List aV) (μ : aM) (g : Nat) : W (n + 1) 54 ls st μ g = J 54 ls st μ g := (hW n 54 ls st μ g).trans rfl
theorem wX4_auction_55 {l : Launch} {K : aRs} {X : aXs} {J : aK} {W : Nat → aK} (hW : isW (tbX4_auction l K X) cuX4_auction J W) (n : Nat) (ls st : List aV) (μ : aM) (g : Nat) : W (n + 1) 55 ls st μ g = (sPush (aI 0) 56) (W n) ls st μ g := (hW n 55 ls st μ g).trans rfl
theorem wX4_auction_56 {l : Launch} {K : aRs} {X : aXs} {J : aK} {W : Nat → aK} (hW : isW (tbX4_auction l K X) cuX4_auction J W) (n : Nat) (ls st : List aV) (μ : aM) (g : Nat) : W (n + 1) 56 ls st μ g = (sPutI 4 8 59) (W n) ls st μ g := (hW n 56 ls st μ g).trans rfl
theorem wX4_auction_59 {l : Launch} {K : aRs} {X : aXs} {J : aK} {W : Nat → aK} (hW : isW (tbX4_auction l K X) cuX4_auction J W) (n : Nat) (ls st : List aV) (μ : aM) (g : Nat) : W (n + 1) 59 ls st μ g = (sLd 0 60 isR) (W n) ls st μ g := (hW n 59 ls st μ g).trans rfl
theorem wX4_auction_60 {l : Launch} {K : aRs} {X : aXs} {J : aK} {W : Nat → aK} (hW : isW (tbX4_auction l K X) cuX4_auction J W) (n : Nat) (ls st : List aV) (μ : aM) (g : Nat) : W (n + 1) 60 ls st μ g = (sCallV 0 4 (fun as μ K => Ct l mdX4_setOffStops as μ K X) 63 0 1) (W n) ls st μ g := (hW n 60 ls st μ g).trans rfl
theorem tX4_auction_63 (l : Launch) (K : aRs) (X : aXs) : tb (tbX4_auction l K X) 63 = sLd 2 64 isI := (rfl)
theorem wX4_auction_63 {l : Launch} {K : aRs} {X : aXs} {J : aK} {W : Nat → aK} (hW : isW (tbX4_auction l K X) cuX4_auction J W) (n : Nat) (ls st : List aV) (μ : aM) (g : Nat) : W (n + 1) 63 ls st μ g = J 63 ls st μ g := (hW n 63 ls st μ g).trans rfl
theorem wX4_auction_64 {l : Launch} {K : aRs} {X : aXs} {J : aK} {W : Nat → aK} (hW : isW (tbX4_auction l K X) cuX4_auction J W) (n : Nat) (ls st : List aV) (μ : aM) (g : Nat) : W (n + 1) 64 ls st μ g = (sRetI .int 1 K) (W n) ls st μ g := (hW n 64 ls st μ g).trans rfl
theorem dX4_isHalted_0 : decode cX4_isHalted 0 = .ok (.aload_n 0, 1) := by decide +kernel
theorem dX4_isHalted_1 : decode cX4_isHalted 1 = .ok (.getfield 52, 3) := by decide +kernel
theorem dX4_isHalted_4 : decode cX4_isHalted 4 = .ok (.ireturn, 1) := by decide +kernel
def tbX4_isHalted (l : Launch) (K : aRs) (X : aXs) : aTb := [
  (0, sLd 0 1 isR),
  (1, sGetI 4 8 4),
  (4, sRetI .boolean 0 K)]
theorem snX4_isHalted (l : Launch) (K : aRs) (X : aXs) (n0 : Nat) : ∀ q ∈ tbX4_isHalted l K X, aSo l mdX4_isHalted K X n0 q.1 q.2 :=
  tc (fun p e s m args below meth c cA D A ad0 h => ok_aload_n h.1 0 rfl dX4_isHalted_0) <|
  tc (fun p e s m args below meth c cA D A ad0 h => ok_getI h.1 cxX4 (by decide) rfl fkRX4_52 (fun _ _ _ => rfl) dX4_isHalted_1) <|
  tc (fun p e s m args below meth c cA D A ad0 h => ok_ireturn h.1 h.2.2.2.1 (Or.inr (Or.inl rfl)) dX4_isHalted_4) <|
  tn
abbrev cuX4_isHalted : List Nat := []
theorem tX4_isHalted_0 (l : Launch) (K : aRs) (X : aXs) : tb (tbX4_isHalted l K X) 0 = sLd 0 1 isR := (rfl)
theorem wX4_isHalted_0 {l : Launch} {K : aRs} {X : aXs} {J : aK} {W : Nat → aK} (hW : isW (tbX4_isHalted l K X) cuX4_isHalted J W) (n : Nat) (ls st : List aV) (μ : aM) (g : Nat) : W (n + 1) 0 ls st μ g = (sLd 0 1 isR) (W n) ls st μ g := (hW n 0 ls st μ g).trans rfl
theorem wX4_isHalted_1 {l : Launch} {K : aRs} {X : aXs} {J : aK} {W : Nat → aK} (hW : isW (tbX4_isHalted l K X) cuX4_isHalted J W) (n : Nat) (ls st : List aV) (μ : aM) (g : Nat) : W (n + 1) 1 ls st μ g = (sGetI 4 8 4) (W n) ls st μ g := (hW n 1 ls st μ g).trans rfl
theorem wX4_isHalted_4 {l : Launch} {K : aRs} {X : aXs} {J : aK} {W : Nat → aK} (hW : isW (tbX4_isHalted l K X) cuX4_isHalted J W) (n : Nat) (ls st : List aV) (μ : aM) (g : Nat) : W (n + 1) 4 ls st μ g = (sRetI .boolean 0 K) (W n) ls st μ g := (hW n 4 ls st μ g).trans rfl
theorem dX4_stateOf_0 : decode cX4_stateOf 0 = .ok (.aload_n 0, 1) := by decide +kernel
theorem dX4_stateOf_1 : decode cX4_stateOf 1 = .ok (.iload_n 1, 1) := by decide +kernel
theorem dX4_stateOf_2 : decode cX4_stateOf 2 = .ok (.invokevirtual 96, 3) := by decide +kernel
theorem dX4_stateOf_5 : decode cX4_stateOf 5 = .ok (.getfield 103, 3) := by decide +kernel
theorem dX4_stateOf_8 : decode cX4_stateOf 8 = .ok (.ireturn, 1) := by decide +kernel
def tbX4_stateOf (l : Launch) (K : aRs) (X : aXs) : aTb := [
  (0, sLd 0 1 isR),
  (1, sLd 1 2 isI),
  (2, sCallV 1 4 (fun as μ K => Ct l mdX4_knownOrder as μ K X) 5 1 1),
  (5, sGetI 2 10 8),
  (8, sRetI .char 1 K)]
theorem snX4_stateOf (l : Launch) (K : aRs) (X : aXs) (n0 : Nat) : ∀ q ∈ tbX4_stateOf l K X, aSo l mdX4_stateOf K X n0 q.1 q.2 :=
  tc (fun p e s m args below meth c cA D A ad0 h => ok_aload_n h.1 0 rfl dX4_stateOf_0) <|
  tc (fun p e s m args below meth c cA D A ad0 h => ok_iload_n h.1 1 rfl dX4_stateOf_1) <|
  tc (fun p e s m args below meth c cA D A ad0 h => ok_callV h.1 h.2.1 ⟨Nat.le_refl _, Nat.le_refl _⟩ mdX4_knownOrder siX4_knownOrder cxX4 mkRX4_96 imX4_knownOrder seX4_knownOrder ⟨by decide, by decide⟩ (aAx_out h.1 h.2.2.1 _) dX4_stateOf_2) <|
  tc (fun p e s m args below meth c cA D A ad0 h => ok_getI h.1 cxX2 (by decide) rfl fkRX4_103 (fun _ _ _ => rfl) dX4_stateOf_5) <|
  tc (fun p e s m args below meth c cA D A ad0 h => ok_ireturn h.1 h.2.2.2.1 (Or.inr (Or.inr rfl)) dX4_stateOf_8) <|
  tn
abbrev cuX4_stateOf : List Nat := [5]
theorem tX4_stateOf_0 (l : Launch) (K : aRs) (X : aXs) : tb (tbX4_stateOf l K X) 0 = sLd 0 1 isR := (rfl)
theorem wX4_stateOf_0 {l : Launch} {K : aRs} {X : aXs} {J : aK} {W : Nat → aK} (hW : isW (tbX4_stateOf l K X) cuX4_stateOf J W) (n : Nat) (ls st : List aV) (μ : aM) (g : Nat) : W (n + 1) 0 ls st μ g = (sLd 0 1 isR) (W n) ls st μ g := (hW n 0 ls st μ g).trans rfl
theorem wX4_stateOf_1 {l : Launch} {K : aRs} {X : aXs} {J : aK} {W : Nat → aK} (hW : isW (tbX4_stateOf l K X) cuX4_stateOf J W) (n : Nat) (ls st : List aV) (μ : aM) (g : Nat) : W (n + 1) 1 ls st μ g = (sLd 1 2 isI) (W n) ls st μ g := (hW n 1 ls st μ g).trans rfl
theorem wX4_stateOf_2 {l : Launch} {K : aRs} {X : aXs} {J : aK} {W : Nat → aK} (hW : isW (tbX4_stateOf l K X) cuX4_stateOf J W) (n : Nat) (ls st : List aV) (μ : aM) (g : Nat) : W (n + 1) 2 ls st μ g = (sCallV 1 4 (fun as μ K => Ct l mdX4_knownOrder as μ K X) 5 1 1) (W n) ls st μ g := (hW n 2 ls st μ g).trans rfl
theorem tX4_stateOf_5 (l : Launch) (K : aRs) (X : aXs) : tb (tbX4_stateOf l K X) 5 = sGetI 2 10 8 := (rfl)
theorem wX4_stateOf_5 {l : Launch} {K : aRs} {X : aXs} {J : aK} {W : Nat → aK} (hW : isW (tbX4_stateOf l K X) cuX4_stateOf J W) (n : Nat) (ls st : List aV) (μ : aM) (g : Nat) : W (n + 1) 5 ls st μ g = J 5 ls st μ g := (hW n 5 ls st μ g).trans rfl
theorem wX4_stateOf_8 {l : Launch} {K : aRs} {X : aXs} {J : aK} {W : Nat → aK} (hW : isW (tbX4_stateOf l K X) cuX4_stateOf J W) (n : Nat) (ls st : List aV) (μ : aM) (g : Nat) : W (n + 1) 8 ls st μ g = (sRetI .char 1 K) (W n) ls st μ g := (hW n 8 ls st μ g).trans rfl
theorem dX4_leftOf_0 : decode cX4_leftOf 0 = .ok (.aload_n 0, 1) := by decide +kernel
theorem dX4_leftOf_1 : decode cX4_leftOf 1 = .ok (.iload_n 1, 1) := by decide +kernel
theorem dX4_leftOf_2 : decode cX4_leftOf 2 = .ok (.invokevirtual 96, 3) := by decide +kernel
theorem dX4_leftOf_5 : decode cX4_leftOf 5 = .ok (.getfield 113, 3) := by decide +kernel
theorem dX4_leftOf_8 : decode cX4_leftOf 8 = .ok (.ireturn, 1) := by decide +kernel
def tbX4_leftOf (l : Launch) (K : aRs) (X : aXs) : aTb := [
  (0, sLd 0 1 isR),
  (1, sLd 1 2 isI),
  (2, sCallV 1 4 (fun as μ K => Ct l mdX4_knownOrder as μ K X) 5 1 1),
  (5, sGetI 2 6 8),
  (8, sRetI .int 1 K)]
theorem snX4_leftOf (l : Launch) (K : aRs) (X : aXs) (n0 : Nat) : ∀ q ∈ tbX4_leftOf l K X, aSo l mdX4_leftOf K X n0 q.1 q.2 :=
  tc (fun p e s m args below meth c cA D A ad0 h => ok_aload_n h.1 0 rfl dX4_leftOf_0) <|
  tc (fun p e s m args below meth c cA D A ad0 h => ok_iload_n h.1 1 rfl dX4_leftOf_1) <|
  tc (fun p e s m args below meth c cA D A ad0 h => ok_callV h.1 h.2.1 ⟨Nat.le_refl _, Nat.le_refl _⟩ mdX4_knownOrder siX4_knownOrder cxX4 mkRX4_96 imX4_knownOrder seX4_knownOrder ⟨by decide, by decide⟩ (aAx_out h.1 h.2.2.1 _) dX4_leftOf_2) <|
  tc (fun p e s m args below meth c cA D A ad0 h => ok_getI h.1 cxX2 (by decide) rfl fkRX4_113 (fun _ _ _ => rfl) dX4_leftOf_5) <|
  tc (fun p e s m args below meth c cA D A ad0 h => ok_ireturn h.1 h.2.2.2.1 (Or.inl rfl) dX4_leftOf_8) <|
  tn
abbrev cuX4_leftOf : List Nat := [5]
theorem tX4_leftOf_0 (l : Launch) (K : aRs) (X : aXs) : tb (tbX4_leftOf l K X) 0 = sLd 0 1 isR := (rfl)
theorem wX4_leftOf_0 {l : Launch} {K : aRs} {X : aXs} {J : aK} {W : Nat → aK} (hW : isW (tbX4_leftOf l K X) cuX4_leftOf J W) (n : Nat) (ls st : List aV) (μ : aM) (g : Nat) : W (n + 1) 0 ls st μ g = (sLd 0 1 isR) (W n) ls st μ g := (hW n 0 ls st μ g).trans rfl
theorem wX4_leftOf_1 {l : Launch} {K : aRs} {X : aXs} {J : aK} {W : Nat → aK} (hW : isW (tbX4_leftOf l K X) cuX4_leftOf J W) (n : Nat) (ls st : List aV) (μ : aM) (g : Nat) : W (n + 1) 1 ls st μ g = (sLd 1 2 isI) (W n) ls st μ g := (hW n 1 ls st μ g).trans rfl
theorem wX4_leftOf_2 {l : Launch} {K : aRs} {X : aXs} {J : aK} {W : Nat → aK} (hW : isW (tbX4_leftOf l K X) cuX4_leftOf J W) (n : Nat) (ls st : List aV) (μ : aM) (g : Nat) : W (n + 1) 2 ls st μ g = (sCallV 1 4 (fun as μ K => Ct l mdX4_knownOrder as μ K X) 5 1 1) (W n) ls st μ g := (hW n 2 ls st μ g).trans rfl
theorem tX4_leftOf_5 (l : Launch) (K : aRs) (X : aXs) : tb (tbX4_leftOf l K X) 5 = sGetI 2 6 8 := (rfl)
theorem wX4_leftOf_5 {l : Launch} {K : aRs} {X : aXs} {J : aK} {W : Nat → aK} (hW : isW (tbX4_leftOf l K X) cuX4_leftOf J W) (n : Nat) (ls st : List aV) (μ : aM) (g : Nat) : W (n + 1) 5 ls st μ g = J 5 ls st μ g := (hW n 5 ls st μ g).trans rfl
theorem wX4_leftOf_8 {l : Launch} {K : aRs} {X : aXs} {J : aK} {W : Nat → aK} (hW : isW (tbX4_leftOf l K X) cuX4_leftOf J W) (n : Nat) (ls st : List aV) (μ : aM) (g : Nat) : W (n + 1) 8 ls st μ g = (sRetI .int 1 K) (W n) ls st μ g := (hW n 8 ls st μ g).trans rfl
theorem dX4_shownOf_0 : decode cX4_shownOf 0 = .ok (.aload_n 0, 1) := by decide +kernel
theorem dX4_shownOf_1 : decode cX4_shownOf 1 = .ok (.iload_n 1, 1) := by decide +kernel
theorem dX4_shownOf_2 : decode cX4_shownOf 2 = .ok (.invokevirtual 96, 3) := by decide +kernel
theorem dX4_shownOf_5 : decode cX4_shownOf 5 = .ok (.astore_n 2, 1) := by decide +kernel
theorem dX4_shownOf_6 : decode cX4_shownOf 6 = .ok (.aload_n 2, 1) := by decide +kernel
theorem dX4_shownOf_7 : decode cX4_shownOf 7 = .ok (.getfield 103, 3) := by decide +kernel
theorem dX4_shownOf_10 : decode cX4_shownOf 10 = .ok (.bipush 97, 2) := by decide +kernel
theorem dX4_shownOf_12 : decode cX4_shownOf 12 = .ok (.if_icmp .eq 11, 3) := by decide +kernel
theorem dX4_shownOf_15 : decode cX4_shownOf 15 = .ok (.new 77, 3) := by decide +kernel
theorem dX4_shownOf_18 : decode cX4_shownOf 18 = .ok (.dup, 1) := by decide +kernel
theorem dX4_shownOf_19 : decode cX4_shownOf 19 = .ok (.invokespecial 79, 3) := by decide +kernel
theorem dX4_shownOf_22 : decode cX4_shownOf 22 = .ok (.athrow, 1) := by decide +kernel
theorem dX4_shownOf_23 : decode cX4_shownOf 23 = .ok (.aload_n 2, 1) := by decide +kernel
theorem dX4_shownOf_24 : decode cX4_shownOf 24 = .ok (.getfield 116, 3) := by decide +kernel
theorem dX4_shownOf_27 : decode cX4_shownOf 27 = .ok (.ireturn, 1) := by decide +kernel
def tbX4_shownOf (l : Launch) (K : aRs) (X : aXs) : aTb := [
  (0, sLd 0 1 isR),
  (1, sLd 1 2 isI),
  (2, sCallV 1 4 (fun as μ K => Ct l mdX4_knownOrder as μ K X) 5 1 2),
  (5, sSt 2 6 isR),
  (6, sLd 2 7 isR),
  (7, sGetI 2 10 10),
  (10, sPush (aI 97) 12),
  (12, sIc qEq 23 15),
  (15, sThrow 2 2 X),
  (23, sLd 2 24 isR),
  (24, sGetI 2 9 27),
  (27, sRetI .int 2 K)]
theorem snX4_shownOf (l : Launch) (K : aRs) (X : aXs) (n0 : Nat) : ∀ q ∈ tbX4_shownOf l K X, aSo l mdX4_shownOf K X n0 q.1 q.2 :=
  tc (fun p e s m args below meth c cA D A ad0 h => ok_aload_n h.1 0 rfl dX4_shownOf_0) <|
  tc (fun p e s m args below meth c cA D A ad0 h => ok_iload_n h.1 1 rfl dX4_shownOf_1) <|
  tc (fun p e s m args below meth c cA D A ad0 h => ok_callV h.1 h.2.1 ⟨Nat.le_refl _, Nat.le_refl _⟩ mdX4_knownOrder siX4_knownOrder cxX4 mkRX4_96 imX4_knownOrder seX4_knownOrder ⟨by decide, by decide⟩ (aAx_out h.1 h.2.2.1 _) dX4_shownOf_2) <|
  tc (fun p e s m args below meth c cA D A ad0 h => ok_astore_n h.1 2 rfl (by decide) dX4_shownOf_5) <|
  tc (fun p e s m args below meth c cA D A ad0 h => ok_aload_n h.1 2 rfl dX4_shownOf_6) <|
  tc (fun p e s m args below meth c cA D A ad0 h => ok_getI h.1 cxX2 (by decide) rfl fkRX4_103 (fun _ _ _ => rfl) dX4_shownOf_7) <|
  tc (fun p e s m args below meth c cA D A ad0 h => ok_bipush h.1 ⟨by decide, by decide⟩ (by decide) dX4_shownOf_10) <|
  tc (fun p e s m args below meth c cA D A ad0 h => ok_icmp_eq h.1 23 (by decide) dX4_shownOf_12) <|
  tc (fun p e s m args below meth c cA D A ad0 h => ok_throw h.1 h.2.1 ⟨Nat.le_refl _, Nat.le_refl _⟩ h.2.2.1 (by decide) (by decide) ckRX4_77 niE2 xaE2 xbE2 xcE2 dX4_shownOf_15 dX4_shownOf_18 dX4_shownOf_19 dX4_shownOf_22 (by decide) (by decide)) <|
  tc (fun p e s m args below meth c cA D A ad0 h => ok_aload_n h.1 2 rfl dX4_shownOf_23) <|
  tc (fun p e s m args below meth c cA D A ad0 h => ok_getI h.1 cxX2 (by decide) rfl fkRX4_116 (fun _ _ _ => rfl) dX4_shownOf_24) <|
  tc (fun p e s m args below meth c cA D A ad0 h => ok_ireturn h.1 h.2.2.2.1 (Or.inl rfl) dX4_shownOf_27) <|
  tn
abbrev cuX4_shownOf : List Nat := [5]
theorem tX4_shownOf_0 (l : Launch) (K : aRs) (X : aXs) : tb (tbX4_shownOf l K X) 0 = sLd 0 1 isR := (rfl)
theorem wX4_shownOf_0 {l : Launch} {K : aRs} {X : aXs} {J : aK} {W : Nat → aK} (hW : isW (tbX4_shownOf l K X) cuX4_shownOf J W) (n : Nat) (ls st : List aV) (μ : aM) (g : Nat) : W (n + 1) 0 ls st μ g = (sLd 0 1 isR) (W n) ls st μ g := (hW n 0 ls st μ g).trans rfl
theorem wX4_shownOf_1 {l : Launch} {K : aRs} {X : aXs} {J : aK} {W : Nat → aK} (hW : isW (tbX4_shownOf l K X) cuX4_shownOf J W) (n : Nat) (ls st : List aV) (μ : aM) (g : Nat) : W (n + 1) 1 ls st μ g = (sLd 1 2 isI) (W n) ls st μ g := (hW n 1 ls st μ g).trans rfl
theorem wX4_shownOf_2 {l : Launch} {K : aRs} {X : aXs} {J : aK} {W : Nat → aK} (hW : isW (tbX4_shownOf l K X) cuX4_shownOf J W) (n : Nat) (ls st : List aV) (μ : aM) (g : Nat) : W (n + 1) 2 ls st μ g = (sCallV 1 4 (fun as μ K => Ct l mdX4_knownOrder as μ K X) 5 1 2) (W n) ls st μ g := (hW n 2 ls st μ g).trans rfl
theorem tX4_shownOf_5 (l : Launch) (K : aRs) (X : aXs) : tb (tbX4_shownOf l K X) 5 = sSt 2 6 isR := (rfl)
theorem wX4_shownOf_5 {l : Launch} {K : aRs} {X : aXs} {J : aK} {W : Nat → aK} (hW : isW (tbX4_shownOf l K X) cuX4_shownOf J W) (n : Nat) (ls st : List aV) (μ : aM) (g : Nat) : W (n + 1) 5 ls st μ g = J 5 ls st μ g := (hW n 5 ls st μ g).trans rfl
theorem wX4_shownOf_6 {l : Launch} {K : aRs} {X : aXs} {J : aK} {W : Nat → aK} (hW : isW (tbX4_shownOf l K X) cuX4_shownOf J W) (n : Nat) (ls st : List aV) (μ : aM) (g : Nat) : W (n + 1) 6 ls st μ g = (sLd 2 7 isR) (W n) ls st μ g := (hW n 6 ls st μ g).trans rfl
theorem wX4_shownOf_7 {l : Launch} {K : aRs} {X : aXs} {J : aK} {W : Nat → aK} (hW : isW (tbX4_shownOf l K X) cuX4_shownOf J W) (n : Nat) (ls st : List aV) (μ : aM) (g : Nat) : W (n + 1) 7 ls st μ g = (sGetI 2 10 10) (W n) ls st μ g := (hW n 7 ls st μ g).trans rfl
theorem wX4_shownOf_10 {l : Launch} {K : aRs} {X : aXs} {J : aK} {W : Nat → aK} (hW : isW (tbX4_shownOf l K X) cuX4_shownOf J W) (n : Nat) (ls st : List aV) (μ : aM) (g : Nat) : W (n + 1) 10 ls st μ g = (sPush (aI 97) 12) (W n) ls st μ g := (hW n 10 ls st μ g).trans rfl
theorem wX4_shownOf_12 {l : Launch} {K : aRs} {X : aXs} {J : aK} {W : Nat → aK} (hW : isW (tbX4_shownOf l K X) cuX4_shownOf J W) (n : Nat) (ls st : List aV) (μ : aM) (g : Nat) : W (n + 1) 12 ls st μ g = (sIc qEq 23 15) (W n) ls st μ g := (hW n 12 ls st μ g).trans rfl
theorem wX4_shownOf_15 {l : Launch} {K : aRs} {X : aXs} {J : aK} {W : Nat → aK} (hW : isW (tbX4_shownOf l K X) cuX4_shownOf J W) (n : Nat) (ls st : List aV) (μ : aM) (g : Nat) : W (n + 1) 15 ls st μ g = (sThrow 2 2 X) (W n) ls st μ g := (hW n 15 ls st μ g).trans rfl
theorem wX4_shownOf_23 {l : Launch} {K : aRs} {X : aXs} {J : aK} {W : Nat → aK} (hW : isW (tbX4_shownOf l K X) cuX4_shownOf J W) (n : Nat) (ls st : List aV) (μ : aM) (g : Nat) : W (n + 1) 23 ls st μ g = (sLd 2 24 isR) (W n) ls st μ g := (hW n 23 ls st μ g).trans rfl
theorem wX4_shownOf_24 {l : Launch} {K : aRs} {X : aXs} {J : aK} {W : Nat → aK} (hW : isW (tbX4_shownOf l K X) cuX4_shownOf J W) (n : Nat) (ls st : List aV) (μ : aM) (g : Nat) : W (n + 1) 24 ls st μ g = (sGetI 2 9 27) (W n) ls st μ g := (hW n 24 ls st μ g).trans rfl
theorem wX4_shownOf_27 {l : Launch} {K : aRs} {X : aXs} {J : aK} {W : Nat → aK} (hW : isW (tbX4_shownOf l K X) cuX4_shownOf J W) (n : Nat) (ls st : List aV) (μ : aM) (g : Nat) : W (n + 1) 27 ls st μ g = (sRetI .int 2 K) (W n) ls st μ g := (hW n 27 ls st μ g).trans rfl
theorem dX4_filledShare_0 : decode cX4_filledShare 0 = .ok (.aload_n 0, 1) := by decide +kernel
theorem dX4_filledShare_1 : decode cX4_filledShare 1 = .ok (.iload_n 1, 1) := by decide +kernel
theorem dX4_filledShare_2 : decode cX4_filledShare 2 = .ok (.invokevirtual 96, 3) := by decide +kernel
theorem dX4_filledShare_5 : decode cX4_filledShare 5 = .ok (.astore_n 2, 1) := by decide +kernel
theorem dX4_filledShare_6 : decode cX4_filledShare 6 = .ok (.aload_n 2, 1) := by decide +kernel
theorem dX4_filledShare_7 : decode cX4_filledShare 7 = .ok (.getfield 144, 3) := by decide +kernel
theorem dX4_filledShare_10 : decode cX4_filledShare 10 = .ok (.i2f, 1) := by decide +kernel
theorem dX4_filledShare_11 : decode cX4_filledShare 11 = .ok (.aload_n 2, 1) := by decide +kernel
theorem dX4_filledShare_12 : decode cX4_filledShare 12 = .ok (.getfield 147, 3) := by decide +kernel
theorem dX4_filledShare_15 : decode cX4_filledShare 15 = .ok (.i2f, 1) := by decide +kernel
theorem dX4_filledShare_16 : decode cX4_filledShare 16 = .ok (.fdiv, 1) := by decide +kernel
theorem dX4_filledShare_17 : decode cX4_filledShare 17 = .ok (.freturn, 1) := by decide +kernel
def tbX4_filledShare (l : Launch) (K : aRs) (X : aXs) : aTb := [
  (0, sLd 0 1 isR),
  (1, sLd 1 2 isI),
  (2, sCallV 1 4 (fun as μ K => Ct l mdX4_knownOrder as μ K X) 5 1 1),
  (5, sSt 2 6 isR),
  (6, sLd 2 7 isR),
  (7, sGetI 2 7 10),
  (10, sI2f 11),
  (11, sLd 2 12 isR),
  (12, sGetI 2 5 15),
  (15, sI2f 16),
  (16, sFdiv 17),
  (17, sRetF 1 K)]
theorem snX4_filledShare (l : Launch) (K : aRs) (X : aXs) (n0 : Nat) : ∀ q ∈ tbX4_filledShare l K X, aSo l mdX4_filledShare K X n0 q.1 q.2 :=
  tc (fun p e s m args below meth c cA D A ad0 h => ok_aload_n h.1 0 rfl dX4_filledShare_0) <|
  tc (fun p e s m args below meth c cA D A ad0 h => ok_iload_n h.1 1 rfl dX4_filledShare_1) <|
  tc (fun p e s m args below meth c cA D A ad0 h => ok_callV h.1 h.2.1 ⟨Nat.le_refl _, Nat.le_refl _⟩ mdX4_knownOrder siX4_knownOrder cxX4 mkRX4_96 imX4_knownOrder seX4_knownOrder ⟨by decide, by decide⟩ (aAx_out h.1 h.2.2.1 _) dX4_filledShare_2) <|
  tc (fun p e s m args below meth c cA D A ad0 h => ok_astore_n h.1 2 rfl (by decide) dX4_filledShare_5) <|
  tc (fun p e s m args below meth c cA D A ad0 h => ok_aload_n h.1 2 rfl dX4_filledShare_6) <|
  tc (fun p e s m args below meth c cA D A ad0 h => ok_getI h.1 cxX2 (by decide) rfl fkRX4_144 (fun _ _ _ => rfl) dX4_filledShare_7) <|
  tc (fun p e s m args below meth c cA D A ad0 h => ok_i2f h.1 dX4_filledShare_10) <|
  tc (fun p e s m args below meth c cA D A ad0 h => ok_aload_n h.1 2 rfl dX4_filledShare_11) <|
  tc (fun p e s m args below meth c cA D A ad0 h => ok_getI h.1 cxX2 (by decide) rfl fkRX4_147 (fun _ _ _ => rfl) dX4_filledShare_12) <|
  tc (fun p e s m args below meth c cA D A ad0 h => ok_i2f h.1 dX4_filledShare_15) <|
  tc (fun p e s m args below meth c cA D A ad0 h => ok_fdiv h.1 dX4_filledShare_16) <|
  tc (fun p e s m args below meth c cA D A ad0 h => ok_freturn h.1 h.2.2.2.1 dX4_filledShare_17) <|
  tn
abbrev cuX4_filledShare : List Nat := [5]
theorem tX4_filledShare_0 (l : Launch) (K : aRs) (X : aXs) : tb (tbX4_filledShare l K X) 0 = sLd 0 1 isR := (rfl)
theorem wX4_filledShare_0 {l : Launch} {K : aRs} {X : aXs} {J : aK} {W : Nat → aK} (hW : isW (tbX4_filledShare l K X) cuX4_filledShare J W) (n : Nat) (ls st : List aV) (μ : aM) (g : Nat) : W (n + 1) 0 ls st μ g = (sLd 0 1 isR) (W n) ls st μ g := (hW n 0 ls st μ g).trans rfl
theorem wX4_filledShare_1 {l : Launch} {K : aRs} {X : aXs} {J : aK} {W : Nat → aK} (hW : isW (tbX4_filledShare l K X) cuX4_filledShare J W) (n : Nat) (ls st : List aV) (μ : aM) (g : Nat) : W (n + 1) 1 ls st μ g = (sLd 1 2 isI) (W n) ls st μ g := (hW n 1 ls st μ g).trans rfl
theorem wX4_filledShare_2 {l : Launch} {K : aRs} {X : aXs} {J : aK} {W : Nat → aK} (hW : isW (tbX4_filledShare l K X) cuX4_filledShare J W) (n : Nat) (ls st : List aV) (μ : aM) (g : Nat) : W (n + 1) 2 ls st μ g = (sCallV 1 4 (fun as μ K => Ct l mdX4_knownOrder as μ K X) 5 1 1) (W n) ls st μ g := (hW n 2 ls st μ g).trans rfl
theorem tX4_filledShare_5 (l : Launch) (K : aRs) (X : aXs) : tb (tbX4_filledShare l K X) 5 = sSt 2 6 isR := (rfl)
theorem wX4_filledShare_5 {l : Launch} {K : aRs} {X : aXs} {J : aK} {W : Nat → aK} (hW : isW (tbX4_filledShare l K X) cuX4_filledShare J W) (n : Nat) (ls st : List aV) (μ : aM) (g : Nat) : W (n + 1) 5 ls st μ g = J 5 ls st μ g := (hW n 5 ls st μ g).trans rfl
theorem wX4_filledShare_6 {l : Launch} {K : aRs} {X : aXs} {J : aK} {W : Nat → aK} (hW : isW (tbX4_filledShare l K X) cuX4_filledShare J W) (n : Nat) (ls st : List aV) (μ : aM) (g : Nat) : W (n + 1) 6 ls st μ g = (sLd 2 7 isR) (W n) ls st μ g := (hW n 6 ls st μ g).trans rfl
theorem wX4_filledShare_7 {l : Launch} {K : aRs} {X : aXs} {J : aK} {W : Nat → aK} (hW : isW (tbX4_filledShare l K X) cuX4_filledShare J W) (n : Nat) (ls st : List aV) (μ : aM) (g : Nat) : W (n + 1) 7 ls st μ g = (sGetI 2 7 10) (W n) ls st μ g := (hW n 7 ls st μ g).trans rfl
theorem wX4_filledShare_10 {l : Launch} {K : aRs} {X : aXs} {J : aK} {W : Nat → aK} (hW : isW (tbX4_filledShare l K X) cuX4_filledShare J W) (n : Nat) (ls st : List aV) (μ : aM) (g : Nat) : W (n + 1) 10 ls st μ g = (sI2f 11) (W n) ls st μ g := (hW n 10 ls st μ g).trans rfl
theorem wX4_filledShare_11 {l : Launch} {K : aRs} {X : aXs} {J : aK} {W : Nat → aK} (hW : isW (tbX4_filledShare l K X) cuX4_filledShare J W) (n : Nat) (ls st : List aV) (μ : aM) (g : Nat) : W (n + 1) 11 ls st μ g = (sLd 2 12 isR) (W n) ls st μ g := (hW n 11 ls st μ g).trans rfl
theorem wX4_filledShare_12 {l : Launch} {K : aRs} {X : aXs} {J : aK} {W : Nat → aK} (hW : isW (tbX4_filledShare l K X) cuX4_filledShare J W) (n : Nat) (ls st : List aV) (μ : aM) (g : Nat) : W (n + 1) 12 ls st μ g = (sGetI 2 5 15) (W n) ls st μ g := (hW n 12 ls st μ g).trans rfl
theorem wX4_filledShare_15 {l : Launch} {K : aRs} {X : aXs} {J : aK} {W : Nat → aK} (hW : isW (tbX4_filledShare l K X) cuX4_filledShare J W) (n : Nat) (ls st : List aV) (μ : aM) (g : Nat) : W (n + 1) 15 ls st μ g = (sI2f 16) (W n) ls st μ g := (hW n 15 ls st μ g).trans rfl
theorem wX4_filledShare_16 {l : Launch} {K : aRs} {X : aXs} {J : aK} {W : Nat → aK} (hW : isW (tbX4_filledShare l K X) cuX4_filledShare J W) (n : Nat) (ls st : List aV) (μ : aM) (g : Nat) : W (n + 1) 16 ls st μ g = (sFdiv 17) (W n) ls st μ g := (hW n 16 ls st μ g).trans rfl
theorem wX4_filledShare_17 {l : Launch} {K : aRs} {X : aXs} {J : aK} {W : Nat → aK} (hW : isW (tbX4_filledShare l K X) cuX4_filledShare J W) (n : Nat) (ls st : List aV) (μ : aM) (g : Nat) : W (n + 1) 17 ls st μ g = (sRetF 1 K) (W n) ls st μ g := (hW n 17 ls st μ g).trans rfl
theorem dX4_orderCount_0 : decode cX4_orderCount 0 = .ok (.aload_n 0, 1) := by decide +kernel
theorem dX4_orderCount_1 : decode cX4_orderCount 1 = .ok (.getfield 41, 3) := by decide +kernel
theorem dX4_orderCount_4 : decode cX4_orderCount 4 = .ok (.ireturn, 1) := by decide +kernel
def tbX4_orderCount (l : Launch) (K : aRs) (X : aXs) : aTb := [
  (0, sLd 0 1 isR),
  (1, sGetI 4 5 4),
  (4, sRetI .int 0 K)]
theorem snX4_orderCount (l : Launch) (K : aRs) (X : aXs) (n0 : Nat) : ∀ q ∈ tbX4_orderCount l K X, aSo l mdX4_orderCount K X n0 q.1 q.2 :=
  tc (fun p e s m args below meth c cA D A ad0 h => ok_aload_n h.1 0 rfl dX4_orderCount_0) <|
  tc (fun p e s m args below meth c cA D A ad0 h => ok_getI h.1 cxX4 (by decide) rfl fkRX4_41 (fun _ _ _ => rfl) dX4_orderCount_1) <|
  tc (fun p e s m args below meth c cA D A ad0 h => ok_ireturn h.1 h.2.2.2.1 (Or.inl rfl) dX4_orderCount_4) <|
  tn
abbrev cuX4_orderCount : List Nat := []
theorem tX4_orderCount_0 (l : Launch) (K : aRs) (X : aXs) : tb (tbX4_orderCount l K X) 0 = sLd 0 1 isR := (rfl)
theorem wX4_orderCount_0 {l : Launch} {K : aRs} {X : aXs} {J : aK} {W : Nat → aK} (hW : isW (tbX4_orderCount l K X) cuX4_orderCount J W) (n : Nat) (ls st : List aV) (μ : aM) (g : Nat) : W (n + 1) 0 ls st μ g = (sLd 0 1 isR) (W n) ls st μ g := (hW n 0 ls st μ g).trans rfl
theorem wX4_orderCount_1 {l : Launch} {K : aRs} {X : aXs} {J : aK} {W : Nat → aK} (hW : isW (tbX4_orderCount l K X) cuX4_orderCount J W) (n : Nat) (ls st : List aV) (μ : aM) (g : Nat) : W (n + 1) 1 ls st μ g = (sGetI 4 5 4) (W n) ls st μ g := (hW n 1 ls st μ g).trans rfl
theorem wX4_orderCount_4 {l : Launch} {K : aRs} {X : aXs} {J : aK} {W : Nat → aK} (hW : isW (tbX4_orderCount l K X) cuX4_orderCount J W) (n : Nat) (ls st : List aV) (μ : aM) (g : Nat) : W (n + 1) 4 ls st μ g = (sRetI .int 0 K) (W n) ls st μ g := (hW n 4 ls st μ g).trans rfl
theorem dX4_levels_0 : decode cX4_levels 0 = .ok (.aload_n 0, 1) := by decide +kernel
theorem dX4_levels_1 : decode cX4_levels 1 = .ok (.iload_n 1, 1) := by decide +kernel
theorem dX4_levels_2 : decode cX4_levels 2 = .ok (.invokevirtual 150, 3) := by decide +kernel
theorem dX4_levels_5 : decode cX4_levels 5 = .ok (.invokevirtual 154, 3) := by decide +kernel
theorem dX4_levels_8 : decode cX4_levels 8 = .ok (.ireturn, 1) := by decide +kernel
def tbX4_levels (l : Launch) (K : aRs) (X : aXs) : aTb := [
  (0, sLd 0 1 isR),
  (1, sLd 1 2 isI),
  (2, sCallV 1 4 (fun as μ K => Ct l mdX4_knownSide as μ K X) 5 1 1),
  (5, sCallV 0 1 (fun as μ K => Ct l mdX1_countLevels as μ K X) 8 0 1),
  (8, sRetI .int 1 K)]
theorem snX4_levels (l : Launch) (K : aRs) (X : aXs) (n0 : Nat) : ∀ q ∈ tbX4_levels l K X, aSo l mdX4_levels K X n0 q.1 q.2 :=
  tc (fun p e s m args below meth c cA D A ad0 h => ok_aload_n h.1 0 rfl dX4_levels_0) <|
  tc (fun p e s m args below meth c cA D A ad0 h => ok_iload_n h.1 1 rfl dX4_levels_1) <|
  tc (fun p e s m args below meth c cA D A ad0 h => ok_callV h.1 h.2.1 ⟨Nat.le_refl _, Nat.le_refl _⟩ mdX4_knownSide siX4_knownSide cxX4 mkRX4_150 imX4_knownSide seX4_knownSide ⟨by decide, by decide⟩ (aAx_out h.1 h.2.2.1 _) dX4_levels_2) <|
  tc (fun p e s m args below meth c cA D A ad0 h => ok_callV h.1 h.2.1 ⟨Nat.le_refl _, Nat.le_refl _⟩ mdX1_countLevels siX1_countLevels cxX1 mkRX4_154 imX1_countLevels seX1_countLevels ⟨by decide, by decide⟩ (aAx_out h.1 h.2.2.1 _) dX4_levels_5) <|
  tc (fun p e s m args below meth c cA D A ad0 h => ok_ireturn h.1 h.2.2.2.1 (Or.inl rfl) dX4_levels_8) <|
  tn
abbrev cuX4_levels : List Nat := [5, 8]
theorem tX4_levels_0 (l : Launch) (K : aRs) (X : aXs) : tb (tbX4_levels l K X) 0 = sLd 0 1 isR := (rfl)
theorem wX4_levels_0 {l : Launch} {K : aRs} {X : aXs} {J : aK} {W : Nat → aK} (hW : isW (tbX4_levels l K X) cuX4_levels J W) (n : Nat) (ls st : List aV) (μ : aM) (g : Nat) : W (n + 1) 0 ls st μ g = (sLd 0 1 isR) (W n) ls st μ g := (hW n 0 ls st μ g).trans rfl
theorem wX4_levels_1 {l : Launch} {K : aRs} {X : aXs} {J : aK} {W : Nat → aK} (hW : isW (tbX4_levels l K X) cuX4_levels J W) (n : Nat) (ls st : List aV) (μ : aM) (g : Nat) : W (n + 1) 1 ls st μ g = (sLd 1 2 isI) (W n) ls st μ g := (hW n 1 ls st μ g).trans rfl
theorem wX4_levels_2 {l : Launch} {K : aRs} {X : aXs} {J : aK} {W : Nat → aK} (hW : isW (tbX4_levels l K X) cuX4_levels J W) (n : Nat) (ls st : List aV) (μ : aM) (g : Nat) : W (n + 1) 2 ls st μ g = (sCallV 1 4 (fun as μ K => Ct l mdX4_knownSide as μ K X) 5 1 1) (W n) ls st μ g := (hW n 2 ls st μ g).trans rfl
theorem tX4_levels_5 (l : Launch) (K : aRs) (X : aXs) : tb (tbX4_levels l K X) 5 = sCallV 0 1 (fun as μ K => Ct l mdX1_countLevels as μ K X) 8 0 1 := (rfl)
theorem wX4_levels_5 {l : Launch} {K : aRs} {X : aXs} {J : aK} {W : Nat → aK} (hW : isW (tbX4_levels l K X) cuX4_levels J W) (n : Nat) (ls st : List aV) (μ : aM) (g : Nat) : W (n + 1) 5 ls st μ g = J 5 ls st μ g := (hW n 5 ls st μ g).trans rfl
theorem tX4_levels_8 (l : Launch) (K : aRs) (X : aXs) : tb (tbX4_levels l K X) 8 = sRetI .int 1 K := (rfl)
theorem wX4_levels_8 {l : Launch} {K : aRs} {X : aXs} {J : aK} {W : Nat → aK} (hW : isW (tbX4_levels l K X) cuX4_levels J W) (n : Nat) (ls st : List aV) (μ : aM) (g : Nat) : W (n + 1) 8 ls st μ g = J 8 ls st μ g := (hW n 8 ls st μ g).trans rfl
theorem dX4_levelPrice_0 : decode cX4_levelPrice 0 = .ok (.aload_n 0, 1) := by decide +kernel
theorem dX4_levelPrice_1 : decode cX4_levelPrice 1 = .ok (.iload_n 1, 1) := by decide +kernel
theorem dX4_levelPrice_2 : decode cX4_levelPrice 2 = .ok (.iload_n 2, 1) := by decide +kernel
theorem dX4_levelPrice_3 : decode cX4_levelPrice 3 = .ok (.invokevirtual 157, 3) := by decide +kernel
theorem dX4_levelPrice_6 : decode cX4_levelPrice 6 = .ok (.getfield 161, 3) := by decide +kernel
theorem dX4_levelPrice_9 : decode cX4_levelPrice 9 = .ok (.ireturn, 1) := by decide +kernel
def tbX4_levelPrice (l : Launch) (K : aRs) (X : aXs) : aTb := [
  (0, sLd 0 1 isR),
  (1, sLd 1 2 isI),
  (2, sLd 2 3 isI),
  (3, sCallV 2 4 (fun as μ K => Ct l mdX4_knownHead as μ K X) 6 2 2),
  (6, sGetI 2 4 9),
  (9, sRetI .int 2 K)]
theorem snX4_levelPrice (l : Launch) (K : aRs) (X : aXs) (n0 : Nat) : ∀ q ∈ tbX4_levelPrice l K X, aSo l mdX4_levelPrice K X n0 q.1 q.2 :=
  tc (fun p e s m args below meth c cA D A ad0 h => ok_aload_n h.1 0 rfl dX4_levelPrice_0) <|
  tc (fun p e s m args below meth c cA D A ad0 h => ok_iload_n h.1 1 rfl dX4_levelPrice_1) <|
  tc (fun p e s m args below meth c cA D A ad0 h => ok_iload_n h.1 2 rfl dX4_levelPrice_2) <|
  tc (fun p e s m args below meth c cA D A ad0 h => ok_callV h.1 h.2.1 ⟨Nat.le_refl _, Nat.le_refl _⟩ mdX4_knownHead siX4_knownHead cxX4 mkRX4_157 imX4_knownHead seX4_knownHead ⟨by decide, by decide⟩ (aAx_out h.1 h.2.2.1 _) dX4_levelPrice_3) <|
  tc (fun p e s m args below meth c cA D A ad0 h => ok_getI h.1 cxX2 (by decide) rfl fkRX4_161 (fun _ _ _ => rfl) dX4_levelPrice_6) <|
  tc (fun p e s m args below meth c cA D A ad0 h => ok_ireturn h.1 h.2.2.2.1 (Or.inl rfl) dX4_levelPrice_9) <|
  tn
abbrev cuX4_levelPrice : List Nat := [6]
theorem tX4_levelPrice_0 (l : Launch) (K : aRs) (X : aXs) : tb (tbX4_levelPrice l K X) 0 = sLd 0 1 isR := (rfl)
theorem wX4_levelPrice_0 {l : Launch} {K : aRs} {X : aXs} {J : aK} {W : Nat → aK} (hW : isW (tbX4_levelPrice l K X) cuX4_levelPrice J W) (n : Nat) (ls st : List aV) (μ : aM) (g : Nat) : W (n + 1) 0 ls st μ g = (sLd 0 1 isR) (W n) ls st μ g := (hW n 0 ls st μ g).trans rfl
theorem wX4_levelPrice_1 {l : Launch} {K : aRs} {X : aXs} {J : aK} {W : Nat → aK} (hW : isW (tbX4_levelPrice l K X) cuX4_levelPrice J W) (n : Nat) (ls st : List aV) (μ : aM) (g : Nat) : W (n + 1) 1 ls st μ g = (sLd 1 2 isI) (W n) ls st μ g := (hW n 1 ls st μ g).trans rfl
theorem wX4_levelPrice_2 {l : Launch} {K : aRs} {X : aXs} {J : aK} {W : Nat → aK} (hW : isW (tbX4_levelPrice l K X) cuX4_levelPrice J W) (n : Nat) (ls st : List aV) (μ : aM) (g : Nat) : W (n + 1) 2 ls st μ g = (sLd 2 3 isI) (W n) ls st μ g := (hW n 2 ls st μ g).trans rfl
theorem wX4_levelPrice_3 {l : Launch} {K : aRs} {X : aXs} {J : aK} {W : Nat → aK} (hW : isW (tbX4_levelPrice l K X) cuX4_levelPrice J W) (n : Nat) (ls st : List aV) (μ : aM) (g : Nat) : W (n + 1) 3 ls st μ g = (sCallV 2 4 (fun as μ K => Ct l mdX4_knownHead as μ K X) 6 2 2) (W n) ls st μ g := (hW n 3 ls st μ g).trans rfl
theorem tX4_levelPrice_6 (l : Launch) (K : aRs) (X : aXs) : tb (tbX4_levelPrice l K X) 6 = sGetI 2 4 9 := (rfl)
theorem wX4_levelPrice_6 {l : Launch} {K : aRs} {X : aXs} {J : aK} {W : Nat → aK} (hW : isW (tbX4_levelPrice l K X) cuX4_levelPrice J W) (n : Nat) (ls st : List aV) (μ : aM) (g : Nat) : W (n + 1) 6 ls st μ g = J 6 ls st μ g := (hW n 6 ls st μ g).trans rfl
theorem wX4_levelPrice_9 {l : Launch} {K : aRs} {X : aXs} {J : aK} {W : Nat → aK} (hW : isW (tbX4_levelPrice l K X) cuX4_levelPrice J W) (n : Nat) (ls st : List aV) (μ : aM) (g : Nat) : W (n + 1) 9 ls st μ g = (sRetI .int 2 K) (W n) ls st μ g := (hW n 9 ls st μ g).trans rfl
theorem dX4_shownAt_0 : decode cX4_shownAt 0 = .ok (.aload_n 0, 1) := by decide +kernel
theorem dX4_shownAt_1 : decode cX4_shownAt 1 = .ok (.iload_n 1, 1) := by decide +kernel
theorem dX4_shownAt_2 : decode cX4_shownAt 2 = .ok (.iload_n 2, 1) := by decide +kernel
theorem dX4_shownAt_3 : decode cX4_shownAt 3 = .ok (.invokevirtual 157, 3) := by decide +kernel
theorem dX4_shownAt_6 : decode cX4_shownAt 6 = .ok (.astore_n 3, 1) := by decide +kernel
theorem dX4_shownAt_7 : decode cX4_shownAt 7 = .ok (.iconst 0, 1) := by decide +kernel
theorem dX4_shownAt_8 : decode cX4_shownAt 8 = .ok (.istore 4, 2) := by decide +kernel
theorem dX4_shownAt_10 : decode cX4_shownAt 10 = .ok (.aload_n 3, 1) := by decide +kernel
theorem dX4_shownAt_11 : decode cX4_shownAt 11 = .ok (.astore 5, 2) := by decide +kernel
theorem dX4_shownAt_13 : decode cX4_shownAt 13 = .ok (.aload 5, 2) := by decide +kernel
theorem dX4_shownAt_15 : decode cX4_shownAt 15 = .ok (.ifnull 35, 3) := by decide +kernel
theorem dX4_shownAt_18 : decode cX4_shownAt 18 = .ok (.aload 5, 2) := by decide +kernel
theorem dX4_shownAt_20 : decode cX4_shownAt 20 = .ok (.getfield 161, 3) := by decide +kernel
theorem dX4_shownAt_23 : decode cX4_shownAt 23 = .ok (.aload_n 3, 1) := by decide +kernel
theorem dX4_shownAt_24 : decode cX4_shownAt 24 = .ok (.getfield 161, 3) := by decide +kernel
theorem dX4_shownAt_27 : decode cX4_shownAt 27 = .ok (.if_icmp .ne 23, 3) := by decide +kernel
theorem dX4_shownAt_30 : decode cX4_shownAt 30 = .ok (.iload 4, 2) := by decide +kernel
theorem dX4_shownAt_32 : decode cX4_shownAt 32 = .ok (.aload 5, 2) := by decide +kernel
theorem dX4_shownAt_34 : decode cX4_shownAt 34 = .ok (.getfield 116, 3) := by decide +kernel
theorem dX4_shownAt_37 : decode cX4_shownAt 37 = .ok (.iadd, 1) := by decide +kernel
theorem dX4_shownAt_38 : decode cX4_shownAt 38 = .ok (.istore 4, 2) := by decide +kernel
theorem dX4_shownAt_40 : decode cX4_shownAt 40 = .ok (.aload 5, 2) := by decide +kernel
theorem dX4_shownAt_42 : decode cX4_shownAt 42 = .ok (.getfield 164, 3) := by decide +kernel
theorem dX4_shownAt_45 : decode cX4_shownAt 45 = .ok (.astore 5, 2) := by decide +kernel
theorem dX4_shownAt_47 : decode cX4_shownAt 47 = .ok (.goto (-34), 3) := by decide +kernel
theorem dX4_shownAt_50 : decode cX4_shownAt 50 = .ok (.iload 4, 2) := by decide +kernel
theorem dX4_shownAt_52 : decode cX4_shownAt 52 = .ok (.ireturn, 1) := by decide +kernel
def tbX4_shownAt (l : Launch) (K : aRs) (X : aXs) : aTb := [
  (0, sLd 0 1 isR),
  (1, sLd 1 2 isI),
  (2, sLd 2 3 isI),
  (3, sCallV 2 4 (fun as μ K => Ct l mdX4_knownHead as μ K X) 6 2 2),
  (6, sSt 3 7 isR),
  (7, sPush (aI 0) 8),
  (8, sSt 4 10 isI),
  (10, sLd 3 11 isR),
  (11, sSt 5 13 isR),
  (13, sLd 5 15 isR),
  (15, sNul 50 18),
  (18, sLd 5 20 isR),
  (20, sGetI 2 4 23),
  (23, sLd 3 24 isR),
  (24, sGetI 2 4 27),
  (27, sIc qNe 50 30),
  (30, sLd 4 32 isI),
  (32, sLd 5 34 isR),
  (34, sGetI 2 9 37),
  (37, sBin fAdd 38),
  (38, sSt 4 40 isI),
  (40, sLd 5 42 isR),
  (42, sGetR 2 11 45),
  (45, sSt 5 47 isR),
  (47, sGoto 13),
  (50, sLd 4 52 isI),
  (52, sRetI .int 2 K)]
theorem snX4_shownAt (l : Launch) (K : aRs) (X : aXs) (n0 : Nat) : ∀ q ∈ tbX4_shownAt l K X, aSo l mdX4_shownAt K X n0 q.1 q.2 :=
  tc (fun p e s m args below meth c cA D A ad0 h => ok_aload_n h.1 0 rfl dX4_shownAt_0) <|
  tc (fun p e s m args below meth c cA D A ad0 h => ok_iload_n h.1 1 rfl dX4_shownAt_1) <|
  tc (fun p e s m args below meth c cA D A ad0 h => ok_iload_n h.1 2 rfl dX4_shownAt_2) <|
  tc (fun p e s m args below meth c cA D A ad0 h => ok_callV h.1 h.2.1 ⟨Nat.le_refl _, Nat.le_refl _⟩ mdX4_knownHead siX4_knownHead cxX4 mkRX4_157 imX4_knownHead seX4_knownHead ⟨by decide, by decide⟩ (aAx_out h.1 h.2.2.1 _) dX4_shownAt_3) <|
  tc (fun p e s m args below meth c cA D A ad0 h => ok_astore_n h.1 3 rfl (by decide) dX4_shownAt_6) <|
  tc (fun p e s m args below meth c cA D A ad0 h => ok_iconst h.1 ⟨by decide, by decide⟩ dX4_shownAt_7) <|
  tc (fun p e s m args below meth c cA D A ad0 h => ok_istore h.1 (by decide) dX4_shownAt_8) <|
  tc (fun p e s m args below meth c cA D A ad0 h => ok_aload_n h.1 3 rfl dX4_shownAt_10) <|
  tc (fun p e s m args below meth c cA D A ad0 h => ok_astore h.1 (by decide) dX4_shownAt_11) <|
  tc (fun p e s m args below meth c cA D A ad0 h => ok_aload h.1 dX4_shownAt_13) <|
  tc (fun p e s m args below meth c cA D A ad0 h => ok_ifnull h.1 50 (by decide) dX4_shownAt_15) <|
  tc (fun p e s m args below meth c cA D A ad0 h => ok_aload h.1 dX4_shownAt_18) <|
  tc (fun p e s m args below meth c cA D A ad0 h => ok_getI h.1 cxX2 (by decide) rfl fkRX4_161 (fun _ _ _ => rfl) dX4_shownAt_20) <|
  tc (fun p e s m args below meth c cA D A ad0 h => ok_aload_n h.1 3 rfl dX4_shownAt_23) <|
  tc (fun p e s m args below meth c cA D A ad0 h => ok_getI h.1 cxX2 (by decide) rfl fkRX4_161 (fun _ _ _ => rfl) dX4_shownAt_24) <|
  tc (fun p e s m args below meth c cA D A ad0 h => ok_icmp_ne h.1 50 (by decide) dX4_shownAt_27) <|
  tc (fun p e s m args below meth c cA D A ad0 h => ok_iload h.1 dX4_shownAt_30) <|
  tc (fun p e s m args below meth c cA D A ad0 h => ok_aload h.1 dX4_shownAt_32) <|
  tc (fun p e s m args below meth c cA D A ad0 h => ok_getI h.1 cxX2 (by decide) rfl fkRX4_116 (fun _ _ _ => rfl) dX4_shownAt_34) <|
  tc (fun p e s m args below meth c cA D A ad0 h => ok_iadd h.1 dX4_shownAt_37) <|
  tc (fun p e s m args below meth c cA D A ad0 h => ok_istore h.1 (by decide) dX4_shownAt_38) <|
  tc (fun p e s m args below meth c cA D A ad0 h => ok_aload h.1 dX4_shownAt_40) <|
  tc (fun p e s m args below meth c cA D A ad0 h => ok_getR h.1 cxX2 (by decide) rfl fkRX4_164 (fun _ _ _ => rfl) dX4_shownAt_42) <|
  tc (fun p e s m args below meth c cA D A ad0 h => ok_astore h.1 (by decide) dX4_shownAt_45) <|
  tc (fun p e s m args below meth c cA D A ad0 h => ok_goto h.1 13 (by decide) dX4_shownAt_47) <|
  tc (fun p e s m args below meth c cA D A ad0 h => ok_iload h.1 dX4_shownAt_50) <|
  tc (fun p e s m args below meth c cA D A ad0 h => ok_ireturn h.1 h.2.2.2.1 (Or.inl rfl) dX4_shownAt_52) <|
  tn
abbrev cuX4_shownAt : List Nat := [6, 13]
theorem tX4_shownAt_0 (l : Launch) (K : aRs) (X : aXs) : tb (tbX4_shownAt l K X) 0 = sLd 0 1 isR := (rfl)
theorem wX4_shownAt_0 {l : Launch} {K : aRs} {X : aXs} {J : aK} {W : Nat → aK} (hW : isW (tbX4_shownAt l K X) cuX4_shownAt J W) (n : Nat) (ls st : List aV) (μ : aM) (g : Nat) : W (n + 1) 0 ls st μ g = (sLd 0 1 isR) (W n) ls st μ g := (hW n 0 ls st μ g).trans rfl
theorem wX4_shownAt_1 {l : Launch} {K : aRs} {X : aXs} {J : aK} {W : Nat → aK} (hW : isW (tbX4_shownAt l K X) cuX4_shownAt J W) (n : Nat) (ls st : List aV) (μ : aM) (g : Nat) : W (n + 1) 1 ls st μ g = (sLd 1 2 isI) (W n) ls st μ g := (hW n 1 ls st μ g).trans rfl
theorem wX4_shownAt_2 {l : Launch} {K : aRs} {X : aXs} {J : aK} {W : Nat → aK} (hW : isW (tbX4_shownAt l K X) cuX4_shownAt J W) (n : Nat) (ls st : List aV) (μ : aM) (g : Nat) : W (n + 1) 2 ls st μ g = (sLd 2 3 isI) (W n) ls st μ g := (hW n 2 ls st μ g).trans rfl
theorem wX4_shownAt_3 {l : Launch} {K : aRs} {X : aXs} {J : aK} {W : Nat → aK} (hW : isW (tbX4_shownAt l K X) cuX4_shownAt J W) (n : Nat) (ls st : List aV) (μ : aM) (g : Nat) : W (n + 1) 3 ls st μ g = (sCallV 2 4 (fun as μ K => Ct l mdX4_knownHead as μ K X) 6 2 2) (W n) ls st μ g := (hW n 3 ls st μ g).trans rfl
theorem tX4_shownAt_6 (l : Launch) (K : aRs) (X : aXs) : tb (tbX4_shownAt l K X) 6 = sSt 3 7 isR := (rfl)
theorem wX4_shownAt_6 {l : Launch} {K : aRs} {X : aXs} {J : aK} {W : Nat → aK} (hW : isW (tbX4_shownAt l K X) cuX4_shownAt J W) (n : Nat) (ls st : List aV) (μ : aM) (g : Nat) : W (n + 1) 6 ls st μ g = J 6 ls st μ g := (hW n 6 ls st μ g).trans rfl
theorem wX4_shownAt_7 {l : Launch} {K : aRs} {X : aXs} {J : aK} {W : Nat → aK} (hW : isW (tbX4_shownAt l K X) cuX4_shownAt J W) (n : Nat) (ls st : List aV) (μ : aM) (g : Nat) : W (n + 1) 7 ls st μ g = (sPush (aI 0) 8) (W n) ls st μ g := (hW n 7 ls st μ g).trans rfl
theorem wX4_shownAt_8 {l : Launch} {K : aRs} {X : aXs} {J : aK} {W : Nat → aK} (hW : isW (tbX4_shownAt l K X) cuX4_shownAt J W) (n : Nat) (ls st : List aV) (μ : aM) (g : Nat) : W (n + 1) 8 ls st μ g = (sSt 4 10 isI) (W n) ls st μ g := (hW n 8 ls st μ g).trans rfl
theorem wX4_shownAt_10 {l : Launch} {K : aRs} {X : aXs} {J : aK} {W : Nat → aK} (hW : isW (tbX4_shownAt l K X) cuX4_shownAt J W) (n : Nat) (ls st : List aV) (μ : aM) (g : Nat) : W (n + 1) 10 ls st μ g = (sLd 3 11 isR) (W n) ls st μ g := (hW n 10 ls st μ g).trans rfl
theorem wX4_shownAt_11 {l : Launch} {K : aRs} {X : aXs} {J : aK} {W : Nat → aK} (hW : isW (tbX4_shownAt l K X) cuX4_shownAt J W) (n : Nat) (ls st : List aV) (μ : aM) (g : Nat) : W (n + 1) 11 ls st μ g = (sSt 5 13 isR) (W n) ls st μ g := (hW n 11 ls st μ g).trans rfl
theorem tX4_shownAt_13 (l : Launch) (K : aRs) (X : aXs) : tb (tbX4_shownAt l K X) 13 = sLd 5 15 isR := (rfl)
theorem wX4_shownAt_13 {l : Launch} {K : aRs} {X : aXs} {J : aK} {W : Nat → aK} (hW : isW (tbX4_shownAt l K X) cuX4_shownAt J W) (n : Nat) (ls st : List aV) (μ : aM) (g : Nat) : W (n + 1) 13 ls st μ g = J 13 ls st μ g := (hW n 13 ls st μ g).trans rfl
theorem wX4_shownAt_15 {l : Launch} {K : aRs} {X : aXs} {J : aK} {W : Nat → aK} (hW : isW (tbX4_shownAt l K X) cuX4_shownAt J W) (n : Nat) (ls st : List aV) (μ : aM) (g : Nat) : W (n + 1) 15 ls st μ g = (sNul 50 18) (W n) ls st μ g := (hW n 15 ls st μ g).trans rfl
theorem wX4_shownAt_18 {l : Launch} {K : aRs} {X : aXs} {J : aK} {W : Nat → aK} (hW : isW (tbX4_shownAt l K X) cuX4_shownAt J W) (n : Nat) (ls st : List aV) (μ : aM) (g : Nat) : W (n + 1) 18 ls st μ g = (sLd 5 20 isR) (W n) ls st μ g := (hW n 18 ls st μ g).trans rfl
theorem wX4_shownAt_20 {l : Launch} {K : aRs} {X : aXs} {J : aK} {W : Nat → aK} (hW : isW (tbX4_shownAt l K X) cuX4_shownAt J W) (n : Nat) (ls st : List aV) (μ : aM) (g : Nat) : W (n + 1) 20 ls st μ g = (sGetI 2 4 23) (W n) ls st μ g := (hW n 20 ls st μ g).trans rfl
theorem wX4_shownAt_23 {l : Launch} {K : aRs} {X : aXs} {J : aK} {W : Nat → aK} (hW : isW (tbX4_shownAt l K X) cuX4_shownAt J W) (n : Nat) (ls st : List aV) (μ : aM) (g : Nat) : W (n + 1) 23 ls st μ g = (sLd 3 24 isR) (W n) ls st μ g := (hW n 23 ls st μ g).trans rfl
theorem wX4_shownAt_24 {l : Launch} {K : aRs} {X : aXs} {J : aK} {W : Nat → aK} (hW : isW (tbX4_shownAt l K X) cuX4_shownAt J W) (n : Nat) (ls st : List aV) (μ : aM) (g : Nat) : W (n + 1) 24 ls st μ g = (sGetI 2 4 27) (W n) ls st μ g := (hW n 24 ls st μ g).trans rfl
theorem wX4_shownAt_27 {l : Launch} {K : aRs} {X : aXs} {J : aK} {W : Nat → aK} (hW : isW (tbX4_shownAt l K X) cuX4_shownAt J W) (n : Nat) (ls st : List aV) (μ : aM) (g : Nat) : W (n + 1) 27 ls st μ g = (sIc qNe 50 30) (W n) ls st μ g := (hW n 27 ls st μ g).trans rfl
theorem wX4_shownAt_30 {l : Launch} {K : aRs} {X : aXs} {J : aK} {W : Nat → aK} (hW : isW (tbX4_shownAt l K X) cuX4_shownAt J W) (n : Nat) (ls st : List aV) (μ : aM) (g : Nat) : W (n + 1) 30 ls st μ g = (sLd 4 32 isI) (W n) ls st μ g := (hW n 30 ls st μ g).trans rfl
theorem wX4_shownAt_32 {l : Launch} {K : aRs} {X : aXs} {J : aK} {W : Nat → aK} (hW : isW (tbX4_shownAt l K X) cuX4_shownAt J W) (n : Nat) (ls st : List aV) (μ : aM) (g : Nat) : W (n + 1) 32 ls st μ g = (sLd 5 34 isR) (W n) ls st μ g := (hW n 32 ls st μ g).trans rfl
theorem wX4_shownAt_34 {l : Launch} {K : aRs} {X : aXs} {J : aK} {W : Nat → aK} (hW : isW (tbX4_shownAt l K X) cuX4_shownAt J W) (n : Nat) (ls st : List aV) (μ : aM) (g : Nat) : W (n + 1) 34 ls st μ g = (sGetI 2 9 37) (W n) ls st μ g := (hW n 34 ls st μ g).trans rfl
theorem wX4_shownAt_37 {l : Launch} {K : aRs} {X : aXs} {J : aK} {W : Nat → aK} (hW : isW (tbX4_shownAt l K X) cuX4_shownAt J W) (n : Nat) (ls st : List aV) (μ : aM) (g : Nat) : W (n + 1) 37 ls st μ g = (sBin fAdd 38) (W n) ls st μ g := (hW n 37 ls st μ g).trans rfl
theorem wX4_shownAt_38 {l : Launch} {K : aRs} {X : aXs} {J : aK} {W : Nat → aK} (hW : isW (tbX4_shownAt l K X) cuX4_shownAt J W) (n : Nat) (ls st : List aV) (μ : aM) (g : Nat) : W (n + 1) 38 ls st μ g = (sSt 4 40 isI) (W n) ls st μ g := (hW n 38 ls st μ g).trans rfl
theorem wX4_shownAt_40 {l : Launch} {K : aRs} {X : aXs} {J : aK} {W : Nat → aK} (hW : isW (tbX4_shownAt l K X) cuX4_shownAt J W) (n : Nat) (ls st : List aV) (μ : aM) (g : Nat) : W (n + 1) 40 ls st μ g = (sLd 5 42 isR) (W n) ls st μ g := (hW n 40 ls st μ g).trans rfl
theorem wX4_shownAt_42 {l : Launch} {K : aRs} {X : aXs} {J : aK} {W : Nat → aK} (hW : isW (tbX4_shownAt l K X) cuX4_shownAt J W) (n : Nat) (ls st : List aV) (μ : aM) (g : Nat) : W (n + 1) 42 ls st μ g = (sGetR 2 11 45) (W n) ls st μ g := (hW n 42 ls st μ g).trans rfl
theorem wX4_shownAt_45 {l : Launch} {K : aRs} {X : aXs} {J : aK} {W : Nat → aK} (hW : isW (tbX4_shownAt l K X) cuX4_shownAt J W) (n : Nat) (ls st : List aV) (μ : aM) (g : Nat) : W (n + 1) 45 ls st μ g = (sSt 5 47 isR) (W n) ls st μ g := (hW n 45 ls st μ g).trans rfl
theorem wX4_shownAt_47 {l : Launch} {K : aRs} {X : aXs} {J : aK} {W : Nat → aK} (hW : isW (tbX4_shownAt l K X) cuX4_shownAt J W) (n : Nat) (ls st : List aV) (μ : aM) (g : Nat) : W (n + 1) 47 ls st μ g = (sGoto 13) (W n) ls st μ g := (hW n 47 ls st μ g).trans rfl
theorem wX4_shownAt_50 {l : Launch} {K : aRs} {X : aXs} {J : aK} {W : Nat → aK} (hW : isW (tbX4_shownAt l K X) cuX4_shownAt J W) (n : Nat) (ls st : List aV) (μ : aM) (g : Nat) : W (n + 1) 50 ls st μ g = (sLd 4 52 isI) (W n) ls st μ g := (hW n 50 ls st μ g).trans rfl
theorem wX4_shownAt_52 {l : Launch} {K : aRs} {X : aXs} {J : aK} {W : Nat → aK} (hW : isW (tbX4_shownAt l K X) cuX4_shownAt J W) (n : Nat) (ls st : List aV) (μ : aM) (g : Nat) : W (n + 1) 52 ls st μ g = (sRetI .int 2 K) (W n) ls st μ g := (hW n 52 ls st μ g).trans rfl
theorem dX4_leftAt_0 : decode cX4_leftAt 0 = .ok (.aload_n 0, 1) := by decide +kernel
theorem dX4_leftAt_1 : decode cX4_leftAt 1 = .ok (.iload_n 1, 1) := by decide +kernel
theorem dX4_leftAt_2 : decode cX4_leftAt 2 = .ok (.iload_n 2, 1) := by decide +kernel
theorem dX4_leftAt_3 : decode cX4_leftAt 3 = .ok (.invokevirtual 157, 3) := by decide +kernel
theorem dX4_leftAt_6 : decode cX4_leftAt 6 = .ok (.astore_n 3, 1) := by decide +kernel
theorem dX4_leftAt_7 : decode cX4_leftAt 7 = .ok (.iconst 0, 1) := by decide +kernel
theorem dX4_leftAt_8 : decode cX4_leftAt 8 = .ok (.istore 4, 2) := by decide +kernel
theorem dX4_leftAt_10 : decode cX4_leftAt 10 = .ok (.aload_n 3, 1) := by decide +kernel
theorem dX4_leftAt_11 : decode cX4_leftAt 11 = .ok (.astore 5, 2) := by decide +kernel
theorem dX4_leftAt_13 : decode cX4_leftAt 13 = .ok (.aload 5, 2) := by decide +kernel
theorem dX4_leftAt_15 : decode cX4_leftAt 15 = .ok (.ifnull 35, 3) := by decide +kernel
theorem dX4_leftAt_18 : decode cX4_leftAt 18 = .ok (.aload 5, 2) := by decide +kernel
theorem dX4_leftAt_20 : decode cX4_leftAt 20 = .ok (.getfield 161, 3) := by decide +kernel
theorem dX4_leftAt_23 : decode cX4_leftAt 23 = .ok (.aload_n 3, 1) := by decide +kernel
theorem dX4_leftAt_24 : decode cX4_leftAt 24 = .ok (.getfield 161, 3) := by decide +kernel
theorem dX4_leftAt_27 : decode cX4_leftAt 27 = .ok (.if_icmp .ne 23, 3) := by decide +kernel
theorem dX4_leftAt_30 : decode cX4_leftAt 30 = .ok (.iload 4, 2) := by decide +kernel
theorem dX4_leftAt_32 : decode cX4_leftAt 32 = .ok (.aload 5, 2) := by decide +kernel
theorem dX4_leftAt_34 : decode cX4_leftAt 34 = .ok (.getfield 113, 3) := by decide +kernel
theorem dX4_leftAt_37 : decode cX4_leftAt 37 = .ok (.iadd, 1) := by decide +kernel
theorem dX4_leftAt_38 : decode cX4_leftAt 38 = .ok (.istore 4, 2) := by decide +kernel
theorem dX4_leftAt_40 : decode cX4_leftAt 40 = .ok (.aload 5, 2) := by decide +kernel
theorem dX4_leftAt_42 : decode cX4_leftAt 42 = .ok (.getfield 164, 3) := by decide +kernel
theorem dX4_leftAt_45 : decode cX4_leftAt 45 = .ok (.astore 5, 2) := by decide +kernel
theorem dX4_leftAt_47 : decode cX4_leftAt 47 = .ok (.goto (-34), 3) := by decide +kernel
theorem dX4_leftAt_50 : decode cX4_leftAt 50 = .ok (.iload 4, 2) := by decide +kernel
theorem dX4_leftAt_52 : decode cX4_leftAt 52 = .ok (.ireturn, 1) := by decide +kernel
def tbX4_leftAt (l : Launch) (K : aRs) (X : aXs) : aTb := [
  (0, sLd 0 1 isR),
  (1, sLd 1 2 isI),
  (2, sLd 2 3 isI),
  (3, sCallV 2 4 (fun as μ K => Ct l mdX4_knownHead as μ K X) 6 2 2),
  (6, sSt 3 7 isR),
  (7, sPush (aI 0) 8),
  (8, sSt 4 10 isI),
  (10, sLd 3 11 isR),
  (11, sSt 5 13 isR),
  (13, sLd 5 15 isR),
  (15, sNul 50 18),
  (18, sLd 5 20 isR),
  (20, sGetI 2 4 23),
  (23, sLd 3 24 isR),
  (24, sGetI 2 4 27),
  (27, sIc qNe 50 30),
  (30, sLd 4 32 isI),
  (32, sLd 5 34 isR),
  (34, sGetI 2 6 37),
  (37, sBin fAdd 38),
  (38, sSt 4 40 isI),
  (40, sLd 5 42 isR),
  (42, sGetR 2 11 45),
  (45, sSt 5 47 isR),
  (47, sGoto 13),
  (50, sLd 4 52 isI),
  (52, sRetI .int 2 K)]
theorem snX4_leftAt (l : Launch) (K : aRs) (X : aXs) (n0 : Nat) : ∀ q ∈ tbX4_leftAt l K X, aSo l mdX4_leftAt K X n0 q.1 q.2 :=
  tc (fun p e s m args below meth c cA D A ad0 h => ok_aload_n h.1 0 rfl dX4_leftAt_0) <|
  tc (fun p e s m args below meth c cA D A ad0 h => ok_iload_n h.1 1 rfl dX4_leftAt_1) <|
  tc (fun p e s m args below meth c cA D A ad0 h => ok_iload_n h.1 2 rfl dX4_leftAt_2) <|
  tc (fun p e s m args below meth c cA D A ad0 h => ok_callV h.1 h.2.1 ⟨Nat.le_refl _, Nat.le_refl _⟩ mdX4_knownHead siX4_knownHead cxX4 mkRX4_157 imX4_knownHead seX4_knownHead ⟨by decide, by decide⟩ (aAx_out h.1 h.2.2.1 _) dX4_leftAt_3) <|
  tc (fun p e s m args below meth c cA D A ad0 h => ok_astore_n h.1 3 rfl (by decide) dX4_leftAt_6) <|
  tc (fun p e s m args below meth c cA D A ad0 h => ok_iconst h.1 ⟨by decide, by decide⟩ dX4_leftAt_7) <|
  tc (fun p e s m args below meth c cA D A ad0 h => ok_istore h.1 (by decide) dX4_leftAt_8) <|
  tc (fun p e s m args below meth c cA D A ad0 h => ok_aload_n h.1 3 rfl dX4_leftAt_10) <|
  tc (fun p e s m args below meth c cA D A ad0 h => ok_astore h.1 (by decide) dX4_leftAt_11) <|
  tc (fun p e s m args below meth c cA D A ad0 h => ok_aload h.1 dX4_leftAt_13) <|
  tc (fun p e s m args below meth c cA D A ad0 h => ok_ifnull h.1 50 (by decide) dX4_leftAt_15) <|
  tc (fun p e s m args below meth c cA D A ad0 h => ok_aload h.1 dX4_leftAt_18) <|
  tc (fun p e s m args below meth c cA D A ad0 h => ok_getI h.1 cxX2 (by decide) rfl fkRX4_161 (fun _ _ _ => rfl) dX4_leftAt_20) <|
  tc (fun p e s m args below meth c cA D A ad0 h => ok_aload_n h.1 3 rfl dX4_leftAt_23) <|
  tc (fun p e s m args below meth c cA D A ad0 h => ok_getI h.1 cxX2 (by decide) rfl fkRX4_161 (fun _ _ _ => rfl) dX4_leftAt_24) <|
  tc (fun p e s m args below meth c cA D A ad0 h => ok_icmp_ne h.1 50 (by decide) dX4_leftAt_27) <|
  tc (fun p e s m args below meth c cA D A ad0 h => ok_iload h.1 dX4_leftAt_30) <|
  tc (fun p e s m args below meth c cA D A ad0 h => ok_aload h.1 dX4_leftAt_32) <|
  tc (fun p e s m args below meth c cA D A ad0 h => ok_getI h.1 cxX2 (by decide) rfl fkRX4_113 (fun _ _ _ => rfl) dX4_leftAt_34) <|
  tc (fun p e s m args below meth c cA D A ad0 h => ok_iadd h.1 dX4_leftAt_37) <|
  tc (fun p e s m args below meth c cA D A ad0 h => ok_istore h.1 (by decide) dX4_leftAt_38) <|
  tc (fun p e s m args below meth c cA D A ad0 h => ok_aload h.1 dX4_leftAt_40) <|
  tc (fun p e s m args below meth c cA D A ad0 h => ok_getR h.1 cxX2 (by decide) rfl fkRX4_164 (fun _ _ _ => rfl) dX4_leftAt_42) <|
  tc (fun p e s m args below meth c cA D A ad0 h => ok_astore h.1 (by decide) dX4_leftAt_45) <|
  tc (fun p e s m args below meth c cA D A ad0 h => ok_goto h.1 13 (by decide) dX4_leftAt_47) <|
  tc (fun p e s m args below meth c cA D A ad0 h => ok_iload h.1 dX4_leftAt_50) <|
  tc (fun p e s m args below meth c cA D A ad0 h => ok_ireturn h.1 h.2.2.2.1 (Or.inl rfl) dX4_leftAt_52) <|
  tn
abbrev cuX4_leftAt : List Nat := [6, 13]
theorem tX4_leftAt_0 (l : Launch) (K : aRs) (X : aXs) : tb (tbX4_leftAt l K X) 0 = sLd 0 1 isR := (rfl)
theorem wX4_leftAt_0 {l : Launch} {K : aRs} {X : aXs} {J : aK} {W : Nat → aK} (hW : isW (tbX4_leftAt l K X) cuX4_leftAt J W) (n : Nat) (ls st : List aV) (μ : aM) (g : Nat) : W (n + 1) 0 ls st μ g = (sLd 0 1 isR) (W n) ls st μ g := (hW n 0 ls st μ g).trans rfl
theorem wX4_leftAt_1 {l : Launch} {K : aRs} {X : aXs} {J : aK} {W : Nat → aK} (hW : isW (tbX4_leftAt l K X) cuX4_leftAt J W) (n : Nat) (ls st : List aV) (μ : aM) (g : Nat) : W (n + 1) 1 ls st μ g = (sLd 1 2 isI) (W n) ls st μ g := (hW n 1 ls st μ g).trans rfl
theorem wX4_leftAt_2 {l : Launch} {K : aRs} {X : aXs} {J : aK} {W : Nat → aK} (hW : isW (tbX4_leftAt l K X) cuX4_leftAt J W) (n : Nat) (ls st : List aV) (μ : aM) (g : Nat) : W (n + 1) 2 ls st μ g = (sLd 2 3 isI) (W n) ls st μ g := (hW n 2 ls st μ g).trans rfl
theorem wX4_leftAt_3 {l : Launch} {K : aRs} {X : aXs} {J : aK} {W : Nat → aK} (hW : isW (tbX4_leftAt l K X) cuX4_leftAt J W) (n : Nat) (ls st : List aV) (μ : aM) (g : Nat) : W (n + 1) 3 ls st μ g = (sCallV 2 4 (fun as μ K => Ct l mdX4_knownHead as μ K X) 6 2 2) (W n) ls st μ g := (hW n 3 ls st μ g).trans rfl
theorem tX4_leftAt_6 (l : Launch) (K : aRs) (X : aXs) : tb (tbX4_leftAt l K X) 6 = sSt 3 7 isR := (rfl)
theorem wX4_leftAt_6 {l : Launch} {K : aRs} {X : aXs} {J : aK} {W : Nat → aK} (hW : isW (tbX4_leftAt l K X) cuX4_leftAt J W) (n : Nat) (ls st : List aV) (μ : aM) (g : Nat) : W (n + 1) 6 ls st μ g = J 6 ls st μ g := (hW n 6 ls st μ g).trans rfl
theorem wX4_leftAt_7 {l : Launch} {K : aRs} {X : aXs} {J : aK} {W : Nat → aK} (hW : isW (tbX4_leftAt l K X) cuX4_leftAt J W) (n : Nat) (ls st : List aV) (μ : aM) (g : Nat) : W (n + 1) 7 ls st μ g = (sPush (aI 0) 8) (W n) ls st μ g := (hW n 7 ls st μ g).trans rfl
theorem wX4_leftAt_8 {l : Launch} {K : aRs} {X : aXs} {J : aK} {W : Nat → aK} (hW : isW (tbX4_leftAt l K X) cuX4_leftAt J W) (n : Nat) (ls st : List aV) (μ : aM) (g : Nat) : W (n + 1) 8 ls st μ g = (sSt 4 10 isI) (W n) ls st μ g := (hW n 8 ls st μ g).trans rfl
theorem wX4_leftAt_10 {l : Launch} {K : aRs} {X : aXs} {J : aK} {W : Nat → aK} (hW : isW (tbX4_leftAt l K X) cuX4_leftAt J W) (n : Nat) (ls st : List aV) (μ : aM) (g : Nat) : W (n + 1) 10 ls st μ g = (sLd 3 11 isR) (W n) ls st μ g := (hW n 10 ls st μ g).trans rfl
theorem wX4_leftAt_11 {l : Launch} {K : aRs} {X : aXs} {J : aK} {W : Nat → aK} (hW : isW (tbX4_leftAt l K X) cuX4_leftAt J W) (n : Nat) (ls st : List aV) (μ : aM) (g : Nat) : W (n + 1) 11 ls st μ g = (sSt 5 13 isR) (W n) ls st μ g := (hW n 11 ls st μ g).trans rfl
theorem tX4_leftAt_13 (l : Launch) (K : aRs) (X : aXs) : tb (tbX4_leftAt l K X) 13 = sLd 5 15 isR := (rfl)
theorem wX4_leftAt_13 {l : Launch} {K : aRs} {X : aXs} {J : aK} {W : Nat → aK} (hW : isW (tbX4_leftAt l K X) cuX4_leftAt J W) (n : Nat) (ls st : List aV) (μ : aM) (g : Nat) : W (n + 1) 13 ls st μ g = J 13 ls st μ g := (hW n 13 ls st μ g).trans rfl
theorem wX4_leftAt_15 {l : Launch} {K : aRs} {X : aXs} {J : aK} {W : Nat → aK} (hW : isW (tbX4_leftAt l K X) cuX4_leftAt J W) (n : Nat) (ls st : List aV) (μ : aM) (g : Nat) : W (n + 1) 15 ls st μ g = (sNul 50 18) (W n) ls st μ g := (hW n 15 ls st μ g).trans rfl
theorem wX4_leftAt_18 {l : Launch} {K : aRs} {X : aXs} {J : aK} {W : Nat → aK} (hW : isW (tbX4_leftAt l K X) cuX4_leftAt J W) (n : Nat) (ls st : List aV) (μ : aM) (g : Nat) : W (n + 1) 18 ls st μ g = (sLd 5 20 isR) (W n) ls st μ g := (hW n 18 ls st μ g).trans rfl
theorem wX4_leftAt_20 {l : Launch} {K : aRs} {X : aXs} {J : aK} {W : Nat → aK} (hW : isW (tbX4_leftAt l K X) cuX4_leftAt J W) (n : Nat) (ls st : List aV) (μ : aM) (g : Nat) : W (n + 1) 20 ls st μ g = (sGetI 2 4 23) (W n) ls st μ g := (hW n 20 ls st μ g).trans rfl
theorem wX4_leftAt_23 {l : Launch} {K : aRs} {X : aXs} {J : aK} {W : Nat → aK} (hW : isW (tbX4_leftAt l K X) cuX4_leftAt J W) (n : Nat) (ls st : List aV) (μ : aM) (g : Nat) : W (n + 1) 23 ls st μ g = (sLd 3 24 isR) (W n) ls st μ g := (hW n 23 ls st μ g).trans rfl
theorem wX4_leftAt_24 {l : Launch} {K : aRs} {X : aXs} {J : aK} {W : Nat → aK} (hW : isW (tbX4_leftAt l K X) cuX4_leftAt J W) (n : Nat) (ls st : List aV) (μ : aM) (g : Nat) : W (n + 1) 24 ls st μ g = (sGetI 2 4 27) (W n) ls st μ g := (hW n 24 ls st μ g).trans rfl
theorem wX4_leftAt_27 {l : Launch} {K : aRs} {X : aXs} {J : aK} {W : Nat → aK} (hW : isW (tbX4_leftAt l K X) cuX4_leftAt J W) (n : Nat) (ls st : List aV) (μ : aM) (g : Nat) : W (n + 1) 27 ls st μ g = (sIc qNe 50 30) (W n) ls st μ g := (hW n 27 ls st μ g).trans rfl
theorem wX4_leftAt_30 {l : Launch} {K : aRs} {X : aXs} {J : aK} {W : Nat → aK} (hW : isW (tbX4_leftAt l K X) cuX4_leftAt J W) (n : Nat) (ls st : List aV) (μ : aM) (g : Nat) : W (n + 1) 30 ls st μ g = (sLd 4 32 isI) (W n) ls st μ g := (hW n 30 ls st μ g).trans rfl
theorem wX4_leftAt_32 {l : Launch} {K : aRs} {X : aXs} {J : aK} {W : Nat → aK} (hW : isW (tbX4_leftAt l K X) cuX4_leftAt J W) (n : Nat) (ls st : List aV) (μ : aM) (g : Nat) : W (n + 1) 32 ls st μ g = (sLd 5 34 isR) (W n) ls st μ g := (hW n 32 ls st μ g).trans rfl
theorem wX4_leftAt_34 {l : Launch} {K : aRs} {X : aXs} {J : aK} {W : Nat → aK} (hW : isW (tbX4_leftAt l K X) cuX4_leftAt J W) (n : Nat) (ls st : List aV) (μ : aM) (g : Nat) : W (n + 1) 34 ls st μ g = (sGetI 2 6 37) (W n) ls st μ g := (hW n 34 ls st μ g).trans rfl
theorem wX4_leftAt_37 {l : Launch} {K : aRs} {X : aXs} {J : aK} {W : Nat → aK} (hW : isW (tbX4_leftAt l K X) cuX4_leftAt J W) (n : Nat) (ls st : List aV) (μ : aM) (g : Nat) : W (n + 1) 37 ls st μ g = (sBin fAdd 38) (W n) ls st μ g := (hW n 37 ls st μ g).trans rfl
theorem wX4_leftAt_38 {l : Launch} {K : aRs} {X : aXs} {J : aK} {W : Nat → aK} (hW : isW (tbX4_leftAt l K X) cuX4_leftAt J W) (n : Nat) (ls st : List aV) (μ : aM) (g : Nat) : W (n + 1) 38 ls st μ g = (sSt 4 40 isI) (W n) ls st μ g := (hW n 38 ls st μ g).trans rfl
theorem wX4_leftAt_40 {l : Launch} {K : aRs} {X : aXs} {J : aK} {W : Nat → aK} (hW : isW (tbX4_leftAt l K X) cuX4_leftAt J W) (n : Nat) (ls st : List aV) (μ : aM) (g : Nat) : W (n + 1) 40 ls st μ g = (sLd 5 42 isR) (W n) ls st μ g := (hW n 40 ls st μ g).trans rfl
theorem wX4_leftAt_42 {l : Launch} {K : aRs} {X : aXs} {J : aK} {W : Nat → aK} (hW : isW (tbX4_leftAt l K X) cuX4_leftAt J W) (n : Nat) (ls st : List aV) (μ : aM) (g : Nat) : W (n + 1) 42 ls st μ g = (sGetR 2 11 45) (W n) ls st μ g := (hW n 42 ls st μ g).trans rfl
theorem wX4_leftAt_45 {l : Launch} {K : aRs} {X : aXs} {J : aK} {W : Nat → aK} (hW : isW (tbX4_leftAt l K X) cuX4_leftAt J W) (n : Nat) (ls st : List aV) (μ : aM) (g : Nat) : W (n + 1) 45 ls st μ g = (sSt 5 47 isR) (W n) ls st μ g := (hW n 45 ls st μ g).trans rfl
theorem wX4_leftAt_47 {l : Launch} {K : aRs} {X : aXs} {J : aK} {W : Nat → aK} (hW : isW (tbX4_leftAt l K X) cuX4_leftAt J W) (n : Nat) (ls st : List aV) (μ : aM) (g : Nat) : W (n + 1) 47 ls st μ g = (sGoto 13) (W n) ls st μ g := (hW n 47 ls st μ g).trans rfl
theorem wX4_leftAt_50 {l : Launch} {K : aRs} {X : aXs} {J : aK} {W : Nat → aK} (hW : isW (tbX4_leftAt l K X) cuX4_leftAt J W) (n : Nat) (ls st : List aV) (μ : aM) (g : Nat) : W (n + 1) 50 ls st μ g = (sLd 4 52 isI) (W n) ls st μ g := (hW n 50 ls st μ g).trans rfl
theorem wX4_leftAt_52 {l : Launch} {K : aRs} {X : aXs} {J : aK} {W : Nat → aK} (hW : isW (tbX4_leftAt l K X) cuX4_leftAt J W) (n : Nat) (ls st : List aV) (μ : aM) (g : Nat) : W (n + 1) 52 ls st μ g = (sRetI .int 2 K) (W n) ls st μ g := (hW n 52 ls st μ g).trans rfl
theorem dX4_ordersAt_0 : decode cX4_ordersAt 0 = .ok (.aload_n 0, 1) := by decide +kernel
theorem dX4_ordersAt_1 : decode cX4_ordersAt 1 = .ok (.iload_n 1, 1) := by decide +kernel
theorem dX4_ordersAt_2 : decode cX4_ordersAt 2 = .ok (.iload_n 2, 1) := by decide +kernel
theorem dX4_ordersAt_3 : decode cX4_ordersAt 3 = .ok (.invokevirtual 157, 3) := by decide +kernel
theorem dX4_ordersAt_6 : decode cX4_ordersAt 6 = .ok (.astore_n 3, 1) := by decide +kernel
theorem dX4_ordersAt_7 : decode cX4_ordersAt 7 = .ok (.iconst 0, 1) := by decide +kernel
theorem dX4_ordersAt_8 : decode cX4_ordersAt 8 = .ok (.istore 4, 2) := by decide +kernel
theorem dX4_ordersAt_10 : decode cX4_ordersAt 10 = .ok (.aload_n 3, 1) := by decide +kernel
theorem dX4_ordersAt_11 : decode cX4_ordersAt 11 = .ok (.astore 5, 2) := by decide +kernel
theorem dX4_ordersAt_13 : decode cX4_ordersAt 13 = .ok (.aload 5, 2) := by decide +kernel
theorem dX4_ordersAt_15 : decode cX4_ordersAt 15 = .ok (.ifnull 28, 3) := by decide +kernel
theorem dX4_ordersAt_18 : decode cX4_ordersAt 18 = .ok (.aload 5, 2) := by decide +kernel
theorem dX4_ordersAt_20 : decode cX4_ordersAt 20 = .ok (.getfield 161, 3) := by decide +kernel
theorem dX4_ordersAt_23 : decode cX4_ordersAt 23 = .ok (.aload_n 3, 1) := by decide +kernel
theorem dX4_ordersAt_24 : decode cX4_ordersAt 24 = .ok (.getfield 161, 3) := by decide +kernel
theorem dX4_ordersAt_27 : decode cX4_ordersAt 27 = .ok (.if_icmp .ne 16, 3) := by decide +kernel
theorem dX4_ordersAt_30 : decode cX4_ordersAt 30 = .ok (.iinc 4 1, 3) := by decide +kernel
theorem dX4_ordersAt_33 : decode cX4_ordersAt 33 = .ok (.aload 5, 2) := by decide +kernel
theorem dX4_ordersAt_35 : decode cX4_ordersAt 35 = .ok (.getfield 164, 3) := by decide +kernel
theorem dX4_ordersAt_38 : decode cX4_ordersAt 38 = .ok (.astore 5, 2) := by decide +kernel
theorem dX4_ordersAt_40 : decode cX4_ordersAt 40 = .ok (.goto (-27), 3) := by decide +kernel
theorem dX4_ordersAt_43 : decode cX4_ordersAt 43 = .ok (.iload 4, 2) := by decide +kernel
theorem dX4_ordersAt_45 : decode cX4_ordersAt 45 = .ok (.ireturn, 1) := by decide +kernel
def tbX4_ordersAt (l : Launch) (K : aRs) (X : aXs) : aTb := [
  (0, sLd 0 1 isR),
  (1, sLd 1 2 isI),
  (2, sLd 2 3 isI),
  (3, sCallV 2 4 (fun as μ K => Ct l mdX4_knownHead as μ K X) 6 2 2),
  (6, sSt 3 7 isR),
  (7, sPush (aI 0) 8),
  (8, sSt 4 10 isI),
  (10, sLd 3 11 isR),
  (11, sSt 5 13 isR),
  (13, sLd 5 15 isR),
  (15, sNul 43 18),
  (18, sLd 5 20 isR),
  (20, sGetI 2 4 23),
  (23, sLd 3 24 isR),
  (24, sGetI 2 4 27),
  (27, sIc qNe 43 30),
  (30, sInc 4 1 33),
  (33, sLd 5 35 isR),
  (35, sGetR 2 11 38),
  (38, sSt 5 40 isR),
  (40, sGoto 13),
  (43, sLd 4 45 isI),
  (45, sRetI .int 2 K)]
theorem snX4_ordersAt (l : Launch) (K : aRs) (X : aXs) (n0 : Nat) : ∀ q ∈ tbX4_ordersAt l K X, aSo l mdX4_ordersAt K X n0 q.1 q.2 :=
  tc (fun p e s m args below meth c cA D A ad0 h => ok_aload_n h.1 0 rfl dX4_ordersAt_0) <|
  tc (fun p e s m args below meth c cA D A ad0 h => ok_iload_n h.1 1 rfl dX4_ordersAt_1) <|
  tc (fun p e s m args below meth c cA D A ad0 h => ok_iload_n h.1 2 rfl dX4_ordersAt_2) <|
  tc (fun p e s m args below meth c cA D A ad0 h => ok_callV h.1 h.2.1 ⟨Nat.le_refl _, Nat.le_refl _⟩ mdX4_knownHead siX4_knownHead cxX4 mkRX4_157 imX4_knownHead seX4_knownHead ⟨by decide, by decide⟩ (aAx_out h.1 h.2.2.1 _) dX4_ordersAt_3) <|
  tc (fun p e s m args below meth c cA D A ad0 h => ok_astore_n h.1 3 rfl (by decide) dX4_ordersAt_6) <|
  tc (fun p e s m args below meth c cA D A ad0 h => ok_iconst h.1 ⟨by decide, by decide⟩ dX4_ordersAt_7) <|
  tc (fun p e s m args below meth c cA D A ad0 h => ok_istore h.1 (by decide) dX4_ordersAt_8) <|
  tc (fun p e s m args below meth c cA D A ad0 h => ok_aload_n h.1 3 rfl dX4_ordersAt_10) <|
  tc (fun p e s m args below meth c cA D A ad0 h => ok_astore h.1 (by decide) dX4_ordersAt_11) <|
  tc (fun p e s m args below meth c cA D A ad0 h => ok_aload h.1 dX4_ordersAt_13) <|
  tc (fun p e s m args below meth c cA D A ad0 h => ok_ifnull h.1 43 (by decide) dX4_ordersAt_15) <|
  tc (fun p e s m args below meth c cA D A ad0 h => ok_aload h.1 dX4_ordersAt_18) <|
  tc (fun p e s m args below meth c cA D A ad0 h => ok_getI h.1 cxX2 (by decide) rfl fkRX4_161 (fun _ _ _ => rfl) dX4_ordersAt_20) <|
  tc (fun p e s m args below meth c cA D A ad0 h => ok_aload_n h.1 3 rfl dX4_ordersAt_23) <|
  tc (fun p e s m args below meth c cA D A ad0 h => ok_getI h.1 cxX2 (by decide) rfl fkRX4_161 (fun _ _ _ => rfl) dX4_ordersAt_24) <|
  tc (fun p e s m args below meth c cA D A ad0 h => ok_icmp_ne h.1 43 (by decide) dX4_ordersAt_27) <|
  tc (fun p e s m args below meth c cA D A ad0 h => ok_iinc h.1 (by decide) dX4_ordersAt_30) <|
  tc (fun p e s m args below meth c cA D A ad0 h => ok_aload h.1 dX4_ordersAt_33) <|
  tc (fun p e s m args below meth c cA D A ad0 h => ok_getR h.1 cxX2 (by decide) rfl fkRX4_164 (fun _ _ _ => rfl) dX4_ordersAt_35) <|
  tc (fun p e s m args below meth c cA D A ad0 h => ok_astore h.1 (by decide) dX4_ordersAt_38) <|
  tc (fun p e s m args below meth c cA D A ad0 h => ok_goto h.1 13 (by decide) dX4_ordersAt_40) <|
  tc (fun p e s m args below meth c cA D A ad0 h => ok_iload h.1 dX4_ordersAt_43) <|
  tc (fun p e s m args below meth c cA D A ad0 h => ok_ireturn h.1 h.2.2.2.1 (Or.inl rfl) dX4_ordersAt_45) <|
  tn
abbrev cuX4_ordersAt : List Nat := [6, 13]
theorem tX4_ordersAt_0 (l : Launch) (K : aRs) (X : aXs) : tb (tbX4_ordersAt l K X) 0 = sLd 0 1 isR := (rfl)
theorem wX4_ordersAt_0 {l : Launch} {K : aRs} {X : aXs} {J : aK} {W : Nat → aK} (hW : isW (tbX4_ordersAt l K X) cuX4_ordersAt J W) (n : Nat) (ls st : List aV) (μ : aM) (g : Nat) : W (n + 1) 0 ls st μ g = (sLd 0 1 isR) (W n) ls st μ g := (hW n 0 ls st μ g).trans rfl
theorem wX4_ordersAt_1 {l : Launch} {K : aRs} {X : aXs} {J : aK} {W : Nat → aK} (hW : isW (tbX4_ordersAt l K X) cuX4_ordersAt J W) (n : Nat) (ls st : List aV) (μ : aM) (g : Nat) : W (n + 1) 1 ls st μ g = (sLd 1 2 isI) (W n) ls st μ g := (hW n 1 ls st μ g).trans rfl
theorem wX4_ordersAt_2 {l : Launch} {K : aRs} {X : aXs} {J : aK} {W : Nat → aK} (hW : isW (tbX4_ordersAt l K X) cuX4_ordersAt J W) (n : Nat) (ls st : List aV) (μ : aM) (g : Nat) : W (n + 1) 2 ls st μ g = (sLd 2 3 isI) (W n) ls st μ g := (hW n 2 ls st μ g).trans rfl
theorem wX4_ordersAt_3 {l : Launch} {K : aRs} {X : aXs} {J : aK} {W : Nat → aK} (hW : isW (tbX4_ordersAt l K X) cuX4_ordersAt J W) (n : Nat) (ls st : List aV) (μ : aM) (g : Nat) : W (n + 1) 3 ls st μ g = (sCallV 2 4 (fun as μ K => Ct l mdX4_knownHead as μ K X) 6 2 2) (W n) ls st μ g := (hW n 3 ls st μ g).trans rfl
theorem tX4_ordersAt_6 (l : Launch) (K : aRs) (X : aXs) : tb (tbX4_ordersAt l K X) 6 = sSt 3 7 isR := (rfl)
theorem wX4_ordersAt_6 {l : Launch} {K : aRs} {X : aXs} {J : aK} {W : Nat → aK} (hW : isW (tbX4_ordersAt l K X) cuX4_ordersAt J W) (n : Nat) (ls st : List aV) (μ : aM) (g : Nat) : W (n + 1) 6 ls st μ g = J 6 ls st μ g := (hW n 6 ls st μ g).trans rfl
theorem wX4_ordersAt_7 {l : Launch} {K : aRs} {X : aXs} {J : aK} {W : Nat → aK} (hW : isW (tbX4_ordersAt l K X) cuX4_ordersAt J W) (n : Nat) (ls st : List aV) (μ : aM) (g : Nat) : W (n + 1) 7 ls st μ g = (sPush (aI 0) 8) (W n) ls st μ g := (hW n 7 ls st μ g).trans rfl
theorem wX4_ordersAt_8 {l : Launch} {K : aRs} {X : aXs} {J : aK} {W : Nat → aK} (hW : isW (tbX4_ordersAt l K X) cuX4_ordersAt J W) (n : Nat) (ls st : List aV) (μ : aM) (g : Nat) : W (n + 1) 8 ls st μ g = (sSt 4 10 isI) (W n) ls st μ g := (hW n 8 ls st μ g).trans rfl
theorem wX4_ordersAt_10 {l : Launch} {K : aRs} {X : aXs} {J : aK} {W : Nat → aK} (hW : isW (tbX4_ordersAt l K X) cuX4_ordersAt J W) (n : Nat) (ls st : List aV) (μ : aM) (g : Nat) : W (n + 1) 10 ls st μ g = (sLd 3 11 isR) (W n) ls st μ g := (hW n 10 ls st μ g).trans rfl
theorem wX4_ordersAt_11 {l : Launch} {K : aRs} {X : aXs} {J : aK} {W : Nat → aK} (hW : isW (tbX4_ordersAt l K X) cuX4_ordersAt J W) (n : Nat) (ls st : List aV) (μ : aM) (g : Nat) : W (n + 1) 11 ls st μ g = (sSt 5 13 isR) (W n) ls st μ g := (hW n 11 ls st μ g).trans rfl
theorem tX4_ordersAt_13 (l : Launch) (K : aRs) (X : aXs) : tb (tbX4_ordersAt l K X) 13 = sLd 5 15 isR := (rfl)
theorem wX4_ordersAt_13 {l : Launch} {K : aRs} {X : aXs} {J : aK} {W : Nat → aK} (hW : isW (tbX4_ordersAt l K X) cuX4_ordersAt J W) (n : Nat) (ls st : List aV) (μ : aM) (g : Nat) : W (n + 1) 13 ls st μ g = J 13 ls st μ g := (hW n 13 ls st μ g).trans rfl
theorem wX4_ordersAt_15 {l : Launch} {K : aRs} {X : aXs} {J : aK} {W : Nat → aK} (hW : isW (tbX4_ordersAt l K X) cuX4_ordersAt J W) (n : Nat) (ls st : List aV) (μ : aM) (g : Nat) : W (n + 1) 15 ls st μ g = (sNul 43 18) (W n) ls st μ g := (hW n 15 ls st μ g).trans rfl
theorem wX4_ordersAt_18 {l : Launch} {K : aRs} {X : aXs} {J : aK} {W : Nat → aK} (hW : isW (tbX4_ordersAt l K X) cuX4_ordersAt J W) (n : Nat) (ls st : List aV) (μ : aM) (g : Nat) : W (n + 1) 18 ls st μ g = (sLd 5 20 isR) (W n) ls st μ g := (hW n 18 ls st μ g).trans rfl
theorem wX4_ordersAt_20 {l : Launch} {K : aRs} {X : aXs} {J : aK} {W : Nat → aK} (hW : isW (tbX4_ordersAt l K X) cuX4_ordersAt J W) (n : Nat) (ls st : List aV) (μ : aM) (g : Nat) : W (n + 1) 20 ls st μ g = (sGetI 2 4 23) (W n) ls st μ g := (hW n 20 ls st μ g).trans rfl
theorem wX4_ordersAt_23 {l : Launch} {K : aRs} {X : aXs} {J : aK} {W : Nat → aK} (hW : isW (tbX4_ordersAt l K X) cuX4_ordersAt J W) (n : Nat) (ls st : List aV) (μ : aM) (g : Nat) : W (n + 1) 23 ls st μ g = (sLd 3 24 isR) (W n) ls st μ g := (hW n 23 ls st μ g).trans rfl
theorem wX4_ordersAt_24 {l : Launch} {K : aRs} {X : aXs} {J : aK} {W : Nat → aK} (hW : isW (tbX4_ordersAt l K X) cuX4_ordersAt J W) (n : Nat) (ls st : List aV) (μ : aM) (g : Nat) : W (n + 1) 24 ls st μ g = (sGetI 2 4 27) (W n) ls st μ g := (hW n 24 ls st μ g).trans rfl
theorem wX4_ordersAt_27 {l : Launch} {K : aRs} {X : aXs} {J : aK} {W : Nat → aK} (hW : isW (tbX4_ordersAt l K X) cuX4_ordersAt J W) (n : Nat) (ls st : List aV) (μ : aM) (g : Nat) : W (n + 1) 27 ls st μ g = (sIc qNe 43 30) (W n) ls st μ g := (hW n 27 ls st μ g).trans rfl
theorem wX4_ordersAt_30 {l : Launch} {K : aRs} {X : aXs} {J : aK} {W : Nat → aK} (hW : isW (tbX4_ordersAt l K X) cuX4_ordersAt J W) (n : Nat) (ls st : List aV) (μ : aM) (g : Nat) : W (n + 1) 30 ls st μ g = (sInc 4 1 33) (W n) ls st μ g := (hW n 30 ls st μ g).trans rfl
theorem wX4_ordersAt_33 {l : Launch} {K : aRs} {X : aXs} {J : aK} {W : Nat → aK} (hW : isW (tbX4_ordersAt l K X) cuX4_ordersAt J W) (n : Nat) (ls st : List aV) (μ : aM) (g : Nat) : W (n + 1) 33 ls st μ g = (sLd 5 35 isR) (W n) ls st μ g := (hW n 33 ls st μ g).trans rfl
theorem wX4_ordersAt_35 {l : Launch} {K : aRs} {X : aXs} {J : aK} {W : Nat → aK} (hW : isW (tbX4_ordersAt l K X) cuX4_ordersAt J W) (n : Nat) (ls st : List aV) (μ : aM) (g : Nat) : W (n + 1) 35 ls st μ g = (sGetR 2 11 38) (W n) ls st μ g := (hW n 35 ls st μ g).trans rfl
theorem wX4_ordersAt_38 {l : Launch} {K : aRs} {X : aXs} {J : aK} {W : Nat → aK} (hW : isW (tbX4_ordersAt l K X) cuX4_ordersAt J W) (n : Nat) (ls st : List aV) (μ : aM) (g : Nat) : W (n + 1) 38 ls st μ g = (sSt 5 40 isR) (W n) ls st μ g := (hW n 38 ls st μ g).trans rfl
theorem wX4_ordersAt_40 {l : Launch} {K : aRs} {X : aXs} {J : aK} {W : Nat → aK} (hW : isW (tbX4_ordersAt l K X) cuX4_ordersAt J W) (n : Nat) (ls st : List aV) (μ : aM) (g : Nat) : W (n + 1) 40 ls st μ g = (sGoto 13) (W n) ls st μ g := (hW n 40 ls st μ g).trans rfl
theorem wX4_ordersAt_43 {l : Launch} {K : aRs} {X : aXs} {J : aK} {W : Nat → aK} (hW : isW (tbX4_ordersAt l K X) cuX4_ordersAt J W) (n : Nat) (ls st : List aV) (μ : aM) (g : Nat) : W (n + 1) 43 ls st μ g = (sLd 4 45 isI) (W n) ls st μ g := (hW n 43 ls st μ g).trans rfl
theorem wX4_ordersAt_45 {l : Launch} {K : aRs} {X : aXs} {J : aK} {W : Nat → aK} (hW : isW (tbX4_ordersAt l K X) cuX4_ordersAt J W) (n : Nat) (ls st : List aV) (μ : aM) (g : Nat) : W (n + 1) 45 ls st μ g = (sRetI .int 2 K) (W n) ls st μ g := (hW n 45 ls st μ g).trans rfl
theorem dX4_orderAt_0 : decode cX4_orderAt 0 = .ok (.aload_n 0, 1) := by decide +kernel
theorem dX4_orderAt_1 : decode cX4_orderAt 1 = .ok (.iload_n 1, 1) := by decide +kernel
theorem dX4_orderAt_2 : decode cX4_orderAt 2 = .ok (.iload_n 2, 1) := by decide +kernel
theorem dX4_orderAt_3 : decode cX4_orderAt 3 = .ok (.invokevirtual 157, 3) := by decide +kernel
theorem dX4_orderAt_6 : decode cX4_orderAt 6 = .ok (.astore 4, 2) := by decide +kernel
theorem dX4_orderAt_8 : decode cX4_orderAt 8 = .ok (.iconst 0, 1) := by decide +kernel
theorem dX4_orderAt_9 : decode cX4_orderAt 9 = .ok (.istore 5, 2) := by decide +kernel
theorem dX4_orderAt_11 : decode cX4_orderAt 11 = .ok (.aload 4, 2) := by decide +kernel
theorem dX4_orderAt_13 : decode cX4_orderAt 13 = .ok (.astore 6, 2) := by decide +kernel
theorem dX4_orderAt_15 : decode cX4_orderAt 15 = .ok (.aload 6, 2) := by decide +kernel
theorem dX4_orderAt_17 : decode cX4_orderAt 17 = .ok (.ifnull 41, 3) := by decide +kernel
theorem dX4_orderAt_20 : decode cX4_orderAt 20 = .ok (.aload 6, 2) := by decide +kernel
theorem dX4_orderAt_22 : decode cX4_orderAt 22 = .ok (.getfield 161, 3) := by decide +kernel
theorem dX4_orderAt_25 : decode cX4_orderAt 25 = .ok (.aload 4, 2) := by decide +kernel
theorem dX4_orderAt_27 : decode cX4_orderAt 27 = .ok (.getfield 161, 3) := by decide +kernel
theorem dX4_orderAt_30 : decode cX4_orderAt 30 = .ok (.if_icmp .ne 28, 3) := by decide +kernel
theorem dX4_orderAt_33 : decode cX4_orderAt 33 = .ok (.iload 5, 2) := by decide +kernel
theorem dX4_orderAt_35 : decode cX4_orderAt 35 = .ok (.iload_n 3, 1) := by decide +kernel
theorem dX4_orderAt_36 : decode cX4_orderAt 36 = .ok (.if_icmp .ne 9, 3) := by decide +kernel
theorem dX4_orderAt_39 : decode cX4_orderAt 39 = .ok (.aload 6, 2) := by decide +kernel
theorem dX4_orderAt_41 : decode cX4_orderAt 41 = .ok (.getfield 93, 3) := by decide +kernel
theorem dX4_orderAt_44 : decode cX4_orderAt 44 = .ok (.ireturn, 1) := by decide +kernel
theorem dX4_orderAt_45 : decode cX4_orderAt 45 = .ok (.iinc 5 1, 3) := by decide +kernel
theorem dX4_orderAt_48 : decode cX4_orderAt 48 = .ok (.aload 6, 2) := by decide +kernel
theorem dX4_orderAt_50 : decode cX4_orderAt 50 = .ok (.getfield 164, 3) := by decide +kernel
theorem dX4_orderAt_53 : decode cX4_orderAt 53 = .ok (.astore 6, 2) := by decide +kernel
theorem dX4_orderAt_55 : decode cX4_orderAt 55 = .ok (.goto (-40), 3) := by decide +kernel
theorem dX4_orderAt_58 : decode cX4_orderAt 58 = .ok (.new 168, 3) := by decide +kernel
theorem dX4_orderAt_61 : decode cX4_orderAt 61 = .ok (.dup, 1) := by decide +kernel
theorem dX4_orderAt_62 : decode cX4_orderAt 62 = .ok (.invokespecial 170, 3) := by decide +kernel
theorem dX4_orderAt_65 : decode cX4_orderAt 65 = .ok (.athrow, 1) := by decide +kernel
def tbX4_orderAt (l : Launch) (K : aRs) (X : aXs) : aTb := [
  (0, sLd 0 1 isR),
  (1, sLd 1 2 isI),
  (2, sLd 2 3 isI),
  (3, sCallV 2 4 (fun as μ K => Ct l mdX4_knownHead as μ K X) 6 2 3),
  (6, sSt 4 8 isR),
  (8, sPush (aI 0) 9),
  (9, sSt 5 11 isI),
  (11, sLd 4 13 isR),
  (13, sSt 6 15 isR),
  (15, sLd 6 17 isR),
  (17, sNul 58 20),
  (20, sLd 6 22 isR),
  (22, sGetI 2 4 25),
  (25, sLd 4 27 isR),
  (27, sGetI 2 4 30),
  (30, sIc qNe 58 33),
  (33, sLd 5 35 isI),
  (35, sLd 3 36 isI),
  (36, sIc qNe 45 39),
  (39, sLd 6 41 isR),
  (41, sGetI 2 0 44),
  (44, sRetI .int 3 K),
  (45, sInc 5 1 48),
  (48, sLd 6 50 isR),
  (50, sGetR 2 11 53),
  (53, sSt 6 55 isR),
  (55, sGoto 15),
  (58, sThrow 4 3 X)]
theorem snX4_orderAt (l : Launch) (K : aRs) (X : aXs) (n0 : Nat) : ∀ q ∈ tbX4_orderAt l K X, aSo l mdX4_orderAt K X n0 q.1 q.2 :=
  tc (fun p e s m args below meth c cA D A ad0 h => ok_aload_n h.1 0 rfl dX4_orderAt_0) <|
  tc (fun p e s m args below meth c cA D A ad0 h => ok_iload_n h.1 1 rfl dX4_orderAt_1) <|
  tc (fun p e s m args below meth c cA D A ad0 h => ok_iload_n h.1 2 rfl dX4_orderAt_2) <|
  tc (fun p e s m args below meth c cA D A ad0 h => ok_callV h.1 h.2.1 ⟨Nat.le_refl _, Nat.le_refl _⟩ mdX4_knownHead siX4_knownHead cxX4 mkRX4_157 imX4_knownHead seX4_knownHead ⟨by decide, by decide⟩ (aAx_out h.1 h.2.2.1 _) dX4_orderAt_3) <|
  tc (fun p e s m args below meth c cA D A ad0 h => ok_astore h.1 (by decide) dX4_orderAt_6) <|
  tc (fun p e s m args below meth c cA D A ad0 h => ok_iconst h.1 ⟨by decide, by decide⟩ dX4_orderAt_8) <|
  tc (fun p e s m args below meth c cA D A ad0 h => ok_istore h.1 (by decide) dX4_orderAt_9) <|
  tc (fun p e s m args below meth c cA D A ad0 h => ok_aload h.1 dX4_orderAt_11) <|
  tc (fun p e s m args below meth c cA D A ad0 h => ok_astore h.1 (by decide) dX4_orderAt_13) <|
  tc (fun p e s m args below meth c cA D A ad0 h => ok_aload h.1 dX4_orderAt_15) <|
  tc (fun p e s m args below meth c cA D A ad0 h => ok_ifnull h.1 58 (by decide) dX4_orderAt_17) <|
  tc (fun p e s m args below meth c cA D A ad0 h => ok_aload h.1 dX4_orderAt_20) <|
  tc (fun p e s m args below meth c cA D A ad0 h => ok_getI h.1 cxX2 (by decide) rfl fkRX4_161 (fun _ _ _ => rfl) dX4_orderAt_22) <|
  tc (fun p e s m args below meth c cA D A ad0 h => ok_aload h.1 dX4_orderAt_25) <|
  tc (fun p e s m args below meth c cA D A ad0 h => ok_getI h.1 cxX2 (by decide) rfl fkRX4_161 (fun _ _ _ => rfl) dX4_orderAt_27) <|
  tc (fun p e s m args below meth c cA D A ad0 h => ok_icmp_ne h.1 58 (by decide) dX4_orderAt_30) <|
  tc (fun p e s m args below meth c cA D A ad0 h => ok_iload h.1 dX4_orderAt_33) <|
  tc (fun p e s m args below meth c cA D A ad0 h => ok_iload_n h.1 3 rfl dX4_orderAt_35) <|
  tc (fun p e s m args below meth c cA D A ad0 h => ok_icmp_ne h.1 45 (by decide) dX4_orderAt_36) <|
  tc (fun p e s m args below meth c cA D A ad0 h => ok_aload h.1 dX4_orderAt_39) <|
  tc (fun p e s m args below meth c cA D A ad0 h => ok_getI h.1 cxX2 (by decide) rfl fkRX4_93 (fun _ _ _ => rfl) dX4_orderAt_41) <|
  tc (fun p e s m args below meth c cA D A ad0 h => ok_ireturn h.1 h.2.2.2.1 (Or.inl rfl) dX4_orderAt_44) <|
  tc (fun p e s m args below meth c cA D A ad0 h => ok_iinc h.1 (by decide) dX4_orderAt_45) <|
  tc (fun p e s m args below meth c cA D A ad0 h => ok_aload h.1 dX4_orderAt_48) <|
  tc (fun p e s m args below meth c cA D A ad0 h => ok_getR h.1 cxX2 (by decide) rfl fkRX4_164 (fun _ _ _ => rfl) dX4_orderAt_50) <|
  tc (fun p e s m args below meth c cA D A ad0 h => ok_astore h.1 (by decide) dX4_orderAt_53) <|
  tc (fun p e s m args below meth c cA D A ad0 h => ok_goto h.1 15 (by decide) dX4_orderAt_55) <|
  tc (fun p e s m args below meth c cA D A ad0 h => ok_throw h.1 h.2.1 ⟨Nat.le_refl _, Nat.le_refl _⟩ h.2.2.1 (by decide) (by decide) ckRX4_168 niE4 xaE4 xbE4 xcE4 dX4_orderAt_58 dX4_orderAt_61 dX4_orderAt_62 dX4_orderAt_65 (by decide) (by decide)) <|
  tn
abbrev cuX4_orderAt : List Nat := [6, 15]
theorem tX4_orderAt_0 (l : Launch) (K : aRs) (X : aXs) : tb (tbX4_orderAt l K X) 0 = sLd 0 1 isR := (rfl)
theorem wX4_orderAt_0 {l : Launch} {K : aRs} {X : aXs} {J : aK} {W : Nat → aK} (hW : isW (tbX4_orderAt l K X) cuX4_orderAt J W) (n : Nat) (ls st : List aV) (μ : aM) (g : Nat) : W (n + 1) 0 ls st μ g = (sLd 0 1 isR) (W n) ls st μ g := (hW n 0 ls st μ g).trans rfl
theorem wX4_orderAt_1 {l : Launch} {K : aRs} {X : aXs} {J : aK} {W : Nat → aK} (hW : isW (tbX4_orderAt l K X) cuX4_orderAt J W) (n : Nat) (ls st : List aV) (μ : aM) (g : Nat) : W (n + 1) 1 ls st μ g = (sLd 1 2 isI) (W n) ls st μ g := (hW n 1 ls st μ g).trans rfl
theorem wX4_orderAt_2 {l : Launch} {K : aRs} {X : aXs} {J : aK} {W : Nat → aK} (hW : isW (tbX4_orderAt l K X) cuX4_orderAt J W) (n : Nat) (ls st : List aV) (μ : aM) (g : Nat) : W (n + 1) 2 ls st μ g = (sLd 2 3 isI) (W n) ls st μ g := (hW n 2 ls st μ g).trans rfl
theorem wX4_orderAt_3 {l : Launch} {K : aRs} {X : aXs} {J : aK} {W : Nat → aK} (hW : isW (tbX4_orderAt l K X) cuX4_orderAt J W) (n : Nat) (ls st : List aV) (μ : aM) (g : Nat) : W (n + 1) 3 ls st μ g = (sCallV 2 4 (fun as μ K => Ct l mdX4_knownHead as μ K X) 6 2 3) (W n) ls st μ g := (hW n 3 ls st μ g).trans rfl
theorem tX4_orderAt_6 (l : Launch) (K : aRs) (X : aXs) : tb (tbX4_orderAt l K X) 6 = sSt 4 8 isR := (rfl)
theorem wX4_orderAt_6 {l : Launch} {K : aRs} {X : aXs} {J : aK} {W : Nat → aK} (hW : isW (tbX4_orderAt l K X) cuX4_orderAt J W) (n : Nat) (ls st : List aV) (μ : aM) (g : Nat) : W (n + 1) 6 ls st μ g = J 6 ls st μ g := (hW n 6 ls st μ g).trans rfl
theorem wX4_orderAt_8 {l : Launch} {K : aRs} {X : aXs} {J : aK} {W : Nat → aK} (hW : isW (tbX4_orderAt l K X) cuX4_orderAt J W) (n : Nat) (ls st : List aV) (μ : aM) (g : Nat) : W (n + 1) 8 ls st μ g = (sPush (aI 0) 9) (W n) ls st μ g := (hW n 8 ls st μ g).trans rfl
theorem wX4_orderAt_9 {l : Launch} {K : aRs} {X : aXs} {J : aK} {W : Nat → aK} (hW : isW (tbX4_orderAt l K X) cuX4_orderAt J W) (n : Nat) (ls st : List aV) (μ : aM) (g : Nat) : W (n + 1) 9 ls st μ g = (sSt 5 11 isI) (W n) ls st μ g := (hW n 9 ls st μ g).trans rfl
theorem wX4_orderAt_11 {l : Launch} {K : aRs} {X : aXs} {J : aK} {W : Nat → aK} (hW : isW (tbX4_orderAt l K X) cuX4_orderAt J W) (n : Nat) (ls st : List aV) (μ : aM) (g : Nat) : W (n + 1) 11 ls st μ g = (sLd 4 13 isR) (W n) ls st μ g := (hW n 11 ls st μ g).trans rfl
theorem wX4_orderAt_13 {l : Launch} {K : aRs} {X : aXs} {J : aK} {W : Nat → aK} (hW : isW (tbX4_orderAt l K X) cuX4_orderAt J W) (n : Nat) (ls st : List aV) (μ : aM) (g : Nat) : W (n + 1) 13 ls st μ g = (sSt 6 15 isR) (W n) ls st μ g := (hW n 13 ls st μ g).trans rfl
theorem tX4_orderAt_15 (l : Launch) (K : aRs) (X : aXs) : tb (tbX4_orderAt l K X) 15 = sLd 6 17 isR := (rfl)
theorem wX4_orderAt_15 {l : Launch} {K : aRs} {X : aXs} {J : aK} {W : Nat → aK} (hW : isW (tbX4_orderAt l K X) cuX4_orderAt J W) (n : Nat) (ls st : List aV) (μ : aM) (g : Nat) : W (n + 1) 15 ls st μ g = J 15 ls st μ g := (hW n 15 ls st μ g).trans rfl
theorem wX4_orderAt_17 {l : Launch} {K : aRs} {X : aXs} {J : aK} {W : Nat → aK} (hW : isW (tbX4_orderAt l K X) cuX4_orderAt J W) (n : Nat) (ls st : List aV) (μ : aM) (g : Nat) : W (n + 1) 17 ls st μ g = (sNul 58 20) (W n) ls st μ g := (hW n 17 ls st μ g).trans rfl
theorem wX4_orderAt_20 {l : Launch} {K : aRs} {X : aXs} {J : aK} {W : Nat → aK} (hW : isW (tbX4_orderAt l K X) cuX4_orderAt J W) (n : Nat) (ls st : List aV) (μ : aM) (g : Nat) : W (n + 1) 20 ls st μ g = (sLd 6 22 isR) (W n) ls st μ g := (hW n 20 ls st μ g).trans rfl
theorem wX4_orderAt_22 {l : Launch} {K : aRs} {X : aXs} {J : aK} {W : Nat → aK} (hW : isW (tbX4_orderAt l K X) cuX4_orderAt J W) (n : Nat) (ls st : List aV) (μ : aM) (g : Nat) : W (n + 1) 22 ls st μ g = (sGetI 2 4 25) (W n) ls st μ g := (hW n 22 ls st μ g).trans rfl
theorem wX4_orderAt_25 {l : Launch} {K : aRs} {X : aXs} {J : aK} {W : Nat → aK} (hW : isW (tbX4_orderAt l K X) cuX4_orderAt J W) (n : Nat) (ls st : List aV) (μ : aM) (g : Nat) : W (n + 1) 25 ls st μ g = (sLd 4 27 isR) (W n) ls st μ g := (hW n 25 ls st μ g).trans rfl
theorem wX4_orderAt_27 {l : Launch} {K : aRs} {X : aXs} {J : aK} {W : Nat → aK} (hW : isW (tbX4_orderAt l K X) cuX4_orderAt J W) (n : Nat) (ls st : List aV) (μ : aM) (g : Nat) : W (n + 1) 27 ls st μ g = (sGetI 2 4 30) (W n) ls st μ g := (hW n 27 ls st μ g).trans rfl
theorem wX4_orderAt_30 {l : Launch} {K : aRs} {X : aXs} {J : aK} {W : Nat → aK} (hW : isW (tbX4_orderAt l K X) cuX4_orderAt J W) (n : Nat) (ls st : List aV) (μ : aM) (g : Nat) : W (n + 1) 30 ls st μ g = (sIc qNe 58 33) (W n) ls st μ g := (hW n 30 ls st μ g).trans rfl
theorem wX4_orderAt_33 {l : Launch} {K : aRs} {X : aXs} {J : aK} {W : Nat → aK} (hW : isW (tbX4_orderAt l K X) cuX4_orderAt J W) (n : Nat) (ls st : List aV) (μ : aM) (g : Nat) : W (n + 1) 33 ls st μ g = (sLd 5 35 isI) (W n) ls st μ g := (hW n 33 ls st μ g).trans rfl
theorem wX4_orderAt_35 {l : Launch} {K : aRs} {X : aXs} {J : aK} {W : Nat → aK} (hW : isW (tbX4_orderAt l K X) cuX4_orderAt J W) (n : Nat) (ls st : List aV) (μ : aM) (g : Nat) : W (n + 1) 35 ls st μ g = (sLd 3 36 isI) (W n) ls st μ g := (hW n 35 ls st μ g).trans rfl
theorem wX4_orderAt_36 {l : Launch} {K : aRs} {X : aXs} {J : aK} {W : Nat → aK} (hW : isW (tbX4_orderAt l K X) cuX4_orderAt J W) (n : Nat) (ls st : List aV) (μ : aM) (g : Nat) : W (n + 1) 36 ls st μ g = (sIc qNe 45 39) (W n) ls st μ g := (hW n 36 ls st μ g).trans rfl
theorem wX4_orderAt_39 {l : Launch} {K : aRs} {X : aXs} {J : aK} {W : Nat → aK} (hW : isW (tbX4_orderAt l K X) cuX4_orderAt J W) (n : Nat) (ls st : List aV) (μ : aM) (g : Nat) : W (n + 1) 39 ls st μ g = (sLd 6 41 isR) (W n) ls st μ g := (hW n 39 ls st μ g).trans rfl
theorem wX4_orderAt_41 {l : Launch} {K : aRs} {X : aXs} {J : aK} {W : Nat → aK} (hW : isW (tbX4_orderAt l K X) cuX4_orderAt J W) (n : Nat) (ls st : List aV) (μ : aM) (g : Nat) : W (n + 1) 41 ls st μ g = (sGetI 2 0 44) (W n) ls st μ g := (hW n 41 ls st μ g).trans rfl
theorem wX4_orderAt_44 {l : Launch} {K : aRs} {X : aXs} {J : aK} {W : Nat → aK} (hW : isW (tbX4_orderAt l K X) cuX4_orderAt J W) (n : Nat) (ls st : List aV) (μ : aM) (g : Nat) : W (n + 1) 44 ls st μ g = (sRetI .int 3 K) (W n) ls st μ g := (hW n 44 ls st μ g).trans rfl
theorem wX4_orderAt_45 {l : Launch} {K : aRs} {X : aXs} {J : aK} {W : Nat → aK} (hW : isW (tbX4_orderAt l K X) cuX4_orderAt J W) (n : Nat) (ls st : List aV) (μ : aM) (g : Nat) : W (n + 1) 45 ls st μ g = (sInc 5 1 48) (W n) ls st μ g := (hW n 45 ls st μ g).trans rfl
theorem wX4_orderAt_48 {l : Launch} {K : aRs} {X : aXs} {J : aK} {W : Nat → aK} (hW : isW (tbX4_orderAt l K X) cuX4_orderAt J W) (n : Nat) (ls st : List aV) (μ : aM) (g : Nat) : W (n + 1) 48 ls st μ g = (sLd 6 50 isR) (W n) ls st μ g := (hW n 48 ls st μ g).trans rfl
theorem wX4_orderAt_50 {l : Launch} {K : aRs} {X : aXs} {J : aK} {W : Nat → aK} (hW : isW (tbX4_orderAt l K X) cuX4_orderAt J W) (n : Nat) (ls st : List aV) (μ : aM) (g : Nat) : W (n + 1) 50 ls st μ g = (sGetR 2 11 53) (W n) ls st μ g := (hW n 50 ls st μ g).trans rfl
theorem wX4_orderAt_53 {l : Launch} {K : aRs} {X : aXs} {J : aK} {W : Nat → aK} (hW : isW (tbX4_orderAt l K X) cuX4_orderAt J W) (n : Nat) (ls st : List aV) (μ : aM) (g : Nat) : W (n + 1) 53 ls st μ g = (sSt 6 55 isR) (W n) ls st μ g := (hW n 53 ls st μ g).trans rfl
theorem wX4_orderAt_55 {l : Launch} {K : aRs} {X : aXs} {J : aK} {W : Nat → aK} (hW : isW (tbX4_orderAt l K X) cuX4_orderAt J W) (n : Nat) (ls st : List aV) (μ : aM) (g : Nat) : W (n + 1) 55 ls st μ g = (sGoto 15) (W n) ls st μ g := (hW n 55 ls st μ g).trans rfl
theorem wX4_orderAt_58 {l : Launch} {K : aRs} {X : aXs} {J : aK} {W : Nat → aK} (hW : isW (tbX4_orderAt l K X) cuX4_orderAt J W) (n : Nat) (ls st : List aV) (μ : aM) (g : Nat) : W (n + 1) 58 ls st μ g = (sThrow 4 3 X) (W n) ls st μ g := (hW n 58 ls st μ g).trans rfl
theorem dX4_spread_0 : decode cX4_spread 0 = .ok (.aload_n 0, 1) := by decide +kernel
theorem dX4_spread_1 : decode cX4_spread 1 = .ok (.getfield 20, 3) := by decide +kernel
theorem dX4_spread_4 : decode cX4_spread 4 = .ok (.getfield 171, 3) := by decide +kernel
theorem dX4_spread_7 : decode cX4_spread 7 = .ok (.astore_n 1, 1) := by decide +kernel
theorem dX4_spread_8 : decode cX4_spread 8 = .ok (.aload_n 0, 1) := by decide +kernel
theorem dX4_spread_9 : decode cX4_spread 9 = .ok (.getfield 24, 3) := by decide +kernel
theorem dX4_spread_12 : decode cX4_spread 12 = .ok (.getfield 171, 3) := by decide +kernel
theorem dX4_spread_15 : decode cX4_spread 15 = .ok (.astore_n 2, 1) := by decide +kernel
theorem dX4_spread_16 : decode cX4_spread 16 = .ok (.aload_n 1, 1) := by decide +kernel
theorem dX4_spread_17 : decode cX4_spread 17 = .ok (.ifnull 7, 3) := by decide +kernel
theorem dX4_spread_20 : decode cX4_spread 20 = .ok (.aload_n 2, 1) := by decide +kernel
theorem dX4_spread_21 : decode cX4_spread 21 = .ok (.ifnonnull 11, 3) := by decide +kernel
theorem dX4_spread_24 : decode cX4_spread 24 = .ok (.new 174, 3) := by decide +kernel
theorem dX4_spread_27 : decode cX4_spread 27 = .ok (.dup, 1) := by decide +kernel
theorem dX4_spread_28 : decode cX4_spread 28 = .ok (.invokespecial 176, 3) := by decide +kernel
theorem dX4_spread_31 : decode cX4_spread 31 = .ok (.athrow, 1) := by decide +kernel
theorem dX4_spread_32 : decode cX4_spread 32 = .ok (.aload_n 2, 1) := by decide +kernel
theorem dX4_spread_33 : decode cX4_spread 33 = .ok (.getfield 161, 3) := by decide +kernel
theorem dX4_spread_36 : decode cX4_spread 36 = .ok (.aload_n 1, 1) := by decide +kernel
theorem dX4_spread_37 : decode cX4_spread 37 = .ok (.getfield 161, 3) := by decide +kernel
theorem dX4_spread_40 : decode cX4_spread 40 = .ok (.isub, 1) := by decide +kernel
theorem dX4_spread_41 : decode cX4_spread 41 = .ok (.ireturn, 1) := by decide +kernel
def tbX4_spread (l : Launch) (K : aRs) (X : aXs) : aTb := [
  (0, sLd 0 1 isR),
  (1, sGetR 4 1 4),
  (4, sGetR 1 1 7),
  (7, sSt 1 8 isR),
  (8, sLd 0 9 isR),
  (9, sGetR 4 2 12),
  (12, sGetR 1 1 15),
  (15, sSt 2 16 isR),
  (16, sLd 1 17 isR),
  (17, sNul 24 20),
  (20, sLd 2 21 isR),
  (21, sNn 32 24),
  (24, sThrow 3 1 X),
  (32, sLd 2 33 isR),
  (33, sGetI 2 4 36),
  (36, sLd 1 37 isR),
  (37, sGetI 2 4 40),
  (40, sBin fSub 41),
  (41, sRetI .int 1 K)]
theorem snX4_spread (l : Launch) (K : aRs) (X : aXs) (n0 : Nat) : ∀ q ∈ tbX4_spread l K X, aSo l mdX4_spread K X n0 q.1 q.2 :=
  tc (fun p e s m args below meth c cA D A ad0 h => ok_aload_n h.1 0 rfl dX4_spread_0) <|
  tc (fun p e s m args below meth c cA D A ad0 h => ok_getR h.1 cxX4 (by decide) rfl fkRX4_20 (fun _ _ _ => rfl) dX4_spread_1) <|
  tc (fun p e s m args below meth c cA D A ad0 h => ok_getR h.1 cxX1 (by decide) rfl fkRX4_171 (fun _ _ _ => rfl) dX4_spread_4) <|
  tc (fun p e s m args below meth c cA D A ad0 h => ok_astore_n h.1 1 rfl (by decide) dX4_spread_7) <|
  tc (fun p e s m args below meth c cA D A ad0 h => ok_aload_n h.1 0 rfl dX4_spread_8) <|
  tc (fun p e s m args below meth c cA D A ad0 h => ok_getR h.1 cxX4 (by decide) rfl fkRX4_24 (fun _ _ _ => rfl) dX4_spread_9) <|
  tc (fun p e s m args below meth c cA D A ad0 h => ok_getR h.1 cxX1 (by decide) rfl fkRX4_171 (fun _ _ _ => rfl) dX4_spread_12) <|
  tc (fun p e s m args below meth c cA D A ad0 h => ok_astore_n h.1 2 rfl (by decide) dX4_spread_15) <|
  tc (fun p e s m args below meth c cA D A ad0 h => ok_aload_n h.1 1 rfl dX4_spread_16) <|
  tc (fun p e s m args below meth c cA D A ad0 h => ok_ifnull h.1 24 (by decide) dX4_spread_17) <|
  tc (fun p e s m args below meth c cA D A ad0 h => ok_aload_n h.1 2 rfl dX4_spread_20) <|
  tc (fun p e s m args below meth c cA D A ad0 h => ok_ifnonnull h.1 32 (by decide) dX4_spread_21) <|
  tc (fun p e s m args below meth c cA D A ad0 h => ok_throw h.1 h.2.1 ⟨Nat.le_refl _, Nat.le_refl _⟩ h.2.2.1 (by decide) (by decide) ckRX4_174 niE3 xaE3 xbE3 xcE3 dX4_spread_24 dX4_spread_27 dX4_spread_28 dX4_spread_31 (by decide) (by decide)) <|
  tc (fun p e s m args below meth c cA D A ad0 h => ok_aload_n h.1 2 rfl dX4_spread_32) <|
  tc (fun p e s m args below meth c cA D A ad0 h => ok_getI h.1 cxX2 (by decide) rfl fkRX4_161 (fun _ _ _ => rfl) dX4_spread_33) <|
  tc (fun p e s m args below meth c cA D A ad0 h => ok_aload_n h.1 1 rfl dX4_spread_36) <|
  tc (fun p e s m args below meth c cA D A ad0 h => ok_getI h.1 cxX2 (by decide) rfl fkRX4_161 (fun _ _ _ => rfl) dX4_spread_37) <|
  tc (fun p e s m args below meth c cA D A ad0 h => ok_isub h.1 dX4_spread_40) <|
  tc (fun p e s m args below meth c cA D A ad0 h => ok_ireturn h.1 h.2.2.2.1 (Or.inl rfl) dX4_spread_41) <|
  tn
abbrev cuX4_spread : List Nat := []
theorem tX4_spread_0 (l : Launch) (K : aRs) (X : aXs) : tb (tbX4_spread l K X) 0 = sLd 0 1 isR := (rfl)
theorem wX4_spread_0 {l : Launch} {K : aRs} {X : aXs} {J : aK} {W : Nat → aK} (hW : isW (tbX4_spread l K X) cuX4_spread J W) (n : Nat) (ls st : List aV) (μ : aM) (g : Nat) : W (n + 1) 0 ls st μ g = (sLd 0 1 isR) (W n) ls st μ g := (hW n 0 ls st μ g).trans rfl
theorem wX4_spread_1 {l : Launch} {K : aRs} {X : aXs} {J : aK} {W : Nat → aK} (hW : isW (tbX4_spread l K X) cuX4_spread J W) (n : Nat) (ls st : List aV) (μ : aM) (g : Nat) : W (n + 1) 1 ls st μ g = (sGetR 4 1 4) (W n) ls st μ g := (hW n 1 ls st μ g).trans rfl
theorem wX4_spread_4 {l : Launch} {K : aRs} {X : aXs} {J : aK} {W : Nat → aK} (hW : isW (tbX4_spread l K X) cuX4_spread J W) (n : Nat) (ls st : List aV) (μ : aM) (g : Nat) : W (n + 1) 4 ls st μ g = (sGetR 1 1 7) (W n) ls st μ g := (hW n 4 ls st μ g).trans rfl
theorem wX4_spread_7 {l : Launch} {K : aRs} {X : aXs} {J : aK} {W : Nat → aK} (hW : isW (tbX4_spread l K X) cuX4_spread J W) (n : Nat) (ls st : List aV) (μ : aM) (g : Nat) : W (n + 1) 7 ls st μ g = (sSt 1 8 isR) (W n) ls st μ g := (hW n 7 ls st μ g).trans rfl
theorem wX4_spread_8 {l : Launch} {K : aRs} {X : aXs} {J : aK} {W : Nat → aK} (hW : isW (tbX4_spread l K X) cuX4_spread J W) (n : Nat) (ls st : List aV) (μ : aM) (g : Nat) : W (n + 1) 8 ls st μ g = (sLd 0 9 isR) (W n) ls st μ g := (hW n 8 ls st μ g).trans rfl
theorem wX4_spread_9 {l : Launch} {K : aRs} {X : aXs} {J : aK} {W : Nat → aK} (hW : isW (tbX4_spread l K X) cuX4_spread J W) (n : Nat) (ls st : List aV) (μ : aM) (g : Nat) : W (n + 1) 9 ls st μ g = (sGetR 4 2 12) (W n) ls st μ g := (hW n 9 ls st μ g).trans rfl
theorem wX4_spread_12 {l : Launch} {K : aRs} {X : aXs} {J : aK} {W : Nat → aK} (hW : isW (tbX4_spread l K X) cuX4_spread J W) (n : Nat) (ls st : List aV) (μ : aM) (g : Nat) : W (n + 1) 12 ls st μ g = (sGetR 1 1 15) (W n) ls st μ g := (hW n 12 ls st μ g).trans rfl
theorem wX4_spread_15 {l : Launch} {K : aRs} {X : aXs} {J : aK} {W : Nat → aK} (hW : isW (tbX4_spread l K X) cuX4_spread J W) (n : Nat) (ls st : List aV) (μ : aM) (g : Nat) : W (n + 1) 15 ls st μ g = (sSt 2 16 isR) (W n) ls st μ g := (hW n 15 ls st μ g).trans rfl
theorem wX4_spread_16 {l : Launch} {K : aRs} {X : aXs} {J : aK} {W : Nat → aK} (hW : isW (tbX4_spread l K X) cuX4_spread J W) (n : Nat) (ls st : List aV) (μ : aM) (g : Nat) : W (n + 1) 16 ls st μ g = (sLd 1 17 isR) (W n) ls st μ g := (hW n 16 ls st μ g).trans rfl
theorem wX4_spread_17 {l : Launch} {K : aRs} {X : aXs} {J : aK} {W : Nat → aK} (hW : isW (tbX4_spread l K X) cuX4_spread J W) (n : Nat) (ls st : List aV) (μ : aM) (g : Nat) : W (n + 1) 17 ls st μ g = (sNul 24 20) (W n) ls st μ g := (hW n 17 ls st μ g).trans rfl
theorem wX4_spread_20 {l : Launch} {K : aRs} {X : aXs} {J : aK} {W : Nat → aK} (hW : isW (tbX4_spread l K X) cuX4_spread J W) (n : Nat) (ls st : List aV) (μ : aM) (g : Nat) : W (n + 1) 20 ls st μ g = (sLd 2 21 isR) (W n) ls st μ g := (hW n 20 ls st μ g).trans rfl
theorem wX4_spread_21 {l : Launch} {K : aRs} {X : aXs} {J : aK} {W : Nat → aK} (hW : isW (tbX4_spread l K X) cuX4_spread J W) (n : Nat) (ls st : List aV) (μ : aM) (g : Nat) : W (n + 1) 21 ls st μ g = (sNn 32 24) (W n) ls st μ g := (hW n 21 ls st μ g).trans rfl
theorem wX4_spread_24 {l : Launch} {K : aRs} {X : aXs} {J : aK} {W : Nat → aK} (hW : isW (tbX4_spread l K X) cuX4_spread J W) (n : Nat) (ls st : List aV) (μ : aM) (g : Nat) : W (n + 1) 24 ls st μ g = (sThrow 3 1 X) (W n) ls st μ g := (hW n 24 ls st μ g).trans rfl
theorem wX4_spread_32 {l : Launch} {K : aRs} {X : aXs} {J : aK} {W : Nat → aK} (hW : isW (tbX4_spread l K X) cuX4_spread J W) (n : Nat) (ls st : List aV) (μ : aM) (g : Nat) : W (n + 1) 32 ls st μ g = (sLd 2 33 isR) (W n) ls st μ g := (hW n 32 ls st μ g).trans rfl
theorem wX4_spread_33 {l : Launch} {K : aRs} {X : aXs} {J : aK} {W : Nat → aK} (hW : isW (tbX4_spread l K X) cuX4_spread J W) (n : Nat) (ls st : List aV) (μ : aM) (g : Nat) : W (n + 1) 33 ls st μ g = (sGetI 2 4 36) (W n) ls st μ g := (hW n 33 ls st μ g).trans rfl
theorem wX4_spread_36 {l : Launch} {K : aRs} {X : aXs} {J : aK} {W : Nat → aK} (hW : isW (tbX4_spread l K X) cuX4_spread J W) (n : Nat) (ls st : List aV) (μ : aM) (g : Nat) : W (n + 1) 36 ls st μ g = (sLd 1 37 isR) (W n) ls st μ g := (hW n 36 ls st μ g).trans rfl
theorem wX4_spread_37 {l : Launch} {K : aRs} {X : aXs} {J : aK} {W : Nat → aK} (hW : isW (tbX4_spread l K X) cuX4_spread J W) (n : Nat) (ls st : List aV) (μ : aM) (g : Nat) : W (n + 1) 37 ls st μ g = (sGetI 2 4 40) (W n) ls st μ g := (hW n 37 ls st μ g).trans rfl
theorem wX4_spread_40 {l : Launch} {K : aRs} {X : aXs} {J : aK} {W : Nat → aK} (hW : isW (tbX4_spread l K X) cuX4_spread J W) (n : Nat) (ls st : List aV) (μ : aM) (g : Nat) : W (n + 1) 40 ls st μ g = (sBin fSub 41) (W n) ls st μ g := (hW n 40 ls st μ g).trans rfl
theorem wX4_spread_41 {l : Launch} {K : aRs} {X : aXs} {J : aK} {W : Nat → aK} (hW : isW (tbX4_spread l K X) cuX4_spread J W) (n : Nat) (ls st : List aV) (μ : aM) (g : Nat) : W (n + 1) 41 ls st μ g = (sRetI .int 1 K) (W n) ls st μ g := (hW n 41 ls st μ g).trans rfl
theorem dX4_waiting_0 : decode cX4_waiting 0 = .ok (.aload_n 0, 1) := by decide +kernel
theorem dX4_waiting_1 : decode cX4_waiting 1 = .ok (.bipush 119, 2) := by decide +kernel
theorem dX4_waiting_3 : decode cX4_waiting 3 = .ok (.invokevirtual 125, 3) := by decide +kernel
theorem dX4_waiting_6 : decode cX4_waiting 6 = .ok (.ireturn, 1) := by decide +kernel
def tbX4_waiting (l : Launch) (K : aRs) (X : aXs) : aTb := [
  (0, sLd 0 1 isR),
  (1, sPush (aI 119) 3),
  (3, sCallV 1 4 (fun as μ K => Ct l mdX4_countIn as μ K X) 6 0 0),
  (6, sRetI .int 0 K)]
theorem snX4_waiting (l : Launch) (K : aRs) (X : aXs) (n0 : Nat) : ∀ q ∈ tbX4_waiting l K X, aSo l mdX4_waiting K X n0 q.1 q.2 :=
  tc (fun p e s m args below meth c cA D A ad0 h => ok_aload_n h.1 0 rfl dX4_waiting_0) <|
  tc (fun p e s m args below meth c cA D A ad0 h => ok_bipush h.1 ⟨by decide, by decide⟩ (by decide) dX4_waiting_1) <|
  tc (fun p e s m args below meth c cA D A ad0 h => ok_callV h.1 h.2.1 ⟨Nat.le_refl _, Nat.le_refl _⟩ mdX4_countIn siX4_countIn cxX4 mkRX4_125 imX4_countIn seX4_countIn ⟨by decide, by decide⟩ (aAx_out h.1 h.2.2.1 _) dX4_waiting_3) <|
  tc (fun p e s m args below meth c cA D A ad0 h => ok_ireturn h.1 h.2.2.2.1 (Or.inl rfl) dX4_waiting_6) <|
  tn
abbrev cuX4_waiting : List Nat := [6]
theorem tX4_waiting_0 (l : Launch) (K : aRs) (X : aXs) : tb (tbX4_waiting l K X) 0 = sLd 0 1 isR := (rfl)
theorem wX4_waiting_0 {l : Launch} {K : aRs} {X : aXs} {J : aK} {W : Nat → aK} (hW : isW (tbX4_waiting l K X) cuX4_waiting J W) (n : Nat) (ls st : List aV) (μ : aM) (g : Nat) : W (n + 1) 0 ls st μ g = (sLd 0 1 isR) (W n) ls st μ g := (hW n 0 ls st μ g).trans rfl
theorem wX4_waiting_1 {l : Launch} {K : aRs} {X : aXs} {J : aK} {W : Nat → aK} (hW : isW (tbX4_waiting l K X) cuX4_waiting J W) (n : Nat) (ls st : List aV) (μ : aM) (g : Nat) : W (n + 1) 1 ls st μ g = (sPush (aI 119) 3) (W n) ls st μ g := (hW n 1 ls st μ g).trans rfl
theorem wX4_waiting_3 {l : Launch} {K : aRs} {X : aXs} {J : aK} {W : Nat → aK} (hW : isW (tbX4_waiting l K X) cuX4_waiting J W) (n : Nat) (ls st : List aV) (μ : aM) (g : Nat) : W (n + 1) 3 ls st μ g = (sCallV 1 4 (fun as μ K => Ct l mdX4_countIn as μ K X) 6 0 0) (W n) ls st μ g := (hW n 3 ls st μ g).trans rfl
theorem tX4_waiting_6 (l : Launch) (K : aRs) (X : aXs) : tb (tbX4_waiting l K X) 6 = sRetI .int 0 K := (rfl)
theorem wX4_waiting_6 {l : Launch} {K : aRs} {X : aXs} {J : aK} {W : Nat → aK} (hW : isW (tbX4_waiting l K X) cuX4_waiting J W) (n : Nat) (ls st : List aV) (μ : aM) (g : Nat) : W (n + 1) 6 ls st μ g = J 6 ls st μ g := (hW n 6 ls st μ g).trans rfl
theorem dX4_auctionPrice_0 : decode cX4_auctionPrice 0 = .ok (.aload_n 0, 1) := by decide +kernel
theorem dX4_auctionPrice_1 : decode cX4_auctionPrice 1 = .ok (.invokevirtual 129, 3) := by decide +kernel
theorem dX4_auctionPrice_4 : decode cX4_auctionPrice 4 = .ok (.istore_n 1, 1) := by decide +kernel
theorem dX4_auctionPrice_5 : decode cX4_auctionPrice 5 = .ok (.iload_n 1, 1) := by decide +kernel
theorem dX4_auctionPrice_6 : decode cX4_auctionPrice 6 = .ok (.ifCond .ne 11, 3) := by decide +kernel
theorem dX4_auctionPrice_9 : decode cX4_auctionPrice 9 = .ok (.new 174, 3) := by decide +kernel
theorem dX4_auctionPrice_12 : decode cX4_auctionPrice 12 = .ok (.dup, 1) := by decide +kernel
theorem dX4_auctionPrice_13 : decode cX4_auctionPrice 13 = .ok (.invokespecial 176, 3) := by decide +kernel
theorem dX4_auctionPrice_16 : decode cX4_auctionPrice 16 = .ok (.athrow, 1) := by decide +kernel
theorem dX4_auctionPrice_17 : decode cX4_auctionPrice 17 = .ok (.iload_n 1, 1) := by decide +kernel
theorem dX4_auctionPrice_18 : decode cX4_auctionPrice 18 = .ok (.ireturn, 1) := by decide +kernel
def tbX4_auctionPrice (l : Launch) (K : aRs) (X : aXs) : aTb := [
  (0, sLd 0 1 isR),
  (1, sCallV 0 4 (fun as μ K => Ct l mdX4_priceBySums as μ K X) 4 0 1),
  (4, sSt 1 5 isI),
  (5, sLd 1 6 isI),
  (6, sIf pNe 17 9),
  (9, sThrow 3 1 X),
  (17, sLd 1 18 isI),
  (18, sRetI .int 1 K)]
theorem snX4_auctionPrice (l : Launch) (K : aRs) (X : aXs) (n0 : Nat) : ∀ q ∈ tbX4_auctionPrice l K X, aSo l mdX4_auctionPrice K X n0 q.1 q.2 :=
  tc (fun p e s m args below meth c cA D A ad0 h => ok_aload_n h.1 0 rfl dX4_auctionPrice_0) <|
  tc (fun p e s m args below meth c cA D A ad0 h => ok_callV h.1 h.2.1 ⟨Nat.le_refl _, Nat.le_refl _⟩ mdX4_priceBySums siX4_priceBySums cxX4 mkRX4_129 imX4_priceBySums seX4_priceBySums ⟨by decide, by decide⟩ (aAx_out h.1 h.2.2.1 _) dX4_auctionPrice_1) <|
  tc (fun p e s m args below meth c cA D A ad0 h => ok_istore_n h.1 1 rfl (by decide) dX4_auctionPrice_4) <|
  tc (fun p e s m args below meth c cA D A ad0 h => ok_iload_n h.1 1 rfl dX4_auctionPrice_5) <|
  tc (fun p e s m args below meth c cA D A ad0 h => ok_if_ne h.1 17 (by decide) dX4_auctionPrice_6) <|
  tc (fun p e s m args below meth c cA D A ad0 h => ok_throw h.1 h.2.1 ⟨Nat.le_refl _, Nat.le_refl _⟩ h.2.2.1 (by decide) (by decide) ckRX4_174 niE3 xaE3 xbE3 xcE3 dX4_auctionPrice_9 dX4_auctionPrice_12 dX4_auctionPrice_13 dX4_auctionPrice_16 (by decide) (by decide)) <|
  tc (fun p e s m args below meth c cA D A ad0 h => ok_iload_n h.1 1 rfl dX4_auctionPrice_17) <|
  tc (fun p e s m args below meth c cA D A ad0 h => ok_ireturn h.1 h.2.2.2.1 (Or.inl rfl) dX4_auctionPrice_18) <|
  tn
abbrev cuX4_auctionPrice : List Nat := [4]
theorem tX4_auctionPrice_0 (l : Launch) (K : aRs) (X : aXs) : tb (tbX4_auctionPrice l K X) 0 = sLd 0 1 isR := (rfl)
theorem wX4_auctionPrice_0 {l : Launch} {K : aRs} {X : aXs} {J : aK} {W : Nat → aK} (hW : isW (tbX4_auctionPrice l K X) cuX4_auctionPrice J W) (n : Nat) (ls st : List aV) (μ : aM) (g : Nat) : W (n + 1) 0 ls st μ g = (sLd 0 1 isR) (W n) ls st μ g := (hW n 0 ls st μ g).trans rfl
theorem wX4_auctionPrice_1 {l : Launch} {K : aRs} {X : aXs} {J : aK} {W : Nat → aK} (hW : isW (tbX4_auctionPrice l K X) cuX4_auctionPrice J W) (n : Nat) (ls st : List aV) (μ : aM) (g : Nat) : W (n + 1) 1 ls st μ g = (sCallV 0 4 (fun as μ K => Ct l mdX4_priceBySums as μ K X) 4 0 1) (W n) ls st μ g := (hW n 1 ls st μ g).trans rfl
theorem tX4_auctionPrice_4 (l : Launch) (K : aRs) (X : aXs) : tb (tbX4_auctionPrice l K X) 4 = sSt 1 5 isI := (rfl)
theorem wX4_auctionPrice_4 {l : Launch} {K : aRs} {X : aXs} {J : aK} {W : Nat → aK} (hW : isW (tbX4_auctionPrice l K X) cuX4_auctionPrice J W) (n : Nat) (ls st : List aV) (μ : aM) (g : Nat) : W (n + 1) 4 ls st μ g = J 4 ls st μ g := (hW n 4 ls st μ g).trans rfl
theorem wX4_auctionPrice_5 {l : Launch} {K : aRs} {X : aXs} {J : aK} {W : Nat → aK} (hW : isW (tbX4_auctionPrice l K X) cuX4_auctionPrice J W) (n : Nat) (ls st : List aV) (μ : aM) (g : Nat) : W (n + 1) 5 ls st μ g = (sLd 1 6 isI) (W n) ls st μ g := (hW n 5 ls st μ g).trans rfl
theorem wX4_auctionPrice_6 {l : Launch} {K : aRs} {X : aXs} {J : aK} {W : Nat → aK} (hW : isW (tbX4_auctionPrice l K X) cuX4_auctionPrice J W) (n : Nat) (ls st : List aV) (μ : aM) (g : Nat) : W (n + 1) 6 ls st μ g = (sIf pNe 17 9) (W n) ls st μ g := (hW n 6 ls st μ g).trans rfl
theorem wX4_auctionPrice_9 {l : Launch} {K : aRs} {X : aXs} {J : aK} {W : Nat → aK} (hW : isW (tbX4_auctionPrice l K X) cuX4_auctionPrice J W) (n : Nat) (ls st : List aV) (μ : aM) (g : Nat) : W (n + 1) 9 ls st μ g = (sThrow 3 1 X) (W n) ls st μ g := (hW n 9 ls st μ g).trans rfl
theorem wX4_auctionPrice_17 {l : Launch} {K : aRs} {X : aXs} {J : aK} {W : Nat → aK} (hW : isW (tbX4_auctionPrice l K X) cuX4_auctionPrice J W) (n : Nat) (ls st : List aV) (μ : aM) (g : Nat) : W (n + 1) 17 ls st μ g = (sLd 1 18 isI) (W n) ls st μ g := (hW n 17 ls st μ g).trans rfl
theorem wX4_auctionPrice_18 {l : Launch} {K : aRs} {X : aXs} {J : aK} {W : Nat → aK} (hW : isW (tbX4_auctionPrice l K X) cuX4_auctionPrice J W) (n : Nat) (ls st : List aV) (μ : aM) (g : Nat) : W (n + 1) 18 ls st μ g = (sRetI .int 1 K) (W n) ls st μ g := (hW n 18 ls st μ g).trans rfl
theorem dX4_auctionPriceByTrying_0 : decode cX4_auctionPriceByTrying 0 = .ok (.aload_n 0, 1) := by decide +kernel
theorem dX4_auctionPriceByTrying_1 : decode cX4_auctionPriceByTrying 1 = .ok (.invokevirtual 177, 3) := by decide +kernel
theorem dX4_auctionPriceByTrying_4 : decode cX4_auctionPriceByTrying 4 = .ok (.istore_n 1, 1) := by decide +kernel
theorem dX4_auctionPriceByTrying_5 : decode cX4_auctionPriceByTrying 5 = .ok (.iload_n 1, 1) := by decide +kernel
theorem dX4_auctionPriceByTrying_6 : decode cX4_auctionPriceByTrying 6 = .ok (.ifCond .ne 11, 3) := by decide +kernel
theorem dX4_auctionPriceByTrying_9 : decode cX4_auctionPriceByTrying 9 = .ok (.new 174, 3) := by decide +kernel
theorem dX4_auctionPriceByTrying_12 : decode cX4_auctionPriceByTrying 12 = .ok (.dup, 1) := by decide +kernel
theorem dX4_auctionPriceByTrying_13 : decode cX4_auctionPriceByTrying 13 = .ok (.invokespecial 176, 3) := by decide +kernel
theorem dX4_auctionPriceByTrying_16 : decode cX4_auctionPriceByTrying 16 = .ok (.athrow, 1) := by decide +kernel
theorem dX4_auctionPriceByTrying_17 : decode cX4_auctionPriceByTrying 17 = .ok (.iload_n 1, 1) := by decide +kernel
theorem dX4_auctionPriceByTrying_18 : decode cX4_auctionPriceByTrying 18 = .ok (.ireturn, 1) := by decide +kernel
def tbX4_auctionPriceByTrying (l : Launch) (K : aRs) (X : aXs) : aTb := [
  (0, sLd 0 1 isR),
  (1, sCallV 0 4 (fun as μ K => Ct l mdX4_priceByTrying as μ K X) 4 0 1),
  (4, sSt 1 5 isI),
  (5, sLd 1 6 isI),
  (6, sIf pNe 17 9),
  (9, sThrow 3 1 X),
  (17, sLd 1 18 isI),
  (18, sRetI .int 1 K)]
theorem snX4_auctionPriceByTrying (l : Launch) (K : aRs) (X : aXs) (n0 : Nat) : ∀ q ∈ tbX4_auctionPriceByTrying l K X, aSo l mdX4_auctionPriceByTrying K X n0 q.1 q.2 :=
  tc (fun p e s m args below meth c cA D A ad0 h => ok_aload_n h.1 0 rfl dX4_auctionPriceByTrying_0) <|
  tc (fun p e s m args below meth c cA D A ad0 h => ok_callV h.1 h.2.1 ⟨Nat.le_refl _, Nat.le_refl _⟩ mdX4_priceByTrying siX4_priceByTrying cxX4 mkRX4_177 imX4_priceByTrying seX4_priceByTrying ⟨by decide, by decide⟩ (aAx_out h.1 h.2.2.1 _) dX4_auctionPriceByTrying_1) <|
  tc (fun p e s m args below meth c cA D A ad0 h => ok_istore_n h.1 1 rfl (by decide) dX4_auctionPriceByTrying_4) <|
  tc (fun p e s m args below meth c cA D A ad0 h => ok_iload_n h.1 1 rfl dX4_auctionPriceByTrying_5) <|
  tc (fun p e s m args below meth c cA D A ad0 h => ok_if_ne h.1 17 (by decide) dX4_auctionPriceByTrying_6) <|
  tc (fun p e s m args below meth c cA D A ad0 h => ok_throw h.1 h.2.1 ⟨Nat.le_refl _, Nat.le_refl _⟩ h.2.2.1 (by decide) (by decide) ckRX4_174 niE3 xaE3 xbE3 xcE3 dX4_auctionPriceByTrying_9 dX4_auctionPriceByTrying_12 dX4_auctionPriceByTrying_13 dX4_auctionPriceByTrying_16 (by decide) (by decide)) <|
  tc (fun p e s m args below meth c cA D A ad0 h => ok_iload_n h.1 1 rfl dX4_auctionPriceByTrying_17) <|
  tc (fun p e s m args below meth c cA D A ad0 h => ok_ireturn h.1 h.2.2.2.1 (Or.inl rfl) dX4_auctionPriceByTrying_18) <|
  tn
abbrev cuX4_auctionPriceByTrying : List Nat := [4]
theorem tX4_auctionPriceByTrying_0 (l : Launch) (K : aRs) (X : aXs) : tb (tbX4_auctionPriceByTrying l K X) 0 = sLd 0 1 isR := (rfl)
theorem wX4_auctionPriceByTrying_0 {l : Launch} {K : aRs} {X : aXs} {J : aK} {W : Nat → aK} (hW : isW (tbX4_auctionPriceByTrying l K X) cuX4_auctionPriceByTrying J W) (n : Nat) (ls st : List aV) (μ : aM) (g : Nat) : W (n + 1) 0 ls st μ g = (sLd 0 1 isR) (W n) ls st μ g := (hW n 0 ls st μ g).trans rfl
theorem wX4_auctionPriceByTrying_1 {l : Launch} {K : aRs} {X : aXs} {J : aK} {W : Nat → aK} (hW : isW (tbX4_auctionPriceByTrying l K X) cuX4_auctionPriceByTrying J W) (n : Nat) (ls st : List aV) (μ : aM) (g : Nat) : W (n + 1) 1 ls st μ g = (sCallV 0 4 (fun as μ K => Ct l mdX4_priceByTrying as μ K X) 4 0 1) (W n) ls st μ g := (hW n 1 ls st μ g).trans rfl
theorem tX4_auctionPriceByTrying_4 (l : Launch) (K : aRs) (X : aXs) : tb (tbX4_auctionPriceByTrying l K X) 4 = sSt 1 5 isI := (rfl)
theorem wX4_auctionPriceByTrying_4 {l : Launch} {K : aRs} {X : aXs} {J : aK} {W : Nat → aK} (hW : isW (tbX4_auctionPriceByTrying l K X) cuX4_auctionPriceByTrying J W) (n : Nat) (ls st : List aV) (μ : aM) (g : Nat) : W (n + 1) 4 ls st μ g = J 4 ls st μ g := (hW n 4 ls st μ g).trans rfl
theorem wX4_auctionPriceByTrying_5 {l : Launch} {K : aRs} {X : aXs} {J : aK} {W : Nat → aK} (hW : isW (tbX4_auctionPriceByTrying l K X) cuX4_auctionPriceByTrying J W) (n : Nat) (ls st : List aV) (μ : aM) (g : Nat) : W (n + 1) 5 ls st μ g = (sLd 1 6 isI) (W n) ls st μ g := (hW n 5 ls st μ g).trans rfl
theorem wX4_auctionPriceByTrying_6 {l : Launch} {K : aRs} {X : aXs} {J : aK} {W : Nat → aK} (hW : isW (tbX4_auctionPriceByTrying l K X) cuX4_auctionPriceByTrying J W) (n : Nat) (ls st : List aV) (μ : aM) (g : Nat) : W (n + 1) 6 ls st μ g = (sIf pNe 17 9) (W n) ls st μ g := (hW n 6 ls st μ g).trans rfl
theorem wX4_auctionPriceByTrying_9 {l : Launch} {K : aRs} {X : aXs} {J : aK} {W : Nat → aK} (hW : isW (tbX4_auctionPriceByTrying l K X) cuX4_auctionPriceByTrying J W) (n : Nat) (ls st : List aV) (μ : aM) (g : Nat) : W (n + 1) 9 ls st μ g = (sThrow 3 1 X) (W n) ls st μ g := (hW n 9 ls st μ g).trans rfl
theorem wX4_auctionPriceByTrying_17 {l : Launch} {K : aRs} {X : aXs} {J : aK} {W : Nat → aK} (hW : isW (tbX4_auctionPriceByTrying l K X) cuX4_auctionPriceByTrying J W) (n : Nat) (ls st : List aV) (μ : aM) (g : Nat) : W (n + 1) 17 ls st μ g = (sLd 1 18 isI) (W n) ls st μ g := (hW n 17 ls st μ g).trans rfl
theorem wX4_auctionPriceByTrying_18 {l : Launch} {K : aRs} {X : aXs} {J : aK} {W : Nat → aK} (hW : isW (tbX4_auctionPriceByTrying l K X) cuX4_auctionPriceByTrying J W) (n : Nat) (ls st : List aV) (μ : aM) (g : Nat) : W (n + 1) 18 ls st μ g = (sRetI .int 1 K) (W n) ls st μ g := (hW n 18 ls st μ g).trans rfl
theorem dX4_volumeAt_0 : decode cX4_volumeAt 0 = .ok (.iload_n 1, 1) := by decide +kernel
theorem dX4_volumeAt_1 : decode cX4_volumeAt 1 = .ok (.invokestatic 64, 3) := by decide +kernel
theorem dX4_volumeAt_4 : decode cX4_volumeAt 4 = .ok (.ifCond .ne 11, 3) := by decide +kernel
theorem dX4_volumeAt_7 : decode cX4_volumeAt 7 = .ok (.new 70, 3) := by decide +kernel
theorem dX4_volumeAt_10 : decode cX4_volumeAt 10 = .ok (.dup, 1) := by decide +kernel
theorem dX4_volumeAt_11 : decode cX4_volumeAt 11 = .ok (.invokespecial 72, 3) := by decide +kernel
theorem dX4_volumeAt_14 : decode cX4_volumeAt 14 = .ok (.athrow, 1) := by decide +kernel
theorem dX4_volumeAt_15 : decode cX4_volumeAt 15 = .ok (.aload_n 0, 1) := by decide +kernel
theorem dX4_volumeAt_16 : decode cX4_volumeAt 16 = .ok (.iload_n 1, 1) := by decide +kernel
theorem dX4_volumeAt_17 : decode cX4_volumeAt 17 = .ok (.invokevirtual 133, 3) := by decide +kernel
theorem dX4_volumeAt_20 : decode cX4_volumeAt 20 = .ok (.ireturn, 1) := by decide +kernel
def tbX4_volumeAt (l : Launch) (K : aRs) (X : aXs) : aTb := [
  (0, sLd 1 1 isI),
  (1, sCallS 1 (fun as μ K => Ct l mdX4_isPrice as μ K X) 4 0 1),
  (4, sIf pNe 15 7),
  (7, sThrow 1 1 X),
  (15, sLd 0 16 isR),
  (16, sLd 1 17 isI),
  (17, sCallV 1 4 (fun as μ K => Ct l mdX4_volumeFor as μ K X) 20 0 1),
  (20, sRetI .int 1 K)]
theorem snX4_volumeAt (l : Launch) (K : aRs) (X : aXs) (n0 : Nat) : ∀ q ∈ tbX4_volumeAt l K X, aSo l mdX4_volumeAt K X n0 q.1 q.2 :=
  tc (fun p e s m args below meth c cA D A ad0 h => ok_iload_n h.1 1 rfl dX4_volumeAt_0) <|
  tc (fun p e s m args below meth c cA D A ad0 h => ok_callS h.1 h.2.1 ⟨Nat.le_refl _, Nat.le_refl _⟩ mdX4_isPrice siX4_isPrice mkRX4_64 stX4_isPrice ⟨by decide, by decide⟩ (aAx_out h.1 h.2.2.1 _) dX4_volumeAt_1) <|
  tc (fun p e s m args below meth c cA D A ad0 h => ok_if_ne h.1 15 (by decide) dX4_volumeAt_4) <|
  tc (fun p e s m args below meth c cA D A ad0 h => ok_throw h.1 h.2.1 ⟨Nat.le_refl _, Nat.le_refl _⟩ h.2.2.1 (by decide) (by decide) ckRX4_70 niE1 xaE1 xbE1 xcE1 dX4_volumeAt_7 dX4_volumeAt_10 dX4_volumeAt_11 dX4_volumeAt_14 (by decide) (by decide)) <|
  tc (fun p e s m args below meth c cA D A ad0 h => ok_aload_n h.1 0 rfl dX4_volumeAt_15) <|
  tc (fun p e s m args below meth c cA D A ad0 h => ok_iload_n h.1 1 rfl dX4_volumeAt_16) <|
  tc (fun p e s m args below meth c cA D A ad0 h => ok_callV h.1 h.2.1 ⟨Nat.le_refl _, Nat.le_refl _⟩ mdX4_volumeFor siX4_volumeFor cxX4 mkRX4_133 imX4_volumeFor seX4_volumeFor ⟨by decide, by decide⟩ (aAx_out h.1 h.2.2.1 _) dX4_volumeAt_17) <|
  tc (fun p e s m args below meth c cA D A ad0 h => ok_ireturn h.1 h.2.2.2.1 (Or.inl rfl) dX4_volumeAt_20) <|
  tn
abbrev cuX4_volumeAt : List Nat := [4, 20]
theorem tX4_volumeAt_0 (l : Launch) (K : aRs) (X : aXs) : tb (tbX4_volumeAt l K X) 0 = sLd 1 1 isI := (rfl)
theorem wX4_volumeAt_0 {l : Launch} {K : aRs} {X : aXs} {J : aK} {W : Nat → aK} (hW : isW (tbX4_volumeAt l K X) cuX4_volumeAt J W) (n : Nat) (ls st : List aV) (μ : aM) (g : Nat) : W (n + 1) 0 ls st μ g = (sLd 1 1 isI) (W n) ls st μ g := (hW n 0 ls st μ g).trans rfl
theorem wX4_volumeAt_1 {l : Launch} {K : aRs} {X : aXs} {J : aK} {W : Nat → aK} (hW : isW (tbX4_volumeAt l K X) cuX4_volumeAt J W) (n : Nat) (ls st : List aV) (μ : aM) (g : Nat) : W (n + 1) 1 ls st μ g = (sCallS 1 (fun as μ K => Ct l mdX4_isPrice as μ K X) 4 0 1) (W n) ls st μ g := (hW n 1 ls st μ g).trans rfl
theorem tX4_volumeAt_4 (l : Launch) (K : aRs) (X : aXs) : tb (tbX4_volumeAt l K X) 4 = sIf pNe 15 7 := (rfl)
theorem wX4_volumeAt_4 {l : Launch} {K : aRs} {X : aXs} {J : aK} {W : Nat → aK} (hW : isW (tbX4_volumeAt l K X) cuX4_volumeAt J W) (n : Nat) (ls st : List aV) (μ : aM) (g : Nat) : W (n + 1) 4 ls st μ g = J 4 ls st μ g := (hW n 4 ls st μ g).trans rfl
theorem wX4_volumeAt_7 {l : Launch} {K : aRs} {X : aXs} {J : aK} {W : Nat → aK} (hW : isW (tbX4_volumeAt l K X) cuX4_volumeAt J W) (n : Nat) (ls st : List aV) (μ : aM) (g : Nat) : W (n + 1) 7 ls st μ g = (sThrow 1 1 X) (W n) ls st μ g := (hW n 7 ls st μ g).trans rfl
theorem wX4_volumeAt_15 {l : Launch} {K : aRs} {X : aXs} {J : aK} {W : Nat → aK} (hW : isW (tbX4_volumeAt l K X) cuX4_volumeAt J W) (n : Nat) (ls st : List aV) (μ : aM) (g : Nat) : W (n + 1) 15 ls st μ g = (sLd 0 16 isR) (W n) ls st μ g := (hW n 15 ls st μ g).trans rfl
theorem wX4_volumeAt_16 {l : Launch} {K : aRs} {X : aXs} {J : aK} {W : Nat → aK} (hW : isW (tbX4_volumeAt l K X) cuX4_volumeAt J W) (n : Nat) (ls st : List aV) (μ : aM) (g : Nat) : W (n + 1) 16 ls st μ g = (sLd 1 17 isI) (W n) ls st μ g := (hW n 16 ls st μ g).trans rfl
theorem wX4_volumeAt_17 {l : Launch} {K : aRs} {X : aXs} {J : aK} {W : Nat → aK} (hW : isW (tbX4_volumeAt l K X) cuX4_volumeAt J W) (n : Nat) (ls st : List aV) (μ : aM) (g : Nat) : W (n + 1) 17 ls st μ g = (sCallV 1 4 (fun as μ K => Ct l mdX4_volumeFor as μ K X) 20 0 1) (W n) ls st μ g := (hW n 17 ls st μ g).trans rfl
theorem tX4_volumeAt_20 (l : Launch) (K : aRs) (X : aXs) : tb (tbX4_volumeAt l K X) 20 = sRetI .int 1 K := (rfl)
theorem wX4_volumeAt_20 {l : Launch} {K : aRs} {X : aXs} {J : aK} {W : Nat → aK} (hW : isW (tbX4_volumeAt l K X) cuX4_volumeAt J W) (n : Nat) (ls st : List aV) (μ : aM) (g : Nat) : W (n + 1) 20 ls st μ g = J 20 ls st μ g := (hW n 20 ls st μ g).trans rfl
theorem dX4_tradeCount_0 : decode cX4_tradeCount 0 = .ok (.aload_n 0, 1) := by decide +kernel
theorem dX4_tradeCount_1 : decode cX4_tradeCount 1 = .ok (.getfield 30, 3) := by decide +kernel
theorem dX4_tradeCount_4 : decode cX4_tradeCount 4 = .ok (.getfield 180, 3) := by decide +kernel
theorem dX4_tradeCount_7 : decode cX4_tradeCount 7 = .ok (.ireturn, 1) := by decide +kernel
def tbX4_tradeCount (l : Launch) (K : aRs) (X : aXs) : aTb := [
  (0, sLd 0 1 isR),
  (1, sGetR 4 3 4),
  (4, sGetI 3 4 7),
  (7, sRetI .int 0 K)]
theorem snX4_tradeCount (l : Launch) (K : aRs) (X : aXs) (n0 : Nat) : ∀ q ∈ tbX4_tradeCount l K X, aSo l mdX4_tradeCount K X n0 q.1 q.2 :=
  tc (fun p e s m args below meth c cA D A ad0 h => ok_aload_n h.1 0 rfl dX4_tradeCount_0) <|
  tc (fun p e s m args below meth c cA D A ad0 h => ok_getR h.1 cxX4 (by decide) rfl fkRX4_30 (fun _ _ _ => rfl) dX4_tradeCount_1) <|
  tc (fun p e s m args below meth c cA D A ad0 h => ok_getI h.1 cxX3 (by decide) rfl fkRX4_180 (fun _ _ _ => rfl) dX4_tradeCount_4) <|
  tc (fun p e s m args below meth c cA D A ad0 h => ok_ireturn h.1 h.2.2.2.1 (Or.inl rfl) dX4_tradeCount_7) <|
  tn
abbrev cuX4_tradeCount : List Nat := []
theorem tX4_tradeCount_0 (l : Launch) (K : aRs) (X : aXs) : tb (tbX4_tradeCount l K X) 0 = sLd 0 1 isR := (rfl)
theorem wX4_tradeCount_0 {l : Launch} {K : aRs} {X : aXs} {J : aK} {W : Nat → aK} (hW : isW (tbX4_tradeCount l K X) cuX4_tradeCount J W) (n : Nat) (ls st : List aV) (μ : aM) (g : Nat) : W (n + 1) 0 ls st μ g = (sLd 0 1 isR) (W n) ls st μ g := (hW n 0 ls st μ g).trans rfl
theorem wX4_tradeCount_1 {l : Launch} {K : aRs} {X : aXs} {J : aK} {W : Nat → aK} (hW : isW (tbX4_tradeCount l K X) cuX4_tradeCount J W) (n : Nat) (ls st : List aV) (μ : aM) (g : Nat) : W (n + 1) 1 ls st μ g = (sGetR 4 3 4) (W n) ls st μ g := (hW n 1 ls st μ g).trans rfl
theorem wX4_tradeCount_4 {l : Launch} {K : aRs} {X : aXs} {J : aK} {W : Nat → aK} (hW : isW (tbX4_tradeCount l K X) cuX4_tradeCount J W) (n : Nat) (ls st : List aV) (μ : aM) (g : Nat) : W (n + 1) 4 ls st μ g = (sGetI 3 4 7) (W n) ls st μ g := (hW n 4 ls st μ g).trans rfl
theorem wX4_tradeCount_7 {l : Launch} {K : aRs} {X : aXs} {J : aK} {W : Nat → aK} (hW : isW (tbX4_tradeCount l K X) cuX4_tradeCount J W) (n : Nat) (ls st : List aV) (μ : aM) (g : Nat) : W (n + 1) 7 ls st μ g = (sRetI .int 0 K) (W n) ls st μ g := (hW n 7 ls st μ g).trans rfl
theorem dX4_tradePrice_0 : decode cX4_tradePrice 0 = .ok (.aload_n 0, 1) := by decide +kernel
theorem dX4_tradePrice_1 : decode cX4_tradePrice 1 = .ok (.getfield 30, 3) := by decide +kernel
theorem dX4_tradePrice_4 : decode cX4_tradePrice 4 = .ok (.getfield 183, 3) := by decide +kernel
theorem dX4_tradePrice_7 : decode cX4_tradePrice 7 = .ok (.aload_n 0, 1) := by decide +kernel
theorem dX4_tradePrice_8 : decode cX4_tradePrice 8 = .ok (.iload_n 1, 1) := by decide +kernel
theorem dX4_tradePrice_9 : decode cX4_tradePrice 9 = .ok (.invokevirtual 187, 3) := by decide +kernel
theorem dX4_tradePrice_12 : decode cX4_tradePrice 12 = .ok (.iaload, 1) := by decide +kernel
theorem dX4_tradePrice_13 : decode cX4_tradePrice 13 = .ok (.ireturn, 1) := by decide +kernel
def tbX4_tradePrice (l : Launch) (K : aRs) (X : aXs) : aTb := [
  (0, sLd 0 1 isR),
  (1, sGetR 4 3 4),
  (4, sGetR 3 0 7),
  (7, sLd 0 8 isR),
  (8, sLd 1 9 isI),
  (9, sCallV 1 4 (fun as μ K => Ct l mdX4_knownTrade as μ K X) 12 1 1),
  (12, sAldI 7 13),
  (13, sRetI .int 1 K)]
theorem snX4_tradePrice (l : Launch) (K : aRs) (X : aXs) (n0 : Nat) : ∀ q ∈ tbX4_tradePrice l K X, aSo l mdX4_tradePrice K X n0 q.1 q.2 :=
  tc (fun p e s m args below meth c cA D A ad0 h => ok_aload_n h.1 0 rfl dX4_tradePrice_0) <|
  tc (fun p e s m args below meth c cA D A ad0 h => ok_getR h.1 cxX4 (by decide) rfl fkRX4_30 (fun _ _ _ => rfl) dX4_tradePrice_1) <|
  tc (fun p e s m args below meth c cA D A ad0 h => ok_getR h.1 cxX3 (by decide) rfl fkRX4_183 (fun _ _ _ => rfl) dX4_tradePrice_4) <|
  tc (fun p e s m args below meth c cA D A ad0 h => ok_aload_n h.1 0 rfl dX4_tradePrice_7) <|
  tc (fun p e s m args below meth c cA D A ad0 h => ok_iload_n h.1 1 rfl dX4_tradePrice_8) <|
  tc (fun p e s m args below meth c cA D A ad0 h => ok_callV h.1 h.2.1 ⟨Nat.le_refl _, Nat.le_refl _⟩ mdX4_knownTrade siX4_knownTrade cxX4 mkRX4_187 imX4_knownTrade seX4_knownTrade ⟨by decide, by decide⟩ (aAx_out h.1 h.2.2.1 _) dX4_tradePrice_9) <|
  tc (fun p e s m args below meth c cA D A ad0 h => ok_iald h.1 dX4_tradePrice_12) <|
  tc (fun p e s m args below meth c cA D A ad0 h => ok_ireturn h.1 h.2.2.2.1 (Or.inl rfl) dX4_tradePrice_13) <|
  tn
abbrev cuX4_tradePrice : List Nat := [12]
theorem tX4_tradePrice_0 (l : Launch) (K : aRs) (X : aXs) : tb (tbX4_tradePrice l K X) 0 = sLd 0 1 isR := (rfl)
theorem wX4_tradePrice_0 {l : Launch} {K : aRs} {X : aXs} {J : aK} {W : Nat → aK} (hW : isW (tbX4_tradePrice l K X) cuX4_tradePrice J W) (n : Nat) (ls st : List aV) (μ : aM) (g : Nat) : W (n + 1) 0 ls st μ g = (sLd 0 1 isR) (W n) ls st μ g := (hW n 0 ls st μ g).trans rfl
theorem wX4_tradePrice_1 {l : Launch} {K : aRs} {X : aXs} {J : aK} {W : Nat → aK} (hW : isW (tbX4_tradePrice l K X) cuX4_tradePrice J W) (n : Nat) (ls st : List aV) (μ : aM) (g : Nat) : W (n + 1) 1 ls st μ g = (sGetR 4 3 4) (W n) ls st μ g := (hW n 1 ls st μ g).trans rfl
theorem wX4_tradePrice_4 {l : Launch} {K : aRs} {X : aXs} {J : aK} {W : Nat → aK} (hW : isW (tbX4_tradePrice l K X) cuX4_tradePrice J W) (n : Nat) (ls st : List aV) (μ : aM) (g : Nat) : W (n + 1) 4 ls st μ g = (sGetR 3 0 7) (W n) ls st μ g := (hW n 4 ls st μ g).trans rfl
theorem wX4_tradePrice_7 {l : Launch} {K : aRs} {X : aXs} {J : aK} {W : Nat → aK} (hW : isW (tbX4_tradePrice l K X) cuX4_tradePrice J W) (n : Nat) (ls st : List aV) (μ : aM) (g : Nat) : W (n + 1) 7 ls st μ g = (sLd 0 8 isR) (W n) ls st μ g := (hW n 7 ls st μ g).trans rfl
theorem wX4_tradePrice_8 {l : Launch} {K : aRs} {X : aXs} {J : aK} {W : Nat → aK} (hW : isW (tbX4_tradePrice l K X) cuX4_tradePrice J W) (n : Nat) (ls st : List aV) (μ : aM) (g : Nat) : W (n + 1) 8 ls st μ g = (sLd 1 9 isI) (W n) ls st μ g := (hW n 8 ls st μ g).trans rfl
theorem wX4_tradePrice_9 {l : Launch} {K : aRs} {X : aXs} {J : aK} {W : Nat → aK} (hW : isW (tbX4_tradePrice l K X) cuX4_tradePrice J W) (n : Nat) (ls st : List aV) (μ : aM) (g : Nat) : W (n + 1) 9 ls st μ g = (sCallV 1 4 (fun as μ K => Ct l mdX4_knownTrade as μ K X) 12 1 1) (W n) ls st μ g := (hW n 9 ls st μ g).trans rfl
theorem tX4_tradePrice_12 (l : Launch) (K : aRs) (X : aXs) : tb (tbX4_tradePrice l K X) 12 = sAldI 7 13 := (rfl)
theorem wX4_tradePrice_12 {l : Launch} {K : aRs} {X : aXs} {J : aK} {W : Nat → aK} (hW : isW (tbX4_tradePrice l K X) cuX4_tradePrice J W) (n : Nat) (ls st : List aV) (μ : aM) (g : Nat) : W (n + 1) 12 ls st μ g = J 12 ls st μ g := (hW n 12 ls st μ g).trans rfl
theorem wX4_tradePrice_13 {l : Launch} {K : aRs} {X : aXs} {J : aK} {W : Nat → aK} (hW : isW (tbX4_tradePrice l K X) cuX4_tradePrice J W) (n : Nat) (ls st : List aV) (μ : aM) (g : Nat) : W (n + 1) 13 ls st μ g = (sRetI .int 1 K) (W n) ls st μ g := (hW n 13 ls st μ g).trans rfl
theorem dX4_tradeAmount_0 : decode cX4_tradeAmount 0 = .ok (.aload_n 0, 1) := by decide +kernel
theorem dX4_tradeAmount_1 : decode cX4_tradeAmount 1 = .ok (.getfield 30, 3) := by decide +kernel
theorem dX4_tradeAmount_4 : decode cX4_tradeAmount 4 = .ok (.getfield 190, 3) := by decide +kernel
theorem dX4_tradeAmount_7 : decode cX4_tradeAmount 7 = .ok (.aload_n 0, 1) := by decide +kernel
theorem dX4_tradeAmount_8 : decode cX4_tradeAmount 8 = .ok (.iload_n 1, 1) := by decide +kernel
theorem dX4_tradeAmount_9 : decode cX4_tradeAmount 9 = .ok (.invokevirtual 187, 3) := by decide +kernel
theorem dX4_tradeAmount_12 : decode cX4_tradeAmount 12 = .ok (.iaload, 1) := by decide +kernel
theorem dX4_tradeAmount_13 : decode cX4_tradeAmount 13 = .ok (.ireturn, 1) := by decide +kernel
def tbX4_tradeAmount (l : Launch) (K : aRs) (X : aXs) : aTb := [
  (0, sLd 0 1 isR),
  (1, sGetR 4 3 4),
  (4, sGetR 3 1 7),
  (7, sLd 0 8 isR),
  (8, sLd 1 9 isI),
  (9, sCallV 1 4 (fun as μ K => Ct l mdX4_knownTrade as μ K X) 12 1 1),
  (12, sAldI 7 13),
  (13, sRetI .int 1 K)]
theorem snX4_tradeAmount (l : Launch) (K : aRs) (X : aXs) (n0 : Nat) : ∀ q ∈ tbX4_tradeAmount l K X, aSo l mdX4_tradeAmount K X n0 q.1 q.2 :=
  tc (fun p e s m args below meth c cA D A ad0 h => ok_aload_n h.1 0 rfl dX4_tradeAmount_0) <|
  tc (fun p e s m args below meth c cA D A ad0 h => ok_getR h.1 cxX4 (by decide) rfl fkRX4_30 (fun _ _ _ => rfl) dX4_tradeAmount_1) <|
  tc (fun p e s m args below meth c cA D A ad0 h => ok_getR h.1 cxX3 (by decide) rfl fkRX4_190 (fun _ _ _ => rfl) dX4_tradeAmount_4) <|
  tc (fun p e s m args below meth c cA D A ad0 h => ok_aload_n h.1 0 rfl dX4_tradeAmount_7) <|
  tc (fun p e s m args below meth c cA D A ad0 h => ok_iload_n h.1 1 rfl dX4_tradeAmount_8) <|
  tc (fun p e s m args below meth c cA D A ad0 h => ok_callV h.1 h.2.1 ⟨Nat.le_refl _, Nat.le_refl _⟩ mdX4_knownTrade siX4_knownTrade cxX4 mkRX4_187 imX4_knownTrade seX4_knownTrade ⟨by decide, by decide⟩ (aAx_out h.1 h.2.2.1 _) dX4_tradeAmount_9) <|
  tc (fun p e s m args below meth c cA D A ad0 h => ok_iald h.1 dX4_tradeAmount_12) <|
  tc (fun p e s m args below meth c cA D A ad0 h => ok_ireturn h.1 h.2.2.2.1 (Or.inl rfl) dX4_tradeAmount_13) <|
  tn
abbrev cuX4_tradeAmount : List Nat := [12]
theorem tX4_tradeAmount_0 (l : Launch) (K : aRs) (X : aXs) : tb (tbX4_tradeAmount l K X) 0 = sLd 0 1 isR := (rfl)
theorem wX4_tradeAmount_0 {l : Launch} {K : aRs} {X : aXs} {J : aK} {W : Nat → aK} (hW : isW (tbX4_tradeAmount l K X) cuX4_tradeAmount J W) (n : Nat) (ls st : List aV) (μ : aM) (g : Nat) : W (n + 1) 0 ls st μ g = (sLd 0 1 isR) (W n) ls st μ g := (hW n 0 ls st μ g).trans rfl
theorem wX4_tradeAmount_1 {l : Launch} {K : aRs} {X : aXs} {J : aK} {W : Nat → aK} (hW : isW (tbX4_tradeAmount l K X) cuX4_tradeAmount J W) (n : Nat) (ls st : List aV) (μ : aM) (g : Nat) : W (n + 1) 1 ls st μ g = (sGetR 4 3 4) (W n) ls st μ g := (hW n 1 ls st μ g).trans rfl
theorem wX4_tradeAmount_4 {l : Launch} {K : aRs} {X : aXs} {J : aK} {W : Nat → aK} (hW : isW (tbX4_tradeAmount l K X) cuX4_tradeAmount J W) (n : Nat) (ls st : List aV) (μ : aM) (g : Nat) : W (n + 1) 4 ls st μ g = (sGetR 3 1 7) (W n) ls st μ g := (hW n 4 ls st μ g).trans rfl
theorem wX4_tradeAmount_7 {l : Launch} {K : aRs} {X : aXs} {J : aK} {W : Nat → aK} (hW : isW (tbX4_tradeAmount l K X) cuX4_tradeAmount J W) (n : Nat) (ls st : List aV) (μ : aM) (g : Nat) : W (n + 1) 7 ls st μ g = (sLd 0 8 isR) (W n) ls st μ g := (hW n 7 ls st μ g).trans rfl
theorem wX4_tradeAmount_8 {l : Launch} {K : aRs} {X : aXs} {J : aK} {W : Nat → aK} (hW : isW (tbX4_tradeAmount l K X) cuX4_tradeAmount J W) (n : Nat) (ls st : List aV) (μ : aM) (g : Nat) : W (n + 1) 8 ls st μ g = (sLd 1 9 isI) (W n) ls st μ g := (hW n 8 ls st μ g).trans rfl
theorem wX4_tradeAmount_9 {l : Launch} {K : aRs} {X : aXs} {J : aK} {W : Nat → aK} (hW : isW (tbX4_tradeAmount l K X) cuX4_tradeAmount J W) (n : Nat) (ls st : List aV) (μ : aM) (g : Nat) : W (n + 1) 9 ls st μ g = (sCallV 1 4 (fun as μ K => Ct l mdX4_knownTrade as μ K X) 12 1 1) (W n) ls st μ g := (hW n 9 ls st μ g).trans rfl
theorem tX4_tradeAmount_12 (l : Launch) (K : aRs) (X : aXs) : tb (tbX4_tradeAmount l K X) 12 = sAldI 7 13 := (rfl)
theorem wX4_tradeAmount_12 {l : Launch} {K : aRs} {X : aXs} {J : aK} {W : Nat → aK} (hW : isW (tbX4_tradeAmount l K X) cuX4_tradeAmount J W) (n : Nat) (ls st : List aV) (μ : aM) (g : Nat) : W (n + 1) 12 ls st μ g = J 12 ls st μ g := (hW n 12 ls st μ g).trans rfl
theorem wX4_tradeAmount_13 {l : Launch} {K : aRs} {X : aXs} {J : aK} {W : Nat → aK} (hW : isW (tbX4_tradeAmount l K X) cuX4_tradeAmount J W) (n : Nat) (ls st : List aV) (μ : aM) (g : Nat) : W (n + 1) 13 ls st μ g = (sRetI .int 1 K) (W n) ls st μ g := (hW n 13 ls st μ g).trans rfl
theorem dX4_tradeBuyer_0 : decode cX4_tradeBuyer 0 = .ok (.aload_n 0, 1) := by decide +kernel
theorem dX4_tradeBuyer_1 : decode cX4_tradeBuyer 1 = .ok (.getfield 30, 3) := by decide +kernel
theorem dX4_tradeBuyer_4 : decode cX4_tradeBuyer 4 = .ok (.getfield 193, 3) := by decide +kernel
theorem dX4_tradeBuyer_7 : decode cX4_tradeBuyer 7 = .ok (.aload_n 0, 1) := by decide +kernel
theorem dX4_tradeBuyer_8 : decode cX4_tradeBuyer 8 = .ok (.iload_n 1, 1) := by decide +kernel
theorem dX4_tradeBuyer_9 : decode cX4_tradeBuyer 9 = .ok (.invokevirtual 187, 3) := by decide +kernel
theorem dX4_tradeBuyer_12 : decode cX4_tradeBuyer 12 = .ok (.iaload, 1) := by decide +kernel
theorem dX4_tradeBuyer_13 : decode cX4_tradeBuyer 13 = .ok (.ireturn, 1) := by decide +kernel
def tbX4_tradeBuyer (l : Launch) (K : aRs) (X : aXs) : aTb := [
  (0, sLd 0 1 isR),
  (1, sGetR 4 3 4),
  (4, sGetR 3 2 7),
  (7, sLd 0 8 isR),
  (8, sLd 1 9 isI),
  (9, sCallV 1 4 (fun as μ K => Ct l mdX4_knownTrade as μ K X) 12 1 1),
  (12, sAldI 7 13),
  (13, sRetI .int 1 K)]
theorem snX4_tradeBuyer (l : Launch) (K : aRs) (X : aXs) (n0 : Nat) : ∀ q ∈ tbX4_tradeBuyer l K X, aSo l mdX4_tradeBuyer K X n0 q.1 q.2 :=
  tc (fun p e s m args below meth c cA D A ad0 h => ok_aload_n h.1 0 rfl dX4_tradeBuyer_0) <|
  tc (fun p e s m args below meth c cA D A ad0 h => ok_getR h.1 cxX4 (by decide) rfl fkRX4_30 (fun _ _ _ => rfl) dX4_tradeBuyer_1) <|
  tc (fun p e s m args below meth c cA D A ad0 h => ok_getR h.1 cxX3 (by decide) rfl fkRX4_193 (fun _ _ _ => rfl) dX4_tradeBuyer_4) <|
  tc (fun p e s m args below meth c cA D A ad0 h => ok_aload_n h.1 0 rfl dX4_tradeBuyer_7) <|
  tc (fun p e s m args below meth c cA D A ad0 h => ok_iload_n h.1 1 rfl dX4_tradeBuyer_8) <|
  tc (fun p e s m args below meth c cA D A ad0 h => ok_callV h.1 h.2.1 ⟨Nat.le_refl _, Nat.le_refl _⟩ mdX4_knownTrade siX4_knownTrade cxX4 mkRX4_187 imX4_knownTrade seX4_knownTrade ⟨by decide, by decide⟩ (aAx_out h.1 h.2.2.1 _) dX4_tradeBuyer_9) <|
  tc (fun p e s m args below meth c cA D A ad0 h => ok_iald h.1 dX4_tradeBuyer_12) <|
  tc (fun p e s m args below meth c cA D A ad0 h => ok_ireturn h.1 h.2.2.2.1 (Or.inl rfl) dX4_tradeBuyer_13) <|
  tn
abbrev cuX4_tradeBuyer : List Nat := [12]
theorem tX4_tradeBuyer_0 (l : Launch) (K : aRs) (X : aXs) : tb (tbX4_tradeBuyer l K X) 0 = sLd 0 1 isR := (rfl)
theorem wX4_tradeBuyer_0 {l : Launch} {K : aRs} {X : aXs} {J : aK} {W : Nat → aK} (hW : isW (tbX4_tradeBuyer l K X) cuX4_tradeBuyer J W) (n : Nat) (ls st : List aV) (μ : aM) (g : Nat) : W (n + 1) 0 ls st μ g = (sLd 0 1 isR) (W n) ls st μ g := (hW n 0 ls st μ g).trans rfl
theorem wX4_tradeBuyer_1 {l : Launch} {K : aRs} {X : aXs} {J : aK} {W : Nat → aK} (hW : isW (tbX4_tradeBuyer l K X) cuX4_tradeBuyer J W) (n : Nat) (ls st : List aV) (μ : aM) (g : Nat) : W (n + 1) 1 ls st μ g = (sGetR 4 3 4) (W n) ls st μ g := (hW n 1 ls st μ g).trans rfl
theorem wX4_tradeBuyer_4 {l : Launch} {K : aRs} {X : aXs} {J : aK} {W : Nat → aK} (hW : isW (tbX4_tradeBuyer l K X) cuX4_tradeBuyer J W) (n : Nat) (ls st : List aV) (μ : aM) (g : Nat) : W (n + 1) 4 ls st μ g = (sGetR 3 2 7) (W n) ls st μ g := (hW n 4 ls st μ g).trans rfl
theorem wX4_tradeBuyer_7 {l : Launch} {K : aRs} {X : aXs} {J : aK} {W : Nat → aK} (hW : isW (tbX4_tradeBuyer l K X) cuX4_tradeBuyer J W) (n : Nat) (ls st : List aV) (μ : aM) (g : Nat) : W (n + 1) 7 ls st μ g = (sLd 0 8 isR) (W n) ls st μ g := (hW n 7 ls st μ g).trans rfl
theorem wX4_tradeBuyer_8 {l : Launch} {K : aRs} {X : aXs} {J : aK} {W : Nat → aK} (hW : isW (tbX4_tradeBuyer l K X) cuX4_tradeBuyer J W) (n : Nat) (ls st : List aV) (μ : aM) (g : Nat) : W (n + 1) 8 ls st μ g = (sLd 1 9 isI) (W n) ls st μ g := (hW n 8 ls st μ g).trans rfl
theorem wX4_tradeBuyer_9 {l : Launch} {K : aRs} {X : aXs} {J : aK} {W : Nat → aK} (hW : isW (tbX4_tradeBuyer l K X) cuX4_tradeBuyer J W) (n : Nat) (ls st : List aV) (μ : aM) (g : Nat) : W (n + 1) 9 ls st μ g = (sCallV 1 4 (fun as μ K => Ct l mdX4_knownTrade as μ K X) 12 1 1) (W n) ls st μ g := (hW n 9 ls st μ g).trans rfl
theorem tX4_tradeBuyer_12 (l : Launch) (K : aRs) (X : aXs) : tb (tbX4_tradeBuyer l K X) 12 = sAldI 7 13 := (rfl)
theorem wX4_tradeBuyer_12 {l : Launch} {K : aRs} {X : aXs} {J : aK} {W : Nat → aK} (hW : isW (tbX4_tradeBuyer l K X) cuX4_tradeBuyer J W) (n : Nat) (ls st : List aV) (μ : aM) (g : Nat) : W (n + 1) 12 ls st μ g = J 12 ls st μ g := (hW n 12 ls st μ g).trans rfl
theorem wX4_tradeBuyer_13 {l : Launch} {K : aRs} {X : aXs} {J : aK} {W : Nat → aK} (hW : isW (tbX4_tradeBuyer l K X) cuX4_tradeBuyer J W) (n : Nat) (ls st : List aV) (μ : aM) (g : Nat) : W (n + 1) 13 ls st μ g = (sRetI .int 1 K) (W n) ls st μ g := (hW n 13 ls st μ g).trans rfl
theorem dX4_tradeSeller_0 : decode cX4_tradeSeller 0 = .ok (.aload_n 0, 1) := by decide +kernel
theorem dX4_tradeSeller_1 : decode cX4_tradeSeller 1 = .ok (.getfield 30, 3) := by decide +kernel
theorem dX4_tradeSeller_4 : decode cX4_tradeSeller 4 = .ok (.getfield 195, 3) := by decide +kernel
theorem dX4_tradeSeller_7 : decode cX4_tradeSeller 7 = .ok (.aload_n 0, 1) := by decide +kernel
theorem dX4_tradeSeller_8 : decode cX4_tradeSeller 8 = .ok (.iload_n 1, 1) := by decide +kernel
theorem dX4_tradeSeller_9 : decode cX4_tradeSeller 9 = .ok (.invokevirtual 187, 3) := by decide +kernel
theorem dX4_tradeSeller_12 : decode cX4_tradeSeller 12 = .ok (.iaload, 1) := by decide +kernel
theorem dX4_tradeSeller_13 : decode cX4_tradeSeller 13 = .ok (.ireturn, 1) := by decide +kernel
def tbX4_tradeSeller (l : Launch) (K : aRs) (X : aXs) : aTb := [
  (0, sLd 0 1 isR),
  (1, sGetR 4 3 4),
  (4, sGetR 3 3 7),
  (7, sLd 0 8 isR),
  (8, sLd 1 9 isI),
  (9, sCallV 1 4 (fun as μ K => Ct l mdX4_knownTrade as μ K X) 12 1 1),
  (12, sAldI 7 13),
  (13, sRetI .int 1 K)]
theorem snX4_tradeSeller (l : Launch) (K : aRs) (X : aXs) (n0 : Nat) : ∀ q ∈ tbX4_tradeSeller l K X, aSo l mdX4_tradeSeller K X n0 q.1 q.2 :=
  tc (fun p e s m args below meth c cA D A ad0 h => ok_aload_n h.1 0 rfl dX4_tradeSeller_0) <|
  tc (fun p e s m args below meth c cA D A ad0 h => ok_getR h.1 cxX4 (by decide) rfl fkRX4_30 (fun _ _ _ => rfl) dX4_tradeSeller_1) <|
  tc (fun p e s m args below meth c cA D A ad0 h => ok_getR h.1 cxX3 (by decide) rfl fkRX4_195 (fun _ _ _ => rfl) dX4_tradeSeller_4) <|
  tc (fun p e s m args below meth c cA D A ad0 h => ok_aload_n h.1 0 rfl dX4_tradeSeller_7) <|
  tc (fun p e s m args below meth c cA D A ad0 h => ok_iload_n h.1 1 rfl dX4_tradeSeller_8) <|
  tc (fun p e s m args below meth c cA D A ad0 h => ok_callV h.1 h.2.1 ⟨Nat.le_refl _, Nat.le_refl _⟩ mdX4_knownTrade siX4_knownTrade cxX4 mkRX4_187 imX4_knownTrade seX4_knownTrade ⟨by decide, by decide⟩ (aAx_out h.1 h.2.2.1 _) dX4_tradeSeller_9) <|
  tc (fun p e s m args below meth c cA D A ad0 h => ok_iald h.1 dX4_tradeSeller_12) <|
  tc (fun p e s m args below meth c cA D A ad0 h => ok_ireturn h.1 h.2.2.2.1 (Or.inl rfl) dX4_tradeSeller_13) <|
  tn
abbrev cuX4_tradeSeller : List Nat := [12]
theorem tX4_tradeSeller_0 (l : Launch) (K : aRs) (X : aXs) : tb (tbX4_tradeSeller l K X) 0 = sLd 0 1 isR := (rfl)
theorem wX4_tradeSeller_0 {l : Launch} {K : aRs} {X : aXs} {J : aK} {W : Nat → aK} (hW : isW (tbX4_tradeSeller l K X) cuX4_tradeSeller J W) (n : Nat) (ls st : List aV) (μ : aM) (g : Nat) : W (n + 1) 0 ls st μ g = (sLd 0 1 isR) (W n) ls st μ g := (hW n 0 ls st μ g).trans rfl
theorem wX4_tradeSeller_1 {l : Launch} {K : aRs} {X : aXs} {J : aK} {W : Nat → aK} (hW : isW (tbX4_tradeSeller l K X) cuX4_tradeSeller J W) (n : Nat) (ls st : List aV) (μ : aM) (g : Nat) : W (n + 1) 1 ls st μ g = (sGetR 4 3 4) (W n) ls st μ g := (hW n 1 ls st μ g).trans rfl
theorem wX4_tradeSeller_4 {l : Launch} {K : aRs} {X : aXs} {J : aK} {W : Nat → aK} (hW : isW (tbX4_tradeSeller l K X) cuX4_tradeSeller J W) (n : Nat) (ls st : List aV) (μ : aM) (g : Nat) : W (n + 1) 4 ls st μ g = (sGetR 3 3 7) (W n) ls st μ g := (hW n 4 ls st μ g).trans rfl
theorem wX4_tradeSeller_7 {l : Launch} {K : aRs} {X : aXs} {J : aK} {W : Nat → aK} (hW : isW (tbX4_tradeSeller l K X) cuX4_tradeSeller J W) (n : Nat) (ls st : List aV) (μ : aM) (g : Nat) : W (n + 1) 7 ls st μ g = (sLd 0 8 isR) (W n) ls st μ g := (hW n 7 ls st μ g).trans rfl
theorem wX4_tradeSeller_8 {l : Launch} {K : aRs} {X : aXs} {J : aK} {W : Nat → aK} (hW : isW (tbX4_tradeSeller l K X) cuX4_tradeSeller J W) (n : Nat) (ls st : List aV) (μ : aM) (g : Nat) : W (n + 1) 8 ls st μ g = (sLd 1 9 isI) (W n) ls st μ g := (hW n 8 ls st μ g).trans rfl
theorem wX4_tradeSeller_9 {l : Launch} {K : aRs} {X : aXs} {J : aK} {W : Nat → aK} (hW : isW (tbX4_tradeSeller l K X) cuX4_tradeSeller J W) (n : Nat) (ls st : List aV) (μ : aM) (g : Nat) : W (n + 1) 9 ls st μ g = (sCallV 1 4 (fun as μ K => Ct l mdX4_knownTrade as μ K X) 12 1 1) (W n) ls st μ g := (hW n 9 ls st μ g).trans rfl
theorem tX4_tradeSeller_12 (l : Launch) (K : aRs) (X : aXs) : tb (tbX4_tradeSeller l K X) 12 = sAldI 7 13 := (rfl)
theorem wX4_tradeSeller_12 {l : Launch} {K : aRs} {X : aXs} {J : aK} {W : Nat → aK} (hW : isW (tbX4_tradeSeller l K X) cuX4_tradeSeller J W) (n : Nat) (ls st : List aV) (μ : aM) (g : Nat) : W (n + 1) 12 ls st μ g = J 12 ls st μ g := (hW n 12 ls st μ g).trans rfl
theorem wX4_tradeSeller_13 {l : Launch} {K : aRs} {X : aXs} {J : aK} {W : Nat → aK} (hW : isW (tbX4_tradeSeller l K X) cuX4_tradeSeller J W) (n : Nat) (ls st : List aV) (μ : aM) (g : Nat) : W (n + 1) 13 ls st μ g = (sRetI .int 1 K) (W n) ls st μ g := (hW n 13 ls st μ g).trans rfl
theorem dX4_volume_0 : decode cX4_volume 0 = .ok (.aload_n 0, 1) := by decide +kernel
theorem dX4_volume_1 : decode cX4_volume 1 = .ok (.getfield 30, 3) := by decide +kernel
theorem dX4_volume_4 : decode cX4_volume 4 = .ok (.getfield 197, 3) := by decide +kernel
theorem dX4_volume_7 : decode cX4_volume 7 = .ok (.lreturn, 1) := by decide +kernel
def tbX4_volume (l : Launch) (K : aRs) (X : aXs) : aTb := [
  (0, sLd 0 1 isR),
  (1, sGetR 4 3 4),
  (4, sGetL 3 6 7),
  (7, sRetL 0 K)]
theorem snX4_volume (l : Launch) (K : aRs) (X : aXs) (n0 : Nat) : ∀ q ∈ tbX4_volume l K X, aSo l mdX4_volume K X n0 q.1 q.2 :=
  tc (fun p e s m args below meth c cA D A ad0 h => ok_aload_n h.1 0 rfl dX4_volume_0) <|
  tc (fun p e s m args below meth c cA D A ad0 h => ok_getR h.1 cxX4 (by decide) rfl fkRX4_30 (fun _ _ _ => rfl) dX4_volume_1) <|
  tc (fun p e s m args below meth c cA D A ad0 h => ok_getL h.1 cxX3 (by decide) rfl fkRX4_197 (fun _ _ _ => rfl) dX4_volume_4) <|
  tc (fun p e s m args below meth c cA D A ad0 h => ok_lreturn h.1 h.2.2.2.1 dX4_volume_7) <|
  tn
abbrev cuX4_volume : List Nat := []
theorem tX4_volume_0 (l : Launch) (K : aRs) (X : aXs) : tb (tbX4_volume l K X) 0 = sLd 0 1 isR := (rfl)
theorem wX4_volume_0 {l : Launch} {K : aRs} {X : aXs} {J : aK} {W : Nat → aK} (hW : isW (tbX4_volume l K X) cuX4_volume J W) (n : Nat) (ls st : List aV) (μ : aM) (g : Nat) : W (n + 1) 0 ls st μ g = (sLd 0 1 isR) (W n) ls st μ g := (hW n 0 ls st μ g).trans rfl
theorem wX4_volume_1 {l : Launch} {K : aRs} {X : aXs} {J : aK} {W : Nat → aK} (hW : isW (tbX4_volume l K X) cuX4_volume J W) (n : Nat) (ls st : List aV) (μ : aM) (g : Nat) : W (n + 1) 1 ls st μ g = (sGetR 4 3 4) (W n) ls st μ g := (hW n 1 ls st μ g).trans rfl
theorem wX4_volume_4 {l : Launch} {K : aRs} {X : aXs} {J : aK} {W : Nat → aK} (hW : isW (tbX4_volume l K X) cuX4_volume J W) (n : Nat) (ls st : List aV) (μ : aM) (g : Nat) : W (n + 1) 4 ls st μ g = (sGetL 3 6 7) (W n) ls st μ g := (hW n 4 ls st μ g).trans rfl
theorem wX4_volume_7 {l : Launch} {K : aRs} {X : aXs} {J : aK} {W : Nat → aK} (hW : isW (tbX4_volume l K X) cuX4_volume J W) (n : Nat) (ls st : List aV) (μ : aM) (g : Nat) : W (n + 1) 7 ls st μ g = (sRetL 0 K) (W n) ls st μ g := (hW n 7 ls st μ g).trans rfl
theorem dX4_meanPrice_0 : decode cX4_meanPrice 0 = .ok (.aload_n 0, 1) := by decide +kernel
theorem dX4_meanPrice_1 : decode cX4_meanPrice 1 = .ok (.getfield 30, 3) := by decide +kernel
theorem dX4_meanPrice_4 : decode cX4_meanPrice 4 = .ok (.getfield 197, 3) := by decide +kernel
theorem dX4_meanPrice_7 : decode cX4_meanPrice 7 = .ok (.lconst 0, 1) := by decide +kernel
theorem dX4_meanPrice_8 : decode cX4_meanPrice 8 = .ok (.lcmp, 1) := by decide +kernel
theorem dX4_meanPrice_9 : decode cX4_meanPrice 9 = .ok (.ifCond .ne 11, 3) := by decide +kernel
theorem dX4_meanPrice_12 : decode cX4_meanPrice 12 = .ok (.new 201, 3) := by decide +kernel
theorem dX4_meanPrice_15 : decode cX4_meanPrice 15 = .ok (.dup, 1) := by decide +kernel
theorem dX4_meanPrice_16 : decode cX4_meanPrice 16 = .ok (.invokespecial 203, 3) := by decide +kernel
theorem dX4_meanPrice_19 : decode cX4_meanPrice 19 = .ok (.athrow, 1) := by decide +kernel
theorem dX4_meanPrice_20 : decode cX4_meanPrice 20 = .ok (.aload_n 0, 1) := by decide +kernel
theorem dX4_meanPrice_21 : decode cX4_meanPrice 21 = .ok (.getfield 30, 3) := by decide +kernel
theorem dX4_meanPrice_24 : decode cX4_meanPrice 24 = .ok (.getfield 204, 3) := by decide +kernel
theorem dX4_meanPrice_27 : decode cX4_meanPrice 27 = .ok (.l2d, 1) := by decide +kernel
theorem dX4_meanPrice_28 : decode cX4_meanPrice 28 = .ok (.aload_n 0, 1) := by decide +kernel
theorem dX4_meanPrice_29 : decode cX4_meanPrice 29 = .ok (.getfield 30, 3) := by decide +kernel
theorem dX4_meanPrice_32 : decode cX4_meanPrice 32 = .ok (.getfield 197, 3) := by decide +kernel
theorem dX4_meanPrice_35 : decode cX4_meanPrice 35 = .ok (.l2d, 1) := by decide +kernel
theorem dX4_meanPrice_36 : decode cX4_meanPrice 36 = .ok (.ddiv, 1) := by decide +kernel
theorem dX4_meanPrice_37 : decode cX4_meanPrice 37 = .ok (.dreturn, 1) := by decide +kernel
def tbX4_meanPrice (l : Launch) (K : aRs) (X : aXs) : aTb := [
  (0, sLd 0 1 isR),
  (1, sGetR 4 3 4),
  (4, sGetL 3 6 7),
  (7, sPush (aL 0) 8),
  (8, sLcmp 9),
  (9, sIf pNe 20 12),
  (12, sThrow 5 1 X),
  (20, sLd 0 21 isR),
  (21, sGetR 4 3 24),
  (24, sGetL 3 7 27),
  (27, sL2d 28),
  (28, sLd 0 29 isR),
  (29, sGetR 4 3 32),
  (32, sGetL 3 6 35),
  (35, sL2d 36),
  (36, sDdiv 37),
  (37, sRetD 1 K)]
theorem snX4_meanPrice (l : Launch) (K : aRs) (X : aXs) (n0 : Nat) : ∀ q ∈ tbX4_meanPrice l K X, aSo l mdX4_meanPrice K X n0 q.1 q.2 :=
  tc (fun p e s m args below meth c cA D A ad0 h => ok_aload_n h.1 0 rfl dX4_meanPrice_0) <|
  tc (fun p e s m args below meth c cA D A ad0 h => ok_getR h.1 cxX4 (by decide) rfl fkRX4_30 (fun _ _ _ => rfl) dX4_meanPrice_1) <|
  tc (fun p e s m args below meth c cA D A ad0 h => ok_getL h.1 cxX3 (by decide) rfl fkRX4_197 (fun _ _ _ => rfl) dX4_meanPrice_4) <|
  tc (fun p e s m args below meth c cA D A ad0 h => ok_lconst h.1 dX4_meanPrice_7) <|
  tc (fun p e s m args below meth c cA D A ad0 h => ok_lcmp h.1 dX4_meanPrice_8) <|
  tc (fun p e s m args below meth c cA D A ad0 h => ok_if_ne h.1 20 (by decide) dX4_meanPrice_9) <|
  tc (fun p e s m args below meth c cA D A ad0 h => ok_throw h.1 h.2.1 ⟨Nat.le_refl _, Nat.le_refl _⟩ h.2.2.1 (by decide) (by decide) ckRX4_201 niE5 xaE5 xbE5 xcE5 dX4_meanPrice_12 dX4_meanPrice_15 dX4_meanPrice_16 dX4_meanPrice_19 (by decide) (by decide)) <|
  tc (fun p e s m args below meth c cA D A ad0 h => ok_aload_n h.1 0 rfl dX4_meanPrice_20) <|
  tc (fun p e s m args below meth c cA D A ad0 h => ok_getR h.1 cxX4 (by decide) rfl fkRX4_30 (fun _ _ _ => rfl) dX4_meanPrice_21) <|
  tc (fun p e s m args below meth c cA D A ad0 h => ok_getL h.1 cxX3 (by decide) rfl fkRX4_204 (fun _ _ _ => rfl) dX4_meanPrice_24) <|
  tc (fun p e s m args below meth c cA D A ad0 h => ok_l2d h.1 dX4_meanPrice_27) <|
  tc (fun p e s m args below meth c cA D A ad0 h => ok_aload_n h.1 0 rfl dX4_meanPrice_28) <|
  tc (fun p e s m args below meth c cA D A ad0 h => ok_getR h.1 cxX4 (by decide) rfl fkRX4_30 (fun _ _ _ => rfl) dX4_meanPrice_29) <|
  tc (fun p e s m args below meth c cA D A ad0 h => ok_getL h.1 cxX3 (by decide) rfl fkRX4_197 (fun _ _ _ => rfl) dX4_meanPrice_32) <|
  tc (fun p e s m args below meth c cA D A ad0 h => ok_l2d h.1 dX4_meanPrice_35) <|
  tc (fun p e s m args below meth c cA D A ad0 h => ok_ddiv h.1 dX4_meanPrice_36) <|
  tc (fun p e s m args below meth c cA D A ad0 h => ok_dreturn h.1 h.2.2.2.1 dX4_meanPrice_37) <|
  tn
abbrev cuX4_meanPrice : List Nat := []
theorem tX4_meanPrice_0 (l : Launch) (K : aRs) (X : aXs) : tb (tbX4_meanPrice l K X) 0 = sLd 0 1 isR := (rfl)
theorem wX4_meanPrice_0 {l : Launch} {K : aRs} {X : aXs} {J : aK} {W : Nat → aK} (hW : isW (tbX4_meanPrice l K X) cuX4_meanPrice J W) (n : Nat) (ls st : List aV) (μ : aM) (g : Nat) : W (n + 1) 0 ls st μ g = (sLd 0 1 isR) (W n) ls st μ g := (hW n 0 ls st μ g).trans rfl
theorem wX4_meanPrice_1 {l : Launch} {K : aRs} {X : aXs} {J : aK} {W : Nat → aK} (hW : isW (tbX4_meanPrice l K X) cuX4_meanPrice J W) (n : Nat) (ls st : List aV) (μ : aM) (g : Nat) : W (n + 1) 1 ls st μ g = (sGetR 4 3 4) (W n) ls st μ g := (hW n 1 ls st μ g).trans rfl
theorem wX4_meanPrice_4 {l : Launch} {K : aRs} {X : aXs} {J : aK} {W : Nat → aK} (hW : isW (tbX4_meanPrice l K X) cuX4_meanPrice J W) (n : Nat) (ls st : List aV) (μ : aM) (g : Nat) : W (n + 1) 4 ls st μ g = (sGetL 3 6 7) (W n) ls st μ g := (hW n 4 ls st μ g).trans rfl
theorem wX4_meanPrice_7 {l : Launch} {K : aRs} {X : aXs} {J : aK} {W : Nat → aK} (hW : isW (tbX4_meanPrice l K X) cuX4_meanPrice J W) (n : Nat) (ls st : List aV) (μ : aM) (g : Nat) : W (n + 1) 7 ls st μ g = (sPush (aL 0) 8) (W n) ls st μ g := (hW n 7 ls st μ g).trans rfl
theorem wX4_meanPrice_8 {l : Launch} {K : aRs} {X : aXs} {J : aK} {W : Nat → aK} (hW : isW (tbX4_meanPrice l K X) cuX4_meanPrice J W) (n : Nat) (ls st : List aV) (μ : aM) (g : Nat) : W (n + 1) 8 ls st μ g = (sLcmp 9) (W n) ls st μ g := (hW n 8 ls st μ g).trans rfl
theorem wX4_meanPrice_9 {l : Launch} {K : aRs} {X : aXs} {J : aK} {W : Nat → aK} (hW : isW (tbX4_meanPrice l K X) cuX4_meanPrice J W) (n : Nat) (ls st : List aV) (μ : aM) (g : Nat) : W (n + 1) 9 ls st μ g = (sIf pNe 20 12) (W n) ls st μ g := (hW n 9 ls st μ g).trans rfl
theorem wX4_meanPrice_12 {l : Launch} {K : aRs} {X : aXs} {J : aK} {W : Nat → aK} (hW : isW (tbX4_meanPrice l K X) cuX4_meanPrice J W) (n : Nat) (ls st : List aV) (μ : aM) (g : Nat) : W (n + 1) 12 ls st μ g = (sThrow 5 1 X) (W n) ls st μ g := (hW n 12 ls st μ g).trans rfl
theorem wX4_meanPrice_20 {l : Launch} {K : aRs} {X : aXs} {J : aK} {W : Nat → aK} (hW : isW (tbX4_meanPrice l K X) cuX4_meanPrice J W) (n : Nat) (ls st : List aV) (μ : aM) (g : Nat) : W (n + 1) 20 ls st μ g = (sLd 0 21 isR) (W n) ls st μ g := (hW n 20 ls st μ g).trans rfl
theorem wX4_meanPrice_21 {l : Launch} {K : aRs} {X : aXs} {J : aK} {W : Nat → aK} (hW : isW (tbX4_meanPrice l K X) cuX4_meanPrice J W) (n : Nat) (ls st : List aV) (μ : aM) (g : Nat) : W (n + 1) 21 ls st μ g = (sGetR 4 3 24) (W n) ls st μ g := (hW n 21 ls st μ g).trans rfl
theorem wX4_meanPrice_24 {l : Launch} {K : aRs} {X : aXs} {J : aK} {W : Nat → aK} (hW : isW (tbX4_meanPrice l K X) cuX4_meanPrice J W) (n : Nat) (ls st : List aV) (μ : aM) (g : Nat) : W (n + 1) 24 ls st μ g = (sGetL 3 7 27) (W n) ls st μ g := (hW n 24 ls st μ g).trans rfl
theorem wX4_meanPrice_27 {l : Launch} {K : aRs} {X : aXs} {J : aK} {W : Nat → aK} (hW : isW (tbX4_meanPrice l K X) cuX4_meanPrice J W) (n : Nat) (ls st : List aV) (μ : aM) (g : Nat) : W (n + 1) 27 ls st μ g = (sL2d 28) (W n) ls st μ g := (hW n 27 ls st μ g).trans rfl
theorem wX4_meanPrice_28 {l : Launch} {K : aRs} {X : aXs} {J : aK} {W : Nat → aK} (hW : isW (tbX4_meanPrice l K X) cuX4_meanPrice J W) (n : Nat) (ls st : List aV) (μ : aM) (g : Nat) : W (n + 1) 28 ls st μ g = (sLd 0 29 isR) (W n) ls st μ g := (hW n 28 ls st μ g).trans rfl
theorem wX4_meanPrice_29 {l : Launch} {K : aRs} {X : aXs} {J : aK} {W : Nat → aK} (hW : isW (tbX4_meanPrice l K X) cuX4_meanPrice J W) (n : Nat) (ls st : List aV) (μ : aM) (g : Nat) : W (n + 1) 29 ls st μ g = (sGetR 4 3 32) (W n) ls st μ g := (hW n 29 ls st μ g).trans rfl
theorem wX4_meanPrice_32 {l : Launch} {K : aRs} {X : aXs} {J : aK} {W : Nat → aK} (hW : isW (tbX4_meanPrice l K X) cuX4_meanPrice J W) (n : Nat) (ls st : List aV) (μ : aM) (g : Nat) : W (n + 1) 32 ls st μ g = (sGetL 3 6 35) (W n) ls st μ g := (hW n 32 ls st μ g).trans rfl
theorem wX4_meanPrice_35 {l : Launch} {K : aRs} {X : aXs} {J : aK} {W : Nat → aK} (hW : isW (tbX4_meanPrice l K X) cuX4_meanPrice J W) (n : Nat) (ls st : List aV) (μ : aM) (g : Nat) : W (n + 1) 35 ls st μ g = (sL2d 36) (W n) ls st μ g := (hW n 35 ls st μ g).trans rfl
theorem wX4_meanPrice_36 {l : Launch} {K : aRs} {X : aXs} {J : aK} {W : Nat → aK} (hW : isW (tbX4_meanPrice l K X) cuX4_meanPrice J W) (n : Nat) (ls st : List aV) (μ : aM) (g : Nat) : W (n + 1) 36 ls st μ g = (sDdiv 37) (W n) ls st μ g := (hW n 36 ls st μ g).trans rfl
theorem wX4_meanPrice_37 {l : Launch} {K : aRs} {X : aXs} {J : aK} {W : Nat → aK} (hW : isW (tbX4_meanPrice l K X) cuX4_meanPrice J W) (n : Nat) (ls st : List aV) (μ : aM) (g : Nat) : W (n + 1) 37 ls st μ g = (sRetD 1 K) (W n) ls st μ g := (hW n 37 ls st μ g).trans rfl
theorem dX4_owners_0 : decode cX4_owners 0 = .ok (.aload_n 0, 1) := by decide +kernel
theorem dX4_owners_1 : decode cX4_owners 1 = .ok (.getfield 20, 3) := by decide +kernel
theorem dX4_owners_4 : decode cX4_owners 4 = .ok (.invokevirtual 207, 3) := by decide +kernel
theorem dX4_owners_7 : decode cX4_owners 7 = .ok (.aload_n 0, 1) := by decide +kernel
theorem dX4_owners_8 : decode cX4_owners 8 = .ok (.getfield 24, 3) := by decide +kernel
theorem dX4_owners_11 : decode cX4_owners 11 = .ok (.invokevirtual 207, 3) := by decide +kernel
theorem dX4_owners_14 : decode cX4_owners 14 = .ok (.ior, 1) := by decide +kernel
theorem dX4_owners_15 : decode cX4_owners 15 = .ok (.invokestatic 210, 3) := by decide +kernel
theorem dX4_owners_18 : decode cX4_owners 18 = .ok (.ireturn, 1) := by decide +kernel
def tbX4_owners (l : Launch) (K : aRs) (X : aXs) : aTb := [
  (0, sLd 0 1 isR),
  (1, sGetR 4 1 4),
  (4, sCallV 0 1 (fun as μ K => Ct l mdX1_ownerBits as μ K X) 7 0 0),
  (7, sLd 0 8 isR),
  (8, sGetR 4 2 11),
  (11, sCallV 0 1 (fun as μ K => Ct l mdX1_ownerBits as μ K X) 14 0 0),
  (14, sBin fOr 15),
  (15, sCallS 1 (fun as μ K => Ct l mdJ6_bitCount_0f7a4 as μ K X) 18 0 0),
  (18, sRetI .int 0 K)]
theorem snX4_owners (l : Launch) (K : aRs) (X : aXs) (n0 : Nat) : ∀ q ∈ tbX4_owners l K X, aSo l mdX4_owners K X n0 q.1 q.2 :=
  tc (fun p e s m args below meth c cA D A ad0 h => ok_aload_n h.1 0 rfl dX4_owners_0) <|
  tc (fun p e s m args below meth c cA D A ad0 h => ok_getR h.1 cxX4 (by decide) rfl fkRX4_20 (fun _ _ _ => rfl) dX4_owners_1) <|
  tc (fun p e s m args below meth c cA D A ad0 h => ok_callV h.1 h.2.1 ⟨Nat.le_refl _, Nat.le_refl _⟩ mdX1_ownerBits siX1_ownerBits cxX1 mkRX4_207 imX1_ownerBits seX1_ownerBits ⟨by decide, by decide⟩ (aAx_out h.1 h.2.2.1 _) dX4_owners_4) <|
  tc (fun p e s m args below meth c cA D A ad0 h => ok_aload_n h.1 0 rfl dX4_owners_7) <|
  tc (fun p e s m args below meth c cA D A ad0 h => ok_getR h.1 cxX4 (by decide) rfl fkRX4_24 (fun _ _ _ => rfl) dX4_owners_8) <|
  tc (fun p e s m args below meth c cA D A ad0 h => ok_callV h.1 h.2.1 ⟨Nat.le_refl _, Nat.le_refl _⟩ mdX1_ownerBits siX1_ownerBits cxX1 mkRX4_207 imX1_ownerBits seX1_ownerBits ⟨by decide, by decide⟩ (aAx_out h.1 h.2.2.1 _) dX4_owners_11) <|
  tc (fun p e s m args below meth c cA D A ad0 h => ok_ior h.1 dX4_owners_14) <|
  tc (fun p e s m args below meth c cA D A ad0 h => ok_callS h.1 h.2.1 ⟨Nat.le_refl _, Nat.le_refl _⟩ mdJ6_bitCount_0f7a4 siJ6_bitCount_0f7a4 mkRX4_210 stJ6_bitCount_0f7a4 ⟨by decide, by decide⟩ (aAx_out h.1 h.2.2.1 _) dX4_owners_15) <|
  tc (fun p e s m args below meth c cA D A ad0 h => ok_ireturn h.1 h.2.2.2.1 (Or.inl rfl) dX4_owners_18) <|
  tn
abbrev cuX4_owners : List Nat := [7, 14, 18]
theorem tX4_owners_0 (l : Launch) (K : aRs) (X : aXs) : tb (tbX4_owners l K X) 0 = sLd 0 1 isR := (rfl)
theorem wX4_owners_0 {l : Launch} {K : aRs} {X : aXs} {J : aK} {W : Nat → aK} (hW : isW (tbX4_owners l K X) cuX4_owners J W) (n : Nat) (ls st : List aV) (μ : aM) (g : Nat) : W (n + 1) 0 ls st μ g = (sLd 0 1 isR) (W n) ls st μ g := (hW n 0 ls st μ g).trans rfl
theorem wX4_owners_1 {l : Launch} {K : aRs} {X : aXs} {J : aK} {W : Nat → aK} (hW : isW (tbX4_owners l K X) cuX4_owners J W) (n : Nat) (ls st : List aV) (μ : aM) (g : Nat) : W (n + 1) 1 ls st μ g = (sGetR 4 1 4) (W n) ls st μ g := (hW n 1 ls st μ g).trans rfl
theorem wX4_owners_4 {l : Launch} {K : aRs} {X : aXs} {J : aK} {W : Nat → aK} (hW : isW (tbX4_owners l K X) cuX4_owners J W) (n : Nat) (ls st : List aV) (μ : aM) (g : Nat) : W (n + 1) 4 ls st μ g = (sCallV 0 1 (fun as μ K => Ct l mdX1_ownerBits as μ K X) 7 0 0) (W n) ls st μ g := (hW n 4 ls st μ g).trans rfl
theorem tX4_owners_7 (l : Launch) (K : aRs) (X : aXs) : tb (tbX4_owners l K X) 7 = sLd 0 8 isR := (rfl)
theorem wX4_owners_7 {l : Launch} {K : aRs} {X : aXs} {J : aK} {W : Nat → aK} (hW : isW (tbX4_owners l K X) cuX4_owners J W) (n : Nat) (ls st : List aV) (μ : aM) (g : Nat) : W (n + 1) 7 ls st μ g = J 7 ls st μ g := (hW n 7 ls st μ g).trans rfl
theorem wX4_owners_8 {l : Launch} {K : aRs} {X : aXs} {J : aK} {W : Nat → aK} (hW : isW (tbX4_owners l K X) cuX4_owners J W) (n : Nat) (ls st : List aV) (μ : aM) (g : Nat) : W (n + 1) 8 ls st μ g = (sGetR 4 2 11) (W n) ls st μ g := (hW n 8 ls st μ g).trans rfl
theorem wX4_owners_11 {l : Launch} {K : aRs} {X : aXs} {J : aK} {W : Nat → aK} (hW : isW (tbX4_owners l K X) cuX4_owners J W) (n : Nat) (ls st : List aV) (μ : aM) (g : Nat) : W (n + 1) 11 ls st μ g = (sCallV 0 1 (fun as μ K => Ct l mdX1_ownerBits as μ K X) 14 0 0) (W n) ls st μ g := (hW n 11 ls st μ g).trans rfl
theorem tX4_owners_14 (l : Launch) (K : aRs) (X : aXs) : tb (tbX4_owners l K X) 14 = sBin fOr 15 := (rfl)
theorem wX4_owners_14 {l : Launch} {K : aRs} {X : aXs} {J : aK} {W : Nat → aK} (hW : isW (tbX4_owners l K X) cuX4_owners J W) (n : Nat) (ls st : List aV) (μ : aM) (g : Nat) : W (n + 1) 14 ls st μ g = J 14 ls st μ g := (hW n 14 ls st μ g).trans rfl
theorem wX4_owners_15 {l : Launch} {K : aRs} {X : aXs} {J : aK} {W : Nat → aK} (hW : isW (tbX4_owners l K X) cuX4_owners J W) (n : Nat) (ls st : List aV) (μ : aM) (g : Nat) : W (n + 1) 15 ls st μ g = (sCallS 1 (fun as μ K => Ct l mdJ6_bitCount_0f7a4 as μ K X) 18 0 0) (W n) ls st μ g := (hW n 15 ls st μ g).trans rfl
theorem tX4_owners_18 (l : Launch) (K : aRs) (X : aXs) : tb (tbX4_owners l K X) 18 = sRetI .int 0 K := (rfl)
theorem wX4_owners_18 {l : Launch} {K : aRs} {X : aXs} {J : aK} {W : Nat → aK} (hW : isW (tbX4_owners l K X) cuX4_owners J W) (n : Nat) (ls st : List aV) (μ : aM) (g : Nat) : W (n + 1) 18 ls st μ g = J 18 ls st μ g := (hW n 18 ls st μ g).trans rfl
theorem dX4_isConsistent_0 : decode cX4_isConsistent 0 = .ok (.aload_n 0, 1) := by decide +kernel
theorem dX4_isConsistent_1 : decode cX4_isConsistent 1 = .ok (.getfield 52, 3) := by decide +kernel
theorem dX4_isConsistent_4 : decode cX4_isConsistent 4 = .ok (.ifCond .ne 10, 3) := by decide +kernel
theorem dX4_isConsistent_7 : decode cX4_isConsistent 7 = .ok (.aload_n 0, 1) := by decide +kernel
theorem dX4_isConsistent_8 : decode cX4_isConsistent 8 = .ok (.invokevirtual 215, 3) := by decide +kernel
theorem dX4_isConsistent_11 : decode cX4_isConsistent 11 = .ok (.ifCond .ne 38, 3) := by decide +kernel
theorem dX4_isConsistent_14 : decode cX4_isConsistent 14 = .ok (.aload_n 0, 1) := by decide +kernel
theorem dX4_isConsistent_15 : decode cX4_isConsistent 15 = .ok (.getfield 20, 3) := by decide +kernel
theorem dX4_isConsistent_18 : decode cX4_isConsistent 18 = .ok (.invokevirtual 218, 3) := by decide +kernel
theorem dX4_isConsistent_21 : decode cX4_isConsistent 21 = .ok (.ifCond .eq 28, 3) := by decide +kernel
theorem dX4_isConsistent_24 : decode cX4_isConsistent 24 = .ok (.aload_n 0, 1) := by decide +kernel
theorem dX4_isConsistent_25 : decode cX4_isConsistent 25 = .ok (.getfield 24, 3) := by decide +kernel
theorem dX4_isConsistent_28 : decode cX4_isConsistent 28 = .ok (.invokevirtual 218, 3) := by decide +kernel
theorem dX4_isConsistent_31 : decode cX4_isConsistent 31 = .ok (.ifCond .eq 18, 3) := by decide +kernel
theorem dX4_isConsistent_34 : decode cX4_isConsistent 34 = .ok (.aload_n 0, 1) := by decide +kernel
theorem dX4_isConsistent_35 : decode cX4_isConsistent 35 = .ok (.invokevirtual 129, 3) := by decide +kernel
theorem dX4_isConsistent_38 : decode cX4_isConsistent 38 = .ok (.aload_n 0, 1) := by decide +kernel
theorem dX4_isConsistent_39 : decode cX4_isConsistent 39 = .ok (.invokevirtual 177, 3) := by decide +kernel
theorem dX4_isConsistent_42 : decode cX4_isConsistent 42 = .ok (.if_icmp .ne 7, 3) := by decide +kernel
theorem dX4_isConsistent_45 : decode cX4_isConsistent 45 = .ok (.iconst 1, 1) := by decide +kernel
theorem dX4_isConsistent_46 : decode cX4_isConsistent 46 = .ok (.goto 4, 3) := by decide +kernel
theorem dX4_isConsistent_49 : decode cX4_isConsistent 49 = .ok (.iconst 0, 1) := by decide +kernel
theorem dX4_isConsistent_50 : decode cX4_isConsistent 50 = .ok (.ireturn, 1) := by decide +kernel
def tbX4_isConsistent (l : Launch) (K : aRs) (X : aXs) : aTb := [
  (0, sLd 0 1 isR),
  (1, sGetI 4 8 4),
  (4, sIf pNe 14 7),
  (7, sLd 0 8 isR),
  (8, sCallV 0 4 (fun as μ K => Ct l mdX4_isCrossed as μ K X) 11 0 0),
  (11, sIf pNe 49 14),
  (14, sLd 0 15 isR),
  (15, sGetR 4 1 18),
  (18, sCallV 0 1 (fun as μ K => Ct l mdX1_slicesHold as μ K X) 21 0 0),
  (21, sIf pEq 49 24),
  (24, sLd 0 25 isR),
  (25, sGetR 4 2 28),
  (28, sCallV 0 1 (fun as μ K => Ct l mdX1_slicesHold as μ K X) 31 0 0),
  (31, sIf pEq 49 34),
  (34, sLd 0 35 isR),
  (35, sCallV 0 4 (fun as μ K => Ct l mdX4_priceBySums as μ K X) 38 0 0),
  (38, sLd 0 39 isR),
  (39, sCallV 0 4 (fun as μ K => Ct l mdX4_priceByTrying as μ K X) 42 0 0),
  (42, sIc qNe 49 45),
  (45, sPush (aI 1) 46),
  (46, sGoto 50),
  (49, sPush (aI 0) 50),
  (50, sRetI .boolean 0 K)]
theorem snX4_isConsistent (l : Launch) (K : aRs) (X : aXs) (n0 : Nat) : ∀ q ∈ tbX4_isConsistent l K X, aSo l mdX4_isConsistent K X n0 q.1 q.2 :=
  tc (fun p e s m args below meth c cA D A ad0 h => ok_aload_n h.1 0 rfl dX4_isConsistent_0) <|
  tc (fun p e s m args below meth c cA D A ad0 h => ok_getI h.1 cxX4 (by decide) rfl fkRX4_52 (fun _ _ _ => rfl) dX4_isConsistent_1) <|
  tc (fun p e s m args below meth c cA D A ad0 h => ok_if_ne h.1 14 (by decide) dX4_isConsistent_4) <|
  tc (fun p e s m args below meth c cA D A ad0 h => ok_aload_n h.1 0 rfl dX4_isConsistent_7) <|
  tc (fun p e s m args below meth c cA D A ad0 h => ok_callV h.1 h.2.1 ⟨Nat.le_refl _, Nat.le_refl _⟩ mdX4_isCrossed siX4_isCrossed cxX4 mkRX4_215 imX4_isCrossed seX4_isCrossed ⟨by decide, by decide⟩ (aAx_out h.1 h.2.2.1 _) dX4_isConsistent_8) <|
  tc (fun p e s m args below meth c cA D A ad0 h => ok_if_ne h.1 49 (by decide) dX4_isConsistent_11) <|
  tc (fun p e s m args below meth c cA D A ad0 h => ok_aload_n h.1 0 rfl dX4_isConsistent_14) <|
  tc (fun p e s m args below meth c cA D A ad0 h => ok_getR h.1 cxX4 (by decide) rfl fkRX4_20 (fun _ _ _ => rfl) dX4_isConsistent_15) <|
  tc (fun p e s m args below meth c cA D A ad0 h => ok_callV h.1 h.2.1 ⟨Nat.le_refl _, Nat.le_refl _⟩ mdX1_slicesHold siX1_slicesHold cxX1 mkRX4_218 imX1_slicesHold seX1_slicesHold ⟨by decide, by decide⟩ (aAx_out h.1 h.2.2.1 _) dX4_isConsistent_18) <|
  tc (fun p e s m args below meth c cA D A ad0 h => ok_if_eq h.1 49 (by decide) dX4_isConsistent_21) <|
  tc (fun p e s m args below meth c cA D A ad0 h => ok_aload_n h.1 0 rfl dX4_isConsistent_24) <|
  tc (fun p e s m args below meth c cA D A ad0 h => ok_getR h.1 cxX4 (by decide) rfl fkRX4_24 (fun _ _ _ => rfl) dX4_isConsistent_25) <|
  tc (fun p e s m args below meth c cA D A ad0 h => ok_callV h.1 h.2.1 ⟨Nat.le_refl _, Nat.le_refl _⟩ mdX1_slicesHold siX1_slicesHold cxX1 mkRX4_218 imX1_slicesHold seX1_slicesHold ⟨by decide, by decide⟩ (aAx_out h.1 h.2.2.1 _) dX4_isConsistent_28) <|
  tc (fun p e s m args below meth c cA D A ad0 h => ok_if_eq h.1 49 (by decide) dX4_isConsistent_31) <|
  tc (fun p e s m args below meth c cA D A ad0 h => ok_aload_n h.1 0 rfl dX4_isConsistent_34) <|
  tc (fun p e s m args below meth c cA D A ad0 h => ok_callV h.1 h.2.1 ⟨Nat.le_refl _, Nat.le_refl _⟩ mdX4_priceBySums siX4_priceBySums cxX4 mkRX4_129 imX4_priceBySums seX4_priceBySums ⟨by decide, by decide⟩ (aAx_out h.1 h.2.2.1 _) dX4_isConsistent_35) <|
  tc (fun p e s m args below meth c cA D A ad0 h => ok_aload_n h.1 0 rfl dX4_isConsistent_38) <|
  tc (fun p e s m args below meth c cA D A ad0 h => ok_callV h.1 h.2.1 ⟨Nat.le_refl _, Nat.le_refl _⟩ mdX4_priceByTrying siX4_priceByTrying cxX4 mkRX4_177 imX4_priceByTrying seX4_priceByTrying ⟨by decide, by decide⟩ (aAx_out h.1 h.2.2.1 _) dX4_isConsistent_39) <|
  tc (fun p e s m args below meth c cA D A ad0 h => ok_icmp_ne h.1 49 (by decide) dX4_isConsistent_42) <|
  tc (fun p e s m args below meth c cA D A ad0 h => ok_iconst h.1 ⟨by decide, by decide⟩ dX4_isConsistent_45) <|
  tc (fun p e s m args below meth c cA D A ad0 h => ok_goto h.1 50 (by decide) dX4_isConsistent_46) <|
  tc (fun p e s m args below meth c cA D A ad0 h => ok_iconst h.1 ⟨by decide, by decide⟩ dX4_isConsistent_49) <|
  tc (fun p e s m args below meth c cA D A ad0 h => ok_ireturn h.1 h.2.2.2.1 (Or.inr (Or.inl rfl)) dX4_isConsistent_50) <|
  tn
abbrev cuX4_isConsistent : List Nat := [11, 21, 31, 38, 42]
theorem tX4_isConsistent_0 (l : Launch) (K : aRs) (X : aXs) : tb (tbX4_isConsistent l K X) 0 = sLd 0 1 isR := (rfl)
theorem wX4_isConsistent_0 {l : Launch} {K : aRs} {X : aXs} {J : aK} {W : Nat → aK} (hW : isW (tbX4_isConsistent l K X) cuX4_isConsistent J W) (n : Nat) (ls st : List aV) (μ : aM) (g : Nat) : W (n + 1) 0 ls st μ g = (sLd 0 1 isR) (W n) ls st μ g := (hW n 0 ls st μ g).trans rfl
theorem wX4_isConsistent_1 {l : Launch} {K : aRs} {X : aXs} {J : aK} {W : Nat → aK} (hW : isW (tbX4_isConsistent l K X) cuX4_isConsistent J W) (n : Nat) (ls st : List aV) (μ : aM) (g : Nat) : W (n + 1) 1 ls st μ g = (sGetI 4 8 4) (W n) ls st μ g := (hW n 1 ls st μ g).trans rfl
theorem wX4_isConsistent_4 {l : Launch} {K : aRs} {X : aXs} {J : aK} {W : Nat → aK} (hW : isW (tbX4_isConsistent l K X) cuX4_isConsistent J W) (n : Nat) (ls st : List aV) (μ : aM) (g : Nat) : W (n + 1) 4 ls st μ g = (sIf pNe 14 7) (W n) ls st μ g := (hW n 4 ls st μ g).trans rfl
theorem wX4_isConsistent_7 {l : Launch} {K : aRs} {X : aXs} {J : aK} {W : Nat → aK} (hW : isW (tbX4_isConsistent l K X) cuX4_isConsistent J W) (n : Nat) (ls st : List aV) (μ : aM) (g : Nat) : W (n + 1) 7 ls st μ g = (sLd 0 8 isR) (W n) ls st μ g := (hW n 7 ls st μ g).trans rfl
theorem wX4_isConsistent_8 {l : Launch} {K : aRs} {X : aXs} {J : aK} {W : Nat → aK} (hW : isW (tbX4_isConsistent l K X) cuX4_isConsistent J W) (n : Nat) (ls st : List aV) (μ : aM) (g : Nat) : W (n + 1) 8 ls st μ g = (sCallV 0 4 (fun as μ K => Ct l mdX4_isCrossed as μ K X) 11 0 0) (W n) ls st μ g := (hW n 8 ls st μ g).trans rfl
theorem tX4_isConsistent_11 (l : Launch) (K : aRs) (X : aXs) : tb (tbX4_isConsistent l K X) 11 = sIf pNe 49 14 := (rfl)
theorem wX4_isConsistent_11 {l : Launch} {K : aRs} {X : aXs} {J : aK} {W : Nat → aK} (hW : isW (tbX4_isConsistent l K X) cuX4_isConsistent J W) (n : Nat) (ls st : List aV) (μ : aM) (g : Nat) : W (n + 1) 11 ls st μ g = J 11 ls st μ g := (hW n 11 ls st μ g).trans rfl
theorem wX4_isConsistent_14 {l : Launch} {K : aRs} {X : aXs} {J : aK} {W : Nat → aK} (hW : isW (tbX4_isConsistent l K X) cuX4_isConsistent J W) (n : Nat) (ls st : List aV) (μ : aM) (g : Nat) : W (n + 1) 14 ls st μ g = (sLd 0 15 isR) (W n) ls st μ g := (hW n 14 ls st μ g).trans rfl
theorem wX4_isConsistent_15 {l : Launch} {K : aRs} {X : aXs} {J : aK} {W : Nat → aK} (hW : isW (tbX4_isConsistent l K X) cuX4_isConsistent J W) (n : Nat) (ls st : List aV) (μ : aM) (g : Nat) : W (n + 1) 15 ls st μ g = (sGetR 4 1 18) (W n) ls st μ g := (hW n 15 ls st μ g).trans rfl
theorem wX4_isConsistent_18 {l : Launch} {K : aRs} {X : aXs} {J : aK} {W : Nat → aK} (hW : isW (tbX4_isConsistent l K X) cuX4_isConsistent J W) (n : Nat) (ls st : List aV) (μ : aM) (g : Nat) : W (n + 1) 18 ls st μ g = (sCallV 0 1 (fun as μ K => Ct l mdX1_slicesHold as μ K X) 21 0 0) (W n) ls st μ g := (hW n 18 ls st μ g).trans rfl
theorem tX4_isConsistent_21 (l : Launch) (K : aRs) (X : aXs) : tb (tbX4_isConsistent l K X) 21 = sIf pEq 49 24 := (rfl)
theorem wX4_isConsistent_21 {l : Launch} {K : aRs} {X : aXs} {J : aK} {W : Nat → aK} (hW : isW (tbX4_isConsistent l K X) cuX4_isConsistent J W) (n : Nat) (ls st : List aV) (μ : aM) (g : Nat) : W (n + 1) 21 ls st μ g = J 21 ls st μ g := (hW n 21 ls st μ g).trans rfl
theorem wX4_isConsistent_24 {l : Launch} {K : aRs} {X : aXs} {J : aK} {W : Nat → aK} (hW : isW (tbX4_isConsistent l K X) cuX4_isConsistent J W) (n : Nat) (ls st : List aV) (μ : aM) (g : Nat) : W (n + 1) 24 ls st μ g = (sLd 0 25 isR) (W n) ls st μ g := (hW n 24 ls st μ g).trans rfl
theorem wX4_isConsistent_25 {l : Launch} {K : aRs} {X : aXs} {J : aK} {W : Nat → aK} (hW : isW (tbX4_isConsistent l K X) cuX4_isConsistent J W) (n : Nat) (ls st : List aV) (μ : aM) (g : Nat) : W (n + 1) 25 ls st μ g = (sGetR 4 2 28) (W n) ls st μ g := (hW n 25 ls st μ g).trans rfl
theorem wX4_isConsistent_28 {l : Launch} {K : aRs} {X : aXs} {J : aK} {W : Nat → aK} (hW : isW (tbX4_isConsistent l K X) cuX4_isConsistent J W) (n : Nat) (ls st : List aV) (μ : aM) (g : Nat) : W (n + 1) 28 ls st μ g = (sCallV 0 1 (fun as μ K => Ct l mdX1_slicesHold as μ K X) 31 0 0) (W n) ls st μ g := (hW n 28 ls st μ g).trans rfl
theorem tX4_isConsistent_31 (l : Launch) (K : aRs) (X : aXs) : tb (tbX4_isConsistent l K X) 31 = sIf pEq 49 34 := (rfl)
theorem wX4_isConsistent_31 {l : Launch} {K : aRs} {X : aXs} {J : aK} {W : Nat → aK} (hW : isW (tbX4_isConsistent l K X) cuX4_isConsistent J W) (n : Nat) (ls st : List aV) (μ : aM) (g : Nat) : W (n + 1) 31 ls st μ g = J 31 ls st μ g := (hW n 31 ls st μ g).trans rfl
theorem wX4_isConsistent_34 {l : Launch} {K : aRs} {X : aXs} {J : aK} {W : Nat → aK} (hW : isW (tbX4_isConsistent l K X) cuX4_isConsistent J W) (n : Nat) (ls st : List aV) (μ : aM) (g : Nat) : W (n + 1) 34 ls st μ g = (sLd 0 35 isR) (W n) ls st μ g := (hW n 34 ls st μ g).trans rfl
theorem wX4_isConsistent_35 {l : Launch} {K : aRs} {X : aXs} {J : aK} {W : Nat → aK} (hW : isW (tbX4_isConsistent l K X) cuX4_isConsistent J W) (n : Nat) (ls st : List aV) (μ : aM) (g : Nat) : W (n + 1) 35 ls st μ g = (sCallV 0 4 (fun as μ K => Ct l mdX4_priceBySums as μ K X) 38 0 0) (W n) ls st μ g := (hW n 35 ls st μ g).trans rfl
theorem tX4_isConsistent_38 (l : Launch) (K : aRs) (X : aXs) : tb (tbX4_isConsistent l K X) 38 = sLd 0 39 isR := (rfl)
theorem wX4_isConsistent_38 {l : Launch} {K : aRs} {X : aXs} {J : aK} {W : Nat → aK} (hW : isW (tbX4_isConsistent l K X) cuX4_isConsistent J W) (n : Nat) (ls st : List aV) (μ : aM) (g : Nat) : W (n + 1) 38 ls st μ g = J 38 ls st μ g := (hW n 38 ls st μ g).trans rfl
theorem wX4_isConsistent_39 {l : Launch} {K : aRs} {X : aXs} {J : aK} {W : Nat → aK} (hW : isW (tbX4_isConsistent l K X) cuX4_isConsistent J W) (n : Nat) (ls st : List aV) (μ : aM) (g : Nat) : W (n + 1) 39 ls st μ g = (sCallV 0 4 (fun as μ K => Ct l mdX4_priceByTrying as μ K X) 42 0 0) (W n) ls st μ g := (hW n 39 ls st μ g).trans rfl
theorem tX4_isConsistent_42 (l : Launch) (K : aRs) (X : aXs) : tb (tbX4_isConsistent l K X) 42 = sIc qNe 49 45 := (rfl)
theorem wX4_isConsistent_42 {l : Launch} {K : aRs} {X : aXs} {J : aK} {W : Nat → aK} (hW : isW (tbX4_isConsistent l K X) cuX4_isConsistent J W) (n : Nat) (ls st : List aV) (μ : aM) (g : Nat) : W (n + 1) 42 ls st μ g = J 42 ls st μ g := (hW n 42 ls st μ g).trans rfl
theorem wX4_isConsistent_45 {l : Launch} {K : aRs} {X : aXs} {J : aK} {W : Nat → aK} (hW : isW (tbX4_isConsistent l K X) cuX4_isConsistent J W) (n : Nat) (ls st : List aV) (μ : aM) (g : Nat) : W (n + 1) 45 ls st μ g = (sPush (aI 1) 46) (W n) ls st μ g := (hW n 45 ls st μ g).trans rfl
theorem wX4_isConsistent_46 {l : Launch} {K : aRs} {X : aXs} {J : aK} {W : Nat → aK} (hW : isW (tbX4_isConsistent l K X) cuX4_isConsistent J W) (n : Nat) (ls st : List aV) (μ : aM) (g : Nat) : W (n + 1) 46 ls st μ g = (sGoto 50) (W n) ls st μ g := (hW n 46 ls st μ g).trans rfl
theorem wX4_isConsistent_49 {l : Launch} {K : aRs} {X : aXs} {J : aK} {W : Nat → aK} (hW : isW (tbX4_isConsistent l K X) cuX4_isConsistent J W) (n : Nat) (ls st : List aV) (μ : aM) (g : Nat) : W (n + 1) 49 ls st μ g = (sPush (aI 0) 50) (W n) ls st μ g := (hW n 49 ls st μ g).trans rfl
theorem wX4_isConsistent_50 {l : Launch} {K : aRs} {X : aXs} {J : aK} {W : Nat → aK} (hW : isW (tbX4_isConsistent l K X) cuX4_isConsistent J W) (n : Nat) (ls st : List aV) (μ : aM) (g : Nat) : W (n + 1) 50 ls st μ g = (sRetI .boolean 0 K) (W n) ls st μ g := (hW n 50 ls st μ g).trans rfl
theorem dX4_isOwner_0 : decode cX4_isOwner 0 = .ok (.iload_n 0, 1) := by decide +kernel
theorem dX4_isOwner_1 : decode cX4_isOwner 1 = .ok (.ifCond .lt 12, 3) := by decide +kernel
theorem dX4_isOwner_4 : decode cX4_isOwner 4 = .ok (.iload_n 0, 1) := by decide +kernel
theorem dX4_isOwner_5 : decode cX4_isOwner 5 = .ok (.iconst 5, 1) := by decide +kernel
theorem dX4_isOwner_6 : decode cX4_isOwner 6 = .ok (.if_icmp .gt 7, 3) := by decide +kernel
theorem dX4_isOwner_9 : decode cX4_isOwner 9 = .ok (.iconst 1, 1) := by decide +kernel
theorem dX4_isOwner_10 : decode cX4_isOwner 10 = .ok (.goto 4, 3) := by decide +kernel
theorem dX4_isOwner_13 : decode cX4_isOwner 13 = .ok (.iconst 0, 1) := by decide +kernel
theorem dX4_isOwner_14 : decode cX4_isOwner 14 = .ok (.ireturn, 1) := by decide +kernel
def tbX4_isOwner (l : Launch) (K : aRs) (X : aXs) : aTb := [
  (0, sLd 0 1 isI),
  (1, sIf pLt 13 4),
  (4, sLd 0 5 isI),
  (5, sPush (aI 5) 6),
  (6, sIc qGt 13 9),
  (9, sPush (aI 1) 10),
  (10, sGoto 14),
  (13, sPush (aI 0) 14),
  (14, sRetI .boolean 0 K)]
theorem snX4_isOwner (l : Launch) (K : aRs) (X : aXs) (n0 : Nat) : ∀ q ∈ tbX4_isOwner l K X, aSo l mdX4_isOwner K X n0 q.1 q.2 :=
  tc (fun p e s m args below meth c cA D A ad0 h => ok_iload_n h.1 0 rfl dX4_isOwner_0) <|
  tc (fun p e s m args below meth c cA D A ad0 h => ok_if_lt h.1 13 (by decide) dX4_isOwner_1) <|
  tc (fun p e s m args below meth c cA D A ad0 h => ok_iload_n h.1 0 rfl dX4_isOwner_4) <|
  tc (fun p e s m args below meth c cA D A ad0 h => ok_iconst h.1 ⟨by decide, by decide⟩ dX4_isOwner_5) <|
  tc (fun p e s m args below meth c cA D A ad0 h => ok_icmp_gt h.1 13 (by decide) dX4_isOwner_6) <|
  tc (fun p e s m args below meth c cA D A ad0 h => ok_iconst h.1 ⟨by decide, by decide⟩ dX4_isOwner_9) <|
  tc (fun p e s m args below meth c cA D A ad0 h => ok_goto h.1 14 (by decide) dX4_isOwner_10) <|
  tc (fun p e s m args below meth c cA D A ad0 h => ok_iconst h.1 ⟨by decide, by decide⟩ dX4_isOwner_13) <|
  tc (fun p e s m args below meth c cA D A ad0 h => ok_ireturn h.1 h.2.2.2.1 (Or.inr (Or.inl rfl)) dX4_isOwner_14) <|
  tn
abbrev cuX4_isOwner : List Nat := []
theorem tX4_isOwner_0 (l : Launch) (K : aRs) (X : aXs) : tb (tbX4_isOwner l K X) 0 = sLd 0 1 isI := (rfl)
theorem wX4_isOwner_0 {l : Launch} {K : aRs} {X : aXs} {J : aK} {W : Nat → aK} (hW : isW (tbX4_isOwner l K X) cuX4_isOwner J W) (n : Nat) (ls st : List aV) (μ : aM) (g : Nat) : W (n + 1) 0 ls st μ g = (sLd 0 1 isI) (W n) ls st μ g := (hW n 0 ls st μ g).trans rfl
theorem wX4_isOwner_1 {l : Launch} {K : aRs} {X : aXs} {J : aK} {W : Nat → aK} (hW : isW (tbX4_isOwner l K X) cuX4_isOwner J W) (n : Nat) (ls st : List aV) (μ : aM) (g : Nat) : W (n + 1) 1 ls st μ g = (sIf pLt 13 4) (W n) ls st μ g := (hW n 1 ls st μ g).trans rfl
theorem wX4_isOwner_4 {l : Launch} {K : aRs} {X : aXs} {J : aK} {W : Nat → aK} (hW : isW (tbX4_isOwner l K X) cuX4_isOwner J W) (n : Nat) (ls st : List aV) (μ : aM) (g : Nat) : W (n + 1) 4 ls st μ g = (sLd 0 5 isI) (W n) ls st μ g := (hW n 4 ls st μ g).trans rfl
theorem wX4_isOwner_5 {l : Launch} {K : aRs} {X : aXs} {J : aK} {W : Nat → aK} (hW : isW (tbX4_isOwner l K X) cuX4_isOwner J W) (n : Nat) (ls st : List aV) (μ : aM) (g : Nat) : W (n + 1) 5 ls st μ g = (sPush (aI 5) 6) (W n) ls st μ g := (hW n 5 ls st μ g).trans rfl
theorem wX4_isOwner_6 {l : Launch} {K : aRs} {X : aXs} {J : aK} {W : Nat → aK} (hW : isW (tbX4_isOwner l K X) cuX4_isOwner J W) (n : Nat) (ls st : List aV) (μ : aM) (g : Nat) : W (n + 1) 6 ls st μ g = (sIc qGt 13 9) (W n) ls st μ g := (hW n 6 ls st μ g).trans rfl
theorem wX4_isOwner_9 {l : Launch} {K : aRs} {X : aXs} {J : aK} {W : Nat → aK} (hW : isW (tbX4_isOwner l K X) cuX4_isOwner J W) (n : Nat) (ls st : List aV) (μ : aM) (g : Nat) : W (n + 1) 9 ls st μ g = (sPush (aI 1) 10) (W n) ls st μ g := (hW n 9 ls st μ g).trans rfl
theorem wX4_isOwner_10 {l : Launch} {K : aRs} {X : aXs} {J : aK} {W : Nat → aK} (hW : isW (tbX4_isOwner l K X) cuX4_isOwner J W) (n : Nat) (ls st : List aV) (μ : aM) (g : Nat) : W (n + 1) 10 ls st μ g = (sGoto 14) (W n) ls st μ g := (hW n 10 ls st μ g).trans rfl
theorem wX4_isOwner_13 {l : Launch} {K : aRs} {X : aXs} {J : aK} {W : Nat → aK} (hW : isW (tbX4_isOwner l K X) cuX4_isOwner J W) (n : Nat) (ls st : List aV) (μ : aM) (g : Nat) : W (n + 1) 13 ls st μ g = (sPush (aI 0) 14) (W n) ls st μ g := (hW n 13 ls st μ g).trans rfl
theorem wX4_isOwner_14 {l : Launch} {K : aRs} {X : aXs} {J : aK} {W : Nat → aK} (hW : isW (tbX4_isOwner l K X) cuX4_isOwner J W) (n : Nat) (ls st : List aV) (μ : aM) (g : Nat) : W (n + 1) 14 ls st μ g = (sRetI .boolean 0 K) (W n) ls st μ g := (hW n 14 ls st μ g).trans rfl
theorem dX4_isSide_0 : decode cX4_isSide 0 = .ok (.iload_n 0, 1) := by decide +kernel
theorem dX4_isSide_1 : decode cX4_isSide 1 = .ok (.bipush 98, 2) := by decide +kernel
theorem dX4_isSide_3 : decode cX4_isSide 3 = .ok (.if_icmp .eq 9, 3) := by decide +kernel
theorem dX4_isSide_6 : decode cX4_isSide 6 = .ok (.iload_n 0, 1) := by decide +kernel
theorem dX4_isSide_7 : decode cX4_isSide 7 = .ok (.bipush 115, 2) := by decide +kernel
theorem dX4_isSide_9 : decode cX4_isSide 9 = .ok (.if_icmp .ne 7, 3) := by decide +kernel
theorem dX4_isSide_12 : decode cX4_isSide 12 = .ok (.iconst 1, 1) := by decide +kernel
theorem dX4_isSide_13 : decode cX4_isSide 13 = .ok (.goto 4, 3) := by decide +kernel
theorem dX4_isSide_16 : decode cX4_isSide 16 = .ok (.iconst 0, 1) := by decide +kernel
theorem dX4_isSide_17 : decode cX4_isSide 17 = .ok (.ireturn, 1) := by decide +kernel
def tbX4_isSide (l : Launch) (K : aRs) (X : aXs) : aTb := [
  (0, sLd 0 1 isI),
  (1, sPush (aI 98) 3),
  (3, sIc qEq 12 6),
  (6, sLd 0 7 isI),
  (7, sPush (aI 115) 9),
  (9, sIc qNe 16 12),
  (12, sPush (aI 1) 13),
  (13, sGoto 17),
  (16, sPush (aI 0) 17),
  (17, sRetI .boolean 0 K)]
theorem snX4_isSide (l : Launch) (K : aRs) (X : aXs) (n0 : Nat) : ∀ q ∈ tbX4_isSide l K X, aSo l mdX4_isSide K X n0 q.1 q.2 :=
  tc (fun p e s m args below meth c cA D A ad0 h => ok_iload_n h.1 0 rfl dX4_isSide_0) <|
  tc (fun p e s m args below meth c cA D A ad0 h => ok_bipush h.1 ⟨by decide, by decide⟩ (by decide) dX4_isSide_1) <|
  tc (fun p e s m args below meth c cA D A ad0 h => ok_icmp_eq h.1 12 (by decide) dX4_isSide_3) <|
  tc (fun p e s m args below meth c cA D A ad0 h => ok_iload_n h.1 0 rfl dX4_isSide_6) <|
  tc (fun p e s m args below meth c cA D A ad0 h => ok_bipush h.1 ⟨by decide, by decide⟩ (by decide) dX4_isSide_7) <|
  tc (fun p e s m args below meth c cA D A ad0 h => ok_icmp_ne h.1 16 (by decide) dX4_isSide_9) <|
  tc (fun p e s m args below meth c cA D A ad0 h => ok_iconst h.1 ⟨by decide, by decide⟩ dX4_isSide_12) <|
  tc (fun p e s m args below meth c cA D A ad0 h => ok_goto h.1 17 (by decide) dX4_isSide_13) <|
  tc (fun p e s m args below meth c cA D A ad0 h => ok_iconst h.1 ⟨by decide, by decide⟩ dX4_isSide_16) <|
  tc (fun p e s m args below meth c cA D A ad0 h => ok_ireturn h.1 h.2.2.2.1 (Or.inr (Or.inl rfl)) dX4_isSide_17) <|
  tn
abbrev cuX4_isSide : List Nat := []
theorem tX4_isSide_0 (l : Launch) (K : aRs) (X : aXs) : tb (tbX4_isSide l K X) 0 = sLd 0 1 isI := (rfl)
theorem wX4_isSide_0 {l : Launch} {K : aRs} {X : aXs} {J : aK} {W : Nat → aK} (hW : isW (tbX4_isSide l K X) cuX4_isSide J W) (n : Nat) (ls st : List aV) (μ : aM) (g : Nat) : W (n + 1) 0 ls st μ g = (sLd 0 1 isI) (W n) ls st μ g := (hW n 0 ls st μ g).trans rfl
theorem wX4_isSide_1 {l : Launch} {K : aRs} {X : aXs} {J : aK} {W : Nat → aK} (hW : isW (tbX4_isSide l K X) cuX4_isSide J W) (n : Nat) (ls st : List aV) (μ : aM) (g : Nat) : W (n + 1) 1 ls st μ g = (sPush (aI 98) 3) (W n) ls st μ g := (hW n 1 ls st μ g).trans rfl
theorem wX4_isSide_3 {l : Launch} {K : aRs} {X : aXs} {J : aK} {W : Nat → aK} (hW : isW (tbX4_isSide l K X) cuX4_isSide J W) (n : Nat) (ls st : List aV) (μ : aM) (g : Nat) : W (n + 1) 3 ls st μ g = (sIc qEq 12 6) (W n) ls st μ g := (hW n 3 ls st μ g).trans rfl
theorem wX4_isSide_6 {l : Launch} {K : aRs} {X : aXs} {J : aK} {W : Nat → aK} (hW : isW (tbX4_isSide l K X) cuX4_isSide J W) (n : Nat) (ls st : List aV) (μ : aM) (g : Nat) : W (n + 1) 6 ls st μ g = (sLd 0 7 isI) (W n) ls st μ g := (hW n 6 ls st μ g).trans rfl
theorem wX4_isSide_7 {l : Launch} {K : aRs} {X : aXs} {J : aK} {W : Nat → aK} (hW : isW (tbX4_isSide l K X) cuX4_isSide J W) (n : Nat) (ls st : List aV) (μ : aM) (g : Nat) : W (n + 1) 7 ls st μ g = (sPush (aI 115) 9) (W n) ls st μ g := (hW n 7 ls st μ g).trans rfl
theorem wX4_isSide_9 {l : Launch} {K : aRs} {X : aXs} {J : aK} {W : Nat → aK} (hW : isW (tbX4_isSide l K X) cuX4_isSide J W) (n : Nat) (ls st : List aV) (μ : aM) (g : Nat) : W (n + 1) 9 ls st μ g = (sIc qNe 16 12) (W n) ls st μ g := (hW n 9 ls st μ g).trans rfl
theorem wX4_isSide_12 {l : Launch} {K : aRs} {X : aXs} {J : aK} {W : Nat → aK} (hW : isW (tbX4_isSide l K X) cuX4_isSide J W) (n : Nat) (ls st : List aV) (μ : aM) (g : Nat) : W (n + 1) 12 ls st μ g = (sPush (aI 1) 13) (W n) ls st μ g := (hW n 12 ls st μ g).trans rfl
theorem wX4_isSide_13 {l : Launch} {K : aRs} {X : aXs} {J : aK} {W : Nat → aK} (hW : isW (tbX4_isSide l K X) cuX4_isSide J W) (n : Nat) (ls st : List aV) (μ : aM) (g : Nat) : W (n + 1) 13 ls st μ g = (sGoto 17) (W n) ls st μ g := (hW n 13 ls st μ g).trans rfl
theorem wX4_isSide_16 {l : Launch} {K : aRs} {X : aXs} {J : aK} {W : Nat → aK} (hW : isW (tbX4_isSide l K X) cuX4_isSide J W) (n : Nat) (ls st : List aV) (μ : aM) (g : Nat) : W (n + 1) 16 ls st μ g = (sPush (aI 0) 17) (W n) ls st μ g := (hW n 16 ls st μ g).trans rfl
theorem wX4_isSide_17 {l : Launch} {K : aRs} {X : aXs} {J : aK} {W : Nat → aK} (hW : isW (tbX4_isSide l K X) cuX4_isSide J W) (n : Nat) (ls st : List aV) (μ : aM) (g : Nat) : W (n + 1) 17 ls st μ g = (sRetI .boolean 0 K) (W n) ls st μ g := (hW n 17 ls st μ g).trans rfl
theorem dX4_isAmount_0 : decode cX4_isAmount 0 = .ok (.iload_n 0, 1) := by decide +kernel
theorem dX4_isAmount_1 : decode cX4_isAmount 1 = .ok (.iconst 1, 1) := by decide +kernel
theorem dX4_isAmount_2 : decode cX4_isAmount 2 = .ok (.if_icmp .lt 13, 3) := by decide +kernel
theorem dX4_isAmount_5 : decode cX4_isAmount 5 = .ok (.iload_n 0, 1) := by decide +kernel
theorem dX4_isAmount_6 : decode cX4_isAmount 6 = .ok (.bipush 99, 2) := by decide +kernel
theorem dX4_isAmount_8 : decode cX4_isAmount 8 = .ok (.if_icmp .gt 7, 3) := by decide +kernel
theorem dX4_isAmount_11 : decode cX4_isAmount 11 = .ok (.iconst 1, 1) := by decide +kernel
theorem dX4_isAmount_12 : decode cX4_isAmount 12 = .ok (.goto 4, 3) := by decide +kernel
theorem dX4_isAmount_15 : decode cX4_isAmount 15 = .ok (.iconst 0, 1) := by decide +kernel
theorem dX4_isAmount_16 : decode cX4_isAmount 16 = .ok (.ireturn, 1) := by decide +kernel
def tbX4_isAmount (l : Launch) (K : aRs) (X : aXs) : aTb := [
  (0, sLd 0 1 isI),
  (1, sPush (aI 1) 2),
  (2, sIc qLt 15 5),
  (5, sLd 0 6 isI),
  (6, sPush (aI 99) 8),
  (8, sIc qGt 15 11),
  (11, sPush (aI 1) 12),
  (12, sGoto 16),
  (15, sPush (aI 0) 16),
  (16, sRetI .boolean 0 K)]
theorem snX4_isAmount (l : Launch) (K : aRs) (X : aXs) (n0 : Nat) : ∀ q ∈ tbX4_isAmount l K X, aSo l mdX4_isAmount K X n0 q.1 q.2 :=
  tc (fun p e s m args below meth c cA D A ad0 h => ok_iload_n h.1 0 rfl dX4_isAmount_0) <|
  tc (fun p e s m args below meth c cA D A ad0 h => ok_iconst h.1 ⟨by decide, by decide⟩ dX4_isAmount_1) <|
  tc (fun p e s m args below meth c cA D A ad0 h => ok_icmp_lt h.1 15 (by decide) dX4_isAmount_2) <|
  tc (fun p e s m args below meth c cA D A ad0 h => ok_iload_n h.1 0 rfl dX4_isAmount_5) <|
  tc (fun p e s m args below meth c cA D A ad0 h => ok_bipush h.1 ⟨by decide, by decide⟩ (by decide) dX4_isAmount_6) <|
  tc (fun p e s m args below meth c cA D A ad0 h => ok_icmp_gt h.1 15 (by decide) dX4_isAmount_8) <|
  tc (fun p e s m args below meth c cA D A ad0 h => ok_iconst h.1 ⟨by decide, by decide⟩ dX4_isAmount_11) <|
  tc (fun p e s m args below meth c cA D A ad0 h => ok_goto h.1 16 (by decide) dX4_isAmount_12) <|
  tc (fun p e s m args below meth c cA D A ad0 h => ok_iconst h.1 ⟨by decide, by decide⟩ dX4_isAmount_15) <|
  tc (fun p e s m args below meth c cA D A ad0 h => ok_ireturn h.1 h.2.2.2.1 (Or.inr (Or.inl rfl)) dX4_isAmount_16) <|
  tn
abbrev cuX4_isAmount : List Nat := []
theorem tX4_isAmount_0 (l : Launch) (K : aRs) (X : aXs) : tb (tbX4_isAmount l K X) 0 = sLd 0 1 isI := (rfl)
theorem wX4_isAmount_0 {l : Launch} {K : aRs} {X : aXs} {J : aK} {W : Nat → aK} (hW : isW (tbX4_isAmount l K X) cuX4_isAmount J W) (n : Nat) (ls st : List aV) (μ : aM) (g : Nat) : W (n + 1) 0 ls st μ g = (sLd 0 1 isI) (W n) ls st μ g := (hW n 0 ls st μ g).trans rfl
theorem wX4_isAmount_1 {l : Launch} {K : aRs} {X : aXs} {J : aK} {W : Nat → aK} (hW : isW (tbX4_isAmount l K X) cuX4_isAmount J W) (n : Nat) (ls st : List aV) (μ : aM) (g : Nat) : W (n + 1) 1 ls st μ g = (sPush (aI 1) 2) (W n) ls st μ g := (hW n 1 ls st μ g).trans rfl
theorem wX4_isAmount_2 {l : Launch} {K : aRs} {X : aXs} {J : aK} {W : Nat → aK} (hW : isW (tbX4_isAmount l K X) cuX4_isAmount J W) (n : Nat) (ls st : List aV) (μ : aM) (g : Nat) : W (n + 1) 2 ls st μ g = (sIc qLt 15 5) (W n) ls st μ g := (hW n 2 ls st μ g).trans rfl
theorem wX4_isAmount_5 {l : Launch} {K : aRs} {X : aXs} {J : aK} {W : Nat → aK} (hW : isW (tbX4_isAmount l K X) cuX4_isAmount J W) (n : Nat) (ls st : List aV) (μ : aM) (g : Nat) : W (n + 1) 5 ls st μ g = (sLd 0 6 isI) (W n) ls st μ g := (hW n 5 ls st μ g).trans rfl
theorem wX4_isAmount_6 {l : Launch} {K : aRs} {X : aXs} {J : aK} {W : Nat → aK} (hW : isW (tbX4_isAmount l K X) cuX4_isAmount J W) (n : Nat) (ls st : List aV) (μ : aM) (g : Nat) : W (n + 1) 6 ls st μ g = (sPush (aI 99) 8) (W n) ls st μ g := (hW n 6 ls st μ g).trans rfl
theorem wX4_isAmount_8 {l : Launch} {K : aRs} {X : aXs} {J : aK} {W : Nat → aK} (hW : isW (tbX4_isAmount l K X) cuX4_isAmount J W) (n : Nat) (ls st : List aV) (μ : aM) (g : Nat) : W (n + 1) 8 ls st μ g = (sIc qGt 15 11) (W n) ls st μ g := (hW n 8 ls st μ g).trans rfl
theorem wX4_isAmount_11 {l : Launch} {K : aRs} {X : aXs} {J : aK} {W : Nat → aK} (hW : isW (tbX4_isAmount l K X) cuX4_isAmount J W) (n : Nat) (ls st : List aV) (μ : aM) (g : Nat) : W (n + 1) 11 ls st μ g = (sPush (aI 1) 12) (W n) ls st μ g := (hW n 11 ls st μ g).trans rfl
theorem wX4_isAmount_12 {l : Launch} {K : aRs} {X : aXs} {J : aK} {W : Nat → aK} (hW : isW (tbX4_isAmount l K X) cuX4_isAmount J W) (n : Nat) (ls st : List aV) (μ : aM) (g : Nat) : W (n + 1) 12 ls st μ g = (sGoto 16) (W n) ls st μ g := (hW n 12 ls st μ g).trans rfl
theorem wX4_isAmount_15 {l : Launch} {K : aRs} {X : aXs} {J : aK} {W : Nat → aK} (hW : isW (tbX4_isAmount l K X) cuX4_isAmount J W) (n : Nat) (ls st : List aV) (μ : aM) (g : Nat) : W (n + 1) 15 ls st μ g = (sPush (aI 0) 16) (W n) ls st μ g := (hW n 15 ls st μ g).trans rfl
theorem wX4_isAmount_16 {l : Launch} {K : aRs} {X : aXs} {J : aK} {W : Nat → aK} (hW : isW (tbX4_isAmount l K X) cuX4_isAmount J W) (n : Nat) (ls st : List aV) (μ : aM) (g : Nat) : W (n + 1) 16 ls st μ g = (sRetI .boolean 0 K) (W n) ls st μ g := (hW n 16 ls st μ g).trans rfl
theorem dX4_isPrice_0 : decode cX4_isPrice 0 = .ok (.iload_n 0, 1) := by decide +kernel
theorem dX4_isPrice_1 : decode cX4_isPrice 1 = .ok (.iconst 1, 1) := by decide +kernel
theorem dX4_isPrice_2 : decode cX4_isPrice 2 = .ok (.if_icmp .lt 10, 3) := by decide +kernel
theorem dX4_isPrice_5 : decode cX4_isPrice 5 = .ok (.iload_n 0, 1) := by decide +kernel
theorem dX4_isPrice_6 : decode cX4_isPrice 6 = .ok (.sipush 300, 3) := by decide +kernel
theorem dX4_isPrice_9 : decode cX4_isPrice 9 = .ok (.if_icmp .le 5, 3) := by decide +kernel
theorem dX4_isPrice_12 : decode cX4_isPrice 12 = .ok (.iconst 0, 1) := by decide +kernel
theorem dX4_isPrice_13 : decode cX4_isPrice 13 = .ok (.ireturn, 1) := by decide +kernel
theorem dX4_isPrice_14 : decode cX4_isPrice 14 = .ok (.iload_n 0, 1) := by decide +kernel
theorem dX4_isPrice_15 : decode cX4_isPrice 15 = .ok (.bipush 100, 2) := by decide +kernel
theorem dX4_isPrice_17 : decode cX4_isPrice 17 = .ok (.if_icmp .ge 5, 3) := by decide +kernel
theorem dX4_isPrice_20 : decode cX4_isPrice 20 = .ok (.iconst 1, 1) := by decide +kernel
theorem dX4_isPrice_21 : decode cX4_isPrice 21 = .ok (.ireturn, 1) := by decide +kernel
theorem dX4_isPrice_22 : decode cX4_isPrice 22 = .ok (.iload_n 0, 1) := by decide +kernel
theorem dX4_isPrice_23 : decode cX4_isPrice 23 = .ok (.sipush 200, 3) := by decide +kernel
theorem dX4_isPrice_26 : decode cX4_isPrice 26 = .ok (.if_icmp .ge 17, 3) := by decide +kernel
theorem dX4_isPrice_29 : decode cX4_isPrice 29 = .ok (.iload_n 0, 1) := by decide +kernel
theorem dX4_isPrice_30 : decode cX4_isPrice 30 = .ok (.iconst 2, 1) := by decide +kernel
theorem dX4_isPrice_31 : decode cX4_isPrice 31 = .ok (.irem, 1) := by decide +kernel
theorem dX4_isPrice_32 : decode cX4_isPrice 32 = .ok (.ifCond .ne 7, 3) := by decide +kernel
theorem dX4_isPrice_35 : decode cX4_isPrice 35 = .ok (.iconst 1, 1) := by decide +kernel
theorem dX4_isPrice_36 : decode cX4_isPrice 36 = .ok (.goto 18, 3) := by decide +kernel
theorem dX4_isPrice_39 : decode cX4_isPrice 39 = .ok (.iconst 0, 1) := by decide +kernel
theorem dX4_isPrice_40 : decode cX4_isPrice 40 = .ok (.goto 14, 3) := by decide +kernel
theorem dX4_isPrice_43 : decode cX4_isPrice 43 = .ok (.iload_n 0, 1) := by decide +kernel
theorem dX4_isPrice_44 : decode cX4_isPrice 44 = .ok (.iconst 5, 1) := by decide +kernel
theorem dX4_isPrice_45 : decode cX4_isPrice 45 = .ok (.irem, 1) := by decide +kernel
theorem dX4_isPrice_46 : decode cX4_isPrice 46 = .ok (.ifCond .ne 7, 3) := by decide +kernel
theorem dX4_isPrice_49 : decode cX4_isPrice 49 = .ok (.iconst 1, 1) := by decide +kernel
theorem dX4_isPrice_50 : decode cX4_isPrice 50 = .ok (.goto 4, 3) := by decide +kernel
theorem dX4_isPrice_53 : decode cX4_isPrice 53 = .ok (.iconst 0, 1) := by decide +kernel
theorem dX4_isPrice_54 : decode cX4_isPrice 54 = .ok (.ireturn, 1) := by decide +kernel
def tbX4_isPrice (l : Launch) (K : aRs) (X : aXs) : aTb := [
  (0, sLd 0 1 isI),
  (1, sPush (aI 1) 2),
  (2, sIc qLt 12 5),
  (5, sLd 0 6 isI),
  (6, sPush (aI 300) 9),
  (9, sIc qLe 14 12),
  (12, sPush (aI 0) 13),
  (13, sRetI .boolean 0 K),
  (14, sLd 0 15 isI),
  (15, sPush (aI 100) 17),
  (17, sIc qGe 22 20),
  (20, sPush (aI 1) 21),
  (21, sRetI .boolean 0 K),
  (22, sLd 0 23 isI),
  (23, sPush (aI 200) 26),
  (26, sIc qGe 43 29),
  (29, sLd 0 30 isI),
  (30, sPush (aI 2) 31),
  (31, sRem 32),
  (32, sIf pNe 39 35),
  (35, sPush (aI 1) 36),
  (36, sGoto 54),
  (39, sPush (aI 0) 40),
  (40, sGoto 54),
  (43, sLd 0 44 isI),
  (44, sPush (aI 5) 45),
  (45, sRem 46),
  (46, sIf pNe 53 49),
  (49, sPush (aI 1) 50),
  (50, sGoto 54),
  (53, sPush (aI 0) 54),
  (54, sRetI .boolean 0 K)]
theorem snX4_isPrice (l : Launch) (K : aRs) (X : aXs) (n0 : Nat) : ∀ q ∈ tbX4_isPrice l K X, aSo l mdX4_isPrice K X n0 q.1 q.2 :=
  tc (fun p e s m args below meth c cA D A ad0 h => ok_iload_n h.1 0 rfl dX4_isPrice_0) <|
  tc (fun p e s m args below meth c cA D A ad0 h => ok_iconst h.1 ⟨by decide, by decide⟩ dX4_isPrice_1) <|
  tc (fun p e s m args below meth c cA D A ad0 h => ok_icmp_lt h.1 12 (by decide) dX4_isPrice_2) <|
  tc (fun p e s m args below meth c cA D A ad0 h => ok_iload_n h.1 0 rfl dX4_isPrice_5) <|
  tc (fun p e s m args below meth c cA D A ad0 h => ok_sipush h.1 ⟨by decide, by decide⟩ (by decide) dX4_isPrice_6) <|
  tc (fun p e s m args below meth c cA D A ad0 h => ok_icmp_le h.1 14 (by decide) dX4_isPrice_9) <|
  tc (fun p e s m args below meth c cA D A ad0 h => ok_iconst h.1 ⟨by decide, by decide⟩ dX4_isPrice_12) <|
  tc (fun p e s m args below meth c cA D A ad0 h => ok_ireturn h.1 h.2.2.2.1 (Or.inr (Or.inl rfl)) dX4_isPrice_13) <|
  tc (fun p e s m args below meth c cA D A ad0 h => ok_iload_n h.1 0 rfl dX4_isPrice_14) <|
  tc (fun p e s m args below meth c cA D A ad0 h => ok_bipush h.1 ⟨by decide, by decide⟩ (by decide) dX4_isPrice_15) <|
  tc (fun p e s m args below meth c cA D A ad0 h => ok_icmp_ge h.1 22 (by decide) dX4_isPrice_17) <|
  tc (fun p e s m args below meth c cA D A ad0 h => ok_iconst h.1 ⟨by decide, by decide⟩ dX4_isPrice_20) <|
  tc (fun p e s m args below meth c cA D A ad0 h => ok_ireturn h.1 h.2.2.2.1 (Or.inr (Or.inl rfl)) dX4_isPrice_21) <|
  tc (fun p e s m args below meth c cA D A ad0 h => ok_iload_n h.1 0 rfl dX4_isPrice_22) <|
  tc (fun p e s m args below meth c cA D A ad0 h => ok_sipush h.1 ⟨by decide, by decide⟩ (by decide) dX4_isPrice_23) <|
  tc (fun p e s m args below meth c cA D A ad0 h => ok_icmp_ge h.1 43 (by decide) dX4_isPrice_26) <|
  tc (fun p e s m args below meth c cA D A ad0 h => ok_iload_n h.1 0 rfl dX4_isPrice_29) <|
  tc (fun p e s m args below meth c cA D A ad0 h => ok_iconst h.1 ⟨by decide, by decide⟩ dX4_isPrice_30) <|
  tc (fun p e s m args below meth c cA D A ad0 h => ok_irem h.1 dX4_isPrice_31) <|
  tc (fun p e s m args below meth c cA D A ad0 h => ok_if_ne h.1 39 (by decide) dX4_isPrice_32) <|
  tc (fun p e s m args below meth c cA D A ad0 h => ok_iconst h.1 ⟨by decide, by decide⟩ dX4_isPrice_35) <|
  tc (fun p e s m args below meth c cA D A ad0 h => ok_goto h.1 54 (by decide) dX4_isPrice_36) <|
  tc (fun p e s m args below meth c cA D A ad0 h => ok_iconst h.1 ⟨by decide, by decide⟩ dX4_isPrice_39) <|
  tc (fun p e s m args below meth c cA D A ad0 h => ok_goto h.1 54 (by decide) dX4_isPrice_40) <|
  tc (fun p e s m args below meth c cA D A ad0 h => ok_iload_n h.1 0 rfl dX4_isPrice_43) <|
  tc (fun p e s m args below meth c cA D A ad0 h => ok_iconst h.1 ⟨by decide, by decide⟩ dX4_isPrice_44) <|
  tc (fun p e s m args below meth c cA D A ad0 h => ok_irem h.1 dX4_isPrice_45) <|
  tc (fun p e s m args below meth c cA D A ad0 h => ok_if_ne h.1 53 (by decide) dX4_isPrice_46) <|
  tc (fun p e s m args below meth c cA D A ad0 h => ok_iconst h.1 ⟨by decide, by decide⟩ dX4_isPrice_49) <|
  tc (fun p e s m args below meth c cA D A ad0 h => ok_goto h.1 54 (by decide) dX4_isPrice_50) <|
  tc (fun p e s m args below meth c cA D A ad0 h => ok_iconst h.1 ⟨by decide, by decide⟩ dX4_isPrice_53) <|
  tc (fun p e s m args below meth c cA D A ad0 h => ok_ireturn h.1 h.2.2.2.1 (Or.inr (Or.inl rfl)) dX4_isPrice_54) <|
  tn
abbrev cuX4_isPrice : List Nat := []
theorem tX4_isPrice_0 (l : Launch) (K : aRs) (X : aXs) : tb (tbX4_isPrice l K X) 0 = sLd 0 1 isI := (rfl)
theorem wX4_isPrice_0 {l : Launch} {K : aRs} {X : aXs} {J : aK} {W : Nat → aK} (hW : isW (tbX4_isPrice l K X) cuX4_isPrice J W) (n : Nat) (ls st : List aV) (μ : aM) (g : Nat) : W (n + 1) 0 ls st μ g = (sLd 0 1 isI) (W n) ls st μ g := (hW n 0 ls st μ g).trans rfl
theorem wX4_isPrice_1 {l : Launch} {K : aRs} {X : aXs} {J : aK} {W : Nat → aK} (hW : isW (tbX4_isPrice l K X) cuX4_isPrice J W) (n : Nat) (ls st : List aV) (μ : aM) (g : Nat) : W (n + 1) 1 ls st μ g = (sPush (aI 1) 2) (W n) ls st μ g := (hW n 1 ls st μ g).trans rfl
theorem wX4_isPrice_2 {l : Launch} {K : aRs} {X : aXs} {J : aK} {W : Nat → aK} (hW : isW (tbX4_isPrice l K X) cuX4_isPrice J W) (n : Nat) (ls st : List aV) (μ : aM) (g : Nat) : W (n + 1) 2 ls st μ g = (sIc qLt 12 5) (W n) ls st μ g := (hW n 2 ls st μ g).trans rfl
theorem wX4_isPrice_5 {l : Launch} {K : aRs} {X : aXs} {J : aK} {W : Nat → aK} (hW : isW (tbX4_isPrice l K X) cuX4_isPrice J W) (n : Nat) (ls st : List aV) (μ : aM) (g : Nat) : W (n + 1) 5 ls st μ g = (sLd 0 6 isI) (W n) ls st μ g := (hW n 5 ls st μ g).trans rfl
theorem wX4_isPrice_6 {l : Launch} {K : aRs} {X : aXs} {J : aK} {W : Nat → aK} (hW : isW (tbX4_isPrice l K X) cuX4_isPrice J W) (n : Nat) (ls st : List aV) (μ : aM) (g : Nat) : W (n + 1) 6 ls st μ g = (sPush (aI 300) 9) (W n) ls st μ g := (hW n 6 ls st μ g).trans rfl
theorem wX4_isPrice_9 {l : Launch} {K : aRs} {X : aXs} {J : aK} {W : Nat → aK} (hW : isW (tbX4_isPrice l K X) cuX4_isPrice J W) (n : Nat) (ls st : List aV) (μ : aM) (g : Nat) : W (n + 1) 9 ls st μ g = (sIc qLe 14 12) (W n) ls st μ g := (hW n 9 ls st μ g).trans rfl
theorem wX4_isPrice_12 {l : Launch} {K : aRs} {X : aXs} {J : aK} {W : Nat → aK} (hW : isW (tbX4_isPrice l K X) cuX4_isPrice J W) (n : Nat) (ls st : List aV) (μ : aM) (g : Nat) : W (n + 1) 12 ls st μ g = (sPush (aI 0) 13) (W n) ls st μ g := (hW n 12 ls st μ g).trans rfl
theorem wX4_isPrice_13 {l : Launch} {K : aRs} {X : aXs} {J : aK} {W : Nat → aK} (hW : isW (tbX4_isPrice l K X) cuX4_isPrice J W) (n : Nat) (ls st : List aV) (μ : aM) (g : Nat) : W (n + 1) 13 ls st μ g = (sRetI .boolean 0 K) (W n) ls st μ g := (hW n 13 ls st μ g).trans rfl
theorem wX4_isPrice_14 {l : Launch} {K : aRs} {X : aXs} {J : aK} {W : Nat → aK} (hW : isW (tbX4_isPrice l K X) cuX4_isPrice J W) (n : Nat) (ls st : List aV) (μ : aM) (g : Nat) : W (n + 1) 14 ls st μ g = (sLd 0 15 isI) (W n) ls st μ g := (hW n 14 ls st μ g).trans rfl
theorem wX4_isPrice_15 {l : Launch} {K : aRs} {X : aXs} {J : aK} {W : Nat → aK} (hW : isW (tbX4_isPrice l K X) cuX4_isPrice J W) (n : Nat) (ls st : List aV) (μ : aM) (g : Nat) : W (n + 1) 15 ls st μ g = (sPush (aI 100) 17) (W n) ls st μ g := (hW n 15 ls st μ g).trans rfl
theorem wX4_isPrice_17 {l : Launch} {K : aRs} {X : aXs} {J : aK} {W : Nat → aK} (hW : isW (tbX4_isPrice l K X) cuX4_isPrice J W) (n : Nat) (ls st : List aV) (μ : aM) (g : Nat) : W (n + 1) 17 ls st μ g = (sIc qGe 22 20) (W n) ls st μ g := (hW n 17 ls st μ g).trans rfl
theorem wX4_isPrice_20 {l : Launch} {K : aRs} {X : aXs} {J : aK} {W : Nat → aK} (hW : isW (tbX4_isPrice l K X) cuX4_isPrice J W) (n : Nat) (ls st : List aV) (μ : aM) (g : Nat) : W (n + 1) 20 ls st μ g = (sPush (aI 1) 21) (W n) ls st μ g := (hW n 20 ls st μ g).trans rfl
theorem wX4_isPrice_21 {l : Launch} {K : aRs} {X : aXs} {J : aK} {W : Nat → aK} (hW : isW (tbX4_isPrice l K X) cuX4_isPrice J W) (n : Nat) (ls st : List aV) (μ : aM) (g : Nat) : W (n + 1) 21 ls st μ g = (sRetI .boolean 0 K) (W n) ls st μ g := (hW n 21 ls st μ g).trans rfl
theorem wX4_isPrice_22 {l : Launch} {K : aRs} {X : aXs} {J : aK} {W : Nat → aK} (hW : isW (tbX4_isPrice l K X) cuX4_isPrice J W) (n : Nat) (ls st : List aV) (μ : aM) (g : Nat) : W (n + 1) 22 ls st μ g = (sLd 0 23 isI) (W n) ls st μ g := (hW n 22 ls st μ g).trans rfl
theorem wX4_isPrice_23 {l : Launch} {K : aRs} {X : aXs} {J : aK} {W : Nat → aK} (hW : isW (tbX4_isPrice l K X) cuX4_isPrice J W) (n : Nat) (ls st : List aV) (μ : aM) (g : Nat) : W (n + 1) 23 ls st μ g = (sPush (aI 200) 26) (W n) ls st μ g := (hW n 23 ls st μ g).trans rfl
theorem wX4_isPrice_26 {l : Launch} {K : aRs} {X : aXs} {J : aK} {W : Nat → aK} (hW : isW (tbX4_isPrice l K X) cuX4_isPrice J W) (n : Nat) (ls st : List aV) (μ : aM) (g : Nat) : W (n + 1) 26 ls st μ g = (sIc qGe 43 29) (W n) ls st μ g := (hW n 26 ls st μ g).trans rfl
theorem wX4_isPrice_29 {l : Launch} {K : aRs} {X : aXs} {J : aK} {W : Nat → aK} (hW : isW (tbX4_isPrice l K X) cuX4_isPrice J W) (n : Nat) (ls st : List aV) (μ : aM) (g : Nat) : W (n + 1) 29 ls st μ g = (sLd 0 30 isI) (W n) ls st μ g := (hW n 29 ls st μ g).trans rfl
theorem wX4_isPrice_30 {l : Launch} {K : aRs} {X : aXs} {J : aK} {W : Nat → aK} (hW : isW (tbX4_isPrice l K X) cuX4_isPrice J W) (n : Nat) (ls st : List aV) (μ : aM) (g : Nat) : W (n + 1) 30 ls st μ g = (sPush (aI 2) 31) (W n) ls st μ g := (hW n 30 ls st μ g).trans rfl
theorem wX4_isPrice_31 {l : Launch} {K : aRs} {X : aXs} {J : aK} {W : Nat → aK} (hW : isW (tbX4_isPrice l K X) cuX4_isPrice J W) (n : Nat) (ls st : List aV) (μ : aM) (g : Nat) : W (n + 1) 31 ls st μ g = (sRem 32) (W n) ls st μ g := (hW n 31 ls st μ g).trans rfl
theorem wX4_isPrice_32 {l : Launch} {K : aRs} {X : aXs} {J : aK} {W : Nat → aK} (hW : isW (tbX4_isPrice l K X) cuX4_isPrice J W) (n : Nat) (ls st : List aV) (μ : aM) (g : Nat) : W (n + 1) 32 ls st μ g = (sIf pNe 39 35) (W n) ls st μ g := (hW n 32 ls st μ g).trans rfl
theorem wX4_isPrice_35 {l : Launch} {K : aRs} {X : aXs} {J : aK} {W : Nat → aK} (hW : isW (tbX4_isPrice l K X) cuX4_isPrice J W) (n : Nat) (ls st : List aV) (μ : aM) (g : Nat) : W (n + 1) 35 ls st μ g = (sPush (aI 1) 36) (W n) ls st μ g := (hW n 35 ls st μ g).trans rfl
theorem wX4_isPrice_36 {l : Launch} {K : aRs} {X : aXs} {J : aK} {W : Nat → aK} (hW : isW (tbX4_isPrice l K X) cuX4_isPrice J W) (n : Nat) (ls st : List aV) (μ : aM) (g : Nat) : W (n + 1) 36 ls st μ g = (sGoto 54) (W n) ls st μ g := (hW n 36 ls st μ g).trans rfl
theorem wX4_isPrice_39 {l : Launch} {K : aRs} {X : aXs} {J : aK} {W : Nat → aK} (hW : isW (tbX4_isPrice l K X) cuX4_isPrice J W) (n : Nat) (ls st : List aV) (μ : aM) (g : Nat) : W (n + 1) 39 ls st μ g = (sPush (aI 0) 40) (W n) ls st μ g := (hW n 39 ls st μ g).trans rfl
theorem wX4_isPrice_40 {l : Launch} {K : aRs} {X : aXs} {J : aK} {W : Nat → aK} (hW : isW (tbX4_isPrice l K X) cuX4_isPrice J W) (n : Nat) (ls st : List aV) (μ : aM) (g : Nat) : W (n + 1) 40 ls st μ g = (sGoto 54) (W n) ls st μ g := (hW n 40 ls st μ g).trans rfl
theorem wX4_isPrice_43 {l : Launch} {K : aRs} {X : aXs} {J : aK} {W : Nat → aK} (hW : isW (tbX4_isPrice l K X) cuX4_isPrice J W) (n : Nat) (ls st : List aV) (μ : aM) (g : Nat) : W (n + 1) 43 ls st μ g = (sLd 0 44 isI) (W n) ls st μ g := (hW n 43 ls st μ g).trans rfl
theorem wX4_isPrice_44 {l : Launch} {K : aRs} {X : aXs} {J : aK} {W : Nat → aK} (hW : isW (tbX4_isPrice l K X) cuX4_isPrice J W) (n : Nat) (ls st : List aV) (μ : aM) (g : Nat) : W (n + 1) 44 ls st μ g = (sPush (aI 5) 45) (W n) ls st μ g := (hW n 44 ls st μ g).trans rfl
theorem wX4_isPrice_45 {l : Launch} {K : aRs} {X : aXs} {J : aK} {W : Nat → aK} (hW : isW (tbX4_isPrice l K X) cuX4_isPrice J W) (n : Nat) (ls st : List aV) (μ : aM) (g : Nat) : W (n + 1) 45 ls st μ g = (sRem 46) (W n) ls st μ g := (hW n 45 ls st μ g).trans rfl
theorem wX4_isPrice_46 {l : Launch} {K : aRs} {X : aXs} {J : aK} {W : Nat → aK} (hW : isW (tbX4_isPrice l K X) cuX4_isPrice J W) (n : Nat) (ls st : List aV) (μ : aM) (g : Nat) : W (n + 1) 46 ls st μ g = (sIf pNe 53 49) (W n) ls st μ g := (hW n 46 ls st μ g).trans rfl
theorem wX4_isPrice_49 {l : Launch} {K : aRs} {X : aXs} {J : aK} {W : Nat → aK} (hW : isW (tbX4_isPrice l K X) cuX4_isPrice J W) (n : Nat) (ls st : List aV) (μ : aM) (g : Nat) : W (n + 1) 49 ls st μ g = (sPush (aI 1) 50) (W n) ls st μ g := (hW n 49 ls st μ g).trans rfl
theorem wX4_isPrice_50 {l : Launch} {K : aRs} {X : aXs} {J : aK} {W : Nat → aK} (hW : isW (tbX4_isPrice l K X) cuX4_isPrice J W) (n : Nat) (ls st : List aV) (μ : aM) (g : Nat) : W (n + 1) 50 ls st μ g = (sGoto 54) (W n) ls st μ g := (hW n 50 ls st μ g).trans rfl
theorem wX4_isPrice_53 {l : Launch} {K : aRs} {X : aXs} {J : aK} {W : Nat → aK} (hW : isW (tbX4_isPrice l K X) cuX4_isPrice J W) (n : Nat) (ls st : List aV) (μ : aM) (g : Nat) : W (n + 1) 53 ls st μ g = (sPush (aI 0) 54) (W n) ls st μ g := (hW n 53 ls st μ g).trans rfl
theorem wX4_isPrice_54 {l : Launch} {K : aRs} {X : aXs} {J : aK} {W : Nat → aK} (hW : isW (tbX4_isPrice l K X) cuX4_isPrice J W) (n : Nat) (ls st : List aV) (μ : aM) (g : Nat) : W (n + 1) 54 ls st μ g = (sRetI .boolean 0 K) (W n) ls st μ g := (hW n 54 ls st μ g).trans rfl
theorem dX4_stepAt_0 : decode cX4_stepAt 0 = .ok (.iload_n 0, 1) := by decide +kernel
theorem dX4_stepAt_1 : decode cX4_stepAt 1 = .ok (.bipush 100, 2) := by decide +kernel
theorem dX4_stepAt_3 : decode cX4_stepAt 3 = .ok (.if_icmp .ge 5, 3) := by decide +kernel
theorem dX4_stepAt_6 : decode cX4_stepAt 6 = .ok (.iconst 1, 1) := by decide +kernel
theorem dX4_stepAt_7 : decode cX4_stepAt 7 = .ok (.ireturn, 1) := by decide +kernel
theorem dX4_stepAt_8 : decode cX4_stepAt 8 = .ok (.iload_n 0, 1) := by decide +kernel
theorem dX4_stepAt_9 : decode cX4_stepAt 9 = .ok (.sipush 200, 3) := by decide +kernel
theorem dX4_stepAt_12 : decode cX4_stepAt 12 = .ok (.if_icmp .ge 7, 3) := by decide +kernel
theorem dX4_stepAt_15 : decode cX4_stepAt 15 = .ok (.iconst 2, 1) := by decide +kernel
theorem dX4_stepAt_16 : decode cX4_stepAt 16 = .ok (.goto 4, 3) := by decide +kernel
theorem dX4_stepAt_19 : decode cX4_stepAt 19 = .ok (.iconst 5, 1) := by decide +kernel
theorem dX4_stepAt_20 : decode cX4_stepAt 20 = .ok (.ireturn, 1) := by decide +kernel
def tbX4_stepAt (l : Launch) (K : aRs) (X : aXs) : aTb := [
  (0, sLd 0 1 isI),
  (1, sPush (aI 100) 3),
  (3, sIc qGe 8 6),
  (6, sPush (aI 1) 7),
  (7, sRetI .int 0 K),
  (8, sLd 0 9 isI),
  (9, sPush (aI 200) 12),
  (12, sIc qGe 19 15),
  (15, sPush (aI 2) 16),
  (16, sGoto 20),
  (19, sPush (aI 5) 20),
  (20, sRetI .int 0 K)]
theorem snX4_stepAt (l : Launch) (K : aRs) (X : aXs) (n0 : Nat) : ∀ q ∈ tbX4_stepAt l K X, aSo l mdX4_stepAt K X n0 q.1 q.2 :=
  tc (fun p e s m args below meth c cA D A ad0 h => ok_iload_n h.1 0 rfl dX4_stepAt_0) <|
  tc (fun p e s m args below meth c cA D A ad0 h => ok_bipush h.1 ⟨by decide, by decide⟩ (by decide) dX4_stepAt_1) <|
  tc (fun p e s m args below meth c cA D A ad0 h => ok_icmp_ge h.1 8 (by decide) dX4_stepAt_3) <|
  tc (fun p e s m args below meth c cA D A ad0 h => ok_iconst h.1 ⟨by decide, by decide⟩ dX4_stepAt_6) <|
  tc (fun p e s m args below meth c cA D A ad0 h => ok_ireturn h.1 h.2.2.2.1 (Or.inl rfl) dX4_stepAt_7) <|
  tc (fun p e s m args below meth c cA D A ad0 h => ok_iload_n h.1 0 rfl dX4_stepAt_8) <|
  tc (fun p e s m args below meth c cA D A ad0 h => ok_sipush h.1 ⟨by decide, by decide⟩ (by decide) dX4_stepAt_9) <|
  tc (fun p e s m args below meth c cA D A ad0 h => ok_icmp_ge h.1 19 (by decide) dX4_stepAt_12) <|
  tc (fun p e s m args below meth c cA D A ad0 h => ok_iconst h.1 ⟨by decide, by decide⟩ dX4_stepAt_15) <|
  tc (fun p e s m args below meth c cA D A ad0 h => ok_goto h.1 20 (by decide) dX4_stepAt_16) <|
  tc (fun p e s m args below meth c cA D A ad0 h => ok_iconst h.1 ⟨by decide, by decide⟩ dX4_stepAt_19) <|
  tc (fun p e s m args below meth c cA D A ad0 h => ok_ireturn h.1 h.2.2.2.1 (Or.inl rfl) dX4_stepAt_20) <|
  tn
abbrev cuX4_stepAt : List Nat := []
theorem tX4_stepAt_0 (l : Launch) (K : aRs) (X : aXs) : tb (tbX4_stepAt l K X) 0 = sLd 0 1 isI := (rfl)
theorem wX4_stepAt_0 {l : Launch} {K : aRs} {X : aXs} {J : aK} {W : Nat → aK} (hW : isW (tbX4_stepAt l K X) cuX4_stepAt J W) (n : Nat) (ls st : List aV) (μ : aM) (g : Nat) : W (n + 1) 0 ls st μ g = (sLd 0 1 isI) (W n) ls st μ g := (hW n 0 ls st μ g).trans rfl
theorem wX4_stepAt_1 {l : Launch} {K : aRs} {X : aXs} {J : aK} {W : Nat → aK} (hW : isW (tbX4_stepAt l K X) cuX4_stepAt J W) (n : Nat) (ls st : List aV) (μ : aM) (g : Nat) : W (n + 1) 1 ls st μ g = (sPush (aI 100) 3) (W n) ls st μ g := (hW n 1 ls st μ g).trans rfl
theorem wX4_stepAt_3 {l : Launch} {K : aRs} {X : aXs} {J : aK} {W : Nat → aK} (hW : isW (tbX4_stepAt l K X) cuX4_stepAt J W) (n : Nat) (ls st : List aV) (μ : aM) (g : Nat) : W (n + 1) 3 ls st μ g = (sIc qGe 8 6) (W n) ls st μ g := (hW n 3 ls st μ g).trans rfl
theorem wX4_stepAt_6 {l : Launch} {K : aRs} {X : aXs} {J : aK} {W : Nat → aK} (hW : isW (tbX4_stepAt l K X) cuX4_stepAt J W) (n : Nat) (ls st : List aV) (μ : aM) (g : Nat) : W (n + 1) 6 ls st μ g = (sPush (aI 1) 7) (W n) ls st μ g := (hW n 6 ls st μ g).trans rfl
theorem wX4_stepAt_7 {l : Launch} {K : aRs} {X : aXs} {J : aK} {W : Nat → aK} (hW : isW (tbX4_stepAt l K X) cuX4_stepAt J W) (n : Nat) (ls st : List aV) (μ : aM) (g : Nat) : W (n + 1) 7 ls st μ g = (sRetI .int 0 K) (W n) ls st μ g := (hW n 7 ls st μ g).trans rfl
theorem wX4_stepAt_8 {l : Launch} {K : aRs} {X : aXs} {J : aK} {W : Nat → aK} (hW : isW (tbX4_stepAt l K X) cuX4_stepAt J W) (n : Nat) (ls st : List aV) (μ : aM) (g : Nat) : W (n + 1) 8 ls st μ g = (sLd 0 9 isI) (W n) ls st μ g := (hW n 8 ls st μ g).trans rfl
theorem wX4_stepAt_9 {l : Launch} {K : aRs} {X : aXs} {J : aK} {W : Nat → aK} (hW : isW (tbX4_stepAt l K X) cuX4_stepAt J W) (n : Nat) (ls st : List aV) (μ : aM) (g : Nat) : W (n + 1) 9 ls st μ g = (sPush (aI 200) 12) (W n) ls st μ g := (hW n 9 ls st μ g).trans rfl
theorem wX4_stepAt_12 {l : Launch} {K : aRs} {X : aXs} {J : aK} {W : Nat → aK} (hW : isW (tbX4_stepAt l K X) cuX4_stepAt J W) (n : Nat) (ls st : List aV) (μ : aM) (g : Nat) : W (n + 1) 12 ls st μ g = (sIc qGe 19 15) (W n) ls st μ g := (hW n 12 ls st μ g).trans rfl
theorem wX4_stepAt_15 {l : Launch} {K : aRs} {X : aXs} {J : aK} {W : Nat → aK} (hW : isW (tbX4_stepAt l K X) cuX4_stepAt J W) (n : Nat) (ls st : List aV) (μ : aM) (g : Nat) : W (n + 1) 15 ls st μ g = (sPush (aI 2) 16) (W n) ls st μ g := (hW n 15 ls st μ g).trans rfl
theorem wX4_stepAt_16 {l : Launch} {K : aRs} {X : aXs} {J : aK} {W : Nat → aK} (hW : isW (tbX4_stepAt l K X) cuX4_stepAt J W) (n : Nat) (ls st : List aV) (μ : aM) (g : Nat) : W (n + 1) 16 ls st μ g = (sGoto 20) (W n) ls st μ g := (hW n 16 ls st μ g).trans rfl
theorem wX4_stepAt_19 {l : Launch} {K : aRs} {X : aXs} {J : aK} {W : Nat → aK} (hW : isW (tbX4_stepAt l K X) cuX4_stepAt J W) (n : Nat) (ls st : List aV) (μ : aM) (g : Nat) : W (n + 1) 19 ls st μ g = (sPush (aI 5) 20) (W n) ls st μ g := (hW n 19 ls st μ g).trans rfl
theorem wX4_stepAt_20 {l : Launch} {K : aRs} {X : aXs} {J : aK} {W : Nat → aK} (hW : isW (tbX4_stepAt l K X) cuX4_stepAt J W) (n : Nat) (ls st : List aV) (μ : aM) (g : Nat) : W (n + 1) 20 ls st μ g = (sRetI .int 0 K) (W n) ls st μ g := (hW n 20 ls st μ g).trans rfl
theorem dX4_knownOrder_0 : decode cX4_knownOrder 0 = .ok (.aload_n 0, 1) := by decide +kernel
theorem dX4_knownOrder_1 : decode cX4_knownOrder 1 = .ok (.iload_n 1, 1) := by decide +kernel
theorem dX4_knownOrder_2 : decode cX4_knownOrder 2 = .ok (.invokevirtual 221, 3) := by decide +kernel
theorem dX4_knownOrder_5 : decode cX4_knownOrder 5 = .ok (.astore_n 2, 1) := by decide +kernel
theorem dX4_knownOrder_6 : decode cX4_knownOrder 6 = .ok (.aload_n 2, 1) := by decide +kernel
theorem dX4_knownOrder_7 : decode cX4_knownOrder 7 = .ok (.ifnonnull 11, 3) := by decide +kernel
theorem dX4_knownOrder_10 : decode cX4_knownOrder 10 = .ok (.new 174, 3) := by decide +kernel
theorem dX4_knownOrder_13 : decode cX4_knownOrder 13 = .ok (.dup, 1) := by decide +kernel
theorem dX4_knownOrder_14 : decode cX4_knownOrder 14 = .ok (.invokespecial 176, 3) := by decide +kernel
theorem dX4_knownOrder_17 : decode cX4_knownOrder 17 = .ok (.athrow, 1) := by decide +kernel
theorem dX4_knownOrder_18 : decode cX4_knownOrder 18 = .ok (.aload_n 2, 1) := by decide +kernel
theorem dX4_knownOrder_19 : decode cX4_knownOrder 19 = .ok (.areturn, 1) := by decide +kernel
def tbX4_knownOrder (l : Launch) (K : aRs) (X : aXs) : aTb := [
  (0, sLd 0 1 isR),
  (1, sLd 1 2 isI),
  (2, sCallV 1 4 (fun as μ K => Ct l mdX4_orderOf as μ K X) 5 0 1),
  (5, sSt 2 6 isR),
  (6, sLd 2 7 isR),
  (7, sNn 18 10),
  (10, sThrow 3 1 X),
  (18, sLd 2 19 isR),
  (19, sRetR 1 K)]
theorem snX4_knownOrder (l : Launch) (K : aRs) (X : aXs) (n0 : Nat) : ∀ q ∈ tbX4_knownOrder l K X, aSo l mdX4_knownOrder K X n0 q.1 q.2 :=
  tc (fun p e s m args below meth c cA D A ad0 h => ok_aload_n h.1 0 rfl dX4_knownOrder_0) <|
  tc (fun p e s m args below meth c cA D A ad0 h => ok_iload_n h.1 1 rfl dX4_knownOrder_1) <|
  tc (fun p e s m args below meth c cA D A ad0 h => ok_callV h.1 h.2.1 ⟨Nat.le_refl _, Nat.le_refl _⟩ mdX4_orderOf siX4_orderOf cxX4 mkRX4_221 imX4_orderOf seX4_orderOf ⟨by decide, by decide⟩ (aAx_out h.1 h.2.2.1 _) dX4_knownOrder_2) <|
  tc (fun p e s m args below meth c cA D A ad0 h => ok_astore_n h.1 2 rfl (by decide) dX4_knownOrder_5) <|
  tc (fun p e s m args below meth c cA D A ad0 h => ok_aload_n h.1 2 rfl dX4_knownOrder_6) <|
  tc (fun p e s m args below meth c cA D A ad0 h => ok_ifnonnull h.1 18 (by decide) dX4_knownOrder_7) <|
  tc (fun p e s m args below meth c cA D A ad0 h => ok_throw h.1 h.2.1 ⟨Nat.le_refl _, Nat.le_refl _⟩ h.2.2.1 (by decide) (by decide) ckRX4_174 niE3 xaE3 xbE3 xcE3 dX4_knownOrder_10 dX4_knownOrder_13 dX4_knownOrder_14 dX4_knownOrder_17 (by decide) (by decide)) <|
  tc (fun p e s m args below meth c cA D A ad0 h => ok_aload_n h.1 2 rfl dX4_knownOrder_18) <|
  tc (fun p e s m args below meth c cA D A ad0 h => ok_areturn h.1 h.2.2.2.1 (Or.inl ⟨_, rfl⟩) dX4_knownOrder_19) <|
  tn
abbrev cuX4_knownOrder : List Nat := [5]
theorem tX4_knownOrder_0 (l : Launch) (K : aRs) (X : aXs) : tb (tbX4_knownOrder l K X) 0 = sLd 0 1 isR := (rfl)
theorem wX4_knownOrder_0 {l : Launch} {K : aRs} {X : aXs} {J : aK} {W : Nat → aK} (hW : isW (tbX4_knownOrder l K X) cuX4_knownOrder J W) (n : Nat) (ls st : List aV) (μ : aM) (g : Nat) : W (n + 1) 0 ls st μ g = (sLd 0 1 isR) (W n) ls st μ g := (hW n 0 ls st μ g).trans rfl
theorem wX4_knownOrder_1 {l : Launch} {K : aRs} {X : aXs} {J : aK} {W : Nat → aK} (hW : isW (tbX4_knownOrder l K X) cuX4_knownOrder J W) (n : Nat) (ls st : List aV) (μ : aM) (g : Nat) : W (n + 1) 1 ls st μ g = (sLd 1 2 isI) (W n) ls st μ g := (hW n 1 ls st μ g).trans rfl
theorem wX4_knownOrder_2 {l : Launch} {K : aRs} {X : aXs} {J : aK} {W : Nat → aK} (hW : isW (tbX4_knownOrder l K X) cuX4_knownOrder J W) (n : Nat) (ls st : List aV) (μ : aM) (g : Nat) : W (n + 1) 2 ls st μ g = (sCallV 1 4 (fun as μ K => Ct l mdX4_orderOf as μ K X) 5 0 1) (W n) ls st μ g := (hW n 2 ls st μ g).trans rfl
theorem tX4_knownOrder_5 (l : Launch) (K : aRs) (X : aXs) : tb (tbX4_knownOrder l K X) 5 = sSt 2 6 isR := (rfl)
theorem wX4_knownOrder_5 {l : Launch} {K : aRs} {X : aXs} {J : aK} {W : Nat → aK} (hW : isW (tbX4_knownOrder l K X) cuX4_knownOrder J W) (n : Nat) (ls st : List aV) (μ : aM) (g : Nat) : W (n + 1) 5 ls st μ g = J 5 ls st μ g := (hW n 5 ls st μ g).trans rfl
theorem wX4_knownOrder_6 {l : Launch} {K : aRs} {X : aXs} {J : aK} {W : Nat → aK} (hW : isW (tbX4_knownOrder l K X) cuX4_knownOrder J W) (n : Nat) (ls st : List aV) (μ : aM) (g : Nat) : W (n + 1) 6 ls st μ g = (sLd 2 7 isR) (W n) ls st μ g := (hW n 6 ls st μ g).trans rfl
theorem wX4_knownOrder_7 {l : Launch} {K : aRs} {X : aXs} {J : aK} {W : Nat → aK} (hW : isW (tbX4_knownOrder l K X) cuX4_knownOrder J W) (n : Nat) (ls st : List aV) (μ : aM) (g : Nat) : W (n + 1) 7 ls st μ g = (sNn 18 10) (W n) ls st μ g := (hW n 7 ls st μ g).trans rfl
theorem wX4_knownOrder_10 {l : Launch} {K : aRs} {X : aXs} {J : aK} {W : Nat → aK} (hW : isW (tbX4_knownOrder l K X) cuX4_knownOrder J W) (n : Nat) (ls st : List aV) (μ : aM) (g : Nat) : W (n + 1) 10 ls st μ g = (sThrow 3 1 X) (W n) ls st μ g := (hW n 10 ls st μ g).trans rfl
theorem wX4_knownOrder_18 {l : Launch} {K : aRs} {X : aXs} {J : aK} {W : Nat → aK} (hW : isW (tbX4_knownOrder l K X) cuX4_knownOrder J W) (n : Nat) (ls st : List aV) (μ : aM) (g : Nat) : W (n + 1) 18 ls st μ g = (sLd 2 19 isR) (W n) ls st μ g := (hW n 18 ls st μ g).trans rfl
theorem wX4_knownOrder_19 {l : Launch} {K : aRs} {X : aXs} {J : aK} {W : Nat → aK} (hW : isW (tbX4_knownOrder l K X) cuX4_knownOrder J W) (n : Nat) (ls st : List aV) (μ : aM) (g : Nat) : W (n + 1) 19 ls st μ g = (sRetR 1 K) (W n) ls st μ g := (hW n 19 ls st μ g).trans rfl
theorem dX4_knownSide_0 : decode cX4_knownSide 0 = .ok (.iload_n 1, 1) := by decide +kernel
theorem dX4_knownSide_1 : decode cX4_knownSide 1 = .ok (.invokestatic 60, 3) := by decide +kernel
theorem dX4_knownSide_4 : decode cX4_knownSide 4 = .ok (.ifCond .ne 11, 3) := by decide +kernel
theorem dX4_knownSide_7 : decode cX4_knownSide 7 = .ok (.new 70, 3) := by decide +kernel
theorem dX4_knownSide_10 : decode cX4_knownSide 10 = .ok (.dup, 1) := by decide +kernel
theorem dX4_knownSide_11 : decode cX4_knownSide 11 = .ok (.invokespecial 72, 3) := by decide +kernel
theorem dX4_knownSide_14 : decode cX4_knownSide 14 = .ok (.athrow, 1) := by decide +kernel
theorem dX4_knownSide_15 : decode cX4_knownSide 15 = .ok (.iload_n 1, 1) := by decide +kernel
theorem dX4_knownSide_16 : decode cX4_knownSide 16 = .ok (.bipush 98, 2) := by decide +kernel
theorem dX4_knownSide_18 : decode cX4_knownSide 18 = .ok (.if_icmp .ne 10, 3) := by decide +kernel
theorem dX4_knownSide_21 : decode cX4_knownSide 21 = .ok (.aload_n 0, 1) := by decide +kernel
theorem dX4_knownSide_22 : decode cX4_knownSide 22 = .ok (.getfield 20, 3) := by decide +kernel
theorem dX4_knownSide_25 : decode cX4_knownSide 25 = .ok (.goto 7, 3) := by decide +kernel
theorem dX4_knownSide_28 : decode cX4_knownSide 28 = .ok (.aload_n 0, 1) := by decide +kernel
theorem dX4_knownSide_29 : decode cX4_knownSide 29 = .ok (.getfield 24, 3) := by decide +kernel
theorem dX4_knownSide_32 : decode cX4_knownSide 32 = .ok (.areturn, 1) := by decide +kernel
def tbX4_knownSide (l : Launch) (K : aRs) (X : aXs) : aTb := [
  (0, sLd 1 1 isI),
  (1, sCallS 1 (fun as μ K => Ct l mdX4_isSide as μ K X) 4 0 1),
  (4, sIf pNe 15 7),
  (7, sThrow 1 1 X),
  (15, sLd 1 16 isI),
  (16, sPush (aI 98) 18),
  (18, sIc qNe 28 21),
  (21, sLd 0 22 isR),
  (22, sGetR 4 1 25),
  (25, sGoto 32),
  (28, sLd 0 29 isR),
  (29, sGetR 4 2 32),
  (32, sRetR 1 K)]
theorem snX4_knownSide (l : Launch) (K : aRs) (X : aXs) (n0 : Nat) : ∀ q ∈ tbX4_knownSide l K X, aSo l mdX4_knownSide K X n0 q.1 q.2 :=
  tc (fun p e s m args below meth c cA D A ad0 h => ok_iload_n h.1 1 rfl dX4_knownSide_0) <|
  tc (fun p e s m args below meth c cA D A ad0 h => ok_callS h.1 h.2.1 ⟨Nat.le_refl _, Nat.le_refl _⟩ mdX4_isSide siX4_isSide mkRX4_60 stX4_isSide ⟨by decide, by decide⟩ (aAx_out h.1 h.2.2.1 _) dX4_knownSide_1) <|
  tc (fun p e s m args below meth c cA D A ad0 h => ok_if_ne h.1 15 (by decide) dX4_knownSide_4) <|
  tc (fun p e s m args below meth c cA D A ad0 h => ok_throw h.1 h.2.1 ⟨Nat.le_refl _, Nat.le_refl _⟩ h.2.2.1 (by decide) (by decide) ckRX4_70 niE1 xaE1 xbE1 xcE1 dX4_knownSide_7 dX4_knownSide_10 dX4_knownSide_11 dX4_knownSide_14 (by decide) (by decide)) <|
  tc (fun p e s m args below meth c cA D A ad0 h => ok_iload_n h.1 1 rfl dX4_knownSide_15) <|
  tc (fun p e s m args below meth c cA D A ad0 h => ok_bipush h.1 ⟨by decide, by decide⟩ (by decide) dX4_knownSide_16) <|
  tc (fun p e s m args below meth c cA D A ad0 h => ok_icmp_ne h.1 28 (by decide) dX4_knownSide_18) <|
  tc (fun p e s m args below meth c cA D A ad0 h => ok_aload_n h.1 0 rfl dX4_knownSide_21) <|
  tc (fun p e s m args below meth c cA D A ad0 h => ok_getR h.1 cxX4 (by decide) rfl fkRX4_20 (fun _ _ _ => rfl) dX4_knownSide_22) <|
  tc (fun p e s m args below meth c cA D A ad0 h => ok_goto h.1 32 (by decide) dX4_knownSide_25) <|
  tc (fun p e s m args below meth c cA D A ad0 h => ok_aload_n h.1 0 rfl dX4_knownSide_28) <|
  tc (fun p e s m args below meth c cA D A ad0 h => ok_getR h.1 cxX4 (by decide) rfl fkRX4_24 (fun _ _ _ => rfl) dX4_knownSide_29) <|
  tc (fun p e s m args below meth c cA D A ad0 h => ok_areturn h.1 h.2.2.2.1 (Or.inl ⟨_, rfl⟩) dX4_knownSide_32) <|
  tn
abbrev cuX4_knownSide : List Nat := [4]
theorem tX4_knownSide_0 (l : Launch) (K : aRs) (X : aXs) : tb (tbX4_knownSide l K X) 0 = sLd 1 1 isI := (rfl)
theorem wX4_knownSide_0 {l : Launch} {K : aRs} {X : aXs} {J : aK} {W : Nat → aK} (hW : isW (tbX4_knownSide l K X) cuX4_knownSide J W) (n : Nat) (ls st : List aV) (μ : aM) (g : Nat) : W (n + 1) 0 ls st μ g = (sLd 1 1 isI) (W n) ls st μ g := (hW n 0 ls st μ g).trans rfl
theorem wX4_knownSide_1 {l : Launch} {K : aRs} {X : aXs} {J : aK} {W : Nat → aK} (hW : isW (tbX4_knownSide l K X) cuX4_knownSide J W) (n : Nat) (ls st : List aV) (μ : aM) (g : Nat) : W (n + 1) 1 ls st μ g = (sCallS 1 (fun as μ K => Ct l mdX4_isSide as μ K X) 4 0 1) (W n) ls st μ g := (hW n 1 ls st μ g).trans rfl
theorem tX4_knownSide_4 (l : Launch) (K : aRs) (X : aXs) : tb (tbX4_knownSide l K X) 4 = sIf pNe 15 7 := (rfl)
theorem wX4_knownSide_4 {l : Launch} {K : aRs} {X : aXs} {J : aK} {W : Nat → aK} (hW : isW (tbX4_knownSide l K X) cuX4_knownSide J W) (n : Nat) (ls st : List aV) (μ : aM) (g : Nat) : W (n + 1) 4 ls st μ g = J 4 ls st μ g := (hW n 4 ls st μ g).trans rfl
theorem wX4_knownSide_7 {l : Launch} {K : aRs} {X : aXs} {J : aK} {W : Nat → aK} (hW : isW (tbX4_knownSide l K X) cuX4_knownSide J W) (n : Nat) (ls st : List aV) (μ : aM) (g : Nat) : W (n + 1) 7 ls st μ g = (sThrow 1 1 X) (W n) ls st μ g := (hW n 7 ls st μ g).trans rfl
theorem wX4_knownSide_15 {l : Launch} {K : aRs} {X : aXs} {J : aK} {W : Nat → aK} (hW : isW (tbX4_knownSide l K X) cuX4_knownSide J W) (n : Nat) (ls st : List aV) (μ : aM) (g : Nat) : W (n + 1) 15 ls st μ g = (sLd 1 16 isI) (W n) ls st μ g := (hW n 15 ls st μ g).trans rfl
theorem wX4_knownSide_16 {l : Launch} {K : aRs} {X : aXs} {J : aK} {W : Nat → aK} (hW : isW (tbX4_knownSide l K X) cuX4_knownSide J W) (n : Nat) (ls st : List aV) (μ : aM) (g : Nat) : W (n + 1) 16 ls st μ g = (sPush (aI 98) 18) (W n) ls st μ g := (hW n 16 ls st μ g).trans rfl
theorem wX4_knownSide_18 {l : Launch} {K : aRs} {X : aXs} {J : aK} {W : Nat → aK} (hW : isW (tbX4_knownSide l K X) cuX4_knownSide J W) (n : Nat) (ls st : List aV) (μ : aM) (g : Nat) : W (n + 1) 18 ls st μ g = (sIc qNe 28 21) (W n) ls st μ g := (hW n 18 ls st μ g).trans rfl
theorem wX4_knownSide_21 {l : Launch} {K : aRs} {X : aXs} {J : aK} {W : Nat → aK} (hW : isW (tbX4_knownSide l K X) cuX4_knownSide J W) (n : Nat) (ls st : List aV) (μ : aM) (g : Nat) : W (n + 1) 21 ls st μ g = (sLd 0 22 isR) (W n) ls st μ g := (hW n 21 ls st μ g).trans rfl
theorem wX4_knownSide_22 {l : Launch} {K : aRs} {X : aXs} {J : aK} {W : Nat → aK} (hW : isW (tbX4_knownSide l K X) cuX4_knownSide J W) (n : Nat) (ls st : List aV) (μ : aM) (g : Nat) : W (n + 1) 22 ls st μ g = (sGetR 4 1 25) (W n) ls st μ g := (hW n 22 ls st μ g).trans rfl
theorem wX4_knownSide_25 {l : Launch} {K : aRs} {X : aXs} {J : aK} {W : Nat → aK} (hW : isW (tbX4_knownSide l K X) cuX4_knownSide J W) (n : Nat) (ls st : List aV) (μ : aM) (g : Nat) : W (n + 1) 25 ls st μ g = (sGoto 32) (W n) ls st μ g := (hW n 25 ls st μ g).trans rfl
theorem wX4_knownSide_28 {l : Launch} {K : aRs} {X : aXs} {J : aK} {W : Nat → aK} (hW : isW (tbX4_knownSide l K X) cuX4_knownSide J W) (n : Nat) (ls st : List aV) (μ : aM) (g : Nat) : W (n + 1) 28 ls st μ g = (sLd 0 29 isR) (W n) ls st μ g := (hW n 28 ls st μ g).trans rfl
theorem wX4_knownSide_29 {l : Launch} {K : aRs} {X : aXs} {J : aK} {W : Nat → aK} (hW : isW (tbX4_knownSide l K X) cuX4_knownSide J W) (n : Nat) (ls st : List aV) (μ : aM) (g : Nat) : W (n + 1) 29 ls st μ g = (sGetR 4 2 32) (W n) ls st μ g := (hW n 29 ls st μ g).trans rfl
theorem wX4_knownSide_32 {l : Launch} {K : aRs} {X : aXs} {J : aK} {W : Nat → aK} (hW : isW (tbX4_knownSide l K X) cuX4_knownSide J W) (n : Nat) (ls st : List aV) (μ : aM) (g : Nat) : W (n + 1) 32 ls st μ g = (sRetR 1 K) (W n) ls st μ g := (hW n 32 ls st μ g).trans rfl
theorem dX4_knownHead_0 : decode cX4_knownHead 0 = .ok (.aload_n 0, 1) := by decide +kernel
theorem dX4_knownHead_1 : decode cX4_knownHead 1 = .ok (.iload_n 1, 1) := by decide +kernel
theorem dX4_knownHead_2 : decode cX4_knownHead 2 = .ok (.invokevirtual 150, 3) := by decide +kernel
theorem dX4_knownHead_5 : decode cX4_knownHead 5 = .ok (.iload_n 2, 1) := by decide +kernel
theorem dX4_knownHead_6 : decode cX4_knownHead 6 = .ok (.invokevirtual 224, 3) := by decide +kernel
theorem dX4_knownHead_9 : decode cX4_knownHead 9 = .ok (.astore_n 3, 1) := by decide +kernel
theorem dX4_knownHead_10 : decode cX4_knownHead 10 = .ok (.aload_n 3, 1) := by decide +kernel
theorem dX4_knownHead_11 : decode cX4_knownHead 11 = .ok (.ifnonnull 11, 3) := by decide +kernel
theorem dX4_knownHead_14 : decode cX4_knownHead 14 = .ok (.new 174, 3) := by decide +kernel
theorem dX4_knownHead_17 : decode cX4_knownHead 17 = .ok (.dup, 1) := by decide +kernel
theorem dX4_knownHead_18 : decode cX4_knownHead 18 = .ok (.invokespecial 176, 3) := by decide +kernel
theorem dX4_knownHead_21 : decode cX4_knownHead 21 = .ok (.athrow, 1) := by decide +kernel
theorem dX4_knownHead_22 : decode cX4_knownHead 22 = .ok (.aload_n 3, 1) := by decide +kernel
theorem dX4_knownHead_23 : decode cX4_knownHead 23 = .ok (.areturn, 1) := by decide +kernel
def tbX4_knownHead (l : Launch) (K : aRs) (X : aXs) : aTb := [
  (0, sLd 0 1 isR),
  (1, sLd 1 2 isI),
  (2, sCallV 1 4 (fun as μ K => Ct l mdX4_knownSide as μ K X) 5 1 2),
  (5, sLd 2 6 isI),
  (6, sCallV 1 1 (fun as μ K => Ct l mdX1_headOf as μ K X) 9 0 2),
  (9, sSt 3 10 isR),
  (10, sLd 3 11 isR),
  (11, sNn 22 14),
  (14, sThrow 3 2 X),
  (22, sLd 3 23 isR),
  (23, sRetR 2 K)]
theorem snX4_knownHead (l : Launch) (K : aRs) (X : aXs) (n0 : Nat) : ∀ q ∈ tbX4_knownHead l K X, aSo l mdX4_knownHead K X n0 q.1 q.2 :=
  tc (fun p e s m args below meth c cA D A ad0 h => ok_aload_n h.1 0 rfl dX4_knownHead_0) <|
  tc (fun p e s m args below meth c cA D A ad0 h => ok_iload_n h.1 1 rfl dX4_knownHead_1) <|
  tc (fun p e s m args below meth c cA D A ad0 h => ok_callV h.1 h.2.1 ⟨Nat.le_refl _, Nat.le_refl _⟩ mdX4_knownSide siX4_knownSide cxX4 mkRX4_150 imX4_knownSide seX4_knownSide ⟨by decide, by decide⟩ (aAx_out h.1 h.2.2.1 _) dX4_knownHead_2) <|
  tc (fun p e s m args below meth c cA D A ad0 h => ok_iload_n h.1 2 rfl dX4_knownHead_5) <|
  tc (fun p e s m args below meth c cA D A ad0 h => ok_callV h.1 h.2.1 ⟨Nat.le_refl _, Nat.le_refl _⟩ mdX1_headOf siX1_headOf cxX1 mkRX4_224 imX1_headOf seX1_headOf ⟨by decide, by decide⟩ (aAx_out h.1 h.2.2.1 _) dX4_knownHead_6) <|
  tc (fun p e s m args below meth c cA D A ad0 h => ok_astore_n h.1 3 rfl (by decide) dX4_knownHead_9) <|
  tc (fun p e s m args below meth c cA D A ad0 h => ok_aload_n h.1 3 rfl dX4_knownHead_10) <|
  tc (fun p e s m args below meth c cA D A ad0 h => ok_ifnonnull h.1 22 (by decide) dX4_knownHead_11) <|
  tc (fun p e s m args below meth c cA D A ad0 h => ok_throw h.1 h.2.1 ⟨Nat.le_refl _, Nat.le_refl _⟩ h.2.2.1 (by decide) (by decide) ckRX4_174 niE3 xaE3 xbE3 xcE3 dX4_knownHead_14 dX4_knownHead_17 dX4_knownHead_18 dX4_knownHead_21 (by decide) (by decide)) <|
  tc (fun p e s m args below meth c cA D A ad0 h => ok_aload_n h.1 3 rfl dX4_knownHead_22) <|
  tc (fun p e s m args below meth c cA D A ad0 h => ok_areturn h.1 h.2.2.2.1 (Or.inl ⟨_, rfl⟩) dX4_knownHead_23) <|
  tn
abbrev cuX4_knownHead : List Nat := [5, 9]
theorem tX4_knownHead_0 (l : Launch) (K : aRs) (X : aXs) : tb (tbX4_knownHead l K X) 0 = sLd 0 1 isR := (rfl)
theorem wX4_knownHead_0 {l : Launch} {K : aRs} {X : aXs} {J : aK} {W : Nat → aK} (hW : isW (tbX4_knownHead l K X) cuX4_knownHead J W) (n : Nat) (ls st : List aV) (μ : aM) (g : Nat) : W (n + 1) 0 ls st μ g = (sLd 0 1 isR) (W n) ls st μ g := (hW n 0 ls st μ g).trans rfl
theorem wX4_knownHead_1 {l : Launch} {K : aRs} {X : aXs} {J : aK} {W : Nat → aK} (hW : isW (tbX4_knownHead l K X) cuX4_knownHead J W) (n : Nat) (ls st : List aV) (μ : aM) (g : Nat) : W (n + 1) 1 ls st μ g = (sLd 1 2 isI) (W n) ls st μ g := (hW n 1 ls st μ g).trans rfl
theorem wX4_knownHead_2 {l : Launch} {K : aRs} {X : aXs} {J : aK} {W : Nat → aK} (hW : isW (tbX4_knownHead l K X) cuX4_knownHead J W) (n : Nat) (ls st : List aV) (μ : aM) (g : Nat) : W (n + 1) 2 ls st μ g = (sCallV 1 4 (fun as μ K => Ct l mdX4_knownSide as μ K X) 5 1 2) (W n) ls st μ g := (hW n 2 ls st μ g).trans rfl
theorem tX4_knownHead_5 (l : Launch) (K : aRs) (X : aXs) : tb (tbX4_knownHead l K X) 5 = sLd 2 6 isI := (rfl)
theorem wX4_knownHead_5 {l : Launch} {K : aRs} {X : aXs} {J : aK} {W : Nat → aK} (hW : isW (tbX4_knownHead l K X) cuX4_knownHead J W) (n : Nat) (ls st : List aV) (μ : aM) (g : Nat) : W (n + 1) 5 ls st μ g = J 5 ls st μ g := (hW n 5 ls st μ g).trans rfl
theorem wX4_knownHead_6 {l : Launch} {K : aRs} {X : aXs} {J : aK} {W : Nat → aK} (hW : isW (tbX4_knownHead l K X) cuX4_knownHead J W) (n : Nat) (ls st : List aV) (μ : aM) (g : Nat) : W (n + 1) 6 ls st μ g = (sCallV 1 1 (fun as μ K => Ct l mdX1_headOf as μ K X) 9 0 2) (W n) ls st μ g := (hW n 6 ls st μ g).trans rfl
theorem tX4_knownHead_9 (l : Launch) (K : aRs) (X : aXs) : tb (tbX4_knownHead l K X) 9 = sSt 3 10 isR := (rfl)
theorem wX4_knownHead_9 {l : Launch} {K : aRs} {X : aXs} {J : aK} {W : Nat → aK} (hW : isW (tbX4_knownHead l K X) cuX4_knownHead J W) (n : Nat) (ls st : List aV) (μ : aM) (g : Nat) : W (n + 1) 9 ls st μ g = J 9 ls st μ g := (hW n 9 ls st μ g).trans rfl
theorem wX4_knownHead_10 {l : Launch} {K : aRs} {X : aXs} {J : aK} {W : Nat → aK} (hW : isW (tbX4_knownHead l K X) cuX4_knownHead J W) (n : Nat) (ls st : List aV) (μ : aM) (g : Nat) : W (n + 1) 10 ls st μ g = (sLd 3 11 isR) (W n) ls st μ g := (hW n 10 ls st μ g).trans rfl
theorem wX4_knownHead_11 {l : Launch} {K : aRs} {X : aXs} {J : aK} {W : Nat → aK} (hW : isW (tbX4_knownHead l K X) cuX4_knownHead J W) (n : Nat) (ls st : List aV) (μ : aM) (g : Nat) : W (n + 1) 11 ls st μ g = (sNn 22 14) (W n) ls st μ g := (hW n 11 ls st μ g).trans rfl
theorem wX4_knownHead_14 {l : Launch} {K : aRs} {X : aXs} {J : aK} {W : Nat → aK} (hW : isW (tbX4_knownHead l K X) cuX4_knownHead J W) (n : Nat) (ls st : List aV) (μ : aM) (g : Nat) : W (n + 1) 14 ls st μ g = (sThrow 3 2 X) (W n) ls st μ g := (hW n 14 ls st μ g).trans rfl
theorem wX4_knownHead_22 {l : Launch} {K : aRs} {X : aXs} {J : aK} {W : Nat → aK} (hW : isW (tbX4_knownHead l K X) cuX4_knownHead J W) (n : Nat) (ls st : List aV) (μ : aM) (g : Nat) : W (n + 1) 22 ls st μ g = (sLd 3 23 isR) (W n) ls st μ g := (hW n 22 ls st μ g).trans rfl
theorem wX4_knownHead_23 {l : Launch} {K : aRs} {X : aXs} {J : aK} {W : Nat → aK} (hW : isW (tbX4_knownHead l K X) cuX4_knownHead J W) (n : Nat) (ls st : List aV) (μ : aM) (g : Nat) : W (n + 1) 23 ls st μ g = (sRetR 2 K) (W n) ls st μ g := (hW n 23 ls st μ g).trans rfl
theorem dX4_knownTrade_0 : decode cX4_knownTrade 0 = .ok (.aload_n 0, 1) := by decide +kernel
theorem dX4_knownTrade_1 : decode cX4_knownTrade 1 = .ok (.getfield 30, 3) := by decide +kernel
theorem dX4_knownTrade_4 : decode cX4_knownTrade 4 = .ok (.iload_n 1, 1) := by decide +kernel
theorem dX4_knownTrade_5 : decode cX4_knownTrade 5 = .ok (.invokevirtual 227, 3) := by decide +kernel
theorem dX4_knownTrade_8 : decode cX4_knownTrade 8 = .ok (.istore_n 2, 1) := by decide +kernel
theorem dX4_knownTrade_9 : decode cX4_knownTrade 9 = .ok (.iload_n 2, 1) := by decide +kernel
theorem dX4_knownTrade_10 : decode cX4_knownTrade 10 = .ok (.ifCond .ge 11, 3) := by decide +kernel
theorem dX4_knownTrade_13 : decode cX4_knownTrade 13 = .ok (.new 174, 3) := by decide +kernel
theorem dX4_knownTrade_16 : decode cX4_knownTrade 16 = .ok (.dup, 1) := by decide +kernel
theorem dX4_knownTrade_17 : decode cX4_knownTrade 17 = .ok (.invokespecial 176, 3) := by decide +kernel
theorem dX4_knownTrade_20 : decode cX4_knownTrade 20 = .ok (.athrow, 1) := by decide +kernel
theorem dX4_knownTrade_21 : decode cX4_knownTrade 21 = .ok (.iload_n 2, 1) := by decide +kernel
theorem dX4_knownTrade_22 : decode cX4_knownTrade 22 = .ok (.ireturn, 1) := by decide +kernel
def tbX4_knownTrade (l : Launch) (K : aRs) (X : aXs) : aTb := [
  (0, sLd 0 1 isR),
  (1, sGetR 4 3 4),
  (4, sLd 1 5 isI),
  (5, sCallV 1 3 (fun as μ K => Ct l mdX3_placeOf as μ K X) 8 0 1),
  (8, sSt 2 9 isI),
  (9, sLd 2 10 isI),
  (10, sIf pGe 21 13),
  (13, sThrow 3 1 X),
  (21, sLd 2 22 isI),
  (22, sRetI .int 1 K)]
theorem snX4_knownTrade (l : Launch) (K : aRs) (X : aXs) (n0 : Nat) : ∀ q ∈ tbX4_knownTrade l K X, aSo l mdX4_knownTrade K X n0 q.1 q.2 :=
  tc (fun p e s m args below meth c cA D A ad0 h => ok_aload_n h.1 0 rfl dX4_knownTrade_0) <|
  tc (fun p e s m args below meth c cA D A ad0 h => ok_getR h.1 cxX4 (by decide) rfl fkRX4_30 (fun _ _ _ => rfl) dX4_knownTrade_1) <|
  tc (fun p e s m args below meth c cA D A ad0 h => ok_iload_n h.1 1 rfl dX4_knownTrade_4) <|
  tc (fun p e s m args below meth c cA D A ad0 h => ok_callV h.1 h.2.1 ⟨Nat.le_refl _, Nat.le_refl _⟩ mdX3_placeOf siX3_placeOf cxX3 mkRX4_227 imX3_placeOf seX3_placeOf ⟨by decide, by decide⟩ (aAx_out h.1 h.2.2.1 _) dX4_knownTrade_5) <|
  tc (fun p e s m args below meth c cA D A ad0 h => ok_istore_n h.1 2 rfl (by decide) dX4_knownTrade_8) <|
  tc (fun p e s m args below meth c cA D A ad0 h => ok_iload_n h.1 2 rfl dX4_knownTrade_9) <|
  tc (fun p e s m args below meth c cA D A ad0 h => ok_if_ge h.1 21 (by decide) dX4_knownTrade_10) <|
  tc (fun p e s m args below meth c cA D A ad0 h => ok_throw h.1 h.2.1 ⟨Nat.le_refl _, Nat.le_refl _⟩ h.2.2.1 (by decide) (by decide) ckRX4_174 niE3 xaE3 xbE3 xcE3 dX4_knownTrade_13 dX4_knownTrade_16 dX4_knownTrade_17 dX4_knownTrade_20 (by decide) (by decide)) <|
  tc (fun p e s m args below meth c cA D A ad0 h => ok_iload_n h.1 2 rfl dX4_knownTrade_21) <|
  tc (fun p e s m args below meth c cA D A ad0 h => ok_ireturn h.1 h.2.2.2.1 (Or.inl rfl) dX4_knownTrade_22) <|
  tn
abbrev cuX4_knownTrade : List Nat := [8]
theorem tX4_knownTrade_0 (l : Launch) (K : aRs) (X : aXs) : tb (tbX4_knownTrade l K X) 0 = sLd 0 1 isR := (rfl)
theorem wX4_knownTrade_0 {l : Launch} {K : aRs} {X : aXs} {J : aK} {W : Nat → aK} (hW : isW (tbX4_knownTrade l K X) cuX4_knownTrade J W) (n : Nat) (ls st : List aV) (μ : aM) (g : Nat) : W (n + 1) 0 ls st μ g = (sLd 0 1 isR) (W n) ls st μ g := (hW n 0 ls st μ g).trans rfl
theorem wX4_knownTrade_1 {l : Launch} {K : aRs} {X : aXs} {J : aK} {W : Nat → aK} (hW : isW (tbX4_knownTrade l K X) cuX4_knownTrade J W) (n : Nat) (ls st : List aV) (μ : aM) (g : Nat) : W (n + 1) 1 ls st μ g = (sGetR 4 3 4) (W n) ls st μ g := (hW n 1 ls st μ g).trans rfl
theorem wX4_knownTrade_4 {l : Launch} {K : aRs} {X : aXs} {J : aK} {W : Nat → aK} (hW : isW (tbX4_knownTrade l K X) cuX4_knownTrade J W) (n : Nat) (ls st : List aV) (μ : aM) (g : Nat) : W (n + 1) 4 ls st μ g = (sLd 1 5 isI) (W n) ls st μ g := (hW n 4 ls st μ g).trans rfl
theorem wX4_knownTrade_5 {l : Launch} {K : aRs} {X : aXs} {J : aK} {W : Nat → aK} (hW : isW (tbX4_knownTrade l K X) cuX4_knownTrade J W) (n : Nat) (ls st : List aV) (μ : aM) (g : Nat) : W (n + 1) 5 ls st μ g = (sCallV 1 3 (fun as μ K => Ct l mdX3_placeOf as μ K X) 8 0 1) (W n) ls st μ g := (hW n 5 ls st μ g).trans rfl
theorem tX4_knownTrade_8 (l : Launch) (K : aRs) (X : aXs) : tb (tbX4_knownTrade l K X) 8 = sSt 2 9 isI := (rfl)
theorem wX4_knownTrade_8 {l : Launch} {K : aRs} {X : aXs} {J : aK} {W : Nat → aK} (hW : isW (tbX4_knownTrade l K X) cuX4_knownTrade J W) (n : Nat) (ls st : List aV) (μ : aM) (g : Nat) : W (n + 1) 8 ls st μ g = J 8 ls st μ g := (hW n 8 ls st μ g).trans rfl
theorem wX4_knownTrade_9 {l : Launch} {K : aRs} {X : aXs} {J : aK} {W : Nat → aK} (hW : isW (tbX4_knownTrade l K X) cuX4_knownTrade J W) (n : Nat) (ls st : List aV) (μ : aM) (g : Nat) : W (n + 1) 9 ls st μ g = (sLd 2 10 isI) (W n) ls st μ g := (hW n 9 ls st μ g).trans rfl
theorem wX4_knownTrade_10 {l : Launch} {K : aRs} {X : aXs} {J : aK} {W : Nat → aK} (hW : isW (tbX4_knownTrade l K X) cuX4_knownTrade J W) (n : Nat) (ls st : List aV) (μ : aM) (g : Nat) : W (n + 1) 10 ls st μ g = (sIf pGe 21 13) (W n) ls st μ g := (hW n 10 ls st μ g).trans rfl
theorem wX4_knownTrade_13 {l : Launch} {K : aRs} {X : aXs} {J : aK} {W : Nat → aK} (hW : isW (tbX4_knownTrade l K X) cuX4_knownTrade J W) (n : Nat) (ls st : List aV) (μ : aM) (g : Nat) : W (n + 1) 13 ls st μ g = (sThrow 3 1 X) (W n) ls st μ g := (hW n 13 ls st μ g).trans rfl
theorem wX4_knownTrade_21 {l : Launch} {K : aRs} {X : aXs} {J : aK} {W : Nat → aK} (hW : isW (tbX4_knownTrade l K X) cuX4_knownTrade J W) (n : Nat) (ls st : List aV) (μ : aM) (g : Nat) : W (n + 1) 21 ls st μ g = (sLd 2 22 isI) (W n) ls st μ g := (hW n 21 ls st μ g).trans rfl
theorem wX4_knownTrade_22 {l : Launch} {K : aRs} {X : aXs} {J : aK} {W : Nat → aK} (hW : isW (tbX4_knownTrade l K X) cuX4_knownTrade J W) (n : Nat) (ls st : List aV) (μ : aM) (g : Nat) : W (n + 1) 22 ls st μ g = (sRetI .int 1 K) (W n) ls st μ g := (hW n 22 ls st μ g).trans rfl
theorem dX4_orderOf_0 : decode cX4_orderOf 0 = .ok (.iload_n 1, 1) := by decide +kernel
theorem dX4_orderOf_1 : decode cX4_orderOf 1 = .ok (.ifCond .lt 20, 3) := by decide +kernel
theorem dX4_orderOf_4 : decode cX4_orderOf 4 = .ok (.iload_n 1, 1) := by decide +kernel
theorem dX4_orderOf_5 : decode cX4_orderOf 5 = .ok (.aload_n 0, 1) := by decide +kernel
theorem dX4_orderOf_6 : decode cX4_orderOf 6 = .ok (.getfield 41, 3) := by decide +kernel
theorem dX4_orderOf_9 : decode cX4_orderOf 9 = .ok (.if_icmp .ge 12, 3) := by decide +kernel
theorem dX4_orderOf_12 : decode cX4_orderOf 12 = .ok (.iload_n 1, 1) := by decide +kernel
theorem dX4_orderOf_13 : decode cX4_orderOf 13 = .ok (.aload_n 0, 1) := by decide +kernel
theorem dX4_orderOf_14 : decode cX4_orderOf 14 = .ok (.getfield 11, 3) := by decide +kernel
theorem dX4_orderOf_17 : decode cX4_orderOf 17 = .ok (.arraylength, 1) := by decide +kernel
theorem dX4_orderOf_18 : decode cX4_orderOf 18 = .ok (.if_icmp .lt 5, 3) := by decide +kernel
theorem dX4_orderOf_21 : decode cX4_orderOf 21 = .ok (.aconst_null, 1) := by decide +kernel
theorem dX4_orderOf_22 : decode cX4_orderOf 22 = .ok (.areturn, 1) := by decide +kernel
theorem dX4_orderOf_23 : decode cX4_orderOf 23 = .ok (.aload_n 0, 1) := by decide +kernel
theorem dX4_orderOf_24 : decode cX4_orderOf 24 = .ok (.getfield 11, 3) := by decide +kernel
theorem dX4_orderOf_27 : decode cX4_orderOf 27 = .ok (.iload_n 1, 1) := by decide +kernel
theorem dX4_orderOf_28 : decode cX4_orderOf 28 = .ok (.aaload, 1) := by decide +kernel
theorem dX4_orderOf_29 : decode cX4_orderOf 29 = .ok (.areturn, 1) := by decide +kernel
def tbX4_orderOf (l : Launch) (K : aRs) (X : aXs) : aTb := [
  (0, sLd 1 1 isI),
  (1, sIf pLt 21 4),
  (4, sLd 1 5 isI),
  (5, sLd 0 6 isR),
  (6, sGetI 4 5 9),
  (9, sIc qGe 21 12),
  (12, sLd 1 13 isI),
  (13, sLd 0 14 isR),
  (14, sGetR 4 0 17),
  (17, sAlen 18),
  (18, sIc qLt 23 21),
  (21, sPush (aR 0) 22),
  (22, sRetR 0 K),
  (23, sLd 0 24 isR),
  (24, sGetR 4 0 27),
  (27, sLd 1 28 isI),
  (28, sAldR 29),
  (29, sRetR 0 K)]
theorem snX4_orderOf (l : Launch) (K : aRs) (X : aXs) (n0 : Nat) : ∀ q ∈ tbX4_orderOf l K X, aSo l mdX4_orderOf K X n0 q.1 q.2 :=
  tc (fun p e s m args below meth c cA D A ad0 h => ok_iload_n h.1 1 rfl dX4_orderOf_0) <|
  tc (fun p e s m args below meth c cA D A ad0 h => ok_if_lt h.1 21 (by decide) dX4_orderOf_1) <|
  tc (fun p e s m args below meth c cA D A ad0 h => ok_iload_n h.1 1 rfl dX4_orderOf_4) <|
  tc (fun p e s m args below meth c cA D A ad0 h => ok_aload_n h.1 0 rfl dX4_orderOf_5) <|
  tc (fun p e s m args below meth c cA D A ad0 h => ok_getI h.1 cxX4 (by decide) rfl fkRX4_41 (fun _ _ _ => rfl) dX4_orderOf_6) <|
  tc (fun p e s m args below meth c cA D A ad0 h => ok_icmp_ge h.1 21 (by decide) dX4_orderOf_9) <|
  tc (fun p e s m args below meth c cA D A ad0 h => ok_iload_n h.1 1 rfl dX4_orderOf_12) <|
  tc (fun p e s m args below meth c cA D A ad0 h => ok_aload_n h.1 0 rfl dX4_orderOf_13) <|
  tc (fun p e s m args below meth c cA D A ad0 h => ok_getR h.1 cxX4 (by decide) rfl fkRX4_11 (fun _ _ _ => rfl) dX4_orderOf_14) <|
  tc (fun p e s m args below meth c cA D A ad0 h => ok_alen h.1 dX4_orderOf_17) <|
  tc (fun p e s m args below meth c cA D A ad0 h => ok_icmp_lt h.1 23 (by decide) dX4_orderOf_18) <|
  tc (fun p e s m args below meth c cA D A ad0 h => ok_null h.1 dX4_orderOf_21) <|
  tc (fun p e s m args below meth c cA D A ad0 h => ok_areturn h.1 h.2.2.2.1 (Or.inl ⟨_, rfl⟩) dX4_orderOf_22) <|
  tc (fun p e s m args below meth c cA D A ad0 h => ok_aload_n h.1 0 rfl dX4_orderOf_23) <|
  tc (fun p e s m args below meth c cA D A ad0 h => ok_getR h.1 cxX4 (by decide) rfl fkRX4_11 (fun _ _ _ => rfl) dX4_orderOf_24) <|
  tc (fun p e s m args below meth c cA D A ad0 h => ok_iload_n h.1 1 rfl dX4_orderOf_27) <|
  tc (fun p e s m args below meth c cA D A ad0 h => ok_aald h.1 dX4_orderOf_28) <|
  tc (fun p e s m args below meth c cA D A ad0 h => ok_areturn h.1 h.2.2.2.1 (Or.inl ⟨_, rfl⟩) dX4_orderOf_29) <|
  tn
abbrev cuX4_orderOf : List Nat := []
theorem tX4_orderOf_0 (l : Launch) (K : aRs) (X : aXs) : tb (tbX4_orderOf l K X) 0 = sLd 1 1 isI := (rfl)
theorem wX4_orderOf_0 {l : Launch} {K : aRs} {X : aXs} {J : aK} {W : Nat → aK} (hW : isW (tbX4_orderOf l K X) cuX4_orderOf J W) (n : Nat) (ls st : List aV) (μ : aM) (g : Nat) : W (n + 1) 0 ls st μ g = (sLd 1 1 isI) (W n) ls st μ g := (hW n 0 ls st μ g).trans rfl
theorem wX4_orderOf_1 {l : Launch} {K : aRs} {X : aXs} {J : aK} {W : Nat → aK} (hW : isW (tbX4_orderOf l K X) cuX4_orderOf J W) (n : Nat) (ls st : List aV) (μ : aM) (g : Nat) : W (n + 1) 1 ls st μ g = (sIf pLt 21 4) (W n) ls st μ g := (hW n 1 ls st μ g).trans rfl
theorem wX4_orderOf_4 {l : Launch} {K : aRs} {X : aXs} {J : aK} {W : Nat → aK} (hW : isW (tbX4_orderOf l K X) cuX4_orderOf J W) (n : Nat) (ls st : List aV) (μ : aM) (g : Nat) : W (n + 1) 4 ls st μ g = (sLd 1 5 isI) (W n) ls st μ g := (hW n 4 ls st μ g).trans rfl
theorem wX4_orderOf_5 {l : Launch} {K : aRs} {X : aXs} {J : aK} {W : Nat → aK} (hW : isW (tbX4_orderOf l K X) cuX4_orderOf J W) (n : Nat) (ls st : List aV) (μ : aM) (g : Nat) : W (n + 1) 5 ls st μ g = (sLd 0 6 isR) (W n) ls st μ g := (hW n 5 ls st μ g).trans rfl
theorem wX4_orderOf_6 {l : Launch} {K : aRs} {X : aXs} {J : aK} {W : Nat → aK} (hW : isW (tbX4_orderOf l K X) cuX4_orderOf J W) (n : Nat) (ls st : List aV) (μ : aM) (g : Nat) : W (n + 1) 6 ls st μ g = (sGetI 4 5 9) (W n) ls st μ g := (hW n 6 ls st μ g).trans rfl
theorem wX4_orderOf_9 {l : Launch} {K : aRs} {X : aXs} {J : aK} {W : Nat → aK} (hW : isW (tbX4_orderOf l K X) cuX4_orderOf J W) (n : Nat) (ls st : List aV) (μ : aM) (g : Nat) : W (n + 1) 9 ls st μ g = (sIc qGe 21 12) (W n) ls st μ g := (hW n 9 ls st μ g).trans rfl
theorem wX4_orderOf_12 {l : Launch} {K : aRs} {X : aXs} {J : aK} {W : Nat → aK} (hW : isW (tbX4_orderOf l K X) cuX4_orderOf J W) (n : Nat) (ls st : List aV) (μ : aM) (g : Nat) : W (n + 1) 12 ls st μ g = (sLd 1 13 isI) (W n) ls st μ g := (hW n 12 ls st μ g).trans rfl
theorem wX4_orderOf_13 {l : Launch} {K : aRs} {X : aXs} {J : aK} {W : Nat → aK} (hW : isW (tbX4_orderOf l K X) cuX4_orderOf J W) (n : Nat) (ls st : List aV) (μ : aM) (g : Nat) : W (n + 1) 13 ls st μ g = (sLd 0 14 isR) (W n) ls st μ g := (hW n 13 ls st μ g).trans rfl
theorem wX4_orderOf_14 {l : Launch} {K : aRs} {X : aXs} {J : aK} {W : Nat → aK} (hW : isW (tbX4_orderOf l K X) cuX4_orderOf J W) (n : Nat) (ls st : List aV) (μ : aM) (g : Nat) : W (n + 1) 14 ls st μ g = (sGetR 4 0 17) (W n) ls st μ g := (hW n 14 ls st μ g).trans rfl
theorem wX4_orderOf_17 {l : Launch} {K : aRs} {X : aXs} {J : aK} {W : Nat → aK} (hW : isW (tbX4_orderOf l K X) cuX4_orderOf J W) (n : Nat) (ls st : List aV) (μ : aM) (g : Nat) : W (n + 1) 17 ls st μ g = (sAlen 18) (W n) ls st μ g := (hW n 17 ls st μ g).trans rfl
theorem wX4_orderOf_18 {l : Launch} {K : aRs} {X : aXs} {J : aK} {W : Nat → aK} (hW : isW (tbX4_orderOf l K X) cuX4_orderOf J W) (n : Nat) (ls st : List aV) (μ : aM) (g : Nat) : W (n + 1) 18 ls st μ g = (sIc qLt 23 21) (W n) ls st μ g := (hW n 18 ls st μ g).trans rfl
theorem wX4_orderOf_21 {l : Launch} {K : aRs} {X : aXs} {J : aK} {W : Nat → aK} (hW : isW (tbX4_orderOf l K X) cuX4_orderOf J W) (n : Nat) (ls st : List aV) (μ : aM) (g : Nat) : W (n + 1) 21 ls st μ g = (sPush (aR 0) 22) (W n) ls st μ g := (hW n 21 ls st μ g).trans rfl
theorem wX4_orderOf_22 {l : Launch} {K : aRs} {X : aXs} {J : aK} {W : Nat → aK} (hW : isW (tbX4_orderOf l K X) cuX4_orderOf J W) (n : Nat) (ls st : List aV) (μ : aM) (g : Nat) : W (n + 1) 22 ls st μ g = (sRetR 0 K) (W n) ls st μ g := (hW n 22 ls st μ g).trans rfl
theorem wX4_orderOf_23 {l : Launch} {K : aRs} {X : aXs} {J : aK} {W : Nat → aK} (hW : isW (tbX4_orderOf l K X) cuX4_orderOf J W) (n : Nat) (ls st : List aV) (μ : aM) (g : Nat) : W (n + 1) 23 ls st μ g = (sLd 0 24 isR) (W n) ls st μ g := (hW n 23 ls st μ g).trans rfl
theorem wX4_orderOf_24 {l : Launch} {K : aRs} {X : aXs} {J : aK} {W : Nat → aK} (hW : isW (tbX4_orderOf l K X) cuX4_orderOf J W) (n : Nat) (ls st : List aV) (μ : aM) (g : Nat) : W (n + 1) 24 ls st μ g = (sGetR 4 0 27) (W n) ls st μ g := (hW n 24 ls st μ g).trans rfl
theorem wX4_orderOf_27 {l : Launch} {K : aRs} {X : aXs} {J : aK} {W : Nat → aK} (hW : isW (tbX4_orderOf l K X) cuX4_orderOf J W) (n : Nat) (ls st : List aV) (μ : aM) (g : Nat) : W (n + 1) 27 ls st μ g = (sLd 1 28 isI) (W n) ls st μ g := (hW n 27 ls st μ g).trans rfl
theorem wX4_orderOf_28 {l : Launch} {K : aRs} {X : aXs} {J : aK} {W : Nat → aK} (hW : isW (tbX4_orderOf l K X) cuX4_orderOf J W) (n : Nat) (ls st : List aV) (μ : aM) (g : Nat) : W (n + 1) 28 ls st μ g = (sAldR 29) (W n) ls st μ g := (hW n 28 ls st μ g).trans rfl
theorem wX4_orderOf_29 {l : Launch} {K : aRs} {X : aXs} {J : aK} {W : Nat → aK} (hW : isW (tbX4_orderOf l K X) cuX4_orderOf J W) (n : Nat) (ls st : List aV) (μ : aM) (g : Nat) : W (n + 1) 29 ls st μ g = (sRetR 0 K) (W n) ls st μ g := (hW n 29 ls st μ g).trans rfl
theorem dX4_keep_0 : decode cX4_keep 0 = .ok (.aload_n 0, 1) := by decide +kernel
theorem dX4_keep_1 : decode cX4_keep 1 = .ok (.getfield 41, 3) := by decide +kernel
theorem dX4_keep_4 : decode cX4_keep 4 = .ok (.aload_n 0, 1) := by decide +kernel
theorem dX4_keep_5 : decode cX4_keep 5 = .ok (.getfield 11, 3) := by decide +kernel
theorem dX4_keep_8 : decode cX4_keep 8 = .ok (.arraylength, 1) := by decide +kernel
theorem dX4_keep_9 : decode cX4_keep 9 = .ok (.if_icmp .ge 23, 3) := by decide +kernel
theorem dX4_keep_12 : decode cX4_keep 12 = .ok (.aload_n 0, 1) := by decide +kernel
theorem dX4_keep_13 : decode cX4_keep 13 = .ok (.getfield 11, 3) := by decide +kernel
theorem dX4_keep_16 : decode cX4_keep 16 = .ok (.aload_n 0, 1) := by decide +kernel
theorem dX4_keep_17 : decode cX4_keep 17 = .ok (.getfield 41, 3) := by decide +kernel
theorem dX4_keep_20 : decode cX4_keep 20 = .ok (.aload_n 1, 1) := by decide +kernel
theorem dX4_keep_21 : decode cX4_keep 21 = .ok (.aastore, 1) := by decide +kernel
theorem dX4_keep_22 : decode cX4_keep 22 = .ok (.aload_n 0, 1) := by decide +kernel
theorem dX4_keep_23 : decode cX4_keep 23 = .ok (.dup, 1) := by decide +kernel
theorem dX4_keep_24 : decode cX4_keep 24 = .ok (.getfield 41, 3) := by decide +kernel
theorem dX4_keep_27 : decode cX4_keep 27 = .ok (.iconst 1, 1) := by decide +kernel
theorem dX4_keep_28 : decode cX4_keep 28 = .ok (.iadd, 1) := by decide +kernel
theorem dX4_keep_29 : decode cX4_keep 29 = .ok (.putfield 41, 3) := by decide +kernel
theorem dX4_keep_32 : decode cX4_keep 32 = .ok (.return_, 1) := by decide +kernel
def tbX4_keep (l : Launch) (K : aRs) (X : aXs) : aTb := [
  (0, sLd 0 1 isR),
  (1, sGetI 4 5 4),
  (4, sLd 0 5 isR),
  (5, sGetR 4 0 8),
  (8, sAlen 9),
  (9, sIc qGe 32 12),
  (12, sLd 0 13 isR),
  (13, sGetR 4 0 16),
  (16, sLd 0 17 isR),
  (17, sGetI 4 5 20),
  (20, sLd 1 21 isR),
  (21, sAstR 22),
  (22, sLd 0 23 isR),
  (23, sDup 24),
  (24, sGetI 4 5 27),
  (27, sPush (aI 1) 28),
  (28, sBin fAdd 29),
  (29, sPutI 4 5 32),
  (32, sRetV 0 K)]
theorem snX4_keep (l : Launch) (K : aRs) (X : aXs) (n0 : Nat) : ∀ q ∈ tbX4_keep l K X, aSo l mdX4_keep K X n0 q.1 q.2 :=
  tc (fun p e s m args below meth c cA D A ad0 h => ok_aload_n h.1 0 rfl dX4_keep_0) <|
  tc (fun p e s m args below meth c cA D A ad0 h => ok_getI h.1 cxX4 (by decide) rfl fkRX4_41 (fun _ _ _ => rfl) dX4_keep_1) <|
  tc (fun p e s m args below meth c cA D A ad0 h => ok_aload_n h.1 0 rfl dX4_keep_4) <|
  tc (fun p e s m args below meth c cA D A ad0 h => ok_getR h.1 cxX4 (by decide) rfl fkRX4_11 (fun _ _ _ => rfl) dX4_keep_5) <|
  tc (fun p e s m args below meth c cA D A ad0 h => ok_alen h.1 dX4_keep_8) <|
  tc (fun p e s m args below meth c cA D A ad0 h => ok_icmp_ge h.1 32 (by decide) dX4_keep_9) <|
  tc (fun p e s m args below meth c cA D A ad0 h => ok_aload_n h.1 0 rfl dX4_keep_12) <|
  tc (fun p e s m args below meth c cA D A ad0 h => ok_getR h.1 cxX4 (by decide) rfl fkRX4_11 (fun _ _ _ => rfl) dX4_keep_13) <|
  tc (fun p e s m args below meth c cA D A ad0 h => ok_aload_n h.1 0 rfl dX4_keep_16) <|
  tc (fun p e s m args below meth c cA D A ad0 h => ok_getI h.1 cxX4 (by decide) rfl fkRX4_41 (fun _ _ _ => rfl) dX4_keep_17) <|
  tc (fun p e s m args below meth c cA D A ad0 h => ok_aload_n h.1 1 rfl dX4_keep_20) <|
  tc (fun p e s m args below meth c cA D A ad0 h => ok_aast h.1 dX4_keep_21) <|
  tc (fun p e s m args below meth c cA D A ad0 h => ok_aload_n h.1 0 rfl dX4_keep_22) <|
  tc (fun p e s m args below meth c cA D A ad0 h => ok_dup h.1 dX4_keep_23) <|
  tc (fun p e s m args below meth c cA D A ad0 h => ok_getI h.1 cxX4 (by decide) rfl fkRX4_41 (fun _ _ _ => rfl) dX4_keep_24) <|
  tc (fun p e s m args below meth c cA D A ad0 h => ok_iconst h.1 ⟨by decide, by decide⟩ dX4_keep_27) <|
  tc (fun p e s m args below meth c cA D A ad0 h => ok_iadd h.1 dX4_keep_28) <|
  tc (fun p e s m args below meth c cA D A ad0 h => ok_putI h.1 cxX4 (by decide) rfl fkRX4_41 (Or.inl rfl) (fun _ _ _ => rfl) (Or.inl rfl) dX4_keep_29) <|
  tc (fun p e s m args below meth c cA D A ad0 h => ok_return h.1 h.2.2.2.1 dX4_keep_32) <|
  tn
abbrev cuX4_keep : List Nat := []
theorem tX4_keep_0 (l : Launch) (K : aRs) (X : aXs) : tb (tbX4_keep l K X) 0 = sLd 0 1 isR := (rfl)
theorem wX4_keep_0 {l : Launch} {K : aRs} {X : aXs} {J : aK} {W : Nat → aK} (hW : isW (tbX4_keep l K X) cuX4_keep J W) (n : Nat) (ls st : List aV) (μ : aM) (g : Nat) : W (n + 1) 0 ls st μ g = (sLd 0 1 isR) (W n) ls st μ g := (hW n 0 ls st μ g).trans rfl
theorem wX4_keep_1 {l : Launch} {K : aRs} {X : aXs} {J : aK} {W : Nat → aK} (hW : isW (tbX4_keep l K X) cuX4_keep J W) (n : Nat) (ls st : List aV) (μ : aM) (g : Nat) : W (n + 1) 1 ls st μ g = (sGetI 4 5 4) (W n) ls st μ g := (hW n 1 ls st μ g).trans rfl
theorem wX4_keep_4 {l : Launch} {K : aRs} {X : aXs} {J : aK} {W : Nat → aK} (hW : isW (tbX4_keep l K X) cuX4_keep J W) (n : Nat) (ls st : List aV) (μ : aM) (g : Nat) : W (n + 1) 4 ls st μ g = (sLd 0 5 isR) (W n) ls st μ g := (hW n 4 ls st μ g).trans rfl
theorem wX4_keep_5 {l : Launch} {K : aRs} {X : aXs} {J : aK} {W : Nat → aK} (hW : isW (tbX4_keep l K X) cuX4_keep J W) (n : Nat) (ls st : List aV) (μ : aM) (g : Nat) : W (n + 1) 5 ls st μ g = (sGetR 4 0 8) (W n) ls st μ g := (hW n 5 ls st μ g).trans rfl
theorem wX4_keep_8 {l : Launch} {K : aRs} {X : aXs} {J : aK} {W : Nat → aK} (hW : isW (tbX4_keep l K X) cuX4_keep J W) (n : Nat) (ls st : List aV) (μ : aM) (g : Nat) : W (n + 1) 8 ls st μ g = (sAlen 9) (W n) ls st μ g := (hW n 8 ls st μ g).trans rfl
theorem wX4_keep_9 {l : Launch} {K : aRs} {X : aXs} {J : aK} {W : Nat → aK} (hW : isW (tbX4_keep l K X) cuX4_keep J W) (n : Nat) (ls st : List aV) (μ : aM) (g : Nat) : W (n + 1) 9 ls st μ g = (sIc qGe 32 12) (W n) ls st μ g := (hW n 9 ls st μ g).trans rfl
theorem wX4_keep_12 {l : Launch} {K : aRs} {X : aXs} {J : aK} {W : Nat → aK} (hW : isW (tbX4_keep l K X) cuX4_keep J W) (n : Nat) (ls st : List aV) (μ : aM) (g : Nat) : W (n + 1) 12 ls st μ g = (sLd 0 13 isR) (W n) ls st μ g := (hW n 12 ls st μ g).trans rfl
theorem wX4_keep_13 {l : Launch} {K : aRs} {X : aXs} {J : aK} {W : Nat → aK} (hW : isW (tbX4_keep l K X) cuX4_keep J W) (n : Nat) (ls st : List aV) (μ : aM) (g : Nat) : W (n + 1) 13 ls st μ g = (sGetR 4 0 16) (W n) ls st μ g := (hW n 13 ls st μ g).trans rfl
theorem wX4_keep_16 {l : Launch} {K : aRs} {X : aXs} {J : aK} {W : Nat → aK} (hW : isW (tbX4_keep l K X) cuX4_keep J W) (n : Nat) (ls st : List aV) (μ : aM) (g : Nat) : W (n + 1) 16 ls st μ g = (sLd 0 17 isR) (W n) ls st μ g := (hW n 16 ls st μ g).trans rfl
theorem wX4_keep_17 {l : Launch} {K : aRs} {X : aXs} {J : aK} {W : Nat → aK} (hW : isW (tbX4_keep l K X) cuX4_keep J W) (n : Nat) (ls st : List aV) (μ : aM) (g : Nat) : W (n + 1) 17 ls st μ g = (sGetI 4 5 20) (W n) ls st μ g := (hW n 17 ls st μ g).trans rfl
theorem wX4_keep_20 {l : Launch} {K : aRs} {X : aXs} {J : aK} {W : Nat → aK} (hW : isW (tbX4_keep l K X) cuX4_keep J W) (n : Nat) (ls st : List aV) (μ : aM) (g : Nat) : W (n + 1) 20 ls st μ g = (sLd 1 21 isR) (W n) ls st μ g := (hW n 20 ls st μ g).trans rfl
theorem wX4_keep_21 {l : Launch} {K : aRs} {X : aXs} {J : aK} {W : Nat → aK} (hW : isW (tbX4_keep l K X) cuX4_keep J W) (n : Nat) (ls st : List aV) (μ : aM) (g : Nat) : W (n + 1) 21 ls st μ g = (sAstR 22) (W n) ls st μ g := (hW n 21 ls st μ g).trans rfl
theorem wX4_keep_22 {l : Launch} {K : aRs} {X : aXs} {J : aK} {W : Nat → aK} (hW : isW (tbX4_keep l K X) cuX4_keep J W) (n : Nat) (ls st : List aV) (μ : aM) (g : Nat) : W (n + 1) 22 ls st μ g = (sLd 0 23 isR) (W n) ls st μ g := (hW n 22 ls st μ g).trans rfl
theorem wX4_keep_23 {l : Launch} {K : aRs} {X : aXs} {J : aK} {W : Nat → aK} (hW : isW (tbX4_keep l K X) cuX4_keep J W) (n : Nat) (ls st : List aV) (μ : aM) (g : Nat) : W (n + 1) 23 ls st μ g = (sDup 24) (W n) ls st μ g := (hW n 23 ls st μ g).trans rfl
theorem wX4_keep_24 {l : Launch} {K : aRs} {X : aXs} {J : aK} {W : Nat → aK} (hW : isW (tbX4_keep l K X) cuX4_keep J W) (n : Nat) (ls st : List aV) (μ : aM) (g : Nat) : W (n + 1) 24 ls st μ g = (sGetI 4 5 27) (W n) ls st μ g := (hW n 24 ls st μ g).trans rfl
theorem wX4_keep_27 {l : Launch} {K : aRs} {X : aXs} {J : aK} {W : Nat → aK} (hW : isW (tbX4_keep l K X) cuX4_keep J W) (n : Nat) (ls st : List aV) (μ : aM) (g : Nat) : W (n + 1) 27 ls st μ g = (sPush (aI 1) 28) (W n) ls st μ g := (hW n 27 ls st μ g).trans rfl
theorem wX4_keep_28 {l : Launch} {K : aRs} {X : aXs} {J : aK} {W : Nat → aK} (hW : isW (tbX4_keep l K X) cuX4_keep J W) (n : Nat) (ls st : List aV) (μ : aM) (g : Nat) : W (n + 1) 28 ls st μ g = (sBin fAdd 29) (W n) ls st μ g := (hW n 28 ls st μ g).trans rfl
theorem wX4_keep_29 {l : Launch} {K : aRs} {X : aXs} {J : aK} {W : Nat → aK} (hW : isW (tbX4_keep l K X) cuX4_keep J W) (n : Nat) (ls st : List aV) (μ : aM) (g : Nat) : W (n + 1) 29 ls st μ g = (sPutI 4 5 32) (W n) ls st μ g := (hW n 29 ls st μ g).trans rfl
theorem wX4_keep_32 {l : Launch} {K : aRs} {X : aXs} {J : aK} {W : Nat → aK} (hW : isW (tbX4_keep l K X) cuX4_keep J W) (n : Nat) (ls st : List aV) (μ : aM) (g : Nat) : W (n + 1) 32 ls st μ g = (sRetV 0 K) (W n) ls st μ g := (hW n 32 ls st μ g).trans rfl
theorem dX4_isFull_0 : decode cX4_isFull 0 = .ok (.aload_n 0, 1) := by decide +kernel
theorem dX4_isFull_1 : decode cX4_isFull 1 = .ok (.getfield 41, 3) := by decide +kernel
theorem dX4_isFull_4 : decode cX4_isFull 4 = .ok (.aload_n 0, 1) := by decide +kernel
theorem dX4_isFull_5 : decode cX4_isFull 5 = .ok (.getfield 11, 3) := by decide +kernel
theorem dX4_isFull_8 : decode cX4_isFull 8 = .ok (.arraylength, 1) := by decide +kernel
theorem dX4_isFull_9 : decode cX4_isFull 9 = .ok (.if_icmp .ge 21, 3) := by decide +kernel
theorem dX4_isFull_12 : decode cX4_isFull 12 = .ok (.aload_n 0, 1) := by decide +kernel
theorem dX4_isFull_13 : decode cX4_isFull 13 = .ok (.bipush 97, 2) := by decide +kernel
theorem dX4_isFull_15 : decode cX4_isFull 15 = .ok (.invokevirtual 125, 3) := by decide +kernel
theorem dX4_isFull_18 : decode cX4_isFull 18 = .ok (.aload_n 0, 1) := by decide +kernel
theorem dX4_isFull_19 : decode cX4_isFull 19 = .ok (.bipush 119, 2) := by decide +kernel
theorem dX4_isFull_21 : decode cX4_isFull 21 = .ok (.invokevirtual 125, 3) := by decide +kernel
theorem dX4_isFull_24 : decode cX4_isFull 24 = .ok (.iadd, 1) := by decide +kernel
theorem dX4_isFull_25 : decode cX4_isFull 25 = .ok (.bipush 60, 2) := by decide +kernel
theorem dX4_isFull_27 : decode cX4_isFull 27 = .ok (.if_icmp .lt 7, 3) := by decide +kernel
theorem dX4_isFull_30 : decode cX4_isFull 30 = .ok (.iconst 1, 1) := by decide +kernel
theorem dX4_isFull_31 : decode cX4_isFull 31 = .ok (.goto 4, 3) := by decide +kernel
theorem dX4_isFull_34 : decode cX4_isFull 34 = .ok (.iconst 0, 1) := by decide +kernel
theorem dX4_isFull_35 : decode cX4_isFull 35 = .ok (.ireturn, 1) := by decide +kernel
def tbX4_isFull (l : Launch) (K : aRs) (X : aXs) : aTb := [
  (0, sLd 0 1 isR),
  (1, sGetI 4 5 4),
  (4, sLd 0 5 isR),
  (5, sGetR 4 0 8),
  (8, sAlen 9),
  (9, sIc qGe 30 12),
  (12, sLd 0 13 isR),
  (13, sPush (aI 97) 15),
  (15, sCallV 1 4 (fun as μ K => Ct l mdX4_countIn as μ K X) 18 0 0),
  (18, sLd 0 19 isR),
  (19, sPush (aI 119) 21),
  (21, sCallV 1 4 (fun as μ K => Ct l mdX4_countIn as μ K X) 24 0 0),
  (24, sBin fAdd 25),
  (25, sPush (aI 60) 27),
  (27, sIc qLt 34 30),
  (30, sPush (aI 1) 31),
  (31, sGoto 35),
  (34, sPush (aI 0) 35),
  (35, sRetI .boolean 0 K)]
theorem snX4_isFull (l : Launch) (K : aRs) (X : aXs) (n0 : Nat) : ∀ q ∈ tbX4_isFull l K X, aSo l mdX4_isFull K X n0 q.1 q.2 :=
  tc (fun p e s m args below meth c cA D A ad0 h => ok_aload_n h.1 0 rfl dX4_isFull_0) <|
  tc (fun p e s m args below meth c cA D A ad0 h => ok_getI h.1 cxX4 (by decide) rfl fkRX4_41 (fun _ _ _ => rfl) dX4_isFull_1) <|
  tc (fun p e s m args below meth c cA D A ad0 h => ok_aload_n h.1 0 rfl dX4_isFull_4) <|
  tc (fun p e s m args below meth c cA D A ad0 h => ok_getR h.1 cxX4 (by decide) rfl fkRX4_11 (fun _ _ _ => rfl) dX4_isFull_5) <|
  tc (fun p e s m args below meth c cA D A ad0 h => ok_alen h.1 dX4_isFull_8) <|
  tc (fun p e s m args below meth c cA D A ad0 h => ok_icmp_ge h.1 30 (by decide) dX4_isFull_9) <|
  tc (fun p e s m args below meth c cA D A ad0 h => ok_aload_n h.1 0 rfl dX4_isFull_12) <|
  tc (fun p e s m args below meth c cA D A ad0 h => ok_bipush h.1 ⟨by decide, by decide⟩ (by decide) dX4_isFull_13) <|
  tc (fun p e s m args below meth c cA D A ad0 h => ok_callV h.1 h.2.1 ⟨Nat.le_refl _, Nat.le_refl _⟩ mdX4_countIn siX4_countIn cxX4 mkRX4_125 imX4_countIn seX4_countIn ⟨by decide, by decide⟩ (aAx_out h.1 h.2.2.1 _) dX4_isFull_15) <|
  tc (fun p e s m args below meth c cA D A ad0 h => ok_aload_n h.1 0 rfl dX4_isFull_18) <|
  tc (fun p e s m args below meth c cA D A ad0 h => ok_bipush h.1 ⟨by decide, by decide⟩ (by decide) dX4_isFull_19) <|
  tc (fun p e s m args below meth c cA D A ad0 h => ok_callV h.1 h.2.1 ⟨Nat.le_refl _, Nat.le_refl _⟩ mdX4_countIn siX4_countIn cxX4 mkRX4_125 imX4_countIn seX4_countIn ⟨by decide, by decide⟩ (aAx_out h.1 h.2.2.1 _) dX4_isFull_21) <|
  tc (fun p e s m args below meth c cA D A ad0 h => ok_iadd h.1 dX4_isFull_24) <|
  tc (fun p e s m args below meth c cA D A ad0 h => ok_bipush h.1 ⟨by decide, by decide⟩ (by decide) dX4_isFull_25) <|
  tc (fun p e s m args below meth c cA D A ad0 h => ok_icmp_lt h.1 34 (by decide) dX4_isFull_27) <|
  tc (fun p e s m args below meth c cA D A ad0 h => ok_iconst h.1 ⟨by decide, by decide⟩ dX4_isFull_30) <|
  tc (fun p e s m args below meth c cA D A ad0 h => ok_goto h.1 35 (by decide) dX4_isFull_31) <|
  tc (fun p e s m args below meth c cA D A ad0 h => ok_iconst h.1 ⟨by decide, by decide⟩ dX4_isFull_34) <|
  tc (fun p e s m args below meth c cA D A ad0 h => ok_ireturn h.1 h.2.2.2.1 (Or.inr (Or.inl rfl)) dX4_isFull_35) <|
  tn
abbrev cuX4_isFull : List Nat := [18, 24]
theorem tX4_isFull_0 (l : Launch) (K : aRs) (X : aXs) : tb (tbX4_isFull l K X) 0 = sLd 0 1 isR := (rfl)
theorem wX4_isFull_0 {l : Launch} {K : aRs} {X : aXs} {J : aK} {W : Nat → aK} (hW : isW (tbX4_isFull l K X) cuX4_isFull J W) (n : Nat) (ls st : List aV) (μ : aM) (g : Nat) : W (n + 1) 0 ls st μ g = (sLd 0 1 isR) (W n) ls st μ g := (hW n 0 ls st μ g).trans rfl
theorem wX4_isFull_1 {l : Launch} {K : aRs} {X : aXs} {J : aK} {W : Nat → aK} (hW : isW (tbX4_isFull l K X) cuX4_isFull J W) (n : Nat) (ls st : List aV) (μ : aM) (g : Nat) : W (n + 1) 1 ls st μ g = (sGetI 4 5 4) (W n) ls st μ g := (hW n 1 ls st μ g).trans rfl
theorem wX4_isFull_4 {l : Launch} {K : aRs} {X : aXs} {J : aK} {W : Nat → aK} (hW : isW (tbX4_isFull l K X) cuX4_isFull J W) (n : Nat) (ls st : List aV) (μ : aM) (g : Nat) : W (n + 1) 4 ls st μ g = (sLd 0 5 isR) (W n) ls st μ g := (hW n 4 ls st μ g).trans rfl
theorem wX4_isFull_5 {l : Launch} {K : aRs} {X : aXs} {J : aK} {W : Nat → aK} (hW : isW (tbX4_isFull l K X) cuX4_isFull J W) (n : Nat) (ls st : List aV) (μ : aM) (g : Nat) : W (n + 1) 5 ls st μ g = (sGetR 4 0 8) (W n) ls st μ g := (hW n 5 ls st μ g).trans rfl
theorem wX4_isFull_8 {l : Launch} {K : aRs} {X : aXs} {J : aK} {W : Nat → aK} (hW : isW (tbX4_isFull l K X) cuX4_isFull J W) (n : Nat) (ls st : List aV) (μ : aM) (g : Nat) : W (n + 1) 8 ls st μ g = (sAlen 9) (W n) ls st μ g := (hW n 8 ls st μ g).trans rfl
theorem wX4_isFull_9 {l : Launch} {K : aRs} {X : aXs} {J : aK} {W : Nat → aK} (hW : isW (tbX4_isFull l K X) cuX4_isFull J W) (n : Nat) (ls st : List aV) (μ : aM) (g : Nat) : W (n + 1) 9 ls st μ g = (sIc qGe 30 12) (W n) ls st μ g := (hW n 9 ls st μ g).trans rfl
theorem wX4_isFull_12 {l : Launch} {K : aRs} {X : aXs} {J : aK} {W : Nat → aK} (hW : isW (tbX4_isFull l K X) cuX4_isFull J W) (n : Nat) (ls st : List aV) (μ : aM) (g : Nat) : W (n + 1) 12 ls st μ g = (sLd 0 13 isR) (W n) ls st μ g := (hW n 12 ls st μ g).trans rfl
theorem wX4_isFull_13 {l : Launch} {K : aRs} {X : aXs} {J : aK} {W : Nat → aK} (hW : isW (tbX4_isFull l K X) cuX4_isFull J W) (n : Nat) (ls st : List aV) (μ : aM) (g : Nat) : W (n + 1) 13 ls st μ g = (sPush (aI 97) 15) (W n) ls st μ g := (hW n 13 ls st μ g).trans rfl
theorem wX4_isFull_15 {l : Launch} {K : aRs} {X : aXs} {J : aK} {W : Nat → aK} (hW : isW (tbX4_isFull l K X) cuX4_isFull J W) (n : Nat) (ls st : List aV) (μ : aM) (g : Nat) : W (n + 1) 15 ls st μ g = (sCallV 1 4 (fun as μ K => Ct l mdX4_countIn as μ K X) 18 0 0) (W n) ls st μ g := (hW n 15 ls st μ g).trans rfl
theorem tX4_isFull_18 (l : Launch) (K : aRs) (X : aXs) : tb (tbX4_isFull l K X) 18 = sLd 0 19 isR := (rfl)
theorem wX4_isFull_18 {l : Launch} {K : aRs} {X : aXs} {J : aK} {W : Nat → aK} (hW : isW (tbX4_isFull l K X) cuX4_isFull J W) (n : Nat) (ls st : List aV) (μ : aM) (g : Nat) : W (n + 1) 18 ls st μ g = J 18 ls st μ g := (hW n 18 ls st μ g).trans rfl
theorem wX4_isFull_19 {l : Launch} {K : aRs} {X : aXs} {J : aK} {W : Nat → aK} (hW : isW (tbX4_isFull l K X) cuX4_isFull J W) (n : Nat) (ls st : List aV) (μ : aM) (g : Nat) : W (n + 1) 19 ls st μ g = (sPush (aI 119) 21) (W n) ls st μ g := (hW n 19 ls st μ g).trans rfl
theorem wX4_isFull_21 {l : Launch} {K : aRs} {X : aXs} {J : aK} {W : Nat → aK} (hW : isW (tbX4_isFull l K X) cuX4_isFull J W) (n : Nat) (ls st : List aV) (μ : aM) (g : Nat) : W (n + 1) 21 ls st μ g = (sCallV 1 4 (fun as μ K => Ct l mdX4_countIn as μ K X) 24 0 0) (W n) ls st μ g := (hW n 21 ls st μ g).trans rfl
theorem tX4_isFull_24 (l : Launch) (K : aRs) (X : aXs) : tb (tbX4_isFull l K X) 24 = sBin fAdd 25 := (rfl)
theorem wX4_isFull_24 {l : Launch} {K : aRs} {X : aXs} {J : aK} {W : Nat → aK} (hW : isW (tbX4_isFull l K X) cuX4_isFull J W) (n : Nat) (ls st : List aV) (μ : aM) (g : Nat) : W (n + 1) 24 ls st μ g = J 24 ls st μ g := (hW n 24 ls st μ g).trans rfl
theorem wX4_isFull_25 {l : Launch} {K : aRs} {X : aXs} {J : aK} {W : Nat → aK} (hW : isW (tbX4_isFull l K X) cuX4_isFull J W) (n : Nat) (ls st : List aV) (μ : aM) (g : Nat) : W (n + 1) 25 ls st μ g = (sPush (aI 60) 27) (W n) ls st μ g := (hW n 25 ls st μ g).trans rfl
theorem wX4_isFull_27 {l : Launch} {K : aRs} {X : aXs} {J : aK} {W : Nat → aK} (hW : isW (tbX4_isFull l K X) cuX4_isFull J W) (n : Nat) (ls st : List aV) (μ : aM) (g : Nat) : W (n + 1) 27 ls st μ g = (sIc qLt 34 30) (W n) ls st μ g := (hW n 27 ls st μ g).trans rfl
theorem wX4_isFull_30 {l : Launch} {K : aRs} {X : aXs} {J : aK} {W : Nat → aK} (hW : isW (tbX4_isFull l K X) cuX4_isFull J W) (n : Nat) (ls st : List aV) (μ : aM) (g : Nat) : W (n + 1) 30 ls st μ g = (sPush (aI 1) 31) (W n) ls st μ g := (hW n 30 ls st μ g).trans rfl
theorem wX4_isFull_31 {l : Launch} {K : aRs} {X : aXs} {J : aK} {W : Nat → aK} (hW : isW (tbX4_isFull l K X) cuX4_isFull J W) (n : Nat) (ls st : List aV) (μ : aM) (g : Nat) : W (n + 1) 31 ls st μ g = (sGoto 35) (W n) ls st μ g := (hW n 31 ls st μ g).trans rfl
theorem wX4_isFull_34 {l : Launch} {K : aRs} {X : aXs} {J : aK} {W : Nat → aK} (hW : isW (tbX4_isFull l K X) cuX4_isFull J W) (n : Nat) (ls st : List aV) (μ : aM) (g : Nat) : W (n + 1) 34 ls st μ g = (sPush (aI 0) 35) (W n) ls st μ g := (hW n 34 ls st μ g).trans rfl
theorem wX4_isFull_35 {l : Launch} {K : aRs} {X : aXs} {J : aK} {W : Nat → aK} (hW : isW (tbX4_isFull l K X) cuX4_isFull J W) (n : Nat) (ls st : List aV) (μ : aM) (g : Nat) : W (n + 1) 35 ls st μ g = (sRetI .boolean 0 K) (W n) ls st μ g := (hW n 35 ls st μ g).trans rfl
theorem dX4_countIn_0 : decode cX4_countIn 0 = .ok (.iconst 0, 1) := by decide +kernel
theorem dX4_countIn_1 : decode cX4_countIn 1 = .ok (.istore_n 2, 1) := by decide +kernel
theorem dX4_countIn_2 : decode cX4_countIn 2 = .ok (.iconst 0, 1) := by decide +kernel
theorem dX4_countIn_3 : decode cX4_countIn 3 = .ok (.istore_n 3, 1) := by decide +kernel
theorem dX4_countIn_4 : decode cX4_countIn 4 = .ok (.iload_n 3, 1) := by decide +kernel
theorem dX4_countIn_5 : decode cX4_countIn 5 = .ok (.aload_n 0, 1) := by decide +kernel
theorem dX4_countIn_6 : decode cX4_countIn 6 = .ok (.getfield 41, 3) := by decide +kernel
theorem dX4_countIn_9 : decode cX4_countIn 9 = .ok (.if_icmp .ge 33, 3) := by decide +kernel
theorem dX4_countIn_12 : decode cX4_countIn 12 = .ok (.aload_n 0, 1) := by decide +kernel
theorem dX4_countIn_13 : decode cX4_countIn 13 = .ok (.iload_n 3, 1) := by decide +kernel
theorem dX4_countIn_14 : decode cX4_countIn 14 = .ok (.invokevirtual 221, 3) := by decide +kernel
theorem dX4_countIn_17 : decode cX4_countIn 17 = .ok (.astore 4, 2) := by decide +kernel
theorem dX4_countIn_19 : decode cX4_countIn 19 = .ok (.aload 4, 2) := by decide +kernel
theorem dX4_countIn_21 : decode cX4_countIn 21 = .ok (.ifnull 15, 3) := by decide +kernel
theorem dX4_countIn_24 : decode cX4_countIn 24 = .ok (.aload 4, 2) := by decide +kernel
theorem dX4_countIn_26 : decode cX4_countIn 26 = .ok (.getfield 103, 3) := by decide +kernel
theorem dX4_countIn_29 : decode cX4_countIn 29 = .ok (.iload_n 1, 1) := by decide +kernel
theorem dX4_countIn_30 : decode cX4_countIn 30 = .ok (.if_icmp .ne 6, 3) := by decide +kernel
theorem dX4_countIn_33 : decode cX4_countIn 33 = .ok (.iinc 2 1, 3) := by decide +kernel
theorem dX4_countIn_36 : decode cX4_countIn 36 = .ok (.iinc 3 1, 3) := by decide +kernel
theorem dX4_countIn_39 : decode cX4_countIn 39 = .ok (.goto (-35), 3) := by decide +kernel
theorem dX4_countIn_42 : decode cX4_countIn 42 = .ok (.iload_n 2, 1) := by decide +kernel
theorem dX4_countIn_43 : decode cX4_countIn 43 = .ok (.ireturn, 1) := by decide +kernel
def tbX4_countIn (l : Launch) (K : aRs) (X : aXs) : aTb := [
  (0, sPush (aI 0) 1),
  (1, sSt 2 2 isI),
  (2, sPush (aI 0) 3),
  (3, sSt 3 4 isI),
  (4, sLd 3 5 isI),
  (5, sLd 0 6 isR),
  (6, sGetI 4 5 9),
  (9, sIc qGe 42 12),
  (12, sLd 0 13 isR),
  (13, sLd 3 14 isI),
  (14, sCallV 1 4 (fun as μ K => Ct l mdX4_orderOf as μ K X) 17 0 0),
  (17, sSt 4 19 isR),
  (19, sLd 4 21 isR),
  (21, sNul 36 24),
  (24, sLd 4 26 isR),
  (26, sGetI 2 10 29),
  (29, sLd 1 30 isI),
  (30, sIc qNe 36 33),
  (33, sInc 2 1 36),
  (36, sInc 3 1 39),
  (39, sGoto 4),
  (42, sLd 2 43 isI),
  (43, sRetI .int 0 K)]
theorem snX4_countIn (l : Launch) (K : aRs) (X : aXs) (n0 : Nat) : ∀ q ∈ tbX4_countIn l K X, aSo l mdX4_countIn K X n0 q.1 q.2 :=
  tc (fun p e s m args below meth c cA D A ad0 h => ok_iconst h.1 ⟨by decide, by decide⟩ dX4_countIn_0) <|
  tc (fun p e s m args below meth c cA D A ad0 h => ok_istore_n h.1 2 rfl (by decide) dX4_countIn_1) <|
  tc (fun p e s m args below meth c cA D A ad0 h => ok_iconst h.1 ⟨by decide, by decide⟩ dX4_countIn_2) <|
  tc (fun p e s m args below meth c cA D A ad0 h => ok_istore_n h.1 3 rfl (by decide) dX4_countIn_3) <|
  tc (fun p e s m args below meth c cA D A ad0 h => ok_iload_n h.1 3 rfl dX4_countIn_4) <|
  tc (fun p e s m args below meth c cA D A ad0 h => ok_aload_n h.1 0 rfl dX4_countIn_5) <|
  tc (fun p e s m args below meth c cA D A ad0 h => ok_getI h.1 cxX4 (by decide) rfl fkRX4_41 (fun _ _ _ => rfl) dX4_countIn_6) <|
  tc (fun p e s m args below meth c cA D A ad0 h => ok_icmp_ge h.1 42 (by decide) dX4_countIn_9) <|
  tc (fun p e s m args below meth c cA D A ad0 h => ok_aload_n h.1 0 rfl dX4_countIn_12) <|
  tc (fun p e s m args below meth c cA D A ad0 h => ok_iload_n h.1 3 rfl dX4_countIn_13) <|
  tc (fun p e s m args below meth c cA D A ad0 h => ok_callV h.1 h.2.1 ⟨Nat.le_refl _, Nat.le_refl _⟩ mdX4_orderOf siX4_orderOf cxX4 mkRX4_221 imX4_orderOf seX4_orderOf ⟨by decide, by decide⟩ (aAx_out h.1 h.2.2.1 _) dX4_countIn_14) <|
  tc (fun p e s m args below meth c cA D A ad0 h => ok_astore h.1 (by decide) dX4_countIn_17) <|
  tc (fun p e s m args below meth c cA D A ad0 h => ok_aload h.1 dX4_countIn_19) <|
  tc (fun p e s m args below meth c cA D A ad0 h => ok_ifnull h.1 36 (by decide) dX4_countIn_21) <|
  tc (fun p e s m args below meth c cA D A ad0 h => ok_aload h.1 dX4_countIn_24) <|
  tc (fun p e s m args below meth c cA D A ad0 h => ok_getI h.1 cxX2 (by decide) rfl fkRX4_103 (fun _ _ _ => rfl) dX4_countIn_26) <|
  tc (fun p e s m args below meth c cA D A ad0 h => ok_iload_n h.1 1 rfl dX4_countIn_29) <|
  tc (fun p e s m args below meth c cA D A ad0 h => ok_icmp_ne h.1 36 (by decide) dX4_countIn_30) <|
  tc (fun p e s m args below meth c cA D A ad0 h => ok_iinc h.1 (by decide) dX4_countIn_33) <|
  tc (fun p e s m args below meth c cA D A ad0 h => ok_iinc h.1 (by decide) dX4_countIn_36) <|
  tc (fun p e s m args below meth c cA D A ad0 h => ok_goto h.1 4 (by decide) dX4_countIn_39) <|
  tc (fun p e s m args below meth c cA D A ad0 h => ok_iload_n h.1 2 rfl dX4_countIn_42) <|
  tc (fun p e s m args below meth c cA D A ad0 h => ok_ireturn h.1 h.2.2.2.1 (Or.inl rfl) dX4_countIn_43) <|
  tn
abbrev cuX4_countIn : List Nat := [4, 17]
theorem tX4_countIn_0 (l : Launch) (K : aRs) (X : aXs) : tb (tbX4_countIn l K X) 0 = sPush (aI 0) 1 := (rfl)
theorem wX4_countIn_0 {l : Launch} {K : aRs} {X : aXs} {J : aK} {W : Nat → aK} (hW : isW (tbX4_countIn l K X) cuX4_countIn J W) (n : Nat) (ls st : List aV) (μ : aM) (g : Nat) : W (n + 1) 0 ls st μ g = (sPush (aI 0) 1) (W n) ls st μ g := (hW n 0 ls st μ g).trans rfl
theorem wX4_countIn_1 {l : Launch} {K : aRs} {X : aXs} {J : aK} {W : Nat → aK} (hW : isW (tbX4_countIn l K X) cuX4_countIn J W) (n : Nat) (ls st : List aV) (μ : aM) (g : Nat) : W (n + 1) 1 ls st μ g = (sSt 2 2 isI) (W n) ls st μ g := (hW n 1 ls st μ g).trans rfl
theorem wX4_countIn_2 {l : Launch} {K : aRs} {X : aXs} {J : aK} {W : Nat → aK} (hW : isW (tbX4_countIn l K X) cuX4_countIn J W) (n : Nat) (ls st : List aV) (μ : aM) (g : Nat) : W (n + 1) 2 ls st μ g = (sPush (aI 0) 3) (W n) ls st μ g := (hW n 2 ls st μ g).trans rfl
theorem wX4_countIn_3 {l : Launch} {K : aRs} {X : aXs} {J : aK} {W : Nat → aK} (hW : isW (tbX4_countIn l K X) cuX4_countIn J W) (n : Nat) (ls st : List aV) (μ : aM) (g : Nat) : W (n + 1) 3 ls st μ g = (sSt 3 4 isI) (W n) ls st μ g := (hW n 3 ls st μ g).trans rfl
theorem tX4_countIn_4 (l : Launch) (K : aRs) (X : aXs) : tb (tbX4_countIn l K X) 4 = sLd 3 5 isI := (rfl)
theorem wX4_countIn_4 {l : Launch} {K : aRs} {X : aXs} {J : aK} {W : Nat → aK} (hW : isW (tbX4_countIn l K X) cuX4_countIn J W) (n : Nat) (ls st : List aV) (μ : aM) (g : Nat) : W (n + 1) 4 ls st μ g = J 4 ls st μ g := (hW n 4 ls st μ g).trans rfl
theorem wX4_countIn_5 {l : Launch} {K : aRs} {X : aXs} {J : aK} {W : Nat → aK} (hW : isW (tbX4_countIn l K X) cuX4_countIn J W) (n : Nat) (ls st : List aV) (μ : aM) (g : Nat) : W (n + 1) 5 ls st μ g = (sLd 0 6 isR) (W n) ls st μ g := (hW n 5 ls st μ g).trans rfl
theorem wX4_countIn_6 {l : Launch} {K : aRs} {X : aXs} {J : aK} {W : Nat → aK} (hW : isW (tbX4_countIn l K X) cuX4_countIn J W) (n : Nat) (ls st : List aV) (μ : aM) (g : Nat) : W (n + 1) 6 ls st μ g = (sGetI 4 5 9) (W n) ls st μ g := (hW n 6 ls st μ g).trans rfl
theorem wX4_countIn_9 {l : Launch} {K : aRs} {X : aXs} {J : aK} {W : Nat → aK} (hW : isW (tbX4_countIn l K X) cuX4_countIn J W) (n : Nat) (ls st : List aV) (μ : aM) (g : Nat) : W (n + 1) 9 ls st μ g = (sIc qGe 42 12) (W n) ls st μ g := (hW n 9 ls st μ g).trans rfl
theorem wX4_countIn_12 {l : Launch} {K : aRs} {X : aXs} {J : aK} {W : Nat → aK} (hW : isW (tbX4_countIn l K X) cuX4_countIn J W) (n : Nat) (ls st : List aV) (μ : aM) (g : Nat) : W (n + 1) 12 ls st μ g = (sLd 0 13 isR) (W n) ls st μ g := (hW n 12 ls st μ g).trans rfl
theorem wX4_countIn_13 {l : Launch} {K : aRs} {X : aXs} {J : aK} {W : Nat → aK} (hW : isW (tbX4_countIn l K X) cuX4_countIn J W) (n : Nat) (ls st : List aV) (μ : aM) (g : Nat) : W (n + 1) 13 ls st μ g = (sLd 3 14 isI) (W n) ls st μ g := (hW n 13 ls st μ g).trans rfl
theorem wX4_countIn_14 {l : Launch} {K : aRs} {X : aXs} {J : aK} {W : Nat → aK} (hW : isW (tbX4_countIn l K X) cuX4_countIn J W) (n : Nat) (ls st : List aV) (μ : aM) (g : Nat) : W (n + 1) 14 ls st μ g = (sCallV 1 4 (fun as μ K => Ct l mdX4_orderOf as μ K X) 17 0 0) (W n) ls st μ g := (hW n 14 ls st μ g).trans rfl
theorem tX4_countIn_17 (l : Launch) (K : aRs) (X : aXs) : tb (tbX4_countIn l K X) 17 = sSt 4 19 isR := (rfl)
theorem wX4_countIn_17 {l : Launch} {K : aRs} {X : aXs} {J : aK} {W : Nat → aK} (hW : isW (tbX4_countIn l K X) cuX4_countIn J W) (n : Nat) (ls st : List aV) (μ : aM) (g : Nat) : W (n + 1) 17 ls st μ g = J 17 ls st μ g := (hW n 17 ls st μ g).trans rfl
theorem wX4_countIn_19 {l : Launch} {K : aRs} {X : aXs} {J : aK} {W : Nat → aK} (hW : isW (tbX4_countIn l K X) cuX4_countIn J W) (n : Nat) (ls st : List aV) (μ : aM) (g : Nat) : W (n + 1) 19 ls st μ g = (sLd 4 21 isR) (W n) ls st μ g := (hW n 19 ls st μ g).trans rfl
theorem wX4_countIn_21 {l : Launch} {K : aRs} {X : aXs} {J : aK} {W : Nat → aK} (hW : isW (tbX4_countIn l K X) cuX4_countIn J W) (n : Nat) (ls st : List aV) (μ : aM) (g : Nat) : W (n + 1) 21 ls st μ g = (sNul 36 24) (W n) ls st μ g := (hW n 21 ls st μ g).trans rfl
theorem wX4_countIn_24 {l : Launch} {K : aRs} {X : aXs} {J : aK} {W : Nat → aK} (hW : isW (tbX4_countIn l K X) cuX4_countIn J W) (n : Nat) (ls st : List aV) (μ : aM) (g : Nat) : W (n + 1) 24 ls st μ g = (sLd 4 26 isR) (W n) ls st μ g := (hW n 24 ls st μ g).trans rfl
theorem wX4_countIn_26 {l : Launch} {K : aRs} {X : aXs} {J : aK} {W : Nat → aK} (hW : isW (tbX4_countIn l K X) cuX4_countIn J W) (n : Nat) (ls st : List aV) (μ : aM) (g : Nat) : W (n + 1) 26 ls st μ g = (sGetI 2 10 29) (W n) ls st μ g := (hW n 26 ls st μ g).trans rfl
theorem wX4_countIn_29 {l : Launch} {K : aRs} {X : aXs} {J : aK} {W : Nat → aK} (hW : isW (tbX4_countIn l K X) cuX4_countIn J W) (n : Nat) (ls st : List aV) (μ : aM) (g : Nat) : W (n + 1) 29 ls st μ g = (sLd 1 30 isI) (W n) ls st μ g := (hW n 29 ls st μ g).trans rfl
theorem wX4_countIn_30 {l : Launch} {K : aRs} {X : aXs} {J : aK} {W : Nat → aK} (hW : isW (tbX4_countIn l K X) cuX4_countIn J W) (n : Nat) (ls st : List aV) (μ : aM) (g : Nat) : W (n + 1) 30 ls st μ g = (sIc qNe 36 33) (W n) ls st μ g := (hW n 30 ls st μ g).trans rfl
theorem wX4_countIn_33 {l : Launch} {K : aRs} {X : aXs} {J : aK} {W : Nat → aK} (hW : isW (tbX4_countIn l K X) cuX4_countIn J W) (n : Nat) (ls st : List aV) (μ : aM) (g : Nat) : W (n + 1) 33 ls st μ g = (sInc 2 1 36) (W n) ls st μ g := (hW n 33 ls st μ g).trans rfl
theorem wX4_countIn_36 {l : Launch} {K : aRs} {X : aXs} {J : aK} {W : Nat → aK} (hW : isW (tbX4_countIn l K X) cuX4_countIn J W) (n : Nat) (ls st : List aV) (μ : aM) (g : Nat) : W (n + 1) 36 ls st μ g = (sInc 3 1 39) (W n) ls st μ g := (hW n 36 ls st μ g).trans rfl
theorem wX4_countIn_39 {l : Launch} {K : aRs} {X : aXs} {J : aK} {W : Nat → aK} (hW : isW (tbX4_countIn l K X) cuX4_countIn J W) (n : Nat) (ls st : List aV) (μ : aM) (g : Nat) : W (n + 1) 39 ls st μ g = (sGoto 4) (W n) ls st μ g := (hW n 39 ls st μ g).trans rfl
theorem wX4_countIn_42 {l : Launch} {K : aRs} {X : aXs} {J : aK} {W : Nat → aK} (hW : isW (tbX4_countIn l K X) cuX4_countIn J W) (n : Nat) (ls st : List aV) (μ : aM) (g : Nat) : W (n + 1) 42 ls st μ g = (sLd 2 43 isI) (W n) ls st μ g := (hW n 42 ls st μ g).trans rfl
theorem wX4_countIn_43 {l : Launch} {K : aRs} {X : aXs} {J : aK} {W : Nat → aK} (hW : isW (tbX4_countIn l K X) cuX4_countIn J W) (n : Nat) (ls st : List aV) (μ : aM) (g : Nat) : W (n + 1) 43 ls st μ g = (sRetI .int 0 K) (W n) ls st μ g := (hW n 43 ls st μ g).trans rfl
theorem dX4_sideOf_0 : decode cX4_sideOf 0 = .ok (.aload_n 1, 1) := by decide +kernel
theorem dX4_sideOf_1 : decode cX4_sideOf 1 = .ok (.getfield 230, 3) := by decide +kernel
theorem dX4_sideOf_4 : decode cX4_sideOf 4 = .ok (.ifCond .eq 10, 3) := by decide +kernel
theorem dX4_sideOf_7 : decode cX4_sideOf 7 = .ok (.aload_n 0, 1) := by decide +kernel
theorem dX4_sideOf_8 : decode cX4_sideOf 8 = .ok (.getfield 20, 3) := by decide +kernel
theorem dX4_sideOf_11 : decode cX4_sideOf 11 = .ok (.goto 7, 3) := by decide +kernel
theorem dX4_sideOf_14 : decode cX4_sideOf 14 = .ok (.aload_n 0, 1) := by decide +kernel
theorem dX4_sideOf_15 : decode cX4_sideOf 15 = .ok (.getfield 24, 3) := by decide +kernel
theorem dX4_sideOf_18 : decode cX4_sideOf 18 = .ok (.areturn, 1) := by decide +kernel
def tbX4_sideOf (l : Launch) (K : aRs) (X : aXs) : aTb := [
  (0, sLd 1 1 isR),
  (1, sGetI 2 2 4),
  (4, sIf pEq 14 7),
  (7, sLd 0 8 isR),
  (8, sGetR 4 1 11),
  (11, sGoto 18),
  (14, sLd 0 15 isR),
  (15, sGetR 4 2 18),
  (18, sRetR 0 K)]
theorem snX4_sideOf (l : Launch) (K : aRs) (X : aXs) (n0 : Nat) : ∀ q ∈ tbX4_sideOf l K X, aSo l mdX4_sideOf K X n0 q.1 q.2 :=
  tc (fun p e s m args below meth c cA D A ad0 h => ok_aload_n h.1 1 rfl dX4_sideOf_0) <|
  tc (fun p e s m args below meth c cA D A ad0 h => ok_getI h.1 cxX2 (by decide) rfl fkRX4_230 (fun _ _ _ => rfl) dX4_sideOf_1) <|
  tc (fun p e s m args below meth c cA D A ad0 h => ok_if_eq h.1 14 (by decide) dX4_sideOf_4) <|
  tc (fun p e s m args below meth c cA D A ad0 h => ok_aload_n h.1 0 rfl dX4_sideOf_7) <|
  tc (fun p e s m args below meth c cA D A ad0 h => ok_getR h.1 cxX4 (by decide) rfl fkRX4_20 (fun _ _ _ => rfl) dX4_sideOf_8) <|
  tc (fun p e s m args below meth c cA D A ad0 h => ok_goto h.1 18 (by decide) dX4_sideOf_11) <|
  tc (fun p e s m args below meth c cA D A ad0 h => ok_aload_n h.1 0 rfl dX4_sideOf_14) <|
  tc (fun p e s m args below meth c cA D A ad0 h => ok_getR h.1 cxX4 (by decide) rfl fkRX4_24 (fun _ _ _ => rfl) dX4_sideOf_15) <|
  tc (fun p e s m args below meth c cA D A ad0 h => ok_areturn h.1 h.2.2.2.1 (Or.inl ⟨_, rfl⟩) dX4_sideOf_18) <|
  tn
abbrev cuX4_sideOf : List Nat := []
theorem tX4_sideOf_0 (l : Launch) (K : aRs) (X : aXs) : tb (tbX4_sideOf l K X) 0 = sLd 1 1 isR := (rfl)
theorem wX4_sideOf_0 {l : Launch} {K : aRs} {X : aXs} {J : aK} {W : Nat → aK} (hW : isW (tbX4_sideOf l K X) cuX4_sideOf J W) (n : Nat) (ls st : List aV) (μ : aM) (g : Nat) : W (n + 1) 0 ls st μ g = (sLd 1 1 isR) (W n) ls st μ g := (hW n 0 ls st μ g).trans rfl
theorem wX4_sideOf_1 {l : Launch} {K : aRs} {X : aXs} {J : aK} {W : Nat → aK} (hW : isW (tbX4_sideOf l K X) cuX4_sideOf J W) (n : Nat) (ls st : List aV) (μ : aM) (g : Nat) : W (n + 1) 1 ls st μ g = (sGetI 2 2 4) (W n) ls st μ g := (hW n 1 ls st μ g).trans rfl
theorem wX4_sideOf_4 {l : Launch} {K : aRs} {X : aXs} {J : aK} {W : Nat → aK} (hW : isW (tbX4_sideOf l K X) cuX4_sideOf J W) (n : Nat) (ls st : List aV) (μ : aM) (g : Nat) : W (n + 1) 4 ls st μ g = (sIf pEq 14 7) (W n) ls st μ g := (hW n 4 ls st μ g).trans rfl
theorem wX4_sideOf_7 {l : Launch} {K : aRs} {X : aXs} {J : aK} {W : Nat → aK} (hW : isW (tbX4_sideOf l K X) cuX4_sideOf J W) (n : Nat) (ls st : List aV) (μ : aM) (g : Nat) : W (n + 1) 7 ls st μ g = (sLd 0 8 isR) (W n) ls st μ g := (hW n 7 ls st μ g).trans rfl
theorem wX4_sideOf_8 {l : Launch} {K : aRs} {X : aXs} {J : aK} {W : Nat → aK} (hW : isW (tbX4_sideOf l K X) cuX4_sideOf J W) (n : Nat) (ls st : List aV) (μ : aM) (g : Nat) : W (n + 1) 8 ls st μ g = (sGetR 4 1 11) (W n) ls st μ g := (hW n 8 ls st μ g).trans rfl
theorem wX4_sideOf_11 {l : Launch} {K : aRs} {X : aXs} {J : aK} {W : Nat → aK} (hW : isW (tbX4_sideOf l K X) cuX4_sideOf J W) (n : Nat) (ls st : List aV) (μ : aM) (g : Nat) : W (n + 1) 11 ls st μ g = (sGoto 18) (W n) ls st μ g := (hW n 11 ls st μ g).trans rfl
theorem wX4_sideOf_14 {l : Launch} {K : aRs} {X : aXs} {J : aK} {W : Nat → aK} (hW : isW (tbX4_sideOf l K X) cuX4_sideOf J W) (n : Nat) (ls st : List aV) (μ : aM) (g : Nat) : W (n + 1) 14 ls st μ g = (sLd 0 15 isR) (W n) ls st μ g := (hW n 14 ls st μ g).trans rfl
theorem wX4_sideOf_15 {l : Launch} {K : aRs} {X : aXs} {J : aK} {W : Nat → aK} (hW : isW (tbX4_sideOf l K X) cuX4_sideOf J W) (n : Nat) (ls st : List aV) (μ : aM) (g : Nat) : W (n + 1) 15 ls st μ g = (sGetR 4 2 18) (W n) ls st μ g := (hW n 15 ls st μ g).trans rfl
theorem wX4_sideOf_18 {l : Launch} {K : aRs} {X : aXs} {J : aK} {W : Nat → aK} (hW : isW (tbX4_sideOf l K X) cuX4_sideOf J W) (n : Nat) (ls st : List aV) (μ : aM) (g : Nat) : W (n + 1) 18 ls st μ g = (sRetR 0 K) (W n) ls st μ g := (hW n 18 ls st μ g).trans rfl
theorem dX4_comeIn_0 : decode cX4_comeIn 0 = .ok (.aload_n 1, 1) := by decide +kernel
theorem dX4_comeIn_1 : decode cX4_comeIn 1 = .ok (.bipush 97, 2) := by decide +kernel
theorem dX4_comeIn_3 : decode cX4_comeIn 3 = .ok (.putfield 103, 3) := by decide +kernel
theorem dX4_comeIn_6 : decode cX4_comeIn 6 = .ok (.iconst 0, 1) := by decide +kernel
theorem dX4_comeIn_7 : decode cX4_comeIn 7 = .ok (.istore_n 2, 1) := by decide +kernel
theorem dX4_comeIn_8 : decode cX4_comeIn 8 = .ok (.iload_n 2, 1) := by decide +kernel
theorem dX4_comeIn_9 : decode cX4_comeIn 9 = .ok (.sipush 159, 3) := by decide +kernel
theorem dX4_comeIn_12 : decode cX4_comeIn 12 = .ok (.if_icmp .ge 28, 3) := by decide +kernel
theorem dX4_comeIn_15 : decode cX4_comeIn 15 = .ok (.aload_n 0, 1) := by decide +kernel
theorem dX4_comeIn_16 : decode cX4_comeIn 16 = .ok (.aload_n 1, 1) := by decide +kernel
theorem dX4_comeIn_17 : decode cX4_comeIn 17 = .ok (.invokevirtual 233, 3) := by decide +kernel
theorem dX4_comeIn_20 : decode cX4_comeIn 20 = .ok (.astore_n 3, 1) := by decide +kernel
theorem dX4_comeIn_21 : decode cX4_comeIn 21 = .ok (.aload_n 3, 1) := by decide +kernel
theorem dX4_comeIn_22 : decode cX4_comeIn 22 = .ok (.ifnonnull 6, 3) := by decide +kernel
theorem dX4_comeIn_25 : decode cX4_comeIn 25 = .ok (.goto 15, 3) := by decide +kernel
theorem dX4_comeIn_28 : decode cX4_comeIn 28 = .ok (.aload_n 0, 1) := by decide +kernel
theorem dX4_comeIn_29 : decode cX4_comeIn 29 = .ok (.aload_n 1, 1) := by decide +kernel
theorem dX4_comeIn_30 : decode cX4_comeIn 30 = .ok (.aload_n 3, 1) := by decide +kernel
theorem dX4_comeIn_31 : decode cX4_comeIn 31 = .ok (.invokevirtual 237, 3) := by decide +kernel
theorem dX4_comeIn_34 : decode cX4_comeIn 34 = .ok (.iinc 2 1, 3) := by decide +kernel
theorem dX4_comeIn_37 : decode cX4_comeIn 37 = .ok (.goto (-29), 3) := by decide +kernel
theorem dX4_comeIn_40 : decode cX4_comeIn 40 = .ok (.aload_n 1, 1) := by decide +kernel
theorem dX4_comeIn_41 : decode cX4_comeIn 41 = .ok (.getfield 103, 3) := by decide +kernel
theorem dX4_comeIn_44 : decode cX4_comeIn 44 = .ok (.bipush 97, 2) := by decide +kernel
theorem dX4_comeIn_46 : decode cX4_comeIn 46 = .ok (.if_icmp .ne 16, 3) := by decide +kernel
theorem dX4_comeIn_49 : decode cX4_comeIn 49 = .ok (.aload_n 1, 1) := by decide +kernel
theorem dX4_comeIn_50 : decode cX4_comeIn 50 = .ok (.invokevirtual 241, 3) := by decide +kernel
theorem dX4_comeIn_53 : decode cX4_comeIn 53 = .ok (.aload_n 0, 1) := by decide +kernel
theorem dX4_comeIn_54 : decode cX4_comeIn 54 = .ok (.aload_n 1, 1) := by decide +kernel
theorem dX4_comeIn_55 : decode cX4_comeIn 55 = .ok (.invokevirtual 106, 3) := by decide +kernel
theorem dX4_comeIn_58 : decode cX4_comeIn 58 = .ok (.aload_n 1, 1) := by decide +kernel
theorem dX4_comeIn_59 : decode cX4_comeIn 59 = .ok (.invokevirtual 244, 3) := by decide +kernel
theorem dX4_comeIn_62 : decode cX4_comeIn 62 = .ok (.return_, 1) := by decide +kernel
def tbX4_comeIn (l : Launch) (K : aRs) (X : aXs) : aTb := [
  (0, sLd 1 1 isR),
  (1, sPush (aI 97) 3),
  (3, sPutI 2 10 6),
  (6, sPush (aI 0) 7),
  (7, sSt 2 8 isI),
  (8, sLd 2 9 isI),
  (9, sPush (aI 159) 12),
  (12, sIc qGe 40 15),
  (15, sLd 0 16 isR),
  (16, sLd 1 17 isR),
  (17, sCallV 1 4 (fun as μ K => Ct l mdX4_nextToMeet as μ K X) 20 0 0),
  (20, sSt 3 21 isR),
  (21, sLd 3 22 isR),
  (22, sNn 28 25),
  (25, sGoto 40),
  (28, sLd 0 29 isR),
  (29, sLd 1 30 isR),
  (30, sLd 3 31 isR),
  (31, sCallV 2 4 (fun as μ K => Ct l mdX4_meet as μ K X) 34 0 0),
  (34, sInc 2 1 37),
  (37, sGoto 8),
  (40, sLd 1 41 isR),
  (41, sGetI 2 10 44),
  (44, sPush (aI 97) 46),
  (46, sIc qNe 62 49),
  (49, sLd 1 50 isR),
  (50, sCallV 0 2 (fun as μ K => Ct l mdX2_showSlice as μ K X) 53 0 0),
  (53, sLd 0 54 isR),
  (54, sLd 1 55 isR),
  (55, sCallV 1 4 (fun as μ K => Ct l mdX4_sideOf as μ K X) 58 0 0),
  (58, sLd 1 59 isR),
  (59, sCallV 1 1 (fun as μ K => Ct l mdX1_putIn as μ K X) 62 0 0),
  (62, sRetV 0 K)]
theorem snX4_comeIn (l : Launch) (K : aRs) (X : aXs) (n0 : Nat) : ∀ q ∈ tbX4_comeIn l K X, aSo l mdX4_comeIn K X n0 q.1 q.2 :=
  tc (fun p e s m args below meth c cA D A ad0 h => ok_aload_n h.1 1 rfl dX4_comeIn_0) <|
  tc (fun p e s m args below meth c cA D A ad0 h => ok_bipush h.1 ⟨by decide, by decide⟩ (by decide) dX4_comeIn_1) <|
  tc (fun p e s m args below meth c cA D A ad0 h => ok_putI h.1 cxX2 (by decide) rfl fkRX4_103 (Or.inl rfl) (fun _ _ _ => rfl) (Or.inr (Or.inr rfl)) dX4_comeIn_3) <|
  tc (fun p e s m args below meth c cA D A ad0 h => ok_iconst h.1 ⟨by decide, by decide⟩ dX4_comeIn_6) <|
  tc (fun p e s m args below meth c cA D A ad0 h => ok_istore_n h.1 2 rfl (by decide) dX4_comeIn_7) <|
  tc (fun p e s m args below meth c cA D A ad0 h => ok_iload_n h.1 2 rfl dX4_comeIn_8) <|
  tc (fun p e s m args below meth c cA D A ad0 h => ok_sipush h.1 ⟨by decide, by decide⟩ (by decide) dX4_comeIn_9) <|
  tc (fun p e s m args below meth c cA D A ad0 h => ok_icmp_ge h.1 40 (by decide) dX4_comeIn_12) <|
  tc (fun p e s m args below meth c cA D A ad0 h => ok_aload_n h.1 0 rfl dX4_comeIn_15) <|
  tc (fun p e s m args below meth c cA D A ad0 h => ok_aload_n h.1 1 rfl dX4_comeIn_16) <|
  tc (fun p e s m args below meth c cA D A ad0 h => ok_callV h.1 h.2.1 ⟨Nat.le_refl _, Nat.le_refl _⟩ mdX4_nextToMeet siX4_nextToMeet cxX4 mkRX4_233 imX4_nextToMeet seX4_nextToMeet ⟨by decide, by decide⟩ (aAx_out h.1 h.2.2.1 _) dX4_comeIn_17) <|
  tc (fun p e s m args below meth c cA D A ad0 h => ok_astore_n h.1 3 rfl (by decide) dX4_comeIn_20) <|
  tc (fun p e s m args below meth c cA D A ad0 h => ok_aload_n h.1 3 rfl dX4_comeIn_21) <|
  tc (fun p e s m args below meth c cA D A ad0 h => ok_ifnonnull h.1 28 (by decide) dX4_comeIn_22) <|
  tc (fun p e s m args below meth c cA D A ad0 h => ok_goto h.1 40 (by decide) dX4_comeIn_25) <|
  tc (fun p e s m args below meth c cA D A ad0 h => ok_aload_n h.1 0 rfl dX4_comeIn_28) <|
  tc (fun p e s m args below meth c cA D A ad0 h => ok_aload_n h.1 1 rfl dX4_comeIn_29) <|
  tc (fun p e s m args below meth c cA D A ad0 h => ok_aload_n h.1 3 rfl dX4_comeIn_30) <|
  tc (fun p e s m args below meth c cA D A ad0 h => ok_callV h.1 h.2.1 ⟨Nat.le_refl _, Nat.le_refl _⟩ mdX4_meet siX4_meet cxX4 mkRX4_237 imX4_meet seX4_meet ⟨by decide, by decide⟩ (aAx_out h.1 h.2.2.1 _) dX4_comeIn_31) <|
  tc (fun p e s m args below meth c cA D A ad0 h => ok_iinc h.1 (by decide) dX4_comeIn_34) <|
  tc (fun p e s m args below meth c cA D A ad0 h => ok_goto h.1 8 (by decide) dX4_comeIn_37) <|
  tc (fun p e s m args below meth c cA D A ad0 h => ok_aload_n h.1 1 rfl dX4_comeIn_40) <|
  tc (fun p e s m args below meth c cA D A ad0 h => ok_getI h.1 cxX2 (by decide) rfl fkRX4_103 (fun _ _ _ => rfl) dX4_comeIn_41) <|
  tc (fun p e s m args below meth c cA D A ad0 h => ok_bipush h.1 ⟨by decide, by decide⟩ (by decide) dX4_comeIn_44) <|
  tc (fun p e s m args below meth c cA D A ad0 h => ok_icmp_ne h.1 62 (by decide) dX4_comeIn_46) <|
  tc (fun p e s m args below meth c cA D A ad0 h => ok_aload_n h.1 1 rfl dX4_comeIn_49) <|
  tc (fun p e s m args below meth c cA D A ad0 h => ok_callV h.1 h.2.1 ⟨Nat.le_refl _, Nat.le_refl _⟩ mdX2_showSlice siX2_showSlice cxX2 mkRX4_241 imX2_showSlice seX2_showSlice ⟨by decide, by decide⟩ (aAx_out h.1 h.2.2.1 _) dX4_comeIn_50) <|
  tc (fun p e s m args below meth c cA D A ad0 h => ok_aload_n h.1 0 rfl dX4_comeIn_53) <|
  tc (fun p e s m args below meth c cA D A ad0 h => ok_aload_n h.1 1 rfl dX4_comeIn_54) <|
  tc (fun p e s m args below meth c cA D A ad0 h => ok_callV h.1 h.2.1 ⟨Nat.le_refl _, Nat.le_refl _⟩ mdX4_sideOf siX4_sideOf cxX4 mkRX4_106 imX4_sideOf seX4_sideOf ⟨by decide, by decide⟩ (aAx_out h.1 h.2.2.1 _) dX4_comeIn_55) <|
  tc (fun p e s m args below meth c cA D A ad0 h => ok_aload_n h.1 1 rfl dX4_comeIn_58) <|
  tc (fun p e s m args below meth c cA D A ad0 h => ok_callV h.1 h.2.1 ⟨Nat.le_refl _, Nat.le_refl _⟩ mdX1_putIn siX1_putIn cxX1 mkRX4_244 imX1_putIn seX1_putIn ⟨by decide, by decide⟩ (aAx_out h.1 h.2.2.1 _) dX4_comeIn_59) <|
  tc (fun p e s m args below meth c cA D A ad0 h => ok_return h.1 h.2.2.2.1 dX4_comeIn_62) <|
  tn
abbrev cuX4_comeIn : List Nat := [8, 20, 34, 53, 58, 62]
theorem tX4_comeIn_0 (l : Launch) (K : aRs) (X : aXs) : tb (tbX4_comeIn l K X) 0 = sLd 1 1 isR := (rfl)
theorem wX4_comeIn_0 {l : Launch} {K : aRs} {X : aXs} {J : aK} {W : Nat → aK} (hW : isW (tbX4_comeIn l K X) cuX4_comeIn J W) (n : Nat) (ls st : List aV) (μ : aM) (g : Nat) : W (n + 1) 0 ls st μ g = (sLd 1 1 isR) (W n) ls st μ g := (hW n 0 ls st μ g).trans rfl
theorem wX4_comeIn_1 {l : Launch} {K : aRs} {X : aXs} {J : aK} {W : Nat → aK} (hW : isW (tbX4_comeIn l K X) cuX4_comeIn J W) (n : Nat) (ls st : List aV) (μ : aM) (g : Nat) : W (n + 1) 1 ls st μ g = (sPush (aI 97) 3) (W n) ls st μ g := (hW n 1 ls st μ g).trans rfl
theorem wX4_comeIn_3 {l : Launch} {K : aRs} {X : aXs} {J : aK} {W : Nat → aK} (hW : isW (tbX4_comeIn l K X) cuX4_comeIn J W) (n : Nat) (ls st : List aV) (μ : aM) (g : Nat) : W (n + 1) 3 ls st μ g = (sPutI 2 10 6) (W n) ls st μ g := (hW n 3 ls st μ g).trans rfl
theorem wX4_comeIn_6 {l : Launch} {K : aRs} {X : aXs} {J : aK} {W : Nat → aK} (hW : isW (tbX4_comeIn l K X) cuX4_comeIn J W) (n : Nat) (ls st : List aV) (μ : aM) (g : Nat) : W (n + 1) 6 ls st μ g = (sPush (aI 0) 7) (W n) ls st μ g := (hW n 6 ls st μ g).trans rfl
theorem wX4_comeIn_7 {l : Launch} {K : aRs} {X : aXs} {J : aK} {W : Nat → aK} (hW : isW (tbX4_comeIn l K X) cuX4_comeIn J W) (n : Nat) (ls st : List aV) (μ : aM) (g : Nat) : W (n + 1) 7 ls st μ g = (sSt 2 8 isI) (W n) ls st μ g := (hW n 7 ls st μ g).trans rfl
theorem tX4_comeIn_8 (l : Launch) (K : aRs) (X : aXs) : tb (tbX4_comeIn l K X) 8 = sLd 2 9 isI := (rfl)
theorem wX4_comeIn_8 {l : Launch} {K : aRs} {X : aXs} {J : aK} {W : Nat → aK} (hW : isW (tbX4_comeIn l K X) cuX4_comeIn J W) (n : Nat) (ls st : List aV) (μ : aM) (g : Nat) : W (n + 1) 8 ls st μ g = J 8 ls st μ g := (hW n 8 ls st μ g).trans rfl
theorem wX4_comeIn_9 {l : Launch} {K : aRs} {X : aXs} {J : aK} {W : Nat → aK} (hW : isW (tbX4_comeIn l K X) cuX4_comeIn J W) (n : Nat) (ls st : List aV) (μ : aM) (g : Nat) : W (n + 1) 9 ls st μ g = (sPush (aI 159) 12) (W n) ls st μ g := (hW n 9 ls st μ g).trans rfl
theorem wX4_comeIn_12 {l : Launch} {K : aRs} {X : aXs} {J : aK} {W : Nat → aK} (hW : isW (tbX4_comeIn l K X) cuX4_comeIn J W) (n : Nat) (ls st : List aV) (μ : aM) (g : Nat) : W (n + 1) 12 ls st μ g = (sIc qGe 40 15) (W n) ls st μ g := (hW n 12 ls st μ g).trans rfl
theorem wX4_comeIn_15 {l : Launch} {K : aRs} {X : aXs} {J : aK} {W : Nat → aK} (hW : isW (tbX4_comeIn l K X) cuX4_comeIn J W) (n : Nat) (ls st : List aV) (μ : aM) (g : Nat) : W (n + 1) 15 ls st μ g = (sLd 0 16 isR) (W n) ls st μ g := (hW n 15 ls st μ g).trans rfl
theorem wX4_comeIn_16 {l : Launch} {K : aRs} {X : aXs} {J : aK} {W : Nat → aK} (hW : isW (tbX4_comeIn l K X) cuX4_comeIn J W) (n : Nat) (ls st : List aV) (μ : aM) (g : Nat) : W (n + 1) 16 ls st μ g = (sLd 1 17 isR) (W n) ls st μ g := (hW n 16 ls st μ g).trans rfl
theorem wX4_comeIn_17 {l : Launch} {K : aRs} {X : aXs} {J : aK} {W : Nat → aK} (hW : isW (tbX4_comeIn l K X) cuX4_comeIn J W) (n : Nat) (ls st : List aV) (μ : aM) (g : Nat) : W (n + 1) 17 ls st μ g = (sCallV 1 4 (fun as μ K => Ct l mdX4_nextToMeet as μ K X) 20 0 0) (W n) ls st μ g := (hW n 17 ls st μ g).trans rfl
theorem tX4_comeIn_20 (l : Launch) (K : aRs) (X : aXs) : tb (tbX4_comeIn l K X) 20 = sSt 3 21 isR := (rfl)
theorem wX4_comeIn_20 {l : Launch} {K : aRs} {X : aXs} {J : aK} {W : Nat → aK} (hW : isW (tbX4_comeIn l K X) cuX4_comeIn J W) (n : Nat) (ls st : List aV) (μ : aM) (g : Nat) : W (n + 1) 20 ls st μ g = J 20 ls st μ g := (hW n 20 ls st μ g).trans rfl
theorem wX4_comeIn_21 {l : Launch} {K : aRs} {X : aXs} {J : aK} {W : Nat → aK} (hW : isW (tbX4_comeIn l K X) cuX4_comeIn J W) (n : Nat) (ls st : List aV) (μ : aM) (g : Nat) : W (n + 1) 21 ls st μ g = (sLd 3 22 isR) (W n) ls st μ g := (hW n 21 ls st μ g).trans rfl
theorem wX4_comeIn_22 {l : Launch} {K : aRs} {X : aXs} {J : aK} {W : Nat → aK} (hW : isW (tbX4_comeIn l K X) cuX4_comeIn J W) (n : Nat) (ls st : List aV) (μ : aM) (g : Nat) : W (n + 1) 22 ls st μ g = (sNn 28 25) (W n) ls st μ g := (hW n 22 ls st μ g).trans rfl
theorem wX4_comeIn_25 {l : Launch} {K : aRs} {X : aXs} {J : aK} {W : Nat → aK} (hW : isW (tbX4_comeIn l K X) cuX4_comeIn J W) (n : Nat) (ls st : List aV) (μ : aM) (g : Nat) : W (n + 1) 25 ls st μ g = (sGoto 40) (W n) ls st μ g := (hW n 25 ls st μ g).trans rfl
theorem wX4_comeIn_28 {l : Launch} {K : aRs} {X : aXs} {J : aK} {W : Nat → aK} (hW : isW (tbX4_comeIn l K X) cuX4_comeIn J W) (n : Nat) (ls st : List aV) (μ : aM) (g : Nat) : W (n + 1) 28 ls st μ g = (sLd 0 29 isR) (W n) ls st μ g := (hW n 28 ls st μ g).trans rfl
theorem wX4_comeIn_29 {l : Launch} {K : aRs} {X : aXs} {J : aK} {W : Nat → aK} (hW : isW (tbX4_comeIn l K X) cuX4_comeIn J W) (n : Nat) (ls st : List aV) (μ : aM) (g : Nat) : W (n + 1) 29 ls st μ g = (sLd 1 30 isR) (W n) ls st μ g := (hW n 29 ls st μ g).trans rfl
theorem wX4_comeIn_30 {l : Launch} {K : aRs} {X : aXs} {J : aK} {W : Nat → aK} (hW : isW (tbX4_comeIn l K X) cuX4_comeIn J W) (n : Nat) (ls st : List aV) (μ : aM) (g : Nat) : W (n + 1) 30 ls st μ g = (sLd 3 31 isR) (W n) ls st μ g := (hW n 30 ls st μ g).trans rfl
theorem wX4_comeIn_31 {l : Launch} {K : aRs} {X : aXs} {J : aK} {W : Nat → aK} (hW : isW (tbX4_comeIn l K X) cuX4_comeIn J W) (n : Nat) (ls st : List aV) (μ : aM) (g : Nat) : W (n + 1) 31 ls st μ g = (sCallV 2 4 (fun as μ K => Ct l mdX4_meet as μ K X) 34 0 0) (W n) ls st μ g := (hW n 31 ls st μ g).trans rfl
theorem tX4_comeIn_34 (l : Launch) (K : aRs) (X : aXs) : tb (tbX4_comeIn l K X) 34 = sInc 2 1 37 := (rfl)
theorem wX4_comeIn_34 {l : Launch} {K : aRs} {X : aXs} {J : aK} {W : Nat → aK} (hW : isW (tbX4_comeIn l K X) cuX4_comeIn J W) (n : Nat) (ls st : List aV) (μ : aM) (g : Nat) : W (n + 1) 34 ls st μ g = J 34 ls st μ g := (hW n 34 ls st μ g).trans rfl
theorem wX4_comeIn_37 {l : Launch} {K : aRs} {X : aXs} {J : aK} {W : Nat → aK} (hW : isW (tbX4_comeIn l K X) cuX4_comeIn J W) (n : Nat) (ls st : List aV) (μ : aM) (g : Nat) : W (n + 1) 37 ls st μ g = (sGoto 8) (W n) ls st μ g := (hW n 37 ls st μ g).trans rfl
theorem wX4_comeIn_40 {l : Launch} {K : aRs} {X : aXs} {J : aK} {W : Nat → aK} (hW : isW (tbX4_comeIn l K X) cuX4_comeIn J W) (n : Nat) (ls st : List aV) (μ : aM) (g : Nat) : W (n + 1) 40 ls st μ g = (sLd 1 41 isR) (W n) ls st μ g := (hW n 40 ls st μ g).trans rfl
theorem wX4_comeIn_41 {l : Launch} {K : aRs} {X : aXs} {J : aK} {W : Nat → aK} (hW : isW (tbX4_comeIn l K X) cuX4_comeIn J W) (n : Nat) (ls st : List aV) (μ : aM) (g : Nat) : W (n + 1) 41 ls st μ g = (sGetI 2 10 44) (W n) ls st μ g := (hW n 41 ls st μ g).trans rfl
theorem wX4_comeIn_44 {l : Launch} {K : aRs} {X : aXs} {J : aK} {W : Nat → aK} (hW : isW (tbX4_comeIn l K X) cuX4_comeIn J W) (n : Nat) (ls st : List aV) (μ : aM) (g : Nat) : W (n + 1) 44 ls st μ g = (sPush (aI 97) 46) (W n) ls st μ g := (hW n 44 ls st μ g).trans rfl
theorem wX4_comeIn_46 {l : Launch} {K : aRs} {X : aXs} {J : aK} {W : Nat → aK} (hW : isW (tbX4_comeIn l K X) cuX4_comeIn J W) (n : Nat) (ls st : List aV) (μ : aM) (g : Nat) : W (n + 1) 46 ls st μ g = (sIc qNe 62 49) (W n) ls st μ g := (hW n 46 ls st μ g).trans rfl
theorem wX4_comeIn_49 {l : Launch} {K : aRs} {X : aXs} {J : aK} {W : Nat → aK} (hW : isW (tbX4_comeIn l K X) cuX4_comeIn J W) (n : Nat) (ls st : List aV) (μ : aM) (g : Nat) : W (n + 1) 49 ls st μ g = (sLd 1 50 isR) (W n) ls st μ g := (hW n 49 ls st μ g).trans rfl
theorem wX4_comeIn_50 {l : Launch} {K : aRs} {X : aXs} {J : aK} {W : Nat → aK} (hW : isW (tbX4_comeIn l K X) cuX4_comeIn J W) (n : Nat) (ls st : List aV) (μ : aM) (g : Nat) : W (n + 1) 50 ls st μ g = (sCallV 0 2 (fun as μ K => Ct l mdX2_showSlice as μ K X) 53 0 0) (W n) ls st μ g := (hW n 50 ls st μ g).trans rfl
theorem tX4_comeIn_53 (l : Launch) (K : aRs) (X : aXs) : tb (tbX4_comeIn l K X) 53 = sLd 0 54 isR := (rfl)
theorem wX4_comeIn_53 {l : Launch} {K : aRs} {X : aXs} {J : aK} {W : Nat → aK} (hW : isW (tbX4_comeIn l K X) cuX4_comeIn J W) (n : Nat) (ls st : List aV) (μ : aM) (g : Nat) : W (n + 1) 53 ls st μ g = J 53 ls st μ g := (hW n 53 ls st μ g).trans rfl
theorem wX4_comeIn_54 {l : Launch} {K : aRs} {X : aXs} {J : aK} {W : Nat → aK} (hW : isW (tbX4_comeIn l K X) cuX4_comeIn J W) (n : Nat) (ls st : List aV) (μ : aM) (g : Nat) : W (n + 1) 54 ls st μ g = (sLd 1 55 isR) (W n) ls st μ g := (hW n 54 ls st μ g).trans rfl
theorem wX4_comeIn_55 {l : Launch} {K : aRs} {X : aXs} {J : aK} {W : Nat → aK} (hW : isW (tbX4_comeIn l K X) cuX4_comeIn J W) (n : Nat) (ls st : List aV) (μ : aM) (g : Nat) : W (n + 1) 55 ls st μ g = (sCallV 1 4 (fun as μ K => Ct l mdX4_sideOf as μ K X) 58 0 0) (W n) ls st μ g := (hW n 55 ls st μ g).trans rfl
theorem tX4_comeIn_58 (l : Launch) (K : aRs) (X : aXs) : tb (tbX4_comeIn l K X) 58 = sLd 1 59 isR := (rfl)
theorem wX4_comeIn_58 {l : Launch} {K : aRs} {X : aXs} {J : aK} {W : Nat → aK} (hW : isW (tbX4_comeIn l K X) cuX4_comeIn J W) (n : Nat) (ls st : List aV) (μ : aM) (g : Nat) : W (n + 1) 58 ls st μ g = J 58 ls st μ g := (hW n 58 ls st μ g).trans rfl
theorem wX4_comeIn_59 {l : Launch} {K : aRs} {X : aXs} {J : aK} {W : Nat → aK} (hW : isW (tbX4_comeIn l K X) cuX4_comeIn J W) (n : Nat) (ls st : List aV) (μ : aM) (g : Nat) : W (n + 1) 59 ls st μ g = (sCallV 1 1 (fun as μ K => Ct l mdX1_putIn as μ K X) 62 0 0) (W n) ls st μ g := (hW n 59 ls st μ g).trans rfl
theorem tX4_comeIn_62 (l : Launch) (K : aRs) (X : aXs) : tb (tbX4_comeIn l K X) 62 = sRetV 0 K := (rfl)
theorem wX4_comeIn_62 {l : Launch} {K : aRs} {X : aXs} {J : aK} {W : Nat → aK} (hW : isW (tbX4_comeIn l K X) cuX4_comeIn J W) (n : Nat) (ls st : List aV) (μ : aM) (g : Nat) : W (n + 1) 62 ls st μ g = J 62 ls st μ g := (hW n 62 ls st μ g).trans rfl
theorem dX4_nextToMeet_0 : decode cX4_nextToMeet 0 = .ok (.aload_n 0, 1) := by decide +kernel
theorem dX4_nextToMeet_1 : decode cX4_nextToMeet 1 = .ok (.getfield 52, 3) := by decide +kernel
theorem dX4_nextToMeet_4 : decode cX4_nextToMeet 4 = .ok (.ifCond .ne 12, 3) := by decide +kernel
theorem dX4_nextToMeet_7 : decode cX4_nextToMeet 7 = .ok (.aload_n 1, 1) := by decide +kernel
theorem dX4_nextToMeet_8 : decode cX4_nextToMeet 8 = .ok (.getfield 103, 3) := by decide +kernel
theorem dX4_nextToMeet_11 : decode cX4_nextToMeet 11 = .ok (.bipush 97, 2) := by decide +kernel
theorem dX4_nextToMeet_13 : decode cX4_nextToMeet 13 = .ok (.if_icmp .eq 5, 3) := by decide +kernel
theorem dX4_nextToMeet_16 : decode cX4_nextToMeet 16 = .ok (.aconst_null, 1) := by decide +kernel
theorem dX4_nextToMeet_17 : decode cX4_nextToMeet 17 = .ok (.areturn, 1) := by decide +kernel
theorem dX4_nextToMeet_18 : decode cX4_nextToMeet 18 = .ok (.aload_n 1, 1) := by decide +kernel
theorem dX4_nextToMeet_19 : decode cX4_nextToMeet 19 = .ok (.getfield 230, 3) := by decide +kernel
theorem dX4_nextToMeet_22 : decode cX4_nextToMeet 22 = .ok (.ifCond .eq 10, 3) := by decide +kernel
theorem dX4_nextToMeet_25 : decode cX4_nextToMeet 25 = .ok (.aload_n 0, 1) := by decide +kernel
theorem dX4_nextToMeet_26 : decode cX4_nextToMeet 26 = .ok (.getfield 24, 3) := by decide +kernel
theorem dX4_nextToMeet_29 : decode cX4_nextToMeet 29 = .ok (.goto 7, 3) := by decide +kernel
theorem dX4_nextToMeet_32 : decode cX4_nextToMeet 32 = .ok (.aload_n 0, 1) := by decide +kernel
theorem dX4_nextToMeet_33 : decode cX4_nextToMeet 33 = .ok (.getfield 20, 3) := by decide +kernel
theorem dX4_nextToMeet_36 : decode cX4_nextToMeet 36 = .ok (.astore_n 2, 1) := by decide +kernel
theorem dX4_nextToMeet_37 : decode cX4_nextToMeet 37 = .ok (.aload_n 2, 1) := by decide +kernel
theorem dX4_nextToMeet_38 : decode cX4_nextToMeet 38 = .ok (.getfield 171, 3) := by decide +kernel
theorem dX4_nextToMeet_41 : decode cX4_nextToMeet 41 = .ok (.astore_n 3, 1) := by decide +kernel
theorem dX4_nextToMeet_42 : decode cX4_nextToMeet 42 = .ok (.aload_n 3, 1) := by decide +kernel
theorem dX4_nextToMeet_43 : decode cX4_nextToMeet 43 = .ok (.ifnull 18, 3) := by decide +kernel
theorem dX4_nextToMeet_46 : decode cX4_nextToMeet 46 = .ok (.aload_n 2, 1) := by decide +kernel
theorem dX4_nextToMeet_47 : decode cX4_nextToMeet 47 = .ok (.aload_n 3, 1) := by decide +kernel
theorem dX4_nextToMeet_48 : decode cX4_nextToMeet 48 = .ok (.getfield 161, 3) := by decide +kernel
theorem dX4_nextToMeet_51 : decode cX4_nextToMeet 51 = .ok (.aload_n 1, 1) := by decide +kernel
theorem dX4_nextToMeet_52 : decode cX4_nextToMeet 52 = .ok (.getfield 161, 3) := by decide +kernel
theorem dX4_nextToMeet_55 : decode cX4_nextToMeet 55 = .ok (.invokevirtual 247, 3) := by decide +kernel
theorem dX4_nextToMeet_58 : decode cX4_nextToMeet 58 = .ok (.ifCond .ne 5, 3) := by decide +kernel
theorem dX4_nextToMeet_61 : decode cX4_nextToMeet 61 = .ok (.aconst_null, 1) := by decide +kernel
theorem dX4_nextToMeet_62 : decode cX4_nextToMeet 62 = .ok (.areturn, 1) := by decide +kernel
theorem dX4_nextToMeet_63 : decode cX4_nextToMeet 63 = .ok (.aload_n 3, 1) := by decide +kernel
theorem dX4_nextToMeet_64 : decode cX4_nextToMeet 64 = .ok (.areturn, 1) := by decide +kernel
def tbX4_nextToMeet (l : Launch) (K : aRs) (X : aXs) : aTb := [
  (0, sLd 0 1 isR),
  (1, sGetI 4 8 4),
  (4, sIf pNe 16 7),
  (7, sLd 1 8 isR),
  (8, sGetI 2 10 11),
  (11, sPush (aI 97) 13),
  (13, sIc qEq 18 16),
  (16, sPush (aR 0) 17),
  (17, sRetR 0 K),
  (18, sLd 1 19 isR),
  (19, sGetI 2 2 22),
  (22, sIf pEq 32 25),
  (25, sLd 0 26 isR),
  (26, sGetR 4 2 29),
  (29, sGoto 36),
  (32, sLd 0 33 isR),
  (33, sGetR 4 1 36),
  (36, sSt 2 37 isR),
  (37, sLd 2 38 isR),
  (38, sGetR 1 1 41),
  (41, sSt 3 42 isR),
  (42, sLd 3 43 isR),
  (43, sNul 61 46),
  (46, sLd 2 47 isR),
  (47, sLd 3 48 isR),
  (48, sGetI 2 4 51),
  (51, sLd 1 52 isR),
  (52, sGetI 2 4 55),
  (55, sCallV 2 1 (fun as μ K => Ct l mdX1_isAtLeast as μ K X) 58 0 0),
  (58, sIf pNe 63 61),
  (61, sPush (aR 0) 62),
  (62, sRetR 0 K),
  (63, sLd 3 64 isR),
  (64, sRetR 0 K)]
theorem snX4_nextToMeet (l : Launch) (K : aRs) (X : aXs) (n0 : Nat) : ∀ q ∈ tbX4_nextToMeet l K X, aSo l mdX4_nextToMeet K X n0 q.1 q.2 :=
  tc (fun p e s m args below meth c cA D A ad0 h => ok_aload_n h.1 0 rfl dX4_nextToMeet_0) <|
  tc (fun p e s m args below meth c cA D A ad0 h => ok_getI h.1 cxX4 (by decide) rfl fkRX4_52 (fun _ _ _ => rfl) dX4_nextToMeet_1) <|
  tc (fun p e s m args below meth c cA D A ad0 h => ok_if_ne h.1 16 (by decide) dX4_nextToMeet_4) <|
  tc (fun p e s m args below meth c cA D A ad0 h => ok_aload_n h.1 1 rfl dX4_nextToMeet_7) <|
  tc (fun p e s m args below meth c cA D A ad0 h => ok_getI h.1 cxX2 (by decide) rfl fkRX4_103 (fun _ _ _ => rfl) dX4_nextToMeet_8) <|
  tc (fun p e s m args below meth c cA D A ad0 h => ok_bipush h.1 ⟨by decide, by decide⟩ (by decide) dX4_nextToMeet_11) <|
  tc (fun p e s m args below meth c cA D A ad0 h => ok_icmp_eq h.1 18 (by decide) dX4_nextToMeet_13) <|
  tc (fun p e s m args below meth c cA D A ad0 h => ok_null h.1 dX4_nextToMeet_16) <|
  tc (fun p e s m args below meth c cA D A ad0 h => ok_areturn h.1 h.2.2.2.1 (Or.inl ⟨_, rfl⟩) dX4_nextToMeet_17) <|
  tc (fun p e s m args below meth c cA D A ad0 h => ok_aload_n h.1 1 rfl dX4_nextToMeet_18) <|
  tc (fun p e s m args below meth c cA D A ad0 h => ok_getI h.1 cxX2 (by decide) rfl fkRX4_230 (fun _ _ _ => rfl) dX4_nextToMeet_19) <|
  tc (fun p e s m args below meth c cA D A ad0 h => ok_if_eq h.1 32 (by decide) dX4_nextToMeet_22) <|
  tc (fun p e s m args below meth c cA D A ad0 h => ok_aload_n h.1 0 rfl dX4_nextToMeet_25) <|
  tc (fun p e s m args below meth c cA D A ad0 h => ok_getR h.1 cxX4 (by decide) rfl fkRX4_24 (fun _ _ _ => rfl) dX4_nextToMeet_26) <|
  tc (fun p e s m args below meth c cA D A ad0 h => ok_goto h.1 36 (by decide) dX4_nextToMeet_29) <|
  tc (fun p e s m args below meth c cA D A ad0 h => ok_aload_n h.1 0 rfl dX4_nextToMeet_32) <|
  tc (fun p e s m args below meth c cA D A ad0 h => ok_getR h.1 cxX4 (by decide) rfl fkRX4_20 (fun _ _ _ => rfl) dX4_nextToMeet_33) <|
  tc (fun p e s m args below meth c cA D A ad0 h => ok_astore_n h.1 2 rfl (by decide) dX4_nextToMeet_36) <|
  tc (fun p e s m args below meth c cA D A ad0 h => ok_aload_n h.1 2 rfl dX4_nextToMeet_37) <|
  tc (fun p e s m args below meth c cA D A ad0 h => ok_getR h.1 cxX1 (by decide) rfl fkRX4_171 (fun _ _ _ => rfl) dX4_nextToMeet_38) <|
  tc (fun p e s m args below meth c cA D A ad0 h => ok_astore_n h.1 3 rfl (by decide) dX4_nextToMeet_41) <|
  tc (fun p e s m args below meth c cA D A ad0 h => ok_aload_n h.1 3 rfl dX4_nextToMeet_42) <|
  tc (fun p e s m args below meth c cA D A ad0 h => ok_ifnull h.1 61 (by decide) dX4_nextToMeet_43) <|
  tc (fun p e s m args below meth c cA D A ad0 h => ok_aload_n h.1 2 rfl dX4_nextToMeet_46) <|
  tc (fun p e s m args below meth c cA D A ad0 h => ok_aload_n h.1 3 rfl dX4_nextToMeet_47) <|
  tc (fun p e s m args below meth c cA D A ad0 h => ok_getI h.1 cxX2 (by decide) rfl fkRX4_161 (fun _ _ _ => rfl) dX4_nextToMeet_48) <|
  tc (fun p e s m args below meth c cA D A ad0 h => ok_aload_n h.1 1 rfl dX4_nextToMeet_51) <|
  tc (fun p e s m args below meth c cA D A ad0 h => ok_getI h.1 cxX2 (by decide) rfl fkRX4_161 (fun _ _ _ => rfl) dX4_nextToMeet_52) <|
  tc (fun p e s m args below meth c cA D A ad0 h => ok_callV h.1 h.2.1 ⟨Nat.le_refl _, Nat.le_refl _⟩ mdX1_isAtLeast siX1_isAtLeast cxX1 mkRX4_247 imX1_isAtLeast seX1_isAtLeast ⟨by decide, by decide⟩ (aAx_out h.1 h.2.2.1 _) dX4_nextToMeet_55) <|
  tc (fun p e s m args below meth c cA D A ad0 h => ok_if_ne h.1 63 (by decide) dX4_nextToMeet_58) <|
  tc (fun p e s m args below meth c cA D A ad0 h => ok_null h.1 dX4_nextToMeet_61) <|
  tc (fun p e s m args below meth c cA D A ad0 h => ok_areturn h.1 h.2.2.2.1 (Or.inl ⟨_, rfl⟩) dX4_nextToMeet_62) <|
  tc (fun p e s m args below meth c cA D A ad0 h => ok_aload_n h.1 3 rfl dX4_nextToMeet_63) <|
  tc (fun p e s m args below meth c cA D A ad0 h => ok_areturn h.1 h.2.2.2.1 (Or.inl ⟨_, rfl⟩) dX4_nextToMeet_64) <|
  tn
abbrev cuX4_nextToMeet : List Nat := [58]
theorem tX4_nextToMeet_0 (l : Launch) (K : aRs) (X : aXs) : tb (tbX4_nextToMeet l K X) 0 = sLd 0 1 isR := (rfl)
theorem wX4_nextToMeet_0 {l : Launch} {K : aRs} {X : aXs} {J : aK} {W : Nat → aK} (hW : isW (tbX4_nextToMeet l K X) cuX4_nextToMeet J W) (n : Nat) (ls st : List aV) (μ : aM) (g : Nat) : W (n + 1) 0 ls st μ g = (sLd 0 1 isR) (W n) ls st μ g := (hW n 0 ls st μ g).trans rfl
theorem wX4_nextToMeet_1 {l : Launch} {K : aRs} {X : aXs} {J : aK} {W : Nat → aK} (hW : isW (tbX4_nextToMeet l K X) cuX4_nextToMeet J W) (n : Nat) (ls st : List aV) (μ : aM) (g : Nat) : W (n + 1) 1 ls st μ g = (sGetI 4 8 4) (W n) ls st μ g := (hW n 1 ls st μ g).trans rfl
theorem wX4_nextToMeet_4 {l : Launch} {K : aRs} {X : aXs} {J : aK} {W : Nat → aK} (hW : isW (tbX4_nextToMeet l K X) cuX4_nextToMeet J W) (n : Nat) (ls st : List aV) (μ : aM) (g : Nat) : W (n + 1) 4 ls st μ g = (sIf pNe 16 7) (W n) ls st μ g := (hW n 4 ls st μ g).trans rfl
theorem wX4_nextToMeet_7 {l : Launch} {K : aRs} {X : aXs} {J : aK} {W : Nat → aK} (hW : isW (tbX4_nextToMeet l K X) cuX4_nextToMeet J W) (n : Nat) (ls st : List aV) (μ : aM) (g : Nat) : W (n + 1) 7 ls st μ g = (sLd 1 8 isR) (W n) ls st μ g := (hW n 7 ls st μ g).trans rfl
theorem wX4_nextToMeet_8 {l : Launch} {K : aRs} {X : aXs} {J : aK} {W : Nat → aK} (hW : isW (tbX4_nextToMeet l K X) cuX4_nextToMeet J W) (n : Nat) (ls st : List aV) (μ : aM) (g : Nat) : W (n + 1) 8 ls st μ g = (sGetI 2 10 11) (W n) ls st μ g := (hW n 8 ls st μ g).trans rfl
theorem wX4_nextToMeet_11 {l : Launch} {K : aRs} {X : aXs} {J : aK} {W : Nat → aK} (hW : isW (tbX4_nextToMeet l K X) cuX4_nextToMeet J W) (n : Nat) (ls st : List aV) (μ : aM) (g : Nat) : W (n + 1) 11 ls st μ g = (sPush (aI 97) 13) (W n) ls st μ g := (hW n 11 ls st μ g).trans rfl
theorem wX4_nextToMeet_13 {l : Launch} {K : aRs} {X : aXs} {J : aK} {W : Nat → aK} (hW : isW (tbX4_nextToMeet l K X) cuX4_nextToMeet J W) (n : Nat) (ls st : List aV) (μ : aM) (g : Nat) : W (n + 1) 13 ls st μ g = (sIc qEq 18 16) (W n) ls st μ g := (hW n 13 ls st μ g).trans rfl
theorem wX4_nextToMeet_16 {l : Launch} {K : aRs} {X : aXs} {J : aK} {W : Nat → aK} (hW : isW (tbX4_nextToMeet l K X) cuX4_nextToMeet J W) (n : Nat) (ls st : List aV) (μ : aM) (g : Nat) : W (n + 1) 16 ls st μ g = (sPush (aR 0) 17) (W n) ls st μ g := (hW n 16 ls st μ g).trans rfl
theorem wX4_nextToMeet_17 {l : Launch} {K : aRs} {X : aXs} {J : aK} {W : Nat → aK} (hW : isW (tbX4_nextToMeet l K X) cuX4_nextToMeet J W) (n : Nat) (ls st : List aV) (μ : aM) (g : Nat) : W (n + 1) 17 ls st μ g = (sRetR 0 K) (W n) ls st μ g := (hW n 17 ls st μ g).trans rfl
theorem wX4_nextToMeet_18 {l : Launch} {K : aRs} {X : aXs} {J : aK} {W : Nat → aK} (hW : isW (tbX4_nextToMeet l K X) cuX4_nextToMeet J W) (n : Nat) (ls st : List aV) (μ : aM) (g : Nat) : W (n + 1) 18 ls st μ g = (sLd 1 19 isR) (W n) ls st μ g := (hW n 18 ls st μ g).trans rfl
theorem wX4_nextToMeet_19 {l : Launch} {K : aRs} {X : aXs} {J : aK} {W : Nat → aK} (hW : isW (tbX4_nextToMeet l K X) cuX4_nextToMeet J W) (n : Nat) (ls st : List aV) (μ : aM) (g : Nat) : W (n + 1) 19 ls st μ g = (sGetI 2 2 22) (W n) ls st μ g := (hW n 19 ls st μ g).trans rfl
theorem wX4_nextToMeet_22 {l : Launch} {K : aRs} {X : aXs} {J : aK} {W : Nat → aK} (hW : isW (tbX4_nextToMeet l K X) cuX4_nextToMeet J W) (n : Nat) (ls st : List aV) (μ : aM) (g : Nat) : W (n + 1) 22 ls st μ g = (sIf pEq 32 25) (W n) ls st μ g := (hW n 22 ls st μ g).trans rfl
theorem wX4_nextToMeet_25 {l : Launch} {K : aRs} {X : aXs} {J : aK} {W : Nat → aK} (hW : isW (tbX4_nextToMeet l K X) cuX4_nextToMeet J W) (n : Nat) (ls st : List aV) (μ : aM) (g : Nat) : W (n + 1) 25 ls st μ g = (sLd 0 26 isR) (W n) ls st μ g := (hW n 25 ls st μ g).trans rfl
theorem wX4_nextToMeet_26 {l : Launch} {K : aRs} {X : aXs} {J : aK} {W : Nat → aK} (hW : isW (tbX4_nextToMeet l K X) cuX4_nextToMeet J W) (n : Nat) (ls st : List aV) (μ : aM) (g : Nat) : W (n + 1) 26 ls st μ g = (sGetR 4 2 29) (W n) ls st μ g := (hW n 26 ls st μ g).trans rfl
theorem wX4_nextToMeet_29 {l : Launch} {K : aRs} {X : aXs} {J : aK} {W : Nat → aK} (hW : isW (tbX4_nextToMeet l K X) cuX4_nextToMeet J W) (n : Nat) (ls st : List aV) (μ : aM) (g : Nat) : W (n + 1) 29 ls st μ g = (sGoto 36) (W n) ls st μ g := (hW n 29 ls st μ g).trans rfl
theorem wX4_nextToMeet_32 {l : Launch} {K : aRs} {X : aXs} {J : aK} {W : Nat → aK} (hW : isW (tbX4_nextToMeet l K X) cuX4_nextToMeet J W) (n : Nat) (ls st : List aV) (μ : aM) (g : Nat) : W (n + 1) 32 ls st μ g = (sLd 0 33 isR) (W n) ls st μ g := (hW n 32 ls st μ g).trans rfl
theorem wX4_nextToMeet_33 {l : Launch} {K : aRs} {X : aXs} {J : aK} {W : Nat → aK} (hW : isW (tbX4_nextToMeet l K X) cuX4_nextToMeet J W) (n : Nat) (ls st : List aV) (μ : aM) (g : Nat) : W (n + 1) 33 ls st μ g = (sGetR 4 1 36) (W n) ls st μ g := (hW n 33 ls st μ g).trans rfl
theorem wX4_nextToMeet_36 {l : Launch} {K : aRs} {X : aXs} {J : aK} {W : Nat → aK} (hW : isW (tbX4_nextToMeet l K X) cuX4_nextToMeet J W) (n : Nat) (ls st : List aV) (μ : aM) (g : Nat) : W (n + 1) 36 ls st μ g = (sSt 2 37 isR) (W n) ls st μ g := (hW n 36 ls st μ g).trans rfl
theorem wX4_nextToMeet_37 {l : Launch} {K : aRs} {X : aXs} {J : aK} {W : Nat → aK} (hW : isW (tbX4_nextToMeet l K X) cuX4_nextToMeet J W) (n : Nat) (ls st : List aV) (μ : aM) (g : Nat) : W (n + 1) 37 ls st μ g = (sLd 2 38 isR) (W n) ls st μ g := (hW n 37 ls st μ g).trans rfl
theorem wX4_nextToMeet_38 {l : Launch} {K : aRs} {X : aXs} {J : aK} {W : Nat → aK} (hW : isW (tbX4_nextToMeet l K X) cuX4_nextToMeet J W) (n : Nat) (ls st : List aV) (μ : aM) (g : Nat) : W (n + 1) 38 ls st μ g = (sGetR 1 1 41) (W n) ls st μ g := (hW n 38 ls st μ g).trans rfl
theorem wX4_nextToMeet_41 {l : Launch} {K : aRs} {X : aXs} {J : aK} {W : Nat → aK} (hW : isW (tbX4_nextToMeet l K X) cuX4_nextToMeet J W) (n : Nat) (ls st : List aV) (μ : aM) (g : Nat) : W (n + 1) 41 ls st μ g = (sSt 3 42 isR) (W n) ls st μ g := (hW n 41 ls st μ g).trans rfl
theorem wX4_nextToMeet_42 {l : Launch} {K : aRs} {X : aXs} {J : aK} {W : Nat → aK} (hW : isW (tbX4_nextToMeet l K X) cuX4_nextToMeet J W) (n : Nat) (ls st : List aV) (μ : aM) (g : Nat) : W (n + 1) 42 ls st μ g = (sLd 3 43 isR) (W n) ls st μ g := (hW n 42 ls st μ g).trans rfl
theorem wX4_nextToMeet_43 {l : Launch} {K : aRs} {X : aXs} {J : aK} {W : Nat → aK} (hW : isW (tbX4_nextToMeet l K X) cuX4_nextToMeet J W) (n : Nat) (ls st : List aV) (μ : aM) (g : Nat) : W (n + 1) 43 ls st μ g = (sNul 61 46) (W n) ls st μ g := (hW n 43 ls st μ g).trans rfl
theorem wX4_nextToMeet_46 {l : Launch} {K : aRs} {X : aXs} {J : aK} {W : Nat → aK} (hW : isW (tbX4_nextToMeet l K X) cuX4_nextToMeet J W) (n : Nat) (ls st : List aV) (μ : aM) (g : Nat) : W (n + 1) 46 ls st μ g = (sLd 2 47 isR) (W n) ls st μ g := (hW n 46 ls st μ g).trans rfl
theorem wX4_nextToMeet_47 {l : Launch} {K : aRs} {X : aXs} {J : aK} {W : Nat → aK} (hW : isW (tbX4_nextToMeet l K X) cuX4_nextToMeet J W) (n : Nat) (ls st : List aV) (μ : aM) (g : Nat) : W (n + 1) 47 ls st μ g = (sLd 3 48 isR) (W n) ls st μ g := (hW n 47 ls st μ g).trans rfl
theorem wX4_nextToMeet_48 {l : Launch} {K : aRs} {X : aXs} {J : aK} {W : Nat → aK} (hW : isW (tbX4_nextToMeet l K X) cuX4_nextToMeet J W) (n : Nat) (ls st : List aV) (μ : aM) (g : Nat) : W (n + 1) 48 ls st μ g = (sGetI 2 4 51) (W n) ls st μ g := (hW n 48 ls st μ g).trans rfl
theorem wX4_nextToMeet_51 {l : Launch} {K : aRs} {X : aXs} {J : aK} {W : Nat → aK} (hW : isW (tbX4_nextToMeet l K X) cuX4_nextToMeet J W) (n : Nat) (ls st : List aV) (μ : aM) (g : Nat) : W (n + 1) 51 ls st μ g = (sLd 1 52 isR) (W n) ls st μ g := (hW n 51 ls st μ g).trans rfl
theorem wX4_nextToMeet_52 {l : Launch} {K : aRs} {X : aXs} {J : aK} {W : Nat → aK} (hW : isW (tbX4_nextToMeet l K X) cuX4_nextToMeet J W) (n : Nat) (ls st : List aV) (μ : aM) (g : Nat) : W (n + 1) 52 ls st μ g = (sGetI 2 4 55) (W n) ls st μ g := (hW n 52 ls st μ g).trans rfl
theorem wX4_nextToMeet_55 {l : Launch} {K : aRs} {X : aXs} {J : aK} {W : Nat → aK} (hW : isW (tbX4_nextToMeet l K X) cuX4_nextToMeet J W) (n : Nat) (ls st : List aV) (μ : aM) (g : Nat) : W (n + 1) 55 ls st μ g = (sCallV 2 1 (fun as μ K => Ct l mdX1_isAtLeast as μ K X) 58 0 0) (W n) ls st μ g := (hW n 55 ls st μ g).trans rfl
theorem tX4_nextToMeet_58 (l : Launch) (K : aRs) (X : aXs) : tb (tbX4_nextToMeet l K X) 58 = sIf pNe 63 61 := (rfl)
theorem wX4_nextToMeet_58 {l : Launch} {K : aRs} {X : aXs} {J : aK} {W : Nat → aK} (hW : isW (tbX4_nextToMeet l K X) cuX4_nextToMeet J W) (n : Nat) (ls st : List aV) (μ : aM) (g : Nat) : W (n + 1) 58 ls st μ g = J 58 ls st μ g := (hW n 58 ls st μ g).trans rfl
theorem wX4_nextToMeet_61 {l : Launch} {K : aRs} {X : aXs} {J : aK} {W : Nat → aK} (hW : isW (tbX4_nextToMeet l K X) cuX4_nextToMeet J W) (n : Nat) (ls st : List aV) (μ : aM) (g : Nat) : W (n + 1) 61 ls st μ g = (sPush (aR 0) 62) (W n) ls st μ g := (hW n 61 ls st μ g).trans rfl
theorem wX4_nextToMeet_62 {l : Launch} {K : aRs} {X : aXs} {J : aK} {W : Nat → aK} (hW : isW (tbX4_nextToMeet l K X) cuX4_nextToMeet J W) (n : Nat) (ls st : List aV) (μ : aM) (g : Nat) : W (n + 1) 62 ls st μ g = (sRetR 0 K) (W n) ls st μ g := (hW n 62 ls st μ g).trans rfl
theorem wX4_nextToMeet_63 {l : Launch} {K : aRs} {X : aXs} {J : aK} {W : Nat → aK} (hW : isW (tbX4_nextToMeet l K X) cuX4_nextToMeet J W) (n : Nat) (ls st : List aV) (μ : aM) (g : Nat) : W (n + 1) 63 ls st μ g = (sLd 3 64 isR) (W n) ls st μ g := (hW n 63 ls st μ g).trans rfl
theorem wX4_nextToMeet_64 {l : Launch} {K : aRs} {X : aXs} {J : aK} {W : Nat → aK} (hW : isW (tbX4_nextToMeet l K X) cuX4_nextToMeet J W) (n : Nat) (ls st : List aV) (μ : aM) (g : Nat) : W (n + 1) 64 ls st μ g = (sRetR 0 K) (W n) ls st μ g := (hW n 64 ls st μ g).trans rfl
theorem dX4_meet_0 : decode cX4_meet 0 = .ok (.aload_n 1, 1) := by decide +kernel
theorem dX4_meet_1 : decode cX4_meet 1 = .ok (.getfield 251, 3) := by decide +kernel
theorem dX4_meet_4 : decode cX4_meet 4 = .ok (.aload_n 2, 1) := by decide +kernel
theorem dX4_meet_5 : decode cX4_meet 5 = .ok (.getfield 251, 3) := by decide +kernel
theorem dX4_meet_8 : decode cX4_meet 8 = .ok (.if_icmp .ne 12, 3) := by decide +kernel
theorem dX4_meet_11 : decode cX4_meet 11 = .ok (.aload_n 0, 1) := by decide +kernel
theorem dX4_meet_12 : decode cX4_meet 12 = .ok (.aload_n 1, 1) := by decide +kernel
theorem dX4_meet_13 : decode cX4_meet 13 = .ok (.aload_n 2, 1) := by decide +kernel
theorem dX4_meet_14 : decode cX4_meet 14 = .ok (.invokevirtual 254, 3) := by decide +kernel
theorem dX4_meet_17 : decode cX4_meet 17 = .ok (.goto 94, 3) := by decide +kernel
theorem dX4_meet_20 : decode cX4_meet 20 = .ok (.aload_n 0, 1) := by decide +kernel
theorem dX4_meet_21 : decode cX4_meet 21 = .ok (.aload_n 2, 1) := by decide +kernel
theorem dX4_meet_22 : decode cX4_meet 22 = .ok (.getfield 161, 3) := by decide +kernel
theorem dX4_meet_25 : decode cX4_meet 25 = .ok (.invokevirtual 257, 3) := by decide +kernel
theorem dX4_meet_28 : decode cX4_meet 28 = .ok (.ifCond .eq 78, 3) := by decide +kernel
theorem dX4_meet_31 : decode cX4_meet 31 = .ok (.aload_n 1, 1) := by decide +kernel
theorem dX4_meet_32 : decode cX4_meet 32 = .ok (.getfield 113, 3) := by decide +kernel
theorem dX4_meet_35 : decode cX4_meet 35 = .ok (.aload_n 2, 1) := by decide +kernel
theorem dX4_meet_36 : decode cX4_meet 36 = .ok (.getfield 116, 3) := by decide +kernel
theorem dX4_meet_39 : decode cX4_meet 39 = .ok (.invokestatic 119, 3) := by decide +kernel
theorem dX4_meet_42 : decode cX4_meet 42 = .ok (.istore_n 3, 1) := by decide +kernel
theorem dX4_meet_43 : decode cX4_meet 43 = .ok (.aload_n 1, 1) := by decide +kernel
theorem dX4_meet_44 : decode cX4_meet 44 = .ok (.getfield 230, 3) := by decide +kernel
theorem dX4_meet_47 : decode cX4_meet 47 = .ok (.ifCond .eq 7, 3) := by decide +kernel
theorem dX4_meet_50 : decode cX4_meet 50 = .ok (.aload_n 1, 1) := by decide +kernel
theorem dX4_meet_51 : decode cX4_meet 51 = .ok (.goto 4, 3) := by decide +kernel
theorem dX4_meet_54 : decode cX4_meet 54 = .ok (.aload_n 2, 1) := by decide +kernel
theorem dX4_meet_55 : decode cX4_meet 55 = .ok (.astore 4, 2) := by decide +kernel
theorem dX4_meet_57 : decode cX4_meet 57 = .ok (.aload_n 1, 1) := by decide +kernel
theorem dX4_meet_58 : decode cX4_meet 58 = .ok (.getfield 230, 3) := by decide +kernel
theorem dX4_meet_61 : decode cX4_meet 61 = .ok (.ifCond .eq 7, 3) := by decide +kernel
theorem dX4_meet_64 : decode cX4_meet 64 = .ok (.aload_n 2, 1) := by decide +kernel
theorem dX4_meet_65 : decode cX4_meet 65 = .ok (.goto 4, 3) := by decide +kernel
theorem dX4_meet_68 : decode cX4_meet 68 = .ok (.aload_n 1, 1) := by decide +kernel
theorem dX4_meet_69 : decode cX4_meet 69 = .ok (.astore 5, 2) := by decide +kernel
theorem dX4_meet_71 : decode cX4_meet 71 = .ok (.aload_n 0, 1) := by decide +kernel
theorem dX4_meet_72 : decode cX4_meet 72 = .ok (.aload 4, 2) := by decide +kernel
theorem dX4_meet_74 : decode cX4_meet 74 = .ok (.aload 5, 2) := by decide +kernel
theorem dX4_meet_76 : decode cX4_meet 76 = .ok (.aload_n 2, 1) := by decide +kernel
theorem dX4_meet_77 : decode cX4_meet 77 = .ok (.getfield 161, 3) := by decide +kernel
theorem dX4_meet_80 : decode cX4_meet 80 = .ok (.iload_n 3, 1) := by decide +kernel
theorem dX4_meet_81 : decode cX4_meet 81 = .ok (.invokevirtual 260, 3) := by decide +kernel
theorem dX4_meet_84 : decode cX4_meet 84 = .ok (.aload_n 2, 1) := by decide +kernel
theorem dX4_meet_85 : decode cX4_meet 85 = .ok (.dup, 1) := by decide +kernel
theorem dX4_meet_86 : decode cX4_meet 86 = .ok (.getfield 116, 3) := by decide +kernel
theorem dX4_meet_89 : decode cX4_meet 89 = .ok (.iload_n 3, 1) := by decide +kernel
theorem dX4_meet_90 : decode cX4_meet 90 = .ok (.isub, 1) := by decide +kernel
theorem dX4_meet_91 : decode cX4_meet 91 = .ok (.putfield 116, 3) := by decide +kernel
theorem dX4_meet_94 : decode cX4_meet 94 = .ok (.aload_n 0, 1) := by decide +kernel
theorem dX4_meet_95 : decode cX4_meet 95 = .ok (.aload_n 2, 1) := by decide +kernel
theorem dX4_meet_96 : decode cX4_meet 96 = .ok (.invokevirtual 106, 3) := by decide +kernel
theorem dX4_meet_99 : decode cX4_meet 99 = .ok (.aload_n 2, 1) := by decide +kernel
theorem dX4_meet_100 : decode cX4_meet 100 = .ok (.invokevirtual 264, 3) := by decide +kernel
theorem dX4_meet_103 : decode cX4_meet 103 = .ok (.goto 8, 3) := by decide +kernel
theorem dX4_meet_106 : decode cX4_meet 106 = .ok (.aload_n 0, 1) := by decide +kernel
theorem dX4_meet_107 : decode cX4_meet 107 = .ok (.iconst 1, 1) := by decide +kernel
theorem dX4_meet_108 : decode cX4_meet 108 = .ok (.putfield 52, 3) := by decide +kernel
theorem dX4_meet_111 : decode cX4_meet 111 = .ok (.return_, 1) := by decide +kernel
def tbX4_meet (l : Launch) (K : aRs) (X : aXs) : aTb := [
  (0, sLd 1 1 isR),
  (1, sGetI 2 1 4),
  (4, sLd 2 5 isR),
  (5, sGetI 2 1 8),
  (8, sIc qNe 20 11),
  (11, sLd 0 12 isR),
  (12, sLd 1 13 isR),
  (13, sLd 2 14 isR),
  (14, sCallV 2 4 (fun as μ K => Ct l mdX4_cancelOneOf as μ K X) 17 0 0),
  (17, sGoto 111),
  (20, sLd 0 21 isR),
  (21, sLd 2 22 isR),
  (22, sGetI 2 4 25),
  (25, sCallV 1 4 (fun as μ K => Ct l mdX4_isWithinBand as μ K X) 28 0 0),
  (28, sIf pEq 106 31),
  (31, sLd 1 32 isR),
  (32, sGetI 2 6 35),
  (35, sLd 2 36 isR),
  (36, sGetI 2 9 39),
  (39, sMath (sMin 42) 0),
  (42, sSt 3 43 isI),
  (43, sLd 1 44 isR),
  (44, sGetI 2 2 47),
  (47, sIf pEq 54 50),
  (50, sLd 1 51 isR),
  (51, sGoto 55),
  (54, sLd 2 55 isR),
  (55, sSt 4 57 isR),
  (57, sLd 1 58 isR),
  (58, sGetI 2 2 61),
  (61, sIf pEq 68 64),
  (64, sLd 2 65 isR),
  (65, sGoto 69),
  (68, sLd 1 69 isR),
  (69, sSt 5 71 isR),
  (71, sLd 0 72 isR),
  (72, sLd 4 74 isR),
  (74, sLd 5 76 isR),
  (76, sLd 2 77 isR),
  (77, sGetI 2 4 80),
  (80, sLd 3 81 isI),
  (81, sCallV 4 4 (fun as μ K => Ct l mdX4_trade as μ K X) 84 0 0),
  (84, sLd 2 85 isR),
  (85, sDup 86),
  (86, sGetI 2 9 89),
  (89, sLd 3 90 isI),
  (90, sBin fSub 91),
  (91, sPutI 2 9 94),
  (94, sLd 0 95 isR),
  (95, sLd 2 96 isR),
  (96, sCallV 1 4 (fun as μ K => Ct l mdX4_sideOf as μ K X) 99 0 0),
  (99, sLd 2 100 isR),
  (100, sCallV 1 1 (fun as μ K => Ct l mdX1_settle as μ K X) 103 0 0),
  (103, sGoto 111),
  (106, sLd 0 107 isR),
  (107, sPush (aI 1) 108),
  (108, sPutI 4 8 111),
  (111, sRetV 0 K)]
theorem snX4_meet (l : Launch) (K : aRs) (X : aXs) (n0 : Nat) : ∀ q ∈ tbX4_meet l K X, aSo l mdX4_meet K X n0 q.1 q.2 :=
  tc (fun p e s m args below meth c cA D A ad0 h => ok_aload_n h.1 1 rfl dX4_meet_0) <|
  tc (fun p e s m args below meth c cA D A ad0 h => ok_getI h.1 cxX2 (by decide) rfl fkRX4_251 (fun _ _ _ => rfl) dX4_meet_1) <|
  tc (fun p e s m args below meth c cA D A ad0 h => ok_aload_n h.1 2 rfl dX4_meet_4) <|
  tc (fun p e s m args below meth c cA D A ad0 h => ok_getI h.1 cxX2 (by decide) rfl fkRX4_251 (fun _ _ _ => rfl) dX4_meet_5) <|
  tc (fun p e s m args below meth c cA D A ad0 h => ok_icmp_ne h.1 20 (by decide) dX4_meet_8) <|
  tc (fun p e s m args below meth c cA D A ad0 h => ok_aload_n h.1 0 rfl dX4_meet_11) <|
  tc (fun p e s m args below meth c cA D A ad0 h => ok_aload_n h.1 1 rfl dX4_meet_12) <|
  tc (fun p e s m args below meth c cA D A ad0 h => ok_aload_n h.1 2 rfl dX4_meet_13) <|
  tc (fun p e s m args below meth c cA D A ad0 h => ok_callV h.1 h.2.1 ⟨Nat.le_refl _, Nat.le_refl _⟩ mdX4_cancelOneOf siX4_cancelOneOf cxX4 mkRX4_254 imX4_cancelOneOf seX4_cancelOneOf ⟨by decide, by decide⟩ (aAx_out h.1 h.2.2.1 _) dX4_meet_14) <|
  tc (fun p e s m args below meth c cA D A ad0 h => ok_goto h.1 111 (by decide) dX4_meet_17) <|
  tc (fun p e s m args below meth c cA D A ad0 h => ok_aload_n h.1 0 rfl dX4_meet_20) <|
  tc (fun p e s m args below meth c cA D A ad0 h => ok_aload_n h.1 2 rfl dX4_meet_21) <|
  tc (fun p e s m args below meth c cA D A ad0 h => ok_getI h.1 cxX2 (by decide) rfl fkRX4_161 (fun _ _ _ => rfl) dX4_meet_22) <|
  tc (fun p e s m args below meth c cA D A ad0 h => ok_callV h.1 h.2.1 ⟨Nat.le_refl _, Nat.le_refl _⟩ mdX4_isWithinBand siX4_isWithinBand cxX4 mkRX4_257 imX4_isWithinBand seX4_isWithinBand ⟨by decide, by decide⟩ (aAx_out h.1 h.2.2.1 _) dX4_meet_25) <|
  tc (fun p e s m args below meth c cA D A ad0 h => ok_if_eq h.1 106 (by decide) dX4_meet_28) <|
  tc (fun p e s m args below meth c cA D A ad0 h => ok_aload_n h.1 1 rfl dX4_meet_31) <|
  tc (fun p e s m args below meth c cA D A ad0 h => ok_getI h.1 cxX2 (by decide) rfl fkRX4_113 (fun _ _ _ => rfl) dX4_meet_32) <|
  tc (fun p e s m args below meth c cA D A ad0 h => ok_aload_n h.1 2 rfl dX4_meet_35) <|
  tc (fun p e s m args below meth c cA D A ad0 h => ok_getI h.1 cxX2 (by decide) rfl fkRX4_116 (fun _ _ _ => rfl) dX4_meet_36) <|
  tc (fun p e s m args below meth c cA D A ad0 h => ok_min h.1 ⟨Nat.le_refl _, Nat.le_refl _⟩ mkRX4_119 smath_min nimath kmath_min dX4_meet_39) <|
  tc (fun p e s m args below meth c cA D A ad0 h => ok_istore_n h.1 3 rfl (by decide) dX4_meet_42) <|
  tc (fun p e s m args below meth c cA D A ad0 h => ok_aload_n h.1 1 rfl dX4_meet_43) <|
  tc (fun p e s m args below meth c cA D A ad0 h => ok_getI h.1 cxX2 (by decide) rfl fkRX4_230 (fun _ _ _ => rfl) dX4_meet_44) <|
  tc (fun p e s m args below meth c cA D A ad0 h => ok_if_eq h.1 54 (by decide) dX4_meet_47) <|
  tc (fun p e s m args below meth c cA D A ad0 h => ok_aload_n h.1 1 rfl dX4_meet_50) <|
  tc (fun p e s m args below meth c cA D A ad0 h => ok_goto h.1 55 (by decide) dX4_meet_51) <|
  tc (fun p e s m args below meth c cA D A ad0 h => ok_aload_n h.1 2 rfl dX4_meet_54) <|
  tc (fun p e s m args below meth c cA D A ad0 h => ok_astore h.1 (by decide) dX4_meet_55) <|
  tc (fun p e s m args below meth c cA D A ad0 h => ok_aload_n h.1 1 rfl dX4_meet_57) <|
  tc (fun p e s m args below meth c cA D A ad0 h => ok_getI h.1 cxX2 (by decide) rfl fkRX4_230 (fun _ _ _ => rfl) dX4_meet_58) <|
  tc (fun p e s m args below meth c cA D A ad0 h => ok_if_eq h.1 68 (by decide) dX4_meet_61) <|
  tc (fun p e s m args below meth c cA D A ad0 h => ok_aload_n h.1 2 rfl dX4_meet_64) <|
  tc (fun p e s m args below meth c cA D A ad0 h => ok_goto h.1 69 (by decide) dX4_meet_65) <|
  tc (fun p e s m args below meth c cA D A ad0 h => ok_aload_n h.1 1 rfl dX4_meet_68) <|
  tc (fun p e s m args below meth c cA D A ad0 h => ok_astore h.1 (by decide) dX4_meet_69) <|
  tc (fun p e s m args below meth c cA D A ad0 h => ok_aload_n h.1 0 rfl dX4_meet_71) <|
  tc (fun p e s m args below meth c cA D A ad0 h => ok_aload h.1 dX4_meet_72) <|
  tc (fun p e s m args below meth c cA D A ad0 h => ok_aload h.1 dX4_meet_74) <|
  tc (fun p e s m args below meth c cA D A ad0 h => ok_aload_n h.1 2 rfl dX4_meet_76) <|
  tc (fun p e s m args below meth c cA D A ad0 h => ok_getI h.1 cxX2 (by decide) rfl fkRX4_161 (fun _ _ _ => rfl) dX4_meet_77) <|
  tc (fun p e s m args below meth c cA D A ad0 h => ok_iload_n h.1 3 rfl dX4_meet_80) <|
  tc (fun p e s m args below meth c cA D A ad0 h => ok_callV h.1 h.2.1 ⟨Nat.le_refl _, Nat.le_refl _⟩ mdX4_trade siX4_trade cxX4 mkRX4_260 imX4_trade seX4_trade ⟨by decide, by decide⟩ (aAx_out h.1 h.2.2.1 _) dX4_meet_81) <|
  tc (fun p e s m args below meth c cA D A ad0 h => ok_aload_n h.1 2 rfl dX4_meet_84) <|
  tc (fun p e s m args below meth c cA D A ad0 h => ok_dup h.1 dX4_meet_85) <|
  tc (fun p e s m args below meth c cA D A ad0 h => ok_getI h.1 cxX2 (by decide) rfl fkRX4_116 (fun _ _ _ => rfl) dX4_meet_86) <|
  tc (fun p e s m args below meth c cA D A ad0 h => ok_iload_n h.1 3 rfl dX4_meet_89) <|
  tc (fun p e s m args below meth c cA D A ad0 h => ok_isub h.1 dX4_meet_90) <|
  tc (fun p e s m args below meth c cA D A ad0 h => ok_putI h.1 cxX2 (by decide) rfl fkRX4_116 (Or.inl rfl) (fun _ _ _ => rfl) (Or.inl rfl) dX4_meet_91) <|
  tc (fun p e s m args below meth c cA D A ad0 h => ok_aload_n h.1 0 rfl dX4_meet_94) <|
  tc (fun p e s m args below meth c cA D A ad0 h => ok_aload_n h.1 2 rfl dX4_meet_95) <|
  tc (fun p e s m args below meth c cA D A ad0 h => ok_callV h.1 h.2.1 ⟨Nat.le_refl _, Nat.le_refl _⟩ mdX4_sideOf siX4_sideOf cxX4 mkRX4_106 imX4_sideOf seX4_sideOf ⟨by decide, by decide⟩ (aAx_out h.1 h.2.2.1 _) dX4_meet_96) <|
  tc (fun p e s m args below meth c cA D A ad0 h => ok_aload_n h.1 2 rfl dX4_meet_99) <|
  tc (fun p e s m args below meth c cA D A ad0 h => ok_callV h.1 h.2.1 ⟨Nat.le_refl _, Nat.le_refl _⟩ mdX1_settle siX1_settle cxX1 mkRX4_264 imX1_settle seX1_settle ⟨by decide, by decide⟩ (aAx_out h.1 h.2.2.1 _) dX4_meet_100) <|
  tc (fun p e s m args below meth c cA D A ad0 h => ok_goto h.1 111 (by decide) dX4_meet_103) <|
  tc (fun p e s m args below meth c cA D A ad0 h => ok_aload_n h.1 0 rfl dX4_meet_106) <|
  tc (fun p e s m args below meth c cA D A ad0 h => ok_iconst h.1 ⟨by decide, by decide⟩ dX4_meet_107) <|
  tc (fun p e s m args below meth c cA D A ad0 h => ok_putI h.1 cxX4 (by decide) rfl fkRX4_52 (Or.inl rfl) (fun _ _ _ => rfl) (Or.inr (Or.inl rfl)) dX4_meet_108) <|
  tc (fun p e s m args below meth c cA D A ad0 h => ok_return h.1 h.2.2.2.1 dX4_meet_111) <|
  tn
abbrev cuX4_meet : List Nat := [17, 28, 84, 99, 103]
theorem tX4_meet_0 (l : Launch) (K : aRs) (X : aXs) : tb (tbX4_meet l K X) 0 = sLd 1 1 isR := (rfl)
theorem wX4_meet_0 {l : Launch} {K : aRs} {X : aXs} {J : aK} {W : Nat → aK} (hW : isW (tbX4_meet l K X) cuX4_meet J W) (n : Nat) (ls st : List aV) (μ : aM) (g : Nat) : W (n + 1) 0 ls st μ g = (sLd 1 1 isR) (W n) ls st μ g := (hW n 0 ls st μ g).trans rfl
theorem wX4_meet_1 {l : Launch} {K : aRs} {X : aXs} {J : aK} {W : Nat → aK} (hW : isW (tbX4_meet l K X) cuX4_meet J W) (n : Nat) (ls st : List aV) (μ : aM) (g : Nat) : W (n + 1) 1 ls st μ g = (sGetI 2 1 4) (W n) ls st μ g := (hW n 1 ls st μ g).trans rfl
theorem wX4_meet_4 {l : Launch} {K : aRs} {X : aXs} {J : aK} {W : Nat → aK} (hW : isW (tbX4_meet l K X) cuX4_meet J W) (n : Nat) (ls st : List aV) (μ : aM) (g : Nat) : W (n + 1) 4 ls st μ g = (sLd 2 5 isR) (W n) ls st μ g := (hW n 4 ls st μ g).trans rfl
theorem wX4_meet_5 {l : Launch} {K : aRs} {X : aXs} {J : aK} {W : Nat → aK} (hW : isW (tbX4_meet l K X) cuX4_meet J W) (n : Nat) (ls st : List aV) (μ : aM) (g : Nat) : W (n + 1) 5 ls st μ g = (sGetI 2 1 8) (W n) ls st μ g := (hW n 5 ls st μ g).trans rfl
theorem wX4_meet_8 {l : Launch} {K : aRs} {X : aXs} {J : aK} {W : Nat → aK} (hW : isW (tbX4_meet l K X) cuX4_meet J W) (n : Nat) (ls st : List aV) (μ : aM) (g : Nat) : W (n + 1) 8 ls st μ g = (sIc qNe 20 11) (W n) ls st μ g := (hW n 8 ls st μ g).trans rfl
theorem wX4_meet_11 {l : Launch} {K : aRs} {X : aXs} {J : aK} {W : Nat → aK} (hW : isW (tbX4_meet l K X) cuX4_meet J W) (n : Nat) (ls st : List aV) (μ : aM) (g : Nat) : W (n + 1) 11 ls st μ g = (sLd 0 12 isR) (W n) ls st μ g := (hW n 11 ls st μ g).trans rfl
theorem wX4_meet_12 {l : Launch} {K : aRs} {X : aXs} {J : aK} {W : Nat → aK} (hW : isW (tbX4_meet l K X) cuX4_meet J W) (n : Nat) (ls st : List aV) (μ : aM) (g : Nat) : W (n + 1) 12 ls st μ g = (sLd 1 13 isR) (W n) ls st μ g := (hW n 12 ls st μ g).trans rfl
theorem wX4_meet_13 {l : Launch} {K : aRs} {X : aXs} {J : aK} {W : Nat → aK} (hW : isW (tbX4_meet l K X) cuX4_meet J W) (n : Nat) (ls st : List aV) (μ : aM) (g : Nat) : W (n + 1) 13 ls st μ g = (sLd 2 14 isR) (W n) ls st μ g := (hW n 13 ls st μ g).trans rfl
theorem wX4_meet_14 {l : Launch} {K : aRs} {X : aXs} {J : aK} {W : Nat → aK} (hW : isW (tbX4_meet l K X) cuX4_meet J W) (n : Nat) (ls st : List aV) (μ : aM) (g : Nat) : W (n + 1) 14 ls st μ g = (sCallV 2 4 (fun as μ K => Ct l mdX4_cancelOneOf as μ K X) 17 0 0) (W n) ls st μ g := (hW n 14 ls st μ g).trans rfl
theorem tX4_meet_17 (l : Launch) (K : aRs) (X : aXs) : tb (tbX4_meet l K X) 17 = sGoto 111 := (rfl)
theorem wX4_meet_17 {l : Launch} {K : aRs} {X : aXs} {J : aK} {W : Nat → aK} (hW : isW (tbX4_meet l K X) cuX4_meet J W) (n : Nat) (ls st : List aV) (μ : aM) (g : Nat) : W (n + 1) 17 ls st μ g = J 17 ls st μ g := (hW n 17 ls st μ g).trans rfl
theorem wX4_meet_20 {l : Launch} {K : aRs} {X : aXs} {J : aK} {W : Nat → aK} (hW : isW (tbX4_meet l K X) cuX4_meet J W) (n : Nat) (ls st : List aV) (μ : aM) (g : Nat) : W (n + 1) 20 ls st μ g = (sLd 0 21 isR) (W n) ls st μ g := (hW n 20 ls st μ g).trans rfl
theorem wX4_meet_21 {l : Launch} {K : aRs} {X : aXs} {J : aK} {W : Nat → aK} (hW : isW (tbX4_meet l K X) cuX4_meet J W) (n : Nat) (ls st : List aV) (μ : aM) (g : Nat) : W (n + 1) 21 ls st μ g = (sLd 2 22 isR) (W n) ls st μ g := (hW n 21 ls st μ g).trans rfl
theorem wX4_meet_22 {l : Launch} {K : aRs} {X : aXs} {J : aK} {W : Nat → aK} (hW : isW (tbX4_meet l K X) cuX4_meet J W) (n : Nat) (ls st : List aV) (μ : aM) (g : Nat) : W (n + 1) 22 ls st μ g = (sGetI 2 4 25) (W n) ls st μ g := (hW n 22 ls st μ g).trans rfl
theorem wX4_meet_25 {l : Launch} {K : aRs} {X : aXs} {J : aK} {W : Nat → aK} (hW : isW (tbX4_meet l K X) cuX4_meet J W) (n : Nat) (ls st : List aV) (μ : aM) (g : Nat) : W (n + 1) 25 ls st μ g = (sCallV 1 4 (fun as μ K => Ct l mdX4_isWithinBand as μ K X) 28 0 0) (W n) ls st μ g := (hW n 25 ls st μ g).trans rfl
theorem tX4_meet_28 (l : Launch) (K : aRs) (X : aXs) : tb (tbX4_meet l K X) 28 = sIf pEq 106 31 := (rfl)
theorem wX4_meet_28 {l : Launch} {K : aRs} {X : aXs} {J : aK} {W : Nat → aK} (hW : isW (tbX4_meet l K X) cuX4_meet J W) (n : Nat) (ls st : List aV) (μ : aM) (g : Nat) : W (n + 1) 28 ls st μ g = J 28 ls st μ g := (hW n 28 ls st μ g).trans rfl
theorem wX4_meet_31 {l : Launch} {K : aRs} {X : aXs} {J : aK} {W : Nat → aK} (hW : isW (tbX4_meet l K X) cuX4_meet J W) (n : Nat) (ls st : List aV) (μ : aM) (g : Nat) : W (n + 1) 31 ls st μ g = (sLd 1 32 isR) (W n) ls st μ g := (hW n 31 ls st μ g).trans rfl
theorem wX4_meet_32 {l : Launch} {K : aRs} {X : aXs} {J : aK} {W : Nat → aK} (hW : isW (tbX4_meet l K X) cuX4_meet J W) (n : Nat) (ls st : List aV) (μ : aM) (g : Nat) : W (n + 1) 32 ls st μ g = (sGetI 2 6 35) (W n) ls st μ g := (hW n 32 ls st μ g).trans rfl
theorem wX4_meet_35 {l : Launch} {K : aRs} {X : aXs} {J : aK} {W : Nat → aK} (hW : isW (tbX4_meet l K X) cuX4_meet J W) (n : Nat) (ls st : List aV) (μ : aM) (g : Nat) : W (n + 1) 35 ls st μ g = (sLd 2 36 isR) (W n) ls st μ g := (hW n 35 ls st μ g).trans rfl
theorem wX4_meet_36 {l : Launch} {K : aRs} {X : aXs} {J : aK} {W : Nat → aK} (hW : isW (tbX4_meet l K X) cuX4_meet J W) (n : Nat) (ls st : List aV) (μ : aM) (g : Nat) : W (n + 1) 36 ls st μ g = (sGetI 2 9 39) (W n) ls st μ g := (hW n 36 ls st μ g).trans rfl
theorem wX4_meet_39 {l : Launch} {K : aRs} {X : aXs} {J : aK} {W : Nat → aK} (hW : isW (tbX4_meet l K X) cuX4_meet J W) (n : Nat) (ls st : List aV) (μ : aM) (g : Nat) : W (n + 1) 39 ls st μ g = (sMath (sMin 42) 0) (W n) ls st μ g := (hW n 39 ls st μ g).trans rfl
theorem wX4_meet_42 {l : Launch} {K : aRs} {X : aXs} {J : aK} {W : Nat → aK} (hW : isW (tbX4_meet l K X) cuX4_meet J W) (n : Nat) (ls st : List aV) (μ : aM) (g : Nat) : W (n + 1) 42 ls st μ g = (sSt 3 43 isI) (W n) ls st μ g := (hW n 42 ls st μ g).trans rfl
theorem wX4_meet_43 {l : Launch} {K : aRs} {X : aXs} {J : aK} {W : Nat → aK} (hW : isW (tbX4_meet l K X) cuX4_meet J W) (n : Nat) (ls st : List aV) (μ : aM) (g : Nat) : W (n + 1) 43 ls st μ g = (sLd 1 44 isR) (W n) ls st μ g := (hW n 43 ls st μ g).trans rfl
theorem wX4_meet_44 {l : Launch} {K : aRs} {X : aXs} {J : aK} {W : Nat → aK} (hW : isW (tbX4_meet l K X) cuX4_meet J W) (n : Nat) (ls st : List aV) (μ : aM) (g : Nat) : W (n + 1) 44 ls st μ g = (sGetI 2 2 47) (W n) ls st μ g := (hW n 44 ls st μ g).trans rfl
theorem wX4_meet_47 {l : Launch} {K : aRs} {X : aXs} {J : aK} {W : Nat → aK} (hW : isW (tbX4_meet l K X) cuX4_meet J W) (n : Nat) (ls st : List aV) (μ : aM) (g : Nat) : W (n + 1) 47 ls st μ g = (sIf pEq 54 50) (W n) ls st μ g := (hW n 47 ls st μ g).trans rfl
theorem wX4_meet_50 {l : Launch} {K : aRs} {X : aXs} {J : aK} {W : Nat → aK} (hW : isW (tbX4_meet l K X) cuX4_meet J W) (n : Nat) (ls st : List aV) (μ : aM) (g : Nat) : W (n + 1) 50 ls st μ g = (sLd 1 51 isR) (W n) ls st μ g := (hW n 50 ls st μ g).trans rfl
theorem wX4_meet_51 {l : Launch} {K : aRs} {X : aXs} {J : aK} {W : Nat → aK} (hW : isW (tbX4_meet l K X) cuX4_meet J W) (n : Nat) (ls st : List aV) (μ : aM) (g : Nat) : W (n + 1) 51 ls st μ g = (sGoto 55) (W n) ls st μ g := (hW n 51 ls st μ g).trans rfl
theorem wX4_meet_54 {l : Launch} {K : aRs} {X : aXs} {J : aK} {W : Nat → aK} (hW : isW (tbX4_meet l K X) cuX4_meet J W) (n : Nat) (ls st : List aV) (μ : aM) (g : Nat) : W (n + 1) 54 ls st μ g = (sLd 2 55 isR) (W n) ls st μ g := (hW n 54 ls st μ g).trans rfl
theorem wX4_meet_55 {l : Launch} {K : aRs} {X : aXs} {J : aK} {W : Nat → aK} (hW : isW (tbX4_meet l K X) cuX4_meet J W) (n : Nat) (ls st : List aV) (μ : aM) (g : Nat) : W (n + 1) 55 ls st μ g = (sSt 4 57 isR) (W n) ls st μ g := (hW n 55 ls st μ g).trans rfl
theorem wX4_meet_57 {l : Launch} {K : aRs} {X : aXs} {J : aK} {W : Nat → aK} (hW : isW (tbX4_meet l K X) cuX4_meet J W) (n : Nat) (ls st : List aV) (μ : aM) (g : Nat) : W (n + 1) 57 ls st μ g = (sLd 1 58 isR) (W n) ls st μ g := (hW n 57 ls st μ g).trans rfl
theorem wX4_meet_58 {l : Launch} {K : aRs} {X : aXs} {J : aK} {W : Nat → aK} (hW : isW (tbX4_meet l K X) cuX4_meet J W) (n : Nat) (ls st : List aV) (μ : aM) (g : Nat) : W (n + 1) 58 ls st μ g = (sGetI 2 2 61) (W n) ls st μ g := (hW n 58 ls st μ g).trans rfl
theorem wX4_meet_61 {l : Launch} {K : aRs} {X : aXs} {J : aK} {W : Nat → aK} (hW : isW (tbX4_meet l K X) cuX4_meet J W) (n : Nat) (ls st : List aV) (μ : aM) (g : Nat) : W (n + 1) 61 ls st μ g = (sIf pEq 68 64) (W n) ls st μ g := (hW n 61 ls st μ g).trans rfl
theorem wX4_meet_64 {l : Launch} {K : aRs} {X : aXs} {J : aK} {W : Nat → aK} (hW : isW (tbX4_meet l K X) cuX4_meet J W) (n : Nat) (ls st : List aV) (μ : aM) (g : Nat) : W (n + 1) 64 ls st μ g = (sLd 2 65 isR) (W n) ls st μ g := (hW n 64 ls st μ g).trans rfl
theorem wX4_meet_65 {l : Launch} {K : aRs} {X : aXs} {J : aK} {W : Nat → aK} (hW : isW (tbX4_meet l K X) cuX4_meet J W) (n : Nat) (ls st : List aV) (μ : aM) (g : Nat) : W (n + 1) 65 ls st μ g = (sGoto 69) (W n) ls st μ g := (hW n 65 ls st μ g).trans rfl
theorem wX4_meet_68 {l : Launch} {K : aRs} {X : aXs} {J : aK} {W : Nat → aK} (hW : isW (tbX4_meet l K X) cuX4_meet J W) (n : Nat) (ls st : List aV) (μ : aM) (g : Nat) : W (n + 1) 68 ls st μ g = (sLd 1 69 isR) (W n) ls st μ g := (hW n 68 ls st μ g).trans rfl
theorem wX4_meet_69 {l : Launch} {K : aRs} {X : aXs} {J : aK} {W : Nat → aK} (hW : isW (tbX4_meet l K X) cuX4_meet J W) (n : Nat) (ls st : List aV) (μ : aM) (g : Nat) : W (n + 1) 69 ls st μ g = (sSt 5 71 isR) (W n) ls st μ g := (hW n 69 ls st μ g).trans rfl
theorem wX4_meet_71 {l : Launch} {K : aRs} {X : aXs} {J : aK} {W : Nat → aK} (hW : isW (tbX4_meet l K X) cuX4_meet J W) (n : Nat) (ls st : List aV) (μ : aM) (g : Nat) : W (n + 1) 71 ls st μ g = (sLd 0 72 isR) (W n) ls st μ g := (hW n 71 ls st μ g).trans rfl
theorem wX4_meet_72 {l : Launch} {K : aRs} {X : aXs} {J : aK} {W : Nat → aK} (hW : isW (tbX4_meet l K X) cuX4_meet J W) (n : Nat) (ls st : List aV) (μ : aM) (g : Nat) : W (n + 1) 72 ls st μ g = (sLd 4 74 isR) (W n) ls st μ g := (hW n 72 ls st μ g).trans rfl
theorem wX4_meet_74 {l : Launch} {K : aRs} {X : aXs} {J : aK} {W : Nat → aK} (hW : isW (tbX4_meet l K X) cuX4_meet J W) (n : Nat) (ls st : List aV) (μ : aM) (g : Nat) : W (n + 1) 74 ls st μ g = (sLd 5 76 isR) (W n) ls st μ g := (hW n 74 ls st μ g).trans rfl
theorem wX4_meet_76 {l : Launch} {K : aRs} {X : aXs} {J : aK} {W : Nat → aK} (hW : isW (tbX4_meet l K X) cuX4_meet J W) (n : Nat) (ls st : List aV) (μ : aM) (g : Nat) : W (n + 1) 76 ls st μ g = (sLd 2 77 isR) (W n) ls st μ g := (hW n 76 ls st μ g).trans rfl
theorem wX4_meet_77 {l : Launch} {K : aRs} {X : aXs} {J : aK} {W : Nat → aK} (hW : isW (tbX4_meet l K X) cuX4_meet J W) (n : Nat) (ls st : List aV) (μ : aM) (g : Nat) : W (n + 1) 77 ls st μ g = (sGetI 2 4 80) (W n) ls st μ g := (hW n 77 ls st μ g).trans rfl
theorem wX4_meet_80 {l : Launch} {K : aRs} {X : aXs} {J : aK} {W : Nat → aK} (hW : isW (tbX4_meet l K X) cuX4_meet J W) (n : Nat) (ls st : List aV) (μ : aM) (g : Nat) : W (n + 1) 80 ls st μ g = (sLd 3 81 isI) (W n) ls st μ g := (hW n 80 ls st μ g).trans rfl
theorem wX4_meet_81 {l : Launch} {K : aRs} {X : aXs} {J : aK} {W : Nat → aK} (hW : isW (tbX4_meet l K X) cuX4_meet J W) (n : Nat) (ls st : List aV) (μ : aM) (g : Nat) : W (n + 1) 81 ls st μ g = (sCallV 4 4 (fun as μ K => Ct l mdX4_trade as μ K X) 84 0 0) (W n) ls st μ g := (hW n 81 ls st μ g).trans rfl
theorem tX4_meet_84 (l : Launch) (K : aRs) (X : aXs) : tb (tbX4_meet l K X) 84 = sLd 2 85 isR := (rfl)
theorem wX4_meet_84 {l : Launch} {K : aRs} {X : aXs} {J : aK} {W : Nat → aK} (hW : isW (tbX4_meet l K X) cuX4_meet J W) (n : Nat) (ls st : List aV) (μ : aM) (g : Nat) : W (n + 1) 84 ls st μ g = J 84 ls st μ g := (hW n 84 ls st μ g).trans rfl
theorem wX4_meet_85 {l : Launch} {K : aRs} {X : aXs} {J : aK} {W : Nat → aK} (hW : isW (tbX4_meet l K X) cuX4_meet J W) (n : Nat) (ls st : List aV) (μ : aM) (g : Nat) : W (n + 1) 85 ls st μ g = (sDup 86) (W n) ls st μ g := (hW n 85 ls st μ g).trans rfl
theorem wX4_meet_86 {l : Launch} {K : aRs} {X : aXs} {J : aK} {W : Nat → aK} (hW : isW (tbX4_meet l K X) cuX4_meet J W) (n : Nat) (ls st : List aV) (μ : aM) (g : Nat) : W (n + 1) 86 ls st μ g = (sGetI 2 9 89) (W n) ls st μ g := (hW n 86 ls st μ g).trans rfl
theorem wX4_meet_89 {l : Launch} {K : aRs} {X : aXs} {J : aK} {W : Nat → aK} (hW : isW (tbX4_meet l K X) cuX4_meet J W) (n : Nat) (ls st : List aV) (μ : aM) (g : Nat) : W (n + 1) 89 ls st μ g = (sLd 3 90 isI) (W n) ls st μ g := (hW n 89 ls st μ g).trans rfl
theorem wX4_meet_90 {l : Launch} {K : aRs} {X : aXs} {J : aK} {W : Nat → aK} (hW : isW (tbX4_meet l K X) cuX4_meet J W) (n : Nat) (ls st : List aV) (μ : aM) (g : Nat) : W (n + 1) 90 ls st μ g = (sBin fSub 91) (W n) ls st μ g := (hW n 90 ls st μ g).trans rfl
theorem wX4_meet_91 {l : Launch} {K : aRs} {X : aXs} {J : aK} {W : Nat → aK} (hW : isW (tbX4_meet l K X) cuX4_meet J W) (n : Nat) (ls st : List aV) (μ : aM) (g : Nat) : W (n + 1) 91 ls st μ g = (sPutI 2 9 94) (W n) ls st μ g := (hW n 91 ls st μ g).trans rfl
theorem wX4_meet_94 {l : Launch} {K : aRs} {X : aXs} {J : aK} {W : Nat → aK} (hW : isW (tbX4_meet l K X) cuX4_meet J W) (n : Nat) (ls st : List aV) (μ : aM) (g : Nat) : W (n + 1) 94 ls st μ g = (sLd 0 95 isR) (W n) ls st μ g := (hW n 94 ls st μ g).trans rfl
theorem wX4_meet_95 {l : Launch} {K : aRs} {X : aXs} {J : aK} {W : Nat → aK} (hW : isW (tbX4_meet l K X) cuX4_meet J W) (n : Nat) (ls st : List aV) (μ : aM) (g : Nat) : W (n + 1) 95 ls st μ g = (sLd 2 96 isR) (W n) ls st μ g := (hW n 95 ls st μ g).trans rfl
theorem wX4_meet_96 {l : Launch} {K : aRs} {X : aXs} {J : aK} {W : Nat → aK} (hW : isW (tbX4_meet l K X) cuX4_meet J W) (n : Nat) (ls st : List aV) (μ : aM) (g : Nat) : W (n + 1) 96 ls st μ g = (sCallV 1 4 (fun as μ K => Ct l mdX4_sideOf as μ K X) 99 0 0) (W n) ls st μ g := (hW n 96 ls st μ g).trans rfl
theorem tX4_meet_99 (l : Launch) (K : aRs) (X : aXs) : tb (tbX4_meet l K X) 99 = sLd 2 100 isR := (rfl)
theorem wX4_meet_99 {l : Launch} {K : aRs} {X : aXs} {J : aK} {W : Nat → aK} (hW : isW (tbX4_meet l K X) cuX4_meet J W) (n : Nat) (ls st : List aV) (μ : aM) (g : Nat) : W (n + 1) 99 ls st μ g = J 99 ls st μ g := (hW n 99 ls st μ g).trans rfl
theorem wX4_meet_100 {l : Launch} {K : aRs} {X : aXs} {J : aK} {W : Nat → aK} (hW : isW (tbX4_meet l K X) cuX4_meet J W) (n : Nat) (ls st : List aV) (μ : aM) (g : Nat) : W (n + 1) 100 ls st μ g = (sCallV 1 1 (fun as μ K => Ct l mdX1_settle as μ K X) 103 0 0) (W n) ls st μ g := (hW n 100 ls st μ g).trans rfl
theorem tX4_meet_103 (l : Launch) (K : aRs) (X : aXs) : tb (tbX4_meet l K X) 103 = sGoto 111 := (rfl)
theorem wX4_meet_103 {l : Launch} {K : aRs} {X : aXs} {J : aK} {W : Nat → aK} (hW : isW (tbX4_meet l K X) cuX4_meet J W) (n : Nat) (ls st : List aV) (μ : aM) (g : Nat) : W (n + 1) 103 ls st μ g = J 103 ls st μ g := (hW n 103 ls st μ g).trans rfl
theorem wX4_meet_106 {l : Launch} {K : aRs} {X : aXs} {J : aK} {W : Nat → aK} (hW : isW (tbX4_meet l K X) cuX4_meet J W) (n : Nat) (ls st : List aV) (μ : aM) (g : Nat) : W (n + 1) 106 ls st μ g = (sLd 0 107 isR) (W n) ls st μ g := (hW n 106 ls st μ g).trans rfl
theorem wX4_meet_107 {l : Launch} {K : aRs} {X : aXs} {J : aK} {W : Nat → aK} (hW : isW (tbX4_meet l K X) cuX4_meet J W) (n : Nat) (ls st : List aV) (μ : aM) (g : Nat) : W (n + 1) 107 ls st μ g = (sPush (aI 1) 108) (W n) ls st μ g := (hW n 107 ls st μ g).trans rfl
theorem wX4_meet_108 {l : Launch} {K : aRs} {X : aXs} {J : aK} {W : Nat → aK} (hW : isW (tbX4_meet l K X) cuX4_meet J W) (n : Nat) (ls st : List aV) (μ : aM) (g : Nat) : W (n + 1) 108 ls st μ g = (sPutI 4 8 111) (W n) ls st μ g := (hW n 108 ls st μ g).trans rfl
theorem wX4_meet_111 {l : Launch} {K : aRs} {X : aXs} {J : aK} {W : Nat → aK} (hW : isW (tbX4_meet l K X) cuX4_meet J W) (n : Nat) (ls st : List aV) (μ : aM) (g : Nat) : W (n + 1) 111 ls st μ g = (sRetV 0 K) (W n) ls st μ g := (hW n 111 ls st μ g).trans rfl
theorem dX4_cancelOneOf_0 : decode cX4_cancelOneOf 0 = .ok (.aload_n 0, 1) := by decide +kernel
theorem dX4_cancelOneOf_1 : decode cX4_cancelOneOf 1 = .ok (.getfield 48, 3) := by decide +kernel
theorem dX4_cancelOneOf_4 : decode cX4_cancelOneOf 4 = .ok (.bipush 105, 2) := by decide +kernel
theorem dX4_cancelOneOf_6 : decode cX4_cancelOneOf 6 = .ok (.if_icmp .ne 10, 3) := by decide +kernel
theorem dX4_cancelOneOf_9 : decode cX4_cancelOneOf 9 = .ok (.aload_n 1, 1) := by decide +kernel
theorem dX4_cancelOneOf_10 : decode cX4_cancelOneOf 10 = .ok (.bipush 99, 2) := by decide +kernel
theorem dX4_cancelOneOf_12 : decode cX4_cancelOneOf 12 = .ok (.putfield 103, 3) := by decide +kernel
theorem dX4_cancelOneOf_15 : decode cX4_cancelOneOf 15 = .ok (.return_, 1) := by decide +kernel
theorem dX4_cancelOneOf_16 : decode cX4_cancelOneOf 16 = .ok (.aload_n 0, 1) := by decide +kernel
theorem dX4_cancelOneOf_17 : decode cX4_cancelOneOf 17 = .ok (.aload_n 2, 1) := by decide +kernel
theorem dX4_cancelOneOf_18 : decode cX4_cancelOneOf 18 = .ok (.invokevirtual 106, 3) := by decide +kernel
theorem dX4_cancelOneOf_21 : decode cX4_cancelOneOf 21 = .ok (.aload_n 2, 1) := by decide +kernel
theorem dX4_cancelOneOf_22 : decode cX4_cancelOneOf 22 = .ok (.invokevirtual 110, 3) := by decide +kernel
theorem dX4_cancelOneOf_25 : decode cX4_cancelOneOf 25 = .ok (.aload_n 2, 1) := by decide +kernel
theorem dX4_cancelOneOf_26 : decode cX4_cancelOneOf 26 = .ok (.bipush 99, 2) := by decide +kernel
theorem dX4_cancelOneOf_28 : decode cX4_cancelOneOf 28 = .ok (.putfield 103, 3) := by decide +kernel
theorem dX4_cancelOneOf_31 : decode cX4_cancelOneOf 31 = .ok (.return_, 1) := by decide +kernel
def tbX4_cancelOneOf (l : Launch) (K : aRs) (X : aXs) : aTb := [
  (0, sLd 0 1 isR),
  (1, sGetI 4 7 4),
  (4, sPush (aI 105) 6),
  (6, sIc qNe 16 9),
  (9, sLd 1 10 isR),
  (10, sPush (aI 99) 12),
  (12, sPutI 2 10 15),
  (15, sRetV 0 K),
  (16, sLd 0 17 isR),
  (17, sLd 2 18 isR),
  (18, sCallV 1 4 (fun as μ K => Ct l mdX4_sideOf as μ K X) 21 0 0),
  (21, sLd 2 22 isR),
  (22, sCallV 1 1 (fun as μ K => Ct l mdX1_takeOut as μ K X) 25 0 0),
  (25, sLd 2 26 isR),
  (26, sPush (aI 99) 28),
  (28, sPutI 2 10 31),
  (31, sRetV 0 K)]
theorem snX4_cancelOneOf (l : Launch) (K : aRs) (X : aXs) (n0 : Nat) : ∀ q ∈ tbX4_cancelOneOf l K X, aSo l mdX4_cancelOneOf K X n0 q.1 q.2 :=
  tc (fun p e s m args below meth c cA D A ad0 h => ok_aload_n h.1 0 rfl dX4_cancelOneOf_0) <|
  tc (fun p e s m args below meth c cA D A ad0 h => ok_getI h.1 cxX4 (by decide) rfl fkRX4_48 (fun _ _ _ => rfl) dX4_cancelOneOf_1) <|
  tc (fun p e s m args below meth c cA D A ad0 h => ok_bipush h.1 ⟨by decide, by decide⟩ (by decide) dX4_cancelOneOf_4) <|
  tc (fun p e s m args below meth c cA D A ad0 h => ok_icmp_ne h.1 16 (by decide) dX4_cancelOneOf_6) <|
  tc (fun p e s m args below meth c cA D A ad0 h => ok_aload_n h.1 1 rfl dX4_cancelOneOf_9) <|
  tc (fun p e s m args below meth c cA D A ad0 h => ok_bipush h.1 ⟨by decide, by decide⟩ (by decide) dX4_cancelOneOf_10) <|
  tc (fun p e s m args below meth c cA D A ad0 h => ok_putI h.1 cxX2 (by decide) rfl fkRX4_103 (Or.inl rfl) (fun _ _ _ => rfl) (Or.inr (Or.inr rfl)) dX4_cancelOneOf_12) <|
  tc (fun p e s m args below meth c cA D A ad0 h => ok_return h.1 h.2.2.2.1 dX4_cancelOneOf_15) <|
  tc (fun p e s m args below meth c cA D A ad0 h => ok_aload_n h.1 0 rfl dX4_cancelOneOf_16) <|
  tc (fun p e s m args below meth c cA D A ad0 h => ok_aload_n h.1 2 rfl dX4_cancelOneOf_17) <|
  tc (fun p e s m args below meth c cA D A ad0 h => ok_callV h.1 h.2.1 ⟨Nat.le_refl _, Nat.le_refl _⟩ mdX4_sideOf siX4_sideOf cxX4 mkRX4_106 imX4_sideOf seX4_sideOf ⟨by decide, by decide⟩ (aAx_out h.1 h.2.2.1 _) dX4_cancelOneOf_18) <|
  tc (fun p e s m args below meth c cA D A ad0 h => ok_aload_n h.1 2 rfl dX4_cancelOneOf_21) <|
  tc (fun p e s m args below meth c cA D A ad0 h => ok_callV h.1 h.2.1 ⟨Nat.le_refl _, Nat.le_refl _⟩ mdX1_takeOut siX1_takeOut cxX1 mkRX4_110 imX1_takeOut seX1_takeOut ⟨by decide, by decide⟩ (aAx_out h.1 h.2.2.1 _) dX4_cancelOneOf_22) <|
  tc (fun p e s m args below meth c cA D A ad0 h => ok_aload_n h.1 2 rfl dX4_cancelOneOf_25) <|
  tc (fun p e s m args below meth c cA D A ad0 h => ok_bipush h.1 ⟨by decide, by decide⟩ (by decide) dX4_cancelOneOf_26) <|
  tc (fun p e s m args below meth c cA D A ad0 h => ok_putI h.1 cxX2 (by decide) rfl fkRX4_103 (Or.inl rfl) (fun _ _ _ => rfl) (Or.inr (Or.inr rfl)) dX4_cancelOneOf_28) <|
  tc (fun p e s m args below meth c cA D A ad0 h => ok_return h.1 h.2.2.2.1 dX4_cancelOneOf_31) <|
  tn
abbrev cuX4_cancelOneOf : List Nat := [21, 25]
theorem tX4_cancelOneOf_0 (l : Launch) (K : aRs) (X : aXs) : tb (tbX4_cancelOneOf l K X) 0 = sLd 0 1 isR := (rfl)
theorem wX4_cancelOneOf_0 {l : Launch} {K : aRs} {X : aXs} {J : aK} {W : Nat → aK} (hW : isW (tbX4_cancelOneOf l K X) cuX4_cancelOneOf J W) (n : Nat) (ls st : List aV) (μ : aM) (g : Nat) : W (n + 1) 0 ls st μ g = (sLd 0 1 isR) (W n) ls st μ g := (hW n 0 ls st μ g).trans rfl
theorem wX4_cancelOneOf_1 {l : Launch} {K : aRs} {X : aXs} {J : aK} {W : Nat → aK} (hW : isW (tbX4_cancelOneOf l K X) cuX4_cancelOneOf J W) (n : Nat) (ls st : List aV) (μ : aM) (g : Nat) : W (n + 1) 1 ls st μ g = (sGetI 4 7 4) (W n) ls st μ g := (hW n 1 ls st μ g).trans rfl
theorem wX4_cancelOneOf_4 {l : Launch} {K : aRs} {X : aXs} {J : aK} {W : Nat → aK} (hW : isW (tbX4_cancelOneOf l K X) cuX4_cancelOneOf J W) (n : Nat) (ls st : List aV) (μ : aM) (g : Nat) : W (n + 1) 4 ls st μ g = (sPush (aI 105) 6) (W n) ls st μ g := (hW n 4 ls st μ g).trans rfl
theorem wX4_cancelOneOf_6 {l : Launch} {K : aRs} {X : aXs} {J : aK} {W : Nat → aK} (hW : isW (tbX4_cancelOneOf l K X) cuX4_cancelOneOf J W) (n : Nat) (ls st : List aV) (μ : aM) (g : Nat) : W (n + 1) 6 ls st μ g = (sIc qNe 16 9) (W n) ls st μ g := (hW n 6 ls st μ g).trans rfl
theorem wX4_cancelOneOf_9 {l : Launch} {K : aRs} {X : aXs} {J : aK} {W : Nat → aK} (hW : isW (tbX4_cancelOneOf l K X) cuX4_cancelOneOf J W) (n : Nat) (ls st : List aV) (μ : aM) (g : Nat) : W (n + 1) 9 ls st μ g = (sLd 1 10 isR) (W n) ls st μ g := (hW n 9 ls st μ g).trans rfl
theorem wX4_cancelOneOf_10 {l : Launch} {K : aRs} {X : aXs} {J : aK} {W : Nat → aK} (hW : isW (tbX4_cancelOneOf l K X) cuX4_cancelOneOf J W) (n : Nat) (ls st : List aV) (μ : aM) (g : Nat) : W (n + 1) 10 ls st μ g = (sPush (aI 99) 12) (W n) ls st μ g := (hW n 10 ls st μ g).trans rfl
theorem wX4_cancelOneOf_12 {l : Launch} {K : aRs} {X : aXs} {J : aK} {W : Nat → aK} (hW : isW (tbX4_cancelOneOf l K X) cuX4_cancelOneOf J W) (n : Nat) (ls st : List aV) (μ : aM) (g : Nat) : W (n + 1) 12 ls st μ g = (sPutI 2 10 15) (W n) ls st μ g := (hW n 12 ls st μ g).trans rfl
theorem wX4_cancelOneOf_15 {l : Launch} {K : aRs} {X : aXs} {J : aK} {W : Nat → aK} (hW : isW (tbX4_cancelOneOf l K X) cuX4_cancelOneOf J W) (n : Nat) (ls st : List aV) (μ : aM) (g : Nat) : W (n + 1) 15 ls st μ g = (sRetV 0 K) (W n) ls st μ g := (hW n 15 ls st μ g).trans rfl
theorem wX4_cancelOneOf_16 {l : Launch} {K : aRs} {X : aXs} {J : aK} {W : Nat → aK} (hW : isW (tbX4_cancelOneOf l K X) cuX4_cancelOneOf J W) (n : Nat) (ls st : List aV) (μ : aM) (g : Nat) : W (n + 1) 16 ls st μ g = (sLd 0 17 isR) (W n) ls st μ g := (hW n 16 ls st μ g).trans rfl
theorem wX4_cancelOneOf_17 {l : Launch} {K : aRs} {X : aXs} {J : aK} {W : Nat → aK} (hW : isW (tbX4_cancelOneOf l K X) cuX4_cancelOneOf J W) (n : Nat) (ls st : List aV) (μ : aM) (g : Nat) : W (n + 1) 17 ls st μ g = (sLd 2 18 isR) (W n) ls st μ g := (hW n 17 ls st μ g).trans rfl
theorem wX4_cancelOneOf_18 {l : Launch} {K : aRs} {X : aXs} {J : aK} {W : Nat → aK} (hW : isW (tbX4_cancelOneOf l K X) cuX4_cancelOneOf J W) (n : Nat) (ls st : List aV) (μ : aM) (g : Nat) : W (n + 1) 18 ls st μ g = (sCallV 1 4 (fun as μ K => Ct l mdX4_sideOf as μ K X) 21 0 0) (W n) ls st μ g := (hW n 18 ls st μ g).trans rfl
theorem tX4_cancelOneOf_21 (l : Launch) (K : aRs) (X : aXs) : tb (tbX4_cancelOneOf l K X) 21 = sLd 2 22 isR := (rfl)
theorem wX4_cancelOneOf_21 {l : Launch} {K : aRs} {X : aXs} {J : aK} {W : Nat → aK} (hW : isW (tbX4_cancelOneOf l K X) cuX4_cancelOneOf J W) (n : Nat) (ls st : List aV) (μ : aM) (g : Nat) : W (n + 1) 21 ls st μ g = J 21 ls st μ g := (hW n 21 ls st μ g).trans rfl
theorem wX4_cancelOneOf_22 {l : Launch} {K : aRs} {X : aXs} {J : aK} {W : Nat → aK} (hW : isW (tbX4_cancelOneOf l K X) cuX4_cancelOneOf J W) (n : Nat) (ls st : List aV) (μ : aM) (g : Nat) : W (n + 1) 22 ls st μ g = (sCallV 1 1 (fun as μ K => Ct l mdX1_takeOut as μ K X) 25 0 0) (W n) ls st μ g := (hW n 22 ls st μ g).trans rfl
theorem tX4_cancelOneOf_25 (l : Launch) (K : aRs) (X : aXs) : tb (tbX4_cancelOneOf l K X) 25 = sLd 2 26 isR := (rfl)
theorem wX4_cancelOneOf_25 {l : Launch} {K : aRs} {X : aXs} {J : aK} {W : Nat → aK} (hW : isW (tbX4_cancelOneOf l K X) cuX4_cancelOneOf J W) (n : Nat) (ls st : List aV) (μ : aM) (g : Nat) : W (n + 1) 25 ls st μ g = J 25 ls st μ g := (hW n 25 ls st μ g).trans rfl
theorem wX4_cancelOneOf_26 {l : Launch} {K : aRs} {X : aXs} {J : aK} {W : Nat → aK} (hW : isW (tbX4_cancelOneOf l K X) cuX4_cancelOneOf J W) (n : Nat) (ls st : List aV) (μ : aM) (g : Nat) : W (n + 1) 26 ls st μ g = (sPush (aI 99) 28) (W n) ls st μ g := (hW n 26 ls st μ g).trans rfl
theorem wX4_cancelOneOf_28 {l : Launch} {K : aRs} {X : aXs} {J : aK} {W : Nat → aK} (hW : isW (tbX4_cancelOneOf l K X) cuX4_cancelOneOf J W) (n : Nat) (ls st : List aV) (μ : aM) (g : Nat) : W (n + 1) 28 ls st μ g = (sPutI 2 10 31) (W n) ls st μ g := (hW n 28 ls st μ g).trans rfl
theorem wX4_cancelOneOf_31 {l : Launch} {K : aRs} {X : aXs} {J : aK} {W : Nat → aK} (hW : isW (tbX4_cancelOneOf l K X) cuX4_cancelOneOf J W) (n : Nat) (ls st : List aV) (μ : aM) (g : Nat) : W (n + 1) 31 ls st μ g = (sRetV 0 K) (W n) ls st μ g := (hW n 31 ls st μ g).trans rfl
theorem dX4_isWithinBand_0 : decode cX4_isWithinBand 0 = .ok (.aload_n 0, 1) := by decide +kernel
theorem dX4_isWithinBand_1 : decode cX4_isWithinBand 1 = .ok (.getfield 30, 3) := by decide +kernel
theorem dX4_isWithinBand_4 : decode cX4_isWithinBand 4 = .ok (.getfield 267, 3) := by decide +kernel
theorem dX4_isWithinBand_7 : decode cX4_isWithinBand 7 = .ok (.istore_n 2, 1) := by decide +kernel
theorem dX4_isWithinBand_8 : decode cX4_isWithinBand 8 = .ok (.aload_n 0, 1) := by decide +kernel
theorem dX4_isWithinBand_9 : decode cX4_isWithinBand 9 = .ok (.getfield 45, 3) := by decide +kernel
theorem dX4_isWithinBand_12 : decode cX4_isWithinBand 12 = .ok (.ifCond .eq 7, 3) := by decide +kernel
theorem dX4_isWithinBand_15 : decode cX4_isWithinBand 15 = .ok (.iload_n 2, 1) := by decide +kernel
theorem dX4_isWithinBand_16 : decode cX4_isWithinBand 16 = .ok (.ifCond .ne 5, 3) := by decide +kernel
theorem dX4_isWithinBand_19 : decode cX4_isWithinBand 19 = .ok (.iconst 1, 1) := by decide +kernel
theorem dX4_isWithinBand_20 : decode cX4_isWithinBand 20 = .ok (.ireturn, 1) := by decide +kernel
theorem dX4_isWithinBand_21 : decode cX4_isWithinBand 21 = .ok (.iload_n 1, 1) := by decide +kernel
theorem dX4_isWithinBand_22 : decode cX4_isWithinBand 22 = .ok (.iload_n 2, 1) := by decide +kernel
theorem dX4_isWithinBand_23 : decode cX4_isWithinBand 23 = .ok (.isub, 1) := by decide +kernel
theorem dX4_isWithinBand_24 : decode cX4_isWithinBand 24 = .ok (.invokestatic 270, 3) := by decide +kernel
theorem dX4_isWithinBand_27 : decode cX4_isWithinBand 27 = .ok (.bipush 100, 2) := by decide +kernel
theorem dX4_isWithinBand_29 : decode cX4_isWithinBand 29 = .ok (.imul, 1) := by decide +kernel
theorem dX4_isWithinBand_30 : decode cX4_isWithinBand 30 = .ok (.aload_n 0, 1) := by decide +kernel
theorem dX4_isWithinBand_31 : decode cX4_isWithinBand 31 = .ok (.getfield 45, 3) := by decide +kernel
theorem dX4_isWithinBand_34 : decode cX4_isWithinBand 34 = .ok (.iload_n 2, 1) := by decide +kernel
theorem dX4_isWithinBand_35 : decode cX4_isWithinBand 35 = .ok (.imul, 1) := by decide +kernel
theorem dX4_isWithinBand_36 : decode cX4_isWithinBand 36 = .ok (.if_icmp .gt 7, 3) := by decide +kernel
theorem dX4_isWithinBand_39 : decode cX4_isWithinBand 39 = .ok (.iconst 1, 1) := by decide +kernel
theorem dX4_isWithinBand_40 : decode cX4_isWithinBand 40 = .ok (.goto 4, 3) := by decide +kernel
theorem dX4_isWithinBand_43 : decode cX4_isWithinBand 43 = .ok (.iconst 0, 1) := by decide +kernel
theorem dX4_isWithinBand_44 : decode cX4_isWithinBand 44 = .ok (.ireturn, 1) := by decide +kernel
def tbX4_isWithinBand (l : Launch) (K : aRs) (X : aXs) : aTb := [
  (0, sLd 0 1 isR),
  (1, sGetR 4 3 4),
  (4, sGetI 3 5 7),
  (7, sSt 2 8 isI),
  (8, sLd 0 9 isR),
  (9, sGetI 4 6 12),
  (12, sIf pEq 19 15),
  (15, sLd 2 16 isI),
  (16, sIf pNe 21 19),
  (19, sPush (aI 1) 20),
  (20, sRetI .boolean 0 K),
  (21, sLd 1 22 isI),
  (22, sLd 2 23 isI),
  (23, sBin fSub 24),
  (24, sMath (sAbs 27) 0),
  (27, sPush (aI 100) 29),
  (29, sBin fMul 30),
  (30, sLd 0 31 isR),
  (31, sGetI 4 6 34),
  (34, sLd 2 35 isI),
  (35, sBin fMul 36),
  (36, sIc qGt 43 39),
  (39, sPush (aI 1) 40),
  (40, sGoto 44),
  (43, sPush (aI 0) 44),
  (44, sRetI .boolean 0 K)]
theorem snX4_isWithinBand (l : Launch) (K : aRs) (X : aXs) (n0 : Nat) : ∀ q ∈ tbX4_isWithinBand l K X, aSo l mdX4_isWithinBand K X n0 q.1 q.2 :=
  tc (fun p e s m args below meth c cA D A ad0 h => ok_aload_n h.1 0 rfl dX4_isWithinBand_0) <|
  tc (fun p e s m args below meth c cA D A ad0 h => ok_getR h.1 cxX4 (by decide) rfl fkRX4_30 (fun _ _ _ => rfl) dX4_isWithinBand_1) <|
  tc (fun p e s m args below meth c cA D A ad0 h => ok_getI h.1 cxX3 (by decide) rfl fkRX4_267 (fun _ _ _ => rfl) dX4_isWithinBand_4) <|
  tc (fun p e s m args below meth c cA D A ad0 h => ok_istore_n h.1 2 rfl (by decide) dX4_isWithinBand_7) <|
  tc (fun p e s m args below meth c cA D A ad0 h => ok_aload_n h.1 0 rfl dX4_isWithinBand_8) <|
  tc (fun p e s m args below meth c cA D A ad0 h => ok_getI h.1 cxX4 (by decide) rfl fkRX4_45 (fun _ _ _ => rfl) dX4_isWithinBand_9) <|
  tc (fun p e s m args below meth c cA D A ad0 h => ok_if_eq h.1 19 (by decide) dX4_isWithinBand_12) <|
  tc (fun p e s m args below meth c cA D A ad0 h => ok_iload_n h.1 2 rfl dX4_isWithinBand_15) <|
  tc (fun p e s m args below meth c cA D A ad0 h => ok_if_ne h.1 21 (by decide) dX4_isWithinBand_16) <|
  tc (fun p e s m args below meth c cA D A ad0 h => ok_iconst h.1 ⟨by decide, by decide⟩ dX4_isWithinBand_19) <|
  tc (fun p e s m args below meth c cA D A ad0 h => ok_ireturn h.1 h.2.2.2.1 (Or.inr (Or.inl rfl)) dX4_isWithinBand_20) <|
  tc (fun p e s m args below meth c cA D A ad0 h => ok_iload_n h.1 1 rfl dX4_isWithinBand_21) <|
  tc (fun p e s m args below meth c cA D A ad0 h => ok_iload_n h.1 2 rfl dX4_isWithinBand_22) <|
  tc (fun p e s m args below meth c cA D A ad0 h => ok_isub h.1 dX4_isWithinBand_23) <|
  tc (fun p e s m args below meth c cA D A ad0 h => ok_abs h.1 ⟨Nat.le_refl _, Nat.le_refl _⟩ mkRX4_270 smath_abs nimath kmath_abs dX4_isWithinBand_24) <|
  tc (fun p e s m args below meth c cA D A ad0 h => ok_bipush h.1 ⟨by decide, by decide⟩ (by decide) dX4_isWithinBand_27) <|
  tc (fun p e s m args below meth c cA D A ad0 h => ok_imul h.1 dX4_isWithinBand_29) <|
  tc (fun p e s m args below meth c cA D A ad0 h => ok_aload_n h.1 0 rfl dX4_isWithinBand_30) <|
  tc (fun p e s m args below meth c cA D A ad0 h => ok_getI h.1 cxX4 (by decide) rfl fkRX4_45 (fun _ _ _ => rfl) dX4_isWithinBand_31) <|
  tc (fun p e s m args below meth c cA D A ad0 h => ok_iload_n h.1 2 rfl dX4_isWithinBand_34) <|
  tc (fun p e s m args below meth c cA D A ad0 h => ok_imul h.1 dX4_isWithinBand_35) <|
  tc (fun p e s m args below meth c cA D A ad0 h => ok_icmp_gt h.1 43 (by decide) dX4_isWithinBand_36) <|
  tc (fun p e s m args below meth c cA D A ad0 h => ok_iconst h.1 ⟨by decide, by decide⟩ dX4_isWithinBand_39) <|
  tc (fun p e s m args below meth c cA D A ad0 h => ok_goto h.1 44 (by decide) dX4_isWithinBand_40) <|
  tc (fun p e s m args below meth c cA D A ad0 h => ok_iconst h.1 ⟨by decide, by decide⟩ dX4_isWithinBand_43) <|
  tc (fun p e s m args below meth c cA D A ad0 h => ok_ireturn h.1 h.2.2.2.1 (Or.inr (Or.inl rfl)) dX4_isWithinBand_44) <|
  tn
abbrev cuX4_isWithinBand : List Nat := []
theorem tX4_isWithinBand_0 (l : Launch) (K : aRs) (X : aXs) : tb (tbX4_isWithinBand l K X) 0 = sLd 0 1 isR := (rfl)
theorem wX4_isWithinBand_0 {l : Launch} {K : aRs} {X : aXs} {J : aK} {W : Nat → aK} (hW : isW (tbX4_isWithinBand l K X) cuX4_isWithinBand J W) (n : Nat) (ls st : List aV) (μ : aM) (g : Nat) : W (n + 1) 0 ls st μ g = (sLd 0 1 isR) (W n) ls st μ g := (hW n 0 ls st μ g).trans rfl
theorem wX4_isWithinBand_1 {l : Launch} {K : aRs} {X : aXs} {J : aK} {W : Nat → aK} (hW : isW (tbX4_isWithinBand l K X) cuX4_isWithinBand J W) (n : Nat) (ls st : List aV) (μ : aM) (g : Nat) : W (n + 1) 1 ls st μ g = (sGetR 4 3 4) (W n) ls st μ g := (hW n 1 ls st μ g).trans rfl
theorem wX4_isWithinBand_4 {l : Launch} {K : aRs} {X : aXs} {J : aK} {W : Nat → aK} (hW : isW (tbX4_isWithinBand l K X) cuX4_isWithinBand J W) (n : Nat) (ls st : List aV) (μ : aM) (g : Nat) : W (n + 1) 4 ls st μ g = (sGetI 3 5 7) (W n) ls st μ g := (hW n 4 ls st μ g).trans rfl
theorem wX4_isWithinBand_7 {l : Launch} {K : aRs} {X : aXs} {J : aK} {W : Nat → aK} (hW : isW (tbX4_isWithinBand l K X) cuX4_isWithinBand J W) (n : Nat) (ls st : List aV) (μ : aM) (g : Nat) : W (n + 1) 7 ls st μ g = (sSt 2 8 isI) (W n) ls st μ g := (hW n 7 ls st μ g).trans rfl
theorem wX4_isWithinBand_8 {l : Launch} {K : aRs} {X : aXs} {J : aK} {W : Nat → aK} (hW : isW (tbX4_isWithinBand l K X) cuX4_isWithinBand J W) (n : Nat) (ls st : List aV) (μ : aM) (g : Nat) : W (n + 1) 8 ls st μ g = (sLd 0 9 isR) (W n) ls st μ g := (hW n 8 ls st μ g).trans rfl
theorem wX4_isWithinBand_9 {l : Launch} {K : aRs} {X : aXs} {J : aK} {W : Nat → aK} (hW : isW (tbX4_isWithinBand l K X) cuX4_isWithinBand J W) (n : Nat) (ls st : List aV) (μ : aM) (g : Nat) : W (n + 1) 9 ls st μ g = (sGetI 4 6 12) (W n) ls st μ g := (hW n 9 ls st μ g).trans rfl
theorem wX4_isWithinBand_12 {l : Launch} {K : aRs} {X : aXs} {J : aK} {W : Nat → aK} (hW : isW (tbX4_isWithinBand l K X) cuX4_isWithinBand J W) (n : Nat) (ls st : List aV) (μ : aM) (g : Nat) : W (n + 1) 12 ls st μ g = (sIf pEq 19 15) (W n) ls st μ g := (hW n 12 ls st μ g).trans rfl
theorem wX4_isWithinBand_15 {l : Launch} {K : aRs} {X : aXs} {J : aK} {W : Nat → aK} (hW : isW (tbX4_isWithinBand l K X) cuX4_isWithinBand J W) (n : Nat) (ls st : List aV) (μ : aM) (g : Nat) : W (n + 1) 15 ls st μ g = (sLd 2 16 isI) (W n) ls st μ g := (hW n 15 ls st μ g).trans rfl
theorem wX4_isWithinBand_16 {l : Launch} {K : aRs} {X : aXs} {J : aK} {W : Nat → aK} (hW : isW (tbX4_isWithinBand l K X) cuX4_isWithinBand J W) (n : Nat) (ls st : List aV) (μ : aM) (g : Nat) : W (n + 1) 16 ls st μ g = (sIf pNe 21 19) (W n) ls st μ g := (hW n 16 ls st μ g).trans rfl
theorem wX4_isWithinBand_19 {l : Launch} {K : aRs} {X : aXs} {J : aK} {W : Nat → aK} (hW : isW (tbX4_isWithinBand l K X) cuX4_isWithinBand J W) (n : Nat) (ls st : List aV) (μ : aM) (g : Nat) : W (n + 1) 19 ls st μ g = (sPush (aI 1) 20) (W n) ls st μ g := (hW n 19 ls st μ g).trans rfl
theorem wX4_isWithinBand_20 {l : Launch} {K : aRs} {X : aXs} {J : aK} {W : Nat → aK} (hW : isW (tbX4_isWithinBand l K X) cuX4_isWithinBand J W) (n : Nat) (ls st : List aV) (μ : aM) (g : Nat) : W (n + 1) 20 ls st μ g = (sRetI .boolean 0 K) (W n) ls st μ g := (hW n 20 ls st μ g).trans rfl
theorem wX4_isWithinBand_21 {l : Launch} {K : aRs} {X : aXs} {J : aK} {W : Nat → aK} (hW : isW (tbX4_isWithinBand l K X) cuX4_isWithinBand J W) (n : Nat) (ls st : List aV) (μ : aM) (g : Nat) : W (n + 1) 21 ls st μ g = (sLd 1 22 isI) (W n) ls st μ g := (hW n 21 ls st μ g).trans rfl
theorem wX4_isWithinBand_22 {l : Launch} {K : aRs} {X : aXs} {J : aK} {W : Nat → aK} (hW : isW (tbX4_isWithinBand l K X) cuX4_isWithinBand J W) (n : Nat) (ls st : List aV) (μ : aM) (g : Nat) : W (n + 1) 22 ls st μ g = (sLd 2 23 isI) (W n) ls st μ g := (hW n 22 ls st μ g).trans rfl
theorem wX4_isWithinBand_23 {l : Launch} {K : aRs} {X : aXs} {J : aK} {W : Nat → aK} (hW : isW (tbX4_isWithinBand l K X) cuX4_isWithinBand J W) (n : Nat) (ls st : List aV) (μ : aM) (g : Nat) : W (n + 1) 23 ls st μ g = (sBin fSub 24) (W n) ls st μ g := (hW n 23 ls st μ g).trans rfl
theorem wX4_isWithinBand_24 {l : Launch} {K : aRs} {X : aXs} {J : aK} {W : Nat → aK} (hW : isW (tbX4_isWithinBand l K X) cuX4_isWithinBand J W) (n : Nat) (ls st : List aV) (μ : aM) (g : Nat) : W (n + 1) 24 ls st μ g = (sMath (sAbs 27) 0) (W n) ls st μ g := (hW n 24 ls st μ g).trans rfl
theorem wX4_isWithinBand_27 {l : Launch} {K : aRs} {X : aXs} {J : aK} {W : Nat → aK} (hW : isW (tbX4_isWithinBand l K X) cuX4_isWithinBand J W) (n : Nat) (ls st : List aV) (μ : aM) (g : Nat) : W (n + 1) 27 ls st μ g = (sPush (aI 100) 29) (W n) ls st μ g := (hW n 27 ls st μ g).trans rfl
theorem wX4_isWithinBand_29 {l : Launch} {K : aRs} {X : aXs} {J : aK} {W : Nat → aK} (hW : isW (tbX4_isWithinBand l K X) cuX4_isWithinBand J W) (n : Nat) (ls st : List aV) (μ : aM) (g : Nat) : W (n + 1) 29 ls st μ g = (sBin fMul 30) (W n) ls st μ g := (hW n 29 ls st μ g).trans rfl
theorem wX4_isWithinBand_30 {l : Launch} {K : aRs} {X : aXs} {J : aK} {W : Nat → aK} (hW : isW (tbX4_isWithinBand l K X) cuX4_isWithinBand J W) (n : Nat) (ls st : List aV) (μ : aM) (g : Nat) : W (n + 1) 30 ls st μ g = (sLd 0 31 isR) (W n) ls st μ g := (hW n 30 ls st μ g).trans rfl
theorem wX4_isWithinBand_31 {l : Launch} {K : aRs} {X : aXs} {J : aK} {W : Nat → aK} (hW : isW (tbX4_isWithinBand l K X) cuX4_isWithinBand J W) (n : Nat) (ls st : List aV) (μ : aM) (g : Nat) : W (n + 1) 31 ls st μ g = (sGetI 4 6 34) (W n) ls st μ g := (hW n 31 ls st μ g).trans rfl
theorem wX4_isWithinBand_34 {l : Launch} {K : aRs} {X : aXs} {J : aK} {W : Nat → aK} (hW : isW (tbX4_isWithinBand l K X) cuX4_isWithinBand J W) (n : Nat) (ls st : List aV) (μ : aM) (g : Nat) : W (n + 1) 34 ls st μ g = (sLd 2 35 isI) (W n) ls st μ g := (hW n 34 ls st μ g).trans rfl
theorem wX4_isWithinBand_35 {l : Launch} {K : aRs} {X : aXs} {J : aK} {W : Nat → aK} (hW : isW (tbX4_isWithinBand l K X) cuX4_isWithinBand J W) (n : Nat) (ls st : List aV) (μ : aM) (g : Nat) : W (n + 1) 35 ls st μ g = (sBin fMul 36) (W n) ls st μ g := (hW n 35 ls st μ g).trans rfl
theorem wX4_isWithinBand_36 {l : Launch} {K : aRs} {X : aXs} {J : aK} {W : Nat → aK} (hW : isW (tbX4_isWithinBand l K X) cuX4_isWithinBand J W) (n : Nat) (ls st : List aV) (μ : aM) (g : Nat) : W (n + 1) 36 ls st μ g = (sIc qGt 43 39) (W n) ls st μ g := (hW n 36 ls st μ g).trans rfl
theorem wX4_isWithinBand_39 {l : Launch} {K : aRs} {X : aXs} {J : aK} {W : Nat → aK} (hW : isW (tbX4_isWithinBand l K X) cuX4_isWithinBand J W) (n : Nat) (ls st : List aV) (μ : aM) (g : Nat) : W (n + 1) 39 ls st μ g = (sPush (aI 1) 40) (W n) ls st μ g := (hW n 39 ls st μ g).trans rfl
theorem wX4_isWithinBand_40 {l : Launch} {K : aRs} {X : aXs} {J : aK} {W : Nat → aK} (hW : isW (tbX4_isWithinBand l K X) cuX4_isWithinBand J W) (n : Nat) (ls st : List aV) (μ : aM) (g : Nat) : W (n + 1) 40 ls st μ g = (sGoto 44) (W n) ls st μ g := (hW n 40 ls st μ g).trans rfl
theorem wX4_isWithinBand_43 {l : Launch} {K : aRs} {X : aXs} {J : aK} {W : Nat → aK} (hW : isW (tbX4_isWithinBand l K X) cuX4_isWithinBand J W) (n : Nat) (ls st : List aV) (μ : aM) (g : Nat) : W (n + 1) 43 ls st μ g = (sPush (aI 0) 44) (W n) ls st μ g := (hW n 43 ls st μ g).trans rfl
theorem wX4_isWithinBand_44 {l : Launch} {K : aRs} {X : aXs} {J : aK} {W : Nat → aK} (hW : isW (tbX4_isWithinBand l K X) cuX4_isWithinBand J W) (n : Nat) (ls st : List aV) (μ : aM) (g : Nat) : W (n + 1) 44 ls st μ g = (sRetI .boolean 0 K) (W n) ls st μ g := (hW n 44 ls st μ g).trans rfl
theorem dX4_trade_0 : decode cX4_trade 0 = .ok (.aload_n 1, 1) := by decide +kernel
theorem dX4_trade_1 : decode cX4_trade 1 = .ok (.iload 4, 2) := by decide +kernel
theorem dX4_trade_3 : decode cX4_trade 3 = .ok (.invokevirtual 273, 3) := by decide +kernel
theorem dX4_trade_6 : decode cX4_trade 6 = .ok (.aload_n 2, 1) := by decide +kernel
theorem dX4_trade_7 : decode cX4_trade 7 = .ok (.iload 4, 2) := by decide +kernel
theorem dX4_trade_9 : decode cX4_trade 9 = .ok (.invokevirtual 273, 3) := by decide +kernel
theorem dX4_trade_12 : decode cX4_trade 12 = .ok (.aload_n 0, 1) := by decide +kernel
theorem dX4_trade_13 : decode cX4_trade 13 = .ok (.getfield 30, 3) := by decide +kernel
theorem dX4_trade_16 : decode cX4_trade 16 = .ok (.iload_n 3, 1) := by decide +kernel
theorem dX4_trade_17 : decode cX4_trade 17 = .ok (.iload 4, 2) := by decide +kernel
theorem dX4_trade_19 : decode cX4_trade 19 = .ok (.aload_n 1, 1) := by decide +kernel
theorem dX4_trade_20 : decode cX4_trade 20 = .ok (.getfield 93, 3) := by decide +kernel
theorem dX4_trade_23 : decode cX4_trade 23 = .ok (.aload_n 2, 1) := by decide +kernel
theorem dX4_trade_24 : decode cX4_trade 24 = .ok (.getfield 93, 3) := by decide +kernel
theorem dX4_trade_27 : decode cX4_trade 27 = .ok (.invokevirtual 277, 3) := by decide +kernel
theorem dX4_trade_30 : decode cX4_trade 30 = .ok (.return_, 1) := by decide +kernel
def tbX4_trade (l : Launch) (K : aRs) (X : aXs) : aTb := [
  (0, sLd 1 1 isR),
  (1, sLd 4 3 isI),
  (3, sCallV 1 2 (fun as μ K => Ct l mdX2_fill as μ K X) 6 0 0),
  (6, sLd 2 7 isR),
  (7, sLd 4 9 isI),
  (9, sCallV 1 2 (fun as μ K => Ct l mdX2_fill as μ K X) 12 0 0),
  (12, sLd 0 13 isR),
  (13, sGetR 4 3 16),
  (16, sLd 3 17 isI),
  (17, sLd 4 19 isI),
  (19, sLd 1 20 isR),
  (20, sGetI 2 0 23),
  (23, sLd 2 24 isR),
  (24, sGetI 2 0 27),
  (27, sCallV 4 3 (fun as μ K => Ct l mdX3_add as μ K X) 30 0 0),
  (30, sRetV 0 K)]
theorem snX4_trade (l : Launch) (K : aRs) (X : aXs) (n0 : Nat) : ∀ q ∈ tbX4_trade l K X, aSo l mdX4_trade K X n0 q.1 q.2 :=
  tc (fun p e s m args below meth c cA D A ad0 h => ok_aload_n h.1 1 rfl dX4_trade_0) <|
  tc (fun p e s m args below meth c cA D A ad0 h => ok_iload h.1 dX4_trade_1) <|
  tc (fun p e s m args below meth c cA D A ad0 h => ok_callV h.1 h.2.1 ⟨Nat.le_refl _, Nat.le_refl _⟩ mdX2_fill siX2_fill cxX2 mkRX4_273 imX2_fill seX2_fill ⟨by decide, by decide⟩ (aAx_out h.1 h.2.2.1 _) dX4_trade_3) <|
  tc (fun p e s m args below meth c cA D A ad0 h => ok_aload_n h.1 2 rfl dX4_trade_6) <|
  tc (fun p e s m args below meth c cA D A ad0 h => ok_iload h.1 dX4_trade_7) <|
  tc (fun p e s m args below meth c cA D A ad0 h => ok_callV h.1 h.2.1 ⟨Nat.le_refl _, Nat.le_refl _⟩ mdX2_fill siX2_fill cxX2 mkRX4_273 imX2_fill seX2_fill ⟨by decide, by decide⟩ (aAx_out h.1 h.2.2.1 _) dX4_trade_9) <|
  tc (fun p e s m args below meth c cA D A ad0 h => ok_aload_n h.1 0 rfl dX4_trade_12) <|
  tc (fun p e s m args below meth c cA D A ad0 h => ok_getR h.1 cxX4 (by decide) rfl fkRX4_30 (fun _ _ _ => rfl) dX4_trade_13) <|
  tc (fun p e s m args below meth c cA D A ad0 h => ok_iload_n h.1 3 rfl dX4_trade_16) <|
  tc (fun p e s m args below meth c cA D A ad0 h => ok_iload h.1 dX4_trade_17) <|
  tc (fun p e s m args below meth c cA D A ad0 h => ok_aload_n h.1 1 rfl dX4_trade_19) <|
  tc (fun p e s m args below meth c cA D A ad0 h => ok_getI h.1 cxX2 (by decide) rfl fkRX4_93 (fun _ _ _ => rfl) dX4_trade_20) <|
  tc (fun p e s m args below meth c cA D A ad0 h => ok_aload_n h.1 2 rfl dX4_trade_23) <|
  tc (fun p e s m args below meth c cA D A ad0 h => ok_getI h.1 cxX2 (by decide) rfl fkRX4_93 (fun _ _ _ => rfl) dX4_trade_24) <|
  tc (fun p e s m args below meth c cA D A ad0 h => ok_callV h.1 h.2.1 ⟨Nat.le_refl _, Nat.le_refl _⟩ mdX3_add siX3_add cxX3 mkRX4_277 imX3_add seX3_add ⟨by decide, by decide⟩ (aAx_out h.1 h.2.2.1 _) dX4_trade_27) <|
  tc (fun p e s m args below meth c cA D A ad0 h => ok_return h.1 h.2.2.2.1 dX4_trade_30) <|
  tn
abbrev cuX4_trade : List Nat := [6, 12, 30]
theorem tX4_trade_0 (l : Launch) (K : aRs) (X : aXs) : tb (tbX4_trade l K X) 0 = sLd 1 1 isR := (rfl)
theorem wX4_trade_0 {l : Launch} {K : aRs} {X : aXs} {J : aK} {W : Nat → aK} (hW : isW (tbX4_trade l K X) cuX4_trade J W) (n : Nat) (ls st : List aV) (μ : aM) (g : Nat) : W (n + 1) 0 ls st μ g = (sLd 1 1 isR) (W n) ls st μ g := (hW n 0 ls st μ g).trans rfl
theorem wX4_trade_1 {l : Launch} {K : aRs} {X : aXs} {J : aK} {W : Nat → aK} (hW : isW (tbX4_trade l K X) cuX4_trade J W) (n : Nat) (ls st : List aV) (μ : aM) (g : Nat) : W (n + 1) 1 ls st μ g = (sLd 4 3 isI) (W n) ls st μ g := (hW n 1 ls st μ g).trans rfl
theorem wX4_trade_3 {l : Launch} {K : aRs} {X : aXs} {J : aK} {W : Nat → aK} (hW : isW (tbX4_trade l K X) cuX4_trade J W) (n : Nat) (ls st : List aV) (μ : aM) (g : Nat) : W (n + 1) 3 ls st μ g = (sCallV 1 2 (fun as μ K => Ct l mdX2_fill as μ K X) 6 0 0) (W n) ls st μ g := (hW n 3 ls st μ g).trans rfl
theorem tX4_trade_6 (l : Launch) (K : aRs) (X : aXs) : tb (tbX4_trade l K X) 6 = sLd 2 7 isR := (rfl)
theorem wX4_trade_6 {l : Launch} {K : aRs} {X : aXs} {J : aK} {W : Nat → aK} (hW : isW (tbX4_trade l K X) cuX4_trade J W) (n : Nat) (ls st : List aV) (μ : aM) (g : Nat) : W (n + 1) 6 ls st μ g = J 6 ls st μ g := (hW n 6 ls st μ g).trans rfl
theorem wX4_trade_7 {l : Launch} {K : aRs} {X : aXs} {J : aK} {W : Nat → aK} (hW : isW (tbX4_trade l K X) cuX4_trade J W) (n : Nat) (ls st : List aV) (μ : aM) (g : Nat) : W (n + 1) 7 ls st μ g = (sLd 4 9 isI) (W n) ls st μ g := (hW n 7 ls st μ g).trans rfl
theorem wX4_trade_9 {l : Launch} {K : aRs} {X : aXs} {J : aK} {W : Nat → aK} (hW : isW (tbX4_trade l K X) cuX4_trade J W) (n : Nat) (ls st : List aV) (μ : aM) (g : Nat) : W (n + 1) 9 ls st μ g = (sCallV 1 2 (fun as μ K => Ct l mdX2_fill as μ K X) 12 0 0) (W n) ls st μ g := (hW n 9 ls st μ g).trans rfl
theorem tX4_trade_12 (l : Launch) (K : aRs) (X : aXs) : tb (tbX4_trade l K X) 12 = sLd 0 13 isR := (rfl)
theorem wX4_trade_12 {l : Launch} {K : aRs} {X : aXs} {J : aK} {W : Nat → aK} (hW : isW (tbX4_trade l K X) cuX4_trade J W) (n : Nat) (ls st : List aV) (μ : aM) (g : Nat) : W (n + 1) 12 ls st μ g = J 12 ls st μ g := (hW n 12 ls st μ g).trans rfl
theorem wX4_trade_13 {l : Launch} {K : aRs} {X : aXs} {J : aK} {W : Nat → aK} (hW : isW (tbX4_trade l K X) cuX4_trade J W) (n : Nat) (ls st : List aV) (μ : aM) (g : Nat) : W (n + 1) 13 ls st μ g = (sGetR 4 3 16) (W n) ls st μ g := (hW n 13 ls st μ g).trans rfl
theorem wX4_trade_16 {l : Launch} {K : aRs} {X : aXs} {J : aK} {W : Nat → aK} (hW : isW (tbX4_trade l K X) cuX4_trade J W) (n : Nat) (ls st : List aV) (μ : aM) (g : Nat) : W (n + 1) 16 ls st μ g = (sLd 3 17 isI) (W n) ls st μ g := (hW n 16 ls st μ g).trans rfl
theorem wX4_trade_17 {l : Launch} {K : aRs} {X : aXs} {J : aK} {W : Nat → aK} (hW : isW (tbX4_trade l K X) cuX4_trade J W) (n : Nat) (ls st : List aV) (μ : aM) (g : Nat) : W (n + 1) 17 ls st μ g = (sLd 4 19 isI) (W n) ls st μ g := (hW n 17 ls st μ g).trans rfl
theorem wX4_trade_19 {l : Launch} {K : aRs} {X : aXs} {J : aK} {W : Nat → aK} (hW : isW (tbX4_trade l K X) cuX4_trade J W) (n : Nat) (ls st : List aV) (μ : aM) (g : Nat) : W (n + 1) 19 ls st μ g = (sLd 1 20 isR) (W n) ls st μ g := (hW n 19 ls st μ g).trans rfl
theorem wX4_trade_20 {l : Launch} {K : aRs} {X : aXs} {J : aK} {W : Nat → aK} (hW : isW (tbX4_trade l K X) cuX4_trade J W) (n : Nat) (ls st : List aV) (μ : aM) (g : Nat) : W (n + 1) 20 ls st μ g = (sGetI 2 0 23) (W n) ls st μ g := (hW n 20 ls st μ g).trans rfl
theorem wX4_trade_23 {l : Launch} {K : aRs} {X : aXs} {J : aK} {W : Nat → aK} (hW : isW (tbX4_trade l K X) cuX4_trade J W) (n : Nat) (ls st : List aV) (μ : aM) (g : Nat) : W (n + 1) 23 ls st μ g = (sLd 2 24 isR) (W n) ls st μ g := (hW n 23 ls st μ g).trans rfl
theorem wX4_trade_24 {l : Launch} {K : aRs} {X : aXs} {J : aK} {W : Nat → aK} (hW : isW (tbX4_trade l K X) cuX4_trade J W) (n : Nat) (ls st : List aV) (μ : aM) (g : Nat) : W (n + 1) 24 ls st μ g = (sGetI 2 0 27) (W n) ls st μ g := (hW n 24 ls st μ g).trans rfl
theorem wX4_trade_27 {l : Launch} {K : aRs} {X : aXs} {J : aK} {W : Nat → aK} (hW : isW (tbX4_trade l K X) cuX4_trade J W) (n : Nat) (ls st : List aV) (μ : aM) (g : Nat) : W (n + 1) 27 ls st μ g = (sCallV 4 3 (fun as μ K => Ct l mdX3_add as μ K X) 30 0 0) (W n) ls st μ g := (hW n 27 ls st μ g).trans rfl
theorem tX4_trade_30 (l : Launch) (K : aRs) (X : aXs) : tb (tbX4_trade l K X) 30 = sRetV 0 K := (rfl)
theorem wX4_trade_30 {l : Launch} {K : aRs} {X : aXs} {J : aK} {W : Nat → aK} (hW : isW (tbX4_trade l K X) cuX4_trade J W) (n : Nat) (ls st : List aV) (μ : aM) (g : Nat) : W (n + 1) 30 ls st μ g = J 30 ls st μ g := (hW n 30 ls st μ g).trans rfl
theorem dX4_setOffStops_0 : decode cX4_setOffStops 0 = .ok (.iconst 0, 1) := by decide +kernel
theorem dX4_setOffStops_1 : decode cX4_setOffStops 1 = .ok (.istore_n 1, 1) := by decide +kernel
theorem dX4_setOffStops_2 : decode cX4_setOffStops 2 = .ok (.iload_n 1, 1) := by decide +kernel
theorem dX4_setOffStops_3 : decode cX4_setOffStops 3 = .ok (.bipush 60, 2) := by decide +kernel
theorem dX4_setOffStops_5 : decode cX4_setOffStops 5 = .ok (.if_icmp .ge 39, 3) := by decide +kernel
theorem dX4_setOffStops_8 : decode cX4_setOffStops 8 = .ok (.aload_n 0, 1) := by decide +kernel
theorem dX4_setOffStops_9 : decode cX4_setOffStops 9 = .ok (.getfield 52, 3) := by decide +kernel
theorem dX4_setOffStops_12 : decode cX4_setOffStops 12 = .ok (.ifCond .ne 32, 3) := by decide +kernel
theorem dX4_setOffStops_15 : decode cX4_setOffStops 15 = .ok (.aload_n 0, 1) := by decide +kernel
theorem dX4_setOffStops_16 : decode cX4_setOffStops 16 = .ok (.invokevirtual 281, 3) := by decide +kernel
theorem dX4_setOffStops_19 : decode cX4_setOffStops 19 = .ok (.astore_n 2, 1) := by decide +kernel
theorem dX4_setOffStops_20 : decode cX4_setOffStops 20 = .ok (.aload_n 2, 1) := by decide +kernel
theorem dX4_setOffStops_21 : decode cX4_setOffStops 21 = .ok (.ifnonnull 4, 3) := by decide +kernel
theorem dX4_setOffStops_24 : decode cX4_setOffStops 24 = .ok (.return_, 1) := by decide +kernel
theorem dX4_setOffStops_25 : decode cX4_setOffStops 25 = .ok (.aload_n 2, 1) := by decide +kernel
theorem dX4_setOffStops_26 : decode cX4_setOffStops 26 = .ok (.aload_n 2, 1) := by decide +kernel
theorem dX4_setOffStops_27 : decode cX4_setOffStops 27 = .ok (.getfield 113, 3) := by decide +kernel
theorem dX4_setOffStops_30 : decode cX4_setOffStops 30 = .ok (.putfield 285, 3) := by decide +kernel
theorem dX4_setOffStops_33 : decode cX4_setOffStops 33 = .ok (.aload_n 0, 1) := by decide +kernel
theorem dX4_setOffStops_34 : decode cX4_setOffStops 34 = .ok (.aload_n 2, 1) := by decide +kernel
theorem dX4_setOffStops_35 : decode cX4_setOffStops 35 = .ok (.invokevirtual 87, 3) := by decide +kernel
theorem dX4_setOffStops_38 : decode cX4_setOffStops 38 = .ok (.iinc 1 1, 3) := by decide +kernel
theorem dX4_setOffStops_41 : decode cX4_setOffStops 41 = .ok (.goto (-39), 3) := by decide +kernel
theorem dX4_setOffStops_44 : decode cX4_setOffStops 44 = .ok (.return_, 1) := by decide +kernel
def tbX4_setOffStops (l : Launch) (K : aRs) (X : aXs) : aTb := [
  (0, sPush (aI 0) 1),
  (1, sSt 1 2 isI),
  (2, sLd 1 3 isI),
  (3, sPush (aI 60) 5),
  (5, sIc qGe 44 8),
  (8, sLd 0 9 isR),
  (9, sGetI 4 8 12),
  (12, sIf pNe 44 15),
  (15, sLd 0 16 isR),
  (16, sCallV 0 4 (fun as μ K => Ct l mdX4_firstReadyStop as μ K X) 19 0 0),
  (19, sSt 2 20 isR),
  (20, sLd 2 21 isR),
  (21, sNn 25 24),
  (24, sRetV 0 K),
  (25, sLd 2 26 isR),
  (26, sLd 2 27 isR),
  (27, sGetI 2 6 30),
  (30, sPutI 2 8 33),
  (33, sLd 0 34 isR),
  (34, sLd 2 35 isR),
  (35, sCallV 1 4 (fun as μ K => Ct l mdX4_comeIn as μ K X) 38 0 0),
  (38, sInc 1 1 41),
  (41, sGoto 2),
  (44, sRetV 0 K)]
theorem snX4_setOffStops (l : Launch) (K : aRs) (X : aXs) (n0 : Nat) : ∀ q ∈ tbX4_setOffStops l K X, aSo l mdX4_setOffStops K X n0 q.1 q.2 :=
  tc (fun p e s m args below meth c cA D A ad0 h => ok_iconst h.1 ⟨by decide, by decide⟩ dX4_setOffStops_0) <|
  tc (fun p e s m args below meth c cA D A ad0 h => ok_istore_n h.1 1 rfl (by decide) dX4_setOffStops_1) <|
  tc (fun p e s m args below meth c cA D A ad0 h => ok_iload_n h.1 1 rfl dX4_setOffStops_2) <|
  tc (fun p e s m args below meth c cA D A ad0 h => ok_bipush h.1 ⟨by decide, by decide⟩ (by decide) dX4_setOffStops_3) <|
  tc (fun p e s m args below meth c cA D A ad0 h => ok_icmp_ge h.1 44 (by decide) dX4_setOffStops_5) <|
  tc (fun p e s m args below meth c cA D A ad0 h => ok_aload_n h.1 0 rfl dX4_setOffStops_8) <|
  tc (fun p e s m args below meth c cA D A ad0 h => ok_getI h.1 cxX4 (by decide) rfl fkRX4_52 (fun _ _ _ => rfl) dX4_setOffStops_9) <|
  tc (fun p e s m args below meth c cA D A ad0 h => ok_if_ne h.1 44 (by decide) dX4_setOffStops_12) <|
  tc (fun p e s m args below meth c cA D A ad0 h => ok_aload_n h.1 0 rfl dX4_setOffStops_15) <|
  tc (fun p e s m args below meth c cA D A ad0 h => ok_callV h.1 h.2.1 ⟨Nat.le_refl _, Nat.le_refl _⟩ mdX4_firstReadyStop siX4_firstReadyStop cxX4 mkRX4_281 imX4_firstReadyStop seX4_firstReadyStop ⟨by decide, by decide⟩ (aAx_out h.1 h.2.2.1 _) dX4_setOffStops_16) <|
  tc (fun p e s m args below meth c cA D A ad0 h => ok_astore_n h.1 2 rfl (by decide) dX4_setOffStops_19) <|
  tc (fun p e s m args below meth c cA D A ad0 h => ok_aload_n h.1 2 rfl dX4_setOffStops_20) <|
  tc (fun p e s m args below meth c cA D A ad0 h => ok_ifnonnull h.1 25 (by decide) dX4_setOffStops_21) <|
  tc (fun p e s m args below meth c cA D A ad0 h => ok_return h.1 h.2.2.2.1 dX4_setOffStops_24) <|
  tc (fun p e s m args below meth c cA D A ad0 h => ok_aload_n h.1 2 rfl dX4_setOffStops_25) <|
  tc (fun p e s m args below meth c cA D A ad0 h => ok_aload_n h.1 2 rfl dX4_setOffStops_26) <|
  tc (fun p e s m args below meth c cA D A ad0 h => ok_getI h.1 cxX2 (by decide) rfl fkRX4_113 (fun _ _ _ => rfl) dX4_setOffStops_27) <|
  tc (fun p e s m args below meth c cA D A ad0 h => ok_putI h.1 cxX2 (by decide) rfl fkRX4_285 (Or.inl rfl) (fun _ _ _ => rfl) (Or.inl rfl) dX4_setOffStops_30) <|
  tc (fun p e s m args below meth c cA D A ad0 h => ok_aload_n h.1 0 rfl dX4_setOffStops_33) <|
  tc (fun p e s m args below meth c cA D A ad0 h => ok_aload_n h.1 2 rfl dX4_setOffStops_34) <|
  tc (fun p e s m args below meth c cA D A ad0 h => ok_callV h.1 h.2.1 ⟨Nat.le_refl _, Nat.le_refl _⟩ mdX4_comeIn siX4_comeIn cxX4 mkRX4_87 imX4_comeIn seX4_comeIn ⟨by decide, by decide⟩ (aAx_out h.1 h.2.2.1 _) dX4_setOffStops_35) <|
  tc (fun p e s m args below meth c cA D A ad0 h => ok_iinc h.1 (by decide) dX4_setOffStops_38) <|
  tc (fun p e s m args below meth c cA D A ad0 h => ok_goto h.1 2 (by decide) dX4_setOffStops_41) <|
  tc (fun p e s m args below meth c cA D A ad0 h => ok_return h.1 h.2.2.2.1 dX4_setOffStops_44) <|
  tn
abbrev cuX4_setOffStops : List Nat := [2, 19, 38]
theorem tX4_setOffStops_0 (l : Launch) (K : aRs) (X : aXs) : tb (tbX4_setOffStops l K X) 0 = sPush (aI 0) 1 := (rfl)
theorem wX4_setOffStops_0 {l : Launch} {K : aRs} {X : aXs} {J : aK} {W : Nat → aK} (hW : isW (tbX4_setOffStops l K X) cuX4_setOffStops J W) (n : Nat) (ls st : List aV) (μ : aM) (g : Nat) : W (n + 1) 0 ls st μ g = (sPush (aI 0) 1) (W n) ls st μ g := (hW n 0 ls st μ g).trans rfl
theorem wX4_setOffStops_1 {l : Launch} {K : aRs} {X : aXs} {J : aK} {W : Nat → aK} (hW : isW (tbX4_setOffStops l K X) cuX4_setOffStops J W) (n : Nat) (ls st : List aV) (μ : aM) (g : Nat) : W (n + 1) 1 ls st μ g = (sSt 1 2 isI) (W n) ls st μ g := (hW n 1 ls st μ g).trans rfl
theorem tX4_setOffStops_2 (l : Launch) (K : aRs) (X : aXs) : tb (tbX4_setOffStops l K X) 2 = sLd 1 3 isI := (rfl)
theorem wX4_setOffStops_2 {l : Launch} {K : aRs} {X : aXs} {J : aK} {W : Nat → aK} (hW : isW (tbX4_setOffStops l K X) cuX4_setOffStops J W) (n : Nat) (ls st : List aV) (μ : aM) (g : Nat) : W (n + 1) 2 ls st μ g = J 2 ls st μ g := (hW n 2 ls st μ g).trans rfl
theorem wX4_setOffStops_3 {l : Launch} {K : aRs} {X : aXs} {J : aK} {W : Nat → aK} (hW : isW (tbX4_setOffStops l K X) cuX4_setOffStops J W) (n : Nat) (ls st : List aV) (μ : aM) (g : Nat) : W (n + 1) 3 ls st μ g = (sPush (aI 60) 5) (W n) ls st μ g := (hW n 3 ls st μ g).trans rfl
theorem wX4_setOffStops_5 {l : Launch} {K : aRs} {X : aXs} {J : aK} {W : Nat → aK} (hW : isW (tbX4_setOffStops l K X) cuX4_setOffStops J W) (n : Nat) (ls st : List aV) (μ : aM) (g : Nat) : W (n + 1) 5 ls st μ g = (sIc qGe 44 8) (W n) ls st μ g := (hW n 5 ls st μ g).trans rfl
theorem wX4_setOffStops_8 {l : Launch} {K : aRs} {X : aXs} {J : aK} {W : Nat → aK} (hW : isW (tbX4_setOffStops l K X) cuX4_setOffStops J W) (n : Nat) (ls st : List aV) (μ : aM) (g : Nat) : W (n + 1) 8 ls st μ g = (sLd 0 9 isR) (W n) ls st μ g := (hW n 8 ls st μ g).trans rfl
theorem wX4_setOffStops_9 {l : Launch} {K : aRs} {X : aXs} {J : aK} {W : Nat → aK} (hW : isW (tbX4_setOffStops l K X) cuX4_setOffStops J W) (n : Nat) (ls st : List aV) (μ : aM) (g : Nat) : W (n + 1) 9 ls st μ g = (sGetI 4 8 12) (W n) ls st μ g := (hW n 9 ls st μ g).trans rfl
theorem wX4_setOffStops_12 {l : Launch} {K : aRs} {X : aXs} {J : aK} {W : Nat → aK} (hW : isW (tbX4_setOffStops l K X) cuX4_setOffStops J W) (n : Nat) (ls st : List aV) (μ : aM) (g : Nat) : W (n + 1) 12 ls st μ g = (sIf pNe 44 15) (W n) ls st μ g := (hW n 12 ls st μ g).trans rfl
theorem wX4_setOffStops_15 {l : Launch} {K : aRs} {X : aXs} {J : aK} {W : Nat → aK} (hW : isW (tbX4_setOffStops l K X) cuX4_setOffStops J W) (n : Nat) (ls st : List aV) (μ : aM) (g : Nat) : W (n + 1) 15 ls st μ g = (sLd 0 16 isR) (W n) ls st μ g := (hW n 15 ls st μ g).trans rfl
theorem wX4_setOffStops_16 {l : Launch} {K : aRs} {X : aXs} {J : aK} {W : Nat → aK} (hW : isW (tbX4_setOffStops l K X) cuX4_setOffStops J W) (n : Nat) (ls st : List aV) (μ : aM) (g : Nat) : W (n + 1) 16 ls st μ g = (sCallV 0 4 (fun as μ K => Ct l mdX4_firstReadyStop as μ K X) 19 0 0) (W n) ls st μ g := (hW n 16 ls st μ g).trans rfl
theorem tX4_setOffStops_19 (l : Launch) (K : aRs) (X : aXs) : tb (tbX4_setOffStops l K X) 19 = sSt 2 20 isR := (rfl)
theorem wX4_setOffStops_19 {l : Launch} {K : aRs} {X : aXs} {J : aK} {W : Nat → aK} (hW : isW (tbX4_setOffStops l K X) cuX4_setOffStops J W) (n : Nat) (ls st : List aV) (μ : aM) (g : Nat) : W (n + 1) 19 ls st μ g = J 19 ls st μ g := (hW n 19 ls st μ g).trans rfl
theorem wX4_setOffStops_20 {l : Launch} {K : aRs} {X : aXs} {J : aK} {W : Nat → aK} (hW : isW (tbX4_setOffStops l K X) cuX4_setOffStops J W) (n : Nat) (ls st : List aV) (μ : aM) (g : Nat) : W (n + 1) 20 ls st μ g = (sLd 2 21 isR) (W n) ls st μ g := (hW n 20 ls st μ g).trans rfl
theorem wX4_setOffStops_21 {l : Launch} {K : aRs} {X : aXs} {J : aK} {W : Nat → aK} (hW : isW (tbX4_setOffStops l K X) cuX4_setOffStops J W) (n : Nat) (ls st : List aV) (μ : aM) (g : Nat) : W (n + 1) 21 ls st μ g = (sNn 25 24) (W n) ls st μ g := (hW n 21 ls st μ g).trans rfl
theorem wX4_setOffStops_24 {l : Launch} {K : aRs} {X : aXs} {J : aK} {W : Nat → aK} (hW : isW (tbX4_setOffStops l K X) cuX4_setOffStops J W) (n : Nat) (ls st : List aV) (μ : aM) (g : Nat) : W (n + 1) 24 ls st μ g = (sRetV 0 K) (W n) ls st μ g := (hW n 24 ls st μ g).trans rfl
theorem wX4_setOffStops_25 {l : Launch} {K : aRs} {X : aXs} {J : aK} {W : Nat → aK} (hW : isW (tbX4_setOffStops l K X) cuX4_setOffStops J W) (n : Nat) (ls st : List aV) (μ : aM) (g : Nat) : W (n + 1) 25 ls st μ g = (sLd 2 26 isR) (W n) ls st μ g := (hW n 25 ls st μ g).trans rfl
theorem wX4_setOffStops_26 {l : Launch} {K : aRs} {X : aXs} {J : aK} {W : Nat → aK} (hW : isW (tbX4_setOffStops l K X) cuX4_setOffStops J W) (n : Nat) (ls st : List aV) (μ : aM) (g : Nat) : W (n + 1) 26 ls st μ g = (sLd 2 27 isR) (W n) ls st μ g := (hW n 26 ls st μ g).trans rfl
theorem wX4_setOffStops_27 {l : Launch} {K : aRs} {X : aXs} {J : aK} {W : Nat → aK} (hW : isW (tbX4_setOffStops l K X) cuX4_setOffStops J W) (n : Nat) (ls st : List aV) (μ : aM) (g : Nat) : W (n + 1) 27 ls st μ g = (sGetI 2 6 30) (W n) ls st μ g := (hW n 27 ls st μ g).trans rfl
theorem wX4_setOffStops_30 {l : Launch} {K : aRs} {X : aXs} {J : aK} {W : Nat → aK} (hW : isW (tbX4_setOffStops l K X) cuX4_setOffStops J W) (n : Nat) (ls st : List aV) (μ : aM) (g : Nat) : W (n + 1) 30 ls st μ g = (sPutI 2 8 33) (W n) ls st μ g := (hW n 30 ls st μ g).trans rfl
theorem wX4_setOffStops_33 {l : Launch} {K : aRs} {X : aXs} {J : aK} {W : Nat → aK} (hW : isW (tbX4_setOffStops l K X) cuX4_setOffStops J W) (n : Nat) (ls st : List aV) (μ : aM) (g : Nat) : W (n + 1) 33 ls st μ g = (sLd 0 34 isR) (W n) ls st μ g := (hW n 33 ls st μ g).trans rfl
theorem wX4_setOffStops_34 {l : Launch} {K : aRs} {X : aXs} {J : aK} {W : Nat → aK} (hW : isW (tbX4_setOffStops l K X) cuX4_setOffStops J W) (n : Nat) (ls st : List aV) (μ : aM) (g : Nat) : W (n + 1) 34 ls st μ g = (sLd 2 35 isR) (W n) ls st μ g := (hW n 34 ls st μ g).trans rfl
theorem wX4_setOffStops_35 {l : Launch} {K : aRs} {X : aXs} {J : aK} {W : Nat → aK} (hW : isW (tbX4_setOffStops l K X) cuX4_setOffStops J W) (n : Nat) (ls st : List aV) (μ : aM) (g : Nat) : W (n + 1) 35 ls st μ g = (sCallV 1 4 (fun as μ K => Ct l mdX4_comeIn as μ K X) 38 0 0) (W n) ls st μ g := (hW n 35 ls st μ g).trans rfl
theorem tX4_setOffStops_38 (l : Launch) (K : aRs) (X : aXs) : tb (tbX4_setOffStops l K X) 38 = sInc 1 1 41 := (rfl)
theorem wX4_setOffStops_38 {l : Launch} {K : aRs} {X : aXs} {J : aK} {W : Nat → aK} (hW : isW (tbX4_setOffStops l K X) cuX4_setOffStops J W) (n : Nat) (ls st : List aV) (μ : aM) (g : Nat) : W (n + 1) 38 ls st μ g = J 38 ls st μ g := (hW n 38 ls st μ g).trans rfl
theorem wX4_setOffStops_41 {l : Launch} {K : aRs} {X : aXs} {J : aK} {W : Nat → aK} (hW : isW (tbX4_setOffStops l K X) cuX4_setOffStops J W) (n : Nat) (ls st : List aV) (μ : aM) (g : Nat) : W (n + 1) 41 ls st μ g = (sGoto 2) (W n) ls st μ g := (hW n 41 ls st μ g).trans rfl
theorem wX4_setOffStops_44 {l : Launch} {K : aRs} {X : aXs} {J : aK} {W : Nat → aK} (hW : isW (tbX4_setOffStops l K X) cuX4_setOffStops J W) (n : Nat) (ls st : List aV) (μ : aM) (g : Nat) : W (n + 1) 44 ls st μ g = (sRetV 0 K) (W n) ls st μ g := (hW n 44 ls st μ g).trans rfl
theorem dX4_firstReadyStop_0 : decode cX4_firstReadyStop 0 = .ok (.iconst 0, 1) := by decide +kernel
theorem dX4_firstReadyStop_1 : decode cX4_firstReadyStop 1 = .ok (.istore_n 1, 1) := by decide +kernel
theorem dX4_firstReadyStop_2 : decode cX4_firstReadyStop 2 = .ok (.iload_n 1, 1) := by decide +kernel
theorem dX4_firstReadyStop_3 : decode cX4_firstReadyStop 3 = .ok (.aload_n 0, 1) := by decide +kernel
theorem dX4_firstReadyStop_4 : decode cX4_firstReadyStop 4 = .ok (.getfield 41, 3) := by decide +kernel
theorem dX4_firstReadyStop_7 : decode cX4_firstReadyStop 7 = .ok (.if_icmp .ge 38, 3) := by decide +kernel
theorem dX4_firstReadyStop_10 : decode cX4_firstReadyStop 10 = .ok (.aload_n 0, 1) := by decide +kernel
theorem dX4_firstReadyStop_11 : decode cX4_firstReadyStop 11 = .ok (.iload_n 1, 1) := by decide +kernel
theorem dX4_firstReadyStop_12 : decode cX4_firstReadyStop 12 = .ok (.invokevirtual 221, 3) := by decide +kernel
theorem dX4_firstReadyStop_15 : decode cX4_firstReadyStop 15 = .ok (.astore_n 2, 1) := by decide +kernel
theorem dX4_firstReadyStop_16 : decode cX4_firstReadyStop 16 = .ok (.aload_n 2, 1) := by decide +kernel
theorem dX4_firstReadyStop_17 : decode cX4_firstReadyStop 17 = .ok (.ifnull 22, 3) := by decide +kernel
theorem dX4_firstReadyStop_20 : decode cX4_firstReadyStop 20 = .ok (.aload_n 2, 1) := by decide +kernel
theorem dX4_firstReadyStop_21 : decode cX4_firstReadyStop 21 = .ok (.getfield 103, 3) := by decide +kernel
theorem dX4_firstReadyStop_24 : decode cX4_firstReadyStop 24 = .ok (.bipush 119, 2) := by decide +kernel
theorem dX4_firstReadyStop_26 : decode cX4_firstReadyStop 26 = .ok (.if_icmp .ne 13, 3) := by decide +kernel
theorem dX4_firstReadyStop_29 : decode cX4_firstReadyStop 29 = .ok (.aload_n 0, 1) := by decide +kernel
theorem dX4_firstReadyStop_30 : decode cX4_firstReadyStop 30 = .ok (.aload_n 2, 1) := by decide +kernel
theorem dX4_firstReadyStop_31 : decode cX4_firstReadyStop 31 = .ok (.invokevirtual 288, 3) := by decide +kernel
theorem dX4_firstReadyStop_34 : decode cX4_firstReadyStop 34 = .ok (.ifCond .eq 5, 3) := by decide +kernel
theorem dX4_firstReadyStop_37 : decode cX4_firstReadyStop 37 = .ok (.aload_n 2, 1) := by decide +kernel
theorem dX4_firstReadyStop_38 : decode cX4_firstReadyStop 38 = .ok (.areturn, 1) := by decide +kernel
theorem dX4_firstReadyStop_39 : decode cX4_firstReadyStop 39 = .ok (.iinc 1 1, 3) := by decide +kernel
theorem dX4_firstReadyStop_42 : decode cX4_firstReadyStop 42 = .ok (.goto (-40), 3) := by decide +kernel
theorem dX4_firstReadyStop_45 : decode cX4_firstReadyStop 45 = .ok (.aconst_null, 1) := by decide +kernel
theorem dX4_firstReadyStop_46 : decode cX4_firstReadyStop 46 = .ok (.areturn, 1) := by decide +kernel
def tbX4_firstReadyStop (l : Launch) (K : aRs) (X : aXs) : aTb := [
  (0, sPush (aI 0) 1),
  (1, sSt 1 2 isI),
  (2, sLd 1 3 isI),
  (3, sLd 0 4 isR),
  (4, sGetI 4 5 7),
  (7, sIc qGe 45 10),
  (10, sLd 0 11 isR),
  (11, sLd 1 12 isI),
  (12, sCallV 1 4 (fun as μ K => Ct l mdX4_orderOf as μ K X) 15 0 0),
  (15, sSt 2 16 isR),
  (16, sLd 2 17 isR),
  (17, sNul 39 20),
  (20, sLd 2 21 isR),
  (21, sGetI 2 10 24),
  (24, sPush (aI 119) 26),
  (26, sIc qNe 39 29),
  (29, sLd 0 30 isR),
  (30, sLd 2 31 isR),
  (31, sCallV 1 4 (fun as μ K => Ct l mdX4_isReady as μ K X) 34 0 0),
  (34, sIf pEq 39 37),
  (37, sLd 2 38 isR),
  (38, sRetR 0 K),
  (39, sInc 1 1 42),
  (42, sGoto 2),
  (45, sPush (aR 0) 46),
  (46, sRetR 0 K)]
theorem snX4_firstReadyStop (l : Launch) (K : aRs) (X : aXs) (n0 : Nat) : ∀ q ∈ tbX4_firstReadyStop l K X, aSo l mdX4_firstReadyStop K X n0 q.1 q.2 :=
  tc (fun p e s m args below meth c cA D A ad0 h => ok_iconst h.1 ⟨by decide, by decide⟩ dX4_firstReadyStop_0) <|
  tc (fun p e s m args below meth c cA D A ad0 h => ok_istore_n h.1 1 rfl (by decide) dX4_firstReadyStop_1) <|
  tc (fun p e s m args below meth c cA D A ad0 h => ok_iload_n h.1 1 rfl dX4_firstReadyStop_2) <|
  tc (fun p e s m args below meth c cA D A ad0 h => ok_aload_n h.1 0 rfl dX4_firstReadyStop_3) <|
  tc (fun p e s m args below meth c cA D A ad0 h => ok_getI h.1 cxX4 (by decide) rfl fkRX4_41 (fun _ _ _ => rfl) dX4_firstReadyStop_4) <|
  tc (fun p e s m args below meth c cA D A ad0 h => ok_icmp_ge h.1 45 (by decide) dX4_firstReadyStop_7) <|
  tc (fun p e s m args below meth c cA D A ad0 h => ok_aload_n h.1 0 rfl dX4_firstReadyStop_10) <|
  tc (fun p e s m args below meth c cA D A ad0 h => ok_iload_n h.1 1 rfl dX4_firstReadyStop_11) <|
  tc (fun p e s m args below meth c cA D A ad0 h => ok_callV h.1 h.2.1 ⟨Nat.le_refl _, Nat.le_refl _⟩ mdX4_orderOf siX4_orderOf cxX4 mkRX4_221 imX4_orderOf seX4_orderOf ⟨by decide, by decide⟩ (aAx_out h.1 h.2.2.1 _) dX4_firstReadyStop_12) <|
  tc (fun p e s m args below meth c cA D A ad0 h => ok_astore_n h.1 2 rfl (by decide) dX4_firstReadyStop_15) <|
  tc (fun p e s m args below meth c cA D A ad0 h => ok_aload_n h.1 2 rfl dX4_firstReadyStop_16) <|
  tc (fun p e s m args below meth c cA D A ad0 h => ok_ifnull h.1 39 (by decide) dX4_firstReadyStop_17) <|
  tc (fun p e s m args below meth c cA D A ad0 h => ok_aload_n h.1 2 rfl dX4_firstReadyStop_20) <|
  tc (fun p e s m args below meth c cA D A ad0 h => ok_getI h.1 cxX2 (by decide) rfl fkRX4_103 (fun _ _ _ => rfl) dX4_firstReadyStop_21) <|
  tc (fun p e s m args below meth c cA D A ad0 h => ok_bipush h.1 ⟨by decide, by decide⟩ (by decide) dX4_firstReadyStop_24) <|
  tc (fun p e s m args below meth c cA D A ad0 h => ok_icmp_ne h.1 39 (by decide) dX4_firstReadyStop_26) <|
  tc (fun p e s m args below meth c cA D A ad0 h => ok_aload_n h.1 0 rfl dX4_firstReadyStop_29) <|
  tc (fun p e s m args below meth c cA D A ad0 h => ok_aload_n h.1 2 rfl dX4_firstReadyStop_30) <|
  tc (fun p e s m args below meth c cA D A ad0 h => ok_callV h.1 h.2.1 ⟨Nat.le_refl _, Nat.le_refl _⟩ mdX4_isReady siX4_isReady cxX4 mkRX4_288 imX4_isReady seX4_isReady ⟨by decide, by decide⟩ (aAx_out h.1 h.2.2.1 _) dX4_firstReadyStop_31) <|
  tc (fun p e s m args below meth c cA D A ad0 h => ok_if_eq h.1 39 (by decide) dX4_firstReadyStop_34) <|
  tc (fun p e s m args below meth c cA D A ad0 h => ok_aload_n h.1 2 rfl dX4_firstReadyStop_37) <|
  tc (fun p e s m args below meth c cA D A ad0 h => ok_areturn h.1 h.2.2.2.1 (Or.inl ⟨_, rfl⟩) dX4_firstReadyStop_38) <|
  tc (fun p e s m args below meth c cA D A ad0 h => ok_iinc h.1 (by decide) dX4_firstReadyStop_39) <|
  tc (fun p e s m args below meth c cA D A ad0 h => ok_goto h.1 2 (by decide) dX4_firstReadyStop_42) <|
  tc (fun p e s m args below meth c cA D A ad0 h => ok_null h.1 dX4_firstReadyStop_45) <|
  tc (fun p e s m args below meth c cA D A ad0 h => ok_areturn h.1 h.2.2.2.1 (Or.inl ⟨_, rfl⟩) dX4_firstReadyStop_46) <|
  tn
abbrev cuX4_firstReadyStop : List Nat := [2, 15, 34]
theorem tX4_firstReadyStop_0 (l : Launch) (K : aRs) (X : aXs) : tb (tbX4_firstReadyStop l K X) 0 = sPush (aI 0) 1 := (rfl)
theorem wX4_firstReadyStop_0 {l : Launch} {K : aRs} {X : aXs} {J : aK} {W : Nat → aK} (hW : isW (tbX4_firstReadyStop l K X) cuX4_firstReadyStop J W) (n : Nat) (ls st : List aV) (μ : aM) (g : Nat) : W (n + 1) 0 ls st μ g = (sPush (aI 0) 1) (W n) ls st μ g := (hW n 0 ls st μ g).trans rfl
theorem wX4_firstReadyStop_1 {l : Launch} {K : aRs} {X : aXs} {J : aK} {W : Nat → aK} (hW : isW (tbX4_firstReadyStop l K X) cuX4_firstReadyStop J W) (n : Nat) (ls st : List aV) (μ : aM) (g : Nat) : W (n + 1) 1 ls st μ g = (sSt 1 2 isI) (W n) ls st μ g := (hW n 1 ls st μ g).trans rfl
theorem tX4_firstReadyStop_2 (l : Launch) (K : aRs) (X : aXs) : tb (tbX4_firstReadyStop l K X) 2 = sLd 1 3 isI := (rfl)
theorem wX4_firstReadyStop_2 {l : Launch} {K : aRs} {X : aXs} {J : aK} {W : Nat → aK} (hW : isW (tbX4_firstReadyStop l K X) cuX4_firstReadyStop J W) (n : Nat) (ls st : List aV) (μ : aM) (g : Nat) : W (n + 1) 2 ls st μ g = J 2 ls st μ g := (hW n 2 ls st μ g).trans rfl
theorem wX4_firstReadyStop_3 {l : Launch} {K : aRs} {X : aXs} {J : aK} {W : Nat → aK} (hW : isW (tbX4_firstReadyStop l K X) cuX4_firstReadyStop J W) (n : Nat) (ls st : List aV) (μ : aM) (g : Nat) : W (n + 1) 3 ls st μ g = (sLd 0 4 isR) (W n) ls st μ g := (hW n 3 ls st μ g).trans rfl
theorem wX4_firstReadyStop_4 {l : Launch} {K : aRs} {X : aXs} {J : aK} {W : Nat → aK} (hW : isW (tbX4_firstReadyStop l K X) cuX4_firstReadyStop J W) (n : Nat) (ls st : List aV) (μ : aM) (g : Nat) : W (n + 1) 4 ls st μ g = (sGetI 4 5 7) (W n) ls st μ g := (hW n 4 ls st μ g).trans rfl
theorem wX4_firstReadyStop_7 {l : Launch} {K : aRs} {X : aXs} {J : aK} {W : Nat → aK} (hW : isW (tbX4_firstReadyStop l K X) cuX4_firstReadyStop J W) (n : Nat) (ls st : List aV) (μ : aM) (g : Nat) : W (n + 1) 7 ls st μ g = (sIc qGe 45 10) (W n) ls st μ g := (hW n 7 ls st μ g).trans rfl
theorem wX4_firstReadyStop_10 {l : Launch} {K : aRs} {X : aXs} {J : aK} {W : Nat → aK} (hW : isW (tbX4_firstReadyStop l K X) cuX4_firstReadyStop J W) (n : Nat) (ls st : List aV) (μ : aM) (g : Nat) : W (n + 1) 10 ls st μ g = (sLd 0 11 isR) (W n) ls st μ g := (hW n 10 ls st μ g).trans rfl
theorem wX4_firstReadyStop_11 {l : Launch} {K : aRs} {X : aXs} {J : aK} {W : Nat → aK} (hW : isW (tbX4_firstReadyStop l K X) cuX4_firstReadyStop J W) (n : Nat) (ls st : List aV) (μ : aM) (g : Nat) : W (n + 1) 11 ls st μ g = (sLd 1 12 isI) (W n) ls st μ g := (hW n 11 ls st μ g).trans rfl
theorem wX4_firstReadyStop_12 {l : Launch} {K : aRs} {X : aXs} {J : aK} {W : Nat → aK} (hW : isW (tbX4_firstReadyStop l K X) cuX4_firstReadyStop J W) (n : Nat) (ls st : List aV) (μ : aM) (g : Nat) : W (n + 1) 12 ls st μ g = (sCallV 1 4 (fun as μ K => Ct l mdX4_orderOf as μ K X) 15 0 0) (W n) ls st μ g := (hW n 12 ls st μ g).trans rfl
theorem tX4_firstReadyStop_15 (l : Launch) (K : aRs) (X : aXs) : tb (tbX4_firstReadyStop l K X) 15 = sSt 2 16 isR := (rfl)
theorem wX4_firstReadyStop_15 {l : Launch} {K : aRs} {X : aXs} {J : aK} {W : Nat → aK} (hW : isW (tbX4_firstReadyStop l K X) cuX4_firstReadyStop J W) (n : Nat) (ls st : List aV) (μ : aM) (g : Nat) : W (n + 1) 15 ls st μ g = J 15 ls st μ g := (hW n 15 ls st μ g).trans rfl
theorem wX4_firstReadyStop_16 {l : Launch} {K : aRs} {X : aXs} {J : aK} {W : Nat → aK} (hW : isW (tbX4_firstReadyStop l K X) cuX4_firstReadyStop J W) (n : Nat) (ls st : List aV) (μ : aM) (g : Nat) : W (n + 1) 16 ls st μ g = (sLd 2 17 isR) (W n) ls st μ g := (hW n 16 ls st μ g).trans rfl
theorem wX4_firstReadyStop_17 {l : Launch} {K : aRs} {X : aXs} {J : aK} {W : Nat → aK} (hW : isW (tbX4_firstReadyStop l K X) cuX4_firstReadyStop J W) (n : Nat) (ls st : List aV) (μ : aM) (g : Nat) : W (n + 1) 17 ls st μ g = (sNul 39 20) (W n) ls st μ g := (hW n 17 ls st μ g).trans rfl
theorem wX4_firstReadyStop_20 {l : Launch} {K : aRs} {X : aXs} {J : aK} {W : Nat → aK} (hW : isW (tbX4_firstReadyStop l K X) cuX4_firstReadyStop J W) (n : Nat) (ls st : List aV) (μ : aM) (g : Nat) : W (n + 1) 20 ls st μ g = (sLd 2 21 isR) (W n) ls st μ g := (hW n 20 ls st μ g).trans rfl
theorem wX4_firstReadyStop_21 {l : Launch} {K : aRs} {X : aXs} {J : aK} {W : Nat → aK} (hW : isW (tbX4_firstReadyStop l K X) cuX4_firstReadyStop J W) (n : Nat) (ls st : List aV) (μ : aM) (g : Nat) : W (n + 1) 21 ls st μ g = (sGetI 2 10 24) (W n) ls st μ g := (hW n 21 ls st μ g).trans rfl
theorem wX4_firstReadyStop_24 {l : Launch} {K : aRs} {X : aXs} {J : aK} {W : Nat → aK} (hW : isW (tbX4_firstReadyStop l K X) cuX4_firstReadyStop J W) (n : Nat) (ls st : List aV) (μ : aM) (g : Nat) : W (n + 1) 24 ls st μ g = (sPush (aI 119) 26) (W n) ls st μ g := (hW n 24 ls st μ g).trans rfl
theorem wX4_firstReadyStop_26 {l : Launch} {K : aRs} {X : aXs} {J : aK} {W : Nat → aK} (hW : isW (tbX4_firstReadyStop l K X) cuX4_firstReadyStop J W) (n : Nat) (ls st : List aV) (μ : aM) (g : Nat) : W (n + 1) 26 ls st μ g = (sIc qNe 39 29) (W n) ls st μ g := (hW n 26 ls st μ g).trans rfl
theorem wX4_firstReadyStop_29 {l : Launch} {K : aRs} {X : aXs} {J : aK} {W : Nat → aK} (hW : isW (tbX4_firstReadyStop l K X) cuX4_firstReadyStop J W) (n : Nat) (ls st : List aV) (μ : aM) (g : Nat) : W (n + 1) 29 ls st μ g = (sLd 0 30 isR) (W n) ls st μ g := (hW n 29 ls st μ g).trans rfl
theorem wX4_firstReadyStop_30 {l : Launch} {K : aRs} {X : aXs} {J : aK} {W : Nat → aK} (hW : isW (tbX4_firstReadyStop l K X) cuX4_firstReadyStop J W) (n : Nat) (ls st : List aV) (μ : aM) (g : Nat) : W (n + 1) 30 ls st μ g = (sLd 2 31 isR) (W n) ls st μ g := (hW n 30 ls st μ g).trans rfl
theorem wX4_firstReadyStop_31 {l : Launch} {K : aRs} {X : aXs} {J : aK} {W : Nat → aK} (hW : isW (tbX4_firstReadyStop l K X) cuX4_firstReadyStop J W) (n : Nat) (ls st : List aV) (μ : aM) (g : Nat) : W (n + 1) 31 ls st μ g = (sCallV 1 4 (fun as μ K => Ct l mdX4_isReady as μ K X) 34 0 0) (W n) ls st μ g := (hW n 31 ls st μ g).trans rfl
theorem tX4_firstReadyStop_34 (l : Launch) (K : aRs) (X : aXs) : tb (tbX4_firstReadyStop l K X) 34 = sIf pEq 39 37 := (rfl)
theorem wX4_firstReadyStop_34 {l : Launch} {K : aRs} {X : aXs} {J : aK} {W : Nat → aK} (hW : isW (tbX4_firstReadyStop l K X) cuX4_firstReadyStop J W) (n : Nat) (ls st : List aV) (μ : aM) (g : Nat) : W (n + 1) 34 ls st μ g = J 34 ls st μ g := (hW n 34 ls st μ g).trans rfl
theorem wX4_firstReadyStop_37 {l : Launch} {K : aRs} {X : aXs} {J : aK} {W : Nat → aK} (hW : isW (tbX4_firstReadyStop l K X) cuX4_firstReadyStop J W) (n : Nat) (ls st : List aV) (μ : aM) (g : Nat) : W (n + 1) 37 ls st μ g = (sLd 2 38 isR) (W n) ls st μ g := (hW n 37 ls st μ g).trans rfl
theorem wX4_firstReadyStop_38 {l : Launch} {K : aRs} {X : aXs} {J : aK} {W : Nat → aK} (hW : isW (tbX4_firstReadyStop l K X) cuX4_firstReadyStop J W) (n : Nat) (ls st : List aV) (μ : aM) (g : Nat) : W (n + 1) 38 ls st μ g = (sRetR 0 K) (W n) ls st μ g := (hW n 38 ls st μ g).trans rfl
theorem wX4_firstReadyStop_39 {l : Launch} {K : aRs} {X : aXs} {J : aK} {W : Nat → aK} (hW : isW (tbX4_firstReadyStop l K X) cuX4_firstReadyStop J W) (n : Nat) (ls st : List aV) (μ : aM) (g : Nat) : W (n + 1) 39 ls st μ g = (sInc 1 1 42) (W n) ls st μ g := (hW n 39 ls st μ g).trans rfl
theorem wX4_firstReadyStop_42 {l : Launch} {K : aRs} {X : aXs} {J : aK} {W : Nat → aK} (hW : isW (tbX4_firstReadyStop l K X) cuX4_firstReadyStop J W) (n : Nat) (ls st : List aV) (μ : aM) (g : Nat) : W (n + 1) 42 ls st μ g = (sGoto 2) (W n) ls st μ g := (hW n 42 ls st μ g).trans rfl
theorem wX4_firstReadyStop_45 {l : Launch} {K : aRs} {X : aXs} {J : aK} {W : Nat → aK} (hW : isW (tbX4_firstReadyStop l K X) cuX4_firstReadyStop J W) (n : Nat) (ls st : List aV) (μ : aM) (g : Nat) : W (n + 1) 45 ls st μ g = (sPush (aR 0) 46) (W n) ls st μ g := (hW n 45 ls st μ g).trans rfl
theorem wX4_firstReadyStop_46 {l : Launch} {K : aRs} {X : aXs} {J : aK} {W : Nat → aK} (hW : isW (tbX4_firstReadyStop l K X) cuX4_firstReadyStop J W) (n : Nat) (ls st : List aV) (μ : aM) (g : Nat) : W (n + 1) 46 ls st μ g = (sRetR 0 K) (W n) ls st μ g := (hW n 46 ls st μ g).trans rfl
theorem dX4_isReady_0 : decode cX4_isReady 0 = .ok (.aload_n 0, 1) := by decide +kernel
theorem dX4_isReady_1 : decode cX4_isReady 1 = .ok (.getfield 30, 3) := by decide +kernel
theorem dX4_isReady_4 : decode cX4_isReady 4 = .ok (.getfield 267, 3) := by decide +kernel
theorem dX4_isReady_7 : decode cX4_isReady 7 = .ok (.istore_n 2, 1) := by decide +kernel
theorem dX4_isReady_8 : decode cX4_isReady 8 = .ok (.iload_n 2, 1) := by decide +kernel
theorem dX4_isReady_9 : decode cX4_isReady 9 = .ok (.ifCond .ne 5, 3) := by decide +kernel
theorem dX4_isReady_12 : decode cX4_isReady 12 = .ok (.iconst 0, 1) := by decide +kernel
theorem dX4_isReady_13 : decode cX4_isReady 13 = .ok (.ireturn, 1) := by decide +kernel
theorem dX4_isReady_14 : decode cX4_isReady 14 = .ok (.aload_n 1, 1) := by decide +kernel
theorem dX4_isReady_15 : decode cX4_isReady 15 = .ok (.getfield 230, 3) := by decide +kernel
theorem dX4_isReady_18 : decode cX4_isReady 18 = .ok (.ifCond .eq 19, 3) := by decide +kernel
theorem dX4_isReady_21 : decode cX4_isReady 21 = .ok (.iload_n 2, 1) := by decide +kernel
theorem dX4_isReady_22 : decode cX4_isReady 22 = .ok (.aload_n 1, 1) := by decide +kernel
theorem dX4_isReady_23 : decode cX4_isReady 23 = .ok (.getfield 292, 3) := by decide +kernel
theorem dX4_isReady_26 : decode cX4_isReady 26 = .ok (.if_icmp .lt 7, 3) := by decide +kernel
theorem dX4_isReady_29 : decode cX4_isReady 29 = .ok (.iconst 1, 1) := by decide +kernel
theorem dX4_isReady_30 : decode cX4_isReady 30 = .ok (.goto 20, 3) := by decide +kernel
theorem dX4_isReady_33 : decode cX4_isReady 33 = .ok (.iconst 0, 1) := by decide +kernel
theorem dX4_isReady_34 : decode cX4_isReady 34 = .ok (.goto 16, 3) := by decide +kernel
theorem dX4_isReady_37 : decode cX4_isReady 37 = .ok (.iload_n 2, 1) := by decide +kernel
theorem dX4_isReady_38 : decode cX4_isReady 38 = .ok (.aload_n 1, 1) := by decide +kernel
theorem dX4_isReady_39 : decode cX4_isReady 39 = .ok (.getfield 292, 3) := by decide +kernel
theorem dX4_isReady_42 : decode cX4_isReady 42 = .ok (.if_icmp .gt 7, 3) := by decide +kernel
theorem dX4_isReady_45 : decode cX4_isReady 45 = .ok (.iconst 1, 1) := by decide +kernel
theorem dX4_isReady_46 : decode cX4_isReady 46 = .ok (.goto 4, 3) := by decide +kernel
theorem dX4_isReady_49 : decode cX4_isReady 49 = .ok (.iconst 0, 1) := by decide +kernel
theorem dX4_isReady_50 : decode cX4_isReady 50 = .ok (.ireturn, 1) := by decide +kernel
def tbX4_isReady (l : Launch) (K : aRs) (X : aXs) : aTb := [
  (0, sLd 0 1 isR),
  (1, sGetR 4 3 4),
  (4, sGetI 3 5 7),
  (7, sSt 2 8 isI),
  (8, sLd 2 9 isI),
  (9, sIf pNe 14 12),
  (12, sPush (aI 0) 13),
  (13, sRetI .boolean 0 K),
  (14, sLd 1 15 isR),
  (15, sGetI 2 2 18),
  (18, sIf pEq 37 21),
  (21, sLd 2 22 isI),
  (22, sLd 1 23 isR),
  (23, sGetI 2 3 26),
  (26, sIc qLt 33 29),
  (29, sPush (aI 1) 30),
  (30, sGoto 50),
  (33, sPush (aI 0) 34),
  (34, sGoto 50),
  (37, sLd 2 38 isI),
  (38, sLd 1 39 isR),
  (39, sGetI 2 3 42),
  (42, sIc qGt 49 45),
  (45, sPush (aI 1) 46),
  (46, sGoto 50),
  (49, sPush (aI 0) 50),
  (50, sRetI .boolean 0 K)]
theorem snX4_isReady (l : Launch) (K : aRs) (X : aXs) (n0 : Nat) : ∀ q ∈ tbX4_isReady l K X, aSo l mdX4_isReady K X n0 q.1 q.2 :=
  tc (fun p e s m args below meth c cA D A ad0 h => ok_aload_n h.1 0 rfl dX4_isReady_0) <|
  tc (fun p e s m args below meth c cA D A ad0 h => ok_getR h.1 cxX4 (by decide) rfl fkRX4_30 (fun _ _ _ => rfl) dX4_isReady_1) <|
  tc (fun p e s m args below meth c cA D A ad0 h => ok_getI h.1 cxX3 (by decide) rfl fkRX4_267 (fun _ _ _ => rfl) dX4_isReady_4) <|
  tc (fun p e s m args below meth c cA D A ad0 h => ok_istore_n h.1 2 rfl (by decide) dX4_isReady_7) <|
  tc (fun p e s m args below meth c cA D A ad0 h => ok_iload_n h.1 2 rfl dX4_isReady_8) <|
  tc (fun p e s m args below meth c cA D A ad0 h => ok_if_ne h.1 14 (by decide) dX4_isReady_9) <|
  tc (fun p e s m args below meth c cA D A ad0 h => ok_iconst h.1 ⟨by decide, by decide⟩ dX4_isReady_12) <|
  tc (fun p e s m args below meth c cA D A ad0 h => ok_ireturn h.1 h.2.2.2.1 (Or.inr (Or.inl rfl)) dX4_isReady_13) <|
  tc (fun p e s m args below meth c cA D A ad0 h => ok_aload_n h.1 1 rfl dX4_isReady_14) <|
  tc (fun p e s m args below meth c cA D A ad0 h => ok_getI h.1 cxX2 (by decide) rfl fkRX4_230 (fun _ _ _ => rfl) dX4_isReady_15) <|
  tc (fun p e s m args below meth c cA D A ad0 h => ok_if_eq h.1 37 (by decide) dX4_isReady_18) <|
  tc (fun p e s m args below meth c cA D A ad0 h => ok_iload_n h.1 2 rfl dX4_isReady_21) <|
  tc (fun p e s m args below meth c cA D A ad0 h => ok_aload_n h.1 1 rfl dX4_isReady_22) <|
  tc (fun p e s m args below meth c cA D A ad0 h => ok_getI h.1 cxX2 (by decide) rfl fkRX4_292 (fun _ _ _ => rfl) dX4_isReady_23) <|
  tc (fun p e s m args below meth c cA D A ad0 h => ok_icmp_lt h.1 33 (by decide) dX4_isReady_26) <|
  tc (fun p e s m args below meth c cA D A ad0 h => ok_iconst h.1 ⟨by decide, by decide⟩ dX4_isReady_29) <|
  tc (fun p e s m args below meth c cA D A ad0 h => ok_goto h.1 50 (by decide) dX4_isReady_30) <|
  tc (fun p e s m args below meth c cA D A ad0 h => ok_iconst h.1 ⟨by decide, by decide⟩ dX4_isReady_33) <|
  tc (fun p e s m args below meth c cA D A ad0 h => ok_goto h.1 50 (by decide) dX4_isReady_34) <|
  tc (fun p e s m args below meth c cA D A ad0 h => ok_iload_n h.1 2 rfl dX4_isReady_37) <|
  tc (fun p e s m args below meth c cA D A ad0 h => ok_aload_n h.1 1 rfl dX4_isReady_38) <|
  tc (fun p e s m args below meth c cA D A ad0 h => ok_getI h.1 cxX2 (by decide) rfl fkRX4_292 (fun _ _ _ => rfl) dX4_isReady_39) <|
  tc (fun p e s m args below meth c cA D A ad0 h => ok_icmp_gt h.1 49 (by decide) dX4_isReady_42) <|
  tc (fun p e s m args below meth c cA D A ad0 h => ok_iconst h.1 ⟨by decide, by decide⟩ dX4_isReady_45) <|
  tc (fun p e s m args below meth c cA D A ad0 h => ok_goto h.1 50 (by decide) dX4_isReady_46) <|
  tc (fun p e s m args below meth c cA D A ad0 h => ok_iconst h.1 ⟨by decide, by decide⟩ dX4_isReady_49) <|
  tc (fun p e s m args below meth c cA D A ad0 h => ok_ireturn h.1 h.2.2.2.1 (Or.inr (Or.inl rfl)) dX4_isReady_50) <|
  tn
abbrev cuX4_isReady : List Nat := []
theorem tX4_isReady_0 (l : Launch) (K : aRs) (X : aXs) : tb (tbX4_isReady l K X) 0 = sLd 0 1 isR := (rfl)
theorem wX4_isReady_0 {l : Launch} {K : aRs} {X : aXs} {J : aK} {W : Nat → aK} (hW : isW (tbX4_isReady l K X) cuX4_isReady J W) (n : Nat) (ls st : List aV) (μ : aM) (g : Nat) : W (n + 1) 0 ls st μ g = (sLd 0 1 isR) (W n) ls st μ g := (hW n 0 ls st μ g).trans rfl
theorem wX4_isReady_1 {l : Launch} {K : aRs} {X : aXs} {J : aK} {W : Nat → aK} (hW : isW (tbX4_isReady l K X) cuX4_isReady J W) (n : Nat) (ls st : List aV) (μ : aM) (g : Nat) : W (n + 1) 1 ls st μ g = (sGetR 4 3 4) (W n) ls st μ g := (hW n 1 ls st μ g).trans rfl
theorem wX4_isReady_4 {l : Launch} {K : aRs} {X : aXs} {J : aK} {W : Nat → aK} (hW : isW (tbX4_isReady l K X) cuX4_isReady J W) (n : Nat) (ls st : List aV) (μ : aM) (g : Nat) : W (n + 1) 4 ls st μ g = (sGetI 3 5 7) (W n) ls st μ g := (hW n 4 ls st μ g).trans rfl
theorem wX4_isReady_7 {l : Launch} {K : aRs} {X : aXs} {J : aK} {W : Nat → aK} (hW : isW (tbX4_isReady l K X) cuX4_isReady J W) (n : Nat) (ls st : List aV) (μ : aM) (g : Nat) : W (n + 1) 7 ls st μ g = (sSt 2 8 isI) (W n) ls st μ g := (hW n 7 ls st μ g).trans rfl
theorem wX4_isReady_8 {l : Launch} {K : aRs} {X : aXs} {J : aK} {W : Nat → aK} (hW : isW (tbX4_isReady l K X) cuX4_isReady J W) (n : Nat) (ls st : List aV) (μ : aM) (g : Nat) : W (n + 1) 8 ls st μ g = (sLd 2 9 isI) (W n) ls st μ g := (hW n 8 ls st μ g).trans rfl
theorem wX4_isReady_9 {l : Launch} {K : aRs} {X : aXs} {J : aK} {W : Nat → aK} (hW : isW (tbX4_isReady l K X) cuX4_isReady J W) (n : Nat) (ls st : List aV) (μ : aM) (g : Nat) : W (n + 1) 9 ls st μ g = (sIf pNe 14 12) (W n) ls st μ g := (hW n 9 ls st μ g).trans rfl
theorem wX4_isReady_12 {l : Launch} {K : aRs} {X : aXs} {J : aK} {W : Nat → aK} (hW : isW (tbX4_isReady l K X) cuX4_isReady J W) (n : Nat) (ls st : List aV) (μ : aM) (g : Nat) : W (n + 1) 12 ls st μ g = (sPush (aI 0) 13) (W n) ls st μ g := (hW n 12 ls st μ g).trans rfl
theorem wX4_isReady_13 {l : Launch} {K : aRs} {X : aXs} {J : aK} {W : Nat → aK} (hW : isW (tbX4_isReady l K X) cuX4_isReady J W) (n : Nat) (ls st : List aV) (μ : aM) (g : Nat) : W (n + 1) 13 ls st μ g = (sRetI .boolean 0 K) (W n) ls st μ g := (hW n 13 ls st μ g).trans rfl
theorem wX4_isReady_14 {l : Launch} {K : aRs} {X : aXs} {J : aK} {W : Nat → aK} (hW : isW (tbX4_isReady l K X) cuX4_isReady J W) (n : Nat) (ls st : List aV) (μ : aM) (g : Nat) : W (n + 1) 14 ls st μ g = (sLd 1 15 isR) (W n) ls st μ g := (hW n 14 ls st μ g).trans rfl
theorem wX4_isReady_15 {l : Launch} {K : aRs} {X : aXs} {J : aK} {W : Nat → aK} (hW : isW (tbX4_isReady l K X) cuX4_isReady J W) (n : Nat) (ls st : List aV) (μ : aM) (g : Nat) : W (n + 1) 15 ls st μ g = (sGetI 2 2 18) (W n) ls st μ g := (hW n 15 ls st μ g).trans rfl
theorem wX4_isReady_18 {l : Launch} {K : aRs} {X : aXs} {J : aK} {W : Nat → aK} (hW : isW (tbX4_isReady l K X) cuX4_isReady J W) (n : Nat) (ls st : List aV) (μ : aM) (g : Nat) : W (n + 1) 18 ls st μ g = (sIf pEq 37 21) (W n) ls st μ g := (hW n 18 ls st μ g).trans rfl
theorem wX4_isReady_21 {l : Launch} {K : aRs} {X : aXs} {J : aK} {W : Nat → aK} (hW : isW (tbX4_isReady l K X) cuX4_isReady J W) (n : Nat) (ls st : List aV) (μ : aM) (g : Nat) : W (n + 1) 21 ls st μ g = (sLd 2 22 isI) (W n) ls st μ g := (hW n 21 ls st μ g).trans rfl
theorem wX4_isReady_22 {l : Launch} {K : aRs} {X : aXs} {J : aK} {W : Nat → aK} (hW : isW (tbX4_isReady l K X) cuX4_isReady J W) (n : Nat) (ls st : List aV) (μ : aM) (g : Nat) : W (n + 1) 22 ls st μ g = (sLd 1 23 isR) (W n) ls st μ g := (hW n 22 ls st μ g).trans rfl
theorem wX4_isReady_23 {l : Launch} {K : aRs} {X : aXs} {J : aK} {W : Nat → aK} (hW : isW (tbX4_isReady l K X) cuX4_isReady J W) (n : Nat) (ls st : List aV) (μ : aM) (g : Nat) : W (n + 1) 23 ls st μ g = (sGetI 2 3 26) (W n) ls st μ g := (hW n 23 ls st μ g).trans rfl
theorem wX4_isReady_26 {l : Launch} {K : aRs} {X : aXs} {J : aK} {W : Nat → aK} (hW : isW (tbX4_isReady l K X) cuX4_isReady J W) (n : Nat) (ls st : List aV) (μ : aM) (g : Nat) : W (n + 1) 26 ls st μ g = (sIc qLt 33 29) (W n) ls st μ g := (hW n 26 ls st μ g).trans rfl
theorem wX4_isReady_29 {l : Launch} {K : aRs} {X : aXs} {J : aK} {W : Nat → aK} (hW : isW (tbX4_isReady l K X) cuX4_isReady J W) (n : Nat) (ls st : List aV) (μ : aM) (g : Nat) : W (n + 1) 29 ls st μ g = (sPush (aI 1) 30) (W n) ls st μ g := (hW n 29 ls st μ g).trans rfl
theorem wX4_isReady_30 {l : Launch} {K : aRs} {X : aXs} {J : aK} {W : Nat → aK} (hW : isW (tbX4_isReady l K X) cuX4_isReady J W) (n : Nat) (ls st : List aV) (μ : aM) (g : Nat) : W (n + 1) 30 ls st μ g = (sGoto 50) (W n) ls st μ g := (hW n 30 ls st μ g).trans rfl
theorem wX4_isReady_33 {l : Launch} {K : aRs} {X : aXs} {J : aK} {W : Nat → aK} (hW : isW (tbX4_isReady l K X) cuX4_isReady J W) (n : Nat) (ls st : List aV) (μ : aM) (g : Nat) : W (n + 1) 33 ls st μ g = (sPush (aI 0) 34) (W n) ls st μ g := (hW n 33 ls st μ g).trans rfl
theorem wX4_isReady_34 {l : Launch} {K : aRs} {X : aXs} {J : aK} {W : Nat → aK} (hW : isW (tbX4_isReady l K X) cuX4_isReady J W) (n : Nat) (ls st : List aV) (μ : aM) (g : Nat) : W (n + 1) 34 ls st μ g = (sGoto 50) (W n) ls st μ g := (hW n 34 ls st μ g).trans rfl
theorem wX4_isReady_37 {l : Launch} {K : aRs} {X : aXs} {J : aK} {W : Nat → aK} (hW : isW (tbX4_isReady l K X) cuX4_isReady J W) (n : Nat) (ls st : List aV) (μ : aM) (g : Nat) : W (n + 1) 37 ls st μ g = (sLd 2 38 isI) (W n) ls st μ g := (hW n 37 ls st μ g).trans rfl
theorem wX4_isReady_38 {l : Launch} {K : aRs} {X : aXs} {J : aK} {W : Nat → aK} (hW : isW (tbX4_isReady l K X) cuX4_isReady J W) (n : Nat) (ls st : List aV) (μ : aM) (g : Nat) : W (n + 1) 38 ls st μ g = (sLd 1 39 isR) (W n) ls st μ g := (hW n 38 ls st μ g).trans rfl
theorem wX4_isReady_39 {l : Launch} {K : aRs} {X : aXs} {J : aK} {W : Nat → aK} (hW : isW (tbX4_isReady l K X) cuX4_isReady J W) (n : Nat) (ls st : List aV) (μ : aM) (g : Nat) : W (n + 1) 39 ls st μ g = (sGetI 2 3 42) (W n) ls st μ g := (hW n 39 ls st μ g).trans rfl
theorem wX4_isReady_42 {l : Launch} {K : aRs} {X : aXs} {J : aK} {W : Nat → aK} (hW : isW (tbX4_isReady l K X) cuX4_isReady J W) (n : Nat) (ls st : List aV) (μ : aM) (g : Nat) : W (n + 1) 42 ls st μ g = (sIc qGt 49 45) (W n) ls st μ g := (hW n 42 ls st μ g).trans rfl
theorem wX4_isReady_45 {l : Launch} {K : aRs} {X : aXs} {J : aK} {W : Nat → aK} (hW : isW (tbX4_isReady l K X) cuX4_isReady J W) (n : Nat) (ls st : List aV) (μ : aM) (g : Nat) : W (n + 1) 45 ls st μ g = (sPush (aI 1) 46) (W n) ls st μ g := (hW n 45 ls st μ g).trans rfl
theorem wX4_isReady_46 {l : Launch} {K : aRs} {X : aXs} {J : aK} {W : Nat → aK} (hW : isW (tbX4_isReady l K X) cuX4_isReady J W) (n : Nat) (ls st : List aV) (μ : aM) (g : Nat) : W (n + 1) 46 ls st μ g = (sGoto 50) (W n) ls st μ g := (hW n 46 ls st μ g).trans rfl
theorem wX4_isReady_49 {l : Launch} {K : aRs} {X : aXs} {J : aK} {W : Nat → aK} (hW : isW (tbX4_isReady l K X) cuX4_isReady J W) (n : Nat) (ls st : List aV) (μ : aM) (g : Nat) : W (n + 1) 49 ls st μ g = (sPush (aI 0) 50) (W n) ls st μ g := (hW n 49 ls st μ g).trans rfl
theorem wX4_isReady_50 {l : Launch} {K : aRs} {X : aXs} {J : aK} {W : Nat → aK} (hW : isW (tbX4_isReady l K X) cuX4_isReady J W) (n : Nat) (ls st : List aV) (μ : aM) (g : Nat) : W (n + 1) 50 ls st μ g = (sRetI .boolean 0 K) (W n) ls st μ g := (hW n 50 ls st μ g).trans rfl
theorem dX4_volumeFor_0 : decode cX4_volumeFor 0 = .ok (.aload_n 0, 1) := by decide +kernel
theorem dX4_volumeFor_1 : decode cX4_volumeFor 1 = .ok (.getfield 20, 3) := by decide +kernel
theorem dX4_volumeFor_4 : decode cX4_volumeFor 4 = .ok (.iload_n 1, 1) := by decide +kernel
theorem dX4_volumeFor_5 : decode cX4_volumeFor 5 = .ok (.invokevirtual 295, 3) := by decide +kernel
theorem dX4_volumeFor_8 : decode cX4_volumeFor 8 = .ok (.aload_n 0, 1) := by decide +kernel
theorem dX4_volumeFor_9 : decode cX4_volumeFor 9 = .ok (.getfield 24, 3) := by decide +kernel
theorem dX4_volumeFor_12 : decode cX4_volumeFor 12 = .ok (.iload_n 1, 1) := by decide +kernel
theorem dX4_volumeFor_13 : decode cX4_volumeFor 13 = .ok (.invokevirtual 295, 3) := by decide +kernel
theorem dX4_volumeFor_16 : decode cX4_volumeFor 16 = .ok (.invokestatic 119, 3) := by decide +kernel
theorem dX4_volumeFor_19 : decode cX4_volumeFor 19 = .ok (.ireturn, 1) := by decide +kernel
def tbX4_volumeFor (l : Launch) (K : aRs) (X : aXs) : aTb := [
  (0, sLd 0 1 isR),
  (1, sGetR 4 1 4),
  (4, sLd 1 5 isI),
  (5, sCallV 1 1 (fun as μ K => Ct l mdX1_leftAtLeast as μ K X) 8 0 0),
  (8, sLd 0 9 isR),
  (9, sGetR 4 2 12),
  (12, sLd 1 13 isI),
  (13, sCallV 1 1 (fun as μ K => Ct l mdX1_leftAtLeast as μ K X) 16 0 0),
  (16, sMath (sMin 19) 0),
  (19, sRetI .int 0 K)]
theorem snX4_volumeFor (l : Launch) (K : aRs) (X : aXs) (n0 : Nat) : ∀ q ∈ tbX4_volumeFor l K X, aSo l mdX4_volumeFor K X n0 q.1 q.2 :=
  tc (fun p e s m args below meth c cA D A ad0 h => ok_aload_n h.1 0 rfl dX4_volumeFor_0) <|
  tc (fun p e s m args below meth c cA D A ad0 h => ok_getR h.1 cxX4 (by decide) rfl fkRX4_20 (fun _ _ _ => rfl) dX4_volumeFor_1) <|
  tc (fun p e s m args below meth c cA D A ad0 h => ok_iload_n h.1 1 rfl dX4_volumeFor_4) <|
  tc (fun p e s m args below meth c cA D A ad0 h => ok_callV h.1 h.2.1 ⟨Nat.le_refl _, Nat.le_refl _⟩ mdX1_leftAtLeast siX1_leftAtLeast cxX1 mkRX4_295 imX1_leftAtLeast seX1_leftAtLeast ⟨by decide, by decide⟩ (aAx_out h.1 h.2.2.1 _) dX4_volumeFor_5) <|
  tc (fun p e s m args below meth c cA D A ad0 h => ok_aload_n h.1 0 rfl dX4_volumeFor_8) <|
  tc (fun p e s m args below meth c cA D A ad0 h => ok_getR h.1 cxX4 (by decide) rfl fkRX4_24 (fun _ _ _ => rfl) dX4_volumeFor_9) <|
  tc (fun p e s m args below meth c cA D A ad0 h => ok_iload_n h.1 1 rfl dX4_volumeFor_12) <|
  tc (fun p e s m args below meth c cA D A ad0 h => ok_callV h.1 h.2.1 ⟨Nat.le_refl _, Nat.le_refl _⟩ mdX1_leftAtLeast siX1_leftAtLeast cxX1 mkRX4_295 imX1_leftAtLeast seX1_leftAtLeast ⟨by decide, by decide⟩ (aAx_out h.1 h.2.2.1 _) dX4_volumeFor_13) <|
  tc (fun p e s m args below meth c cA D A ad0 h => ok_min h.1 ⟨Nat.le_refl _, Nat.le_refl _⟩ mkRX4_119 smath_min nimath kmath_min dX4_volumeFor_16) <|
  tc (fun p e s m args below meth c cA D A ad0 h => ok_ireturn h.1 h.2.2.2.1 (Or.inl rfl) dX4_volumeFor_19) <|
  tn
abbrev cuX4_volumeFor : List Nat := [8, 16]
theorem tX4_volumeFor_0 (l : Launch) (K : aRs) (X : aXs) : tb (tbX4_volumeFor l K X) 0 = sLd 0 1 isR := (rfl)
theorem wX4_volumeFor_0 {l : Launch} {K : aRs} {X : aXs} {J : aK} {W : Nat → aK} (hW : isW (tbX4_volumeFor l K X) cuX4_volumeFor J W) (n : Nat) (ls st : List aV) (μ : aM) (g : Nat) : W (n + 1) 0 ls st μ g = (sLd 0 1 isR) (W n) ls st μ g := (hW n 0 ls st μ g).trans rfl
theorem wX4_volumeFor_1 {l : Launch} {K : aRs} {X : aXs} {J : aK} {W : Nat → aK} (hW : isW (tbX4_volumeFor l K X) cuX4_volumeFor J W) (n : Nat) (ls st : List aV) (μ : aM) (g : Nat) : W (n + 1) 1 ls st μ g = (sGetR 4 1 4) (W n) ls st μ g := (hW n 1 ls st μ g).trans rfl
theorem wX4_volumeFor_4 {l : Launch} {K : aRs} {X : aXs} {J : aK} {W : Nat → aK} (hW : isW (tbX4_volumeFor l K X) cuX4_volumeFor J W) (n : Nat) (ls st : List aV) (μ : aM) (g : Nat) : W (n + 1) 4 ls st μ g = (sLd 1 5 isI) (W n) ls st μ g := (hW n 4 ls st μ g).trans rfl
theorem wX4_volumeFor_5 {l : Launch} {K : aRs} {X : aXs} {J : aK} {W : Nat → aK} (hW : isW (tbX4_volumeFor l K X) cuX4_volumeFor J W) (n : Nat) (ls st : List aV) (μ : aM) (g : Nat) : W (n + 1) 5 ls st μ g = (sCallV 1 1 (fun as μ K => Ct l mdX1_leftAtLeast as μ K X) 8 0 0) (W n) ls st μ g := (hW n 5 ls st μ g).trans rfl
theorem tX4_volumeFor_8 (l : Launch) (K : aRs) (X : aXs) : tb (tbX4_volumeFor l K X) 8 = sLd 0 9 isR := (rfl)
theorem wX4_volumeFor_8 {l : Launch} {K : aRs} {X : aXs} {J : aK} {W : Nat → aK} (hW : isW (tbX4_volumeFor l K X) cuX4_volumeFor J W) (n : Nat) (ls st : List aV) (μ : aM) (g : Nat) : W (n + 1) 8 ls st μ g = J 8 ls st μ g := (hW n 8 ls st μ g).trans rfl
theorem wX4_volumeFor_9 {l : Launch} {K : aRs} {X : aXs} {J : aK} {W : Nat → aK} (hW : isW (tbX4_volumeFor l K X) cuX4_volumeFor J W) (n : Nat) (ls st : List aV) (μ : aM) (g : Nat) : W (n + 1) 9 ls st μ g = (sGetR 4 2 12) (W n) ls st μ g := (hW n 9 ls st μ g).trans rfl
theorem wX4_volumeFor_12 {l : Launch} {K : aRs} {X : aXs} {J : aK} {W : Nat → aK} (hW : isW (tbX4_volumeFor l K X) cuX4_volumeFor J W) (n : Nat) (ls st : List aV) (μ : aM) (g : Nat) : W (n + 1) 12 ls st μ g = (sLd 1 13 isI) (W n) ls st μ g := (hW n 12 ls st μ g).trans rfl
theorem wX4_volumeFor_13 {l : Launch} {K : aRs} {X : aXs} {J : aK} {W : Nat → aK} (hW : isW (tbX4_volumeFor l K X) cuX4_volumeFor J W) (n : Nat) (ls st : List aV) (μ : aM) (g : Nat) : W (n + 1) 13 ls st μ g = (sCallV 1 1 (fun as μ K => Ct l mdX1_leftAtLeast as μ K X) 16 0 0) (W n) ls st μ g := (hW n 13 ls st μ g).trans rfl
theorem tX4_volumeFor_16 (l : Launch) (K : aRs) (X : aXs) : tb (tbX4_volumeFor l K X) 16 = sMath (sMin 19) 0 := (rfl)
theorem wX4_volumeFor_16 {l : Launch} {K : aRs} {X : aXs} {J : aK} {W : Nat → aK} (hW : isW (tbX4_volumeFor l K X) cuX4_volumeFor J W) (n : Nat) (ls st : List aV) (μ : aM) (g : Nat) : W (n + 1) 16 ls st μ g = J 16 ls st μ g := (hW n 16 ls st μ g).trans rfl
theorem wX4_volumeFor_19 {l : Launch} {K : aRs} {X : aXs} {J : aK} {W : Nat → aK} (hW : isW (tbX4_volumeFor l K X) cuX4_volumeFor J W) (n : Nat) (ls st : List aV) (μ : aM) (g : Nat) : W (n + 1) 19 ls st μ g = (sRetI .int 0 K) (W n) ls st μ g := (hW n 19 ls st μ g).trans rfl
theorem dX4_priceBySums_0 : decode cX4_priceBySums 0 = .ok (.aload_n 0, 1) := by decide +kernel
theorem dX4_priceBySums_1 : decode cX4_priceBySums 1 = .ok (.getfield 37, 3) := by decide +kernel
theorem dX4_priceBySums_4 : decode cX4_priceBySums 4 = .ok (.invokevirtual 298, 3) := by decide +kernel
theorem dX4_priceBySums_7 : decode cX4_priceBySums 7 = .ok (.aload_n 0, 1) := by decide +kernel
theorem dX4_priceBySums_8 : decode cX4_priceBySums 8 = .ok (.getfield 24, 3) := by decide +kernel
theorem dX4_priceBySums_11 : decode cX4_priceBySums 11 = .ok (.getfield 171, 3) := by decide +kernel
theorem dX4_priceBySums_14 : decode cX4_priceBySums 14 = .ok (.astore_n 1, 1) := by decide +kernel
theorem dX4_priceBySums_15 : decode cX4_priceBySums 15 = .ok (.aload_n 1, 1) := by decide +kernel
theorem dX4_priceBySums_16 : decode cX4_priceBySums 16 = .ok (.ifnull 19, 3) := by decide +kernel
theorem dX4_priceBySums_19 : decode cX4_priceBySums 19 = .ok (.aload_n 0, 1) := by decide +kernel
theorem dX4_priceBySums_20 : decode cX4_priceBySums 20 = .ok (.aload_n 1, 1) := by decide +kernel
theorem dX4_priceBySums_21 : decode cX4_priceBySums 21 = .ok (.getfield 161, 3) := by decide +kernel
theorem dX4_priceBySums_24 : decode cX4_priceBySums 24 = .ok (.invokevirtual 301, 3) := by decide +kernel
theorem dX4_priceBySums_27 : decode cX4_priceBySums 27 = .ok (.aload_n 1, 1) := by decide +kernel
theorem dX4_priceBySums_28 : decode cX4_priceBySums 28 = .ok (.getfield 164, 3) := by decide +kernel
theorem dX4_priceBySums_31 : decode cX4_priceBySums 31 = .ok (.astore_n 1, 1) := by decide +kernel
theorem dX4_priceBySums_32 : decode cX4_priceBySums 32 = .ok (.goto (-17), 3) := by decide +kernel
theorem dX4_priceBySums_35 : decode cX4_priceBySums 35 = .ok (.aload_n 0, 1) := by decide +kernel
theorem dX4_priceBySums_36 : decode cX4_priceBySums 36 = .ok (.getfield 20, 3) := by decide +kernel
theorem dX4_priceBySums_39 : decode cX4_priceBySums 39 = .ok (.getfield 171, 3) := by decide +kernel
theorem dX4_priceBySums_42 : decode cX4_priceBySums 42 = .ok (.astore_n 1, 1) := by decide +kernel
theorem dX4_priceBySums_43 : decode cX4_priceBySums 43 = .ok (.aload_n 1, 1) := by decide +kernel
theorem dX4_priceBySums_44 : decode cX4_priceBySums 44 = .ok (.ifnull 27, 3) := by decide +kernel
theorem dX4_priceBySums_47 : decode cX4_priceBySums 47 = .ok (.aload_n 0, 1) := by decide +kernel
theorem dX4_priceBySums_48 : decode cX4_priceBySums 48 = .ok (.aload_n 1, 1) := by decide +kernel
theorem dX4_priceBySums_49 : decode cX4_priceBySums 49 = .ok (.getfield 161, 3) := by decide +kernel
theorem dX4_priceBySums_52 : decode cX4_priceBySums 52 = .ok (.aload_n 1, 1) := by decide +kernel
theorem dX4_priceBySums_53 : decode cX4_priceBySums 53 = .ok (.getfield 161, 3) := by decide +kernel
theorem dX4_priceBySums_56 : decode cX4_priceBySums 56 = .ok (.invokestatic 304, 3) := by decide +kernel
theorem dX4_priceBySums_59 : decode cX4_priceBySums 59 = .ok (.iadd, 1) := by decide +kernel
theorem dX4_priceBySums_60 : decode cX4_priceBySums 60 = .ok (.invokevirtual 301, 3) := by decide +kernel
theorem dX4_priceBySums_63 : decode cX4_priceBySums 63 = .ok (.aload_n 1, 1) := by decide +kernel
theorem dX4_priceBySums_64 : decode cX4_priceBySums 64 = .ok (.getfield 164, 3) := by decide +kernel
theorem dX4_priceBySums_67 : decode cX4_priceBySums 67 = .ok (.astore_n 1, 1) := by decide +kernel
theorem dX4_priceBySums_68 : decode cX4_priceBySums 68 = .ok (.goto (-25), 3) := by decide +kernel
theorem dX4_priceBySums_71 : decode cX4_priceBySums 71 = .ok (.aload_n 0, 1) := by decide +kernel
theorem dX4_priceBySums_72 : decode cX4_priceBySums 72 = .ok (.getfield 37, 3) := by decide +kernel
theorem dX4_priceBySums_75 : decode cX4_priceBySums 75 = .ok (.getfield 307, 3) := by decide +kernel
theorem dX4_priceBySums_78 : decode cX4_priceBySums 78 = .ok (.ireturn, 1) := by decide +kernel
def tbX4_priceBySums (l : Launch) (K : aRs) (X : aXs) : aTb := [
  (0, sLd 0 1 isR),
  (1, sGetR 4 4 4),
  (4, sCallV 0 0 (fun as μ K => Ct l mdX0_clear as μ K X) 7 0 0),
  (7, sLd 0 8 isR),
  (8, sGetR 4 2 11),
  (11, sGetR 1 1 14),
  (14, sSt 1 15 isR),
  (15, sLd 1 16 isR),
  (16, sNul 35 19),
  (19, sLd 0 20 isR),
  (20, sLd 1 21 isR),
  (21, sGetI 2 4 24),
  (24, sCallV 1 4 (fun as μ K => Ct l mdX4_offer as μ K X) 27 0 0),
  (27, sLd 1 28 isR),
  (28, sGetR 2 11 31),
  (31, sSt 1 32 isR),
  (32, sGoto 15),
  (35, sLd 0 36 isR),
  (36, sGetR 4 1 39),
  (39, sGetR 1 1 42),
  (42, sSt 1 43 isR),
  (43, sLd 1 44 isR),
  (44, sNul 71 47),
  (47, sLd 0 48 isR),
  (48, sLd 1 49 isR),
  (49, sGetI 2 4 52),
  (52, sLd 1 53 isR),
  (53, sGetI 2 4 56),
  (56, sCallS 1 (fun as μ K => Ct l mdX4_stepAt as μ K X) 59 0 0),
  (59, sBin fAdd 60),
  (60, sCallV 1 4 (fun as μ K => Ct l mdX4_offer as μ K X) 63 0 0),
  (63, sLd 1 64 isR),
  (64, sGetR 2 11 67),
  (67, sSt 1 68 isR),
  (68, sGoto 43),
  (71, sLd 0 72 isR),
  (72, sGetR 4 4 75),
  (75, sGetI 0 0 78),
  (78, sRetI .int 0 K)]
theorem snX4_priceBySums (l : Launch) (K : aRs) (X : aXs) (n0 : Nat) : ∀ q ∈ tbX4_priceBySums l K X, aSo l mdX4_priceBySums K X n0 q.1 q.2 :=
  tc (fun p e s m args below meth c cA D A ad0 h => ok_aload_n h.1 0 rfl dX4_priceBySums_0) <|
  tc (fun p e s m args below meth c cA D A ad0 h => ok_getR h.1 cxX4 (by decide) rfl fkRX4_37 (fun _ _ _ => rfl) dX4_priceBySums_1) <|
  tc (fun p e s m args below meth c cA D A ad0 h => ok_callV h.1 h.2.1 ⟨Nat.le_refl _, Nat.le_refl _⟩ mdX0_clear siX0_clear cxX0 mkRX4_298 imX0_clear seX0_clear ⟨by decide, by decide⟩ (aAx_out h.1 h.2.2.1 _) dX4_priceBySums_4) <|
  tc (fun p e s m args below meth c cA D A ad0 h => ok_aload_n h.1 0 rfl dX4_priceBySums_7) <|
  tc (fun p e s m args below meth c cA D A ad0 h => ok_getR h.1 cxX4 (by decide) rfl fkRX4_24 (fun _ _ _ => rfl) dX4_priceBySums_8) <|
  tc (fun p e s m args below meth c cA D A ad0 h => ok_getR h.1 cxX1 (by decide) rfl fkRX4_171 (fun _ _ _ => rfl) dX4_priceBySums_11) <|
  tc (fun p e s m args below meth c cA D A ad0 h => ok_astore_n h.1 1 rfl (by decide) dX4_priceBySums_14) <|
  tc (fun p e s m args below meth c cA D A ad0 h => ok_aload_n h.1 1 rfl dX4_priceBySums_15) <|
  tc (fun p e s m args below meth c cA D A ad0 h => ok_ifnull h.1 35 (by decide) dX4_priceBySums_16) <|
  tc (fun p e s m args below meth c cA D A ad0 h => ok_aload_n h.1 0 rfl dX4_priceBySums_19) <|
  tc (fun p e s m args below meth c cA D A ad0 h => ok_aload_n h.1 1 rfl dX4_priceBySums_20) <|
  tc (fun p e s m args below meth c cA D A ad0 h => ok_getI h.1 cxX2 (by decide) rfl fkRX4_161 (fun _ _ _ => rfl) dX4_priceBySums_21) <|
  tc (fun p e s m args below meth c cA D A ad0 h => ok_callV h.1 h.2.1 ⟨Nat.le_refl _, Nat.le_refl _⟩ mdX4_offer siX4_offer cxX4 mkRX4_301 imX4_offer seX4_offer ⟨by decide, by decide⟩ (aAx_out h.1 h.2.2.1 _) dX4_priceBySums_24) <|
  tc (fun p e s m args below meth c cA D A ad0 h => ok_aload_n h.1 1 rfl dX4_priceBySums_27) <|
  tc (fun p e s m args below meth c cA D A ad0 h => ok_getR h.1 cxX2 (by decide) rfl fkRX4_164 (fun _ _ _ => rfl) dX4_priceBySums_28) <|
  tc (fun p e s m args below meth c cA D A ad0 h => ok_astore_n h.1 1 rfl (by decide) dX4_priceBySums_31) <|
  tc (fun p e s m args below meth c cA D A ad0 h => ok_goto h.1 15 (by decide) dX4_priceBySums_32) <|
  tc (fun p e s m args below meth c cA D A ad0 h => ok_aload_n h.1 0 rfl dX4_priceBySums_35) <|
  tc (fun p e s m args below meth c cA D A ad0 h => ok_getR h.1 cxX4 (by decide) rfl fkRX4_20 (fun _ _ _ => rfl) dX4_priceBySums_36) <|
  tc (fun p e s m args below meth c cA D A ad0 h => ok_getR h.1 cxX1 (by decide) rfl fkRX4_171 (fun _ _ _ => rfl) dX4_priceBySums_39) <|
  tc (fun p e s m args below meth c cA D A ad0 h => ok_astore_n h.1 1 rfl (by decide) dX4_priceBySums_42) <|
  tc (fun p e s m args below meth c cA D A ad0 h => ok_aload_n h.1 1 rfl dX4_priceBySums_43) <|
  tc (fun p e s m args below meth c cA D A ad0 h => ok_ifnull h.1 71 (by decide) dX4_priceBySums_44) <|
  tc (fun p e s m args below meth c cA D A ad0 h => ok_aload_n h.1 0 rfl dX4_priceBySums_47) <|
  tc (fun p e s m args below meth c cA D A ad0 h => ok_aload_n h.1 1 rfl dX4_priceBySums_48) <|
  tc (fun p e s m args below meth c cA D A ad0 h => ok_getI h.1 cxX2 (by decide) rfl fkRX4_161 (fun _ _ _ => rfl) dX4_priceBySums_49) <|
  tc (fun p e s m args below meth c cA D A ad0 h => ok_aload_n h.1 1 rfl dX4_priceBySums_52) <|
  tc (fun p e s m args below meth c cA D A ad0 h => ok_getI h.1 cxX2 (by decide) rfl fkRX4_161 (fun _ _ _ => rfl) dX4_priceBySums_53) <|
  tc (fun p e s m args below meth c cA D A ad0 h => ok_callS h.1 h.2.1 ⟨Nat.le_refl _, Nat.le_refl _⟩ mdX4_stepAt siX4_stepAt mkRX4_304 stX4_stepAt ⟨by decide, by decide⟩ (aAx_out h.1 h.2.2.1 _) dX4_priceBySums_56) <|
  tc (fun p e s m args below meth c cA D A ad0 h => ok_iadd h.1 dX4_priceBySums_59) <|
  tc (fun p e s m args below meth c cA D A ad0 h => ok_callV h.1 h.2.1 ⟨Nat.le_refl _, Nat.le_refl _⟩ mdX4_offer siX4_offer cxX4 mkRX4_301 imX4_offer seX4_offer ⟨by decide, by decide⟩ (aAx_out h.1 h.2.2.1 _) dX4_priceBySums_60) <|
  tc (fun p e s m args below meth c cA D A ad0 h => ok_aload_n h.1 1 rfl dX4_priceBySums_63) <|
  tc (fun p e s m args below meth c cA D A ad0 h => ok_getR h.1 cxX2 (by decide) rfl fkRX4_164 (fun _ _ _ => rfl) dX4_priceBySums_64) <|
  tc (fun p e s m args below meth c cA D A ad0 h => ok_astore_n h.1 1 rfl (by decide) dX4_priceBySums_67) <|
  tc (fun p e s m args below meth c cA D A ad0 h => ok_goto h.1 43 (by decide) dX4_priceBySums_68) <|
  tc (fun p e s m args below meth c cA D A ad0 h => ok_aload_n h.1 0 rfl dX4_priceBySums_71) <|
  tc (fun p e s m args below meth c cA D A ad0 h => ok_getR h.1 cxX4 (by decide) rfl fkRX4_37 (fun _ _ _ => rfl) dX4_priceBySums_72) <|
  tc (fun p e s m args below meth c cA D A ad0 h => ok_getI h.1 cxX0 (by decide) rfl fkRX4_307 (fun _ _ _ => rfl) dX4_priceBySums_75) <|
  tc (fun p e s m args below meth c cA D A ad0 h => ok_ireturn h.1 h.2.2.2.1 (Or.inl rfl) dX4_priceBySums_78) <|
  tn
abbrev cuX4_priceBySums : List Nat := [7, 15, 27, 43, 59, 63]
theorem tX4_priceBySums_0 (l : Launch) (K : aRs) (X : aXs) : tb (tbX4_priceBySums l K X) 0 = sLd 0 1 isR := (rfl)
theorem wX4_priceBySums_0 {l : Launch} {K : aRs} {X : aXs} {J : aK} {W : Nat → aK} (hW : isW (tbX4_priceBySums l K X) cuX4_priceBySums J W) (n : Nat) (ls st : List aV) (μ : aM) (g : Nat) : W (n + 1) 0 ls st μ g = (sLd 0 1 isR) (W n) ls st μ g := (hW n 0 ls st μ g).trans rfl
theorem wX4_priceBySums_1 {l : Launch} {K : aRs} {X : aXs} {J : aK} {W : Nat → aK} (hW : isW (tbX4_priceBySums l K X) cuX4_priceBySums J W) (n : Nat) (ls st : List aV) (μ : aM) (g : Nat) : W (n + 1) 1 ls st μ g = (sGetR 4 4 4) (W n) ls st μ g := (hW n 1 ls st μ g).trans rfl
theorem wX4_priceBySums_4 {l : Launch} {K : aRs} {X : aXs} {J : aK} {W : Nat → aK} (hW : isW (tbX4_priceBySums l K X) cuX4_priceBySums J W) (n : Nat) (ls st : List aV) (μ : aM) (g : Nat) : W (n + 1) 4 ls st μ g = (sCallV 0 0 (fun as μ K => Ct l mdX0_clear as μ K X) 7 0 0) (W n) ls st μ g := (hW n 4 ls st μ g).trans rfl
theorem tX4_priceBySums_7 (l : Launch) (K : aRs) (X : aXs) : tb (tbX4_priceBySums l K X) 7 = sLd 0 8 isR := (rfl)
theorem wX4_priceBySums_7 {l : Launch} {K : aRs} {X : aXs} {J : aK} {W : Nat → aK} (hW : isW (tbX4_priceBySums l K X) cuX4_priceBySums J W) (n : Nat) (ls st : List aV) (μ : aM) (g : Nat) : W (n + 1) 7 ls st μ g = J 7 ls st μ g := (hW n 7 ls st μ g).trans rfl
theorem wX4_priceBySums_8 {l : Launch} {K : aRs} {X : aXs} {J : aK} {W : Nat → aK} (hW : isW (tbX4_priceBySums l K X) cuX4_priceBySums J W) (n : Nat) (ls st : List aV) (μ : aM) (g : Nat) : W (n + 1) 8 ls st μ g = (sGetR 4 2 11) (W n) ls st μ g := (hW n 8 ls st μ g).trans rfl
theorem wX4_priceBySums_11 {l : Launch} {K : aRs} {X : aXs} {J : aK} {W : Nat → aK} (hW : isW (tbX4_priceBySums l K X) cuX4_priceBySums J W) (n : Nat) (ls st : List aV) (μ : aM) (g : Nat) : W (n + 1) 11 ls st μ g = (sGetR 1 1 14) (W n) ls st μ g := (hW n 11 ls st μ g).trans rfl
theorem wX4_priceBySums_14 {l : Launch} {K : aRs} {X : aXs} {J : aK} {W : Nat → aK} (hW : isW (tbX4_priceBySums l K X) cuX4_priceBySums J W) (n : Nat) (ls st : List aV) (μ : aM) (g : Nat) : W (n + 1) 14 ls st μ g = (sSt 1 15 isR) (W n) ls st μ g := (hW n 14 ls st μ g).trans rfl
theorem tX4_priceBySums_15 (l : Launch) (K : aRs) (X : aXs) : tb (tbX4_priceBySums l K X) 15 = sLd 1 16 isR := (rfl)
theorem wX4_priceBySums_15 {l : Launch} {K : aRs} {X : aXs} {J : aK} {W : Nat → aK} (hW : isW (tbX4_priceBySums l K X) cuX4_priceBySums J W) (n : Nat) (ls st : List aV) (μ : aM) (g : Nat) : W (n + 1) 15 ls st μ g = J 15 ls st μ g := (hW n 15 ls st μ g).trans rfl
theorem wX4_priceBySums_16 {l : Launch} {K : aRs} {X : aXs} {J : aK} {W : Nat → aK} (hW : isW (tbX4_priceBySums l K X) cuX4_priceBySums J W) (n : Nat) (ls st : List aV) (μ : aM) (g : Nat) : W (n + 1) 16 ls st μ g = (sNul 35 19) (W n) ls st μ g := (hW n 16 ls st μ g).trans rfl
theorem wX4_priceBySums_19 {l : Launch} {K : aRs} {X : aXs} {J : aK} {W : Nat → aK} (hW : isW (tbX4_priceBySums l K X) cuX4_priceBySums J W) (n : Nat) (ls st : List aV) (μ : aM) (g : Nat) : W (n + 1) 19 ls st μ g = (sLd 0 20 isR) (W n) ls st μ g := (hW n 19 ls st μ g).trans rfl
theorem wX4_priceBySums_20 {l : Launch} {K : aRs} {X : aXs} {J : aK} {W : Nat → aK} (hW : isW (tbX4_priceBySums l K X) cuX4_priceBySums J W) (n : Nat) (ls st : List aV) (μ : aM) (g : Nat) : W (n + 1) 20 ls st μ g = (sLd 1 21 isR) (W n) ls st μ g := (hW n 20 ls st μ g).trans rfl
theorem wX4_priceBySums_21 {l : Launch} {K : aRs} {X : aXs} {J : aK} {W : Nat → aK} (hW : isW (tbX4_priceBySums l K X) cuX4_priceBySums J W) (n : Nat) (ls st : List aV) (μ : aM) (g : Nat) : W (n + 1) 21 ls st μ g = (sGetI 2 4 24) (W n) ls st μ g := (hW n 21 ls st μ g).trans rfl
theorem wX4_priceBySums_24 {l : Launch} {K : aRs} {X : aXs} {J : aK} {W : Nat → aK} (hW : isW (tbX4_priceBySums l K X) cuX4_priceBySums J W) (n : Nat) (ls st : List aV) (μ : aM) (g : Nat) : W (n + 1) 24 ls st μ g = (sCallV 1 4 (fun as μ K => Ct l mdX4_offer as μ K X) 27 0 0) (W n) ls st μ g := (hW n 24 ls st μ g).trans rfl
theorem tX4_priceBySums_27 (l : Launch) (K : aRs) (X : aXs) : tb (tbX4_priceBySums l K X) 27 = sLd 1 28 isR := (rfl)
theorem wX4_priceBySums_27 {l : Launch} {K : aRs} {X : aXs} {J : aK} {W : Nat → aK} (hW : isW (tbX4_priceBySums l K X) cuX4_priceBySums J W) (n : Nat) (ls st : List aV) (μ : aM) (g : Nat) : W (n + 1) 27 ls st μ g = J 27 ls st μ g := (hW n 27 ls st μ g).trans rfl
theorem wX4_priceBySums_28 {l : Launch} {K : aRs} {X : aXs} {J : aK} {W : Nat → aK} (hW : isW (tbX4_priceBySums l K X) cuX4_priceBySums J W) (n : Nat) (ls st : List aV) (μ : aM) (g : Nat) : W (n + 1) 28 ls st μ g = (sGetR 2 11 31) (W n) ls st μ g := (hW n 28 ls st μ g).trans rfl
theorem wX4_priceBySums_31 {l : Launch} {K : aRs} {X : aXs} {J : aK} {W : Nat → aK} (hW : isW (tbX4_priceBySums l K X) cuX4_priceBySums J W) (n : Nat) (ls st : List aV) (μ : aM) (g : Nat) : W (n + 1) 31 ls st μ g = (sSt 1 32 isR) (W n) ls st μ g := (hW n 31 ls st μ g).trans rfl
theorem wX4_priceBySums_32 {l : Launch} {K : aRs} {X : aXs} {J : aK} {W : Nat → aK} (hW : isW (tbX4_priceBySums l K X) cuX4_priceBySums J W) (n : Nat) (ls st : List aV) (μ : aM) (g : Nat) : W (n + 1) 32 ls st μ g = (sGoto 15) (W n) ls st μ g := (hW n 32 ls st μ g).trans rfl
theorem wX4_priceBySums_35 {l : Launch} {K : aRs} {X : aXs} {J : aK} {W : Nat → aK} (hW : isW (tbX4_priceBySums l K X) cuX4_priceBySums J W) (n : Nat) (ls st : List aV) (μ : aM) (g : Nat) : W (n + 1) 35 ls st μ g = (sLd 0 36 isR) (W n) ls st μ g := (hW n 35 ls st μ g).trans rfl
theorem wX4_priceBySums_36 {l : Launch} {K : aRs} {X : aXs} {J : aK} {W : Nat → aK} (hW : isW (tbX4_priceBySums l K X) cuX4_priceBySums J W) (n : Nat) (ls st : List aV) (μ : aM) (g : Nat) : W (n + 1) 36 ls st μ g = (sGetR 4 1 39) (W n) ls st μ g := (hW n 36 ls st μ g).trans rfl
theorem wX4_priceBySums_39 {l : Launch} {K : aRs} {X : aXs} {J : aK} {W : Nat → aK} (hW : isW (tbX4_priceBySums l K X) cuX4_priceBySums J W) (n : Nat) (ls st : List aV) (μ : aM) (g : Nat) : W (n + 1) 39 ls st μ g = (sGetR 1 1 42) (W n) ls st μ g := (hW n 39 ls st μ g).trans rfl
theorem wX4_priceBySums_42 {l : Launch} {K : aRs} {X : aXs} {J : aK} {W : Nat → aK} (hW : isW (tbX4_priceBySums l K X) cuX4_priceBySums J W) (n : Nat) (ls st : List aV) (μ : aM) (g : Nat) : W (n + 1) 42 ls st μ g = (sSt 1 43 isR) (W n) ls st μ g := (hW n 42 ls st μ g).trans rfl
theorem tX4_priceBySums_43 (l : Launch) (K : aRs) (X : aXs) : tb (tbX4_priceBySums l K X) 43 = sLd 1 44 isR := (rfl)
theorem wX4_priceBySums_43 {l : Launch} {K : aRs} {X : aXs} {J : aK} {W : Nat → aK} (hW : isW (tbX4_priceBySums l K X) cuX4_priceBySums J W) (n : Nat) (ls st : List aV) (μ : aM) (g : Nat) : W (n + 1) 43 ls st μ g = J 43 ls st μ g := (hW n 43 ls st μ g).trans rfl
theorem wX4_priceBySums_44 {l : Launch} {K : aRs} {X : aXs} {J : aK} {W : Nat → aK} (hW : isW (tbX4_priceBySums l K X) cuX4_priceBySums J W) (n : Nat) (ls st : List aV) (μ : aM) (g : Nat) : W (n + 1) 44 ls st μ g = (sNul 71 47) (W n) ls st μ g := (hW n 44 ls st μ g).trans rfl
theorem wX4_priceBySums_47 {l : Launch} {K : aRs} {X : aXs} {J : aK} {W : Nat → aK} (hW : isW (tbX4_priceBySums l K X) cuX4_priceBySums J W) (n : Nat) (ls st : List aV) (μ : aM) (g : Nat) : W (n + 1) 47 ls st μ g = (sLd 0 48 isR) (W n) ls st μ g := (hW n 47 ls st μ g).trans rfl
theorem wX4_priceBySums_48 {l : Launch} {K : aRs} {X : aXs} {J : aK} {W : Nat → aK} (hW : isW (tbX4_priceBySums l K X) cuX4_priceBySums J W) (n : Nat) (ls st : List aV) (μ : aM) (g : Nat) : W (n + 1) 48 ls st μ g = (sLd 1 49 isR) (W n) ls st μ g := (hW n 48 ls st μ g).trans rfl
theorem wX4_priceBySums_49 {l : Launch} {K : aRs} {X : aXs} {J : aK} {W : Nat → aK} (hW : isW (tbX4_priceBySums l K X) cuX4_priceBySums J W) (n : Nat) (ls st : List aV) (μ : aM) (g : Nat) : W (n + 1) 49 ls st μ g = (sGetI 2 4 52) (W n) ls st μ g := (hW n 49 ls st μ g).trans rfl
theorem wX4_priceBySums_52 {l : Launch} {K : aRs} {X : aXs} {J : aK} {W : Nat → aK} (hW : isW (tbX4_priceBySums l K X) cuX4_priceBySums J W) (n : Nat) (ls st : List aV) (μ : aM) (g : Nat) : W (n + 1) 52 ls st μ g = (sLd 1 53 isR) (W n) ls st μ g := (hW n 52 ls st μ g).trans rfl
theorem wX4_priceBySums_53 {l : Launch} {K : aRs} {X : aXs} {J : aK} {W : Nat → aK} (hW : isW (tbX4_priceBySums l K X) cuX4_priceBySums J W) (n : Nat) (ls st : List aV) (μ : aM) (g : Nat) : W (n + 1) 53 ls st μ g = (sGetI 2 4 56) (W n) ls st μ g := (hW n 53 ls st μ g).trans rfl
theorem wX4_priceBySums_56 {l : Launch} {K : aRs} {X : aXs} {J : aK} {W : Nat → aK} (hW : isW (tbX4_priceBySums l K X) cuX4_priceBySums J W) (n : Nat) (ls st : List aV) (μ : aM) (g : Nat) : W (n + 1) 56 ls st μ g = (sCallS 1 (fun as μ K => Ct l mdX4_stepAt as μ K X) 59 0 0) (W n) ls st μ g := (hW n 56 ls st μ g).trans rfl
theorem tX4_priceBySums_59 (l : Launch) (K : aRs) (X : aXs) : tb (tbX4_priceBySums l K X) 59 = sBin fAdd 60 := (rfl)
theorem wX4_priceBySums_59 {l : Launch} {K : aRs} {X : aXs} {J : aK} {W : Nat → aK} (hW : isW (tbX4_priceBySums l K X) cuX4_priceBySums J W) (n : Nat) (ls st : List aV) (μ : aM) (g : Nat) : W (n + 1) 59 ls st μ g = J 59 ls st μ g := (hW n 59 ls st μ g).trans rfl
theorem wX4_priceBySums_60 {l : Launch} {K : aRs} {X : aXs} {J : aK} {W : Nat → aK} (hW : isW (tbX4_priceBySums l K X) cuX4_priceBySums J W) (n : Nat) (ls st : List aV) (μ : aM) (g : Nat) : W (n + 1) 60 ls st μ g = (sCallV 1 4 (fun as μ K => Ct l mdX4_offer as μ K X) 63 0 0) (W n) ls st μ g := (hW n 60 ls st μ g).trans rfl
theorem tX4_priceBySums_63 (l : Launch) (K : aRs) (X : aXs) : tb (tbX4_priceBySums l K X) 63 = sLd 1 64 isR := (rfl)
theorem wX4_priceBySums_63 {l : Launch} {K : aRs} {X : aXs} {J : aK} {W : Nat → aK} (hW : isW (tbX4_priceBySums l K X) cuX4_priceBySums J W) (n : Nat) (ls st : List aV) (μ : aM) (g : Nat) : W (n + 1) 63 ls st μ g = J 63 ls st μ g := (hW n 63 ls st μ g).trans rfl
theorem wX4_priceBySums_64 {l : Launch} {K : aRs} {X : aXs} {J : aK} {W : Nat → aK} (hW : isW (tbX4_priceBySums l K X) cuX4_priceBySums J W) (n : Nat) (ls st : List aV) (μ : aM) (g : Nat) : W (n + 1) 64 ls st μ g = (sGetR 2 11 67) (W n) ls st μ g := (hW n 64 ls st μ g).trans rfl
theorem wX4_priceBySums_67 {l : Launch} {K : aRs} {X : aXs} {J : aK} {W : Nat → aK} (hW : isW (tbX4_priceBySums l K X) cuX4_priceBySums J W) (n : Nat) (ls st : List aV) (μ : aM) (g : Nat) : W (n + 1) 67 ls st μ g = (sSt 1 68 isR) (W n) ls st μ g := (hW n 67 ls st μ g).trans rfl
theorem wX4_priceBySums_68 {l : Launch} {K : aRs} {X : aXs} {J : aK} {W : Nat → aK} (hW : isW (tbX4_priceBySums l K X) cuX4_priceBySums J W) (n : Nat) (ls st : List aV) (μ : aM) (g : Nat) : W (n + 1) 68 ls st μ g = (sGoto 43) (W n) ls st μ g := (hW n 68 ls st μ g).trans rfl
theorem wX4_priceBySums_71 {l : Launch} {K : aRs} {X : aXs} {J : aK} {W : Nat → aK} (hW : isW (tbX4_priceBySums l K X) cuX4_priceBySums J W) (n : Nat) (ls st : List aV) (μ : aM) (g : Nat) : W (n + 1) 71 ls st μ g = (sLd 0 72 isR) (W n) ls st μ g := (hW n 71 ls st μ g).trans rfl
theorem wX4_priceBySums_72 {l : Launch} {K : aRs} {X : aXs} {J : aK} {W : Nat → aK} (hW : isW (tbX4_priceBySums l K X) cuX4_priceBySums J W) (n : Nat) (ls st : List aV) (μ : aM) (g : Nat) : W (n + 1) 72 ls st μ g = (sGetR 4 4 75) (W n) ls st μ g := (hW n 72 ls st μ g).trans rfl
theorem wX4_priceBySums_75 {l : Launch} {K : aRs} {X : aXs} {J : aK} {W : Nat → aK} (hW : isW (tbX4_priceBySums l K X) cuX4_priceBySums J W) (n : Nat) (ls st : List aV) (μ : aM) (g : Nat) : W (n + 1) 75 ls st μ g = (sGetI 0 0 78) (W n) ls st μ g := (hW n 75 ls st μ g).trans rfl
theorem wX4_priceBySums_78 {l : Launch} {K : aRs} {X : aXs} {J : aK} {W : Nat → aK} (hW : isW (tbX4_priceBySums l K X) cuX4_priceBySums J W) (n : Nat) (ls st : List aV) (μ : aM) (g : Nat) : W (n + 1) 78 ls st μ g = (sRetI .int 0 K) (W n) ls st μ g := (hW n 78 ls st μ g).trans rfl
theorem dX4_priceByTrying_0 : decode cX4_priceByTrying 0 = .ok (.aload_n 0, 1) := by decide +kernel
theorem dX4_priceByTrying_1 : decode cX4_priceByTrying 1 = .ok (.getfield 37, 3) := by decide +kernel
theorem dX4_priceByTrying_4 : decode cX4_priceByTrying 4 = .ok (.invokevirtual 298, 3) := by decide +kernel
theorem dX4_priceByTrying_7 : decode cX4_priceByTrying 7 = .ok (.iconst 1, 1) := by decide +kernel
theorem dX4_priceByTrying_8 : decode cX4_priceByTrying 8 = .ok (.istore_n 1, 1) := by decide +kernel
theorem dX4_priceByTrying_9 : decode cX4_priceByTrying 9 = .ok (.iload_n 1, 1) := by decide +kernel
theorem dX4_priceByTrying_10 : decode cX4_priceByTrying 10 = .ok (.sipush 300, 3) := by decide +kernel
theorem dX4_priceByTrying_13 : decode cX4_priceByTrying 13 = .ok (.if_icmp .gt 21, 3) := by decide +kernel
theorem dX4_priceByTrying_16 : decode cX4_priceByTrying 16 = .ok (.iload_n 1, 1) := by decide +kernel
theorem dX4_priceByTrying_17 : decode cX4_priceByTrying 17 = .ok (.invokestatic 64, 3) := by decide +kernel
theorem dX4_priceByTrying_20 : decode cX4_priceByTrying 20 = .ok (.ifCond .eq 8, 3) := by decide +kernel
theorem dX4_priceByTrying_23 : decode cX4_priceByTrying 23 = .ok (.aload_n 0, 1) := by decide +kernel
theorem dX4_priceByTrying_24 : decode cX4_priceByTrying 24 = .ok (.iload_n 1, 1) := by decide +kernel
theorem dX4_priceByTrying_25 : decode cX4_priceByTrying 25 = .ok (.invokevirtual 301, 3) := by decide +kernel
theorem dX4_priceByTrying_28 : decode cX4_priceByTrying 28 = .ok (.iinc 1 1, 3) := by decide +kernel
theorem dX4_priceByTrying_31 : decode cX4_priceByTrying 31 = .ok (.goto (-22), 3) := by decide +kernel
theorem dX4_priceByTrying_34 : decode cX4_priceByTrying 34 = .ok (.aload_n 0, 1) := by decide +kernel
theorem dX4_priceByTrying_35 : decode cX4_priceByTrying 35 = .ok (.getfield 37, 3) := by decide +kernel
theorem dX4_priceByTrying_38 : decode cX4_priceByTrying 38 = .ok (.getfield 307, 3) := by decide +kernel
theorem dX4_priceByTrying_41 : decode cX4_priceByTrying 41 = .ok (.ireturn, 1) := by decide +kernel
def tbX4_priceByTrying (l : Launch) (K : aRs) (X : aXs) : aTb := [
  (0, sLd 0 1 isR),
  (1, sGetR 4 4 4),
  (4, sCallV 0 0 (fun as μ K => Ct l mdX0_clear as μ K X) 7 0 0),
  (7, sPush (aI 1) 8),
  (8, sSt 1 9 isI),
  (9, sLd 1 10 isI),
  (10, sPush (aI 300) 13),
  (13, sIc qGt 34 16),
  (16, sLd 1 17 isI),
  (17, sCallS 1 (fun as μ K => Ct l mdX4_isPrice as μ K X) 20 0 0),
  (20, sIf pEq 28 23),
  (23, sLd 0 24 isR),
  (24, sLd 1 25 isI),
  (25, sCallV 1 4 (fun as μ K => Ct l mdX4_offer as μ K X) 28 0 0),
  (28, sInc 1 1 31),
  (31, sGoto 9),
  (34, sLd 0 35 isR),
  (35, sGetR 4 4 38),
  (38, sGetI 0 0 41),
  (41, sRetI .int 0 K)]
theorem snX4_priceByTrying (l : Launch) (K : aRs) (X : aXs) (n0 : Nat) : ∀ q ∈ tbX4_priceByTrying l K X, aSo l mdX4_priceByTrying K X n0 q.1 q.2 :=
  tc (fun p e s m args below meth c cA D A ad0 h => ok_aload_n h.1 0 rfl dX4_priceByTrying_0) <|
  tc (fun p e s m args below meth c cA D A ad0 h => ok_getR h.1 cxX4 (by decide) rfl fkRX4_37 (fun _ _ _ => rfl) dX4_priceByTrying_1) <|
  tc (fun p e s m args below meth c cA D A ad0 h => ok_callV h.1 h.2.1 ⟨Nat.le_refl _, Nat.le_refl _⟩ mdX0_clear siX0_clear cxX0 mkRX4_298 imX0_clear seX0_clear ⟨by decide, by decide⟩ (aAx_out h.1 h.2.2.1 _) dX4_priceByTrying_4) <|
  tc (fun p e s m args below meth c cA D A ad0 h => ok_iconst h.1 ⟨by decide, by decide⟩ dX4_priceByTrying_7) <|
  tc (fun p e s m args below meth c cA D A ad0 h => ok_istore_n h.1 1 rfl (by decide) dX4_priceByTrying_8) <|
  tc (fun p e s m args below meth c cA D A ad0 h => ok_iload_n h.1 1 rfl dX4_priceByTrying_9) <|
  tc (fun p e s m args below meth c cA D A ad0 h => ok_sipush h.1 ⟨by decide, by decide⟩ (by decide) dX4_priceByTrying_10) <|
  tc (fun p e s m args below meth c cA D A ad0 h => ok_icmp_gt h.1 34 (by decide) dX4_priceByTrying_13) <|
  tc (fun p e s m args below meth c cA D A ad0 h => ok_iload_n h.1 1 rfl dX4_priceByTrying_16) <|
  tc (fun p e s m args below meth c cA D A ad0 h => ok_callS h.1 h.2.1 ⟨Nat.le_refl _, Nat.le_refl _⟩ mdX4_isPrice siX4_isPrice mkRX4_64 stX4_isPrice ⟨by decide, by decide⟩ (aAx_out h.1 h.2.2.1 _) dX4_priceByTrying_17) <|
  tc (fun p e s m args below meth c cA D A ad0 h => ok_if_eq h.1 28 (by decide) dX4_priceByTrying_20) <|
  tc (fun p e s m args below meth c cA D A ad0 h => ok_aload_n h.1 0 rfl dX4_priceByTrying_23) <|
  tc (fun p e s m args below meth c cA D A ad0 h => ok_iload_n h.1 1 rfl dX4_priceByTrying_24) <|
  tc (fun p e s m args below meth c cA D A ad0 h => ok_callV h.1 h.2.1 ⟨Nat.le_refl _, Nat.le_refl _⟩ mdX4_offer siX4_offer cxX4 mkRX4_301 imX4_offer seX4_offer ⟨by decide, by decide⟩ (aAx_out h.1 h.2.2.1 _) dX4_priceByTrying_25) <|
  tc (fun p e s m args below meth c cA D A ad0 h => ok_iinc h.1 (by decide) dX4_priceByTrying_28) <|
  tc (fun p e s m args below meth c cA D A ad0 h => ok_goto h.1 9 (by decide) dX4_priceByTrying_31) <|
  tc (fun p e s m args below meth c cA D A ad0 h => ok_aload_n h.1 0 rfl dX4_priceByTrying_34) <|
  tc (fun p e s m args below meth c cA D A ad0 h => ok_getR h.1 cxX4 (by decide) rfl fkRX4_37 (fun _ _ _ => rfl) dX4_priceByTrying_35) <|
  tc (fun p e s m args below meth c cA D A ad0 h => ok_getI h.1 cxX0 (by decide) rfl fkRX4_307 (fun _ _ _ => rfl) dX4_priceByTrying_38) <|
  tc (fun p e s m args below meth c cA D A ad0 h => ok_ireturn h.1 h.2.2.2.1 (Or.inl rfl) dX4_priceByTrying_41) <|
  tn
abbrev cuX4_priceByTrying : List Nat := [7, 9, 20, 28]
theorem tX4_priceByTrying_0 (l : Launch) (K : aRs) (X : aXs) : tb (tbX4_priceByTrying l K X) 0 = sLd 0 1 isR := (rfl)
theorem wX4_priceByTrying_0 {l : Launch} {K : aRs} {X : aXs} {J : aK} {W : Nat → aK} (hW : isW (tbX4_priceByTrying l K X) cuX4_priceByTrying J W) (n : Nat) (ls st : List aV) (μ : aM) (g : Nat) : W (n + 1) 0 ls st μ g = (sLd 0 1 isR) (W n) ls st μ g := (hW n 0 ls st μ g).trans rfl
theorem wX4_priceByTrying_1 {l : Launch} {K : aRs} {X : aXs} {J : aK} {W : Nat → aK} (hW : isW (tbX4_priceByTrying l K X) cuX4_priceByTrying J W) (n : Nat) (ls st : List aV) (μ : aM) (g : Nat) : W (n + 1) 1 ls st μ g = (sGetR 4 4 4) (W n) ls st μ g := (hW n 1 ls st μ g).trans rfl
theorem wX4_priceByTrying_4 {l : Launch} {K : aRs} {X : aXs} {J : aK} {W : Nat → aK} (hW : isW (tbX4_priceByTrying l K X) cuX4_priceByTrying J W) (n : Nat) (ls st : List aV) (μ : aM) (g : Nat) : W (n + 1) 4 ls st μ g = (sCallV 0 0 (fun as μ K => Ct l mdX0_clear as μ K X) 7 0 0) (W n) ls st μ g := (hW n 4 ls st μ g).trans rfl
theorem tX4_priceByTrying_7 (l : Launch) (K : aRs) (X : aXs) : tb (tbX4_priceByTrying l K X) 7 = sPush (aI 1) 8 := (rfl)
theorem wX4_priceByTrying_7 {l : Launch} {K : aRs} {X : aXs} {J : aK} {W : Nat → aK} (hW : isW (tbX4_priceByTrying l K X) cuX4_priceByTrying J W) (n : Nat) (ls st : List aV) (μ : aM) (g : Nat) : W (n + 1) 7 ls st μ g = J 7 ls st μ g := (hW n 7 ls st μ g).trans rfl
theorem wX4_priceByTrying_8 {l : Launch} {K : aRs} {X : aXs} {J : aK} {W : Nat → aK} (hW : isW (tbX4_priceByTrying l K X) cuX4_priceByTrying J W) (n : Nat) (ls st : List aV) (μ : aM) (g : Nat) : W (n + 1) 8 ls st μ g = (sSt 1 9 isI) (W n) ls st μ g := (hW n 8 ls st μ g).trans rfl
theorem tX4_priceByTrying_9 (l : Launch) (K : aRs) (X : aXs) : tb (tbX4_priceByTrying l K X) 9 = sLd 1 10 isI := (rfl)
theorem wX4_priceByTrying_9 {l : Launch} {K : aRs} {X : aXs} {J : aK} {W : Nat → aK} (hW : isW (tbX4_priceByTrying l K X) cuX4_priceByTrying J W) (n : Nat) (ls st : List aV) (μ : aM) (g : Nat) : W (n + 1) 9 ls st μ g = J 9 ls st μ g := (hW n 9 ls st μ g).trans rfl
theorem wX4_priceByTrying_10 {l : Launch} {K : aRs} {X : aXs} {J : aK} {W : Nat → aK} (hW : isW (tbX4_priceByTrying l K X) cuX4_priceByTrying J W) (n : Nat) (ls st : List aV) (μ : aM) (g : Nat) : W (n + 1) 10 ls st μ g = (sPush (aI 300) 13) (W n) ls st μ g := (hW n 10 ls st μ g).trans rfl
theorem wX4_priceByTrying_13 {l : Launch} {K : aRs} {X : aXs} {J : aK} {W : Nat → aK} (hW : isW (tbX4_priceByTrying l K X) cuX4_priceByTrying J W) (n : Nat) (ls st : List aV) (μ : aM) (g : Nat) : W (n + 1) 13 ls st μ g = (sIc qGt 34 16) (W n) ls st μ g := (hW n 13 ls st μ g).trans rfl
theorem wX4_priceByTrying_16 {l : Launch} {K : aRs} {X : aXs} {J : aK} {W : Nat → aK} (hW : isW (tbX4_priceByTrying l K X) cuX4_priceByTrying J W) (n : Nat) (ls st : List aV) (μ : aM) (g : Nat) : W (n + 1) 16 ls st μ g = (sLd 1 17 isI) (W n) ls st μ g := (hW n 16 ls st μ g).trans rfl
theorem wX4_priceByTrying_17 {l : Launch} {K : aRs} {X : aXs} {J : aK} {W : Nat → aK} (hW : isW (tbX4_priceByTrying l K X) cuX4_priceByTrying J W) (n : Nat) (ls st : List aV) (μ : aM) (g : Nat) : W (n + 1) 17 ls st μ g = (sCallS 1 (fun as μ K => Ct l mdX4_isPrice as μ K X) 20 0 0) (W n) ls st μ g := (hW n 17 ls st μ g).trans rfl
theorem tX4_priceByTrying_20 (l : Launch) (K : aRs) (X : aXs) : tb (tbX4_priceByTrying l K X) 20 = sIf pEq 28 23 := (rfl)
theorem wX4_priceByTrying_20 {l : Launch} {K : aRs} {X : aXs} {J : aK} {W : Nat → aK} (hW : isW (tbX4_priceByTrying l K X) cuX4_priceByTrying J W) (n : Nat) (ls st : List aV) (μ : aM) (g : Nat) : W (n + 1) 20 ls st μ g = J 20 ls st μ g := (hW n 20 ls st μ g).trans rfl
theorem wX4_priceByTrying_23 {l : Launch} {K : aRs} {X : aXs} {J : aK} {W : Nat → aK} (hW : isW (tbX4_priceByTrying l K X) cuX4_priceByTrying J W) (n : Nat) (ls st : List aV) (μ : aM) (g : Nat) : W (n + 1) 23 ls st μ g = (sLd 0 24 isR) (W n) ls st μ g := (hW n 23 ls st μ g).trans rfl
theorem wX4_priceByTrying_24 {l : Launch} {K : aRs} {X : aXs} {J : aK} {W : Nat → aK} (hW : isW (tbX4_priceByTrying l K X) cuX4_priceByTrying J W) (n : Nat) (ls st : List aV) (μ : aM) (g : Nat) : W (n + 1) 24 ls st μ g = (sLd 1 25 isI) (W n) ls st μ g := (hW n 24 ls st μ g).trans rfl
theorem wX4_priceByTrying_25 {l : Launch} {K : aRs} {X : aXs} {J : aK} {W : Nat → aK} (hW : isW (tbX4_priceByTrying l K X) cuX4_priceByTrying J W) (n : Nat) (ls st : List aV) (μ : aM) (g : Nat) : W (n + 1) 25 ls st μ g = (sCallV 1 4 (fun as μ K => Ct l mdX4_offer as μ K X) 28 0 0) (W n) ls st μ g := (hW n 25 ls st μ g).trans rfl
theorem tX4_priceByTrying_28 (l : Launch) (K : aRs) (X : aXs) : tb (tbX4_priceByTrying l K X) 28 = sInc 1 1 31 := (rfl)
theorem wX4_priceByTrying_28 {l : Launch} {K : aRs} {X : aXs} {J : aK} {W : Nat → aK} (hW : isW (tbX4_priceByTrying l K X) cuX4_priceByTrying J W) (n : Nat) (ls st : List aV) (μ : aM) (g : Nat) : W (n + 1) 28 ls st μ g = J 28 ls st μ g := (hW n 28 ls st μ g).trans rfl
theorem wX4_priceByTrying_31 {l : Launch} {K : aRs} {X : aXs} {J : aK} {W : Nat → aK} (hW : isW (tbX4_priceByTrying l K X) cuX4_priceByTrying J W) (n : Nat) (ls st : List aV) (μ : aM) (g : Nat) : W (n + 1) 31 ls st μ g = (sGoto 9) (W n) ls st μ g := (hW n 31 ls st μ g).trans rfl
theorem wX4_priceByTrying_34 {l : Launch} {K : aRs} {X : aXs} {J : aK} {W : Nat → aK} (hW : isW (tbX4_priceByTrying l K X) cuX4_priceByTrying J W) (n : Nat) (ls st : List aV) (μ : aM) (g : Nat) : W (n + 1) 34 ls st μ g = (sLd 0 35 isR) (W n) ls st μ g := (hW n 34 ls st μ g).trans rfl
theorem wX4_priceByTrying_35 {l : Launch} {K : aRs} {X : aXs} {J : aK} {W : Nat → aK} (hW : isW (tbX4_priceByTrying l K X) cuX4_priceByTrying J W) (n : Nat) (ls st : List aV) (μ : aM) (g : Nat) : W (n + 1) 35 ls st μ g = (sGetR 4 4 38) (W n) ls st μ g := (hW n 35 ls st μ g).trans rfl
theorem wX4_priceByTrying_38 {l : Launch} {K : aRs} {X : aXs} {J : aK} {W : Nat → aK} (hW : isW (tbX4_priceByTrying l K X) cuX4_priceByTrying J W) (n : Nat) (ls st : List aV) (μ : aM) (g : Nat) : W (n + 1) 38 ls st μ g = (sGetI 0 0 41) (W n) ls st μ g := (hW n 38 ls st μ g).trans rfl
theorem wX4_priceByTrying_41 {l : Launch} {K : aRs} {X : aXs} {J : aK} {W : Nat → aK} (hW : isW (tbX4_priceByTrying l K X) cuX4_priceByTrying J W) (n : Nat) (ls st : List aV) (μ : aM) (g : Nat) : W (n + 1) 41 ls st μ g = (sRetI .int 0 K) (W n) ls st μ g := (hW n 41 ls st μ g).trans rfl
theorem dX4_offer_0 : decode cX4_offer 0 = .ok (.aload_n 0, 1) := by decide +kernel
theorem dX4_offer_1 : decode cX4_offer 1 = .ok (.getfield 37, 3) := by decide +kernel
theorem dX4_offer_4 : decode cX4_offer 4 = .ok (.iload_n 1, 1) := by decide +kernel
theorem dX4_offer_5 : decode cX4_offer 5 = .ok (.aload_n 0, 1) := by decide +kernel
theorem dX4_offer_6 : decode cX4_offer 6 = .ok (.getfield 20, 3) := by decide +kernel
theorem dX4_offer_9 : decode cX4_offer 9 = .ok (.iload_n 1, 1) := by decide +kernel
theorem dX4_offer_10 : decode cX4_offer 10 = .ok (.invokevirtual 295, 3) := by decide +kernel
theorem dX4_offer_13 : decode cX4_offer 13 = .ok (.aload_n 0, 1) := by decide +kernel
theorem dX4_offer_14 : decode cX4_offer 14 = .ok (.getfield 24, 3) := by decide +kernel
theorem dX4_offer_17 : decode cX4_offer 17 = .ok (.iload_n 1, 1) := by decide +kernel
theorem dX4_offer_18 : decode cX4_offer 18 = .ok (.invokevirtual 295, 3) := by decide +kernel
theorem dX4_offer_21 : decode cX4_offer 21 = .ok (.invokevirtual 308, 3) := by decide +kernel
theorem dX4_offer_24 : decode cX4_offer 24 = .ok (.return_, 1) := by decide +kernel
def tbX4_offer (l : Launch) (K : aRs) (X : aXs) : aTb := [
  (0, sLd 0 1 isR),
  (1, sGetR 4 4 4),
  (4, sLd 1 5 isI),
  (5, sLd 0 6 isR),
  (6, sGetR 4 1 9),
  (9, sLd 1 10 isI),
  (10, sCallV 1 1 (fun as μ K => Ct l mdX1_leftAtLeast as μ K X) 13 0 0),
  (13, sLd 0 14 isR),
  (14, sGetR 4 2 17),
  (17, sLd 1 18 isI),
  (18, sCallV 1 1 (fun as μ K => Ct l mdX1_leftAtLeast as μ K X) 21 0 0),
  (21, sCallV 3 0 (fun as μ K => Ct l mdX0_take as μ K X) 24 0 0),
  (24, sRetV 0 K)]
theorem snX4_offer (l : Launch) (K : aRs) (X : aXs) (n0 : Nat) : ∀ q ∈ tbX4_offer l K X, aSo l mdX4_offer K X n0 q.1 q.2 :=
  tc (fun p e s m args below meth c cA D A ad0 h => ok_aload_n h.1 0 rfl dX4_offer_0) <|
  tc (fun p e s m args below meth c cA D A ad0 h => ok_getR h.1 cxX4 (by decide) rfl fkRX4_37 (fun _ _ _ => rfl) dX4_offer_1) <|
  tc (fun p e s m args below meth c cA D A ad0 h => ok_iload_n h.1 1 rfl dX4_offer_4) <|
  tc (fun p e s m args below meth c cA D A ad0 h => ok_aload_n h.1 0 rfl dX4_offer_5) <|
  tc (fun p e s m args below meth c cA D A ad0 h => ok_getR h.1 cxX4 (by decide) rfl fkRX4_20 (fun _ _ _ => rfl) dX4_offer_6) <|
  tc (fun p e s m args below meth c cA D A ad0 h => ok_iload_n h.1 1 rfl dX4_offer_9) <|
  tc (fun p e s m args below meth c cA D A ad0 h => ok_callV h.1 h.2.1 ⟨Nat.le_refl _, Nat.le_refl _⟩ mdX1_leftAtLeast siX1_leftAtLeast cxX1 mkRX4_295 imX1_leftAtLeast seX1_leftAtLeast ⟨by decide, by decide⟩ (aAx_out h.1 h.2.2.1 _) dX4_offer_10) <|
  tc (fun p e s m args below meth c cA D A ad0 h => ok_aload_n h.1 0 rfl dX4_offer_13) <|
  tc (fun p e s m args below meth c cA D A ad0 h => ok_getR h.1 cxX4 (by decide) rfl fkRX4_24 (fun _ _ _ => rfl) dX4_offer_14) <|
  tc (fun p e s m args below meth c cA D A ad0 h => ok_iload_n h.1 1 rfl dX4_offer_17) <|
  tc (fun p e s m args below meth c cA D A ad0 h => ok_callV h.1 h.2.1 ⟨Nat.le_refl _, Nat.le_refl _⟩ mdX1_leftAtLeast siX1_leftAtLeast cxX1 mkRX4_295 imX1_leftAtLeast seX1_leftAtLeast ⟨by decide, by decide⟩ (aAx_out h.1 h.2.2.1 _) dX4_offer_18) <|
  tc (fun p e s m args below meth c cA D A ad0 h => ok_callV h.1 h.2.1 ⟨Nat.le_refl _, Nat.le_refl _⟩ mdX0_take siX0_take cxX0 mkRX4_308 imX0_take seX0_take ⟨by decide, by decide⟩ (aAx_out h.1 h.2.2.1 _) dX4_offer_21) <|
  tc (fun p e s m args below meth c cA D A ad0 h => ok_return h.1 h.2.2.2.1 dX4_offer_24) <|
  tn
abbrev cuX4_offer : List Nat := [13, 21, 24]
theorem tX4_offer_0 (l : Launch) (K : aRs) (X : aXs) : tb (tbX4_offer l K X) 0 = sLd 0 1 isR := (rfl)
theorem wX4_offer_0 {l : Launch} {K : aRs} {X : aXs} {J : aK} {W : Nat → aK} (hW : isW (tbX4_offer l K X) cuX4_offer J W) (n : Nat) (ls st : List aV) (μ : aM) (g : Nat) : W (n + 1) 0 ls st μ g = (sLd 0 1 isR) (W n) ls st μ g := (hW n 0 ls st μ g).trans rfl
theorem wX4_offer_1 {l : Launch} {K : aRs} {X : aXs} {J : aK} {W : Nat → aK} (hW : isW (tbX4_offer l K X) cuX4_offer J W) (n : Nat) (ls st : List aV) (μ : aM) (g : Nat) : W (n + 1) 1 ls st μ g = (sGetR 4 4 4) (W n) ls st μ g := (hW n 1 ls st μ g).trans rfl
theorem wX4_offer_4 {l : Launch} {K : aRs} {X : aXs} {J : aK} {W : Nat → aK} (hW : isW (tbX4_offer l K X) cuX4_offer J W) (n : Nat) (ls st : List aV) (μ : aM) (g : Nat) : W (n + 1) 4 ls st μ g = (sLd 1 5 isI) (W n) ls st μ g := (hW n 4 ls st μ g).trans rfl
theorem wX4_offer_5 {l : Launch} {K : aRs} {X : aXs} {J : aK} {W : Nat → aK} (hW : isW (tbX4_offer l K X) cuX4_offer J W) (n : Nat) (ls st : List aV) (μ : aM) (g : Nat) : W (n + 1) 5 ls st μ g = (sLd 0 6 isR) (W n) ls st μ g := (hW n 5 ls st μ g).trans rfl
theorem wX4_offer_6 {l : Launch} {K : aRs} {X : aXs} {J : aK} {W : Nat → aK} (hW : isW (tbX4_offer l K X) cuX4_offer J W) (n : Nat) (ls st : List aV) (μ : aM) (g : Nat) : W (n + 1) 6 ls st μ g = (sGetR 4 1 9) (W n) ls st μ g := (hW n 6 ls st μ g).trans rfl
theorem wX4_offer_9 {l : Launch} {K : aRs} {X : aXs} {J : aK} {W : Nat → aK} (hW : isW (tbX4_offer l K X) cuX4_offer J W) (n : Nat) (ls st : List aV) (μ : aM) (g : Nat) : W (n + 1) 9 ls st μ g = (sLd 1 10 isI) (W n) ls st μ g := (hW n 9 ls st μ g).trans rfl
theorem wX4_offer_10 {l : Launch} {K : aRs} {X : aXs} {J : aK} {W : Nat → aK} (hW : isW (tbX4_offer l K X) cuX4_offer J W) (n : Nat) (ls st : List aV) (μ : aM) (g : Nat) : W (n + 1) 10 ls st μ g = (sCallV 1 1 (fun as μ K => Ct l mdX1_leftAtLeast as μ K X) 13 0 0) (W n) ls st μ g := (hW n 10 ls st μ g).trans rfl
theorem tX4_offer_13 (l : Launch) (K : aRs) (X : aXs) : tb (tbX4_offer l K X) 13 = sLd 0 14 isR := (rfl)
theorem wX4_offer_13 {l : Launch} {K : aRs} {X : aXs} {J : aK} {W : Nat → aK} (hW : isW (tbX4_offer l K X) cuX4_offer J W) (n : Nat) (ls st : List aV) (μ : aM) (g : Nat) : W (n + 1) 13 ls st μ g = J 13 ls st μ g := (hW n 13 ls st μ g).trans rfl
theorem wX4_offer_14 {l : Launch} {K : aRs} {X : aXs} {J : aK} {W : Nat → aK} (hW : isW (tbX4_offer l K X) cuX4_offer J W) (n : Nat) (ls st : List aV) (μ : aM) (g : Nat) : W (n + 1) 14 ls st μ g = (sGetR 4 2 17) (W n) ls st μ g := (hW n 14 ls st μ g).trans rfl
theorem wX4_offer_17 {l : Launch} {K : aRs} {X : aXs} {J : aK} {W : Nat → aK} (hW : isW (tbX4_offer l K X) cuX4_offer J W) (n : Nat) (ls st : List aV) (μ : aM) (g : Nat) : W (n + 1) 17 ls st μ g = (sLd 1 18 isI) (W n) ls st μ g := (hW n 17 ls st μ g).trans rfl
theorem wX4_offer_18 {l : Launch} {K : aRs} {X : aXs} {J : aK} {W : Nat → aK} (hW : isW (tbX4_offer l K X) cuX4_offer J W) (n : Nat) (ls st : List aV) (μ : aM) (g : Nat) : W (n + 1) 18 ls st μ g = (sCallV 1 1 (fun as μ K => Ct l mdX1_leftAtLeast as μ K X) 21 0 0) (W n) ls st μ g := (hW n 18 ls st μ g).trans rfl
theorem tX4_offer_21 (l : Launch) (K : aRs) (X : aXs) : tb (tbX4_offer l K X) 21 = sCallV 3 0 (fun as μ K => Ct l mdX0_take as μ K X) 24 0 0 := (rfl)
theorem wX4_offer_21 {l : Launch} {K : aRs} {X : aXs} {J : aK} {W : Nat → aK} (hW : isW (tbX4_offer l K X) cuX4_offer J W) (n : Nat) (ls st : List aV) (μ : aM) (g : Nat) : W (n + 1) 21 ls st μ g = J 21 ls st μ g := (hW n 21 ls st μ g).trans rfl
theorem tX4_offer_24 (l : Launch) (K : aRs) (X : aXs) : tb (tbX4_offer l K X) 24 = sRetV 0 K := (rfl)
theorem wX4_offer_24 {l : Launch} {K : aRs} {X : aXs} {J : aK} {W : Nat → aK} (hW : isW (tbX4_offer l K X) cuX4_offer J W) (n : Nat) (ls st : List aV) (μ : aM) (g : Nat) : W (n + 1) 24 ls st μ g = J 24 ls st μ g := (hW n 24 ls st μ g).trans rfl
theorem dX4_tradeFirstOrders_0 : decode cX4_tradeFirstOrders 0 = .ok (.iload_n 2, 1) := by decide +kernel
theorem dX4_tradeFirstOrders_1 : decode cX4_tradeFirstOrders 1 = .ok (.istore_n 3, 1) := by decide +kernel
theorem dX4_tradeFirstOrders_2 : decode cX4_tradeFirstOrders 2 = .ok (.iconst 0, 1) := by decide +kernel
theorem dX4_tradeFirstOrders_3 : decode cX4_tradeFirstOrders 3 = .ok (.istore 4, 2) := by decide +kernel
theorem dX4_tradeFirstOrders_5 : decode cX4_tradeFirstOrders 5 = .ok (.iload 4, 2) := by decide +kernel
theorem dX4_tradeFirstOrders_7 : decode cX4_tradeFirstOrders 7 = .ok (.bipush 60, 2) := by decide +kernel
theorem dX4_tradeFirstOrders_9 : decode cX4_tradeFirstOrders 9 = .ok (.if_icmp .ge 95, 3) := by decide +kernel
theorem dX4_tradeFirstOrders_12 : decode cX4_tradeFirstOrders 12 = .ok (.iload_n 3, 1) := by decide +kernel
theorem dX4_tradeFirstOrders_13 : decode cX4_tradeFirstOrders 13 = .ok (.ifCond .le 91, 3) := by decide +kernel
theorem dX4_tradeFirstOrders_16 : decode cX4_tradeFirstOrders 16 = .ok (.aload_n 0, 1) := by decide +kernel
theorem dX4_tradeFirstOrders_17 : decode cX4_tradeFirstOrders 17 = .ok (.getfield 20, 3) := by decide +kernel
theorem dX4_tradeFirstOrders_20 : decode cX4_tradeFirstOrders 20 = .ok (.getfield 171, 3) := by decide +kernel
theorem dX4_tradeFirstOrders_23 : decode cX4_tradeFirstOrders 23 = .ok (.astore 5, 2) := by decide +kernel
theorem dX4_tradeFirstOrders_25 : decode cX4_tradeFirstOrders 25 = .ok (.aload_n 0, 1) := by decide +kernel
theorem dX4_tradeFirstOrders_26 : decode cX4_tradeFirstOrders 26 = .ok (.getfield 24, 3) := by decide +kernel
theorem dX4_tradeFirstOrders_29 : decode cX4_tradeFirstOrders 29 = .ok (.getfield 171, 3) := by decide +kernel
theorem dX4_tradeFirstOrders_32 : decode cX4_tradeFirstOrders 32 = .ok (.astore 6, 2) := by decide +kernel
theorem dX4_tradeFirstOrders_34 : decode cX4_tradeFirstOrders 34 = .ok (.aload 5, 2) := by decide +kernel
theorem dX4_tradeFirstOrders_36 : decode cX4_tradeFirstOrders 36 = .ok (.ifnull 8, 3) := by decide +kernel
theorem dX4_tradeFirstOrders_39 : decode cX4_tradeFirstOrders 39 = .ok (.aload 6, 2) := by decide +kernel
theorem dX4_tradeFirstOrders_41 : decode cX4_tradeFirstOrders 41 = .ok (.ifnonnull 4, 3) := by decide +kernel
theorem dX4_tradeFirstOrders_44 : decode cX4_tradeFirstOrders 44 = .ok (.return_, 1) := by decide +kernel
theorem dX4_tradeFirstOrders_45 : decode cX4_tradeFirstOrders 45 = .ok (.iload_n 3, 1) := by decide +kernel
theorem dX4_tradeFirstOrders_46 : decode cX4_tradeFirstOrders 46 = .ok (.aload 5, 2) := by decide +kernel
theorem dX4_tradeFirstOrders_48 : decode cX4_tradeFirstOrders 48 = .ok (.getfield 113, 3) := by decide +kernel
theorem dX4_tradeFirstOrders_51 : decode cX4_tradeFirstOrders 51 = .ok (.aload 6, 2) := by decide +kernel
theorem dX4_tradeFirstOrders_53 : decode cX4_tradeFirstOrders 53 = .ok (.getfield 113, 3) := by decide +kernel
theorem dX4_tradeFirstOrders_56 : decode cX4_tradeFirstOrders 56 = .ok (.invokestatic 119, 3) := by decide +kernel
theorem dX4_tradeFirstOrders_59 : decode cX4_tradeFirstOrders 59 = .ok (.invokestatic 119, 3) := by decide +kernel
theorem dX4_tradeFirstOrders_62 : decode cX4_tradeFirstOrders 62 = .ok (.istore 7, 2) := by decide +kernel
theorem dX4_tradeFirstOrders_64 : decode cX4_tradeFirstOrders 64 = .ok (.aload_n 0, 1) := by decide +kernel
theorem dX4_tradeFirstOrders_65 : decode cX4_tradeFirstOrders 65 = .ok (.aload 5, 2) := by decide +kernel
theorem dX4_tradeFirstOrders_67 : decode cX4_tradeFirstOrders 67 = .ok (.aload 6, 2) := by decide +kernel
theorem dX4_tradeFirstOrders_69 : decode cX4_tradeFirstOrders 69 = .ok (.iload_n 1, 1) := by decide +kernel
theorem dX4_tradeFirstOrders_70 : decode cX4_tradeFirstOrders 70 = .ok (.iload 7, 2) := by decide +kernel
theorem dX4_tradeFirstOrders_72 : decode cX4_tradeFirstOrders 72 = .ok (.invokevirtual 260, 3) := by decide +kernel
theorem dX4_tradeFirstOrders_75 : decode cX4_tradeFirstOrders 75 = .ok (.aload_n 0, 1) := by decide +kernel
theorem dX4_tradeFirstOrders_76 : decode cX4_tradeFirstOrders 76 = .ok (.getfield 20, 3) := by decide +kernel
theorem dX4_tradeFirstOrders_79 : decode cX4_tradeFirstOrders 79 = .ok (.aload 5, 2) := by decide +kernel
theorem dX4_tradeFirstOrders_81 : decode cX4_tradeFirstOrders 81 = .ok (.invokevirtual 312, 3) := by decide +kernel
theorem dX4_tradeFirstOrders_84 : decode cX4_tradeFirstOrders 84 = .ok (.aload_n 0, 1) := by decide +kernel
theorem dX4_tradeFirstOrders_85 : decode cX4_tradeFirstOrders 85 = .ok (.getfield 24, 3) := by decide +kernel
theorem dX4_tradeFirstOrders_88 : decode cX4_tradeFirstOrders 88 = .ok (.aload 6, 2) := by decide +kernel
theorem dX4_tradeFirstOrders_90 : decode cX4_tradeFirstOrders 90 = .ok (.invokevirtual 312, 3) := by decide +kernel
theorem dX4_tradeFirstOrders_93 : decode cX4_tradeFirstOrders 93 = .ok (.iload_n 3, 1) := by decide +kernel
theorem dX4_tradeFirstOrders_94 : decode cX4_tradeFirstOrders 94 = .ok (.iload 7, 2) := by decide +kernel
theorem dX4_tradeFirstOrders_96 : decode cX4_tradeFirstOrders 96 = .ok (.isub, 1) := by decide +kernel
theorem dX4_tradeFirstOrders_97 : decode cX4_tradeFirstOrders 97 = .ok (.istore_n 3, 1) := by decide +kernel
theorem dX4_tradeFirstOrders_98 : decode cX4_tradeFirstOrders 98 = .ok (.iinc 4 1, 3) := by decide +kernel
theorem dX4_tradeFirstOrders_101 : decode cX4_tradeFirstOrders 101 = .ok (.goto (-96), 3) := by decide +kernel
theorem dX4_tradeFirstOrders_104 : decode cX4_tradeFirstOrders 104 = .ok (.return_, 1) := by decide +kernel
def tbX4_tradeFirstOrders (l : Launch) (K : aRs) (X : aXs) : aTb := [
  (0, sLd 2 1 isI),
  (1, sSt 3 2 isI),
  (2, sPush (aI 0) 3),
  (3, sSt 4 5 isI),
  (5, sLd 4 7 isI),
  (7, sPush (aI 60) 9),
  (9, sIc qGe 104 12),
  (12, sLd 3 13 isI),
  (13, sIf pLe 104 16),
  (16, sLd 0 17 isR),
  (17, sGetR 4 1 20),
  (20, sGetR 1 1 23),
  (23, sSt 5 25 isR),
  (25, sLd 0 26 isR),
  (26, sGetR 4 2 29),
  (29, sGetR 1 1 32),
  (32, sSt 6 34 isR),
  (34, sLd 5 36 isR),
  (36, sNul 44 39),
  (39, sLd 6 41 isR),
  (41, sNn 45 44),
  (44, sRetV 0 K),
  (45, sLd 3 46 isI),
  (46, sLd 5 48 isR),
  (48, sGetI 2 6 51),
  (51, sLd 6 53 isR),
  (53, sGetI 2 6 56),
  (56, sMath (sMin 59) 0),
  (59, sMath (sMin 62) 0),
  (62, sSt 7 64 isI),
  (64, sLd 0 65 isR),
  (65, sLd 5 67 isR),
  (67, sLd 6 69 isR),
  (69, sLd 1 70 isI),
  (70, sLd 7 72 isI),
  (72, sCallV 4 4 (fun as μ K => Ct l mdX4_trade as μ K X) 75 0 0),
  (75, sLd 0 76 isR),
  (76, sGetR 4 1 79),
  (79, sLd 5 81 isR),
  (81, sCallV 1 1 (fun as μ K => Ct l mdX1_dropIfFilled as μ K X) 84 0 0),
  (84, sLd 0 85 isR),
  (85, sGetR 4 2 88),
  (88, sLd 6 90 isR),
  (90, sCallV 1 1 (fun as μ K => Ct l mdX1_dropIfFilled as μ K X) 93 0 0),
  (93, sLd 3 94 isI),
  (94, sLd 7 96 isI),
  (96, sBin fSub 97),
  (97, sSt 3 98 isI),
  (98, sInc 4 1 101),
  (101, sGoto 5),
  (104, sRetV 0 K)]
theorem snX4_tradeFirstOrders (l : Launch) (K : aRs) (X : aXs) (n0 : Nat) : ∀ q ∈ tbX4_tradeFirstOrders l K X, aSo l mdX4_tradeFirstOrders K X n0 q.1 q.2 :=
  tc (fun p e s m args below meth c cA D A ad0 h => ok_iload_n h.1 2 rfl dX4_tradeFirstOrders_0) <|
  tc (fun p e s m args below meth c cA D A ad0 h => ok_istore_n h.1 3 rfl (by decide) dX4_tradeFirstOrders_1) <|
  tc (fun p e s m args below meth c cA D A ad0 h => ok_iconst h.1 ⟨by decide, by decide⟩ dX4_tradeFirstOrders_2) <|
  tc (fun p e s m args below meth c cA D A ad0 h => ok_istore h.1 (by decide) dX4_tradeFirstOrders_3) <|
  tc (fun p e s m args below meth c cA D A ad0 h => ok_iload h.1 dX4_tradeFirstOrders_5) <|
  tc (fun p e s m args below meth c cA D A ad0 h => ok_bipush h.1 ⟨by decide, by decide⟩ (by decide) dX4_tradeFirstOrders_7) <|
  tc (fun p e s m args below meth c cA D A ad0 h => ok_icmp_ge h.1 104 (by decide) dX4_tradeFirstOrders_9) <|
  tc (fun p e s m args below meth c cA D A ad0 h => ok_iload_n h.1 3 rfl dX4_tradeFirstOrders_12) <|
  tc (fun p e s m args below meth c cA D A ad0 h => ok_if_le h.1 104 (by decide) dX4_tradeFirstOrders_13) <|
  tc (fun p e s m args below meth c cA D A ad0 h => ok_aload_n h.1 0 rfl dX4_tradeFirstOrders_16) <|
  tc (fun p e s m args below meth c cA D A ad0 h => ok_getR h.1 cxX4 (by decide) rfl fkRX4_20 (fun _ _ _ => rfl) dX4_tradeFirstOrders_17) <|
  tc (fun p e s m args below meth c cA D A ad0 h => ok_getR h.1 cxX1 (by decide) rfl fkRX4_171 (fun _ _ _ => rfl) dX4_tradeFirstOrders_20) <|
  tc (fun p e s m args below meth c cA D A ad0 h => ok_astore h.1 (by decide) dX4_tradeFirstOrders_23) <|
  tc (fun p e s m args below meth c cA D A ad0 h => ok_aload_n h.1 0 rfl dX4_tradeFirstOrders_25) <|
  tc (fun p e s m args below meth c cA D A ad0 h => ok_getR h.1 cxX4 (by decide) rfl fkRX4_24 (fun _ _ _ => rfl) dX4_tradeFirstOrders_26) <|
  tc (fun p e s m args below meth c cA D A ad0 h => ok_getR h.1 cxX1 (by decide) rfl fkRX4_171 (fun _ _ _ => rfl) dX4_tradeFirstOrders_29) <|
  tc (fun p e s m args below meth c cA D A ad0 h => ok_astore h.1 (by decide) dX4_tradeFirstOrders_32) <|
  tc (fun p e s m args below meth c cA D A ad0 h => ok_aload h.1 dX4_tradeFirstOrders_34) <|
  tc (fun p e s m args below meth c cA D A ad0 h => ok_ifnull h.1 44 (by decide) dX4_tradeFirstOrders_36) <|
  tc (fun p e s m args below meth c cA D A ad0 h => ok_aload h.1 dX4_tradeFirstOrders_39) <|
  tc (fun p e s m args below meth c cA D A ad0 h => ok_ifnonnull h.1 45 (by decide) dX4_tradeFirstOrders_41) <|
  tc (fun p e s m args below meth c cA D A ad0 h => ok_return h.1 h.2.2.2.1 dX4_tradeFirstOrders_44) <|
  tc (fun p e s m args below meth c cA D A ad0 h => ok_iload_n h.1 3 rfl dX4_tradeFirstOrders_45) <|
  tc (fun p e s m args below meth c cA D A ad0 h => ok_aload h.1 dX4_tradeFirstOrders_46) <|
  tc (fun p e s m args below meth c cA D A ad0 h => ok_getI h.1 cxX2 (by decide) rfl fkRX4_113 (fun _ _ _ => rfl) dX4_tradeFirstOrders_48) <|
  tc (fun p e s m args below meth c cA D A ad0 h => ok_aload h.1 dX4_tradeFirstOrders_51) <|
  tc (fun p e s m args below meth c cA D A ad0 h => ok_getI h.1 cxX2 (by decide) rfl fkRX4_113 (fun _ _ _ => rfl) dX4_tradeFirstOrders_53) <|
  tc (fun p e s m args below meth c cA D A ad0 h => ok_min h.1 ⟨Nat.le_refl _, Nat.le_refl _⟩ mkRX4_119 smath_min nimath kmath_min dX4_tradeFirstOrders_56) <|
  tc (fun p e s m args below meth c cA D A ad0 h => ok_min h.1 ⟨Nat.le_refl _, Nat.le_refl _⟩ mkRX4_119 smath_min nimath kmath_min dX4_tradeFirstOrders_59) <|
  tc (fun p e s m args below meth c cA D A ad0 h => ok_istore h.1 (by decide) dX4_tradeFirstOrders_62) <|
  tc (fun p e s m args below meth c cA D A ad0 h => ok_aload_n h.1 0 rfl dX4_tradeFirstOrders_64) <|
  tc (fun p e s m args below meth c cA D A ad0 h => ok_aload h.1 dX4_tradeFirstOrders_65) <|
  tc (fun p e s m args below meth c cA D A ad0 h => ok_aload h.1 dX4_tradeFirstOrders_67) <|
  tc (fun p e s m args below meth c cA D A ad0 h => ok_iload_n h.1 1 rfl dX4_tradeFirstOrders_69) <|
  tc (fun p e s m args below meth c cA D A ad0 h => ok_iload h.1 dX4_tradeFirstOrders_70) <|
  tc (fun p e s m args below meth c cA D A ad0 h => ok_callV h.1 h.2.1 ⟨Nat.le_refl _, Nat.le_refl _⟩ mdX4_trade siX4_trade cxX4 mkRX4_260 imX4_trade seX4_trade ⟨by decide, by decide⟩ (aAx_out h.1 h.2.2.1 _) dX4_tradeFirstOrders_72) <|
  tc (fun p e s m args below meth c cA D A ad0 h => ok_aload_n h.1 0 rfl dX4_tradeFirstOrders_75) <|
  tc (fun p e s m args below meth c cA D A ad0 h => ok_getR h.1 cxX4 (by decide) rfl fkRX4_20 (fun _ _ _ => rfl) dX4_tradeFirstOrders_76) <|
  tc (fun p e s m args below meth c cA D A ad0 h => ok_aload h.1 dX4_tradeFirstOrders_79) <|
  tc (fun p e s m args below meth c cA D A ad0 h => ok_callV h.1 h.2.1 ⟨Nat.le_refl _, Nat.le_refl _⟩ mdX1_dropIfFilled siX1_dropIfFilled cxX1 mkRX4_312 imX1_dropIfFilled seX1_dropIfFilled ⟨by decide, by decide⟩ (aAx_out h.1 h.2.2.1 _) dX4_tradeFirstOrders_81) <|
  tc (fun p e s m args below meth c cA D A ad0 h => ok_aload_n h.1 0 rfl dX4_tradeFirstOrders_84) <|
  tc (fun p e s m args below meth c cA D A ad0 h => ok_getR h.1 cxX4 (by decide) rfl fkRX4_24 (fun _ _ _ => rfl) dX4_tradeFirstOrders_85) <|
  tc (fun p e s m args below meth c cA D A ad0 h => ok_aload h.1 dX4_tradeFirstOrders_88) <|
  tc (fun p e s m args below meth c cA D A ad0 h => ok_callV h.1 h.2.1 ⟨Nat.le_refl _, Nat.le_refl _⟩ mdX1_dropIfFilled siX1_dropIfFilled cxX1 mkRX4_312 imX1_dropIfFilled seX1_dropIfFilled ⟨by decide, by decide⟩ (aAx_out h.1 h.2.2.1 _) dX4_tradeFirstOrders_90) <|
  tc (fun p e s m args below meth c cA D A ad0 h => ok_iload_n h.1 3 rfl dX4_tradeFirstOrders_93) <|
  tc (fun p e s m args below meth c cA D A ad0 h => ok_iload h.1 dX4_tradeFirstOrders_94) <|
  tc (fun p e s m args below meth c cA D A ad0 h => ok_isub h.1 dX4_tradeFirstOrders_96) <|
  tc (fun p e s m args below meth c cA D A ad0 h => ok_istore_n h.1 3 rfl (by decide) dX4_tradeFirstOrders_97) <|
  tc (fun p e s m args below meth c cA D A ad0 h => ok_iinc h.1 (by decide) dX4_tradeFirstOrders_98) <|
  tc (fun p e s m args below meth c cA D A ad0 h => ok_goto h.1 5 (by decide) dX4_tradeFirstOrders_101) <|
  tc (fun p e s m args below meth c cA D A ad0 h => ok_return h.1 h.2.2.2.1 dX4_tradeFirstOrders_104) <|
  tn
abbrev cuX4_tradeFirstOrders : List Nat := [5, 75, 84, 93]
theorem tX4_tradeFirstOrders_0 (l : Launch) (K : aRs) (X : aXs) : tb (tbX4_tradeFirstOrders l K X) 0 = sLd 2 1 isI := (rfl)
theorem wX4_tradeFirstOrders_0 {l : Launch} {K : aRs} {X : aXs} {J : aK} {W : Nat → aK} (hW : isW (tbX4_tradeFirstOrders l K X) cuX4_tradeFirstOrders J W) (n : Nat) (ls st : List aV) (μ : aM) (g : Nat) : W (n + 1) 0 ls st μ g = (sLd 2 1 isI) (W n) ls st μ g := (hW n 0 ls st μ g).trans rfl
theorem wX4_tradeFirstOrders_1 {l : Launch} {K : aRs} {X : aXs} {J : aK} {W : Nat → aK} (hW : isW (tbX4_tradeFirstOrders l K X) cuX4_tradeFirstOrders J W) (n : Nat) (ls st : List aV) (μ : aM) (g : Nat) : W (n + 1) 1 ls st μ g = (sSt 3 2 isI) (W n) ls st μ g := (hW n 1 ls st μ g).trans rfl
theorem wX4_tradeFirstOrders_2 {l : Launch} {K : aRs} {X : aXs} {J : aK} {W : Nat → aK} (hW : isW (tbX4_tradeFirstOrders l K X) cuX4_tradeFirstOrders J W) (n : Nat) (ls st : List aV) (μ : aM) (g : Nat) : W (n + 1) 2 ls st μ g = (sPush (aI 0) 3) (W n) ls st μ g := (hW n 2 ls st μ g).trans rfl
theorem wX4_tradeFirstOrders_3 {l : Launch} {K : aRs} {X : aXs} {J : aK} {W : Nat → aK} (hW : isW (tbX4_tradeFirstOrders l K X) cuX4_tradeFirstOrders J W) (n : Nat) (ls st : List aV) (μ : aM) (g : Nat) : W (n + 1) 3 ls st μ g = (sSt 4 5 isI) (W n) ls st μ g := (hW n 3 ls st μ g).trans rfl
theorem tX4_tradeFirstOrders_5 (l : Launch) (K : aRs) (X : aXs) : tb (tbX4_tradeFirstOrders l K X) 5 = sLd 4 7 isI := (rfl)
theorem wX4_tradeFirstOrders_5 {l : Launch} {K : aRs} {X : aXs} {J : aK} {W : Nat → aK} (hW : isW (tbX4_tradeFirstOrders l K X) cuX4_tradeFirstOrders J W) (n : Nat) (ls st : List aV) (μ : aM) (g : Nat) : W (n + 1) 5 ls st μ g = J 5 ls st μ g := (hW n 5 ls st μ g).trans rfl
theorem wX4_tradeFirstOrders_7 {l : Launch} {K : aRs} {X : aXs} {J : aK} {W : Nat → aK} (hW : isW (tbX4_tradeFirstOrders l K X) cuX4_tradeFirstOrders J W) (n : Nat) (ls st : List aV) (μ : aM) (g : Nat) : W (n + 1) 7 ls st μ g = (sPush (aI 60) 9) (W n) ls st μ g := (hW n 7 ls st μ g).trans rfl
theorem wX4_tradeFirstOrders_9 {l : Launch} {K : aRs} {X : aXs} {J : aK} {W : Nat → aK} (hW : isW (tbX4_tradeFirstOrders l K X) cuX4_tradeFirstOrders J W) (n : Nat) (ls st : List aV) (μ : aM) (g : Nat) : W (n + 1) 9 ls st μ g = (sIc qGe 104 12) (W n) ls st μ g := (hW n 9 ls st μ g).trans rfl
theorem wX4_tradeFirstOrders_12 {l : Launch} {K : aRs} {X : aXs} {J : aK} {W : Nat → aK} (hW : isW (tbX4_tradeFirstOrders l K X) cuX4_tradeFirstOrders J W) (n : Nat) (ls st : List aV) (μ : aM) (g : Nat) : W (n + 1) 12 ls st μ g = (sLd 3 13 isI) (W n) ls st μ g := (hW n 12 ls st μ g).trans rfl
theorem wX4_tradeFirstOrders_13 {l : Launch} {K : aRs} {X : aXs} {J : aK} {W : Nat → aK} (hW : isW (tbX4_tradeFirstOrders l K X) cuX4_tradeFirstOrders J W) (n : Nat) (ls st : List aV) (μ : aM) (g : Nat) : W (n + 1) 13 ls st μ g = (sIf pLe 104 16) (W n) ls st μ g := (hW n 13 ls st μ g).trans rfl
theorem wX4_tradeFirstOrders_16 {l : Launch} {K : aRs} {X : aXs} {J : aK} {W : Nat → aK} (hW : isW (tbX4_tradeFirstOrders l K X) cuX4_tradeFirstOrders J W) (n : Nat) (ls st : List aV) (μ : aM) (g : Nat) : W (n + 1) 16 ls st μ g = (sLd 0 17 isR) (W n) ls st μ g := (hW n 16 ls st μ g).trans rfl
theorem wX4_tradeFirstOrders_17 {l : Launch} {K : aRs} {X : aXs} {J : aK} {W : Nat → aK} (hW : isW (tbX4_tradeFirstOrders l K X) cuX4_tradeFirstOrders J W) (n : Nat) (ls st : List aV) (μ : aM) (g : Nat) : W (n + 1) 17 ls st μ g = (sGetR 4 1 20) (W n) ls st μ g := (hW n 17 ls st μ g).trans rfl
theorem wX4_tradeFirstOrders_20 {l : Launch} {K : aRs} {X : aXs} {J : aK} {W : Nat → aK} (hW : isW (tbX4_tradeFirstOrders l K X) cuX4_tradeFirstOrders J W) (n : Nat) (ls st : List aV) (μ : aM) (g : Nat) : W (n + 1) 20 ls st μ g = (sGetR 1 1 23) (W n) ls st μ g := (hW n 20 ls st μ g).trans rfl
theorem wX4_tradeFirstOrders_23 {l : Launch} {K : aRs} {X : aXs} {J : aK} {W : Nat → aK} (hW : isW (tbX4_tradeFirstOrders l K X) cuX4_tradeFirstOrders J W) (n : Nat) (ls st : List aV) (μ : aM) (g : Nat) : W (n + 1) 23 ls st μ g = (sSt 5 25 isR) (W n) ls st μ g := (hW n 23 ls st μ g).trans rfl
theorem wX4_tradeFirstOrders_25 {l : Launch} {K : aRs} {X : aXs} {J : aK} {W : Nat → aK} (hW : isW (tbX4_tradeFirstOrders l K X) cuX4_tradeFirstOrders J W) (n : Nat) (ls st : List aV) (μ : aM) (g : Nat) : W (n + 1) 25 ls st μ g = (sLd 0 26 isR) (W n) ls st μ g := (hW n 25 ls st μ g).trans rfl
theorem wX4_tradeFirstOrders_26 {l : Launch} {K : aRs} {X : aXs} {J : aK} {W : Nat → aK} (hW : isW (tbX4_tradeFirstOrders l K X) cuX4_tradeFirstOrders J W) (n : Nat) (ls st : List aV) (μ : aM) (g : Nat) : W (n + 1) 26 ls st μ g = (sGetR 4 2 29) (W n) ls st μ g := (hW n 26 ls st μ g).trans rfl
theorem wX4_tradeFirstOrders_29 {l : Launch} {K : aRs} {X : aXs} {J : aK} {W : Nat → aK} (hW : isW (tbX4_tradeFirstOrders l K X) cuX4_tradeFirstOrders J W) (n : Nat) (ls st : List aV) (μ : aM) (g : Nat) : W (n + 1) 29 ls st μ g = (sGetR 1 1 32) (W n) ls st μ g := (hW n 29 ls st μ g).trans rfl
theorem wX4_tradeFirstOrders_32 {l : Launch} {K : aRs} {X : aXs} {J : aK} {W : Nat → aK} (hW : isW (tbX4_tradeFirstOrders l K X) cuX4_tradeFirstOrders J W) (n : Nat) (ls st : List aV) (μ : aM) (g : Nat) : W (n + 1) 32 ls st μ g = (sSt 6 34 isR) (W n) ls st μ g := (hW n 32 ls st μ g).trans rfl
theorem wX4_tradeFirstOrders_34 {l : Launch} {K : aRs} {X : aXs} {J : aK} {W : Nat → aK} (hW : isW (tbX4_tradeFirstOrders l K X) cuX4_tradeFirstOrders J W) (n : Nat) (ls st : List aV) (μ : aM) (g : Nat) : W (n + 1) 34 ls st μ g = (sLd 5 36 isR) (W n) ls st μ g := (hW n 34 ls st μ g).trans rfl
theorem wX4_tradeFirstOrders_36 {l : Launch} {K : aRs} {X : aXs} {J : aK} {W : Nat → aK} (hW : isW (tbX4_tradeFirstOrders l K X) cuX4_tradeFirstOrders J W) (n : Nat) (ls st : List aV) (μ : aM) (g : Nat) : W (n + 1) 36 ls st μ g = (sNul 44 39) (W n) ls st μ g := (hW n 36 ls st μ g).trans rfl
theorem wX4_tradeFirstOrders_39 {l : Launch} {K : aRs} {X : aXs} {J : aK} {W : Nat → aK} (hW : isW (tbX4_tradeFirstOrders l K X) cuX4_tradeFirstOrders J W) (n : Nat) (ls st : List aV) (μ : aM) (g : Nat) : W (n + 1) 39 ls st μ g = (sLd 6 41 isR) (W n) ls st μ g := (hW n 39 ls st μ g).trans rfl
theorem wX4_tradeFirstOrders_41 {l : Launch} {K : aRs} {X : aXs} {J : aK} {W : Nat → aK} (hW : isW (tbX4_tradeFirstOrders l K X) cuX4_tradeFirstOrders J W) (n : Nat) (ls st : List aV) (μ : aM) (g : Nat) : W (n + 1) 41 ls st μ g = (sNn 45 44) (W n) ls st μ g := (hW n 41 ls st μ g).trans rfl
theorem wX4_tradeFirstOrders_44 {l : Launch} {K : aRs} {X : aXs} {J : aK} {W : Nat → aK} (hW : isW (tbX4_tradeFirstOrders l K X) cuX4_tradeFirstOrders J W) (n : Nat) (ls st : List aV) (μ : aM) (g : Nat) : W (n + 1) 44 ls st μ g = (sRetV 0 K) (W n) ls st μ g := (hW n 44 ls st μ g).trans rfl
theorem wX4_tradeFirstOrders_45 {l : Launch} {K : aRs} {X : aXs} {J : aK} {W : Nat → aK} (hW : isW (tbX4_tradeFirstOrders l K X) cuX4_tradeFirstOrders J W) (n : Nat) (ls st : List aV) (μ : aM) (g : Nat) : W (n + 1) 45 ls st μ g = (sLd 3 46 isI) (W n) ls st μ g := (hW n 45 ls st μ g).trans rfl
theorem wX4_tradeFirstOrders_46 {l : Launch} {K : aRs} {X : aXs} {J : aK} {W : Nat → aK} (hW : isW (tbX4_tradeFirstOrders l K X) cuX4_tradeFirstOrders J W) (n : Nat) (ls st : List aV) (μ : aM) (g : Nat) : W (n + 1) 46 ls st μ g = (sLd 5 48 isR) (W n) ls st μ g := (hW n 46 ls st μ g).trans rfl
theorem wX4_tradeFirstOrders_48 {l : Launch} {K : aRs} {X : aXs} {J : aK} {W : Nat → aK} (hW : isW (tbX4_tradeFirstOrders l K X) cuX4_tradeFirstOrders J W) (n : Nat) (ls st : List aV) (μ : aM) (g : Nat) : W (n + 1) 48 ls st μ g = (sGetI 2 6 51) (W n) ls st μ g := (hW n 48 ls st μ g).trans rfl
theorem wX4_tradeFirstOrders_51 {l : Launch} {K : aRs} {X : aXs} {J : aK} {W : Nat → aK} (hW : isW (tbX4_tradeFirstOrders l K X) cuX4_tradeFirstOrders J W) (n : Nat) (ls st : List aV) (μ : aM) (g : Nat) : W (n + 1) 51 ls st μ g = (sLd 6 53 isR) (W n) ls st μ g := (hW n 51 ls st μ g).trans rfl
theorem wX4_tradeFirstOrders_53 {l : Launch} {K : aRs} {X : aXs} {J : aK} {W : Nat → aK} (hW : isW (tbX4_tradeFirstOrders l K X) cuX4_tradeFirstOrders J W) (n : Nat) (ls st : List aV) (μ : aM) (g : Nat) : W (n + 1) 53 ls st μ g = (sGetI 2 6 56) (W n) ls st μ g := (hW n 53 ls st μ g).trans rfl
theorem wX4_tradeFirstOrders_56 {l : Launch} {K : aRs} {X : aXs} {J : aK} {W : Nat → aK} (hW : isW (tbX4_tradeFirstOrders l K X) cuX4_tradeFirstOrders J W) (n : Nat) (ls st : List aV) (μ : aM) (g : Nat) : W (n + 1) 56 ls st μ g = (sMath (sMin 59) 0) (W n) ls st μ g := (hW n 56 ls st μ g).trans rfl
theorem wX4_tradeFirstOrders_59 {l : Launch} {K : aRs} {X : aXs} {J : aK} {W : Nat → aK} (hW : isW (tbX4_tradeFirstOrders l K X) cuX4_tradeFirstOrders J W) (n : Nat) (ls st : List aV) (μ : aM) (g : Nat) : W (n + 1) 59 ls st μ g = (sMath (sMin 62) 0) (W n) ls st μ g := (hW n 59 ls st μ g).trans rfl
theorem wX4_tradeFirstOrders_62 {l : Launch} {K : aRs} {X : aXs} {J : aK} {W : Nat → aK} (hW : isW (tbX4_tradeFirstOrders l K X) cuX4_tradeFirstOrders J W) (n : Nat) (ls st : List aV) (μ : aM) (g : Nat) : W (n + 1) 62 ls st μ g = (sSt 7 64 isI) (W n) ls st μ g := (hW n 62 ls st μ g).trans rfl
theorem wX4_tradeFirstOrders_64 {l : Launch} {K : aRs} {X : aXs} {J : aK} {W : Nat → aK} (hW : isW (tbX4_tradeFirstOrders l K X) cuX4_tradeFirstOrders J W) (n : Nat) (ls st : List aV) (μ : aM) (g : Nat) : W (n + 1) 64 ls st μ g = (sLd 0 65 isR) (W n) ls st μ g := (hW n 64 ls st μ g).trans rfl
theorem wX4_tradeFirstOrders_65 {l : Launch} {K : aRs} {X : aXs} {J : aK} {W : Nat → aK} (hW : isW (tbX4_tradeFirstOrders l K X) cuX4_tradeFirstOrders J W) (n : Nat) (ls st : List aV) (μ : aM) (g : Nat) : W (n + 1) 65 ls st μ g = (sLd 5 67 isR) (W n) ls st μ g := (hW n 65 ls st μ g).trans rfl
theorem wX4_tradeFirstOrders_67 {l : Launch} {K : aRs} {X : aXs} {J : aK} {W : Nat → aK} (hW : isW (tbX4_tradeFirstOrders l K X) cuX4_tradeFirstOrders J W) (n : Nat) (ls st : List aV) (μ : aM) (g : Nat) : W (n + 1) 67 ls st μ g = (sLd 6 69 isR) (W n) ls st μ g := (hW n 67 ls st μ g).trans rfl
theorem wX4_tradeFirstOrders_69 {l : Launch} {K : aRs} {X : aXs} {J : aK} {W : Nat → aK} (hW : isW (tbX4_tradeFirstOrders l K X) cuX4_tradeFirstOrders J W) (n : Nat) (ls st : List aV) (μ : aM) (g : Nat) : W (n + 1) 69 ls st μ g = (sLd 1 70 isI) (W n) ls st μ g := (hW n 69 ls st μ g).trans rfl
theorem wX4_tradeFirstOrders_70 {l : Launch} {K : aRs} {X : aXs} {J : aK} {W : Nat → aK} (hW : isW (tbX4_tradeFirstOrders l K X) cuX4_tradeFirstOrders J W) (n : Nat) (ls st : List aV) (μ : aM) (g : Nat) : W (n + 1) 70 ls st μ g = (sLd 7 72 isI) (W n) ls st μ g := (hW n 70 ls st μ g).trans rfl
theorem wX4_tradeFirstOrders_72 {l : Launch} {K : aRs} {X : aXs} {J : aK} {W : Nat → aK} (hW : isW (tbX4_tradeFirstOrders l K X) cuX4_tradeFirstOrders J W) (n : Nat) (ls st : List aV) (μ : aM) (g : Nat) : W (n + 1) 72 ls st μ g = (sCallV 4 4 (fun as μ K => Ct l mdX4_trade as μ K X) 75 0 0) (W n) ls st μ g := (hW n 72 ls st μ g).trans rfl
theorem tX4_tradeFirstOrders_75 (l : Launch) (K : aRs) (X : aXs) : tb (tbX4_tradeFirstOrders l K X) 75 = sLd 0 76 isR := (rfl)
theorem wX4_tradeFirstOrders_75 {l : Launch} {K : aRs} {X : aXs} {J : aK} {W : Nat → aK} (hW : isW (tbX4_tradeFirstOrders l K X) cuX4_tradeFirstOrders J W) (n : Nat) (ls st : List aV) (μ : aM) (g : Nat) : W (n + 1) 75 ls st μ g = J 75 ls st μ g := (hW n 75 ls st μ g).trans rfl
theorem wX4_tradeFirstOrders_76 {l : Launch} {K : aRs} {X : aXs} {J : aK} {W : Nat → aK} (hW : isW (tbX4_tradeFirstOrders l K X) cuX4_tradeFirstOrders J W) (n : Nat) (ls st : List aV) (μ : aM) (g : Nat) : W (n + 1) 76 ls st μ g = (sGetR 4 1 79) (W n) ls st μ g := (hW n 76 ls st μ g).trans rfl
theorem wX4_tradeFirstOrders_79 {l : Launch} {K : aRs} {X : aXs} {J : aK} {W : Nat → aK} (hW : isW (tbX4_tradeFirstOrders l K X) cuX4_tradeFirstOrders J W) (n : Nat) (ls st : List aV) (μ : aM) (g : Nat) : W (n + 1) 79 ls st μ g = (sLd 5 81 isR) (W n) ls st μ g := (hW n 79 ls st μ g).trans rfl
theorem wX4_tradeFirstOrders_81 {l : Launch} {K : aRs} {X : aXs} {J : aK} {W : Nat → aK} (hW : isW (tbX4_tradeFirstOrders l K X) cuX4_tradeFirstOrders J W) (n : Nat) (ls st : List aV) (μ : aM) (g : Nat) : W (n + 1) 81 ls st μ g = (sCallV 1 1 (fun as μ K => Ct l mdX1_dropIfFilled as μ K X) 84 0 0) (W n) ls st μ g := (hW n 81 ls st μ g).trans rfl
theorem tX4_tradeFirstOrders_84 (l : Launch) (K : aRs) (X : aXs) : tb (tbX4_tradeFirstOrders l K X) 84 = sLd 0 85 isR := (rfl)
theorem wX4_tradeFirstOrders_84 {l : Launch} {K : aRs} {X : aXs} {J : aK} {W : Nat → aK} (hW : isW (tbX4_tradeFirstOrders l K X) cuX4_tradeFirstOrders J W) (n : Nat) (ls st : List aV) (μ : aM) (g : Nat) : W (n + 1) 84 ls st μ g = J 84 ls st μ g := (hW n 84 ls st μ g).trans rfl
theorem wX4_tradeFirstOrders_85 {l : Launch} {K : aRs} {X : aXs} {J : aK} {W : Nat → aK} (hW : isW (tbX4_tradeFirstOrders l K X) cuX4_tradeFirstOrders J W) (n : Nat) (ls st : List aV) (μ : aM) (g : Nat) : W (n + 1) 85 ls st μ g = (sGetR 4 2 88) (W n) ls st μ g := (hW n 85 ls st μ g).trans rfl
theorem wX4_tradeFirstOrders_88 {l : Launch} {K : aRs} {X : aXs} {J : aK} {W : Nat → aK} (hW : isW (tbX4_tradeFirstOrders l K X) cuX4_tradeFirstOrders J W) (n : Nat) (ls st : List aV) (μ : aM) (g : Nat) : W (n + 1) 88 ls st μ g = (sLd 6 90 isR) (W n) ls st μ g := (hW n 88 ls st μ g).trans rfl
theorem wX4_tradeFirstOrders_90 {l : Launch} {K : aRs} {X : aXs} {J : aK} {W : Nat → aK} (hW : isW (tbX4_tradeFirstOrders l K X) cuX4_tradeFirstOrders J W) (n : Nat) (ls st : List aV) (μ : aM) (g : Nat) : W (n + 1) 90 ls st μ g = (sCallV 1 1 (fun as μ K => Ct l mdX1_dropIfFilled as μ K X) 93 0 0) (W n) ls st μ g := (hW n 90 ls st μ g).trans rfl
theorem tX4_tradeFirstOrders_93 (l : Launch) (K : aRs) (X : aXs) : tb (tbX4_tradeFirstOrders l K X) 93 = sLd 3 94 isI := (rfl)
theorem wX4_tradeFirstOrders_93 {l : Launch} {K : aRs} {X : aXs} {J : aK} {W : Nat → aK} (hW : isW (tbX4_tradeFirstOrders l K X) cuX4_tradeFirstOrders J W) (n : Nat) (ls st : List aV) (μ : aM) (g : Nat) : W (n + 1) 93 ls st μ g = J 93 ls st μ g := (hW n 93 ls st μ g).trans rfl
theorem wX4_tradeFirstOrders_94 {l : Launch} {K : aRs} {X : aXs} {J : aK} {W : Nat → aK} (hW : isW (tbX4_tradeFirstOrders l K X) cuX4_tradeFirstOrders J W) (n : Nat) (ls st : List aV) (μ : aM) (g : Nat) : W (n + 1) 94 ls st μ g = (sLd 7 96 isI) (W n) ls st μ g := (hW n 94 ls st μ g).trans rfl
theorem wX4_tradeFirstOrders_96 {l : Launch} {K : aRs} {X : aXs} {J : aK} {W : Nat → aK} (hW : isW (tbX4_tradeFirstOrders l K X) cuX4_tradeFirstOrders J W) (n : Nat) (ls st : List aV) (μ : aM) (g : Nat) : W (n + 1) 96 ls st μ g = (sBin fSub 97) (W n) ls st μ g := (hW n 96 ls st μ g).trans rfl
theorem wX4_tradeFirstOrders_97 {l : Launch} {K : aRs} {X : aXs} {J : aK} {W : Nat → aK} (hW : isW (tbX4_tradeFirstOrders l K X) cuX4_tradeFirstOrders J W) (n : Nat) (ls st : List aV) (μ : aM) (g : Nat) : W (n + 1) 97 ls st μ g = (sSt 3 98 isI) (W n) ls st μ g := (hW n 97 ls st μ g).trans rfl
theorem wX4_tradeFirstOrders_98 {l : Launch} {K : aRs} {X : aXs} {J : aK} {W : Nat → aK} (hW : isW (tbX4_tradeFirstOrders l K X) cuX4_tradeFirstOrders J W) (n : Nat) (ls st : List aV) (μ : aM) (g : Nat) : W (n + 1) 98 ls st μ g = (sInc 4 1 101) (W n) ls st μ g := (hW n 98 ls st μ g).trans rfl
theorem wX4_tradeFirstOrders_101 {l : Launch} {K : aRs} {X : aXs} {J : aK} {W : Nat → aK} (hW : isW (tbX4_tradeFirstOrders l K X) cuX4_tradeFirstOrders J W) (n : Nat) (ls st : List aV) (μ : aM) (g : Nat) : W (n + 1) 101 ls st μ g = (sGoto 5) (W n) ls st μ g := (hW n 101 ls st μ g).trans rfl
theorem wX4_tradeFirstOrders_104 {l : Launch} {K : aRs} {X : aXs} {J : aK} {W : Nat → aK} (hW : isW (tbX4_tradeFirstOrders l K X) cuX4_tradeFirstOrders J W) (n : Nat) (ls st : List aV) (μ : aM) (g : Nat) : W (n + 1) 104 ls st μ g = (sRetV 0 K) (W n) ls st μ g := (hW n 104 ls st μ g).trans rfl
theorem dX4_isCrossed_0 : decode cX4_isCrossed 0 = .ok (.aload_n 0, 1) := by decide +kernel
theorem dX4_isCrossed_1 : decode cX4_isCrossed 1 = .ok (.getfield 20, 3) := by decide +kernel
theorem dX4_isCrossed_4 : decode cX4_isCrossed 4 = .ok (.getfield 171, 3) := by decide +kernel
theorem dX4_isCrossed_7 : decode cX4_isCrossed 7 = .ok (.astore_n 1, 1) := by decide +kernel
theorem dX4_isCrossed_8 : decode cX4_isCrossed 8 = .ok (.aload_n 0, 1) := by decide +kernel
theorem dX4_isCrossed_9 : decode cX4_isCrossed 9 = .ok (.getfield 24, 3) := by decide +kernel
theorem dX4_isCrossed_12 : decode cX4_isCrossed 12 = .ok (.getfield 171, 3) := by decide +kernel
theorem dX4_isCrossed_15 : decode cX4_isCrossed 15 = .ok (.astore_n 2, 1) := by decide +kernel
theorem dX4_isCrossed_16 : decode cX4_isCrossed 16 = .ok (.aload_n 1, 1) := by decide +kernel
theorem dX4_isCrossed_17 : decode cX4_isCrossed 17 = .ok (.ifnull 22, 3) := by decide +kernel
theorem dX4_isCrossed_20 : decode cX4_isCrossed 20 = .ok (.aload_n 2, 1) := by decide +kernel
theorem dX4_isCrossed_21 : decode cX4_isCrossed 21 = .ok (.ifnull 18, 3) := by decide +kernel
theorem dX4_isCrossed_24 : decode cX4_isCrossed 24 = .ok (.aload_n 1, 1) := by decide +kernel
theorem dX4_isCrossed_25 : decode cX4_isCrossed 25 = .ok (.getfield 161, 3) := by decide +kernel
theorem dX4_isCrossed_28 : decode cX4_isCrossed 28 = .ok (.aload_n 2, 1) := by decide +kernel
theorem dX4_isCrossed_29 : decode cX4_isCrossed 29 = .ok (.getfield 161, 3) := by decide +kernel
theorem dX4_isCrossed_32 : decode cX4_isCrossed 32 = .ok (.if_icmp .lt 7, 3) := by decide +kernel
theorem dX4_isCrossed_35 : decode cX4_isCrossed 35 = .ok (.iconst 1, 1) := by decide +kernel
theorem dX4_isCrossed_36 : decode cX4_isCrossed 36 = .ok (.goto 4, 3) := by decide +kernel
theorem dX4_isCrossed_39 : decode cX4_isCrossed 39 = .ok (.iconst 0, 1) := by decide +kernel
theorem dX4_isCrossed_40 : decode cX4_isCrossed 40 = .ok (.ireturn, 1) := by decide +kernel
def tbX4_isCrossed (l : Launch) (K : aRs) (X : aXs) : aTb := [
  (0, sLd 0 1 isR),
  (1, sGetR 4 1 4),
  (4, sGetR 1 1 7),
  (7, sSt 1 8 isR),
  (8, sLd 0 9 isR),
  (9, sGetR 4 2 12),
  (12, sGetR 1 1 15),
  (15, sSt 2 16 isR),
  (16, sLd 1 17 isR),
  (17, sNul 39 20),
  (20, sLd 2 21 isR),
  (21, sNul 39 24),
  (24, sLd 1 25 isR),
  (25, sGetI 2 4 28),
  (28, sLd 2 29 isR),
  (29, sGetI 2 4 32),
  (32, sIc qLt 39 35),
  (35, sPush (aI 1) 36),
  (36, sGoto 40),
  (39, sPush (aI 0) 40),
  (40, sRetI .boolean 0 K)]
theorem snX4_isCrossed (l : Launch) (K : aRs) (X : aXs) (n0 : Nat) : ∀ q ∈ tbX4_isCrossed l K X, aSo l mdX4_isCrossed K X n0 q.1 q.2 :=
  tc (fun p e s m args below meth c cA D A ad0 h => ok_aload_n h.1 0 rfl dX4_isCrossed_0) <|
  tc (fun p e s m args below meth c cA D A ad0 h => ok_getR h.1 cxX4 (by decide) rfl fkRX4_20 (fun _ _ _ => rfl) dX4_isCrossed_1) <|
  tc (fun p e s m args below meth c cA D A ad0 h => ok_getR h.1 cxX1 (by decide) rfl fkRX4_171 (fun _ _ _ => rfl) dX4_isCrossed_4) <|
  tc (fun p e s m args below meth c cA D A ad0 h => ok_astore_n h.1 1 rfl (by decide) dX4_isCrossed_7) <|
  tc (fun p e s m args below meth c cA D A ad0 h => ok_aload_n h.1 0 rfl dX4_isCrossed_8) <|
  tc (fun p e s m args below meth c cA D A ad0 h => ok_getR h.1 cxX4 (by decide) rfl fkRX4_24 (fun _ _ _ => rfl) dX4_isCrossed_9) <|
  tc (fun p e s m args below meth c cA D A ad0 h => ok_getR h.1 cxX1 (by decide) rfl fkRX4_171 (fun _ _ _ => rfl) dX4_isCrossed_12) <|
  tc (fun p e s m args below meth c cA D A ad0 h => ok_astore_n h.1 2 rfl (by decide) dX4_isCrossed_15) <|
  tc (fun p e s m args below meth c cA D A ad0 h => ok_aload_n h.1 1 rfl dX4_isCrossed_16) <|
  tc (fun p e s m args below meth c cA D A ad0 h => ok_ifnull h.1 39 (by decide) dX4_isCrossed_17) <|
  tc (fun p e s m args below meth c cA D A ad0 h => ok_aload_n h.1 2 rfl dX4_isCrossed_20) <|
  tc (fun p e s m args below meth c cA D A ad0 h => ok_ifnull h.1 39 (by decide) dX4_isCrossed_21) <|
  tc (fun p e s m args below meth c cA D A ad0 h => ok_aload_n h.1 1 rfl dX4_isCrossed_24) <|
  tc (fun p e s m args below meth c cA D A ad0 h => ok_getI h.1 cxX2 (by decide) rfl fkRX4_161 (fun _ _ _ => rfl) dX4_isCrossed_25) <|
  tc (fun p e s m args below meth c cA D A ad0 h => ok_aload_n h.1 2 rfl dX4_isCrossed_28) <|
  tc (fun p e s m args below meth c cA D A ad0 h => ok_getI h.1 cxX2 (by decide) rfl fkRX4_161 (fun _ _ _ => rfl) dX4_isCrossed_29) <|
  tc (fun p e s m args below meth c cA D A ad0 h => ok_icmp_lt h.1 39 (by decide) dX4_isCrossed_32) <|
  tc (fun p e s m args below meth c cA D A ad0 h => ok_iconst h.1 ⟨by decide, by decide⟩ dX4_isCrossed_35) <|
  tc (fun p e s m args below meth c cA D A ad0 h => ok_goto h.1 40 (by decide) dX4_isCrossed_36) <|
  tc (fun p e s m args below meth c cA D A ad0 h => ok_iconst h.1 ⟨by decide, by decide⟩ dX4_isCrossed_39) <|
  tc (fun p e s m args below meth c cA D A ad0 h => ok_ireturn h.1 h.2.2.2.1 (Or.inr (Or.inl rfl)) dX4_isCrossed_40) <|
  tn
abbrev cuX4_isCrossed : List Nat := []
theorem tX4_isCrossed_0 (l : Launch) (K : aRs) (X : aXs) : tb (tbX4_isCrossed l K X) 0 = sLd 0 1 isR := (rfl)
theorem wX4_isCrossed_0 {l : Launch} {K : aRs} {X : aXs} {J : aK} {W : Nat → aK} (hW : isW (tbX4_isCrossed l K X) cuX4_isCrossed J W) (n : Nat) (ls st : List aV) (μ : aM) (g : Nat) : W (n + 1) 0 ls st μ g = (sLd 0 1 isR) (W n) ls st μ g := (hW n 0 ls st μ g).trans rfl
theorem wX4_isCrossed_1 {l : Launch} {K : aRs} {X : aXs} {J : aK} {W : Nat → aK} (hW : isW (tbX4_isCrossed l K X) cuX4_isCrossed J W) (n : Nat) (ls st : List aV) (μ : aM) (g : Nat) : W (n + 1) 1 ls st μ g = (sGetR 4 1 4) (W n) ls st μ g := (hW n 1 ls st μ g).trans rfl
theorem wX4_isCrossed_4 {l : Launch} {K : aRs} {X : aXs} {J : aK} {W : Nat → aK} (hW : isW (tbX4_isCrossed l K X) cuX4_isCrossed J W) (n : Nat) (ls st : List aV) (μ : aM) (g : Nat) : W (n + 1) 4 ls st μ g = (sGetR 1 1 7) (W n) ls st μ g := (hW n 4 ls st μ g).trans rfl
theorem wX4_isCrossed_7 {l : Launch} {K : aRs} {X : aXs} {J : aK} {W : Nat → aK} (hW : isW (tbX4_isCrossed l K X) cuX4_isCrossed J W) (n : Nat) (ls st : List aV) (μ : aM) (g : Nat) : W (n + 1) 7 ls st μ g = (sSt 1 8 isR) (W n) ls st μ g := (hW n 7 ls st μ g).trans rfl
theorem wX4_isCrossed_8 {l : Launch} {K : aRs} {X : aXs} {J : aK} {W : Nat → aK} (hW : isW (tbX4_isCrossed l K X) cuX4_isCrossed J W) (n : Nat) (ls st : List aV) (μ : aM) (g : Nat) : W (n + 1) 8 ls st μ g = (sLd 0 9 isR) (W n) ls st μ g := (hW n 8 ls st μ g).trans rfl
theorem wX4_isCrossed_9 {l : Launch} {K : aRs} {X : aXs} {J : aK} {W : Nat → aK} (hW : isW (tbX4_isCrossed l K X) cuX4_isCrossed J W) (n : Nat) (ls st : List aV) (μ : aM) (g : Nat) : W (n + 1) 9 ls st μ g = (sGetR 4 2 12) (W n) ls st μ g := (hW n 9 ls st μ g).trans rfl
theorem wX4_isCrossed_12 {l : Launch} {K : aRs} {X : aXs} {J : aK} {W : Nat → aK} (hW : isW (tbX4_isCrossed l K X) cuX4_isCrossed J W) (n : Nat) (ls st : List aV) (μ : aM) (g : Nat) : W (n + 1) 12 ls st μ g = (sGetR 1 1 15) (W n) ls st μ g := (hW n 12 ls st μ g).trans rfl
theorem wX4_isCrossed_15 {l : Launch} {K : aRs} {X : aXs} {J : aK} {W : Nat → aK} (hW : isW (tbX4_isCrossed l K X) cuX4_isCrossed J W) (n : Nat) (ls st : List aV) (μ : aM) (g : Nat) : W (n + 1) 15 ls st μ g = (sSt 2 16 isR) (W n) ls st μ g := (hW n 15 ls st μ g).trans rfl
theorem wX4_isCrossed_16 {l : Launch} {K : aRs} {X : aXs} {J : aK} {W : Nat → aK} (hW : isW (tbX4_isCrossed l K X) cuX4_isCrossed J W) (n : Nat) (ls st : List aV) (μ : aM) (g : Nat) : W (n + 1) 16 ls st μ g = (sLd 1 17 isR) (W n) ls st μ g := (hW n 16 ls st μ g).trans rfl
theorem wX4_isCrossed_17 {l : Launch} {K : aRs} {X : aXs} {J : aK} {W : Nat → aK} (hW : isW (tbX4_isCrossed l K X) cuX4_isCrossed J W) (n : Nat) (ls st : List aV) (μ : aM) (g : Nat) : W (n + 1) 17 ls st μ g = (sNul 39 20) (W n) ls st μ g := (hW n 17 ls st μ g).trans rfl
theorem wX4_isCrossed_20 {l : Launch} {K : aRs} {X : aXs} {J : aK} {W : Nat → aK} (hW : isW (tbX4_isCrossed l K X) cuX4_isCrossed J W) (n : Nat) (ls st : List aV) (μ : aM) (g : Nat) : W (n + 1) 20 ls st μ g = (sLd 2 21 isR) (W n) ls st μ g := (hW n 20 ls st μ g).trans rfl
theorem wX4_isCrossed_21 {l : Launch} {K : aRs} {X : aXs} {J : aK} {W : Nat → aK} (hW : isW (tbX4_isCrossed l K X) cuX4_isCrossed J W) (n : Nat) (ls st : List aV) (μ : aM) (g : Nat) : W (n + 1) 21 ls st μ g = (sNul 39 24) (W n) ls st μ g := (hW n 21 ls st μ g).trans rfl
theorem wX4_isCrossed_24 {l : Launch} {K : aRs} {X : aXs} {J : aK} {W : Nat → aK} (hW : isW (tbX4_isCrossed l K X) cuX4_isCrossed J W) (n : Nat) (ls st : List aV) (μ : aM) (g : Nat) : W (n + 1) 24 ls st μ g = (sLd 1 25 isR) (W n) ls st μ g := (hW n 24 ls st μ g).trans rfl
theorem wX4_isCrossed_25 {l : Launch} {K : aRs} {X : aXs} {J : aK} {W : Nat → aK} (hW : isW (tbX4_isCrossed l K X) cuX4_isCrossed J W) (n : Nat) (ls st : List aV) (μ : aM) (g : Nat) : W (n + 1) 25 ls st μ g = (sGetI 2 4 28) (W n) ls st μ g := (hW n 25 ls st μ g).trans rfl
theorem wX4_isCrossed_28 {l : Launch} {K : aRs} {X : aXs} {J : aK} {W : Nat → aK} (hW : isW (tbX4_isCrossed l K X) cuX4_isCrossed J W) (n : Nat) (ls st : List aV) (μ : aM) (g : Nat) : W (n + 1) 28 ls st μ g = (sLd 2 29 isR) (W n) ls st μ g := (hW n 28 ls st μ g).trans rfl
theorem wX4_isCrossed_29 {l : Launch} {K : aRs} {X : aXs} {J : aK} {W : Nat → aK} (hW : isW (tbX4_isCrossed l K X) cuX4_isCrossed J W) (n : Nat) (ls st : List aV) (μ : aM) (g : Nat) : W (n + 1) 29 ls st μ g = (sGetI 2 4 32) (W n) ls st μ g := (hW n 29 ls st μ g).trans rfl
theorem wX4_isCrossed_32 {l : Launch} {K : aRs} {X : aXs} {J : aK} {W : Nat → aK} (hW : isW (tbX4_isCrossed l K X) cuX4_isCrossed J W) (n : Nat) (ls st : List aV) (μ : aM) (g : Nat) : W (n + 1) 32 ls st μ g = (sIc qLt 39 35) (W n) ls st μ g := (hW n 32 ls st μ g).trans rfl
theorem wX4_isCrossed_35 {l : Launch} {K : aRs} {X : aXs} {J : aK} {W : Nat → aK} (hW : isW (tbX4_isCrossed l K X) cuX4_isCrossed J W) (n : Nat) (ls st : List aV) (μ : aM) (g : Nat) : W (n + 1) 35 ls st μ g = (sPush (aI 1) 36) (W n) ls st μ g := (hW n 35 ls st μ g).trans rfl
theorem wX4_isCrossed_36 {l : Launch} {K : aRs} {X : aXs} {J : aK} {W : Nat → aK} (hW : isW (tbX4_isCrossed l K X) cuX4_isCrossed J W) (n : Nat) (ls st : List aV) (μ : aM) (g : Nat) : W (n + 1) 36 ls st μ g = (sGoto 40) (W n) ls st μ g := (hW n 36 ls st μ g).trans rfl
theorem wX4_isCrossed_39 {l : Launch} {K : aRs} {X : aXs} {J : aK} {W : Nat → aK} (hW : isW (tbX4_isCrossed l K X) cuX4_isCrossed J W) (n : Nat) (ls st : List aV) (μ : aM) (g : Nat) : W (n + 1) 39 ls st μ g = (sPush (aI 0) 40) (W n) ls st μ g := (hW n 39 ls st μ g).trans rfl
theorem wX4_isCrossed_40 {l : Launch} {K : aRs} {X : aXs} {J : aK} {W : Nat → aK} (hW : isW (tbX4_isCrossed l K X) cuX4_isCrossed J W) (n : Nat) (ls st : List aV) (μ : aM) (g : Nat) : W (n + 1) 40 ls st μ g = (sRetI .boolean 0 K) (W n) ls st μ g := (hW n 40 ls st μ g).trans rfl
