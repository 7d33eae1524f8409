/-! ===== tables of steps, by program (gen/mktab.py) ===== -/
theorem dX5_init_0 : decode cX5_init 0 = .ok (.aload_n 0, 1) := by decide +kernel
theorem dX5_init_1 : decode cX5_init 1 = .ok (.invokespecial 1, 3) := by decide +kernel
theorem dX5_init_4 : decode cX5_init 4 = .ok (.aload_n 0, 1) := by decide +kernel
theorem dX5_init_5 : decode cX5_init 5 = .ok (.sipush 2000, 3) := by decide +kernel
theorem dX5_init_8 : decode cX5_init 8 = .ok (.newarray .char, 2) := by decide +kernel
theorem dX5_init_10 : decode cX5_init 10 = .ok (.putfield 7, 3) := by decide +kernel
theorem dX5_init_13 : decode cX5_init 13 = .ok (.aload_n 0, 1) := by decide +kernel
theorem dX5_init_14 : decode cX5_init 14 = .ok (.sipush 2000, 3) := by decide +kernel
theorem dX5_init_17 : decode cX5_init 17 = .ok (.newarray .char, 2) := by decide +kernel
theorem dX5_init_19 : decode cX5_init 19 = .ok (.putfield 13, 3) := by decide +kernel
theorem dX5_init_22 : decode cX5_init 22 = .ok (.aload_n 0, 1) := by decide +kernel
theorem dX5_init_23 : decode cX5_init 23 = .ok (.sipush 2000, 3) := by decide +kernel
theorem dX5_init_26 : decode cX5_init 26 = .ok (.newarray .int, 2) := by decide +kernel
theorem dX5_init_28 : decode cX5_init 28 = .ok (.putfield 16, 3) := by decide +kernel
theorem dX5_init_31 : decode cX5_init 31 = .ok (.aload_n 0, 1) := by decide +kernel
theorem dX5_init_32 : decode cX5_init 32 = .ok (.sipush 2000, 3) := by decide +kernel
theorem dX5_init_35 : decode cX5_init 35 = .ok (.newarray .int, 2) := by decide +kernel
theorem dX5_init_37 : decode cX5_init 37 = .ok (.putfield 20, 3) := by decide +kernel
theorem dX5_init_40 : decode cX5_init 40 = .ok (.aload_n 0, 1) := by decide +kernel
theorem dX5_init_41 : decode cX5_init 41 = .ok (.sipush 2000, 3) := by decide +kernel
theorem dX5_init_44 : decode cX5_init 44 = .ok (.newarray .int, 2) := by decide +kernel
theorem dX5_init_46 : decode cX5_init 46 = .ok (.putfield 23, 3) := by decide +kernel
theorem dX5_init_49 : decode cX5_init 49 = .ok (.aload_n 0, 1) := by decide +kernel
theorem dX5_init_50 : decode cX5_init 50 = .ok (.sipush 2000, 3) := by decide +kernel
theorem dX5_init_53 : decode cX5_init 53 = .ok (.newarray .int, 2) := by decide +kernel
theorem dX5_init_55 : decode cX5_init 55 = .ok (.putfield 26, 3) := by decide +kernel
theorem dX5_init_58 : decode cX5_init 58 = .ok (.aload_n 0, 1) := by decide +kernel
theorem dX5_init_59 : decode cX5_init 59 = .ok (.sipush 2000, 3) := by decide +kernel
theorem dX5_init_62 : decode cX5_init 62 = .ok (.newarray .int, 2) := by decide +kernel
theorem dX5_init_64 : decode cX5_init 64 = .ok (.putfield 29, 3) := by decide +kernel
theorem dX5_init_67 : decode cX5_init 67 = .ok (.aload_n 0, 1) := by decide +kernel
theorem dX5_init_68 : decode cX5_init 68 = .ok (.sipush 2000, 3) := by decide +kernel
theorem dX5_init_71 : decode cX5_init 71 = .ok (.newarray .int, 2) := by decide +kernel
theorem dX5_init_73 : decode cX5_init 73 = .ok (.putfield 32, 3) := by decide +kernel
theorem dX5_init_76 : decode cX5_init 76 = .ok (.aload_n 0, 1) := by decide +kernel
theorem dX5_init_77 : decode cX5_init 77 = .ok (.sipush 2000, 3) := by decide +kernel
theorem dX5_init_80 : decode cX5_init 80 = .ok (.newarray .int, 2) := by decide +kernel
theorem dX5_init_82 : decode cX5_init 82 = .ok (.putfield 35, 3) := by decide +kernel
theorem dX5_init_85 : decode cX5_init 85 = .ok (.aload_n 0, 1) := by decide +kernel
theorem dX5_init_86 : decode cX5_init 86 = .ok (.sipush 2000, 3) := by decide +kernel
theorem dX5_init_89 : decode cX5_init 89 = .ok (.newarray .int, 2) := by decide +kernel
theorem dX5_init_91 : decode cX5_init 91 = .ok (.putfield 38, 3) := by decide +kernel
theorem dX5_init_94 : decode cX5_init 94 = .ok (.aload_n 0, 1) := by decide +kernel
theorem dX5_init_95 : decode cX5_init 95 = .ok (.sipush 2000, 3) := by decide +kernel
theorem dX5_init_98 : decode cX5_init 98 = .ok (.newarray .int, 2) := by decide +kernel
theorem dX5_init_100 : decode cX5_init 100 = .ok (.putfield 41, 3) := by decide +kernel
theorem dX5_init_103 : decode cX5_init 103 = .ok (.aload_n 0, 1) := by decide +kernel
theorem dX5_init_104 : decode cX5_init 104 = .ok (.bipush 50, 2) := by decide +kernel
theorem dX5_init_106 : decode cX5_init 106 = .ok (.newarray .int, 2) := by decide +kernel
theorem dX5_init_108 : decode cX5_init 108 = .ok (.putfield 44, 3) := by decide +kernel
theorem dX5_init_111 : decode cX5_init 111 = .ok (.aload_n 0, 1) := by decide +kernel
theorem dX5_init_112 : decode cX5_init 112 = .ok (.bipush 50, 2) := by decide +kernel
theorem dX5_init_114 : decode cX5_init 114 = .ok (.newarray .int, 2) := by decide +kernel
theorem dX5_init_116 : decode cX5_init 116 = .ok (.putfield 47, 3) := by decide +kernel
theorem dX5_init_119 : decode cX5_init 119 = .ok (.aload_n 0, 1) := by decide +kernel
theorem dX5_init_120 : decode cX5_init 120 = .ok (.bipush 50, 2) := by decide +kernel
theorem dX5_init_122 : decode cX5_init 122 = .ok (.newarray .int, 2) := by decide +kernel
theorem dX5_init_124 : decode cX5_init 124 = .ok (.putfield 50, 3) := by decide +kernel
theorem dX5_init_127 : decode cX5_init 127 = .ok (.aload_n 0, 1) := by decide +kernel
theorem dX5_init_128 : decode cX5_init 128 = .ok (.bipush 50, 2) := by decide +kernel
theorem dX5_init_130 : decode cX5_init 130 = .ok (.newarray .int, 2) := by decide +kernel
theorem dX5_init_132 : decode cX5_init 132 = .ok (.putfield 53, 3) := by decide +kernel
theorem dX5_init_135 : decode cX5_init 135 = .ok (.aload_n 0, 1) := by decide +kernel
theorem dX5_init_136 : decode cX5_init 136 = .ok (.bipush 114, 2) := by decide +kernel
theorem dX5_init_138 : decode cX5_init 138 = .ok (.putfield 56, 3) := by decide +kernel
theorem dX5_init_141 : decode cX5_init 141 = .ok (.return_, 1) := by decide +kernel
def tbX5_init (l : Launch) (K : aRs) (X : aXs) : aTb := [
  (0, sLd 0 1 isR),
  (1, sObj 4),
  (4, sLd 0 5 isR),
  (5, sPush (aI 2000) 8),
  (8, sNewA 6 10 15),
  (10, sPutR 5 1 13),
  (13, sLd 0 14 isR),
  (14, sPush (aI 2000) 17),
  (17, sNewA 6 19 15),
  (19, sPutR 5 2 22),
  (22, sLd 0 23 isR),
  (23, sPush (aI 2000) 26),
  (26, sNewA 7 28 15),
  (28, sPutR 5 3 31),
  (31, sLd 0 32 isR),
  (32, sPush (aI 2000) 35),
  (35, sNewA 7 37 15),
  (37, sPutR 5 4 40),
  (40, sLd 0 41 isR),
  (41, sPush (aI 2000) 44),
  (44, sNewA 7 46 15),
  (46, sPutR 5 5 49),
  (49, sLd 0 50 isR),
  (50, sPush (aI 2000) 53),
  (53, sNewA 7 55 15),
  (55, sPutR 5 6 58),
  (58, sLd 0 59 isR),
  (59, sPush (aI 2000) 62),
  (62, sNewA 7 64 15),
  (64, sPutR 5 7 67),
  (67, sLd 0 68 isR),
  (68, sPush (aI 2000) 71),
  (71, sNewA 7 73 15),
  (73, sPutR 5 8 76),
  (76, sLd 0 77 isR),
  (77, sPush (aI 2000) 80),
  (80, sNewA 7 82 15),
  (82, sPutR 5 9 85),
  (85, sLd 0 86 isR),
  (86, sPush (aI 2000) 89),
  (89, sNewA 7 91 15),
  (91, sPutR 5 10 94),
  (94, sLd 0 95 isR),
  (95, sPush (aI 2000) 98),
  (98, sNewA 7 100 15),
  (100, sPutR 5 11 103),
  (103, sLd 0 104 isR),
  (104, sPush (aI 50) 106),
  (106, sNewA 7 108 15),
  (108, sPutR 5 14 111),
  (111, sLd 0 112 isR),
  (112, sPush (aI 50) 114),
  (114, sNewA 7 116 15),
  (116, sPutR 5 15 119),
  (119, sLd 0 120 isR),
  (120, sPush (aI 50) 122),
  (122, sNewA 7 124 15),
  (124, sPutR 5 16 127),
  (127, sLd 0 128 isR),
  (128, sPush (aI 50) 130),
  (130, sNewA 7 132 15),
  (132, sPutR 5 17 135),
  (135, sLd 0 136 isR),
  (136, sPush (aI 114) 138),
  (138, sPutI 5 22 141),
  (141, sRetV 15 K)]
theorem snX5_init (l : Launch) (K : aRs) (X : aXs) (n0 : Nat) : ∀ q ∈ tbX5_init l K X, aSo l mdX5_init K X n0 q.1 q.2 :=
  tc (fun p e s m args below meth c cA D A ad0 h => ok_aload_n h.1 0 rfl dX5_init_0) <|
  tc (fun p e s m args below meth c cA D A ad0 h => ok_objInit h.1 mkRX5_1 oi1 oi2 dX5_init_1) <|
  tc (fun p e s m args below meth c cA D A ad0 h => ok_aload_n h.1 0 rfl dX5_init_4) <|
  tc (fun p e s m args below meth c cA D A ad0 h => ok_sipush h.1 ⟨by decide, by decide⟩ (by decide) dX5_init_5) <|
  tc (fun p e s m args below meth c cA D A ad0 h => ok_newC h.1 ⟨Nat.le_refl _, Nat.le_refl _⟩ ar_char dX5_init_8) <|
  tc (fun p e s m args below meth c cA D A ad0 h => ok_putR h.1 cxX5 (by decide) rfl fkRX5_7 (Or.inr ⟨h.2.2.2.2, rfl⟩) (fun _ _ _ => rfl) (Or.inr ⟨_, rfl⟩) dX5_init_10) <|
  tc (fun p e s m args below meth c cA D A ad0 h => ok_aload_n h.1 0 rfl dX5_init_13) <|
  tc (fun p e s m args below meth c cA D A ad0 h => ok_sipush h.1 ⟨by decide, by decide⟩ (by decide) dX5_init_14) <|
  tc (fun p e s m args below meth c cA D A ad0 h => ok_newC h.1 ⟨Nat.le_refl _, Nat.le_refl _⟩ ar_char dX5_init_17) <|
  tc (fun p e s m args below meth c cA D A ad0 h => ok_putR h.1 cxX5 (by decide) rfl fkRX5_13 (Or.inr ⟨h.2.2.2.2, rfl⟩) (fun _ _ _ => rfl) (Or.inr ⟨_, rfl⟩) dX5_init_19) <|
  tc (fun p e s m args below meth c cA D A ad0 h => ok_aload_n h.1 0 rfl dX5_init_22) <|
  tc (fun p e s m args below meth c cA D A ad0 h => ok_sipush h.1 ⟨by decide, by decide⟩ (by decide) dX5_init_23) <|
  tc (fun p e s m args below meth c cA D A ad0 h => ok_newI h.1 ⟨Nat.le_refl _, Nat.le_refl _⟩ ar_int dX5_init_26) <|
  tc (fun p e s m args below meth c cA D A ad0 h => ok_putR h.1 cxX5 (by decide) rfl fkRX5_16 (Or.inr ⟨h.2.2.2.2, rfl⟩) (fun _ _ _ => rfl) (Or.inr ⟨_, rfl⟩) dX5_init_28) <|
  tc (fun p e s m args below meth c cA D A ad0 h => ok_aload_n h.1 0 rfl dX5_init_31) <|
  tc (fun p e s m args below meth c cA D A ad0 h => ok_sipush h.1 ⟨by decide, by decide⟩ (by decide) dX5_init_32) <|
  tc (fun p e s m args below meth c cA D A ad0 h => ok_newI h.1 ⟨Nat.le_refl _, Nat.le_refl _⟩ ar_int dX5_init_35) <|
  tc (fun p e s m args below meth c cA D A ad0 h => ok_putR h.1 cxX5 (by decide) rfl fkRX5_20 (Or.inr ⟨h.2.2.2.2, rfl⟩) (fun _ _ _ => rfl) (Or.inr ⟨_, rfl⟩) dX5_init_37) <|
  tc (fun p e s m args below meth c cA D A ad0 h => ok_aload_n h.1 0 rfl dX5_init_40) <|
  tc (fun p e s m args below meth c cA D A ad0 h => ok_sipush h.1 ⟨by decide, by decide⟩ (by decide) dX5_init_41) <|
  tc (fun p e s m args below meth c cA D A ad0 h => ok_newI h.1 ⟨Nat.le_refl _, Nat.le_refl _⟩ ar_int dX5_init_44) <|
  tc (fun p e s m args below meth c cA D A ad0 h => ok_putR h.1 cxX5 (by decide) rfl fkRX5_23 (Or.inr ⟨h.2.2.2.2, rfl⟩) (fun _ _ _ => rfl) (Or.inr ⟨_, rfl⟩) dX5_init_46) <|
  tc (fun p e s m args below meth c cA D A ad0 h => ok_aload_n h.1 0 rfl dX5_init_49) <|
  tc (fun p e s m args below meth c cA D A ad0 h => ok_sipush h.1 ⟨by decide, by decide⟩ (by decide) dX5_init_50) <|
  tc (fun p e s m args below meth c cA D A ad0 h => ok_newI h.1 ⟨Nat.le_refl _, Nat.le_refl _⟩ ar_int dX5_init_53) <|
  tc (fun p e s m args below meth c cA D A ad0 h => ok_putR h.1 cxX5 (by decide) rfl fkRX5_26 (Or.inr ⟨h.2.2.2.2, rfl⟩) (fun _ _ _ => rfl) (Or.inr ⟨_, rfl⟩) dX5_init_55) <|
  tc (fun p e s m args below meth c cA D A ad0 h => ok_aload_n h.1 0 rfl dX5_init_58) <|
  tc (fun p e s m args below meth c cA D A ad0 h => ok_sipush h.1 ⟨by decide, by decide⟩ (by decide) dX5_init_59) <|
  tc (fun p e s m args below meth c cA D A ad0 h => ok_newI h.1 ⟨Nat.le_refl _, Nat.le_refl _⟩ ar_int dX5_init_62) <|
  tc (fun p e s m args below meth c cA D A ad0 h => ok_putR h.1 cxX5 (by decide) rfl fkRX5_29 (Or.inr ⟨h.2.2.2.2, rfl⟩) (fun _ _ _ => rfl) (Or.inr ⟨_, rfl⟩) dX5_init_64) <|
  tc (fun p e s m args below meth c cA D A ad0 h => ok_aload_n h.1 0 rfl dX5_init_67) <|
  tc (fun p e s m args below meth c cA D A ad0 h => ok_sipush h.1 ⟨by decide, by decide⟩ (by decide) dX5_init_68) <|
  tc (fun p e s m args below meth c cA D A ad0 h => ok_newI h.1 ⟨Nat.le_refl _, Nat.le_refl _⟩ ar_int dX5_init_71) <|
  tc (fun p e s m args below meth c cA D A ad0 h => ok_putR h.1 cxX5 (by decide) rfl fkRX5_32 (Or.inr ⟨h.2.2.2.2, rfl⟩) (fun _ _ _ => rfl) (Or.inr ⟨_, rfl⟩) dX5_init_73) <|
  tc (fun p e s m args below meth c cA D A ad0 h => ok_aload_n h.1 0 rfl dX5_init_76) <|
  tc (fun p e s m args below meth c cA D A ad0 h => ok_sipush h.1 ⟨by decide, by decide⟩ (by decide) dX5_init_77) <|
  tc (fun p e s m args below meth c cA D A ad0 h => ok_newI h.1 ⟨Nat.le_refl _, Nat.le_refl _⟩ ar_int dX5_init_80) <|
  tc (fun p e s m args below meth c cA D A ad0 h => ok_putR h.1 cxX5 (by decide) rfl fkRX5_35 (Or.inr ⟨h.2.2.2.2, rfl⟩) (fun _ _ _ => rfl) (Or.inr ⟨_, rfl⟩) dX5_init_82) <|
  tc (fun p e s m args below meth c cA D A ad0 h => ok_aload_n h.1 0 rfl dX5_init_85) <|
  tc (fun p e s m args below meth c cA D A ad0 h => ok_sipush h.1 ⟨by decide, by decide⟩ (by decide) dX5_init_86) <|
  tc (fun p e s m args below meth c cA D A ad0 h => ok_newI h.1 ⟨Nat.le_refl _, Nat.le_refl _⟩ ar_int dX5_init_89) <|
  tc (fun p e s m args below meth c cA D A ad0 h => ok_putR h.1 cxX5 (by decide) rfl fkRX5_38 (Or.inr ⟨h.2.2.2.2, rfl⟩) (fun _ _ _ => rfl) (Or.inr ⟨_, rfl⟩) dX5_init_91) <|
  tc (fun p e s m args below meth c cA D A ad0 h => ok_aload_n h.1 0 rfl dX5_init_94) <|
  tc (fun p e s m args below meth c cA D A ad0 h => ok_sipush h.1 ⟨by decide, by decide⟩ (by decide) dX5_init_95) <|
  tc (fun p e s m args below meth c cA D A ad0 h => ok_newI h.1 ⟨Nat.le_refl _, Nat.le_refl _⟩ ar_int dX5_init_98) <|
  tc (fun p e s m args below meth c cA D A ad0 h => ok_putR h.1 cxX5 (by decide) rfl fkRX5_41 (Or.inr ⟨h.2.2.2.2, rfl⟩) (fun _ _ _ => rfl) (Or.inr ⟨_, rfl⟩) dX5_init_100) <|
  tc (fun p e s m args below meth c cA D A ad0 h => ok_aload_n h.1 0 rfl dX5_init_103) <|
  tc (fun p e s m args below meth c cA D A ad0 h => ok_bipush h.1 ⟨by decide, by decide⟩ (by decide) dX5_init_104) <|
  tc (fun p e s m args below meth c cA D A ad0 h => ok_newI h.1 ⟨Nat.le_refl _, Nat.le_refl _⟩ ar_int dX5_init_106) <|
  tc (fun p e s m args below meth c cA D A ad0 h => ok_putR h.1 cxX5 (by decide) rfl fkRX5_44 (Or.inr ⟨h.2.2.2.2, rfl⟩) (fun _ _ _ => rfl) (Or.inr ⟨_, rfl⟩) dX5_init_108) <|
  tc (fun p e s m args below meth c cA D A ad0 h => ok_aload_n h.1 0 rfl dX5_init_111) <|
  tc (fun p e s m args below meth c cA D A ad0 h => ok_bipush h.1 ⟨by decide, by decide⟩ (by decide) dX5_init_112) <|
  tc (fun p e s m args below meth c cA D A ad0 h => ok_newI h.1 ⟨Nat.le_refl _, Nat.le_refl _⟩ ar_int dX5_init_114) <|
  tc (fun p e s m args below meth c cA D A ad0 h => ok_putR h.1 cxX5 (by decide) rfl fkRX5_47 (Or.inr ⟨h.2.2.2.2, rfl⟩) (fun _ _ _ => rfl) (Or.inr ⟨_, rfl⟩) dX5_init_116) <|
  tc (fun p e s m args below meth c cA D A ad0 h => ok_aload_n h.1 0 rfl dX5_init_119) <|
  tc (fun p e s m args below meth c cA D A ad0 h => ok_bipush h.1 ⟨by decide, by decide⟩ (by decide) dX5_init_120) <|
  tc (fun p e s m args below meth c cA D A ad0 h => ok_newI h.1 ⟨Nat.le_refl _, Nat.le_refl _⟩ ar_int dX5_init_122) <|
  tc (fun p e s m args below meth c cA D A ad0 h => ok_putR h.1 cxX5 (by decide) rfl fkRX5_50 (Or.inr ⟨h.2.2.2.2, rfl⟩) (fun _ _ _ => rfl) (Or.inr ⟨_, rfl⟩) dX5_init_124) <|
  tc (fun p e s m args below meth c cA D A ad0 h => ok_aload_n h.1 0 rfl dX5_init_127) <|
  tc (fun p e s m args below meth c cA D A ad0 h => ok_bipush h.1 ⟨by decide, by decide⟩ (by decide) dX5_init_128) <|
  tc (fun p e s m args below meth c cA D A ad0 h => ok_newI h.1 ⟨Nat.le_refl _, Nat.le_refl _⟩ ar_int dX5_init_130) <|
  tc (fun p e s m args below meth c cA D A ad0 h => ok_putR h.1 cxX5 (by decide) rfl fkRX5_53 (Or.inr ⟨h.2.2.2.2, rfl⟩) (fun _ _ _ => rfl) (Or.inr ⟨_, rfl⟩) dX5_init_132) <|
  tc (fun p e s m args below meth c cA D A ad0 h => ok_aload_n h.1 0 rfl dX5_init_135) <|
  tc (fun p e s m args below meth c cA D A ad0 h => ok_bipush h.1 ⟨by decide, by decide⟩ (by decide) dX5_init_136) <|
  tc (fun p e s m args below meth c cA D A ad0 h => ok_putI h.1 cxX5 (by decide) rfl fkRX5_56 (Or.inr ⟨h.2.2.2.2, rfl⟩) (fun _ _ _ => rfl) (Or.inr (Or.inr rfl)) dX5_init_138) <|
  tc (fun p e s m args below meth c cA D A ad0 h => ok_return h.1 h.2.2.2.1 dX5_init_141) <|
  tn
abbrev cuX5_init : List Nat := []
theorem tX5_init_0 (l : Launch) (K : aRs) (X : aXs) : tb (tbX5_init l K X) 0 = sLd 0 1 isR := (rfl)
theorem wX5_init_0 {l : Launch} {K : aRs} {X : aXs} {J : aK} {W : Nat → aK} (hW : isW (tbX5_init l K X) cuX5_init J W) (n : Nat) (ls st : List aV) (μ : aM) (g : Nat) : W (n + 1) 0 ls st μ g = (sLd 0 1 isR) (W n) ls st μ g := (hW n 0 ls st μ g).trans rfl
theorem wX5_init_1 {l : Launch} {K : aRs} {X : aXs} {J : aK} {W : Nat → aK} (hW : isW (tbX5_init l K X) cuX5_init J W) (n : Nat) (ls st : List aV) (μ : aM) (g : Nat) : W (n + 1) 1 ls st μ g = (sObj 4) (W n) ls st μ g := (hW n 1 ls st μ g).trans rfl
theorem wX5_init_4 {l : Launch} {K : aRs} {X : aXs} {J : aK} {W : Nat → aK} (hW : isW (tbX5_init l K X) cuX5_init J W) (n : Nat) (ls st : List aV) (μ : aM) (g : Nat) : W (n + 1) 4 ls st μ g = (sLd 0 5 isR) (W n) ls st μ g := (hW n 4 ls st μ g).trans rfl
theorem wX5_init_5 {l : Launch} {K : aRs} {X : aXs} {J : aK} {W : Nat → aK} (hW : isW (tbX5_init l K X) cuX5_init J W) (n : Nat) (ls st : List aV) (μ : aM) (g : Nat) : W (n + 1) 5 ls st μ g = (sPush (aI 2000) 8) (W n) ls st μ g := (hW n 5 ls st μ g).trans rfl
theorem wX5_init_8 {l : Launch} {K : aRs} {X : aXs} {J : aK} {W : Nat → aK} (hW : isW (tbX5_init l K X) cuX5_init J W) (n : Nat) (ls st : List aV) (μ : aM) (g : Nat) : W (n + 1) 8 ls st μ g = (sNewA 6 10 15) (W n) ls st μ g := (hW n 8 ls st μ g).trans rfl
theorem wX5_init_10 {l : Launch} {K : aRs} {X : aXs} {J : aK} {W : Nat → aK} (hW : isW (tbX5_init l K X) cuX5_init J W) (n : Nat) (ls st : List aV) (μ : aM) (g : Nat) : W (n + 1) 10 ls st μ g = (sPutR 5 1 13) (W n) ls st μ g := (hW n 10 ls st μ g).trans rfl
theorem wX5_init_13 {l : Launch} {K : aRs} {X : aXs} {J : aK} {W : Nat → aK} (hW : isW (tbX5_init l K X) cuX5_init J W) (n : Nat) (ls st : List aV) (μ : aM) (g : Nat) : W (n + 1) 13 ls st μ g = (sLd 0 14 isR) (W n) ls st μ g := (hW n 13 ls st μ g).trans rfl
theorem wX5_init_14 {l : Launch} {K : aRs} {X : aXs} {J : aK} {W : Nat → aK} (hW : isW (tbX5_init l K X) cuX5_init J W) (n : Nat) (ls st : List aV) (μ : aM) (g : Nat) : W (n + 1) 14 ls st μ g = (sPush (aI 2000) 17) (W n) ls st μ g := (hW n 14 ls st μ g).trans rfl
theorem wX5_init_17 {l : Launch} {K : aRs} {X : aXs} {J : aK} {W : Nat → aK} (hW : isW (tbX5_init l K X) cuX5_init J W) (n : Nat) (ls st : List aV) (μ : aM) (g : Nat) : W (n + 1) 17 ls st μ g = (sNewA 6 19 15) (W n) ls st μ g := (hW n 17 ls st μ g).trans rfl
theorem wX5_init_19 {l : Launch} {K : aRs} {X : aXs} {J : aK} {W : Nat → aK} (hW : isW (tbX5_init l K X) cuX5_init J W) (n : Nat) (ls st : List aV) (μ : aM) (g : Nat) : W (n + 1) 19 ls st μ g = (sPutR 5 2 22) (W n) ls st μ g := (hW n 19 ls st μ g).trans rfl
theorem wX5_init_22 {l : Launch} {K : aRs} {X : aXs} {J : aK} {W : Nat → aK} (hW : isW (tbX5_init l K X) cuX5_init J W) (n : Nat) (ls st : List aV) (μ : aM) (g : Nat) : W (n + 1) 22 ls st μ g = (sLd 0 23 isR) (W n) ls st μ g := (hW n 22 ls st μ g).trans rfl
theorem wX5_init_23 {l : Launch} {K : aRs} {X : aXs} {J : aK} {W : Nat → aK} (hW : isW (tbX5_init l K X) cuX5_init J W) (n : Nat) (ls st : List aV) (μ : aM) (g : Nat) : W (n + 1) 23 ls st μ g = (sPush (aI 2000) 26) (W n) ls st μ g := (hW n 23 ls st μ g).trans rfl
theorem wX5_init_26 {l : Launch} {K : aRs} {X : aXs} {J : aK} {W : Nat → aK} (hW : isW (tbX5_init l K X) cuX5_init J W) (n : Nat) (ls st : List aV) (μ : aM) (g : Nat) : W (n + 1) 26 ls st μ g = (sNewA 7 28 15) (W n) ls st μ g := (hW n 26 ls st μ g).trans rfl
theorem wX5_init_28 {l : Launch} {K : aRs} {X : aXs} {J : aK} {W : Nat → aK} (hW : isW (tbX5_init l K X) cuX5_init J W) (n : Nat) (ls st : List aV) (μ : aM) (g : Nat) : W (n + 1) 28 ls st μ g = (sPutR 5 3 31) (W n) ls st μ g := (hW n 28 ls st μ g).trans rfl
theorem wX5_init_31 {l : Launch} {K : aRs} {X : aXs} {J : aK} {W : Nat → aK} (hW : isW (tbX5_init l K X) cuX5_init J W) (n : Nat) (ls st : List aV) (μ : aM) (g : Nat) : W (n + 1) 31 ls st μ g = (sLd 0 32 isR) (W n) ls st μ g := (hW n 31 ls st μ g).trans rfl
theorem wX5_init_32 {l : Launch} {K : aRs} {X : aXs} {J : aK} {W : Nat → aK} (hW : isW (tbX5_init l K X) cuX5_init J W) (n : Nat) (ls st : List aV) (μ : aM) (g : Nat) : W (n + 1) 32 ls st μ g = (sPush (aI 2000) 35) (W n) ls st μ g := (hW n 32 ls st μ g).trans rfl
theorem wX5_init_35 {l : Launch} {K : aRs} {X : aXs} {J : aK} {W : Nat → aK} (hW : isW (tbX5_init l K X) cuX5_init J W) (n : Nat) (ls st : List aV) (μ : aM) (g : Nat) : W (n + 1) 35 ls st μ g = (sNewA 7 37 15) (W n) ls st μ g := (hW n 35 ls st μ g).trans rfl
theorem wX5_init_37 {l : Launch} {K : aRs} {X : aXs} {J : aK} {W : Nat → aK} (hW : isW (tbX5_init l K X) cuX5_init J W) (n : Nat) (ls st : List aV) (μ : aM) (g : Nat) : W (n + 1) 37 ls st μ g = (sPutR 5 4 40) (W n) ls st μ g := (hW n 37 ls st μ g).trans rfl
theorem wX5_init_40 {l : Launch} {K : aRs} {X : aXs} {J : aK} {W : Nat → aK} (hW : isW (tbX5_init l K X) cuX5_init J W) (n : Nat) (ls st : List aV) (μ : aM) (g : Nat) : W (n + 1) 40 ls st μ g = (sLd 0 41 isR) (W n) ls st μ g := (hW n 40 ls st μ g).trans rfl
theorem wX5_init_41 {l : Launch} {K : aRs} {X : aXs} {J : aK} {W : Nat → aK} (hW : isW (tbX5_init l K X) cuX5_init J W) (n : Nat) (ls st : List aV) (μ : aM) (g : Nat) : W (n + 1) 41 ls st μ g = (sPush (aI 2000) 44) (W n) ls st μ g := (hW n 41 ls st μ g).trans rfl
theorem wX5_init_44 {l : Launch} {K : aRs} {X : aXs} {J : aK} {W : Nat → aK} (hW : isW (tbX5_init l K X) cuX5_init J W) (n : Nat) (ls st : List aV) (μ : aM) (g : Nat) : W (n + 1) 44 ls st μ g = (sNewA 7 46 15) (W n) ls st μ g := (hW n 44 ls st μ g).trans rfl
theorem wX5_init_46 {l : Launch} {K : aRs} {X : aXs} {J : aK} {W : Nat → aK} (hW : isW (tbX5_init l K X) cuX5_init J W) (n : Nat) (ls st : List aV) (μ : aM) (g : Nat) : W (n + 1) 46 ls st μ g = (sPutR 5 5 49) (W n) ls st μ g := (hW n 46 ls st μ g).trans rfl
theorem wX5_init_49 {l : Launch} {K : aRs} {X : aXs} {J : aK} {W : Nat → aK} (hW : isW (tbX5_init l K X) cuX5_init J W) (n : Nat) (ls st : List aV) (μ : aM) (g : Nat) : W (n + 1) 49 ls st μ g = (sLd 0 50 isR) (W n) ls st μ g := (hW n 49 ls st μ g).trans rfl
theorem wX5_init_50 {l : Launch} {K : aRs} {X : aXs} {J : aK} {W : Nat → aK} (hW : isW (tbX5_init l K X) cuX5_init J W) (n : Nat) (ls st : List aV) (μ : aM) (g : Nat) : W (n + 1) 50 ls st μ g = (sPush (aI 2000) 53) (W n) ls st μ g := (hW n 50 ls st μ g).trans rfl
theorem wX5_init_53 {l : Launch} {K : aRs} {X : aXs} {J : aK} {W : Nat → aK} (hW : isW (tbX5_init l K X) cuX5_init J W) (n : Nat) (ls st : List aV) (μ : aM) (g : Nat) : W (n + 1) 53 ls st μ g = (sNewA 7 55 15) (W n) ls st μ g := (hW n 53 ls st μ g).trans rfl
theorem wX5_init_55 {l : Launch} {K : aRs} {X : aXs} {J : aK} {W : Nat → aK} (hW : isW (tbX5_init l K X) cuX5_init J W) (n : Nat) (ls st : List aV) (μ : aM) (g : Nat) : W (n + 1) 55 ls st μ g = (sPutR 5 6 58) (W n) ls st μ g := (hW n 55 ls st μ g).trans rfl
theorem wX5_init_58 {l : Launch} {K : aRs} {X : aXs} {J : aK} {W : Nat → aK} (hW : isW (tbX5_init l K X) cuX5_init J W) (n : Nat) (ls st : List aV) (μ : aM) (g : Nat) : W (n + 1) 58 ls st μ g = (sLd 0 59 isR) (W n) ls st μ g := (hW n 58 ls st μ g).trans rfl
theorem wX5_init_59 {l : Launch} {K : aRs} {X : aXs} {J : aK} {W : Nat → aK} (hW : isW (tbX5_init l K X) cuX5_init J W) (n : Nat) (ls st : List aV) (μ : aM) (g : Nat) : W (n + 1) 59 ls st μ g = (sPush (aI 2000) 62) (W n) ls st μ g := (hW n 59 ls st μ g).trans rfl
theorem wX5_init_62 {l : Launch} {K : aRs} {X : aXs} {J : aK} {W : Nat → aK} (hW : isW (tbX5_init l K X) cuX5_init J W) (n : Nat) (ls st : List aV) (μ : aM) (g : Nat) : W (n + 1) 62 ls st μ g = (sNewA 7 64 15) (W n) ls st μ g := (hW n 62 ls st μ g).trans rfl
theorem wX5_init_64 {l : Launch} {K : aRs} {X : aXs} {J : aK} {W : Nat → aK} (hW : isW (tbX5_init l K X) cuX5_init J W) (n : Nat) (ls st : List aV) (μ : aM) (g : Nat) : W (n + 1) 64 ls st μ g = (sPutR 5 7 67) (W n) ls st μ g := (hW n 64 ls st μ g).trans rfl
theorem wX5_init_67 {l : Launch} {K : aRs} {X : aXs} {J : aK} {W : Nat → aK} (hW : isW (tbX5_init l K X) cuX5_init J W) (n : Nat) (ls st : List aV) (μ : aM) (g : Nat) : W (n + 1) 67 ls st μ g = (sLd 0 68 isR) (W n) ls st μ g := (hW n 67 ls st μ g).trans rfl
theorem wX5_init_68 {l : Launch} {K : aRs} {X : aXs} {J : aK} {W : Nat → aK} (hW : isW (tbX5_init l K X) cuX5_init J W) (n : Nat) (ls st : List aV) (μ : aM) (g : Nat) : W (n + 1) 68 ls st μ g = (sPush (aI 2000) 71) (W n) ls st μ g := (hW n 68 ls st μ g).trans rfl
theorem wX5_init_71 {l : Launch} {K : aRs} {X : aXs} {J : aK} {W : Nat → aK} (hW : isW (tbX5_init l K X) cuX5_init J W) (n : Nat) (ls st : List aV) (μ : aM) (g : Nat) : W (n + 1) 71 ls st μ g = (sNewA 7 73 15) (W n) ls st μ g := (hW n 71 ls st μ g).trans rfl
theorem wX5_init_73 {l : Launch} {K : aRs} {X : aXs} {J : aK} {W : Nat → aK} (hW : isW (tbX5_init l K X) cuX5_init J W) (n : Nat) (ls st : List aV) (μ : aM) (g : Nat) : W (n + 1) 73 ls st μ g = (sPutR 5 8 76) (W n) ls st μ g := (hW n 73 ls st μ g).trans rfl
theorem wX5_init_76 {l : Launch} {K : aRs} {X : aXs} {J : aK} {W : Nat → aK} (hW : isW (tbX5_init l K X) cuX5_init J W) (n : Nat) (ls st : List aV) (μ : aM) (g : Nat) : W (n + 1) 76 ls st μ g = (sLd 0 77 isR) (W n) ls st μ g := (hW n 76 ls st μ g).trans rfl
theorem wX5_init_77 {l : Launch} {K : aRs} {X : aXs} {J : aK} {W : Nat → aK} (hW : isW (tbX5_init l K X) cuX5_init J W) (n : Nat) (ls st : List aV) (μ : aM) (g : Nat) : W (n + 1) 77 ls st μ g = (sPush (aI 2000) 80) (W n) ls st μ g := (hW n 77 ls st μ g).trans rfl
theorem wX5_init_80 {l : Launch} {K : aRs} {X : aXs} {J : aK} {W : Nat → aK} (hW : isW (tbX5_init l K X) cuX5_init J W) (n : Nat) (ls st : List aV) (μ : aM) (g : Nat) : W (n + 1) 80 ls st μ g = (sNewA 7 82 15) (W n) ls st μ g := (hW n 80 ls st μ g).trans rfl
theorem wX5_init_82 {l : Launch} {K : aRs} {X : aXs} {J : aK} {W : Nat → aK} (hW : isW (tbX5_init l K X) cuX5_init J W) (n : Nat) (ls st : List aV) (μ : aM) (g : Nat) : W (n + 1) 82 ls st μ g = (sPutR 5 9 85) (W n) ls st μ g := (hW n 82 ls st μ g).trans rfl
theorem wX5_init_85 {l : Launch} {K : aRs} {X : aXs} {J : aK} {W : Nat → aK} (hW : isW (tbX5_init l K X) cuX5_init J W) (n : Nat) (ls st : List aV) (μ : aM) (g : Nat) : W (n + 1) 85 ls st μ g = (sLd 0 86 isR) (W n) ls st μ g := (hW n 85 ls st μ g).trans rfl
theorem wX5_init_86 {l : Launch} {K : aRs} {X : aXs} {J : aK} {W : Nat → aK} (hW : isW (tbX5_init l K X) cuX5_init J W) (n : Nat) (ls st : List aV) (μ : aM) (g : Nat) : W (n + 1) 86 ls st μ g = (sPush (aI 2000) 89) (W n) ls st μ g := (hW n 86 ls st μ g).trans rfl
theorem wX5_init_89 {l : Launch} {K : aRs} {X : aXs} {J : aK} {W : Nat → aK} (hW : isW (tbX5_init l K X) cuX5_init J W) (n : Nat) (ls st : List aV) (μ : aM) (g : Nat) : W (n + 1) 89 ls st μ g = (sNewA 7 91 15) (W n) ls st μ g := (hW n 89 ls st μ g).trans rfl
theorem wX5_init_91 {l : Launch} {K : aRs} {X : aXs} {J : aK} {W : Nat → aK} (hW : isW (tbX5_init l K X) cuX5_init J W) (n : Nat) (ls st : List aV) (μ : aM) (g : Nat) : W (n + 1) 91 ls st μ g = (sPutR 5 10 94) (W n) ls st μ g := (hW n 91 ls st μ g).trans rfl
theorem wX5_init_94 {l : Launch} {K : aRs} {X : aXs} {J : aK} {W : Nat → aK} (hW : isW (tbX5_init l K X) cuX5_init J W) (n : Nat) (ls st : List aV) (μ : aM) (g : Nat) : W (n + 1) 94 ls st μ g = (sLd 0 95 isR) (W n) ls st μ g := (hW n 94 ls st μ g).trans rfl
theorem wX5_init_95 {l : Launch} {K : aRs} {X : aXs} {J : aK} {W : Nat → aK} (hW : isW (tbX5_init l K X) cuX5_init J W) (n : Nat) (ls st : List aV) (μ : aM) (g : Nat) : W (n + 1) 95 ls st μ g = (sPush (aI 2000) 98) (W n) ls st μ g := (hW n 95 ls st μ g).trans rfl
theorem wX5_init_98 {l : Launch} {K : aRs} {X : aXs} {J : aK} {W : Nat → aK} (hW : isW (tbX5_init l K X) cuX5_init J W) (n : Nat) (ls st : List aV) (μ : aM) (g : Nat) : W (n + 1) 98 ls st μ g = (sNewA 7 100 15) (W n) ls st μ g := (hW n 98 ls st μ g).trans rfl
theorem wX5_init_100 {l : Launch} {K : aRs} {X : aXs} {J : aK} {W : Nat → aK} (hW : isW (tbX5_init l K X) cuX5_init J W) (n : Nat) (ls st : List aV) (μ : aM) (g : Nat) : W (n + 1) 100 ls st μ g = (sPutR 5 11 103) (W n) ls st μ g := (hW n 100 ls st μ g).trans rfl
theorem wX5_init_103 {l : Launch} {K : aRs} {X : aXs} {J : aK} {W : Nat → aK} (hW : isW (tbX5_init l K X) cuX5_init J W) (n : Nat) (ls st : List aV) (μ : aM) (g : Nat) : W (n + 1) 103 ls st μ g = (sLd 0 104 isR) (W n) ls st μ g := (hW n 103 ls st μ g).trans rfl
theorem wX5_init_104 {l : Launch} {K : aRs} {X : aXs} {J : aK} {W : Nat → aK} (hW : isW (tbX5_init l K X) cuX5_init J W) (n : Nat) (ls st : List aV) (μ : aM) (g : Nat) : W (n + 1) 104 ls st μ g = (sPush (aI 50) 106) (W n) ls st μ g := (hW n 104 ls st μ g).trans rfl
theorem wX5_init_106 {l : Launch} {K : aRs} {X : aXs} {J : aK} {W : Nat → aK} (hW : isW (tbX5_init l K X) cuX5_init J W) (n : Nat) (ls st : List aV) (μ : aM) (g : Nat) : W (n + 1) 106 ls st μ g = (sNewA 7 108 15) (W n) ls st μ g := (hW n 106 ls st μ g).trans rfl
theorem wX5_init_108 {l : Launch} {K : aRs} {X : aXs} {J : aK} {W : Nat → aK} (hW : isW (tbX5_init l K X) cuX5_init J W) (n : Nat) (ls st : List aV) (μ : aM) (g : Nat) : W (n + 1) 108 ls st μ g = (sPutR 5 14 111) (W n) ls st μ g := (hW n 108 ls st μ g).trans rfl
theorem wX5_init_111 {l : Launch} {K : aRs} {X : aXs} {J : aK} {W : Nat → aK} (hW : isW (tbX5_init l K X) cuX5_init J W) (n : Nat) (ls st : List aV) (μ : aM) (g : Nat) : W (n + 1) 111 ls st μ g = (sLd 0 112 isR) (W n) ls st μ g := (hW n 111 ls st μ g).trans rfl
theorem wX5_init_112 {l : Launch} {K : aRs} {X : aXs} {J : aK} {W : Nat → aK} (hW : isW (tbX5_init l K X) cuX5_init J W) (n : Nat) (ls st : List aV) (μ : aM) (g : Nat) : W (n + 1) 112 ls st μ g = (sPush (aI 50) 114) (W n) ls st μ g := (hW n 112 ls st μ g).trans rfl
theorem wX5_init_114 {l : Launch} {K : aRs} {X : aXs} {J : aK} {W : Nat → aK} (hW : isW (tbX5_init l K X) cuX5_init J W) (n : Nat) (ls st : List aV) (μ : aM) (g : Nat) : W (n + 1) 114 ls st μ g = (sNewA 7 116 15) (W n) ls st μ g := (hW n 114 ls st μ g).trans rfl
theorem wX5_init_116 {l : Launch} {K : aRs} {X : aXs} {J : aK} {W : Nat → aK} (hW : isW (tbX5_init l K X) cuX5_init J W) (n : Nat) (ls st : List aV) (μ : aM) (g : Nat) : W (n + 1) 116 ls st μ g = (sPutR 5 15 119) (W n) ls st μ g := (hW n 116 ls st μ g).trans rfl
theorem wX5_init_119 {l : Launch} {K : aRs} {X : aXs} {J : aK} {W : Nat → aK} (hW : isW (tbX5_init l K X) cuX5_init J W) (n : Nat) (ls st : List aV) (μ : aM) (g : Nat) : W (n + 1) 119 ls st μ g = (sLd 0 120 isR) (W n) ls st μ g := (hW n 119 ls st μ g).trans rfl
theorem wX5_init_120 {l : Launch} {K : aRs} {X : aXs} {J : aK} {W : Nat → aK} (hW : isW (tbX5_init l K X) cuX5_init J W) (n : Nat) (ls st : List aV) (μ : aM) (g : Nat) : W (n + 1) 120 ls st μ g = (sPush (aI 50) 122) (W n) ls st μ g := (hW n 120 ls st μ g).trans rfl
theorem wX5_init_122 {l : Launch} {K : aRs} {X : aXs} {J : aK} {W : Nat → aK} (hW : isW (tbX5_init l K X) cuX5_init J W) (n : Nat) (ls st : List aV) (μ : aM) (g : Nat) : W (n + 1) 122 ls st μ g = (sNewA 7 124 15) (W n) ls st μ g := (hW n 122 ls st μ g).trans rfl
theorem wX5_init_124 {l : Launch} {K : aRs} {X : aXs} {J : aK} {W : Nat → aK} (hW : isW (tbX5_init l K X) cuX5_init J W) (n : Nat) (ls st : List aV) (μ : aM) (g : Nat) : W (n + 1) 124 ls st μ g = (sPutR 5 16 127) (W n) ls st μ g := (hW n 124 ls st μ g).trans rfl
theorem wX5_init_127 {l : Launch} {K : aRs} {X : aXs} {J : aK} {W : Nat → aK} (hW : isW (tbX5_init l K X) cuX5_init J W) (n : Nat) (ls st : List aV) (μ : aM) (g : Nat) : W (n + 1) 127 ls st μ g = (sLd 0 128 isR) (W n) ls st μ g := (hW n 127 ls st μ g).trans rfl
theorem wX5_init_128 {l : Launch} {K : aRs} {X : aXs} {J : aK} {W : Nat → aK} (hW : isW (tbX5_init l K X) cuX5_init J W) (n : Nat) (ls st : List aV) (μ : aM) (g : Nat) : W (n + 1) 128 ls st μ g = (sPush (aI 50) 130) (W n) ls st μ g := (hW n 128 ls st μ g).trans rfl
theorem wX5_init_130 {l : Launch} {K : aRs} {X : aXs} {J : aK} {W : Nat → aK} (hW : isW (tbX5_init l K X) cuX5_init J W) (n : Nat) (ls st : List aV) (μ : aM) (g : Nat) : W (n + 1) 130 ls st μ g = (sNewA 7 132 15) (W n) ls st μ g := (hW n 130 ls st μ g).trans rfl
set_option maxRecDepth 10000 in
theorem wX5_init_132 {l : Launch} {K : aRs} {X : aXs} {J : aK} {W : Nat → aK} (hW : isW (tbX5_init l K X) cuX5_init J W) (n : Nat) (ls st : List aV) (μ : aM) (g : Nat) : W (n + 1) 132 ls st μ g = (sPutR 5 17 135) (W n) ls st μ g := (hW n 132 ls st μ g).trans rfl
set_option maxRecDepth 10000 in
theorem wX5_init_135 {l : Launch} {K : aRs} {X : aXs} {J : aK} {W : Nat → aK} (hW : isW (tbX5_init l K X) cuX5_init J W) (n : Nat) (ls st : List aV) (μ : aM) (g : Nat) : W (n + 1) 135 ls st μ g = (sLd 0 136 isR) (W n) ls st μ g := (hW n 135 ls st μ g).trans rfl
set_option maxRecDepth 10000 in
theorem wX5_init_136 {l : Launch} {K : aRs} {X : aXs} {J : aK} {W : Nat → aK} (hW : isW (tbX5_init l K X) cuX5_init J W) (n : Nat) (ls st : List aV) (μ : aM) (g : Nat) : W (n + 1) 136 ls st μ g = (sPush (aI 114) 138) (W n) ls st μ g := (hW n 136 ls st μ g).trans rfl
set_option maxRecDepth 10000 in
theorem wX5_init_138 {l : Launch} {K : aRs} {X : aXs} {J : aK} {W : Nat → aK} (hW : isW (tbX5_init l K X) cuX5_init J W) (n : Nat) (ls st : List aV) (μ : aM) (g : Nat) : W (n + 1) 138 ls st μ g = (sPutI 5 22 141) (W n) ls st μ g := (hW n 138 ls st μ g).trans rfl
set_option maxRecDepth 10000 in
theorem wX5_init_141 {l : Launch} {K : aRs} {X : aXs} {J : aK} {W : Nat → aK} (hW : isW (tbX5_init l K X) cuX5_init J W) (n : Nat) (ls st : List aV) (μ : aM) (g : Nat) : W (n + 1) 141 ls st μ g = (sRetV 15 K) (W n) ls st μ g := (hW n 141 ls st μ g).trans rfl
theorem dX5_thrown_0 : decode cX5_thrown 0 = .ok (.aload_n 0, 1) := by decide +kernel
theorem dX5_thrown_1 : decode cX5_thrown 1 = .ok (.getfield 60, 3) := by decide +kernel
theorem dX5_thrown_4 : decode cX5_thrown 4 = .ok (.ireturn, 1) := by decide +kernel
def tbX5_thrown (l : Launch) (K : aRs) (X : aXs) : aTb := [
  (0, sLd 0 1 isR),
  (1, sGetI 5 24 4),
  (4, sRetI .int 0 K)]
theorem snX5_thrown (l : Launch) (K : aRs) (X : aXs) (n0 : Nat) : ∀ q ∈ tbX5_thrown l K X, aSo l mdX5_thrown K X n0 q.1 q.2 :=
  tc (fun p e s m args below meth c cA D A ad0 h => ok_aload_n h.1 0 rfl dX5_thrown_0) <|
  tc (fun p e s m args below meth c cA D A ad0 h => ok_getI h.1 cxX5 (by decide) rfl fkRX5_60 (fun _ _ _ => rfl) dX5_thrown_1) <|
  tc (fun p e s m args below meth c cA D A ad0 h => ok_ireturn h.1 h.2.2.2.1 (Or.inl rfl) dX5_thrown_4) <|
  tn
abbrev cuX5_thrown : List Nat := []
theorem tX5_thrown_0 (l : Launch) (K : aRs) (X : aXs) : tb (tbX5_thrown l K X) 0 = sLd 0 1 isR := (rfl)
theorem wX5_thrown_0 {l : Launch} {K : aRs} {X : aXs} {J : aK} {W : Nat → aK} (hW : isW (tbX5_thrown l K X) cuX5_thrown J W) (n : Nat) (ls st : List aV) (μ : aM) (g : Nat) : W (n + 1) 0 ls st μ g = (sLd 0 1 isR) (W n) ls st μ g := (hW n 0 ls st μ g).trans rfl
theorem wX5_thrown_1 {l : Launch} {K : aRs} {X : aXs} {J : aK} {W : Nat → aK} (hW : isW (tbX5_thrown l K X) cuX5_thrown J W) (n : Nat) (ls st : List aV) (μ : aM) (g : Nat) : W (n + 1) 1 ls st μ g = (sGetI 5 24 4) (W n) ls st μ g := (hW n 1 ls st μ g).trans rfl
theorem wX5_thrown_4 {l : Launch} {K : aRs} {X : aXs} {J : aK} {W : Nat → aK} (hW : isW (tbX5_thrown l K X) cuX5_thrown J W) (n : Nat) (ls st : List aV) (μ : aM) (g : Nat) : W (n + 1) 4 ls st μ g = (sRetI .int 0 K) (W n) ls st μ g := (hW n 4 ls st μ g).trans rfl
theorem dX5_fails_0 : decode cX5_fails 0 = .ok (.aload_n 0, 1) := by decide +kernel
theorem dX5_fails_1 : decode cX5_fails 1 = .ok (.iload_n 1, 1) := by decide +kernel
theorem dX5_fails_2 : decode cX5_fails 2 = .ok (.putfield 60, 3) := by decide +kernel
theorem dX5_fails_5 : decode cX5_fails 5 = .ok (.iload_n 1, 1) := by decide +kernel
theorem dX5_fails_6 : decode cX5_fails 6 = .ok (.ifCond .le 7, 3) := by decide +kernel
theorem dX5_fails_9 : decode cX5_fails 9 = .ok (.iconst 1, 1) := by decide +kernel
theorem dX5_fails_10 : decode cX5_fails 10 = .ok (.goto 4, 3) := by decide +kernel
theorem dX5_fails_13 : decode cX5_fails 13 = .ok (.iconst 0, 1) := by decide +kernel
theorem dX5_fails_14 : decode cX5_fails 14 = .ok (.ireturn, 1) := by decide +kernel
def tbX5_fails (l : Launch) (K : aRs) (X : aXs) : aTb := [
  (0, sLd 0 1 isR),
  (1, sLd 1 2 isI),
  (2, sPutI 5 24 5),
  (5, sLd 1 6 isI),
  (6, sIf pLe 13 9),
  (9, sPush (aI 1) 10),
  (10, sGoto 14),
  (13, sPush (aI 0) 14),
  (14, sRetI .boolean 0 K)]
theorem snX5_fails (l : Launch) (K : aRs) (X : aXs) (n0 : Nat) : ∀ q ∈ tbX5_fails l K X, aSo l mdX5_fails K X n0 q.1 q.2 :=
  tc (fun p e s m args below meth c cA D A ad0 h => ok_aload_n h.1 0 rfl dX5_fails_0) <|
  tc (fun p e s m args below meth c cA D A ad0 h => ok_iload_n h.1 1 rfl dX5_fails_1) <|
  tc (fun p e s m args below meth c cA D A ad0 h => ok_putI h.1 cxX5 (by decide) rfl fkRX5_60 (Or.inl rfl) (fun _ _ _ => rfl) (Or.inl rfl) dX5_fails_2) <|
  tc (fun p e s m args below meth c cA D A ad0 h => ok_iload_n h.1 1 rfl dX5_fails_5) <|
  tc (fun p e s m args below meth c cA D A ad0 h => ok_if_le h.1 13 (by decide) dX5_fails_6) <|
  tc (fun p e s m args below meth c cA D A ad0 h => ok_iconst h.1 ⟨by decide, by decide⟩ dX5_fails_9) <|
  tc (fun p e s m args below meth c cA D A ad0 h => ok_goto h.1 14 (by decide) dX5_fails_10) <|
  tc (fun p e s m args below meth c cA D A ad0 h => ok_iconst h.1 ⟨by decide, by decide⟩ dX5_fails_13) <|
  tc (fun p e s m args below meth c cA D A ad0 h => ok_ireturn h.1 h.2.2.2.1 (Or.inr (Or.inl rfl)) dX5_fails_14) <|
  tn
abbrev cuX5_fails : List Nat := []
theorem tX5_fails_0 (l : Launch) (K : aRs) (X : aXs) : tb (tbX5_fails l K X) 0 = sLd 0 1 isR := (rfl)
theorem wX5_fails_0 {l : Launch} {K : aRs} {X : aXs} {J : aK} {W : Nat → aK} (hW : isW (tbX5_fails l K X) cuX5_fails J W) (n : Nat) (ls st : List aV) (μ : aM) (g : Nat) : W (n + 1) 0 ls st μ g = (sLd 0 1 isR) (W n) ls st μ g := (hW n 0 ls st μ g).trans rfl
theorem wX5_fails_1 {l : Launch} {K : aRs} {X : aXs} {J : aK} {W : Nat → aK} (hW : isW (tbX5_fails l K X) cuX5_fails J W) (n : Nat) (ls st : List aV) (μ : aM) (g : Nat) : W (n + 1) 1 ls st μ g = (sLd 1 2 isI) (W n) ls st μ g := (hW n 1 ls st μ g).trans rfl
theorem wX5_fails_2 {l : Launch} {K : aRs} {X : aXs} {J : aK} {W : Nat → aK} (hW : isW (tbX5_fails l K X) cuX5_fails J W) (n : Nat) (ls st : List aV) (μ : aM) (g : Nat) : W (n + 1) 2 ls st μ g = (sPutI 5 24 5) (W n) ls st μ g := (hW n 2 ls st μ g).trans rfl
theorem wX5_fails_5 {l : Launch} {K : aRs} {X : aXs} {J : aK} {W : Nat → aK} (hW : isW (tbX5_fails l K X) cuX5_fails J W) (n : Nat) (ls st : List aV) (μ : aM) (g : Nat) : W (n + 1) 5 ls st μ g = (sLd 1 6 isI) (W n) ls st μ g := (hW n 5 ls st μ g).trans rfl
theorem wX5_fails_6 {l : Launch} {K : aRs} {X : aXs} {J : aK} {W : Nat → aK} (hW : isW (tbX5_fails l K X) cuX5_fails J W) (n : Nat) (ls st : List aV) (μ : aM) (g : Nat) : W (n + 1) 6 ls st μ g = (sIf pLe 13 9) (W n) ls st μ g := (hW n 6 ls st μ g).trans rfl
theorem wX5_fails_9 {l : Launch} {K : aRs} {X : aXs} {J : aK} {W : Nat → aK} (hW : isW (tbX5_fails l K X) cuX5_fails J W) (n : Nat) (ls st : List aV) (μ : aM) (g : Nat) : W (n + 1) 9 ls st μ g = (sPush (aI 1) 10) (W n) ls st μ g := (hW n 9 ls st μ g).trans rfl
theorem wX5_fails_10 {l : Launch} {K : aRs} {X : aXs} {J : aK} {W : Nat → aK} (hW : isW (tbX5_fails l K X) cuX5_fails J W) (n : Nat) (ls st : List aV) (μ : aM) (g : Nat) : W (n + 1) 10 ls st μ g = (sGoto 14) (W n) ls st μ g := (hW n 10 ls st μ g).trans rfl
theorem wX5_fails_13 {l : Launch} {K : aRs} {X : aXs} {J : aK} {W : Nat → aK} (hW : isW (tbX5_fails l K X) cuX5_fails J W) (n : Nat) (ls st : List aV) (μ : aM) (g : Nat) : W (n + 1) 13 ls st μ g = (sPush (aI 0) 14) (W n) ls st μ g := (hW n 13 ls st μ g).trans rfl
theorem wX5_fails_14 {l : Launch} {K : aRs} {X : aXs} {J : aK} {W : Nat → aK} (hW : isW (tbX5_fails l K X) cuX5_fails J W) (n : Nat) (ls st : List aV) (μ : aM) (g : Nat) : W (n + 1) 14 ls st μ g = (sRetI .boolean 0 K) (W n) ls st μ g := (hW n 14 ls st μ g).trans rfl
theorem dX5_tells_0 : decode cX5_tells 0 = .ok (.aload_n 0, 1) := by decide +kernel
theorem dX5_tells_1 : decode cX5_tells 1 = .ok (.iconst 0, 1) := by decide +kernel
theorem dX5_tells_2 : decode cX5_tells 2 = .ok (.putfield 60, 3) := by decide +kernel
theorem dX5_tells_5 : decode cX5_tells 5 = .ok (.iload_n 1, 1) := by decide +kernel
theorem dX5_tells_6 : decode cX5_tells 6 = .ok (.ireturn, 1) := by decide +kernel
def tbX5_tells (l : Launch) (K : aRs) (X : aXs) : aTb := [
  (0, sLd 0 1 isR),
  (1, sPush (aI 0) 2),
  (2, sPutI 5 24 5),
  (5, sLd 1 6 isI),
  (6, sRetI .int 0 K)]
theorem snX5_tells (l : Launch) (K : aRs) (X : aXs) (n0 : Nat) : ∀ q ∈ tbX5_tells l K X, aSo l mdX5_tells K X n0 q.1 q.2 :=
  tc (fun p e s m args below meth c cA D A ad0 h => ok_aload_n h.1 0 rfl dX5_tells_0) <|
  tc (fun p e s m args below meth c cA D A ad0 h => ok_iconst h.1 ⟨by decide, by decide⟩ dX5_tells_1) <|
  tc (fun p e s m args below meth c cA D A ad0 h => ok_putI h.1 cxX5 (by decide) rfl fkRX5_60 (Or.inl rfl) (fun _ _ _ => rfl) (Or.inl rfl) dX5_tells_2) <|
  tc (fun p e s m args below meth c cA D A ad0 h => ok_iload_n h.1 1 rfl dX5_tells_5) <|
  tc (fun p e s m args below meth c cA D A ad0 h => ok_ireturn h.1 h.2.2.2.1 (Or.inl rfl) dX5_tells_6) <|
  tn
abbrev cuX5_tells : List Nat := []
theorem tX5_tells_0 (l : Launch) (K : aRs) (X : aXs) : tb (tbX5_tells l K X) 0 = sLd 0 1 isR := (rfl)
theorem wX5_tells_0 {l : Launch} {K : aRs} {X : aXs} {J : aK} {W : Nat → aK} (hW : isW (tbX5_tells l K X) cuX5_tells J W) (n : Nat) (ls st : List aV) (μ : aM) (g : Nat) : W (n + 1) 0 ls st μ g = (sLd 0 1 isR) (W n) ls st μ g := (hW n 0 ls st μ g).trans rfl
theorem wX5_tells_1 {l : Launch} {K : aRs} {X : aXs} {J : aK} {W : Nat → aK} (hW : isW (tbX5_tells l K X) cuX5_tells J W) (n : Nat) (ls st : List aV) (μ : aM) (g : Nat) : W (n + 1) 1 ls st μ g = (sPush (aI 0) 2) (W n) ls st μ g := (hW n 1 ls st μ g).trans rfl
theorem wX5_tells_2 {l : Launch} {K : aRs} {X : aXs} {J : aK} {W : Nat → aK} (hW : isW (tbX5_tells l K X) cuX5_tells J W) (n : Nat) (ls st : List aV) (μ : aM) (g : Nat) : W (n + 1) 2 ls st μ g = (sPutI 5 24 5) (W n) ls st μ g := (hW n 2 ls st μ g).trans rfl
theorem wX5_tells_5 {l : Launch} {K : aRs} {X : aXs} {J : aK} {W : Nat → aK} (hW : isW (tbX5_tells l K X) cuX5_tells J W) (n : Nat) (ls st : List aV) (μ : aM) (g : Nat) : W (n + 1) 5 ls st μ g = (sLd 1 6 isI) (W n) ls st μ g := (hW n 5 ls st μ g).trans rfl
theorem wX5_tells_6 {l : Launch} {K : aRs} {X : aXs} {J : aK} {W : Nat → aK} (hW : isW (tbX5_tells l K X) cuX5_tells J W) (n : Nat) (ls st : List aV) (μ : aM) (g : Nat) : W (n + 1) 6 ls st μ g = (sRetI .int 0 K) (W n) ls st μ g := (hW n 6 ls st μ g).trans rfl
theorem dX5_in_0 : decode cX5_in 0 = .ok (.iload_n 0, 1) := by decide +kernel
theorem dX5_in_1 : decode cX5_in 1 = .ok (.iload_n 1, 1) := by decide +kernel
theorem dX5_in_2 : decode cX5_in 2 = .ok (.if_icmp .lt 12, 3) := by decide +kernel
theorem dX5_in_5 : decode cX5_in 5 = .ok (.iload_n 0, 1) := by decide +kernel
theorem dX5_in_6 : decode cX5_in 6 = .ok (.iload_n 2, 1) := by decide +kernel
theorem dX5_in_7 : decode cX5_in 7 = .ok (.if_icmp .gt 7, 3) := by decide +kernel
theorem dX5_in_10 : decode cX5_in 10 = .ok (.iconst 1, 1) := by decide +kernel
theorem dX5_in_11 : decode cX5_in 11 = .ok (.goto 4, 3) := by decide +kernel
theorem dX5_in_14 : decode cX5_in 14 = .ok (.iconst 0, 1) := by decide +kernel
theorem dX5_in_15 : decode cX5_in 15 = .ok (.ireturn, 1) := by decide +kernel
def tbX5_in (l : Launch) (K : aRs) (X : aXs) : aTb := [
  (0, sLd 0 1 isI),
  (1, sLd 1 2 isI),
  (2, sIc qLt 14 5),
  (5, sLd 0 6 isI),
  (6, sLd 2 7 isI),
  (7, sIc qGt 14 10),
  (10, sPush (aI 1) 11),
  (11, sGoto 15),
  (14, sPush (aI 0) 15),
  (15, sRetI .boolean 0 K)]
theorem snX5_in (l : Launch) (K : aRs) (X : aXs) (n0 : Nat) : ∀ q ∈ tbX5_in l K X, aSo l mdX5_in K X n0 q.1 q.2 :=
  tc (fun p e s m args below meth c cA D A ad0 h => ok_iload_n h.1 0 rfl dX5_in_0) <|
  tc (fun p e s m args below meth c cA D A ad0 h => ok_iload_n h.1 1 rfl dX5_in_1) <|
  tc (fun p e s m args below meth c cA D A ad0 h => ok_icmp_lt h.1 14 (by decide) dX5_in_2) <|
  tc (fun p e s m args below meth c cA D A ad0 h => ok_iload_n h.1 0 rfl dX5_in_5) <|
  tc (fun p e s m args below meth c cA D A ad0 h => ok_iload_n h.1 2 rfl dX5_in_6) <|
  tc (fun p e s m args below meth c cA D A ad0 h => ok_icmp_gt h.1 14 (by decide) dX5_in_7) <|
  tc (fun p e s m args below meth c cA D A ad0 h => ok_iconst h.1 ⟨by decide, by decide⟩ dX5_in_10) <|
  tc (fun p e s m args below meth c cA D A ad0 h => ok_goto h.1 15 (by decide) dX5_in_11) <|
  tc (fun p e s m args below meth c cA D A ad0 h => ok_iconst h.1 ⟨by decide, by decide⟩ dX5_in_14) <|
  tc (fun p e s m args below meth c cA D A ad0 h => ok_ireturn h.1 h.2.2.2.1 (Or.inr (Or.inl rfl)) dX5_in_15) <|
  tn
abbrev cuX5_in : List Nat := []
theorem tX5_in_0 (l : Launch) (K : aRs) (X : aXs) : tb (tbX5_in l K X) 0 = sLd 0 1 isI := (rfl)
theorem wX5_in_0 {l : Launch} {K : aRs} {X : aXs} {J : aK} {W : Nat → aK} (hW : isW (tbX5_in l K X) cuX5_in J W) (n : Nat) (ls st : List aV) (μ : aM) (g : Nat) : W (n + 1) 0 ls st μ g = (sLd 0 1 isI) (W n) ls st μ g := (hW n 0 ls st μ g).trans rfl
theorem wX5_in_1 {l : Launch} {K : aRs} {X : aXs} {J : aK} {W : Nat → aK} (hW : isW (tbX5_in l K X) cuX5_in J W) (n : Nat) (ls st : List aV) (μ : aM) (g : Nat) : W (n + 1) 1 ls st μ g = (sLd 1 2 isI) (W n) ls st μ g := (hW n 1 ls st μ g).trans rfl
theorem wX5_in_2 {l : Launch} {K : aRs} {X : aXs} {J : aK} {W : Nat → aK} (hW : isW (tbX5_in l K X) cuX5_in J W) (n : Nat) (ls st : List aV) (μ : aM) (g : Nat) : W (n + 1) 2 ls st μ g = (sIc qLt 14 5) (W n) ls st μ g := (hW n 2 ls st μ g).trans rfl
theorem wX5_in_5 {l : Launch} {K : aRs} {X : aXs} {J : aK} {W : Nat → aK} (hW : isW (tbX5_in l K X) cuX5_in J W) (n : Nat) (ls st : List aV) (μ : aM) (g : Nat) : W (n + 1) 5 ls st μ g = (sLd 0 6 isI) (W n) ls st μ g := (hW n 5 ls st μ g).trans rfl
theorem wX5_in_6 {l : Launch} {K : aRs} {X : aXs} {J : aK} {W : Nat → aK} (hW : isW (tbX5_in l K X) cuX5_in J W) (n : Nat) (ls st : List aV) (μ : aM) (g : Nat) : W (n + 1) 6 ls st μ g = (sLd 2 7 isI) (W n) ls st μ g := (hW n 6 ls st μ g).trans rfl
theorem wX5_in_7 {l : Launch} {K : aRs} {X : aXs} {J : aK} {W : Nat → aK} (hW : isW (tbX5_in l K X) cuX5_in J W) (n : Nat) (ls st : List aV) (μ : aM) (g : Nat) : W (n + 1) 7 ls st μ g = (sIc qGt 14 10) (W n) ls st μ g := (hW n 7 ls st μ g).trans rfl
theorem wX5_in_10 {l : Launch} {K : aRs} {X : aXs} {J : aK} {W : Nat → aK} (hW : isW (tbX5_in l K X) cuX5_in J W) (n : Nat) (ls st : List aV) (μ : aM) (g : Nat) : W (n + 1) 10 ls st μ g = (sPush (aI 1) 11) (W n) ls st μ g := (hW n 10 ls st μ g).trans rfl
theorem wX5_in_11 {l : Launch} {K : aRs} {X : aXs} {J : aK} {W : Nat → aK} (hW : isW (tbX5_in l K X) cuX5_in J W) (n : Nat) (ls st : List aV) (μ : aM) (g : Nat) : W (n + 1) 11 ls st μ g = (sGoto 15) (W n) ls st μ g := (hW n 11 ls st μ g).trans rfl
theorem wX5_in_14 {l : Launch} {K : aRs} {X : aXs} {J : aK} {W : Nat → aK} (hW : isW (tbX5_in l K X) cuX5_in J W) (n : Nat) (ls st : List aV) (μ : aM) (g : Nat) : W (n + 1) 14 ls st μ g = (sPush (aI 0) 15) (W n) ls st μ g := (hW n 14 ls st μ g).trans rfl
theorem wX5_in_15 {l : Launch} {K : aRs} {X : aXs} {J : aK} {W : Nat → aK} (hW : isW (tbX5_in l K X) cuX5_in J W) (n : Nat) (ls st : List aV) (μ : aM) (g : Nat) : W (n + 1) 15 ls st μ g = (sRetI .boolean 0 K) (W n) ls st μ g := (hW n 15 ls st μ g).trans rfl
theorem dX5_lesser_0 : decode cX5_lesser 0 = .ok (.iload_n 0, 1) := by decide +kernel
theorem dX5_lesser_1 : decode cX5_lesser 1 = .ok (.iload_n 1, 1) := by decide +kernel
theorem dX5_lesser_2 : decode cX5_lesser 2 = .ok (.if_icmp .ge 7, 3) := by decide +kernel
theorem dX5_lesser_5 : decode cX5_lesser 5 = .ok (.iload_n 0, 1) := by decide +kernel
theorem dX5_lesser_6 : decode cX5_lesser 6 = .ok (.goto 4, 3) := by decide +kernel
theorem dX5_lesser_9 : decode cX5_lesser 9 = .ok (.iload_n 1, 1) := by decide +kernel
theorem dX5_lesser_10 : decode cX5_lesser 10 = .ok (.ireturn, 1) := by decide +kernel
def tbX5_lesser (l : Launch) (K : aRs) (X : aXs) : aTb := [
  (0, sLd 0 1 isI),
  (1, sLd 1 2 isI),
  (2, sIc qGe 9 5),
  (5, sLd 0 6 isI),
  (6, sGoto 10),
  (9, sLd 1 10 isI),
  (10, sRetI .int 0 K)]
theorem snX5_lesser (l : Launch) (K : aRs) (X : aXs) (n0 : Nat) : ∀ q ∈ tbX5_lesser l K X, aSo l mdX5_lesser K X n0 q.1 q.2 :=
  tc (fun p e s m args below meth c cA D A ad0 h => ok_iload_n h.1 0 rfl dX5_lesser_0) <|
  tc (fun p e s m args below meth c cA D A ad0 h => ok_iload_n h.1 1 rfl dX5_lesser_1) <|
  tc (fun p e s m args below meth c cA D A ad0 h => ok_icmp_ge h.1 9 (by decide) dX5_lesser_2) <|
  tc (fun p e s m args below meth c cA D A ad0 h => ok_iload_n h.1 0 rfl dX5_lesser_5) <|
  tc (fun p e s m args below meth c cA D A ad0 h => ok_goto h.1 10 (by decide) dX5_lesser_6) <|
  tc (fun p e s m args below meth c cA D A ad0 h => ok_iload_n h.1 1 rfl dX5_lesser_9) <|
  tc (fun p e s m args below meth c cA D A ad0 h => ok_ireturn h.1 h.2.2.2.1 (Or.inl rfl) dX5_lesser_10) <|
  tn
abbrev cuX5_lesser : List Nat := []
theorem tX5_lesser_0 (l : Launch) (K : aRs) (X : aXs) : tb (tbX5_lesser l K X) 0 = sLd 0 1 isI := (rfl)
theorem wX5_lesser_0 {l : Launch} {K : aRs} {X : aXs} {J : aK} {W : Nat → aK} (hW : isW (tbX5_lesser l K X) cuX5_lesser J W) (n : Nat) (ls st : List aV) (μ : aM) (g : Nat) : W (n + 1) 0 ls st μ g = (sLd 0 1 isI) (W n) ls st μ g := (hW n 0 ls st μ g).trans rfl
theorem wX5_lesser_1 {l : Launch} {K : aRs} {X : aXs} {J : aK} {W : Nat → aK} (hW : isW (tbX5_lesser l K X) cuX5_lesser J W) (n : Nat) (ls st : List aV) (μ : aM) (g : Nat) : W (n + 1) 1 ls st μ g = (sLd 1 2 isI) (W n) ls st μ g := (hW n 1 ls st μ g).trans rfl
theorem wX5_lesser_2 {l : Launch} {K : aRs} {X : aXs} {J : aK} {W : Nat → aK} (hW : isW (tbX5_lesser l K X) cuX5_lesser J W) (n : Nat) (ls st : List aV) (μ : aM) (g : Nat) : W (n + 1) 2 ls st μ g = (sIc qGe 9 5) (W n) ls st μ g := (hW n 2 ls st μ g).trans rfl
theorem wX5_lesser_5 {l : Launch} {K : aRs} {X : aXs} {J : aK} {W : Nat → aK} (hW : isW (tbX5_lesser l K X) cuX5_lesser J W) (n : Nat) (ls st : List aV) (μ : aM) (g : Nat) : W (n + 1) 5 ls st μ g = (sLd 0 6 isI) (W n) ls st μ g := (hW n 5 ls st μ g).trans rfl
theorem wX5_lesser_6 {l : Launch} {K : aRs} {X : aXs} {J : aK} {W : Nat → aK} (hW : isW (tbX5_lesser l K X) cuX5_lesser J W) (n : Nat) (ls st : List aV) (μ : aM) (g : Nat) : W (n + 1) 6 ls st μ g = (sGoto 10) (W n) ls st μ g := (hW n 6 ls st μ g).trans rfl
theorem wX5_lesser_9 {l : Launch} {K : aRs} {X : aXs} {J : aK} {W : Nat → aK} (hW : isW (tbX5_lesser l K X) cuX5_lesser J W) (n : Nat) (ls st : List aV) (μ : aM) (g : Nat) : W (n + 1) 9 ls st μ g = (sLd 1 10 isI) (W n) ls st μ g := (hW n 9 ls st μ g).trans rfl
theorem wX5_lesser_10 {l : Launch} {K : aRs} {X : aXs} {J : aK} {W : Nat → aK} (hW : isW (tbX5_lesser l K X) cuX5_lesser J W) (n : Nat) (ls st : List aV) (μ : aM) (g : Nat) : W (n + 1) 10 ls st μ g = (sRetI .int 0 K) (W n) ls st μ g := (hW n 10 ls st μ g).trans rfl
theorem dX5_isPrice_0 : decode cX5_isPrice 0 = .ok (.iload_n 0, 1) := by decide +kernel
theorem dX5_isPrice_1 : decode cX5_isPrice 1 = .ok (.iconst 1, 1) := by decide +kernel
theorem dX5_isPrice_2 : decode cX5_isPrice 2 = .ok (.sipush 300, 3) := by decide +kernel
theorem dX5_isPrice_5 : decode cX5_isPrice 5 = .ok (.invokestatic 64, 3) := by decide +kernel
theorem dX5_isPrice_8 : decode cX5_isPrice 8 = .ok (.ifCond .eq 35, 3) := by decide +kernel
theorem dX5_isPrice_11 : decode cX5_isPrice 11 = .ok (.iload_n 0, 1) := by decide +kernel
theorem dX5_isPrice_12 : decode cX5_isPrice 12 = .ok (.bipush 100, 2) := by decide +kernel
theorem dX5_isPrice_14 : decode cX5_isPrice 14 = .ok (.if_icmp .lt 25, 3) := by decide +kernel
theorem dX5_isPrice_17 : decode cX5_isPrice 17 = .ok (.iload_n 0, 1) := by decide +kernel
theorem dX5_isPrice_18 : decode cX5_isPrice 18 = .ok (.sipush 200, 3) := by decide +kernel
theorem dX5_isPrice_21 : decode cX5_isPrice 21 = .ok (.if_icmp .ge 12, 3) := by decide +kernel
theorem dX5_isPrice_24 : decode cX5_isPrice 24 = .ok (.iload_n 0, 1) := by decide +kernel
theorem dX5_isPrice_25 : decode cX5_isPrice 25 = .ok (.iconst 2, 1) := by decide +kernel
theorem dX5_isPrice_26 : decode cX5_isPrice 26 = .ok (.irem, 1) := by decide +kernel
theorem dX5_isPrice_27 : decode cX5_isPrice 27 = .ok (.ifCond .ne 16, 3) := by decide +kernel
theorem dX5_isPrice_30 : decode cX5_isPrice 30 = .ok (.goto 9, 3) := by decide +kernel
theorem dX5_isPrice_33 : decode cX5_isPrice 33 = .ok (.iload_n 0, 1) := by decide +kernel
theorem dX5_isPrice_34 : decode cX5_isPrice 34 = .ok (.iconst 5, 1) := by decide +kernel
theorem dX5_isPrice_35 : decode cX5_isPrice 35 = .ok (.irem, 1) := by decide +kernel
theorem dX5_isPrice_36 : decode cX5_isPrice 36 = .ok (.ifCond .ne 7, 3) := by decide +kernel
theorem dX5_isPrice_39 : decode cX5_isPrice 39 = .ok (.iconst 1, 1) := by decide +kernel
theorem dX5_isPrice_40 : decode cX5_isPrice 40 = .ok (.goto 4, 3) := by decide +kernel
theorem dX5_isPrice_43 : decode cX5_isPrice 43 = .ok (.iconst 0, 1) := by decide +kernel
theorem dX5_isPrice_44 : decode cX5_isPrice 44 = .ok (.ireturn, 1) := by decide +kernel
def tbX5_isPrice (l : Launch) (K : aRs) (X : aXs) : aTb := [
  (0, sLd 0 1 isI),
  (1, sPush (aI 1) 2),
  (2, sPush (aI 300) 5),
  (5, sCallS 3 (fun as μ K => Ct l mdX5_in as μ K X) 8 0 0),
  (8, sIf pEq 43 11),
  (11, sLd 0 12 isI),
  (12, sPush (aI 100) 14),
  (14, sIc qLt 39 17),
  (17, sLd 0 18 isI),
  (18, sPush (aI 200) 21),
  (21, sIc qGe 33 24),
  (24, sLd 0 25 isI),
  (25, sPush (aI 2) 26),
  (26, sRem 27),
  (27, sIf pNe 43 30),
  (30, sGoto 39),
  (33, sLd 0 34 isI),
  (34, sPush (aI 5) 35),
  (35, sRem 36),
  (36, sIf pNe 43 39),
  (39, sPush (aI 1) 40),
  (40, sGoto 44),
  (43, sPush (aI 0) 44),
  (44, sRetI .boolean 0 K)]
theorem snX5_isPrice (l : Launch) (K : aRs) (X : aXs) (n0 : Nat) : ∀ q ∈ tbX5_isPrice l K X, aSo l mdX5_isPrice K X n0 q.1 q.2 :=
  tc (fun p e s m args below meth c cA D A ad0 h => ok_iload_n h.1 0 rfl dX5_isPrice_0) <|
  tc (fun p e s m args below meth c cA D A ad0 h => ok_iconst h.1 ⟨by decide, by decide⟩ dX5_isPrice_1) <|
  tc (fun p e s m args below meth c cA D A ad0 h => ok_sipush h.1 ⟨by decide, by decide⟩ (by decide) dX5_isPrice_2) <|
  tc (fun p e s m args below meth c cA D A ad0 h => ok_callS h.1 h.2.1 ⟨Nat.le_refl _, Nat.le_refl _⟩ mdX5_in siX5_in mkRX5_64 stX5_in ⟨by decide, by decide⟩ (aAx_out h.1 h.2.2.1 _) dX5_isPrice_5) <|
  tc (fun p e s m args below meth c cA D A ad0 h => ok_if_eq h.1 43 (by decide) dX5_isPrice_8) <|
  tc (fun p e s m args below meth c cA D A ad0 h => ok_iload_n h.1 0 rfl dX5_isPrice_11) <|
  tc (fun p e s m args below meth c cA D A ad0 h => ok_bipush h.1 ⟨by decide, by decide⟩ (by decide) dX5_isPrice_12) <|
  tc (fun p e s m args below meth c cA D A ad0 h => ok_icmp_lt h.1 39 (by decide) dX5_isPrice_14) <|
  tc (fun p e s m args below meth c cA D A ad0 h => ok_iload_n h.1 0 rfl dX5_isPrice_17) <|
  tc (fun p e s m args below meth c cA D A ad0 h => ok_sipush h.1 ⟨by decide, by decide⟩ (by decide) dX5_isPrice_18) <|
  tc (fun p e s m args below meth c cA D A ad0 h => ok_icmp_ge h.1 33 (by decide) dX5_isPrice_21) <|
  tc (fun p e s m args below meth c cA D A ad0 h => ok_iload_n h.1 0 rfl dX5_isPrice_24) <|
  tc (fun p e s m args below meth c cA D A ad0 h => ok_iconst h.1 ⟨by decide, by decide⟩ dX5_isPrice_25) <|
  tc (fun p e s m args below meth c cA D A ad0 h => ok_irem h.1 dX5_isPrice_26) <|
  tc (fun p e s m args below meth c cA D A ad0 h => ok_if_ne h.1 43 (by decide) dX5_isPrice_27) <|
  tc (fun p e s m args below meth c cA D A ad0 h => ok_goto h.1 39 (by decide) dX5_isPrice_30) <|
  tc (fun p e s m args below meth c cA D A ad0 h => ok_iload_n h.1 0 rfl dX5_isPrice_33) <|
  tc (fun p e s m args below meth c cA D A ad0 h => ok_iconst h.1 ⟨by decide, by decide⟩ dX5_isPrice_34) <|
  tc (fun p e s m args below meth c cA D A ad0 h => ok_irem h.1 dX5_isPrice_35) <|
  tc (fun p e s m args below meth c cA D A ad0 h => ok_if_ne h.1 43 (by decide) dX5_isPrice_36) <|
  tc (fun p e s m args below meth c cA D A ad0 h => ok_iconst h.1 ⟨by decide, by decide⟩ dX5_isPrice_39) <|
  tc (fun p e s m args below meth c cA D A ad0 h => ok_goto h.1 44 (by decide) dX5_isPrice_40) <|
  tc (fun p e s m args below meth c cA D A ad0 h => ok_iconst h.1 ⟨by decide, by decide⟩ dX5_isPrice_43) <|
  tc (fun p e s m args below meth c cA D A ad0 h => ok_ireturn h.1 h.2.2.2.1 (Or.inr (Or.inl rfl)) dX5_isPrice_44) <|
  tn
abbrev cuX5_isPrice : List Nat := [8]
theorem tX5_isPrice_0 (l : Launch) (K : aRs) (X : aXs) : tb (tbX5_isPrice l K X) 0 = sLd 0 1 isI := (rfl)
theorem wX5_isPrice_0 {l : Launch} {K : aRs} {X : aXs} {J : aK} {W : Nat → aK} (hW : isW (tbX5_isPrice l K X) cuX5_isPrice J W) (n : Nat) (ls st : List aV) (μ : aM) (g : Nat) : W (n + 1) 0 ls st μ g = (sLd 0 1 isI) (W n) ls st μ g := (hW n 0 ls st μ g).trans rfl
theorem wX5_isPrice_1 {l : Launch} {K : aRs} {X : aXs} {J : aK} {W : Nat → aK} (hW : isW (tbX5_isPrice l K X) cuX5_isPrice J W) (n : Nat) (ls st : List aV) (μ : aM) (g : Nat) : W (n + 1) 1 ls st μ g = (sPush (aI 1) 2) (W n) ls st μ g := (hW n 1 ls st μ g).trans rfl
theorem wX5_isPrice_2 {l : Launch} {K : aRs} {X : aXs} {J : aK} {W : Nat → aK} (hW : isW (tbX5_isPrice l K X) cuX5_isPrice J W) (n : Nat) (ls st : List aV) (μ : aM) (g : Nat) : W (n + 1) 2 ls st μ g = (sPush (aI 300) 5) (W n) ls st μ g := (hW n 2 ls st μ g).trans rfl
theorem wX5_isPrice_5 {l : Launch} {K : aRs} {X : aXs} {J : aK} {W : Nat → aK} (hW : isW (tbX5_isPrice l K X) cuX5_isPrice J W) (n : Nat) (ls st : List aV) (μ : aM) (g : Nat) : W (n + 1) 5 ls st μ g = (sCallS 3 (fun as μ K => Ct l mdX5_in as μ K X) 8 0 0) (W n) ls st μ g := (hW n 5 ls st μ g).trans rfl
theorem tX5_isPrice_8 (l : Launch) (K : aRs) (X : aXs) : tb (tbX5_isPrice l K X) 8 = sIf pEq 43 11 := (rfl)
theorem wX5_isPrice_8 {l : Launch} {K : aRs} {X : aXs} {J : aK} {W : Nat → aK} (hW : isW (tbX5_isPrice l K X) cuX5_isPrice J W) (n : Nat) (ls st : List aV) (μ : aM) (g : Nat) : W (n + 1) 8 ls st μ g = J 8 ls st μ g := (hW n 8 ls st μ g).trans rfl
theorem wX5_isPrice_11 {l : Launch} {K : aRs} {X : aXs} {J : aK} {W : Nat → aK} (hW : isW (tbX5_isPrice l K X) cuX5_isPrice J W) (n : Nat) (ls st : List aV) (μ : aM) (g : Nat) : W (n + 1) 11 ls st μ g = (sLd 0 12 isI) (W n) ls st μ g := (hW n 11 ls st μ g).trans rfl
theorem wX5_isPrice_12 {l : Launch} {K : aRs} {X : aXs} {J : aK} {W : Nat → aK} (hW : isW (tbX5_isPrice l K X) cuX5_isPrice J W) (n : Nat) (ls st : List aV) (μ : aM) (g : Nat) : W (n + 1) 12 ls st μ g = (sPush (aI 100) 14) (W n) ls st μ g := (hW n 12 ls st μ g).trans rfl
theorem wX5_isPrice_14 {l : Launch} {K : aRs} {X : aXs} {J : aK} {W : Nat → aK} (hW : isW (tbX5_isPrice l K X) cuX5_isPrice J W) (n : Nat) (ls st : List aV) (μ : aM) (g : Nat) : W (n + 1) 14 ls st μ g = (sIc qLt 39 17) (W n) ls st μ g := (hW n 14 ls st μ g).trans rfl
theorem wX5_isPrice_17 {l : Launch} {K : aRs} {X : aXs} {J : aK} {W : Nat → aK} (hW : isW (tbX5_isPrice l K X) cuX5_isPrice J W) (n : Nat) (ls st : List aV) (μ : aM) (g : Nat) : W (n + 1) 17 ls st μ g = (sLd 0 18 isI) (W n) ls st μ g := (hW n 17 ls st μ g).trans rfl
theorem wX5_isPrice_18 {l : Launch} {K : aRs} {X : aXs} {J : aK} {W : Nat → aK} (hW : isW (tbX5_isPrice l K X) cuX5_isPrice J W) (n : Nat) (ls st : List aV) (μ : aM) (g : Nat) : W (n + 1) 18 ls st μ g = (sPush (aI 200) 21) (W n) ls st μ g := (hW n 18 ls st μ g).trans rfl
theorem wX5_isPrice_21 {l : Launch} {K : aRs} {X : aXs} {J : aK} {W : Nat → aK} (hW : isW (tbX5_isPrice l K X) cuX5_isPrice J W) (n : Nat) (ls st : List aV) (μ : aM) (g : Nat) : W (n + 1) 21 ls st μ g = (sIc qGe 33 24) (W n) ls st μ g := (hW n 21 ls st μ g).trans rfl
theorem wX5_isPrice_24 {l : Launch} {K : aRs} {X : aXs} {J : aK} {W : Nat → aK} (hW : isW (tbX5_isPrice l K X) cuX5_isPrice J W) (n : Nat) (ls st : List aV) (μ : aM) (g : Nat) : W (n + 1) 24 ls st μ g = (sLd 0 25 isI) (W n) ls st μ g := (hW n 24 ls st μ g).trans rfl
theorem wX5_isPrice_25 {l : Launch} {K : aRs} {X : aXs} {J : aK} {W : Nat → aK} (hW : isW (tbX5_isPrice l K X) cuX5_isPrice J W) (n : Nat) (ls st : List aV) (μ : aM) (g : Nat) : W (n + 1) 25 ls st μ g = (sPush (aI 2) 26) (W n) ls st μ g := (hW n 25 ls st μ g).trans rfl
theorem wX5_isPrice_26 {l : Launch} {K : aRs} {X : aXs} {J : aK} {W : Nat → aK} (hW : isW (tbX5_isPrice l K X) cuX5_isPrice J W) (n : Nat) (ls st : List aV) (μ : aM) (g : Nat) : W (n + 1) 26 ls st μ g = (sRem 27) (W n) ls st μ g := (hW n 26 ls st μ g).trans rfl
theorem wX5_isPrice_27 {l : Launch} {K : aRs} {X : aXs} {J : aK} {W : Nat → aK} (hW : isW (tbX5_isPrice l K X) cuX5_isPrice J W) (n : Nat) (ls st : List aV) (μ : aM) (g : Nat) : W (n + 1) 27 ls st μ g = (sIf pNe 43 30) (W n) ls st μ g := (hW n 27 ls st μ g).trans rfl
theorem wX5_isPrice_30 {l : Launch} {K : aRs} {X : aXs} {J : aK} {W : Nat → aK} (hW : isW (tbX5_isPrice l K X) cuX5_isPrice J W) (n : Nat) (ls st : List aV) (μ : aM) (g : Nat) : W (n + 1) 30 ls st μ g = (sGoto 39) (W n) ls st μ g := (hW n 30 ls st μ g).trans rfl
theorem wX5_isPrice_33 {l : Launch} {K : aRs} {X : aXs} {J : aK} {W : Nat → aK} (hW : isW (tbX5_isPrice l K X) cuX5_isPrice J W) (n : Nat) (ls st : List aV) (μ : aM) (g : Nat) : W (n + 1) 33 ls st μ g = (sLd 0 34 isI) (W n) ls st μ g := (hW n 33 ls st μ g).trans rfl
theorem wX5_isPrice_34 {l : Launch} {K : aRs} {X : aXs} {J : aK} {W : Nat → aK} (hW : isW (tbX5_isPrice l K X) cuX5_isPrice J W) (n : Nat) (ls st : List aV) (μ : aM) (g : Nat) : W (n + 1) 34 ls st μ g = (sPush (aI 5) 35) (W n) ls st μ g := (hW n 34 ls st μ g).trans rfl
theorem wX5_isPrice_35 {l : Launch} {K : aRs} {X : aXs} {J : aK} {W : Nat → aK} (hW : isW (tbX5_isPrice l K X) cuX5_isPrice J W) (n : Nat) (ls st : List aV) (μ : aM) (g : Nat) : W (n + 1) 35 ls st μ g = (sRem 36) (W n) ls st μ g := (hW n 35 ls st μ g).trans rfl
theorem wX5_isPrice_36 {l : Launch} {K : aRs} {X : aXs} {J : aK} {W : Nat → aK} (hW : isW (tbX5_isPrice l K X) cuX5_isPrice J W) (n : Nat) (ls st : List aV) (μ : aM) (g : Nat) : W (n + 1) 36 ls st μ g = (sIf pNe 43 39) (W n) ls st μ g := (hW n 36 ls st μ g).trans rfl
theorem wX5_isPrice_39 {l : Launch} {K : aRs} {X : aXs} {J : aK} {W : Nat → aK} (hW : isW (tbX5_isPrice l K X) cuX5_isPrice J W) (n : Nat) (ls st : List aV) (μ : aM) (g : Nat) : W (n + 1) 39 ls st μ g = (sPush (aI 1) 40) (W n) ls st μ g := (hW n 39 ls st μ g).trans rfl
theorem wX5_isPrice_40 {l : Launch} {K : aRs} {X : aXs} {J : aK} {W : Nat → aK} (hW : isW (tbX5_isPrice l K X) cuX5_isPrice J W) (n : Nat) (ls st : List aV) (μ : aM) (g : Nat) : W (n + 1) 40 ls st μ g = (sGoto 44) (W n) ls st μ g := (hW n 40 ls st μ g).trans rfl
theorem wX5_isPrice_43 {l : Launch} {K : aRs} {X : aXs} {J : aK} {W : Nat → aK} (hW : isW (tbX5_isPrice l K X) cuX5_isPrice J W) (n : Nat) (ls st : List aV) (μ : aM) (g : Nat) : W (n + 1) 43 ls st μ g = (sPush (aI 0) 44) (W n) ls st μ g := (hW n 43 ls st μ g).trans rfl
theorem wX5_isPrice_44 {l : Launch} {K : aRs} {X : aXs} {J : aK} {W : Nat → aK} (hW : isW (tbX5_isPrice l K X) cuX5_isPrice J W) (n : Nat) (ls st : List aV) (μ : aM) (g : Nat) : W (n + 1) 44 ls st μ g = (sRetI .boolean 0 K) (W n) ls st μ g := (hW n 44 ls st μ g).trans rfl
theorem dX5_isSide_0 : decode cX5_isSide 0 = .ok (.iload_n 0, 1) := by decide +kernel
theorem dX5_isSide_1 : decode cX5_isSide 1 = .ok (.bipush 98, 2) := by decide +kernel
theorem dX5_isSide_3 : decode cX5_isSide 3 = .ok (.if_icmp .eq 9, 3) := by decide +kernel
theorem dX5_isSide_6 : decode cX5_isSide 6 = .ok (.iload_n 0, 1) := by decide +kernel
theorem dX5_isSide_7 : decode cX5_isSide 7 = .ok (.bipush 115, 2) := by decide +kernel
theorem dX5_isSide_9 : decode cX5_isSide 9 = .ok (.if_icmp .ne 7, 3) := by decide +kernel
theorem dX5_isSide_12 : decode cX5_isSide 12 = .ok (.iconst 1, 1) := by decide +kernel
theorem dX5_isSide_13 : decode cX5_isSide 13 = .ok (.goto 4, 3) := by decide +kernel
theorem dX5_isSide_16 : decode cX5_isSide 16 = .ok (.iconst 0, 1) := by decide +kernel
theorem dX5_isSide_17 : decode cX5_isSide 17 = .ok (.ireturn, 1) := by decide +kernel
def tbX5_isSide (l : Launch) (K : aRs) (X : aXs) : aTb := [
  (0, sLd 0 1 isI),
  (1, sPush (aI 98) 3),
  (3, sIc qEq 12 6),
  (6, sLd 0 7 isI),
  (7, sPush (aI 115) 9),
  (9, sIc qNe 16 12),
  (12, sPush (aI 1) 13),
  (13, sGoto 17),
  (16, sPush (aI 0) 17),
  (17, sRetI .boolean 0 K)]
theorem snX5_isSide (l : Launch) (K : aRs) (X : aXs) (n0 : Nat) : ∀ q ∈ tbX5_isSide l K X, aSo l mdX5_isSide K X n0 q.1 q.2 :=
  tc (fun p e s m args below meth c cA D A ad0 h => ok_iload_n h.1 0 rfl dX5_isSide_0) <|
  tc (fun p e s m args below meth c cA D A ad0 h => ok_bipush h.1 ⟨by decide, by decide⟩ (by decide) dX5_isSide_1) <|
  tc (fun p e s m args below meth c cA D A ad0 h => ok_icmp_eq h.1 12 (by decide) dX5_isSide_3) <|
  tc (fun p e s m args below meth c cA D A ad0 h => ok_iload_n h.1 0 rfl dX5_isSide_6) <|
  tc (fun p e s m args below meth c cA D A ad0 h => ok_bipush h.1 ⟨by decide, by decide⟩ (by decide) dX5_isSide_7) <|
  tc (fun p e s m args below meth c cA D A ad0 h => ok_icmp_ne h.1 16 (by decide) dX5_isSide_9) <|
  tc (fun p e s m args below meth c cA D A ad0 h => ok_iconst h.1 ⟨by decide, by decide⟩ dX5_isSide_12) <|
  tc (fun p e s m args below meth c cA D A ad0 h => ok_goto h.1 17 (by decide) dX5_isSide_13) <|
  tc (fun p e s m args below meth c cA D A ad0 h => ok_iconst h.1 ⟨by decide, by decide⟩ dX5_isSide_16) <|
  tc (fun p e s m args below meth c cA D A ad0 h => ok_ireturn h.1 h.2.2.2.1 (Or.inr (Or.inl rfl)) dX5_isSide_17) <|
  tn
abbrev cuX5_isSide : List Nat := []
theorem tX5_isSide_0 (l : Launch) (K : aRs) (X : aXs) : tb (tbX5_isSide l K X) 0 = sLd 0 1 isI := (rfl)
theorem wX5_isSide_0 {l : Launch} {K : aRs} {X : aXs} {J : aK} {W : Nat → aK} (hW : isW (tbX5_isSide l K X) cuX5_isSide J W) (n : Nat) (ls st : List aV) (μ : aM) (g : Nat) : W (n + 1) 0 ls st μ g = (sLd 0 1 isI) (W n) ls st μ g := (hW n 0 ls st μ g).trans rfl
theorem wX5_isSide_1 {l : Launch} {K : aRs} {X : aXs} {J : aK} {W : Nat → aK} (hW : isW (tbX5_isSide l K X) cuX5_isSide J W) (n : Nat) (ls st : List aV) (μ : aM) (g : Nat) : W (n + 1) 1 ls st μ g = (sPush (aI 98) 3) (W n) ls st μ g := (hW n 1 ls st μ g).trans rfl
theorem wX5_isSide_3 {l : Launch} {K : aRs} {X : aXs} {J : aK} {W : Nat → aK} (hW : isW (tbX5_isSide l K X) cuX5_isSide J W) (n : Nat) (ls st : List aV) (μ : aM) (g : Nat) : W (n + 1) 3 ls st μ g = (sIc qEq 12 6) (W n) ls st μ g := (hW n 3 ls st μ g).trans rfl
theorem wX5_isSide_6 {l : Launch} {K : aRs} {X : aXs} {J : aK} {W : Nat → aK} (hW : isW (tbX5_isSide l K X) cuX5_isSide J W) (n : Nat) (ls st : List aV) (μ : aM) (g : Nat) : W (n + 1) 6 ls st μ g = (sLd 0 7 isI) (W n) ls st μ g := (hW n 6 ls st μ g).trans rfl
theorem wX5_isSide_7 {l : Launch} {K : aRs} {X : aXs} {J : aK} {W : Nat → aK} (hW : isW (tbX5_isSide l K X) cuX5_isSide J W) (n : Nat) (ls st : List aV) (μ : aM) (g : Nat) : W (n + 1) 7 ls st μ g = (sPush (aI 115) 9) (W n) ls st μ g := (hW n 7 ls st μ g).trans rfl
theorem wX5_isSide_9 {l : Launch} {K : aRs} {X : aXs} {J : aK} {W : Nat → aK} (hW : isW (tbX5_isSide l K X) cuX5_isSide J W) (n : Nat) (ls st : List aV) (μ : aM) (g : Nat) : W (n + 1) 9 ls st μ g = (sIc qNe 16 12) (W n) ls st μ g := (hW n 9 ls st μ g).trans rfl
theorem wX5_isSide_12 {l : Launch} {K : aRs} {X : aXs} {J : aK} {W : Nat → aK} (hW : isW (tbX5_isSide l K X) cuX5_isSide J W) (n : Nat) (ls st : List aV) (μ : aM) (g : Nat) : W (n + 1) 12 ls st μ g = (sPush (aI 1) 13) (W n) ls st μ g := (hW n 12 ls st μ g).trans rfl
theorem wX5_isSide_13 {l : Launch} {K : aRs} {X : aXs} {J : aK} {W : Nat → aK} (hW : isW (tbX5_isSide l K X) cuX5_isSide J W) (n : Nat) (ls st : List aV) (μ : aM) (g : Nat) : W (n + 1) 13 ls st μ g = (sGoto 17) (W n) ls st μ g := (hW n 13 ls st μ g).trans rfl
theorem wX5_isSide_16 {l : Launch} {K : aRs} {X : aXs} {J : aK} {W : Nat → aK} (hW : isW (tbX5_isSide l K X) cuX5_isSide J W) (n : Nat) (ls st : List aV) (μ : aM) (g : Nat) : W (n + 1) 16 ls st μ g = (sPush (aI 0) 17) (W n) ls st μ g := (hW n 16 ls st μ g).trans rfl
theorem wX5_isSide_17 {l : Launch} {K : aRs} {X : aXs} {J : aK} {W : Nat → aK} (hW : isW (tbX5_isSide l K X) cuX5_isSide J W) (n : Nat) (ls st : List aV) (μ : aM) (g : Nat) : W (n + 1) 17 ls st μ g = (sRetI .boolean 0 K) (W n) ls st μ g := (hW n 17 ls st μ g).trans rfl
theorem dX5_adds_0 : decode cX5_adds 0 = .ok (.aload_n 0, 1) := by decide +kernel
theorem dX5_adds_1 : decode cX5_adds 1 = .ok (.getfield 16, 3) := by decide +kernel
theorem dX5_adds_4 : decode cX5_adds 4 = .ok (.aload_n 0, 1) := by decide +kernel
theorem dX5_adds_5 : decode cX5_adds 5 = .ok (.getfield 68, 3) := by decide +kernel
theorem dX5_adds_8 : decode cX5_adds 8 = .ok (.iload_n 1, 1) := by decide +kernel
theorem dX5_adds_9 : decode cX5_adds 9 = .ok (.iastore, 1) := by decide +kernel
theorem dX5_adds_10 : decode cX5_adds 10 = .ok (.aload_n 0, 1) := by decide +kernel
theorem dX5_adds_11 : decode cX5_adds 11 = .ok (.getfield 7, 3) := by decide +kernel
theorem dX5_adds_14 : decode cX5_adds 14 = .ok (.aload_n 0, 1) := by decide +kernel
theorem dX5_adds_15 : decode cX5_adds 15 = .ok (.getfield 68, 3) := by decide +kernel
theorem dX5_adds_18 : decode cX5_adds 18 = .ok (.iload_n 2, 1) := by decide +kernel
theorem dX5_adds_19 : decode cX5_adds 19 = .ok (.castore, 1) := by decide +kernel
theorem dX5_adds_20 : decode cX5_adds 20 = .ok (.aload_n 0, 1) := by decide +kernel
theorem dX5_adds_21 : decode cX5_adds 21 = .ok (.getfield 23, 3) := by decide +kernel
theorem dX5_adds_24 : decode cX5_adds 24 = .ok (.aload_n 0, 1) := by decide +kernel
theorem dX5_adds_25 : decode cX5_adds 25 = .ok (.getfield 68, 3) := by decide +kernel
theorem dX5_adds_28 : decode cX5_adds 28 = .ok (.iload_n 3, 1) := by decide +kernel
theorem dX5_adds_29 : decode cX5_adds 29 = .ok (.iastore, 1) := by decide +kernel
theorem dX5_adds_30 : decode cX5_adds 30 = .ok (.aload_n 0, 1) := by decide +kernel
theorem dX5_adds_31 : decode cX5_adds 31 = .ok (.getfield 20, 3) := by decide +kernel
theorem dX5_adds_34 : decode cX5_adds 34 = .ok (.aload_n 0, 1) := by decide +kernel
theorem dX5_adds_35 : decode cX5_adds 35 = .ok (.getfield 68, 3) := by decide +kernel
theorem dX5_adds_38 : decode cX5_adds 38 = .ok (.iload 4, 2) := by decide +kernel
theorem dX5_adds_40 : decode cX5_adds 40 = .ok (.iastore, 1) := by decide +kernel
theorem dX5_adds_41 : decode cX5_adds 41 = .ok (.aload_n 0, 1) := by decide +kernel
theorem dX5_adds_42 : decode cX5_adds 42 = .ok (.getfield 26, 3) := by decide +kernel
theorem dX5_adds_45 : decode cX5_adds 45 = .ok (.aload_n 0, 1) := by decide +kernel
theorem dX5_adds_46 : decode cX5_adds 46 = .ok (.getfield 68, 3) := by decide +kernel
theorem dX5_adds_49 : decode cX5_adds 49 = .ok (.iload 5, 2) := by decide +kernel
theorem dX5_adds_51 : decode cX5_adds 51 = .ok (.iastore, 1) := by decide +kernel
theorem dX5_adds_52 : decode cX5_adds 52 = .ok (.aload_n 0, 1) := by decide +kernel
theorem dX5_adds_53 : decode cX5_adds 53 = .ok (.getfield 29, 3) := by decide +kernel
theorem dX5_adds_56 : decode cX5_adds 56 = .ok (.aload_n 0, 1) := by decide +kernel
theorem dX5_adds_57 : decode cX5_adds 57 = .ok (.getfield 68, 3) := by decide +kernel
theorem dX5_adds_60 : decode cX5_adds 60 = .ok (.iload 5, 2) := by decide +kernel
theorem dX5_adds_62 : decode cX5_adds 62 = .ok (.iastore, 1) := by decide +kernel
theorem dX5_adds_63 : decode cX5_adds 63 = .ok (.aload_n 0, 1) := by decide +kernel
theorem dX5_adds_64 : decode cX5_adds 64 = .ok (.getfield 35, 3) := by decide +kernel
theorem dX5_adds_67 : decode cX5_adds 67 = .ok (.aload_n 0, 1) := by decide +kernel
theorem dX5_adds_68 : decode cX5_adds 68 = .ok (.getfield 68, 3) := by decide +kernel
theorem dX5_adds_71 : decode cX5_adds 71 = .ok (.iload 6, 2) := by decide +kernel
theorem dX5_adds_73 : decode cX5_adds 73 = .ok (.iastore, 1) := by decide +kernel
theorem dX5_adds_74 : decode cX5_adds 74 = .ok (.aload_n 0, 1) := by decide +kernel
theorem dX5_adds_75 : decode cX5_adds 75 = .ok (.getfield 13, 3) := by decide +kernel
theorem dX5_adds_78 : decode cX5_adds 78 = .ok (.aload_n 0, 1) := by decide +kernel
theorem dX5_adds_79 : decode cX5_adds 79 = .ok (.getfield 68, 3) := by decide +kernel
theorem dX5_adds_82 : decode cX5_adds 82 = .ok (.bipush 119, 2) := by decide +kernel
theorem dX5_adds_84 : decode cX5_adds 84 = .ok (.castore, 1) := by decide +kernel
theorem dX5_adds_85 : decode cX5_adds 85 = .ok (.aload_n 0, 1) := by decide +kernel
theorem dX5_adds_86 : decode cX5_adds 86 = .ok (.dup, 1) := by decide +kernel
theorem dX5_adds_87 : decode cX5_adds 87 = .ok (.getfield 68, 3) := by decide +kernel
theorem dX5_adds_90 : decode cX5_adds 90 = .ok (.iconst 1, 1) := by decide +kernel
theorem dX5_adds_91 : decode cX5_adds 91 = .ok (.iadd, 1) := by decide +kernel
theorem dX5_adds_92 : decode cX5_adds 92 = .ok (.putfield 68, 3) := by decide +kernel
theorem dX5_adds_95 : decode cX5_adds 95 = .ok (.aload_n 0, 1) := by decide +kernel
theorem dX5_adds_96 : decode cX5_adds 96 = .ok (.getfield 68, 3) := by decide +kernel
theorem dX5_adds_99 : decode cX5_adds 99 = .ok (.iconst 1, 1) := by decide +kernel
theorem dX5_adds_100 : decode cX5_adds 100 = .ok (.isub, 1) := by decide +kernel
theorem dX5_adds_101 : decode cX5_adds 101 = .ok (.ireturn, 1) := by decide +kernel
def tbX5_adds (l : Launch) (K : aRs) (X : aXs) : aTb := [
  (0, sLd 0 1 isR),
  (1, sGetR 5 3 4),
  (4, sLd 0 5 isR),
  (5, sGetI 5 0 8),
  (8, sLd 1 9 isI),
  (9, sAstI 10),
  (10, sLd 0 11 isR),
  (11, sGetR 5 1 14),
  (14, sLd 0 15 isR),
  (15, sGetI 5 0 18),
  (18, sLd 2 19 isI),
  (19, sAstC 20),
  (20, sLd 0 21 isR),
  (21, sGetR 5 5 24),
  (24, sLd 0 25 isR),
  (25, sGetI 5 0 28),
  (28, sLd 3 29 isI),
  (29, sAstI 30),
  (30, sLd 0 31 isR),
  (31, sGetR 5 4 34),
  (34, sLd 0 35 isR),
  (35, sGetI 5 0 38),
  (38, sLd 4 40 isI),
  (40, sAstI 41),
  (41, sLd 0 42 isR),
  (42, sGetR 5 6 45),
  (45, sLd 0 46 isR),
  (46, sGetI 5 0 49),
  (49, sLd 5 51 isI),
  (51, sAstI 52),
  (52, sLd 0 53 isR),
  (53, sGetR 5 7 56),
  (56, sLd 0 57 isR),
  (57, sGetI 5 0 60),
  (60, sLd 5 62 isI),
  (62, sAstI 63),
  (63, sLd 0 64 isR),
  (64, sGetR 5 9 67),
  (67, sLd 0 68 isR),
  (68, sGetI 5 0 71),
  (71, sLd 6 73 isI),
  (73, sAstI 74),
  (74, sLd 0 75 isR),
  (75, sGetR 5 2 78),
  (78, sLd 0 79 isR),
  (79, sGetI 5 0 82),
  (82, sPush (aI 119) 84),
  (84, sAstC 85),
  (85, sLd 0 86 isR),
  (86, sDup 87),
  (87, sGetI 5 0 90),
  (90, sPush (aI 1) 91),
  (91, sBin fAdd 92),
  (92, sPutI 5 0 95),
  (95, sLd 0 96 isR),
  (96, sGetI 5 0 99),
  (99, sPush (aI 1) 100),
  (100, sBin fSub 101),
  (101, sRetI .int 0 K)]
theorem snX5_adds (l : Launch) (K : aRs) (X : aXs) (n0 : Nat) : ∀ q ∈ tbX5_adds l K X, aSo l mdX5_adds K X n0 q.1 q.2 :=
  tc (fun p e s m args below meth c cA D A ad0 h => ok_aload_n h.1 0 rfl dX5_adds_0) <|
  tc (fun p e s m args below meth c cA D A ad0 h => ok_getR h.1 cxX5 (by decide) rfl fkRX5_16 (fun _ _ _ => rfl) dX5_adds_1) <|
  tc (fun p e s m args below meth c cA D A ad0 h => ok_aload_n h.1 0 rfl dX5_adds_4) <|
  tc (fun p e s m args below meth c cA D A ad0 h => ok_getI h.1 cxX5 (by decide) rfl fkRX5_68 (fun _ _ _ => rfl) dX5_adds_5) <|
  tc (fun p e s m args below meth c cA D A ad0 h => ok_iload_n h.1 1 rfl dX5_adds_8) <|
  tc (fun p e s m args below meth c cA D A ad0 h => ok_iast h.1 dX5_adds_9) <|
  tc (fun p e s m args below meth c cA D A ad0 h => ok_aload_n h.1 0 rfl dX5_adds_10) <|
  tc (fun p e s m args below meth c cA D A ad0 h => ok_getR h.1 cxX5 (by decide) rfl fkRX5_7 (fun _ _ _ => rfl) dX5_adds_11) <|
  tc (fun p e s m args below meth c cA D A ad0 h => ok_aload_n h.1 0 rfl dX5_adds_14) <|
  tc (fun p e s m args below meth c cA D A ad0 h => ok_getI h.1 cxX5 (by decide) rfl fkRX5_68 (fun _ _ _ => rfl) dX5_adds_15) <|
  tc (fun p e s m args below meth c cA D A ad0 h => ok_iload_n h.1 2 rfl dX5_adds_18) <|
  tc (fun p e s m args below meth c cA D A ad0 h => ok_cast h.1 dX5_adds_19) <|
  tc (fun p e s m args below meth c cA D A ad0 h => ok_aload_n h.1 0 rfl dX5_adds_20) <|
  tc (fun p e s m args below meth c cA D A ad0 h => ok_getR h.1 cxX5 (by decide) rfl fkRX5_23 (fun _ _ _ => rfl) dX5_adds_21) <|
  tc (fun p e s m args below meth c cA D A ad0 h => ok_aload_n h.1 0 rfl dX5_adds_24) <|
  tc (fun p e s m args below meth c cA D A ad0 h => ok_getI h.1 cxX5 (by decide) rfl fkRX5_68 (fun _ _ _ => rfl) dX5_adds_25) <|
  tc (fun p e s m args below meth c cA D A ad0 h => ok_iload_n h.1 3 rfl dX5_adds_28) <|
  tc (fun p e s m args below meth c cA D A ad0 h => ok_iast h.1 dX5_adds_29) <|
  tc (fun p e s m args below meth c cA D A ad0 h => ok_aload_n h.1 0 rfl dX5_adds_30) <|
  tc (fun p e s m args below meth c cA D A ad0 h => ok_getR h.1 cxX5 (by decide) rfl fkRX5_20 (fun _ _ _ => rfl) dX5_adds_31) <|
  tc (fun p e s m args below meth c cA D A ad0 h => ok_aload_n h.1 0 rfl dX5_adds_34) <|
  tc (fun p e s m args below meth c cA D A ad0 h => ok_getI h.1 cxX5 (by decide) rfl fkRX5_68 (fun _ _ _ => rfl) dX5_adds_35) <|
  tc (fun p e s m args below meth c cA D A ad0 h => ok_iload h.1 dX5_adds_38) <|
  tc (fun p e s m args below meth c cA D A ad0 h => ok_iast h.1 dX5_adds_40) <|
  tc (fun p e s m args below meth c cA D A ad0 h => ok_aload_n h.1 0 rfl dX5_adds_41) <|
  tc (fun p e s m args below meth c cA D A ad0 h => ok_getR h.1 cxX5 (by decide) rfl fkRX5_26 (fun _ _ _ => rfl) dX5_adds_42) <|
  tc (fun p e s m args below meth c cA D A ad0 h => ok_aload_n h.1 0 rfl dX5_adds_45) <|
  tc (fun p e s m args below meth c cA D A ad0 h => ok_getI h.1 cxX5 (by decide) rfl fkRX5_68 (fun _ _ _ => rfl) dX5_adds_46) <|
  tc (fun p e s m args below meth c cA D A ad0 h => ok_iload h.1 dX5_adds_49) <|
  tc (fun p e s m args below meth c cA D A ad0 h => ok_iast h.1 dX5_adds_51) <|
  tc (fun p e s m args below meth c cA D A ad0 h => ok_aload_n h.1 0 rfl dX5_adds_52) <|
  tc (fun p e s m args below meth c cA D A ad0 h => ok_getR h.1 cxX5 (by decide) rfl fkRX5_29 (fun _ _ _ => rfl) dX5_adds_53) <|
  tc (fun p e s m args below meth c cA D A ad0 h => ok_aload_n h.1 0 rfl dX5_adds_56) <|
  tc (fun p e s m args below meth c cA D A ad0 h => ok_getI h.1 cxX5 (by decide) rfl fkRX5_68 (fun _ _ _ => rfl) dX5_adds_57) <|
  tc (fun p e s m args below meth c cA D A ad0 h => ok_iload h.1 dX5_adds_60) <|
  tc (fun p e s m args below meth c cA D A ad0 h => ok_iast h.1 dX5_adds_62) <|
  tc (fun p e s m args below meth c cA D A ad0 h => ok_aload_n h.1 0 rfl dX5_adds_63) <|
  tc (fun p e s m args below meth c cA D A ad0 h => ok_getR h.1 cxX5 (by decide) rfl fkRX5_35 (fun _ _ _ => rfl) dX5_adds_64) <|
  tc (fun p e s m args below meth c cA D A ad0 h => ok_aload_n h.1 0 rfl dX5_adds_67) <|
  tc (fun p e s m args below meth c cA D A ad0 h => ok_getI h.1 cxX5 (by decide) rfl fkRX5_68 (fun _ _ _ => rfl) dX5_adds_68) <|
  tc (fun p e s m args below meth c cA D A ad0 h => ok_iload h.1 dX5_adds_71) <|
  tc (fun p e s m args below meth c cA D A ad0 h => ok_iast h.1 dX5_adds_73) <|
  tc (fun p e s m args below meth c cA D A ad0 h => ok_aload_n h.1 0 rfl dX5_adds_74) <|
  tc (fun p e s m args below meth c cA D A ad0 h => ok_getR h.1 cxX5 (by decide) rfl fkRX5_13 (fun _ _ _ => rfl) dX5_adds_75) <|
  tc (fun p e s m args below meth c cA D A ad0 h => ok_aload_n h.1 0 rfl dX5_adds_78) <|
  tc (fun p e s m args below meth c cA D A ad0 h => ok_getI h.1 cxX5 (by decide) rfl fkRX5_68 (fun _ _ _ => rfl) dX5_adds_79) <|
  tc (fun p e s m args below meth c cA D A ad0 h => ok_bipush h.1 ⟨by decide, by decide⟩ (by decide) dX5_adds_82) <|
  tc (fun p e s m args below meth c cA D A ad0 h => ok_cast h.1 dX5_adds_84) <|
  tc (fun p e s m args below meth c cA D A ad0 h => ok_aload_n h.1 0 rfl dX5_adds_85) <|
  tc (fun p e s m args below meth c cA D A ad0 h => ok_dup h.1 dX5_adds_86) <|
  tc (fun p e s m args below meth c cA D A ad0 h => ok_getI h.1 cxX5 (by decide) rfl fkRX5_68 (fun _ _ _ => rfl) dX5_adds_87) <|
  tc (fun p e s m args below meth c cA D A ad0 h => ok_iconst h.1 ⟨by decide, by decide⟩ dX5_adds_90) <|
  tc (fun p e s m args below meth c cA D A ad0 h => ok_iadd h.1 dX5_adds_91) <|
  tc (fun p e s m args below meth c cA D A ad0 h => ok_putI h.1 cxX5 (by decide) rfl fkRX5_68 (Or.inl rfl) (fun _ _ _ => rfl) (Or.inl rfl) dX5_adds_92) <|
  tc (fun p e s m args below meth c cA D A ad0 h => ok_aload_n h.1 0 rfl dX5_adds_95) <|
  tc (fun p e s m args below meth c cA D A ad0 h => ok_getI h.1 cxX5 (by decide) rfl fkRX5_68 (fun _ _ _ => rfl) dX5_adds_96) <|
  tc (fun p e s m args below meth c cA D A ad0 h => ok_iconst h.1 ⟨by decide, by decide⟩ dX5_adds_99) <|
  tc (fun p e s m args below meth c cA D A ad0 h => ok_isub h.1 dX5_adds_100) <|
  tc (fun p e s m args below meth c cA D A ad0 h => ok_ireturn h.1 h.2.2.2.1 (Or.inl rfl) dX5_adds_101) <|
  tn
abbrev cuX5_adds : List Nat := []
theorem tX5_adds_0 (l : Launch) (K : aRs) (X : aXs) : tb (tbX5_adds l K X) 0 = sLd 0 1 isR := (rfl)
theorem wX5_adds_0 {l : Launch} {K : aRs} {X : aXs} {J : aK} {W : Nat → aK} (hW : isW (tbX5_adds l K X) cuX5_adds J W) (n : Nat) (ls st : List aV) (μ : aM) (g : Nat) : W (n + 1) 0 ls st μ g = (sLd 0 1 isR) (W n) ls st μ g := (hW n 0 ls st μ g).trans rfl
theorem wX5_adds_1 {l : Launch} {K : aRs} {X : aXs} {J : aK} {W : Nat → aK} (hW : isW (tbX5_adds l K X) cuX5_adds J W) (n : Nat) (ls st : List aV) (μ : aM) (g : Nat) : W (n + 1) 1 ls st μ g = (sGetR 5 3 4) (W n) ls st μ g := (hW n 1 ls st μ g).trans rfl
theorem wX5_adds_4 {l : Launch} {K : aRs} {X : aXs} {J : aK} {W : Nat → aK} (hW : isW (tbX5_adds l K X) cuX5_adds J W) (n : Nat) (ls st : List aV) (μ : aM) (g : Nat) : W (n + 1) 4 ls st μ g = (sLd 0 5 isR) (W n) ls st μ g := (hW n 4 ls st μ g).trans rfl
theorem wX5_adds_5 {l : Launch} {K : aRs} {X : aXs} {J : aK} {W : Nat → aK} (hW : isW (tbX5_adds l K X) cuX5_adds J W) (n : Nat) (ls st : List aV) (μ : aM) (g : Nat) : W (n + 1) 5 ls st μ g = (sGetI 5 0 8) (W n) ls st μ g := (hW n 5 ls st μ g).trans rfl
theorem wX5_adds_8 {l : Launch} {K : aRs} {X : aXs} {J : aK} {W : Nat → aK} (hW : isW (tbX5_adds l K X) cuX5_adds J W) (n : Nat) (ls st : List aV) (μ : aM) (g : Nat) : W (n + 1) 8 ls st μ g = (sLd 1 9 isI) (W n) ls st μ g := (hW n 8 ls st μ g).trans rfl
theorem wX5_adds_9 {l : Launch} {K : aRs} {X : aXs} {J : aK} {W : Nat → aK} (hW : isW (tbX5_adds l K X) cuX5_adds J W) (n : Nat) (ls st : List aV) (μ : aM) (g : Nat) : W (n + 1) 9 ls st μ g = (sAstI 10) (W n) ls st μ g := (hW n 9 ls st μ g).trans rfl
theorem wX5_adds_10 {l : Launch} {K : aRs} {X : aXs} {J : aK} {W : Nat → aK} (hW : isW (tbX5_adds l K X) cuX5_adds J W) (n : Nat) (ls st : List aV) (μ : aM) (g : Nat) : W (n + 1) 10 ls st μ g = (sLd 0 11 isR) (W n) ls st μ g := (hW n 10 ls st μ g).trans rfl
theorem wX5_adds_11 {l : Launch} {K : aRs} {X : aXs} {J : aK} {W : Nat → aK} (hW : isW (tbX5_adds l K X) cuX5_adds J W) (n : Nat) (ls st : List aV) (μ : aM) (g : Nat) : W (n + 1) 11 ls st μ g = (sGetR 5 1 14) (W n) ls st μ g := (hW n 11 ls st μ g).trans rfl
theorem wX5_adds_14 {l : Launch} {K : aRs} {X : aXs} {J : aK} {W : Nat → aK} (hW : isW (tbX5_adds l K X) cuX5_adds J W) (n : Nat) (ls st : List aV) (μ : aM) (g : Nat) : W (n + 1) 14 ls st μ g = (sLd 0 15 isR) (W n) ls st μ g := (hW n 14 ls st μ g).trans rfl
theorem wX5_adds_15 {l : Launch} {K : aRs} {X : aXs} {J : aK} {W : Nat → aK} (hW : isW (tbX5_adds l K X) cuX5_adds J W) (n : Nat) (ls st : List aV) (μ : aM) (g : Nat) : W (n + 1) 15 ls st μ g = (sGetI 5 0 18) (W n) ls st μ g := (hW n 15 ls st μ g).trans rfl
theorem wX5_adds_18 {l : Launch} {K : aRs} {X : aXs} {J : aK} {W : Nat → aK} (hW : isW (tbX5_adds l K X) cuX5_adds J W) (n : Nat) (ls st : List aV) (μ : aM) (g : Nat) : W (n + 1) 18 ls st μ g = (sLd 2 19 isI) (W n) ls st μ g := (hW n 18 ls st μ g).trans rfl
theorem wX5_adds_19 {l : Launch} {K : aRs} {X : aXs} {J : aK} {W : Nat → aK} (hW : isW (tbX5_adds l K X) cuX5_adds J W) (n : Nat) (ls st : List aV) (μ : aM) (g : Nat) : W (n + 1) 19 ls st μ g = (sAstC 20) (W n) ls st μ g := (hW n 19 ls st μ g).trans rfl
theorem wX5_adds_20 {l : Launch} {K : aRs} {X : aXs} {J : aK} {W : Nat → aK} (hW : isW (tbX5_adds l K X) cuX5_adds J W) (n : Nat) (ls st : List aV) (μ : aM) (g : Nat) : W (n + 1) 20 ls st μ g = (sLd 0 21 isR) (W n) ls st μ g := (hW n 20 ls st μ g).trans rfl
theorem wX5_adds_21 {l : Launch} {K : aRs} {X : aXs} {J : aK} {W : Nat → aK} (hW : isW (tbX5_adds l K X) cuX5_adds J W) (n : Nat) (ls st : List aV) (μ : aM) (g : Nat) : W (n + 1) 21 ls st μ g = (sGetR 5 5 24) (W n) ls st μ g := (hW n 21 ls st μ g).trans rfl
theorem wX5_adds_24 {l : Launch} {K : aRs} {X : aXs} {J : aK} {W : Nat → aK} (hW : isW (tbX5_adds l K X) cuX5_adds J W) (n : Nat) (ls st : List aV) (μ : aM) (g : Nat) : W (n + 1) 24 ls st μ g = (sLd 0 25 isR) (W n) ls st μ g := (hW n 24 ls st μ g).trans rfl
theorem wX5_adds_25 {l : Launch} {K : aRs} {X : aXs} {J : aK} {W : Nat → aK} (hW : isW (tbX5_adds l K X) cuX5_adds J W) (n : Nat) (ls st : List aV) (μ : aM) (g : Nat) : W (n + 1) 25 ls st μ g = (sGetI 5 0 28) (W n) ls st μ g := (hW n 25 ls st μ g).trans rfl
theorem wX5_adds_28 {l : Launch} {K : aRs} {X : aXs} {J : aK} {W : Nat → aK} (hW : isW (tbX5_adds l K X) cuX5_adds J W) (n : Nat) (ls st : List aV) (μ : aM) (g : Nat) : W (n + 1) 28 ls st μ g = (sLd 3 29 isI) (W n) ls st μ g := (hW n 28 ls st μ g).trans rfl
theorem wX5_adds_29 {l : Launch} {K : aRs} {X : aXs} {J : aK} {W : Nat → aK} (hW : isW (tbX5_adds l K X) cuX5_adds J W) (n : Nat) (ls st : List aV) (μ : aM) (g : Nat) : W (n + 1) 29 ls st μ g = (sAstI 30) (W n) ls st μ g := (hW n 29 ls st μ g).trans rfl
theorem wX5_adds_30 {l : Launch} {K : aRs} {X : aXs} {J : aK} {W : Nat → aK} (hW : isW (tbX5_adds l K X) cuX5_adds J W) (n : Nat) (ls st : List aV) (μ : aM) (g : Nat) : W (n + 1) 30 ls st μ g = (sLd 0 31 isR) (W n) ls st μ g := (hW n 30 ls st μ g).trans rfl
theorem wX5_adds_31 {l : Launch} {K : aRs} {X : aXs} {J : aK} {W : Nat → aK} (hW : isW (tbX5_adds l K X) cuX5_adds J W) (n : Nat) (ls st : List aV) (μ : aM) (g : Nat) : W (n + 1) 31 ls st μ g = (sGetR 5 4 34) (W n) ls st μ g := (hW n 31 ls st μ g).trans rfl
theorem wX5_adds_34 {l : Launch} {K : aRs} {X : aXs} {J : aK} {W : Nat → aK} (hW : isW (tbX5_adds l K X) cuX5_adds J W) (n : Nat) (ls st : List aV) (μ : aM) (g : Nat) : W (n + 1) 34 ls st μ g = (sLd 0 35 isR) (W n) ls st μ g := (hW n 34 ls st μ g).trans rfl
theorem wX5_adds_35 {l : Launch} {K : aRs} {X : aXs} {J : aK} {W : Nat → aK} (hW : isW (tbX5_adds l K X) cuX5_adds J W) (n : Nat) (ls st : List aV) (μ : aM) (g : Nat) : W (n + 1) 35 ls st μ g = (sGetI 5 0 38) (W n) ls st μ g := (hW n 35 ls st μ g).trans rfl
theorem wX5_adds_38 {l : Launch} {K : aRs} {X : aXs} {J : aK} {W : Nat → aK} (hW : isW (tbX5_adds l K X) cuX5_adds J W) (n : Nat) (ls st : List aV) (μ : aM) (g : Nat) : W (n + 1) 38 ls st μ g = (sLd 4 40 isI) (W n) ls st μ g := (hW n 38 ls st μ g).trans rfl
theorem wX5_adds_40 {l : Launch} {K : aRs} {X : aXs} {J : aK} {W : Nat → aK} (hW : isW (tbX5_adds l K X) cuX5_adds J W) (n : Nat) (ls st : List aV) (μ : aM) (g : Nat) : W (n + 1) 40 ls st μ g = (sAstI 41) (W n) ls st μ g := (hW n 40 ls st μ g).trans rfl
theorem wX5_adds_41 {l : Launch} {K : aRs} {X : aXs} {J : aK} {W : Nat → aK} (hW : isW (tbX5_adds l K X) cuX5_adds J W) (n : Nat) (ls st : List aV) (μ : aM) (g : Nat) : W (n + 1) 41 ls st μ g = (sLd 0 42 isR) (W n) ls st μ g := (hW n 41 ls st μ g).trans rfl
theorem wX5_adds_42 {l : Launch} {K : aRs} {X : aXs} {J : aK} {W : Nat → aK} (hW : isW (tbX5_adds l K X) cuX5_adds J W) (n : Nat) (ls st : List aV) (μ : aM) (g : Nat) : W (n + 1) 42 ls st μ g = (sGetR 5 6 45) (W n) ls st μ g := (hW n 42 ls st μ g).trans rfl
theorem wX5_adds_45 {l : Launch} {K : aRs} {X : aXs} {J : aK} {W : Nat → aK} (hW : isW (tbX5_adds l K X) cuX5_adds J W) (n : Nat) (ls st : List aV) (μ : aM) (g : Nat) : W (n + 1) 45 ls st μ g = (sLd 0 46 isR) (W n) ls st μ g := (hW n 45 ls st μ g).trans rfl
theorem wX5_adds_46 {l : Launch} {K : aRs} {X : aXs} {J : aK} {W : Nat → aK} (hW : isW (tbX5_adds l K X) cuX5_adds J W) (n : Nat) (ls st : List aV) (μ : aM) (g : Nat) : W (n + 1) 46 ls st μ g = (sGetI 5 0 49) (W n) ls st μ g := (hW n 46 ls st μ g).trans rfl
theorem wX5_adds_49 {l : Launch} {K : aRs} {X : aXs} {J : aK} {W : Nat → aK} (hW : isW (tbX5_adds l K X) cuX5_adds J W) (n : Nat) (ls st : List aV) (μ : aM) (g : Nat) : W (n + 1) 49 ls st μ g = (sLd 5 51 isI) (W n) ls st μ g := (hW n 49 ls st μ g).trans rfl
theorem wX5_adds_51 {l : Launch} {K : aRs} {X : aXs} {J : aK} {W : Nat → aK} (hW : isW (tbX5_adds l K X) cuX5_adds J W) (n : Nat) (ls st : List aV) (μ : aM) (g : Nat) : W (n + 1) 51 ls st μ g = (sAstI 52) (W n) ls st μ g := (hW n 51 ls st μ g).trans rfl
theorem wX5_adds_52 {l : Launch} {K : aRs} {X : aXs} {J : aK} {W : Nat → aK} (hW : isW (tbX5_adds l K X) cuX5_adds J W) (n : Nat) (ls st : List aV) (μ : aM) (g : Nat) : W (n + 1) 52 ls st μ g = (sLd 0 53 isR) (W n) ls st μ g := (hW n 52 ls st μ g).trans rfl
theorem wX5_adds_53 {l : Launch} {K : aRs} {X : aXs} {J : aK} {W : Nat → aK} (hW : isW (tbX5_adds l K X) cuX5_adds J W) (n : Nat) (ls st : List aV) (μ : aM) (g : Nat) : W (n + 1) 53 ls st μ g = (sGetR 5 7 56) (W n) ls st μ g := (hW n 53 ls st μ g).trans rfl
theorem wX5_adds_56 {l : Launch} {K : aRs} {X : aXs} {J : aK} {W : Nat → aK} (hW : isW (tbX5_adds l K X) cuX5_adds J W) (n : Nat) (ls st : List aV) (μ : aM) (g : Nat) : W (n + 1) 56 ls st μ g = (sLd 0 57 isR) (W n) ls st μ g := (hW n 56 ls st μ g).trans rfl
theorem wX5_adds_57 {l : Launch} {K : aRs} {X : aXs} {J : aK} {W : Nat → aK} (hW : isW (tbX5_adds l K X) cuX5_adds J W) (n : Nat) (ls st : List aV) (μ : aM) (g : Nat) : W (n + 1) 57 ls st μ g = (sGetI 5 0 60) (W n) ls st μ g := (hW n 57 ls st μ g).trans rfl
theorem wX5_adds_60 {l : Launch} {K : aRs} {X : aXs} {J : aK} {W : Nat → aK} (hW : isW (tbX5_adds l K X) cuX5_adds J W) (n : Nat) (ls st : List aV) (μ : aM) (g : Nat) : W (n + 1) 60 ls st μ g = (sLd 5 62 isI) (W n) ls st μ g := (hW n 60 ls st μ g).trans rfl
theorem wX5_adds_62 {l : Launch} {K : aRs} {X : aXs} {J : aK} {W : Nat → aK} (hW : isW (tbX5_adds l K X) cuX5_adds J W) (n : Nat) (ls st : List aV) (μ : aM) (g : Nat) : W (n + 1) 62 ls st μ g = (sAstI 63) (W n) ls st μ g := (hW n 62 ls st μ g).trans rfl
theorem wX5_adds_63 {l : Launch} {K : aRs} {X : aXs} {J : aK} {W : Nat → aK} (hW : isW (tbX5_adds l K X) cuX5_adds J W) (n : Nat) (ls st : List aV) (μ : aM) (g : Nat) : W (n + 1) 63 ls st μ g = (sLd 0 64 isR) (W n) ls st μ g := (hW n 63 ls st μ g).trans rfl
theorem wX5_adds_64 {l : Launch} {K : aRs} {X : aXs} {J : aK} {W : Nat → aK} (hW : isW (tbX5_adds l K X) cuX5_adds J W) (n : Nat) (ls st : List aV) (μ : aM) (g : Nat) : W (n + 1) 64 ls st μ g = (sGetR 5 9 67) (W n) ls st μ g := (hW n 64 ls st μ g).trans rfl
theorem wX5_adds_67 {l : Launch} {K : aRs} {X : aXs} {J : aK} {W : Nat → aK} (hW : isW (tbX5_adds l K X) cuX5_adds J W) (n : Nat) (ls st : List aV) (μ : aM) (g : Nat) : W (n + 1) 67 ls st μ g = (sLd 0 68 isR) (W n) ls st μ g := (hW n 67 ls st μ g).trans rfl
theorem wX5_adds_68 {l : Launch} {K : aRs} {X : aXs} {J : aK} {W : Nat → aK} (hW : isW (tbX5_adds l K X) cuX5_adds J W) (n : Nat) (ls st : List aV) (μ : aM) (g : Nat) : W (n + 1) 68 ls st μ g = (sGetI 5 0 71) (W n) ls st μ g := (hW n 68 ls st μ g).trans rfl
theorem wX5_adds_71 {l : Launch} {K : aRs} {X : aXs} {J : aK} {W : Nat → aK} (hW : isW (tbX5_adds l K X) cuX5_adds J W) (n : Nat) (ls st : List aV) (μ : aM) (g : Nat) : W (n + 1) 71 ls st μ g = (sLd 6 73 isI) (W n) ls st μ g := (hW n 71 ls st μ g).trans rfl
theorem wX5_adds_73 {l : Launch} {K : aRs} {X : aXs} {J : aK} {W : Nat → aK} (hW : isW (tbX5_adds l K X) cuX5_adds J W) (n : Nat) (ls st : List aV) (μ : aM) (g : Nat) : W (n + 1) 73 ls st μ g = (sAstI 74) (W n) ls st μ g := (hW n 73 ls st μ g).trans rfl
theorem wX5_adds_74 {l : Launch} {K : aRs} {X : aXs} {J : aK} {W : Nat → aK} (hW : isW (tbX5_adds l K X) cuX5_adds J W) (n : Nat) (ls st : List aV) (μ : aM) (g : Nat) : W (n + 1) 74 ls st μ g = (sLd 0 75 isR) (W n) ls st μ g := (hW n 74 ls st μ g).trans rfl
theorem wX5_adds_75 {l : Launch} {K : aRs} {X : aXs} {J : aK} {W : Nat → aK} (hW : isW (tbX5_adds l K X) cuX5_adds J W) (n : Nat) (ls st : List aV) (μ : aM) (g : Nat) : W (n + 1) 75 ls st μ g = (sGetR 5 2 78) (W n) ls st μ g := (hW n 75 ls st μ g).trans rfl
theorem wX5_adds_78 {l : Launch} {K : aRs} {X : aXs} {J : aK} {W : Nat → aK} (hW : isW (tbX5_adds l K X) cuX5_adds J W) (n : Nat) (ls st : List aV) (μ : aM) (g : Nat) : W (n + 1) 78 ls st μ g = (sLd 0 79 isR) (W n) ls st μ g := (hW n 78 ls st μ g).trans rfl
theorem wX5_adds_79 {l : Launch} {K : aRs} {X : aXs} {J : aK} {W : Nat → aK} (hW : isW (tbX5_adds l K X) cuX5_adds J W) (n : Nat) (ls st : List aV) (μ : aM) (g : Nat) : W (n + 1) 79 ls st μ g = (sGetI 5 0 82) (W n) ls st μ g := (hW n 79 ls st μ g).trans rfl
theorem wX5_adds_82 {l : Launch} {K : aRs} {X : aXs} {J : aK} {W : Nat → aK} (hW : isW (tbX5_adds l K X) cuX5_adds J W) (n : Nat) (ls st : List aV) (μ : aM) (g : Nat) : W (n + 1) 82 ls st μ g = (sPush (aI 119) 84) (W n) ls st μ g := (hW n 82 ls st μ g).trans rfl
theorem wX5_adds_84 {l : Launch} {K : aRs} {X : aXs} {J : aK} {W : Nat → aK} (hW : isW (tbX5_adds l K X) cuX5_adds J W) (n : Nat) (ls st : List aV) (μ : aM) (g : Nat) : W (n + 1) 84 ls st μ g = (sAstC 85) (W n) ls st μ g := (hW n 84 ls st μ g).trans rfl
theorem wX5_adds_85 {l : Launch} {K : aRs} {X : aXs} {J : aK} {W : Nat → aK} (hW : isW (tbX5_adds l K X) cuX5_adds J W) (n : Nat) (ls st : List aV) (μ : aM) (g : Nat) : W (n + 1) 85 ls st μ g = (sLd 0 86 isR) (W n) ls st μ g := (hW n 85 ls st μ g).trans rfl
theorem wX5_adds_86 {l : Launch} {K : aRs} {X : aXs} {J : aK} {W : Nat → aK} (hW : isW (tbX5_adds l K X) cuX5_adds J W) (n : Nat) (ls st : List aV) (μ : aM) (g : Nat) : W (n + 1) 86 ls st μ g = (sDup 87) (W n) ls st μ g := (hW n 86 ls st μ g).trans rfl
theorem wX5_adds_87 {l : Launch} {K : aRs} {X : aXs} {J : aK} {W : Nat → aK} (hW : isW (tbX5_adds l K X) cuX5_adds J W) (n : Nat) (ls st : List aV) (μ : aM) (g : Nat) : W (n + 1) 87 ls st μ g = (sGetI 5 0 90) (W n) ls st μ g := (hW n 87 ls st μ g).trans rfl
theorem wX5_adds_90 {l : Launch} {K : aRs} {X : aXs} {J : aK} {W : Nat → aK} (hW : isW (tbX5_adds l K X) cuX5_adds J W) (n : Nat) (ls st : List aV) (μ : aM) (g : Nat) : W (n + 1) 90 ls st μ g = (sPush (aI 1) 91) (W n) ls st μ g := (hW n 90 ls st μ g).trans rfl
theorem wX5_adds_91 {l : Launch} {K : aRs} {X : aXs} {J : aK} {W : Nat → aK} (hW : isW (tbX5_adds l K X) cuX5_adds J W) (n : Nat) (ls st : List aV) (μ : aM) (g : Nat) : W (n + 1) 91 ls st μ g = (sBin fAdd 92) (W n) ls st μ g := (hW n 91 ls st μ g).trans rfl
theorem wX5_adds_92 {l : Launch} {K : aRs} {X : aXs} {J : aK} {W : Nat → aK} (hW : isW (tbX5_adds l K X) cuX5_adds J W) (n : Nat) (ls st : List aV) (μ : aM) (g : Nat) : W (n + 1) 92 ls st μ g = (sPutI 5 0 95) (W n) ls st μ g := (hW n 92 ls st μ g).trans rfl
theorem wX5_adds_95 {l : Launch} {K : aRs} {X : aXs} {J : aK} {W : Nat → aK} (hW : isW (tbX5_adds l K X) cuX5_adds J W) (n : Nat) (ls st : List aV) (μ : aM) (g : Nat) : W (n + 1) 95 ls st μ g = (sLd 0 96 isR) (W n) ls st μ g := (hW n 95 ls st μ g).trans rfl
theorem wX5_adds_96 {l : Launch} {K : aRs} {X : aXs} {J : aK} {W : Nat → aK} (hW : isW (tbX5_adds l K X) cuX5_adds J W) (n : Nat) (ls st : List aV) (μ : aM) (g : Nat) : W (n + 1) 96 ls st μ g = (sGetI 5 0 99) (W n) ls st μ g := (hW n 96 ls st μ g).trans rfl
theorem wX5_adds_99 {l : Launch} {K : aRs} {X : aXs} {J : aK} {W : Nat → aK} (hW : isW (tbX5_adds l K X) cuX5_adds J W) (n : Nat) (ls st : List aV) (μ : aM) (g : Nat) : W (n + 1) 99 ls st μ g = (sPush (aI 1) 100) (W n) ls st μ g := (hW n 99 ls st μ g).trans rfl
theorem wX5_adds_100 {l : Launch} {K : aRs} {X : aXs} {J : aK} {W : Nat → aK} (hW : isW (tbX5_adds l K X) cuX5_adds J W) (n : Nat) (ls st : List aV) (μ : aM) (g : Nat) : W (n + 1) 100 ls st μ g = (sBin fSub 101) (W n) ls st μ g := (hW n 100 ls st μ g).trans rfl
theorem wX5_adds_101 {l : Launch} {K : aRs} {X : aXs} {J : aK} {W : Nat → aK} (hW : isW (tbX5_adds l K X) cuX5_adds J W) (n : Nat) (ls st : List aV) (μ : aM) (g : Nat) : W (n + 1) 101 ls st μ g = (sRetI .int 0 K) (W n) ls st μ g := (hW n 101 ls st μ g).trans rfl
theorem dX5_many_0 : decode cX5_many 0 = .ok (.iconst 0, 1) := by decide +kernel
theorem dX5_many_1 : decode cX5_many 1 = .ok (.istore_n 2, 1) := by decide +kernel
theorem dX5_many_2 : decode cX5_many 2 = .ok (.iconst 0, 1) := by decide +kernel
theorem dX5_many_3 : decode cX5_many 3 = .ok (.istore_n 3, 1) := by decide +kernel
theorem dX5_many_4 : decode cX5_many 4 = .ok (.iload_n 3, 1) := by decide +kernel
theorem dX5_many_5 : decode cX5_many 5 = .ok (.aload_n 0, 1) := by decide +kernel
theorem dX5_many_6 : decode cX5_many 6 = .ok (.getfield 68, 3) := by decide +kernel
theorem dX5_many_9 : decode cX5_many 9 = .ok (.if_icmp .ge 27, 3) := by decide +kernel
theorem dX5_many_12 : decode cX5_many 12 = .ok (.iload_n 2, 1) := by decide +kernel
theorem dX5_many_13 : decode cX5_many 13 = .ok (.aload_n 0, 1) := by decide +kernel
theorem dX5_many_14 : decode cX5_many 14 = .ok (.getfield 13, 3) := by decide +kernel
theorem dX5_many_17 : decode cX5_many 17 = .ok (.iload_n 3, 1) := by decide +kernel
theorem dX5_many_18 : decode cX5_many 18 = .ok (.caload, 1) := by decide +kernel
theorem dX5_many_19 : decode cX5_many 19 = .ok (.iload_n 1, 1) := by decide +kernel
theorem dX5_many_20 : decode cX5_many 20 = .ok (.if_icmp .ne 7, 3) := by decide +kernel
theorem dX5_many_23 : decode cX5_many 23 = .ok (.iconst 1, 1) := by decide +kernel
theorem dX5_many_24 : decode cX5_many 24 = .ok (.goto 4, 3) := by decide +kernel
theorem dX5_many_27 : decode cX5_many 27 = .ok (.iconst 0, 1) := by decide +kernel
theorem dX5_many_28 : decode cX5_many 28 = .ok (.iadd, 1) := by decide +kernel
theorem dX5_many_29 : decode cX5_many 29 = .ok (.istore_n 2, 1) := by decide +kernel
theorem dX5_many_30 : decode cX5_many 30 = .ok (.iinc 3 1, 3) := by decide +kernel
theorem dX5_many_33 : decode cX5_many 33 = .ok (.goto (-29), 3) := by decide +kernel
theorem dX5_many_36 : decode cX5_many 36 = .ok (.iload_n 2, 1) := by decide +kernel
theorem dX5_many_37 : decode cX5_many 37 = .ok (.ireturn, 1) := by decide +kernel
def tbX5_many (l : Launch) (K : aRs) (X : aXs) : aTb := [
  (0, sPush (aI 0) 1),
  (1, sSt 2 2 isI),
  (2, sPush (aI 0) 3),
  (3, sSt 3 4 isI),
  (4, sLd 3 5 isI),
  (5, sLd 0 6 isR),
  (6, sGetI 5 0 9),
  (9, sIc qGe 36 12),
  (12, sLd 2 13 isI),
  (13, sLd 0 14 isR),
  (14, sGetR 5 2 17),
  (17, sLd 3 18 isI),
  (18, sAldI 6 19),
  (19, sLd 1 20 isI),
  (20, sIc qNe 27 23),
  (23, sPush (aI 1) 24),
  (24, sGoto 28),
  (27, sPush (aI 0) 28),
  (28, sBin fAdd 29),
  (29, sSt 2 30 isI),
  (30, sInc 3 1 33),
  (33, sGoto 4),
  (36, sLd 2 37 isI),
  (37, sRetI .int 0 K)]
theorem snX5_many (l : Launch) (K : aRs) (X : aXs) (n0 : Nat) : ∀ q ∈ tbX5_many l K X, aSo l mdX5_many K X n0 q.1 q.2 :=
  tc (fun p e s m args below meth c cA D A ad0 h => ok_iconst h.1 ⟨by decide, by decide⟩ dX5_many_0) <|
  tc (fun p e s m args below meth c cA D A ad0 h => ok_istore_n h.1 2 rfl (by decide) dX5_many_1) <|
  tc (fun p e s m args below meth c cA D A ad0 h => ok_iconst h.1 ⟨by decide, by decide⟩ dX5_many_2) <|
  tc (fun p e s m args below meth c cA D A ad0 h => ok_istore_n h.1 3 rfl (by decide) dX5_many_3) <|
  tc (fun p e s m args below meth c cA D A ad0 h => ok_iload_n h.1 3 rfl dX5_many_4) <|
  tc (fun p e s m args below meth c cA D A ad0 h => ok_aload_n h.1 0 rfl dX5_many_5) <|
  tc (fun p e s m args below meth c cA D A ad0 h => ok_getI h.1 cxX5 (by decide) rfl fkRX5_68 (fun _ _ _ => rfl) dX5_many_6) <|
  tc (fun p e s m args below meth c cA D A ad0 h => ok_icmp_ge h.1 36 (by decide) dX5_many_9) <|
  tc (fun p e s m args below meth c cA D A ad0 h => ok_iload_n h.1 2 rfl dX5_many_12) <|
  tc (fun p e s m args below meth c cA D A ad0 h => ok_aload_n h.1 0 rfl dX5_many_13) <|
  tc (fun p e s m args below meth c cA D A ad0 h => ok_getR h.1 cxX5 (by decide) rfl fkRX5_13 (fun _ _ _ => rfl) dX5_many_14) <|
  tc (fun p e s m args below meth c cA D A ad0 h => ok_iload_n h.1 3 rfl dX5_many_17) <|
  tc (fun p e s m args below meth c cA D A ad0 h => ok_cald h.1 dX5_many_18) <|
  tc (fun p e s m args below meth c cA D A ad0 h => ok_iload_n h.1 1 rfl dX5_many_19) <|
  tc (fun p e s m args below meth c cA D A ad0 h => ok_icmp_ne h.1 27 (by decide) dX5_many_20) <|
  tc (fun p e s m args below meth c cA D A ad0 h => ok_iconst h.1 ⟨by decide, by decide⟩ dX5_many_23) <|
  tc (fun p e s m args below meth c cA D A ad0 h => ok_goto h.1 28 (by decide) dX5_many_24) <|
  tc (fun p e s m args below meth c cA D A ad0 h => ok_iconst h.1 ⟨by decide, by decide⟩ dX5_many_27) <|
  tc (fun p e s m args below meth c cA D A ad0 h => ok_iadd h.1 dX5_many_28) <|
  tc (fun p e s m args below meth c cA D A ad0 h => ok_istore_n h.1 2 rfl (by decide) dX5_many_29) <|
  tc (fun p e s m args below meth c cA D A ad0 h => ok_iinc h.1 (by decide) dX5_many_30) <|
  tc (fun p e s m args below meth c cA D A ad0 h => ok_goto h.1 4 (by decide) dX5_many_33) <|
  tc (fun p e s m args below meth c cA D A ad0 h => ok_iload_n h.1 2 rfl dX5_many_36) <|
  tc (fun p e s m args below meth c cA D A ad0 h => ok_ireturn h.1 h.2.2.2.1 (Or.inl rfl) dX5_many_37) <|
  tn
abbrev cuX5_many : List Nat := [4]
theorem tX5_many_0 (l : Launch) (K : aRs) (X : aXs) : tb (tbX5_many l K X) 0 = sPush (aI 0) 1 := (rfl)
theorem wX5_many_0 {l : Launch} {K : aRs} {X : aXs} {J : aK} {W : Nat → aK} (hW : isW (tbX5_many l K X) cuX5_many J W) (n : Nat) (ls st : List aV) (μ : aM) (g : Nat) : W (n + 1) 0 ls st μ g = (sPush (aI 0) 1) (W n) ls st μ g := (hW n 0 ls st μ g).trans rfl
theorem wX5_many_1 {l : Launch} {K : aRs} {X : aXs} {J : aK} {W : Nat → aK} (hW : isW (tbX5_many l K X) cuX5_many J W) (n : Nat) (ls st : List aV) (μ : aM) (g : Nat) : W (n + 1) 1 ls st μ g = (sSt 2 2 isI) (W n) ls st μ g := (hW n 1 ls st μ g).trans rfl
theorem wX5_many_2 {l : Launch} {K : aRs} {X : aXs} {J : aK} {W : Nat → aK} (hW : isW (tbX5_many l K X) cuX5_many J W) (n : Nat) (ls st : List aV) (μ : aM) (g : Nat) : W (n + 1) 2 ls st μ g = (sPush (aI 0) 3) (W n) ls st μ g := (hW n 2 ls st μ g).trans rfl
theorem wX5_many_3 {l : Launch} {K : aRs} {X : aXs} {J : aK} {W : Nat → aK} (hW : isW (tbX5_many l K X) cuX5_many J W) (n : Nat) (ls st : List aV) (μ : aM) (g : Nat) : W (n + 1) 3 ls st μ g = (sSt 3 4 isI) (W n) ls st μ g := (hW n 3 ls st μ g).trans rfl
theorem tX5_many_4 (l : Launch) (K : aRs) (X : aXs) : tb (tbX5_many l K X) 4 = sLd 3 5 isI := (rfl)
theorem wX5_many_4 {l : Launch} {K : aRs} {X : aXs} {J : aK} {W : Nat → aK} (hW : isW (tbX5_many l K X) cuX5_many J W) (n : Nat) (ls st : List aV) (μ : aM) (g : Nat) : W (n + 1) 4 ls st μ g = J 4 ls st μ g := (hW n 4 ls st μ g).trans rfl
theorem wX5_many_5 {l : Launch} {K : aRs} {X : aXs} {J : aK} {W : Nat → aK} (hW : isW (tbX5_many l K X) cuX5_many J W) (n : Nat) (ls st : List aV) (μ : aM) (g : Nat) : W (n + 1) 5 ls st μ g = (sLd 0 6 isR) (W n) ls st μ g := (hW n 5 ls st μ g).trans rfl
theorem wX5_many_6 {l : Launch} {K : aRs} {X : aXs} {J : aK} {W : Nat → aK} (hW : isW (tbX5_many l K X) cuX5_many J W) (n : Nat) (ls st : List aV) (μ : aM) (g : Nat) : W (n + 1) 6 ls st μ g = (sGetI 5 0 9) (W n) ls st μ g := (hW n 6 ls st μ g).trans rfl
theorem wX5_many_9 {l : Launch} {K : aRs} {X : aXs} {J : aK} {W : Nat → aK} (hW : isW (tbX5_many l K X) cuX5_many J W) (n : Nat) (ls st : List aV) (μ : aM) (g : Nat) : W (n + 1) 9 ls st μ g = (sIc qGe 36 12) (W n) ls st μ g := (hW n 9 ls st μ g).trans rfl
theorem wX5_many_12 {l : Launch} {K : aRs} {X : aXs} {J : aK} {W : Nat → aK} (hW : isW (tbX5_many l K X) cuX5_many J W) (n : Nat) (ls st : List aV) (μ : aM) (g : Nat) : W (n + 1) 12 ls st μ g = (sLd 2 13 isI) (W n) ls st μ g := (hW n 12 ls st μ g).trans rfl
theorem wX5_many_13 {l : Launch} {K : aRs} {X : aXs} {J : aK} {W : Nat → aK} (hW : isW (tbX5_many l K X) cuX5_many J W) (n : Nat) (ls st : List aV) (μ : aM) (g : Nat) : W (n + 1) 13 ls st μ g = (sLd 0 14 isR) (W n) ls st μ g := (hW n 13 ls st μ g).trans rfl
theorem wX5_many_14 {l : Launch} {K : aRs} {X : aXs} {J : aK} {W : Nat → aK} (hW : isW (tbX5_many l K X) cuX5_many J W) (n : Nat) (ls st : List aV) (μ : aM) (g : Nat) : W (n + 1) 14 ls st μ g = (sGetR 5 2 17) (W n) ls st μ g := (hW n 14 ls st μ g).trans rfl
theorem wX5_many_17 {l : Launch} {K : aRs} {X : aXs} {J : aK} {W : Nat → aK} (hW : isW (tbX5_many l K X) cuX5_many J W) (n : Nat) (ls st : List aV) (μ : aM) (g : Nat) : W (n + 1) 17 ls st μ g = (sLd 3 18 isI) (W n) ls st μ g := (hW n 17 ls st μ g).trans rfl
theorem wX5_many_18 {l : Launch} {K : aRs} {X : aXs} {J : aK} {W : Nat → aK} (hW : isW (tbX5_many l K X) cuX5_many J W) (n : Nat) (ls st : List aV) (μ : aM) (g : Nat) : W (n + 1) 18 ls st μ g = (sAldI 6 19) (W n) ls st μ g := (hW n 18 ls st μ g).trans rfl
theorem wX5_many_19 {l : Launch} {K : aRs} {X : aXs} {J : aK} {W : Nat → aK} (hW : isW (tbX5_many l K X) cuX5_many J W) (n : Nat) (ls st : List aV) (μ : aM) (g : Nat) : W (n + 1) 19 ls st μ g = (sLd 1 20 isI) (W n) ls st μ g := (hW n 19 ls st μ g).trans rfl
theorem wX5_many_20 {l : Launch} {K : aRs} {X : aXs} {J : aK} {W : Nat → aK} (hW : isW (tbX5_many l K X) cuX5_many J W) (n : Nat) (ls st : List aV) (μ : aM) (g : Nat) : W (n + 1) 20 ls st μ g = (sIc qNe 27 23) (W n) ls st μ g := (hW n 20 ls st μ g).trans rfl
theorem wX5_many_23 {l : Launch} {K : aRs} {X : aXs} {J : aK} {W : Nat → aK} (hW : isW (tbX5_many l K X) cuX5_many J W) (n : Nat) (ls st : List aV) (μ : aM) (g : Nat) : W (n + 1) 23 ls st μ g = (sPush (aI 1) 24) (W n) ls st μ g := (hW n 23 ls st μ g).trans rfl
theorem wX5_many_24 {l : Launch} {K : aRs} {X : aXs} {J : aK} {W : Nat → aK} (hW : isW (tbX5_many l K X) cuX5_many J W) (n : Nat) (ls st : List aV) (μ : aM) (g : Nat) : W (n + 1) 24 ls st μ g = (sGoto 28) (W n) ls st μ g := (hW n 24 ls st μ g).trans rfl
theorem wX5_many_27 {l : Launch} {K : aRs} {X : aXs} {J : aK} {W : Nat → aK} (hW : isW (tbX5_many l K X) cuX5_many J W) (n : Nat) (ls st : List aV) (μ : aM) (g : Nat) : W (n + 1) 27 ls st μ g = (sPush (aI 0) 28) (W n) ls st μ g := (hW n 27 ls st μ g).trans rfl
theorem wX5_many_28 {l : Launch} {K : aRs} {X : aXs} {J : aK} {W : Nat → aK} (hW : isW (tbX5_many l K X) cuX5_many J W) (n : Nat) (ls st : List aV) (μ : aM) (g : Nat) : W (n + 1) 28 ls st μ g = (sBin fAdd 29) (W n) ls st μ g := (hW n 28 ls st μ g).trans rfl
theorem wX5_many_29 {l : Launch} {K : aRs} {X : aXs} {J : aK} {W : Nat → aK} (hW : isW (tbX5_many l K X) cuX5_many J W) (n : Nat) (ls st : List aV) (μ : aM) (g : Nat) : W (n + 1) 29 ls st μ g = (sSt 2 30 isI) (W n) ls st μ g := (hW n 29 ls st μ g).trans rfl
theorem wX5_many_30 {l : Launch} {K : aRs} {X : aXs} {J : aK} {W : Nat → aK} (hW : isW (tbX5_many l K X) cuX5_many J W) (n : Nat) (ls st : List aV) (μ : aM) (g : Nat) : W (n + 1) 30 ls st μ g = (sInc 3 1 33) (W n) ls st μ g := (hW n 30 ls st μ g).trans rfl
theorem wX5_many_33 {l : Launch} {K : aRs} {X : aXs} {J : aK} {W : Nat → aK} (hW : isW (tbX5_many l K X) cuX5_many J W) (n : Nat) (ls st : List aV) (μ : aM) (g : Nat) : W (n + 1) 33 ls st μ g = (sGoto 4) (W n) ls st μ g := (hW n 33 ls st μ g).trans rfl
theorem wX5_many_36 {l : Launch} {K : aRs} {X : aXs} {J : aK} {W : Nat → aK} (hW : isW (tbX5_many l K X) cuX5_many J W) (n : Nat) (ls st : List aV) (μ : aM) (g : Nat) : W (n + 1) 36 ls st μ g = (sLd 2 37 isI) (W n) ls st μ g := (hW n 36 ls st μ g).trans rfl
theorem wX5_many_37 {l : Launch} {K : aRs} {X : aXs} {J : aK} {W : Nat → aK} (hW : isW (tbX5_many l K X) cuX5_many J W) (n : Nat) (ls st : List aV) (μ : aM) (g : Nat) : W (n + 1) 37 ls st μ g = (sRetI .int 0 K) (W n) ls st μ g := (hW n 37 ls st μ g).trans rfl
theorem dX5_isFull_0 : decode cX5_isFull 0 = .ok (.aload_n 0, 1) := by decide +kernel
theorem dX5_isFull_1 : decode cX5_isFull 1 = .ok (.bipush 97, 2) := by decide +kernel
theorem dX5_isFull_3 : decode cX5_isFull 3 = .ok (.invokevirtual 71, 3) := by decide +kernel
theorem dX5_isFull_6 : decode cX5_isFull 6 = .ok (.aload_n 0, 1) := by decide +kernel
theorem dX5_isFull_7 : decode cX5_isFull 7 = .ok (.bipush 119, 2) := by decide +kernel
theorem dX5_isFull_9 : decode cX5_isFull 9 = .ok (.invokevirtual 71, 3) := by decide +kernel
theorem dX5_isFull_12 : decode cX5_isFull 12 = .ok (.iadd, 1) := by decide +kernel
theorem dX5_isFull_13 : decode cX5_isFull 13 = .ok (.bipush 60, 2) := by decide +kernel
theorem dX5_isFull_15 : decode cX5_isFull 15 = .ok (.if_icmp .lt 7, 3) := by decide +kernel
theorem dX5_isFull_18 : decode cX5_isFull 18 = .ok (.iconst 1, 1) := by decide +kernel
theorem dX5_isFull_19 : decode cX5_isFull 19 = .ok (.goto 4, 3) := by decide +kernel
theorem dX5_isFull_22 : decode cX5_isFull 22 = .ok (.iconst 0, 1) := by decide +kernel
theorem dX5_isFull_23 : decode cX5_isFull 23 = .ok (.ireturn, 1) := by decide +kernel
def tbX5_isFull (l : Launch) (K : aRs) (X : aXs) : aTb := [
  (0, sLd 0 1 isR),
  (1, sPush (aI 97) 3),
  (3, sCallV 1 5 (fun as μ K => Ct l mdX5_many as μ K X) 6 0 0),
  (6, sLd 0 7 isR),
  (7, sPush (aI 119) 9),
  (9, sCallV 1 5 (fun as μ K => Ct l mdX5_many as μ K X) 12 0 0),
  (12, sBin fAdd 13),
  (13, sPush (aI 60) 15),
  (15, sIc qLt 22 18),
  (18, sPush (aI 1) 19),
  (19, sGoto 23),
  (22, sPush (aI 0) 23),
  (23, sRetI .boolean 0 K)]
theorem snX5_isFull (l : Launch) (K : aRs) (X : aXs) (n0 : Nat) : ∀ q ∈ tbX5_isFull l K X, aSo l mdX5_isFull K X n0 q.1 q.2 :=
  tc (fun p e s m args below meth c cA D A ad0 h => ok_aload_n h.1 0 rfl dX5_isFull_0) <|
  tc (fun p e s m args below meth c cA D A ad0 h => ok_bipush h.1 ⟨by decide, by decide⟩ (by decide) dX5_isFull_1) <|
  tc (fun p e s m args below meth c cA D A ad0 h => ok_callV h.1 h.2.1 ⟨Nat.le_refl _, Nat.le_refl _⟩ mdX5_many siX5_many cxX5 mkRX5_71 imX5_many seX5_many ⟨by decide, by decide⟩ (aAx_out h.1 h.2.2.1 _) dX5_isFull_3) <|
  tc (fun p e s m args below meth c cA D A ad0 h => ok_aload_n h.1 0 rfl dX5_isFull_6) <|
  tc (fun p e s m args below meth c cA D A ad0 h => ok_bipush h.1 ⟨by decide, by decide⟩ (by decide) dX5_isFull_7) <|
  tc (fun p e s m args below meth c cA D A ad0 h => ok_callV h.1 h.2.1 ⟨Nat.le_refl _, Nat.le_refl _⟩ mdX5_many siX5_many cxX5 mkRX5_71 imX5_many seX5_many ⟨by decide, by decide⟩ (aAx_out h.1 h.2.2.1 _) dX5_isFull_9) <|
  tc (fun p e s m args below meth c cA D A ad0 h => ok_iadd h.1 dX5_isFull_12) <|
  tc (fun p e s m args below meth c cA D A ad0 h => ok_bipush h.1 ⟨by decide, by decide⟩ (by decide) dX5_isFull_13) <|
  tc (fun p e s m args below meth c cA D A ad0 h => ok_icmp_lt h.1 22 (by decide) dX5_isFull_15) <|
  tc (fun p e s m args below meth c cA D A ad0 h => ok_iconst h.1 ⟨by decide, by decide⟩ dX5_isFull_18) <|
  tc (fun p e s m args below meth c cA D A ad0 h => ok_goto h.1 23 (by decide) dX5_isFull_19) <|
  tc (fun p e s m args below meth c cA D A ad0 h => ok_iconst h.1 ⟨by decide, by decide⟩ dX5_isFull_22) <|
  tc (fun p e s m args below meth c cA D A ad0 h => ok_ireturn h.1 h.2.2.2.1 (Or.inr (Or.inl rfl)) dX5_isFull_23) <|
  tn
abbrev cuX5_isFull : List Nat := [6, 12]
theorem tX5_isFull_0 (l : Launch) (K : aRs) (X : aXs) : tb (tbX5_isFull l K X) 0 = sLd 0 1 isR := (rfl)
theorem wX5_isFull_0 {l : Launch} {K : aRs} {X : aXs} {J : aK} {W : Nat → aK} (hW : isW (tbX5_isFull l K X) cuX5_isFull J W) (n : Nat) (ls st : List aV) (μ : aM) (g : Nat) : W (n + 1) 0 ls st μ g = (sLd 0 1 isR) (W n) ls st μ g := (hW n 0 ls st μ g).trans rfl
theorem wX5_isFull_1 {l : Launch} {K : aRs} {X : aXs} {J : aK} {W : Nat → aK} (hW : isW (tbX5_isFull l K X) cuX5_isFull J W) (n : Nat) (ls st : List aV) (μ : aM) (g : Nat) : W (n + 1) 1 ls st μ g = (sPush (aI 97) 3) (W n) ls st μ g := (hW n 1 ls st μ g).trans rfl
theorem wX5_isFull_3 {l : Launch} {K : aRs} {X : aXs} {J : aK} {W : Nat → aK} (hW : isW (tbX5_isFull l K X) cuX5_isFull J W) (n : Nat) (ls st : List aV) (μ : aM) (g : Nat) : W (n + 1) 3 ls st μ g = (sCallV 1 5 (fun as μ K => Ct l mdX5_many as μ K X) 6 0 0) (W n) ls st μ g := (hW n 3 ls st μ g).trans rfl
theorem tX5_isFull_6 (l : Launch) (K : aRs) (X : aXs) : tb (tbX5_isFull l K X) 6 = sLd 0 7 isR := (rfl)
theorem wX5_isFull_6 {l : Launch} {K : aRs} {X : aXs} {J : aK} {W : Nat → aK} (hW : isW (tbX5_isFull l K X) cuX5_isFull J W) (n : Nat) (ls st : List aV) (μ : aM) (g : Nat) : W (n + 1) 6 ls st μ g = J 6 ls st μ g := (hW n 6 ls st μ g).trans rfl
theorem wX5_isFull_7 {l : Launch} {K : aRs} {X : aXs} {J : aK} {W : Nat → aK} (hW : isW (tbX5_isFull l K X) cuX5_isFull J W) (n : Nat) (ls st : List aV) (μ : aM) (g : Nat) : W (n + 1) 7 ls st μ g = (sPush (aI 119) 9) (W n) ls st μ g := (hW n 7 ls st μ g).trans rfl
theorem wX5_isFull_9 {l : Launch} {K : aRs} {X : aXs} {J : aK} {W : Nat → aK} (hW : isW (tbX5_isFull l K X) cuX5_isFull J W) (n : Nat) (ls st : List aV) (μ : aM) (g : Nat) : W (n + 1) 9 ls st μ g = (sCallV 1 5 (fun as μ K => Ct l mdX5_many as μ K X) 12 0 0) (W n) ls st μ g := (hW n 9 ls st μ g).trans rfl
theorem tX5_isFull_12 (l : Launch) (K : aRs) (X : aXs) : tb (tbX5_isFull l K X) 12 = sBin fAdd 13 := (rfl)
theorem wX5_isFull_12 {l : Launch} {K : aRs} {X : aXs} {J : aK} {W : Nat → aK} (hW : isW (tbX5_isFull l K X) cuX5_isFull J W) (n : Nat) (ls st : List aV) (μ : aM) (g : Nat) : W (n + 1) 12 ls st μ g = J 12 ls st μ g := (hW n 12 ls st μ g).trans rfl
theorem wX5_isFull_13 {l : Launch} {K : aRs} {X : aXs} {J : aK} {W : Nat → aK} (hW : isW (tbX5_isFull l K X) cuX5_isFull J W) (n : Nat) (ls st : List aV) (μ : aM) (g : Nat) : W (n + 1) 13 ls st μ g = (sPush (aI 60) 15) (W n) ls st μ g := (hW n 13 ls st μ g).trans rfl
theorem wX5_isFull_15 {l : Launch} {K : aRs} {X : aXs} {J : aK} {W : Nat → aK} (hW : isW (tbX5_isFull l K X) cuX5_isFull J W) (n : Nat) (ls st : List aV) (μ : aM) (g : Nat) : W (n + 1) 15 ls st μ g = (sIc qLt 22 18) (W n) ls st μ g := (hW n 15 ls st μ g).trans rfl
theorem wX5_isFull_18 {l : Launch} {K : aRs} {X : aXs} {J : aK} {W : Nat → aK} (hW : isW (tbX5_isFull l K X) cuX5_isFull J W) (n : Nat) (ls st : List aV) (μ : aM) (g : Nat) : W (n + 1) 18 ls st μ g = (sPush (aI 1) 19) (W n) ls st μ g := (hW n 18 ls st μ g).trans rfl
theorem wX5_isFull_19 {l : Launch} {K : aRs} {X : aXs} {J : aK} {W : Nat → aK} (hW : isW (tbX5_isFull l K X) cuX5_isFull J W) (n : Nat) (ls st : List aV) (μ : aM) (g : Nat) : W (n + 1) 19 ls st μ g = (sGoto 23) (W n) ls st μ g := (hW n 19 ls st μ g).trans rfl
theorem wX5_isFull_22 {l : Launch} {K : aRs} {X : aXs} {J : aK} {W : Nat → aK} (hW : isW (tbX5_isFull l K X) cuX5_isFull J W) (n : Nat) (ls st : List aV) (μ : aM) (g : Nat) : W (n + 1) 22 ls st μ g = (sPush (aI 0) 23) (W n) ls st μ g := (hW n 22 ls st μ g).trans rfl
theorem wX5_isFull_23 {l : Launch} {K : aRs} {X : aXs} {J : aK} {W : Nat → aK} (hW : isW (tbX5_isFull l K X) cuX5_isFull J W) (n : Nat) (ls st : List aV) (μ : aM) (g : Nat) : W (n + 1) 23 ls st μ g = (sRetI .boolean 0 K) (W n) ls st μ g := (hW n 23 ls st μ g).trans rfl
theorem dX5_isAhead_0 : decode cX5_isAhead 0 = .ok (.iload_n 0, 1) := by decide +kernel
theorem dX5_isAhead_1 : decode cX5_isAhead 1 = .ok (.bipush 98, 2) := by decide +kernel
theorem dX5_isAhead_3 : decode cX5_isAhead 3 = .ok (.if_icmp .ne 16, 3) := by decide +kernel
theorem dX5_isAhead_6 : decode cX5_isAhead 6 = .ok (.iload_n 1, 1) := by decide +kernel
theorem dX5_isAhead_7 : decode cX5_isAhead 7 = .ok (.iload_n 2, 1) := by decide +kernel
theorem dX5_isAhead_8 : decode cX5_isAhead 8 = .ok (.if_icmp .le 7, 3) := by decide +kernel
theorem dX5_isAhead_11 : decode cX5_isAhead 11 = .ok (.iconst 1, 1) := by decide +kernel
theorem dX5_isAhead_12 : decode cX5_isAhead 12 = .ok (.goto 17, 3) := by decide +kernel
theorem dX5_isAhead_15 : decode cX5_isAhead 15 = .ok (.iconst 0, 1) := by decide +kernel
theorem dX5_isAhead_16 : decode cX5_isAhead 16 = .ok (.goto 13, 3) := by decide +kernel
theorem dX5_isAhead_19 : decode cX5_isAhead 19 = .ok (.iload_n 1, 1) := by decide +kernel
theorem dX5_isAhead_20 : decode cX5_isAhead 20 = .ok (.iload_n 2, 1) := by decide +kernel
theorem dX5_isAhead_21 : decode cX5_isAhead 21 = .ok (.if_icmp .ge 7, 3) := by decide +kernel
theorem dX5_isAhead_24 : decode cX5_isAhead 24 = .ok (.iconst 1, 1) := by decide +kernel
theorem dX5_isAhead_25 : decode cX5_isAhead 25 = .ok (.goto 4, 3) := by decide +kernel
theorem dX5_isAhead_28 : decode cX5_isAhead 28 = .ok (.iconst 0, 1) := by decide +kernel
theorem dX5_isAhead_29 : decode cX5_isAhead 29 = .ok (.ireturn, 1) := by decide +kernel
def tbX5_isAhead (l : Launch) (K : aRs) (X : aXs) : aTb := [
  (0, sLd 0 1 isI),
  (1, sPush (aI 98) 3),
  (3, sIc qNe 19 6),
  (6, sLd 1 7 isI),
  (7, sLd 2 8 isI),
  (8, sIc qLe 15 11),
  (11, sPush (aI 1) 12),
  (12, sGoto 29),
  (15, sPush (aI 0) 16),
  (16, sGoto 29),
  (19, sLd 1 20 isI),
  (20, sLd 2 21 isI),
  (21, sIc qGe 28 24),
  (24, sPush (aI 1) 25),
  (25, sGoto 29),
  (28, sPush (aI 0) 29),
  (29, sRetI .boolean 0 K)]
theorem snX5_isAhead (l : Launch) (K : aRs) (X : aXs) (n0 : Nat) : ∀ q ∈ tbX5_isAhead l K X, aSo l mdX5_isAhead K X n0 q.1 q.2 :=
  tc (fun p e s m args below meth c cA D A ad0 h => ok_iload_n h.1 0 rfl dX5_isAhead_0) <|
  tc (fun p e s m args below meth c cA D A ad0 h => ok_bipush h.1 ⟨by decide, by decide⟩ (by decide) dX5_isAhead_1) <|
  tc (fun p e s m args below meth c cA D A ad0 h => ok_icmp_ne h.1 19 (by decide) dX5_isAhead_3) <|
  tc (fun p e s m args below meth c cA D A ad0 h => ok_iload_n h.1 1 rfl dX5_isAhead_6) <|
  tc (fun p e s m args below meth c cA D A ad0 h => ok_iload_n h.1 2 rfl dX5_isAhead_7) <|
  tc (fun p e s m args below meth c cA D A ad0 h => ok_icmp_le h.1 15 (by decide) dX5_isAhead_8) <|
  tc (fun p e s m args below meth c cA D A ad0 h => ok_iconst h.1 ⟨by decide, by decide⟩ dX5_isAhead_11) <|
  tc (fun p e s m args below meth c cA D A ad0 h => ok_goto h.1 29 (by decide) dX5_isAhead_12) <|
  tc (fun p e s m args below meth c cA D A ad0 h => ok_iconst h.1 ⟨by decide, by decide⟩ dX5_isAhead_15) <|
  tc (fun p e s m args below meth c cA D A ad0 h => ok_goto h.1 29 (by decide) dX5_isAhead_16) <|
  tc (fun p e s m args below meth c cA D A ad0 h => ok_iload_n h.1 1 rfl dX5_isAhead_19) <|
  tc (fun p e s m args below meth c cA D A ad0 h => ok_iload_n h.1 2 rfl dX5_isAhead_20) <|
  tc (fun p e s m args below meth c cA D A ad0 h => ok_icmp_ge h.1 28 (by decide) dX5_isAhead_21) <|
  tc (fun p e s m args below meth c cA D A ad0 h => ok_iconst h.1 ⟨by decide, by decide⟩ dX5_isAhead_24) <|
  tc (fun p e s m args below meth c cA D A ad0 h => ok_goto h.1 29 (by decide) dX5_isAhead_25) <|
  tc (fun p e s m args below meth c cA D A ad0 h => ok_iconst h.1 ⟨by decide, by decide⟩ dX5_isAhead_28) <|
  tc (fun p e s m args below meth c cA D A ad0 h => ok_ireturn h.1 h.2.2.2.1 (Or.inr (Or.inl rfl)) dX5_isAhead_29) <|
  tn
abbrev cuX5_isAhead : List Nat := []
theorem tX5_isAhead_0 (l : Launch) (K : aRs) (X : aXs) : tb (tbX5_isAhead l K X) 0 = sLd 0 1 isI := (rfl)
theorem wX5_isAhead_0 {l : Launch} {K : aRs} {X : aXs} {J : aK} {W : Nat → aK} (hW : isW (tbX5_isAhead l K X) cuX5_isAhead J W) (n : Nat) (ls st : List aV) (μ : aM) (g : Nat) : W (n + 1) 0 ls st μ g = (sLd 0 1 isI) (W n) ls st μ g := (hW n 0 ls st μ g).trans rfl
theorem wX5_isAhead_1 {l : Launch} {K : aRs} {X : aXs} {J : aK} {W : Nat → aK} (hW : isW (tbX5_isAhead l K X) cuX5_isAhead J W) (n : Nat) (ls st : List aV) (μ : aM) (g : Nat) : W (n + 1) 1 ls st μ g = (sPush (aI 98) 3) (W n) ls st μ g := (hW n 1 ls st μ g).trans rfl
theorem wX5_isAhead_3 {l : Launch} {K : aRs} {X : aXs} {J : aK} {W : Nat → aK} (hW : isW (tbX5_isAhead l K X) cuX5_isAhead J W) (n : Nat) (ls st : List aV) (μ : aM) (g : Nat) : W (n + 1) 3 ls st μ g = (sIc qNe 19 6) (W n) ls st μ g := (hW n 3 ls st μ g).trans rfl
theorem wX5_isAhead_6 {l : Launch} {K : aRs} {X : aXs} {J : aK} {W : Nat → aK} (hW : isW (tbX5_isAhead l K X) cuX5_isAhead J W) (n : Nat) (ls st : List aV) (μ : aM) (g : Nat) : W (n + 1) 6 ls st μ g = (sLd 1 7 isI) (W n) ls st μ g := (hW n 6 ls st μ g).trans rfl
theorem wX5_isAhead_7 {l : Launch} {K : aRs} {X : aXs} {J : aK} {W : Nat → aK} (hW : isW (tbX5_isAhead l K X) cuX5_isAhead J W) (n : Nat) (ls st : List aV) (μ : aM) (g : Nat) : W (n + 1) 7 ls st μ g = (sLd 2 8 isI) (W n) ls st μ g := (hW n 7 ls st μ g).trans rfl
theorem wX5_isAhead_8 {l : Launch} {K : aRs} {X : aXs} {J : aK} {W : Nat → aK} (hW : isW (tbX5_isAhead l K X) cuX5_isAhead J W) (n : Nat) (ls st : List aV) (μ : aM) (g : Nat) : W (n + 1) 8 ls st μ g = (sIc qLe 15 11) (W n) ls st μ g := (hW n 8 ls st μ g).trans rfl
theorem wX5_isAhead_11 {l : Launch} {K : aRs} {X : aXs} {J : aK} {W : Nat → aK} (hW : isW (tbX5_isAhead l K X) cuX5_isAhead J W) (n : Nat) (ls st : List aV) (μ : aM) (g : Nat) : W (n + 1) 11 ls st μ g = (sPush (aI 1) 12) (W n) ls st μ g := (hW n 11 ls st μ g).trans rfl
theorem wX5_isAhead_12 {l : Launch} {K : aRs} {X : aXs} {J : aK} {W : Nat → aK} (hW : isW (tbX5_isAhead l K X) cuX5_isAhead J W) (n : Nat) (ls st : List aV) (μ : aM) (g : Nat) : W (n + 1) 12 ls st μ g = (sGoto 29) (W n) ls st μ g := (hW n 12 ls st μ g).trans rfl
theorem wX5_isAhead_15 {l : Launch} {K : aRs} {X : aXs} {J : aK} {W : Nat → aK} (hW : isW (tbX5_isAhead l K X) cuX5_isAhead J W) (n : Nat) (ls st : List aV) (μ : aM) (g : Nat) : W (n + 1) 15 ls st μ g = (sPush (aI 0) 16) (W n) ls st μ g := (hW n 15 ls st μ g).trans rfl
theorem wX5_isAhead_16 {l : Launch} {K : aRs} {X : aXs} {J : aK} {W : Nat → aK} (hW : isW (tbX5_isAhead l K X) cuX5_isAhead J W) (n : Nat) (ls st : List aV) (μ : aM) (g : Nat) : W (n + 1) 16 ls st μ g = (sGoto 29) (W n) ls st μ g := (hW n 16 ls st μ g).trans rfl
theorem wX5_isAhead_19 {l : Launch} {K : aRs} {X : aXs} {J : aK} {W : Nat → aK} (hW : isW (tbX5_isAhead l K X) cuX5_isAhead J W) (n : Nat) (ls st : List aV) (μ : aM) (g : Nat) : W (n + 1) 19 ls st μ g = (sLd 1 20 isI) (W n) ls st μ g := (hW n 19 ls st μ g).trans rfl
theorem wX5_isAhead_20 {l : Launch} {K : aRs} {X : aXs} {J : aK} {W : Nat → aK} (hW : isW (tbX5_isAhead l K X) cuX5_isAhead J W) (n : Nat) (ls st : List aV) (μ : aM) (g : Nat) : W (n + 1) 20 ls st μ g = (sLd 2 21 isI) (W n) ls st μ g := (hW n 20 ls st μ g).trans rfl
theorem wX5_isAhead_21 {l : Launch} {K : aRs} {X : aXs} {J : aK} {W : Nat → aK} (hW : isW (tbX5_isAhead l K X) cuX5_isAhead J W) (n : Nat) (ls st : List aV) (μ : aM) (g : Nat) : W (n + 1) 21 ls st μ g = (sIc qGe 28 24) (W n) ls st μ g := (hW n 21 ls st μ g).trans rfl
theorem wX5_isAhead_24 {l : Launch} {K : aRs} {X : aXs} {J : aK} {W : Nat → aK} (hW : isW (tbX5_isAhead l K X) cuX5_isAhead J W) (n : Nat) (ls st : List aV) (μ : aM) (g : Nat) : W (n + 1) 24 ls st μ g = (sPush (aI 1) 25) (W n) ls st μ g := (hW n 24 ls st μ g).trans rfl
theorem wX5_isAhead_25 {l : Launch} {K : aRs} {X : aXs} {J : aK} {W : Nat → aK} (hW : isW (tbX5_isAhead l K X) cuX5_isAhead J W) (n : Nat) (ls st : List aV) (μ : aM) (g : Nat) : W (n + 1) 25 ls st μ g = (sGoto 29) (W n) ls st μ g := (hW n 25 ls st μ g).trans rfl
theorem wX5_isAhead_28 {l : Launch} {K : aRs} {X : aXs} {J : aK} {W : Nat → aK} (hW : isW (tbX5_isAhead l K X) cuX5_isAhead J W) (n : Nat) (ls st : List aV) (μ : aM) (g : Nat) : W (n + 1) 28 ls st μ g = (sPush (aI 0) 29) (W n) ls st μ g := (hW n 28 ls st μ g).trans rfl
theorem wX5_isAhead_29 {l : Launch} {K : aRs} {X : aXs} {J : aK} {W : Nat → aK} (hW : isW (tbX5_isAhead l K X) cuX5_isAhead J W) (n : Nat) (ls st : List aV) (μ : aM) (g : Nat) : W (n + 1) 29 ls st μ g = (sRetI .boolean 0 K) (W n) ls st μ g := (hW n 29 ls st μ g).trans rfl
theorem dX5_first_0 : decode cX5_first 0 = .ok (.iconst (-1), 1) := by decide +kernel
theorem dX5_first_1 : decode cX5_first 1 = .ok (.istore_n 2, 1) := by decide +kernel
theorem dX5_first_2 : decode cX5_first 2 = .ok (.iconst 0, 1) := by decide +kernel
theorem dX5_first_3 : decode cX5_first 3 = .ok (.istore_n 3, 1) := by decide +kernel
theorem dX5_first_4 : decode cX5_first 4 = .ok (.iload_n 3, 1) := by decide +kernel
theorem dX5_first_5 : decode cX5_first 5 = .ok (.aload_n 0, 1) := by decide +kernel
theorem dX5_first_6 : decode cX5_first 6 = .ok (.getfield 68, 3) := by decide +kernel
theorem dX5_first_9 : decode cX5_first 9 = .ok (.if_icmp .ge 88, 3) := by decide +kernel
theorem dX5_first_12 : decode cX5_first 12 = .ok (.aload_n 0, 1) := by decide +kernel
theorem dX5_first_13 : decode cX5_first 13 = .ok (.getfield 13, 3) := by decide +kernel
theorem dX5_first_16 : decode cX5_first 16 = .ok (.iload_n 3, 1) := by decide +kernel
theorem dX5_first_17 : decode cX5_first 17 = .ok (.caload, 1) := by decide +kernel
theorem dX5_first_18 : decode cX5_first 18 = .ok (.bipush 97, 2) := by decide +kernel
theorem dX5_first_20 : decode cX5_first 20 = .ok (.if_icmp .ne 71, 3) := by decide +kernel
theorem dX5_first_23 : decode cX5_first 23 = .ok (.aload_n 0, 1) := by decide +kernel
theorem dX5_first_24 : decode cX5_first 24 = .ok (.getfield 7, 3) := by decide +kernel
theorem dX5_first_27 : decode cX5_first 27 = .ok (.iload_n 3, 1) := by decide +kernel
theorem dX5_first_28 : decode cX5_first 28 = .ok (.caload, 1) := by decide +kernel
theorem dX5_first_29 : decode cX5_first 29 = .ok (.iload_n 1, 1) := by decide +kernel
theorem dX5_first_30 : decode cX5_first 30 = .ok (.if_icmp .eq 6, 3) := by decide +kernel
theorem dX5_first_33 : decode cX5_first 33 = .ok (.goto 58, 3) := by decide +kernel
theorem dX5_first_36 : decode cX5_first 36 = .ok (.iload_n 2, 1) := by decide +kernel
theorem dX5_first_37 : decode cX5_first 37 = .ok (.ifCond .lt 52, 3) := by decide +kernel
theorem dX5_first_40 : decode cX5_first 40 = .ok (.iload_n 1, 1) := by decide +kernel
theorem dX5_first_41 : decode cX5_first 41 = .ok (.aload_n 0, 1) := by decide +kernel
theorem dX5_first_42 : decode cX5_first 42 = .ok (.getfield 20, 3) := by decide +kernel
theorem dX5_first_45 : decode cX5_first 45 = .ok (.iload_n 3, 1) := by decide +kernel
theorem dX5_first_46 : decode cX5_first 46 = .ok (.iaload, 1) := by decide +kernel
theorem dX5_first_47 : decode cX5_first 47 = .ok (.aload_n 0, 1) := by decide +kernel
theorem dX5_first_48 : decode cX5_first 48 = .ok (.getfield 20, 3) := by decide +kernel
theorem dX5_first_51 : decode cX5_first 51 = .ok (.iload_n 2, 1) := by decide +kernel
theorem dX5_first_52 : decode cX5_first 52 = .ok (.iaload, 1) := by decide +kernel
theorem dX5_first_53 : decode cX5_first 53 = .ok (.invokestatic 75, 3) := by decide +kernel
theorem dX5_first_56 : decode cX5_first 56 = .ok (.ifCond .ne 33, 3) := by decide +kernel
theorem dX5_first_59 : decode cX5_first 59 = .ok (.aload_n 0, 1) := by decide +kernel
theorem dX5_first_60 : decode cX5_first 60 = .ok (.getfield 20, 3) := by decide +kernel
theorem dX5_first_63 : decode cX5_first 63 = .ok (.iload_n 3, 1) := by decide +kernel
theorem dX5_first_64 : decode cX5_first 64 = .ok (.iaload, 1) := by decide +kernel
theorem dX5_first_65 : decode cX5_first 65 = .ok (.aload_n 0, 1) := by decide +kernel
theorem dX5_first_66 : decode cX5_first 66 = .ok (.getfield 20, 3) := by decide +kernel
theorem dX5_first_69 : decode cX5_first 69 = .ok (.iload_n 2, 1) := by decide +kernel
theorem dX5_first_70 : decode cX5_first 70 = .ok (.iaload, 1) := by decide +kernel
theorem dX5_first_71 : decode cX5_first 71 = .ok (.if_icmp .ne 20, 3) := by decide +kernel
theorem dX5_first_74 : decode cX5_first 74 = .ok (.aload_n 0, 1) := by decide +kernel
theorem dX5_first_75 : decode cX5_first 75 = .ok (.getfield 41, 3) := by decide +kernel
theorem dX5_first_78 : decode cX5_first 78 = .ok (.iload_n 3, 1) := by decide +kernel
theorem dX5_first_79 : decode cX5_first 79 = .ok (.iaload, 1) := by decide +kernel
theorem dX5_first_80 : decode cX5_first 80 = .ok (.aload_n 0, 1) := by decide +kernel
theorem dX5_first_81 : decode cX5_first 81 = .ok (.getfield 41, 3) := by decide +kernel
theorem dX5_first_84 : decode cX5_first 84 = .ok (.iload_n 2, 1) := by decide +kernel
theorem dX5_first_85 : decode cX5_first 85 = .ok (.iaload, 1) := by decide +kernel
theorem dX5_first_86 : decode cX5_first 86 = .ok (.if_icmp .ge 5, 3) := by decide +kernel
theorem dX5_first_89 : decode cX5_first 89 = .ok (.iload_n 3, 1) := by decide +kernel
theorem dX5_first_90 : decode cX5_first 90 = .ok (.istore_n 2, 1) := by decide +kernel
theorem dX5_first_91 : decode cX5_first 91 = .ok (.iinc 3 1, 3) := by decide +kernel
theorem dX5_first_94 : decode cX5_first 94 = .ok (.goto (-90), 3) := by decide +kernel
theorem dX5_first_97 : decode cX5_first 97 = .ok (.iload_n 2, 1) := by decide +kernel
theorem dX5_first_98 : decode cX5_first 98 = .ok (.ireturn, 1) := by decide +kernel
def tbX5_first (l : Launch) (K : aRs) (X : aXs) : aTb := [
  (0, sPush (aI (-1)) 1),
  (1, sSt 2 2 isI),
  (2, sPush (aI 0) 3),
  (3, sSt 3 4 isI),
  (4, sLd 3 5 isI),
  (5, sLd 0 6 isR),
  (6, sGetI 5 0 9),
  (9, sIc qGe 97 12),
  (12, sLd 0 13 isR),
  (13, sGetR 5 2 16),
  (16, sLd 3 17 isI),
  (17, sAldI 6 18),
  (18, sPush (aI 97) 20),
  (20, sIc qNe 91 23),
  (23, sLd 0 24 isR),
  (24, sGetR 5 1 27),
  (27, sLd 3 28 isI),
  (28, sAldI 6 29),
  (29, sLd 1 30 isI),
  (30, sIc qEq 36 33),
  (33, sGoto 91),
  (36, sLd 2 37 isI),
  (37, sIf pLt 89 40),
  (40, sLd 1 41 isI),
  (41, sLd 0 42 isR),
  (42, sGetR 5 4 45),
  (45, sLd 3 46 isI),
  (46, sAldI 7 47),
  (47, sLd 0 48 isR),
  (48, sGetR 5 4 51),
  (51, sLd 2 52 isI),
  (52, sAldI 7 53),
  (53, sCallS 3 (fun as μ K => Ct l mdX5_isAhead as μ K X) 56 0 0),
  (56, sIf pNe 89 59),
  (59, sLd 0 60 isR),
  (60, sGetR 5 4 63),
  (63, sLd 3 64 isI),
  (64, sAldI 7 65),
  (65, sLd 0 66 isR),
  (66, sGetR 5 4 69),
  (69, sLd 2 70 isI),
  (70, sAldI 7 71),
  (71, sIc qNe 91 74),
  (74, sLd 0 75 isR),
  (75, sGetR 5 11 78),
  (78, sLd 3 79 isI),
  (79, sAldI 7 80),
  (80, sLd 0 81 isR),
  (81, sGetR 5 11 84),
  (84, sLd 2 85 isI),
  (85, sAldI 7 86),
  (86, sIc qGe 91 89),
  (89, sLd 3 90 isI),
  (90, sSt 2 91 isI),
  (91, sInc 3 1 94),
  (94, sGoto 4),
  (97, sLd 2 98 isI),
  (98, sRetI .int 0 K)]
theorem snX5_first (l : Launch) (K : aRs) (X : aXs) (n0 : Nat) : ∀ q ∈ tbX5_first l K X, aSo l mdX5_first K X n0 q.1 q.2 :=
  tc (fun p e s m args below meth c cA D A ad0 h => ok_iconst h.1 ⟨by decide, by decide⟩ dX5_first_0) <|
  tc (fun p e s m args below meth c cA D A ad0 h => ok_istore_n h.1 2 rfl (by decide) dX5_first_1) <|
  tc (fun p e s m args below meth c cA D A ad0 h => ok_iconst h.1 ⟨by decide, by decide⟩ dX5_first_2) <|
  tc (fun p e s m args below meth c cA D A ad0 h => ok_istore_n h.1 3 rfl (by decide) dX5_first_3) <|
  tc (fun p e s m args below meth c cA D A ad0 h => ok_iload_n h.1 3 rfl dX5_first_4) <|
  tc (fun p e s m args below meth c cA D A ad0 h => ok_aload_n h.1 0 rfl dX5_first_5) <|
  tc (fun p e s m args below meth c cA D A ad0 h => ok_getI h.1 cxX5 (by decide) rfl fkRX5_68 (fun _ _ _ => rfl) dX5_first_6) <|
  tc (fun p e s m args below meth c cA D A ad0 h => ok_icmp_ge h.1 97 (by decide) dX5_first_9) <|
  tc (fun p e s m args below meth c cA D A ad0 h => ok_aload_n h.1 0 rfl dX5_first_12) <|
  tc (fun p e s m args below meth c cA D A ad0 h => ok_getR h.1 cxX5 (by decide) rfl fkRX5_13 (fun _ _ _ => rfl) dX5_first_13) <|
  tc (fun p e s m args below meth c cA D A ad0 h => ok_iload_n h.1 3 rfl dX5_first_16) <|
  tc (fun p e s m args below meth c cA D A ad0 h => ok_cald h.1 dX5_first_17) <|
  tc (fun p e s m args below meth c cA D A ad0 h => ok_bipush h.1 ⟨by decide, by decide⟩ (by decide) dX5_first_18) <|
  tc (fun p e s m args below meth c cA D A ad0 h => ok_icmp_ne h.1 91 (by decide) dX5_first_20) <|
  tc (fun p e s m args below meth c cA D A ad0 h => ok_aload_n h.1 0 rfl dX5_first_23) <|
  tc (fun p e s m args below meth c cA D A ad0 h => ok_getR h.1 cxX5 (by decide) rfl fkRX5_7 (fun _ _ _ => rfl) dX5_first_24) <|
  tc (fun p e s m args below meth c cA D A ad0 h => ok_iload_n h.1 3 rfl dX5_first_27) <|
  tc (fun p e s m args below meth c cA D A ad0 h => ok_cald h.1 dX5_first_28) <|
  tc (fun p e s m args below meth c cA D A ad0 h => ok_iload_n h.1 1 rfl dX5_first_29) <|
  tc (fun p e s m args below meth c cA D A ad0 h => ok_icmp_eq h.1 36 (by decide) dX5_first_30) <|
  tc (fun p e s m args below meth c cA D A ad0 h => ok_goto h.1 91 (by decide) dX5_first_33) <|
  tc (fun p e s m args below meth c cA D A ad0 h => ok_iload_n h.1 2 rfl dX5_first_36) <|
  tc (fun p e s m args below meth c cA D A ad0 h => ok_if_lt h.1 89 (by decide) dX5_first_37) <|
  tc (fun p e s m args below meth c cA D A ad0 h => ok_iload_n h.1 1 rfl dX5_first_40) <|
  tc (fun p e s m args below meth c cA D A ad0 h => ok_aload_n h.1 0 rfl dX5_first_41) <|
  tc (fun p e s m args below meth c cA D A ad0 h => ok_getR h.1 cxX5 (by decide) rfl fkRX5_20 (fun _ _ _ => rfl) dX5_first_42) <|
  tc (fun p e s m args below meth c cA D A ad0 h => ok_iload_n h.1 3 rfl dX5_first_45) <|
  tc (fun p e s m args below meth c cA D A ad0 h => ok_iald h.1 dX5_first_46) <|
  tc (fun p e s m args below meth c cA D A ad0 h => ok_aload_n h.1 0 rfl dX5_first_47) <|
  tc (fun p e s m args below meth c cA D A ad0 h => ok_getR h.1 cxX5 (by decide) rfl fkRX5_20 (fun _ _ _ => rfl) dX5_first_48) <|
  tc (fun p e s m args below meth c cA D A ad0 h => ok_iload_n h.1 2 rfl dX5_first_51) <|
  tc (fun p e s m args below meth c cA D A ad0 h => ok_iald h.1 dX5_first_52) <|
  tc (fun p e s m args below meth c cA D A ad0 h => ok_callS h.1 h.2.1 ⟨Nat.le_refl _, Nat.le_refl _⟩ mdX5_isAhead siX5_isAhead mkRX5_75 stX5_isAhead ⟨by decide, by decide⟩ (aAx_out h.1 h.2.2.1 _) dX5_first_53) <|
  tc (fun p e s m args below meth c cA D A ad0 h => ok_if_ne h.1 89 (by decide) dX5_first_56) <|
  tc (fun p e s m args below meth c cA D A ad0 h => ok_aload_n h.1 0 rfl dX5_first_59) <|
  tc (fun p e s m args below meth c cA D A ad0 h => ok_getR h.1 cxX5 (by decide) rfl fkRX5_20 (fun _ _ _ => rfl) dX5_first_60) <|
  tc (fun p e s m args below meth c cA D A ad0 h => ok_iload_n h.1 3 rfl dX5_first_63) <|
  tc (fun p e s m args below meth c cA D A ad0 h => ok_iald h.1 dX5_first_64) <|
  tc (fun p e s m args below meth c cA D A ad0 h => ok_aload_n h.1 0 rfl dX5_first_65) <|
  tc (fun p e s m args below meth c cA D A ad0 h => ok_getR h.1 cxX5 (by decide) rfl fkRX5_20 (fun _ _ _ => rfl) dX5_first_66) <|
  tc (fun p e s m args below meth c cA D A ad0 h => ok_iload_n h.1 2 rfl dX5_first_69) <|
  tc (fun p e s m args below meth c cA D A ad0 h => ok_iald h.1 dX5_first_70) <|
  tc (fun p e s m args below meth c cA D A ad0 h => ok_icmp_ne h.1 91 (by decide) dX5_first_71) <|
  tc (fun p e s m args below meth c cA D A ad0 h => ok_aload_n h.1 0 rfl dX5_first_74) <|
  tc (fun p e s m args below meth c cA D A ad0 h => ok_getR h.1 cxX5 (by decide) rfl fkRX5_41 (fun _ _ _ => rfl) dX5_first_75) <|
  tc (fun p e s m args below meth c cA D A ad0 h => ok_iload_n h.1 3 rfl dX5_first_78) <|
  tc (fun p e s m args below meth c cA D A ad0 h => ok_iald h.1 dX5_first_79) <|
  tc (fun p e s m args below meth c cA D A ad0 h => ok_aload_n h.1 0 rfl dX5_first_80) <|
  tc (fun p e s m args below meth c cA D A ad0 h => ok_getR h.1 cxX5 (by decide) rfl fkRX5_41 (fun _ _ _ => rfl) dX5_first_81) <|
  tc (fun p e s m args below meth c cA D A ad0 h => ok_iload_n h.1 2 rfl dX5_first_84) <|
  tc (fun p e s m args below meth c cA D A ad0 h => ok_iald h.1 dX5_first_85) <|
  tc (fun p e s m args below meth c cA D A ad0 h => ok_icmp_ge h.1 91 (by decide) dX5_first_86) <|
  tc (fun p e s m args below meth c cA D A ad0 h => ok_iload_n h.1 3 rfl dX5_first_89) <|
  tc (fun p e s m args below meth c cA D A ad0 h => ok_istore_n h.1 2 rfl (by decide) dX5_first_90) <|
  tc (fun p e s m args below meth c cA D A ad0 h => ok_iinc h.1 (by decide) dX5_first_91) <|
  tc (fun p e s m args below meth c cA D A ad0 h => ok_goto h.1 4 (by decide) dX5_first_94) <|
  tc (fun p e s m args below meth c cA D A ad0 h => ok_iload_n h.1 2 rfl dX5_first_97) <|
  tc (fun p e s m args below meth c cA D A ad0 h => ok_ireturn h.1 h.2.2.2.1 (Or.inl rfl) dX5_first_98) <|
  tn
abbrev cuX5_first : List Nat := [4, 56]
theorem tX5_first_0 (l : Launch) (K : aRs) (X : aXs) : tb (tbX5_first l K X) 0 = sPush (aI (-1)) 1 := (rfl)
theorem wX5_first_0 {l : Launch} {K : aRs} {X : aXs} {J : aK} {W : Nat → aK} (hW : isW (tbX5_first l K X) cuX5_first J W) (n : Nat) (ls st : List aV) (μ : aM) (g : Nat) : W (n + 1) 0 ls st μ g = (sPush (aI (-1)) 1) (W n) ls st μ g := (hW n 0 ls st μ g).trans rfl
theorem wX5_first_1 {l : Launch} {K : aRs} {X : aXs} {J : aK} {W : Nat → aK} (hW : isW (tbX5_first l K X) cuX5_first J W) (n : Nat) (ls st : List aV) (μ : aM) (g : Nat) : W (n + 1) 1 ls st μ g = (sSt 2 2 isI) (W n) ls st μ g := (hW n 1 ls st μ g).trans rfl
theorem wX5_first_2 {l : Launch} {K : aRs} {X : aXs} {J : aK} {W : Nat → aK} (hW : isW (tbX5_first l K X) cuX5_first J W) (n : Nat) (ls st : List aV) (μ : aM) (g : Nat) : W (n + 1) 2 ls st μ g = (sPush (aI 0) 3) (W n) ls st μ g := (hW n 2 ls st μ g).trans rfl
theorem wX5_first_3 {l : Launch} {K : aRs} {X : aXs} {J : aK} {W : Nat → aK} (hW : isW (tbX5_first l K X) cuX5_first J W) (n : Nat) (ls st : List aV) (μ : aM) (g : Nat) : W (n + 1) 3 ls st μ g = (sSt 3 4 isI) (W n) ls st μ g := (hW n 3 ls st μ g).trans rfl
theorem tX5_first_4 (l : Launch) (K : aRs) (X : aXs) : tb (tbX5_first l K X) 4 = sLd 3 5 isI := (rfl)
theorem wX5_first_4 {l : Launch} {K : aRs} {X : aXs} {J : aK} {W : Nat → aK} (hW : isW (tbX5_first l K X) cuX5_first J W) (n : Nat) (ls st : List aV) (μ : aM) (g : Nat) : W (n + 1) 4 ls st μ g = J 4 ls st μ g := (hW n 4 ls st μ g).trans rfl
theorem wX5_first_5 {l : Launch} {K : aRs} {X : aXs} {J : aK} {W : Nat → aK} (hW : isW (tbX5_first l K X) cuX5_first J W) (n : Nat) (ls st : List aV) (μ : aM) (g : Nat) : W (n + 1) 5 ls st μ g = (sLd 0 6 isR) (W n) ls st μ g := (hW n 5 ls st μ g).trans rfl
theorem wX5_first_6 {l : Launch} {K : aRs} {X : aXs} {J : aK} {W : Nat → aK} (hW : isW (tbX5_first l K X) cuX5_first J W) (n : Nat) (ls st : List aV) (μ : aM) (g : Nat) : W (n + 1) 6 ls st μ g = (sGetI 5 0 9) (W n) ls st μ g := (hW n 6 ls st μ g).trans rfl
theorem wX5_first_9 {l : Launch} {K : aRs} {X : aXs} {J : aK} {W : Nat → aK} (hW : isW (tbX5_first l K X) cuX5_first J W) (n : Nat) (ls st : List aV) (μ : aM) (g : Nat) : W (n + 1) 9 ls st μ g = (sIc qGe 97 12) (W n) ls st μ g := (hW n 9 ls st μ g).trans rfl
theorem wX5_first_12 {l : Launch} {K : aRs} {X : aXs} {J : aK} {W : Nat → aK} (hW : isW (tbX5_first l K X) cuX5_first J W) (n : Nat) (ls st : List aV) (μ : aM) (g : Nat) : W (n + 1) 12 ls st μ g = (sLd 0 13 isR) (W n) ls st μ g := (hW n 12 ls st μ g).trans rfl
theorem wX5_first_13 {l : Launch} {K : aRs} {X : aXs} {J : aK} {W : Nat → aK} (hW : isW (tbX5_first l K X) cuX5_first J W) (n : Nat) (ls st : List aV) (μ : aM) (g : Nat) : W (n + 1) 13 ls st μ g = (sGetR 5 2 16) (W n) ls st μ g := (hW n 13 ls st μ g).trans rfl
theorem wX5_first_16 {l : Launch} {K : aRs} {X : aXs} {J : aK} {W : Nat → aK} (hW : isW (tbX5_first l K X) cuX5_first J W) (n : Nat) (ls st : List aV) (μ : aM) (g : Nat) : W (n + 1) 16 ls st μ g = (sLd 3 17 isI) (W n) ls st μ g := (hW n 16 ls st μ g).trans rfl
theorem wX5_first_17 {l : Launch} {K : aRs} {X : aXs} {J : aK} {W : Nat → aK} (hW : isW (tbX5_first l K X) cuX5_first J W) (n : Nat) (ls st : List aV) (μ : aM) (g : Nat) : W (n + 1) 17 ls st μ g = (sAldI 6 18) (W n) ls st μ g := (hW n 17 ls st μ g).trans rfl
theorem wX5_first_18 {l : Launch} {K : aRs} {X : aXs} {J : aK} {W : Nat → aK} (hW : isW (tbX5_first l K X) cuX5_first J W) (n : Nat) (ls st : List aV) (μ : aM) (g : Nat) : W (n + 1) 18 ls st μ g = (sPush (aI 97) 20) (W n) ls st μ g := (hW n 18 ls st μ g).trans rfl
theorem wX5_first_20 {l : Launch} {K : aRs} {X : aXs} {J : aK} {W : Nat → aK} (hW : isW (tbX5_first l K X) cuX5_first J W) (n : Nat) (ls st : List aV) (μ : aM) (g : Nat) : W (n + 1) 20 ls st μ g = (sIc qNe 91 23) (W n) ls st μ g := (hW n 20 ls st μ g).trans rfl
theorem wX5_first_23 {l : Launch} {K : aRs} {X : aXs} {J : aK} {W : Nat → aK} (hW : isW (tbX5_first l K X) cuX5_first J W) (n : Nat) (ls st : List aV) (μ : aM) (g : Nat) : W (n + 1) 23 ls st μ g = (sLd 0 24 isR) (W n) ls st μ g := (hW n 23 ls st μ g).trans rfl
theorem wX5_first_24 {l : Launch} {K : aRs} {X : aXs} {J : aK} {W : Nat → aK} (hW : isW (tbX5_first l K X) cuX5_first J W) (n : Nat) (ls st : List aV) (μ : aM) (g : Nat) : W (n + 1) 24 ls st μ g = (sGetR 5 1 27) (W n) ls st μ g := (hW n 24 ls st μ g).trans rfl
theorem wX5_first_27 {l : Launch} {K : aRs} {X : aXs} {J : aK} {W : Nat → aK} (hW : isW (tbX5_first l K X) cuX5_first J W) (n : Nat) (ls st : List aV) (μ : aM) (g : Nat) : W (n + 1) 27 ls st μ g = (sLd 3 28 isI) (W n) ls st μ g := (hW n 27 ls st μ g).trans rfl
theorem wX5_first_28 {l : Launch} {K : aRs} {X : aXs} {J : aK} {W : Nat → aK} (hW : isW (tbX5_first l K X) cuX5_first J W) (n : Nat) (ls st : List aV) (μ : aM) (g : Nat) : W (n + 1) 28 ls st μ g = (sAldI 6 29) (W n) ls st μ g := (hW n 28 ls st μ g).trans rfl
theorem wX5_first_29 {l : Launch} {K : aRs} {X : aXs} {J : aK} {W : Nat → aK} (hW : isW (tbX5_first l K X) cuX5_first J W) (n : Nat) (ls st : List aV) (μ : aM) (g : Nat) : W (n + 1) 29 ls st μ g = (sLd 1 30 isI) (W n) ls st μ g := (hW n 29 ls st μ g).trans rfl
theorem wX5_first_30 {l : Launch} {K : aRs} {X : aXs} {J : aK} {W : Nat → aK} (hW : isW (tbX5_first l K X) cuX5_first J W) (n : Nat) (ls st : List aV) (μ : aM) (g : Nat) : W (n + 1) 30 ls st μ g = (sIc qEq 36 33) (W n) ls st μ g := (hW n 30 ls st μ g).trans rfl
theorem wX5_first_33 {l : Launch} {K : aRs} {X : aXs} {J : aK} {W : Nat → aK} (hW : isW (tbX5_first l K X) cuX5_first J W) (n : Nat) (ls st : List aV) (μ : aM) (g : Nat) : W (n + 1) 33 ls st μ g = (sGoto 91) (W n) ls st μ g := (hW n 33 ls st μ g).trans rfl
theorem wX5_first_36 {l : Launch} {K : aRs} {X : aXs} {J : aK} {W : Nat → aK} (hW : isW (tbX5_first l K X) cuX5_first J W) (n : Nat) (ls st : List aV) (μ : aM) (g : Nat) : W (n + 1) 36 ls st μ g = (sLd 2 37 isI) (W n) ls st μ g := (hW n 36 ls st μ g).trans rfl
theorem wX5_first_37 {l : Launch} {K : aRs} {X : aXs} {J : aK} {W : Nat → aK} (hW : isW (tbX5_first l K X) cuX5_first J W) (n : Nat) (ls st : List aV) (μ : aM) (g : Nat) : W (n + 1) 37 ls st μ g = (sIf pLt 89 40) (W n) ls st μ g := (hW n 37 ls st μ g).trans rfl
theorem wX5_first_40 {l : Launch} {K : aRs} {X : aXs} {J : aK} {W : Nat → aK} (hW : isW (tbX5_first l K X) cuX5_first J W) (n : Nat) (ls st : List aV) (μ : aM) (g : Nat) : W (n + 1) 40 ls st μ g = (sLd 1 41 isI) (W n) ls st μ g := (hW n 40 ls st μ g).trans rfl
theorem wX5_first_41 {l : Launch} {K : aRs} {X : aXs} {J : aK} {W : Nat → aK} (hW : isW (tbX5_first l K X) cuX5_first J W) (n : Nat) (ls st : List aV) (μ : aM) (g : Nat) : W (n + 1) 41 ls st μ g = (sLd 0 42 isR) (W n) ls st μ g := (hW n 41 ls st μ g).trans rfl
theorem wX5_first_42 {l : Launch} {K : aRs} {X : aXs} {J : aK} {W : Nat → aK} (hW : isW (tbX5_first l K X) cuX5_first J W) (n : Nat) (ls st : List aV) (μ : aM) (g : Nat) : W (n + 1) 42 ls st μ g = (sGetR 5 4 45) (W n) ls st μ g := (hW n 42 ls st μ g).trans rfl
theorem wX5_first_45 {l : Launch} {K : aRs} {X : aXs} {J : aK} {W : Nat → aK} (hW : isW (tbX5_first l K X) cuX5_first J W) (n : Nat) (ls st : List aV) (μ : aM) (g : Nat) : W (n + 1) 45 ls st μ g = (sLd 3 46 isI) (W n) ls st μ g := (hW n 45 ls st μ g).trans rfl
theorem wX5_first_46 {l : Launch} {K : aRs} {X : aXs} {J : aK} {W : Nat → aK} (hW : isW (tbX5_first l K X) cuX5_first J W) (n : Nat) (ls st : List aV) (μ : aM) (g : Nat) : W (n + 1) 46 ls st μ g = (sAldI 7 47) (W n) ls st μ g := (hW n 46 ls st μ g).trans rfl
theorem wX5_first_47 {l : Launch} {K : aRs} {X : aXs} {J : aK} {W : Nat → aK} (hW : isW (tbX5_first l K X) cuX5_first J W) (n : Nat) (ls st : List aV) (μ : aM) (g : Nat) : W (n + 1) 47 ls st μ g = (sLd 0 48 isR) (W n) ls st μ g := (hW n 47 ls st μ g).trans rfl
theorem wX5_first_48 {l : Launch} {K : aRs} {X : aXs} {J : aK} {W : Nat → aK} (hW : isW (tbX5_first l K X) cuX5_first J W) (n : Nat) (ls st : List aV) (μ : aM) (g : Nat) : W (n + 1) 48 ls st μ g = (sGetR 5 4 51) (W n) ls st μ g := (hW n 48 ls st μ g).trans rfl
theorem wX5_first_51 {l : Launch} {K : aRs} {X : aXs} {J : aK} {W : Nat → aK} (hW : isW (tbX5_first l K X) cuX5_first J W) (n : Nat) (ls st : List aV) (μ : aM) (g : Nat) : W (n + 1) 51 ls st μ g = (sLd 2 52 isI) (W n) ls st μ g := (hW n 51 ls st μ g).trans rfl
theorem wX5_first_52 {l : Launch} {K : aRs} {X : aXs} {J : aK} {W : Nat → aK} (hW : isW (tbX5_first l K X) cuX5_first J W) (n : Nat) (ls st : List aV) (μ : aM) (g : Nat) : W (n + 1) 52 ls st μ g = (sAldI 7 53) (W n) ls st μ g := (hW n 52 ls st μ g).trans rfl
theorem wX5_first_53 {l : Launch} {K : aRs} {X : aXs} {J : aK} {W : Nat → aK} (hW : isW (tbX5_first l K X) cuX5_first J W) (n : Nat) (ls st : List aV) (μ : aM) (g : Nat) : W (n + 1) 53 ls st μ g = (sCallS 3 (fun as μ K => Ct l mdX5_isAhead as μ K X) 56 0 0) (W n) ls st μ g := (hW n 53 ls st μ g).trans rfl
theorem tX5_first_56 (l : Launch) (K : aRs) (X : aXs) : tb (tbX5_first l K X) 56 = sIf pNe 89 59 := (rfl)
theorem wX5_first_56 {l : Launch} {K : aRs} {X : aXs} {J : aK} {W : Nat → aK} (hW : isW (tbX5_first l K X) cuX5_first J W) (n : Nat) (ls st : List aV) (μ : aM) (g : Nat) : W (n + 1) 56 ls st μ g = J 56 ls st μ g := (hW n 56 ls st μ g).trans rfl
theorem wX5_first_59 {l : Launch} {K : aRs} {X : aXs} {J : aK} {W : Nat → aK} (hW : isW (tbX5_first l K X) cuX5_first J W) (n : Nat) (ls st : List aV) (μ : aM) (g : Nat) : W (n + 1) 59 ls st μ g = (sLd 0 60 isR) (W n) ls st μ g := (hW n 59 ls st μ g).trans rfl
theorem wX5_first_60 {l : Launch} {K : aRs} {X : aXs} {J : aK} {W : Nat → aK} (hW : isW (tbX5_first l K X) cuX5_first J W) (n : Nat) (ls st : List aV) (μ : aM) (g : Nat) : W (n + 1) 60 ls st μ g = (sGetR 5 4 63) (W n) ls st μ g := (hW n 60 ls st μ g).trans rfl
theorem wX5_first_63 {l : Launch} {K : aRs} {X : aXs} {J : aK} {W : Nat → aK} (hW : isW (tbX5_first l K X) cuX5_first J W) (n : Nat) (ls st : List aV) (μ : aM) (g : Nat) : W (n + 1) 63 ls st μ g = (sLd 3 64 isI) (W n) ls st μ g := (hW n 63 ls st μ g).trans rfl
theorem wX5_first_64 {l : Launch} {K : aRs} {X : aXs} {J : aK} {W : Nat → aK} (hW : isW (tbX5_first l K X) cuX5_first J W) (n : Nat) (ls st : List aV) (μ : aM) (g : Nat) : W (n + 1) 64 ls st μ g = (sAldI 7 65) (W n) ls st μ g := (hW n 64 ls st μ g).trans rfl
theorem wX5_first_65 {l : Launch} {K : aRs} {X : aXs} {J : aK} {W : Nat → aK} (hW : isW (tbX5_first l K X) cuX5_first J W) (n : Nat) (ls st : List aV) (μ : aM) (g : Nat) : W (n + 1) 65 ls st μ g = (sLd 0 66 isR) (W n) ls st μ g := (hW n 65 ls st μ g).trans rfl
theorem wX5_first_66 {l : Launch} {K : aRs} {X : aXs} {J : aK} {W : Nat → aK} (hW : isW (tbX5_first l K X) cuX5_first J W) (n : Nat) (ls st : List aV) (μ : aM) (g : Nat) : W (n + 1) 66 ls st μ g = (sGetR 5 4 69) (W n) ls st μ g := (hW n 66 ls st μ g).trans rfl
theorem wX5_first_69 {l : Launch} {K : aRs} {X : aXs} {J : aK} {W : Nat → aK} (hW : isW (tbX5_first l K X) cuX5_first J W) (n : Nat) (ls st : List aV) (μ : aM) (g : Nat) : W (n + 1) 69 ls st μ g = (sLd 2 70 isI) (W n) ls st μ g := (hW n 69 ls st μ g).trans rfl
theorem wX5_first_70 {l : Launch} {K : aRs} {X : aXs} {J : aK} {W : Nat → aK} (hW : isW (tbX5_first l K X) cuX5_first J W) (n : Nat) (ls st : List aV) (μ : aM) (g : Nat) : W (n + 1) 70 ls st μ g = (sAldI 7 71) (W n) ls st μ g := (hW n 70 ls st μ g).trans rfl
theorem wX5_first_71 {l : Launch} {K : aRs} {X : aXs} {J : aK} {W : Nat → aK} (hW : isW (tbX5_first l K X) cuX5_first J W) (n : Nat) (ls st : List aV) (μ : aM) (g : Nat) : W (n + 1) 71 ls st μ g = (sIc qNe 91 74) (W n) ls st μ g := (hW n 71 ls st μ g).trans rfl
theorem wX5_first_74 {l : Launch} {K : aRs} {X : aXs} {J : aK} {W : Nat → aK} (hW : isW (tbX5_first l K X) cuX5_first J W) (n : Nat) (ls st : List aV) (μ : aM) (g : Nat) : W (n + 1) 74 ls st μ g = (sLd 0 75 isR) (W n) ls st μ g := (hW n 74 ls st μ g).trans rfl
theorem wX5_first_75 {l : Launch} {K : aRs} {X : aXs} {J : aK} {W : Nat → aK} (hW : isW (tbX5_first l K X) cuX5_first J W) (n : Nat) (ls st : List aV) (μ : aM) (g : Nat) : W (n + 1) 75 ls st μ g = (sGetR 5 11 78) (W n) ls st μ g := (hW n 75 ls st μ g).trans rfl
theorem wX5_first_78 {l : Launch} {K : aRs} {X : aXs} {J : aK} {W : Nat → aK} (hW : isW (tbX5_first l K X) cuX5_first J W) (n : Nat) (ls st : List aV) (μ : aM) (g : Nat) : W (n + 1) 78 ls st μ g = (sLd 3 79 isI) (W n) ls st μ g := (hW n 78 ls st μ g).trans rfl
theorem wX5_first_79 {l : Launch} {K : aRs} {X : aXs} {J : aK} {W : Nat → aK} (hW : isW (tbX5_first l K X) cuX5_first J W) (n : Nat) (ls st : List aV) (μ : aM) (g : Nat) : W (n + 1) 79 ls st μ g = (sAldI 7 80) (W n) ls st μ g := (hW n 79 ls st μ g).trans rfl
theorem wX5_first_80 {l : Launch} {K : aRs} {X : aXs} {J : aK} {W : Nat → aK} (hW : isW (tbX5_first l K X) cuX5_first J W) (n : Nat) (ls st : List aV) (μ : aM) (g : Nat) : W (n + 1) 80 ls st μ g = (sLd 0 81 isR) (W n) ls st μ g := (hW n 80 ls st μ g).trans rfl
theorem wX5_first_81 {l : Launch} {K : aRs} {X : aXs} {J : aK} {W : Nat → aK} (hW : isW (tbX5_first l K X) cuX5_first J W) (n : Nat) (ls st : List aV) (μ : aM) (g : Nat) : W (n + 1) 81 ls st μ g = (sGetR 5 11 84) (W n) ls st μ g := (hW n 81 ls st μ g).trans rfl
theorem wX5_first_84 {l : Launch} {K : aRs} {X : aXs} {J : aK} {W : Nat → aK} (hW : isW (tbX5_first l K X) cuX5_first J W) (n : Nat) (ls st : List aV) (μ : aM) (g : Nat) : W (n + 1) 84 ls st μ g = (sLd 2 85 isI) (W n) ls st μ g := (hW n 84 ls st μ g).trans rfl
theorem wX5_first_85 {l : Launch} {K : aRs} {X : aXs} {J : aK} {W : Nat → aK} (hW : isW (tbX5_first l K X) cuX5_first J W) (n : Nat) (ls st : List aV) (μ : aM) (g : Nat) : W (n + 1) 85 ls st μ g = (sAldI 7 86) (W n) ls st μ g := (hW n 85 ls st μ g).trans rfl
theorem wX5_first_86 {l : Launch} {K : aRs} {X : aXs} {J : aK} {W : Nat → aK} (hW : isW (tbX5_first l K X) cuX5_first J W) (n : Nat) (ls st : List aV) (μ : aM) (g : Nat) : W (n + 1) 86 ls st μ g = (sIc qGe 91 89) (W n) ls st μ g := (hW n 86 ls st μ g).trans rfl
theorem wX5_first_89 {l : Launch} {K : aRs} {X : aXs} {J : aK} {W : Nat → aK} (hW : isW (tbX5_first l K X) cuX5_first J W) (n : Nat) (ls st : List aV) (μ : aM) (g : Nat) : W (n + 1) 89 ls st μ g = (sLd 3 90 isI) (W n) ls st μ g := (hW n 89 ls st μ g).trans rfl
theorem wX5_first_90 {l : Launch} {K : aRs} {X : aXs} {J : aK} {W : Nat → aK} (hW : isW (tbX5_first l K X) cuX5_first J W) (n : Nat) (ls st : List aV) (μ : aM) (g : Nat) : W (n + 1) 90 ls st μ g = (sSt 2 91 isI) (W n) ls st μ g := (hW n 90 ls st μ g).trans rfl
theorem wX5_first_91 {l : Launch} {K : aRs} {X : aXs} {J : aK} {W : Nat → aK} (hW : isW (tbX5_first l K X) cuX5_first J W) (n : Nat) (ls st : List aV) (μ : aM) (g : Nat) : W (n + 1) 91 ls st μ g = (sInc 3 1 94) (W n) ls st μ g := (hW n 91 ls st μ g).trans rfl
theorem wX5_first_94 {l : Launch} {K : aRs} {X : aXs} {J : aK} {W : Nat → aK} (hW : isW (tbX5_first l K X) cuX5_first J W) (n : Nat) (ls st : List aV) (μ : aM) (g : Nat) : W (n + 1) 94 ls st μ g = (sGoto 4) (W n) ls st μ g := (hW n 94 ls st μ g).trans rfl
theorem wX5_first_97 {l : Launch} {K : aRs} {X : aXs} {J : aK} {W : Nat → aK} (hW : isW (tbX5_first l K X) cuX5_first J W) (n : Nat) (ls st : List aV) (μ : aM) (g : Nat) : W (n + 1) 97 ls st μ g = (sLd 2 98 isI) (W n) ls st μ g := (hW n 97 ls st μ g).trans rfl
theorem wX5_first_98 {l : Launch} {K : aRs} {X : aXs} {J : aK} {W : Nat → aK} (hW : isW (tbX5_first l K X) cuX5_first J W) (n : Nat) (ls st : List aV) (μ : aM) (g : Nat) : W (n + 1) 98 ls st μ g = (sRetI .int 0 K) (W n) ls st μ g := (hW n 98 ls st μ g).trans rfl
theorem dX5_shows_0 : decode cX5_shows 0 = .ok (.aload_n 0, 1) := by decide +kernel
theorem dX5_shows_1 : decode cX5_shows 1 = .ok (.getfield 38, 3) := by decide +kernel
theorem dX5_shows_4 : decode cX5_shows 4 = .ok (.iload_n 1, 1) := by decide +kernel
theorem dX5_shows_5 : decode cX5_shows 5 = .ok (.aload_n 0, 1) := by decide +kernel
theorem dX5_shows_6 : decode cX5_shows 6 = .ok (.getfield 35, 3) := by decide +kernel
theorem dX5_shows_9 : decode cX5_shows 9 = .ok (.iload_n 1, 1) := by decide +kernel
theorem dX5_shows_10 : decode cX5_shows 10 = .ok (.iaload, 1) := by decide +kernel
theorem dX5_shows_11 : decode cX5_shows 11 = .ok (.aload_n 0, 1) := by decide +kernel
theorem dX5_shows_12 : decode cX5_shows 12 = .ok (.getfield 29, 3) := by decide +kernel
theorem dX5_shows_15 : decode cX5_shows 15 = .ok (.iload_n 1, 1) := by decide +kernel
theorem dX5_shows_16 : decode cX5_shows 16 = .ok (.iaload, 1) := by decide +kernel
theorem dX5_shows_17 : decode cX5_shows 17 = .ok (.invokestatic 79, 3) := by decide +kernel
theorem dX5_shows_20 : decode cX5_shows 20 = .ok (.iastore, 1) := by decide +kernel
theorem dX5_shows_21 : decode cX5_shows 21 = .ok (.return_, 1) := by decide +kernel
def tbX5_shows (l : Launch) (K : aRs) (X : aXs) : aTb := [
  (0, sLd 0 1 isR),
  (1, sGetR 5 10 4),
  (4, sLd 1 5 isI),
  (5, sLd 0 6 isR),
  (6, sGetR 5 9 9),
  (9, sLd 1 10 isI),
  (10, sAldI 7 11),
  (11, sLd 0 12 isR),
  (12, sGetR 5 7 15),
  (15, sLd 1 16 isI),
  (16, sAldI 7 17),
  (17, sCallS 2 (fun as μ K => Ct l mdX5_lesser as μ K X) 20 0 0),
  (20, sAstI 21),
  (21, sRetV 0 K)]
theorem snX5_shows (l : Launch) (K : aRs) (X : aXs) (n0 : Nat) : ∀ q ∈ tbX5_shows l K X, aSo l mdX5_shows K X n0 q.1 q.2 :=
  tc (fun p e s m args below meth c cA D A ad0 h => ok_aload_n h.1 0 rfl dX5_shows_0) <|
  tc (fun p e s m args below meth c cA D A ad0 h => ok_getR h.1 cxX5 (by decide) rfl fkRX5_38 (fun _ _ _ => rfl) dX5_shows_1) <|
  tc (fun p e s m args below meth c cA D A ad0 h => ok_iload_n h.1 1 rfl dX5_shows_4) <|
  tc (fun p e s m args below meth c cA D A ad0 h => ok_aload_n h.1 0 rfl dX5_shows_5) <|
  tc (fun p e s m args below meth c cA D A ad0 h => ok_getR h.1 cxX5 (by decide) rfl fkRX5_35 (fun _ _ _ => rfl) dX5_shows_6) <|
  tc (fun p e s m args below meth c cA D A ad0 h => ok_iload_n h.1 1 rfl dX5_shows_9) <|
  tc (fun p e s m args below meth c cA D A ad0 h => ok_iald h.1 dX5_shows_10) <|
  tc (fun p e s m args below meth c cA D A ad0 h => ok_aload_n h.1 0 rfl dX5_shows_11) <|
  tc (fun p e s m args below meth c cA D A ad0 h => ok_getR h.1 cxX5 (by decide) rfl fkRX5_29 (fun _ _ _ => rfl) dX5_shows_12) <|
  tc (fun p e s m args below meth c cA D A ad0 h => ok_iload_n h.1 1 rfl dX5_shows_15) <|
  tc (fun p e s m args below meth c cA D A ad0 h => ok_iald h.1 dX5_shows_16) <|
  tc (fun p e s m args below meth c cA D A ad0 h => ok_callS h.1 h.2.1 ⟨Nat.le_refl _, Nat.le_refl _⟩ mdX5_lesser siX5_lesser mkRX5_79 stX5_lesser ⟨by decide, by decide⟩ (aAx_out h.1 h.2.2.1 _) dX5_shows_17) <|
  tc (fun p e s m args below meth c cA D A ad0 h => ok_iast h.1 dX5_shows_20) <|
  tc (fun p e s m args below meth c cA D A ad0 h => ok_return h.1 h.2.2.2.1 dX5_shows_21) <|
  tn
abbrev cuX5_shows : List Nat := [20]
theorem tX5_shows_0 (l : Launch) (K : aRs) (X : aXs) : tb (tbX5_shows l K X) 0 = sLd 0 1 isR := (rfl)
theorem wX5_shows_0 {l : Launch} {K : aRs} {X : aXs} {J : aK} {W : Nat → aK} (hW : isW (tbX5_shows l K X) cuX5_shows J W) (n : Nat) (ls st : List aV) (μ : aM) (g : Nat) : W (n + 1) 0 ls st μ g = (sLd 0 1 isR) (W n) ls st μ g := (hW n 0 ls st μ g).trans rfl
theorem wX5_shows_1 {l : Launch} {K : aRs} {X : aXs} {J : aK} {W : Nat → aK} (hW : isW (tbX5_shows l K X) cuX5_shows J W) (n : Nat) (ls st : List aV) (μ : aM) (g : Nat) : W (n + 1) 1 ls st μ g = (sGetR 5 10 4) (W n) ls st μ g := (hW n 1 ls st μ g).trans rfl
theorem wX5_shows_4 {l : Launch} {K : aRs} {X : aXs} {J : aK} {W : Nat → aK} (hW : isW (tbX5_shows l K X) cuX5_shows J W) (n : Nat) (ls st : List aV) (μ : aM) (g : Nat) : W (n + 1) 4 ls st μ g = (sLd 1 5 isI) (W n) ls st μ g := (hW n 4 ls st μ g).trans rfl
theorem wX5_shows_5 {l : Launch} {K : aRs} {X : aXs} {J : aK} {W : Nat → aK} (hW : isW (tbX5_shows l K X) cuX5_shows J W) (n : Nat) (ls st : List aV) (μ : aM) (g : Nat) : W (n + 1) 5 ls st μ g = (sLd 0 6 isR) (W n) ls st μ g := (hW n 5 ls st μ g).trans rfl
theorem wX5_shows_6 {l : Launch} {K : aRs} {X : aXs} {J : aK} {W : Nat → aK} (hW : isW (tbX5_shows l K X) cuX5_shows J W) (n : Nat) (ls st : List aV) (μ : aM) (g : Nat) : W (n + 1) 6 ls st μ g = (sGetR 5 9 9) (W n) ls st μ g := (hW n 6 ls st μ g).trans rfl
theorem wX5_shows_9 {l : Launch} {K : aRs} {X : aXs} {J : aK} {W : Nat → aK} (hW : isW (tbX5_shows l K X) cuX5_shows J W) (n : Nat) (ls st : List aV) (μ : aM) (g : Nat) : W (n + 1) 9 ls st μ g = (sLd 1 10 isI) (W n) ls st μ g := (hW n 9 ls st μ g).trans rfl
theorem wX5_shows_10 {l : Launch} {K : aRs} {X : aXs} {J : aK} {W : Nat → aK} (hW : isW (tbX5_shows l K X) cuX5_shows J W) (n : Nat) (ls st : List aV) (μ : aM) (g : Nat) : W (n + 1) 10 ls st μ g = (sAldI 7 11) (W n) ls st μ g := (hW n 10 ls st μ g).trans rfl
theorem wX5_shows_11 {l : Launch} {K : aRs} {X : aXs} {J : aK} {W : Nat → aK} (hW : isW (tbX5_shows l K X) cuX5_shows J W) (n : Nat) (ls st : List aV) (μ : aM) (g : Nat) : W (n + 1) 11 ls st μ g = (sLd 0 12 isR) (W n) ls st μ g := (hW n 11 ls st μ g).trans rfl
theorem wX5_shows_12 {l : Launch} {K : aRs} {X : aXs} {J : aK} {W : Nat → aK} (hW : isW (tbX5_shows l K X) cuX5_shows J W) (n : Nat) (ls st : List aV) (μ : aM) (g : Nat) : W (n + 1) 12 ls st μ g = (sGetR 5 7 15) (W n) ls st μ g := (hW n 12 ls st μ g).trans rfl
theorem wX5_shows_15 {l : Launch} {K : aRs} {X : aXs} {J : aK} {W : Nat → aK} (hW : isW (tbX5_shows l K X) cuX5_shows J W) (n : Nat) (ls st : List aV) (μ : aM) (g : Nat) : W (n + 1) 15 ls st μ g = (sLd 1 16 isI) (W n) ls st μ g := (hW n 15 ls st μ g).trans rfl
theorem wX5_shows_16 {l : Launch} {K : aRs} {X : aXs} {J : aK} {W : Nat → aK} (hW : isW (tbX5_shows l K X) cuX5_shows J W) (n : Nat) (ls st : List aV) (μ : aM) (g : Nat) : W (n + 1) 16 ls st μ g = (sAldI 7 17) (W n) ls st μ g := (hW n 16 ls st μ g).trans rfl
theorem wX5_shows_17 {l : Launch} {K : aRs} {X : aXs} {J : aK} {W : Nat → aK} (hW : isW (tbX5_shows l K X) cuX5_shows J W) (n : Nat) (ls st : List aV) (μ : aM) (g : Nat) : W (n + 1) 17 ls st μ g = (sCallS 2 (fun as μ K => Ct l mdX5_lesser as μ K X) 20 0 0) (W n) ls st μ g := (hW n 17 ls st μ g).trans rfl
theorem tX5_shows_20 (l : Launch) (K : aRs) (X : aXs) : tb (tbX5_shows l K X) 20 = sAstI 21 := (rfl)
theorem wX5_shows_20 {l : Launch} {K : aRs} {X : aXs} {J : aK} {W : Nat → aK} (hW : isW (tbX5_shows l K X) cuX5_shows J W) (n : Nat) (ls st : List aV) (μ : aM) (g : Nat) : W (n + 1) 20 ls st μ g = J 20 ls st μ g := (hW n 20 ls st μ g).trans rfl
theorem wX5_shows_21 {l : Launch} {K : aRs} {X : aXs} {J : aK} {W : Nat → aK} (hW : isW (tbX5_shows l K X) cuX5_shows J W) (n : Nat) (ls st : List aV) (μ : aM) (g : Nat) : W (n + 1) 21 ls st μ g = (sRetV 0 K) (W n) ls st μ g := (hW n 21 ls st μ g).trans rfl
theorem dX5_goesBehind_0 : decode cX5_goesBehind 0 = .ok (.aload_n 0, 1) := by decide +kernel
theorem dX5_goesBehind_1 : decode cX5_goesBehind 1 = .ok (.iload_n 1, 1) := by decide +kernel
theorem dX5_goesBehind_2 : decode cX5_goesBehind 2 = .ok (.invokevirtual 83, 3) := by decide +kernel
theorem dX5_goesBehind_5 : decode cX5_goesBehind 5 = .ok (.aload_n 0, 1) := by decide +kernel
theorem dX5_goesBehind_6 : decode cX5_goesBehind 6 = .ok (.dup, 1) := by decide +kernel
theorem dX5_goesBehind_7 : decode cX5_goesBehind 7 = .ok (.getfield 87, 3) := by decide +kernel
theorem dX5_goesBehind_10 : decode cX5_goesBehind 10 = .ok (.iconst 1, 1) := by decide +kernel
theorem dX5_goesBehind_11 : decode cX5_goesBehind 11 = .ok (.iadd, 1) := by decide +kernel
theorem dX5_goesBehind_12 : decode cX5_goesBehind 12 = .ok (.putfield 87, 3) := by decide +kernel
theorem dX5_goesBehind_15 : decode cX5_goesBehind 15 = .ok (.aload_n 0, 1) := by decide +kernel
theorem dX5_goesBehind_16 : decode cX5_goesBehind 16 = .ok (.getfield 41, 3) := by decide +kernel
theorem dX5_goesBehind_19 : decode cX5_goesBehind 19 = .ok (.iload_n 1, 1) := by decide +kernel
theorem dX5_goesBehind_20 : decode cX5_goesBehind 20 = .ok (.aload_n 0, 1) := by decide +kernel
theorem dX5_goesBehind_21 : decode cX5_goesBehind 21 = .ok (.getfield 87, 3) := by decide +kernel
theorem dX5_goesBehind_24 : decode cX5_goesBehind 24 = .ok (.iastore, 1) := by decide +kernel
theorem dX5_goesBehind_25 : decode cX5_goesBehind 25 = .ok (.return_, 1) := by decide +kernel
def tbX5_goesBehind (l : Launch) (K : aRs) (X : aXs) : aTb := [
  (0, sLd 0 1 isR),
  (1, sLd 1 2 isI),
  (2, sCallV 1 5 (fun as μ K => Ct l mdX5_shows as μ K X) 5 0 0),
  (5, sLd 0 6 isR),
  (6, sDup 7),
  (7, sGetI 5 12 10),
  (10, sPush (aI 1) 11),
  (11, sBin fAdd 12),
  (12, sPutI 5 12 15),
  (15, sLd 0 16 isR),
  (16, sGetR 5 11 19),
  (19, sLd 1 20 isI),
  (20, sLd 0 21 isR),
  (21, sGetI 5 12 24),
  (24, sAstI 25),
  (25, sRetV 0 K)]
theorem snX5_goesBehind (l : Launch) (K : aRs) (X : aXs) (n0 : Nat) : ∀ q ∈ tbX5_goesBehind l K X, aSo l mdX5_goesBehind K X n0 q.1 q.2 :=
  tc (fun p e s m args below meth c cA D A ad0 h => ok_aload_n h.1 0 rfl dX5_goesBehind_0) <|
  tc (fun p e s m args below meth c cA D A ad0 h => ok_iload_n h.1 1 rfl dX5_goesBehind_1) <|
  tc (fun p e s m args below meth c cA D A ad0 h => ok_callV h.1 h.2.1 ⟨Nat.le_refl _, Nat.le_refl _⟩ mdX5_shows siX5_shows cxX5 mkRX5_83 imX5_shows seX5_shows ⟨by decide, by decide⟩ (aAx_out h.1 h.2.2.1 _) dX5_goesBehind_2) <|
  tc (fun p e s m args below meth c cA D A ad0 h => ok_aload_n h.1 0 rfl dX5_goesBehind_5) <|
  tc (fun p e s m args below meth c cA D A ad0 h => ok_dup h.1 dX5_goesBehind_6) <|
  tc (fun p e s m args below meth c cA D A ad0 h => ok_getI h.1 cxX5 (by decide) rfl fkRX5_87 (fun _ _ _ => rfl) dX5_goesBehind_7) <|
  tc (fun p e s m args below meth c cA D A ad0 h => ok_iconst h.1 ⟨by decide, by decide⟩ dX5_goesBehind_10) <|
  tc (fun p e s m args below meth c cA D A ad0 h => ok_iadd h.1 dX5_goesBehind_11) <|
  tc (fun p e s m args below meth c cA D A ad0 h => ok_putI h.1 cxX5 (by decide) rfl fkRX5_87 (Or.inl rfl) (fun _ _ _ => rfl) (Or.inl rfl) dX5_goesBehind_12) <|
  tc (fun p e s m args below meth c cA D A ad0 h => ok_aload_n h.1 0 rfl dX5_goesBehind_15) <|
  tc (fun p e s m args below meth c cA D A ad0 h => ok_getR h.1 cxX5 (by decide) rfl fkRX5_41 (fun _ _ _ => rfl) dX5_goesBehind_16) <|
  tc (fun p e s m args below meth c cA D A ad0 h => ok_iload_n h.1 1 rfl dX5_goesBehind_19) <|
  tc (fun p e s m args below meth c cA D A ad0 h => ok_aload_n h.1 0 rfl dX5_goesBehind_20) <|
  tc (fun p e s m args below meth c cA D A ad0 h => ok_getI h.1 cxX5 (by decide) rfl fkRX5_87 (fun _ _ _ => rfl) dX5_goesBehind_21) <|
  tc (fun p e s m args below meth c cA D A ad0 h => ok_iast h.1 dX5_goesBehind_24) <|
  tc (fun p e s m args below meth c cA D A ad0 h => ok_return h.1 h.2.2.2.1 dX5_goesBehind_25) <|
  tn
abbrev cuX5_goesBehind : List Nat := [5]
theorem tX5_goesBehind_0 (l : Launch) (K : aRs) (X : aXs) : tb (tbX5_goesBehind l K X) 0 = sLd 0 1 isR := (rfl)
theorem wX5_goesBehind_0 {l : Launch} {K : aRs} {X : aXs} {J : aK} {W : Nat → aK} (hW : isW (tbX5_goesBehind l K X) cuX5_goesBehind J W) (n : Nat) (ls st : List aV) (μ : aM) (g : Nat) : W (n + 1) 0 ls st μ g = (sLd 0 1 isR) (W n) ls st μ g := (hW n 0 ls st μ g).trans rfl
theorem wX5_goesBehind_1 {l : Launch} {K : aRs} {X : aXs} {J : aK} {W : Nat → aK} (hW : isW (tbX5_goesBehind l K X) cuX5_goesBehind J W) (n : Nat) (ls st : List aV) (μ : aM) (g : Nat) : W (n + 1) 1 ls st μ g = (sLd 1 2 isI) (W n) ls st μ g := (hW n 1 ls st μ g).trans rfl
theorem wX5_goesBehind_2 {l : Launch} {K : aRs} {X : aXs} {J : aK} {W : Nat → aK} (hW : isW (tbX5_goesBehind l K X) cuX5_goesBehind J W) (n : Nat) (ls st : List aV) (μ : aM) (g : Nat) : W (n + 1) 2 ls st μ g = (sCallV 1 5 (fun as μ K => Ct l mdX5_shows as μ K X) 5 0 0) (W n) ls st μ g := (hW n 2 ls st μ g).trans rfl
theorem tX5_goesBehind_5 (l : Launch) (K : aRs) (X : aXs) : tb (tbX5_goesBehind l K X) 5 = sLd 0 6 isR := (rfl)
theorem wX5_goesBehind_5 {l : Launch} {K : aRs} {X : aXs} {J : aK} {W : Nat → aK} (hW : isW (tbX5_goesBehind l K X) cuX5_goesBehind J W) (n : Nat) (ls st : List aV) (μ : aM) (g : Nat) : W (n + 1) 5 ls st μ g = J 5 ls st μ g := (hW n 5 ls st μ g).trans rfl
theorem wX5_goesBehind_6 {l : Launch} {K : aRs} {X : aXs} {J : aK} {W : Nat → aK} (hW : isW (tbX5_goesBehind l K X) cuX5_goesBehind J W) (n : Nat) (ls st : List aV) (μ : aM) (g : Nat) : W (n + 1) 6 ls st μ g = (sDup 7) (W n) ls st μ g := (hW n 6 ls st μ g).trans rfl
theorem wX5_goesBehind_7 {l : Launch} {K : aRs} {X : aXs} {J : aK} {W : Nat → aK} (hW : isW (tbX5_goesBehind l K X) cuX5_goesBehind J W) (n : Nat) (ls st : List aV) (μ : aM) (g : Nat) : W (n + 1) 7 ls st μ g = (sGetI 5 12 10) (W n) ls st μ g := (hW n 7 ls st μ g).trans rfl
theorem wX5_goesBehind_10 {l : Launch} {K : aRs} {X : aXs} {J : aK} {W : Nat → aK} (hW : isW (tbX5_goesBehind l K X) cuX5_goesBehind J W) (n : Nat) (ls st : List aV) (μ : aM) (g : Nat) : W (n + 1) 10 ls st μ g = (sPush (aI 1) 11) (W n) ls st μ g := (hW n 10 ls st μ g).trans rfl
theorem wX5_goesBehind_11 {l : Launch} {K : aRs} {X : aXs} {J : aK} {W : Nat → aK} (hW : isW (tbX5_goesBehind l K X) cuX5_goesBehind J W) (n : Nat) (ls st : List aV) (μ : aM) (g : Nat) : W (n + 1) 11 ls st μ g = (sBin fAdd 12) (W n) ls st μ g := (hW n 11 ls st μ g).trans rfl
theorem wX5_goesBehind_12 {l : Launch} {K : aRs} {X : aXs} {J : aK} {W : Nat → aK} (hW : isW (tbX5_goesBehind l K X) cuX5_goesBehind J W) (n : Nat) (ls st : List aV) (μ : aM) (g : Nat) : W (n + 1) 12 ls st μ g = (sPutI 5 12 15) (W n) ls st μ g := (hW n 12 ls st μ g).trans rfl
theorem wX5_goesBehind_15 {l : Launch} {K : aRs} {X : aXs} {J : aK} {W : Nat → aK} (hW : isW (tbX5_goesBehind l K X) cuX5_goesBehind J W) (n : Nat) (ls st : List aV) (μ : aM) (g : Nat) : W (n + 1) 15 ls st μ g = (sLd 0 16 isR) (W n) ls st μ g := (hW n 15 ls st μ g).trans rfl
theorem wX5_goesBehind_16 {l : Launch} {K : aRs} {X : aXs} {J : aK} {W : Nat → aK} (hW : isW (tbX5_goesBehind l K X) cuX5_goesBehind J W) (n : Nat) (ls st : List aV) (μ : aM) (g : Nat) : W (n + 1) 16 ls st μ g = (sGetR 5 11 19) (W n) ls st μ g := (hW n 16 ls st μ g).trans rfl
theorem wX5_goesBehind_19 {l : Launch} {K : aRs} {X : aXs} {J : aK} {W : Nat → aK} (hW : isW (tbX5_goesBehind l K X) cuX5_goesBehind J W) (n : Nat) (ls st : List aV) (μ : aM) (g : Nat) : W (n + 1) 19 ls st μ g = (sLd 1 20 isI) (W n) ls st μ g := (hW n 19 ls st μ g).trans rfl
theorem wX5_goesBehind_20 {l : Launch} {K : aRs} {X : aXs} {J : aK} {W : Nat → aK} (hW : isW (tbX5_goesBehind l K X) cuX5_goesBehind J W) (n : Nat) (ls st : List aV) (μ : aM) (g : Nat) : W (n + 1) 20 ls st μ g = (sLd 0 21 isR) (W n) ls st μ g := (hW n 20 ls st μ g).trans rfl
theorem wX5_goesBehind_21 {l : Launch} {K : aRs} {X : aXs} {J : aK} {W : Nat → aK} (hW : isW (tbX5_goesBehind l K X) cuX5_goesBehind J W) (n : Nat) (ls st : List aV) (μ : aM) (g : Nat) : W (n + 1) 21 ls st μ g = (sGetI 5 12 24) (W n) ls st μ g := (hW n 21 ls st μ g).trans rfl
theorem wX5_goesBehind_24 {l : Launch} {K : aRs} {X : aXs} {J : aK} {W : Nat → aK} (hW : isW (tbX5_goesBehind l K X) cuX5_goesBehind J W) (n : Nat) (ls st : List aV) (μ : aM) (g : Nat) : W (n + 1) 24 ls st μ g = (sAstI 25) (W n) ls st μ g := (hW n 24 ls st μ g).trans rfl
theorem wX5_goesBehind_25 {l : Launch} {K : aRs} {X : aXs} {J : aK} {W : Nat → aK} (hW : isW (tbX5_goesBehind l K X) cuX5_goesBehind J W) (n : Nat) (ls st : List aV) (μ : aM) (g : Nat) : W (n + 1) 25 ls st μ g = (sRetV 0 K) (W n) ls st μ g := (hW n 25 ls st μ g).trans rfl
theorem dX5_gives_0 : decode cX5_gives 0 = .ok (.aload_n 0, 1) := by decide +kernel
theorem dX5_gives_1 : decode cX5_gives 1 = .ok (.getfield 29, 3) := by decide +kernel
theorem dX5_gives_4 : decode cX5_gives 4 = .ok (.iload_n 1, 1) := by decide +kernel
theorem dX5_gives_5 : decode cX5_gives 5 = .ok (.dup2, 1) := by decide +kernel
theorem dX5_gives_6 : decode cX5_gives 6 = .ok (.iaload, 1) := by decide +kernel
theorem dX5_gives_7 : decode cX5_gives 7 = .ok (.iload_n 2, 1) := by decide +kernel
theorem dX5_gives_8 : decode cX5_gives 8 = .ok (.isub, 1) := by decide +kernel
theorem dX5_gives_9 : decode cX5_gives 9 = .ok (.iastore, 1) := by decide +kernel
theorem dX5_gives_10 : decode cX5_gives 10 = .ok (.aload_n 0, 1) := by decide +kernel
theorem dX5_gives_11 : decode cX5_gives 11 = .ok (.getfield 32, 3) := by decide +kernel
theorem dX5_gives_14 : decode cX5_gives 14 = .ok (.iload_n 1, 1) := by decide +kernel
theorem dX5_gives_15 : decode cX5_gives 15 = .ok (.dup2, 1) := by decide +kernel
theorem dX5_gives_16 : decode cX5_gives 16 = .ok (.iaload, 1) := by decide +kernel
theorem dX5_gives_17 : decode cX5_gives 17 = .ok (.iload_n 2, 1) := by decide +kernel
theorem dX5_gives_18 : decode cX5_gives 18 = .ok (.iadd, 1) := by decide +kernel
theorem dX5_gives_19 : decode cX5_gives 19 = .ok (.iastore, 1) := by decide +kernel
theorem dX5_gives_20 : decode cX5_gives 20 = .ok (.aload_n 0, 1) := by decide +kernel
theorem dX5_gives_21 : decode cX5_gives 21 = .ok (.getfield 29, 3) := by decide +kernel
theorem dX5_gives_24 : decode cX5_gives 24 = .ok (.iload_n 1, 1) := by decide +kernel
theorem dX5_gives_25 : decode cX5_gives 25 = .ok (.iaload, 1) := by decide +kernel
theorem dX5_gives_26 : decode cX5_gives 26 = .ok (.ifCond .ne 11, 3) := by decide +kernel
theorem dX5_gives_29 : decode cX5_gives 29 = .ok (.aload_n 0, 1) := by decide +kernel
theorem dX5_gives_30 : decode cX5_gives 30 = .ok (.getfield 13, 3) := by decide +kernel
theorem dX5_gives_33 : decode cX5_gives 33 = .ok (.iload_n 1, 1) := by decide +kernel
theorem dX5_gives_34 : decode cX5_gives 34 = .ok (.bipush 102, 2) := by decide +kernel
theorem dX5_gives_36 : decode cX5_gives 36 = .ok (.castore, 1) := by decide +kernel
theorem dX5_gives_37 : decode cX5_gives 37 = .ok (.return_, 1) := by decide +kernel
def tbX5_gives (l : Launch) (K : aRs) (X : aXs) : aTb := [
  (0, sLd 0 1 isR),
  (1, sGetR 5 7 4),
  (4, sLd 1 5 isI),
  (5, sDup2 6),
  (6, sAldI 7 7),
  (7, sLd 2 8 isI),
  (8, sBin fSub 9),
  (9, sAstI 10),
  (10, sLd 0 11 isR),
  (11, sGetR 5 8 14),
  (14, sLd 1 15 isI),
  (15, sDup2 16),
  (16, sAldI 7 17),
  (17, sLd 2 18 isI),
  (18, sBin fAdd 19),
  (19, sAstI 20),
  (20, sLd 0 21 isR),
  (21, sGetR 5 7 24),
  (24, sLd 1 25 isI),
  (25, sAldI 7 26),
  (26, sIf pNe 37 29),
  (29, sLd 0 30 isR),
  (30, sGetR 5 2 33),
  (33, sLd 1 34 isI),
  (34, sPush (aI 102) 36),
  (36, sAstC 37),
  (37, sRetV 0 K)]
theorem snX5_gives (l : Launch) (K : aRs) (X : aXs) (n0 : Nat) : ∀ q ∈ tbX5_gives l K X, aSo l mdX5_gives K X n0 q.1 q.2 :=
  tc (fun p e s m args below meth c cA D A ad0 h => ok_aload_n h.1 0 rfl dX5_gives_0) <|
  tc (fun p e s m args below meth c cA D A ad0 h => ok_getR h.1 cxX5 (by decide) rfl fkRX5_29 (fun _ _ _ => rfl) dX5_gives_1) <|
  tc (fun p e s m args below meth c cA D A ad0 h => ok_iload_n h.1 1 rfl dX5_gives_4) <|
  tc (fun p e s m args below meth c cA D A ad0 h => ok_dup2 h.1 dX5_gives_5) <|
  tc (fun p e s m args below meth c cA D A ad0 h => ok_iald h.1 dX5_gives_6) <|
  tc (fun p e s m args below meth c cA D A ad0 h => ok_iload_n h.1 2 rfl dX5_gives_7) <|
  tc (fun p e s m args below meth c cA D A ad0 h => ok_isub h.1 dX5_gives_8) <|
  tc (fun p e s m args below meth c cA D A ad0 h => ok_iast h.1 dX5_gives_9) <|
  tc (fun p e s m args below meth c cA D A ad0 h => ok_aload_n h.1 0 rfl dX5_gives_10) <|
  tc (fun p e s m args below meth c cA D A ad0 h => ok_getR h.1 cxX5 (by decide) rfl fkRX5_32 (fun _ _ _ => rfl) dX5_gives_11) <|
  tc (fun p e s m args below meth c cA D A ad0 h => ok_iload_n h.1 1 rfl dX5_gives_14) <|
  tc (fun p e s m args below meth c cA D A ad0 h => ok_dup2 h.1 dX5_gives_15) <|
  tc (fun p e s m args below meth c cA D A ad0 h => ok_iald h.1 dX5_gives_16) <|
  tc (fun p e s m args below meth c cA D A ad0 h => ok_iload_n h.1 2 rfl dX5_gives_17) <|
  tc (fun p e s m args below meth c cA D A ad0 h => ok_iadd h.1 dX5_gives_18) <|
  tc (fun p e s m args below meth c cA D A ad0 h => ok_iast h.1 dX5_gives_19) <|
  tc (fun p e s m args below meth c cA D A ad0 h => ok_aload_n h.1 0 rfl dX5_gives_20) <|
  tc (fun p e s m args below meth c cA D A ad0 h => ok_getR h.1 cxX5 (by decide) rfl fkRX5_29 (fun _ _ _ => rfl) dX5_gives_21) <|
  tc (fun p e s m args below meth c cA D A ad0 h => ok_iload_n h.1 1 rfl dX5_gives_24) <|
  tc (fun p e s m args below meth c cA D A ad0 h => ok_iald h.1 dX5_gives_25) <|
  tc (fun p e s m args below meth c cA D A ad0 h => ok_if_ne h.1 37 (by decide) dX5_gives_26) <|
  tc (fun p e s m args below meth c cA D A ad0 h => ok_aload_n h.1 0 rfl dX5_gives_29) <|
  tc (fun p e s m args below meth c cA D A ad0 h => ok_getR h.1 cxX5 (by decide) rfl fkRX5_13 (fun _ _ _ => rfl) dX5_gives_30) <|
  tc (fun p e s m args below meth c cA D A ad0 h => ok_iload_n h.1 1 rfl dX5_gives_33) <|
  tc (fun p e s m args below meth c cA D A ad0 h => ok_bipush h.1 ⟨by decide, by decide⟩ (by decide) dX5_gives_34) <|
  tc (fun p e s m args below meth c cA D A ad0 h => ok_cast h.1 dX5_gives_36) <|
  tc (fun p e s m args below meth c cA D A ad0 h => ok_return h.1 h.2.2.2.1 dX5_gives_37) <|
  tn
abbrev cuX5_gives : List Nat := []
theorem tX5_gives_0 (l : Launch) (K : aRs) (X : aXs) : tb (tbX5_gives l K X) 0 = sLd 0 1 isR := (rfl)
theorem wX5_gives_0 {l : Launch} {K : aRs} {X : aXs} {J : aK} {W : Nat → aK} (hW : isW (tbX5_gives l K X) cuX5_gives J W) (n : Nat) (ls st : List aV) (μ : aM) (g : Nat) : W (n + 1) 0 ls st μ g = (sLd 0 1 isR) (W n) ls st μ g := (hW n 0 ls st μ g).trans rfl
theorem wX5_gives_1 {l : Launch} {K : aRs} {X : aXs} {J : aK} {W : Nat → aK} (hW : isW (tbX5_gives l K X) cuX5_gives J W) (n : Nat) (ls st : List aV) (μ : aM) (g : Nat) : W (n + 1) 1 ls st μ g = (sGetR 5 7 4) (W n) ls st μ g := (hW n 1 ls st μ g).trans rfl
theorem wX5_gives_4 {l : Launch} {K : aRs} {X : aXs} {J : aK} {W : Nat → aK} (hW : isW (tbX5_gives l K X) cuX5_gives J W) (n : Nat) (ls st : List aV) (μ : aM) (g : Nat) : W (n + 1) 4 ls st μ g = (sLd 1 5 isI) (W n) ls st μ g := (hW n 4 ls st μ g).trans rfl
theorem wX5_gives_5 {l : Launch} {K : aRs} {X : aXs} {J : aK} {W : Nat → aK} (hW : isW (tbX5_gives l K X) cuX5_gives J W) (n : Nat) (ls st : List aV) (μ : aM) (g : Nat) : W (n + 1) 5 ls st μ g = (sDup2 6) (W n) ls st μ g := (hW n 5 ls st μ g).trans rfl
theorem wX5_gives_6 {l : Launch} {K : aRs} {X : aXs} {J : aK} {W : Nat → aK} (hW : isW (tbX5_gives l K X) cuX5_gives J W) (n : Nat) (ls st : List aV) (μ : aM) (g : Nat) : W (n + 1) 6 ls st μ g = (sAldI 7 7) (W n) ls st μ g := (hW n 6 ls st μ g).trans rfl
theorem wX5_gives_7 {l : Launch} {K : aRs} {X : aXs} {J : aK} {W : Nat → aK} (hW : isW (tbX5_gives l K X) cuX5_gives J W) (n : Nat) (ls st : List aV) (μ : aM) (g : Nat) : W (n + 1) 7 ls st μ g = (sLd 2 8 isI) (W n) ls st μ g := (hW n 7 ls st μ g).trans rfl
theorem wX5_gives_8 {l : Launch} {K : aRs} {X : aXs} {J : aK} {W : Nat → aK} (hW : isW (tbX5_gives l K X) cuX5_gives J W) (n : Nat) (ls st : List aV) (μ : aM) (g : Nat) : W (n + 1) 8 ls st μ g = (sBin fSub 9) (W n) ls st μ g := (hW n 8 ls st μ g).trans rfl
theorem wX5_gives_9 {l : Launch} {K : aRs} {X : aXs} {J : aK} {W : Nat → aK} (hW : isW (tbX5_gives l K X) cuX5_gives J W) (n : Nat) (ls st : List aV) (μ : aM) (g : Nat) : W (n + 1) 9 ls st μ g = (sAstI 10) (W n) ls st μ g := (hW n 9 ls st μ g).trans rfl
theorem wX5_gives_10 {l : Launch} {K : aRs} {X : aXs} {J : aK} {W : Nat → aK} (hW : isW (tbX5_gives l K X) cuX5_gives J W) (n : Nat) (ls st : List aV) (μ : aM) (g : Nat) : W (n + 1) 10 ls st μ g = (sLd 0 11 isR) (W n) ls st μ g := (hW n 10 ls st μ g).trans rfl
theorem wX5_gives_11 {l : Launch} {K : aRs} {X : aXs} {J : aK} {W : Nat → aK} (hW : isW (tbX5_gives l K X) cuX5_gives J W) (n : Nat) (ls st : List aV) (μ : aM) (g : Nat) : W (n + 1) 11 ls st μ g = (sGetR 5 8 14) (W n) ls st μ g := (hW n 11 ls st μ g).trans rfl
theorem wX5_gives_14 {l : Launch} {K : aRs} {X : aXs} {J : aK} {W : Nat → aK} (hW : isW (tbX5_gives l K X) cuX5_gives J W) (n : Nat) (ls st : List aV) (μ : aM) (g : Nat) : W (n + 1) 14 ls st μ g = (sLd 1 15 isI) (W n) ls st μ g := (hW n 14 ls st μ g).trans rfl
theorem wX5_gives_15 {l : Launch} {K : aRs} {X : aXs} {J : aK} {W : Nat → aK} (hW : isW (tbX5_gives l K X) cuX5_gives J W) (n : Nat) (ls st : List aV) (μ : aM) (g : Nat) : W (n + 1) 15 ls st μ g = (sDup2 16) (W n) ls st μ g := (hW n 15 ls st μ g).trans rfl
theorem wX5_gives_16 {l : Launch} {K : aRs} {X : aXs} {J : aK} {W : Nat → aK} (hW : isW (tbX5_gives l K X) cuX5_gives J W) (n : Nat) (ls st : List aV) (μ : aM) (g : Nat) : W (n + 1) 16 ls st μ g = (sAldI 7 17) (W n) ls st μ g := (hW n 16 ls st μ g).trans rfl
theorem wX5_gives_17 {l : Launch} {K : aRs} {X : aXs} {J : aK} {W : Nat → aK} (hW : isW (tbX5_gives l K X) cuX5_gives J W) (n : Nat) (ls st : List aV) (μ : aM) (g : Nat) : W (n + 1) 17 ls st μ g = (sLd 2 18 isI) (W n) ls st μ g := (hW n 17 ls st μ g).trans rfl
theorem wX5_gives_18 {l : Launch} {K : aRs} {X : aXs} {J : aK} {W : Nat → aK} (hW : isW (tbX5_gives l K X) cuX5_gives J W) (n : Nat) (ls st : List aV) (μ : aM) (g : Nat) : W (n + 1) 18 ls st μ g = (sBin fAdd 19) (W n) ls st μ g := (hW n 18 ls st μ g).trans rfl
theorem wX5_gives_19 {l : Launch} {K : aRs} {X : aXs} {J : aK} {W : Nat → aK} (hW : isW (tbX5_gives l K X) cuX5_gives J W) (n : Nat) (ls st : List aV) (μ : aM) (g : Nat) : W (n + 1) 19 ls st μ g = (sAstI 20) (W n) ls st μ g := (hW n 19 ls st μ g).trans rfl
theorem wX5_gives_20 {l : Launch} {K : aRs} {X : aXs} {J : aK} {W : Nat → aK} (hW : isW (tbX5_gives l K X) cuX5_gives J W) (n : Nat) (ls st : List aV) (μ : aM) (g : Nat) : W (n + 1) 20 ls st μ g = (sLd 0 21 isR) (W n) ls st μ g := (hW n 20 ls st μ g).trans rfl
theorem wX5_gives_21 {l : Launch} {K : aRs} {X : aXs} {J : aK} {W : Nat → aK} (hW : isW (tbX5_gives l K X) cuX5_gives J W) (n : Nat) (ls st : List aV) (μ : aM) (g : Nat) : W (n + 1) 21 ls st μ g = (sGetR 5 7 24) (W n) ls st μ g := (hW n 21 ls st μ g).trans rfl
theorem wX5_gives_24 {l : Launch} {K : aRs} {X : aXs} {J : aK} {W : Nat → aK} (hW : isW (tbX5_gives l K X) cuX5_gives J W) (n : Nat) (ls st : List aV) (μ : aM) (g : Nat) : W (n + 1) 24 ls st μ g = (sLd 1 25 isI) (W n) ls st μ g := (hW n 24 ls st μ g).trans rfl
theorem wX5_gives_25 {l : Launch} {K : aRs} {X : aXs} {J : aK} {W : Nat → aK} (hW : isW (tbX5_gives l K X) cuX5_gives J W) (n : Nat) (ls st : List aV) (μ : aM) (g : Nat) : W (n + 1) 25 ls st μ g = (sAldI 7 26) (W n) ls st μ g := (hW n 25 ls st μ g).trans rfl
theorem wX5_gives_26 {l : Launch} {K : aRs} {X : aXs} {J : aK} {W : Nat → aK} (hW : isW (tbX5_gives l K X) cuX5_gives J W) (n : Nat) (ls st : List aV) (μ : aM) (g : Nat) : W (n + 1) 26 ls st μ g = (sIf pNe 37 29) (W n) ls st μ g := (hW n 26 ls st μ g).trans rfl
theorem wX5_gives_29 {l : Launch} {K : aRs} {X : aXs} {J : aK} {W : Nat → aK} (hW : isW (tbX5_gives l K X) cuX5_gives J W) (n : Nat) (ls st : List aV) (μ : aM) (g : Nat) : W (n + 1) 29 ls st μ g = (sLd 0 30 isR) (W n) ls st μ g := (hW n 29 ls st μ g).trans rfl
theorem wX5_gives_30 {l : Launch} {K : aRs} {X : aXs} {J : aK} {W : Nat → aK} (hW : isW (tbX5_gives l K X) cuX5_gives J W) (n : Nat) (ls st : List aV) (μ : aM) (g : Nat) : W (n + 1) 30 ls st μ g = (sGetR 5 2 33) (W n) ls st μ g := (hW n 30 ls st μ g).trans rfl
theorem wX5_gives_33 {l : Launch} {K : aRs} {X : aXs} {J : aK} {W : Nat → aK} (hW : isW (tbX5_gives l K X) cuX5_gives J W) (n : Nat) (ls st : List aV) (μ : aM) (g : Nat) : W (n + 1) 33 ls st μ g = (sLd 1 34 isI) (W n) ls st μ g := (hW n 33 ls st μ g).trans rfl
theorem wX5_gives_34 {l : Launch} {K : aRs} {X : aXs} {J : aK} {W : Nat → aK} (hW : isW (tbX5_gives l K X) cuX5_gives J W) (n : Nat) (ls st : List aV) (μ : aM) (g : Nat) : W (n + 1) 34 ls st μ g = (sPush (aI 102) 36) (W n) ls st μ g := (hW n 34 ls st μ g).trans rfl
theorem wX5_gives_36 {l : Launch} {K : aRs} {X : aXs} {J : aK} {W : Nat → aK} (hW : isW (tbX5_gives l K X) cuX5_gives J W) (n : Nat) (ls st : List aV) (μ : aM) (g : Nat) : W (n + 1) 36 ls st μ g = (sAstC 37) (W n) ls st μ g := (hW n 36 ls st μ g).trans rfl
theorem wX5_gives_37 {l : Launch} {K : aRs} {X : aXs} {J : aK} {W : Nat → aK} (hW : isW (tbX5_gives l K X) cuX5_gives J W) (n : Nat) (ls st : List aV) (μ : aM) (g : Nat) : W (n + 1) 37 ls st μ g = (sRetV 0 K) (W n) ls st μ g := (hW n 37 ls st μ g).trans rfl
theorem dX5_trades_0 : decode cX5_trades 0 = .ok (.aload_n 0, 1) := by decide +kernel
theorem dX5_trades_1 : decode cX5_trades 1 = .ok (.getfield 90, 3) := by decide +kernel
theorem dX5_trades_4 : decode cX5_trades 4 = .ok (.bipush 50, 2) := by decide +kernel
theorem dX5_trades_6 : decode cX5_trades 6 = .ok (.irem, 1) := by decide +kernel
theorem dX5_trades_7 : decode cX5_trades 7 = .ok (.istore 5, 2) := by decide +kernel
theorem dX5_trades_9 : decode cX5_trades 9 = .ok (.aload_n 0, 1) := by decide +kernel
theorem dX5_trades_10 : decode cX5_trades 10 = .ok (.getfield 44, 3) := by decide +kernel
theorem dX5_trades_13 : decode cX5_trades 13 = .ok (.iload 5, 2) := by decide +kernel
theorem dX5_trades_15 : decode cX5_trades 15 = .ok (.iload_n 3, 1) := by decide +kernel
theorem dX5_trades_16 : decode cX5_trades 16 = .ok (.iastore, 1) := by decide +kernel
theorem dX5_trades_17 : decode cX5_trades 17 = .ok (.aload_n 0, 1) := by decide +kernel
theorem dX5_trades_18 : decode cX5_trades 18 = .ok (.getfield 47, 3) := by decide +kernel
theorem dX5_trades_21 : decode cX5_trades 21 = .ok (.iload 5, 2) := by decide +kernel
theorem dX5_trades_23 : decode cX5_trades 23 = .ok (.iload 4, 2) := by decide +kernel
theorem dX5_trades_25 : decode cX5_trades 25 = .ok (.iastore, 1) := by decide +kernel
theorem dX5_trades_26 : decode cX5_trades 26 = .ok (.aload_n 0, 1) := by decide +kernel
theorem dX5_trades_27 : decode cX5_trades 27 = .ok (.getfield 50, 3) := by decide +kernel
theorem dX5_trades_30 : decode cX5_trades 30 = .ok (.iload 5, 2) := by decide +kernel
theorem dX5_trades_32 : decode cX5_trades 32 = .ok (.aload_n 0, 1) := by decide +kernel
theorem dX5_trades_33 : decode cX5_trades 33 = .ok (.getfield 7, 3) := by decide +kernel
theorem dX5_trades_36 : decode cX5_trades 36 = .ok (.iload_n 1, 1) := by decide +kernel
theorem dX5_trades_37 : decode cX5_trades 37 = .ok (.caload, 1) := by decide +kernel
theorem dX5_trades_38 : decode cX5_trades 38 = .ok (.bipush 98, 2) := by decide +kernel
theorem dX5_trades_40 : decode cX5_trades 40 = .ok (.if_icmp .ne 7, 3) := by decide +kernel
theorem dX5_trades_43 : decode cX5_trades 43 = .ok (.iload_n 1, 1) := by decide +kernel
theorem dX5_trades_44 : decode cX5_trades 44 = .ok (.goto 4, 3) := by decide +kernel
theorem dX5_trades_47 : decode cX5_trades 47 = .ok (.iload_n 2, 1) := by decide +kernel
theorem dX5_trades_48 : decode cX5_trades 48 = .ok (.iastore, 1) := by decide +kernel
theorem dX5_trades_49 : decode cX5_trades 49 = .ok (.aload_n 0, 1) := by decide +kernel
theorem dX5_trades_50 : decode cX5_trades 50 = .ok (.getfield 53, 3) := by decide +kernel
theorem dX5_trades_53 : decode cX5_trades 53 = .ok (.iload 5, 2) := by decide +kernel
theorem dX5_trades_55 : decode cX5_trades 55 = .ok (.aload_n 0, 1) := by decide +kernel
theorem dX5_trades_56 : decode cX5_trades 56 = .ok (.getfield 7, 3) := by decide +kernel
theorem dX5_trades_59 : decode cX5_trades 59 = .ok (.iload_n 1, 1) := by decide +kernel
theorem dX5_trades_60 : decode cX5_trades 60 = .ok (.caload, 1) := by decide +kernel
theorem dX5_trades_61 : decode cX5_trades 61 = .ok (.bipush 98, 2) := by decide +kernel
theorem dX5_trades_63 : decode cX5_trades 63 = .ok (.if_icmp .ne 7, 3) := by decide +kernel
theorem dX5_trades_66 : decode cX5_trades 66 = .ok (.iload_n 2, 1) := by decide +kernel
theorem dX5_trades_67 : decode cX5_trades 67 = .ok (.goto 4, 3) := by decide +kernel
theorem dX5_trades_70 : decode cX5_trades 70 = .ok (.iload_n 1, 1) := by decide +kernel
theorem dX5_trades_71 : decode cX5_trades 71 = .ok (.iastore, 1) := by decide +kernel
theorem dX5_trades_72 : decode cX5_trades 72 = .ok (.aload_n 0, 1) := by decide +kernel
theorem dX5_trades_73 : decode cX5_trades 73 = .ok (.dup, 1) := by decide +kernel
theorem dX5_trades_74 : decode cX5_trades 74 = .ok (.getfield 90, 3) := by decide +kernel
theorem dX5_trades_77 : decode cX5_trades 77 = .ok (.iconst 1, 1) := by decide +kernel
theorem dX5_trades_78 : decode cX5_trades 78 = .ok (.iadd, 1) := by decide +kernel
theorem dX5_trades_79 : decode cX5_trades 79 = .ok (.putfield 90, 3) := by decide +kernel
theorem dX5_trades_82 : decode cX5_trades 82 = .ok (.aload_n 0, 1) := by decide +kernel
theorem dX5_trades_83 : decode cX5_trades 83 = .ok (.iload_n 3, 1) := by decide +kernel
theorem dX5_trades_84 : decode cX5_trades 84 = .ok (.putfield 93, 3) := by decide +kernel
theorem dX5_trades_87 : decode cX5_trades 87 = .ok (.aload_n 0, 1) := by decide +kernel
theorem dX5_trades_88 : decode cX5_trades 88 = .ok (.dup, 1) := by decide +kernel
theorem dX5_trades_89 : decode cX5_trades 89 = .ok (.getfield 96, 3) := by decide +kernel
theorem dX5_trades_92 : decode cX5_trades 92 = .ok (.iload 4, 2) := by decide +kernel
theorem dX5_trades_94 : decode cX5_trades 94 = .ok (.i2l, 1) := by decide +kernel
theorem dX5_trades_95 : decode cX5_trades 95 = .ok (.ladd, 1) := by decide +kernel
theorem dX5_trades_96 : decode cX5_trades 96 = .ok (.putfield 96, 3) := by decide +kernel
theorem dX5_trades_99 : decode cX5_trades 99 = .ok (.aload_n 0, 1) := by decide +kernel
theorem dX5_trades_100 : decode cX5_trades 100 = .ok (.dup, 1) := by decide +kernel
theorem dX5_trades_101 : decode cX5_trades 101 = .ok (.getfield 100, 3) := by decide +kernel
theorem dX5_trades_104 : decode cX5_trades 104 = .ok (.iload 4, 2) := by decide +kernel
theorem dX5_trades_106 : decode cX5_trades 106 = .ok (.i2l, 1) := by decide +kernel
theorem dX5_trades_107 : decode cX5_trades 107 = .ok (.iload_n 3, 1) := by decide +kernel
theorem dX5_trades_108 : decode cX5_trades 108 = .ok (.i2l, 1) := by decide +kernel
theorem dX5_trades_109 : decode cX5_trades 109 = .ok (.lmul, 1) := by decide +kernel
theorem dX5_trades_110 : decode cX5_trades 110 = .ok (.ladd, 1) := by decide +kernel
theorem dX5_trades_111 : decode cX5_trades 111 = .ok (.putfield 100, 3) := by decide +kernel
theorem dX5_trades_114 : decode cX5_trades 114 = .ok (.aload_n 0, 1) := by decide +kernel
theorem dX5_trades_115 : decode cX5_trades 115 = .ok (.iload_n 1, 1) := by decide +kernel
theorem dX5_trades_116 : decode cX5_trades 116 = .ok (.iload 4, 2) := by decide +kernel
theorem dX5_trades_118 : decode cX5_trades 118 = .ok (.invokevirtual 103, 3) := by decide +kernel
theorem dX5_trades_121 : decode cX5_trades 121 = .ok (.aload_n 0, 1) := by decide +kernel
theorem dX5_trades_122 : decode cX5_trades 122 = .ok (.iload_n 2, 1) := by decide +kernel
theorem dX5_trades_123 : decode cX5_trades 123 = .ok (.iload 4, 2) := by decide +kernel
theorem dX5_trades_125 : decode cX5_trades 125 = .ok (.invokevirtual 103, 3) := by decide +kernel
theorem dX5_trades_128 : decode cX5_trades 128 = .ok (.return_, 1) := by decide +kernel
def tbX5_trades (l : Launch) (K : aRs) (X : aXs) : aTb := [
  (0, sLd 0 1 isR),
  (1, sGetI 5 13 4),
  (4, sPush (aI 50) 6),
  (6, sRem 7),
  (7, sSt 5 9 isI),
  (9, sLd 0 10 isR),
  (10, sGetR 5 14 13),
  (13, sLd 5 15 isI),
  (15, sLd 3 16 isI),
  (16, sAstI 17),
  (17, sLd 0 18 isR),
  (18, sGetR 5 15 21),
  (21, sLd 5 23 isI),
  (23, sLd 4 25 isI),
  (25, sAstI 26),
  (26, sLd 0 27 isR),
  (27, sGetR 5 16 30),
  (30, sLd 5 32 isI),
  (32, sLd 0 33 isR),
  (33, sGetR 5 1 36),
  (36, sLd 1 37 isI),
  (37, sAldI 6 38),
  (38, sPush (aI 98) 40),
  (40, sIc qNe 47 43),
  (43, sLd 1 44 isI),
  (44, sGoto 48),
  (47, sLd 2 48 isI),
  (48, sAstI 49),
  (49, sLd 0 50 isR),
  (50, sGetR 5 17 53),
  (53, sLd 5 55 isI),
  (55, sLd 0 56 isR),
  (56, sGetR 5 1 59),
  (59, sLd 1 60 isI),
  (60, sAldI 6 61),
  (61, sPush (aI 98) 63),
  (63, sIc qNe 70 66),
  (66, sLd 2 67 isI),
  (67, sGoto 71),
  (70, sLd 1 71 isI),
  (71, sAstI 72),
  (72, sLd 0 73 isR),
  (73, sDup 74),
  (74, sGetI 5 13 77),
  (77, sPush (aI 1) 78),
  (78, sBin fAdd 79),
  (79, sPutI 5 13 82),
  (82, sLd 0 83 isR),
  (83, sLd 3 84 isI),
  (84, sPutI 5 18 87),
  (87, sLd 0 88 isR),
  (88, sDup 89),
  (89, sGetL 5 19 92),
  (92, sLd 4 94 isI),
  (94, sI2l 95),
  (95, sLbin fLadd 96),
  (96, sPutL 5 19 99),
  (99, sLd 0 100 isR),
  (100, sDup 101),
  (101, sGetL 5 20 104),
  (104, sLd 4 106 isI),
  (106, sI2l 107),
  (107, sLd 3 108 isI),
  (108, sI2l 109),
  (109, sLbin fLmul 110),
  (110, sLbin fLadd 111),
  (111, sPutL 5 20 114),
  (114, sLd 0 115 isR),
  (115, sLd 1 116 isI),
  (116, sLd 4 118 isI),
  (118, sCallV 2 5 (fun as μ K => Ct l mdX5_gives as μ K X) 121 0 0),
  (121, sLd 0 122 isR),
  (122, sLd 2 123 isI),
  (123, sLd 4 125 isI),
  (125, sCallV 2 5 (fun as μ K => Ct l mdX5_gives as μ K X) 128 0 0),
  (128, sRetV 0 K)]
theorem snX5_trades (l : Launch) (K : aRs) (X : aXs) (n0 : Nat) : ∀ q ∈ tbX5_trades l K X, aSo l mdX5_trades K X n0 q.1 q.2 :=
  tc (fun p e s m args below meth c cA D A ad0 h => ok_aload_n h.1 0 rfl dX5_trades_0) <|
  tc (fun p e s m args below meth c cA D A ad0 h => ok_getI h.1 cxX5 (by decide) rfl fkRX5_90 (fun _ _ _ => rfl) dX5_trades_1) <|
  tc (fun p e s m args below meth c cA D A ad0 h => ok_bipush h.1 ⟨by decide, by decide⟩ (by decide) dX5_trades_4) <|
  tc (fun p e s m args below meth c cA D A ad0 h => ok_irem h.1 dX5_trades_6) <|
  tc (fun p e s m args below meth c cA D A ad0 h => ok_istore h.1 (by decide) dX5_trades_7) <|
  tc (fun p e s m args below meth c cA D A ad0 h => ok_aload_n h.1 0 rfl dX5_trades_9) <|
  tc (fun p e s m args below meth c cA D A ad0 h => ok_getR h.1 cxX5 (by decide) rfl fkRX5_44 (fun _ _ _ => rfl) dX5_trades_10) <|
  tc (fun p e s m args below meth c cA D A ad0 h => ok_iload h.1 dX5_trades_13) <|
  tc (fun p e s m args below meth c cA D A ad0 h => ok_iload_n h.1 3 rfl dX5_trades_15) <|
  tc (fun p e s m args below meth c cA D A ad0 h => ok_iast h.1 dX5_trades_16) <|
  tc (fun p e s m args below meth c cA D A ad0 h => ok_aload_n h.1 0 rfl dX5_trades_17) <|
  tc (fun p e s m args below meth c cA D A ad0 h => ok_getR h.1 cxX5 (by decide) rfl fkRX5_47 (fun _ _ _ => rfl) dX5_trades_18) <|
  tc (fun p e s m args below meth c cA D A ad0 h => ok_iload h.1 dX5_trades_21) <|
  tc (fun p e s m args below meth c cA D A ad0 h => ok_iload h.1 dX5_trades_23) <|
  tc (fun p e s m args below meth c cA D A ad0 h => ok_iast h.1 dX5_trades_25) <|
  tc (fun p e s m args below meth c cA D A ad0 h => ok_aload_n h.1 0 rfl dX5_trades_26) <|
  tc (fun p e s m args below meth c cA D A ad0 h => ok_getR h.1 cxX5 (by decide) rfl fkRX5_50 (fun _ _ _ => rfl) dX5_trades_27) <|
  tc (fun p e s m args below meth c cA D A ad0 h => ok_iload h.1 dX5_trades_30) <|
  tc (fun p e s m args below meth c cA D A ad0 h => ok_aload_n h.1 0 rfl dX5_trades_32) <|
  tc (fun p e s m args below meth c cA D A ad0 h => ok_getR h.1 cxX5 (by decide) rfl fkRX5_7 (fun _ _ _ => rfl) dX5_trades_33) <|
  tc (fun p e s m args below meth c cA D A ad0 h => ok_iload_n h.1 1 rfl dX5_trades_36) <|
  tc (fun p e s m args below meth c cA D A ad0 h => ok_cald h.1 dX5_trades_37) <|
  tc (fun p e s m args below meth c cA D A ad0 h => ok_bipush h.1 ⟨by decide, by decide⟩ (by decide) dX5_trades_38) <|
  tc (fun p e s m args below meth c cA D A ad0 h => ok_icmp_ne h.1 47 (by decide) dX5_trades_40) <|
  tc (fun p e s m args below meth c cA D A ad0 h => ok_iload_n h.1 1 rfl dX5_trades_43) <|
  tc (fun p e s m args below meth c cA D A ad0 h => ok_goto h.1 48 (by decide) dX5_trades_44) <|
  tc (fun p e s m args below meth c cA D A ad0 h => ok_iload_n h.1 2 rfl dX5_trades_47) <|
  tc (fun p e s m args below meth c cA D A ad0 h => ok_iast h.1 dX5_trades_48) <|
  tc (fun p e s m args below meth c cA D A ad0 h => ok_aload_n h.1 0 rfl dX5_trades_49) <|
  tc (fun p e s m args below meth c cA D A ad0 h => ok_getR h.1 cxX5 (by decide) rfl fkRX5_53 (fun _ _ _ => rfl) dX5_trades_50) <|
  tc (fun p e s m args below meth c cA D A ad0 h => ok_iload h.1 dX5_trades_53) <|
  tc (fun p e s m args below meth c cA D A ad0 h => ok_aload_n h.1 0 rfl dX5_trades_55) <|
  tc (fun p e s m args below meth c cA D A ad0 h => ok_getR h.1 cxX5 (by decide) rfl fkRX5_7 (fun _ _ _ => rfl) dX5_trades_56) <|
  tc (fun p e s m args below meth c cA D A ad0 h => ok_iload_n h.1 1 rfl dX5_trades_59) <|
  tc (fun p e s m args below meth c cA D A ad0 h => ok_cald h.1 dX5_trades_60) <|
  tc (fun p e s m args below meth c cA D A ad0 h => ok_bipush h.1 ⟨by decide, by decide⟩ (by decide) dX5_trades_61) <|
  tc (fun p e s m args below meth c cA D A ad0 h => ok_icmp_ne h.1 70 (by decide) dX5_trades_63) <|
  tc (fun p e s m args below meth c cA D A ad0 h => ok_iload_n h.1 2 rfl dX5_trades_66) <|
  tc (fun p e s m args below meth c cA D A ad0 h => ok_goto h.1 71 (by decide) dX5_trades_67) <|
  tc (fun p e s m args below meth c cA D A ad0 h => ok_iload_n h.1 1 rfl dX5_trades_70) <|
  tc (fun p e s m args below meth c cA D A ad0 h => ok_iast h.1 dX5_trades_71) <|
  tc (fun p e s m args below meth c cA D A ad0 h => ok_aload_n h.1 0 rfl dX5_trades_72) <|
  tc (fun p e s m args below meth c cA D A ad0 h => ok_dup h.1 dX5_trades_73) <|
  tc (fun p e s m args below meth c cA D A ad0 h => ok_getI h.1 cxX5 (by decide) rfl fkRX5_90 (fun _ _ _ => rfl) dX5_trades_74) <|
  tc (fun p e s m args below meth c cA D A ad0 h => ok_iconst h.1 ⟨by decide, by decide⟩ dX5_trades_77) <|
  tc (fun p e s m args below meth c cA D A ad0 h => ok_iadd h.1 dX5_trades_78) <|
  tc (fun p e s m args below meth c cA D A ad0 h => ok_putI h.1 cxX5 (by decide) rfl fkRX5_90 (Or.inl rfl) (fun _ _ _ => rfl) (Or.inl rfl) dX5_trades_79) <|
  tc (fun p e s m args below meth c cA D A ad0 h => ok_aload_n h.1 0 rfl dX5_trades_82) <|
  tc (fun p e s m args below meth c cA D A ad0 h => ok_iload_n h.1 3 rfl dX5_trades_83) <|
  tc (fun p e s m args below meth c cA D A ad0 h => ok_putI h.1 cxX5 (by decide) rfl fkRX5_93 (Or.inl rfl) (fun _ _ _ => rfl) (Or.inl rfl) dX5_trades_84) <|
  tc (fun p e s m args below meth c cA D A ad0 h => ok_aload_n h.1 0 rfl dX5_trades_87) <|
  tc (fun p e s m args below meth c cA D A ad0 h => ok_dup h.1 dX5_trades_88) <|
  tc (fun p e s m args below meth c cA D A ad0 h => ok_getL h.1 cxX5 (by decide) rfl fkRX5_96 (fun _ _ _ => rfl) dX5_trades_89) <|
  tc (fun p e s m args below meth c cA D A ad0 h => ok_iload h.1 dX5_trades_92) <|
  tc (fun p e s m args below meth c cA D A ad0 h => ok_i2l h.1 dX5_trades_94) <|
  tc (fun p e s m args below meth c cA D A ad0 h => ok_ladd h.1 dX5_trades_95) <|
  tc (fun p e s m args below meth c cA D A ad0 h => ok_putL h.1 cxX5 (by decide) rfl fkRX5_96 (Or.inl rfl) (fun _ _ _ => rfl) rfl dX5_trades_96) <|
  tc (fun p e s m args below meth c cA D A ad0 h => ok_aload_n h.1 0 rfl dX5_trades_99) <|
  tc (fun p e s m args below meth c cA D A ad0 h => ok_dup h.1 dX5_trades_100) <|
  tc (fun p e s m args below meth c cA D A ad0 h => ok_getL h.1 cxX5 (by decide) rfl fkRX5_100 (fun _ _ _ => rfl) dX5_trades_101) <|
  tc (fun p e s m args below meth c cA D A ad0 h => ok_iload h.1 dX5_trades_104) <|
  tc (fun p e s m args below meth c cA D A ad0 h => ok_i2l h.1 dX5_trades_106) <|
  tc (fun p e s m args below meth c cA D A ad0 h => ok_iload_n h.1 3 rfl dX5_trades_107) <|
  tc (fun p e s m args below meth c cA D A ad0 h => ok_i2l h.1 dX5_trades_108) <|
  tc (fun p e s m args below meth c cA D A ad0 h => ok_lmul h.1 dX5_trades_109) <|
  tc (fun p e s m args below meth c cA D A ad0 h => ok_ladd h.1 dX5_trades_110) <|
  tc (fun p e s m args below meth c cA D A ad0 h => ok_putL h.1 cxX5 (by decide) rfl fkRX5_100 (Or.inl rfl) (fun _ _ _ => rfl) rfl dX5_trades_111) <|
  tc (fun p e s m args below meth c cA D A ad0 h => ok_aload_n h.1 0 rfl dX5_trades_114) <|
  tc (fun p e s m args below meth c cA D A ad0 h => ok_iload_n h.1 1 rfl dX5_trades_115) <|
  tc (fun p e s m args below meth c cA D A ad0 h => ok_iload h.1 dX5_trades_116) <|
  tc (fun p e s m args below meth c cA D A ad0 h => ok_callV h.1 h.2.1 ⟨Nat.le_refl _, Nat.le_refl _⟩ mdX5_gives siX5_gives cxX5 mkRX5_103 imX5_gives seX5_gives ⟨by decide, by decide⟩ (aAx_out h.1 h.2.2.1 _) dX5_trades_118) <|
  tc (fun p e s m args below meth c cA D A ad0 h => ok_aload_n h.1 0 rfl dX5_trades_121) <|
  tc (fun p e s m args below meth c cA D A ad0 h => ok_iload_n h.1 2 rfl dX5_trades_122) <|
  tc (fun p e s m args below meth c cA D A ad0 h => ok_iload h.1 dX5_trades_123) <|
  tc (fun p e s m args below meth c cA D A ad0 h => ok_callV h.1 h.2.1 ⟨Nat.le_refl _, Nat.le_refl _⟩ mdX5_gives siX5_gives cxX5 mkRX5_103 imX5_gives seX5_gives ⟨by decide, by decide⟩ (aAx_out h.1 h.2.2.1 _) dX5_trades_125) <|
  tc (fun p e s m args below meth c cA D A ad0 h => ok_return h.1 h.2.2.2.1 dX5_trades_128) <|
  tn
abbrev cuX5_trades : List Nat := [121, 128]
theorem tX5_trades_0 (l : Launch) (K : aRs) (X : aXs) : tb (tbX5_trades l K X) 0 = sLd 0 1 isR := (rfl)
theorem wX5_trades_0 {l : Launch} {K : aRs} {X : aXs} {J : aK} {W : Nat → aK} (hW : isW (tbX5_trades l K X) cuX5_trades J W) (n : Nat) (ls st : List aV) (μ : aM) (g : Nat) : W (n + 1) 0 ls st μ g = (sLd 0 1 isR) (W n) ls st μ g := (hW n 0 ls st μ g).trans rfl
theorem wX5_trades_1 {l : Launch} {K : aRs} {X : aXs} {J : aK} {W : Nat → aK} (hW : isW (tbX5_trades l K X) cuX5_trades J W) (n : Nat) (ls st : List aV) (μ : aM) (g : Nat) : W (n + 1) 1 ls st μ g = (sGetI 5 13 4) (W n) ls st μ g := (hW n 1 ls st μ g).trans rfl
theorem wX5_trades_4 {l : Launch} {K : aRs} {X : aXs} {J : aK} {W : Nat → aK} (hW : isW (tbX5_trades l K X) cuX5_trades J W) (n : Nat) (ls st : List aV) (μ : aM) (g : Nat) : W (n + 1) 4 ls st μ g = (sPush (aI 50) 6) (W n) ls st μ g := (hW n 4 ls st μ g).trans rfl
theorem wX5_trades_6 {l : Launch} {K : aRs} {X : aXs} {J : aK} {W : Nat → aK} (hW : isW (tbX5_trades l K X) cuX5_trades J W) (n : Nat) (ls st : List aV) (μ : aM) (g : Nat) : W (n + 1) 6 ls st μ g = (sRem 7) (W n) ls st μ g := (hW n 6 ls st μ g).trans rfl
theorem wX5_trades_7 {l : Launch} {K : aRs} {X : aXs} {J : aK} {W : Nat → aK} (hW : isW (tbX5_trades l K X) cuX5_trades J W) (n : Nat) (ls st : List aV) (μ : aM) (g : Nat) : W (n + 1) 7 ls st μ g = (sSt 5 9 isI) (W n) ls st μ g := (hW n 7 ls st μ g).trans rfl
theorem wX5_trades_9 {l : Launch} {K : aRs} {X : aXs} {J : aK} {W : Nat → aK} (hW : isW (tbX5_trades l K X) cuX5_trades J W) (n : Nat) (ls st : List aV) (μ : aM) (g : Nat) : W (n + 1) 9 ls st μ g = (sLd 0 10 isR) (W n) ls st μ g := (hW n 9 ls st μ g).trans rfl
theorem wX5_trades_10 {l : Launch} {K : aRs} {X : aXs} {J : aK} {W : Nat → aK} (hW : isW (tbX5_trades l K X) cuX5_trades J W) (n : Nat) (ls st : List aV) (μ : aM) (g : Nat) : W (n + 1) 10 ls st μ g = (sGetR 5 14 13) (W n) ls st μ g := (hW n 10 ls st μ g).trans rfl
theorem wX5_trades_13 {l : Launch} {K : aRs} {X : aXs} {J : aK} {W : Nat → aK} (hW : isW (tbX5_trades l K X) cuX5_trades J W) (n : Nat) (ls st : List aV) (μ : aM) (g : Nat) : W (n + 1) 13 ls st μ g = (sLd 5 15 isI) (W n) ls st μ g := (hW n 13 ls st μ g).trans rfl
theorem wX5_trades_15 {l : Launch} {K : aRs} {X : aXs} {J : aK} {W : Nat → aK} (hW : isW (tbX5_trades l K X) cuX5_trades J W) (n : Nat) (ls st : List aV) (μ : aM) (g : Nat) : W (n + 1) 15 ls st μ g = (sLd 3 16 isI) (W n) ls st μ g := (hW n 15 ls st μ g).trans rfl
theorem wX5_trades_16 {l : Launch} {K : aRs} {X : aXs} {J : aK} {W : Nat → aK} (hW : isW (tbX5_trades l K X) cuX5_trades J W) (n : Nat) (ls st : List aV) (μ : aM) (g : Nat) : W (n + 1) 16 ls st μ g = (sAstI 17) (W n) ls st μ g := (hW n 16 ls st μ g).trans rfl
theorem wX5_trades_17 {l : Launch} {K : aRs} {X : aXs} {J : aK} {W : Nat → aK} (hW : isW (tbX5_trades l K X) cuX5_trades J W) (n : Nat) (ls st : List aV) (μ : aM) (g : Nat) : W (n + 1) 17 ls st μ g = (sLd 0 18 isR) (W n) ls st μ g := (hW n 17 ls st μ g).trans rfl
theorem wX5_trades_18 {l : Launch} {K : aRs} {X : aXs} {J : aK} {W : Nat → aK} (hW : isW (tbX5_trades l K X) cuX5_trades J W) (n : Nat) (ls st : List aV) (μ : aM) (g : Nat) : W (n + 1) 18 ls st μ g = (sGetR 5 15 21) (W n) ls st μ g := (hW n 18 ls st μ g).trans rfl
theorem wX5_trades_21 {l : Launch} {K : aRs} {X : aXs} {J : aK} {W : Nat → aK} (hW : isW (tbX5_trades l K X) cuX5_trades J W) (n : Nat) (ls st : List aV) (μ : aM) (g : Nat) : W (n + 1) 21 ls st μ g = (sLd 5 23 isI) (W n) ls st μ g := (hW n 21 ls st μ g).trans rfl
theorem wX5_trades_23 {l : Launch} {K : aRs} {X : aXs} {J : aK} {W : Nat → aK} (hW : isW (tbX5_trades l K X) cuX5_trades J W) (n : Nat) (ls st : List aV) (μ : aM) (g : Nat) : W (n + 1) 23 ls st μ g = (sLd 4 25 isI) (W n) ls st μ g := (hW n 23 ls st μ g).trans rfl
theorem wX5_trades_25 {l : Launch} {K : aRs} {X : aXs} {J : aK} {W : Nat → aK} (hW : isW (tbX5_trades l K X) cuX5_trades J W) (n : Nat) (ls st : List aV) (μ : aM) (g : Nat) : W (n + 1) 25 ls st μ g = (sAstI 26) (W n) ls st μ g := (hW n 25 ls st μ g).trans rfl
theorem wX5_trades_26 {l : Launch} {K : aRs} {X : aXs} {J : aK} {W : Nat → aK} (hW : isW (tbX5_trades l K X) cuX5_trades J W) (n : Nat) (ls st : List aV) (μ : aM) (g : Nat) : W (n + 1) 26 ls st μ g = (sLd 0 27 isR) (W n) ls st μ g := (hW n 26 ls st μ g).trans rfl
theorem wX5_trades_27 {l : Launch} {K : aRs} {X : aXs} {J : aK} {W : Nat → aK} (hW : isW (tbX5_trades l K X) cuX5_trades J W) (n : Nat) (ls st : List aV) (μ : aM) (g : Nat) : W (n + 1) 27 ls st μ g = (sGetR 5 16 30) (W n) ls st μ g := (hW n 27 ls st μ g).trans rfl
theorem wX5_trades_30 {l : Launch} {K : aRs} {X : aXs} {J : aK} {W : Nat → aK} (hW : isW (tbX5_trades l K X) cuX5_trades J W) (n : Nat) (ls st : List aV) (μ : aM) (g : Nat) : W (n + 1) 30 ls st μ g = (sLd 5 32 isI) (W n) ls st μ g := (hW n 30 ls st μ g).trans rfl
theorem wX5_trades_32 {l : Launch} {K : aRs} {X : aXs} {J : aK} {W : Nat → aK} (hW : isW (tbX5_trades l K X) cuX5_trades J W) (n : Nat) (ls st : List aV) (μ : aM) (g : Nat) : W (n + 1) 32 ls st μ g = (sLd 0 33 isR) (W n) ls st μ g := (hW n 32 ls st μ g).trans rfl
theorem wX5_trades_33 {l : Launch} {K : aRs} {X : aXs} {J : aK} {W : Nat → aK} (hW : isW (tbX5_trades l K X) cuX5_trades J W) (n : Nat) (ls st : List aV) (μ : aM) (g : Nat) : W (n + 1) 33 ls st μ g = (sGetR 5 1 36) (W n) ls st μ g := (hW n 33 ls st μ g).trans rfl
theorem wX5_trades_36 {l : Launch} {K : aRs} {X : aXs} {J : aK} {W : Nat → aK} (hW : isW (tbX5_trades l K X) cuX5_trades J W) (n : Nat) (ls st : List aV) (μ : aM) (g : Nat) : W (n + 1) 36 ls st μ g = (sLd 1 37 isI) (W n) ls st μ g := (hW n 36 ls st μ g).trans rfl
theorem wX5_trades_37 {l : Launch} {K : aRs} {X : aXs} {J : aK} {W : Nat → aK} (hW : isW (tbX5_trades l K X) cuX5_trades J W) (n : Nat) (ls st : List aV) (μ : aM) (g : Nat) : W (n + 1) 37 ls st μ g = (sAldI 6 38) (W n) ls st μ g := (hW n 37 ls st μ g).trans rfl
theorem wX5_trades_38 {l : Launch} {K : aRs} {X : aXs} {J : aK} {W : Nat → aK} (hW : isW (tbX5_trades l K X) cuX5_trades J W) (n : Nat) (ls st : List aV) (μ : aM) (g : Nat) : W (n + 1) 38 ls st μ g = (sPush (aI 98) 40) (W n) ls st μ g := (hW n 38 ls st μ g).trans rfl
theorem wX5_trades_40 {l : Launch} {K : aRs} {X : aXs} {J : aK} {W : Nat → aK} (hW : isW (tbX5_trades l K X) cuX5_trades J W) (n : Nat) (ls st : List aV) (μ : aM) (g : Nat) : W (n + 1) 40 ls st μ g = (sIc qNe 47 43) (W n) ls st μ g := (hW n 40 ls st μ g).trans rfl
theorem wX5_trades_43 {l : Launch} {K : aRs} {X : aXs} {J : aK} {W : Nat → aK} (hW : isW (tbX5_trades l K X) cuX5_trades J W) (n : Nat) (ls st : List aV) (μ : aM) (g : Nat) : W (n + 1) 43 ls st μ g = (sLd 1 44 isI) (W n) ls st μ g := (hW n 43 ls st μ g).trans rfl
theorem wX5_trades_44 {l : Launch} {K : aRs} {X : aXs} {J : aK} {W : Nat → aK} (hW : isW (tbX5_trades l K X) cuX5_trades J W) (n : Nat) (ls st : List aV) (μ : aM) (g : Nat) : W (n + 1) 44 ls st μ g = (sGoto 48) (W n) ls st μ g := (hW n 44 ls st μ g).trans rfl
theorem wX5_trades_47 {l : Launch} {K : aRs} {X : aXs} {J : aK} {W : Nat → aK} (hW : isW (tbX5_trades l K X) cuX5_trades J W) (n : Nat) (ls st : List aV) (μ : aM) (g : Nat) : W (n + 1) 47 ls st μ g = (sLd 2 48 isI) (W n) ls st μ g := (hW n 47 ls st μ g).trans rfl
theorem wX5_trades_48 {l : Launch} {K : aRs} {X : aXs} {J : aK} {W : Nat → aK} (hW : isW (tbX5_trades l K X) cuX5_trades J W) (n : Nat) (ls st : List aV) (μ : aM) (g : Nat) : W (n + 1) 48 ls st μ g = (sAstI 49) (W n) ls st μ g := (hW n 48 ls st μ g).trans rfl
theorem wX5_trades_49 {l : Launch} {K : aRs} {X : aXs} {J : aK} {W : Nat → aK} (hW : isW (tbX5_trades l K X) cuX5_trades J W) (n : Nat) (ls st : List aV) (μ : aM) (g : Nat) : W (n + 1) 49 ls st μ g = (sLd 0 50 isR) (W n) ls st μ g := (hW n 49 ls st μ g).trans rfl
theorem wX5_trades_50 {l : Launch} {K : aRs} {X : aXs} {J : aK} {W : Nat → aK} (hW : isW (tbX5_trades l K X) cuX5_trades J W) (n : Nat) (ls st : List aV) (μ : aM) (g : Nat) : W (n + 1) 50 ls st μ g = (sGetR 5 17 53) (W n) ls st μ g := (hW n 50 ls st μ g).trans rfl
theorem wX5_trades_53 {l : Launch} {K : aRs} {X : aXs} {J : aK} {W : Nat → aK} (hW : isW (tbX5_trades l K X) cuX5_trades J W) (n : Nat) (ls st : List aV) (μ : aM) (g : Nat) : W (n + 1) 53 ls st μ g = (sLd 5 55 isI) (W n) ls st μ g := (hW n 53 ls st μ g).trans rfl
theorem wX5_trades_55 {l : Launch} {K : aRs} {X : aXs} {J : aK} {W : Nat → aK} (hW : isW (tbX5_trades l K X) cuX5_trades J W) (n : Nat) (ls st : List aV) (μ : aM) (g : Nat) : W (n + 1) 55 ls st μ g = (sLd 0 56 isR) (W n) ls st μ g := (hW n 55 ls st μ g).trans rfl
theorem wX5_trades_56 {l : Launch} {K : aRs} {X : aXs} {J : aK} {W : Nat → aK} (hW : isW (tbX5_trades l K X) cuX5_trades J W) (n : Nat) (ls st : List aV) (μ : aM) (g : Nat) : W (n + 1) 56 ls st μ g = (sGetR 5 1 59) (W n) ls st μ g := (hW n 56 ls st μ g).trans rfl
theorem wX5_trades_59 {l : Launch} {K : aRs} {X : aXs} {J : aK} {W : Nat → aK} (hW : isW (tbX5_trades l K X) cuX5_trades J W) (n : Nat) (ls st : List aV) (μ : aM) (g : Nat) : W (n + 1) 59 ls st μ g = (sLd 1 60 isI) (W n) ls st μ g := (hW n 59 ls st μ g).trans rfl
theorem wX5_trades_60 {l : Launch} {K : aRs} {X : aXs} {J : aK} {W : Nat → aK} (hW : isW (tbX5_trades l K X) cuX5_trades J W) (n : Nat) (ls st : List aV) (μ : aM) (g : Nat) : W (n + 1) 60 ls st μ g = (sAldI 6 61) (W n) ls st μ g := (hW n 60 ls st μ g).trans rfl
theorem wX5_trades_61 {l : Launch} {K : aRs} {X : aXs} {J : aK} {W : Nat → aK} (hW : isW (tbX5_trades l K X) cuX5_trades J W) (n : Nat) (ls st : List aV) (μ : aM) (g : Nat) : W (n + 1) 61 ls st μ g = (sPush (aI 98) 63) (W n) ls st μ g := (hW n 61 ls st μ g).trans rfl
theorem wX5_trades_63 {l : Launch} {K : aRs} {X : aXs} {J : aK} {W : Nat → aK} (hW : isW (tbX5_trades l K X) cuX5_trades J W) (n : Nat) (ls st : List aV) (μ : aM) (g : Nat) : W (n + 1) 63 ls st μ g = (sIc qNe 70 66) (W n) ls st μ g := (hW n 63 ls st μ g).trans rfl
theorem wX5_trades_66 {l : Launch} {K : aRs} {X : aXs} {J : aK} {W : Nat → aK} (hW : isW (tbX5_trades l K X) cuX5_trades J W) (n : Nat) (ls st : List aV) (μ : aM) (g : Nat) : W (n + 1) 66 ls st μ g = (sLd 2 67 isI) (W n) ls st μ g := (hW n 66 ls st μ g).trans rfl
theorem wX5_trades_67 {l : Launch} {K : aRs} {X : aXs} {J : aK} {W : Nat → aK} (hW : isW (tbX5_trades l K X) cuX5_trades J W) (n : Nat) (ls st : List aV) (μ : aM) (g : Nat) : W (n + 1) 67 ls st μ g = (sGoto 71) (W n) ls st μ g := (hW n 67 ls st μ g).trans rfl
theorem wX5_trades_70 {l : Launch} {K : aRs} {X : aXs} {J : aK} {W : Nat → aK} (hW : isW (tbX5_trades l K X) cuX5_trades J W) (n : Nat) (ls st : List aV) (μ : aM) (g : Nat) : W (n + 1) 70 ls st μ g = (sLd 1 71 isI) (W n) ls st μ g := (hW n 70 ls st μ g).trans rfl
theorem wX5_trades_71 {l : Launch} {K : aRs} {X : aXs} {J : aK} {W : Nat → aK} (hW : isW (tbX5_trades l K X) cuX5_trades J W) (n : Nat) (ls st : List aV) (μ : aM) (g : Nat) : W (n + 1) 71 ls st μ g = (sAstI 72) (W n) ls st μ g := (hW n 71 ls st μ g).trans rfl
theorem wX5_trades_72 {l : Launch} {K : aRs} {X : aXs} {J : aK} {W : Nat → aK} (hW : isW (tbX5_trades l K X) cuX5_trades J W) (n : Nat) (ls st : List aV) (μ : aM) (g : Nat) : W (n + 1) 72 ls st μ g = (sLd 0 73 isR) (W n) ls st μ g := (hW n 72 ls st μ g).trans rfl
theorem wX5_trades_73 {l : Launch} {K : aRs} {X : aXs} {J : aK} {W : Nat → aK} (hW : isW (tbX5_trades l K X) cuX5_trades J W) (n : Nat) (ls st : List aV) (μ : aM) (g : Nat) : W (n + 1) 73 ls st μ g = (sDup 74) (W n) ls st μ g := (hW n 73 ls st μ g).trans rfl
theorem wX5_trades_74 {l : Launch} {K : aRs} {X : aXs} {J : aK} {W : Nat → aK} (hW : isW (tbX5_trades l K X) cuX5_trades J W) (n : Nat) (ls st : List aV) (μ : aM) (g : Nat) : W (n + 1) 74 ls st μ g = (sGetI 5 13 77) (W n) ls st μ g := (hW n 74 ls st μ g).trans rfl
theorem wX5_trades_77 {l : Launch} {K : aRs} {X : aXs} {J : aK} {W : Nat → aK} (hW : isW (tbX5_trades l K X) cuX5_trades J W) (n : Nat) (ls st : List aV) (μ : aM) (g : Nat) : W (n + 1) 77 ls st μ g = (sPush (aI 1) 78) (W n) ls st μ g := (hW n 77 ls st μ g).trans rfl
theorem wX5_trades_78 {l : Launch} {K : aRs} {X : aXs} {J : aK} {W : Nat → aK} (hW : isW (tbX5_trades l K X) cuX5_trades J W) (n : Nat) (ls st : List aV) (μ : aM) (g : Nat) : W (n + 1) 78 ls st μ g = (sBin fAdd 79) (W n) ls st μ g := (hW n 78 ls st μ g).trans rfl
theorem wX5_trades_79 {l : Launch} {K : aRs} {X : aXs} {J : aK} {W : Nat → aK} (hW : isW (tbX5_trades l K X) cuX5_trades J W) (n : Nat) (ls st : List aV) (μ : aM) (g : Nat) : W (n + 1) 79 ls st μ g = (sPutI 5 13 82) (W n) ls st μ g := (hW n 79 ls st μ g).trans rfl
theorem wX5_trades_82 {l : Launch} {K : aRs} {X : aXs} {J : aK} {W : Nat → aK} (hW : isW (tbX5_trades l K X) cuX5_trades J W) (n : Nat) (ls st : List aV) (μ : aM) (g : Nat) : W (n + 1) 82 ls st μ g = (sLd 0 83 isR) (W n) ls st μ g := (hW n 82 ls st μ g).trans rfl
theorem wX5_trades_83 {l : Launch} {K : aRs} {X : aXs} {J : aK} {W : Nat → aK} (hW : isW (tbX5_trades l K X) cuX5_trades J W) (n : Nat) (ls st : List aV) (μ : aM) (g : Nat) : W (n + 1) 83 ls st μ g = (sLd 3 84 isI) (W n) ls st μ g := (hW n 83 ls st μ g).trans rfl
theorem wX5_trades_84 {l : Launch} {K : aRs} {X : aXs} {J : aK} {W : Nat → aK} (hW : isW (tbX5_trades l K X) cuX5_trades J W) (n : Nat) (ls st : List aV) (μ : aM) (g : Nat) : W (n + 1) 84 ls st μ g = (sPutI 5 18 87) (W n) ls st μ g := (hW n 84 ls st μ g).trans rfl
theorem wX5_trades_87 {l : Launch} {K : aRs} {X : aXs} {J : aK} {W : Nat → aK} (hW : isW (tbX5_trades l K X) cuX5_trades J W) (n : Nat) (ls st : List aV) (μ : aM) (g : Nat) : W (n + 1) 87 ls st μ g = (sLd 0 88 isR) (W n) ls st μ g := (hW n 87 ls st μ g).trans rfl
theorem wX5_trades_88 {l : Launch} {K : aRs} {X : aXs} {J : aK} {W : Nat → aK} (hW : isW (tbX5_trades l K X) cuX5_trades J W) (n : Nat) (ls st : List aV) (μ : aM) (g : Nat) : W (n + 1) 88 ls st μ g = (sDup 89) (W n) ls st μ g := (hW n 88 ls st μ g).trans rfl
theorem wX5_trades_89 {l : Launch} {K : aRs} {X : aXs} {J : aK} {W : Nat → aK} (hW : isW (tbX5_trades l K X) cuX5_trades J W) (n : Nat) (ls st : List aV) (μ : aM) (g : Nat) : W (n + 1) 89 ls st μ g = (sGetL 5 19 92) (W n) ls st μ g := (hW n 89 ls st μ g).trans rfl
theorem wX5_trades_92 {l : Launch} {K : aRs} {X : aXs} {J : aK} {W : Nat → aK} (hW : isW (tbX5_trades l K X) cuX5_trades J W) (n : Nat) (ls st : List aV) (μ : aM) (g : Nat) : W (n + 1) 92 ls st μ g = (sLd 4 94 isI) (W n) ls st μ g := (hW n 92 ls st μ g).trans rfl
theorem wX5_trades_94 {l : Launch} {K : aRs} {X : aXs} {J : aK} {W : Nat → aK} (hW : isW (tbX5_trades l K X) cuX5_trades J W) (n : Nat) (ls st : List aV) (μ : aM) (g : Nat) : W (n + 1) 94 ls st μ g = (sI2l 95) (W n) ls st μ g := (hW n 94 ls st μ g).trans rfl
theorem wX5_trades_95 {l : Launch} {K : aRs} {X : aXs} {J : aK} {W : Nat → aK} (hW : isW (tbX5_trades l K X) cuX5_trades J W) (n : Nat) (ls st : List aV) (μ : aM) (g : Nat) : W (n + 1) 95 ls st μ g = (sLbin fLadd 96) (W n) ls st μ g := (hW n 95 ls st μ g).trans rfl
theorem wX5_trades_96 {l : Launch} {K : aRs} {X : aXs} {J : aK} {W : Nat → aK} (hW : isW (tbX5_trades l K X) cuX5_trades J W) (n : Nat) (ls st : List aV) (μ : aM) (g : Nat) : W (n + 1) 96 ls st μ g = (sPutL 5 19 99) (W n) ls st μ g := (hW n 96 ls st μ g).trans rfl
theorem wX5_trades_99 {l : Launch} {K : aRs} {X : aXs} {J : aK} {W : Nat → aK} (hW : isW (tbX5_trades l K X) cuX5_trades J W) (n : Nat) (ls st : List aV) (μ : aM) (g : Nat) : W (n + 1) 99 ls st μ g = (sLd 0 100 isR) (W n) ls st μ g := (hW n 99 ls st μ g).trans rfl
theorem wX5_trades_100 {l : Launch} {K : aRs} {X : aXs} {J : aK} {W : Nat → aK} (hW : isW (tbX5_trades l K X) cuX5_trades J W) (n : Nat) (ls st : List aV) (μ : aM) (g : Nat) : W (n + 1) 100 ls st μ g = (sDup 101) (W n) ls st μ g := (hW n 100 ls st μ g).trans rfl
theorem wX5_trades_101 {l : Launch} {K : aRs} {X : aXs} {J : aK} {W : Nat → aK} (hW : isW (tbX5_trades l K X) cuX5_trades J W) (n : Nat) (ls st : List aV) (μ : aM) (g : Nat) : W (n + 1) 101 ls st μ g = (sGetL 5 20 104) (W n) ls st μ g := (hW n 101 ls st μ g).trans rfl
theorem wX5_trades_104 {l : Launch} {K : aRs} {X : aXs} {J : aK} {W : Nat → aK} (hW : isW (tbX5_trades l K X) cuX5_trades J W) (n : Nat) (ls st : List aV) (μ : aM) (g : Nat) : W (n + 1) 104 ls st μ g = (sLd 4 106 isI) (W n) ls st μ g := (hW n 104 ls st μ g).trans rfl
set_option maxRecDepth 10000 in
theorem wX5_trades_106 {l : Launch} {K : aRs} {X : aXs} {J : aK} {W : Nat → aK} (hW : isW (tbX5_trades l K X) cuX5_trades J W) (n : Nat) (ls st : List aV) (μ : aM) (g : Nat) : W (n + 1) 106 ls st μ g = (sI2l 107) (W n) ls st μ g := (hW n 106 ls st μ g).trans rfl
set_option maxRecDepth 10000 in
theorem wX5_trades_107 {l : Launch} {K : aRs} {X : aXs} {J : aK} {W : Nat → aK} (hW : isW (tbX5_trades l K X) cuX5_trades J W) (n : Nat) (ls st : List aV) (μ : aM) (g : Nat) : W (n + 1) 107 ls st μ g = (sLd 3 108 isI) (W n) ls st μ g := (hW n 107 ls st μ g).trans rfl
set_option maxRecDepth 10000 in
theorem wX5_trades_108 {l : Launch} {K : aRs} {X : aXs} {J : aK} {W : Nat → aK} (hW : isW (tbX5_trades l K X) cuX5_trades J W) (n : Nat) (ls st : List aV) (μ : aM) (g : Nat) : W (n + 1) 108 ls st μ g = (sI2l 109) (W n) ls st μ g := (hW n 108 ls st μ g).trans rfl
set_option maxRecDepth 10000 in
theorem wX5_trades_109 {l : Launch} {K : aRs} {X : aXs} {J : aK} {W : Nat → aK} (hW : isW (tbX5_trades l K X) cuX5_trades J W) (n : Nat) (ls st : List aV) (μ : aM) (g : Nat) : W (n + 1) 109 ls st μ g = (sLbin fLmul 110) (W n) ls st μ g := (hW n 109 ls st μ g).trans rfl
set_option maxRecDepth 10000 in
theorem wX5_trades_110 {l : Launch} {K : aRs} {X : aXs} {J : aK} {W : Nat → aK} (hW : isW (tbX5_trades l K X) cuX5_trades J W) (n : Nat) (ls st : List aV) (μ : aM) (g : Nat) : W (n + 1) 110 ls st μ g = (sLbin fLadd 111) (W n) ls st μ g := (hW n 110 ls st μ g).trans rfl
set_option maxRecDepth 10000 in
theorem wX5_trades_111 {l : Launch} {K : aRs} {X : aXs} {J : aK} {W : Nat → aK} (hW : isW (tbX5_trades l K X) cuX5_trades J W) (n : Nat) (ls st : List aV) (μ : aM) (g : Nat) : W (n + 1) 111 ls st μ g = (sPutL 5 20 114) (W n) ls st μ g := (hW n 111 ls st μ g).trans rfl
set_option maxRecDepth 10000 in
theorem wX5_trades_114 {l : Launch} {K : aRs} {X : aXs} {J : aK} {W : Nat → aK} (hW : isW (tbX5_trades l K X) cuX5_trades J W) (n : Nat) (ls st : List aV) (μ : aM) (g : Nat) : W (n + 1) 114 ls st μ g = (sLd 0 115 isR) (W n) ls st μ g := (hW n 114 ls st μ g).trans rfl
set_option maxRecDepth 10000 in
theorem wX5_trades_115 {l : Launch} {K : aRs} {X : aXs} {J : aK} {W : Nat → aK} (hW : isW (tbX5_trades l K X) cuX5_trades J W) (n : Nat) (ls st : List aV) (μ : aM) (g : Nat) : W (n + 1) 115 ls st μ g = (sLd 1 116 isI) (W n) ls st μ g := (hW n 115 ls st μ g).trans rfl
set_option maxRecDepth 10000 in
theorem wX5_trades_116 {l : Launch} {K : aRs} {X : aXs} {J : aK} {W : Nat → aK} (hW : isW (tbX5_trades l K X) cuX5_trades J W) (n : Nat) (ls st : List aV) (μ : aM) (g : Nat) : W (n + 1) 116 ls st μ g = (sLd 4 118 isI) (W n) ls st μ g := (hW n 116 ls st μ g).trans rfl
set_option maxRecDepth 10000 in
theorem wX5_trades_118 {l : Launch} {K : aRs} {X : aXs} {J : aK} {W : Nat → aK} (hW : isW (tbX5_trades l K X) cuX5_trades J W) (n : Nat) (ls st : List aV) (μ : aM) (g : Nat) : W (n + 1) 118 ls st μ g = (sCallV 2 5 (fun as μ K => Ct l mdX5_gives as μ K X) 121 0 0) (W n) ls st μ g := (hW n 118 ls st μ g).trans rfl
set_option maxRecDepth 10000 in
theorem tX5_trades_121 (l : Launch) (K : aRs) (X : aXs) : tb (tbX5_trades l K X) 121 = sLd 0 122 isR := (rfl)
theorem wX5_trades_121 {l : Launch} {K : aRs} {X : aXs} {J : aK} {W : Nat → aK} (hW : isW (tbX5_trades l K X) cuX5_trades J W) (n : Nat) (ls st : List aV) (μ : aM) (g : Nat) : W (n + 1) 121 ls st μ g = J 121 ls st μ g := (hW n 121 ls st μ g).trans rfl
set_option maxRecDepth 10000 in
theorem wX5_trades_122 {l : Launch} {K : aRs} {X : aXs} {J : aK} {W : Nat → aK} (hW : isW (tbX5_trades l K X) cuX5_trades J W) (n : Nat) (ls st : List aV) (μ : aM) (g : Nat) : W (n + 1) 122 ls st μ g = (sLd 2 123 isI) (W n) ls st μ g := (hW n 122 ls st μ g).trans rfl
set_option maxRecDepth 10000 in
theorem wX5_trades_123 {l : Launch} {K : aRs} {X : aXs} {J : aK} {W : Nat → aK} (hW : isW (tbX5_trades l K X) cuX5_trades J W) (n : Nat) (ls st : List aV) (μ : aM) (g : Nat) : W (n + 1) 123 ls st μ g = (sLd 4 125 isI) (W n) ls st μ g := (hW n 123 ls st μ g).trans rfl
set_option maxRecDepth 10000 in
theorem wX5_trades_125 {l : Launch} {K : aRs} {X : aXs} {J : aK} {W : Nat → aK} (hW : isW (tbX5_trades l K X) cuX5_trades J W) (n : Nat) (ls st : List aV) (μ : aM) (g : Nat) : W (n + 1) 125 ls st μ g = (sCallV 2 5 (fun as μ K => Ct l mdX5_gives as μ K X) 128 0 0) (W n) ls st μ g := (hW n 125 ls st μ g).trans rfl
set_option maxRecDepth 10000 in
theorem tX5_trades_128 (l : Launch) (K : aRs) (X : aXs) : tb (tbX5_trades l K X) 128 = sRetV 0 K := (rfl)
theorem wX5_trades_128 {l : Launch} {K : aRs} {X : aXs} {J : aK} {W : Nat → aK} (hW : isW (tbX5_trades l K X) cuX5_trades J W) (n : Nat) (ls st : List aV) (μ : aM) (g : Nat) : W (n + 1) 128 ls st μ g = J 128 ls st μ g := (hW n 128 ls st μ g).trans rfl
theorem dX5_isWithin_0 : decode cX5_isWithin 0 = .ok (.aload_n 0, 1) := by decide +kernel
theorem dX5_isWithin_1 : decode cX5_isWithin 1 = .ok (.getfield 107, 3) := by decide +kernel
theorem dX5_isWithin_4 : decode cX5_isWithin 4 = .ok (.ifCond .eq 48, 3) := by decide +kernel
theorem dX5_isWithin_7 : decode cX5_isWithin 7 = .ok (.aload_n 0, 1) := by decide +kernel
theorem dX5_isWithin_8 : decode cX5_isWithin 8 = .ok (.getfield 90, 3) := by decide +kernel
theorem dX5_isWithin_11 : decode cX5_isWithin 11 = .ok (.ifCond .eq 41, 3) := by decide +kernel
theorem dX5_isWithin_14 : decode cX5_isWithin 14 = .ok (.bipush 100, 2) := by decide +kernel
theorem dX5_isWithin_16 : decode cX5_isWithin 16 = .ok (.iload_n 1, 1) := by decide +kernel
theorem dX5_isWithin_17 : decode cX5_isWithin 17 = .ok (.aload_n 0, 1) := by decide +kernel
theorem dX5_isWithin_18 : decode cX5_isWithin 18 = .ok (.getfield 93, 3) := by decide +kernel
theorem dX5_isWithin_21 : decode cX5_isWithin 21 = .ok (.if_icmp .ge 12, 3) := by decide +kernel
theorem dX5_isWithin_24 : decode cX5_isWithin 24 = .ok (.aload_n 0, 1) := by decide +kernel
theorem dX5_isWithin_25 : decode cX5_isWithin 25 = .ok (.getfield 93, 3) := by decide +kernel
theorem dX5_isWithin_28 : decode cX5_isWithin 28 = .ok (.iload_n 1, 1) := by decide +kernel
theorem dX5_isWithin_29 : decode cX5_isWithin 29 = .ok (.isub, 1) := by decide +kernel
theorem dX5_isWithin_30 : decode cX5_isWithin 30 = .ok (.goto 9, 3) := by decide +kernel
theorem dX5_isWithin_33 : decode cX5_isWithin 33 = .ok (.iload_n 1, 1) := by decide +kernel
theorem dX5_isWithin_34 : decode cX5_isWithin 34 = .ok (.aload_n 0, 1) := by decide +kernel
theorem dX5_isWithin_35 : decode cX5_isWithin 35 = .ok (.getfield 93, 3) := by decide +kernel
theorem dX5_isWithin_38 : decode cX5_isWithin 38 = .ok (.isub, 1) := by decide +kernel
theorem dX5_isWithin_39 : decode cX5_isWithin 39 = .ok (.imul, 1) := by decide +kernel
theorem dX5_isWithin_40 : decode cX5_isWithin 40 = .ok (.aload_n 0, 1) := by decide +kernel
theorem dX5_isWithin_41 : decode cX5_isWithin 41 = .ok (.getfield 107, 3) := by decide +kernel
theorem dX5_isWithin_44 : decode cX5_isWithin 44 = .ok (.aload_n 0, 1) := by decide +kernel
theorem dX5_isWithin_45 : decode cX5_isWithin 45 = .ok (.getfield 93, 3) := by decide +kernel
theorem dX5_isWithin_48 : decode cX5_isWithin 48 = .ok (.imul, 1) := by decide +kernel
theorem dX5_isWithin_49 : decode cX5_isWithin 49 = .ok (.if_icmp .gt 7, 3) := by decide +kernel
theorem dX5_isWithin_52 : decode cX5_isWithin 52 = .ok (.iconst 1, 1) := by decide +kernel
theorem dX5_isWithin_53 : decode cX5_isWithin 53 = .ok (.goto 4, 3) := by decide +kernel
theorem dX5_isWithin_56 : decode cX5_isWithin 56 = .ok (.iconst 0, 1) := by decide +kernel
theorem dX5_isWithin_57 : decode cX5_isWithin 57 = .ok (.ireturn, 1) := by decide +kernel
def tbX5_isWithin (l : Launch) (K : aRs) (X : aXs) : aTb := [
  (0, sLd 0 1 isR),
  (1, sGetI 5 21 4),
  (4, sIf pEq 52 7),
  (7, sLd 0 8 isR),
  (8, sGetI 5 13 11),
  (11, sIf pEq 52 14),
  (14, sPush (aI 100) 16),
  (16, sLd 1 17 isI),
  (17, sLd 0 18 isR),
  (18, sGetI 5 18 21),
  (21, sIc qGe 33 24),
  (24, sLd 0 25 isR),
  (25, sGetI 5 18 28),
  (28, sLd 1 29 isI),
  (29, sBin fSub 30),
  (30, sGoto 39),
  (33, sLd 1 34 isI),
  (34, sLd 0 35 isR),
  (35, sGetI 5 18 38),
  (38, sBin fSub 39),
  (39, sBin fMul 40),
  (40, sLd 0 41 isR),
  (41, sGetI 5 21 44),
  (44, sLd 0 45 isR),
  (45, sGetI 5 18 48),
  (48, sBin fMul 49),
  (49, sIc qGt 56 52),
  (52, sPush (aI 1) 53),
  (53, sGoto 57),
  (56, sPush (aI 0) 57),
  (57, sRetI .boolean 0 K)]
theorem snX5_isWithin (l : Launch) (K : aRs) (X : aXs) (n0 : Nat) : ∀ q ∈ tbX5_isWithin l K X, aSo l mdX5_isWithin K X n0 q.1 q.2 :=
  tc (fun p e s m args below meth c cA D A ad0 h => ok_aload_n h.1 0 rfl dX5_isWithin_0) <|
  tc (fun p e s m args below meth c cA D A ad0 h => ok_getI h.1 cxX5 (by decide) rfl fkRX5_107 (fun _ _ _ => rfl) dX5_isWithin_1) <|
  tc (fun p e s m args below meth c cA D A ad0 h => ok_if_eq h.1 52 (by decide) dX5_isWithin_4) <|
  tc (fun p e s m args below meth c cA D A ad0 h => ok_aload_n h.1 0 rfl dX5_isWithin_7) <|
  tc (fun p e s m args below meth c cA D A ad0 h => ok_getI h.1 cxX5 (by decide) rfl fkRX5_90 (fun _ _ _ => rfl) dX5_isWithin_8) <|
  tc (fun p e s m args below meth c cA D A ad0 h => ok_if_eq h.1 52 (by decide) dX5_isWithin_11) <|
  tc (fun p e s m args below meth c cA D A ad0 h => ok_bipush h.1 ⟨by decide, by decide⟩ (by decide) dX5_isWithin_14) <|
  tc (fun p e s m args below meth c cA D A ad0 h => ok_iload_n h.1 1 rfl dX5_isWithin_16) <|
  tc (fun p e s m args below meth c cA D A ad0 h => ok_aload_n h.1 0 rfl dX5_isWithin_17) <|
  tc (fun p e s m args below meth c cA D A ad0 h => ok_getI h.1 cxX5 (by decide) rfl fkRX5_93 (fun _ _ _ => rfl) dX5_isWithin_18) <|
  tc (fun p e s m args below meth c cA D A ad0 h => ok_icmp_ge h.1 33 (by decide) dX5_isWithin_21) <|
  tc (fun p e s m args below meth c cA D A ad0 h => ok_aload_n h.1 0 rfl dX5_isWithin_24) <|
  tc (fun p e s m args below meth c cA D A ad0 h => ok_getI h.1 cxX5 (by decide) rfl fkRX5_93 (fun _ _ _ => rfl) dX5_isWithin_25) <|
  tc (fun p e s m args below meth c cA D A ad0 h => ok_iload_n h.1 1 rfl dX5_isWithin_28) <|
  tc (fun p e s m args below meth c cA D A ad0 h => ok_isub h.1 dX5_isWithin_29) <|
  tc (fun p e s m args below meth c cA D A ad0 h => ok_goto h.1 39 (by decide) dX5_isWithin_30) <|
  tc (fun p e s m args below meth c cA D A ad0 h => ok_iload_n h.1 1 rfl dX5_isWithin_33) <|
  tc (fun p e s m args below meth c cA D A ad0 h => ok_aload_n h.1 0 rfl dX5_isWithin_34) <|
  tc (fun p e s m args below meth c cA D A ad0 h => ok_getI h.1 cxX5 (by decide) rfl fkRX5_93 (fun _ _ _ => rfl) dX5_isWithin_35) <|
  tc (fun p e s m args below meth c cA D A ad0 h => ok_isub h.1 dX5_isWithin_38) <|
  tc (fun p e s m args below meth c cA D A ad0 h => ok_imul h.1 dX5_isWithin_39) <|
  tc (fun p e s m args below meth c cA D A ad0 h => ok_aload_n h.1 0 rfl dX5_isWithin_40) <|
  tc (fun p e s m args below meth c cA D A ad0 h => ok_getI h.1 cxX5 (by decide) rfl fkRX5_107 (fun _ _ _ => rfl) dX5_isWithin_41) <|
  tc (fun p e s m args below meth c cA D A ad0 h => ok_aload_n h.1 0 rfl dX5_isWithin_44) <|
  tc (fun p e s m args below meth c cA D A ad0 h => ok_getI h.1 cxX5 (by decide) rfl fkRX5_93 (fun _ _ _ => rfl) dX5_isWithin_45) <|
  tc (fun p e s m args below meth c cA D A ad0 h => ok_imul h.1 dX5_isWithin_48) <|
  tc (fun p e s m args below meth c cA D A ad0 h => ok_icmp_gt h.1 56 (by decide) dX5_isWithin_49) <|
  tc (fun p e s m args below meth c cA D A ad0 h => ok_iconst h.1 ⟨by decide, by decide⟩ dX5_isWithin_52) <|
  tc (fun p e s m args below meth c cA D A ad0 h => ok_goto h.1 57 (by decide) dX5_isWithin_53) <|
  tc (fun p e s m args below meth c cA D A ad0 h => ok_iconst h.1 ⟨by decide, by decide⟩ dX5_isWithin_56) <|
  tc (fun p e s m args below meth c cA D A ad0 h => ok_ireturn h.1 h.2.2.2.1 (Or.inr (Or.inl rfl)) dX5_isWithin_57) <|
  tn
abbrev cuX5_isWithin : List Nat := []
theorem tX5_isWithin_0 (l : Launch) (K : aRs) (X : aXs) : tb (tbX5_isWithin l K X) 0 = sLd 0 1 isR := (rfl)
theorem wX5_isWithin_0 {l : Launch} {K : aRs} {X : aXs} {J : aK} {W : Nat → aK} (hW : isW (tbX5_isWithin l K X) cuX5_isWithin J W) (n : Nat) (ls st : List aV) (μ : aM) (g : Nat) : W (n + 1) 0 ls st μ g = (sLd 0 1 isR) (W n) ls st μ g := (hW n 0 ls st μ g).trans rfl
theorem wX5_isWithin_1 {l : Launch} {K : aRs} {X : aXs} {J : aK} {W : Nat → aK} (hW : isW (tbX5_isWithin l K X) cuX5_isWithin J W) (n : Nat) (ls st : List aV) (μ : aM) (g : Nat) : W (n + 1) 1 ls st μ g = (sGetI 5 21 4) (W n) ls st μ g := (hW n 1 ls st μ g).trans rfl
theorem wX5_isWithin_4 {l : Launch} {K : aRs} {X : aXs} {J : aK} {W : Nat → aK} (hW : isW (tbX5_isWithin l K X) cuX5_isWithin J W) (n : Nat) (ls st : List aV) (μ : aM) (g : Nat) : W (n + 1) 4 ls st μ g = (sIf pEq 52 7) (W n) ls st μ g := (hW n 4 ls st μ g).trans rfl
theorem wX5_isWithin_7 {l : Launch} {K : aRs} {X : aXs} {J : aK} {W : Nat → aK} (hW : isW (tbX5_isWithin l K X) cuX5_isWithin J W) (n : Nat) (ls st : List aV) (μ : aM) (g : Nat) : W (n + 1) 7 ls st μ g = (sLd 0 8 isR) (W n) ls st μ g := (hW n 7 ls st μ g).trans rfl
theorem wX5_isWithin_8 {l : Launch} {K : aRs} {X : aXs} {J : aK} {W : Nat → aK} (hW : isW (tbX5_isWithin l K X) cuX5_isWithin J W) (n : Nat) (ls st : List aV) (μ : aM) (g : Nat) : W (n + 1) 8 ls st μ g = (sGetI 5 13 11) (W n) ls st μ g := (hW n 8 ls st μ g).trans rfl
theorem wX5_isWithin_11 {l : Launch} {K : aRs} {X : aXs} {J : aK} {W : Nat → aK} (hW : isW (tbX5_isWithin l K X) cuX5_isWithin J W) (n : Nat) (ls st : List aV) (μ : aM) (g : Nat) : W (n + 1) 11 ls st μ g = (sIf pEq 52 14) (W n) ls st μ g := (hW n 11 ls st μ g).trans rfl
theorem wX5_isWithin_14 {l : Launch} {K : aRs} {X : aXs} {J : aK} {W : Nat → aK} (hW : isW (tbX5_isWithin l K X) cuX5_isWithin J W) (n : Nat) (ls st : List aV) (μ : aM) (g : Nat) : W (n + 1) 14 ls st μ g = (sPush (aI 100) 16) (W n) ls st μ g := (hW n 14 ls st μ g).trans rfl
theorem wX5_isWithin_16 {l : Launch} {K : aRs} {X : aXs} {J : aK} {W : Nat → aK} (hW : isW (tbX5_isWithin l K X) cuX5_isWithin J W) (n : Nat) (ls st : List aV) (μ : aM) (g : Nat) : W (n + 1) 16 ls st μ g = (sLd 1 17 isI) (W n) ls st μ g := (hW n 16 ls st μ g).trans rfl
theorem wX5_isWithin_17 {l : Launch} {K : aRs} {X : aXs} {J : aK} {W : Nat → aK} (hW : isW (tbX5_isWithin l K X) cuX5_isWithin J W) (n : Nat) (ls st : List aV) (μ : aM) (g : Nat) : W (n + 1) 17 ls st μ g = (sLd 0 18 isR) (W n) ls st μ g := (hW n 17 ls st μ g).trans rfl
theorem wX5_isWithin_18 {l : Launch} {K : aRs} {X : aXs} {J : aK} {W : Nat → aK} (hW : isW (tbX5_isWithin l K X) cuX5_isWithin J W) (n : Nat) (ls st : List aV) (μ : aM) (g : Nat) : W (n + 1) 18 ls st μ g = (sGetI 5 18 21) (W n) ls st μ g := (hW n 18 ls st μ g).trans rfl
theorem wX5_isWithin_21 {l : Launch} {K : aRs} {X : aXs} {J : aK} {W : Nat → aK} (hW : isW (tbX5_isWithin l K X) cuX5_isWithin J W) (n : Nat) (ls st : List aV) (μ : aM) (g : Nat) : W (n + 1) 21 ls st μ g = (sIc qGe 33 24) (W n) ls st μ g := (hW n 21 ls st μ g).trans rfl
theorem wX5_isWithin_24 {l : Launch} {K : aRs} {X : aXs} {J : aK} {W : Nat → aK} (hW : isW (tbX5_isWithin l K X) cuX5_isWithin J W) (n : Nat) (ls st : List aV) (μ : aM) (g : Nat) : W (n + 1) 24 ls st μ g = (sLd 0 25 isR) (W n) ls st μ g := (hW n 24 ls st μ g).trans rfl
theorem wX5_isWithin_25 {l : Launch} {K : aRs} {X : aXs} {J : aK} {W : Nat → aK} (hW : isW (tbX5_isWithin l K X) cuX5_isWithin J W) (n : Nat) (ls st : List aV) (μ : aM) (g : Nat) : W (n + 1) 25 ls st μ g = (sGetI 5 18 28) (W n) ls st μ g := (hW n 25 ls st μ g).trans rfl
theorem wX5_isWithin_28 {l : Launch} {K : aRs} {X : aXs} {J : aK} {W : Nat → aK} (hW : isW (tbX5_isWithin l K X) cuX5_isWithin J W) (n : Nat) (ls st : List aV) (μ : aM) (g : Nat) : W (n + 1) 28 ls st μ g = (sLd 1 29 isI) (W n) ls st μ g := (hW n 28 ls st μ g).trans rfl
theorem wX5_isWithin_29 {l : Launch} {K : aRs} {X : aXs} {J : aK} {W : Nat → aK} (hW : isW (tbX5_isWithin l K X) cuX5_isWithin J W) (n : Nat) (ls st : List aV) (μ : aM) (g : Nat) : W (n + 1) 29 ls st μ g = (sBin fSub 30) (W n) ls st μ g := (hW n 29 ls st μ g).trans rfl
theorem wX5_isWithin_30 {l : Launch} {K : aRs} {X : aXs} {J : aK} {W : Nat → aK} (hW : isW (tbX5_isWithin l K X) cuX5_isWithin J W) (n : Nat) (ls st : List aV) (μ : aM) (g : Nat) : W (n + 1) 30 ls st μ g = (sGoto 39) (W n) ls st μ g := (hW n 30 ls st μ g).trans rfl
theorem wX5_isWithin_33 {l : Launch} {K : aRs} {X : aXs} {J : aK} {W : Nat → aK} (hW : isW (tbX5_isWithin l K X) cuX5_isWithin J W) (n : Nat) (ls st : List aV) (μ : aM) (g : Nat) : W (n + 1) 33 ls st μ g = (sLd 1 34 isI) (W n) ls st μ g := (hW n 33 ls st μ g).trans rfl
theorem wX5_isWithin_34 {l : Launch} {K : aRs} {X : aXs} {J : aK} {W : Nat → aK} (hW : isW (tbX5_isWithin l K X) cuX5_isWithin J W) (n : Nat) (ls st : List aV) (μ : aM) (g : Nat) : W (n + 1) 34 ls st μ g = (sLd 0 35 isR) (W n) ls st μ g := (hW n 34 ls st μ g).trans rfl
theorem wX5_isWithin_35 {l : Launch} {K : aRs} {X : aXs} {J : aK} {W : Nat → aK} (hW : isW (tbX5_isWithin l K X) cuX5_isWithin J W) (n : Nat) (ls st : List aV) (μ : aM) (g : Nat) : W (n + 1) 35 ls st μ g = (sGetI 5 18 38) (W n) ls st μ g := (hW n 35 ls st μ g).trans rfl
theorem wX5_isWithin_38 {l : Launch} {K : aRs} {X : aXs} {J : aK} {W : Nat → aK} (hW : isW (tbX5_isWithin l K X) cuX5_isWithin J W) (n : Nat) (ls st : List aV) (μ : aM) (g : Nat) : W (n + 1) 38 ls st μ g = (sBin fSub 39) (W n) ls st μ g := (hW n 38 ls st μ g).trans rfl
theorem wX5_isWithin_39 {l : Launch} {K : aRs} {X : aXs} {J : aK} {W : Nat → aK} (hW : isW (tbX5_isWithin l K X) cuX5_isWithin J W) (n : Nat) (ls st : List aV) (μ : aM) (g : Nat) : W (n + 1) 39 ls st μ g = (sBin fMul 40) (W n) ls st μ g := (hW n 39 ls st μ g).trans rfl
theorem wX5_isWithin_40 {l : Launch} {K : aRs} {X : aXs} {J : aK} {W : Nat → aK} (hW : isW (tbX5_isWithin l K X) cuX5_isWithin J W) (n : Nat) (ls st : List aV) (μ : aM) (g : Nat) : W (n + 1) 40 ls st μ g = (sLd 0 41 isR) (W n) ls st μ g := (hW n 40 ls st μ g).trans rfl
theorem wX5_isWithin_41 {l : Launch} {K : aRs} {X : aXs} {J : aK} {W : Nat → aK} (hW : isW (tbX5_isWithin l K X) cuX5_isWithin J W) (n : Nat) (ls st : List aV) (μ : aM) (g : Nat) : W (n + 1) 41 ls st μ g = (sGetI 5 21 44) (W n) ls st μ g := (hW n 41 ls st μ g).trans rfl
theorem wX5_isWithin_44 {l : Launch} {K : aRs} {X : aXs} {J : aK} {W : Nat → aK} (hW : isW (tbX5_isWithin l K X) cuX5_isWithin J W) (n : Nat) (ls st : List aV) (μ : aM) (g : Nat) : W (n + 1) 44 ls st μ g = (sLd 0 45 isR) (W n) ls st μ g := (hW n 44 ls st μ g).trans rfl
theorem wX5_isWithin_45 {l : Launch} {K : aRs} {X : aXs} {J : aK} {W : Nat → aK} (hW : isW (tbX5_isWithin l K X) cuX5_isWithin J W) (n : Nat) (ls st : List aV) (μ : aM) (g : Nat) : W (n + 1) 45 ls st μ g = (sGetI 5 18 48) (W n) ls st μ g := (hW n 45 ls st μ g).trans rfl
theorem wX5_isWithin_48 {l : Launch} {K : aRs} {X : aXs} {J : aK} {W : Nat → aK} (hW : isW (tbX5_isWithin l K X) cuX5_isWithin J W) (n : Nat) (ls st : List aV) (μ : aM) (g : Nat) : W (n + 1) 48 ls st μ g = (sBin fMul 49) (W n) ls st μ g := (hW n 48 ls st μ g).trans rfl
theorem wX5_isWithin_49 {l : Launch} {K : aRs} {X : aXs} {J : aK} {W : Nat → aK} (hW : isW (tbX5_isWithin l K X) cuX5_isWithin J W) (n : Nat) (ls st : List aV) (μ : aM) (g : Nat) : W (n + 1) 49 ls st μ g = (sIc qGt 56 52) (W n) ls st μ g := (hW n 49 ls st μ g).trans rfl
theorem wX5_isWithin_52 {l : Launch} {K : aRs} {X : aXs} {J : aK} {W : Nat → aK} (hW : isW (tbX5_isWithin l K X) cuX5_isWithin J W) (n : Nat) (ls st : List aV) (μ : aM) (g : Nat) : W (n + 1) 52 ls st μ g = (sPush (aI 1) 53) (W n) ls st μ g := (hW n 52 ls st μ g).trans rfl
theorem wX5_isWithin_53 {l : Launch} {K : aRs} {X : aXs} {J : aK} {W : Nat → aK} (hW : isW (tbX5_isWithin l K X) cuX5_isWithin J W) (n : Nat) (ls st : List aV) (μ : aM) (g : Nat) : W (n + 1) 53 ls st μ g = (sGoto 57) (W n) ls st μ g := (hW n 53 ls st μ g).trans rfl
theorem wX5_isWithin_56 {l : Launch} {K : aRs} {X : aXs} {J : aK} {W : Nat → aK} (hW : isW (tbX5_isWithin l K X) cuX5_isWithin J W) (n : Nat) (ls st : List aV) (μ : aM) (g : Nat) : W (n + 1) 56 ls st μ g = (sPush (aI 0) 57) (W n) ls st μ g := (hW n 56 ls st μ g).trans rfl
theorem wX5_isWithin_57 {l : Launch} {K : aRs} {X : aXs} {J : aK} {W : Nat → aK} (hW : isW (tbX5_isWithin l K X) cuX5_isWithin J W) (n : Nat) (ls st : List aV) (μ : aM) (g : Nat) : W (n + 1) 57 ls st μ g = (sRetI .boolean 0 K) (W n) ls st μ g := (hW n 57 ls st μ g).trans rfl
theorem dX5_isMet_0 : decode cX5_isMet 0 = .ok (.iload_n 2, 1) := by decide +kernel
theorem dX5_isMet_1 : decode cX5_isMet 1 = .ok (.ifCond .lt 31, 3) := by decide +kernel
theorem dX5_isMet_4 : decode cX5_isMet 4 = .ok (.aload_n 0, 1) := by decide +kernel
theorem dX5_isMet_5 : decode cX5_isMet 5 = .ok (.getfield 7, 3) := by decide +kernel
theorem dX5_isMet_8 : decode cX5_isMet 8 = .ok (.iload_n 1, 1) := by decide +kernel
theorem dX5_isMet_9 : decode cX5_isMet 9 = .ok (.caload, 1) := by decide +kernel
theorem dX5_isMet_10 : decode cX5_isMet 10 = .ok (.aload_n 0, 1) := by decide +kernel
theorem dX5_isMet_11 : decode cX5_isMet 11 = .ok (.getfield 20, 3) := by decide +kernel
theorem dX5_isMet_14 : decode cX5_isMet 14 = .ok (.iload_n 2, 1) := by decide +kernel
theorem dX5_isMet_15 : decode cX5_isMet 15 = .ok (.iaload, 1) := by decide +kernel
theorem dX5_isMet_16 : decode cX5_isMet 16 = .ok (.aload_n 0, 1) := by decide +kernel
theorem dX5_isMet_17 : decode cX5_isMet 17 = .ok (.getfield 20, 3) := by decide +kernel
theorem dX5_isMet_20 : decode cX5_isMet 20 = .ok (.iload_n 1, 1) := by decide +kernel
theorem dX5_isMet_21 : decode cX5_isMet 21 = .ok (.iaload, 1) := by decide +kernel
theorem dX5_isMet_22 : decode cX5_isMet 22 = .ok (.invokestatic 75, 3) := by decide +kernel
theorem dX5_isMet_25 : decode cX5_isMet 25 = .ok (.ifCond .ne 7, 3) := by decide +kernel
theorem dX5_isMet_28 : decode cX5_isMet 28 = .ok (.iconst 1, 1) := by decide +kernel
theorem dX5_isMet_29 : decode cX5_isMet 29 = .ok (.goto 4, 3) := by decide +kernel
theorem dX5_isMet_32 : decode cX5_isMet 32 = .ok (.iconst 0, 1) := by decide +kernel
theorem dX5_isMet_33 : decode cX5_isMet 33 = .ok (.ireturn, 1) := by decide +kernel
def tbX5_isMet (l : Launch) (K : aRs) (X : aXs) : aTb := [
  (0, sLd 2 1 isI),
  (1, sIf pLt 32 4),
  (4, sLd 0 5 isR),
  (5, sGetR 5 1 8),
  (8, sLd 1 9 isI),
  (9, sAldI 6 10),
  (10, sLd 0 11 isR),
  (11, sGetR 5 4 14),
  (14, sLd 2 15 isI),
  (15, sAldI 7 16),
  (16, sLd 0 17 isR),
  (17, sGetR 5 4 20),
  (20, sLd 1 21 isI),
  (21, sAldI 7 22),
  (22, sCallS 3 (fun as μ K => Ct l mdX5_isAhead as μ K X) 25 0 0),
  (25, sIf pNe 32 28),
  (28, sPush (aI 1) 29),
  (29, sGoto 33),
  (32, sPush (aI 0) 33),
  (33, sRetI .boolean 0 K)]
theorem snX5_isMet (l : Launch) (K : aRs) (X : aXs) (n0 : Nat) : ∀ q ∈ tbX5_isMet l K X, aSo l mdX5_isMet K X n0 q.1 q.2 :=
  tc (fun p e s m args below meth c cA D A ad0 h => ok_iload_n h.1 2 rfl dX5_isMet_0) <|
  tc (fun p e s m args below meth c cA D A ad0 h => ok_if_lt h.1 32 (by decide) dX5_isMet_1) <|
  tc (fun p e s m args below meth c cA D A ad0 h => ok_aload_n h.1 0 rfl dX5_isMet_4) <|
  tc (fun p e s m args below meth c cA D A ad0 h => ok_getR h.1 cxX5 (by decide) rfl fkRX5_7 (fun _ _ _ => rfl) dX5_isMet_5) <|
  tc (fun p e s m args below meth c cA D A ad0 h => ok_iload_n h.1 1 rfl dX5_isMet_8) <|
  tc (fun p e s m args below meth c cA D A ad0 h => ok_cald h.1 dX5_isMet_9) <|
  tc (fun p e s m args below meth c cA D A ad0 h => ok_aload_n h.1 0 rfl dX5_isMet_10) <|
  tc (fun p e s m args below meth c cA D A ad0 h => ok_getR h.1 cxX5 (by decide) rfl fkRX5_20 (fun _ _ _ => rfl) dX5_isMet_11) <|
  tc (fun p e s m args below meth c cA D A ad0 h => ok_iload_n h.1 2 rfl dX5_isMet_14) <|
  tc (fun p e s m args below meth c cA D A ad0 h => ok_iald h.1 dX5_isMet_15) <|
  tc (fun p e s m args below meth c cA D A ad0 h => ok_aload_n h.1 0 rfl dX5_isMet_16) <|
  tc (fun p e s m args below meth c cA D A ad0 h => ok_getR h.1 cxX5 (by decide) rfl fkRX5_20 (fun _ _ _ => rfl) dX5_isMet_17) <|
  tc (fun p e s m args below meth c cA D A ad0 h => ok_iload_n h.1 1 rfl dX5_isMet_20) <|
  tc (fun p e s m args below meth c cA D A ad0 h => ok_iald h.1 dX5_isMet_21) <|
  tc (fun p e s m args below meth c cA D A ad0 h => ok_callS h.1 h.2.1 ⟨Nat.le_refl _, Nat.le_refl _⟩ mdX5_isAhead siX5_isAhead mkRX5_75 stX5_isAhead ⟨by decide, by decide⟩ (aAx_out h.1 h.2.2.1 _) dX5_isMet_22) <|
  tc (fun p e s m args below meth c cA D A ad0 h => ok_if_ne h.1 32 (by decide) dX5_isMet_25) <|
  tc (fun p e s m args below meth c cA D A ad0 h => ok_iconst h.1 ⟨by decide, by decide⟩ dX5_isMet_28) <|
  tc (fun p e s m args below meth c cA D A ad0 h => ok_goto h.1 33 (by decide) dX5_isMet_29) <|
  tc (fun p e s m args below meth c cA D A ad0 h => ok_iconst h.1 ⟨by decide, by decide⟩ dX5_isMet_32) <|
  tc (fun p e s m args below meth c cA D A ad0 h => ok_ireturn h.1 h.2.2.2.1 (Or.inr (Or.inl rfl)) dX5_isMet_33) <|
  tn
abbrev cuX5_isMet : List Nat := [25]
theorem tX5_isMet_0 (l : Launch) (K : aRs) (X : aXs) : tb (tbX5_isMet l K X) 0 = sLd 2 1 isI := (rfl)
theorem wX5_isMet_0 {l : Launch} {K : aRs} {X : aXs} {J : aK} {W : Nat → aK} (hW : isW (tbX5_isMet l K X) cuX5_isMet J W) (n : Nat) (ls st : List aV) (μ : aM) (g : Nat) : W (n + 1) 0 ls st μ g = (sLd 2 1 isI) (W n) ls st μ g := (hW n 0 ls st μ g).trans rfl
theorem wX5_isMet_1 {l : Launch} {K : aRs} {X : aXs} {J : aK} {W : Nat → aK} (hW : isW (tbX5_isMet l K X) cuX5_isMet J W) (n : Nat) (ls st : List aV) (μ : aM) (g : Nat) : W (n + 1) 1 ls st μ g = (sIf pLt 32 4) (W n) ls st μ g := (hW n 1 ls st μ g).trans rfl
theorem wX5_isMet_4 {l : Launch} {K : aRs} {X : aXs} {J : aK} {W : Nat → aK} (hW : isW (tbX5_isMet l K X) cuX5_isMet J W) (n : Nat) (ls st : List aV) (μ : aM) (g : Nat) : W (n + 1) 4 ls st μ g = (sLd 0 5 isR) (W n) ls st μ g := (hW n 4 ls st μ g).trans rfl
theorem wX5_isMet_5 {l : Launch} {K : aRs} {X : aXs} {J : aK} {W : Nat → aK} (hW : isW (tbX5_isMet l K X) cuX5_isMet J W) (n : Nat) (ls st : List aV) (μ : aM) (g : Nat) : W (n + 1) 5 ls st μ g = (sGetR 5 1 8) (W n) ls st μ g := (hW n 5 ls st μ g).trans rfl
theorem wX5_isMet_8 {l : Launch} {K : aRs} {X : aXs} {J : aK} {W : Nat → aK} (hW : isW (tbX5_isMet l K X) cuX5_isMet J W) (n : Nat) (ls st : List aV) (μ : aM) (g : Nat) : W (n + 1) 8 ls st μ g = (sLd 1 9 isI) (W n) ls st μ g := (hW n 8 ls st μ g).trans rfl
theorem wX5_isMet_9 {l : Launch} {K : aRs} {X : aXs} {J : aK} {W : Nat → aK} (hW : isW (tbX5_isMet l K X) cuX5_isMet J W) (n : Nat) (ls st : List aV) (μ : aM) (g : Nat) : W (n + 1) 9 ls st μ g = (sAldI 6 10) (W n) ls st μ g := (hW n 9 ls st μ g).trans rfl
theorem wX5_isMet_10 {l : Launch} {K : aRs} {X : aXs} {J : aK} {W : Nat → aK} (hW : isW (tbX5_isMet l K X) cuX5_isMet J W) (n : Nat) (ls st : List aV) (μ : aM) (g : Nat) : W (n + 1) 10 ls st μ g = (sLd 0 11 isR) (W n) ls st μ g := (hW n 10 ls st μ g).trans rfl
theorem wX5_isMet_11 {l : Launch} {K : aRs} {X : aXs} {J : aK} {W : Nat → aK} (hW : isW (tbX5_isMet l K X) cuX5_isMet J W) (n : Nat) (ls st : List aV) (μ : aM) (g : Nat) : W (n + 1) 11 ls st μ g = (sGetR 5 4 14) (W n) ls st μ g := (hW n 11 ls st μ g).trans rfl
theorem wX5_isMet_14 {l : Launch} {K : aRs} {X : aXs} {J : aK} {W : Nat → aK} (hW : isW (tbX5_isMet l K X) cuX5_isMet J W) (n : Nat) (ls st : List aV) (μ : aM) (g : Nat) : W (n + 1) 14 ls st μ g = (sLd 2 15 isI) (W n) ls st μ g := (hW n 14 ls st μ g).trans rfl
theorem wX5_isMet_15 {l : Launch} {K : aRs} {X : aXs} {J : aK} {W : Nat → aK} (hW : isW (tbX5_isMet l K X) cuX5_isMet J W) (n : Nat) (ls st : List aV) (μ : aM) (g : Nat) : W (n + 1) 15 ls st μ g = (sAldI 7 16) (W n) ls st μ g := (hW n 15 ls st μ g).trans rfl
theorem wX5_isMet_16 {l : Launch} {K : aRs} {X : aXs} {J : aK} {W : Nat → aK} (hW : isW (tbX5_isMet l K X) cuX5_isMet J W) (n : Nat) (ls st : List aV) (μ : aM) (g : Nat) : W (n + 1) 16 ls st μ g = (sLd 0 17 isR) (W n) ls st μ g := (hW n 16 ls st μ g).trans rfl
theorem wX5_isMet_17 {l : Launch} {K : aRs} {X : aXs} {J : aK} {W : Nat → aK} (hW : isW (tbX5_isMet l K X) cuX5_isMet J W) (n : Nat) (ls st : List aV) (μ : aM) (g : Nat) : W (n + 1) 17 ls st μ g = (sGetR 5 4 20) (W n) ls st μ g := (hW n 17 ls st μ g).trans rfl
theorem wX5_isMet_20 {l : Launch} {K : aRs} {X : aXs} {J : aK} {W : Nat → aK} (hW : isW (tbX5_isMet l K X) cuX5_isMet J W) (n : Nat) (ls st : List aV) (μ : aM) (g : Nat) : W (n + 1) 20 ls st μ g = (sLd 1 21 isI) (W n) ls st μ g := (hW n 20 ls st μ g).trans rfl
theorem wX5_isMet_21 {l : Launch} {K : aRs} {X : aXs} {J : aK} {W : Nat → aK} (hW : isW (tbX5_isMet l K X) cuX5_isMet J W) (n : Nat) (ls st : List aV) (μ : aM) (g : Nat) : W (n + 1) 21 ls st μ g = (sAldI 7 22) (W n) ls st μ g := (hW n 21 ls st μ g).trans rfl
theorem wX5_isMet_22 {l : Launch} {K : aRs} {X : aXs} {J : aK} {W : Nat → aK} (hW : isW (tbX5_isMet l K X) cuX5_isMet J W) (n : Nat) (ls st : List aV) (μ : aM) (g : Nat) : W (n + 1) 22 ls st μ g = (sCallS 3 (fun as μ K => Ct l mdX5_isAhead as μ K X) 25 0 0) (W n) ls st μ g := (hW n 22 ls st μ g).trans rfl
theorem tX5_isMet_25 (l : Launch) (K : aRs) (X : aXs) : tb (tbX5_isMet l K X) 25 = sIf pNe 32 28 := (rfl)
theorem wX5_isMet_25 {l : Launch} {K : aRs} {X : aXs} {J : aK} {W : Nat → aK} (hW : isW (tbX5_isMet l K X) cuX5_isMet J W) (n : Nat) (ls st : List aV) (μ : aM) (g : Nat) : W (n + 1) 25 ls st μ g = J 25 ls st μ g := (hW n 25 ls st μ g).trans rfl
theorem wX5_isMet_28 {l : Launch} {K : aRs} {X : aXs} {J : aK} {W : Nat → aK} (hW : isW (tbX5_isMet l K X) cuX5_isMet J W) (n : Nat) (ls st : List aV) (μ : aM) (g : Nat) : W (n + 1) 28 ls st μ g = (sPush (aI 1) 29) (W n) ls st μ g := (hW n 28 ls st μ g).trans rfl
theorem wX5_isMet_29 {l : Launch} {K : aRs} {X : aXs} {J : aK} {W : Nat → aK} (hW : isW (tbX5_isMet l K X) cuX5_isMet J W) (n : Nat) (ls st : List aV) (μ : aM) (g : Nat) : W (n + 1) 29 ls st μ g = (sGoto 33) (W n) ls st μ g := (hW n 29 ls st μ g).trans rfl
theorem wX5_isMet_32 {l : Launch} {K : aRs} {X : aXs} {J : aK} {W : Nat → aK} (hW : isW (tbX5_isMet l K X) cuX5_isMet J W) (n : Nat) (ls st : List aV) (μ : aM) (g : Nat) : W (n + 1) 32 ls st μ g = (sPush (aI 0) 33) (W n) ls st μ g := (hW n 32 ls st μ g).trans rfl
theorem wX5_isMet_33 {l : Launch} {K : aRs} {X : aXs} {J : aK} {W : Nat → aK} (hW : isW (tbX5_isMet l K X) cuX5_isMet J W) (n : Nat) (ls st : List aV) (μ : aM) (g : Nat) : W (n + 1) 33 ls st μ g = (sRetI .boolean 0 K) (W n) ls st μ g := (hW n 33 ls st μ g).trans rfl
theorem dX5_comes_0 : decode cX5_comes 0 = .ok (.aload_n 0, 1) := by decide +kernel
theorem dX5_comes_1 : decode cX5_comes 1 = .ok (.getfield 7, 3) := by decide +kernel
theorem dX5_comes_4 : decode cX5_comes 4 = .ok (.iload_n 1, 1) := by decide +kernel
theorem dX5_comes_5 : decode cX5_comes 5 = .ok (.caload, 1) := by decide +kernel
theorem dX5_comes_6 : decode cX5_comes 6 = .ok (.bipush 98, 2) := by decide +kernel
theorem dX5_comes_8 : decode cX5_comes 8 = .ok (.if_icmp .ne 8, 3) := by decide +kernel
theorem dX5_comes_11 : decode cX5_comes 11 = .ok (.bipush 115, 2) := by decide +kernel
theorem dX5_comes_13 : decode cX5_comes 13 = .ok (.goto 5, 3) := by decide +kernel
theorem dX5_comes_16 : decode cX5_comes 16 = .ok (.bipush 98, 2) := by decide +kernel
theorem dX5_comes_18 : decode cX5_comes 18 = .ok (.istore_n 2, 1) := by decide +kernel
theorem dX5_comes_19 : decode cX5_comes 19 = .ok (.aload_n 0, 1) := by decide +kernel
theorem dX5_comes_20 : decode cX5_comes 20 = .ok (.getfield 13, 3) := by decide +kernel
theorem dX5_comes_23 : decode cX5_comes 23 = .ok (.iload_n 1, 1) := by decide +kernel
theorem dX5_comes_24 : decode cX5_comes 24 = .ok (.bipush 105, 2) := by decide +kernel
theorem dX5_comes_26 : decode cX5_comes 26 = .ok (.castore, 1) := by decide +kernel
theorem dX5_comes_27 : decode cX5_comes 27 = .ok (.aload_n 0, 1) := by decide +kernel
theorem dX5_comes_28 : decode cX5_comes 28 = .ok (.getfield 13, 3) := by decide +kernel
theorem dX5_comes_31 : decode cX5_comes 31 = .ok (.iload_n 1, 1) := by decide +kernel
theorem dX5_comes_32 : decode cX5_comes 32 = .ok (.caload, 1) := by decide +kernel
theorem dX5_comes_33 : decode cX5_comes 33 = .ok (.bipush 105, 2) := by decide +kernel
theorem dX5_comes_35 : decode cX5_comes 35 = .ok (.if_icmp .ne 159, 3) := by decide +kernel
theorem dX5_comes_38 : decode cX5_comes 38 = .ok (.aload_n 0, 1) := by decide +kernel
theorem dX5_comes_39 : decode cX5_comes 39 = .ok (.getfield 110, 3) := by decide +kernel
theorem dX5_comes_42 : decode cX5_comes 42 = .ok (.ifCond .ne 152, 3) := by decide +kernel
theorem dX5_comes_45 : decode cX5_comes 45 = .ok (.aload_n 0, 1) := by decide +kernel
theorem dX5_comes_46 : decode cX5_comes 46 = .ok (.iload_n 1, 1) := by decide +kernel
theorem dX5_comes_47 : decode cX5_comes 47 = .ok (.aload_n 0, 1) := by decide +kernel
theorem dX5_comes_48 : decode cX5_comes 48 = .ok (.iload_n 2, 1) := by decide +kernel
theorem dX5_comes_49 : decode cX5_comes 49 = .ok (.invokevirtual 114, 3) := by decide +kernel
theorem dX5_comes_52 : decode cX5_comes 52 = .ok (.invokevirtual 117, 3) := by decide +kernel
theorem dX5_comes_55 : decode cX5_comes 55 = .ok (.ifCond .eq 139, 3) := by decide +kernel
theorem dX5_comes_58 : decode cX5_comes 58 = .ok (.aload_n 0, 1) := by decide +kernel
theorem dX5_comes_59 : decode cX5_comes 59 = .ok (.iload_n 2, 1) := by decide +kernel
theorem dX5_comes_60 : decode cX5_comes 60 = .ok (.invokevirtual 114, 3) := by decide +kernel
theorem dX5_comes_63 : decode cX5_comes 63 = .ok (.istore_n 3, 1) := by decide +kernel
theorem dX5_comes_64 : decode cX5_comes 64 = .ok (.aload_n 0, 1) := by decide +kernel
theorem dX5_comes_65 : decode cX5_comes 65 = .ok (.getfield 16, 3) := by decide +kernel
theorem dX5_comes_68 : decode cX5_comes 68 = .ok (.iload_n 3, 1) := by decide +kernel
theorem dX5_comes_69 : decode cX5_comes 69 = .ok (.iaload, 1) := by decide +kernel
theorem dX5_comes_70 : decode cX5_comes 70 = .ok (.aload_n 0, 1) := by decide +kernel
theorem dX5_comes_71 : decode cX5_comes 71 = .ok (.getfield 16, 3) := by decide +kernel
theorem dX5_comes_74 : decode cX5_comes 74 = .ok (.iload_n 1, 1) := by decide +kernel
theorem dX5_comes_75 : decode cX5_comes 75 = .ok (.iaload, 1) := by decide +kernel
theorem dX5_comes_76 : decode cX5_comes 76 = .ok (.if_icmp .ne 27, 3) := by decide +kernel
theorem dX5_comes_79 : decode cX5_comes 79 = .ok (.aload_n 0, 1) := by decide +kernel
theorem dX5_comes_80 : decode cX5_comes 80 = .ok (.getfield 13, 3) := by decide +kernel
theorem dX5_comes_83 : decode cX5_comes 83 = .ok (.aload_n 0, 1) := by decide +kernel
theorem dX5_comes_84 : decode cX5_comes 84 = .ok (.getfield 56, 3) := by decide +kernel
theorem dX5_comes_87 : decode cX5_comes 87 = .ok (.bipush 114, 2) := by decide +kernel
theorem dX5_comes_89 : decode cX5_comes 89 = .ok (.if_icmp .ne 7, 3) := by decide +kernel
theorem dX5_comes_92 : decode cX5_comes 92 = .ok (.iload_n 3, 1) := by decide +kernel
theorem dX5_comes_93 : decode cX5_comes 93 = .ok (.goto 4, 3) := by decide +kernel
theorem dX5_comes_96 : decode cX5_comes 96 = .ok (.iload_n 1, 1) := by decide +kernel
theorem dX5_comes_97 : decode cX5_comes 97 = .ok (.bipush 99, 2) := by decide +kernel
theorem dX5_comes_99 : decode cX5_comes 99 = .ok (.castore, 1) := by decide +kernel
theorem dX5_comes_100 : decode cX5_comes 100 = .ok (.goto 91, 3) := by decide +kernel
theorem dX5_comes_103 : decode cX5_comes 103 = .ok (.aload_n 0, 1) := by decide +kernel
theorem dX5_comes_104 : decode cX5_comes 104 = .ok (.aload_n 0, 1) := by decide +kernel
theorem dX5_comes_105 : decode cX5_comes 105 = .ok (.getfield 20, 3) := by decide +kernel
theorem dX5_comes_108 : decode cX5_comes 108 = .ok (.iload_n 3, 1) := by decide +kernel
theorem dX5_comes_109 : decode cX5_comes 109 = .ok (.iaload, 1) := by decide +kernel
theorem dX5_comes_110 : decode cX5_comes 110 = .ok (.invokevirtual 121, 3) := by decide +kernel
theorem dX5_comes_113 : decode cX5_comes 113 = .ok (.ifCond .ne 11, 3) := by decide +kernel
theorem dX5_comes_116 : decode cX5_comes 116 = .ok (.aload_n 0, 1) := by decide +kernel
theorem dX5_comes_117 : decode cX5_comes 117 = .ok (.iconst 1, 1) := by decide +kernel
theorem dX5_comes_118 : decode cX5_comes 118 = .ok (.putfield 110, 3) := by decide +kernel
theorem dX5_comes_121 : decode cX5_comes 121 = .ok (.goto 70, 3) := by decide +kernel
theorem dX5_comes_124 : decode cX5_comes 124 = .ok (.aload_n 0, 1) := by decide +kernel
theorem dX5_comes_125 : decode cX5_comes 125 = .ok (.getfield 29, 3) := by decide +kernel
theorem dX5_comes_128 : decode cX5_comes 128 = .ok (.iload_n 1, 1) := by decide +kernel
theorem dX5_comes_129 : decode cX5_comes 129 = .ok (.iaload, 1) := by decide +kernel
theorem dX5_comes_130 : decode cX5_comes 130 = .ok (.aload_n 0, 1) := by decide +kernel
theorem dX5_comes_131 : decode cX5_comes 131 = .ok (.getfield 38, 3) := by decide +kernel
theorem dX5_comes_134 : decode cX5_comes 134 = .ok (.iload_n 3, 1) := by decide +kernel
theorem dX5_comes_135 : decode cX5_comes 135 = .ok (.iaload, 1) := by decide +kernel
theorem dX5_comes_136 : decode cX5_comes 136 = .ok (.invokestatic 79, 3) := by decide +kernel
theorem dX5_comes_139 : decode cX5_comes 139 = .ok (.istore 4, 2) := by decide +kernel
theorem dX5_comes_141 : decode cX5_comes 141 = .ok (.aload_n 0, 1) := by decide +kernel
theorem dX5_comes_142 : decode cX5_comes 142 = .ok (.getfield 38, 3) := by decide +kernel
theorem dX5_comes_145 : decode cX5_comes 145 = .ok (.iload_n 3, 1) := by decide +kernel
theorem dX5_comes_146 : decode cX5_comes 146 = .ok (.dup2, 1) := by decide +kernel
theorem dX5_comes_147 : decode cX5_comes 147 = .ok (.iaload, 1) := by decide +kernel
theorem dX5_comes_148 : decode cX5_comes 148 = .ok (.iload 4, 2) := by decide +kernel
theorem dX5_comes_150 : decode cX5_comes 150 = .ok (.isub, 1) := by decide +kernel
theorem dX5_comes_151 : decode cX5_comes 151 = .ok (.iastore, 1) := by decide +kernel
theorem dX5_comes_152 : decode cX5_comes 152 = .ok (.aload_n 0, 1) := by decide +kernel
theorem dX5_comes_153 : decode cX5_comes 153 = .ok (.iload_n 1, 1) := by decide +kernel
theorem dX5_comes_154 : decode cX5_comes 154 = .ok (.iload_n 3, 1) := by decide +kernel
theorem dX5_comes_155 : decode cX5_comes 155 = .ok (.aload_n 0, 1) := by decide +kernel
theorem dX5_comes_156 : decode cX5_comes 156 = .ok (.getfield 20, 3) := by decide +kernel
theorem dX5_comes_159 : decode cX5_comes 159 = .ok (.iload_n 3, 1) := by decide +kernel
theorem dX5_comes_160 : decode cX5_comes 160 = .ok (.iaload, 1) := by decide +kernel
theorem dX5_comes_161 : decode cX5_comes 161 = .ok (.iload 4, 2) := by decide +kernel
theorem dX5_comes_163 : decode cX5_comes 163 = .ok (.invokevirtual 125, 3) := by decide +kernel
theorem dX5_comes_166 : decode cX5_comes 166 = .ok (.aload_n 0, 1) := by decide +kernel
theorem dX5_comes_167 : decode cX5_comes 167 = .ok (.getfield 13, 3) := by decide +kernel
theorem dX5_comes_170 : decode cX5_comes 170 = .ok (.iload_n 3, 1) := by decide +kernel
theorem dX5_comes_171 : decode cX5_comes 171 = .ok (.caload, 1) := by decide +kernel
theorem dX5_comes_172 : decode cX5_comes 172 = .ok (.bipush 97, 2) := by decide +kernel
theorem dX5_comes_174 : decode cX5_comes 174 = .ok (.if_icmp .ne 17, 3) := by decide +kernel
theorem dX5_comes_177 : decode cX5_comes 177 = .ok (.aload_n 0, 1) := by decide +kernel
theorem dX5_comes_178 : decode cX5_comes 178 = .ok (.getfield 38, 3) := by decide +kernel
theorem dX5_comes_181 : decode cX5_comes 181 = .ok (.iload_n 3, 1) := by decide +kernel
theorem dX5_comes_182 : decode cX5_comes 182 = .ok (.iaload, 1) := by decide +kernel
theorem dX5_comes_183 : decode cX5_comes 183 = .ok (.ifCond .ne 8, 3) := by decide +kernel
theorem dX5_comes_186 : decode cX5_comes 186 = .ok (.aload_n 0, 1) := by decide +kernel
theorem dX5_comes_187 : decode cX5_comes 187 = .ok (.iload_n 3, 1) := by decide +kernel
theorem dX5_comes_188 : decode cX5_comes 188 = .ok (.invokevirtual 128, 3) := by decide +kernel
theorem dX5_comes_191 : decode cX5_comes 191 = .ok (.goto (-164), 3) := by decide +kernel
theorem dX5_comes_194 : decode cX5_comes 194 = .ok (.aload_n 0, 1) := by decide +kernel
theorem dX5_comes_195 : decode cX5_comes 195 = .ok (.getfield 13, 3) := by decide +kernel
theorem dX5_comes_198 : decode cX5_comes 198 = .ok (.iload_n 1, 1) := by decide +kernel
theorem dX5_comes_199 : decode cX5_comes 199 = .ok (.caload, 1) := by decide +kernel
theorem dX5_comes_200 : decode cX5_comes 200 = .ok (.bipush 105, 2) := by decide +kernel
theorem dX5_comes_202 : decode cX5_comes 202 = .ok (.if_icmp .eq 4, 3) := by decide +kernel
theorem dX5_comes_205 : decode cX5_comes 205 = .ok (.return_, 1) := by decide +kernel
theorem dX5_comes_206 : decode cX5_comes 206 = .ok (.aload_n 0, 1) := by decide +kernel
theorem dX5_comes_207 : decode cX5_comes 207 = .ok (.getfield 13, 3) := by decide +kernel
theorem dX5_comes_210 : decode cX5_comes 210 = .ok (.iload_n 1, 1) := by decide +kernel
theorem dX5_comes_211 : decode cX5_comes 211 = .ok (.bipush 97, 2) := by decide +kernel
theorem dX5_comes_213 : decode cX5_comes 213 = .ok (.castore, 1) := by decide +kernel
theorem dX5_comes_214 : decode cX5_comes 214 = .ok (.aload_n 0, 1) := by decide +kernel
theorem dX5_comes_215 : decode cX5_comes 215 = .ok (.iload_n 1, 1) := by decide +kernel
theorem dX5_comes_216 : decode cX5_comes 216 = .ok (.invokevirtual 128, 3) := by decide +kernel
theorem dX5_comes_219 : decode cX5_comes 219 = .ok (.return_, 1) := by decide +kernel
def tbX5_comes (l : Launch) (K : aRs) (X : aXs) : aTb := [
  (0, sLd 0 1 isR),
  (1, sGetR 5 1 4),
  (4, sLd 1 5 isI),
  (5, sAldI 6 6),
  (6, sPush (aI 98) 8),
  (8, sIc qNe 16 11),
  (11, sPush (aI 115) 13),
  (13, sGoto 18),
  (16, sPush (aI 98) 18),
  (18, sSt 2 19 isI),
  (19, sLd 0 20 isR),
  (20, sGetR 5 2 23),
  (23, sLd 1 24 isI),
  (24, sPush (aI 105) 26),
  (26, sAstC 27),
  (27, sLd 0 28 isR),
  (28, sGetR 5 2 31),
  (31, sLd 1 32 isI),
  (32, sAldI 6 33),
  (33, sPush (aI 105) 35),
  (35, sIc qNe 194 38),
  (38, sLd 0 39 isR),
  (39, sGetI 5 23 42),
  (42, sIf pNe 194 45),
  (45, sLd 0 46 isR),
  (46, sLd 1 47 isI),
  (47, sLd 0 48 isR),
  (48, sLd 2 49 isI),
  (49, sCallV 1 5 (fun as μ K => Ct l mdX5_first as μ K X) 52 0 0),
  (52, sCallV 2 5 (fun as μ K => Ct l mdX5_isMet as μ K X) 55 0 0),
  (55, sIf pEq 194 58),
  (58, sLd 0 59 isR),
  (59, sLd 2 60 isI),
  (60, sCallV 1 5 (fun as μ K => Ct l mdX5_first as μ K X) 63 0 0),
  (63, sSt 3 64 isI),
  (64, sLd 0 65 isR),
  (65, sGetR 5 3 68),
  (68, sLd 3 69 isI),
  (69, sAldI 7 70),
  (70, sLd 0 71 isR),
  (71, sGetR 5 3 74),
  (74, sLd 1 75 isI),
  (75, sAldI 7 76),
  (76, sIc qNe 103 79),
  (79, sLd 0 80 isR),
  (80, sGetR 5 2 83),
  (83, sLd 0 84 isR),
  (84, sGetI 5 22 87),
  (87, sPush (aI 114) 89),
  (89, sIc qNe 96 92),
  (92, sLd 3 93 isI),
  (93, sGoto 97),
  (96, sLd 1 97 isI),
  (97, sPush (aI 99) 99),
  (99, sAstC 100),
  (100, sGoto 191),
  (103, sLd 0 104 isR),
  (104, sLd 0 105 isR),
  (105, sGetR 5 4 108),
  (108, sLd 3 109 isI),
  (109, sAldI 7 110),
  (110, sCallV 1 5 (fun as μ K => Ct l mdX5_isWithin as μ K X) 113 0 0),
  (113, sIf pNe 124 116),
  (116, sLd 0 117 isR),
  (117, sPush (aI 1) 118),
  (118, sPutI 5 23 121),
  (121, sGoto 191),
  (124, sLd 0 125 isR),
  (125, sGetR 5 7 128),
  (128, sLd 1 129 isI),
  (129, sAldI 7 130),
  (130, sLd 0 131 isR),
  (131, sGetR 5 10 134),
  (134, sLd 3 135 isI),
  (135, sAldI 7 136),
  (136, sCallS 2 (fun as μ K => Ct l mdX5_lesser as μ K X) 139 0 0),
  (139, sSt 4 141 isI),
  (141, sLd 0 142 isR),
  (142, sGetR 5 10 145),
  (145, sLd 3 146 isI),
  (146, sDup2 147),
  (147, sAldI 7 148),
  (148, sLd 4 150 isI),
  (150, sBin fSub 151),
  (151, sAstI 152),
  (152, sLd 0 153 isR),
  (153, sLd 1 154 isI),
  (154, sLd 3 155 isI),
  (155, sLd 0 156 isR),
  (156, sGetR 5 4 159),
  (159, sLd 3 160 isI),
  (160, sAldI 7 161),
  (161, sLd 4 163 isI),
  (163, sCallV 4 5 (fun as μ K => Ct l mdX5_trades as μ K X) 166 0 0),
  (166, sLd 0 167 isR),
  (167, sGetR 5 2 170),
  (170, sLd 3 171 isI),
  (171, sAldI 6 172),
  (172, sPush (aI 97) 174),
  (174, sIc qNe 191 177),
  (177, sLd 0 178 isR),
  (178, sGetR 5 10 181),
  (181, sLd 3 182 isI),
  (182, sAldI 7 183),
  (183, sIf pNe 191 186),
  (186, sLd 0 187 isR),
  (187, sLd 3 188 isI),
  (188, sCallV 1 5 (fun as μ K => Ct l mdX5_goesBehind as μ K X) 191 0 0),
  (191, sGoto 27),
  (194, sLd 0 195 isR),
  (195, sGetR 5 2 198),
  (198, sLd 1 199 isI),
  (199, sAldI 6 200),
  (200, sPush (aI 105) 202),
  (202, sIc qEq 206 205),
  (205, sRetV 0 K),
  (206, sLd 0 207 isR),
  (207, sGetR 5 2 210),
  (210, sLd 1 211 isI),
  (211, sPush (aI 97) 213),
  (213, sAstC 214),
  (214, sLd 0 215 isR),
  (215, sLd 1 216 isI),
  (216, sCallV 1 5 (fun as μ K => Ct l mdX5_goesBehind as μ K X) 219 0 0),
  (219, sRetV 0 K)]
theorem snX5_comes (l : Launch) (K : aRs) (X : aXs) (n0 : Nat) : ∀ q ∈ tbX5_comes l K X, aSo l mdX5_comes K X n0 q.1 q.2 :=
  tc (fun p e s m args below meth c cA D A ad0 h => ok_aload_n h.1 0 rfl dX5_comes_0) <|
  tc (fun p e s m args below meth c cA D A ad0 h => ok_getR h.1 cxX5 (by decide) rfl fkRX5_7 (fun _ _ _ => rfl) dX5_comes_1) <|
  tc (fun p e s m args below meth c cA D A ad0 h => ok_iload_n h.1 1 rfl dX5_comes_4) <|
  tc (fun p e s m args below meth c cA D A ad0 h => ok_cald h.1 dX5_comes_5) <|
  tc (fun p e s m args below meth c cA D A ad0 h => ok_bipush h.1 ⟨by decide, by decide⟩ (by decide) dX5_comes_6) <|
  tc (fun p e s m args below meth c cA D A ad0 h => ok_icmp_ne h.1 16 (by decide) dX5_comes_8) <|
  tc (fun p e s m args below meth c cA D A ad0 h => ok_bipush h.1 ⟨by decide, by decide⟩ (by decide) dX5_comes_11) <|
  tc (fun p e s m args below meth c cA D A ad0 h => ok_goto h.1 18 (by decide) dX5_comes_13) <|
  tc (fun p e s m args below meth c cA D A ad0 h => ok_bipush h.1 ⟨by decide, by decide⟩ (by decide) dX5_comes_16) <|
  tc (fun p e s m args below meth c cA D A ad0 h => ok_istore_n h.1 2 rfl (by decide) dX5_comes_18) <|
  tc (fun p e s m args below meth c cA D A ad0 h => ok_aload_n h.1 0 rfl dX5_comes_19) <|
  tc (fun p e s m args below meth c cA D A ad0 h => ok_getR h.1 cxX5 (by decide) rfl fkRX5_13 (fun _ _ _ => rfl) dX5_comes_20) <|
  tc (fun p e s m args below meth c cA D A ad0 h => ok_iload_n h.1 1 rfl dX5_comes_23) <|
  tc (fun p e s m args below meth c cA D A ad0 h => ok_bipush h.1 ⟨by decide, by decide⟩ (by decide) dX5_comes_24) <|
  tc (fun p e s m args below meth c cA D A ad0 h => ok_cast h.1 dX5_comes_26) <|
  tc (fun p e s m args below meth c cA D A ad0 h => ok_aload_n h.1 0 rfl dX5_comes_27) <|
  tc (fun p e s m args below meth c cA D A ad0 h => ok_getR h.1 cxX5 (by decide) rfl fkRX5_13 (fun _ _ _ => rfl) dX5_comes_28) <|
  tc (fun p e s m args below meth c cA D A ad0 h => ok_iload_n h.1 1 rfl dX5_comes_31) <|
  tc (fun p e s m args below meth c cA D A ad0 h => ok_cald h.1 dX5_comes_32) <|
  tc (fun p e s m args below meth c cA D A ad0 h => ok_bipush h.1 ⟨by decide, by decide⟩ (by decide) dX5_comes_33) <|
  tc (fun p e s m args below meth c cA D A ad0 h => ok_icmp_ne h.1 194 (by decide) dX5_comes_35) <|
  tc (fun p e s m args below meth c cA D A ad0 h => ok_aload_n h.1 0 rfl dX5_comes_38) <|
  tc (fun p e s m args below meth c cA D A ad0 h => ok_getI h.1 cxX5 (by decide) rfl fkRX5_110 (fun _ _ _ => rfl) dX5_comes_39) <|
  tc (fun p e s m args below meth c cA D A ad0 h => ok_if_ne h.1 194 (by decide) dX5_comes_42) <|
  tc (fun p e s m args below meth c cA D A ad0 h => ok_aload_n h.1 0 rfl dX5_comes_45) <|
  tc (fun p e s m args below meth c cA D A ad0 h => ok_iload_n h.1 1 rfl dX5_comes_46) <|
  tc (fun p e s m args below meth c cA D A ad0 h => ok_aload_n h.1 0 rfl dX5_comes_47) <|
  tc (fun p e s m args below meth c cA D A ad0 h => ok_iload_n h.1 2 rfl dX5_comes_48) <|
  tc (fun p e s m args below meth c cA D A ad0 h => ok_callV h.1 h.2.1 ⟨Nat.le_refl _, Nat.le_refl _⟩ mdX5_first siX5_first cxX5 mkRX5_114 imX5_first seX5_first ⟨by decide, by decide⟩ (aAx_out h.1 h.2.2.1 _) dX5_comes_49) <|
  tc (fun p e s m args below meth c cA D A ad0 h => ok_callV h.1 h.2.1 ⟨Nat.le_refl _, Nat.le_refl _⟩ mdX5_isMet siX5_isMet cxX5 mkRX5_117 imX5_isMet seX5_isMet ⟨by decide, by decide⟩ (aAx_out h.1 h.2.2.1 _) dX5_comes_52) <|
  tc (fun p e s m args below meth c cA D A ad0 h => ok_if_eq h.1 194 (by decide) dX5_comes_55) <|
  tc (fun p e s m args below meth c cA D A ad0 h => ok_aload_n h.1 0 rfl dX5_comes_58) <|
  tc (fun p e s m args below meth c cA D A ad0 h => ok_iload_n h.1 2 rfl dX5_comes_59) <|
  tc (fun p e s m args below meth c cA D A ad0 h => ok_callV h.1 h.2.1 ⟨Nat.le_refl _, Nat.le_refl _⟩ mdX5_first siX5_first cxX5 mkRX5_114 imX5_first seX5_first ⟨by decide, by decide⟩ (aAx_out h.1 h.2.2.1 _) dX5_comes_60) <|
  tc (fun p e s m args below meth c cA D A ad0 h => ok_istore_n h.1 3 rfl (by decide) dX5_comes_63) <|
  tc (fun p e s m args below meth c cA D A ad0 h => ok_aload_n h.1 0 rfl dX5_comes_64) <|
  tc (fun p e s m args below meth c cA D A ad0 h => ok_getR h.1 cxX5 (by decide) rfl fkRX5_16 (fun _ _ _ => rfl) dX5_comes_65) <|
  tc (fun p e s m args below meth c cA D A ad0 h => ok_iload_n h.1 3 rfl dX5_comes_68) <|
  tc (fun p e s m args below meth c cA D A ad0 h => ok_iald h.1 dX5_comes_69) <|
  tc (fun p e s m args below meth c cA D A ad0 h => ok_aload_n h.1 0 rfl dX5_comes_70) <|
  tc (fun p e s m args below meth c cA D A ad0 h => ok_getR h.1 cxX5 (by decide) rfl fkRX5_16 (fun _ _ _ => rfl) dX5_comes_71) <|
  tc (fun p e s m args below meth c cA D A ad0 h => ok_iload_n h.1 1 rfl dX5_comes_74) <|
  tc (fun p e s m args below meth c cA D A ad0 h => ok_iald h.1 dX5_comes_75) <|
  tc (fun p e s m args below meth c cA D A ad0 h => ok_icmp_ne h.1 103 (by decide) dX5_comes_76) <|
  tc (fun p e s m args below meth c cA D A ad0 h => ok_aload_n h.1 0 rfl dX5_comes_79) <|
  tc (fun p e s m args below meth c cA D A ad0 h => ok_getR h.1 cxX5 (by decide) rfl fkRX5_13 (fun _ _ _ => rfl) dX5_comes_80) <|
  tc (fun p e s m args below meth c cA D A ad0 h => ok_aload_n h.1 0 rfl dX5_comes_83) <|
  tc (fun p e s m args below meth c cA D A ad0 h => ok_getI h.1 cxX5 (by decide) rfl fkRX5_56 (fun _ _ _ => rfl) dX5_comes_84) <|
  tc (fun p e s m args below meth c cA D A ad0 h => ok_bipush h.1 ⟨by decide, by decide⟩ (by decide) dX5_comes_87) <|
  tc (fun p e s m args below meth c cA D A ad0 h => ok_icmp_ne h.1 96 (by decide) dX5_comes_89) <|
  tc (fun p e s m args below meth c cA D A ad0 h => ok_iload_n h.1 3 rfl dX5_comes_92) <|
  tc (fun p e s m args below meth c cA D A ad0 h => ok_goto h.1 97 (by decide) dX5_comes_93) <|
  tc (fun p e s m args below meth c cA D A ad0 h => ok_iload_n h.1 1 rfl dX5_comes_96) <|
  tc (fun p e s m args below meth c cA D A ad0 h => ok_bipush h.1 ⟨by decide, by decide⟩ (by decide) dX5_comes_97) <|
  tc (fun p e s m args below meth c cA D A ad0 h => ok_cast h.1 dX5_comes_99) <|
  tc (fun p e s m args below meth c cA D A ad0 h => ok_goto h.1 191 (by decide) dX5_comes_100) <|
  tc (fun p e s m args below meth c cA D A ad0 h => ok_aload_n h.1 0 rfl dX5_comes_103) <|
  tc (fun p e s m args below meth c cA D A ad0 h => ok_aload_n h.1 0 rfl dX5_comes_104) <|
  tc (fun p e s m args below meth c cA D A ad0 h => ok_getR h.1 cxX5 (by decide) rfl fkRX5_20 (fun _ _ _ => rfl) dX5_comes_105) <|
  tc (fun p e s m args below meth c cA D A ad0 h => ok_iload_n h.1 3 rfl dX5_comes_108) <|
  tc (fun p e s m args below meth c cA D A ad0 h => ok_iald h.1 dX5_comes_109) <|
  tc (fun p e s m args below meth c cA D A ad0 h => ok_callV h.1 h.2.1 ⟨Nat.le_refl _, Nat.le_refl _⟩ mdX5_isWithin siX5_isWithin cxX5 mkRX5_121 imX5_isWithin seX5_isWithin ⟨by decide, by decide⟩ (aAx_out h.1 h.2.2.1 _) dX5_comes_110) <|
  tc (fun p e s m args below meth c cA D A ad0 h => ok_if_ne h.1 124 (by decide) dX5_comes_113) <|
  tc (fun p e s m args below meth c cA D A ad0 h => ok_aload_n h.1 0 rfl dX5_comes_116) <|
  tc (fun p e s m args below meth c cA D A ad0 h => ok_iconst h.1 ⟨by decide, by decide⟩ dX5_comes_117) <|
  tc (fun p e s m args below meth c cA D A ad0 h => ok_putI h.1 cxX5 (by decide) rfl fkRX5_110 (Or.inl rfl) (fun _ _ _ => rfl) (Or.inr (Or.inl rfl)) dX5_comes_118) <|
  tc (fun p e s m args below meth c cA D A ad0 h => ok_goto h.1 191 (by decide) dX5_comes_121) <|
  tc (fun p e s m args below meth c cA D A ad0 h => ok_aload_n h.1 0 rfl dX5_comes_124) <|
  tc (fun p e s m args below meth c cA D A ad0 h => ok_getR h.1 cxX5 (by decide) rfl fkRX5_29 (fun _ _ _ => rfl) dX5_comes_125) <|
  tc (fun p e s m args below meth c cA D A ad0 h => ok_iload_n h.1 1 rfl dX5_comes_128) <|
  tc (fun p e s m args below meth c cA D A ad0 h => ok_iald h.1 dX5_comes_129) <|
  tc (fun p e s m args below meth c cA D A ad0 h => ok_aload_n h.1 0 rfl dX5_comes_130) <|
  tc (fun p e s m args below meth c cA D A ad0 h => ok_getR h.1 cxX5 (by decide) rfl fkRX5_38 (fun _ _ _ => rfl) dX5_comes_131) <|
  tc (fun p e s m args below meth c cA D A ad0 h => ok_iload_n h.1 3 rfl dX5_comes_134) <|
  tc (fun p e s m args below meth c cA D A ad0 h => ok_iald h.1 dX5_comes_135) <|
  tc (fun p e s m args below meth c cA D A ad0 h => ok_callS h.1 h.2.1 ⟨Nat.le_refl _, Nat.le_refl _⟩ mdX5_lesser siX5_lesser mkRX5_79 stX5_lesser ⟨by decide, by decide⟩ (aAx_out h.1 h.2.2.1 _) dX5_comes_136) <|
  tc (fun p e s m args below meth c cA D A ad0 h => ok_istore h.1 (by decide) dX5_comes_139) <|
  tc (fun p e s m args below meth c cA D A ad0 h => ok_aload_n h.1 0 rfl dX5_comes_141) <|
  tc (fun p e s m args below meth c cA D A ad0 h => ok_getR h.1 cxX5 (by decide) rfl fkRX5_38 (fun _ _ _ => rfl) dX5_comes_142) <|
  tc (fun p e s m args below meth c cA D A ad0 h => ok_iload_n h.1 3 rfl dX5_comes_145) <|
  tc (fun p e s m args below meth c cA D A ad0 h => ok_dup2 h.1 dX5_comes_146) <|
  tc (fun p e s m args below meth c cA D A ad0 h => ok_iald h.1 dX5_comes_147) <|
  tc (fun p e s m args below meth c cA D A ad0 h => ok_iload h.1 dX5_comes_148) <|
  tc (fun p e s m args below meth c cA D A ad0 h => ok_isub h.1 dX5_comes_150) <|
  tc (fun p e s m args below meth c cA D A ad0 h => ok_iast h.1 dX5_comes_151) <|
  tc (fun p e s m args below meth c cA D A ad0 h => ok_aload_n h.1 0 rfl dX5_comes_152) <|
  tc (fun p e s m args below meth c cA D A ad0 h => ok_iload_n h.1 1 rfl dX5_comes_153) <|
  tc (fun p e s m args below meth c cA D A ad0 h => ok_iload_n h.1 3 rfl dX5_comes_154) <|
  tc (fun p e s m args below meth c cA D A ad0 h => ok_aload_n h.1 0 rfl dX5_comes_155) <|
  tc (fun p e s m args below meth c cA D A ad0 h => ok_getR h.1 cxX5 (by decide) rfl fkRX5_20 (fun _ _ _ => rfl) dX5_comes_156) <|
  tc (fun p e s m args below meth c cA D A ad0 h => ok_iload_n h.1 3 rfl dX5_comes_159) <|
  tc (fun p e s m args below meth c cA D A ad0 h => ok_iald h.1 dX5_comes_160) <|
  tc (fun p e s m args below meth c cA D A ad0 h => ok_iload h.1 dX5_comes_161) <|
  tc (fun p e s m args below meth c cA D A ad0 h => ok_callV h.1 h.2.1 ⟨Nat.le_refl _, Nat.le_refl _⟩ mdX5_trades siX5_trades cxX5 mkRX5_125 imX5_trades seX5_trades ⟨by decide, by decide⟩ (aAx_out h.1 h.2.2.1 _) dX5_comes_163) <|
  tc (fun p e s m args below meth c cA D A ad0 h => ok_aload_n h.1 0 rfl dX5_comes_166) <|
  tc (fun p e s m args below meth c cA D A ad0 h => ok_getR h.1 cxX5 (by decide) rfl fkRX5_13 (fun _ _ _ => rfl) dX5_comes_167) <|
  tc (fun p e s m args below meth c cA D A ad0 h => ok_iload_n h.1 3 rfl dX5_comes_170) <|
  tc (fun p e s m args below meth c cA D A ad0 h => ok_cald h.1 dX5_comes_171) <|
  tc (fun p e s m args below meth c cA D A ad0 h => ok_bipush h.1 ⟨by decide, by decide⟩ (by decide) dX5_comes_172) <|
  tc (fun p e s m args below meth c cA D A ad0 h => ok_icmp_ne h.1 191 (by decide) dX5_comes_174) <|
  tc (fun p e s m args below meth c cA D A ad0 h => ok_aload_n h.1 0 rfl dX5_comes_177) <|
  tc (fun p e s m args below meth c cA D A ad0 h => ok_getR h.1 cxX5 (by decide) rfl fkRX5_38 (fun _ _ _ => rfl) dX5_comes_178) <|
  tc (fun p e s m args below meth c cA D A ad0 h => ok_iload_n h.1 3 rfl dX5_comes_181) <|
  tc (fun p e s m args below meth c cA D A ad0 h => ok_iald h.1 dX5_comes_182) <|
  tc (fun p e s m args below meth c cA D A ad0 h => ok_if_ne h.1 191 (by decide) dX5_comes_183) <|
  tc (fun p e s m args below meth c cA D A ad0 h => ok_aload_n h.1 0 rfl dX5_comes_186) <|
  tc (fun p e s m args below meth c cA D A ad0 h => ok_iload_n h.1 3 rfl dX5_comes_187) <|
  tc (fun p e s m args below meth c cA D A ad0 h => ok_callV h.1 h.2.1 ⟨Nat.le_refl _, Nat.le_refl _⟩ mdX5_goesBehind siX5_goesBehind cxX5 mkRX5_128 imX5_goesBehind seX5_goesBehind ⟨by decide, by decide⟩ (aAx_out h.1 h.2.2.1 _) dX5_comes_188) <|
  tc (fun p e s m args below meth c cA D A ad0 h => ok_goto h.1 27 (by decide) dX5_comes_191) <|
  tc (fun p e s m args below meth c cA D A ad0 h => ok_aload_n h.1 0 rfl dX5_comes_194) <|
  tc (fun p e s m args below meth c cA D A ad0 h => ok_getR h.1 cxX5 (by decide) rfl fkRX5_13 (fun _ _ _ => rfl) dX5_comes_195) <|
  tc (fun p e s m args below meth c cA D A ad0 h => ok_iload_n h.1 1 rfl dX5_comes_198) <|
  tc (fun p e s m args below meth c cA D A ad0 h => ok_cald h.1 dX5_comes_199) <|
  tc (fun p e s m args below meth c cA D A ad0 h => ok_bipush h.1 ⟨by decide, by decide⟩ (by decide) dX5_comes_200) <|
  tc (fun p e s m args below meth c cA D A ad0 h => ok_icmp_eq h.1 206 (by decide) dX5_comes_202) <|
  tc (fun p e s m args below meth c cA D A ad0 h => ok_return h.1 h.2.2.2.1 dX5_comes_205) <|
  tc (fun p e s m args below meth c cA D A ad0 h => ok_aload_n h.1 0 rfl dX5_comes_206) <|
  tc (fun p e s m args below meth c cA D A ad0 h => ok_getR h.1 cxX5 (by decide) rfl fkRX5_13 (fun _ _ _ => rfl) dX5_comes_207) <|
  tc (fun p e s m args below meth c cA D A ad0 h => ok_iload_n h.1 1 rfl dX5_comes_210) <|
  tc (fun p e s m args below meth c cA D A ad0 h => ok_bipush h.1 ⟨by decide, by decide⟩ (by decide) dX5_comes_211) <|
  tc (fun p e s m args below meth c cA D A ad0 h => ok_cast h.1 dX5_comes_213) <|
  tc (fun p e s m args below meth c cA D A ad0 h => ok_aload_n h.1 0 rfl dX5_comes_214) <|
  tc (fun p e s m args below meth c cA D A ad0 h => ok_iload_n h.1 1 rfl dX5_comes_215) <|
  tc (fun p e s m args below meth c cA D A ad0 h => ok_callV h.1 h.2.1 ⟨Nat.le_refl _, Nat.le_refl _⟩ mdX5_goesBehind siX5_goesBehind cxX5 mkRX5_128 imX5_goesBehind seX5_goesBehind ⟨by decide, by decide⟩ (aAx_out h.1 h.2.2.1 _) dX5_comes_216) <|
  tc (fun p e s m args below meth c cA D A ad0 h => ok_return h.1 h.2.2.2.1 dX5_comes_219) <|
  tn
abbrev cuX5_comes : List Nat := [27, 52, 55, 63, 113, 139, 166, 191, 219]
theorem tX5_comes_0 (l : Launch) (K : aRs) (X : aXs) : tb (tbX5_comes l K X) 0 = sLd 0 1 isR := (rfl)
theorem wX5_comes_0 {l : Launch} {K : aRs} {X : aXs} {J : aK} {W : Nat → aK} (hW : isW (tbX5_comes l K X) cuX5_comes J W) (n : Nat) (ls st : List aV) (μ : aM) (g : Nat) : W (n + 1) 0 ls st μ g = (sLd 0 1 isR) (W n) ls st μ g := (hW n 0 ls st μ g).trans rfl
theorem wX5_comes_1 {l : Launch} {K : aRs} {X : aXs} {J : aK} {W : Nat → aK} (hW : isW (tbX5_comes l K X) cuX5_comes J W) (n : Nat) (ls st : List aV) (μ : aM) (g : Nat) : W (n + 1) 1 ls st μ g = (sGetR 5 1 4) (W n) ls st μ g := (hW n 1 ls st μ g).trans rfl
theorem wX5_comes_4 {l : Launch} {K : aRs} {X : aXs} {J : aK} {W : Nat → aK} (hW : isW (tbX5_comes l K X) cuX5_comes J W) (n : Nat) (ls st : List aV) (μ : aM) (g : Nat) : W (n + 1) 4 ls st μ g = (sLd 1 5 isI) (W n) ls st μ g := (hW n 4 ls st μ g).trans rfl
theorem wX5_comes_5 {l : Launch} {K : aRs} {X : aXs} {J : aK} {W : Nat → aK} (hW : isW (tbX5_comes l K X) cuX5_comes J W) (n : Nat) (ls st : List aV) (μ : aM) (g : Nat) : W (n + 1) 5 ls st μ g = (sAldI 6 6) (W n) ls st μ g := (hW n 5 ls st μ g).trans rfl
theorem wX5_comes_6 {l : Launch} {K : aRs} {X : aXs} {J : aK} {W : Nat → aK} (hW : isW (tbX5_comes l K X) cuX5_comes J W) (n : Nat) (ls st : List aV) (μ : aM) (g : Nat) : W (n + 1) 6 ls st μ g = (sPush (aI 98) 8) (W n) ls st μ g := (hW n 6 ls st μ g).trans rfl
theorem wX5_comes_8 {l : Launch} {K : aRs} {X : aXs} {J : aK} {W : Nat → aK} (hW : isW (tbX5_comes l K X) cuX5_comes J W) (n : Nat) (ls st : List aV) (μ : aM) (g : Nat) : W (n + 1) 8 ls st μ g = (sIc qNe 16 11) (W n) ls st μ g := (hW n 8 ls st μ g).trans rfl
theorem wX5_comes_11 {l : Launch} {K : aRs} {X : aXs} {J : aK} {W : Nat → aK} (hW : isW (tbX5_comes l K X) cuX5_comes J W) (n : Nat) (ls st : List aV) (μ : aM) (g : Nat) : W (n + 1) 11 ls st μ g = (sPush (aI 115) 13) (W n) ls st μ g := (hW n 11 ls st μ g).trans rfl
theorem wX5_comes_13 {l : Launch} {K : aRs} {X : aXs} {J : aK} {W : Nat → aK} (hW : isW (tbX5_comes l K X) cuX5_comes J W) (n : Nat) (ls st : List aV) (μ : aM) (g : Nat) : W (n + 1) 13 ls st μ g = (sGoto 18) (W n) ls st μ g := (hW n 13 ls st μ g).trans rfl
theorem wX5_comes_16 {l : Launch} {K : aRs} {X : aXs} {J : aK} {W : Nat → aK} (hW : isW (tbX5_comes l K X) cuX5_comes J W) (n : Nat) (ls st : List aV) (μ : aM) (g : Nat) : W (n + 1) 16 ls st μ g = (sPush (aI 98) 18) (W n) ls st μ g := (hW n 16 ls st μ g).trans rfl
theorem wX5_comes_18 {l : Launch} {K : aRs} {X : aXs} {J : aK} {W : Nat → aK} (hW : isW (tbX5_comes l K X) cuX5_comes J W) (n : Nat) (ls st : List aV) (μ : aM) (g : Nat) : W (n + 1) 18 ls st μ g = (sSt 2 19 isI) (W n) ls st μ g := (hW n 18 ls st μ g).trans rfl
theorem wX5_comes_19 {l : Launch} {K : aRs} {X : aXs} {J : aK} {W : Nat → aK} (hW : isW (tbX5_comes l K X) cuX5_comes J W) (n : Nat) (ls st : List aV) (μ : aM) (g : Nat) : W (n + 1) 19 ls st μ g = (sLd 0 20 isR) (W n) ls st μ g := (hW n 19 ls st μ g).trans rfl
theorem wX5_comes_20 {l : Launch} {K : aRs} {X : aXs} {J : aK} {W : Nat → aK} (hW : isW (tbX5_comes l K X) cuX5_comes J W) (n : Nat) (ls st : List aV) (μ : aM) (g : Nat) : W (n + 1) 20 ls st μ g = (sGetR 5 2 23) (W n) ls st μ g := (hW n 20 ls st μ g).trans rfl
theorem wX5_comes_23 {l : Launch} {K : aRs} {X : aXs} {J : aK} {W : Nat → aK} (hW : isW (tbX5_comes l K X) cuX5_comes J W) (n : Nat) (ls st : List aV) (μ : aM) (g : Nat) : W (n + 1) 23 ls st μ g = (sLd 1 24 isI) (W n) ls st μ g := (hW n 23 ls st μ g).trans rfl
theorem wX5_comes_24 {l : Launch} {K : aRs} {X : aXs} {J : aK} {W : Nat → aK} (hW : isW (tbX5_comes l K X) cuX5_comes J W) (n : Nat) (ls st : List aV) (μ : aM) (g : Nat) : W (n + 1) 24 ls st μ g = (sPush (aI 105) 26) (W n) ls st μ g := (hW n 24 ls st μ g).trans rfl
theorem wX5_comes_26 {l : Launch} {K : aRs} {X : aXs} {J : aK} {W : Nat → aK} (hW : isW (tbX5_comes l K X) cuX5_comes J W) (n : Nat) (ls st : List aV) (μ : aM) (g : Nat) : W (n + 1) 26 ls st μ g = (sAstC 27) (W n) ls st μ g := (hW n 26 ls st μ g).trans rfl
theorem tX5_comes_27 (l : Launch) (K : aRs) (X : aXs) : tb (tbX5_comes l K X) 27 = sLd 0 28 isR := (rfl)
theorem wX5_comes_27 {l : Launch} {K : aRs} {X : aXs} {J : aK} {W : Nat → aK} (hW : isW (tbX5_comes l K X) cuX5_comes J W) (n : Nat) (ls st : List aV) (μ : aM) (g : Nat) : W (n + 1) 27 ls st μ g = J 27 ls st μ g := (hW n 27 ls st μ g).trans rfl
theorem wX5_comes_28 {l : Launch} {K : aRs} {X : aXs} {J : aK} {W : Nat → aK} (hW : isW (tbX5_comes l K X) cuX5_comes J W) (n : Nat) (ls st : List aV) (μ : aM) (g : Nat) : W (n + 1) 28 ls st μ g = (sGetR 5 2 31) (W n) ls st μ g := (hW n 28 ls st μ g).trans rfl
theorem wX5_comes_31 {l : Launch} {K : aRs} {X : aXs} {J : aK} {W : Nat → aK} (hW : isW (tbX5_comes l K X) cuX5_comes J W) (n : Nat) (ls st : List aV) (μ : aM) (g : Nat) : W (n + 1) 31 ls st μ g = (sLd 1 32 isI) (W n) ls st μ g := (hW n 31 ls st μ g).trans rfl
theorem wX5_comes_32 {l : Launch} {K : aRs} {X : aXs} {J : aK} {W : Nat → aK} (hW : isW (tbX5_comes l K X) cuX5_comes J W) (n : Nat) (ls st : List aV) (μ : aM) (g : Nat) : W (n + 1) 32 ls st μ g = (sAldI 6 33) (W n) ls st μ g := (hW n 32 ls st μ g).trans rfl
theorem wX5_comes_33 {l : Launch} {K : aRs} {X : aXs} {J : aK} {W : Nat → aK} (hW : isW (tbX5_comes l K X) cuX5_comes J W) (n : Nat) (ls st : List aV) (μ : aM) (g : Nat) : W (n + 1) 33 ls st μ g = (sPush (aI 105) 35) (W n) ls st μ g := (hW n 33 ls st μ g).trans rfl
theorem wX5_comes_35 {l : Launch} {K : aRs} {X : aXs} {J : aK} {W : Nat → aK} (hW : isW (tbX5_comes l K X) cuX5_comes J W) (n : Nat) (ls st : List aV) (μ : aM) (g : Nat) : W (n + 1) 35 ls st μ g = (sIc qNe 194 38) (W n) ls st μ g := (hW n 35 ls st μ g).trans rfl
theorem wX5_comes_38 {l : Launch} {K : aRs} {X : aXs} {J : aK} {W : Nat → aK} (hW : isW (tbX5_comes l K X) cuX5_comes J W) (n : Nat) (ls st : List aV) (μ : aM) (g : Nat) : W (n + 1) 38 ls st μ g = (sLd 0 39 isR) (W n) ls st μ g := (hW n 38 ls st μ g).trans rfl
theorem wX5_comes_39 {l : Launch} {K : aRs} {X : aXs} {J : aK} {W : Nat → aK} (hW : isW (tbX5_comes l K X) cuX5_comes J W) (n : Nat) (ls st : List aV) (μ : aM) (g : Nat) : W (n + 1) 39 ls st μ g = (sGetI 5 23 42) (W n) ls st μ g := (hW n 39 ls st μ g).trans rfl
theorem wX5_comes_42 {l : Launch} {K : aRs} {X : aXs} {J : aK} {W : Nat → aK} (hW : isW (tbX5_comes l K X) cuX5_comes J W) (n : Nat) (ls st : List aV) (μ : aM) (g : Nat) : W (n + 1) 42 ls st μ g = (sIf pNe 194 45) (W n) ls st μ g := (hW n 42 ls st μ g).trans rfl
theorem wX5_comes_45 {l : Launch} {K : aRs} {X : aXs} {J : aK} {W : Nat → aK} (hW : isW (tbX5_comes l K X) cuX5_comes J W) (n : Nat) (ls st : List aV) (μ : aM) (g : Nat) : W (n + 1) 45 ls st μ g = (sLd 0 46 isR) (W n) ls st μ g := (hW n 45 ls st μ g).trans rfl
theorem wX5_comes_46 {l : Launch} {K : aRs} {X : aXs} {J : aK} {W : Nat → aK} (hW : isW (tbX5_comes l K X) cuX5_comes J W) (n : Nat) (ls st : List aV) (μ : aM) (g : Nat) : W (n + 1) 46 ls st μ g = (sLd 1 47 isI) (W n) ls st μ g := (hW n 46 ls st μ g).trans rfl
theorem wX5_comes_47 {l : Launch} {K : aRs} {X : aXs} {J : aK} {W : Nat → aK} (hW : isW (tbX5_comes l K X) cuX5_comes J W) (n : Nat) (ls st : List aV) (μ : aM) (g : Nat) : W (n + 1) 47 ls st μ g = (sLd 0 48 isR) (W n) ls st μ g := (hW n 47 ls st μ g).trans rfl
theorem wX5_comes_48 {l : Launch} {K : aRs} {X : aXs} {J : aK} {W : Nat → aK} (hW : isW (tbX5_comes l K X) cuX5_comes J W) (n : Nat) (ls st : List aV) (μ : aM) (g : Nat) : W (n + 1) 48 ls st μ g = (sLd 2 49 isI) (W n) ls st μ g := (hW n 48 ls st μ g).trans rfl
theorem wX5_comes_49 {l : Launch} {K : aRs} {X : aXs} {J : aK} {W : Nat → aK} (hW : isW (tbX5_comes l K X) cuX5_comes J W) (n : Nat) (ls st : List aV) (μ : aM) (g : Nat) : W (n + 1) 49 ls st μ g = (sCallV 1 5 (fun as μ K => Ct l mdX5_first as μ K X) 52 0 0) (W n) ls st μ g := (hW n 49 ls st μ g).trans rfl
theorem tX5_comes_52 (l : Launch) (K : aRs) (X : aXs) : tb (tbX5_comes l K X) 52 = sCallV 2 5 (fun as μ K => Ct l mdX5_isMet as μ K X) 55 0 0 := (rfl)
theorem wX5_comes_52 {l : Launch} {K : aRs} {X : aXs} {J : aK} {W : Nat → aK} (hW : isW (tbX5_comes l K X) cuX5_comes J W) (n : Nat) (ls st : List aV) (μ : aM) (g : Nat) : W (n + 1) 52 ls st μ g = J 52 ls st μ g := (hW n 52 ls st μ g).trans rfl
theorem tX5_comes_55 (l : Launch) (K : aRs) (X : aXs) : tb (tbX5_comes l K X) 55 = sIf pEq 194 58 := (rfl)
theorem wX5_comes_55 {l : Launch} {K : aRs} {X : aXs} {J : aK} {W : Nat → aK} (hW : isW (tbX5_comes l K X) cuX5_comes J W) (n : Nat) (ls st : List aV) (μ : aM) (g : Nat) : W (n + 1) 55 ls st μ g = J 55 ls st μ g := (hW n 55 ls st μ g).trans rfl
theorem wX5_comes_58 {l : Launch} {K : aRs} {X : aXs} {J : aK} {W : Nat → aK} (hW : isW (tbX5_comes l K X) cuX5_comes J W) (n : Nat) (ls st : List aV) (μ : aM) (g : Nat) : W (n + 1) 58 ls st μ g = (sLd 0 59 isR) (W n) ls st μ g := (hW n 58 ls st μ g).trans rfl
theorem wX5_comes_59 {l : Launch} {K : aRs} {X : aXs} {J : aK} {W : Nat → aK} (hW : isW (tbX5_comes l K X) cuX5_comes J W) (n : Nat) (ls st : List aV) (μ : aM) (g : Nat) : W (n + 1) 59 ls st μ g = (sLd 2 60 isI) (W n) ls st μ g := (hW n 59 ls st μ g).trans rfl
theorem wX5_comes_60 {l : Launch} {K : aRs} {X : aXs} {J : aK} {W : Nat → aK} (hW : isW (tbX5_comes l K X) cuX5_comes J W) (n : Nat) (ls st : List aV) (μ : aM) (g : Nat) : W (n + 1) 60 ls st μ g = (sCallV 1 5 (fun as μ K => Ct l mdX5_first as μ K X) 63 0 0) (W n) ls st μ g := (hW n 60 ls st μ g).trans rfl
theorem tX5_comes_63 (l : Launch) (K : aRs) (X : aXs) : tb (tbX5_comes l K X) 63 = sSt 3 64 isI := (rfl)
theorem wX5_comes_63 {l : Launch} {K : aRs} {X : aXs} {J : aK} {W : Nat → aK} (hW : isW (tbX5_comes l K X) cuX5_comes J W) (n : Nat) (ls st : List aV) (μ : aM) (g : Nat) : W (n + 1) 63 ls st μ g = J 63 ls st μ g := (hW n 63 ls st μ g).trans rfl
theorem wX5_comes_64 {l : Launch} {K : aRs} {X : aXs} {J : aK} {W : Nat → aK} (hW : isW (tbX5_comes l K X) cuX5_comes J W) (n : Nat) (ls st : List aV) (μ : aM) (g : Nat) : W (n + 1) 64 ls st μ g = (sLd 0 65 isR) (W n) ls st μ g := (hW n 64 ls st μ g).trans rfl
theorem wX5_comes_65 {l : Launch} {K : aRs} {X : aXs} {J : aK} {W : Nat → aK} (hW : isW (tbX5_comes l K X) cuX5_comes J W) (n : Nat) (ls st : List aV) (μ : aM) (g : Nat) : W (n + 1) 65 ls st μ g = (sGetR 5 3 68) (W n) ls st μ g := (hW n 65 ls st μ g).trans rfl
theorem wX5_comes_68 {l : Launch} {K : aRs} {X : aXs} {J : aK} {W : Nat → aK} (hW : isW (tbX5_comes l K X) cuX5_comes J W) (n : Nat) (ls st : List aV) (μ : aM) (g : Nat) : W (n + 1) 68 ls st μ g = (sLd 3 69 isI) (W n) ls st μ g := (hW n 68 ls st μ g).trans rfl
theorem wX5_comes_69 {l : Launch} {K : aRs} {X : aXs} {J : aK} {W : Nat → aK} (hW : isW (tbX5_comes l K X) cuX5_comes J W) (n : Nat) (ls st : List aV) (μ : aM) (g : Nat) : W (n + 1) 69 ls st μ g = (sAldI 7 70) (W n) ls st μ g := (hW n 69 ls st μ g).trans rfl
theorem wX5_comes_70 {l : Launch} {K : aRs} {X : aXs} {J : aK} {W : Nat → aK} (hW : isW (tbX5_comes l K X) cuX5_comes J W) (n : Nat) (ls st : List aV) (μ : aM) (g : Nat) : W (n + 1) 70 ls st μ g = (sLd 0 71 isR) (W n) ls st μ g := (hW n 70 ls st μ g).trans rfl
theorem wX5_comes_71 {l : Launch} {K : aRs} {X : aXs} {J : aK} {W : Nat → aK} (hW : isW (tbX5_comes l K X) cuX5_comes J W) (n : Nat) (ls st : List aV) (μ : aM) (g : Nat) : W (n + 1) 71 ls st μ g = (sGetR 5 3 74) (W n) ls st μ g := (hW n 71 ls st μ g).trans rfl
theorem wX5_comes_74 {l : Launch} {K : aRs} {X : aXs} {J : aK} {W : Nat → aK} (hW : isW (tbX5_comes l K X) cuX5_comes J W) (n : Nat) (ls st : List aV) (μ : aM) (g : Nat) : W (n + 1) 74 ls st μ g = (sLd 1 75 isI) (W n) ls st μ g := (hW n 74 ls st μ g).trans rfl
theorem wX5_comes_75 {l : Launch} {K : aRs} {X : aXs} {J : aK} {W : Nat → aK} (hW : isW (tbX5_comes l K X) cuX5_comes J W) (n : Nat) (ls st : List aV) (μ : aM) (g : Nat) : W (n + 1) 75 ls st μ g = (sAldI 7 76) (W n) ls st μ g := (hW n 75 ls st μ g).trans rfl
theorem wX5_comes_76 {l : Launch} {K : aRs} {X : aXs} {J : aK} {W : Nat → aK} (hW : isW (tbX5_comes l K X) cuX5_comes J W) (n : Nat) (ls st : List aV) (μ : aM) (g : Nat) : W (n + 1) 76 ls st μ g = (sIc qNe 103 79) (W n) ls st μ g := (hW n 76 ls st μ g).trans rfl
theorem wX5_comes_79 {l : Launch} {K : aRs} {X : aXs} {J : aK} {W : Nat → aK} (hW : isW (tbX5_comes l K X) cuX5_comes J W) (n : Nat) (ls st : List aV) (μ : aM) (g : Nat) : W (n + 1) 79 ls st μ g = (sLd 0 80 isR) (W n) ls st μ g := (hW n 79 ls st μ g).trans rfl
theorem wX5_comes_80 {l : Launch} {K : aRs} {X : aXs} {J : aK} {W : Nat → aK} (hW : isW (tbX5_comes l K X) cuX5_comes J W) (n : Nat) (ls st : List aV) (μ : aM) (g : Nat) : W (n + 1) 80 ls st μ g = (sGetR 5 2 83) (W n) ls st μ g := (hW n 80 ls st μ g).trans rfl
theorem wX5_comes_83 {l : Launch} {K : aRs} {X : aXs} {J : aK} {W : Nat → aK} (hW : isW (tbX5_comes l K X) cuX5_comes J W) (n : Nat) (ls st : List aV) (μ : aM) (g : Nat) : W (n + 1) 83 ls st μ g = (sLd 0 84 isR) (W n) ls st μ g := (hW n 83 ls st μ g).trans rfl
theorem wX5_comes_84 {l : Launch} {K : aRs} {X : aXs} {J : aK} {W : Nat → aK} (hW : isW (tbX5_comes l K X) cuX5_comes J W) (n : Nat) (ls st : List aV) (μ : aM) (g : Nat) : W (n + 1) 84 ls st μ g = (sGetI 5 22 87) (W n) ls st μ g := (hW n 84 ls st μ g).trans rfl
theorem wX5_comes_87 {l : Launch} {K : aRs} {X : aXs} {J : aK} {W : Nat → aK} (hW : isW (tbX5_comes l K X) cuX5_comes J W) (n : Nat) (ls st : List aV) (μ : aM) (g : Nat) : W (n + 1) 87 ls st μ g = (sPush (aI 114) 89) (W n) ls st μ g := (hW n 87 ls st μ g).trans rfl
theorem wX5_comes_89 {l : Launch} {K : aRs} {X : aXs} {J : aK} {W : Nat → aK} (hW : isW (tbX5_comes l K X) cuX5_comes J W) (n : Nat) (ls st : List aV) (μ : aM) (g : Nat) : W (n + 1) 89 ls st μ g = (sIc qNe 96 92) (W n) ls st μ g := (hW n 89 ls st μ g).trans rfl
theorem wX5_comes_92 {l : Launch} {K : aRs} {X : aXs} {J : aK} {W : Nat → aK} (hW : isW (tbX5_comes l K X) cuX5_comes J W) (n : Nat) (ls st : List aV) (μ : aM) (g : Nat) : W (n + 1) 92 ls st μ g = (sLd 3 93 isI) (W n) ls st μ g := (hW n 92 ls st μ g).trans rfl
theorem wX5_comes_93 {l : Launch} {K : aRs} {X : aXs} {J : aK} {W : Nat → aK} (hW : isW (tbX5_comes l K X) cuX5_comes J W) (n : Nat) (ls st : List aV) (μ : aM) (g : Nat) : W (n + 1) 93 ls st μ g = (sGoto 97) (W n) ls st μ g := (hW n 93 ls st μ g).trans rfl
theorem wX5_comes_96 {l : Launch} {K : aRs} {X : aXs} {J : aK} {W : Nat → aK} (hW : isW (tbX5_comes l K X) cuX5_comes J W) (n : Nat) (ls st : List aV) (μ : aM) (g : Nat) : W (n + 1) 96 ls st μ g = (sLd 1 97 isI) (W n) ls st μ g := (hW n 96 ls st μ g).trans rfl
theorem wX5_comes_97 {l : Launch} {K : aRs} {X : aXs} {J : aK} {W : Nat → aK} (hW : isW (tbX5_comes l K X) cuX5_comes J W) (n : Nat) (ls st : List aV) (μ : aM) (g : Nat) : W (n + 1) 97 ls st μ g = (sPush (aI 99) 99) (W n) ls st μ g := (hW n 97 ls st μ g).trans rfl
theorem wX5_comes_99 {l : Launch} {K : aRs} {X : aXs} {J : aK} {W : Nat → aK} (hW : isW (tbX5_comes l K X) cuX5_comes J W) (n : Nat) (ls st : List aV) (μ : aM) (g : Nat) : W (n + 1) 99 ls st μ g = (sAstC 100) (W n) ls st μ g := (hW n 99 ls st μ g).trans rfl
theorem wX5_comes_100 {l : Launch} {K : aRs} {X : aXs} {J : aK} {W : Nat → aK} (hW : isW (tbX5_comes l K X) cuX5_comes J W) (n : Nat) (ls st : List aV) (μ : aM) (g : Nat) : W (n + 1) 100 ls st μ g = (sGoto 191) (W n) ls st μ g := (hW n 100 ls st μ g).trans rfl
theorem wX5_comes_103 {l : Launch} {K : aRs} {X : aXs} {J : aK} {W : Nat → aK} (hW : isW (tbX5_comes l K X) cuX5_comes J W) (n : Nat) (ls st : List aV) (μ : aM) (g : Nat) : W (n + 1) 103 ls st μ g = (sLd 0 104 isR) (W n) ls st μ g := (hW n 103 ls st μ g).trans rfl
theorem wX5_comes_104 {l : Launch} {K : aRs} {X : aXs} {J : aK} {W : Nat → aK} (hW : isW (tbX5_comes l K X) cuX5_comes J W) (n : Nat) (ls st : List aV) (μ : aM) (g : Nat) : W (n + 1) 104 ls st μ g = (sLd 0 105 isR) (W n) ls st μ g := (hW n 104 ls st μ g).trans rfl
theorem wX5_comes_105 {l : Launch} {K : aRs} {X : aXs} {J : aK} {W : Nat → aK} (hW : isW (tbX5_comes l K X) cuX5_comes J W) (n : Nat) (ls st : List aV) (μ : aM) (g : Nat) : W (n + 1) 105 ls st μ g = (sGetR 5 4 108) (W n) ls st μ g := (hW n 105 ls st μ g).trans rfl
theorem wX5_comes_108 {l : Launch} {K : aRs} {X : aXs} {J : aK} {W : Nat → aK} (hW : isW (tbX5_comes l K X) cuX5_comes J W) (n : Nat) (ls st : List aV) (μ : aM) (g : Nat) : W (n + 1) 108 ls st μ g = (sLd 3 109 isI) (W n) ls st μ g := (hW n 108 ls st μ g).trans rfl
theorem wX5_comes_109 {l : Launch} {K : aRs} {X : aXs} {J : aK} {W : Nat → aK} (hW : isW (tbX5_comes l K X) cuX5_comes J W) (n : Nat) (ls st : List aV) (μ : aM) (g : Nat) : W (n + 1) 109 ls st μ g = (sAldI 7 110) (W n) ls st μ g := (hW n 109 ls st μ g).trans rfl
set_option maxRecDepth 10000 in
theorem wX5_comes_110 {l : Launch} {K : aRs} {X : aXs} {J : aK} {W : Nat → aK} (hW : isW (tbX5_comes l K X) cuX5_comes J W) (n : Nat) (ls st : List aV) (μ : aM) (g : Nat) : W (n + 1) 110 ls st μ g = (sCallV 1 5 (fun as μ K => Ct l mdX5_isWithin as μ K X) 113 0 0) (W n) ls st μ g := (hW n 110 ls st μ g).trans rfl
set_option maxRecDepth 10000 in
theorem tX5_comes_113 (l : Launch) (K : aRs) (X : aXs) : tb (tbX5_comes l K X) 113 = sIf pNe 124 116 := (rfl)
theorem wX5_comes_113 {l : Launch} {K : aRs} {X : aXs} {J : aK} {W : Nat → aK} (hW : isW (tbX5_comes l K X) cuX5_comes J W) (n : Nat) (ls st : List aV) (μ : aM) (g : Nat) : W (n + 1) 113 ls st μ g = J 113 ls st μ g := (hW n 113 ls st μ g).trans rfl
set_option maxRecDepth 10000 in
theorem wX5_comes_116 {l : Launch} {K : aRs} {X : aXs} {J : aK} {W : Nat → aK} (hW : isW (tbX5_comes l K X) cuX5_comes J W) (n : Nat) (ls st : List aV) (μ : aM) (g : Nat) : W (n + 1) 116 ls st μ g = (sLd 0 117 isR) (W n) ls st μ g := (hW n 116 ls st μ g).trans rfl
set_option maxRecDepth 10000 in
theorem wX5_comes_117 {l : Launch} {K : aRs} {X : aXs} {J : aK} {W : Nat → aK} (hW : isW (tbX5_comes l K X) cuX5_comes J W) (n : Nat) (ls st : List aV) (μ : aM) (g : Nat) : W (n + 1) 117 ls st μ g = (sPush (aI 1) 118) (W n) ls st μ g := (hW n 117 ls st μ g).trans rfl
set_option maxRecDepth 10000 in
theorem wX5_comes_118 {l : Launch} {K : aRs} {X : aXs} {J : aK} {W : Nat → aK} (hW : isW (tbX5_comes l K X) cuX5_comes J W) (n : Nat) (ls st : List aV) (μ : aM) (g : Nat) : W (n + 1) 118 ls st μ g = (sPutI 5 23 121) (W n) ls st μ g := (hW n 118 ls st μ g).trans rfl
set_option maxRecDepth 10000 in
theorem wX5_comes_121 {l : Launch} {K : aRs} {X : aXs} {J : aK} {W : Nat → aK} (hW : isW (tbX5_comes l K X) cuX5_comes J W) (n : Nat) (ls st : List aV) (μ : aM) (g : Nat) : W (n + 1) 121 ls st μ g = (sGoto 191) (W n) ls st μ g := (hW n 121 ls st μ g).trans rfl
set_option maxRecDepth 10000 in
theorem wX5_comes_124 {l : Launch} {K : aRs} {X : aXs} {J : aK} {W : Nat → aK} (hW : isW (tbX5_comes l K X) cuX5_comes J W) (n : Nat) (ls st : List aV) (μ : aM) (g : Nat) : W (n + 1) 124 ls st μ g = (sLd 0 125 isR) (W n) ls st μ g := (hW n 124 ls st μ g).trans rfl
set_option maxRecDepth 10000 in
theorem wX5_comes_125 {l : Launch} {K : aRs} {X : aXs} {J : aK} {W : Nat → aK} (hW : isW (tbX5_comes l K X) cuX5_comes J W) (n : Nat) (ls st : List aV) (μ : aM) (g : Nat) : W (n + 1) 125 ls st μ g = (sGetR 5 7 128) (W n) ls st μ g := (hW n 125 ls st μ g).trans rfl
set_option maxRecDepth 10000 in
theorem wX5_comes_128 {l : Launch} {K : aRs} {X : aXs} {J : aK} {W : Nat → aK} (hW : isW (tbX5_comes l K X) cuX5_comes J W) (n : Nat) (ls st : List aV) (μ : aM) (g : Nat) : W (n + 1) 128 ls st μ g = (sLd 1 129 isI) (W n) ls st μ g := (hW n 128 ls st μ g).trans rfl
set_option maxRecDepth 10000 in
theorem wX5_comes_129 {l : Launch} {K : aRs} {X : aXs} {J : aK} {W : Nat → aK} (hW : isW (tbX5_comes l K X) cuX5_comes J W) (n : Nat) (ls st : List aV) (μ : aM) (g : Nat) : W (n + 1) 129 ls st μ g = (sAldI 7 130) (W n) ls st μ g := (hW n 129 ls st μ g).trans rfl
set_option maxRecDepth 10000 in
theorem wX5_comes_130 {l : Launch} {K : aRs} {X : aXs} {J : aK} {W : Nat → aK} (hW : isW (tbX5_comes l K X) cuX5_comes J W) (n : Nat) (ls st : List aV) (μ : aM) (g : Nat) : W (n + 1) 130 ls st μ g = (sLd 0 131 isR) (W n) ls st μ g := (hW n 130 ls st μ g).trans rfl
set_option maxRecDepth 10000 in
theorem wX5_comes_131 {l : Launch} {K : aRs} {X : aXs} {J : aK} {W : Nat → aK} (hW : isW (tbX5_comes l K X) cuX5_comes J W) (n : Nat) (ls st : List aV) (μ : aM) (g : Nat) : W (n + 1) 131 ls st μ g = (sGetR 5 10 134) (W n) ls st μ g := (hW n 131 ls st μ g).trans rfl
set_option maxRecDepth 10000 in
theorem wX5_comes_134 {l : Launch} {K : aRs} {X : aXs} {J : aK} {W : Nat → aK} (hW : isW (tbX5_comes l K X) cuX5_comes J W) (n : Nat) (ls st : List aV) (μ : aM) (g : Nat) : W (n + 1) 134 ls st μ g = (sLd 3 135 isI) (W n) ls st μ g := (hW n 134 ls st μ g).trans rfl
set_option maxRecDepth 10000 in
theorem wX5_comes_135 {l : Launch} {K : aRs} {X : aXs} {J : aK} {W : Nat → aK} (hW : isW (tbX5_comes l K X) cuX5_comes J W) (n : Nat) (ls st : List aV) (μ : aM) (g : Nat) : W (n + 1) 135 ls st μ g = (sAldI 7 136) (W n) ls st μ g := (hW n 135 ls st μ g).trans rfl
set_option maxRecDepth 10000 in
theorem wX5_comes_136 {l : Launch} {K : aRs} {X : aXs} {J : aK} {W : Nat → aK} (hW : isW (tbX5_comes l K X) cuX5_comes J W) (n : Nat) (ls st : List aV) (μ : aM) (g : Nat) : W (n + 1) 136 ls st μ g = (sCallS 2 (fun as μ K => Ct l mdX5_lesser as μ K X) 139 0 0) (W n) ls st μ g := (hW n 136 ls st μ g).trans rfl
set_option maxRecDepth 10000 in
theorem tX5_comes_139 (l : Launch) (K : aRs) (X : aXs) : tb (tbX5_comes l K X) 139 = sSt 4 141 isI := (rfl)
theorem wX5_comes_139 {l : Launch} {K : aRs} {X : aXs} {J : aK} {W : Nat → aK} (hW : isW (tbX5_comes l K X) cuX5_comes J W) (n : Nat) (ls st : List aV) (μ : aM) (g : Nat) : W (n + 1) 139 ls st μ g = J 139 ls st μ g := (hW n 139 ls st μ g).trans rfl
set_option maxRecDepth 10000 in
theorem wX5_comes_141 {l : Launch} {K : aRs} {X : aXs} {J : aK} {W : Nat → aK} (hW : isW (tbX5_comes l K X) cuX5_comes J W) (n : Nat) (ls st : List aV) (μ : aM) (g : Nat) : W (n + 1) 141 ls st μ g = (sLd 0 142 isR) (W n) ls st μ g := (hW n 141 ls st μ g).trans rfl
set_option maxRecDepth 10000 in
theorem wX5_comes_142 {l : Launch} {K : aRs} {X : aXs} {J : aK} {W : Nat → aK} (hW : isW (tbX5_comes l K X) cuX5_comes J W) (n : Nat) (ls st : List aV) (μ : aM) (g : Nat) : W (n + 1) 142 ls st μ g = (sGetR 5 10 145) (W n) ls st μ g := (hW n 142 ls st μ g).trans rfl
set_option maxRecDepth 10000 in
theorem wX5_comes_145 {l : Launch} {K : aRs} {X : aXs} {J : aK} {W : Nat → aK} (hW : isW (tbX5_comes l K X) cuX5_comes J W) (n : Nat) (ls st : List aV) (μ : aM) (g : Nat) : W (n + 1) 145 ls st μ g = (sLd 3 146 isI) (W n) ls st μ g := (hW n 145 ls st μ g).trans rfl
set_option maxRecDepth 10000 in
theorem wX5_comes_146 {l : Launch} {K : aRs} {X : aXs} {J : aK} {W : Nat → aK} (hW : isW (tbX5_comes l K X) cuX5_comes J W) (n : Nat) (ls st : List aV) (μ : aM) (g : Nat) : W (n + 1) 146 ls st μ g = (sDup2 147) (W n) ls st μ g := (hW n 146 ls st μ g).trans rfl
set_option maxRecDepth 10000 in
theorem wX5_comes_147 {l : Launch} {K : aRs} {X : aXs} {J : aK} {W : Nat → aK} (hW : isW (tbX5_comes l K X) cuX5_comes J W) (n : Nat) (ls st : List aV) (μ : aM) (g : Nat) : W (n + 1) 147 ls st μ g = (sAldI 7 148) (W n) ls st μ g := (hW n 147 ls st μ g).trans rfl
set_option maxRecDepth 10000 in
theorem wX5_comes_148 {l : Launch} {K : aRs} {X : aXs} {J : aK} {W : Nat → aK} (hW : isW (tbX5_comes l K X) cuX5_comes J W) (n : Nat) (ls st : List aV) (μ : aM) (g : Nat) : W (n + 1) 148 ls st μ g = (sLd 4 150 isI) (W n) ls st μ g := (hW n 148 ls st μ g).trans rfl
set_option maxRecDepth 10000 in
theorem wX5_comes_150 {l : Launch} {K : aRs} {X : aXs} {J : aK} {W : Nat → aK} (hW : isW (tbX5_comes l K X) cuX5_comes J W) (n : Nat) (ls st : List aV) (μ : aM) (g : Nat) : W (n + 1) 150 ls st μ g = (sBin fSub 151) (W n) ls st μ g := (hW n 150 ls st μ g).trans rfl
set_option maxRecDepth 10000 in
theorem wX5_comes_151 {l : Launch} {K : aRs} {X : aXs} {J : aK} {W : Nat → aK} (hW : isW (tbX5_comes l K X) cuX5_comes J W) (n : Nat) (ls st : List aV) (μ : aM) (g : Nat) : W (n + 1) 151 ls st μ g = (sAstI 152) (W n) ls st μ g := (hW n 151 ls st μ g).trans rfl
set_option maxRecDepth 10000 in
theorem wX5_comes_152 {l : Launch} {K : aRs} {X : aXs} {J : aK} {W : Nat → aK} (hW : isW (tbX5_comes l K X) cuX5_comes J W) (n : Nat) (ls st : List aV) (μ : aM) (g : Nat) : W (n + 1) 152 ls st μ g = (sLd 0 153 isR) (W n) ls st μ g := (hW n 152 ls st μ g).trans rfl
set_option maxRecDepth 10000 in
theorem wX5_comes_153 {l : Launch} {K : aRs} {X : aXs} {J : aK} {W : Nat → aK} (hW : isW (tbX5_comes l K X) cuX5_comes J W) (n : Nat) (ls st : List aV) (μ : aM) (g : Nat) : W (n + 1) 153 ls st μ g = (sLd 1 154 isI) (W n) ls st μ g := (hW n 153 ls st μ g).trans rfl
set_option maxRecDepth 10000 in
theorem wX5_comes_154 {l : Launch} {K : aRs} {X : aXs} {J : aK} {W : Nat → aK} (hW : isW (tbX5_comes l K X) cuX5_comes J W) (n : Nat) (ls st : List aV) (μ : aM) (g : Nat) : W (n + 1) 154 ls st μ g = (sLd 3 155 isI) (W n) ls st μ g := (hW n 154 ls st μ g).trans rfl
set_option maxRecDepth 10000 in
theorem wX5_comes_155 {l : Launch} {K : aRs} {X : aXs} {J : aK} {W : Nat → aK} (hW : isW (tbX5_comes l K X) cuX5_comes J W) (n : Nat) (ls st : List aV) (μ : aM) (g : Nat) : W (n + 1) 155 ls st μ g = (sLd 0 156 isR) (W n) ls st μ g := (hW n 155 ls st μ g).trans rfl
set_option maxRecDepth 10000 in
theorem wX5_comes_156 {l : Launch} {K : aRs} {X : aXs} {J : aK} {W : Nat → aK} (hW : isW (tbX5_comes l K X) cuX5_comes J W) (n : Nat) (ls st : List aV) (μ : aM) (g : Nat) : W (n + 1) 156 ls st μ g = (sGetR 5 4 159) (W n) ls st μ g := (hW n 156 ls st μ g).trans rfl
set_option maxRecDepth 10000 in
theorem wX5_comes_159 {l : Launch} {K : aRs} {X : aXs} {J : aK} {W : Nat → aK} (hW : isW (tbX5_comes l K X) cuX5_comes J W) (n : Nat) (ls st : List aV) (μ : aM) (g : Nat) : W (n + 1) 159 ls st μ g = (sLd 3 160 isI) (W n) ls st μ g := (hW n 159 ls st μ g).trans rfl
set_option maxRecDepth 10000 in
theorem wX5_comes_160 {l : Launch} {K : aRs} {X : aXs} {J : aK} {W : Nat → aK} (hW : isW (tbX5_comes l K X) cuX5_comes J W) (n : Nat) (ls st : List aV) (μ : aM) (g : Nat) : W (n + 1) 160 ls st μ g = (sAldI 7 161) (W n) ls st μ g := (hW n 160 ls st μ g).trans rfl
set_option maxRecDepth 10000 in
theorem wX5_comes_161 {l : Launch} {K : aRs} {X : aXs} {J : aK} {W : Nat → aK} (hW : isW (tbX5_comes l K X) cuX5_comes J W) (n : Nat) (ls st : List aV) (μ : aM) (g : Nat) : W (n + 1) 161 ls st μ g = (sLd 4 163 isI) (W n) ls st μ g := (hW n 161 ls st μ g).trans rfl
set_option maxRecDepth 10000 in
theorem wX5_comes_163 {l : Launch} {K : aRs} {X : aXs} {J : aK} {W : Nat → aK} (hW : isW (tbX5_comes l K X) cuX5_comes J W) (n : Nat) (ls st : List aV) (μ : aM) (g : Nat) : W (n + 1) 163 ls st μ g = (sCallV 4 5 (fun as μ K => Ct l mdX5_trades as μ K X) 166 0 0) (W n) ls st μ g := (hW n 163 ls st μ g).trans rfl
set_option maxRecDepth 10000 in
theorem tX5_comes_166 (l : Launch) (K : aRs) (X : aXs) : tb (tbX5_comes l K X) 166 = sLd 0 167 isR := (rfl)
theorem wX5_comes_166 {l : Launch} {K : aRs} {X : aXs} {J : aK} {W : Nat → aK} (hW : isW (tbX5_comes l K X) cuX5_comes J W) (n : Nat) (ls st : List aV) (μ : aM) (g : Nat) : W (n + 1) 166 ls st μ g = J 166 ls st μ g := (hW n 166 ls st μ g).trans rfl
set_option maxRecDepth 10000 in
theorem wX5_comes_167 {l : Launch} {K : aRs} {X : aXs} {J : aK} {W : Nat → aK} (hW : isW (tbX5_comes l K X) cuX5_comes J W) (n : Nat) (ls st : List aV) (μ : aM) (g : Nat) : W (n + 1) 167 ls st μ g = (sGetR 5 2 170) (W n) ls st μ g := (hW n 167 ls st μ g).trans rfl
set_option maxRecDepth 10000 in
theorem wX5_comes_170 {l : Launch} {K : aRs} {X : aXs} {J : aK} {W : Nat → aK} (hW : isW (tbX5_comes l K X) cuX5_comes J W) (n : Nat) (ls st : List aV) (μ : aM) (g : Nat) : W (n + 1) 170 ls st μ g = (sLd 3 171 isI) (W n) ls st μ g := (hW n 170 ls st μ g).trans rfl
set_option maxRecDepth 10000 in
theorem wX5_comes_171 {l : Launch} {K : aRs} {X : aXs} {J : aK} {W : Nat → aK} (hW : isW (tbX5_comes l K X) cuX5_comes J W) (n : Nat) (ls st : List aV) (μ : aM) (g : Nat) : W (n + 1) 171 ls st μ g = (sAldI 6 172) (W n) ls st μ g := (hW n 171 ls st μ g).trans rfl
set_option maxRecDepth 10000 in
theorem wX5_comes_172 {l : Launch} {K : aRs} {X : aXs} {J : aK} {W : Nat → aK} (hW : isW (tbX5_comes l K X) cuX5_comes J W) (n : Nat) (ls st : List aV) (μ : aM) (g : Nat) : W (n + 1) 172 ls st μ g = (sPush (aI 97) 174) (W n) ls st μ g := (hW n 172 ls st μ g).trans rfl
set_option maxRecDepth 10000 in
theorem wX5_comes_174 {l : Launch} {K : aRs} {X : aXs} {J : aK} {W : Nat → aK} (hW : isW (tbX5_comes l K X) cuX5_comes J W) (n : Nat) (ls st : List aV) (μ : aM) (g : Nat) : W (n + 1) 174 ls st μ g = (sIc qNe 191 177) (W n) ls st μ g := (hW n 174 ls st μ g).trans rfl
set_option maxRecDepth 10000 in
theorem wX5_comes_177 {l : Launch} {K : aRs} {X : aXs} {J : aK} {W : Nat → aK} (hW : isW (tbX5_comes l K X) cuX5_comes J W) (n : Nat) (ls st : List aV) (μ : aM) (g : Nat) : W (n + 1) 177 ls st μ g = (sLd 0 178 isR) (W n) ls st μ g := (hW n 177 ls st μ g).trans rfl
set_option maxRecDepth 10000 in
theorem wX5_comes_178 {l : Launch} {K : aRs} {X : aXs} {J : aK} {W : Nat → aK} (hW : isW (tbX5_comes l K X) cuX5_comes J W) (n : Nat) (ls st : List aV) (μ : aM) (g : Nat) : W (n + 1) 178 ls st μ g = (sGetR 5 10 181) (W n) ls st μ g := (hW n 178 ls st μ g).trans rfl
set_option maxRecDepth 10000 in
theorem wX5_comes_181 {l : Launch} {K : aRs} {X : aXs} {J : aK} {W : Nat → aK} (hW : isW (tbX5_comes l K X) cuX5_comes J W) (n : Nat) (ls st : List aV) (μ : aM) (g : Nat) : W (n + 1) 181 ls st μ g = (sLd 3 182 isI) (W n) ls st μ g := (hW n 181 ls st μ g).trans rfl
set_option maxRecDepth 10000 in
theorem wX5_comes_182 {l : Launch} {K : aRs} {X : aXs} {J : aK} {W : Nat → aK} (hW : isW (tbX5_comes l K X) cuX5_comes J W) (n : Nat) (ls st : List aV) (μ : aM) (g : Nat) : W (n + 1) 182 ls st μ g = (sAldI 7 183) (W n) ls st μ g := (hW n 182 ls st μ g).trans rfl
set_option maxRecDepth 10000 in
theorem wX5_comes_183 {l : Launch} {K : aRs} {X : aXs} {J : aK} {W : Nat → aK} (hW : isW (tbX5_comes l K X) cuX5_comes J W) (n : Nat) (ls st : List aV) (μ : aM) (g : Nat) : W (n + 1) 183 ls st μ g = (sIf pNe 191 186) (W n) ls st μ g := (hW n 183 ls st μ g).trans rfl
set_option maxRecDepth 10000 in
theorem wX5_comes_186 {l : Launch} {K : aRs} {X : aXs} {J : aK} {W : Nat → aK} (hW : isW (tbX5_comes l K X) cuX5_comes J W) (n : Nat) (ls st : List aV) (μ : aM) (g : Nat) : W (n + 1) 186 ls st μ g = (sLd 0 187 isR) (W n) ls st μ g := (hW n 186 ls st μ g).trans rfl
set_option maxRecDepth 10000 in
theorem wX5_comes_187 {l : Launch} {K : aRs} {X : aXs} {J : aK} {W : Nat → aK} (hW : isW (tbX5_comes l K X) cuX5_comes J W) (n : Nat) (ls st : List aV) (μ : aM) (g : Nat) : W (n + 1) 187 ls st μ g = (sLd 3 188 isI) (W n) ls st μ g := (hW n 187 ls st μ g).trans rfl
set_option maxRecDepth 10000 in
theorem wX5_comes_188 {l : Launch} {K : aRs} {X : aXs} {J : aK} {W : Nat → aK} (hW : isW (tbX5_comes l K X) cuX5_comes J W) (n : Nat) (ls st : List aV) (μ : aM) (g : Nat) : W (n + 1) 188 ls st μ g = (sCallV 1 5 (fun as μ K => Ct l mdX5_goesBehind as μ K X) 191 0 0) (W n) ls st μ g := (hW n 188 ls st μ g).trans rfl
set_option maxRecDepth 10000 in
theorem tX5_comes_191 (l : Launch) (K : aRs) (X : aXs) : tb (tbX5_comes l K X) 191 = sGoto 27 := (rfl)
theorem wX5_comes_191 {l : Launch} {K : aRs} {X : aXs} {J : aK} {W : Nat → aK} (hW : isW (tbX5_comes l K X) cuX5_comes J W) (n : Nat) (ls st : List aV) (μ : aM) (g : Nat) : W (n + 1) 191 ls st μ g = J 191 ls st μ g := (hW n 191 ls st μ g).trans rfl
set_option maxRecDepth 10000 in
theorem wX5_comes_194 {l : Launch} {K : aRs} {X : aXs} {J : aK} {W : Nat → aK} (hW : isW (tbX5_comes l K X) cuX5_comes J W) (n : Nat) (ls st : List aV) (μ : aM) (g : Nat) : W (n + 1) 194 ls st μ g = (sLd 0 195 isR) (W n) ls st μ g := (hW n 194 ls st μ g).trans rfl
set_option maxRecDepth 10000 in
theorem wX5_comes_195 {l : Launch} {K : aRs} {X : aXs} {J : aK} {W : Nat → aK} (hW : isW (tbX5_comes l K X) cuX5_comes J W) (n : Nat) (ls st : List aV) (μ : aM) (g : Nat) : W (n + 1) 195 ls st μ g = (sGetR 5 2 198) (W n) ls st μ g := (hW n 195 ls st μ g).trans rfl
set_option maxRecDepth 10000 in
theorem wX5_comes_198 {l : Launch} {K : aRs} {X : aXs} {J : aK} {W : Nat → aK} (hW : isW (tbX5_comes l K X) cuX5_comes J W) (n : Nat) (ls st : List aV) (μ : aM) (g : Nat) : W (n + 1) 198 ls st μ g = (sLd 1 199 isI) (W n) ls st μ g := (hW n 198 ls st μ g).trans rfl
set_option maxRecDepth 10000 in
theorem wX5_comes_199 {l : Launch} {K : aRs} {X : aXs} {J : aK} {W : Nat → aK} (hW : isW (tbX5_comes l K X) cuX5_comes J W) (n : Nat) (ls st : List aV) (μ : aM) (g : Nat) : W (n + 1) 199 ls st μ g = (sAldI 6 200) (W n) ls st μ g := (hW n 199 ls st μ g).trans rfl
set_option maxRecDepth 10000 in
theorem wX5_comes_200 {l : Launch} {K : aRs} {X : aXs} {J : aK} {W : Nat → aK} (hW : isW (tbX5_comes l K X) cuX5_comes J W) (n : Nat) (ls st : List aV) (μ : aM) (g : Nat) : W (n + 1) 200 ls st μ g = (sPush (aI 105) 202) (W n) ls st μ g := (hW n 200 ls st μ g).trans rfl
set_option maxRecDepth 10000 in
theorem wX5_comes_202 {l : Launch} {K : aRs} {X : aXs} {J : aK} {W : Nat → aK} (hW : isW (tbX5_comes l K X) cuX5_comes J W) (n : Nat) (ls st : List aV) (μ : aM) (g : Nat) : W (n + 1) 202 ls st μ g = (sIc qEq 206 205) (W n) ls st μ g := (hW n 202 ls st μ g).trans rfl
set_option maxRecDepth 10000 in
theorem wX5_comes_205 {l : Launch} {K : aRs} {X : aXs} {J : aK} {W : Nat → aK} (hW : isW (tbX5_comes l K X) cuX5_comes J W) (n : Nat) (ls st : List aV) (μ : aM) (g : Nat) : W (n + 1) 205 ls st μ g = (sRetV 0 K) (W n) ls st μ g := (hW n 205 ls st μ g).trans rfl
set_option maxRecDepth 10000 in
theorem wX5_comes_206 {l : Launch} {K : aRs} {X : aXs} {J : aK} {W : Nat → aK} (hW : isW (tbX5_comes l K X) cuX5_comes J W) (n : Nat) (ls st : List aV) (μ : aM) (g : Nat) : W (n + 1) 206 ls st μ g = (sLd 0 207 isR) (W n) ls st μ g := (hW n 206 ls st μ g).trans rfl
set_option maxRecDepth 10000 in
theorem wX5_comes_207 {l : Launch} {K : aRs} {X : aXs} {J : aK} {W : Nat → aK} (hW : isW (tbX5_comes l K X) cuX5_comes J W) (n : Nat) (ls st : List aV) (μ : aM) (g : Nat) : W (n + 1) 207 ls st μ g = (sGetR 5 2 210) (W n) ls st μ g := (hW n 207 ls st μ g).trans rfl
set_option maxRecDepth 10000 in
theorem wX5_comes_210 {l : Launch} {K : aRs} {X : aXs} {J : aK} {W : Nat → aK} (hW : isW (tbX5_comes l K X) cuX5_comes J W) (n : Nat) (ls st : List aV) (μ : aM) (g : Nat) : W (n + 1) 210 ls st μ g = (sLd 1 211 isI) (W n) ls st μ g := (hW n 210 ls st μ g).trans rfl
set_option maxRecDepth 10000 in
theorem wX5_comes_211 {l : Launch} {K : aRs} {X : aXs} {J : aK} {W : Nat → aK} (hW : isW (tbX5_comes l K X) cuX5_comes J W) (n : Nat) (ls st : List aV) (μ : aM) (g : Nat) : W (n + 1) 211 ls st μ g = (sPush (aI 97) 213) (W n) ls st μ g := (hW n 211 ls st μ g).trans rfl
set_option maxRecDepth 10000 in
theorem wX5_comes_213 {l : Launch} {K : aRs} {X : aXs} {J : aK} {W : Nat → aK} (hW : isW (tbX5_comes l K X) cuX5_comes J W) (n : Nat) (ls st : List aV) (μ : aM) (g : Nat) : W (n + 1) 213 ls st μ g = (sAstC 214) (W n) ls st μ g := (hW n 213 ls st μ g).trans rfl
set_option maxRecDepth 10000 in
theorem wX5_comes_214 {l : Launch} {K : aRs} {X : aXs} {J : aK} {W : Nat → aK} (hW : isW (tbX5_comes l K X) cuX5_comes J W) (n : Nat) (ls st : List aV) (μ : aM) (g : Nat) : W (n + 1) 214 ls st μ g = (sLd 0 215 isR) (W n) ls st μ g := (hW n 214 ls st μ g).trans rfl
set_option maxRecDepth 10000 in
theorem wX5_comes_215 {l : Launch} {K : aRs} {X : aXs} {J : aK} {W : Nat → aK} (hW : isW (tbX5_comes l K X) cuX5_comes J W) (n : Nat) (ls st : List aV) (μ : aM) (g : Nat) : W (n + 1) 215 ls st μ g = (sLd 1 216 isI) (W n) ls st μ g := (hW n 215 ls st μ g).trans rfl
set_option maxRecDepth 10000 in
theorem wX5_comes_216 {l : Launch} {K : aRs} {X : aXs} {J : aK} {W : Nat → aK} (hW : isW (tbX5_comes l K X) cuX5_comes J W) (n : Nat) (ls st : List aV) (μ : aM) (g : Nat) : W (n + 1) 216 ls st μ g = (sCallV 1 5 (fun as μ K => Ct l mdX5_goesBehind as μ K X) 219 0 0) (W n) ls st μ g := (hW n 216 ls st μ g).trans rfl
set_option maxRecDepth 10000 in
theorem tX5_comes_219 (l : Launch) (K : aRs) (X : aXs) : tb (tbX5_comes l K X) 219 = sRetV 0 K := (rfl)
theorem wX5_comes_219 {l : Launch} {K : aRs} {X : aXs} {J : aK} {W : Nat → aK} (hW : isW (tbX5_comes l K X) cuX5_comes J W) (n : Nat) (ls st : List aV) (μ : aM) (g : Nat) : W (n + 1) 219 ls st μ g = J 219 ls st μ g := (hW n 219 ls st μ g).trans rfl
theorem dX5_isOff_0 : decode cX5_isOff 0 = .ok (.aload_n 0, 1) := by decide +kernel
theorem dX5_isOff_1 : decode cX5_isOff 1 = .ok (.getfield 13, 3) := by decide +kernel
theorem dX5_isOff_4 : decode cX5_isOff 4 = .ok (.iload_n 1, 1) := by decide +kernel
theorem dX5_isOff_5 : decode cX5_isOff 5 = .ok (.caload, 1) := by decide +kernel
theorem dX5_isOff_6 : decode cX5_isOff 6 = .ok (.bipush 119, 2) := by decide +kernel
theorem dX5_isOff_8 : decode cX5_isOff 8 = .ok (.if_icmp .ne 54, 3) := by decide +kernel
theorem dX5_isOff_11 : decode cX5_isOff 11 = .ok (.aload_n 0, 1) := by decide +kernel
theorem dX5_isOff_12 : decode cX5_isOff 12 = .ok (.getfield 90, 3) := by decide +kernel
theorem dX5_isOff_15 : decode cX5_isOff 15 = .ok (.ifCond .le 47, 3) := by decide +kernel
theorem dX5_isOff_18 : decode cX5_isOff 18 = .ok (.aload_n 0, 1) := by decide +kernel
theorem dX5_isOff_19 : decode cX5_isOff 19 = .ok (.getfield 7, 3) := by decide +kernel
theorem dX5_isOff_22 : decode cX5_isOff 22 = .ok (.iload_n 1, 1) := by decide +kernel
theorem dX5_isOff_23 : decode cX5_isOff 23 = .ok (.caload, 1) := by decide +kernel
theorem dX5_isOff_24 : decode cX5_isOff 24 = .ok (.bipush 98, 2) := by decide +kernel
theorem dX5_isOff_26 : decode cX5_isOff 26 = .ok (.if_icmp .ne 19, 3) := by decide +kernel
theorem dX5_isOff_29 : decode cX5_isOff 29 = .ok (.aload_n 0, 1) := by decide +kernel
theorem dX5_isOff_30 : decode cX5_isOff 30 = .ok (.getfield 93, 3) := by decide +kernel
theorem dX5_isOff_33 : decode cX5_isOff 33 = .ok (.aload_n 0, 1) := by decide +kernel
theorem dX5_isOff_34 : decode cX5_isOff 34 = .ok (.getfield 23, 3) := by decide +kernel
theorem dX5_isOff_37 : decode cX5_isOff 37 = .ok (.iload_n 1, 1) := by decide +kernel
theorem dX5_isOff_38 : decode cX5_isOff 38 = .ok (.iaload, 1) := by decide +kernel
theorem dX5_isOff_39 : decode cX5_isOff 39 = .ok (.if_icmp .lt 23, 3) := by decide +kernel
theorem dX5_isOff_42 : decode cX5_isOff 42 = .ok (.goto 16, 3) := by decide +kernel
theorem dX5_isOff_45 : decode cX5_isOff 45 = .ok (.aload_n 0, 1) := by decide +kernel
theorem dX5_isOff_46 : decode cX5_isOff 46 = .ok (.getfield 93, 3) := by decide +kernel
theorem dX5_isOff_49 : decode cX5_isOff 49 = .ok (.aload_n 0, 1) := by decide +kernel
theorem dX5_isOff_50 : decode cX5_isOff 50 = .ok (.getfield 23, 3) := by decide +kernel
theorem dX5_isOff_53 : decode cX5_isOff 53 = .ok (.iload_n 1, 1) := by decide +kernel
theorem dX5_isOff_54 : decode cX5_isOff 54 = .ok (.iaload, 1) := by decide +kernel
theorem dX5_isOff_55 : decode cX5_isOff 55 = .ok (.if_icmp .gt 7, 3) := by decide +kernel
theorem dX5_isOff_58 : decode cX5_isOff 58 = .ok (.iconst 1, 1) := by decide +kernel
theorem dX5_isOff_59 : decode cX5_isOff 59 = .ok (.goto 4, 3) := by decide +kernel
theorem dX5_isOff_62 : decode cX5_isOff 62 = .ok (.iconst 0, 1) := by decide +kernel
theorem dX5_isOff_63 : decode cX5_isOff 63 = .ok (.ireturn, 1) := by decide +kernel
def tbX5_isOff (l : Launch) (K : aRs) (X : aXs) : aTb := [
  (0, sLd 0 1 isR),
  (1, sGetR 5 2 4),
  (4, sLd 1 5 isI),
  (5, sAldI 6 6),
  (6, sPush (aI 119) 8),
  (8, sIc qNe 62 11),
  (11, sLd 0 12 isR),
  (12, sGetI 5 13 15),
  (15, sIf pLe 62 18),
  (18, sLd 0 19 isR),
  (19, sGetR 5 1 22),
  (22, sLd 1 23 isI),
  (23, sAldI 6 24),
  (24, sPush (aI 98) 26),
  (26, sIc qNe 45 29),
  (29, sLd 0 30 isR),
  (30, sGetI 5 18 33),
  (33, sLd 0 34 isR),
  (34, sGetR 5 5 37),
  (37, sLd 1 38 isI),
  (38, sAldI 7 39),
  (39, sIc qLt 62 42),
  (42, sGoto 58),
  (45, sLd 0 46 isR),
  (46, sGetI 5 18 49),
  (49, sLd 0 50 isR),
  (50, sGetR 5 5 53),
  (53, sLd 1 54 isI),
  (54, sAldI 7 55),
  (55, sIc qGt 62 58),
  (58, sPush (aI 1) 59),
  (59, sGoto 63),
  (62, sPush (aI 0) 63),
  (63, sRetI .boolean 0 K)]
theorem snX5_isOff (l : Launch) (K : aRs) (X : aXs) (n0 : Nat) : ∀ q ∈ tbX5_isOff l K X, aSo l mdX5_isOff K X n0 q.1 q.2 :=
  tc (fun p e s m args below meth c cA D A ad0 h => ok_aload_n h.1 0 rfl dX5_isOff_0) <|
  tc (fun p e s m args below meth c cA D A ad0 h => ok_getR h.1 cxX5 (by decide) rfl fkRX5_13 (fun _ _ _ => rfl) dX5_isOff_1) <|
  tc (fun p e s m args below meth c cA D A ad0 h => ok_iload_n h.1 1 rfl dX5_isOff_4) <|
  tc (fun p e s m args below meth c cA D A ad0 h => ok_cald h.1 dX5_isOff_5) <|
  tc (fun p e s m args below meth c cA D A ad0 h => ok_bipush h.1 ⟨by decide, by decide⟩ (by decide) dX5_isOff_6) <|
  tc (fun p e s m args below meth c cA D A ad0 h => ok_icmp_ne h.1 62 (by decide) dX5_isOff_8) <|
  tc (fun p e s m args below meth c cA D A ad0 h => ok_aload_n h.1 0 rfl dX5_isOff_11) <|
  tc (fun p e s m args below meth c cA D A ad0 h => ok_getI h.1 cxX5 (by decide) rfl fkRX5_90 (fun _ _ _ => rfl) dX5_isOff_12) <|
  tc (fun p e s m args below meth c cA D A ad0 h => ok_if_le h.1 62 (by decide) dX5_isOff_15) <|
  tc (fun p e s m args below meth c cA D A ad0 h => ok_aload_n h.1 0 rfl dX5_isOff_18) <|
  tc (fun p e s m args below meth c cA D A ad0 h => ok_getR h.1 cxX5 (by decide) rfl fkRX5_7 (fun _ _ _ => rfl) dX5_isOff_19) <|
  tc (fun p e s m args below meth c cA D A ad0 h => ok_iload_n h.1 1 rfl dX5_isOff_22) <|
  tc (fun p e s m args below meth c cA D A ad0 h => ok_cald h.1 dX5_isOff_23) <|
  tc (fun p e s m args below meth c cA D A ad0 h => ok_bipush h.1 ⟨by decide, by decide⟩ (by decide) dX5_isOff_24) <|
  tc (fun p e s m args below meth c cA D A ad0 h => ok_icmp_ne h.1 45 (by decide) dX5_isOff_26) <|
  tc (fun p e s m args below meth c cA D A ad0 h => ok_aload_n h.1 0 rfl dX5_isOff_29) <|
  tc (fun p e s m args below meth c cA D A ad0 h => ok_getI h.1 cxX5 (by decide) rfl fkRX5_93 (fun _ _ _ => rfl) dX5_isOff_30) <|
  tc (fun p e s m args below meth c cA D A ad0 h => ok_aload_n h.1 0 rfl dX5_isOff_33) <|
  tc (fun p e s m args below meth c cA D A ad0 h => ok_getR h.1 cxX5 (by decide) rfl fkRX5_23 (fun _ _ _ => rfl) dX5_isOff_34) <|
  tc (fun p e s m args below meth c cA D A ad0 h => ok_iload_n h.1 1 rfl dX5_isOff_37) <|
  tc (fun p e s m args below meth c cA D A ad0 h => ok_iald h.1 dX5_isOff_38) <|
  tc (fun p e s m args below meth c cA D A ad0 h => ok_icmp_lt h.1 62 (by decide) dX5_isOff_39) <|
  tc (fun p e s m args below meth c cA D A ad0 h => ok_goto h.1 58 (by decide) dX5_isOff_42) <|
  tc (fun p e s m args below meth c cA D A ad0 h => ok_aload_n h.1 0 rfl dX5_isOff_45) <|
  tc (fun p e s m args below meth c cA D A ad0 h => ok_getI h.1 cxX5 (by decide) rfl fkRX5_93 (fun _ _ _ => rfl) dX5_isOff_46) <|
  tc (fun p e s m args below meth c cA D A ad0 h => ok_aload_n h.1 0 rfl dX5_isOff_49) <|
  tc (fun p e s m args below meth c cA D A ad0 h => ok_getR h.1 cxX5 (by decide) rfl fkRX5_23 (fun _ _ _ => rfl) dX5_isOff_50) <|
  tc (fun p e s m args below meth c cA D A ad0 h => ok_iload_n h.1 1 rfl dX5_isOff_53) <|
  tc (fun p e s m args below meth c cA D A ad0 h => ok_iald h.1 dX5_isOff_54) <|
  tc (fun p e s m args below meth c cA D A ad0 h => ok_icmp_gt h.1 62 (by decide) dX5_isOff_55) <|
  tc (fun p e s m args below meth c cA D A ad0 h => ok_iconst h.1 ⟨by decide, by decide⟩ dX5_isOff_58) <|
  tc (fun p e s m args below meth c cA D A ad0 h => ok_goto h.1 63 (by decide) dX5_isOff_59) <|
  tc (fun p e s m args below meth c cA D A ad0 h => ok_iconst h.1 ⟨by decide, by decide⟩ dX5_isOff_62) <|
  tc (fun p e s m args below meth c cA D A ad0 h => ok_ireturn h.1 h.2.2.2.1 (Or.inr (Or.inl rfl)) dX5_isOff_63) <|
  tn
abbrev cuX5_isOff : List Nat := []
theorem tX5_isOff_0 (l : Launch) (K : aRs) (X : aXs) : tb (tbX5_isOff l K X) 0 = sLd 0 1 isR := (rfl)
theorem wX5_isOff_0 {l : Launch} {K : aRs} {X : aXs} {J : aK} {W : Nat → aK} (hW : isW (tbX5_isOff l K X) cuX5_isOff J W) (n : Nat) (ls st : List aV) (μ : aM) (g : Nat) : W (n + 1) 0 ls st μ g = (sLd 0 1 isR) (W n) ls st μ g := (hW n 0 ls st μ g).trans rfl
theorem wX5_isOff_1 {l : Launch} {K : aRs} {X : aXs} {J : aK} {W : Nat → aK} (hW : isW (tbX5_isOff l K X) cuX5_isOff J W) (n : Nat) (ls st : List aV) (μ : aM) (g : Nat) : W (n + 1) 1 ls st μ g = (sGetR 5 2 4) (W n) ls st μ g := (hW n 1 ls st μ g).trans rfl
theorem wX5_isOff_4 {l : Launch} {K : aRs} {X : aXs} {J : aK} {W : Nat → aK} (hW : isW (tbX5_isOff l K X) cuX5_isOff J W) (n : Nat) (ls st : List aV) (μ : aM) (g : Nat) : W (n + 1) 4 ls st μ g = (sLd 1 5 isI) (W n) ls st μ g := (hW n 4 ls st μ g).trans rfl
theorem wX5_isOff_5 {l : Launch} {K : aRs} {X : aXs} {J : aK} {W : Nat → aK} (hW : isW (tbX5_isOff l K X) cuX5_isOff J W) (n : Nat) (ls st : List aV) (μ : aM) (g : Nat) : W (n + 1) 5 ls st μ g = (sAldI 6 6) (W n) ls st μ g := (hW n 5 ls st μ g).trans rfl
theorem wX5_isOff_6 {l : Launch} {K : aRs} {X : aXs} {J : aK} {W : Nat → aK} (hW : isW (tbX5_isOff l K X) cuX5_isOff J W) (n : Nat) (ls st : List aV) (μ : aM) (g : Nat) : W (n + 1) 6 ls st μ g = (sPush (aI 119) 8) (W n) ls st μ g := (hW n 6 ls st μ g).trans rfl
theorem wX5_isOff_8 {l : Launch} {K : aRs} {X : aXs} {J : aK} {W : Nat → aK} (hW : isW (tbX5_isOff l K X) cuX5_isOff J W) (n : Nat) (ls st : List aV) (μ : aM) (g : Nat) : W (n + 1) 8 ls st μ g = (sIc qNe 62 11) (W n) ls st μ g := (hW n 8 ls st μ g).trans rfl
theorem wX5_isOff_11 {l : Launch} {K : aRs} {X : aXs} {J : aK} {W : Nat → aK} (hW : isW (tbX5_isOff l K X) cuX5_isOff J W) (n : Nat) (ls st : List aV) (μ : aM) (g : Nat) : W (n + 1) 11 ls st μ g = (sLd 0 12 isR) (W n) ls st μ g := (hW n 11 ls st μ g).trans rfl
theorem wX5_isOff_12 {l : Launch} {K : aRs} {X : aXs} {J : aK} {W : Nat → aK} (hW : isW (tbX5_isOff l K X) cuX5_isOff J W) (n : Nat) (ls st : List aV) (μ : aM) (g : Nat) : W (n + 1) 12 ls st μ g = (sGetI 5 13 15) (W n) ls st μ g := (hW n 12 ls st μ g).trans rfl
theorem wX5_isOff_15 {l : Launch} {K : aRs} {X : aXs} {J : aK} {W : Nat → aK} (hW : isW (tbX5_isOff l K X) cuX5_isOff J W) (n : Nat) (ls st : List aV) (μ : aM) (g : Nat) : W (n + 1) 15 ls st μ g = (sIf pLe 62 18) (W n) ls st μ g := (hW n 15 ls st μ g).trans rfl
theorem wX5_isOff_18 {l : Launch} {K : aRs} {X : aXs} {J : aK} {W : Nat → aK} (hW : isW (tbX5_isOff l K X) cuX5_isOff J W) (n : Nat) (ls st : List aV) (μ : aM) (g : Nat) : W (n + 1) 18 ls st μ g = (sLd 0 19 isR) (W n) ls st μ g := (hW n 18 ls st μ g).trans rfl
theorem wX5_isOff_19 {l : Launch} {K : aRs} {X : aXs} {J : aK} {W : Nat → aK} (hW : isW (tbX5_isOff l K X) cuX5_isOff J W) (n : Nat) (ls st : List aV) (μ : aM) (g : Nat) : W (n + 1) 19 ls st μ g = (sGetR 5 1 22) (W n) ls st μ g := (hW n 19 ls st μ g).trans rfl
theorem wX5_isOff_22 {l : Launch} {K : aRs} {X : aXs} {J : aK} {W : Nat → aK} (hW : isW (tbX5_isOff l K X) cuX5_isOff J W) (n : Nat) (ls st : List aV) (μ : aM) (g : Nat) : W (n + 1) 22 ls st μ g = (sLd 1 23 isI) (W n) ls st μ g := (hW n 22 ls st μ g).trans rfl
theorem wX5_isOff_23 {l : Launch} {K : aRs} {X : aXs} {J : aK} {W : Nat → aK} (hW : isW (tbX5_isOff l K X) cuX5_isOff J W) (n : Nat) (ls st : List aV) (μ : aM) (g : Nat) : W (n + 1) 23 ls st μ g = (sAldI 6 24) (W n) ls st μ g := (hW n 23 ls st μ g).trans rfl
theorem wX5_isOff_24 {l : Launch} {K : aRs} {X : aXs} {J : aK} {W : Nat → aK} (hW : isW (tbX5_isOff l K X) cuX5_isOff J W) (n : Nat) (ls st : List aV) (μ : aM) (g : Nat) : W (n + 1) 24 ls st μ g = (sPush (aI 98) 26) (W n) ls st μ g := (hW n 24 ls st μ g).trans rfl
theorem wX5_isOff_26 {l : Launch} {K : aRs} {X : aXs} {J : aK} {W : Nat → aK} (hW : isW (tbX5_isOff l K X) cuX5_isOff J W) (n : Nat) (ls st : List aV) (μ : aM) (g : Nat) : W (n + 1) 26 ls st μ g = (sIc qNe 45 29) (W n) ls st μ g := (hW n 26 ls st μ g).trans rfl
theorem wX5_isOff_29 {l : Launch} {K : aRs} {X : aXs} {J : aK} {W : Nat → aK} (hW : isW (tbX5_isOff l K X) cuX5_isOff J W) (n : Nat) (ls st : List aV) (μ : aM) (g : Nat) : W (n + 1) 29 ls st μ g = (sLd 0 30 isR) (W n) ls st μ g := (hW n 29 ls st μ g).trans rfl
theorem wX5_isOff_30 {l : Launch} {K : aRs} {X : aXs} {J : aK} {W : Nat → aK} (hW : isW (tbX5_isOff l K X) cuX5_isOff J W) (n : Nat) (ls st : List aV) (μ : aM) (g : Nat) : W (n + 1) 30 ls st μ g = (sGetI 5 18 33) (W n) ls st μ g := (hW n 30 ls st μ g).trans rfl
theorem wX5_isOff_33 {l : Launch} {K : aRs} {X : aXs} {J : aK} {W : Nat → aK} (hW : isW (tbX5_isOff l K X) cuX5_isOff J W) (n : Nat) (ls st : List aV) (μ : aM) (g : Nat) : W (n + 1) 33 ls st μ g = (sLd 0 34 isR) (W n) ls st μ g := (hW n 33 ls st μ g).trans rfl
theorem wX5_isOff_34 {l : Launch} {K : aRs} {X : aXs} {J : aK} {W : Nat → aK} (hW : isW (tbX5_isOff l K X) cuX5_isOff J W) (n : Nat) (ls st : List aV) (μ : aM) (g : Nat) : W (n + 1) 34 ls st μ g = (sGetR 5 5 37) (W n) ls st μ g := (hW n 34 ls st μ g).trans rfl
theorem wX5_isOff_37 {l : Launch} {K : aRs} {X : aXs} {J : aK} {W : Nat → aK} (hW : isW (tbX5_isOff l K X) cuX5_isOff J W) (n : Nat) (ls st : List aV) (μ : aM) (g : Nat) : W (n + 1) 37 ls st μ g = (sLd 1 38 isI) (W n) ls st μ g := (hW n 37 ls st μ g).trans rfl
theorem wX5_isOff_38 {l : Launch} {K : aRs} {X : aXs} {J : aK} {W : Nat → aK} (hW : isW (tbX5_isOff l K X) cuX5_isOff J W) (n : Nat) (ls st : List aV) (μ : aM) (g : Nat) : W (n + 1) 38 ls st μ g = (sAldI 7 39) (W n) ls st μ g := (hW n 38 ls st μ g).trans rfl
theorem wX5_isOff_39 {l : Launch} {K : aRs} {X : aXs} {J : aK} {W : Nat → aK} (hW : isW (tbX5_isOff l K X) cuX5_isOff J W) (n : Nat) (ls st : List aV) (μ : aM) (g : Nat) : W (n + 1) 39 ls st μ g = (sIc qLt 62 42) (W n) ls st μ g := (hW n 39 ls st μ g).trans rfl
theorem wX5_isOff_42 {l : Launch} {K : aRs} {X : aXs} {J : aK} {W : Nat → aK} (hW : isW (tbX5_isOff l K X) cuX5_isOff J W) (n : Nat) (ls st : List aV) (μ : aM) (g : Nat) : W (n + 1) 42 ls st μ g = (sGoto 58) (W n) ls st μ g := (hW n 42 ls st μ g).trans rfl
theorem wX5_isOff_45 {l : Launch} {K : aRs} {X : aXs} {J : aK} {W : Nat → aK} (hW : isW (tbX5_isOff l K X) cuX5_isOff J W) (n : Nat) (ls st : List aV) (μ : aM) (g : Nat) : W (n + 1) 45 ls st μ g = (sLd 0 46 isR) (W n) ls st μ g := (hW n 45 ls st μ g).trans rfl
theorem wX5_isOff_46 {l : Launch} {K : aRs} {X : aXs} {J : aK} {W : Nat → aK} (hW : isW (tbX5_isOff l K X) cuX5_isOff J W) (n : Nat) (ls st : List aV) (μ : aM) (g : Nat) : W (n + 1) 46 ls st μ g = (sGetI 5 18 49) (W n) ls st μ g := (hW n 46 ls st μ g).trans rfl
theorem wX5_isOff_49 {l : Launch} {K : aRs} {X : aXs} {J : aK} {W : Nat → aK} (hW : isW (tbX5_isOff l K X) cuX5_isOff J W) (n : Nat) (ls st : List aV) (μ : aM) (g : Nat) : W (n + 1) 49 ls st μ g = (sLd 0 50 isR) (W n) ls st μ g := (hW n 49 ls st μ g).trans rfl
theorem wX5_isOff_50 {l : Launch} {K : aRs} {X : aXs} {J : aK} {W : Nat → aK} (hW : isW (tbX5_isOff l K X) cuX5_isOff J W) (n : Nat) (ls st : List aV) (μ : aM) (g : Nat) : W (n + 1) 50 ls st μ g = (sGetR 5 5 53) (W n) ls st μ g := (hW n 50 ls st μ g).trans rfl
theorem wX5_isOff_53 {l : Launch} {K : aRs} {X : aXs} {J : aK} {W : Nat → aK} (hW : isW (tbX5_isOff l K X) cuX5_isOff J W) (n : Nat) (ls st : List aV) (μ : aM) (g : Nat) : W (n + 1) 53 ls st μ g = (sLd 1 54 isI) (W n) ls st μ g := (hW n 53 ls st μ g).trans rfl
theorem wX5_isOff_54 {l : Launch} {K : aRs} {X : aXs} {J : aK} {W : Nat → aK} (hW : isW (tbX5_isOff l K X) cuX5_isOff J W) (n : Nat) (ls st : List aV) (μ : aM) (g : Nat) : W (n + 1) 54 ls st μ g = (sAldI 7 55) (W n) ls st μ g := (hW n 54 ls st μ g).trans rfl
theorem wX5_isOff_55 {l : Launch} {K : aRs} {X : aXs} {J : aK} {W : Nat → aK} (hW : isW (tbX5_isOff l K X) cuX5_isOff J W) (n : Nat) (ls st : List aV) (μ : aM) (g : Nat) : W (n + 1) 55 ls st μ g = (sIc qGt 62 58) (W n) ls st μ g := (hW n 55 ls st μ g).trans rfl
theorem wX5_isOff_58 {l : Launch} {K : aRs} {X : aXs} {J : aK} {W : Nat → aK} (hW : isW (tbX5_isOff l K X) cuX5_isOff J W) (n : Nat) (ls st : List aV) (μ : aM) (g : Nat) : W (n + 1) 58 ls st μ g = (sPush (aI 1) 59) (W n) ls st μ g := (hW n 58 ls st μ g).trans rfl
theorem wX5_isOff_59 {l : Launch} {K : aRs} {X : aXs} {J : aK} {W : Nat → aK} (hW : isW (tbX5_isOff l K X) cuX5_isOff J W) (n : Nat) (ls st : List aV) (μ : aM) (g : Nat) : W (n + 1) 59 ls st μ g = (sGoto 63) (W n) ls st μ g := (hW n 59 ls st μ g).trans rfl
theorem wX5_isOff_62 {l : Launch} {K : aRs} {X : aXs} {J : aK} {W : Nat → aK} (hW : isW (tbX5_isOff l K X) cuX5_isOff J W) (n : Nat) (ls st : List aV) (μ : aM) (g : Nat) : W (n + 1) 62 ls st μ g = (sPush (aI 0) 63) (W n) ls st μ g := (hW n 62 ls st μ g).trans rfl
theorem wX5_isOff_63 {l : Launch} {K : aRs} {X : aXs} {J : aK} {W : Nat → aK} (hW : isW (tbX5_isOff l K X) cuX5_isOff J W) (n : Nat) (ls st : List aV) (μ : aM) (g : Nat) : W (n + 1) 63 ls st μ g = (sRetI .boolean 0 K) (W n) ls st μ g := (hW n 63 ls st μ g).trans rfl
theorem dX5_setsOff_0 : decode cX5_setsOff 0 = .ok (.iconst 0, 1) := by decide +kernel
theorem dX5_setsOff_1 : decode cX5_setsOff 1 = .ok (.istore_n 1, 1) := by decide +kernel
theorem dX5_setsOff_2 : decode cX5_setsOff 2 = .ok (.iload_n 1, 1) := by decide +kernel
theorem dX5_setsOff_3 : decode cX5_setsOff 3 = .ok (.aload_n 0, 1) := by decide +kernel
theorem dX5_setsOff_4 : decode cX5_setsOff 4 = .ok (.getfield 68, 3) := by decide +kernel
theorem dX5_setsOff_7 : decode cX5_setsOff 7 = .ok (.if_icmp .ge 46, 3) := by decide +kernel
theorem dX5_setsOff_10 : decode cX5_setsOff 10 = .ok (.aload_n 0, 1) := by decide +kernel
theorem dX5_setsOff_11 : decode cX5_setsOff 11 = .ok (.getfield 110, 3) := by decide +kernel
theorem dX5_setsOff_14 : decode cX5_setsOff 14 = .ok (.ifCond .ne 39, 3) := by decide +kernel
theorem dX5_setsOff_17 : decode cX5_setsOff 17 = .ok (.aload_n 0, 1) := by decide +kernel
theorem dX5_setsOff_18 : decode cX5_setsOff 18 = .ok (.iload_n 1, 1) := by decide +kernel
theorem dX5_setsOff_19 : decode cX5_setsOff 19 = .ok (.invokevirtual 131, 3) := by decide +kernel
theorem dX5_setsOff_22 : decode cX5_setsOff 22 = .ok (.ifCond .ne 6, 3) := by decide +kernel
theorem dX5_setsOff_25 : decode cX5_setsOff 25 = .ok (.goto 22, 3) := by decide +kernel
theorem dX5_setsOff_28 : decode cX5_setsOff 28 = .ok (.aload_n 0, 1) := by decide +kernel
theorem dX5_setsOff_29 : decode cX5_setsOff 29 = .ok (.getfield 35, 3) := by decide +kernel
theorem dX5_setsOff_32 : decode cX5_setsOff 32 = .ok (.iload_n 1, 1) := by decide +kernel
theorem dX5_setsOff_33 : decode cX5_setsOff 33 = .ok (.aload_n 0, 1) := by decide +kernel
theorem dX5_setsOff_34 : decode cX5_setsOff 34 = .ok (.getfield 29, 3) := by decide +kernel
theorem dX5_setsOff_37 : decode cX5_setsOff 37 = .ok (.iload_n 1, 1) := by decide +kernel
theorem dX5_setsOff_38 : decode cX5_setsOff 38 = .ok (.iaload, 1) := by decide +kernel
theorem dX5_setsOff_39 : decode cX5_setsOff 39 = .ok (.iastore, 1) := by decide +kernel
theorem dX5_setsOff_40 : decode cX5_setsOff 40 = .ok (.aload_n 0, 1) := by decide +kernel
theorem dX5_setsOff_41 : decode cX5_setsOff 41 = .ok (.iload_n 1, 1) := by decide +kernel
theorem dX5_setsOff_42 : decode cX5_setsOff 42 = .ok (.invokevirtual 134, 3) := by decide +kernel
theorem dX5_setsOff_45 : decode cX5_setsOff 45 = .ok (.iconst (-1), 1) := by decide +kernel
theorem dX5_setsOff_46 : decode cX5_setsOff 46 = .ok (.istore_n 1, 1) := by decide +kernel
theorem dX5_setsOff_47 : decode cX5_setsOff 47 = .ok (.iinc 1 1, 3) := by decide +kernel
theorem dX5_setsOff_50 : decode cX5_setsOff 50 = .ok (.goto (-48), 3) := by decide +kernel
theorem dX5_setsOff_53 : decode cX5_setsOff 53 = .ok (.return_, 1) := by decide +kernel
def tbX5_setsOff (l : Launch) (K : aRs) (X : aXs) : aTb := [
  (0, sPush (aI 0) 1),
  (1, sSt 1 2 isI),
  (2, sLd 1 3 isI),
  (3, sLd 0 4 isR),
  (4, sGetI 5 0 7),
  (7, sIc qGe 53 10),
  (10, sLd 0 11 isR),
  (11, sGetI 5 23 14),
  (14, sIf pNe 53 17),
  (17, sLd 0 18 isR),
  (18, sLd 1 19 isI),
  (19, sCallV 1 5 (fun as μ K => Ct l mdX5_isOff as μ K X) 22 0 0),
  (22, sIf pNe 28 25),
  (25, sGoto 47),
  (28, sLd 0 29 isR),
  (29, sGetR 5 9 32),
  (32, sLd 1 33 isI),
  (33, sLd 0 34 isR),
  (34, sGetR 5 7 37),
  (37, sLd 1 38 isI),
  (38, sAldI 7 39),
  (39, sAstI 40),
  (40, sLd 0 41 isR),
  (41, sLd 1 42 isI),
  (42, sCallV 1 5 (fun as μ K => Ct l mdX5_comes as μ K X) 45 0 0),
  (45, sPush (aI (-1)) 46),
  (46, sSt 1 47 isI),
  (47, sInc 1 1 50),
  (50, sGoto 2),
  (53, sRetV 0 K)]
theorem snX5_setsOff (l : Launch) (K : aRs) (X : aXs) (n0 : Nat) : ∀ q ∈ tbX5_setsOff l K X, aSo l mdX5_setsOff K X n0 q.1 q.2 :=
  tc (fun p e s m args below meth c cA D A ad0 h => ok_iconst h.1 ⟨by decide, by decide⟩ dX5_setsOff_0) <|
  tc (fun p e s m args below meth c cA D A ad0 h => ok_istore_n h.1 1 rfl (by decide) dX5_setsOff_1) <|
  tc (fun p e s m args below meth c cA D A ad0 h => ok_iload_n h.1 1 rfl dX5_setsOff_2) <|
  tc (fun p e s m args below meth c cA D A ad0 h => ok_aload_n h.1 0 rfl dX5_setsOff_3) <|
  tc (fun p e s m args below meth c cA D A ad0 h => ok_getI h.1 cxX5 (by decide) rfl fkRX5_68 (fun _ _ _ => rfl) dX5_setsOff_4) <|
  tc (fun p e s m args below meth c cA D A ad0 h => ok_icmp_ge h.1 53 (by decide) dX5_setsOff_7) <|
  tc (fun p e s m args below meth c cA D A ad0 h => ok_aload_n h.1 0 rfl dX5_setsOff_10) <|
  tc (fun p e s m args below meth c cA D A ad0 h => ok_getI h.1 cxX5 (by decide) rfl fkRX5_110 (fun _ _ _ => rfl) dX5_setsOff_11) <|
  tc (fun p e s m args below meth c cA D A ad0 h => ok_if_ne h.1 53 (by decide) dX5_setsOff_14) <|
  tc (fun p e s m args below meth c cA D A ad0 h => ok_aload_n h.1 0 rfl dX5_setsOff_17) <|
  tc (fun p e s m args below meth c cA D A ad0 h => ok_iload_n h.1 1 rfl dX5_setsOff_18) <|
  tc (fun p e s m args below meth c cA D A ad0 h => ok_callV h.1 h.2.1 ⟨Nat.le_refl _, Nat.le_refl _⟩ mdX5_isOff siX5_isOff cxX5 mkRX5_131 imX5_isOff seX5_isOff ⟨by decide, by decide⟩ (aAx_out h.1 h.2.2.1 _) dX5_setsOff_19) <|
  tc (fun p e s m args below meth c cA D A ad0 h => ok_if_ne h.1 28 (by decide) dX5_setsOff_22) <|
  tc (fun p e s m args below meth c cA D A ad0 h => ok_goto h.1 47 (by decide) dX5_setsOff_25) <|
  tc (fun p e s m args below meth c cA D A ad0 h => ok_aload_n h.1 0 rfl dX5_setsOff_28) <|
  tc (fun p e s m args below meth c cA D A ad0 h => ok_getR h.1 cxX5 (by decide) rfl fkRX5_35 (fun _ _ _ => rfl) dX5_setsOff_29) <|
  tc (fun p e s m args below meth c cA D A ad0 h => ok_iload_n h.1 1 rfl dX5_setsOff_32) <|
  tc (fun p e s m args below meth c cA D A ad0 h => ok_aload_n h.1 0 rfl dX5_setsOff_33) <|
  tc (fun p e s m args below meth c cA D A ad0 h => ok_getR h.1 cxX5 (by decide) rfl fkRX5_29 (fun _ _ _ => rfl) dX5_setsOff_34) <|
  tc (fun p e s m args below meth c cA D A ad0 h => ok_iload_n h.1 1 rfl dX5_setsOff_37) <|
  tc (fun p e s m args below meth c cA D A ad0 h => ok_iald h.1 dX5_setsOff_38) <|
  tc (fun p e s m args below meth c cA D A ad0 h => ok_iast h.1 dX5_setsOff_39) <|
  tc (fun p e s m args below meth c cA D A ad0 h => ok_aload_n h.1 0 rfl dX5_setsOff_40) <|
  tc (fun p e s m args below meth c cA D A ad0 h => ok_iload_n h.1 1 rfl dX5_setsOff_41) <|
  tc (fun p e s m args below meth c cA D A ad0 h => ok_callV h.1 h.2.1 ⟨Nat.le_refl _, Nat.le_refl _⟩ mdX5_comes siX5_comes cxX5 mkRX5_134 imX5_comes seX5_comes ⟨by decide, by decide⟩ (aAx_out h.1 h.2.2.1 _) dX5_setsOff_42) <|
  tc (fun p e s m args below meth c cA D A ad0 h => ok_iconst h.1 ⟨by decide, by decide⟩ dX5_setsOff_45) <|
  tc (fun p e s m args below meth c cA D A ad0 h => ok_istore_n h.1 1 rfl (by decide) dX5_setsOff_46) <|
  tc (fun p e s m args below meth c cA D A ad0 h => ok_iinc h.1 (by decide) dX5_setsOff_47) <|
  tc (fun p e s m args below meth c cA D A ad0 h => ok_goto h.1 2 (by decide) dX5_setsOff_50) <|
  tc (fun p e s m args below meth c cA D A ad0 h => ok_return h.1 h.2.2.2.1 dX5_setsOff_53) <|
  tn
abbrev cuX5_setsOff : List Nat := [2, 22, 45]
theorem tX5_setsOff_0 (l : Launch) (K : aRs) (X : aXs) : tb (tbX5_setsOff l K X) 0 = sPush (aI 0) 1 := (rfl)
theorem wX5_setsOff_0 {l : Launch} {K : aRs} {X : aXs} {J : aK} {W : Nat → aK} (hW : isW (tbX5_setsOff l K X) cuX5_setsOff J W) (n : Nat) (ls st : List aV) (μ : aM) (g : Nat) : W (n + 1) 0 ls st μ g = (sPush (aI 0) 1) (W n) ls st μ g := (hW n 0 ls st μ g).trans rfl
theorem wX5_setsOff_1 {l : Launch} {K : aRs} {X : aXs} {J : aK} {W : Nat → aK} (hW : isW (tbX5_setsOff l K X) cuX5_setsOff J W) (n : Nat) (ls st : List aV) (μ : aM) (g : Nat) : W (n + 1) 1 ls st μ g = (sSt 1 2 isI) (W n) ls st μ g := (hW n 1 ls st μ g).trans rfl
theorem tX5_setsOff_2 (l : Launch) (K : aRs) (X : aXs) : tb (tbX5_setsOff l K X) 2 = sLd 1 3 isI := (rfl)
theorem wX5_setsOff_2 {l : Launch} {K : aRs} {X : aXs} {J : aK} {W : Nat → aK} (hW : isW (tbX5_setsOff l K X) cuX5_setsOff J W) (n : Nat) (ls st : List aV) (μ : aM) (g : Nat) : W (n + 1) 2 ls st μ g = J 2 ls st μ g := (hW n 2 ls st μ g).trans rfl
theorem wX5_setsOff_3 {l : Launch} {K : aRs} {X : aXs} {J : aK} {W : Nat → aK} (hW : isW (tbX5_setsOff l K X) cuX5_setsOff J W) (n : Nat) (ls st : List aV) (μ : aM) (g : Nat) : W (n + 1) 3 ls st μ g = (sLd 0 4 isR) (W n) ls st μ g := (hW n 3 ls st μ g).trans rfl
theorem wX5_setsOff_4 {l : Launch} {K : aRs} {X : aXs} {J : aK} {W : Nat → aK} (hW : isW (tbX5_setsOff l K X) cuX5_setsOff J W) (n : Nat) (ls st : List aV) (μ : aM) (g : Nat) : W (n + 1) 4 ls st μ g = (sGetI 5 0 7) (W n) ls st μ g := (hW n 4 ls st μ g).trans rfl
theorem wX5_setsOff_7 {l : Launch} {K : aRs} {X : aXs} {J : aK} {W : Nat → aK} (hW : isW (tbX5_setsOff l K X) cuX5_setsOff J W) (n : Nat) (ls st : List aV) (μ : aM) (g : Nat) : W (n + 1) 7 ls st μ g = (sIc qGe 53 10) (W n) ls st μ g := (hW n 7 ls st μ g).trans rfl
theorem wX5_setsOff_10 {l : Launch} {K : aRs} {X : aXs} {J : aK} {W : Nat → aK} (hW : isW (tbX5_setsOff l K X) cuX5_setsOff J W) (n : Nat) (ls st : List aV) (μ : aM) (g : Nat) : W (n + 1) 10 ls st μ g = (sLd 0 11 isR) (W n) ls st μ g := (hW n 10 ls st μ g).trans rfl
theorem wX5_setsOff_11 {l : Launch} {K : aRs} {X : aXs} {J : aK} {W : Nat → aK} (hW : isW (tbX5_setsOff l K X) cuX5_setsOff J W) (n : Nat) (ls st : List aV) (μ : aM) (g : Nat) : W (n + 1) 11 ls st μ g = (sGetI 5 23 14) (W n) ls st μ g := (hW n 11 ls st μ g).trans rfl
theorem wX5_setsOff_14 {l : Launch} {K : aRs} {X : aXs} {J : aK} {W : Nat → aK} (hW : isW (tbX5_setsOff l K X) cuX5_setsOff J W) (n : Nat) (ls st : List aV) (μ : aM) (g : Nat) : W (n + 1) 14 ls st μ g = (sIf pNe 53 17) (W n) ls st μ g := (hW n 14 ls st μ g).trans rfl
theorem wX5_setsOff_17 {l : Launch} {K : aRs} {X : aXs} {J : aK} {W : Nat → aK} (hW : isW (tbX5_setsOff l K X) cuX5_setsOff J W) (n : Nat) (ls st : List aV) (μ : aM) (g : Nat) : W (n + 1) 17 ls st μ g = (sLd 0 18 isR) (W n) ls st μ g := (hW n 17 ls st μ g).trans rfl
theorem wX5_setsOff_18 {l : Launch} {K : aRs} {X : aXs} {J : aK} {W : Nat → aK} (hW : isW (tbX5_setsOff l K X) cuX5_setsOff J W) (n : Nat) (ls st : List aV) (μ : aM) (g : Nat) : W (n + 1) 18 ls st μ g = (sLd 1 19 isI) (W n) ls st μ g := (hW n 18 ls st μ g).trans rfl
theorem wX5_setsOff_19 {l : Launch} {K : aRs} {X : aXs} {J : aK} {W : Nat → aK} (hW : isW (tbX5_setsOff l K X) cuX5_setsOff J W) (n : Nat) (ls st : List aV) (μ : aM) (g : Nat) : W (n + 1) 19 ls st μ g = (sCallV 1 5 (fun as μ K => Ct l mdX5_isOff as μ K X) 22 0 0) (W n) ls st μ g := (hW n 19 ls st μ g).trans rfl
theorem tX5_setsOff_22 (l : Launch) (K : aRs) (X : aXs) : tb (tbX5_setsOff l K X) 22 = sIf pNe 28 25 := (rfl)
theorem wX5_setsOff_22 {l : Launch} {K : aRs} {X : aXs} {J : aK} {W : Nat → aK} (hW : isW (tbX5_setsOff l K X) cuX5_setsOff J W) (n : Nat) (ls st : List aV) (μ : aM) (g : Nat) : W (n + 1) 22 ls st μ g = J 22 ls st μ g := (hW n 22 ls st μ g).trans rfl
theorem wX5_setsOff_25 {l : Launch} {K : aRs} {X : aXs} {J : aK} {W : Nat → aK} (hW : isW (tbX5_setsOff l K X) cuX5_setsOff J W) (n : Nat) (ls st : List aV) (μ : aM) (g : Nat) : W (n + 1) 25 ls st μ g = (sGoto 47) (W n) ls st μ g := (hW n 25 ls st μ g).trans rfl
theorem wX5_setsOff_28 {l : Launch} {K : aRs} {X : aXs} {J : aK} {W : Nat → aK} (hW : isW (tbX5_setsOff l K X) cuX5_setsOff J W) (n : Nat) (ls st : List aV) (μ : aM) (g : Nat) : W (n + 1) 28 ls st μ g = (sLd 0 29 isR) (W n) ls st μ g := (hW n 28 ls st μ g).trans rfl
theorem wX5_setsOff_29 {l : Launch} {K : aRs} {X : aXs} {J : aK} {W : Nat → aK} (hW : isW (tbX5_setsOff l K X) cuX5_setsOff J W) (n : Nat) (ls st : List aV) (μ : aM) (g : Nat) : W (n + 1) 29 ls st μ g = (sGetR 5 9 32) (W n) ls st μ g := (hW n 29 ls st μ g).trans rfl
theorem wX5_setsOff_32 {l : Launch} {K : aRs} {X : aXs} {J : aK} {W : Nat → aK} (hW : isW (tbX5_setsOff l K X) cuX5_setsOff J W) (n : Nat) (ls st : List aV) (μ : aM) (g : Nat) : W (n + 1) 32 ls st μ g = (sLd 1 33 isI) (W n) ls st μ g := (hW n 32 ls st μ g).trans rfl
theorem wX5_setsOff_33 {l : Launch} {K : aRs} {X : aXs} {J : aK} {W : Nat → aK} (hW : isW (tbX5_setsOff l K X) cuX5_setsOff J W) (n : Nat) (ls st : List aV) (μ : aM) (g : Nat) : W (n + 1) 33 ls st μ g = (sLd 0 34 isR) (W n) ls st μ g := (hW n 33 ls st μ g).trans rfl
theorem wX5_setsOff_34 {l : Launch} {K : aRs} {X : aXs} {J : aK} {W : Nat → aK} (hW : isW (tbX5_setsOff l K X) cuX5_setsOff J W) (n : Nat) (ls st : List aV) (μ : aM) (g : Nat) : W (n + 1) 34 ls st μ g = (sGetR 5 7 37) (W n) ls st μ g := (hW n 34 ls st μ g).trans rfl
theorem wX5_setsOff_37 {l : Launch} {K : aRs} {X : aXs} {J : aK} {W : Nat → aK} (hW : isW (tbX5_setsOff l K X) cuX5_setsOff J W) (n : Nat) (ls st : List aV) (μ : aM) (g : Nat) : W (n + 1) 37 ls st μ g = (sLd 1 38 isI) (W n) ls st μ g := (hW n 37 ls st μ g).trans rfl
theorem wX5_setsOff_38 {l : Launch} {K : aRs} {X : aXs} {J : aK} {W : Nat → aK} (hW : isW (tbX5_setsOff l K X) cuX5_setsOff J W) (n : Nat) (ls st : List aV) (μ : aM) (g : Nat) : W (n + 1) 38 ls st μ g = (sAldI 7 39) (W n) ls st μ g := (hW n 38 ls st μ g).trans rfl
theorem wX5_setsOff_39 {l : Launch} {K : aRs} {X : aXs} {J : aK} {W : Nat → aK} (hW : isW (tbX5_setsOff l K X) cuX5_setsOff J W) (n : Nat) (ls st : List aV) (μ : aM) (g : Nat) : W (n + 1) 39 ls st μ g = (sAstI 40) (W n) ls st μ g := (hW n 39 ls st μ g).trans rfl
theorem wX5_setsOff_40 {l : Launch} {K : aRs} {X : aXs} {J : aK} {W : Nat → aK} (hW : isW (tbX5_setsOff l K X) cuX5_setsOff J W) (n : Nat) (ls st : List aV) (μ : aM) (g : Nat) : W (n + 1) 40 ls st μ g = (sLd 0 41 isR) (W n) ls st μ g := (hW n 40 ls st μ g).trans rfl
theorem wX5_setsOff_41 {l : Launch} {K : aRs} {X : aXs} {J : aK} {W : Nat → aK} (hW : isW (tbX5_setsOff l K X) cuX5_setsOff J W) (n : Nat) (ls st : List aV) (μ : aM) (g : Nat) : W (n + 1) 41 ls st μ g = (sLd 1 42 isI) (W n) ls st μ g := (hW n 41 ls st μ g).trans rfl
theorem wX5_setsOff_42 {l : Launch} {K : aRs} {X : aXs} {J : aK} {W : Nat → aK} (hW : isW (tbX5_setsOff l K X) cuX5_setsOff J W) (n : Nat) (ls st : List aV) (μ : aM) (g : Nat) : W (n + 1) 42 ls st μ g = (sCallV 1 5 (fun as μ K => Ct l mdX5_comes as μ K X) 45 0 0) (W n) ls st μ g := (hW n 42 ls st μ g).trans rfl
theorem tX5_setsOff_45 (l : Launch) (K : aRs) (X : aXs) : tb (tbX5_setsOff l K X) 45 = sPush (aI (-1)) 46 := (rfl)
theorem wX5_setsOff_45 {l : Launch} {K : aRs} {X : aXs} {J : aK} {W : Nat → aK} (hW : isW (tbX5_setsOff l K X) cuX5_setsOff J W) (n : Nat) (ls st : List aV) (μ : aM) (g : Nat) : W (n + 1) 45 ls st μ g = J 45 ls st μ g := (hW n 45 ls st μ g).trans rfl
theorem wX5_setsOff_46 {l : Launch} {K : aRs} {X : aXs} {J : aK} {W : Nat → aK} (hW : isW (tbX5_setsOff l K X) cuX5_setsOff J W) (n : Nat) (ls st : List aV) (μ : aM) (g : Nat) : W (n + 1) 46 ls st μ g = (sSt 1 47 isI) (W n) ls st μ g := (hW n 46 ls st μ g).trans rfl
theorem wX5_setsOff_47 {l : Launch} {K : aRs} {X : aXs} {J : aK} {W : Nat → aK} (hW : isW (tbX5_setsOff l K X) cuX5_setsOff J W) (n : Nat) (ls st : List aV) (μ : aM) (g : Nat) : W (n + 1) 47 ls st μ g = (sInc 1 1 50) (W n) ls st μ g := (hW n 47 ls st μ g).trans rfl
theorem wX5_setsOff_50 {l : Launch} {K : aRs} {X : aXs} {J : aK} {W : Nat → aK} (hW : isW (tbX5_setsOff l K X) cuX5_setsOff J W) (n : Nat) (ls st : List aV) (μ : aM) (g : Nat) : W (n + 1) 50 ls st μ g = (sGoto 2) (W n) ls st μ g := (hW n 50 ls st μ g).trans rfl
theorem wX5_setsOff_53 {l : Launch} {K : aRs} {X : aXs} {J : aK} {W : Nat → aK} (hW : isW (tbX5_setsOff l K X) cuX5_setsOff J W) (n : Nat) (ls st : List aV) (μ : aM) (g : Nat) : W (n + 1) 53 ls st μ g = (sRetV 0 K) (W n) ls st μ g := (hW n 53 ls st μ g).trans rfl
theorem dX5_send_0 : decode cX5_send 0 = .ok (.aload_n 0, 1) := by decide +kernel
theorem dX5_send_1 : decode cX5_send 1 = .ok (.iload_n 1, 1) := by decide +kernel
theorem dX5_send_2 : decode cX5_send 2 = .ok (.iconst 0, 1) := by decide +kernel
theorem dX5_send_3 : decode cX5_send 3 = .ok (.iconst 5, 1) := by decide +kernel
theorem dX5_send_4 : decode cX5_send 4 = .ok (.invokestatic 64, 3) := by decide +kernel
theorem dX5_send_7 : decode cX5_send 7 = .ok (.ifCond .eq 39, 3) := by decide +kernel
theorem dX5_send_10 : decode cX5_send 10 = .ok (.iload_n 2, 1) := by decide +kernel
theorem dX5_send_11 : decode cX5_send 11 = .ok (.invokestatic 137, 3) := by decide +kernel
theorem dX5_send_14 : decode cX5_send 14 = .ok (.ifCond .eq 32, 3) := by decide +kernel
theorem dX5_send_17 : decode cX5_send 17 = .ok (.iload_n 3, 1) := by decide +kernel
theorem dX5_send_18 : decode cX5_send 18 = .ok (.invokestatic 141, 3) := by decide +kernel
theorem dX5_send_21 : decode cX5_send 21 = .ok (.ifCond .eq 25, 3) := by decide +kernel
theorem dX5_send_24 : decode cX5_send 24 = .ok (.iload 4, 2) := by decide +kernel
theorem dX5_send_26 : decode cX5_send 26 = .ok (.iconst 1, 1) := by decide +kernel
theorem dX5_send_27 : decode cX5_send 27 = .ok (.bipush 99, 2) := by decide +kernel
theorem dX5_send_29 : decode cX5_send 29 = .ok (.invokestatic 64, 3) := by decide +kernel
theorem dX5_send_32 : decode cX5_send 32 = .ok (.ifCond .eq 14, 3) := by decide +kernel
theorem dX5_send_35 : decode cX5_send 35 = .ok (.iload 5, 2) := by decide +kernel
theorem dX5_send_37 : decode cX5_send 37 = .ok (.iconst 1, 1) := by decide +kernel
theorem dX5_send_38 : decode cX5_send 38 = .ok (.bipush 99, 2) := by decide +kernel
theorem dX5_send_40 : decode cX5_send 40 = .ok (.invokestatic 64, 3) := by decide +kernel
theorem dX5_send_43 : decode cX5_send 43 = .ok (.ifCond .ne 7, 3) := by decide +kernel
theorem dX5_send_46 : decode cX5_send 46 = .ok (.iconst 1, 1) := by decide +kernel
theorem dX5_send_47 : decode cX5_send 47 = .ok (.goto 15, 3) := by decide +kernel
theorem dX5_send_50 : decode cX5_send 50 = .ok (.aload_n 0, 1) := by decide +kernel
theorem dX5_send_51 : decode cX5_send 51 = .ok (.invokevirtual 144, 3) := by decide +kernel
theorem dX5_send_54 : decode cX5_send 54 = .ok (.ifCond .eq 7, 3) := by decide +kernel
theorem dX5_send_57 : decode cX5_send 57 = .ok (.iconst 2, 1) := by decide +kernel
theorem dX5_send_58 : decode cX5_send 58 = .ok (.goto 4, 3) := by decide +kernel
theorem dX5_send_61 : decode cX5_send 61 = .ok (.iconst 0, 1) := by decide +kernel
theorem dX5_send_62 : decode cX5_send 62 = .ok (.invokevirtual 148, 3) := by decide +kernel
theorem dX5_send_65 : decode cX5_send 65 = .ok (.ifCond .eq 5, 3) := by decide +kernel
theorem dX5_send_68 : decode cX5_send 68 = .ok (.iconst 0, 1) := by decide +kernel
theorem dX5_send_69 : decode cX5_send 69 = .ok (.ireturn, 1) := by decide +kernel
theorem dX5_send_70 : decode cX5_send 70 = .ok (.aload_n 0, 1) := by decide +kernel
theorem dX5_send_71 : decode cX5_send 71 = .ok (.iload_n 1, 1) := by decide +kernel
theorem dX5_send_72 : decode cX5_send 72 = .ok (.iload_n 2, 1) := by decide +kernel
theorem dX5_send_73 : decode cX5_send 73 = .ok (.iconst 0, 1) := by decide +kernel
theorem dX5_send_74 : decode cX5_send 74 = .ok (.iload_n 3, 1) := by decide +kernel
theorem dX5_send_75 : decode cX5_send 75 = .ok (.iload 4, 2) := by decide +kernel
theorem dX5_send_77 : decode cX5_send 77 = .ok (.iload 5, 2) := by decide +kernel
theorem dX5_send_79 : decode cX5_send 79 = .ok (.invokevirtual 151, 3) := by decide +kernel
theorem dX5_send_82 : decode cX5_send 82 = .ok (.istore 6, 2) := by decide +kernel
theorem dX5_send_84 : decode cX5_send 84 = .ok (.aload_n 0, 1) := by decide +kernel
theorem dX5_send_85 : decode cX5_send 85 = .ok (.iload 6, 2) := by decide +kernel
theorem dX5_send_87 : decode cX5_send 87 = .ok (.invokevirtual 134, 3) := by decide +kernel
theorem dX5_send_90 : decode cX5_send 90 = .ok (.aload_n 0, 1) := by decide +kernel
theorem dX5_send_91 : decode cX5_send 91 = .ok (.invokevirtual 155, 3) := by decide +kernel
theorem dX5_send_94 : decode cX5_send 94 = .ok (.iload 6, 2) := by decide +kernel
theorem dX5_send_96 : decode cX5_send 96 = .ok (.ireturn, 1) := by decide +kernel
def tbX5_send (l : Launch) (K : aRs) (X : aXs) : aTb := [
  (0, sLd 0 1 isR),
  (1, sLd 1 2 isI),
  (2, sPush (aI 0) 3),
  (3, sPush (aI 5) 4),
  (4, sCallS 3 (fun as μ K => Ct l mdX5_in as μ K X) 7 0 0),
  (7, sIf pEq 46 10),
  (10, sLd 2 11 isI),
  (11, sCallS 1 (fun as μ K => Ct l mdX5_isSide as μ K X) 14 0 0),
  (14, sIf pEq 46 17),
  (17, sLd 3 18 isI),
  (18, sCallS 1 (fun as μ K => Ct l mdX5_isPrice as μ K X) 21 0 0),
  (21, sIf pEq 46 24),
  (24, sLd 4 26 isI),
  (26, sPush (aI 1) 27),
  (27, sPush (aI 99) 29),
  (29, sCallS 3 (fun as μ K => Ct l mdX5_in as μ K X) 32 0 0),
  (32, sIf pEq 46 35),
  (35, sLd 5 37 isI),
  (37, sPush (aI 1) 38),
  (38, sPush (aI 99) 40),
  (40, sCallS 3 (fun as μ K => Ct l mdX5_in as μ K X) 43 0 0),
  (43, sIf pNe 50 46),
  (46, sPush (aI 1) 47),
  (47, sGoto 62),
  (50, sLd 0 51 isR),
  (51, sCallV 0 5 (fun as μ K => Ct l mdX5_isFull as μ K X) 54 0 0),
  (54, sIf pEq 61 57),
  (57, sPush (aI 2) 58),
  (58, sGoto 62),
  (61, sPush (aI 0) 62),
  (62, sCallV 1 5 (fun as μ K => Ct l mdX5_fails as μ K X) 65 0 0),
  (65, sIf pEq 70 68),
  (68, sPush (aI 0) 69),
  (69, sRetI .int 0 K),
  (70, sLd 0 71 isR),
  (71, sLd 1 72 isI),
  (72, sLd 2 73 isI),
  (73, sPush (aI 0) 74),
  (74, sLd 3 75 isI),
  (75, sLd 4 77 isI),
  (77, sLd 5 79 isI),
  (79, sCallV 6 5 (fun as μ K => Ct l mdX5_adds as μ K X) 82 0 0),
  (82, sSt 6 84 isI),
  (84, sLd 0 85 isR),
  (85, sLd 6 87 isI),
  (87, sCallV 1 5 (fun as μ K => Ct l mdX5_comes as μ K X) 90 0 0),
  (90, sLd 0 91 isR),
  (91, sCallV 0 5 (fun as μ K => Ct l mdX5_setsOff as μ K X) 94 0 0),
  (94, sLd 6 96 isI),
  (96, sRetI .int 0 K)]
theorem snX5_send (l : Launch) (K : aRs) (X : aXs) (n0 : Nat) : ∀ q ∈ tbX5_send l K X, aSo l mdX5_send K X n0 q.1 q.2 :=
  tc (fun p e s m args below meth c cA D A ad0 h => ok_aload_n h.1 0 rfl dX5_send_0) <|
  tc (fun p e s m args below meth c cA D A ad0 h => ok_iload_n h.1 1 rfl dX5_send_1) <|
  tc (fun p e s m args below meth c cA D A ad0 h => ok_iconst h.1 ⟨by decide, by decide⟩ dX5_send_2) <|
  tc (fun p e s m args below meth c cA D A ad0 h => ok_iconst h.1 ⟨by decide, by decide⟩ dX5_send_3) <|
  tc (fun p e s m args below meth c cA D A ad0 h => ok_callS h.1 h.2.1 ⟨Nat.le_refl _, Nat.le_refl _⟩ mdX5_in siX5_in mkRX5_64 stX5_in ⟨by decide, by decide⟩ (aAx_out h.1 h.2.2.1 _) dX5_send_4) <|
  tc (fun p e s m args below meth c cA D A ad0 h => ok_if_eq h.1 46 (by decide) dX5_send_7) <|
  tc (fun p e s m args below meth c cA D A ad0 h => ok_iload_n h.1 2 rfl dX5_send_10) <|
  tc (fun p e s m args below meth c cA D A ad0 h => ok_callS h.1 h.2.1 ⟨Nat.le_refl _, Nat.le_refl _⟩ mdX5_isSide siX5_isSide mkRX5_137 stX5_isSide ⟨by decide, by decide⟩ (aAx_out h.1 h.2.2.1 _) dX5_send_11) <|
  tc (fun p e s m args below meth c cA D A ad0 h => ok_if_eq h.1 46 (by decide) dX5_send_14) <|
  tc (fun p e s m args below meth c cA D A ad0 h => ok_iload_n h.1 3 rfl dX5_send_17) <|
  tc (fun p e s m args below meth c cA D A ad0 h => ok_callS h.1 h.2.1 ⟨Nat.le_refl _, Nat.le_refl _⟩ mdX5_isPrice siX5_isPrice mkRX5_141 stX5_isPrice ⟨by decide, by decide⟩ (aAx_out h.1 h.2.2.1 _) dX5_send_18) <|
  tc (fun p e s m args below meth c cA D A ad0 h => ok_if_eq h.1 46 (by decide) dX5_send_21) <|
  tc (fun p e s m args below meth c cA D A ad0 h => ok_iload h.1 dX5_send_24) <|
  tc (fun p e s m args below meth c cA D A ad0 h => ok_iconst h.1 ⟨by decide, by decide⟩ dX5_send_26) <|
  tc (fun p e s m args below meth c cA D A ad0 h => ok_bipush h.1 ⟨by decide, by decide⟩ (by decide) dX5_send_27) <|
  tc (fun p e s m args below meth c cA D A ad0 h => ok_callS h.1 h.2.1 ⟨Nat.le_refl _, Nat.le_refl _⟩ mdX5_in siX5_in mkRX5_64 stX5_in ⟨by decide, by decide⟩ (aAx_out h.1 h.2.2.1 _) dX5_send_29) <|
  tc (fun p e s m args below meth c cA D A ad0 h => ok_if_eq h.1 46 (by decide) dX5_send_32) <|
  tc (fun p e s m args below meth c cA D A ad0 h => ok_iload h.1 dX5_send_35) <|
  tc (fun p e s m args below meth c cA D A ad0 h => ok_iconst h.1 ⟨by decide, by decide⟩ dX5_send_37) <|
  tc (fun p e s m args below meth c cA D A ad0 h => ok_bipush h.1 ⟨by decide, by decide⟩ (by decide) dX5_send_38) <|
  tc (fun p e s m args below meth c cA D A ad0 h => ok_callS h.1 h.2.1 ⟨Nat.le_refl _, Nat.le_refl _⟩ mdX5_in siX5_in mkRX5_64 stX5_in ⟨by decide, by decide⟩ (aAx_out h.1 h.2.2.1 _) dX5_send_40) <|
  tc (fun p e s m args below meth c cA D A ad0 h => ok_if_ne h.1 50 (by decide) dX5_send_43) <|
  tc (fun p e s m args below meth c cA D A ad0 h => ok_iconst h.1 ⟨by decide, by decide⟩ dX5_send_46) <|
  tc (fun p e s m args below meth c cA D A ad0 h => ok_goto h.1 62 (by decide) dX5_send_47) <|
  tc (fun p e s m args below meth c cA D A ad0 h => ok_aload_n h.1 0 rfl dX5_send_50) <|
  tc (fun p e s m args below meth c cA D A ad0 h => ok_callV h.1 h.2.1 ⟨Nat.le_refl _, Nat.le_refl _⟩ mdX5_isFull siX5_isFull cxX5 mkRX5_144 imX5_isFull seX5_isFull ⟨by decide, by decide⟩ (aAx_out h.1 h.2.2.1 _) dX5_send_51) <|
  tc (fun p e s m args below meth c cA D A ad0 h => ok_if_eq h.1 61 (by decide) dX5_send_54) <|
  tc (fun p e s m args below meth c cA D A ad0 h => ok_iconst h.1 ⟨by decide, by decide⟩ dX5_send_57) <|
  tc (fun p e s m args below meth c cA D A ad0 h => ok_goto h.1 62 (by decide) dX5_send_58) <|
  tc (fun p e s m args below meth c cA D A ad0 h => ok_iconst h.1 ⟨by decide, by decide⟩ dX5_send_61) <|
  tc (fun p e s m args below meth c cA D A ad0 h => ok_callV h.1 h.2.1 ⟨Nat.le_refl _, Nat.le_refl _⟩ mdX5_fails siX5_fails cxX5 mkRX5_148 imX5_fails seX5_fails ⟨by decide, by decide⟩ (aAx_out h.1 h.2.2.1 _) dX5_send_62) <|
  tc (fun p e s m args below meth c cA D A ad0 h => ok_if_eq h.1 70 (by decide) dX5_send_65) <|
  tc (fun p e s m args below meth c cA D A ad0 h => ok_iconst h.1 ⟨by decide, by decide⟩ dX5_send_68) <|
  tc (fun p e s m args below meth c cA D A ad0 h => ok_ireturn h.1 h.2.2.2.1 (Or.inl rfl) dX5_send_69) <|
  tc (fun p e s m args below meth c cA D A ad0 h => ok_aload_n h.1 0 rfl dX5_send_70) <|
  tc (fun p e s m args below meth c cA D A ad0 h => ok_iload_n h.1 1 rfl dX5_send_71) <|
  tc (fun p e s m args below meth c cA D A ad0 h => ok_iload_n h.1 2 rfl dX5_send_72) <|
  tc (fun p e s m args below meth c cA D A ad0 h => ok_iconst h.1 ⟨by decide, by decide⟩ dX5_send_73) <|
  tc (fun p e s m args below meth c cA D A ad0 h => ok_iload_n h.1 3 rfl dX5_send_74) <|
  tc (fun p e s m args below meth c cA D A ad0 h => ok_iload h.1 dX5_send_75) <|
  tc (fun p e s m args below meth c cA D A ad0 h => ok_iload h.1 dX5_send_77) <|
  tc (fun p e s m args below meth c cA D A ad0 h => ok_callV h.1 h.2.1 ⟨Nat.le_refl _, Nat.le_refl _⟩ mdX5_adds siX5_adds cxX5 mkRX5_151 imX5_adds seX5_adds ⟨by decide, by decide⟩ (aAx_out h.1 h.2.2.1 _) dX5_send_79) <|
  tc (fun p e s m args below meth c cA D A ad0 h => ok_istore h.1 (by decide) dX5_send_82) <|
  tc (fun p e s m args below meth c cA D A ad0 h => ok_aload_n h.1 0 rfl dX5_send_84) <|
  tc (fun p e s m args below meth c cA D A ad0 h => ok_iload h.1 dX5_send_85) <|
  tc (fun p e s m args below meth c cA D A ad0 h => ok_callV h.1 h.2.1 ⟨Nat.le_refl _, Nat.le_refl _⟩ mdX5_comes siX5_comes cxX5 mkRX5_134 imX5_comes seX5_comes ⟨by decide, by decide⟩ (aAx_out h.1 h.2.2.1 _) dX5_send_87) <|
  tc (fun p e s m args below meth c cA D A ad0 h => ok_aload_n h.1 0 rfl dX5_send_90) <|
  tc (fun p e s m args below meth c cA D A ad0 h => ok_callV h.1 h.2.1 ⟨Nat.le_refl _, Nat.le_refl _⟩ mdX5_setsOff siX5_setsOff cxX5 mkRX5_155 imX5_setsOff seX5_setsOff ⟨by decide, by decide⟩ (aAx_out h.1 h.2.2.1 _) dX5_send_91) <|
  tc (fun p e s m args below meth c cA D A ad0 h => ok_iload h.1 dX5_send_94) <|
  tc (fun p e s m args below meth c cA D A ad0 h => ok_ireturn h.1 h.2.2.2.1 (Or.inl rfl) dX5_send_96) <|
  tn
abbrev cuX5_send : List Nat := [7, 14, 21, 32, 43, 54, 65, 82, 90, 94]
theorem tX5_send_0 (l : Launch) (K : aRs) (X : aXs) : tb (tbX5_send l K X) 0 = sLd 0 1 isR := (rfl)
theorem wX5_send_0 {l : Launch} {K : aRs} {X : aXs} {J : aK} {W : Nat → aK} (hW : isW (tbX5_send l K X) cuX5_send J W) (n : Nat) (ls st : List aV) (μ : aM) (g : Nat) : W (n + 1) 0 ls st μ g = (sLd 0 1 isR) (W n) ls st μ g := (hW n 0 ls st μ g).trans rfl
theorem wX5_send_1 {l : Launch} {K : aRs} {X : aXs} {J : aK} {W : Nat → aK} (hW : isW (tbX5_send l K X) cuX5_send J W) (n : Nat) (ls st : List aV) (μ : aM) (g : Nat) : W (n + 1) 1 ls st μ g = (sLd 1 2 isI) (W n) ls st μ g := (hW n 1 ls st μ g).trans rfl
theorem wX5_send_2 {l : Launch} {K : aRs} {X : aXs} {J : aK} {W : Nat → aK} (hW : isW (tbX5_send l K X) cuX5_send J W) (n : Nat) (ls st : List aV) (μ : aM) (g : Nat) : W (n + 1) 2 ls st μ g = (sPush (aI 0) 3) (W n) ls st μ g := (hW n 2 ls st μ g).trans rfl
theorem wX5_send_3 {l : Launch} {K : aRs} {X : aXs} {J : aK} {W : Nat → aK} (hW : isW (tbX5_send l K X) cuX5_send J W) (n : Nat) (ls st : List aV) (μ : aM) (g : Nat) : W (n + 1) 3 ls st μ g = (sPush (aI 5) 4) (W n) ls st μ g := (hW n 3 ls st μ g).trans rfl
theorem wX5_send_4 {l : Launch} {K : aRs} {X : aXs} {J : aK} {W : Nat → aK} (hW : isW (tbX5_send l K X) cuX5_send J W) (n : Nat) (ls st : List aV) (μ : aM) (g : Nat) : W (n + 1) 4 ls st μ g = (sCallS 3 (fun as μ K => Ct l mdX5_in as μ K X) 7 0 0) (W n) ls st μ g := (hW n 4 ls st μ g).trans rfl
theorem tX5_send_7 (l : Launch) (K : aRs) (X : aXs) : tb (tbX5_send l K X) 7 = sIf pEq 46 10 := (rfl)
theorem wX5_send_7 {l : Launch} {K : aRs} {X : aXs} {J : aK} {W : Nat → aK} (hW : isW (tbX5_send l K X) cuX5_send J W) (n : Nat) (ls st : List aV) (μ : aM) (g : Nat) : W (n + 1) 7 ls st μ g = J 7 ls st μ g := (hW n 7 ls st μ g).trans rfl
theorem wX5_send_10 {l : Launch} {K : aRs} {X : aXs} {J : aK} {W : Nat → aK} (hW : isW (tbX5_send l K X) cuX5_send J W) (n : Nat) (ls st : List aV) (μ : aM) (g : Nat) : W (n + 1) 10 ls st μ g = (sLd 2 11 isI) (W n) ls st μ g := (hW n 10 ls st μ g).trans rfl
theorem wX5_send_11 {l : Launch} {K : aRs} {X : aXs} {J : aK} {W : Nat → aK} (hW : isW (tbX5_send l K X) cuX5_send J W) (n : Nat) (ls st : List aV) (μ : aM) (g : Nat) : W (n + 1) 11 ls st μ g = (sCallS 1 (fun as μ K => Ct l mdX5_isSide as μ K X) 14 0 0) (W n) ls st μ g := (hW n 11 ls st μ g).trans rfl
theorem tX5_send_14 (l : Launch) (K : aRs) (X : aXs) : tb (tbX5_send l K X) 14 = sIf pEq 46 17 := (rfl)
theorem wX5_send_14 {l : Launch} {K : aRs} {X : aXs} {J : aK} {W : Nat → aK} (hW : isW (tbX5_send l K X) cuX5_send J W) (n : Nat) (ls st : List aV) (μ : aM) (g : Nat) : W (n + 1) 14 ls st μ g = J 14 ls st μ g := (hW n 14 ls st μ g).trans rfl
theorem wX5_send_17 {l : Launch} {K : aRs} {X : aXs} {J : aK} {W : Nat → aK} (hW : isW (tbX5_send l K X) cuX5_send J W) (n : Nat) (ls st : List aV) (μ : aM) (g : Nat) : W (n + 1) 17 ls st μ g = (sLd 3 18 isI) (W n) ls st μ g := (hW n 17 ls st μ g).trans rfl
theorem wX5_send_18 {l : Launch} {K : aRs} {X : aXs} {J : aK} {W : Nat → aK} (hW : isW (tbX5_send l K X) cuX5_send J W) (n : Nat) (ls st : List aV) (μ : aM) (g : Nat) : W (n + 1) 18 ls st μ g = (sCallS 1 (fun as μ K => Ct l mdX5_isPrice as μ K X) 21 0 0) (W n) ls st μ g := (hW n 18 ls st μ g).trans rfl
theorem tX5_send_21 (l : Launch) (K : aRs) (X : aXs) : tb (tbX5_send l K X) 21 = sIf pEq 46 24 := (rfl)
theorem wX5_send_21 {l : Launch} {K : aRs} {X : aXs} {J : aK} {W : Nat → aK} (hW : isW (tbX5_send l K X) cuX5_send J W) (n : Nat) (ls st : List aV) (μ : aM) (g : Nat) : W (n + 1) 21 ls st μ g = J 21 ls st μ g := (hW n 21 ls st μ g).trans rfl
theorem wX5_send_24 {l : Launch} {K : aRs} {X : aXs} {J : aK} {W : Nat → aK} (hW : isW (tbX5_send l K X) cuX5_send J W) (n : Nat) (ls st : List aV) (μ : aM) (g : Nat) : W (n + 1) 24 ls st μ g = (sLd 4 26 isI) (W n) ls st μ g := (hW n 24 ls st μ g).trans rfl
theorem wX5_send_26 {l : Launch} {K : aRs} {X : aXs} {J : aK} {W : Nat → aK} (hW : isW (tbX5_send l K X) cuX5_send J W) (n : Nat) (ls st : List aV) (μ : aM) (g : Nat) : W (n + 1) 26 ls st μ g = (sPush (aI 1) 27) (W n) ls st μ g := (hW n 26 ls st μ g).trans rfl
theorem wX5_send_27 {l : Launch} {K : aRs} {X : aXs} {J : aK} {W : Nat → aK} (hW : isW (tbX5_send l K X) cuX5_send J W) (n : Nat) (ls st : List aV) (μ : aM) (g : Nat) : W (n + 1) 27 ls st μ g = (sPush (aI 99) 29) (W n) ls st μ g := (hW n 27 ls st μ g).trans rfl
theorem wX5_send_29 {l : Launch} {K : aRs} {X : aXs} {J : aK} {W : Nat → aK} (hW : isW (tbX5_send l K X) cuX5_send J W) (n : Nat) (ls st : List aV) (μ : aM) (g : Nat) : W (n + 1) 29 ls st μ g = (sCallS 3 (fun as μ K => Ct l mdX5_in as μ K X) 32 0 0) (W n) ls st μ g := (hW n 29 ls st μ g).trans rfl
theorem tX5_send_32 (l : Launch) (K : aRs) (X : aXs) : tb (tbX5_send l K X) 32 = sIf pEq 46 35 := (rfl)
theorem wX5_send_32 {l : Launch} {K : aRs} {X : aXs} {J : aK} {W : Nat → aK} (hW : isW (tbX5_send l K X) cuX5_send J W) (n : Nat) (ls st : List aV) (μ : aM) (g : Nat) : W (n + 1) 32 ls st μ g = J 32 ls st μ g := (hW n 32 ls st μ g).trans rfl
theorem wX5_send_35 {l : Launch} {K : aRs} {X : aXs} {J : aK} {W : Nat → aK} (hW : isW (tbX5_send l K X) cuX5_send J W) (n : Nat) (ls st : List aV) (μ : aM) (g : Nat) : W (n + 1) 35 ls st μ g = (sLd 5 37 isI) (W n) ls st μ g := (hW n 35 ls st μ g).trans rfl
theorem wX5_send_37 {l : Launch} {K : aRs} {X : aXs} {J : aK} {W : Nat → aK} (hW : isW (tbX5_send l K X) cuX5_send J W) (n : Nat) (ls st : List aV) (μ : aM) (g : Nat) : W (n + 1) 37 ls st μ g = (sPush (aI 1) 38) (W n) ls st μ g := (hW n 37 ls st μ g).trans rfl
theorem wX5_send_38 {l : Launch} {K : aRs} {X : aXs} {J : aK} {W : Nat → aK} (hW : isW (tbX5_send l K X) cuX5_send J W) (n : Nat) (ls st : List aV) (μ : aM) (g : Nat) : W (n + 1) 38 ls st μ g = (sPush (aI 99) 40) (W n) ls st μ g := (hW n 38 ls st μ g).trans rfl
theorem wX5_send_40 {l : Launch} {K : aRs} {X : aXs} {J : aK} {W : Nat → aK} (hW : isW (tbX5_send l K X) cuX5_send J W) (n : Nat) (ls st : List aV) (μ : aM) (g : Nat) : W (n + 1) 40 ls st μ g = (sCallS 3 (fun as μ K => Ct l mdX5_in as μ K X) 43 0 0) (W n) ls st μ g := (hW n 40 ls st μ g).trans rfl
theorem tX5_send_43 (l : Launch) (K : aRs) (X : aXs) : tb (tbX5_send l K X) 43 = sIf pNe 50 46 := (rfl)
theorem wX5_send_43 {l : Launch} {K : aRs} {X : aXs} {J : aK} {W : Nat → aK} (hW : isW (tbX5_send l K X) cuX5_send J W) (n : Nat) (ls st : List aV) (μ : aM) (g : Nat) : W (n + 1) 43 ls st μ g = J 43 ls st μ g := (hW n 43 ls st μ g).trans rfl
theorem wX5_send_46 {l : Launch} {K : aRs} {X : aXs} {J : aK} {W : Nat → aK} (hW : isW (tbX5_send l K X) cuX5_send J W) (n : Nat) (ls st : List aV) (μ : aM) (g : Nat) : W (n + 1) 46 ls st μ g = (sPush (aI 1) 47) (W n) ls st μ g := (hW n 46 ls st μ g).trans rfl
theorem wX5_send_47 {l : Launch} {K : aRs} {X : aXs} {J : aK} {W : Nat → aK} (hW : isW (tbX5_send l K X) cuX5_send J W) (n : Nat) (ls st : List aV) (μ : aM) (g : Nat) : W (n + 1) 47 ls st μ g = (sGoto 62) (W n) ls st μ g := (hW n 47 ls st μ g).trans rfl
theorem wX5_send_50 {l : Launch} {K : aRs} {X : aXs} {J : aK} {W : Nat → aK} (hW : isW (tbX5_send l K X) cuX5_send J W) (n : Nat) (ls st : List aV) (μ : aM) (g : Nat) : W (n + 1) 50 ls st μ g = (sLd 0 51 isR) (W n) ls st μ g := (hW n 50 ls st μ g).trans rfl
theorem wX5_send_51 {l : Launch} {K : aRs} {X : aXs} {J : aK} {W : Nat → aK} (hW : isW (tbX5_send l K X) cuX5_send J W) (n : Nat) (ls st : List aV) (μ : aM) (g : Nat) : W (n + 1) 51 ls st μ g = (sCallV 0 5 (fun as μ K => Ct l mdX5_isFull as μ K X) 54 0 0) (W n) ls st μ g := (hW n 51 ls st μ g).trans rfl
theorem tX5_send_54 (l : Launch) (K : aRs) (X : aXs) : tb (tbX5_send l K X) 54 = sIf pEq 61 57 := (rfl)
theorem wX5_send_54 {l : Launch} {K : aRs} {X : aXs} {J : aK} {W : Nat → aK} (hW : isW (tbX5_send l K X) cuX5_send J W) (n : Nat) (ls st : List aV) (μ : aM) (g : Nat) : W (n + 1) 54 ls st μ g = J 54 ls st μ g := (hW n 54 ls st μ g).trans rfl
theorem wX5_send_57 {l : Launch} {K : aRs} {X : aXs} {J : aK} {W : Nat → aK} (hW : isW (tbX5_send l K X) cuX5_send J W) (n : Nat) (ls st : List aV) (μ : aM) (g : Nat) : W (n + 1) 57 ls st μ g = (sPush (aI 2) 58) (W n) ls st μ g := (hW n 57 ls st μ g).trans rfl
theorem wX5_send_58 {l : Launch} {K : aRs} {X : aXs} {J : aK} {W : Nat → aK} (hW : isW (tbX5_send l K X) cuX5_send J W) (n : Nat) (ls st : List aV) (μ : aM) (g : Nat) : W (n + 1) 58 ls st μ g = (sGoto 62) (W n) ls st μ g := (hW n 58 ls st μ g).trans rfl
theorem wX5_send_61 {l : Launch} {K : aRs} {X : aXs} {J : aK} {W : Nat → aK} (hW : isW (tbX5_send l K X) cuX5_send J W) (n : Nat) (ls st : List aV) (μ : aM) (g : Nat) : W (n + 1) 61 ls st μ g = (sPush (aI 0) 62) (W n) ls st μ g := (hW n 61 ls st μ g).trans rfl
theorem wX5_send_62 {l : Launch} {K : aRs} {X : aXs} {J : aK} {W : Nat → aK} (hW : isW (tbX5_send l K X) cuX5_send J W) (n : Nat) (ls st : List aV) (μ : aM) (g : Nat) : W (n + 1) 62 ls st μ g = (sCallV 1 5 (fun as μ K => Ct l mdX5_fails as μ K X) 65 0 0) (W n) ls st μ g := (hW n 62 ls st μ g).trans rfl
theorem tX5_send_65 (l : Launch) (K : aRs) (X : aXs) : tb (tbX5_send l K X) 65 = sIf pEq 70 68 := (rfl)
theorem wX5_send_65 {l : Launch} {K : aRs} {X : aXs} {J : aK} {W : Nat → aK} (hW : isW (tbX5_send l K X) cuX5_send J W) (n : Nat) (ls st : List aV) (μ : aM) (g : Nat) : W (n + 1) 65 ls st μ g = J 65 ls st μ g := (hW n 65 ls st μ g).trans rfl
theorem wX5_send_68 {l : Launch} {K : aRs} {X : aXs} {J : aK} {W : Nat → aK} (hW : isW (tbX5_send l K X) cuX5_send J W) (n : Nat) (ls st : List aV) (μ : aM) (g : Nat) : W (n + 1) 68 ls st μ g = (sPush (aI 0) 69) (W n) ls st μ g := (hW n 68 ls st μ g).trans rfl
theorem wX5_send_69 {l : Launch} {K : aRs} {X : aXs} {J : aK} {W : Nat → aK} (hW : isW (tbX5_send l K X) cuX5_send J W) (n : Nat) (ls st : List aV) (μ : aM) (g : Nat) : W (n + 1) 69 ls st μ g = (sRetI .int 0 K) (W n) ls st μ g := (hW n 69 ls st μ g).trans rfl
theorem wX5_send_70 {l : Launch} {K : aRs} {X : aXs} {J : aK} {W : Nat → aK} (hW : isW (tbX5_send l K X) cuX5_send J W) (n : Nat) (ls st : List aV) (μ : aM) (g : Nat) : W (n + 1) 70 ls st μ g = (sLd 0 71 isR) (W n) ls st μ g := (hW n 70 ls st μ g).trans rfl
theorem wX5_send_71 {l : Launch} {K : aRs} {X : aXs} {J : aK} {W : Nat → aK} (hW : isW (tbX5_send l K X) cuX5_send J W) (n : Nat) (ls st : List aV) (μ : aM) (g : Nat) : W (n + 1) 71 ls st μ g = (sLd 1 72 isI) (W n) ls st μ g := (hW n 71 ls st μ g).trans rfl
theorem wX5_send_72 {l : Launch} {K : aRs} {X : aXs} {J : aK} {W : Nat → aK} (hW : isW (tbX5_send l K X) cuX5_send J W) (n : Nat) (ls st : List aV) (μ : aM) (g : Nat) : W (n + 1) 72 ls st μ g = (sLd 2 73 isI) (W n) ls st μ g := (hW n 72 ls st μ g).trans rfl
theorem wX5_send_73 {l : Launch} {K : aRs} {X : aXs} {J : aK} {W : Nat → aK} (hW : isW (tbX5_send l K X) cuX5_send J W) (n : Nat) (ls st : List aV) (μ : aM) (g : Nat) : W (n + 1) 73 ls st μ g = (sPush (aI 0) 74) (W n) ls st μ g := (hW n 73 ls st μ g).trans rfl
theorem wX5_send_74 {l : Launch} {K : aRs} {X : aXs} {J : aK} {W : Nat → aK} (hW : isW (tbX5_send l K X) cuX5_send J W) (n : Nat) (ls st : List aV) (μ : aM) (g : Nat) : W (n + 1) 74 ls st μ g = (sLd 3 75 isI) (W n) ls st μ g := (hW n 74 ls st μ g).trans rfl
theorem wX5_send_75 {l : Launch} {K : aRs} {X : aXs} {J : aK} {W : Nat → aK} (hW : isW (tbX5_send l K X) cuX5_send J W) (n : Nat) (ls st : List aV) (μ : aM) (g : Nat) : W (n + 1) 75 ls st μ g = (sLd 4 77 isI) (W n) ls st μ g := (hW n 75 ls st μ g).trans rfl
theorem wX5_send_77 {l : Launch} {K : aRs} {X : aXs} {J : aK} {W : Nat → aK} (hW : isW (tbX5_send l K X) cuX5_send J W) (n : Nat) (ls st : List aV) (μ : aM) (g : Nat) : W (n + 1) 77 ls st μ g = (sLd 5 79 isI) (W n) ls st μ g := (hW n 77 ls st μ g).trans rfl
theorem wX5_send_79 {l : Launch} {K : aRs} {X : aXs} {J : aK} {W : Nat → aK} (hW : isW (tbX5_send l K X) cuX5_send J W) (n : Nat) (ls st : List aV) (μ : aM) (g : Nat) : W (n + 1) 79 ls st μ g = (sCallV 6 5 (fun as μ K => Ct l mdX5_adds as μ K X) 82 0 0) (W n) ls st μ g := (hW n 79 ls st μ g).trans rfl
theorem tX5_send_82 (l : Launch) (K : aRs) (X : aXs) : tb (tbX5_send l K X) 82 = sSt 6 84 isI := (rfl)
theorem wX5_send_82 {l : Launch} {K : aRs} {X : aXs} {J : aK} {W : Nat → aK} (hW : isW (tbX5_send l K X) cuX5_send J W) (n : Nat) (ls st : List aV) (μ : aM) (g : Nat) : W (n + 1) 82 ls st μ g = J 82 ls st μ g := (hW n 82 ls st μ g).trans rfl
theorem wX5_send_84 {l : Launch} {K : aRs} {X : aXs} {J : aK} {W : Nat → aK} (hW : isW (tbX5_send l K X) cuX5_send J W) (n : Nat) (ls st : List aV) (μ : aM) (g : Nat) : W (n + 1) 84 ls st μ g = (sLd 0 85 isR) (W n) ls st μ g := (hW n 84 ls st μ g).trans rfl
theorem wX5_send_85 {l : Launch} {K : aRs} {X : aXs} {J : aK} {W : Nat → aK} (hW : isW (tbX5_send l K X) cuX5_send J W) (n : Nat) (ls st : List aV) (μ : aM) (g : Nat) : W (n + 1) 85 ls st μ g = (sLd 6 87 isI) (W n) ls st μ g := (hW n 85 ls st μ g).trans rfl
theorem wX5_send_87 {l : Launch} {K : aRs} {X : aXs} {J : aK} {W : Nat → aK} (hW : isW (tbX5_send l K X) cuX5_send J W) (n : Nat) (ls st : List aV) (μ : aM) (g : Nat) : W (n + 1) 87 ls st μ g = (sCallV 1 5 (fun as μ K => Ct l mdX5_comes as μ K X) 90 0 0) (W n) ls st μ g := (hW n 87 ls st μ g).trans rfl
theorem tX5_send_90 (l : Launch) (K : aRs) (X : aXs) : tb (tbX5_send l K X) 90 = sLd 0 91 isR := (rfl)
theorem wX5_send_90 {l : Launch} {K : aRs} {X : aXs} {J : aK} {W : Nat → aK} (hW : isW (tbX5_send l K X) cuX5_send J W) (n : Nat) (ls st : List aV) (μ : aM) (g : Nat) : W (n + 1) 90 ls st μ g = J 90 ls st μ g := (hW n 90 ls st μ g).trans rfl
theorem wX5_send_91 {l : Launch} {K : aRs} {X : aXs} {J : aK} {W : Nat → aK} (hW : isW (tbX5_send l K X) cuX5_send J W) (n : Nat) (ls st : List aV) (μ : aM) (g : Nat) : W (n + 1) 91 ls st μ g = (sCallV 0 5 (fun as μ K => Ct l mdX5_setsOff as μ K X) 94 0 0) (W n) ls st μ g := (hW n 91 ls st μ g).trans rfl
theorem tX5_send_94 (l : Launch) (K : aRs) (X : aXs) : tb (tbX5_send l K X) 94 = sLd 6 96 isI := (rfl)
theorem wX5_send_94 {l : Launch} {K : aRs} {X : aXs} {J : aK} {W : Nat → aK} (hW : isW (tbX5_send l K X) cuX5_send J W) (n : Nat) (ls st : List aV) (μ : aM) (g : Nat) : W (n + 1) 94 ls st μ g = J 94 ls st μ g := (hW n 94 ls st μ g).trans rfl
theorem wX5_send_96 {l : Launch} {K : aRs} {X : aXs} {J : aK} {W : Nat → aK} (hW : isW (tbX5_send l K X) cuX5_send J W) (n : Nat) (ls st : List aV) (μ : aM) (g : Nat) : W (n + 1) 96 ls st μ g = (sRetI .int 0 K) (W n) ls st μ g := (hW n 96 ls st μ g).trans rfl
theorem dX5_sendStop_0 : decode cX5_sendStop 0 = .ok (.aload_n 0, 1) := by decide +kernel
theorem dX5_sendStop_1 : decode cX5_sendStop 1 = .ok (.iload_n 1, 1) := by decide +kernel
theorem dX5_sendStop_2 : decode cX5_sendStop 2 = .ok (.iconst 0, 1) := by decide +kernel
theorem dX5_sendStop_3 : decode cX5_sendStop 3 = .ok (.iconst 5, 1) := by decide +kernel
theorem dX5_sendStop_4 : decode cX5_sendStop 4 = .ok (.invokestatic 64, 3) := by decide +kernel
theorem dX5_sendStop_7 : decode cX5_sendStop 7 = .ok (.ifCond .eq 36, 3) := by decide +kernel
theorem dX5_sendStop_10 : decode cX5_sendStop 10 = .ok (.iload_n 2, 1) := by decide +kernel
theorem dX5_sendStop_11 : decode cX5_sendStop 11 = .ok (.invokestatic 137, 3) := by decide +kernel
theorem dX5_sendStop_14 : decode cX5_sendStop 14 = .ok (.ifCond .eq 29, 3) := by decide +kernel
theorem dX5_sendStop_17 : decode cX5_sendStop 17 = .ok (.iload_n 3, 1) := by decide +kernel
theorem dX5_sendStop_18 : decode cX5_sendStop 18 = .ok (.invokestatic 141, 3) := by decide +kernel
theorem dX5_sendStop_21 : decode cX5_sendStop 21 = .ok (.ifCond .eq 22, 3) := by decide +kernel
theorem dX5_sendStop_24 : decode cX5_sendStop 24 = .ok (.iload 4, 2) := by decide +kernel
theorem dX5_sendStop_26 : decode cX5_sendStop 26 = .ok (.invokestatic 141, 3) := by decide +kernel
theorem dX5_sendStop_29 : decode cX5_sendStop 29 = .ok (.ifCond .eq 14, 3) := by decide +kernel
theorem dX5_sendStop_32 : decode cX5_sendStop 32 = .ok (.iload 5, 2) := by decide +kernel
theorem dX5_sendStop_34 : decode cX5_sendStop 34 = .ok (.iconst 1, 1) := by decide +kernel
theorem dX5_sendStop_35 : decode cX5_sendStop 35 = .ok (.bipush 99, 2) := by decide +kernel
theorem dX5_sendStop_37 : decode cX5_sendStop 37 = .ok (.invokestatic 64, 3) := by decide +kernel
theorem dX5_sendStop_40 : decode cX5_sendStop 40 = .ok (.ifCond .ne 7, 3) := by decide +kernel
theorem dX5_sendStop_43 : decode cX5_sendStop 43 = .ok (.iconst 1, 1) := by decide +kernel
theorem dX5_sendStop_44 : decode cX5_sendStop 44 = .ok (.goto 15, 3) := by decide +kernel
theorem dX5_sendStop_47 : decode cX5_sendStop 47 = .ok (.aload_n 0, 1) := by decide +kernel
theorem dX5_sendStop_48 : decode cX5_sendStop 48 = .ok (.invokevirtual 144, 3) := by decide +kernel
theorem dX5_sendStop_51 : decode cX5_sendStop 51 = .ok (.ifCond .eq 7, 3) := by decide +kernel
theorem dX5_sendStop_54 : decode cX5_sendStop 54 = .ok (.iconst 2, 1) := by decide +kernel
theorem dX5_sendStop_55 : decode cX5_sendStop 55 = .ok (.goto 4, 3) := by decide +kernel
theorem dX5_sendStop_58 : decode cX5_sendStop 58 = .ok (.iconst 0, 1) := by decide +kernel
theorem dX5_sendStop_59 : decode cX5_sendStop 59 = .ok (.invokevirtual 148, 3) := by decide +kernel
theorem dX5_sendStop_62 : decode cX5_sendStop 62 = .ok (.ifCond .eq 5, 3) := by decide +kernel
theorem dX5_sendStop_65 : decode cX5_sendStop 65 = .ok (.iconst 0, 1) := by decide +kernel
theorem dX5_sendStop_66 : decode cX5_sendStop 66 = .ok (.ireturn, 1) := by decide +kernel
theorem dX5_sendStop_67 : decode cX5_sendStop 67 = .ok (.aload_n 0, 1) := by decide +kernel
theorem dX5_sendStop_68 : decode cX5_sendStop 68 = .ok (.iload_n 1, 1) := by decide +kernel
theorem dX5_sendStop_69 : decode cX5_sendStop 69 = .ok (.iload_n 2, 1) := by decide +kernel
theorem dX5_sendStop_70 : decode cX5_sendStop 70 = .ok (.iload_n 3, 1) := by decide +kernel
theorem dX5_sendStop_71 : decode cX5_sendStop 71 = .ok (.iload 4, 2) := by decide +kernel
theorem dX5_sendStop_73 : decode cX5_sendStop 73 = .ok (.iload 5, 2) := by decide +kernel
theorem dX5_sendStop_75 : decode cX5_sendStop 75 = .ok (.iload 5, 2) := by decide +kernel
theorem dX5_sendStop_77 : decode cX5_sendStop 77 = .ok (.invokevirtual 151, 3) := by decide +kernel
theorem dX5_sendStop_80 : decode cX5_sendStop 80 = .ok (.ireturn, 1) := by decide +kernel
def tbX5_sendStop (l : Launch) (K : aRs) (X : aXs) : aTb := [
  (0, sLd 0 1 isR),
  (1, sLd 1 2 isI),
  (2, sPush (aI 0) 3),
  (3, sPush (aI 5) 4),
  (4, sCallS 3 (fun as μ K => Ct l mdX5_in as μ K X) 7 0 0),
  (7, sIf pEq 43 10),
  (10, sLd 2 11 isI),
  (11, sCallS 1 (fun as μ K => Ct l mdX5_isSide as μ K X) 14 0 0),
  (14, sIf pEq 43 17),
  (17, sLd 3 18 isI),
  (18, sCallS 1 (fun as μ K => Ct l mdX5_isPrice as μ K X) 21 0 0),
  (21, sIf pEq 43 24),
  (24, sLd 4 26 isI),
  (26, sCallS 1 (fun as μ K => Ct l mdX5_isPrice as μ K X) 29 0 0),
  (29, sIf pEq 43 32),
  (32, sLd 5 34 isI),
  (34, sPush (aI 1) 35),
  (35, sPush (aI 99) 37),
  (37, sCallS 3 (fun as μ K => Ct l mdX5_in as μ K X) 40 0 0),
  (40, sIf pNe 47 43),
  (43, sPush (aI 1) 44),
  (44, sGoto 59),
  (47, sLd 0 48 isR),
  (48, sCallV 0 5 (fun as μ K => Ct l mdX5_isFull as μ K X) 51 0 0),
  (51, sIf pEq 58 54),
  (54, sPush (aI 2) 55),
  (55, sGoto 59),
  (58, sPush (aI 0) 59),
  (59, sCallV 1 5 (fun as μ K => Ct l mdX5_fails as μ K X) 62 0 0),
  (62, sIf pEq 67 65),
  (65, sPush (aI 0) 66),
  (66, sRetI .int 0 K),
  (67, sLd 0 68 isR),
  (68, sLd 1 69 isI),
  (69, sLd 2 70 isI),
  (70, sLd 3 71 isI),
  (71, sLd 4 73 isI),
  (73, sLd 5 75 isI),
  (75, sLd 5 77 isI),
  (77, sCallV 6 5 (fun as μ K => Ct l mdX5_adds as μ K X) 80 0 0),
  (80, sRetI .int 0 K)]
theorem snX5_sendStop (l : Launch) (K : aRs) (X : aXs) (n0 : Nat) : ∀ q ∈ tbX5_sendStop l K X, aSo l mdX5_sendStop K X n0 q.1 q.2 :=
  tc (fun p e s m args below meth c cA D A ad0 h => ok_aload_n h.1 0 rfl dX5_sendStop_0) <|
  tc (fun p e s m args below meth c cA D A ad0 h => ok_iload_n h.1 1 rfl dX5_sendStop_1) <|
  tc (fun p e s m args below meth c cA D A ad0 h => ok_iconst h.1 ⟨by decide, by decide⟩ dX5_sendStop_2) <|
  tc (fun p e s m args below meth c cA D A ad0 h => ok_iconst h.1 ⟨by decide, by decide⟩ dX5_sendStop_3) <|
  tc (fun p e s m args below meth c cA D A ad0 h => ok_callS h.1 h.2.1 ⟨Nat.le_refl _, Nat.le_refl _⟩ mdX5_in siX5_in mkRX5_64 stX5_in ⟨by decide, by decide⟩ (aAx_out h.1 h.2.2.1 _) dX5_sendStop_4) <|
  tc (fun p e s m args below meth c cA D A ad0 h => ok_if_eq h.1 43 (by decide) dX5_sendStop_7) <|
  tc (fun p e s m args below meth c cA D A ad0 h => ok_iload_n h.1 2 rfl dX5_sendStop_10) <|
  tc (fun p e s m args below meth c cA D A ad0 h => ok_callS h.1 h.2.1 ⟨Nat.le_refl _, Nat.le_refl _⟩ mdX5_isSide siX5_isSide mkRX5_137 stX5_isSide ⟨by decide, by decide⟩ (aAx_out h.1 h.2.2.1 _) dX5_sendStop_11) <|
  tc (fun p e s m args below meth c cA D A ad0 h => ok_if_eq h.1 43 (by decide) dX5_sendStop_14) <|
  tc (fun p e s m args below meth c cA D A ad0 h => ok_iload_n h.1 3 rfl dX5_sendStop_17) <|
  tc (fun p e s m args below meth c cA D A ad0 h => ok_callS h.1 h.2.1 ⟨Nat.le_refl _, Nat.le_refl _⟩ mdX5_isPrice siX5_isPrice mkRX5_141 stX5_isPrice ⟨by decide, by decide⟩ (aAx_out h.1 h.2.2.1 _) dX5_sendStop_18) <|
  tc (fun p e s m args below meth c cA D A ad0 h => ok_if_eq h.1 43 (by decide) dX5_sendStop_21) <|
  tc (fun p e s m args below meth c cA D A ad0 h => ok_iload h.1 dX5_sendStop_24) <|
  tc (fun p e s m args below meth c cA D A ad0 h => ok_callS h.1 h.2.1 ⟨Nat.le_refl _, Nat.le_refl _⟩ mdX5_isPrice siX5_isPrice mkRX5_141 stX5_isPrice ⟨by decide, by decide⟩ (aAx_out h.1 h.2.2.1 _) dX5_sendStop_26) <|
  tc (fun p e s m args below meth c cA D A ad0 h => ok_if_eq h.1 43 (by decide) dX5_sendStop_29) <|
  tc (fun p e s m args below meth c cA D A ad0 h => ok_iload h.1 dX5_sendStop_32) <|
  tc (fun p e s m args below meth c cA D A ad0 h => ok_iconst h.1 ⟨by decide, by decide⟩ dX5_sendStop_34) <|
  tc (fun p e s m args below meth c cA D A ad0 h => ok_bipush h.1 ⟨by decide, by decide⟩ (by decide) dX5_sendStop_35) <|
  tc (fun p e s m args below meth c cA D A ad0 h => ok_callS h.1 h.2.1 ⟨Nat.le_refl _, Nat.le_refl _⟩ mdX5_in siX5_in mkRX5_64 stX5_in ⟨by decide, by decide⟩ (aAx_out h.1 h.2.2.1 _) dX5_sendStop_37) <|
  tc (fun p e s m args below meth c cA D A ad0 h => ok_if_ne h.1 47 (by decide) dX5_sendStop_40) <|
  tc (fun p e s m args below meth c cA D A ad0 h => ok_iconst h.1 ⟨by decide, by decide⟩ dX5_sendStop_43) <|
  tc (fun p e s m args below meth c cA D A ad0 h => ok_goto h.1 59 (by decide) dX5_sendStop_44) <|
  tc (fun p e s m args below meth c cA D A ad0 h => ok_aload_n h.1 0 rfl dX5_sendStop_47) <|
  tc (fun p e s m args below meth c cA D A ad0 h => ok_callV h.1 h.2.1 ⟨Nat.le_refl _, Nat.le_refl _⟩ mdX5_isFull siX5_isFull cxX5 mkRX5_144 imX5_isFull seX5_isFull ⟨by decide, by decide⟩ (aAx_out h.1 h.2.2.1 _) dX5_sendStop_48) <|
  tc (fun p e s m args below meth c cA D A ad0 h => ok_if_eq h.1 58 (by decide) dX5_sendStop_51) <|
  tc (fun p e s m args below meth c cA D A ad0 h => ok_iconst h.1 ⟨by decide, by decide⟩ dX5_sendStop_54) <|
  tc (fun p e s m args below meth c cA D A ad0 h => ok_goto h.1 59 (by decide) dX5_sendStop_55) <|
  tc (fun p e s m args below meth c cA D A ad0 h => ok_iconst h.1 ⟨by decide, by decide⟩ dX5_sendStop_58) <|
  tc (fun p e s m args below meth c cA D A ad0 h => ok_callV h.1 h.2.1 ⟨Nat.le_refl _, Nat.le_refl _⟩ mdX5_fails siX5_fails cxX5 mkRX5_148 imX5_fails seX5_fails ⟨by decide, by decide⟩ (aAx_out h.1 h.2.2.1 _) dX5_sendStop_59) <|
  tc (fun p e s m args below meth c cA D A ad0 h => ok_if_eq h.1 67 (by decide) dX5_sendStop_62) <|
  tc (fun p e s m args below meth c cA D A ad0 h => ok_iconst h.1 ⟨by decide, by decide⟩ dX5_sendStop_65) <|
  tc (fun p e s m args below meth c cA D A ad0 h => ok_ireturn h.1 h.2.2.2.1 (Or.inl rfl) dX5_sendStop_66) <|
  tc (fun p e s m args below meth c cA D A ad0 h => ok_aload_n h.1 0 rfl dX5_sendStop_67) <|
  tc (fun p e s m args below meth c cA D A ad0 h => ok_iload_n h.1 1 rfl dX5_sendStop_68) <|
  tc (fun p e s m args below meth c cA D A ad0 h => ok_iload_n h.1 2 rfl dX5_sendStop_69) <|
  tc (fun p e s m args below meth c cA D A ad0 h => ok_iload_n h.1 3 rfl dX5_sendStop_70) <|
  tc (fun p e s m args below meth c cA D A ad0 h => ok_iload h.1 dX5_sendStop_71) <|
  tc (fun p e s m args below meth c cA D A ad0 h => ok_iload h.1 dX5_sendStop_73) <|
  tc (fun p e s m args below meth c cA D A ad0 h => ok_iload h.1 dX5_sendStop_75) <|
  tc (fun p e s m args below meth c cA D A ad0 h => ok_callV h.1 h.2.1 ⟨Nat.le_refl _, Nat.le_refl _⟩ mdX5_adds siX5_adds cxX5 mkRX5_151 imX5_adds seX5_adds ⟨by decide, by decide⟩ (aAx_out h.1 h.2.2.1 _) dX5_sendStop_77) <|
  tc (fun p e s m args below meth c cA D A ad0 h => ok_ireturn h.1 h.2.2.2.1 (Or.inl rfl) dX5_sendStop_80) <|
  tn
abbrev cuX5_sendStop : List Nat := [7, 14, 21, 29, 40, 51, 62, 80]
theorem tX5_sendStop_0 (l : Launch) (K : aRs) (X : aXs) : tb (tbX5_sendStop l K X) 0 = sLd 0 1 isR := (rfl)
theorem wX5_sendStop_0 {l : Launch} {K : aRs} {X : aXs} {J : aK} {W : Nat → aK} (hW : isW (tbX5_sendStop l K X) cuX5_sendStop J W) (n : Nat) (ls st : List aV) (μ : aM) (g : Nat) : W (n + 1) 0 ls st μ g = (sLd 0 1 isR) (W n) ls st μ g := (hW n 0 ls st μ g).trans rfl
theorem wX5_sendStop_1 {l : Launch} {K : aRs} {X : aXs} {J : aK} {W : Nat → aK} (hW : isW (tbX5_sendStop l K X) cuX5_sendStop J W) (n : Nat) (ls st : List aV) (μ : aM) (g : Nat) : W (n + 1) 1 ls st μ g = (sLd 1 2 isI) (W n) ls st μ g := (hW n 1 ls st μ g).trans rfl
theorem wX5_sendStop_2 {l : Launch} {K : aRs} {X : aXs} {J : aK} {W : Nat → aK} (hW : isW (tbX5_sendStop l K X) cuX5_sendStop J W) (n : Nat) (ls st : List aV) (μ : aM) (g : Nat) : W (n + 1) 2 ls st μ g = (sPush (aI 0) 3) (W n) ls st μ g := (hW n 2 ls st μ g).trans rfl
theorem wX5_sendStop_3 {l : Launch} {K : aRs} {X : aXs} {J : aK} {W : Nat → aK} (hW : isW (tbX5_sendStop l K X) cuX5_sendStop J W) (n : Nat) (ls st : List aV) (μ : aM) (g : Nat) : W (n + 1) 3 ls st μ g = (sPush (aI 5) 4) (W n) ls st μ g := (hW n 3 ls st μ g).trans rfl
theorem wX5_sendStop_4 {l : Launch} {K : aRs} {X : aXs} {J : aK} {W : Nat → aK} (hW : isW (tbX5_sendStop l K X) cuX5_sendStop J W) (n : Nat) (ls st : List aV) (μ : aM) (g : Nat) : W (n + 1) 4 ls st μ g = (sCallS 3 (fun as μ K => Ct l mdX5_in as μ K X) 7 0 0) (W n) ls st μ g := (hW n 4 ls st μ g).trans rfl
theorem tX5_sendStop_7 (l : Launch) (K : aRs) (X : aXs) : tb (tbX5_sendStop l K X) 7 = sIf pEq 43 10 := (rfl)
theorem wX5_sendStop_7 {l : Launch} {K : aRs} {X : aXs} {J : aK} {W : Nat → aK} (hW : isW (tbX5_sendStop l K X) cuX5_sendStop J W) (n : Nat) (ls st : List aV) (μ : aM) (g : Nat) : W (n + 1) 7 ls st μ g = J 7 ls st μ g := (hW n 7 ls st μ g).trans rfl
theorem wX5_sendStop_10 {l : Launch} {K : aRs} {X : aXs} {J : aK} {W : Nat → aK} (hW : isW (tbX5_sendStop l K X) cuX5_sendStop J W) (n : Nat) (ls st : List aV) (μ : aM) (g : Nat) : W (n + 1) 10 ls st μ g = (sLd 2 11 isI) (W n) ls st μ g := (hW n 10 ls st μ g).trans rfl
theorem wX5_sendStop_11 {l : Launch} {K : aRs} {X : aXs} {J : aK} {W : Nat → aK} (hW : isW (tbX5_sendStop l K X) cuX5_sendStop J W) (n : Nat) (ls st : List aV) (μ : aM) (g : Nat) : W (n + 1) 11 ls st μ g = (sCallS 1 (fun as μ K => Ct l mdX5_isSide as μ K X) 14 0 0) (W n) ls st μ g := (hW n 11 ls st μ g).trans rfl
theorem tX5_sendStop_14 (l : Launch) (K : aRs) (X : aXs) : tb (tbX5_sendStop l K X) 14 = sIf pEq 43 17 := (rfl)
theorem wX5_sendStop_14 {l : Launch} {K : aRs} {X : aXs} {J : aK} {W : Nat → aK} (hW : isW (tbX5_sendStop l K X) cuX5_sendStop J W) (n : Nat) (ls st : List aV) (μ : aM) (g : Nat) : W (n + 1) 14 ls st μ g = J 14 ls st μ g := (hW n 14 ls st μ g).trans rfl
theorem wX5_sendStop_17 {l : Launch} {K : aRs} {X : aXs} {J : aK} {W : Nat → aK} (hW : isW (tbX5_sendStop l K X) cuX5_sendStop J W) (n : Nat) (ls st : List aV) (μ : aM) (g : Nat) : W (n + 1) 17 ls st μ g = (sLd 3 18 isI) (W n) ls st μ g := (hW n 17 ls st μ g).trans rfl
theorem wX5_sendStop_18 {l : Launch} {K : aRs} {X : aXs} {J : aK} {W : Nat → aK} (hW : isW (tbX5_sendStop l K X) cuX5_sendStop J W) (n : Nat) (ls st : List aV) (μ : aM) (g : Nat) : W (n + 1) 18 ls st μ g = (sCallS 1 (fun as μ K => Ct l mdX5_isPrice as μ K X) 21 0 0) (W n) ls st μ g := (hW n 18 ls st μ g).trans rfl
theorem tX5_sendStop_21 (l : Launch) (K : aRs) (X : aXs) : tb (tbX5_sendStop l K X) 21 = sIf pEq 43 24 := (rfl)
theorem wX5_sendStop_21 {l : Launch} {K : aRs} {X : aXs} {J : aK} {W : Nat → aK} (hW : isW (tbX5_sendStop l K X) cuX5_sendStop J W) (n : Nat) (ls st : List aV) (μ : aM) (g : Nat) : W (n + 1) 21 ls st μ g = J 21 ls st μ g := (hW n 21 ls st μ g).trans rfl
theorem wX5_sendStop_24 {l : Launch} {K : aRs} {X : aXs} {J : aK} {W : Nat → aK} (hW : isW (tbX5_sendStop l K X) cuX5_sendStop J W) (n : Nat) (ls st : List aV) (μ : aM) (g : Nat) : W (n + 1) 24 ls st μ g = (sLd 4 26 isI) (W n) ls st μ g := (hW n 24 ls st μ g).trans rfl
theorem wX5_sendStop_26 {l : Launch} {K : aRs} {X : aXs} {J : aK} {W : Nat → aK} (hW : isW (tbX5_sendStop l K X) cuX5_sendStop J W) (n : Nat) (ls st : List aV) (μ : aM) (g : Nat) : W (n + 1) 26 ls st μ g = (sCallS 1 (fun as μ K => Ct l mdX5_isPrice as μ K X) 29 0 0) (W n) ls st μ g := (hW n 26 ls st μ g).trans rfl
theorem tX5_sendStop_29 (l : Launch) (K : aRs) (X : aXs) : tb (tbX5_sendStop l K X) 29 = sIf pEq 43 32 := (rfl)
theorem wX5_sendStop_29 {l : Launch} {K : aRs} {X : aXs} {J : aK} {W : Nat → aK} (hW : isW (tbX5_sendStop l K X) cuX5_sendStop J W) (n : Nat) (ls st : List aV) (μ : aM) (g : Nat) : W (n + 1) 29 ls st μ g = J 29 ls st μ g := (hW n 29 ls st μ g).trans rfl
theorem wX5_sendStop_32 {l : Launch} {K : aRs} {X : aXs} {J : aK} {W : Nat → aK} (hW : isW (tbX5_sendStop l K X) cuX5_sendStop J W) (n : Nat) (ls st : List aV) (μ : aM) (g : Nat) : W (n + 1) 32 ls st μ g = (sLd 5 34 isI) (W n) ls st μ g := (hW n 32 ls st μ g).trans rfl
theorem wX5_sendStop_34 {l : Launch} {K : aRs} {X : aXs} {J : aK} {W : Nat → aK} (hW : isW (tbX5_sendStop l K X) cuX5_sendStop J W) (n : Nat) (ls st : List aV) (μ : aM) (g : Nat) : W (n + 1) 34 ls st μ g = (sPush (aI 1) 35) (W n) ls st μ g := (hW n 34 ls st μ g).trans rfl
theorem wX5_sendStop_35 {l : Launch} {K : aRs} {X : aXs} {J : aK} {W : Nat → aK} (hW : isW (tbX5_sendStop l K X) cuX5_sendStop J W) (n : Nat) (ls st : List aV) (μ : aM) (g : Nat) : W (n + 1) 35 ls st μ g = (sPush (aI 99) 37) (W n) ls st μ g := (hW n 35 ls st μ g).trans rfl
theorem wX5_sendStop_37 {l : Launch} {K : aRs} {X : aXs} {J : aK} {W : Nat → aK} (hW : isW (tbX5_sendStop l K X) cuX5_sendStop J W) (n : Nat) (ls st : List aV) (μ : aM) (g : Nat) : W (n + 1) 37 ls st μ g = (sCallS 3 (fun as μ K => Ct l mdX5_in as μ K X) 40 0 0) (W n) ls st μ g := (hW n 37 ls st μ g).trans rfl
theorem tX5_sendStop_40 (l : Launch) (K : aRs) (X : aXs) : tb (tbX5_sendStop l K X) 40 = sIf pNe 47 43 := (rfl)
theorem wX5_sendStop_40 {l : Launch} {K : aRs} {X : aXs} {J : aK} {W : Nat → aK} (hW : isW (tbX5_sendStop l K X) cuX5_sendStop J W) (n : Nat) (ls st : List aV) (μ : aM) (g : Nat) : W (n + 1) 40 ls st μ g = J 40 ls st μ g := (hW n 40 ls st μ g).trans rfl
theorem wX5_sendStop_43 {l : Launch} {K : aRs} {X : aXs} {J : aK} {W : Nat → aK} (hW : isW (tbX5_sendStop l K X) cuX5_sendStop J W) (n : Nat) (ls st : List aV) (μ : aM) (g : Nat) : W (n + 1) 43 ls st μ g = (sPush (aI 1) 44) (W n) ls st μ g := (hW n 43 ls st μ g).trans rfl
theorem wX5_sendStop_44 {l : Launch} {K : aRs} {X : aXs} {J : aK} {W : Nat → aK} (hW : isW (tbX5_sendStop l K X) cuX5_sendStop J W) (n : Nat) (ls st : List aV) (μ : aM) (g : Nat) : W (n + 1) 44 ls st μ g = (sGoto 59) (W n) ls st μ g := (hW n 44 ls st μ g).trans rfl
theorem wX5_sendStop_47 {l : Launch} {K : aRs} {X : aXs} {J : aK} {W : Nat → aK} (hW : isW (tbX5_sendStop l K X) cuX5_sendStop J W) (n : Nat) (ls st : List aV) (μ : aM) (g : Nat) : W (n + 1) 47 ls st μ g = (sLd 0 48 isR) (W n) ls st μ g := (hW n 47 ls st μ g).trans rfl
theorem wX5_sendStop_48 {l : Launch} {K : aRs} {X : aXs} {J : aK} {W : Nat → aK} (hW : isW (tbX5_sendStop l K X) cuX5_sendStop J W) (n : Nat) (ls st : List aV) (μ : aM) (g : Nat) : W (n + 1) 48 ls st μ g = (sCallV 0 5 (fun as μ K => Ct l mdX5_isFull as μ K X) 51 0 0) (W n) ls st μ g := (hW n 48 ls st μ g).trans rfl
theorem tX5_sendStop_51 (l : Launch) (K : aRs) (X : aXs) : tb (tbX5_sendStop l K X) 51 = sIf pEq 58 54 := (rfl)
theorem wX5_sendStop_51 {l : Launch} {K : aRs} {X : aXs} {J : aK} {W : Nat → aK} (hW : isW (tbX5_sendStop l K X) cuX5_sendStop J W) (n : Nat) (ls st : List aV) (μ : aM) (g : Nat) : W (n + 1) 51 ls st μ g = J 51 ls st μ g := (hW n 51 ls st μ g).trans rfl
theorem wX5_sendStop_54 {l : Launch} {K : aRs} {X : aXs} {J : aK} {W : Nat → aK} (hW : isW (tbX5_sendStop l K X) cuX5_sendStop J W) (n : Nat) (ls st : List aV) (μ : aM) (g : Nat) : W (n + 1) 54 ls st μ g = (sPush (aI 2) 55) (W n) ls st μ g := (hW n 54 ls st μ g).trans rfl
theorem wX5_sendStop_55 {l : Launch} {K : aRs} {X : aXs} {J : aK} {W : Nat → aK} (hW : isW (tbX5_sendStop l K X) cuX5_sendStop J W) (n : Nat) (ls st : List aV) (μ : aM) (g : Nat) : W (n + 1) 55 ls st μ g = (sGoto 59) (W n) ls st μ g := (hW n 55 ls st μ g).trans rfl
theorem wX5_sendStop_58 {l : Launch} {K : aRs} {X : aXs} {J : aK} {W : Nat → aK} (hW : isW (tbX5_sendStop l K X) cuX5_sendStop J W) (n : Nat) (ls st : List aV) (μ : aM) (g : Nat) : W (n + 1) 58 ls st μ g = (sPush (aI 0) 59) (W n) ls st μ g := (hW n 58 ls st μ g).trans rfl
theorem wX5_sendStop_59 {l : Launch} {K : aRs} {X : aXs} {J : aK} {W : Nat → aK} (hW : isW (tbX5_sendStop l K X) cuX5_sendStop J W) (n : Nat) (ls st : List aV) (μ : aM) (g : Nat) : W (n + 1) 59 ls st μ g = (sCallV 1 5 (fun as μ K => Ct l mdX5_fails as μ K X) 62 0 0) (W n) ls st μ g := (hW n 59 ls st μ g).trans rfl
theorem tX5_sendStop_62 (l : Launch) (K : aRs) (X : aXs) : tb (tbX5_sendStop l K X) 62 = sIf pEq 67 65 := (rfl)
theorem wX5_sendStop_62 {l : Launch} {K : aRs} {X : aXs} {J : aK} {W : Nat → aK} (hW : isW (tbX5_sendStop l K X) cuX5_sendStop J W) (n : Nat) (ls st : List aV) (μ : aM) (g : Nat) : W (n + 1) 62 ls st μ g = J 62 ls st μ g := (hW n 62 ls st μ g).trans rfl
theorem wX5_sendStop_65 {l : Launch} {K : aRs} {X : aXs} {J : aK} {W : Nat → aK} (hW : isW (tbX5_sendStop l K X) cuX5_sendStop J W) (n : Nat) (ls st : List aV) (μ : aM) (g : Nat) : W (n + 1) 65 ls st μ g = (sPush (aI 0) 66) (W n) ls st μ g := (hW n 65 ls st μ g).trans rfl
theorem wX5_sendStop_66 {l : Launch} {K : aRs} {X : aXs} {J : aK} {W : Nat → aK} (hW : isW (tbX5_sendStop l K X) cuX5_sendStop J W) (n : Nat) (ls st : List aV) (μ : aM) (g : Nat) : W (n + 1) 66 ls st μ g = (sRetI .int 0 K) (W n) ls st μ g := (hW n 66 ls st μ g).trans rfl
theorem wX5_sendStop_67 {l : Launch} {K : aRs} {X : aXs} {J : aK} {W : Nat → aK} (hW : isW (tbX5_sendStop l K X) cuX5_sendStop J W) (n : Nat) (ls st : List aV) (μ : aM) (g : Nat) : W (n + 1) 67 ls st μ g = (sLd 0 68 isR) (W n) ls st μ g := (hW n 67 ls st μ g).trans rfl
theorem wX5_sendStop_68 {l : Launch} {K : aRs} {X : aXs} {J : aK} {W : Nat → aK} (hW : isW (tbX5_sendStop l K X) cuX5_sendStop J W) (n : Nat) (ls st : List aV) (μ : aM) (g : Nat) : W (n + 1) 68 ls st μ g = (sLd 1 69 isI) (W n) ls st μ g := (hW n 68 ls st μ g).trans rfl
theorem wX5_sendStop_69 {l : Launch} {K : aRs} {X : aXs} {J : aK} {W : Nat → aK} (hW : isW (tbX5_sendStop l K X) cuX5_sendStop J W) (n : Nat) (ls st : List aV) (μ : aM) (g : Nat) : W (n + 1) 69 ls st μ g = (sLd 2 70 isI) (W n) ls st μ g := (hW n 69 ls st μ g).trans rfl
theorem wX5_sendStop_70 {l : Launch} {K : aRs} {X : aXs} {J : aK} {W : Nat → aK} (hW : isW (tbX5_sendStop l K X) cuX5_sendStop J W) (n : Nat) (ls st : List aV) (μ : aM) (g : Nat) : W (n + 1) 70 ls st μ g = (sLd 3 71 isI) (W n) ls st μ g := (hW n 70 ls st μ g).trans rfl
theorem wX5_sendStop_71 {l : Launch} {K : aRs} {X : aXs} {J : aK} {W : Nat → aK} (hW : isW (tbX5_sendStop l K X) cuX5_sendStop J W) (n : Nat) (ls st : List aV) (μ : aM) (g : Nat) : W (n + 1) 71 ls st μ g = (sLd 4 73 isI) (W n) ls st μ g := (hW n 71 ls st μ g).trans rfl
theorem wX5_sendStop_73 {l : Launch} {K : aRs} {X : aXs} {J : aK} {W : Nat → aK} (hW : isW (tbX5_sendStop l K X) cuX5_sendStop J W) (n : Nat) (ls st : List aV) (μ : aM) (g : Nat) : W (n + 1) 73 ls st μ g = (sLd 5 75 isI) (W n) ls st μ g := (hW n 73 ls st μ g).trans rfl
theorem wX5_sendStop_75 {l : Launch} {K : aRs} {X : aXs} {J : aK} {W : Nat → aK} (hW : isW (tbX5_sendStop l K X) cuX5_sendStop J W) (n : Nat) (ls st : List aV) (μ : aM) (g : Nat) : W (n + 1) 75 ls st μ g = (sLd 5 77 isI) (W n) ls st μ g := (hW n 75 ls st μ g).trans rfl
theorem wX5_sendStop_77 {l : Launch} {K : aRs} {X : aXs} {J : aK} {W : Nat → aK} (hW : isW (tbX5_sendStop l K X) cuX5_sendStop J W) (n : Nat) (ls st : List aV) (μ : aM) (g : Nat) : W (n + 1) 77 ls st μ g = (sCallV 6 5 (fun as μ K => Ct l mdX5_adds as μ K X) 80 0 0) (W n) ls st μ g := (hW n 77 ls st μ g).trans rfl
theorem tX5_sendStop_80 (l : Launch) (K : aRs) (X : aXs) : tb (tbX5_sendStop l K X) 80 = sRetI .int 0 K := (rfl)
theorem wX5_sendStop_80 {l : Launch} {K : aRs} {X : aXs} {J : aK} {W : Nat → aK} (hW : isW (tbX5_sendStop l K X) cuX5_sendStop J W) (n : Nat) (ls st : List aV) (μ : aM) (g : Nat) : W (n + 1) 80 ls st μ g = J 80 ls st μ g := (hW n 80 ls st μ g).trans rfl
theorem dX5_isNone_0 : decode cX5_isNone 0 = .ok (.iload_n 1, 1) := by decide +kernel
theorem dX5_isNone_1 : decode cX5_isNone 1 = .ok (.iconst 0, 1) := by decide +kernel
theorem dX5_isNone_2 : decode cX5_isNone 2 = .ok (.aload_n 0, 1) := by decide +kernel
theorem dX5_isNone_3 : decode cX5_isNone 3 = .ok (.getfield 68, 3) := by decide +kernel
theorem dX5_isNone_6 : decode cX5_isNone 6 = .ok (.iconst 1, 1) := by decide +kernel
theorem dX5_isNone_7 : decode cX5_isNone 7 = .ok (.isub, 1) := by decide +kernel
theorem dX5_isNone_8 : decode cX5_isNone 8 = .ok (.invokestatic 64, 3) := by decide +kernel
theorem dX5_isNone_11 : decode cX5_isNone 11 = .ok (.ifCond .ne 7, 3) := by decide +kernel
theorem dX5_isNone_14 : decode cX5_isNone 14 = .ok (.iconst 1, 1) := by decide +kernel
theorem dX5_isNone_15 : decode cX5_isNone 15 = .ok (.goto 4, 3) := by decide +kernel
theorem dX5_isNone_18 : decode cX5_isNone 18 = .ok (.iconst 0, 1) := by decide +kernel
theorem dX5_isNone_19 : decode cX5_isNone 19 = .ok (.ireturn, 1) := by decide +kernel
def tbX5_isNone (l : Launch) (K : aRs) (X : aXs) : aTb := [
  (0, sLd 1 1 isI),
  (1, sPush (aI 0) 2),
  (2, sLd 0 3 isR),
  (3, sGetI 5 0 6),
  (6, sPush (aI 1) 7),
  (7, sBin fSub 8),
  (8, sCallS 3 (fun as μ K => Ct l mdX5_in as μ K X) 11 0 0),
  (11, sIf pNe 18 14),
  (14, sPush (aI 1) 15),
  (15, sGoto 19),
  (18, sPush (aI 0) 19),
  (19, sRetI .boolean 0 K)]
theorem snX5_isNone (l : Launch) (K : aRs) (X : aXs) (n0 : Nat) : ∀ q ∈ tbX5_isNone l K X, aSo l mdX5_isNone K X n0 q.1 q.2 :=
  tc (fun p e s m args below meth c cA D A ad0 h => ok_iload_n h.1 1 rfl dX5_isNone_0) <|
  tc (fun p e s m args below meth c cA D A ad0 h => ok_iconst h.1 ⟨by decide, by decide⟩ dX5_isNone_1) <|
  tc (fun p e s m args below meth c cA D A ad0 h => ok_aload_n h.1 0 rfl dX5_isNone_2) <|
  tc (fun p e s m args below meth c cA D A ad0 h => ok_getI h.1 cxX5 (by decide) rfl fkRX5_68 (fun _ _ _ => rfl) dX5_isNone_3) <|
  tc (fun p e s m args below meth c cA D A ad0 h => ok_iconst h.1 ⟨by decide, by decide⟩ dX5_isNone_6) <|
  tc (fun p e s m args below meth c cA D A ad0 h => ok_isub h.1 dX5_isNone_7) <|
  tc (fun p e s m args below meth c cA D A ad0 h => ok_callS h.1 h.2.1 ⟨Nat.le_refl _, Nat.le_refl _⟩ mdX5_in siX5_in mkRX5_64 stX5_in ⟨by decide, by decide⟩ (aAx_out h.1 h.2.2.1 _) dX5_isNone_8) <|
  tc (fun p e s m args below meth c cA D A ad0 h => ok_if_ne h.1 18 (by decide) dX5_isNone_11) <|
  tc (fun p e s m args below meth c cA D A ad0 h => ok_iconst h.1 ⟨by decide, by decide⟩ dX5_isNone_14) <|
  tc (fun p e s m args below meth c cA D A ad0 h => ok_goto h.1 19 (by decide) dX5_isNone_15) <|
  tc (fun p e s m args below meth c cA D A ad0 h => ok_iconst h.1 ⟨by decide, by decide⟩ dX5_isNone_18) <|
  tc (fun p e s m args below meth c cA D A ad0 h => ok_ireturn h.1 h.2.2.2.1 (Or.inr (Or.inl rfl)) dX5_isNone_19) <|
  tn
abbrev cuX5_isNone : List Nat := [11]
theorem tX5_isNone_0 (l : Launch) (K : aRs) (X : aXs) : tb (tbX5_isNone l K X) 0 = sLd 1 1 isI := (rfl)
theorem wX5_isNone_0 {l : Launch} {K : aRs} {X : aXs} {J : aK} {W : Nat → aK} (hW : isW (tbX5_isNone l K X) cuX5_isNone J W) (n : Nat) (ls st : List aV) (μ : aM) (g : Nat) : W (n + 1) 0 ls st μ g = (sLd 1 1 isI) (W n) ls st μ g := (hW n 0 ls st μ g).trans rfl
theorem wX5_isNone_1 {l : Launch} {K : aRs} {X : aXs} {J : aK} {W : Nat → aK} (hW : isW (tbX5_isNone l K X) cuX5_isNone J W) (n : Nat) (ls st : List aV) (μ : aM) (g : Nat) : W (n + 1) 1 ls st μ g = (sPush (aI 0) 2) (W n) ls st μ g := (hW n 1 ls st μ g).trans rfl
theorem wX5_isNone_2 {l : Launch} {K : aRs} {X : aXs} {J : aK} {W : Nat → aK} (hW : isW (tbX5_isNone l K X) cuX5_isNone J W) (n : Nat) (ls st : List aV) (μ : aM) (g : Nat) : W (n + 1) 2 ls st μ g = (sLd 0 3 isR) (W n) ls st μ g := (hW n 2 ls st μ g).trans rfl
theorem wX5_isNone_3 {l : Launch} {K : aRs} {X : aXs} {J : aK} {W : Nat → aK} (hW : isW (tbX5_isNone l K X) cuX5_isNone J W) (n : Nat) (ls st : List aV) (μ : aM) (g : Nat) : W (n + 1) 3 ls st μ g = (sGetI 5 0 6) (W n) ls st μ g := (hW n 3 ls st μ g).trans rfl
theorem wX5_isNone_6 {l : Launch} {K : aRs} {X : aXs} {J : aK} {W : Nat → aK} (hW : isW (tbX5_isNone l K X) cuX5_isNone J W) (n : Nat) (ls st : List aV) (μ : aM) (g : Nat) : W (n + 1) 6 ls st μ g = (sPush (aI 1) 7) (W n) ls st μ g := (hW n 6 ls st μ g).trans rfl
theorem wX5_isNone_7 {l : Launch} {K : aRs} {X : aXs} {J : aK} {W : Nat → aK} (hW : isW (tbX5_isNone l K X) cuX5_isNone J W) (n : Nat) (ls st : List aV) (μ : aM) (g : Nat) : W (n + 1) 7 ls st μ g = (sBin fSub 8) (W n) ls st μ g := (hW n 7 ls st μ g).trans rfl
theorem wX5_isNone_8 {l : Launch} {K : aRs} {X : aXs} {J : aK} {W : Nat → aK} (hW : isW (tbX5_isNone l K X) cuX5_isNone J W) (n : Nat) (ls st : List aV) (μ : aM) (g : Nat) : W (n + 1) 8 ls st μ g = (sCallS 3 (fun as μ K => Ct l mdX5_in as μ K X) 11 0 0) (W n) ls st μ g := (hW n 8 ls st μ g).trans rfl
theorem tX5_isNone_11 (l : Launch) (K : aRs) (X : aXs) : tb (tbX5_isNone l K X) 11 = sIf pNe 18 14 := (rfl)
theorem wX5_isNone_11 {l : Launch} {K : aRs} {X : aXs} {J : aK} {W : Nat → aK} (hW : isW (tbX5_isNone l K X) cuX5_isNone J W) (n : Nat) (ls st : List aV) (μ : aM) (g : Nat) : W (n + 1) 11 ls st μ g = J 11 ls st μ g := (hW n 11 ls st μ g).trans rfl
theorem wX5_isNone_14 {l : Launch} {K : aRs} {X : aXs} {J : aK} {W : Nat → aK} (hW : isW (tbX5_isNone l K X) cuX5_isNone J W) (n : Nat) (ls st : List aV) (μ : aM) (g : Nat) : W (n + 1) 14 ls st μ g = (sPush (aI 1) 15) (W n) ls st μ g := (hW n 14 ls st μ g).trans rfl
theorem wX5_isNone_15 {l : Launch} {K : aRs} {X : aXs} {J : aK} {W : Nat → aK} (hW : isW (tbX5_isNone l K X) cuX5_isNone J W) (n : Nat) (ls st : List aV) (μ : aM) (g : Nat) : W (n + 1) 15 ls st μ g = (sGoto 19) (W n) ls st μ g := (hW n 15 ls st μ g).trans rfl
theorem wX5_isNone_18 {l : Launch} {K : aRs} {X : aXs} {J : aK} {W : Nat → aK} (hW : isW (tbX5_isNone l K X) cuX5_isNone J W) (n : Nat) (ls st : List aV) (μ : aM) (g : Nat) : W (n + 1) 18 ls st μ g = (sPush (aI 0) 19) (W n) ls st μ g := (hW n 18 ls st μ g).trans rfl
theorem wX5_isNone_19 {l : Launch} {K : aRs} {X : aXs} {J : aK} {W : Nat → aK} (hW : isW (tbX5_isNone l K X) cuX5_isNone J W) (n : Nat) (ls st : List aV) (μ : aM) (g : Nat) : W (n + 1) 19 ls st μ g = (sRetI .boolean 0 K) (W n) ls st μ g := (hW n 19 ls st μ g).trans rfl
theorem dX5_isOver_0 : decode cX5_isOver 0 = .ok (.aload_n 0, 1) := by decide +kernel
theorem dX5_isOver_1 : decode cX5_isOver 1 = .ok (.getfield 13, 3) := by decide +kernel
theorem dX5_isOver_4 : decode cX5_isOver 4 = .ok (.iload_n 1, 1) := by decide +kernel
theorem dX5_isOver_5 : decode cX5_isOver 5 = .ok (.caload, 1) := by decide +kernel
theorem dX5_isOver_6 : decode cX5_isOver 6 = .ok (.bipush 102, 2) := by decide +kernel
theorem dX5_isOver_8 : decode cX5_isOver 8 = .ok (.if_icmp .eq 14, 3) := by decide +kernel
theorem dX5_isOver_11 : decode cX5_isOver 11 = .ok (.aload_n 0, 1) := by decide +kernel
theorem dX5_isOver_12 : decode cX5_isOver 12 = .ok (.getfield 13, 3) := by decide +kernel
theorem dX5_isOver_15 : decode cX5_isOver 15 = .ok (.iload_n 1, 1) := by decide +kernel
theorem dX5_isOver_16 : decode cX5_isOver 16 = .ok (.caload, 1) := by decide +kernel
theorem dX5_isOver_17 : decode cX5_isOver 17 = .ok (.bipush 99, 2) := by decide +kernel
theorem dX5_isOver_19 : decode cX5_isOver 19 = .ok (.if_icmp .ne 7, 3) := by decide +kernel
theorem dX5_isOver_22 : decode cX5_isOver 22 = .ok (.iconst 1, 1) := by decide +kernel
theorem dX5_isOver_23 : decode cX5_isOver 23 = .ok (.goto 4, 3) := by decide +kernel
theorem dX5_isOver_26 : decode cX5_isOver 26 = .ok (.iconst 0, 1) := by decide +kernel
theorem dX5_isOver_27 : decode cX5_isOver 27 = .ok (.ireturn, 1) := by decide +kernel
def tbX5_isOver (l : Launch) (K : aRs) (X : aXs) : aTb := [
  (0, sLd 0 1 isR),
  (1, sGetR 5 2 4),
  (4, sLd 1 5 isI),
  (5, sAldI 6 6),
  (6, sPush (aI 102) 8),
  (8, sIc qEq 22 11),
  (11, sLd 0 12 isR),
  (12, sGetR 5 2 15),
  (15, sLd 1 16 isI),
  (16, sAldI 6 17),
  (17, sPush (aI 99) 19),
  (19, sIc qNe 26 22),
  (22, sPush (aI 1) 23),
  (23, sGoto 27),
  (26, sPush (aI 0) 27),
  (27, sRetI .boolean 0 K)]
theorem snX5_isOver (l : Launch) (K : aRs) (X : aXs) (n0 : Nat) : ∀ q ∈ tbX5_isOver l K X, aSo l mdX5_isOver K X n0 q.1 q.2 :=
  tc (fun p e s m args below meth c cA D A ad0 h => ok_aload_n h.1 0 rfl dX5_isOver_0) <|
  tc (fun p e s m args below meth c cA D A ad0 h => ok_getR h.1 cxX5 (by decide) rfl fkRX5_13 (fun _ _ _ => rfl) dX5_isOver_1) <|
  tc (fun p e s m args below meth c cA D A ad0 h => ok_iload_n h.1 1 rfl dX5_isOver_4) <|
  tc (fun p e s m args below meth c cA D A ad0 h => ok_cald h.1 dX5_isOver_5) <|
  tc (fun p e s m args below meth c cA D A ad0 h => ok_bipush h.1 ⟨by decide, by decide⟩ (by decide) dX5_isOver_6) <|
  tc (fun p e s m args below meth c cA D A ad0 h => ok_icmp_eq h.1 22 (by decide) dX5_isOver_8) <|
  tc (fun p e s m args below meth c cA D A ad0 h => ok_aload_n h.1 0 rfl dX5_isOver_11) <|
  tc (fun p e s m args below meth c cA D A ad0 h => ok_getR h.1 cxX5 (by decide) rfl fkRX5_13 (fun _ _ _ => rfl) dX5_isOver_12) <|
  tc (fun p e s m args below meth c cA D A ad0 h => ok_iload_n h.1 1 rfl dX5_isOver_15) <|
  tc (fun p e s m args below meth c cA D A ad0 h => ok_cald h.1 dX5_isOver_16) <|
  tc (fun p e s m args below meth c cA D A ad0 h => ok_bipush h.1 ⟨by decide, by decide⟩ (by decide) dX5_isOver_17) <|
  tc (fun p e s m args below meth c cA D A ad0 h => ok_icmp_ne h.1 26 (by decide) dX5_isOver_19) <|
  tc (fun p e s m args below meth c cA D A ad0 h => ok_iconst h.1 ⟨by decide, by decide⟩ dX5_isOver_22) <|
  tc (fun p e s m args below meth c cA D A ad0 h => ok_goto h.1 27 (by decide) dX5_isOver_23) <|
  tc (fun p e s m args below meth c cA D A ad0 h => ok_iconst h.1 ⟨by decide, by decide⟩ dX5_isOver_26) <|
  tc (fun p e s m args below meth c cA D A ad0 h => ok_ireturn h.1 h.2.2.2.1 (Or.inr (Or.inl rfl)) dX5_isOver_27) <|
  tn
abbrev cuX5_isOver : List Nat := []
theorem tX5_isOver_0 (l : Launch) (K : aRs) (X : aXs) : tb (tbX5_isOver l K X) 0 = sLd 0 1 isR := (rfl)
theorem wX5_isOver_0 {l : Launch} {K : aRs} {X : aXs} {J : aK} {W : Nat → aK} (hW : isW (tbX5_isOver l K X) cuX5_isOver J W) (n : Nat) (ls st : List aV) (μ : aM) (g : Nat) : W (n + 1) 0 ls st μ g = (sLd 0 1 isR) (W n) ls st μ g := (hW n 0 ls st μ g).trans rfl
theorem wX5_isOver_1 {l : Launch} {K : aRs} {X : aXs} {J : aK} {W : Nat → aK} (hW : isW (tbX5_isOver l K X) cuX5_isOver J W) (n : Nat) (ls st : List aV) (μ : aM) (g : Nat) : W (n + 1) 1 ls st μ g = (sGetR 5 2 4) (W n) ls st μ g := (hW n 1 ls st μ g).trans rfl
theorem wX5_isOver_4 {l : Launch} {K : aRs} {X : aXs} {J : aK} {W : Nat → aK} (hW : isW (tbX5_isOver l K X) cuX5_isOver J W) (n : Nat) (ls st : List aV) (μ : aM) (g : Nat) : W (n + 1) 4 ls st μ g = (sLd 1 5 isI) (W n) ls st μ g := (hW n 4 ls st μ g).trans rfl
theorem wX5_isOver_5 {l : Launch} {K : aRs} {X : aXs} {J : aK} {W : Nat → aK} (hW : isW (tbX5_isOver l K X) cuX5_isOver J W) (n : Nat) (ls st : List aV) (μ : aM) (g : Nat) : W (n + 1) 5 ls st μ g = (sAldI 6 6) (W n) ls st μ g := (hW n 5 ls st μ g).trans rfl
theorem wX5_isOver_6 {l : Launch} {K : aRs} {X : aXs} {J : aK} {W : Nat → aK} (hW : isW (tbX5_isOver l K X) cuX5_isOver J W) (n : Nat) (ls st : List aV) (μ : aM) (g : Nat) : W (n + 1) 6 ls st μ g = (sPush (aI 102) 8) (W n) ls st μ g := (hW n 6 ls st μ g).trans rfl
theorem wX5_isOver_8 {l : Launch} {K : aRs} {X : aXs} {J : aK} {W : Nat → aK} (hW : isW (tbX5_isOver l K X) cuX5_isOver J W) (n : Nat) (ls st : List aV) (μ : aM) (g : Nat) : W (n + 1) 8 ls st μ g = (sIc qEq 22 11) (W n) ls st μ g := (hW n 8 ls st μ g).trans rfl
theorem wX5_isOver_11 {l : Launch} {K : aRs} {X : aXs} {J : aK} {W : Nat → aK} (hW : isW (tbX5_isOver l K X) cuX5_isOver J W) (n : Nat) (ls st : List aV) (μ : aM) (g : Nat) : W (n + 1) 11 ls st μ g = (sLd 0 12 isR) (W n) ls st μ g := (hW n 11 ls st μ g).trans rfl
theorem wX5_isOver_12 {l : Launch} {K : aRs} {X : aXs} {J : aK} {W : Nat → aK} (hW : isW (tbX5_isOver l K X) cuX5_isOver J W) (n : Nat) (ls st : List aV) (μ : aM) (g : Nat) : W (n + 1) 12 ls st μ g = (sGetR 5 2 15) (W n) ls st μ g := (hW n 12 ls st μ g).trans rfl
theorem wX5_isOver_15 {l : Launch} {K : aRs} {X : aXs} {J : aK} {W : Nat → aK} (hW : isW (tbX5_isOver l K X) cuX5_isOver J W) (n : Nat) (ls st : List aV) (μ : aM) (g : Nat) : W (n + 1) 15 ls st μ g = (sLd 1 16 isI) (W n) ls st μ g := (hW n 15 ls st μ g).trans rfl
theorem wX5_isOver_16 {l : Launch} {K : aRs} {X : aXs} {J : aK} {W : Nat → aK} (hW : isW (tbX5_isOver l K X) cuX5_isOver J W) (n : Nat) (ls st : List aV) (μ : aM) (g : Nat) : W (n + 1) 16 ls st μ g = (sAldI 6 17) (W n) ls st μ g := (hW n 16 ls st μ g).trans rfl
theorem wX5_isOver_17 {l : Launch} {K : aRs} {X : aXs} {J : aK} {W : Nat → aK} (hW : isW (tbX5_isOver l K X) cuX5_isOver J W) (n : Nat) (ls st : List aV) (μ : aM) (g : Nat) : W (n + 1) 17 ls st μ g = (sPush (aI 99) 19) (W n) ls st μ g := (hW n 17 ls st μ g).trans rfl
theorem wX5_isOver_19 {l : Launch} {K : aRs} {X : aXs} {J : aK} {W : Nat → aK} (hW : isW (tbX5_isOver l K X) cuX5_isOver J W) (n : Nat) (ls st : List aV) (μ : aM) (g : Nat) : W (n + 1) 19 ls st μ g = (sIc qNe 26 22) (W n) ls st μ g := (hW n 19 ls st μ g).trans rfl
theorem wX5_isOver_22 {l : Launch} {K : aRs} {X : aXs} {J : aK} {W : Nat → aK} (hW : isW (tbX5_isOver l K X) cuX5_isOver J W) (n : Nat) (ls st : List aV) (μ : aM) (g : Nat) : W (n + 1) 22 ls st μ g = (sPush (aI 1) 23) (W n) ls st μ g := (hW n 22 ls st μ g).trans rfl
theorem wX5_isOver_23 {l : Launch} {K : aRs} {X : aXs} {J : aK} {W : Nat → aK} (hW : isW (tbX5_isOver l K X) cuX5_isOver J W) (n : Nat) (ls st : List aV) (μ : aM) (g : Nat) : W (n + 1) 23 ls st μ g = (sGoto 27) (W n) ls st μ g := (hW n 23 ls st μ g).trans rfl
theorem wX5_isOver_26 {l : Launch} {K : aRs} {X : aXs} {J : aK} {W : Nat → aK} (hW : isW (tbX5_isOver l K X) cuX5_isOver J W) (n : Nat) (ls st : List aV) (μ : aM) (g : Nat) : W (n + 1) 26 ls st μ g = (sPush (aI 0) 27) (W n) ls st μ g := (hW n 26 ls st μ g).trans rfl
theorem wX5_isOver_27 {l : Launch} {K : aRs} {X : aXs} {J : aK} {W : Nat → aK} (hW : isW (tbX5_isOver l K X) cuX5_isOver J W) (n : Nat) (ls st : List aV) (μ : aM) (g : Nat) : W (n + 1) 27 ls st μ g = (sRetI .boolean 0 K) (W n) ls st μ g := (hW n 27 ls st μ g).trans rfl
theorem dX5_cancel_0 : decode cX5_cancel 0 = .ok (.aload_n 0, 1) := by decide +kernel
theorem dX5_cancel_1 : decode cX5_cancel 1 = .ok (.aload_n 0, 1) := by decide +kernel
theorem dX5_cancel_2 : decode cX5_cancel 2 = .ok (.iload_n 1, 1) := by decide +kernel
theorem dX5_cancel_3 : decode cX5_cancel 3 = .ok (.invokevirtual 158, 3) := by decide +kernel
theorem dX5_cancel_6 : decode cX5_cancel 6 = .ok (.ifCond .eq 7, 3) := by decide +kernel
theorem dX5_cancel_9 : decode cX5_cancel 9 = .ok (.iconst 1, 1) := by decide +kernel
theorem dX5_cancel_10 : decode cX5_cancel 10 = .ok (.goto 16, 3) := by decide +kernel
theorem dX5_cancel_13 : decode cX5_cancel 13 = .ok (.aload_n 0, 1) := by decide +kernel
theorem dX5_cancel_14 : decode cX5_cancel 14 = .ok (.iload_n 1, 1) := by decide +kernel
theorem dX5_cancel_15 : decode cX5_cancel 15 = .ok (.invokevirtual 161, 3) := by decide +kernel
theorem dX5_cancel_18 : decode cX5_cancel 18 = .ok (.ifCond .eq 7, 3) := by decide +kernel
theorem dX5_cancel_21 : decode cX5_cancel 21 = .ok (.iconst 2, 1) := by decide +kernel
theorem dX5_cancel_22 : decode cX5_cancel 22 = .ok (.goto 4, 3) := by decide +kernel
theorem dX5_cancel_25 : decode cX5_cancel 25 = .ok (.iconst 0, 1) := by decide +kernel
theorem dX5_cancel_26 : decode cX5_cancel 26 = .ok (.invokevirtual 148, 3) := by decide +kernel
theorem dX5_cancel_29 : decode cX5_cancel 29 = .ok (.ifCond .eq 5, 3) := by decide +kernel
theorem dX5_cancel_32 : decode cX5_cancel 32 = .ok (.iconst 0, 1) := by decide +kernel
theorem dX5_cancel_33 : decode cX5_cancel 33 = .ok (.ireturn, 1) := by decide +kernel
theorem dX5_cancel_34 : decode cX5_cancel 34 = .ok (.aload_n 0, 1) := by decide +kernel
theorem dX5_cancel_35 : decode cX5_cancel 35 = .ok (.getfield 13, 3) := by decide +kernel
theorem dX5_cancel_38 : decode cX5_cancel 38 = .ok (.iload_n 1, 1) := by decide +kernel
theorem dX5_cancel_39 : decode cX5_cancel 39 = .ok (.bipush 99, 2) := by decide +kernel
theorem dX5_cancel_41 : decode cX5_cancel 41 = .ok (.castore, 1) := by decide +kernel
theorem dX5_cancel_42 : decode cX5_cancel 42 = .ok (.aload_n 0, 1) := by decide +kernel
theorem dX5_cancel_43 : decode cX5_cancel 43 = .ok (.getfield 29, 3) := by decide +kernel
theorem dX5_cancel_46 : decode cX5_cancel 46 = .ok (.iload_n 1, 1) := by decide +kernel
theorem dX5_cancel_47 : decode cX5_cancel 47 = .ok (.iaload, 1) := by decide +kernel
theorem dX5_cancel_48 : decode cX5_cancel 48 = .ok (.ireturn, 1) := by decide +kernel
def tbX5_cancel (l : Launch) (K : aRs) (X : aXs) : aTb := [
  (0, sLd 0 1 isR),
  (1, sLd 0 2 isR),
  (2, sLd 1 3 isI),
  (3, sCallV 1 5 (fun as μ K => Ct l mdX5_isNone as μ K X) 6 0 0),
  (6, sIf pEq 13 9),
  (9, sPush (aI 1) 10),
  (10, sGoto 26),
  (13, sLd 0 14 isR),
  (14, sLd 1 15 isI),
  (15, sCallV 1 5 (fun as μ K => Ct l mdX5_isOver as μ K X) 18 0 0),
  (18, sIf pEq 25 21),
  (21, sPush (aI 2) 22),
  (22, sGoto 26),
  (25, sPush (aI 0) 26),
  (26, sCallV 1 5 (fun as μ K => Ct l mdX5_fails as μ K X) 29 0 0),
  (29, sIf pEq 34 32),
  (32, sPush (aI 0) 33),
  (33, sRetI .int 0 K),
  (34, sLd 0 35 isR),
  (35, sGetR 5 2 38),
  (38, sLd 1 39 isI),
  (39, sPush (aI 99) 41),
  (41, sAstC 42),
  (42, sLd 0 43 isR),
  (43, sGetR 5 7 46),
  (46, sLd 1 47 isI),
  (47, sAldI 7 48),
  (48, sRetI .int 0 K)]
theorem snX5_cancel (l : Launch) (K : aRs) (X : aXs) (n0 : Nat) : ∀ q ∈ tbX5_cancel l K X, aSo l mdX5_cancel K X n0 q.1 q.2 :=
  tc (fun p e s m args below meth c cA D A ad0 h => ok_aload_n h.1 0 rfl dX5_cancel_0) <|
  tc (fun p e s m args below meth c cA D A ad0 h => ok_aload_n h.1 0 rfl dX5_cancel_1) <|
  tc (fun p e s m args below meth c cA D A ad0 h => ok_iload_n h.1 1 rfl dX5_cancel_2) <|
  tc (fun p e s m args below meth c cA D A ad0 h => ok_callV h.1 h.2.1 ⟨Nat.le_refl _, Nat.le_refl _⟩ mdX5_isNone siX5_isNone cxX5 mkRX5_158 imX5_isNone seX5_isNone ⟨by decide, by decide⟩ (aAx_out h.1 h.2.2.1 _) dX5_cancel_3) <|
  tc (fun p e s m args below meth c cA D A ad0 h => ok_if_eq h.1 13 (by decide) dX5_cancel_6) <|
  tc (fun p e s m args below meth c cA D A ad0 h => ok_iconst h.1 ⟨by decide, by decide⟩ dX5_cancel_9) <|
  tc (fun p e s m args below meth c cA D A ad0 h => ok_goto h.1 26 (by decide) dX5_cancel_10) <|
  tc (fun p e s m args below meth c cA D A ad0 h => ok_aload_n h.1 0 rfl dX5_cancel_13) <|
  tc (fun p e s m args below meth c cA D A ad0 h => ok_iload_n h.1 1 rfl dX5_cancel_14) <|
  tc (fun p e s m args below meth c cA D A ad0 h => ok_callV h.1 h.2.1 ⟨Nat.le_refl _, Nat.le_refl _⟩ mdX5_isOver siX5_isOver cxX5 mkRX5_161 imX5_isOver seX5_isOver ⟨by decide, by decide⟩ (aAx_out h.1 h.2.2.1 _) dX5_cancel_15) <|
  tc (fun p e s m args below meth c cA D A ad0 h => ok_if_eq h.1 25 (by decide) dX5_cancel_18) <|
  tc (fun p e s m args below meth c cA D A ad0 h => ok_iconst h.1 ⟨by decide, by decide⟩ dX5_cancel_21) <|
  tc (fun p e s m args below meth c cA D A ad0 h => ok_goto h.1 26 (by decide) dX5_cancel_22) <|
  tc (fun p e s m args below meth c cA D A ad0 h => ok_iconst h.1 ⟨by decide, by decide⟩ dX5_cancel_25) <|
  tc (fun p e s m args below meth c cA D A ad0 h => ok_callV h.1 h.2.1 ⟨Nat.le_refl _, Nat.le_refl _⟩ mdX5_fails siX5_fails cxX5 mkRX5_148 imX5_fails seX5_fails ⟨by decide, by decide⟩ (aAx_out h.1 h.2.2.1 _) dX5_cancel_26) <|
  tc (fun p e s m args below meth c cA D A ad0 h => ok_if_eq h.1 34 (by decide) dX5_cancel_29) <|
  tc (fun p e s m args below meth c cA D A ad0 h => ok_iconst h.1 ⟨by decide, by decide⟩ dX5_cancel_32) <|
  tc (fun p e s m args below meth c cA D A ad0 h => ok_ireturn h.1 h.2.2.2.1 (Or.inl rfl) dX5_cancel_33) <|
  tc (fun p e s m args below meth c cA D A ad0 h => ok_aload_n h.1 0 rfl dX5_cancel_34) <|
  tc (fun p e s m args below meth c cA D A ad0 h => ok_getR h.1 cxX5 (by decide) rfl fkRX5_13 (fun _ _ _ => rfl) dX5_cancel_35) <|
  tc (fun p e s m args below meth c cA D A ad0 h => ok_iload_n h.1 1 rfl dX5_cancel_38) <|
  tc (fun p e s m args below meth c cA D A ad0 h => ok_bipush h.1 ⟨by decide, by decide⟩ (by decide) dX5_cancel_39) <|
  tc (fun p e s m args below meth c cA D A ad0 h => ok_cast h.1 dX5_cancel_41) <|
  tc (fun p e s m args below meth c cA D A ad0 h => ok_aload_n h.1 0 rfl dX5_cancel_42) <|
  tc (fun p e s m args below meth c cA D A ad0 h => ok_getR h.1 cxX5 (by decide) rfl fkRX5_29 (fun _ _ _ => rfl) dX5_cancel_43) <|
  tc (fun p e s m args below meth c cA D A ad0 h => ok_iload_n h.1 1 rfl dX5_cancel_46) <|
  tc (fun p e s m args below meth c cA D A ad0 h => ok_iald h.1 dX5_cancel_47) <|
  tc (fun p e s m args below meth c cA D A ad0 h => ok_ireturn h.1 h.2.2.2.1 (Or.inl rfl) dX5_cancel_48) <|
  tn
abbrev cuX5_cancel : List Nat := [6, 18, 29]
theorem tX5_cancel_0 (l : Launch) (K : aRs) (X : aXs) : tb (tbX5_cancel l K X) 0 = sLd 0 1 isR := (rfl)
theorem wX5_cancel_0 {l : Launch} {K : aRs} {X : aXs} {J : aK} {W : Nat → aK} (hW : isW (tbX5_cancel l K X) cuX5_cancel J W) (n : Nat) (ls st : List aV) (μ : aM) (g : Nat) : W (n + 1) 0 ls st μ g = (sLd 0 1 isR) (W n) ls st μ g := (hW n 0 ls st μ g).trans rfl
theorem wX5_cancel_1 {l : Launch} {K : aRs} {X : aXs} {J : aK} {W : Nat → aK} (hW : isW (tbX5_cancel l K X) cuX5_cancel J W) (n : Nat) (ls st : List aV) (μ : aM) (g : Nat) : W (n + 1) 1 ls st μ g = (sLd 0 2 isR) (W n) ls st μ g := (hW n 1 ls st μ g).trans rfl
theorem wX5_cancel_2 {l : Launch} {K : aRs} {X : aXs} {J : aK} {W : Nat → aK} (hW : isW (tbX5_cancel l K X) cuX5_cancel J W) (n : Nat) (ls st : List aV) (μ : aM) (g : Nat) : W (n + 1) 2 ls st μ g = (sLd 1 3 isI) (W n) ls st μ g := (hW n 2 ls st μ g).trans rfl
theorem wX5_cancel_3 {l : Launch} {K : aRs} {X : aXs} {J : aK} {W : Nat → aK} (hW : isW (tbX5_cancel l K X) cuX5_cancel J W) (n : Nat) (ls st : List aV) (μ : aM) (g : Nat) : W (n + 1) 3 ls st μ g = (sCallV 1 5 (fun as μ K => Ct l mdX5_isNone as μ K X) 6 0 0) (W n) ls st μ g := (hW n 3 ls st μ g).trans rfl
theorem tX5_cancel_6 (l : Launch) (K : aRs) (X : aXs) : tb (tbX5_cancel l K X) 6 = sIf pEq 13 9 := (rfl)
theorem wX5_cancel_6 {l : Launch} {K : aRs} {X : aXs} {J : aK} {W : Nat → aK} (hW : isW (tbX5_cancel l K X) cuX5_cancel J W) (n : Nat) (ls st : List aV) (μ : aM) (g : Nat) : W (n + 1) 6 ls st μ g = J 6 ls st μ g := (hW n 6 ls st μ g).trans rfl
theorem wX5_cancel_9 {l : Launch} {K : aRs} {X : aXs} {J : aK} {W : Nat → aK} (hW : isW (tbX5_cancel l K X) cuX5_cancel J W) (n : Nat) (ls st : List aV) (μ : aM) (g : Nat) : W (n + 1) 9 ls st μ g = (sPush (aI 1) 10) (W n) ls st μ g := (hW n 9 ls st μ g).trans rfl
theorem wX5_cancel_10 {l : Launch} {K : aRs} {X : aXs} {J : aK} {W : Nat → aK} (hW : isW (tbX5_cancel l K X) cuX5_cancel J W) (n : Nat) (ls st : List aV) (μ : aM) (g : Nat) : W (n + 1) 10 ls st μ g = (sGoto 26) (W n) ls st μ g := (hW n 10 ls st μ g).trans rfl
theorem wX5_cancel_13 {l : Launch} {K : aRs} {X : aXs} {J : aK} {W : Nat → aK} (hW : isW (tbX5_cancel l K X) cuX5_cancel J W) (n : Nat) (ls st : List aV) (μ : aM) (g : Nat) : W (n + 1) 13 ls st μ g = (sLd 0 14 isR) (W n) ls st μ g := (hW n 13 ls st μ g).trans rfl
theorem wX5_cancel_14 {l : Launch} {K : aRs} {X : aXs} {J : aK} {W : Nat → aK} (hW : isW (tbX5_cancel l K X) cuX5_cancel J W) (n : Nat) (ls st : List aV) (μ : aM) (g : Nat) : W (n + 1) 14 ls st μ g = (sLd 1 15 isI) (W n) ls st μ g := (hW n 14 ls st μ g).trans rfl
theorem wX5_cancel_15 {l : Launch} {K : aRs} {X : aXs} {J : aK} {W : Nat → aK} (hW : isW (tbX5_cancel l K X) cuX5_cancel J W) (n : Nat) (ls st : List aV) (μ : aM) (g : Nat) : W (n + 1) 15 ls st μ g = (sCallV 1 5 (fun as μ K => Ct l mdX5_isOver as μ K X) 18 0 0) (W n) ls st μ g := (hW n 15 ls st μ g).trans rfl
theorem tX5_cancel_18 (l : Launch) (K : aRs) (X : aXs) : tb (tbX5_cancel l K X) 18 = sIf pEq 25 21 := (rfl)
theorem wX5_cancel_18 {l : Launch} {K : aRs} {X : aXs} {J : aK} {W : Nat → aK} (hW : isW (tbX5_cancel l K X) cuX5_cancel J W) (n : Nat) (ls st : List aV) (μ : aM) (g : Nat) : W (n + 1) 18 ls st μ g = J 18 ls st μ g := (hW n 18 ls st μ g).trans rfl
theorem wX5_cancel_21 {l : Launch} {K : aRs} {X : aXs} {J : aK} {W : Nat → aK} (hW : isW (tbX5_cancel l K X) cuX5_cancel J W) (n : Nat) (ls st : List aV) (μ : aM) (g : Nat) : W (n + 1) 21 ls st μ g = (sPush (aI 2) 22) (W n) ls st μ g := (hW n 21 ls st μ g).trans rfl
theorem wX5_cancel_22 {l : Launch} {K : aRs} {X : aXs} {J : aK} {W : Nat → aK} (hW : isW (tbX5_cancel l K X) cuX5_cancel J W) (n : Nat) (ls st : List aV) (μ : aM) (g : Nat) : W (n + 1) 22 ls st μ g = (sGoto 26) (W n) ls st μ g := (hW n 22 ls st μ g).trans rfl
theorem wX5_cancel_25 {l : Launch} {K : aRs} {X : aXs} {J : aK} {W : Nat → aK} (hW : isW (tbX5_cancel l K X) cuX5_cancel J W) (n : Nat) (ls st : List aV) (μ : aM) (g : Nat) : W (n + 1) 25 ls st μ g = (sPush (aI 0) 26) (W n) ls st μ g := (hW n 25 ls st μ g).trans rfl
theorem wX5_cancel_26 {l : Launch} {K : aRs} {X : aXs} {J : aK} {W : Nat → aK} (hW : isW (tbX5_cancel l K X) cuX5_cancel J W) (n : Nat) (ls st : List aV) (μ : aM) (g : Nat) : W (n + 1) 26 ls st μ g = (sCallV 1 5 (fun as μ K => Ct l mdX5_fails as μ K X) 29 0 0) (W n) ls st μ g := (hW n 26 ls st μ g).trans rfl
theorem tX5_cancel_29 (l : Launch) (K : aRs) (X : aXs) : tb (tbX5_cancel l K X) 29 = sIf pEq 34 32 := (rfl)
theorem wX5_cancel_29 {l : Launch} {K : aRs} {X : aXs} {J : aK} {W : Nat → aK} (hW : isW (tbX5_cancel l K X) cuX5_cancel J W) (n : Nat) (ls st : List aV) (μ : aM) (g : Nat) : W (n + 1) 29 ls st μ g = J 29 ls st μ g := (hW n 29 ls st μ g).trans rfl
theorem wX5_cancel_32 {l : Launch} {K : aRs} {X : aXs} {J : aK} {W : Nat → aK} (hW : isW (tbX5_cancel l K X) cuX5_cancel J W) (n : Nat) (ls st : List aV) (μ : aM) (g : Nat) : W (n + 1) 32 ls st μ g = (sPush (aI 0) 33) (W n) ls st μ g := (hW n 32 ls st μ g).trans rfl
theorem wX5_cancel_33 {l : Launch} {K : aRs} {X : aXs} {J : aK} {W : Nat → aK} (hW : isW (tbX5_cancel l K X) cuX5_cancel J W) (n : Nat) (ls st : List aV) (μ : aM) (g : Nat) : W (n + 1) 33 ls st μ g = (sRetI .int 0 K) (W n) ls st μ g := (hW n 33 ls st μ g).trans rfl
theorem wX5_cancel_34 {l : Launch} {K : aRs} {X : aXs} {J : aK} {W : Nat → aK} (hW : isW (tbX5_cancel l K X) cuX5_cancel J W) (n : Nat) (ls st : List aV) (μ : aM) (g : Nat) : W (n + 1) 34 ls st μ g = (sLd 0 35 isR) (W n) ls st μ g := (hW n 34 ls st μ g).trans rfl
theorem wX5_cancel_35 {l : Launch} {K : aRs} {X : aXs} {J : aK} {W : Nat → aK} (hW : isW (tbX5_cancel l K X) cuX5_cancel J W) (n : Nat) (ls st : List aV) (μ : aM) (g : Nat) : W (n + 1) 35 ls st μ g = (sGetR 5 2 38) (W n) ls st μ g := (hW n 35 ls st μ g).trans rfl
theorem wX5_cancel_38 {l : Launch} {K : aRs} {X : aXs} {J : aK} {W : Nat → aK} (hW : isW (tbX5_cancel l K X) cuX5_cancel J W) (n : Nat) (ls st : List aV) (μ : aM) (g : Nat) : W (n + 1) 38 ls st μ g = (sLd 1 39 isI) (W n) ls st μ g := (hW n 38 ls st μ g).trans rfl
theorem wX5_cancel_39 {l : Launch} {K : aRs} {X : aXs} {J : aK} {W : Nat → aK} (hW : isW (tbX5_cancel l K X) cuX5_cancel J W) (n : Nat) (ls st : List aV) (μ : aM) (g : Nat) : W (n + 1) 39 ls st μ g = (sPush (aI 99) 41) (W n) ls st μ g := (hW n 39 ls st μ g).trans rfl
theorem wX5_cancel_41 {l : Launch} {K : aRs} {X : aXs} {J : aK} {W : Nat → aK} (hW : isW (tbX5_cancel l K X) cuX5_cancel J W) (n : Nat) (ls st : List aV) (μ : aM) (g : Nat) : W (n + 1) 41 ls st μ g = (sAstC 42) (W n) ls st μ g := (hW n 41 ls st μ g).trans rfl
theorem wX5_cancel_42 {l : Launch} {K : aRs} {X : aXs} {J : aK} {W : Nat → aK} (hW : isW (tbX5_cancel l K X) cuX5_cancel J W) (n : Nat) (ls st : List aV) (μ : aM) (g : Nat) : W (n + 1) 42 ls st μ g = (sLd 0 43 isR) (W n) ls st μ g := (hW n 42 ls st μ g).trans rfl
theorem wX5_cancel_43 {l : Launch} {K : aRs} {X : aXs} {J : aK} {W : Nat → aK} (hW : isW (tbX5_cancel l K X) cuX5_cancel J W) (n : Nat) (ls st : List aV) (μ : aM) (g : Nat) : W (n + 1) 43 ls st μ g = (sGetR 5 7 46) (W n) ls st μ g := (hW n 43 ls st μ g).trans rfl
theorem wX5_cancel_46 {l : Launch} {K : aRs} {X : aXs} {J : aK} {W : Nat → aK} (hW : isW (tbX5_cancel l K X) cuX5_cancel J W) (n : Nat) (ls st : List aV) (μ : aM) (g : Nat) : W (n + 1) 46 ls st μ g = (sLd 1 47 isI) (W n) ls st μ g := (hW n 46 ls st μ g).trans rfl
theorem wX5_cancel_47 {l : Launch} {K : aRs} {X : aXs} {J : aK} {W : Nat → aK} (hW : isW (tbX5_cancel l K X) cuX5_cancel J W) (n : Nat) (ls st : List aV) (μ : aM) (g : Nat) : W (n + 1) 47 ls st μ g = (sAldI 7 48) (W n) ls st μ g := (hW n 47 ls st μ g).trans rfl
theorem wX5_cancel_48 {l : Launch} {K : aRs} {X : aXs} {J : aK} {W : Nat → aK} (hW : isW (tbX5_cancel l K X) cuX5_cancel J W) (n : Nat) (ls st : List aV) (μ : aM) (g : Nat) : W (n + 1) 48 ls st μ g = (sRetI .int 0 K) (W n) ls st μ g := (hW n 48 ls st μ g).trans rfl
theorem dX5_reduce_0 : decode cX5_reduce 0 = .ok (.aload_n 0, 1) := by decide +kernel
theorem dX5_reduce_1 : decode cX5_reduce 1 = .ok (.aload_n 0, 1) := by decide +kernel
theorem dX5_reduce_2 : decode cX5_reduce 2 = .ok (.iload_n 1, 1) := by decide +kernel
theorem dX5_reduce_3 : decode cX5_reduce 3 = .ok (.invokevirtual 158, 3) := by decide +kernel
theorem dX5_reduce_6 : decode cX5_reduce 6 = .ok (.ifCond .eq 7, 3) := by decide +kernel
theorem dX5_reduce_9 : decode cX5_reduce 9 = .ok (.iconst 1, 1) := by decide +kernel
theorem dX5_reduce_10 : decode cX5_reduce 10 = .ok (.goto 35, 3) := by decide +kernel
theorem dX5_reduce_13 : decode cX5_reduce 13 = .ok (.iload_n 2, 1) := by decide +kernel
theorem dX5_reduce_14 : decode cX5_reduce 14 = .ok (.iconst 1, 1) := by decide +kernel
theorem dX5_reduce_15 : decode cX5_reduce 15 = .ok (.if_icmp .ge 7, 3) := by decide +kernel
theorem dX5_reduce_18 : decode cX5_reduce 18 = .ok (.iconst 2, 1) := by decide +kernel
theorem dX5_reduce_19 : decode cX5_reduce 19 = .ok (.goto 26, 3) := by decide +kernel
theorem dX5_reduce_22 : decode cX5_reduce 22 = .ok (.aload_n 0, 1) := by decide +kernel
theorem dX5_reduce_23 : decode cX5_reduce 23 = .ok (.iload_n 1, 1) := by decide +kernel
theorem dX5_reduce_24 : decode cX5_reduce 24 = .ok (.invokevirtual 161, 3) := by decide +kernel
theorem dX5_reduce_27 : decode cX5_reduce 27 = .ok (.ifCond .ne 13, 3) := by decide +kernel
theorem dX5_reduce_30 : decode cX5_reduce 30 = .ok (.iload_n 2, 1) := by decide +kernel
theorem dX5_reduce_31 : decode cX5_reduce 31 = .ok (.aload_n 0, 1) := by decide +kernel
theorem dX5_reduce_32 : decode cX5_reduce 32 = .ok (.getfield 29, 3) := by decide +kernel
theorem dX5_reduce_35 : decode cX5_reduce 35 = .ok (.iload_n 1, 1) := by decide +kernel
theorem dX5_reduce_36 : decode cX5_reduce 36 = .ok (.iaload, 1) := by decide +kernel
theorem dX5_reduce_37 : decode cX5_reduce 37 = .ok (.if_icmp .lt 7, 3) := by decide +kernel
theorem dX5_reduce_40 : decode cX5_reduce 40 = .ok (.iconst 3, 1) := by decide +kernel
theorem dX5_reduce_41 : decode cX5_reduce 41 = .ok (.goto 4, 3) := by decide +kernel
theorem dX5_reduce_44 : decode cX5_reduce 44 = .ok (.iconst 0, 1) := by decide +kernel
theorem dX5_reduce_45 : decode cX5_reduce 45 = .ok (.invokevirtual 148, 3) := by decide +kernel
theorem dX5_reduce_48 : decode cX5_reduce 48 = .ok (.ifCond .eq 5, 3) := by decide +kernel
theorem dX5_reduce_51 : decode cX5_reduce 51 = .ok (.iconst 0, 1) := by decide +kernel
theorem dX5_reduce_52 : decode cX5_reduce 52 = .ok (.ireturn, 1) := by decide +kernel
theorem dX5_reduce_53 : decode cX5_reduce 53 = .ok (.aload_n 0, 1) := by decide +kernel
theorem dX5_reduce_54 : decode cX5_reduce 54 = .ok (.getfield 29, 3) := by decide +kernel
theorem dX5_reduce_57 : decode cX5_reduce 57 = .ok (.iload_n 1, 1) := by decide +kernel
theorem dX5_reduce_58 : decode cX5_reduce 58 = .ok (.iaload, 1) := by decide +kernel
theorem dX5_reduce_59 : decode cX5_reduce 59 = .ok (.istore_n 3, 1) := by decide +kernel
theorem dX5_reduce_60 : decode cX5_reduce 60 = .ok (.aload_n 0, 1) := by decide +kernel
theorem dX5_reduce_61 : decode cX5_reduce 61 = .ok (.getfield 29, 3) := by decide +kernel
theorem dX5_reduce_64 : decode cX5_reduce 64 = .ok (.iload_n 1, 1) := by decide +kernel
theorem dX5_reduce_65 : decode cX5_reduce 65 = .ok (.iload_n 2, 1) := by decide +kernel
theorem dX5_reduce_66 : decode cX5_reduce 66 = .ok (.iastore, 1) := by decide +kernel
theorem dX5_reduce_67 : decode cX5_reduce 67 = .ok (.aload_n 0, 1) := by decide +kernel
theorem dX5_reduce_68 : decode cX5_reduce 68 = .ok (.getfield 38, 3) := by decide +kernel
theorem dX5_reduce_71 : decode cX5_reduce 71 = .ok (.iload_n 1, 1) := by decide +kernel
theorem dX5_reduce_72 : decode cX5_reduce 72 = .ok (.aload_n 0, 1) := by decide +kernel
theorem dX5_reduce_73 : decode cX5_reduce 73 = .ok (.getfield 38, 3) := by decide +kernel
theorem dX5_reduce_76 : decode cX5_reduce 76 = .ok (.iload_n 1, 1) := by decide +kernel
theorem dX5_reduce_77 : decode cX5_reduce 77 = .ok (.iaload, 1) := by decide +kernel
theorem dX5_reduce_78 : decode cX5_reduce 78 = .ok (.iload_n 2, 1) := by decide +kernel
theorem dX5_reduce_79 : decode cX5_reduce 79 = .ok (.invokestatic 79, 3) := by decide +kernel
theorem dX5_reduce_82 : decode cX5_reduce 82 = .ok (.iastore, 1) := by decide +kernel
theorem dX5_reduce_83 : decode cX5_reduce 83 = .ok (.iload_n 3, 1) := by decide +kernel
theorem dX5_reduce_84 : decode cX5_reduce 84 = .ok (.ireturn, 1) := by decide +kernel
def tbX5_reduce (l : Launch) (K : aRs) (X : aXs) : aTb := [
  (0, sLd 0 1 isR),
  (1, sLd 0 2 isR),
  (2, sLd 1 3 isI),
  (3, sCallV 1 5 (fun as μ K => Ct l mdX5_isNone as μ K X) 6 0 0),
  (6, sIf pEq 13 9),
  (9, sPush (aI 1) 10),
  (10, sGoto 45),
  (13, sLd 2 14 isI),
  (14, sPush (aI 1) 15),
  (15, sIc qGe 22 18),
  (18, sPush (aI 2) 19),
  (19, sGoto 45),
  (22, sLd 0 23 isR),
  (23, sLd 1 24 isI),
  (24, sCallV 1 5 (fun as μ K => Ct l mdX5_isOver as μ K X) 27 0 0),
  (27, sIf pNe 40 30),
  (30, sLd 2 31 isI),
  (31, sLd 0 32 isR),
  (32, sGetR 5 7 35),
  (35, sLd 1 36 isI),
  (36, sAldI 7 37),
  (37, sIc qLt 44 40),
  (40, sPush (aI 3) 41),
  (41, sGoto 45),
  (44, sPush (aI 0) 45),
  (45, sCallV 1 5 (fun as μ K => Ct l mdX5_fails as μ K X) 48 0 0),
  (48, sIf pEq 53 51),
  (51, sPush (aI 0) 52),
  (52, sRetI .int 0 K),
  (53, sLd 0 54 isR),
  (54, sGetR 5 7 57),
  (57, sLd 1 58 isI),
  (58, sAldI 7 59),
  (59, sSt 3 60 isI),
  (60, sLd 0 61 isR),
  (61, sGetR 5 7 64),
  (64, sLd 1 65 isI),
  (65, sLd 2 66 isI),
  (66, sAstI 67),
  (67, sLd 0 68 isR),
  (68, sGetR 5 10 71),
  (71, sLd 1 72 isI),
  (72, sLd 0 73 isR),
  (73, sGetR 5 10 76),
  (76, sLd 1 77 isI),
  (77, sAldI 7 78),
  (78, sLd 2 79 isI),
  (79, sCallS 2 (fun as μ K => Ct l mdX5_lesser as μ K X) 82 0 0),
  (82, sAstI 83),
  (83, sLd 3 84 isI),
  (84, sRetI .int 0 K)]
theorem snX5_reduce (l : Launch) (K : aRs) (X : aXs) (n0 : Nat) : ∀ q ∈ tbX5_reduce l K X, aSo l mdX5_reduce K X n0 q.1 q.2 :=
  tc (fun p e s m args below meth c cA D A ad0 h => ok_aload_n h.1 0 rfl dX5_reduce_0) <|
  tc (fun p e s m args below meth c cA D A ad0 h => ok_aload_n h.1 0 rfl dX5_reduce_1) <|
  tc (fun p e s m args below meth c cA D A ad0 h => ok_iload_n h.1 1 rfl dX5_reduce_2) <|
  tc (fun p e s m args below meth c cA D A ad0 h => ok_callV h.1 h.2.1 ⟨Nat.le_refl _, Nat.le_refl _⟩ mdX5_isNone siX5_isNone cxX5 mkRX5_158 imX5_isNone seX5_isNone ⟨by decide, by decide⟩ (aAx_out h.1 h.2.2.1 _) dX5_reduce_3) <|
  tc (fun p e s m args below meth c cA D A ad0 h => ok_if_eq h.1 13 (by decide) dX5_reduce_6) <|
  tc (fun p e s m args below meth c cA D A ad0 h => ok_iconst h.1 ⟨by decide, by decide⟩ dX5_reduce_9) <|
  tc (fun p e s m args below meth c cA D A ad0 h => ok_goto h.1 45 (by decide) dX5_reduce_10) <|
  tc (fun p e s m args below meth c cA D A ad0 h => ok_iload_n h.1 2 rfl dX5_reduce_13) <|
  tc (fun p e s m args below meth c cA D A ad0 h => ok_iconst h.1 ⟨by decide, by decide⟩ dX5_reduce_14) <|
  tc (fun p e s m args below meth c cA D A ad0 h => ok_icmp_ge h.1 22 (by decide) dX5_reduce_15) <|
  tc (fun p e s m args below meth c cA D A ad0 h => ok_iconst h.1 ⟨by decide, by decide⟩ dX5_reduce_18) <|
  tc (fun p e s m args below meth c cA D A ad0 h => ok_goto h.1 45 (by decide) dX5_reduce_19) <|
  tc (fun p e s m args below meth c cA D A ad0 h => ok_aload_n h.1 0 rfl dX5_reduce_22) <|
  tc (fun p e s m args below meth c cA D A ad0 h => ok_iload_n h.1 1 rfl dX5_reduce_23) <|
  tc (fun p e s m args below meth c cA D A ad0 h => ok_callV h.1 h.2.1 ⟨Nat.le_refl _, Nat.le_refl _⟩ mdX5_isOver siX5_isOver cxX5 mkRX5_161 imX5_isOver seX5_isOver ⟨by decide, by decide⟩ (aAx_out h.1 h.2.2.1 _) dX5_reduce_24) <|
  tc (fun p e s m args below meth c cA D A ad0 h => ok_if_ne h.1 40 (by decide) dX5_reduce_27) <|
  tc (fun p e s m args below meth c cA D A ad0 h => ok_iload_n h.1 2 rfl dX5_reduce_30) <|
  tc (fun p e s m args below meth c cA D A ad0 h => ok_aload_n h.1 0 rfl dX5_reduce_31) <|
  tc (fun p e s m args below meth c cA D A ad0 h => ok_getR h.1 cxX5 (by decide) rfl fkRX5_29 (fun _ _ _ => rfl) dX5_reduce_32) <|
  tc (fun p e s m args below meth c cA D A ad0 h => ok_iload_n h.1 1 rfl dX5_reduce_35) <|
  tc (fun p e s m args below meth c cA D A ad0 h => ok_iald h.1 dX5_reduce_36) <|
  tc (fun p e s m args below meth c cA D A ad0 h => ok_icmp_lt h.1 44 (by decide) dX5_reduce_37) <|
  tc (fun p e s m args below meth c cA D A ad0 h => ok_iconst h.1 ⟨by decide, by decide⟩ dX5_reduce_40) <|
  tc (fun p e s m args below meth c cA D A ad0 h => ok_goto h.1 45 (by decide) dX5_reduce_41) <|
  tc (fun p e s m args below meth c cA D A ad0 h => ok_iconst h.1 ⟨by decide, by decide⟩ dX5_reduce_44) <|
  tc (fun p e s m args below meth c cA D A ad0 h => ok_callV h.1 h.2.1 ⟨Nat.le_refl _, Nat.le_refl _⟩ mdX5_fails siX5_fails cxX5 mkRX5_148 imX5_fails seX5_fails ⟨by decide, by decide⟩ (aAx_out h.1 h.2.2.1 _) dX5_reduce_45) <|
  tc (fun p e s m args below meth c cA D A ad0 h => ok_if_eq h.1 53 (by decide) dX5_reduce_48) <|
  tc (fun p e s m args below meth c cA D A ad0 h => ok_iconst h.1 ⟨by decide, by decide⟩ dX5_reduce_51) <|
  tc (fun p e s m args below meth c cA D A ad0 h => ok_ireturn h.1 h.2.2.2.1 (Or.inl rfl) dX5_reduce_52) <|
  tc (fun p e s m args below meth c cA D A ad0 h => ok_aload_n h.1 0 rfl dX5_reduce_53) <|
  tc (fun p e s m args below meth c cA D A ad0 h => ok_getR h.1 cxX5 (by decide) rfl fkRX5_29 (fun _ _ _ => rfl) dX5_reduce_54) <|
  tc (fun p e s m args below meth c cA D A ad0 h => ok_iload_n h.1 1 rfl dX5_reduce_57) <|
  tc (fun p e s m args below meth c cA D A ad0 h => ok_iald h.1 dX5_reduce_58) <|
  tc (fun p e s m args below meth c cA D A ad0 h => ok_istore_n h.1 3 rfl (by decide) dX5_reduce_59) <|
  tc (fun p e s m args below meth c cA D A ad0 h => ok_aload_n h.1 0 rfl dX5_reduce_60) <|
  tc (fun p e s m args below meth c cA D A ad0 h => ok_getR h.1 cxX5 (by decide) rfl fkRX5_29 (fun _ _ _ => rfl) dX5_reduce_61) <|
  tc (fun p e s m args below meth c cA D A ad0 h => ok_iload_n h.1 1 rfl dX5_reduce_64) <|
  tc (fun p e s m args below meth c cA D A ad0 h => ok_iload_n h.1 2 rfl dX5_reduce_65) <|
  tc (fun p e s m args below meth c cA D A ad0 h => ok_iast h.1 dX5_reduce_66) <|
  tc (fun p e s m args below meth c cA D A ad0 h => ok_aload_n h.1 0 rfl dX5_reduce_67) <|
  tc (fun p e s m args below meth c cA D A ad0 h => ok_getR h.1 cxX5 (by decide) rfl fkRX5_38 (fun _ _ _ => rfl) dX5_reduce_68) <|
  tc (fun p e s m args below meth c cA D A ad0 h => ok_iload_n h.1 1 rfl dX5_reduce_71) <|
  tc (fun p e s m args below meth c cA D A ad0 h => ok_aload_n h.1 0 rfl dX5_reduce_72) <|
  tc (fun p e s m args below meth c cA D A ad0 h => ok_getR h.1 cxX5 (by decide) rfl fkRX5_38 (fun _ _ _ => rfl) dX5_reduce_73) <|
  tc (fun p e s m args below meth c cA D A ad0 h => ok_iload_n h.1 1 rfl dX5_reduce_76) <|
  tc (fun p e s m args below meth c cA D A ad0 h => ok_iald h.1 dX5_reduce_77) <|
  tc (fun p e s m args below meth c cA D A ad0 h => ok_iload_n h.1 2 rfl dX5_reduce_78) <|
  tc (fun p e s m args below meth c cA D A ad0 h => ok_callS h.1 h.2.1 ⟨Nat.le_refl _, Nat.le_refl _⟩ mdX5_lesser siX5_lesser mkRX5_79 stX5_lesser ⟨by decide, by decide⟩ (aAx_out h.1 h.2.2.1 _) dX5_reduce_79) <|
  tc (fun p e s m args below meth c cA D A ad0 h => ok_iast h.1 dX5_reduce_82) <|
  tc (fun p e s m args below meth c cA D A ad0 h => ok_iload_n h.1 3 rfl dX5_reduce_83) <|
  tc (fun p e s m args below meth c cA D A ad0 h => ok_ireturn h.1 h.2.2.2.1 (Or.inl rfl) dX5_reduce_84) <|
  tn
abbrev cuX5_reduce : List Nat := [6, 27, 48, 82]
theorem tX5_reduce_0 (l : Launch) (K : aRs) (X : aXs) : tb (tbX5_reduce l K X) 0 = sLd 0 1 isR := (rfl)
theorem wX5_reduce_0 {l : Launch} {K : aRs} {X : aXs} {J : aK} {W : Nat → aK} (hW : isW (tbX5_reduce l K X) cuX5_reduce J W) (n : Nat) (ls st : List aV) (μ : aM) (g : Nat) : W (n + 1) 0 ls st μ g = (sLd 0 1 isR) (W n) ls st μ g := (hW n 0 ls st μ g).trans rfl
theorem wX5_reduce_1 {l : Launch} {K : aRs} {X : aXs} {J : aK} {W : Nat → aK} (hW : isW (tbX5_reduce l K X) cuX5_reduce J W) (n : Nat) (ls st : List aV) (μ : aM) (g : Nat) : W (n + 1) 1 ls st μ g = (sLd 0 2 isR) (W n) ls st μ g := (hW n 1 ls st μ g).trans rfl
theorem wX5_reduce_2 {l : Launch} {K : aRs} {X : aXs} {J : aK} {W : Nat → aK} (hW : isW (tbX5_reduce l K X) cuX5_reduce J W) (n : Nat) (ls st : List aV) (μ : aM) (g : Nat) : W (n + 1) 2 ls st μ g = (sLd 1 3 isI) (W n) ls st μ g := (hW n 2 ls st μ g).trans rfl
theorem wX5_reduce_3 {l : Launch} {K : aRs} {X : aXs} {J : aK} {W : Nat → aK} (hW : isW (tbX5_reduce l K X) cuX5_reduce J W) (n : Nat) (ls st : List aV) (μ : aM) (g : Nat) : W (n + 1) 3 ls st μ g = (sCallV 1 5 (fun as μ K => Ct l mdX5_isNone as μ K X) 6 0 0) (W n) ls st μ g := (hW n 3 ls st μ g).trans rfl
theorem tX5_reduce_6 (l : Launch) (K : aRs) (X : aXs) : tb (tbX5_reduce l K X) 6 = sIf pEq 13 9 := (rfl)
theorem wX5_reduce_6 {l : Launch} {K : aRs} {X : aXs} {J : aK} {W : Nat → aK} (hW : isW (tbX5_reduce l K X) cuX5_reduce J W) (n : Nat) (ls st : List aV) (μ : aM) (g : Nat) : W (n + 1) 6 ls st μ g = J 6 ls st μ g := (hW n 6 ls st μ g).trans rfl
theorem wX5_reduce_9 {l : Launch} {K : aRs} {X : aXs} {J : aK} {W : Nat → aK} (hW : isW (tbX5_reduce l K X) cuX5_reduce J W) (n : Nat) (ls st : List aV) (μ : aM) (g : Nat) : W (n + 1) 9 ls st μ g = (sPush (aI 1) 10) (W n) ls st μ g := (hW n 9 ls st μ g).trans rfl
theorem wX5_reduce_10 {l : Launch} {K : aRs} {X : aXs} {J : aK} {W : Nat → aK} (hW : isW (tbX5_reduce l K X) cuX5_reduce J W) (n : Nat) (ls st : List aV) (μ : aM) (g : Nat) : W (n + 1) 10 ls st μ g = (sGoto 45) (W n) ls st μ g := (hW n 10 ls st μ g).trans rfl
theorem wX5_reduce_13 {l : Launch} {K : aRs} {X : aXs} {J : aK} {W : Nat → aK} (hW : isW (tbX5_reduce l K X) cuX5_reduce J W) (n : Nat) (ls st : List aV) (μ : aM) (g : Nat) : W (n + 1) 13 ls st μ g = (sLd 2 14 isI) (W n) ls st μ g := (hW n 13 ls st μ g).trans rfl
theorem wX5_reduce_14 {l : Launch} {K : aRs} {X : aXs} {J : aK} {W : Nat → aK} (hW : isW (tbX5_reduce l K X) cuX5_reduce J W) (n : Nat) (ls st : List aV) (μ : aM) (g : Nat) : W (n + 1) 14 ls st μ g = (sPush (aI 1) 15) (W n) ls st μ g := (hW n 14 ls st μ g).trans rfl
theorem wX5_reduce_15 {l : Launch} {K : aRs} {X : aXs} {J : aK} {W : Nat → aK} (hW : isW (tbX5_reduce l K X) cuX5_reduce J W) (n : Nat) (ls st : List aV) (μ : aM) (g : Nat) : W (n + 1) 15 ls st μ g = (sIc qGe 22 18) (W n) ls st μ g := (hW n 15 ls st μ g).trans rfl
theorem wX5_reduce_18 {l : Launch} {K : aRs} {X : aXs} {J : aK} {W : Nat → aK} (hW : isW (tbX5_reduce l K X) cuX5_reduce J W) (n : Nat) (ls st : List aV) (μ : aM) (g : Nat) : W (n + 1) 18 ls st μ g = (sPush (aI 2) 19) (W n) ls st μ g := (hW n 18 ls st μ g).trans rfl
theorem wX5_reduce_19 {l : Launch} {K : aRs} {X : aXs} {J : aK} {W : Nat → aK} (hW : isW (tbX5_reduce l K X) cuX5_reduce J W) (n : Nat) (ls st : List aV) (μ : aM) (g : Nat) : W (n + 1) 19 ls st μ g = (sGoto 45) (W n) ls st μ g := (hW n 19 ls st μ g).trans rfl
theorem wX5_reduce_22 {l : Launch} {K : aRs} {X : aXs} {J : aK} {W : Nat → aK} (hW : isW (tbX5_reduce l K X) cuX5_reduce J W) (n : Nat) (ls st : List aV) (μ : aM) (g : Nat) : W (n + 1) 22 ls st μ g = (sLd 0 23 isR) (W n) ls st μ g := (hW n 22 ls st μ g).trans rfl
theorem wX5_reduce_23 {l : Launch} {K : aRs} {X : aXs} {J : aK} {W : Nat → aK} (hW : isW (tbX5_reduce l K X) cuX5_reduce J W) (n : Nat) (ls st : List aV) (μ : aM) (g : Nat) : W (n + 1) 23 ls st μ g = (sLd 1 24 isI) (W n) ls st μ g := (hW n 23 ls st μ g).trans rfl
theorem wX5_reduce_24 {l : Launch} {K : aRs} {X : aXs} {J : aK} {W : Nat → aK} (hW : isW (tbX5_reduce l K X) cuX5_reduce J W) (n : Nat) (ls st : List aV) (μ : aM) (g : Nat) : W (n + 1) 24 ls st μ g = (sCallV 1 5 (fun as μ K => Ct l mdX5_isOver as μ K X) 27 0 0) (W n) ls st μ g := (hW n 24 ls st μ g).trans rfl
theorem tX5_reduce_27 (l : Launch) (K : aRs) (X : aXs) : tb (tbX5_reduce l K X) 27 = sIf pNe 40 30 := (rfl)
theorem wX5_reduce_27 {l : Launch} {K : aRs} {X : aXs} {J : aK} {W : Nat → aK} (hW : isW (tbX5_reduce l K X) cuX5_reduce J W) (n : Nat) (ls st : List aV) (μ : aM) (g : Nat) : W (n + 1) 27 ls st μ g = J 27 ls st μ g := (hW n 27 ls st μ g).trans rfl
theorem wX5_reduce_30 {l : Launch} {K : aRs} {X : aXs} {J : aK} {W : Nat → aK} (hW : isW (tbX5_reduce l K X) cuX5_reduce J W) (n : Nat) (ls st : List aV) (μ : aM) (g : Nat) : W (n + 1) 30 ls st μ g = (sLd 2 31 isI) (W n) ls st μ g := (hW n 30 ls st μ g).trans rfl
theorem wX5_reduce_31 {l : Launch} {K : aRs} {X : aXs} {J : aK} {W : Nat → aK} (hW : isW (tbX5_reduce l K X) cuX5_reduce J W) (n : Nat) (ls st : List aV) (μ : aM) (g : Nat) : W (n + 1) 31 ls st μ g = (sLd 0 32 isR) (W n) ls st μ g := (hW n 31 ls st μ g).trans rfl
theorem wX5_reduce_32 {l : Launch} {K : aRs} {X : aXs} {J : aK} {W : Nat → aK} (hW : isW (tbX5_reduce l K X) cuX5_reduce J W) (n : Nat) (ls st : List aV) (μ : aM) (g : Nat) : W (n + 1) 32 ls st μ g = (sGetR 5 7 35) (W n) ls st μ g := (hW n 32 ls st μ g).trans rfl
theorem wX5_reduce_35 {l : Launch} {K : aRs} {X : aXs} {J : aK} {W : Nat → aK} (hW : isW (tbX5_reduce l K X) cuX5_reduce J W) (n : Nat) (ls st : List aV) (μ : aM) (g : Nat) : W (n + 1) 35 ls st μ g = (sLd 1 36 isI) (W n) ls st μ g := (hW n 35 ls st μ g).trans rfl
theorem wX5_reduce_36 {l : Launch} {K : aRs} {X : aXs} {J : aK} {W : Nat → aK} (hW : isW (tbX5_reduce l K X) cuX5_reduce J W) (n : Nat) (ls st : List aV) (μ : aM) (g : Nat) : W (n + 1) 36 ls st μ g = (sAldI 7 37) (W n) ls st μ g := (hW n 36 ls st μ g).trans rfl
theorem wX5_reduce_37 {l : Launch} {K : aRs} {X : aXs} {J : aK} {W : Nat → aK} (hW : isW (tbX5_reduce l K X) cuX5_reduce J W) (n : Nat) (ls st : List aV) (μ : aM) (g : Nat) : W (n + 1) 37 ls st μ g = (sIc qLt 44 40) (W n) ls st μ g := (hW n 37 ls st μ g).trans rfl
theorem wX5_reduce_40 {l : Launch} {K : aRs} {X : aXs} {J : aK} {W : Nat → aK} (hW : isW (tbX5_reduce l K X) cuX5_reduce J W) (n : Nat) (ls st : List aV) (μ : aM) (g : Nat) : W (n + 1) 40 ls st μ g = (sPush (aI 3) 41) (W n) ls st μ g := (hW n 40 ls st μ g).trans rfl
theorem wX5_reduce_41 {l : Launch} {K : aRs} {X : aXs} {J : aK} {W : Nat → aK} (hW : isW (tbX5_reduce l K X) cuX5_reduce J W) (n : Nat) (ls st : List aV) (μ : aM) (g : Nat) : W (n + 1) 41 ls st μ g = (sGoto 45) (W n) ls st μ g := (hW n 41 ls st μ g).trans rfl
theorem wX5_reduce_44 {l : Launch} {K : aRs} {X : aXs} {J : aK} {W : Nat → aK} (hW : isW (tbX5_reduce l K X) cuX5_reduce J W) (n : Nat) (ls st : List aV) (μ : aM) (g : Nat) : W (n + 1) 44 ls st μ g = (sPush (aI 0) 45) (W n) ls st μ g := (hW n 44 ls st μ g).trans rfl
theorem wX5_reduce_45 {l : Launch} {K : aRs} {X : aXs} {J : aK} {W : Nat → aK} (hW : isW (tbX5_reduce l K X) cuX5_reduce J W) (n : Nat) (ls st : List aV) (μ : aM) (g : Nat) : W (n + 1) 45 ls st μ g = (sCallV 1 5 (fun as μ K => Ct l mdX5_fails as μ K X) 48 0 0) (W n) ls st μ g := (hW n 45 ls st μ g).trans rfl
theorem tX5_reduce_48 (l : Launch) (K : aRs) (X : aXs) : tb (tbX5_reduce l K X) 48 = sIf pEq 53 51 := (rfl)
theorem wX5_reduce_48 {l : Launch} {K : aRs} {X : aXs} {J : aK} {W : Nat → aK} (hW : isW (tbX5_reduce l K X) cuX5_reduce J W) (n : Nat) (ls st : List aV) (μ : aM) (g : Nat) : W (n + 1) 48 ls st μ g = J 48 ls st μ g := (hW n 48 ls st μ g).trans rfl
theorem wX5_reduce_51 {l : Launch} {K : aRs} {X : aXs} {J : aK} {W : Nat → aK} (hW : isW (tbX5_reduce l K X) cuX5_reduce J W) (n : Nat) (ls st : List aV) (μ : aM) (g : Nat) : W (n + 1) 51 ls st μ g = (sPush (aI 0) 52) (W n) ls st μ g := (hW n 51 ls st μ g).trans rfl
theorem wX5_reduce_52 {l : Launch} {K : aRs} {X : aXs} {J : aK} {W : Nat → aK} (hW : isW (tbX5_reduce l K X) cuX5_reduce J W) (n : Nat) (ls st : List aV) (μ : aM) (g : Nat) : W (n + 1) 52 ls st μ g = (sRetI .int 0 K) (W n) ls st μ g := (hW n 52 ls st μ g).trans rfl
theorem wX5_reduce_53 {l : Launch} {K : aRs} {X : aXs} {J : aK} {W : Nat → aK} (hW : isW (tbX5_reduce l K X) cuX5_reduce J W) (n : Nat) (ls st : List aV) (μ : aM) (g : Nat) : W (n + 1) 53 ls st μ g = (sLd 0 54 isR) (W n) ls st μ g := (hW n 53 ls st μ g).trans rfl
theorem wX5_reduce_54 {l : Launch} {K : aRs} {X : aXs} {J : aK} {W : Nat → aK} (hW : isW (tbX5_reduce l K X) cuX5_reduce J W) (n : Nat) (ls st : List aV) (μ : aM) (g : Nat) : W (n + 1) 54 ls st μ g = (sGetR 5 7 57) (W n) ls st μ g := (hW n 54 ls st μ g).trans rfl
theorem wX5_reduce_57 {l : Launch} {K : aRs} {X : aXs} {J : aK} {W : Nat → aK} (hW : isW (tbX5_reduce l K X) cuX5_reduce J W) (n : Nat) (ls st : List aV) (μ : aM) (g : Nat) : W (n + 1) 57 ls st μ g = (sLd 1 58 isI) (W n) ls st μ g := (hW n 57 ls st μ g).trans rfl
theorem wX5_reduce_58 {l : Launch} {K : aRs} {X : aXs} {J : aK} {W : Nat → aK} (hW : isW (tbX5_reduce l K X) cuX5_reduce J W) (n : Nat) (ls st : List aV) (μ : aM) (g : Nat) : W (n + 1) 58 ls st μ g = (sAldI 7 59) (W n) ls st μ g := (hW n 58 ls st μ g).trans rfl
theorem wX5_reduce_59 {l : Launch} {K : aRs} {X : aXs} {J : aK} {W : Nat → aK} (hW : isW (tbX5_reduce l K X) cuX5_reduce J W) (n : Nat) (ls st : List aV) (μ : aM) (g : Nat) : W (n + 1) 59 ls st μ g = (sSt 3 60 isI) (W n) ls st μ g := (hW n 59 ls st μ g).trans rfl
theorem wX5_reduce_60 {l : Launch} {K : aRs} {X : aXs} {J : aK} {W : Nat → aK} (hW : isW (tbX5_reduce l K X) cuX5_reduce J W) (n : Nat) (ls st : List aV) (μ : aM) (g : Nat) : W (n + 1) 60 ls st μ g = (sLd 0 61 isR) (W n) ls st μ g := (hW n 60 ls st μ g).trans rfl
theorem wX5_reduce_61 {l : Launch} {K : aRs} {X : aXs} {J : aK} {W : Nat → aK} (hW : isW (tbX5_reduce l K X) cuX5_reduce J W) (n : Nat) (ls st : List aV) (μ : aM) (g : Nat) : W (n + 1) 61 ls st μ g = (sGetR 5 7 64) (W n) ls st μ g := (hW n 61 ls st μ g).trans rfl
theorem wX5_reduce_64 {l : Launch} {K : aRs} {X : aXs} {J : aK} {W : Nat → aK} (hW : isW (tbX5_reduce l K X) cuX5_reduce J W) (n : Nat) (ls st : List aV) (μ : aM) (g : Nat) : W (n + 1) 64 ls st μ g = (sLd 1 65 isI) (W n) ls st μ g := (hW n 64 ls st μ g).trans rfl
theorem wX5_reduce_65 {l : Launch} {K : aRs} {X : aXs} {J : aK} {W : Nat → aK} (hW : isW (tbX5_reduce l K X) cuX5_reduce J W) (n : Nat) (ls st : List aV) (μ : aM) (g : Nat) : W (n + 1) 65 ls st μ g = (sLd 2 66 isI) (W n) ls st μ g := (hW n 65 ls st μ g).trans rfl
theorem wX5_reduce_66 {l : Launch} {K : aRs} {X : aXs} {J : aK} {W : Nat → aK} (hW : isW (tbX5_reduce l K X) cuX5_reduce J W) (n : Nat) (ls st : List aV) (μ : aM) (g : Nat) : W (n + 1) 66 ls st μ g = (sAstI 67) (W n) ls st μ g := (hW n 66 ls st μ g).trans rfl
theorem wX5_reduce_67 {l : Launch} {K : aRs} {X : aXs} {J : aK} {W : Nat → aK} (hW : isW (tbX5_reduce l K X) cuX5_reduce J W) (n : Nat) (ls st : List aV) (μ : aM) (g : Nat) : W (n + 1) 67 ls st μ g = (sLd 0 68 isR) (W n) ls st μ g := (hW n 67 ls st μ g).trans rfl
theorem wX5_reduce_68 {l : Launch} {K : aRs} {X : aXs} {J : aK} {W : Nat → aK} (hW : isW (tbX5_reduce l K X) cuX5_reduce J W) (n : Nat) (ls st : List aV) (μ : aM) (g : Nat) : W (n + 1) 68 ls st μ g = (sGetR 5 10 71) (W n) ls st μ g := (hW n 68 ls st μ g).trans rfl
theorem wX5_reduce_71 {l : Launch} {K : aRs} {X : aXs} {J : aK} {W : Nat → aK} (hW : isW (tbX5_reduce l K X) cuX5_reduce J W) (n : Nat) (ls st : List aV) (μ : aM) (g : Nat) : W (n + 1) 71 ls st μ g = (sLd 1 72 isI) (W n) ls st μ g := (hW n 71 ls st μ g).trans rfl
theorem wX5_reduce_72 {l : Launch} {K : aRs} {X : aXs} {J : aK} {W : Nat → aK} (hW : isW (tbX5_reduce l K X) cuX5_reduce J W) (n : Nat) (ls st : List aV) (μ : aM) (g : Nat) : W (n + 1) 72 ls st μ g = (sLd 0 73 isR) (W n) ls st μ g := (hW n 72 ls st μ g).trans rfl
theorem wX5_reduce_73 {l : Launch} {K : aRs} {X : aXs} {J : aK} {W : Nat → aK} (hW : isW (tbX5_reduce l K X) cuX5_reduce J W) (n : Nat) (ls st : List aV) (μ : aM) (g : Nat) : W (n + 1) 73 ls st μ g = (sGetR 5 10 76) (W n) ls st μ g := (hW n 73 ls st μ g).trans rfl
theorem wX5_reduce_76 {l : Launch} {K : aRs} {X : aXs} {J : aK} {W : Nat → aK} (hW : isW (tbX5_reduce l K X) cuX5_reduce J W) (n : Nat) (ls st : List aV) (μ : aM) (g : Nat) : W (n + 1) 76 ls st μ g = (sLd 1 77 isI) (W n) ls st μ g := (hW n 76 ls st μ g).trans rfl
theorem wX5_reduce_77 {l : Launch} {K : aRs} {X : aXs} {J : aK} {W : Nat → aK} (hW : isW (tbX5_reduce l K X) cuX5_reduce J W) (n : Nat) (ls st : List aV) (μ : aM) (g : Nat) : W (n + 1) 77 ls st μ g = (sAldI 7 78) (W n) ls st μ g := (hW n 77 ls st μ g).trans rfl
theorem wX5_reduce_78 {l : Launch} {K : aRs} {X : aXs} {J : aK} {W : Nat → aK} (hW : isW (tbX5_reduce l K X) cuX5_reduce J W) (n : Nat) (ls st : List aV) (μ : aM) (g : Nat) : W (n + 1) 78 ls st μ g = (sLd 2 79 isI) (W n) ls st μ g := (hW n 78 ls st μ g).trans rfl
theorem wX5_reduce_79 {l : Launch} {K : aRs} {X : aXs} {J : aK} {W : Nat → aK} (hW : isW (tbX5_reduce l K X) cuX5_reduce J W) (n : Nat) (ls st : List aV) (μ : aM) (g : Nat) : W (n + 1) 79 ls st μ g = (sCallS 2 (fun as μ K => Ct l mdX5_lesser as μ K X) 82 0 0) (W n) ls st μ g := (hW n 79 ls st μ g).trans rfl
theorem tX5_reduce_82 (l : Launch) (K : aRs) (X : aXs) : tb (tbX5_reduce l K X) 82 = sAstI 83 := (rfl)
theorem wX5_reduce_82 {l : Launch} {K : aRs} {X : aXs} {J : aK} {W : Nat → aK} (hW : isW (tbX5_reduce l K X) cuX5_reduce J W) (n : Nat) (ls st : List aV) (μ : aM) (g : Nat) : W (n + 1) 82 ls st μ g = J 82 ls st μ g := (hW n 82 ls st μ g).trans rfl
theorem wX5_reduce_83 {l : Launch} {K : aRs} {X : aXs} {J : aK} {W : Nat → aK} (hW : isW (tbX5_reduce l K X) cuX5_reduce J W) (n : Nat) (ls st : List aV) (μ : aM) (g : Nat) : W (n + 1) 83 ls st μ g = (sLd 3 84 isI) (W n) ls st μ g := (hW n 83 ls st μ g).trans rfl
theorem wX5_reduce_84 {l : Launch} {K : aRs} {X : aXs} {J : aK} {W : Nat → aK} (hW : isW (tbX5_reduce l K X) cuX5_reduce J W) (n : Nat) (ls st : List aV) (μ : aM) (g : Nat) : W (n + 1) 84 ls st μ g = (sRetI .int 0 K) (W n) ls st μ g := (hW n 84 ls st μ g).trans rfl
theorem dX5_setBand_0 : decode cX5_setBand 0 = .ok (.aload_n 0, 1) := by decide +kernel
theorem dX5_setBand_1 : decode cX5_setBand 1 = .ok (.iload_n 1, 1) := by decide +kernel
theorem dX5_setBand_2 : decode cX5_setBand 2 = .ok (.iconst 0, 1) := by decide +kernel
theorem dX5_setBand_3 : decode cX5_setBand 3 = .ok (.bipush 50, 2) := by decide +kernel
theorem dX5_setBand_5 : decode cX5_setBand 5 = .ok (.invokestatic 64, 3) := by decide +kernel
theorem dX5_setBand_8 : decode cX5_setBand 8 = .ok (.ifCond .eq 7, 3) := by decide +kernel
theorem dX5_setBand_11 : decode cX5_setBand 11 = .ok (.iconst 0, 1) := by decide +kernel
theorem dX5_setBand_12 : decode cX5_setBand 12 = .ok (.goto 4, 3) := by decide +kernel
theorem dX5_setBand_15 : decode cX5_setBand 15 = .ok (.iconst 1, 1) := by decide +kernel
theorem dX5_setBand_16 : decode cX5_setBand 16 = .ok (.invokevirtual 148, 3) := by decide +kernel
theorem dX5_setBand_19 : decode cX5_setBand 19 = .ok (.ifCond .eq 5, 3) := by decide +kernel
theorem dX5_setBand_22 : decode cX5_setBand 22 = .ok (.iconst 0, 1) := by decide +kernel
theorem dX5_setBand_23 : decode cX5_setBand 23 = .ok (.ireturn, 1) := by decide +kernel
theorem dX5_setBand_24 : decode cX5_setBand 24 = .ok (.aload_n 0, 1) := by decide +kernel
theorem dX5_setBand_25 : decode cX5_setBand 25 = .ok (.getfield 107, 3) := by decide +kernel
theorem dX5_setBand_28 : decode cX5_setBand 28 = .ok (.istore_n 2, 1) := by decide +kernel
theorem dX5_setBand_29 : decode cX5_setBand 29 = .ok (.aload_n 0, 1) := by decide +kernel
theorem dX5_setBand_30 : decode cX5_setBand 30 = .ok (.iload_n 1, 1) := by decide +kernel
theorem dX5_setBand_31 : decode cX5_setBand 31 = .ok (.putfield 107, 3) := by decide +kernel
theorem dX5_setBand_34 : decode cX5_setBand 34 = .ok (.iload_n 2, 1) := by decide +kernel
theorem dX5_setBand_35 : decode cX5_setBand 35 = .ok (.ireturn, 1) := by decide +kernel
def tbX5_setBand (l : Launch) (K : aRs) (X : aXs) : aTb := [
  (0, sLd 0 1 isR),
  (1, sLd 1 2 isI),
  (2, sPush (aI 0) 3),
  (3, sPush (aI 50) 5),
  (5, sCallS 3 (fun as μ K => Ct l mdX5_in as μ K X) 8 0 0),
  (8, sIf pEq 15 11),
  (11, sPush (aI 0) 12),
  (12, sGoto 16),
  (15, sPush (aI 1) 16),
  (16, sCallV 1 5 (fun as μ K => Ct l mdX5_fails as μ K X) 19 0 0),
  (19, sIf pEq 24 22),
  (22, sPush (aI 0) 23),
  (23, sRetI .int 0 K),
  (24, sLd 0 25 isR),
  (25, sGetI 5 21 28),
  (28, sSt 2 29 isI),
  (29, sLd 0 30 isR),
  (30, sLd 1 31 isI),
  (31, sPutI 5 21 34),
  (34, sLd 2 35 isI),
  (35, sRetI .int 0 K)]
theorem snX5_setBand (l : Launch) (K : aRs) (X : aXs) (n0 : Nat) : ∀ q ∈ tbX5_setBand l K X, aSo l mdX5_setBand K X n0 q.1 q.2 :=
  tc (fun p e s m args below meth c cA D A ad0 h => ok_aload_n h.1 0 rfl dX5_setBand_0) <|
  tc (fun p e s m args below meth c cA D A ad0 h => ok_iload_n h.1 1 rfl dX5_setBand_1) <|
  tc (fun p e s m args below meth c cA D A ad0 h => ok_iconst h.1 ⟨by decide, by decide⟩ dX5_setBand_2) <|
  tc (fun p e s m args below meth c cA D A ad0 h => ok_bipush h.1 ⟨by decide, by decide⟩ (by decide) dX5_setBand_3) <|
  tc (fun p e s m args below meth c cA D A ad0 h => ok_callS h.1 h.2.1 ⟨Nat.le_refl _, Nat.le_refl _⟩ mdX5_in siX5_in mkRX5_64 stX5_in ⟨by decide, by decide⟩ (aAx_out h.1 h.2.2.1 _) dX5_setBand_5) <|
  tc (fun p e s m args below meth c cA D A ad0 h => ok_if_eq h.1 15 (by decide) dX5_setBand_8) <|
  tc (fun p e s m args below meth c cA D A ad0 h => ok_iconst h.1 ⟨by decide, by decide⟩ dX5_setBand_11) <|
  tc (fun p e s m args below meth c cA D A ad0 h => ok_goto h.1 16 (by decide) dX5_setBand_12) <|
  tc (fun p e s m args below meth c cA D A ad0 h => ok_iconst h.1 ⟨by decide, by decide⟩ dX5_setBand_15) <|
  tc (fun p e s m args below meth c cA D A ad0 h => ok_callV h.1 h.2.1 ⟨Nat.le_refl _, Nat.le_refl _⟩ mdX5_fails siX5_fails cxX5 mkRX5_148 imX5_fails seX5_fails ⟨by decide, by decide⟩ (aAx_out h.1 h.2.2.1 _) dX5_setBand_16) <|
  tc (fun p e s m args below meth c cA D A ad0 h => ok_if_eq h.1 24 (by decide) dX5_setBand_19) <|
  tc (fun p e s m args below meth c cA D A ad0 h => ok_iconst h.1 ⟨by decide, by decide⟩ dX5_setBand_22) <|
  tc (fun p e s m args below meth c cA D A ad0 h => ok_ireturn h.1 h.2.2.2.1 (Or.inl rfl) dX5_setBand_23) <|
  tc (fun p e s m args below meth c cA D A ad0 h => ok_aload_n h.1 0 rfl dX5_setBand_24) <|
  tc (fun p e s m args below meth c cA D A ad0 h => ok_getI h.1 cxX5 (by decide) rfl fkRX5_107 (fun _ _ _ => rfl) dX5_setBand_25) <|
  tc (fun p e s m args below meth c cA D A ad0 h => ok_istore_n h.1 2 rfl (by decide) dX5_setBand_28) <|
  tc (fun p e s m args below meth c cA D A ad0 h => ok_aload_n h.1 0 rfl dX5_setBand_29) <|
  tc (fun p e s m args below meth c cA D A ad0 h => ok_iload_n h.1 1 rfl dX5_setBand_30) <|
  tc (fun p e s m args below meth c cA D A ad0 h => ok_putI h.1 cxX5 (by decide) rfl fkRX5_107 (Or.inl rfl) (fun _ _ _ => rfl) (Or.inl rfl) dX5_setBand_31) <|
  tc (fun p e s m args below meth c cA D A ad0 h => ok_iload_n h.1 2 rfl dX5_setBand_34) <|
  tc (fun p e s m args below meth c cA D A ad0 h => ok_ireturn h.1 h.2.2.2.1 (Or.inl rfl) dX5_setBand_35) <|
  tn
abbrev cuX5_setBand : List Nat := [8, 19]
theorem tX5_setBand_0 (l : Launch) (K : aRs) (X : aXs) : tb (tbX5_setBand l K X) 0 = sLd 0 1 isR := (rfl)
theorem wX5_setBand_0 {l : Launch} {K : aRs} {X : aXs} {J : aK} {W : Nat → aK} (hW : isW (tbX5_setBand l K X) cuX5_setBand J W) (n : Nat) (ls st : List aV) (μ : aM) (g : Nat) : W (n + 1) 0 ls st μ g = (sLd 0 1 isR) (W n) ls st μ g := (hW n 0 ls st μ g).trans rfl
theorem wX5_setBand_1 {l : Launch} {K : aRs} {X : aXs} {J : aK} {W : Nat → aK} (hW : isW (tbX5_setBand l K X) cuX5_setBand J W) (n : Nat) (ls st : List aV) (μ : aM) (g : Nat) : W (n + 1) 1 ls st μ g = (sLd 1 2 isI) (W n) ls st μ g := (hW n 1 ls st μ g).trans rfl
theorem wX5_setBand_2 {l : Launch} {K : aRs} {X : aXs} {J : aK} {W : Nat → aK} (hW : isW (tbX5_setBand l K X) cuX5_setBand J W) (n : Nat) (ls st : List aV) (μ : aM) (g : Nat) : W (n + 1) 2 ls st μ g = (sPush (aI 0) 3) (W n) ls st μ g := (hW n 2 ls st μ g).trans rfl
theorem wX5_setBand_3 {l : Launch} {K : aRs} {X : aXs} {J : aK} {W : Nat → aK} (hW : isW (tbX5_setBand l K X) cuX5_setBand J W) (n : Nat) (ls st : List aV) (μ : aM) (g : Nat) : W (n + 1) 3 ls st μ g = (sPush (aI 50) 5) (W n) ls st μ g := (hW n 3 ls st μ g).trans rfl
theorem wX5_setBand_5 {l : Launch} {K : aRs} {X : aXs} {J : aK} {W : Nat → aK} (hW : isW (tbX5_setBand l K X) cuX5_setBand J W) (n : Nat) (ls st : List aV) (μ : aM) (g : Nat) : W (n + 1) 5 ls st μ g = (sCallS 3 (fun as μ K => Ct l mdX5_in as μ K X) 8 0 0) (W n) ls st μ g := (hW n 5 ls st μ g).trans rfl
theorem tX5_setBand_8 (l : Launch) (K : aRs) (X : aXs) : tb (tbX5_setBand l K X) 8 = sIf pEq 15 11 := (rfl)
theorem wX5_setBand_8 {l : Launch} {K : aRs} {X : aXs} {J : aK} {W : Nat → aK} (hW : isW (tbX5_setBand l K X) cuX5_setBand J W) (n : Nat) (ls st : List aV) (μ : aM) (g : Nat) : W (n + 1) 8 ls st μ g = J 8 ls st μ g := (hW n 8 ls st μ g).trans rfl
theorem wX5_setBand_11 {l : Launch} {K : aRs} {X : aXs} {J : aK} {W : Nat → aK} (hW : isW (tbX5_setBand l K X) cuX5_setBand J W) (n : Nat) (ls st : List aV) (μ : aM) (g : Nat) : W (n + 1) 11 ls st μ g = (sPush (aI 0) 12) (W n) ls st μ g := (hW n 11 ls st μ g).trans rfl
theorem wX5_setBand_12 {l : Launch} {K : aRs} {X : aXs} {J : aK} {W : Nat → aK} (hW : isW (tbX5_setBand l K X) cuX5_setBand J W) (n : Nat) (ls st : List aV) (μ : aM) (g : Nat) : W (n + 1) 12 ls st μ g = (sGoto 16) (W n) ls st μ g := (hW n 12 ls st μ g).trans rfl
theorem wX5_setBand_15 {l : Launch} {K : aRs} {X : aXs} {J : aK} {W : Nat → aK} (hW : isW (tbX5_setBand l K X) cuX5_setBand J W) (n : Nat) (ls st : List aV) (μ : aM) (g : Nat) : W (n + 1) 15 ls st μ g = (sPush (aI 1) 16) (W n) ls st μ g := (hW n 15 ls st μ g).trans rfl
theorem wX5_setBand_16 {l : Launch} {K : aRs} {X : aXs} {J : aK} {W : Nat → aK} (hW : isW (tbX5_setBand l K X) cuX5_setBand J W) (n : Nat) (ls st : List aV) (μ : aM) (g : Nat) : W (n + 1) 16 ls st μ g = (sCallV 1 5 (fun as μ K => Ct l mdX5_fails as μ K X) 19 0 0) (W n) ls st μ g := (hW n 16 ls st μ g).trans rfl
theorem tX5_setBand_19 (l : Launch) (K : aRs) (X : aXs) : tb (tbX5_setBand l K X) 19 = sIf pEq 24 22 := (rfl)
theorem wX5_setBand_19 {l : Launch} {K : aRs} {X : aXs} {J : aK} {W : Nat → aK} (hW : isW (tbX5_setBand l K X) cuX5_setBand J W) (n : Nat) (ls st : List aV) (μ : aM) (g : Nat) : W (n + 1) 19 ls st μ g = J 19 ls st μ g := (hW n 19 ls st μ g).trans rfl
theorem wX5_setBand_22 {l : Launch} {K : aRs} {X : aXs} {J : aK} {W : Nat → aK} (hW : isW (tbX5_setBand l K X) cuX5_setBand J W) (n : Nat) (ls st : List aV) (μ : aM) (g : Nat) : W (n + 1) 22 ls st μ g = (sPush (aI 0) 23) (W n) ls st μ g := (hW n 22 ls st μ g).trans rfl
theorem wX5_setBand_23 {l : Launch} {K : aRs} {X : aXs} {J : aK} {W : Nat → aK} (hW : isW (tbX5_setBand l K X) cuX5_setBand J W) (n : Nat) (ls st : List aV) (μ : aM) (g : Nat) : W (n + 1) 23 ls st μ g = (sRetI .int 0 K) (W n) ls st μ g := (hW n 23 ls st μ g).trans rfl
theorem wX5_setBand_24 {l : Launch} {K : aRs} {X : aXs} {J : aK} {W : Nat → aK} (hW : isW (tbX5_setBand l K X) cuX5_setBand J W) (n : Nat) (ls st : List aV) (μ : aM) (g : Nat) : W (n + 1) 24 ls st μ g = (sLd 0 25 isR) (W n) ls st μ g := (hW n 24 ls st μ g).trans rfl
theorem wX5_setBand_25 {l : Launch} {K : aRs} {X : aXs} {J : aK} {W : Nat → aK} (hW : isW (tbX5_setBand l K X) cuX5_setBand J W) (n : Nat) (ls st : List aV) (μ : aM) (g : Nat) : W (n + 1) 25 ls st μ g = (sGetI 5 21 28) (W n) ls st μ g := (hW n 25 ls st μ g).trans rfl
theorem wX5_setBand_28 {l : Launch} {K : aRs} {X : aXs} {J : aK} {W : Nat → aK} (hW : isW (tbX5_setBand l K X) cuX5_setBand J W) (n : Nat) (ls st : List aV) (μ : aM) (g : Nat) : W (n + 1) 28 ls st μ g = (sSt 2 29 isI) (W n) ls st μ g := (hW n 28 ls st μ g).trans rfl
theorem wX5_setBand_29 {l : Launch} {K : aRs} {X : aXs} {J : aK} {W : Nat → aK} (hW : isW (tbX5_setBand l K X) cuX5_setBand J W) (n : Nat) (ls st : List aV) (μ : aM) (g : Nat) : W (n + 1) 29 ls st μ g = (sLd 0 30 isR) (W n) ls st μ g := (hW n 29 ls st μ g).trans rfl
theorem wX5_setBand_30 {l : Launch} {K : aRs} {X : aXs} {J : aK} {W : Nat → aK} (hW : isW (tbX5_setBand l K X) cuX5_setBand J W) (n : Nat) (ls st : List aV) (μ : aM) (g : Nat) : W (n + 1) 30 ls st μ g = (sLd 1 31 isI) (W n) ls st μ g := (hW n 30 ls st μ g).trans rfl
theorem wX5_setBand_31 {l : Launch} {K : aRs} {X : aXs} {J : aK} {W : Nat → aK} (hW : isW (tbX5_setBand l K X) cuX5_setBand J W) (n : Nat) (ls st : List aV) (μ : aM) (g : Nat) : W (n + 1) 31 ls st μ g = (sPutI 5 21 34) (W n) ls st μ g := (hW n 31 ls st μ g).trans rfl
theorem wX5_setBand_34 {l : Launch} {K : aRs} {X : aXs} {J : aK} {W : Nat → aK} (hW : isW (tbX5_setBand l K X) cuX5_setBand J W) (n : Nat) (ls st : List aV) (μ : aM) (g : Nat) : W (n + 1) 34 ls st μ g = (sLd 2 35 isI) (W n) ls st μ g := (hW n 34 ls st μ g).trans rfl
theorem wX5_setBand_35 {l : Launch} {K : aRs} {X : aXs} {J : aK} {W : Nat → aK} (hW : isW (tbX5_setBand l K X) cuX5_setBand J W) (n : Nat) (ls st : List aV) (μ : aM) (g : Nat) : W (n + 1) 35 ls st μ g = (sRetI .int 0 K) (W n) ls st μ g := (hW n 35 ls st μ g).trans rfl
theorem dX5_setRule_0 : decode cX5_setRule 0 = .ok (.aload_n 0, 1) := by decide +kernel
theorem dX5_setRule_1 : decode cX5_setRule 1 = .ok (.iload_n 1, 1) := by decide +kernel
theorem dX5_setRule_2 : decode cX5_setRule 2 = .ok (.bipush 114, 2) := by decide +kernel
theorem dX5_setRule_4 : decode cX5_setRule 4 = .ok (.if_icmp .eq 9, 3) := by decide +kernel
theorem dX5_setRule_7 : decode cX5_setRule 7 = .ok (.iload_n 1, 1) := by decide +kernel
theorem dX5_setRule_8 : decode cX5_setRule 8 = .ok (.bipush 105, 2) := by decide +kernel
theorem dX5_setRule_10 : decode cX5_setRule 10 = .ok (.if_icmp .ne 7, 3) := by decide +kernel
theorem dX5_setRule_13 : decode cX5_setRule 13 = .ok (.iconst 0, 1) := by decide +kernel
theorem dX5_setRule_14 : decode cX5_setRule 14 = .ok (.goto 4, 3) := by decide +kernel
theorem dX5_setRule_17 : decode cX5_setRule 17 = .ok (.iconst 1, 1) := by decide +kernel
theorem dX5_setRule_18 : decode cX5_setRule 18 = .ok (.invokevirtual 148, 3) := by decide +kernel
theorem dX5_setRule_21 : decode cX5_setRule 21 = .ok (.ifCond .eq 6, 3) := by decide +kernel
theorem dX5_setRule_24 : decode cX5_setRule 24 = .ok (.bipush 97, 2) := by decide +kernel
theorem dX5_setRule_26 : decode cX5_setRule 26 = .ok (.ireturn, 1) := by decide +kernel
theorem dX5_setRule_27 : decode cX5_setRule 27 = .ok (.aload_n 0, 1) := by decide +kernel
theorem dX5_setRule_28 : decode cX5_setRule 28 = .ok (.getfield 56, 3) := by decide +kernel
theorem dX5_setRule_31 : decode cX5_setRule 31 = .ok (.istore_n 2, 1) := by decide +kernel
theorem dX5_setRule_32 : decode cX5_setRule 32 = .ok (.aload_n 0, 1) := by decide +kernel
theorem dX5_setRule_33 : decode cX5_setRule 33 = .ok (.iload_n 1, 1) := by decide +kernel
theorem dX5_setRule_34 : decode cX5_setRule 34 = .ok (.putfield 56, 3) := by decide +kernel
theorem dX5_setRule_37 : decode cX5_setRule 37 = .ok (.iload_n 2, 1) := by decide +kernel
theorem dX5_setRule_38 : decode cX5_setRule 38 = .ok (.ireturn, 1) := by decide +kernel
def tbX5_setRule (l : Launch) (K : aRs) (X : aXs) : aTb := [
  (0, sLd 0 1 isR),
  (1, sLd 1 2 isI),
  (2, sPush (aI 114) 4),
  (4, sIc qEq 13 7),
  (7, sLd 1 8 isI),
  (8, sPush (aI 105) 10),
  (10, sIc qNe 17 13),
  (13, sPush (aI 0) 14),
  (14, sGoto 18),
  (17, sPush (aI 1) 18),
  (18, sCallV 1 5 (fun as μ K => Ct l mdX5_fails as μ K X) 21 0 0),
  (21, sIf pEq 27 24),
  (24, sPush (aI 97) 26),
  (26, sRetI .char 0 K),
  (27, sLd 0 28 isR),
  (28, sGetI 5 22 31),
  (31, sSt 2 32 isI),
  (32, sLd 0 33 isR),
  (33, sLd 1 34 isI),
  (34, sPutI 5 22 37),
  (37, sLd 2 38 isI),
  (38, sRetI .char 0 K)]
theorem snX5_setRule (l : Launch) (K : aRs) (X : aXs) (n0 : Nat) : ∀ q ∈ tbX5_setRule l K X, aSo l mdX5_setRule K X n0 q.1 q.2 :=
  tc (fun p e s m args below meth c cA D A ad0 h => ok_aload_n h.1 0 rfl dX5_setRule_0) <|
  tc (fun p e s m args below meth c cA D A ad0 h => ok_iload_n h.1 1 rfl dX5_setRule_1) <|
  tc (fun p e s m args below meth c cA D A ad0 h => ok_bipush h.1 ⟨by decide, by decide⟩ (by decide) dX5_setRule_2) <|
  tc (fun p e s m args below meth c cA D A ad0 h => ok_icmp_eq h.1 13 (by decide) dX5_setRule_4) <|
  tc (fun p e s m args below meth c cA D A ad0 h => ok_iload_n h.1 1 rfl dX5_setRule_7) <|
  tc (fun p e s m args below meth c cA D A ad0 h => ok_bipush h.1 ⟨by decide, by decide⟩ (by decide) dX5_setRule_8) <|
  tc (fun p e s m args below meth c cA D A ad0 h => ok_icmp_ne h.1 17 (by decide) dX5_setRule_10) <|
  tc (fun p e s m args below meth c cA D A ad0 h => ok_iconst h.1 ⟨by decide, by decide⟩ dX5_setRule_13) <|
  tc (fun p e s m args below meth c cA D A ad0 h => ok_goto h.1 18 (by decide) dX5_setRule_14) <|
  tc (fun p e s m args below meth c cA D A ad0 h => ok_iconst h.1 ⟨by decide, by decide⟩ dX5_setRule_17) <|
  tc (fun p e s m args below meth c cA D A ad0 h => ok_callV h.1 h.2.1 ⟨Nat.le_refl _, Nat.le_refl _⟩ mdX5_fails siX5_fails cxX5 mkRX5_148 imX5_fails seX5_fails ⟨by decide, by decide⟩ (aAx_out h.1 h.2.2.1 _) dX5_setRule_18) <|
  tc (fun p e s m args below meth c cA D A ad0 h => ok_if_eq h.1 27 (by decide) dX5_setRule_21) <|
  tc (fun p e s m args below meth c cA D A ad0 h => ok_bipush h.1 ⟨by decide, by decide⟩ (by decide) dX5_setRule_24) <|
  tc (fun p e s m args below meth c cA D A ad0 h => ok_ireturn h.1 h.2.2.2.1 (Or.inr (Or.inr rfl)) dX5_setRule_26) <|
  tc (fun p e s m args below meth c cA D A ad0 h => ok_aload_n h.1 0 rfl dX5_setRule_27) <|
  tc (fun p e s m args below meth c cA D A ad0 h => ok_getI h.1 cxX5 (by decide) rfl fkRX5_56 (fun _ _ _ => rfl) dX5_setRule_28) <|
  tc (fun p e s m args below meth c cA D A ad0 h => ok_istore_n h.1 2 rfl (by decide) dX5_setRule_31) <|
  tc (fun p e s m args below meth c cA D A ad0 h => ok_aload_n h.1 0 rfl dX5_setRule_32) <|
  tc (fun p e s m args below meth c cA D A ad0 h => ok_iload_n h.1 1 rfl dX5_setRule_33) <|
  tc (fun p e s m args below meth c cA D A ad0 h => ok_putI h.1 cxX5 (by decide) rfl fkRX5_56 (Or.inl rfl) (fun _ _ _ => rfl) (Or.inr (Or.inr rfl)) dX5_setRule_34) <|
  tc (fun p e s m args below meth c cA D A ad0 h => ok_iload_n h.1 2 rfl dX5_setRule_37) <|
  tc (fun p e s m args below meth c cA D A ad0 h => ok_ireturn h.1 h.2.2.2.1 (Or.inr (Or.inr rfl)) dX5_setRule_38) <|
  tn
abbrev cuX5_setRule : List Nat := [21]
theorem tX5_setRule_0 (l : Launch) (K : aRs) (X : aXs) : tb (tbX5_setRule l K X) 0 = sLd 0 1 isR := (rfl)
theorem wX5_setRule_0 {l : Launch} {K : aRs} {X : aXs} {J : aK} {W : Nat → aK} (hW : isW (tbX5_setRule l K X) cuX5_setRule J W) (n : Nat) (ls st : List aV) (μ : aM) (g : Nat) : W (n + 1) 0 ls st μ g = (sLd 0 1 isR) (W n) ls st μ g := (hW n 0 ls st μ g).trans rfl
theorem wX5_setRule_1 {l : Launch} {K : aRs} {X : aXs} {J : aK} {W : Nat → aK} (hW : isW (tbX5_setRule l K X) cuX5_setRule J W) (n : Nat) (ls st : List aV) (μ : aM) (g : Nat) : W (n + 1) 1 ls st μ g = (sLd 1 2 isI) (W n) ls st μ g := (hW n 1 ls st μ g).trans rfl
theorem wX5_setRule_2 {l : Launch} {K : aRs} {X : aXs} {J : aK} {W : Nat → aK} (hW : isW (tbX5_setRule l K X) cuX5_setRule J W) (n : Nat) (ls st : List aV) (μ : aM) (g : Nat) : W (n + 1) 2 ls st μ g = (sPush (aI 114) 4) (W n) ls st μ g := (hW n 2 ls st μ g).trans rfl
theorem wX5_setRule_4 {l : Launch} {K : aRs} {X : aXs} {J : aK} {W : Nat → aK} (hW : isW (tbX5_setRule l K X) cuX5_setRule J W) (n : Nat) (ls st : List aV) (μ : aM) (g : Nat) : W (n + 1) 4 ls st μ g = (sIc qEq 13 7) (W n) ls st μ g := (hW n 4 ls st μ g).trans rfl
theorem wX5_setRule_7 {l : Launch} {K : aRs} {X : aXs} {J : aK} {W : Nat → aK} (hW : isW (tbX5_setRule l K X) cuX5_setRule J W) (n : Nat) (ls st : List aV) (μ : aM) (g : Nat) : W (n + 1) 7 ls st μ g = (sLd 1 8 isI) (W n) ls st μ g := (hW n 7 ls st μ g).trans rfl
theorem wX5_setRule_8 {l : Launch} {K : aRs} {X : aXs} {J : aK} {W : Nat → aK} (hW : isW (tbX5_setRule l K X) cuX5_setRule J W) (n : Nat) (ls st : List aV) (μ : aM) (g : Nat) : W (n + 1) 8 ls st μ g = (sPush (aI 105) 10) (W n) ls st μ g := (hW n 8 ls st μ g).trans rfl
theorem wX5_setRule_10 {l : Launch} {K : aRs} {X : aXs} {J : aK} {W : Nat → aK} (hW : isW (tbX5_setRule l K X) cuX5_setRule J W) (n : Nat) (ls st : List aV) (μ : aM) (g : Nat) : W (n + 1) 10 ls st μ g = (sIc qNe 17 13) (W n) ls st μ g := (hW n 10 ls st μ g).trans rfl
theorem wX5_setRule_13 {l : Launch} {K : aRs} {X : aXs} {J : aK} {W : Nat → aK} (hW : isW (tbX5_setRule l K X) cuX5_setRule J W) (n : Nat) (ls st : List aV) (μ : aM) (g : Nat) : W (n + 1) 13 ls st μ g = (sPush (aI 0) 14) (W n) ls st μ g := (hW n 13 ls st μ g).trans rfl
theorem wX5_setRule_14 {l : Launch} {K : aRs} {X : aXs} {J : aK} {W : Nat → aK} (hW : isW (tbX5_setRule l K X) cuX5_setRule J W) (n : Nat) (ls st : List aV) (μ : aM) (g : Nat) : W (n + 1) 14 ls st μ g = (sGoto 18) (W n) ls st μ g := (hW n 14 ls st μ g).trans rfl
theorem wX5_setRule_17 {l : Launch} {K : aRs} {X : aXs} {J : aK} {W : Nat → aK} (hW : isW (tbX5_setRule l K X) cuX5_setRule J W) (n : Nat) (ls st : List aV) (μ : aM) (g : Nat) : W (n + 1) 17 ls st μ g = (sPush (aI 1) 18) (W n) ls st μ g := (hW n 17 ls st μ g).trans rfl
theorem wX5_setRule_18 {l : Launch} {K : aRs} {X : aXs} {J : aK} {W : Nat → aK} (hW : isW (tbX5_setRule l K X) cuX5_setRule J W) (n : Nat) (ls st : List aV) (μ : aM) (g : Nat) : W (n + 1) 18 ls st μ g = (sCallV 1 5 (fun as μ K => Ct l mdX5_fails as μ K X) 21 0 0) (W n) ls st μ g := (hW n 18 ls st μ g).trans rfl
theorem tX5_setRule_21 (l : Launch) (K : aRs) (X : aXs) : tb (tbX5_setRule l K X) 21 = sIf pEq 27 24 := (rfl)
theorem wX5_setRule_21 {l : Launch} {K : aRs} {X : aXs} {J : aK} {W : Nat → aK} (hW : isW (tbX5_setRule l K X) cuX5_setRule J W) (n : Nat) (ls st : List aV) (μ : aM) (g : Nat) : W (n + 1) 21 ls st μ g = J 21 ls st μ g := (hW n 21 ls st μ g).trans rfl
theorem wX5_setRule_24 {l : Launch} {K : aRs} {X : aXs} {J : aK} {W : Nat → aK} (hW : isW (tbX5_setRule l K X) cuX5_setRule J W) (n : Nat) (ls st : List aV) (μ : aM) (g : Nat) : W (n + 1) 24 ls st μ g = (sPush (aI 97) 26) (W n) ls st μ g := (hW n 24 ls st μ g).trans rfl
theorem wX5_setRule_26 {l : Launch} {K : aRs} {X : aXs} {J : aK} {W : Nat → aK} (hW : isW (tbX5_setRule l K X) cuX5_setRule J W) (n : Nat) (ls st : List aV) (μ : aM) (g : Nat) : W (n + 1) 26 ls st μ g = (sRetI .char 0 K) (W n) ls st μ g := (hW n 26 ls st μ g).trans rfl
theorem wX5_setRule_27 {l : Launch} {K : aRs} {X : aXs} {J : aK} {W : Nat → aK} (hW : isW (tbX5_setRule l K X) cuX5_setRule J W) (n : Nat) (ls st : List aV) (μ : aM) (g : Nat) : W (n + 1) 27 ls st μ g = (sLd 0 28 isR) (W n) ls st μ g := (hW n 27 ls st μ g).trans rfl
theorem wX5_setRule_28 {l : Launch} {K : aRs} {X : aXs} {J : aK} {W : Nat → aK} (hW : isW (tbX5_setRule l K X) cuX5_setRule J W) (n : Nat) (ls st : List aV) (μ : aM) (g : Nat) : W (n + 1) 28 ls st μ g = (sGetI 5 22 31) (W n) ls st μ g := (hW n 28 ls st μ g).trans rfl
theorem wX5_setRule_31 {l : Launch} {K : aRs} {X : aXs} {J : aK} {W : Nat → aK} (hW : isW (tbX5_setRule l K X) cuX5_setRule J W) (n : Nat) (ls st : List aV) (μ : aM) (g : Nat) : W (n + 1) 31 ls st μ g = (sSt 2 32 isI) (W n) ls st μ g := (hW n 31 ls st μ g).trans rfl
theorem wX5_setRule_32 {l : Launch} {K : aRs} {X : aXs} {J : aK} {W : Nat → aK} (hW : isW (tbX5_setRule l K X) cuX5_setRule J W) (n : Nat) (ls st : List aV) (μ : aM) (g : Nat) : W (n + 1) 32 ls st μ g = (sLd 0 33 isR) (W n) ls st μ g := (hW n 32 ls st μ g).trans rfl
theorem wX5_setRule_33 {l : Launch} {K : aRs} {X : aXs} {J : aK} {W : Nat → aK} (hW : isW (tbX5_setRule l K X) cuX5_setRule J W) (n : Nat) (ls st : List aV) (μ : aM) (g : Nat) : W (n + 1) 33 ls st μ g = (sLd 1 34 isI) (W n) ls st μ g := (hW n 33 ls st μ g).trans rfl
theorem wX5_setRule_34 {l : Launch} {K : aRs} {X : aXs} {J : aK} {W : Nat → aK} (hW : isW (tbX5_setRule l K X) cuX5_setRule J W) (n : Nat) (ls st : List aV) (μ : aM) (g : Nat) : W (n + 1) 34 ls st μ g = (sPutI 5 22 37) (W n) ls st μ g := (hW n 34 ls st μ g).trans rfl
theorem wX5_setRule_37 {l : Launch} {K : aRs} {X : aXs} {J : aK} {W : Nat → aK} (hW : isW (tbX5_setRule l K X) cuX5_setRule J W) (n : Nat) (ls st : List aV) (μ : aM) (g : Nat) : W (n + 1) 37 ls st μ g = (sLd 2 38 isI) (W n) ls st μ g := (hW n 37 ls st μ g).trans rfl
theorem wX5_setRule_38 {l : Launch} {K : aRs} {X : aXs} {J : aK} {W : Nat → aK} (hW : isW (tbX5_setRule l K X) cuX5_setRule J W) (n : Nat) (ls st : List aV) (μ : aM) (g : Nat) : W (n + 1) 38 ls st μ g = (sRetI .char 0 K) (W n) ls st μ g := (hW n 38 ls st μ g).trans rfl
theorem dX5_halt_0 : decode cX5_halt 0 = .ok (.aload_n 0, 1) := by decide +kernel
theorem dX5_halt_1 : decode cX5_halt 1 = .ok (.aload_n 0, 1) := by decide +kernel
theorem dX5_halt_2 : decode cX5_halt 2 = .ok (.getfield 110, 3) := by decide +kernel
theorem dX5_halt_5 : decode cX5_halt 5 = .ok (.ifCond .eq 7, 3) := by decide +kernel
theorem dX5_halt_8 : decode cX5_halt 8 = .ok (.iconst 1, 1) := by decide +kernel
theorem dX5_halt_9 : decode cX5_halt 9 = .ok (.goto 4, 3) := by decide +kernel
theorem dX5_halt_12 : decode cX5_halt 12 = .ok (.iconst 0, 1) := by decide +kernel
theorem dX5_halt_13 : decode cX5_halt 13 = .ok (.invokevirtual 148, 3) := by decide +kernel
theorem dX5_halt_16 : decode cX5_halt 16 = .ok (.ifCond .eq 5, 3) := by decide +kernel
theorem dX5_halt_19 : decode cX5_halt 19 = .ok (.iconst 0, 1) := by decide +kernel
theorem dX5_halt_20 : decode cX5_halt 20 = .ok (.ireturn, 1) := by decide +kernel
theorem dX5_halt_21 : decode cX5_halt 21 = .ok (.aload_n 0, 1) := by decide +kernel
theorem dX5_halt_22 : decode cX5_halt 22 = .ok (.iconst 1, 1) := by decide +kernel
theorem dX5_halt_23 : decode cX5_halt 23 = .ok (.putfield 110, 3) := by decide +kernel
theorem dX5_halt_26 : decode cX5_halt 26 = .ok (.aload_n 0, 1) := by decide +kernel
theorem dX5_halt_27 : decode cX5_halt 27 = .ok (.bipush 97, 2) := by decide +kernel
theorem dX5_halt_29 : decode cX5_halt 29 = .ok (.invokevirtual 71, 3) := by decide +kernel
theorem dX5_halt_32 : decode cX5_halt 32 = .ok (.ireturn, 1) := by decide +kernel
def tbX5_halt (l : Launch) (K : aRs) (X : aXs) : aTb := [
  (0, sLd 0 1 isR),
  (1, sLd 0 2 isR),
  (2, sGetI 5 23 5),
  (5, sIf pEq 12 8),
  (8, sPush (aI 1) 9),
  (9, sGoto 13),
  (12, sPush (aI 0) 13),
  (13, sCallV 1 5 (fun as μ K => Ct l mdX5_fails as μ K X) 16 0 0),
  (16, sIf pEq 21 19),
  (19, sPush (aI 0) 20),
  (20, sRetI .int 0 K),
  (21, sLd 0 22 isR),
  (22, sPush (aI 1) 23),
  (23, sPutI 5 23 26),
  (26, sLd 0 27 isR),
  (27, sPush (aI 97) 29),
  (29, sCallV 1 5 (fun as μ K => Ct l mdX5_many as μ K X) 32 0 0),
  (32, sRetI .int 0 K)]
theorem snX5_halt (l : Launch) (K : aRs) (X : aXs) (n0 : Nat) : ∀ q ∈ tbX5_halt l K X, aSo l mdX5_halt K X n0 q.1 q.2 :=
  tc (fun p e s m args below meth c cA D A ad0 h => ok_aload_n h.1 0 rfl dX5_halt_0) <|
  tc (fun p e s m args below meth c cA D A ad0 h => ok_aload_n h.1 0 rfl dX5_halt_1) <|
  tc (fun p e s m args below meth c cA D A ad0 h => ok_getI h.1 cxX5 (by decide) rfl fkRX5_110 (fun _ _ _ => rfl) dX5_halt_2) <|
  tc (fun p e s m args below meth c cA D A ad0 h => ok_if_eq h.1 12 (by decide) dX5_halt_5) <|
  tc (fun p e s m args below meth c cA D A ad0 h => ok_iconst h.1 ⟨by decide, by decide⟩ dX5_halt_8) <|
  tc (fun p e s m args below meth c cA D A ad0 h => ok_goto h.1 13 (by decide) dX5_halt_9) <|
  tc (fun p e s m args below meth c cA D A ad0 h => ok_iconst h.1 ⟨by decide, by decide⟩ dX5_halt_12) <|
  tc (fun p e s m args below meth c cA D A ad0 h => ok_callV h.1 h.2.1 ⟨Nat.le_refl _, Nat.le_refl _⟩ mdX5_fails siX5_fails cxX5 mkRX5_148 imX5_fails seX5_fails ⟨by decide, by decide⟩ (aAx_out h.1 h.2.2.1 _) dX5_halt_13) <|
  tc (fun p e s m args below meth c cA D A ad0 h => ok_if_eq h.1 21 (by decide) dX5_halt_16) <|
  tc (fun p e s m args below meth c cA D A ad0 h => ok_iconst h.1 ⟨by decide, by decide⟩ dX5_halt_19) <|
  tc (fun p e s m args below meth c cA D A ad0 h => ok_ireturn h.1 h.2.2.2.1 (Or.inl rfl) dX5_halt_20) <|
  tc (fun p e s m args below meth c cA D A ad0 h => ok_aload_n h.1 0 rfl dX5_halt_21) <|
  tc (fun p e s m args below meth c cA D A ad0 h => ok_iconst h.1 ⟨by decide, by decide⟩ dX5_halt_22) <|
  tc (fun p e s m args below meth c cA D A ad0 h => ok_putI h.1 cxX5 (by decide) rfl fkRX5_110 (Or.inl rfl) (fun _ _ _ => rfl) (Or.inr (Or.inl rfl)) dX5_halt_23) <|
  tc (fun p e s m args below meth c cA D A ad0 h => ok_aload_n h.1 0 rfl dX5_halt_26) <|
  tc (fun p e s m args below meth c cA D A ad0 h => ok_bipush h.1 ⟨by decide, by decide⟩ (by decide) dX5_halt_27) <|
  tc (fun p e s m args below meth c cA D A ad0 h => ok_callV h.1 h.2.1 ⟨Nat.le_refl _, Nat.le_refl _⟩ mdX5_many siX5_many cxX5 mkRX5_71 imX5_many seX5_many ⟨by decide, by decide⟩ (aAx_out h.1 h.2.2.1 _) dX5_halt_29) <|
  tc (fun p e s m args below meth c cA D A ad0 h => ok_ireturn h.1 h.2.2.2.1 (Or.inl rfl) dX5_halt_32) <|
  tn
abbrev cuX5_halt : List Nat := [16, 32]
theorem tX5_halt_0 (l : Launch) (K : aRs) (X : aXs) : tb (tbX5_halt l K X) 0 = sLd 0 1 isR := (rfl)
theorem wX5_halt_0 {l : Launch} {K : aRs} {X : aXs} {J : aK} {W : Nat → aK} (hW : isW (tbX5_halt l K X) cuX5_halt J W) (n : Nat) (ls st : List aV) (μ : aM) (g : Nat) : W (n + 1) 0 ls st μ g = (sLd 0 1 isR) (W n) ls st μ g := (hW n 0 ls st μ g).trans rfl
theorem wX5_halt_1 {l : Launch} {K : aRs} {X : aXs} {J : aK} {W : Nat → aK} (hW : isW (tbX5_halt l K X) cuX5_halt J W) (n : Nat) (ls st : List aV) (μ : aM) (g : Nat) : W (n + 1) 1 ls st μ g = (sLd 0 2 isR) (W n) ls st μ g := (hW n 1 ls st μ g).trans rfl
theorem wX5_halt_2 {l : Launch} {K : aRs} {X : aXs} {J : aK} {W : Nat → aK} (hW : isW (tbX5_halt l K X) cuX5_halt J W) (n : Nat) (ls st : List aV) (μ : aM) (g : Nat) : W (n + 1) 2 ls st μ g = (sGetI 5 23 5) (W n) ls st μ g := (hW n 2 ls st μ g).trans rfl
theorem wX5_halt_5 {l : Launch} {K : aRs} {X : aXs} {J : aK} {W : Nat → aK} (hW : isW (tbX5_halt l K X) cuX5_halt J W) (n : Nat) (ls st : List aV) (μ : aM) (g : Nat) : W (n + 1) 5 ls st μ g = (sIf pEq 12 8) (W n) ls st μ g := (hW n 5 ls st μ g).trans rfl
theorem wX5_halt_8 {l : Launch} {K : aRs} {X : aXs} {J : aK} {W : Nat → aK} (hW : isW (tbX5_halt l K X) cuX5_halt J W) (n : Nat) (ls st : List aV) (μ : aM) (g : Nat) : W (n + 1) 8 ls st μ g = (sPush (aI 1) 9) (W n) ls st μ g := (hW n 8 ls st μ g).trans rfl
theorem wX5_halt_9 {l : Launch} {K : aRs} {X : aXs} {J : aK} {W : Nat → aK} (hW : isW (tbX5_halt l K X) cuX5_halt J W) (n : Nat) (ls st : List aV) (μ : aM) (g : Nat) : W (n + 1) 9 ls st μ g = (sGoto 13) (W n) ls st μ g := (hW n 9 ls st μ g).trans rfl
theorem wX5_halt_12 {l : Launch} {K : aRs} {X : aXs} {J : aK} {W : Nat → aK} (hW : isW (tbX5_halt l K X) cuX5_halt J W) (n : Nat) (ls st : List aV) (μ : aM) (g : Nat) : W (n + 1) 12 ls st μ g = (sPush (aI 0) 13) (W n) ls st μ g := (hW n 12 ls st μ g).trans rfl
theorem wX5_halt_13 {l : Launch} {K : aRs} {X : aXs} {J : aK} {W : Nat → aK} (hW : isW (tbX5_halt l K X) cuX5_halt J W) (n : Nat) (ls st : List aV) (μ : aM) (g : Nat) : W (n + 1) 13 ls st μ g = (sCallV 1 5 (fun as μ K => Ct l mdX5_fails as μ K X) 16 0 0) (W n) ls st μ g := (hW n 13 ls st μ g).trans rfl
theorem tX5_halt_16 (l : Launch) (K : aRs) (X : aXs) : tb (tbX5_halt l K X) 16 = sIf pEq 21 19 := (rfl)
theorem wX5_halt_16 {l : Launch} {K : aRs} {X : aXs} {J : aK} {W : Nat → aK} (hW : isW (tbX5_halt l K X) cuX5_halt J W) (n : Nat) (ls st : List aV) (μ : aM) (g : Nat) : W (n + 1) 16 ls st μ g = J 16 ls st μ g := (hW n 16 ls st μ g).trans rfl
theorem wX5_halt_19 {l : Launch} {K : aRs} {X : aXs} {J : aK} {W : Nat → aK} (hW : isW (tbX5_halt l K X) cuX5_halt J W) (n : Nat) (ls st : List aV) (μ : aM) (g : Nat) : W (n + 1) 19 ls st μ g = (sPush (aI 0) 20) (W n) ls st μ g := (hW n 19 ls st μ g).trans rfl
theorem wX5_halt_20 {l : Launch} {K : aRs} {X : aXs} {J : aK} {W : Nat → aK} (hW : isW (tbX5_halt l K X) cuX5_halt J W) (n : Nat) (ls st : List aV) (μ : aM) (g : Nat) : W (n + 1) 20 ls st μ g = (sRetI .int 0 K) (W n) ls st μ g := (hW n 20 ls st μ g).trans rfl
theorem wX5_halt_21 {l : Launch} {K : aRs} {X : aXs} {J : aK} {W : Nat → aK} (hW : isW (tbX5_halt l K X) cuX5_halt J W) (n : Nat) (ls st : List aV) (μ : aM) (g : Nat) : W (n + 1) 21 ls st μ g = (sLd 0 22 isR) (W n) ls st μ g := (hW n 21 ls st μ g).trans rfl
theorem wX5_halt_22 {l : Launch} {K : aRs} {X : aXs} {J : aK} {W : Nat → aK} (hW : isW (tbX5_halt l K X) cuX5_halt J W) (n : Nat) (ls st : List aV) (μ : aM) (g : Nat) : W (n + 1) 22 ls st μ g = (sPush (aI 1) 23) (W n) ls st μ g := (hW n 22 ls st μ g).trans rfl
theorem wX5_halt_23 {l : Launch} {K : aRs} {X : aXs} {J : aK} {W : Nat → aK} (hW : isW (tbX5_halt l K X) cuX5_halt J W) (n : Nat) (ls st : List aV) (μ : aM) (g : Nat) : W (n + 1) 23 ls st μ g = (sPutI 5 23 26) (W n) ls st μ g := (hW n 23 ls st μ g).trans rfl
theorem wX5_halt_26 {l : Launch} {K : aRs} {X : aXs} {J : aK} {W : Nat → aK} (hW : isW (tbX5_halt l K X) cuX5_halt J W) (n : Nat) (ls st : List aV) (μ : aM) (g : Nat) : W (n + 1) 26 ls st μ g = (sLd 0 27 isR) (W n) ls st μ g := (hW n 26 ls st μ g).trans rfl
theorem wX5_halt_27 {l : Launch} {K : aRs} {X : aXs} {J : aK} {W : Nat → aK} (hW : isW (tbX5_halt l K X) cuX5_halt J W) (n : Nat) (ls st : List aV) (μ : aM) (g : Nat) : W (n + 1) 27 ls st μ g = (sPush (aI 97) 29) (W n) ls st μ g := (hW n 27 ls st μ g).trans rfl
theorem wX5_halt_29 {l : Launch} {K : aRs} {X : aXs} {J : aK} {W : Nat → aK} (hW : isW (tbX5_halt l K X) cuX5_halt J W) (n : Nat) (ls st : List aV) (μ : aM) (g : Nat) : W (n + 1) 29 ls st μ g = (sCallV 1 5 (fun as μ K => Ct l mdX5_many as μ K X) 32 0 0) (W n) ls st μ g := (hW n 29 ls st μ g).trans rfl
theorem tX5_halt_32 (l : Launch) (K : aRs) (X : aXs) : tb (tbX5_halt l K X) 32 = sRetI .int 0 K := (rfl)
theorem wX5_halt_32 {l : Launch} {K : aRs} {X : aXs} {J : aK} {W : Nat → aK} (hW : isW (tbX5_halt l K X) cuX5_halt J W) (n : Nat) (ls st : List aV) (μ : aM) (g : Nat) : W (n + 1) 32 ls st μ g = J 32 ls st μ g := (hW n 32 ls st μ g).trans rfl
theorem dX5_auction_0 : decode cX5_auction 0 = .ok (.aload_n 0, 1) := by decide +kernel
theorem dX5_auction_1 : decode cX5_auction 1 = .ok (.aload_n 0, 1) := by decide +kernel
theorem dX5_auction_2 : decode cX5_auction 2 = .ok (.getfield 110, 3) := by decide +kernel
theorem dX5_auction_5 : decode cX5_auction 5 = .ok (.ifCond .eq 7, 3) := by decide +kernel
theorem dX5_auction_8 : decode cX5_auction 8 = .ok (.iconst 0, 1) := by decide +kernel
theorem dX5_auction_9 : decode cX5_auction 9 = .ok (.goto 4, 3) := by decide +kernel
theorem dX5_auction_12 : decode cX5_auction 12 = .ok (.iconst 1, 1) := by decide +kernel
theorem dX5_auction_13 : decode cX5_auction 13 = .ok (.invokevirtual 148, 3) := by decide +kernel
theorem dX5_auction_16 : decode cX5_auction 16 = .ok (.ifCond .eq 5, 3) := by decide +kernel
theorem dX5_auction_19 : decode cX5_auction 19 = .ok (.iconst 0, 1) := by decide +kernel
theorem dX5_auction_20 : decode cX5_auction 20 = .ok (.ireturn, 1) := by decide +kernel
theorem dX5_auction_21 : decode cX5_auction 21 = .ok (.aload_n 0, 1) := by decide +kernel
theorem dX5_auction_22 : decode cX5_auction 22 = .ok (.invokevirtual 164, 3) := by decide +kernel
theorem dX5_auction_25 : decode cX5_auction 25 = .ok (.istore_n 1, 1) := by decide +kernel
theorem dX5_auction_26 : decode cX5_auction 26 = .ok (.iload_n 1, 1) := by decide +kernel
theorem dX5_auction_27 : decode cX5_auction 27 = .ok (.ifCond .ne 7, 3) := by decide +kernel
theorem dX5_auction_30 : decode cX5_auction 30 = .ok (.iconst 0, 1) := by decide +kernel
theorem dX5_auction_31 : decode cX5_auction 31 = .ok (.goto 8, 3) := by decide +kernel
theorem dX5_auction_34 : decode cX5_auction 34 = .ok (.aload_n 0, 1) := by decide +kernel
theorem dX5_auction_35 : decode cX5_auction 35 = .ok (.iload_n 1, 1) := by decide +kernel
theorem dX5_auction_36 : decode cX5_auction 36 = .ok (.invokevirtual 168, 3) := by decide +kernel
theorem dX5_auction_39 : decode cX5_auction 39 = .ok (.istore_n 2, 1) := by decide +kernel
theorem dX5_auction_40 : decode cX5_auction 40 = .ok (.iload_n 2, 1) := by decide +kernel
theorem dX5_auction_41 : decode cX5_auction 41 = .ok (.istore_n 3, 1) := by decide +kernel
theorem dX5_auction_42 : decode cX5_auction 42 = .ok (.iload_n 3, 1) := by decide +kernel
theorem dX5_auction_43 : decode cX5_auction 43 = .ok (.ifCond .le 61, 3) := by decide +kernel
theorem dX5_auction_46 : decode cX5_auction 46 = .ok (.aload_n 0, 1) := by decide +kernel
theorem dX5_auction_47 : decode cX5_auction 47 = .ok (.bipush 98, 2) := by decide +kernel
theorem dX5_auction_49 : decode cX5_auction 49 = .ok (.invokevirtual 114, 3) := by decide +kernel
theorem dX5_auction_52 : decode cX5_auction 52 = .ok (.istore 4, 2) := by decide +kernel
theorem dX5_auction_54 : decode cX5_auction 54 = .ok (.aload_n 0, 1) := by decide +kernel
theorem dX5_auction_55 : decode cX5_auction 55 = .ok (.bipush 115, 2) := by decide +kernel
theorem dX5_auction_57 : decode cX5_auction 57 = .ok (.invokevirtual 114, 3) := by decide +kernel
theorem dX5_auction_60 : decode cX5_auction 60 = .ok (.istore 5, 2) := by decide +kernel
theorem dX5_auction_62 : decode cX5_auction 62 = .ok (.iload_n 3, 1) := by decide +kernel
theorem dX5_auction_63 : decode cX5_auction 63 = .ok (.aload_n 0, 1) := by decide +kernel
theorem dX5_auction_64 : decode cX5_auction 64 = .ok (.getfield 29, 3) := by decide +kernel
theorem dX5_auction_67 : decode cX5_auction 67 = .ok (.iload 4, 2) := by decide +kernel
theorem dX5_auction_69 : decode cX5_auction 69 = .ok (.iaload, 1) := by decide +kernel
theorem dX5_auction_70 : decode cX5_auction 70 = .ok (.aload_n 0, 1) := by decide +kernel
theorem dX5_auction_71 : decode cX5_auction 71 = .ok (.getfield 29, 3) := by decide +kernel
theorem dX5_auction_74 : decode cX5_auction 74 = .ok (.iload 5, 2) := by decide +kernel
theorem dX5_auction_76 : decode cX5_auction 76 = .ok (.iaload, 1) := by decide +kernel
theorem dX5_auction_77 : decode cX5_auction 77 = .ok (.invokestatic 79, 3) := by decide +kernel
theorem dX5_auction_80 : decode cX5_auction 80 = .ok (.invokestatic 79, 3) := by decide +kernel
theorem dX5_auction_83 : decode cX5_auction 83 = .ok (.istore 6, 2) := by decide +kernel
theorem dX5_auction_85 : decode cX5_auction 85 = .ok (.aload_n 0, 1) := by decide +kernel
theorem dX5_auction_86 : decode cX5_auction 86 = .ok (.iload 4, 2) := by decide +kernel
theorem dX5_auction_88 : decode cX5_auction 88 = .ok (.iload 5, 2) := by decide +kernel
theorem dX5_auction_90 : decode cX5_auction 90 = .ok (.iload_n 1, 1) := by decide +kernel
theorem dX5_auction_91 : decode cX5_auction 91 = .ok (.iload 6, 2) := by decide +kernel
theorem dX5_auction_93 : decode cX5_auction 93 = .ok (.invokevirtual 125, 3) := by decide +kernel
theorem dX5_auction_96 : decode cX5_auction 96 = .ok (.iload_n 3, 1) := by decide +kernel
theorem dX5_auction_97 : decode cX5_auction 97 = .ok (.iload 6, 2) := by decide +kernel
theorem dX5_auction_99 : decode cX5_auction 99 = .ok (.isub, 1) := by decide +kernel
theorem dX5_auction_100 : decode cX5_auction 100 = .ok (.istore_n 3, 1) := by decide +kernel
theorem dX5_auction_101 : decode cX5_auction 101 = .ok (.goto (-59), 3) := by decide +kernel
theorem dX5_auction_104 : decode cX5_auction 104 = .ok (.iconst 0, 1) := by decide +kernel
theorem dX5_auction_105 : decode cX5_auction 105 = .ok (.istore_n 3, 1) := by decide +kernel
theorem dX5_auction_106 : decode cX5_auction 106 = .ok (.iload_n 3, 1) := by decide +kernel
theorem dX5_auction_107 : decode cX5_auction 107 = .ok (.aload_n 0, 1) := by decide +kernel
theorem dX5_auction_108 : decode cX5_auction 108 = .ok (.getfield 68, 3) := by decide +kernel
theorem dX5_auction_111 : decode cX5_auction 111 = .ok (.if_icmp .ge 25, 3) := by decide +kernel
theorem dX5_auction_114 : decode cX5_auction 114 = .ok (.aload_n 0, 1) := by decide +kernel
theorem dX5_auction_115 : decode cX5_auction 115 = .ok (.getfield 13, 3) := by decide +kernel
theorem dX5_auction_118 : decode cX5_auction 118 = .ok (.iload_n 3, 1) := by decide +kernel
theorem dX5_auction_119 : decode cX5_auction 119 = .ok (.caload, 1) := by decide +kernel
theorem dX5_auction_120 : decode cX5_auction 120 = .ok (.bipush 97, 2) := by decide +kernel
theorem dX5_auction_122 : decode cX5_auction 122 = .ok (.if_icmp .ne 8, 3) := by decide +kernel
theorem dX5_auction_125 : decode cX5_auction 125 = .ok (.aload_n 0, 1) := by decide +kernel
theorem dX5_auction_126 : decode cX5_auction 126 = .ok (.iload_n 3, 1) := by decide +kernel
theorem dX5_auction_127 : decode cX5_auction 127 = .ok (.invokevirtual 83, 3) := by decide +kernel
theorem dX5_auction_130 : decode cX5_auction 130 = .ok (.iinc 3 1, 3) := by decide +kernel
theorem dX5_auction_133 : decode cX5_auction 133 = .ok (.goto (-27), 3) := by decide +kernel
theorem dX5_auction_136 : decode cX5_auction 136 = .ok (.aload_n 0, 1) := by decide +kernel
theorem dX5_auction_137 : decode cX5_auction 137 = .ok (.iconst 0, 1) := by decide +kernel
theorem dX5_auction_138 : decode cX5_auction 138 = .ok (.putfield 110, 3) := by decide +kernel
theorem dX5_auction_141 : decode cX5_auction 141 = .ok (.aload_n 0, 1) := by decide +kernel
theorem dX5_auction_142 : decode cX5_auction 142 = .ok (.invokevirtual 155, 3) := by decide +kernel
theorem dX5_auction_145 : decode cX5_auction 145 = .ok (.iload_n 2, 1) := by decide +kernel
theorem dX5_auction_146 : decode cX5_auction 146 = .ok (.ireturn, 1) := by decide +kernel
def tbX5_auction (l : Launch) (K : aRs) (X : aXs) : aTb := [
  (0, sLd 0 1 isR),
  (1, sLd 0 2 isR),
  (2, sGetI 5 23 5),
  (5, sIf pEq 12 8),
  (8, sPush (aI 0) 9),
  (9, sGoto 13),
  (12, sPush (aI 1) 13),
  (13, sCallV 1 5 (fun as μ K => Ct l mdX5_fails as μ K X) 16 0 0),
  (16, sIf pEq 21 19),
  (19, sPush (aI 0) 20),
  (20, sRetI .int 0 K),
  (21, sLd 0 22 isR),
  (22, sCallV 0 5 (fun as μ K => Ct l mdX5_meeting as μ K X) 25 0 0),
  (25, sSt 1 26 isI),
  (26, sLd 1 27 isI),
  (27, sIf pNe 34 30),
  (30, sPush (aI 0) 31),
  (31, sGoto 39),
  (34, sLd 0 35 isR),
  (35, sLd 1 36 isI),
  (36, sCallV 1 5 (fun as μ K => Ct l mdX5_volumeFor as μ K X) 39 0 0),
  (39, sSt 2 40 isI),
  (40, sLd 2 41 isI),
  (41, sSt 3 42 isI),
  (42, sLd 3 43 isI),
  (43, sIf pLe 104 46),
  (46, sLd 0 47 isR),
  (47, sPush (aI 98) 49),
  (49, sCallV 1 5 (fun as μ K => Ct l mdX5_first as μ K X) 52 0 0),
  (52, sSt 4 54 isI),
  (54, sLd 0 55 isR),
  (55, sPush (aI 115) 57),
  (57, sCallV 1 5 (fun as μ K => Ct l mdX5_first as μ K X) 60 0 0),
  (60, sSt 5 62 isI),
  (62, sLd 3 63 isI),
  (63, sLd 0 64 isR),
  (64, sGetR 5 7 67),
  (67, sLd 4 69 isI),
  (69, sAldI 7 70),
  (70, sLd 0 71 isR),
  (71, sGetR 5 7 74),
  (74, sLd 5 76 isI),
  (76, sAldI 7 77),
  (77, sCallS 2 (fun as μ K => Ct l mdX5_lesser as μ K X) 80 0 0),
  (80, sCallS 2 (fun as μ K => Ct l mdX5_lesser as μ K X) 83 0 0),
  (83, sSt 6 85 isI),
  (85, sLd 0 86 isR),
  (86, sLd 4 88 isI),
  (88, sLd 5 90 isI),
  (90, sLd 1 91 isI),
  (91, sLd 6 93 isI),
  (93, sCallV 4 5 (fun as μ K => Ct l mdX5_trades as μ K X) 96 0 0),
  (96, sLd 3 97 isI),
  (97, sLd 6 99 isI),
  (99, sBin fSub 100),
  (100, sSt 3 101 isI),
  (101, sGoto 42),
  (104, sPush (aI 0) 105),
  (105, sSt 3 106 isI),
  (106, sLd 3 107 isI),
  (107, sLd 0 108 isR),
  (108, sGetI 5 0 111),
  (111, sIc qGe 136 114),
  (114, sLd 0 115 isR),
  (115, sGetR 5 2 118),
  (118, sLd 3 119 isI),
  (119, sAldI 6 120),
  (120, sPush (aI 97) 122),
  (122, sIc qNe 130 125),
  (125, sLd 0 126 isR),
  (126, sLd 3 127 isI),
  (127, sCallV 1 5 (fun as μ K => Ct l mdX5_shows as μ K X) 130 0 0),
  (130, sInc 3 1 133),
  (133, sGoto 106),
  (136, sLd 0 137 isR),
  (137, sPush (aI 0) 138),
  (138, sPutI 5 23 141),
  (141, sLd 0 142 isR),
  (142, sCallV 0 5 (fun as μ K => Ct l mdX5_setsOff as μ K X) 145 0 0),
  (145, sLd 2 146 isI),
  (146, sRetI .int 0 K)]
theorem snX5_auction (l : Launch) (K : aRs) (X : aXs) (n0 : Nat) : ∀ q ∈ tbX5_auction l K X, aSo l mdX5_auction K X n0 q.1 q.2 :=
  tc (fun p e s m args below meth c cA D A ad0 h => ok_aload_n h.1 0 rfl dX5_auction_0) <|
  tc (fun p e s m args below meth c cA D A ad0 h => ok_aload_n h.1 0 rfl dX5_auction_1) <|
  tc (fun p e s m args below meth c cA D A ad0 h => ok_getI h.1 cxX5 (by decide) rfl fkRX5_110 (fun _ _ _ => rfl) dX5_auction_2) <|
  tc (fun p e s m args below meth c cA D A ad0 h => ok_if_eq h.1 12 (by decide) dX5_auction_5) <|
  tc (fun p e s m args below meth c cA D A ad0 h => ok_iconst h.1 ⟨by decide, by decide⟩ dX5_auction_8) <|
  tc (fun p e s m args below meth c cA D A ad0 h => ok_goto h.1 13 (by decide) dX5_auction_9) <|
  tc (fun p e s m args below meth c cA D A ad0 h => ok_iconst h.1 ⟨by decide, by decide⟩ dX5_auction_12) <|
  tc (fun p e s m args below meth c cA D A ad0 h => ok_callV h.1 h.2.1 ⟨Nat.le_refl _, Nat.le_refl _⟩ mdX5_fails siX5_fails cxX5 mkRX5_148 imX5_fails seX5_fails ⟨by decide, by decide⟩ (aAx_out h.1 h.2.2.1 _) dX5_auction_13) <|
  tc (fun p e s m args below meth c cA D A ad0 h => ok_if_eq h.1 21 (by decide) dX5_auction_16) <|
  tc (fun p e s m args below meth c cA D A ad0 h => ok_iconst h.1 ⟨by decide, by decide⟩ dX5_auction_19) <|
  tc (fun p e s m args below meth c cA D A ad0 h => ok_ireturn h.1 h.2.2.2.1 (Or.inl rfl) dX5_auction_20) <|
  tc (fun p e s m args below meth c cA D A ad0 h => ok_aload_n h.1 0 rfl dX5_auction_21) <|
  tc (fun p e s m args below meth c cA D A ad0 h => ok_callV h.1 h.2.1 ⟨Nat.le_refl _, Nat.le_refl _⟩ mdX5_meeting siX5_meeting cxX5 mkRX5_164 imX5_meeting seX5_meeting ⟨by decide, by decide⟩ (aAx_out h.1 h.2.2.1 _) dX5_auction_22) <|
  tc (fun p e s m args below meth c cA D A ad0 h => ok_istore_n h.1 1 rfl (by decide) dX5_auction_25) <|
  tc (fun p e s m args below meth c cA D A ad0 h => ok_iload_n h.1 1 rfl dX5_auction_26) <|
  tc (fun p e s m args below meth c cA D A ad0 h => ok_if_ne h.1 34 (by decide) dX5_auction_27) <|
  tc (fun p e s m args below meth c cA D A ad0 h => ok_iconst h.1 ⟨by decide, by decide⟩ dX5_auction_30) <|
  tc (fun p e s m args below meth c cA D A ad0 h => ok_goto h.1 39 (by decide) dX5_auction_31) <|
  tc (fun p e s m args below meth c cA D A ad0 h => ok_aload_n h.1 0 rfl dX5_auction_34) <|
  tc (fun p e s m args below meth c cA D A ad0 h => ok_iload_n h.1 1 rfl dX5_auction_35) <|
  tc (fun p e s m args below meth c cA D A ad0 h => ok_callV h.1 h.2.1 ⟨Nat.le_refl _, Nat.le_refl _⟩ mdX5_volumeFor siX5_volumeFor cxX5 mkRX5_168 imX5_volumeFor seX5_volumeFor ⟨by decide, by decide⟩ (aAx_out h.1 h.2.2.1 _) dX5_auction_36) <|
  tc (fun p e s m args below meth c cA D A ad0 h => ok_istore_n h.1 2 rfl (by decide) dX5_auction_39) <|
  tc (fun p e s m args below meth c cA D A ad0 h => ok_iload_n h.1 2 rfl dX5_auction_40) <|
  tc (fun p e s m args below meth c cA D A ad0 h => ok_istore_n h.1 3 rfl (by decide) dX5_auction_41) <|
  tc (fun p e s m args below meth c cA D A ad0 h => ok_iload_n h.1 3 rfl dX5_auction_42) <|
  tc (fun p e s m args below meth c cA D A ad0 h => ok_if_le h.1 104 (by decide) dX5_auction_43) <|
  tc (fun p e s m args below meth c cA D A ad0 h => ok_aload_n h.1 0 rfl dX5_auction_46) <|
  tc (fun p e s m args below meth c cA D A ad0 h => ok_bipush h.1 ⟨by decide, by decide⟩ (by decide) dX5_auction_47) <|
  tc (fun p e s m args below meth c cA D A ad0 h => ok_callV h.1 h.2.1 ⟨Nat.le_refl _, Nat.le_refl _⟩ mdX5_first siX5_first cxX5 mkRX5_114 imX5_first seX5_first ⟨by decide, by decide⟩ (aAx_out h.1 h.2.2.1 _) dX5_auction_49) <|
  tc (fun p e s m args below meth c cA D A ad0 h => ok_istore h.1 (by decide) dX5_auction_52) <|
  tc (fun p e s m args below meth c cA D A ad0 h => ok_aload_n h.1 0 rfl dX5_auction_54) <|
  tc (fun p e s m args below meth c cA D A ad0 h => ok_bipush h.1 ⟨by decide, by decide⟩ (by decide) dX5_auction_55) <|
  tc (fun p e s m args below meth c cA D A ad0 h => ok_callV h.1 h.2.1 ⟨Nat.le_refl _, Nat.le_refl _⟩ mdX5_first siX5_first cxX5 mkRX5_114 imX5_first seX5_first ⟨by decide, by decide⟩ (aAx_out h.1 h.2.2.1 _) dX5_auction_57) <|
  tc (fun p e s m args below meth c cA D A ad0 h => ok_istore h.1 (by decide) dX5_auction_60) <|
  tc (fun p e s m args below meth c cA D A ad0 h => ok_iload_n h.1 3 rfl dX5_auction_62) <|
  tc (fun p e s m args below meth c cA D A ad0 h => ok_aload_n h.1 0 rfl dX5_auction_63) <|
  tc (fun p e s m args below meth c cA D A ad0 h => ok_getR h.1 cxX5 (by decide) rfl fkRX5_29 (fun _ _ _ => rfl) dX5_auction_64) <|
  tc (fun p e s m args below meth c cA D A ad0 h => ok_iload h.1 dX5_auction_67) <|
  tc (fun p e s m args below meth c cA D A ad0 h => ok_iald h.1 dX5_auction_69) <|
  tc (fun p e s m args below meth c cA D A ad0 h => ok_aload_n h.1 0 rfl dX5_auction_70) <|
  tc (fun p e s m args below meth c cA D A ad0 h => ok_getR h.1 cxX5 (by decide) rfl fkRX5_29 (fun _ _ _ => rfl) dX5_auction_71) <|
  tc (fun p e s m args below meth c cA D A ad0 h => ok_iload h.1 dX5_auction_74) <|
  tc (fun p e s m args below meth c cA D A ad0 h => ok_iald h.1 dX5_auction_76) <|
  tc (fun p e s m args below meth c cA D A ad0 h => ok_callS h.1 h.2.1 ⟨Nat.le_refl _, Nat.le_refl _⟩ mdX5_lesser siX5_lesser mkRX5_79 stX5_lesser ⟨by decide, by decide⟩ (aAx_out h.1 h.2.2.1 _) dX5_auction_77) <|
  tc (fun p e s m args below meth c cA D A ad0 h => ok_callS h.1 h.2.1 ⟨Nat.le_refl _, Nat.le_refl _⟩ mdX5_lesser siX5_lesser mkRX5_79 stX5_lesser ⟨by decide, by decide⟩ (aAx_out h.1 h.2.2.1 _) dX5_auction_80) <|
  tc (fun p e s m args below meth c cA D A ad0 h => ok_istore h.1 (by decide) dX5_auction_83) <|
  tc (fun p e s m args below meth c cA D A ad0 h => ok_aload_n h.1 0 rfl dX5_auction_85) <|
  tc (fun p e s m args below meth c cA D A ad0 h => ok_iload h.1 dX5_auction_86) <|
  tc (fun p e s m args below meth c cA D A ad0 h => ok_iload h.1 dX5_auction_88) <|
  tc (fun p e s m args below meth c cA D A ad0 h => ok_iload_n h.1 1 rfl dX5_auction_90) <|
  tc (fun p e s m args below meth c cA D A ad0 h => ok_iload h.1 dX5_auction_91) <|
  tc (fun p e s m args below meth c cA D A ad0 h => ok_callV h.1 h.2.1 ⟨Nat.le_refl _, Nat.le_refl _⟩ mdX5_trades siX5_trades cxX5 mkRX5_125 imX5_trades seX5_trades ⟨by decide, by decide⟩ (aAx_out h.1 h.2.2.1 _) dX5_auction_93) <|
  tc (fun p e s m args below meth c cA D A ad0 h => ok_iload_n h.1 3 rfl dX5_auction_96) <|
  tc (fun p e s m args below meth c cA D A ad0 h => ok_iload h.1 dX5_auction_97) <|
  tc (fun p e s m args below meth c cA D A ad0 h => ok_isub h.1 dX5_auction_99) <|
  tc (fun p e s m args below meth c cA D A ad0 h => ok_istore_n h.1 3 rfl (by decide) dX5_auction_100) <|
  tc (fun p e s m args below meth c cA D A ad0 h => ok_goto h.1 42 (by decide) dX5_auction_101) <|
  tc (fun p e s m args below meth c cA D A ad0 h => ok_iconst h.1 ⟨by decide, by decide⟩ dX5_auction_104) <|
  tc (fun p e s m args below meth c cA D A ad0 h => ok_istore_n h.1 3 rfl (by decide) dX5_auction_105) <|
  tc (fun p e s m args below meth c cA D A ad0 h => ok_iload_n h.1 3 rfl dX5_auction_106) <|
  tc (fun p e s m args below meth c cA D A ad0 h => ok_aload_n h.1 0 rfl dX5_auction_107) <|
  tc (fun p e s m args below meth c cA D A ad0 h => ok_getI h.1 cxX5 (by decide) rfl fkRX5_68 (fun _ _ _ => rfl) dX5_auction_108) <|
  tc (fun p e s m args below meth c cA D A ad0 h => ok_icmp_ge h.1 136 (by decide) dX5_auction_111) <|
  tc (fun p e s m args below meth c cA D A ad0 h => ok_aload_n h.1 0 rfl dX5_auction_114) <|
  tc (fun p e s m args below meth c cA D A ad0 h => ok_getR h.1 cxX5 (by decide) rfl fkRX5_13 (fun _ _ _ => rfl) dX5_auction_115) <|
  tc (fun p e s m args below meth c cA D A ad0 h => ok_iload_n h.1 3 rfl dX5_auction_118) <|
  tc (fun p e s m args below meth c cA D A ad0 h => ok_cald h.1 dX5_auction_119) <|
  tc (fun p e s m args below meth c cA D A ad0 h => ok_bipush h.1 ⟨by decide, by decide⟩ (by decide) dX5_auction_120) <|
  tc (fun p e s m args below meth c cA D A ad0 h => ok_icmp_ne h.1 130 (by decide) dX5_auction_122) <|
  tc (fun p e s m args below meth c cA D A ad0 h => ok_aload_n h.1 0 rfl dX5_auction_125) <|
  tc (fun p e s m args below meth c cA D A ad0 h => ok_iload_n h.1 3 rfl dX5_auction_126) <|
  tc (fun p e s m args below meth c cA D A ad0 h => ok_callV h.1 h.2.1 ⟨Nat.le_refl _, Nat.le_refl _⟩ mdX5_shows siX5_shows cxX5 mkRX5_83 imX5_shows seX5_shows ⟨by decide, by decide⟩ (aAx_out h.1 h.2.2.1 _) dX5_auction_127) <|
  tc (fun p e s m args below meth c cA D A ad0 h => ok_iinc h.1 (by decide) dX5_auction_130) <|
  tc (fun p e s m args below meth c cA D A ad0 h => ok_goto h.1 106 (by decide) dX5_auction_133) <|
  tc (fun p e s m args below meth c cA D A ad0 h => ok_aload_n h.1 0 rfl dX5_auction_136) <|
  tc (fun p e s m args below meth c cA D A ad0 h => ok_iconst h.1 ⟨by decide, by decide⟩ dX5_auction_137) <|
  tc (fun p e s m args below meth c cA D A ad0 h => ok_putI h.1 cxX5 (by decide) rfl fkRX5_110 (Or.inl rfl) (fun _ _ _ => rfl) (Or.inr (Or.inl rfl)) dX5_auction_138) <|
  tc (fun p e s m args below meth c cA D A ad0 h => ok_aload_n h.1 0 rfl dX5_auction_141) <|
  tc (fun p e s m args below meth c cA D A ad0 h => ok_callV h.1 h.2.1 ⟨Nat.le_refl _, Nat.le_refl _⟩ mdX5_setsOff siX5_setsOff cxX5 mkRX5_155 imX5_setsOff seX5_setsOff ⟨by decide, by decide⟩ (aAx_out h.1 h.2.2.1 _) dX5_auction_142) <|
  tc (fun p e s m args below meth c cA D A ad0 h => ok_iload_n h.1 2 rfl dX5_auction_145) <|
  tc (fun p e s m args below meth c cA D A ad0 h => ok_ireturn h.1 h.2.2.2.1 (Or.inl rfl) dX5_auction_146) <|
  tn
abbrev cuX5_auction : List Nat := [16, 25, 39, 42, 52, 60, 80, 83, 96, 106, 130, 145]
theorem tX5_auction_0 (l : Launch) (K : aRs) (X : aXs) : tb (tbX5_auction l K X) 0 = sLd 0 1 isR := (rfl)
theorem wX5_auction_0 {l : Launch} {K : aRs} {X : aXs} {J : aK} {W : Nat → aK} (hW : isW (tbX5_auction l K X) cuX5_auction J W) (n : Nat) (ls st : List aV) (μ : aM) (g : Nat) : W (n + 1) 0 ls st μ g = (sLd 0 1 isR) (W n) ls st μ g := (hW n 0 ls st μ g).trans rfl
theorem wX5_auction_1 {l : Launch} {K : aRs} {X : aXs} {J : aK} {W : Nat → aK} (hW : isW (tbX5_auction l K X) cuX5_auction J W) (n : Nat) (ls st : List aV) (μ : aM) (g : Nat) : W (n + 1) 1 ls st μ g = (sLd 0 2 isR) (W n) ls st μ g := (hW n 1 ls st μ g).trans rfl
theorem wX5_auction_2 {l : Launch} {K : aRs} {X : aXs} {J : aK} {W : Nat → aK} (hW : isW (tbX5_auction l K X) cuX5_auction J W) (n : Nat) (ls st : List aV) (μ : aM) (g : Nat) : W (n + 1) 2 ls st μ g = (sGetI 5 23 5) (W n) ls st μ g := (hW n 2 ls st μ g).trans rfl
theorem wX5_auction_5 {l : Launch} {K : aRs} {X : aXs} {J : aK} {W : Nat → aK} (hW : isW (tbX5_auction l K X) cuX5_auction J W) (n : Nat) (ls st : List aV) (μ : aM) (g : Nat) : W (n + 1) 5 ls st μ g = (sIf pEq 12 8) (W n) ls st μ g := (hW n 5 ls st μ g).trans rfl
theorem wX5_auction_8 {l : Launch} {K : aRs} {X : aXs} {J : aK} {W : Nat → aK} (hW : isW (tbX5_auction l K X) cuX5_auction J W) (n : Nat) (ls st : List aV) (μ : aM) (g : Nat) : W (n + 1) 8 ls st μ g = (sPush (aI 0) 9) (W n) ls st μ g := (hW n 8 ls st μ g).trans rfl
theorem wX5_auction_9 {l : Launch} {K : aRs} {X : aXs} {J : aK} {W : Nat → aK} (hW : isW (tbX5_auction l K X) cuX5_auction J W) (n : Nat) (ls st : List aV) (μ : aM) (g : Nat) : W (n + 1) 9 ls st μ g = (sGoto 13) (W n) ls st μ g := (hW n 9 ls st μ g).trans rfl
theorem wX5_auction_12 {l : Launch} {K : aRs} {X : aXs} {J : aK} {W : Nat → aK} (hW : isW (tbX5_auction l K X) cuX5_auction J W) (n : Nat) (ls st : List aV) (μ : aM) (g : Nat) : W (n + 1) 12 ls st μ g = (sPush (aI 1) 13) (W n) ls st μ g := (hW n 12 ls st μ g).trans rfl
theorem wX5_auction_13 {l : Launch} {K : aRs} {X : aXs} {J : aK} {W : Nat → aK} (hW : isW (tbX5_auction l K X) cuX5_auction J W) (n : Nat) (ls st : List aV) (μ : aM) (g : Nat) : W (n + 1) 13 ls st μ g = (sCallV 1 5 (fun as μ K => Ct l mdX5_fails as μ K X) 16 0 0) (W n) ls st μ g := (hW n 13 ls st μ g).trans rfl
theorem tX5_auction_16 (l : Launch) (K : aRs) (X : aXs) : tb (tbX5_auction l K X) 16 = sIf pEq 21 19 := (rfl)
theorem wX5_auction_16 {l : Launch} {K : aRs} {X : aXs} {J : aK} {W : Nat → aK} (hW : isW (tbX5_auction l K X) cuX5_auction J W) (n : Nat) (ls st : List aV) (μ : aM) (g : Nat) : W (n + 1) 16 ls st μ g = J 16 ls st μ g := (hW n 16 ls st μ g).trans rfl
theorem wX5_auction_19 {l : Launch} {K : aRs} {X : aXs} {J : aK} {W : Nat → aK} (hW : isW (tbX5_auction l K X) cuX5_auction J W) (n : Nat) (ls st : List aV) (μ : aM) (g : Nat) : W (n + 1) 19 ls st μ g = (sPush (aI 0) 20) (W n) ls st μ g := (hW n 19 ls st μ g).trans rfl
theorem wX5_auction_20 {l : Launch} {K : aRs} {X : aXs} {J : aK} {W : Nat → aK} (hW : isW (tbX5_auction l K X) cuX5_auction J W) (n : Nat) (ls st : List aV) (μ : aM) (g : Nat) : W (n + 1) 20 ls st μ g = (sRetI .int 0 K) (W n) ls st μ g := (hW n 20 ls st μ g).trans rfl
theorem wX5_auction_21 {l : Launch} {K : aRs} {X : aXs} {J : aK} {W : Nat → aK} (hW : isW (tbX5_auction l K X) cuX5_auction J W) (n : Nat) (ls st : List aV) (μ : aM) (g : Nat) : W (n + 1) 21 ls st μ g = (sLd 0 22 isR) (W n) ls st μ g := (hW n 21 ls st μ g).trans rfl
theorem wX5_auction_22 {l : Launch} {K : aRs} {X : aXs} {J : aK} {W : Nat → aK} (hW : isW (tbX5_auction l K X) cuX5_auction J W) (n : Nat) (ls st : List aV) (μ : aM) (g : Nat) : W (n + 1) 22 ls st μ g = (sCallV 0 5 (fun as μ K => Ct l mdX5_meeting as μ K X) 25 0 0) (W n) ls st μ g := (hW n 22 ls st μ g).trans rfl
theorem tX5_auction_25 (l : Launch) (K : aRs) (X : aXs) : tb (tbX5_auction l K X) 25 = sSt 1 26 isI := (rfl)
theorem wX5_auction_25 {l : Launch} {K : aRs} {X : aXs} {J : aK} {W : Nat → aK} (hW : isW (tbX5_auction l K X) cuX5_auction J W) (n : Nat) (ls st : List aV) (μ : aM) (g : Nat) : W (n + 1) 25 ls st μ g = J 25 ls st μ g := (hW n 25 ls st μ g).trans rfl
theorem wX5_auction_26 {l : Launch} {K : aRs} {X : aXs} {J : aK} {W : Nat → aK} (hW : isW (tbX5_auction l K X) cuX5_auction J W) (n : Nat) (ls st : List aV) (μ : aM) (g : Nat) : W (n + 1) 26 ls st μ g = (sLd 1 27 isI) (W n) ls st μ g := (hW n 26 ls st μ g).trans rfl
theorem wX5_auction_27 {l : Launch} {K : aRs} {X : aXs} {J : aK} {W : Nat → aK} (hW : isW (tbX5_auction l K X) cuX5_auction J W) (n : Nat) (ls st : List aV) (μ : aM) (g : Nat) : W (n + 1) 27 ls st μ g = (sIf pNe 34 30) (W n) ls st μ g := (hW n 27 ls st μ g).trans rfl
theorem wX5_auction_30 {l : Launch} {K : aRs} {X : aXs} {J : aK} {W : Nat → aK} (hW : isW (tbX5_auction l K X) cuX5_auction J W) (n : Nat) (ls st : List aV) (μ : aM) (g : Nat) : W (n + 1) 30 ls st μ g = (sPush (aI 0) 31) (W n) ls st μ g := (hW n 30 ls st μ g).trans rfl
theorem wX5_auction_31 {l : Launch} {K : aRs} {X : aXs} {J : aK} {W : Nat → aK} (hW : isW (tbX5_auction l K X) cuX5_auction J W) (n : Nat) (ls st : List aV) (μ : aM) (g : Nat) : W (n + 1) 31 ls st μ g = (sGoto 39) (W n) ls st μ g := (hW n 31 ls st μ g).trans rfl
theorem wX5_auction_34 {l : Launch} {K : aRs} {X : aXs} {J : aK} {W : Nat → aK} (hW : isW (tbX5_auction l K X) cuX5_auction J W) (n : Nat) (ls st : List aV) (μ : aM) (g : Nat) : W (n + 1) 34 ls st μ g = (sLd 0 35 isR) (W n) ls st μ g := (hW n 34 ls st μ g).trans rfl
theorem wX5_auction_35 {l : Launch} {K : aRs} {X : aXs} {J : aK} {W : Nat → aK} (hW : isW (tbX5_auction l K X) cuX5_auction J W) (n : Nat) (ls st : List aV) (μ : aM) (g : Nat) : W (n + 1) 35 ls st μ g = (sLd 1 36 isI) (W n) ls st μ g := (hW n 35 ls st μ g).trans rfl
theorem wX5_auction_36 {l : Launch} {K : aRs} {X : aXs} {J : aK} {W : Nat → aK} (hW : isW (tbX5_auction l K X) cuX5_auction J W) (n : Nat) (ls st : List aV) (μ : aM) (g : Nat) : W (n + 1) 36 ls st μ g = (sCallV 1 5 (fun as μ K => Ct l mdX5_volumeFor as μ K X) 39 0 0) (W n) ls st μ g := (hW n 36 ls st μ g).trans rfl
theorem tX5_auction_39 (l : Launch) (K : aRs) (X : aXs) : tb (tbX5_auction l K X) 39 = sSt 2 40 isI := (rfl)
theorem wX5_auction_39 {l : Launch} {K : aRs} {X : aXs} {J : aK} {W : Nat → aK} (hW : isW (tbX5_auction l K X) cuX5_auction J W) (n : Nat) (ls st : List aV) (μ : aM) (g : Nat) : W (n + 1) 39 ls st μ g = J 39 ls st μ g := (hW n 39 ls st μ g).trans rfl
theorem wX5_auction_40 {l : Launch} {K : aRs} {X : aXs} {J : aK} {W : Nat → aK} (hW : isW (tbX5_auction l K X) cuX5_auction J W) (n : Nat) (ls st : List aV) (μ : aM) (g : Nat) : W (n + 1) 40 ls st μ g = (sLd 2 41 isI) (W n) ls st μ g := (hW n 40 ls st μ g).trans rfl
theorem wX5_auction_41 {l : Launch} {K : aRs} {X : aXs} {J : aK} {W : Nat → aK} (hW : isW (tbX5_auction l K X) cuX5_auction J W) (n : Nat) (ls st : List aV) (μ : aM) (g : Nat) : W (n + 1) 41 ls st μ g = (sSt 3 42 isI) (W n) ls st μ g := (hW n 41 ls st μ g).trans rfl
theorem tX5_auction_42 (l : Launch) (K : aRs) (X : aXs) : tb (tbX5_auction l K X) 42 = sLd 3 43 isI := (rfl)
theorem wX5_auction_42 {l : Launch} {K : aRs} {X : aXs} {J : aK} {W : Nat → aK} (hW : isW (tbX5_auction l K X) cuX5_auction J W) (n : Nat) (ls st : List aV) (μ : aM) (g : Nat) : W (n + 1) 42 ls st μ g = J 42 ls st μ g := (hW n 42 ls st μ g).trans rfl
theorem wX5_auction_43 {l : Launch} {K : aRs} {X : aXs} {J : aK} {W : Nat → aK} (hW : isW (tbX5_auction l K X) cuX5_auction J W) (n : Nat) (ls st : List aV) (μ : aM) (g : Nat) : W (n + 1) 43 ls st μ g = (sIf pLe 104 46) (W n) ls st μ g := (hW n 43 ls st μ g).trans rfl
theorem wX5_auction_46 {l : Launch} {K : aRs} {X : aXs} {J : aK} {W : Nat → aK} (hW : isW (tbX5_auction l K X) cuX5_auction J W) (n : Nat) (ls st : List aV) (μ : aM) (g : Nat) : W (n + 1) 46 ls st μ g = (sLd 0 47 isR) (W n) ls st μ g := (hW n 46 ls st μ g).trans rfl
theorem wX5_auction_47 {l : Launch} {K : aRs} {X : aXs} {J : aK} {W : Nat → aK} (hW : isW (tbX5_auction l K X) cuX5_auction J W) (n : Nat) (ls st : List aV) (μ : aM) (g : Nat) : W (n + 1) 47 ls st μ g = (sPush (aI 98) 49) (W n) ls st μ g := (hW n 47 ls st μ g).trans rfl
theorem wX5_auction_49 {l : Launch} {K : aRs} {X : aXs} {J : aK} {W : Nat → aK} (hW : isW (tbX5_auction l K X) cuX5_auction J W) (n : Nat) (ls st : List aV) (μ : aM) (g : Nat) : W (n + 1) 49 ls st μ g = (sCallV 1 5 (fun as μ K => Ct l mdX5_first as μ K X) 52 0 0) (W n) ls st μ g := (hW n 49 ls st μ g).trans rfl
theorem tX5_auction_52 (l : Launch) (K : aRs) (X : aXs) : tb (tbX5_auction l K X) 52 = sSt 4 54 isI := (rfl)
theorem wX5_auction_52 {l : Launch} {K : aRs} {X : aXs} {J : aK} {W : Nat → aK} (hW : isW (tbX5_auction l K X) cuX5_auction J W) (n : Nat) (ls st : List aV) (μ : aM) (g : Nat) : W (n + 1) 52 ls st μ g = J 52 ls st μ g := (hW n 52 ls st μ g).trans rfl
theorem wX5_auction_54 {l : Launch} {K : aRs} {X : aXs} {J : aK} {W : Nat → aK} (hW : isW (tbX5_auction l K X) cuX5_auction J W) (n : Nat) (ls st : List aV) (μ : aM) (g : Nat) : W (n + 1) 54 ls st μ g = (sLd 0 55 isR) (W n) ls st μ g := (hW n 54 ls st μ g).trans rfl
theorem wX5_auction_55 {l : Launch} {K : aRs} {X : aXs} {J : aK} {W : Nat → aK} (hW : isW (tbX5_auction l K X) cuX5_auction J W) (n : Nat) (ls st : List aV) (μ : aM) (g : Nat) : W (n + 1) 55 ls st μ g = (sPush (aI 115) 57) (W n) ls st μ g := (hW n 55 ls st μ g).trans rfl
theorem wX5_auction_57 {l : Launch} {K : aRs} {X : aXs} {J : aK} {W : Nat → aK} (hW : isW (tbX5_auction l K X) cuX5_auction J W) (n : Nat) (ls st : List aV) (μ : aM) (g : Nat) : W (n + 1) 57 ls st μ g = (sCallV 1 5 (fun as μ K => Ct l mdX5_first as μ K X) 60 0 0) (W n) ls st μ g := (hW n 57 ls st μ g).trans rfl
theorem tX5_auction_60 (l : Launch) (K : aRs) (X : aXs) : tb (tbX5_auction l K X) 60 = sSt 5 62 isI := (rfl)
theorem wX5_auction_60 {l : Launch} {K : aRs} {X : aXs} {J : aK} {W : Nat → aK} (hW : isW (tbX5_auction l K X) cuX5_auction J W) (n : Nat) (ls st : List aV) (μ : aM) (g : Nat) : W (n + 1) 60 ls st μ g = J 60 ls st μ g := (hW n 60 ls st μ g).trans rfl
theorem wX5_auction_62 {l : Launch} {K : aRs} {X : aXs} {J : aK} {W : Nat → aK} (hW : isW (tbX5_auction l K X) cuX5_auction J W) (n : Nat) (ls st : List aV) (μ : aM) (g : Nat) : W (n + 1) 62 ls st μ g = (sLd 3 63 isI) (W n) ls st μ g := (hW n 62 ls st μ g).trans rfl
theorem wX5_auction_63 {l : Launch} {K : aRs} {X : aXs} {J : aK} {W : Nat → aK} (hW : isW (tbX5_auction l K X) cuX5_auction J W) (n : Nat) (ls st : List aV) (μ : aM) (g : Nat) : W (n + 1) 63 ls st μ g = (sLd 0 64 isR) (W n) ls st μ g := (hW n 63 ls st μ g).trans rfl
theorem wX5_auction_64 {l : Launch} {K : aRs} {X : aXs} {J : aK} {W : Nat → aK} (hW : isW (tbX5_auction l K X) cuX5_auction J W) (n : Nat) (ls st : List aV) (μ : aM) (g : Nat) : W (n + 1) 64 ls st μ g = (sGetR 5 7 67) (W n) ls st μ g := (hW n 64 ls st μ g).trans rfl
theorem wX5_auction_67 {l : Launch} {K : aRs} {X : aXs} {J : aK} {W : Nat → aK} (hW : isW (tbX5_auction l K X) cuX5_auction J W) (n : Nat) (ls st : List aV) (μ : aM) (g : Nat) : W (n + 1) 67 ls st μ g = (sLd 4 69 isI) (W n) ls st μ g := (hW n 67 ls st μ g).trans rfl
theorem wX5_auction_69 {l : Launch} {K : aRs} {X : aXs} {J : aK} {W : Nat → aK} (hW : isW (tbX5_auction l K X) cuX5_auction J W) (n : Nat) (ls st : List aV) (μ : aM) (g : Nat) : W (n + 1) 69 ls st μ g = (sAldI 7 70) (W n) ls st μ g := (hW n 69 ls st μ g).trans rfl
theorem wX5_auction_70 {l : Launch} {K : aRs} {X : aXs} {J : aK} {W : Nat → aK} (hW : isW (tbX5_auction l K X) cuX5_auction J W) (n : Nat) (ls st : List aV) (μ : aM) (g : Nat) : W (n + 1) 70 ls st μ g = (sLd 0 71 isR) (W n) ls st μ g := (hW n 70 ls st μ g).trans rfl
theorem wX5_auction_71 {l : Launch} {K : aRs} {X : aXs} {J : aK} {W : Nat → aK} (hW : isW (tbX5_auction l K X) cuX5_auction J W) (n : Nat) (ls st : List aV) (μ : aM) (g : Nat) : W (n + 1) 71 ls st μ g = (sGetR 5 7 74) (W n) ls st μ g := (hW n 71 ls st μ g).trans rfl
theorem wX5_auction_74 {l : Launch} {K : aRs} {X : aXs} {J : aK} {W : Nat → aK} (hW : isW (tbX5_auction l K X) cuX5_auction J W) (n : Nat) (ls st : List aV) (μ : aM) (g : Nat) : W (n + 1) 74 ls st μ g = (sLd 5 76 isI) (W n) ls st μ g := (hW n 74 ls st μ g).trans rfl
theorem wX5_auction_76 {l : Launch} {K : aRs} {X : aXs} {J : aK} {W : Nat → aK} (hW : isW (tbX5_auction l K X) cuX5_auction J W) (n : Nat) (ls st : List aV) (μ : aM) (g : Nat) : W (n + 1) 76 ls st μ g = (sAldI 7 77) (W n) ls st μ g := (hW n 76 ls st μ g).trans rfl
theorem wX5_auction_77 {l : Launch} {K : aRs} {X : aXs} {J : aK} {W : Nat → aK} (hW : isW (tbX5_auction l K X) cuX5_auction J W) (n : Nat) (ls st : List aV) (μ : aM) (g : Nat) : W (n + 1) 77 ls st μ g = (sCallS 2 (fun as μ K => Ct l mdX5_lesser as μ K X) 80 0 0) (W n) ls st μ g := (hW n 77 ls st μ g).trans rfl
theorem tX5_auction_80 (l : Launch) (K : aRs) (X : aXs) : tb (tbX5_auction l K X) 80 = sCallS 2 (fun as μ K => Ct l mdX5_lesser as μ K X) 83 0 0 := (rfl)
theorem wX5_auction_80 {l : Launch} {K : aRs} {X : aXs} {J : aK} {W : Nat → aK} (hW : isW (tbX5_auction l K X) cuX5_auction J W) (n : Nat) (ls st : List aV) (μ : aM) (g : Nat) : W (n + 1) 80 ls st μ g = J 80 ls st μ g := (hW n 80 ls st μ g).trans rfl
theorem tX5_auction_83 (l : Launch) (K : aRs) (X : aXs) : tb (tbX5_auction l K X) 83 = sSt 6 85 isI := (rfl)
theorem wX5_auction_83 {l : Launch} {K : aRs} {X : aXs} {J : aK} {W : Nat → aK} (hW : isW (tbX5_auction l K X) cuX5_auction J W) (n : Nat) (ls st : List aV) (μ : aM) (g : Nat) : W (n + 1) 83 ls st μ g = J 83 ls st μ g := (hW n 83 ls st μ g).trans rfl
theorem wX5_auction_85 {l : Launch} {K : aRs} {X : aXs} {J : aK} {W : Nat → aK} (hW : isW (tbX5_auction l K X) cuX5_auction J W) (n : Nat) (ls st : List aV) (μ : aM) (g : Nat) : W (n + 1) 85 ls st μ g = (sLd 0 86 isR) (W n) ls st μ g := (hW n 85 ls st μ g).trans rfl
theorem wX5_auction_86 {l : Launch} {K : aRs} {X : aXs} {J : aK} {W : Nat → aK} (hW : isW (tbX5_auction l K X) cuX5_auction J W) (n : Nat) (ls st : List aV) (μ : aM) (g : Nat) : W (n + 1) 86 ls st μ g = (sLd 4 88 isI) (W n) ls st μ g := (hW n 86 ls st μ g).trans rfl
theorem wX5_auction_88 {l : Launch} {K : aRs} {X : aXs} {J : aK} {W : Nat → aK} (hW : isW (tbX5_auction l K X) cuX5_auction J W) (n : Nat) (ls st : List aV) (μ : aM) (g : Nat) : W (n + 1) 88 ls st μ g = (sLd 5 90 isI) (W n) ls st μ g := (hW n 88 ls st μ g).trans rfl
theorem wX5_auction_90 {l : Launch} {K : aRs} {X : aXs} {J : aK} {W : Nat → aK} (hW : isW (tbX5_auction l K X) cuX5_auction J W) (n : Nat) (ls st : List aV) (μ : aM) (g : Nat) : W (n + 1) 90 ls st μ g = (sLd 1 91 isI) (W n) ls st μ g := (hW n 90 ls st μ g).trans rfl
theorem wX5_auction_91 {l : Launch} {K : aRs} {X : aXs} {J : aK} {W : Nat → aK} (hW : isW (tbX5_auction l K X) cuX5_auction J W) (n : Nat) (ls st : List aV) (μ : aM) (g : Nat) : W (n + 1) 91 ls st μ g = (sLd 6 93 isI) (W n) ls st μ g := (hW n 91 ls st μ g).trans rfl
theorem wX5_auction_93 {l : Launch} {K : aRs} {X : aXs} {J : aK} {W : Nat → aK} (hW : isW (tbX5_auction l K X) cuX5_auction J W) (n : Nat) (ls st : List aV) (μ : aM) (g : Nat) : W (n + 1) 93 ls st μ g = (sCallV 4 5 (fun as μ K => Ct l mdX5_trades as μ K X) 96 0 0) (W n) ls st μ g := (hW n 93 ls st μ g).trans rfl
theorem tX5_auction_96 (l : Launch) (K : aRs) (X : aXs) : tb (tbX5_auction l K X) 96 = sLd 3 97 isI := (rfl)
theorem wX5_auction_96 {l : Launch} {K : aRs} {X : aXs} {J : aK} {W : Nat → aK} (hW : isW (tbX5_auction l K X) cuX5_auction J W) (n : Nat) (ls st : List aV) (μ : aM) (g : Nat) : W (n + 1) 96 ls st μ g = J 96 ls st μ g := (hW n 96 ls st μ g).trans rfl
theorem wX5_auction_97 {l : Launch} {K : aRs} {X : aXs} {J : aK} {W : Nat → aK} (hW : isW (tbX5_auction l K X) cuX5_auction J W) (n : Nat) (ls st : List aV) (μ : aM) (g : Nat) : W (n + 1) 97 ls st μ g = (sLd 6 99 isI) (W n) ls st μ g := (hW n 97 ls st μ g).trans rfl
theorem wX5_auction_99 {l : Launch} {K : aRs} {X : aXs} {J : aK} {W : Nat → aK} (hW : isW (tbX5_auction l K X) cuX5_auction J W) (n : Nat) (ls st : List aV) (μ : aM) (g : Nat) : W (n + 1) 99 ls st μ g = (sBin fSub 100) (W n) ls st μ g := (hW n 99 ls st μ g).trans rfl
theorem wX5_auction_100 {l : Launch} {K : aRs} {X : aXs} {J : aK} {W : Nat → aK} (hW : isW (tbX5_auction l K X) cuX5_auction J W) (n : Nat) (ls st : List aV) (μ : aM) (g : Nat) : W (n + 1) 100 ls st μ g = (sSt 3 101 isI) (W n) ls st μ g := (hW n 100 ls st μ g).trans rfl
theorem wX5_auction_101 {l : Launch} {K : aRs} {X : aXs} {J : aK} {W : Nat → aK} (hW : isW (tbX5_auction l K X) cuX5_auction J W) (n : Nat) (ls st : List aV) (μ : aM) (g : Nat) : W (n + 1) 101 ls st μ g = (sGoto 42) (W n) ls st μ g := (hW n 101 ls st μ g).trans rfl
theorem wX5_auction_104 {l : Launch} {K : aRs} {X : aXs} {J : aK} {W : Nat → aK} (hW : isW (tbX5_auction l K X) cuX5_auction J W) (n : Nat) (ls st : List aV) (μ : aM) (g : Nat) : W (n + 1) 104 ls st μ g = (sPush (aI 0) 105) (W n) ls st μ g := (hW n 104 ls st μ g).trans rfl
theorem wX5_auction_105 {l : Launch} {K : aRs} {X : aXs} {J : aK} {W : Nat → aK} (hW : isW (tbX5_auction l K X) cuX5_auction J W) (n : Nat) (ls st : List aV) (μ : aM) (g : Nat) : W (n + 1) 105 ls st μ g = (sSt 3 106 isI) (W n) ls st μ g := (hW n 105 ls st μ g).trans rfl
theorem tX5_auction_106 (l : Launch) (K : aRs) (X : aXs) : tb (tbX5_auction l K X) 106 = sLd 3 107 isI := (rfl)
theorem wX5_auction_106 {l : Launch} {K : aRs} {X : aXs} {J : aK} {W : Nat → aK} (hW : isW (tbX5_auction l K X) cuX5_auction J W) (n : Nat) (ls st : List aV) (μ : aM) (g : Nat) : W (n + 1) 106 ls st μ g = J 106 ls st μ g := (hW n 106 ls st μ g).trans rfl
theorem wX5_auction_107 {l : Launch} {K : aRs} {X : aXs} {J : aK} {W : Nat → aK} (hW : isW (tbX5_auction l K X) cuX5_auction J W) (n : Nat) (ls st : List aV) (μ : aM) (g : Nat) : W (n + 1) 107 ls st μ g = (sLd 0 108 isR) (W n) ls st μ g := (hW n 107 ls st μ g).trans rfl
set_option maxRecDepth 10000 in
theorem wX5_auction_108 {l : Launch} {K : aRs} {X : aXs} {J : aK} {W : Nat → aK} (hW : isW (tbX5_auction l K X) cuX5_auction J W) (n : Nat) (ls st : List aV) (μ : aM) (g : Nat) : W (n + 1) 108 ls st μ g = (sGetI 5 0 111) (W n) ls st μ g := (hW n 108 ls st μ g).trans rfl
set_option maxRecDepth 10000 in
theorem wX5_auction_111 {l : Launch} {K : aRs} {X : aXs} {J : aK} {W : Nat → aK} (hW : isW (tbX5_auction l K X) cuX5_auction J W) (n : Nat) (ls st : List aV) (μ : aM) (g : Nat) : W (n + 1) 111 ls st μ g = (sIc qGe 136 114) (W n) ls st μ g := (hW n 111 ls st μ g).trans rfl
set_option maxRecDepth 10000 in
theorem wX5_auction_114 {l : Launch} {K : aRs} {X : aXs} {J : aK} {W : Nat → aK} (hW : isW (tbX5_auction l K X) cuX5_auction J W) (n : Nat) (ls st : List aV) (μ : aM) (g : Nat) : W (n + 1) 114 ls st μ g = (sLd 0 115 isR) (W n) ls st μ g := (hW n 114 ls st μ g).trans rfl
set_option maxRecDepth 10000 in
theorem wX5_auction_115 {l : Launch} {K : aRs} {X : aXs} {J : aK} {W : Nat → aK} (hW : isW (tbX5_auction l K X) cuX5_auction J W) (n : Nat) (ls st : List aV) (μ : aM) (g : Nat) : W (n + 1) 115 ls st μ g = (sGetR 5 2 118) (W n) ls st μ g := (hW n 115 ls st μ g).trans rfl
set_option maxRecDepth 10000 in
theorem wX5_auction_118 {l : Launch} {K : aRs} {X : aXs} {J : aK} {W : Nat → aK} (hW : isW (tbX5_auction l K X) cuX5_auction J W) (n : Nat) (ls st : List aV) (μ : aM) (g : Nat) : W (n + 1) 118 ls st μ g = (sLd 3 119 isI) (W n) ls st μ g := (hW n 118 ls st μ g).trans rfl
set_option maxRecDepth 10000 in
theorem wX5_auction_119 {l : Launch} {K : aRs} {X : aXs} {J : aK} {W : Nat → aK} (hW : isW (tbX5_auction l K X) cuX5_auction J W) (n : Nat) (ls st : List aV) (μ : aM) (g : Nat) : W (n + 1) 119 ls st μ g = (sAldI 6 120) (W n) ls st μ g := (hW n 119 ls st μ g).trans rfl
set_option maxRecDepth 10000 in
theorem wX5_auction_120 {l : Launch} {K : aRs} {X : aXs} {J : aK} {W : Nat → aK} (hW : isW (tbX5_auction l K X) cuX5_auction J W) (n : Nat) (ls st : List aV) (μ : aM) (g : Nat) : W (n + 1) 120 ls st μ g = (sPush (aI 97) 122) (W n) ls st μ g := (hW n 120 ls st μ g).trans rfl
set_option maxRecDepth 10000 in
theorem wX5_auction_122 {l : Launch} {K : aRs} {X : aXs} {J : aK} {W : Nat → aK} (hW : isW (tbX5_auction l K X) cuX5_auction J W) (n : Nat) (ls st : List aV) (μ : aM) (g : Nat) : W (n + 1) 122 ls st μ g = (sIc qNe 130 125) (W n) ls st μ g := (hW n 122 ls st μ g).trans rfl
set_option maxRecDepth 10000 in
theorem wX5_auction_125 {l : Launch} {K : aRs} {X : aXs} {J : aK} {W : Nat → aK} (hW : isW (tbX5_auction l K X) cuX5_auction J W) (n : Nat) (ls st : List aV) (μ : aM) (g : Nat) : W (n + 1) 125 ls st μ g = (sLd 0 126 isR) (W n) ls st μ g := (hW n 125 ls st μ g).trans rfl
set_option maxRecDepth 10000 in
theorem wX5_auction_126 {l : Launch} {K : aRs} {X : aXs} {J : aK} {W : Nat → aK} (hW : isW (tbX5_auction l K X) cuX5_auction J W) (n : Nat) (ls st : List aV) (μ : aM) (g : Nat) : W (n + 1) 126 ls st μ g = (sLd 3 127 isI) (W n) ls st μ g := (hW n 126 ls st μ g).trans rfl
set_option maxRecDepth 10000 in
theorem wX5_auction_127 {l : Launch} {K : aRs} {X : aXs} {J : aK} {W : Nat → aK} (hW : isW (tbX5_auction l K X) cuX5_auction J W) (n : Nat) (ls st : List aV) (μ : aM) (g : Nat) : W (n + 1) 127 ls st μ g = (sCallV 1 5 (fun as μ K => Ct l mdX5_shows as μ K X) 130 0 0) (W n) ls st μ g := (hW n 127 ls st μ g).trans rfl
set_option maxRecDepth 10000 in
theorem tX5_auction_130 (l : Launch) (K : aRs) (X : aXs) : tb (tbX5_auction l K X) 130 = sInc 3 1 133 := (rfl)
theorem wX5_auction_130 {l : Launch} {K : aRs} {X : aXs} {J : aK} {W : Nat → aK} (hW : isW (tbX5_auction l K X) cuX5_auction J W) (n : Nat) (ls st : List aV) (μ : aM) (g : Nat) : W (n + 1) 130 ls st μ g = J 130 ls st μ g := (hW n 130 ls st μ g).trans rfl
set_option maxRecDepth 10000 in
theorem wX5_auction_133 {l : Launch} {K : aRs} {X : aXs} {J : aK} {W : Nat → aK} (hW : isW (tbX5_auction l K X) cuX5_auction J W) (n : Nat) (ls st : List aV) (μ : aM) (g : Nat) : W (n + 1) 133 ls st μ g = (sGoto 106) (W n) ls st μ g := (hW n 133 ls st μ g).trans rfl
set_option maxRecDepth 10000 in
theorem wX5_auction_136 {l : Launch} {K : aRs} {X : aXs} {J : aK} {W : Nat → aK} (hW : isW (tbX5_auction l K X) cuX5_auction J W) (n : Nat) (ls st : List aV) (μ : aM) (g : Nat) : W (n + 1) 136 ls st μ g = (sLd 0 137 isR) (W n) ls st μ g := (hW n 136 ls st μ g).trans rfl
set_option maxRecDepth 10000 in
theorem wX5_auction_137 {l : Launch} {K : aRs} {X : aXs} {J : aK} {W : Nat → aK} (hW : isW (tbX5_auction l K X) cuX5_auction J W) (n : Nat) (ls st : List aV) (μ : aM) (g : Nat) : W (n + 1) 137 ls st μ g = (sPush (aI 0) 138) (W n) ls st μ g := (hW n 137 ls st μ g).trans rfl
set_option maxRecDepth 10000 in
theorem wX5_auction_138 {l : Launch} {K : aRs} {X : aXs} {J : aK} {W : Nat → aK} (hW : isW (tbX5_auction l K X) cuX5_auction J W) (n : Nat) (ls st : List aV) (μ : aM) (g : Nat) : W (n + 1) 138 ls st μ g = (sPutI 5 23 141) (W n) ls st μ g := (hW n 138 ls st μ g).trans rfl
set_option maxRecDepth 10000 in
theorem wX5_auction_141 {l : Launch} {K : aRs} {X : aXs} {J : aK} {W : Nat → aK} (hW : isW (tbX5_auction l K X) cuX5_auction J W) (n : Nat) (ls st : List aV) (μ : aM) (g : Nat) : W (n + 1) 141 ls st μ g = (sLd 0 142 isR) (W n) ls st μ g := (hW n 141 ls st μ g).trans rfl
set_option maxRecDepth 10000 in
theorem wX5_auction_142 {l : Launch} {K : aRs} {X : aXs} {J : aK} {W : Nat → aK} (hW : isW (tbX5_auction l K X) cuX5_auction J W) (n : Nat) (ls st : List aV) (μ : aM) (g : Nat) : W (n + 1) 142 ls st μ g = (sCallV 0 5 (fun as μ K => Ct l mdX5_setsOff as μ K X) 145 0 0) (W n) ls st μ g := (hW n 142 ls st μ g).trans rfl
set_option maxRecDepth 10000 in
theorem tX5_auction_145 (l : Launch) (K : aRs) (X : aXs) : tb (tbX5_auction l K X) 145 = sLd 2 146 isI := (rfl)
theorem wX5_auction_145 {l : Launch} {K : aRs} {X : aXs} {J : aK} {W : Nat → aK} (hW : isW (tbX5_auction l K X) cuX5_auction J W) (n : Nat) (ls st : List aV) (μ : aM) (g : Nat) : W (n + 1) 145 ls st μ g = J 145 ls st μ g := (hW n 145 ls st μ g).trans rfl
set_option maxRecDepth 10000 in
theorem wX5_auction_146 {l : Launch} {K : aRs} {X : aXs} {J : aK} {W : Nat → aK} (hW : isW (tbX5_auction l K X) cuX5_auction J W) (n : Nat) (ls st : List aV) (μ : aM) (g : Nat) : W (n + 1) 146 ls st μ g = (sRetI .int 0 K) (W n) ls st μ g := (hW n 146 ls st μ g).trans rfl
theorem dX5_isHalted_0 : decode cX5_isHalted 0 = .ok (.aload_n 0, 1) := by decide +kernel
theorem dX5_isHalted_1 : decode cX5_isHalted 1 = .ok (.iconst 0, 1) := by decide +kernel
theorem dX5_isHalted_2 : decode cX5_isHalted 2 = .ok (.putfield 60, 3) := by decide +kernel
theorem dX5_isHalted_5 : decode cX5_isHalted 5 = .ok (.aload_n 0, 1) := by decide +kernel
theorem dX5_isHalted_6 : decode cX5_isHalted 6 = .ok (.getfield 110, 3) := by decide +kernel
theorem dX5_isHalted_9 : decode cX5_isHalted 9 = .ok (.ireturn, 1) := by decide +kernel
def tbX5_isHalted (l : Launch) (K : aRs) (X : aXs) : aTb := [
  (0, sLd 0 1 isR),
  (1, sPush (aI 0) 2),
  (2, sPutI 5 24 5),
  (5, sLd 0 6 isR),
  (6, sGetI 5 23 9),
  (9, sRetI .boolean 0 K)]
theorem snX5_isHalted (l : Launch) (K : aRs) (X : aXs) (n0 : Nat) : ∀ q ∈ tbX5_isHalted l K X, aSo l mdX5_isHalted K X n0 q.1 q.2 :=
  tc (fun p e s m args below meth c cA D A ad0 h => ok_aload_n h.1 0 rfl dX5_isHalted_0) <|
  tc (fun p e s m args below meth c cA D A ad0 h => ok_iconst h.1 ⟨by decide, by decide⟩ dX5_isHalted_1) <|
  tc (fun p e s m args below meth c cA D A ad0 h => ok_putI h.1 cxX5 (by decide) rfl fkRX5_60 (Or.inl rfl) (fun _ _ _ => rfl) (Or.inl rfl) dX5_isHalted_2) <|
  tc (fun p e s m args below meth c cA D A ad0 h => ok_aload_n h.1 0 rfl dX5_isHalted_5) <|
  tc (fun p e s m args below meth c cA D A ad0 h => ok_getI h.1 cxX5 (by decide) rfl fkRX5_110 (fun _ _ _ => rfl) dX5_isHalted_6) <|
  tc (fun p e s m args below meth c cA D A ad0 h => ok_ireturn h.1 h.2.2.2.1 (Or.inr (Or.inl rfl)) dX5_isHalted_9) <|
  tn
abbrev cuX5_isHalted : List Nat := []
theorem tX5_isHalted_0 (l : Launch) (K : aRs) (X : aXs) : tb (tbX5_isHalted l K X) 0 = sLd 0 1 isR := (rfl)
theorem wX5_isHalted_0 {l : Launch} {K : aRs} {X : aXs} {J : aK} {W : Nat → aK} (hW : isW (tbX5_isHalted l K X) cuX5_isHalted J W) (n : Nat) (ls st : List aV) (μ : aM) (g : Nat) : W (n + 1) 0 ls st μ g = (sLd 0 1 isR) (W n) ls st μ g := (hW n 0 ls st μ g).trans rfl
theorem wX5_isHalted_1 {l : Launch} {K : aRs} {X : aXs} {J : aK} {W : Nat → aK} (hW : isW (tbX5_isHalted l K X) cuX5_isHalted J W) (n : Nat) (ls st : List aV) (μ : aM) (g : Nat) : W (n + 1) 1 ls st μ g = (sPush (aI 0) 2) (W n) ls st μ g := (hW n 1 ls st μ g).trans rfl
theorem wX5_isHalted_2 {l : Launch} {K : aRs} {X : aXs} {J : aK} {W : Nat → aK} (hW : isW (tbX5_isHalted l K X) cuX5_isHalted J W) (n : Nat) (ls st : List aV) (μ : aM) (g : Nat) : W (n + 1) 2 ls st μ g = (sPutI 5 24 5) (W n) ls st μ g := (hW n 2 ls st μ g).trans rfl
theorem wX5_isHalted_5 {l : Launch} {K : aRs} {X : aXs} {J : aK} {W : Nat → aK} (hW : isW (tbX5_isHalted l K X) cuX5_isHalted J W) (n : Nat) (ls st : List aV) (μ : aM) (g : Nat) : W (n + 1) 5 ls st μ g = (sLd 0 6 isR) (W n) ls st μ g := (hW n 5 ls st μ g).trans rfl
theorem wX5_isHalted_6 {l : Launch} {K : aRs} {X : aXs} {J : aK} {W : Nat → aK} (hW : isW (tbX5_isHalted l K X) cuX5_isHalted J W) (n : Nat) (ls st : List aV) (μ : aM) (g : Nat) : W (n + 1) 6 ls st μ g = (sGetI 5 23 9) (W n) ls st μ g := (hW n 6 ls st μ g).trans rfl
theorem wX5_isHalted_9 {l : Launch} {K : aRs} {X : aXs} {J : aK} {W : Nat → aK} (hW : isW (tbX5_isHalted l K X) cuX5_isHalted J W) (n : Nat) (ls st : List aV) (μ : aM) (g : Nat) : W (n + 1) 9 ls st μ g = (sRetI .boolean 0 K) (W n) ls st μ g := (hW n 9 ls st μ g).trans rfl
theorem dX5_stateOf_0 : decode cX5_stateOf 0 = .ok (.aload_n 0, 1) := by decide +kernel
theorem dX5_stateOf_1 : decode cX5_stateOf 1 = .ok (.aload_n 0, 1) := by decide +kernel
theorem dX5_stateOf_2 : decode cX5_stateOf 2 = .ok (.iload_n 1, 1) := by decide +kernel
theorem dX5_stateOf_3 : decode cX5_stateOf 3 = .ok (.invokevirtual 158, 3) := by decide +kernel
theorem dX5_stateOf_6 : decode cX5_stateOf 6 = .ok (.ifCond .eq 7, 3) := by decide +kernel
theorem dX5_stateOf_9 : decode cX5_stateOf 9 = .ok (.iconst 1, 1) := by decide +kernel
theorem dX5_stateOf_10 : decode cX5_stateOf 10 = .ok (.goto 4, 3) := by decide +kernel
theorem dX5_stateOf_13 : decode cX5_stateOf 13 = .ok (.iconst 0, 1) := by decide +kernel
theorem dX5_stateOf_14 : decode cX5_stateOf 14 = .ok (.invokevirtual 148, 3) := by decide +kernel
theorem dX5_stateOf_17 : decode cX5_stateOf 17 = .ok (.ifCond .eq 8, 3) := by decide +kernel
theorem dX5_stateOf_20 : decode cX5_stateOf 20 = .ok (.bipush 97, 2) := by decide +kernel
theorem dX5_stateOf_22 : decode cX5_stateOf 22 = .ok (.goto 9, 3) := by decide +kernel
theorem dX5_stateOf_25 : decode cX5_stateOf 25 = .ok (.aload_n 0, 1) := by decide +kernel
theorem dX5_stateOf_26 : decode cX5_stateOf 26 = .ok (.getfield 13, 3) := by decide +kernel
theorem dX5_stateOf_29 : decode cX5_stateOf 29 = .ok (.iload_n 1, 1) := by decide +kernel
theorem dX5_stateOf_30 : decode cX5_stateOf 30 = .ok (.caload, 1) := by decide +kernel
theorem dX5_stateOf_31 : decode cX5_stateOf 31 = .ok (.ireturn, 1) := by decide +kernel
def tbX5_stateOf (l : Launch) (K : aRs) (X : aXs) : aTb := [
  (0, sLd 0 1 isR),
  (1, sLd 0 2 isR),
  (2, sLd 1 3 isI),
  (3, sCallV 1 5 (fun as μ K => Ct l mdX5_isNone as μ K X) 6 0 0),
  (6, sIf pEq 13 9),
  (9, sPush (aI 1) 10),
  (10, sGoto 14),
  (13, sPush (aI 0) 14),
  (14, sCallV 1 5 (fun as μ K => Ct l mdX5_fails as μ K X) 17 0 0),
  (17, sIf pEq 25 20),
  (20, sPush (aI 97) 22),
  (22, sGoto 31),
  (25, sLd 0 26 isR),
  (26, sGetR 5 2 29),
  (29, sLd 1 30 isI),
  (30, sAldI 6 31),
  (31, sRetI .char 0 K)]
theorem snX5_stateOf (l : Launch) (K : aRs) (X : aXs) (n0 : Nat) : ∀ q ∈ tbX5_stateOf l K X, aSo l mdX5_stateOf K X n0 q.1 q.2 :=
  tc (fun p e s m args below meth c cA D A ad0 h => ok_aload_n h.1 0 rfl dX5_stateOf_0) <|
  tc (fun p e s m args below meth c cA D A ad0 h => ok_aload_n h.1 0 rfl dX5_stateOf_1) <|
  tc (fun p e s m args below meth c cA D A ad0 h => ok_iload_n h.1 1 rfl dX5_stateOf_2) <|
  tc (fun p e s m args below meth c cA D A ad0 h => ok_callV h.1 h.2.1 ⟨Nat.le_refl _, Nat.le_refl _⟩ mdX5_isNone siX5_isNone cxX5 mkRX5_158 imX5_isNone seX5_isNone ⟨by decide, by decide⟩ (aAx_out h.1 h.2.2.1 _) dX5_stateOf_3) <|
  tc (fun p e s m args below meth c cA D A ad0 h => ok_if_eq h.1 13 (by decide) dX5_stateOf_6) <|
  tc (fun p e s m args below meth c cA D A ad0 h => ok_iconst h.1 ⟨by decide, by decide⟩ dX5_stateOf_9) <|
  tc (fun p e s m args below meth c cA D A ad0 h => ok_goto h.1 14 (by decide) dX5_stateOf_10) <|
  tc (fun p e s m args below meth c cA D A ad0 h => ok_iconst h.1 ⟨by decide, by decide⟩ dX5_stateOf_13) <|
  tc (fun p e s m args below meth c cA D A ad0 h => ok_callV h.1 h.2.1 ⟨Nat.le_refl _, Nat.le_refl _⟩ mdX5_fails siX5_fails cxX5 mkRX5_148 imX5_fails seX5_fails ⟨by decide, by decide⟩ (aAx_out h.1 h.2.2.1 _) dX5_stateOf_14) <|
  tc (fun p e s m args below meth c cA D A ad0 h => ok_if_eq h.1 25 (by decide) dX5_stateOf_17) <|
  tc (fun p e s m args below meth c cA D A ad0 h => ok_bipush h.1 ⟨by decide, by decide⟩ (by decide) dX5_stateOf_20) <|
  tc (fun p e s m args below meth c cA D A ad0 h => ok_goto h.1 31 (by decide) dX5_stateOf_22) <|
  tc (fun p e s m args below meth c cA D A ad0 h => ok_aload_n h.1 0 rfl dX5_stateOf_25) <|
  tc (fun p e s m args below meth c cA D A ad0 h => ok_getR h.1 cxX5 (by decide) rfl fkRX5_13 (fun _ _ _ => rfl) dX5_stateOf_26) <|
  tc (fun p e s m args below meth c cA D A ad0 h => ok_iload_n h.1 1 rfl dX5_stateOf_29) <|
  tc (fun p e s m args below meth c cA D A ad0 h => ok_cald h.1 dX5_stateOf_30) <|
  tc (fun p e s m args below meth c cA D A ad0 h => ok_ireturn h.1 h.2.2.2.1 (Or.inr (Or.inr rfl)) dX5_stateOf_31) <|
  tn
abbrev cuX5_stateOf : List Nat := [6, 17]
theorem tX5_stateOf_0 (l : Launch) (K : aRs) (X : aXs) : tb (tbX5_stateOf l K X) 0 = sLd 0 1 isR := (rfl)
theorem wX5_stateOf_0 {l : Launch} {K : aRs} {X : aXs} {J : aK} {W : Nat → aK} (hW : isW (tbX5_stateOf l K X) cuX5_stateOf J W) (n : Nat) (ls st : List aV) (μ : aM) (g : Nat) : W (n + 1) 0 ls st μ g = (sLd 0 1 isR) (W n) ls st μ g := (hW n 0 ls st μ g).trans rfl
theorem wX5_stateOf_1 {l : Launch} {K : aRs} {X : aXs} {J : aK} {W : Nat → aK} (hW : isW (tbX5_stateOf l K X) cuX5_stateOf J W) (n : Nat) (ls st : List aV) (μ : aM) (g : Nat) : W (n + 1) 1 ls st μ g = (sLd 0 2 isR) (W n) ls st μ g := (hW n 1 ls st μ g).trans rfl
theorem wX5_stateOf_2 {l : Launch} {K : aRs} {X : aXs} {J : aK} {W : Nat → aK} (hW : isW (tbX5_stateOf l K X) cuX5_stateOf J W) (n : Nat) (ls st : List aV) (μ : aM) (g : Nat) : W (n + 1) 2 ls st μ g = (sLd 1 3 isI) (W n) ls st μ g := (hW n 2 ls st μ g).trans rfl
theorem wX5_stateOf_3 {l : Launch} {K : aRs} {X : aXs} {J : aK} {W : Nat → aK} (hW : isW (tbX5_stateOf l K X) cuX5_stateOf J W) (n : Nat) (ls st : List aV) (μ : aM) (g : Nat) : W (n + 1) 3 ls st μ g = (sCallV 1 5 (fun as μ K => Ct l mdX5_isNone as μ K X) 6 0 0) (W n) ls st μ g := (hW n 3 ls st μ g).trans rfl
theorem tX5_stateOf_6 (l : Launch) (K : aRs) (X : aXs) : tb (tbX5_stateOf l K X) 6 = sIf pEq 13 9 := (rfl)
theorem wX5_stateOf_6 {l : Launch} {K : aRs} {X : aXs} {J : aK} {W : Nat → aK} (hW : isW (tbX5_stateOf l K X) cuX5_stateOf J W) (n : Nat) (ls st : List aV) (μ : aM) (g : Nat) : W (n + 1) 6 ls st μ g = J 6 ls st μ g := (hW n 6 ls st μ g).trans rfl
theorem wX5_stateOf_9 {l : Launch} {K : aRs} {X : aXs} {J : aK} {W : Nat → aK} (hW : isW (tbX5_stateOf l K X) cuX5_stateOf J W) (n : Nat) (ls st : List aV) (μ : aM) (g : Nat) : W (n + 1) 9 ls st μ g = (sPush (aI 1) 10) (W n) ls st μ g := (hW n 9 ls st μ g).trans rfl
theorem wX5_stateOf_10 {l : Launch} {K : aRs} {X : aXs} {J : aK} {W : Nat → aK} (hW : isW (tbX5_stateOf l K X) cuX5_stateOf J W) (n : Nat) (ls st : List aV) (μ : aM) (g : Nat) : W (n + 1) 10 ls st μ g = (sGoto 14) (W n) ls st μ g := (hW n 10 ls st μ g).trans rfl
theorem wX5_stateOf_13 {l : Launch} {K : aRs} {X : aXs} {J : aK} {W : Nat → aK} (hW : isW (tbX5_stateOf l K X) cuX5_stateOf J W) (n : Nat) (ls st : List aV) (μ : aM) (g : Nat) : W (n + 1) 13 ls st μ g = (sPush (aI 0) 14) (W n) ls st μ g := (hW n 13 ls st μ g).trans rfl
theorem wX5_stateOf_14 {l : Launch} {K : aRs} {X : aXs} {J : aK} {W : Nat → aK} (hW : isW (tbX5_stateOf l K X) cuX5_stateOf J W) (n : Nat) (ls st : List aV) (μ : aM) (g : Nat) : W (n + 1) 14 ls st μ g = (sCallV 1 5 (fun as μ K => Ct l mdX5_fails as μ K X) 17 0 0) (W n) ls st μ g := (hW n 14 ls st μ g).trans rfl
theorem tX5_stateOf_17 (l : Launch) (K : aRs) (X : aXs) : tb (tbX5_stateOf l K X) 17 = sIf pEq 25 20 := (rfl)
theorem wX5_stateOf_17 {l : Launch} {K : aRs} {X : aXs} {J : aK} {W : Nat → aK} (hW : isW (tbX5_stateOf l K X) cuX5_stateOf J W) (n : Nat) (ls st : List aV) (μ : aM) (g : Nat) : W (n + 1) 17 ls st μ g = J 17 ls st μ g := (hW n 17 ls st μ g).trans rfl
theorem wX5_stateOf_20 {l : Launch} {K : aRs} {X : aXs} {J : aK} {W : Nat → aK} (hW : isW (tbX5_stateOf l K X) cuX5_stateOf J W) (n : Nat) (ls st : List aV) (μ : aM) (g : Nat) : W (n + 1) 20 ls st μ g = (sPush (aI 97) 22) (W n) ls st μ g := (hW n 20 ls st μ g).trans rfl
theorem wX5_stateOf_22 {l : Launch} {K : aRs} {X : aXs} {J : aK} {W : Nat → aK} (hW : isW (tbX5_stateOf l K X) cuX5_stateOf J W) (n : Nat) (ls st : List aV) (μ : aM) (g : Nat) : W (n + 1) 22 ls st μ g = (sGoto 31) (W n) ls st μ g := (hW n 22 ls st μ g).trans rfl
theorem wX5_stateOf_25 {l : Launch} {K : aRs} {X : aXs} {J : aK} {W : Nat → aK} (hW : isW (tbX5_stateOf l K X) cuX5_stateOf J W) (n : Nat) (ls st : List aV) (μ : aM) (g : Nat) : W (n + 1) 25 ls st μ g = (sLd 0 26 isR) (W n) ls st μ g := (hW n 25 ls st μ g).trans rfl
theorem wX5_stateOf_26 {l : Launch} {K : aRs} {X : aXs} {J : aK} {W : Nat → aK} (hW : isW (tbX5_stateOf l K X) cuX5_stateOf J W) (n : Nat) (ls st : List aV) (μ : aM) (g : Nat) : W (n + 1) 26 ls st μ g = (sGetR 5 2 29) (W n) ls st μ g := (hW n 26 ls st μ g).trans rfl
theorem wX5_stateOf_29 {l : Launch} {K : aRs} {X : aXs} {J : aK} {W : Nat → aK} (hW : isW (tbX5_stateOf l K X) cuX5_stateOf J W) (n : Nat) (ls st : List aV) (μ : aM) (g : Nat) : W (n + 1) 29 ls st μ g = (sLd 1 30 isI) (W n) ls st μ g := (hW n 29 ls st μ g).trans rfl
theorem wX5_stateOf_30 {l : Launch} {K : aRs} {X : aXs} {J : aK} {W : Nat → aK} (hW : isW (tbX5_stateOf l K X) cuX5_stateOf J W) (n : Nat) (ls st : List aV) (μ : aM) (g : Nat) : W (n + 1) 30 ls st μ g = (sAldI 6 31) (W n) ls st μ g := (hW n 30 ls st μ g).trans rfl
theorem wX5_stateOf_31 {l : Launch} {K : aRs} {X : aXs} {J : aK} {W : Nat → aK} (hW : isW (tbX5_stateOf l K X) cuX5_stateOf J W) (n : Nat) (ls st : List aV) (μ : aM) (g : Nat) : W (n + 1) 31 ls st μ g = (sRetI .char 0 K) (W n) ls st μ g := (hW n 31 ls st μ g).trans rfl
theorem dX5_leftOf_0 : decode cX5_leftOf 0 = .ok (.aload_n 0, 1) := by decide +kernel
theorem dX5_leftOf_1 : decode cX5_leftOf 1 = .ok (.aload_n 0, 1) := by decide +kernel
theorem dX5_leftOf_2 : decode cX5_leftOf 2 = .ok (.iload_n 1, 1) := by decide +kernel
theorem dX5_leftOf_3 : decode cX5_leftOf 3 = .ok (.invokevirtual 158, 3) := by decide +kernel
theorem dX5_leftOf_6 : decode cX5_leftOf 6 = .ok (.ifCond .eq 7, 3) := by decide +kernel
theorem dX5_leftOf_9 : decode cX5_leftOf 9 = .ok (.iconst 1, 1) := by decide +kernel
theorem dX5_leftOf_10 : decode cX5_leftOf 10 = .ok (.goto 4, 3) := by decide +kernel
theorem dX5_leftOf_13 : decode cX5_leftOf 13 = .ok (.iconst 0, 1) := by decide +kernel
theorem dX5_leftOf_14 : decode cX5_leftOf 14 = .ok (.invokevirtual 148, 3) := by decide +kernel
theorem dX5_leftOf_17 : decode cX5_leftOf 17 = .ok (.ifCond .eq 7, 3) := by decide +kernel
theorem dX5_leftOf_20 : decode cX5_leftOf 20 = .ok (.iconst 0, 1) := by decide +kernel
theorem dX5_leftOf_21 : decode cX5_leftOf 21 = .ok (.goto 9, 3) := by decide +kernel
theorem dX5_leftOf_24 : decode cX5_leftOf 24 = .ok (.aload_n 0, 1) := by decide +kernel
theorem dX5_leftOf_25 : decode cX5_leftOf 25 = .ok (.getfield 29, 3) := by decide +kernel
theorem dX5_leftOf_28 : decode cX5_leftOf 28 = .ok (.iload_n 1, 1) := by decide +kernel
theorem dX5_leftOf_29 : decode cX5_leftOf 29 = .ok (.iaload, 1) := by decide +kernel
theorem dX5_leftOf_30 : decode cX5_leftOf 30 = .ok (.ireturn, 1) := by decide +kernel
def tbX5_leftOf (l : Launch) (K : aRs) (X : aXs) : aTb := [
  (0, sLd 0 1 isR),
  (1, sLd 0 2 isR),
  (2, sLd 1 3 isI),
  (3, sCallV 1 5 (fun as μ K => Ct l mdX5_isNone as μ K X) 6 0 0),
  (6, sIf pEq 13 9),
  (9, sPush (aI 1) 10),
  (10, sGoto 14),
  (13, sPush (aI 0) 14),
  (14, sCallV 1 5 (fun as μ K => Ct l mdX5_fails as μ K X) 17 0 0),
  (17, sIf pEq 24 20),
  (20, sPush (aI 0) 21),
  (21, sGoto 30),
  (24, sLd 0 25 isR),
  (25, sGetR 5 7 28),
  (28, sLd 1 29 isI),
  (29, sAldI 7 30),
  (30, sRetI .int 0 K)]
theorem snX5_leftOf (l : Launch) (K : aRs) (X : aXs) (n0 : Nat) : ∀ q ∈ tbX5_leftOf l K X, aSo l mdX5_leftOf K X n0 q.1 q.2 :=
  tc (fun p e s m args below meth c cA D A ad0 h => ok_aload_n h.1 0 rfl dX5_leftOf_0) <|
  tc (fun p e s m args below meth c cA D A ad0 h => ok_aload_n h.1 0 rfl dX5_leftOf_1) <|
  tc (fun p e s m args below meth c cA D A ad0 h => ok_iload_n h.1 1 rfl dX5_leftOf_2) <|
  tc (fun p e s m args below meth c cA D A ad0 h => ok_callV h.1 h.2.1 ⟨Nat.le_refl _, Nat.le_refl _⟩ mdX5_isNone siX5_isNone cxX5 mkRX5_158 imX5_isNone seX5_isNone ⟨by decide, by decide⟩ (aAx_out h.1 h.2.2.1 _) dX5_leftOf_3) <|
  tc (fun p e s m args below meth c cA D A ad0 h => ok_if_eq h.1 13 (by decide) dX5_leftOf_6) <|
  tc (fun p e s m args below meth c cA D A ad0 h => ok_iconst h.1 ⟨by decide, by decide⟩ dX5_leftOf_9) <|
  tc (fun p e s m args below meth c cA D A ad0 h => ok_goto h.1 14 (by decide) dX5_leftOf_10) <|
  tc (fun p e s m args below meth c cA D A ad0 h => ok_iconst h.1 ⟨by decide, by decide⟩ dX5_leftOf_13) <|
  tc (fun p e s m args below meth c cA D A ad0 h => ok_callV h.1 h.2.1 ⟨Nat.le_refl _, Nat.le_refl _⟩ mdX5_fails siX5_fails cxX5 mkRX5_148 imX5_fails seX5_fails ⟨by decide, by decide⟩ (aAx_out h.1 h.2.2.1 _) dX5_leftOf_14) <|
  tc (fun p e s m args below meth c cA D A ad0 h => ok_if_eq h.1 24 (by decide) dX5_leftOf_17) <|
  tc (fun p e s m args below meth c cA D A ad0 h => ok_iconst h.1 ⟨by decide, by decide⟩ dX5_leftOf_20) <|
  tc (fun p e s m args below meth c cA D A ad0 h => ok_goto h.1 30 (by decide) dX5_leftOf_21) <|
  tc (fun p e s m args below meth c cA D A ad0 h => ok_aload_n h.1 0 rfl dX5_leftOf_24) <|
  tc (fun p e s m args below meth c cA D A ad0 h => ok_getR h.1 cxX5 (by decide) rfl fkRX5_29 (fun _ _ _ => rfl) dX5_leftOf_25) <|
  tc (fun p e s m args below meth c cA D A ad0 h => ok_iload_n h.1 1 rfl dX5_leftOf_28) <|
  tc (fun p e s m args below meth c cA D A ad0 h => ok_iald h.1 dX5_leftOf_29) <|
  tc (fun p e s m args below meth c cA D A ad0 h => ok_ireturn h.1 h.2.2.2.1 (Or.inl rfl) dX5_leftOf_30) <|
  tn
abbrev cuX5_leftOf : List Nat := [6, 17]
theorem tX5_leftOf_0 (l : Launch) (K : aRs) (X : aXs) : tb (tbX5_leftOf l K X) 0 = sLd 0 1 isR := (rfl)
theorem wX5_leftOf_0 {l : Launch} {K : aRs} {X : aXs} {J : aK} {W : Nat → aK} (hW : isW (tbX5_leftOf l K X) cuX5_leftOf J W) (n : Nat) (ls st : List aV) (μ : aM) (g : Nat) : W (n + 1) 0 ls st μ g = (sLd 0 1 isR) (W n) ls st μ g := (hW n 0 ls st μ g).trans rfl
theorem wX5_leftOf_1 {l : Launch} {K : aRs} {X : aXs} {J : aK} {W : Nat → aK} (hW : isW (tbX5_leftOf l K X) cuX5_leftOf J W) (n : Nat) (ls st : List aV) (μ : aM) (g : Nat) : W (n + 1) 1 ls st μ g = (sLd 0 2 isR) (W n) ls st μ g := (hW n 1 ls st μ g).trans rfl
theorem wX5_leftOf_2 {l : Launch} {K : aRs} {X : aXs} {J : aK} {W : Nat → aK} (hW : isW (tbX5_leftOf l K X) cuX5_leftOf J W) (n : Nat) (ls st : List aV) (μ : aM) (g : Nat) : W (n + 1) 2 ls st μ g = (sLd 1 3 isI) (W n) ls st μ g := (hW n 2 ls st μ g).trans rfl
theorem wX5_leftOf_3 {l : Launch} {K : aRs} {X : aXs} {J : aK} {W : Nat → aK} (hW : isW (tbX5_leftOf l K X) cuX5_leftOf J W) (n : Nat) (ls st : List aV) (μ : aM) (g : Nat) : W (n + 1) 3 ls st μ g = (sCallV 1 5 (fun as μ K => Ct l mdX5_isNone as μ K X) 6 0 0) (W n) ls st μ g := (hW n 3 ls st μ g).trans rfl
theorem tX5_leftOf_6 (l : Launch) (K : aRs) (X : aXs) : tb (tbX5_leftOf l K X) 6 = sIf pEq 13 9 := (rfl)
theorem wX5_leftOf_6 {l : Launch} {K : aRs} {X : aXs} {J : aK} {W : Nat → aK} (hW : isW (tbX5_leftOf l K X) cuX5_leftOf J W) (n : Nat) (ls st : List aV) (μ : aM) (g : Nat) : W (n + 1) 6 ls st μ g = J 6 ls st μ g := (hW n 6 ls st μ g).trans rfl
theorem wX5_leftOf_9 {l : Launch} {K : aRs} {X : aXs} {J : aK} {W : Nat → aK} (hW : isW (tbX5_leftOf l K X) cuX5_leftOf J W) (n : Nat) (ls st : List aV) (μ : aM) (g : Nat) : W (n + 1) 9 ls st μ g = (sPush (aI 1) 10) (W n) ls st μ g := (hW n 9 ls st μ g).trans rfl
theorem wX5_leftOf_10 {l : Launch} {K : aRs} {X : aXs} {J : aK} {W : Nat → aK} (hW : isW (tbX5_leftOf l K X) cuX5_leftOf J W) (n : Nat) (ls st : List aV) (μ : aM) (g : Nat) : W (n + 1) 10 ls st μ g = (sGoto 14) (W n) ls st μ g := (hW n 10 ls st μ g).trans rfl
theorem wX5_leftOf_13 {l : Launch} {K : aRs} {X : aXs} {J : aK} {W : Nat → aK} (hW : isW (tbX5_leftOf l K X) cuX5_leftOf J W) (n : Nat) (ls st : List aV) (μ : aM) (g : Nat) : W (n + 1) 13 ls st μ g = (sPush (aI 0) 14) (W n) ls st μ g := (hW n 13 ls st μ g).trans rfl
theorem wX5_leftOf_14 {l : Launch} {K : aRs} {X : aXs} {J : aK} {W : Nat → aK} (hW : isW (tbX5_leftOf l K X) cuX5_leftOf J W) (n : Nat) (ls st : List aV) (μ : aM) (g : Nat) : W (n + 1) 14 ls st μ g = (sCallV 1 5 (fun as μ K => Ct l mdX5_fails as μ K X) 17 0 0) (W n) ls st μ g := (hW n 14 ls st μ g).trans rfl
theorem tX5_leftOf_17 (l : Launch) (K : aRs) (X : aXs) : tb (tbX5_leftOf l K X) 17 = sIf pEq 24 20 := (rfl)
theorem wX5_leftOf_17 {l : Launch} {K : aRs} {X : aXs} {J : aK} {W : Nat → aK} (hW : isW (tbX5_leftOf l K X) cuX5_leftOf J W) (n : Nat) (ls st : List aV) (μ : aM) (g : Nat) : W (n + 1) 17 ls st μ g = J 17 ls st μ g := (hW n 17 ls st μ g).trans rfl
theorem wX5_leftOf_20 {l : Launch} {K : aRs} {X : aXs} {J : aK} {W : Nat → aK} (hW : isW (tbX5_leftOf l K X) cuX5_leftOf J W) (n : Nat) (ls st : List aV) (μ : aM) (g : Nat) : W (n + 1) 20 ls st μ g = (sPush (aI 0) 21) (W n) ls st μ g := (hW n 20 ls st μ g).trans rfl
theorem wX5_leftOf_21 {l : Launch} {K : aRs} {X : aXs} {J : aK} {W : Nat → aK} (hW : isW (tbX5_leftOf l K X) cuX5_leftOf J W) (n : Nat) (ls st : List aV) (μ : aM) (g : Nat) : W (n + 1) 21 ls st μ g = (sGoto 30) (W n) ls st μ g := (hW n 21 ls st μ g).trans rfl
theorem wX5_leftOf_24 {l : Launch} {K : aRs} {X : aXs} {J : aK} {W : Nat → aK} (hW : isW (tbX5_leftOf l K X) cuX5_leftOf J W) (n : Nat) (ls st : List aV) (μ : aM) (g : Nat) : W (n + 1) 24 ls st μ g = (sLd 0 25 isR) (W n) ls st μ g := (hW n 24 ls st μ g).trans rfl
theorem wX5_leftOf_25 {l : Launch} {K : aRs} {X : aXs} {J : aK} {W : Nat → aK} (hW : isW (tbX5_leftOf l K X) cuX5_leftOf J W) (n : Nat) (ls st : List aV) (μ : aM) (g : Nat) : W (n + 1) 25 ls st μ g = (sGetR 5 7 28) (W n) ls st μ g := (hW n 25 ls st μ g).trans rfl
theorem wX5_leftOf_28 {l : Launch} {K : aRs} {X : aXs} {J : aK} {W : Nat → aK} (hW : isW (tbX5_leftOf l K X) cuX5_leftOf J W) (n : Nat) (ls st : List aV) (μ : aM) (g : Nat) : W (n + 1) 28 ls st μ g = (sLd 1 29 isI) (W n) ls st μ g := (hW n 28 ls st μ g).trans rfl
theorem wX5_leftOf_29 {l : Launch} {K : aRs} {X : aXs} {J : aK} {W : Nat → aK} (hW : isW (tbX5_leftOf l K X) cuX5_leftOf J W) (n : Nat) (ls st : List aV) (μ : aM) (g : Nat) : W (n + 1) 29 ls st μ g = (sAldI 7 30) (W n) ls st μ g := (hW n 29 ls st μ g).trans rfl
theorem wX5_leftOf_30 {l : Launch} {K : aRs} {X : aXs} {J : aK} {W : Nat → aK} (hW : isW (tbX5_leftOf l K X) cuX5_leftOf J W) (n : Nat) (ls st : List aV) (μ : aM) (g : Nat) : W (n + 1) 30 ls st μ g = (sRetI .int 0 K) (W n) ls st μ g := (hW n 30 ls st μ g).trans rfl
theorem dX5_shownOf_0 : decode cX5_shownOf 0 = .ok (.aload_n 0, 1) := by decide +kernel
theorem dX5_shownOf_1 : decode cX5_shownOf 1 = .ok (.aload_n 0, 1) := by decide +kernel
theorem dX5_shownOf_2 : decode cX5_shownOf 2 = .ok (.iload_n 1, 1) := by decide +kernel
theorem dX5_shownOf_3 : decode cX5_shownOf 3 = .ok (.invokevirtual 158, 3) := by decide +kernel
theorem dX5_shownOf_6 : decode cX5_shownOf 6 = .ok (.ifCond .eq 7, 3) := by decide +kernel
theorem dX5_shownOf_9 : decode cX5_shownOf 9 = .ok (.iconst 1, 1) := by decide +kernel
theorem dX5_shownOf_10 : decode cX5_shownOf 10 = .ok (.goto 19, 3) := by decide +kernel
theorem dX5_shownOf_13 : decode cX5_shownOf 13 = .ok (.aload_n 0, 1) := by decide +kernel
theorem dX5_shownOf_14 : decode cX5_shownOf 14 = .ok (.getfield 13, 3) := by decide +kernel
theorem dX5_shownOf_17 : decode cX5_shownOf 17 = .ok (.iload_n 1, 1) := by decide +kernel
theorem dX5_shownOf_18 : decode cX5_shownOf 18 = .ok (.caload, 1) := by decide +kernel
theorem dX5_shownOf_19 : decode cX5_shownOf 19 = .ok (.bipush 97, 2) := by decide +kernel
theorem dX5_shownOf_21 : decode cX5_shownOf 21 = .ok (.if_icmp .eq 7, 3) := by decide +kernel
theorem dX5_shownOf_24 : decode cX5_shownOf 24 = .ok (.iconst 2, 1) := by decide +kernel
theorem dX5_shownOf_25 : decode cX5_shownOf 25 = .ok (.goto 4, 3) := by decide +kernel
theorem dX5_shownOf_28 : decode cX5_shownOf 28 = .ok (.iconst 0, 1) := by decide +kernel
theorem dX5_shownOf_29 : decode cX5_shownOf 29 = .ok (.invokevirtual 148, 3) := by decide +kernel
theorem dX5_shownOf_32 : decode cX5_shownOf 32 = .ok (.ifCond .eq 7, 3) := by decide +kernel
theorem dX5_shownOf_35 : decode cX5_shownOf 35 = .ok (.iconst 0, 1) := by decide +kernel
theorem dX5_shownOf_36 : decode cX5_shownOf 36 = .ok (.goto 9, 3) := by decide +kernel
theorem dX5_shownOf_39 : decode cX5_shownOf 39 = .ok (.aload_n 0, 1) := by decide +kernel
theorem dX5_shownOf_40 : decode cX5_shownOf 40 = .ok (.getfield 38, 3) := by decide +kernel
theorem dX5_shownOf_43 : decode cX5_shownOf 43 = .ok (.iload_n 1, 1) := by decide +kernel
theorem dX5_shownOf_44 : decode cX5_shownOf 44 = .ok (.iaload, 1) := by decide +kernel
theorem dX5_shownOf_45 : decode cX5_shownOf 45 = .ok (.ireturn, 1) := by decide +kernel
def tbX5_shownOf (l : Launch) (K : aRs) (X : aXs) : aTb := [
  (0, sLd 0 1 isR),
  (1, sLd 0 2 isR),
  (2, sLd 1 3 isI),
  (3, sCallV 1 5 (fun as μ K => Ct l mdX5_isNone as μ K X) 6 0 0),
  (6, sIf pEq 13 9),
  (9, sPush (aI 1) 10),
  (10, sGoto 29),
  (13, sLd 0 14 isR),
  (14, sGetR 5 2 17),
  (17, sLd 1 18 isI),
  (18, sAldI 6 19),
  (19, sPush (aI 97) 21),
  (21, sIc qEq 28 24),
  (24, sPush (aI 2) 25),
  (25, sGoto 29),
  (28, sPush (aI 0) 29),
  (29, sCallV 1 5 (fun as μ K => Ct l mdX5_fails as μ K X) 32 0 0),
  (32, sIf pEq 39 35),
  (35, sPush (aI 0) 36),
  (36, sGoto 45),
  (39, sLd 0 40 isR),
  (40, sGetR 5 10 43),
  (43, sLd 1 44 isI),
  (44, sAldI 7 45),
  (45, sRetI .int 0 K)]
theorem snX5_shownOf (l : Launch) (K : aRs) (X : aXs) (n0 : Nat) : ∀ q ∈ tbX5_shownOf l K X, aSo l mdX5_shownOf K X n0 q.1 q.2 :=
  tc (fun p e s m args below meth c cA D A ad0 h => ok_aload_n h.1 0 rfl dX5_shownOf_0) <|
  tc (fun p e s m args below meth c cA D A ad0 h => ok_aload_n h.1 0 rfl dX5_shownOf_1) <|
  tc (fun p e s m args below meth c cA D A ad0 h => ok_iload_n h.1 1 rfl dX5_shownOf_2) <|
  tc (fun p e s m args below meth c cA D A ad0 h => ok_callV h.1 h.2.1 ⟨Nat.le_refl _, Nat.le_refl _⟩ mdX5_isNone siX5_isNone cxX5 mkRX5_158 imX5_isNone seX5_isNone ⟨by decide, by decide⟩ (aAx_out h.1 h.2.2.1 _) dX5_shownOf_3) <|
  tc (fun p e s m args below meth c cA D A ad0 h => ok_if_eq h.1 13 (by decide) dX5_shownOf_6) <|
  tc (fun p e s m args below meth c cA D A ad0 h => ok_iconst h.1 ⟨by decide, by decide⟩ dX5_shownOf_9) <|
  tc (fun p e s m args below meth c cA D A ad0 h => ok_goto h.1 29 (by decide) dX5_shownOf_10) <|
  tc (fun p e s m args below meth c cA D A ad0 h => ok_aload_n h.1 0 rfl dX5_shownOf_13) <|
  tc (fun p e s m args below meth c cA D A ad0 h => ok_getR h.1 cxX5 (by decide) rfl fkRX5_13 (fun _ _ _ => rfl) dX5_shownOf_14) <|
  tc (fun p e s m args below meth c cA D A ad0 h => ok_iload_n h.1 1 rfl dX5_shownOf_17) <|
  tc (fun p e s m args below meth c cA D A ad0 h => ok_cald h.1 dX5_shownOf_18) <|
  tc (fun p e s m args below meth c cA D A ad0 h => ok_bipush h.1 ⟨by decide, by decide⟩ (by decide) dX5_shownOf_19) <|
  tc (fun p e s m args below meth c cA D A ad0 h => ok_icmp_eq h.1 28 (by decide) dX5_shownOf_21) <|
  tc (fun p e s m args below meth c cA D A ad0 h => ok_iconst h.1 ⟨by decide, by decide⟩ dX5_shownOf_24) <|
  tc (fun p e s m args below meth c cA D A ad0 h => ok_goto h.1 29 (by decide) dX5_shownOf_25) <|
  tc (fun p e s m args below meth c cA D A ad0 h => ok_iconst h.1 ⟨by decide, by decide⟩ dX5_shownOf_28) <|
  tc (fun p e s m args below meth c cA D A ad0 h => ok_callV h.1 h.2.1 ⟨Nat.le_refl _, Nat.le_refl _⟩ mdX5_fails siX5_fails cxX5 mkRX5_148 imX5_fails seX5_fails ⟨by decide, by decide⟩ (aAx_out h.1 h.2.2.1 _) dX5_shownOf_29) <|
  tc (fun p e s m args below meth c cA D A ad0 h => ok_if_eq h.1 39 (by decide) dX5_shownOf_32) <|
  tc (fun p e s m args below meth c cA D A ad0 h => ok_iconst h.1 ⟨by decide, by decide⟩ dX5_shownOf_35) <|
  tc (fun p e s m args below meth c cA D A ad0 h => ok_goto h.1 45 (by decide) dX5_shownOf_36) <|
  tc (fun p e s m args below meth c cA D A ad0 h => ok_aload_n h.1 0 rfl dX5_shownOf_39) <|
  tc (fun p e s m args below meth c cA D A ad0 h => ok_getR h.1 cxX5 (by decide) rfl fkRX5_38 (fun _ _ _ => rfl) dX5_shownOf_40) <|
  tc (fun p e s m args below meth c cA D A ad0 h => ok_iload_n h.1 1 rfl dX5_shownOf_43) <|
  tc (fun p e s m args below meth c cA D A ad0 h => ok_iald h.1 dX5_shownOf_44) <|
  tc (fun p e s m args below meth c cA D A ad0 h => ok_ireturn h.1 h.2.2.2.1 (Or.inl rfl) dX5_shownOf_45) <|
  tn
abbrev cuX5_shownOf : List Nat := [6, 32]
theorem tX5_shownOf_0 (l : Launch) (K : aRs) (X : aXs) : tb (tbX5_shownOf l K X) 0 = sLd 0 1 isR := (rfl)
theorem wX5_shownOf_0 {l : Launch} {K : aRs} {X : aXs} {J : aK} {W : Nat → aK} (hW : isW (tbX5_shownOf l K X) cuX5_shownOf J W) (n : Nat) (ls st : List aV) (μ : aM) (g : Nat) : W (n + 1) 0 ls st μ g = (sLd 0 1 isR) (W n) ls st μ g := (hW n 0 ls st μ g).trans rfl
theorem wX5_shownOf_1 {l : Launch} {K : aRs} {X : aXs} {J : aK} {W : Nat → aK} (hW : isW (tbX5_shownOf l K X) cuX5_shownOf J W) (n : Nat) (ls st : List aV) (μ : aM) (g : Nat) : W (n + 1) 1 ls st μ g = (sLd 0 2 isR) (W n) ls st μ g := (hW n 1 ls st μ g).trans rfl
theorem wX5_shownOf_2 {l : Launch} {K : aRs} {X : aXs} {J : aK} {W : Nat → aK} (hW : isW (tbX5_shownOf l K X) cuX5_shownOf J W) (n : Nat) (ls st : List aV) (μ : aM) (g : Nat) : W (n + 1) 2 ls st μ g = (sLd 1 3 isI) (W n) ls st μ g := (hW n 2 ls st μ g).trans rfl
theorem wX5_shownOf_3 {l : Launch} {K : aRs} {X : aXs} {J : aK} {W : Nat → aK} (hW : isW (tbX5_shownOf l K X) cuX5_shownOf J W) (n : Nat) (ls st : List aV) (μ : aM) (g : Nat) : W (n + 1) 3 ls st μ g = (sCallV 1 5 (fun as μ K => Ct l mdX5_isNone as μ K X) 6 0 0) (W n) ls st μ g := (hW n 3 ls st μ g).trans rfl
theorem tX5_shownOf_6 (l : Launch) (K : aRs) (X : aXs) : tb (tbX5_shownOf l K X) 6 = sIf pEq 13 9 := (rfl)
theorem wX5_shownOf_6 {l : Launch} {K : aRs} {X : aXs} {J : aK} {W : Nat → aK} (hW : isW (tbX5_shownOf l K X) cuX5_shownOf J W) (n : Nat) (ls st : List aV) (μ : aM) (g : Nat) : W (n + 1) 6 ls st μ g = J 6 ls st μ g := (hW n 6 ls st μ g).trans rfl
theorem wX5_shownOf_9 {l : Launch} {K : aRs} {X : aXs} {J : aK} {W : Nat → aK} (hW : isW (tbX5_shownOf l K X) cuX5_shownOf J W) (n : Nat) (ls st : List aV) (μ : aM) (g : Nat) : W (n + 1) 9 ls st μ g = (sPush (aI 1) 10) (W n) ls st μ g := (hW n 9 ls st μ g).trans rfl
theorem wX5_shownOf_10 {l : Launch} {K : aRs} {X : aXs} {J : aK} {W : Nat → aK} (hW : isW (tbX5_shownOf l K X) cuX5_shownOf J W) (n : Nat) (ls st : List aV) (μ : aM) (g : Nat) : W (n + 1) 10 ls st μ g = (sGoto 29) (W n) ls st μ g := (hW n 10 ls st μ g).trans rfl
theorem wX5_shownOf_13 {l : Launch} {K : aRs} {X : aXs} {J : aK} {W : Nat → aK} (hW : isW (tbX5_shownOf l K X) cuX5_shownOf J W) (n : Nat) (ls st : List aV) (μ : aM) (g : Nat) : W (n + 1) 13 ls st μ g = (sLd 0 14 isR) (W n) ls st μ g := (hW n 13 ls st μ g).trans rfl
theorem wX5_shownOf_14 {l : Launch} {K : aRs} {X : aXs} {J : aK} {W : Nat → aK} (hW : isW (tbX5_shownOf l K X) cuX5_shownOf J W) (n : Nat) (ls st : List aV) (μ : aM) (g : Nat) : W (n + 1) 14 ls st μ g = (sGetR 5 2 17) (W n) ls st μ g := (hW n 14 ls st μ g).trans rfl
theorem wX5_shownOf_17 {l : Launch} {K : aRs} {X : aXs} {J : aK} {W : Nat → aK} (hW : isW (tbX5_shownOf l K X) cuX5_shownOf J W) (n : Nat) (ls st : List aV) (μ : aM) (g : Nat) : W (n + 1) 17 ls st μ g = (sLd 1 18 isI) (W n) ls st μ g := (hW n 17 ls st μ g).trans rfl
theorem wX5_shownOf_18 {l : Launch} {K : aRs} {X : aXs} {J : aK} {W : Nat → aK} (hW : isW (tbX5_shownOf l K X) cuX5_shownOf J W) (n : Nat) (ls st : List aV) (μ : aM) (g : Nat) : W (n + 1) 18 ls st μ g = (sAldI 6 19) (W n) ls st μ g := (hW n 18 ls st μ g).trans rfl
theorem wX5_shownOf_19 {l : Launch} {K : aRs} {X : aXs} {J : aK} {W : Nat → aK} (hW : isW (tbX5_shownOf l K X) cuX5_shownOf J W) (n : Nat) (ls st : List aV) (μ : aM) (g : Nat) : W (n + 1) 19 ls st μ g = (sPush (aI 97) 21) (W n) ls st μ g := (hW n 19 ls st μ g).trans rfl
theorem wX5_shownOf_21 {l : Launch} {K : aRs} {X : aXs} {J : aK} {W : Nat → aK} (hW : isW (tbX5_shownOf l K X) cuX5_shownOf J W) (n : Nat) (ls st : List aV) (μ : aM) (g : Nat) : W (n + 1) 21 ls st μ g = (sIc qEq 28 24) (W n) ls st μ g := (hW n 21 ls st μ g).trans rfl
theorem wX5_shownOf_24 {l : Launch} {K : aRs} {X : aXs} {J : aK} {W : Nat → aK} (hW : isW (tbX5_shownOf l K X) cuX5_shownOf J W) (n : Nat) (ls st : List aV) (μ : aM) (g : Nat) : W (n + 1) 24 ls st μ g = (sPush (aI 2) 25) (W n) ls st μ g := (hW n 24 ls st μ g).trans rfl
theorem wX5_shownOf_25 {l : Launch} {K : aRs} {X : aXs} {J : aK} {W : Nat → aK} (hW : isW (tbX5_shownOf l K X) cuX5_shownOf J W) (n : Nat) (ls st : List aV) (μ : aM) (g : Nat) : W (n + 1) 25 ls st μ g = (sGoto 29) (W n) ls st μ g := (hW n 25 ls st μ g).trans rfl
theorem wX5_shownOf_28 {l : Launch} {K : aRs} {X : aXs} {J : aK} {W : Nat → aK} (hW : isW (tbX5_shownOf l K X) cuX5_shownOf J W) (n : Nat) (ls st : List aV) (μ : aM) (g : Nat) : W (n + 1) 28 ls st μ g = (sPush (aI 0) 29) (W n) ls st μ g := (hW n 28 ls st μ g).trans rfl
theorem wX5_shownOf_29 {l : Launch} {K : aRs} {X : aXs} {J : aK} {W : Nat → aK} (hW : isW (tbX5_shownOf l K X) cuX5_shownOf J W) (n : Nat) (ls st : List aV) (μ : aM) (g : Nat) : W (n + 1) 29 ls st μ g = (sCallV 1 5 (fun as μ K => Ct l mdX5_fails as μ K X) 32 0 0) (W n) ls st μ g := (hW n 29 ls st μ g).trans rfl
theorem tX5_shownOf_32 (l : Launch) (K : aRs) (X : aXs) : tb (tbX5_shownOf l K X) 32 = sIf pEq 39 35 := (rfl)
theorem wX5_shownOf_32 {l : Launch} {K : aRs} {X : aXs} {J : aK} {W : Nat → aK} (hW : isW (tbX5_shownOf l K X) cuX5_shownOf J W) (n : Nat) (ls st : List aV) (μ : aM) (g : Nat) : W (n + 1) 32 ls st μ g = J 32 ls st μ g := (hW n 32 ls st μ g).trans rfl
theorem wX5_shownOf_35 {l : Launch} {K : aRs} {X : aXs} {J : aK} {W : Nat → aK} (hW : isW (tbX5_shownOf l K X) cuX5_shownOf J W) (n : Nat) (ls st : List aV) (μ : aM) (g : Nat) : W (n + 1) 35 ls st μ g = (sPush (aI 0) 36) (W n) ls st μ g := (hW n 35 ls st μ g).trans rfl
theorem wX5_shownOf_36 {l : Launch} {K : aRs} {X : aXs} {J : aK} {W : Nat → aK} (hW : isW (tbX5_shownOf l K X) cuX5_shownOf J W) (n : Nat) (ls st : List aV) (μ : aM) (g : Nat) : W (n + 1) 36 ls st μ g = (sGoto 45) (W n) ls st μ g := (hW n 36 ls st μ g).trans rfl
theorem wX5_shownOf_39 {l : Launch} {K : aRs} {X : aXs} {J : aK} {W : Nat → aK} (hW : isW (tbX5_shownOf l K X) cuX5_shownOf J W) (n : Nat) (ls st : List aV) (μ : aM) (g : Nat) : W (n + 1) 39 ls st μ g = (sLd 0 40 isR) (W n) ls st μ g := (hW n 39 ls st μ g).trans rfl
theorem wX5_shownOf_40 {l : Launch} {K : aRs} {X : aXs} {J : aK} {W : Nat → aK} (hW : isW (tbX5_shownOf l K X) cuX5_shownOf J W) (n : Nat) (ls st : List aV) (μ : aM) (g : Nat) : W (n + 1) 40 ls st μ g = (sGetR 5 10 43) (W n) ls st μ g := (hW n 40 ls st μ g).trans rfl
theorem wX5_shownOf_43 {l : Launch} {K : aRs} {X : aXs} {J : aK} {W : Nat → aK} (hW : isW (tbX5_shownOf l K X) cuX5_shownOf J W) (n : Nat) (ls st : List aV) (μ : aM) (g : Nat) : W (n + 1) 43 ls st μ g = (sLd 1 44 isI) (W n) ls st μ g := (hW n 43 ls st μ g).trans rfl
theorem wX5_shownOf_44 {l : Launch} {K : aRs} {X : aXs} {J : aK} {W : Nat → aK} (hW : isW (tbX5_shownOf l K X) cuX5_shownOf J W) (n : Nat) (ls st : List aV) (μ : aM) (g : Nat) : W (n + 1) 44 ls st μ g = (sAldI 7 45) (W n) ls st μ g := (hW n 44 ls st μ g).trans rfl
theorem wX5_shownOf_45 {l : Launch} {K : aRs} {X : aXs} {J : aK} {W : Nat → aK} (hW : isW (tbX5_shownOf l K X) cuX5_shownOf J W) (n : Nat) (ls st : List aV) (μ : aM) (g : Nat) : W (n + 1) 45 ls st μ g = (sRetI .int 0 K) (W n) ls st μ g := (hW n 45 ls st μ g).trans rfl
theorem dX5_filledShare_0 : decode cX5_filledShare 0 = .ok (.aload_n 0, 1) := by decide +kernel
theorem dX5_filledShare_1 : decode cX5_filledShare 1 = .ok (.aload_n 0, 1) := by decide +kernel
theorem dX5_filledShare_2 : decode cX5_filledShare 2 = .ok (.iload_n 1, 1) := by decide +kernel
theorem dX5_filledShare_3 : decode cX5_filledShare 3 = .ok (.invokevirtual 158, 3) := by decide +kernel
theorem dX5_filledShare_6 : decode cX5_filledShare 6 = .ok (.ifCond .eq 7, 3) := by decide +kernel
theorem dX5_filledShare_9 : decode cX5_filledShare 9 = .ok (.iconst 1, 1) := by decide +kernel
theorem dX5_filledShare_10 : decode cX5_filledShare 10 = .ok (.goto 4, 3) := by decide +kernel
theorem dX5_filledShare_13 : decode cX5_filledShare 13 = .ok (.iconst 0, 1) := by decide +kernel
theorem dX5_filledShare_14 : decode cX5_filledShare 14 = .ok (.invokevirtual 148, 3) := by decide +kernel
theorem dX5_filledShare_17 : decode cX5_filledShare 17 = .ok (.ifCond .eq 7, 3) := by decide +kernel
theorem dX5_filledShare_20 : decode cX5_filledShare 20 = .ok (.fconst 0, 1) := by decide +kernel
theorem dX5_filledShare_21 : decode cX5_filledShare 21 = .ok (.goto 18, 3) := by decide +kernel
theorem dX5_filledShare_24 : decode cX5_filledShare 24 = .ok (.aload_n 0, 1) := by decide +kernel
theorem dX5_filledShare_25 : decode cX5_filledShare 25 = .ok (.getfield 32, 3) := by decide +kernel
theorem dX5_filledShare_28 : decode cX5_filledShare 28 = .ok (.iload_n 1, 1) := by decide +kernel
theorem dX5_filledShare_29 : decode cX5_filledShare 29 = .ok (.iaload, 1) := by decide +kernel
theorem dX5_filledShare_30 : decode cX5_filledShare 30 = .ok (.i2f, 1) := by decide +kernel
theorem dX5_filledShare_31 : decode cX5_filledShare 31 = .ok (.aload_n 0, 1) := by decide +kernel
theorem dX5_filledShare_32 : decode cX5_filledShare 32 = .ok (.getfield 26, 3) := by decide +kernel
theorem dX5_filledShare_35 : decode cX5_filledShare 35 = .ok (.iload_n 1, 1) := by decide +kernel
theorem dX5_filledShare_36 : decode cX5_filledShare 36 = .ok (.iaload, 1) := by decide +kernel
theorem dX5_filledShare_37 : decode cX5_filledShare 37 = .ok (.i2f, 1) := by decide +kernel
theorem dX5_filledShare_38 : decode cX5_filledShare 38 = .ok (.fdiv, 1) := by decide +kernel
theorem dX5_filledShare_39 : decode cX5_filledShare 39 = .ok (.freturn, 1) := by decide +kernel
def tbX5_filledShare (l : Launch) (K : aRs) (X : aXs) : aTb := [
  (0, sLd 0 1 isR),
  (1, sLd 0 2 isR),
  (2, sLd 1 3 isI),
  (3, sCallV 1 5 (fun as μ K => Ct l mdX5_isNone as μ K X) 6 0 0),
  (6, sIf pEq 13 9),
  (9, sPush (aI 1) 10),
  (10, sGoto 14),
  (13, sPush (aI 0) 14),
  (14, sCallV 1 5 (fun as μ K => Ct l mdX5_fails as μ K X) 17 0 0),
  (17, sIf pEq 24 20),
  (20, sPush (aF 0) 21),
  (21, sGoto 39),
  (24, sLd 0 25 isR),
  (25, sGetR 5 8 28),
  (28, sLd 1 29 isI),
  (29, sAldI 7 30),
  (30, sI2f 31),
  (31, sLd 0 32 isR),
  (32, sGetR 5 6 35),
  (35, sLd 1 36 isI),
  (36, sAldI 7 37),
  (37, sI2f 38),
  (38, sFdiv 39),
  (39, sRetF 0 K)]
theorem snX5_filledShare (l : Launch) (K : aRs) (X : aXs) (n0 : Nat) : ∀ q ∈ tbX5_filledShare l K X, aSo l mdX5_filledShare K X n0 q.1 q.2 :=
  tc (fun p e s m args below meth c cA D A ad0 h => ok_aload_n h.1 0 rfl dX5_filledShare_0) <|
  tc (fun p e s m args below meth c cA D A ad0 h => ok_aload_n h.1 0 rfl dX5_filledShare_1) <|
  tc (fun p e s m args below meth c cA D A ad0 h => ok_iload_n h.1 1 rfl dX5_filledShare_2) <|
  tc (fun p e s m args below meth c cA D A ad0 h => ok_callV h.1 h.2.1 ⟨Nat.le_refl _, Nat.le_refl _⟩ mdX5_isNone siX5_isNone cxX5 mkRX5_158 imX5_isNone seX5_isNone ⟨by decide, by decide⟩ (aAx_out h.1 h.2.2.1 _) dX5_filledShare_3) <|
  tc (fun p e s m args below meth c cA D A ad0 h => ok_if_eq h.1 13 (by decide) dX5_filledShare_6) <|
  tc (fun p e s m args below meth c cA D A ad0 h => ok_iconst h.1 ⟨by decide, by decide⟩ dX5_filledShare_9) <|
  tc (fun p e s m args below meth c cA D A ad0 h => ok_goto h.1 14 (by decide) dX5_filledShare_10) <|
  tc (fun p e s m args below meth c cA D A ad0 h => ok_iconst h.1 ⟨by decide, by decide⟩ dX5_filledShare_13) <|
  tc (fun p e s m args below meth c cA D A ad0 h => ok_callV h.1 h.2.1 ⟨Nat.le_refl _, Nat.le_refl _⟩ mdX5_fails siX5_fails cxX5 mkRX5_148 imX5_fails seX5_fails ⟨by decide, by decide⟩ (aAx_out h.1 h.2.2.1 _) dX5_filledShare_14) <|
  tc (fun p e s m args below meth c cA D A ad0 h => ok_if_eq h.1 24 (by decide) dX5_filledShare_17) <|
  tc (fun p e s m args below meth c cA D A ad0 h => ok_fconst0 h.1 dX5_filledShare_20) <|
  tc (fun p e s m args below meth c cA D A ad0 h => ok_goto h.1 39 (by decide) dX5_filledShare_21) <|
  tc (fun p e s m args below meth c cA D A ad0 h => ok_aload_n h.1 0 rfl dX5_filledShare_24) <|
  tc (fun p e s m args below meth c cA D A ad0 h => ok_getR h.1 cxX5 (by decide) rfl fkRX5_32 (fun _ _ _ => rfl) dX5_filledShare_25) <|
  tc (fun p e s m args below meth c cA D A ad0 h => ok_iload_n h.1 1 rfl dX5_filledShare_28) <|
  tc (fun p e s m args below meth c cA D A ad0 h => ok_iald h.1 dX5_filledShare_29) <|
  tc (fun p e s m args below meth c cA D A ad0 h => ok_i2f h.1 dX5_filledShare_30) <|
  tc (fun p e s m args below meth c cA D A ad0 h => ok_aload_n h.1 0 rfl dX5_filledShare_31) <|
  tc (fun p e s m args below meth c cA D A ad0 h => ok_getR h.1 cxX5 (by decide) rfl fkRX5_26 (fun _ _ _ => rfl) dX5_filledShare_32) <|
  tc (fun p e s m args below meth c cA D A ad0 h => ok_iload_n h.1 1 rfl dX5_filledShare_35) <|
  tc (fun p e s m args below meth c cA D A ad0 h => ok_iald h.1 dX5_filledShare_36) <|
  tc (fun p e s m args below meth c cA D A ad0 h => ok_i2f h.1 dX5_filledShare_37) <|
  tc (fun p e s m args below meth c cA D A ad0 h => ok_fdiv h.1 dX5_filledShare_38) <|
  tc (fun p e s m args below meth c cA D A ad0 h => ok_freturn h.1 h.2.2.2.1 dX5_filledShare_39) <|
  tn
abbrev cuX5_filledShare : List Nat := [6, 17]
theorem tX5_filledShare_0 (l : Launch) (K : aRs) (X : aXs) : tb (tbX5_filledShare l K X) 0 = sLd 0 1 isR := (rfl)
theorem wX5_filledShare_0 {l : Launch} {K : aRs} {X : aXs} {J : aK} {W : Nat → aK} (hW : isW (tbX5_filledShare l K X) cuX5_filledShare J W) (n : Nat) (ls st : List aV) (μ : aM) (g : Nat) : W (n + 1) 0 ls st μ g = (sLd 0 1 isR) (W n) ls st μ g := (hW n 0 ls st μ g).trans rfl
theorem wX5_filledShare_1 {l : Launch} {K : aRs} {X : aXs} {J : aK} {W : Nat → aK} (hW : isW (tbX5_filledShare l K X) cuX5_filledShare J W) (n : Nat) (ls st : List aV) (μ : aM) (g : Nat) : W (n + 1) 1 ls st μ g = (sLd 0 2 isR) (W n) ls st μ g := (hW n 1 ls st μ g).trans rfl
theorem wX5_filledShare_2 {l : Launch} {K : aRs} {X : aXs} {J : aK} {W : Nat → aK} (hW : isW (tbX5_filledShare l K X) cuX5_filledShare J W) (n : Nat) (ls st : List aV) (μ : aM) (g : Nat) : W (n + 1) 2 ls st μ g = (sLd 1 3 isI) (W n) ls st μ g := (hW n 2 ls st μ g).trans rfl
theorem wX5_filledShare_3 {l : Launch} {K : aRs} {X : aXs} {J : aK} {W : Nat → aK} (hW : isW (tbX5_filledShare l K X) cuX5_filledShare J W) (n : Nat) (ls st : List aV) (μ : aM) (g : Nat) : W (n + 1) 3 ls st μ g = (sCallV 1 5 (fun as μ K => Ct l mdX5_isNone as μ K X) 6 0 0) (W n) ls st μ g := (hW n 3 ls st μ g).trans rfl
theorem tX5_filledShare_6 (l : Launch) (K : aRs) (X : aXs) : tb (tbX5_filledShare l K X) 6 = sIf pEq 13 9 := (rfl)
theorem wX5_filledShare_6 {l : Launch} {K : aRs} {X : aXs} {J : aK} {W : Nat → aK} (hW : isW (tbX5_filledShare l K X) cuX5_filledShare J W) (n : Nat) (ls st : List aV) (μ : aM) (g : Nat) : W (n + 1) 6 ls st μ g = J 6 ls st μ g := (hW n 6 ls st μ g).trans rfl
theorem wX5_filledShare_9 {l : Launch} {K : aRs} {X : aXs} {J : aK} {W : Nat → aK} (hW : isW (tbX5_filledShare l K X) cuX5_filledShare J W) (n : Nat) (ls st : List aV) (μ : aM) (g : Nat) : W (n + 1) 9 ls st μ g = (sPush (aI 1) 10) (W n) ls st μ g := (hW n 9 ls st μ g).trans rfl
theorem wX5_filledShare_10 {l : Launch} {K : aRs} {X : aXs} {J : aK} {W : Nat → aK} (hW : isW (tbX5_filledShare l K X) cuX5_filledShare J W) (n : Nat) (ls st : List aV) (μ : aM) (g : Nat) : W (n + 1) 10 ls st μ g = (sGoto 14) (W n) ls st μ g := (hW n 10 ls st μ g).trans rfl
theorem wX5_filledShare_13 {l : Launch} {K : aRs} {X : aXs} {J : aK} {W : Nat → aK} (hW : isW (tbX5_filledShare l K X) cuX5_filledShare J W) (n : Nat) (ls st : List aV) (μ : aM) (g : Nat) : W (n + 1) 13 ls st μ g = (sPush (aI 0) 14) (W n) ls st μ g := (hW n 13 ls st μ g).trans rfl
theorem wX5_filledShare_14 {l : Launch} {K : aRs} {X : aXs} {J : aK} {W : Nat → aK} (hW : isW (tbX5_filledShare l K X) cuX5_filledShare J W) (n : Nat) (ls st : List aV) (μ : aM) (g : Nat) : W (n + 1) 14 ls st μ g = (sCallV 1 5 (fun as μ K => Ct l mdX5_fails as μ K X) 17 0 0) (W n) ls st μ g := (hW n 14 ls st μ g).trans rfl
theorem tX5_filledShare_17 (l : Launch) (K : aRs) (X : aXs) : tb (tbX5_filledShare l K X) 17 = sIf pEq 24 20 := (rfl)
theorem wX5_filledShare_17 {l : Launch} {K : aRs} {X : aXs} {J : aK} {W : Nat → aK} (hW : isW (tbX5_filledShare l K X) cuX5_filledShare J W) (n : Nat) (ls st : List aV) (μ : aM) (g : Nat) : W (n + 1) 17 ls st μ g = J 17 ls st μ g := (hW n 17 ls st μ g).trans rfl
theorem wX5_filledShare_20 {l : Launch} {K : aRs} {X : aXs} {J : aK} {W : Nat → aK} (hW : isW (tbX5_filledShare l K X) cuX5_filledShare J W) (n : Nat) (ls st : List aV) (μ : aM) (g : Nat) : W (n + 1) 20 ls st μ g = (sPush (aF 0) 21) (W n) ls st μ g := (hW n 20 ls st μ g).trans rfl
theorem wX5_filledShare_21 {l : Launch} {K : aRs} {X : aXs} {J : aK} {W : Nat → aK} (hW : isW (tbX5_filledShare l K X) cuX5_filledShare J W) (n : Nat) (ls st : List aV) (μ : aM) (g : Nat) : W (n + 1) 21 ls st μ g = (sGoto 39) (W n) ls st μ g := (hW n 21 ls st μ g).trans rfl
theorem wX5_filledShare_24 {l : Launch} {K : aRs} {X : aXs} {J : aK} {W : Nat → aK} (hW : isW (tbX5_filledShare l K X) cuX5_filledShare J W) (n : Nat) (ls st : List aV) (μ : aM) (g : Nat) : W (n + 1) 24 ls st μ g = (sLd 0 25 isR) (W n) ls st μ g := (hW n 24 ls st μ g).trans rfl
theorem wX5_filledShare_25 {l : Launch} {K : aRs} {X : aXs} {J : aK} {W : Nat → aK} (hW : isW (tbX5_filledShare l K X) cuX5_filledShare J W) (n : Nat) (ls st : List aV) (μ : aM) (g : Nat) : W (n + 1) 25 ls st μ g = (sGetR 5 8 28) (W n) ls st μ g := (hW n 25 ls st μ g).trans rfl
theorem wX5_filledShare_28 {l : Launch} {K : aRs} {X : aXs} {J : aK} {W : Nat → aK} (hW : isW (tbX5_filledShare l K X) cuX5_filledShare J W) (n : Nat) (ls st : List aV) (μ : aM) (g : Nat) : W (n + 1) 28 ls st μ g = (sLd 1 29 isI) (W n) ls st μ g := (hW n 28 ls st μ g).trans rfl
theorem wX5_filledShare_29 {l : Launch} {K : aRs} {X : aXs} {J : aK} {W : Nat → aK} (hW : isW (tbX5_filledShare l K X) cuX5_filledShare J W) (n : Nat) (ls st : List aV) (μ : aM) (g : Nat) : W (n + 1) 29 ls st μ g = (sAldI 7 30) (W n) ls st μ g := (hW n 29 ls st μ g).trans rfl
theorem wX5_filledShare_30 {l : Launch} {K : aRs} {X : aXs} {J : aK} {W : Nat → aK} (hW : isW (tbX5_filledShare l K X) cuX5_filledShare J W) (n : Nat) (ls st : List aV) (μ : aM) (g : Nat) : W (n + 1) 30 ls st μ g = (sI2f 31) (W n) ls st μ g := (hW n 30 ls st μ g).trans rfl
theorem wX5_filledShare_31 {l : Launch} {K : aRs} {X : aXs} {J : aK} {W : Nat → aK} (hW : isW (tbX5_filledShare l K X) cuX5_filledShare J W) (n : Nat) (ls st : List aV) (μ : aM) (g : Nat) : W (n + 1) 31 ls st μ g = (sLd 0 32 isR) (W n) ls st μ g := (hW n 31 ls st μ g).trans rfl
theorem wX5_filledShare_32 {l : Launch} {K : aRs} {X : aXs} {J : aK} {W : Nat → aK} (hW : isW (tbX5_filledShare l K X) cuX5_filledShare J W) (n : Nat) (ls st : List aV) (μ : aM) (g : Nat) : W (n + 1) 32 ls st μ g = (sGetR 5 6 35) (W n) ls st μ g := (hW n 32 ls st μ g).trans rfl
theorem wX5_filledShare_35 {l : Launch} {K : aRs} {X : aXs} {J : aK} {W : Nat → aK} (hW : isW (tbX5_filledShare l K X) cuX5_filledShare J W) (n : Nat) (ls st : List aV) (μ : aM) (g : Nat) : W (n + 1) 35 ls st μ g = (sLd 1 36 isI) (W n) ls st μ g := (hW n 35 ls st μ g).trans rfl
theorem wX5_filledShare_36 {l : Launch} {K : aRs} {X : aXs} {J : aK} {W : Nat → aK} (hW : isW (tbX5_filledShare l K X) cuX5_filledShare J W) (n : Nat) (ls st : List aV) (μ : aM) (g : Nat) : W (n + 1) 36 ls st μ g = (sAldI 7 37) (W n) ls st μ g := (hW n 36 ls st μ g).trans rfl
theorem wX5_filledShare_37 {l : Launch} {K : aRs} {X : aXs} {J : aK} {W : Nat → aK} (hW : isW (tbX5_filledShare l K X) cuX5_filledShare J W) (n : Nat) (ls st : List aV) (μ : aM) (g : Nat) : W (n + 1) 37 ls st μ g = (sI2f 38) (W n) ls st μ g := (hW n 37 ls st μ g).trans rfl
theorem wX5_filledShare_38 {l : Launch} {K : aRs} {X : aXs} {J : aK} {W : Nat → aK} (hW : isW (tbX5_filledShare l K X) cuX5_filledShare J W) (n : Nat) (ls st : List aV) (μ : aM) (g : Nat) : W (n + 1) 38 ls st μ g = (sFdiv 39) (W n) ls st μ g := (hW n 38 ls st μ g).trans rfl
theorem wX5_filledShare_39 {l : Launch} {K : aRs} {X : aXs} {J : aK} {W : Nat → aK} (hW : isW (tbX5_filledShare l K X) cuX5_filledShare J W) (n : Nat) (ls st : List aV) (μ : aM) (g : Nat) : W (n + 1) 39 ls st μ g = (sRetF 0 K) (W n) ls st μ g := (hW n 39 ls st μ g).trans rfl
theorem dX5_orderCount_0 : decode cX5_orderCount 0 = .ok (.aload_n 0, 1) := by decide +kernel
theorem dX5_orderCount_1 : decode cX5_orderCount 1 = .ok (.aload_n 0, 1) := by decide +kernel
theorem dX5_orderCount_2 : decode cX5_orderCount 2 = .ok (.getfield 68, 3) := by decide +kernel
theorem dX5_orderCount_5 : decode cX5_orderCount 5 = .ok (.invokevirtual 172, 3) := by decide +kernel
theorem dX5_orderCount_8 : decode cX5_orderCount 8 = .ok (.ireturn, 1) := by decide +kernel
def tbX5_orderCount (l : Launch) (K : aRs) (X : aXs) : aTb := [
  (0, sLd 0 1 isR),
  (1, sLd 0 2 isR),
  (2, sGetI 5 0 5),
  (5, sCallV 1 5 (fun as μ K => Ct l mdX5_tells as μ K X) 8 0 0),
  (8, sRetI .int 0 K)]
theorem snX5_orderCount (l : Launch) (K : aRs) (X : aXs) (n0 : Nat) : ∀ q ∈ tbX5_orderCount l K X, aSo l mdX5_orderCount K X n0 q.1 q.2 :=
  tc (fun p e s m args below meth c cA D A ad0 h => ok_aload_n h.1 0 rfl dX5_orderCount_0) <|
  tc (fun p e s m args below meth c cA D A ad0 h => ok_aload_n h.1 0 rfl dX5_orderCount_1) <|
  tc (fun p e s m args below meth c cA D A ad0 h => ok_getI h.1 cxX5 (by decide) rfl fkRX5_68 (fun _ _ _ => rfl) dX5_orderCount_2) <|
  tc (fun p e s m args below meth c cA D A ad0 h => ok_callV h.1 h.2.1 ⟨Nat.le_refl _, Nat.le_refl _⟩ mdX5_tells siX5_tells cxX5 mkRX5_172 imX5_tells seX5_tells ⟨by decide, by decide⟩ (aAx_out h.1 h.2.2.1 _) dX5_orderCount_5) <|
  tc (fun p e s m args below meth c cA D A ad0 h => ok_ireturn h.1 h.2.2.2.1 (Or.inl rfl) dX5_orderCount_8) <|
  tn
abbrev cuX5_orderCount : List Nat := [8]
theorem tX5_orderCount_0 (l : Launch) (K : aRs) (X : aXs) : tb (tbX5_orderCount l K X) 0 = sLd 0 1 isR := (rfl)
theorem wX5_orderCount_0 {l : Launch} {K : aRs} {X : aXs} {J : aK} {W : Nat → aK} (hW : isW (tbX5_orderCount l K X) cuX5_orderCount J W) (n : Nat) (ls st : List aV) (μ : aM) (g : Nat) : W (n + 1) 0 ls st μ g = (sLd 0 1 isR) (W n) ls st μ g := (hW n 0 ls st μ g).trans rfl
theorem wX5_orderCount_1 {l : Launch} {K : aRs} {X : aXs} {J : aK} {W : Nat → aK} (hW : isW (tbX5_orderCount l K X) cuX5_orderCount J W) (n : Nat) (ls st : List aV) (μ : aM) (g : Nat) : W (n + 1) 1 ls st μ g = (sLd 0 2 isR) (W n) ls st μ g := (hW n 1 ls st μ g).trans rfl
theorem wX5_orderCount_2 {l : Launch} {K : aRs} {X : aXs} {J : aK} {W : Nat → aK} (hW : isW (tbX5_orderCount l K X) cuX5_orderCount J W) (n : Nat) (ls st : List aV) (μ : aM) (g : Nat) : W (n + 1) 2 ls st μ g = (sGetI 5 0 5) (W n) ls st μ g := (hW n 2 ls st μ g).trans rfl
theorem wX5_orderCount_5 {l : Launch} {K : aRs} {X : aXs} {J : aK} {W : Nat → aK} (hW : isW (tbX5_orderCount l K X) cuX5_orderCount J W) (n : Nat) (ls st : List aV) (μ : aM) (g : Nat) : W (n + 1) 5 ls st μ g = (sCallV 1 5 (fun as μ K => Ct l mdX5_tells as μ K X) 8 0 0) (W n) ls st μ g := (hW n 5 ls st μ g).trans rfl
theorem tX5_orderCount_8 (l : Launch) (K : aRs) (X : aXs) : tb (tbX5_orderCount l K X) 8 = sRetI .int 0 K := (rfl)
theorem wX5_orderCount_8 {l : Launch} {K : aRs} {X : aXs} {J : aK} {W : Nat → aK} (hW : isW (tbX5_orderCount l K X) cuX5_orderCount J W) (n : Nat) (ls st : List aV) (μ : aM) (g : Nat) : W (n + 1) 8 ls st μ g = J 8 ls st μ g := (hW n 8 ls st μ g).trans rfl
theorem dX5_isAt_0 : decode cX5_isAt 0 = .ok (.aload_n 0, 1) := by decide +kernel
theorem dX5_isAt_1 : decode cX5_isAt 1 = .ok (.getfield 13, 3) := by decide +kernel
theorem dX5_isAt_4 : decode cX5_isAt 4 = .ok (.iload_n 1, 1) := by decide +kernel
theorem dX5_isAt_5 : decode cX5_isAt 5 = .ok (.caload, 1) := by decide +kernel
theorem dX5_isAt_6 : decode cX5_isAt 6 = .ok (.bipush 97, 2) := by decide +kernel
theorem dX5_isAt_8 : decode cX5_isAt 8 = .ok (.if_icmp .ne 27, 3) := by decide +kernel
theorem dX5_isAt_11 : decode cX5_isAt 11 = .ok (.aload_n 0, 1) := by decide +kernel
theorem dX5_isAt_12 : decode cX5_isAt 12 = .ok (.getfield 7, 3) := by decide +kernel
theorem dX5_isAt_15 : decode cX5_isAt 15 = .ok (.iload_n 1, 1) := by decide +kernel
theorem dX5_isAt_16 : decode cX5_isAt 16 = .ok (.caload, 1) := by decide +kernel
theorem dX5_isAt_17 : decode cX5_isAt 17 = .ok (.iload_n 2, 1) := by decide +kernel
theorem dX5_isAt_18 : decode cX5_isAt 18 = .ok (.if_icmp .ne 17, 3) := by decide +kernel
theorem dX5_isAt_21 : decode cX5_isAt 21 = .ok (.aload_n 0, 1) := by decide +kernel
theorem dX5_isAt_22 : decode cX5_isAt 22 = .ok (.getfield 20, 3) := by decide +kernel
theorem dX5_isAt_25 : decode cX5_isAt 25 = .ok (.iload_n 1, 1) := by decide +kernel
theorem dX5_isAt_26 : decode cX5_isAt 26 = .ok (.iaload, 1) := by decide +kernel
theorem dX5_isAt_27 : decode cX5_isAt 27 = .ok (.iload_n 3, 1) := by decide +kernel
theorem dX5_isAt_28 : decode cX5_isAt 28 = .ok (.if_icmp .ne 7, 3) := by decide +kernel
theorem dX5_isAt_31 : decode cX5_isAt 31 = .ok (.iconst 1, 1) := by decide +kernel
theorem dX5_isAt_32 : decode cX5_isAt 32 = .ok (.goto 4, 3) := by decide +kernel
theorem dX5_isAt_35 : decode cX5_isAt 35 = .ok (.iconst 0, 1) := by decide +kernel
theorem dX5_isAt_36 : decode cX5_isAt 36 = .ok (.ireturn, 1) := by decide +kernel
def tbX5_isAt (l : Launch) (K : aRs) (X : aXs) : aTb := [
  (0, sLd 0 1 isR),
  (1, sGetR 5 2 4),
  (4, sLd 1 5 isI),
  (5, sAldI 6 6),
  (6, sPush (aI 97) 8),
  (8, sIc qNe 35 11),
  (11, sLd 0 12 isR),
  (12, sGetR 5 1 15),
  (15, sLd 1 16 isI),
  (16, sAldI 6 17),
  (17, sLd 2 18 isI),
  (18, sIc qNe 35 21),
  (21, sLd 0 22 isR),
  (22, sGetR 5 4 25),
  (25, sLd 1 26 isI),
  (26, sAldI 7 27),
  (27, sLd 3 28 isI),
  (28, sIc qNe 35 31),
  (31, sPush (aI 1) 32),
  (32, sGoto 36),
  (35, sPush (aI 0) 36),
  (36, sRetI .boolean 0 K)]
theorem snX5_isAt (l : Launch) (K : aRs) (X : aXs) (n0 : Nat) : ∀ q ∈ tbX5_isAt l K X, aSo l mdX5_isAt K X n0 q.1 q.2 :=
  tc (fun p e s m args below meth c cA D A ad0 h => ok_aload_n h.1 0 rfl dX5_isAt_0) <|
  tc (fun p e s m args below meth c cA D A ad0 h => ok_getR h.1 cxX5 (by decide) rfl fkRX5_13 (fun _ _ _ => rfl) dX5_isAt_1) <|
  tc (fun p e s m args below meth c cA D A ad0 h => ok_iload_n h.1 1 rfl dX5_isAt_4) <|
  tc (fun p e s m args below meth c cA D A ad0 h => ok_cald h.1 dX5_isAt_5) <|
  tc (fun p e s m args below meth c cA D A ad0 h => ok_bipush h.1 ⟨by decide, by decide⟩ (by decide) dX5_isAt_6) <|
  tc (fun p e s m args below meth c cA D A ad0 h => ok_icmp_ne h.1 35 (by decide) dX5_isAt_8) <|
  tc (fun p e s m args below meth c cA D A ad0 h => ok_aload_n h.1 0 rfl dX5_isAt_11) <|
  tc (fun p e s m args below meth c cA D A ad0 h => ok_getR h.1 cxX5 (by decide) rfl fkRX5_7 (fun _ _ _ => rfl) dX5_isAt_12) <|
  tc (fun p e s m args below meth c cA D A ad0 h => ok_iload_n h.1 1 rfl dX5_isAt_15) <|
  tc (fun p e s m args below meth c cA D A ad0 h => ok_cald h.1 dX5_isAt_16) <|
  tc (fun p e s m args below meth c cA D A ad0 h => ok_iload_n h.1 2 rfl dX5_isAt_17) <|
  tc (fun p e s m args below meth c cA D A ad0 h => ok_icmp_ne h.1 35 (by decide) dX5_isAt_18) <|
  tc (fun p e s m args below meth c cA D A ad0 h => ok_aload_n h.1 0 rfl dX5_isAt_21) <|
  tc (fun p e s m args below meth c cA D A ad0 h => ok_getR h.1 cxX5 (by decide) rfl fkRX5_20 (fun _ _ _ => rfl) dX5_isAt_22) <|
  tc (fun p e s m args below meth c cA D A ad0 h => ok_iload_n h.1 1 rfl dX5_isAt_25) <|
  tc (fun p e s m args below meth c cA D A ad0 h => ok_iald h.1 dX5_isAt_26) <|
  tc (fun p e s m args below meth c cA D A ad0 h => ok_iload_n h.1 3 rfl dX5_isAt_27) <|
  tc (fun p e s m args below meth c cA D A ad0 h => ok_icmp_ne h.1 35 (by decide) dX5_isAt_28) <|
  tc (fun p e s m args below meth c cA D A ad0 h => ok_iconst h.1 ⟨by decide, by decide⟩ dX5_isAt_31) <|
  tc (fun p e s m args below meth c cA D A ad0 h => ok_goto h.1 36 (by decide) dX5_isAt_32) <|
  tc (fun p e s m args below meth c cA D A ad0 h => ok_iconst h.1 ⟨by decide, by decide⟩ dX5_isAt_35) <|
  tc (fun p e s m args below meth c cA D A ad0 h => ok_ireturn h.1 h.2.2.2.1 (Or.inr (Or.inl rfl)) dX5_isAt_36) <|
  tn
abbrev cuX5_isAt : List Nat := []
theorem tX5_isAt_0 (l : Launch) (K : aRs) (X : aXs) : tb (tbX5_isAt l K X) 0 = sLd 0 1 isR := (rfl)
theorem wX5_isAt_0 {l : Launch} {K : aRs} {X : aXs} {J : aK} {W : Nat → aK} (hW : isW (tbX5_isAt l K X) cuX5_isAt J W) (n : Nat) (ls st : List aV) (μ : aM) (g : Nat) : W (n + 1) 0 ls st μ g = (sLd 0 1 isR) (W n) ls st μ g := (hW n 0 ls st μ g).trans rfl
theorem wX5_isAt_1 {l : Launch} {K : aRs} {X : aXs} {J : aK} {W : Nat → aK} (hW : isW (tbX5_isAt l K X) cuX5_isAt J W) (n : Nat) (ls st : List aV) (μ : aM) (g : Nat) : W (n + 1) 1 ls st μ g = (sGetR 5 2 4) (W n) ls st μ g := (hW n 1 ls st μ g).trans rfl
theorem wX5_isAt_4 {l : Launch} {K : aRs} {X : aXs} {J : aK} {W : Nat → aK} (hW : isW (tbX5_isAt l K X) cuX5_isAt J W) (n : Nat) (ls st : List aV) (μ : aM) (g : Nat) : W (n + 1) 4 ls st μ g = (sLd 1 5 isI) (W n) ls st μ g := (hW n 4 ls st μ g).trans rfl
theorem wX5_isAt_5 {l : Launch} {K : aRs} {X : aXs} {J : aK} {W : Nat → aK} (hW : isW (tbX5_isAt l K X) cuX5_isAt J W) (n : Nat) (ls st : List aV) (μ : aM) (g : Nat) : W (n + 1) 5 ls st μ g = (sAldI 6 6) (W n) ls st μ g := (hW n 5 ls st μ g).trans rfl
theorem wX5_isAt_6 {l : Launch} {K : aRs} {X : aXs} {J : aK} {W : Nat → aK} (hW : isW (tbX5_isAt l K X) cuX5_isAt J W) (n : Nat) (ls st : List aV) (μ : aM) (g : Nat) : W (n + 1) 6 ls st μ g = (sPush (aI 97) 8) (W n) ls st μ g := (hW n 6 ls st μ g).trans rfl
theorem wX5_isAt_8 {l : Launch} {K : aRs} {X : aXs} {J : aK} {W : Nat → aK} (hW : isW (tbX5_isAt l K X) cuX5_isAt J W) (n : Nat) (ls st : List aV) (μ : aM) (g : Nat) : W (n + 1) 8 ls st μ g = (sIc qNe 35 11) (W n) ls st μ g := (hW n 8 ls st μ g).trans rfl
theorem wX5_isAt_11 {l : Launch} {K : aRs} {X : aXs} {J : aK} {W : Nat → aK} (hW : isW (tbX5_isAt l K X) cuX5_isAt J W) (n : Nat) (ls st : List aV) (μ : aM) (g : Nat) : W (n + 1) 11 ls st μ g = (sLd 0 12 isR) (W n) ls st μ g := (hW n 11 ls st μ g).trans rfl
theorem wX5_isAt_12 {l : Launch} {K : aRs} {X : aXs} {J : aK} {W : Nat → aK} (hW : isW (tbX5_isAt l K X) cuX5_isAt J W) (n : Nat) (ls st : List aV) (μ : aM) (g : Nat) : W (n + 1) 12 ls st μ g = (sGetR 5 1 15) (W n) ls st μ g := (hW n 12 ls st μ g).trans rfl
theorem wX5_isAt_15 {l : Launch} {K : aRs} {X : aXs} {J : aK} {W : Nat → aK} (hW : isW (tbX5_isAt l K X) cuX5_isAt J W) (n : Nat) (ls st : List aV) (μ : aM) (g : Nat) : W (n + 1) 15 ls st μ g = (sLd 1 16 isI) (W n) ls st μ g := (hW n 15 ls st μ g).trans rfl
theorem wX5_isAt_16 {l : Launch} {K : aRs} {X : aXs} {J : aK} {W : Nat → aK} (hW : isW (tbX5_isAt l K X) cuX5_isAt J W) (n : Nat) (ls st : List aV) (μ : aM) (g : Nat) : W (n + 1) 16 ls st μ g = (sAldI 6 17) (W n) ls st μ g := (hW n 16 ls st μ g).trans rfl
theorem wX5_isAt_17 {l : Launch} {K : aRs} {X : aXs} {J : aK} {W : Nat → aK} (hW : isW (tbX5_isAt l K X) cuX5_isAt J W) (n : Nat) (ls st : List aV) (μ : aM) (g : Nat) : W (n + 1) 17 ls st μ g = (sLd 2 18 isI) (W n) ls st μ g := (hW n 17 ls st μ g).trans rfl
theorem wX5_isAt_18 {l : Launch} {K : aRs} {X : aXs} {J : aK} {W : Nat → aK} (hW : isW (tbX5_isAt l K X) cuX5_isAt J W) (n : Nat) (ls st : List aV) (μ : aM) (g : Nat) : W (n + 1) 18 ls st μ g = (sIc qNe 35 21) (W n) ls st μ g := (hW n 18 ls st μ g).trans rfl
theorem wX5_isAt_21 {l : Launch} {K : aRs} {X : aXs} {J : aK} {W : Nat → aK} (hW : isW (tbX5_isAt l K X) cuX5_isAt J W) (n : Nat) (ls st : List aV) (μ : aM) (g : Nat) : W (n + 1) 21 ls st μ g = (sLd 0 22 isR) (W n) ls st μ g := (hW n 21 ls st μ g).trans rfl
theorem wX5_isAt_22 {l : Launch} {K : aRs} {X : aXs} {J : aK} {W : Nat → aK} (hW : isW (tbX5_isAt l K X) cuX5_isAt J W) (n : Nat) (ls st : List aV) (μ : aM) (g : Nat) : W (n + 1) 22 ls st μ g = (sGetR 5 4 25) (W n) ls st μ g := (hW n 22 ls st μ g).trans rfl
theorem wX5_isAt_25 {l : Launch} {K : aRs} {X : aXs} {J : aK} {W : Nat → aK} (hW : isW (tbX5_isAt l K X) cuX5_isAt J W) (n : Nat) (ls st : List aV) (μ : aM) (g : Nat) : W (n + 1) 25 ls st μ g = (sLd 1 26 isI) (W n) ls st μ g := (hW n 25 ls st μ g).trans rfl
theorem wX5_isAt_26 {l : Launch} {K : aRs} {X : aXs} {J : aK} {W : Nat → aK} (hW : isW (tbX5_isAt l K X) cuX5_isAt J W) (n : Nat) (ls st : List aV) (μ : aM) (g : Nat) : W (n + 1) 26 ls st μ g = (sAldI 7 27) (W n) ls st μ g := (hW n 26 ls st μ g).trans rfl
theorem wX5_isAt_27 {l : Launch} {K : aRs} {X : aXs} {J : aK} {W : Nat → aK} (hW : isW (tbX5_isAt l K X) cuX5_isAt J W) (n : Nat) (ls st : List aV) (μ : aM) (g : Nat) : W (n + 1) 27 ls st μ g = (sLd 3 28 isI) (W n) ls st μ g := (hW n 27 ls st μ g).trans rfl
theorem wX5_isAt_28 {l : Launch} {K : aRs} {X : aXs} {J : aK} {W : Nat → aK} (hW : isW (tbX5_isAt l K X) cuX5_isAt J W) (n : Nat) (ls st : List aV) (μ : aM) (g : Nat) : W (n + 1) 28 ls st μ g = (sIc qNe 35 31) (W n) ls st μ g := (hW n 28 ls st μ g).trans rfl
theorem wX5_isAt_31 {l : Launch} {K : aRs} {X : aXs} {J : aK} {W : Nat → aK} (hW : isW (tbX5_isAt l K X) cuX5_isAt J W) (n : Nat) (ls st : List aV) (μ : aM) (g : Nat) : W (n + 1) 31 ls st μ g = (sPush (aI 1) 32) (W n) ls st μ g := (hW n 31 ls st μ g).trans rfl
theorem wX5_isAt_32 {l : Launch} {K : aRs} {X : aXs} {J : aK} {W : Nat → aK} (hW : isW (tbX5_isAt l K X) cuX5_isAt J W) (n : Nat) (ls st : List aV) (μ : aM) (g : Nat) : W (n + 1) 32 ls st μ g = (sGoto 36) (W n) ls st μ g := (hW n 32 ls st μ g).trans rfl
theorem wX5_isAt_35 {l : Launch} {K : aRs} {X : aXs} {J : aK} {W : Nat → aK} (hW : isW (tbX5_isAt l K X) cuX5_isAt J W) (n : Nat) (ls st : List aV) (μ : aM) (g : Nat) : W (n + 1) 35 ls st μ g = (sPush (aI 0) 36) (W n) ls st μ g := (hW n 35 ls st μ g).trans rfl
theorem wX5_isAt_36 {l : Launch} {K : aRs} {X : aXs} {J : aK} {W : Nat → aK} (hW : isW (tbX5_isAt l K X) cuX5_isAt J W) (n : Nat) (ls st : List aV) (μ : aM) (g : Nat) : W (n + 1) 36 ls st μ g = (sRetI .boolean 0 K) (W n) ls st μ g := (hW n 36 ls st μ g).trans rfl
theorem dX5_manyAt_0 : decode cX5_manyAt 0 = .ok (.iconst 0, 1) := by decide +kernel
theorem dX5_manyAt_1 : decode cX5_manyAt 1 = .ok (.istore_n 3, 1) := by decide +kernel
theorem dX5_manyAt_2 : decode cX5_manyAt 2 = .ok (.iconst 0, 1) := by decide +kernel
theorem dX5_manyAt_3 : decode cX5_manyAt 3 = .ok (.istore 4, 2) := by decide +kernel
theorem dX5_manyAt_5 : decode cX5_manyAt 5 = .ok (.iload 4, 2) := by decide +kernel
theorem dX5_manyAt_7 : decode cX5_manyAt 7 = .ok (.aload_n 0, 1) := by decide +kernel
theorem dX5_manyAt_8 : decode cX5_manyAt 8 = .ok (.getfield 68, 3) := by decide +kernel
theorem dX5_manyAt_11 : decode cX5_manyAt 11 = .ok (.if_icmp .ge 28, 3) := by decide +kernel
theorem dX5_manyAt_14 : decode cX5_manyAt 14 = .ok (.iload_n 3, 1) := by decide +kernel
theorem dX5_manyAt_15 : decode cX5_manyAt 15 = .ok (.aload_n 0, 1) := by decide +kernel
theorem dX5_manyAt_16 : decode cX5_manyAt 16 = .ok (.iload 4, 2) := by decide +kernel
theorem dX5_manyAt_18 : decode cX5_manyAt 18 = .ok (.iload_n 1, 1) := by decide +kernel
theorem dX5_manyAt_19 : decode cX5_manyAt 19 = .ok (.iload_n 2, 1) := by decide +kernel
theorem dX5_manyAt_20 : decode cX5_manyAt 20 = .ok (.invokevirtual 175, 3) := by decide +kernel
theorem dX5_manyAt_23 : decode cX5_manyAt 23 = .ok (.ifCond .eq 7, 3) := by decide +kernel
theorem dX5_manyAt_26 : decode cX5_manyAt 26 = .ok (.iconst 1, 1) := by decide +kernel
theorem dX5_manyAt_27 : decode cX5_manyAt 27 = .ok (.goto 4, 3) := by decide +kernel
theorem dX5_manyAt_30 : decode cX5_manyAt 30 = .ok (.iconst 0, 1) := by decide +kernel
theorem dX5_manyAt_31 : decode cX5_manyAt 31 = .ok (.iadd, 1) := by decide +kernel
theorem dX5_manyAt_32 : decode cX5_manyAt 32 = .ok (.istore_n 3, 1) := by decide +kernel
theorem dX5_manyAt_33 : decode cX5_manyAt 33 = .ok (.iinc 4 1, 3) := by decide +kernel
theorem dX5_manyAt_36 : decode cX5_manyAt 36 = .ok (.goto (-31), 3) := by decide +kernel
theorem dX5_manyAt_39 : decode cX5_manyAt 39 = .ok (.iload_n 3, 1) := by decide +kernel
theorem dX5_manyAt_40 : decode cX5_manyAt 40 = .ok (.ireturn, 1) := by decide +kernel
def tbX5_manyAt (l : Launch) (K : aRs) (X : aXs) : aTb := [
  (0, sPush (aI 0) 1),
  (1, sSt 3 2 isI),
  (2, sPush (aI 0) 3),
  (3, sSt 4 5 isI),
  (5, sLd 4 7 isI),
  (7, sLd 0 8 isR),
  (8, sGetI 5 0 11),
  (11, sIc qGe 39 14),
  (14, sLd 3 15 isI),
  (15, sLd 0 16 isR),
  (16, sLd 4 18 isI),
  (18, sLd 1 19 isI),
  (19, sLd 2 20 isI),
  (20, sCallV 3 5 (fun as μ K => Ct l mdX5_isAt as μ K X) 23 0 0),
  (23, sIf pEq 30 26),
  (26, sPush (aI 1) 27),
  (27, sGoto 31),
  (30, sPush (aI 0) 31),
  (31, sBin fAdd 32),
  (32, sSt 3 33 isI),
  (33, sInc 4 1 36),
  (36, sGoto 5),
  (39, sLd 3 40 isI),
  (40, sRetI .int 0 K)]
theorem snX5_manyAt (l : Launch) (K : aRs) (X : aXs) (n0 : Nat) : ∀ q ∈ tbX5_manyAt l K X, aSo l mdX5_manyAt K X n0 q.1 q.2 :=
  tc (fun p e s m args below meth c cA D A ad0 h => ok_iconst h.1 ⟨by decide, by decide⟩ dX5_manyAt_0) <|
  tc (fun p e s m args below meth c cA D A ad0 h => ok_istore_n h.1 3 rfl (by decide) dX5_manyAt_1) <|
  tc (fun p e s m args below meth c cA D A ad0 h => ok_iconst h.1 ⟨by decide, by decide⟩ dX5_manyAt_2) <|
  tc (fun p e s m args below meth c cA D A ad0 h => ok_istore h.1 (by decide) dX5_manyAt_3) <|
  tc (fun p e s m args below meth c cA D A ad0 h => ok_iload h.1 dX5_manyAt_5) <|
  tc (fun p e s m args below meth c cA D A ad0 h => ok_aload_n h.1 0 rfl dX5_manyAt_7) <|
  tc (fun p e s m args below meth c cA D A ad0 h => ok_getI h.1 cxX5 (by decide) rfl fkRX5_68 (fun _ _ _ => rfl) dX5_manyAt_8) <|
  tc (fun p e s m args below meth c cA D A ad0 h => ok_icmp_ge h.1 39 (by decide) dX5_manyAt_11) <|
  tc (fun p e s m args below meth c cA D A ad0 h => ok_iload_n h.1 3 rfl dX5_manyAt_14) <|
  tc (fun p e s m args below meth c cA D A ad0 h => ok_aload_n h.1 0 rfl dX5_manyAt_15) <|
  tc (fun p e s m args below meth c cA D A ad0 h => ok_iload h.1 dX5_manyAt_16) <|
  tc (fun p e s m args below meth c cA D A ad0 h => ok_iload_n h.1 1 rfl dX5_manyAt_18) <|
  tc (fun p e s m args below meth c cA D A ad0 h => ok_iload_n h.1 2 rfl dX5_manyAt_19) <|
  tc (fun p e s m args below meth c cA D A ad0 h => ok_callV h.1 h.2.1 ⟨Nat.le_refl _, Nat.le_refl _⟩ mdX5_isAt siX5_isAt cxX5 mkRX5_175 imX5_isAt seX5_isAt ⟨by decide, by decide⟩ (aAx_out h.1 h.2.2.1 _) dX5_manyAt_20) <|
  tc (fun p e s m args below meth c cA D A ad0 h => ok_if_eq h.1 30 (by decide) dX5_manyAt_23) <|
  tc (fun p e s m args below meth c cA D A ad0 h => ok_iconst h.1 ⟨by decide, by decide⟩ dX5_manyAt_26) <|
  tc (fun p e s m args below meth c cA D A ad0 h => ok_goto h.1 31 (by decide) dX5_manyAt_27) <|
  tc (fun p e s m args below meth c cA D A ad0 h => ok_iconst h.1 ⟨by decide, by decide⟩ dX5_manyAt_30) <|
  tc (fun p e s m args below meth c cA D A ad0 h => ok_iadd h.1 dX5_manyAt_31) <|
  tc (fun p e s m args below meth c cA D A ad0 h => ok_istore_n h.1 3 rfl (by decide) dX5_manyAt_32) <|
  tc (fun p e s m args below meth c cA D A ad0 h => ok_iinc h.1 (by decide) dX5_manyAt_33) <|
  tc (fun p e s m args below meth c cA D A ad0 h => ok_goto h.1 5 (by decide) dX5_manyAt_36) <|
  tc (fun p e s m args below meth c cA D A ad0 h => ok_iload_n h.1 3 rfl dX5_manyAt_39) <|
  tc (fun p e s m args below meth c cA D A ad0 h => ok_ireturn h.1 h.2.2.2.1 (Or.inl rfl) dX5_manyAt_40) <|
  tn
abbrev cuX5_manyAt : List Nat := [5, 23]
theorem tX5_manyAt_0 (l : Launch) (K : aRs) (X : aXs) : tb (tbX5_manyAt l K X) 0 = sPush (aI 0) 1 := (rfl)
theorem wX5_manyAt_0 {l : Launch} {K : aRs} {X : aXs} {J : aK} {W : Nat → aK} (hW : isW (tbX5_manyAt l K X) cuX5_manyAt J W) (n : Nat) (ls st : List aV) (μ : aM) (g : Nat) : W (n + 1) 0 ls st μ g = (sPush (aI 0) 1) (W n) ls st μ g := (hW n 0 ls st μ g).trans rfl
theorem wX5_manyAt_1 {l : Launch} {K : aRs} {X : aXs} {J : aK} {W : Nat → aK} (hW : isW (tbX5_manyAt l K X) cuX5_manyAt J W) (n : Nat) (ls st : List aV) (μ : aM) (g : Nat) : W (n + 1) 1 ls st μ g = (sSt 3 2 isI) (W n) ls st μ g := (hW n 1 ls st μ g).trans rfl
theorem wX5_manyAt_2 {l : Launch} {K : aRs} {X : aXs} {J : aK} {W : Nat → aK} (hW : isW (tbX5_manyAt l K X) cuX5_manyAt J W) (n : Nat) (ls st : List aV) (μ : aM) (g : Nat) : W (n + 1) 2 ls st μ g = (sPush (aI 0) 3) (W n) ls st μ g := (hW n 2 ls st μ g).trans rfl
theorem wX5_manyAt_3 {l : Launch} {K : aRs} {X : aXs} {J : aK} {W : Nat → aK} (hW : isW (tbX5_manyAt l K X) cuX5_manyAt J W) (n : Nat) (ls st : List aV) (μ : aM) (g : Nat) : W (n + 1) 3 ls st μ g = (sSt 4 5 isI) (W n) ls st μ g := (hW n 3 ls st μ g).trans rfl
theorem tX5_manyAt_5 (l : Launch) (K : aRs) (X : aXs) : tb (tbX5_manyAt l K X) 5 = sLd 4 7 isI := (rfl)
theorem wX5_manyAt_5 {l : Launch} {K : aRs} {X : aXs} {J : aK} {W : Nat → aK} (hW : isW (tbX5_manyAt l K X) cuX5_manyAt J W) (n : Nat) (ls st : List aV) (μ : aM) (g : Nat) : W (n + 1) 5 ls st μ g = J 5 ls st μ g := (hW n 5 ls st μ g).trans rfl
theorem wX5_manyAt_7 {l : Launch} {K : aRs} {X : aXs} {J : aK} {W : Nat → aK} (hW : isW (tbX5_manyAt l K X) cuX5_manyAt J W) (n : Nat) (ls st : List aV) (μ : aM) (g : Nat) : W (n + 1) 7 ls st μ g = (sLd 0 8 isR) (W n) ls st μ g := (hW n 7 ls st μ g).trans rfl
theorem wX5_manyAt_8 {l : Launch} {K : aRs} {X : aXs} {J : aK} {W : Nat → aK} (hW : isW (tbX5_manyAt l K X) cuX5_manyAt J W) (n : Nat) (ls st : List aV) (μ : aM) (g : Nat) : W (n + 1) 8 ls st μ g = (sGetI 5 0 11) (W n) ls st μ g := (hW n 8 ls st μ g).trans rfl
theorem wX5_manyAt_11 {l : Launch} {K : aRs} {X : aXs} {J : aK} {W : Nat → aK} (hW : isW (tbX5_manyAt l K X) cuX5_manyAt J W) (n : Nat) (ls st : List aV) (μ : aM) (g : Nat) : W (n + 1) 11 ls st μ g = (sIc qGe 39 14) (W n) ls st μ g := (hW n 11 ls st μ g).trans rfl
theorem wX5_manyAt_14 {l : Launch} {K : aRs} {X : aXs} {J : aK} {W : Nat → aK} (hW : isW (tbX5_manyAt l K X) cuX5_manyAt J W) (n : Nat) (ls st : List aV) (μ : aM) (g : Nat) : W (n + 1) 14 ls st μ g = (sLd 3 15 isI) (W n) ls st μ g := (hW n 14 ls st μ g).trans rfl
theorem wX5_manyAt_15 {l : Launch} {K : aRs} {X : aXs} {J : aK} {W : Nat → aK} (hW : isW (tbX5_manyAt l K X) cuX5_manyAt J W) (n : Nat) (ls st : List aV) (μ : aM) (g : Nat) : W (n + 1) 15 ls st μ g = (sLd 0 16 isR) (W n) ls st μ g := (hW n 15 ls st μ g).trans rfl
theorem wX5_manyAt_16 {l : Launch} {K : aRs} {X : aXs} {J : aK} {W : Nat → aK} (hW : isW (tbX5_manyAt l K X) cuX5_manyAt J W) (n : Nat) (ls st : List aV) (μ : aM) (g : Nat) : W (n + 1) 16 ls st μ g = (sLd 4 18 isI) (W n) ls st μ g := (hW n 16 ls st μ g).trans rfl
theorem wX5_manyAt_18 {l : Launch} {K : aRs} {X : aXs} {J : aK} {W : Nat → aK} (hW : isW (tbX5_manyAt l K X) cuX5_manyAt J W) (n : Nat) (ls st : List aV) (μ : aM) (g : Nat) : W (n + 1) 18 ls st μ g = (sLd 1 19 isI) (W n) ls st μ g := (hW n 18 ls st μ g).trans rfl
theorem wX5_manyAt_19 {l : Launch} {K : aRs} {X : aXs} {J : aK} {W : Nat → aK} (hW : isW (tbX5_manyAt l K X) cuX5_manyAt J W) (n : Nat) (ls st : List aV) (μ : aM) (g : Nat) : W (n + 1) 19 ls st μ g = (sLd 2 20 isI) (W n) ls st μ g := (hW n 19 ls st μ g).trans rfl
theorem wX5_manyAt_20 {l : Launch} {K : aRs} {X : aXs} {J : aK} {W : Nat → aK} (hW : isW (tbX5_manyAt l K X) cuX5_manyAt J W) (n : Nat) (ls st : List aV) (μ : aM) (g : Nat) : W (n + 1) 20 ls st μ g = (sCallV 3 5 (fun as μ K => Ct l mdX5_isAt as μ K X) 23 0 0) (W n) ls st μ g := (hW n 20 ls st μ g).trans rfl
theorem tX5_manyAt_23 (l : Launch) (K : aRs) (X : aXs) : tb (tbX5_manyAt l K X) 23 = sIf pEq 30 26 := (rfl)
theorem wX5_manyAt_23 {l : Launch} {K : aRs} {X : aXs} {J : aK} {W : Nat → aK} (hW : isW (tbX5_manyAt l K X) cuX5_manyAt J W) (n : Nat) (ls st : List aV) (μ : aM) (g : Nat) : W (n + 1) 23 ls st μ g = J 23 ls st μ g := (hW n 23 ls st μ g).trans rfl
theorem wX5_manyAt_26 {l : Launch} {K : aRs} {X : aXs} {J : aK} {W : Nat → aK} (hW : isW (tbX5_manyAt l K X) cuX5_manyAt J W) (n : Nat) (ls st : List aV) (μ : aM) (g : Nat) : W (n + 1) 26 ls st μ g = (sPush (aI 1) 27) (W n) ls st μ g := (hW n 26 ls st μ g).trans rfl
theorem wX5_manyAt_27 {l : Launch} {K : aRs} {X : aXs} {J : aK} {W : Nat → aK} (hW : isW (tbX5_manyAt l K X) cuX5_manyAt J W) (n : Nat) (ls st : List aV) (μ : aM) (g : Nat) : W (n + 1) 27 ls st μ g = (sGoto 31) (W n) ls st μ g := (hW n 27 ls st μ g).trans rfl
theorem wX5_manyAt_30 {l : Launch} {K : aRs} {X : aXs} {J : aK} {W : Nat → aK} (hW : isW (tbX5_manyAt l K X) cuX5_manyAt J W) (n : Nat) (ls st : List aV) (μ : aM) (g : Nat) : W (n + 1) 30 ls st μ g = (sPush (aI 0) 31) (W n) ls st μ g := (hW n 30 ls st μ g).trans rfl
theorem wX5_manyAt_31 {l : Launch} {K : aRs} {X : aXs} {J : aK} {W : Nat → aK} (hW : isW (tbX5_manyAt l K X) cuX5_manyAt J W) (n : Nat) (ls st : List aV) (μ : aM) (g : Nat) : W (n + 1) 31 ls st μ g = (sBin fAdd 32) (W n) ls st μ g := (hW n 31 ls st μ g).trans rfl
theorem wX5_manyAt_32 {l : Launch} {K : aRs} {X : aXs} {J : aK} {W : Nat → aK} (hW : isW (tbX5_manyAt l K X) cuX5_manyAt J W) (n : Nat) (ls st : List aV) (μ : aM) (g : Nat) : W (n + 1) 32 ls st μ g = (sSt 3 33 isI) (W n) ls st μ g := (hW n 32 ls st μ g).trans rfl
theorem wX5_manyAt_33 {l : Launch} {K : aRs} {X : aXs} {J : aK} {W : Nat → aK} (hW : isW (tbX5_manyAt l K X) cuX5_manyAt J W) (n : Nat) (ls st : List aV) (μ : aM) (g : Nat) : W (n + 1) 33 ls st μ g = (sInc 4 1 36) (W n) ls st μ g := (hW n 33 ls st μ g).trans rfl
theorem wX5_manyAt_36 {l : Launch} {K : aRs} {X : aXs} {J : aK} {W : Nat → aK} (hW : isW (tbX5_manyAt l K X) cuX5_manyAt J W) (n : Nat) (ls st : List aV) (μ : aM) (g : Nat) : W (n + 1) 36 ls st μ g = (sGoto 5) (W n) ls st μ g := (hW n 36 ls st μ g).trans rfl
theorem wX5_manyAt_39 {l : Launch} {K : aRs} {X : aXs} {J : aK} {W : Nat → aK} (hW : isW (tbX5_manyAt l K X) cuX5_manyAt J W) (n : Nat) (ls st : List aV) (μ : aM) (g : Nat) : W (n + 1) 39 ls st μ g = (sLd 3 40 isI) (W n) ls st μ g := (hW n 39 ls st μ g).trans rfl
theorem wX5_manyAt_40 {l : Launch} {K : aRs} {X : aXs} {J : aK} {W : Nat → aK} (hW : isW (tbX5_manyAt l K X) cuX5_manyAt J W) (n : Nat) (ls st : List aV) (μ : aM) (g : Nat) : W (n + 1) 40 ls st μ g = (sRetI .int 0 K) (W n) ls st μ g := (hW n 40 ls st μ g).trans rfl
theorem dX5_price_0 : decode cX5_price 0 = .ok (.iconst 0, 1) := by decide +kernel
theorem dX5_price_1 : decode cX5_price 1 = .ok (.istore_n 3, 1) := by decide +kernel
theorem dX5_price_2 : decode cX5_price 2 = .ok (.iconst 1, 1) := by decide +kernel
theorem dX5_price_3 : decode cX5_price 3 = .ok (.istore 4, 2) := by decide +kernel
theorem dX5_price_5 : decode cX5_price 5 = .ok (.iload 4, 2) := by decide +kernel
theorem dX5_price_7 : decode cX5_price 7 = .ok (.sipush 300, 3) := by decide +kernel
theorem dX5_price_10 : decode cX5_price 10 = .ok (.if_icmp .gt 52, 3) := by decide +kernel
theorem dX5_price_13 : decode cX5_price 13 = .ok (.iload_n 1, 1) := by decide +kernel
theorem dX5_price_14 : decode cX5_price 14 = .ok (.bipush 98, 2) := by decide +kernel
theorem dX5_price_16 : decode cX5_price 16 = .ok (.if_icmp .ne 12, 3) := by decide +kernel
theorem dX5_price_19 : decode cX5_price 19 = .ok (.sipush 301, 3) := by decide +kernel
theorem dX5_price_22 : decode cX5_price 22 = .ok (.iload 4, 2) := by decide +kernel
theorem dX5_price_24 : decode cX5_price 24 = .ok (.isub, 1) := by decide +kernel
theorem dX5_price_25 : decode cX5_price 25 = .ok (.goto 5, 3) := by decide +kernel
theorem dX5_price_28 : decode cX5_price 28 = .ok (.iload 4, 2) := by decide +kernel
theorem dX5_price_30 : decode cX5_price 30 = .ok (.istore 5, 2) := by decide +kernel
theorem dX5_price_32 : decode cX5_price 32 = .ok (.aload_n 0, 1) := by decide +kernel
theorem dX5_price_33 : decode cX5_price 33 = .ok (.iload_n 1, 1) := by decide +kernel
theorem dX5_price_34 : decode cX5_price 34 = .ok (.iload 5, 2) := by decide +kernel
theorem dX5_price_36 : decode cX5_price 36 = .ok (.invokevirtual 179, 3) := by decide +kernel
theorem dX5_price_39 : decode cX5_price 39 = .ok (.ifCond .ne 6, 3) := by decide +kernel
theorem dX5_price_42 : decode cX5_price 42 = .ok (.goto 14, 3) := by decide +kernel
theorem dX5_price_45 : decode cX5_price 45 = .ok (.iload_n 3, 1) := by decide +kernel
theorem dX5_price_46 : decode cX5_price 46 = .ok (.iload_n 2, 1) := by decide +kernel
theorem dX5_price_47 : decode cX5_price 47 = .ok (.if_icmp .ne 6, 3) := by decide +kernel
theorem dX5_price_50 : decode cX5_price 50 = .ok (.iload 5, 2) := by decide +kernel
theorem dX5_price_52 : decode cX5_price 52 = .ok (.ireturn, 1) := by decide +kernel
theorem dX5_price_53 : decode cX5_price 53 = .ok (.iinc 3 1, 3) := by decide +kernel
theorem dX5_price_56 : decode cX5_price 56 = .ok (.iinc 4 1, 3) := by decide +kernel
theorem dX5_price_59 : decode cX5_price 59 = .ok (.goto (-54), 3) := by decide +kernel
theorem dX5_price_62 : decode cX5_price 62 = .ok (.iconst 0, 1) := by decide +kernel
theorem dX5_price_63 : decode cX5_price 63 = .ok (.ireturn, 1) := by decide +kernel
def tbX5_price (l : Launch) (K : aRs) (X : aXs) : aTb := [
  (0, sPush (aI 0) 1),
  (1, sSt 3 2 isI),
  (2, sPush (aI 1) 3),
  (3, sSt 4 5 isI),
  (5, sLd 4 7 isI),
  (7, sPush (aI 300) 10),
  (10, sIc qGt 62 13),
  (13, sLd 1 14 isI),
  (14, sPush (aI 98) 16),
  (16, sIc qNe 28 19),
  (19, sPush (aI 301) 22),
  (22, sLd 4 24 isI),
  (24, sBin fSub 25),
  (25, sGoto 30),
  (28, sLd 4 30 isI),
  (30, sSt 5 32 isI),
  (32, sLd 0 33 isR),
  (33, sLd 1 34 isI),
  (34, sLd 5 36 isI),
  (36, sCallV 2 5 (fun as μ K => Ct l mdX5_manyAt as μ K X) 39 0 0),
  (39, sIf pNe 45 42),
  (42, sGoto 56),
  (45, sLd 3 46 isI),
  (46, sLd 2 47 isI),
  (47, sIc qNe 53 50),
  (50, sLd 5 52 isI),
  (52, sRetI .int 0 K),
  (53, sInc 3 1 56),
  (56, sInc 4 1 59),
  (59, sGoto 5),
  (62, sPush (aI 0) 63),
  (63, sRetI .int 0 K)]
theorem snX5_price (l : Launch) (K : aRs) (X : aXs) (n0 : Nat) : ∀ q ∈ tbX5_price l K X, aSo l mdX5_price K X n0 q.1 q.2 :=
  tc (fun p e s m args below meth c cA D A ad0 h => ok_iconst h.1 ⟨by decide, by decide⟩ dX5_price_0) <|
  tc (fun p e s m args below meth c cA D A ad0 h => ok_istore_n h.1 3 rfl (by decide) dX5_price_1) <|
  tc (fun p e s m args below meth c cA D A ad0 h => ok_iconst h.1 ⟨by decide, by decide⟩ dX5_price_2) <|
  tc (fun p e s m args below meth c cA D A ad0 h => ok_istore h.1 (by decide) dX5_price_3) <|
  tc (fun p e s m args below meth c cA D A ad0 h => ok_iload h.1 dX5_price_5) <|
  tc (fun p e s m args below meth c cA D A ad0 h => ok_sipush h.1 ⟨by decide, by decide⟩ (by decide) dX5_price_7) <|
  tc (fun p e s m args below meth c cA D A ad0 h => ok_icmp_gt h.1 62 (by decide) dX5_price_10) <|
  tc (fun p e s m args below meth c cA D A ad0 h => ok_iload_n h.1 1 rfl dX5_price_13) <|
  tc (fun p e s m args below meth c cA D A ad0 h => ok_bipush h.1 ⟨by decide, by decide⟩ (by decide) dX5_price_14) <|
  tc (fun p e s m args below meth c cA D A ad0 h => ok_icmp_ne h.1 28 (by decide) dX5_price_16) <|
  tc (fun p e s m args below meth c cA D A ad0 h => ok_sipush h.1 ⟨by decide, by decide⟩ (by decide) dX5_price_19) <|
  tc (fun p e s m args below meth c cA D A ad0 h => ok_iload h.1 dX5_price_22) <|
  tc (fun p e s m args below meth c cA D A ad0 h => ok_isub h.1 dX5_price_24) <|
  tc (fun p e s m args below meth c cA D A ad0 h => ok_goto h.1 30 (by decide) dX5_price_25) <|
  tc (fun p e s m args below meth c cA D A ad0 h => ok_iload h.1 dX5_price_28) <|
  tc (fun p e s m args below meth c cA D A ad0 h => ok_istore h.1 (by decide) dX5_price_30) <|
  tc (fun p e s m args below meth c cA D A ad0 h => ok_aload_n h.1 0 rfl dX5_price_32) <|
  tc (fun p e s m args below meth c cA D A ad0 h => ok_iload_n h.1 1 rfl dX5_price_33) <|
  tc (fun p e s m args below meth c cA D A ad0 h => ok_iload h.1 dX5_price_34) <|
  tc (fun p e s m args below meth c cA D A ad0 h => ok_callV h.1 h.2.1 ⟨Nat.le_refl _, Nat.le_refl _⟩ mdX5_manyAt siX5_manyAt cxX5 mkRX5_179 imX5_manyAt seX5_manyAt ⟨by decide, by decide⟩ (aAx_out h.1 h.2.2.1 _) dX5_price_36) <|
  tc (fun p e s m args below meth c cA D A ad0 h => ok_if_ne h.1 45 (by decide) dX5_price_39) <|
  tc (fun p e s m args below meth c cA D A ad0 h => ok_goto h.1 56 (by decide) dX5_price_42) <|
  tc (fun p e s m args below meth c cA D A ad0 h => ok_iload_n h.1 3 rfl dX5_price_45) <|
  tc (fun p e s m args below meth c cA D A ad0 h => ok_iload_n h.1 2 rfl dX5_price_46) <|
  tc (fun p e s m args below meth c cA D A ad0 h => ok_icmp_ne h.1 53 (by decide) dX5_price_47) <|
  tc (fun p e s m args below meth c cA D A ad0 h => ok_iload h.1 dX5_price_50) <|
  tc (fun p e s m args below meth c cA D A ad0 h => ok_ireturn h.1 h.2.2.2.1 (Or.inl rfl) dX5_price_52) <|
  tc (fun p e s m args below meth c cA D A ad0 h => ok_iinc h.1 (by decide) dX5_price_53) <|
  tc (fun p e s m args below meth c cA D A ad0 h => ok_iinc h.1 (by decide) dX5_price_56) <|
  tc (fun p e s m args below meth c cA D A ad0 h => ok_goto h.1 5 (by decide) dX5_price_59) <|
  tc (fun p e s m args below meth c cA D A ad0 h => ok_iconst h.1 ⟨by decide, by decide⟩ dX5_price_62) <|
  tc (fun p e s m args below meth c cA D A ad0 h => ok_ireturn h.1 h.2.2.2.1 (Or.inl rfl) dX5_price_63) <|
  tn
abbrev cuX5_price : List Nat := [5, 39]
theorem tX5_price_0 (l : Launch) (K : aRs) (X : aXs) : tb (tbX5_price l K X) 0 = sPush (aI 0) 1 := (rfl)
theorem wX5_price_0 {l : Launch} {K : aRs} {X : aXs} {J : aK} {W : Nat → aK} (hW : isW (tbX5_price l K X) cuX5_price J W) (n : Nat) (ls st : List aV) (μ : aM) (g : Nat) : W (n + 1) 0 ls st μ g = (sPush (aI 0) 1) (W n) ls st μ g := (hW n 0 ls st μ g).trans rfl
theorem wX5_price_1 {l : Launch} {K : aRs} {X : aXs} {J : aK} {W : Nat → aK} (hW : isW (tbX5_price l K X) cuX5_price J W) (n : Nat) (ls st : List aV) (μ : aM) (g : Nat) : W (n + 1) 1 ls st μ g = (sSt 3 2 isI) (W n) ls st μ g := (hW n 1 ls st μ g).trans rfl
theorem wX5_price_2 {l : Launch} {K : aRs} {X : aXs} {J : aK} {W : Nat → aK} (hW : isW (tbX5_price l K X) cuX5_price J W) (n : Nat) (ls st : List aV) (μ : aM) (g : Nat) : W (n + 1) 2 ls st μ g = (sPush (aI 1) 3) (W n) ls st μ g := (hW n 2 ls st μ g).trans rfl
theorem wX5_price_3 {l : Launch} {K : aRs} {X : aXs} {J : aK} {W : Nat → aK} (hW : isW (tbX5_price l K X) cuX5_price J W) (n : Nat) (ls st : List aV) (μ : aM) (g : Nat) : W (n + 1) 3 ls st μ g = (sSt 4 5 isI) (W n) ls st μ g := (hW n 3 ls st μ g).trans rfl
theorem tX5_price_5 (l : Launch) (K : aRs) (X : aXs) : tb (tbX5_price l K X) 5 = sLd 4 7 isI := (rfl)
theorem wX5_price_5 {l : Launch} {K : aRs} {X : aXs} {J : aK} {W : Nat → aK} (hW : isW (tbX5_price l K X) cuX5_price J W) (n : Nat) (ls st : List aV) (μ : aM) (g : Nat) : W (n + 1) 5 ls st μ g = J 5 ls st μ g := (hW n 5 ls st μ g).trans rfl
theorem wX5_price_7 {l : Launch} {K : aRs} {X : aXs} {J : aK} {W : Nat → aK} (hW : isW (tbX5_price l K X) cuX5_price J W) (n : Nat) (ls st : List aV) (μ : aM) (g : Nat) : W (n + 1) 7 ls st μ g = (sPush (aI 300) 10) (W n) ls st μ g := (hW n 7 ls st μ g).trans rfl
theorem wX5_price_10 {l : Launch} {K : aRs} {X : aXs} {J : aK} {W : Nat → aK} (hW : isW (tbX5_price l K X) cuX5_price J W) (n : Nat) (ls st : List aV) (μ : aM) (g : Nat) : W (n + 1) 10 ls st μ g = (sIc qGt 62 13) (W n) ls st μ g := (hW n 10 ls st μ g).trans rfl
theorem wX5_price_13 {l : Launch} {K : aRs} {X : aXs} {J : aK} {W : Nat → aK} (hW : isW (tbX5_price l K X) cuX5_price J W) (n : Nat) (ls st : List aV) (μ : aM) (g : Nat) : W (n + 1) 13 ls st μ g = (sLd 1 14 isI) (W n) ls st μ g := (hW n 13 ls st μ g).trans rfl
theorem wX5_price_14 {l : Launch} {K : aRs} {X : aXs} {J : aK} {W : Nat → aK} (hW : isW (tbX5_price l K X) cuX5_price J W) (n : Nat) (ls st : List aV) (μ : aM) (g : Nat) : W (n + 1) 14 ls st μ g = (sPush (aI 98) 16) (W n) ls st μ g := (hW n 14 ls st μ g).trans rfl
theorem wX5_price_16 {l : Launch} {K : aRs} {X : aXs} {J : aK} {W : Nat → aK} (hW : isW (tbX5_price l K X) cuX5_price J W) (n : Nat) (ls st : List aV) (μ : aM) (g : Nat) : W (n + 1) 16 ls st μ g = (sIc qNe 28 19) (W n) ls st μ g := (hW n 16 ls st μ g).trans rfl
theorem wX5_price_19 {l : Launch} {K : aRs} {X : aXs} {J : aK} {W : Nat → aK} (hW : isW (tbX5_price l K X) cuX5_price J W) (n : Nat) (ls st : List aV) (μ : aM) (g : Nat) : W (n + 1) 19 ls st μ g = (sPush (aI 301) 22) (W n) ls st μ g := (hW n 19 ls st μ g).trans rfl
theorem wX5_price_22 {l : Launch} {K : aRs} {X : aXs} {J : aK} {W : Nat → aK} (hW : isW (tbX5_price l K X) cuX5_price J W) (n : Nat) (ls st : List aV) (μ : aM) (g : Nat) : W (n + 1) 22 ls st μ g = (sLd 4 24 isI) (W n) ls st μ g := (hW n 22 ls st μ g).trans rfl
theorem wX5_price_24 {l : Launch} {K : aRs} {X : aXs} {J : aK} {W : Nat → aK} (hW : isW (tbX5_price l K X) cuX5_price J W) (n : Nat) (ls st : List aV) (μ : aM) (g : Nat) : W (n + 1) 24 ls st μ g = (sBin fSub 25) (W n) ls st μ g := (hW n 24 ls st μ g).trans rfl
theorem wX5_price_25 {l : Launch} {K : aRs} {X : aXs} {J : aK} {W : Nat → aK} (hW : isW (tbX5_price l K X) cuX5_price J W) (n : Nat) (ls st : List aV) (μ : aM) (g : Nat) : W (n + 1) 25 ls st μ g = (sGoto 30) (W n) ls st μ g := (hW n 25 ls st μ g).trans rfl
theorem wX5_price_28 {l : Launch} {K : aRs} {X : aXs} {J : aK} {W : Nat → aK} (hW : isW (tbX5_price l K X) cuX5_price J W) (n : Nat) (ls st : List aV) (μ : aM) (g : Nat) : W (n + 1) 28 ls st μ g = (sLd 4 30 isI) (W n) ls st μ g := (hW n 28 ls st μ g).trans rfl
theorem wX5_price_30 {l : Launch} {K : aRs} {X : aXs} {J : aK} {W : Nat → aK} (hW : isW (tbX5_price l K X) cuX5_price J W) (n : Nat) (ls st : List aV) (μ : aM) (g : Nat) : W (n + 1) 30 ls st μ g = (sSt 5 32 isI) (W n) ls st μ g := (hW n 30 ls st μ g).trans rfl
theorem wX5_price_32 {l : Launch} {K : aRs} {X : aXs} {J : aK} {W : Nat → aK} (hW : isW (tbX5_price l K X) cuX5_price J W) (n : Nat) (ls st : List aV) (μ : aM) (g : Nat) : W (n + 1) 32 ls st μ g = (sLd 0 33 isR) (W n) ls st μ g := (hW n 32 ls st μ g).trans rfl
theorem wX5_price_33 {l : Launch} {K : aRs} {X : aXs} {J : aK} {W : Nat → aK} (hW : isW (tbX5_price l K X) cuX5_price J W) (n : Nat) (ls st : List aV) (μ : aM) (g : Nat) : W (n + 1) 33 ls st μ g = (sLd 1 34 isI) (W n) ls st μ g := (hW n 33 ls st μ g).trans rfl
theorem wX5_price_34 {l : Launch} {K : aRs} {X : aXs} {J : aK} {W : Nat → aK} (hW : isW (tbX5_price l K X) cuX5_price J W) (n : Nat) (ls st : List aV) (μ : aM) (g : Nat) : W (n + 1) 34 ls st μ g = (sLd 5 36 isI) (W n) ls st μ g := (hW n 34 ls st μ g).trans rfl
theorem wX5_price_36 {l : Launch} {K : aRs} {X : aXs} {J : aK} {W : Nat → aK} (hW : isW (tbX5_price l K X) cuX5_price J W) (n : Nat) (ls st : List aV) (μ : aM) (g : Nat) : W (n + 1) 36 ls st μ g = (sCallV 2 5 (fun as μ K => Ct l mdX5_manyAt as μ K X) 39 0 0) (W n) ls st μ g := (hW n 36 ls st μ g).trans rfl
theorem tX5_price_39 (l : Launch) (K : aRs) (X : aXs) : tb (tbX5_price l K X) 39 = sIf pNe 45 42 := (rfl)
theorem wX5_price_39 {l : Launch} {K : aRs} {X : aXs} {J : aK} {W : Nat → aK} (hW : isW (tbX5_price l K X) cuX5_price J W) (n : Nat) (ls st : List aV) (μ : aM) (g : Nat) : W (n + 1) 39 ls st μ g = J 39 ls st μ g := (hW n 39 ls st μ g).trans rfl
theorem wX5_price_42 {l : Launch} {K : aRs} {X : aXs} {J : aK} {W : Nat → aK} (hW : isW (tbX5_price l K X) cuX5_price J W) (n : Nat) (ls st : List aV) (μ : aM) (g : Nat) : W (n + 1) 42 ls st μ g = (sGoto 56) (W n) ls st μ g := (hW n 42 ls st μ g).trans rfl
theorem wX5_price_45 {l : Launch} {K : aRs} {X : aXs} {J : aK} {W : Nat → aK} (hW : isW (tbX5_price l K X) cuX5_price J W) (n : Nat) (ls st : List aV) (μ : aM) (g : Nat) : W (n + 1) 45 ls st μ g = (sLd 3 46 isI) (W n) ls st μ g := (hW n 45 ls st μ g).trans rfl
theorem wX5_price_46 {l : Launch} {K : aRs} {X : aXs} {J : aK} {W : Nat → aK} (hW : isW (tbX5_price l K X) cuX5_price J W) (n : Nat) (ls st : List aV) (μ : aM) (g : Nat) : W (n + 1) 46 ls st μ g = (sLd 2 47 isI) (W n) ls st μ g := (hW n 46 ls st μ g).trans rfl
theorem wX5_price_47 {l : Launch} {K : aRs} {X : aXs} {J : aK} {W : Nat → aK} (hW : isW (tbX5_price l K X) cuX5_price J W) (n : Nat) (ls st : List aV) (μ : aM) (g : Nat) : W (n + 1) 47 ls st μ g = (sIc qNe 53 50) (W n) ls st μ g := (hW n 47 ls st μ g).trans rfl
theorem wX5_price_50 {l : Launch} {K : aRs} {X : aXs} {J : aK} {W : Nat → aK} (hW : isW (tbX5_price l K X) cuX5_price J W) (n : Nat) (ls st : List aV) (μ : aM) (g : Nat) : W (n + 1) 50 ls st μ g = (sLd 5 52 isI) (W n) ls st μ g := (hW n 50 ls st μ g).trans rfl
theorem wX5_price_52 {l : Launch} {K : aRs} {X : aXs} {J : aK} {W : Nat → aK} (hW : isW (tbX5_price l K X) cuX5_price J W) (n : Nat) (ls st : List aV) (μ : aM) (g : Nat) : W (n + 1) 52 ls st μ g = (sRetI .int 0 K) (W n) ls st μ g := (hW n 52 ls st μ g).trans rfl
theorem wX5_price_53 {l : Launch} {K : aRs} {X : aXs} {J : aK} {W : Nat → aK} (hW : isW (tbX5_price l K X) cuX5_price J W) (n : Nat) (ls st : List aV) (μ : aM) (g : Nat) : W (n + 1) 53 ls st μ g = (sInc 3 1 56) (W n) ls st μ g := (hW n 53 ls st μ g).trans rfl
theorem wX5_price_56 {l : Launch} {K : aRs} {X : aXs} {J : aK} {W : Nat → aK} (hW : isW (tbX5_price l K X) cuX5_price J W) (n : Nat) (ls st : List aV) (μ : aM) (g : Nat) : W (n + 1) 56 ls st μ g = (sInc 4 1 59) (W n) ls st μ g := (hW n 56 ls st μ g).trans rfl
theorem wX5_price_59 {l : Launch} {K : aRs} {X : aXs} {J : aK} {W : Nat → aK} (hW : isW (tbX5_price l K X) cuX5_price J W) (n : Nat) (ls st : List aV) (μ : aM) (g : Nat) : W (n + 1) 59 ls st μ g = (sGoto 5) (W n) ls st μ g := (hW n 59 ls st μ g).trans rfl
theorem wX5_price_62 {l : Launch} {K : aRs} {X : aXs} {J : aK} {W : Nat → aK} (hW : isW (tbX5_price l K X) cuX5_price J W) (n : Nat) (ls st : List aV) (μ : aM) (g : Nat) : W (n + 1) 62 ls st μ g = (sPush (aI 0) 63) (W n) ls st μ g := (hW n 62 ls st μ g).trans rfl
theorem wX5_price_63 {l : Launch} {K : aRs} {X : aXs} {J : aK} {W : Nat → aK} (hW : isW (tbX5_price l K X) cuX5_price J W) (n : Nat) (ls st : List aV) (μ : aM) (g : Nat) : W (n + 1) 63 ls st μ g = (sRetI .int 0 K) (W n) ls st μ g := (hW n 63 ls st μ g).trans rfl
theorem dX5_levels_0 : decode cX5_levels 0 = .ok (.aload_n 0, 1) := by decide +kernel
theorem dX5_levels_1 : decode cX5_levels 1 = .ok (.iload_n 1, 1) := by decide +kernel
theorem dX5_levels_2 : decode cX5_levels 2 = .ok (.invokestatic 137, 3) := by decide +kernel
theorem dX5_levels_5 : decode cX5_levels 5 = .ok (.ifCond .eq 7, 3) := by decide +kernel
theorem dX5_levels_8 : decode cX5_levels 8 = .ok (.iconst 0, 1) := by decide +kernel
theorem dX5_levels_9 : decode cX5_levels 9 = .ok (.goto 4, 3) := by decide +kernel
theorem dX5_levels_12 : decode cX5_levels 12 = .ok (.iconst 1, 1) := by decide +kernel
theorem dX5_levels_13 : decode cX5_levels 13 = .ok (.invokevirtual 148, 3) := by decide +kernel
theorem dX5_levels_16 : decode cX5_levels 16 = .ok (.ifCond .eq 5, 3) := by decide +kernel
theorem dX5_levels_19 : decode cX5_levels 19 = .ok (.iconst 0, 1) := by decide +kernel
theorem dX5_levels_20 : decode cX5_levels 20 = .ok (.ireturn, 1) := by decide +kernel
theorem dX5_levels_21 : decode cX5_levels 21 = .ok (.iconst 0, 1) := by decide +kernel
theorem dX5_levels_22 : decode cX5_levels 22 = .ok (.istore_n 2, 1) := by decide +kernel
theorem dX5_levels_23 : decode cX5_levels 23 = .ok (.aload_n 0, 1) := by decide +kernel
theorem dX5_levels_24 : decode cX5_levels 24 = .ok (.iload_n 1, 1) := by decide +kernel
theorem dX5_levels_25 : decode cX5_levels 25 = .ok (.iload_n 2, 1) := by decide +kernel
theorem dX5_levels_26 : decode cX5_levels 26 = .ok (.invokevirtual 183, 3) := by decide +kernel
theorem dX5_levels_29 : decode cX5_levels 29 = .ok (.ifCond .le 9, 3) := by decide +kernel
theorem dX5_levels_32 : decode cX5_levels 32 = .ok (.iinc 2 1, 3) := by decide +kernel
theorem dX5_levels_35 : decode cX5_levels 35 = .ok (.goto (-12), 3) := by decide +kernel
theorem dX5_levels_38 : decode cX5_levels 38 = .ok (.iload_n 2, 1) := by decide +kernel
theorem dX5_levels_39 : decode cX5_levels 39 = .ok (.ireturn, 1) := by decide +kernel
def tbX5_levels (l : Launch) (K : aRs) (X : aXs) : aTb := [
  (0, sLd 0 1 isR),
  (1, sLd 1 2 isI),
  (2, sCallS 1 (fun as μ K => Ct l mdX5_isSide as μ K X) 5 0 0),
  (5, sIf pEq 12 8),
  (8, sPush (aI 0) 9),
  (9, sGoto 13),
  (12, sPush (aI 1) 13),
  (13, sCallV 1 5 (fun as μ K => Ct l mdX5_fails as μ K X) 16 0 0),
  (16, sIf pEq 21 19),
  (19, sPush (aI 0) 20),
  (20, sRetI .int 0 K),
  (21, sPush (aI 0) 22),
  (22, sSt 2 23 isI),
  (23, sLd 0 24 isR),
  (24, sLd 1 25 isI),
  (25, sLd 2 26 isI),
  (26, sCallV 2 5 (fun as μ K => Ct l mdX5_price as μ K X) 29 0 0),
  (29, sIf pLe 38 32),
  (32, sInc 2 1 35),
  (35, sGoto 23),
  (38, sLd 2 39 isI),
  (39, sRetI .int 0 K)]
theorem snX5_levels (l : Launch) (K : aRs) (X : aXs) (n0 : Nat) : ∀ q ∈ tbX5_levels l K X, aSo l mdX5_levels K X n0 q.1 q.2 :=
  tc (fun p e s m args below meth c cA D A ad0 h => ok_aload_n h.1 0 rfl dX5_levels_0) <|
  tc (fun p e s m args below meth c cA D A ad0 h => ok_iload_n h.1 1 rfl dX5_levels_1) <|
  tc (fun p e s m args below meth c cA D A ad0 h => ok_callS h.1 h.2.1 ⟨Nat.le_refl _, Nat.le_refl _⟩ mdX5_isSide siX5_isSide mkRX5_137 stX5_isSide ⟨by decide, by decide⟩ (aAx_out h.1 h.2.2.1 _) dX5_levels_2) <|
  tc (fun p e s m args below meth c cA D A ad0 h => ok_if_eq h.1 12 (by decide) dX5_levels_5) <|
  tc (fun p e s m args below meth c cA D A ad0 h => ok_iconst h.1 ⟨by decide, by decide⟩ dX5_levels_8) <|
  tc (fun p e s m args below meth c cA D A ad0 h => ok_goto h.1 13 (by decide) dX5_levels_9) <|
  tc (fun p e s m args below meth c cA D A ad0 h => ok_iconst h.1 ⟨by decide, by decide⟩ dX5_levels_12) <|
  tc (fun p e s m args below meth c cA D A ad0 h => ok_callV h.1 h.2.1 ⟨Nat.le_refl _, Nat.le_refl _⟩ mdX5_fails siX5_fails cxX5 mkRX5_148 imX5_fails seX5_fails ⟨by decide, by decide⟩ (aAx_out h.1 h.2.2.1 _) dX5_levels_13) <|
  tc (fun p e s m args below meth c cA D A ad0 h => ok_if_eq h.1 21 (by decide) dX5_levels_16) <|
  tc (fun p e s m args below meth c cA D A ad0 h => ok_iconst h.1 ⟨by decide, by decide⟩ dX5_levels_19) <|
  tc (fun p e s m args below meth c cA D A ad0 h => ok_ireturn h.1 h.2.2.2.1 (Or.inl rfl) dX5_levels_20) <|
  tc (fun p e s m args below meth c cA D A ad0 h => ok_iconst h.1 ⟨by decide, by decide⟩ dX5_levels_21) <|
  tc (fun p e s m args below meth c cA D A ad0 h => ok_istore_n h.1 2 rfl (by decide) dX5_levels_22) <|
  tc (fun p e s m args below meth c cA D A ad0 h => ok_aload_n h.1 0 rfl dX5_levels_23) <|
  tc (fun p e s m args below meth c cA D A ad0 h => ok_iload_n h.1 1 rfl dX5_levels_24) <|
  tc (fun p e s m args below meth c cA D A ad0 h => ok_iload_n h.1 2 rfl dX5_levels_25) <|
  tc (fun p e s m args below meth c cA D A ad0 h => ok_callV h.1 h.2.1 ⟨Nat.le_refl _, Nat.le_refl _⟩ mdX5_price siX5_price cxX5 mkRX5_183 imX5_price seX5_price ⟨by decide, by decide⟩ (aAx_out h.1 h.2.2.1 _) dX5_levels_26) <|
  tc (fun p e s m args below meth c cA D A ad0 h => ok_if_le h.1 38 (by decide) dX5_levels_29) <|
  tc (fun p e s m args below meth c cA D A ad0 h => ok_iinc h.1 (by decide) dX5_levels_32) <|
  tc (fun p e s m args below meth c cA D A ad0 h => ok_goto h.1 23 (by decide) dX5_levels_35) <|
  tc (fun p e s m args below meth c cA D A ad0 h => ok_iload_n h.1 2 rfl dX5_levels_38) <|
  tc (fun p e s m args below meth c cA D A ad0 h => ok_ireturn h.1 h.2.2.2.1 (Or.inl rfl) dX5_levels_39) <|
  tn
abbrev cuX5_levels : List Nat := [5, 16, 23, 29]
theorem tX5_levels_0 (l : Launch) (K : aRs) (X : aXs) : tb (tbX5_levels l K X) 0 = sLd 0 1 isR := (rfl)
theorem wX5_levels_0 {l : Launch} {K : aRs} {X : aXs} {J : aK} {W : Nat → aK} (hW : isW (tbX5_levels l K X) cuX5_levels J W) (n : Nat) (ls st : List aV) (μ : aM) (g : Nat) : W (n + 1) 0 ls st μ g = (sLd 0 1 isR) (W n) ls st μ g := (hW n 0 ls st μ g).trans rfl
theorem wX5_levels_1 {l : Launch} {K : aRs} {X : aXs} {J : aK} {W : Nat → aK} (hW : isW (tbX5_levels l K X) cuX5_levels J W) (n : Nat) (ls st : List aV) (μ : aM) (g : Nat) : W (n + 1) 1 ls st μ g = (sLd 1 2 isI) (W n) ls st μ g := (hW n 1 ls st μ g).trans rfl
theorem wX5_levels_2 {l : Launch} {K : aRs} {X : aXs} {J : aK} {W : Nat → aK} (hW : isW (tbX5_levels l K X) cuX5_levels J W) (n : Nat) (ls st : List aV) (μ : aM) (g : Nat) : W (n + 1) 2 ls st μ g = (sCallS 1 (fun as μ K => Ct l mdX5_isSide as μ K X) 5 0 0) (W n) ls st μ g := (hW n 2 ls st μ g).trans rfl
theorem tX5_levels_5 (l : Launch) (K : aRs) (X : aXs) : tb (tbX5_levels l K X) 5 = sIf pEq 12 8 := (rfl)
theorem wX5_levels_5 {l : Launch} {K : aRs} {X : aXs} {J : aK} {W : Nat → aK} (hW : isW (tbX5_levels l K X) cuX5_levels J W) (n : Nat) (ls st : List aV) (μ : aM) (g : Nat) : W (n + 1) 5 ls st μ g = J 5 ls st μ g := (hW n 5 ls st μ g).trans rfl
theorem wX5_levels_8 {l : Launch} {K : aRs} {X : aXs} {J : aK} {W : Nat → aK} (hW : isW (tbX5_levels l K X) cuX5_levels J W) (n : Nat) (ls st : List aV) (μ : aM) (g : Nat) : W (n + 1) 8 ls st μ g = (sPush (aI 0) 9) (W n) ls st μ g := (hW n 8 ls st μ g).trans rfl
theorem wX5_levels_9 {l : Launch} {K : aRs} {X : aXs} {J : aK} {W : Nat → aK} (hW : isW (tbX5_levels l K X) cuX5_levels J W) (n : Nat) (ls st : List aV) (μ : aM) (g : Nat) : W (n + 1) 9 ls st μ g = (sGoto 13) (W n) ls st μ g := (hW n 9 ls st μ g).trans rfl
theorem wX5_levels_12 {l : Launch} {K : aRs} {X : aXs} {J : aK} {W : Nat → aK} (hW : isW (tbX5_levels l K X) cuX5_levels J W) (n : Nat) (ls st : List aV) (μ : aM) (g : Nat) : W (n + 1) 12 ls st μ g = (sPush (aI 1) 13) (W n) ls st μ g := (hW n 12 ls st μ g).trans rfl
theorem wX5_levels_13 {l : Launch} {K : aRs} {X : aXs} {J : aK} {W : Nat → aK} (hW : isW (tbX5_levels l K X) cuX5_levels J W) (n : Nat) (ls st : List aV) (μ : aM) (g : Nat) : W (n + 1) 13 ls st μ g = (sCallV 1 5 (fun as μ K => Ct l mdX5_fails as μ K X) 16 0 0) (W n) ls st μ g := (hW n 13 ls st μ g).trans rfl
theorem tX5_levels_16 (l : Launch) (K : aRs) (X : aXs) : tb (tbX5_levels l K X) 16 = sIf pEq 21 19 := (rfl)
theorem wX5_levels_16 {l : Launch} {K : aRs} {X : aXs} {J : aK} {W : Nat → aK} (hW : isW (tbX5_levels l K X) cuX5_levels J W) (n : Nat) (ls st : List aV) (μ : aM) (g : Nat) : W (n + 1) 16 ls st μ g = J 16 ls st μ g := (hW n 16 ls st μ g).trans rfl
theorem wX5_levels_19 {l : Launch} {K : aRs} {X : aXs} {J : aK} {W : Nat → aK} (hW : isW (tbX5_levels l K X) cuX5_levels J W) (n : Nat) (ls st : List aV) (μ : aM) (g : Nat) : W (n + 1) 19 ls st μ g = (sPush (aI 0) 20) (W n) ls st μ g := (hW n 19 ls st μ g).trans rfl
theorem wX5_levels_20 {l : Launch} {K : aRs} {X : aXs} {J : aK} {W : Nat → aK} (hW : isW (tbX5_levels l K X) cuX5_levels J W) (n : Nat) (ls st : List aV) (μ : aM) (g : Nat) : W (n + 1) 20 ls st μ g = (sRetI .int 0 K) (W n) ls st μ g := (hW n 20 ls st μ g).trans rfl
theorem wX5_levels_21 {l : Launch} {K : aRs} {X : aXs} {J : aK} {W : Nat → aK} (hW : isW (tbX5_levels l K X) cuX5_levels J W) (n : Nat) (ls st : List aV) (μ : aM) (g : Nat) : W (n + 1) 21 ls st μ g = (sPush (aI 0) 22) (W n) ls st μ g := (hW n 21 ls st μ g).trans rfl
theorem wX5_levels_22 {l : Launch} {K : aRs} {X : aXs} {J : aK} {W : Nat → aK} (hW : isW (tbX5_levels l K X) cuX5_levels J W) (n : Nat) (ls st : List aV) (μ : aM) (g : Nat) : W (n + 1) 22 ls st μ g = (sSt 2 23 isI) (W n) ls st μ g := (hW n 22 ls st μ g).trans rfl
theorem tX5_levels_23 (l : Launch) (K : aRs) (X : aXs) : tb (tbX5_levels l K X) 23 = sLd 0 24 isR := (rfl)
theorem wX5_levels_23 {l : Launch} {K : aRs} {X : aXs} {J : aK} {W : Nat → aK} (hW : isW (tbX5_levels l K X) cuX5_levels J W) (n : Nat) (ls st : List aV) (μ : aM) (g : Nat) : W (n + 1) 23 ls st μ g = J 23 ls st μ g := (hW n 23 ls st μ g).trans rfl
theorem wX5_levels_24 {l : Launch} {K : aRs} {X : aXs} {J : aK} {W : Nat → aK} (hW : isW (tbX5_levels l K X) cuX5_levels J W) (n : Nat) (ls st : List aV) (μ : aM) (g : Nat) : W (n + 1) 24 ls st μ g = (sLd 1 25 isI) (W n) ls st μ g := (hW n 24 ls st μ g).trans rfl
theorem wX5_levels_25 {l : Launch} {K : aRs} {X : aXs} {J : aK} {W : Nat → aK} (hW : isW (tbX5_levels l K X) cuX5_levels J W) (n : Nat) (ls st : List aV) (μ : aM) (g : Nat) : W (n + 1) 25 ls st μ g = (sLd 2 26 isI) (W n) ls st μ g := (hW n 25 ls st μ g).trans rfl
theorem wX5_levels_26 {l : Launch} {K : aRs} {X : aXs} {J : aK} {W : Nat → aK} (hW : isW (tbX5_levels l K X) cuX5_levels J W) (n : Nat) (ls st : List aV) (μ : aM) (g : Nat) : W (n + 1) 26 ls st μ g = (sCallV 2 5 (fun as μ K => Ct l mdX5_price as μ K X) 29 0 0) (W n) ls st μ g := (hW n 26 ls st μ g).trans rfl
theorem tX5_levels_29 (l : Launch) (K : aRs) (X : aXs) : tb (tbX5_levels l K X) 29 = sIf pLe 38 32 := (rfl)
theorem wX5_levels_29 {l : Launch} {K : aRs} {X : aXs} {J : aK} {W : Nat → aK} (hW : isW (tbX5_levels l K X) cuX5_levels J W) (n : Nat) (ls st : List aV) (μ : aM) (g : Nat) : W (n + 1) 29 ls st μ g = J 29 ls st μ g := (hW n 29 ls st μ g).trans rfl
theorem wX5_levels_32 {l : Launch} {K : aRs} {X : aXs} {J : aK} {W : Nat → aK} (hW : isW (tbX5_levels l K X) cuX5_levels J W) (n : Nat) (ls st : List aV) (μ : aM) (g : Nat) : W (n + 1) 32 ls st μ g = (sInc 2 1 35) (W n) ls st μ g := (hW n 32 ls st μ g).trans rfl
theorem wX5_levels_35 {l : Launch} {K : aRs} {X : aXs} {J : aK} {W : Nat → aK} (hW : isW (tbX5_levels l K X) cuX5_levels J W) (n : Nat) (ls st : List aV) (μ : aM) (g : Nat) : W (n + 1) 35 ls st μ g = (sGoto 23) (W n) ls st μ g := (hW n 35 ls st μ g).trans rfl
theorem wX5_levels_38 {l : Launch} {K : aRs} {X : aXs} {J : aK} {W : Nat → aK} (hW : isW (tbX5_levels l K X) cuX5_levels J W) (n : Nat) (ls st : List aV) (μ : aM) (g : Nat) : W (n + 1) 38 ls st μ g = (sLd 2 39 isI) (W n) ls st μ g := (hW n 38 ls st μ g).trans rfl
theorem wX5_levels_39 {l : Launch} {K : aRs} {X : aXs} {J : aK} {W : Nat → aK} (hW : isW (tbX5_levels l K X) cuX5_levels J W) (n : Nat) (ls st : List aV) (μ : aM) (g : Nat) : W (n + 1) 39 ls st μ g = (sRetI .int 0 K) (W n) ls st μ g := (hW n 39 ls st μ g).trans rfl
theorem dX5_isNoLevel_0 : decode cX5_isNoLevel 0 = .ok (.aload_n 0, 1) := by decide +kernel
theorem dX5_isNoLevel_1 : decode cX5_isNoLevel 1 = .ok (.iload_n 1, 1) := by decide +kernel
theorem dX5_isNoLevel_2 : decode cX5_isNoLevel 2 = .ok (.invokestatic 137, 3) := by decide +kernel
theorem dX5_isNoLevel_5 : decode cX5_isNoLevel 5 = .ok (.ifCond .ne 7, 3) := by decide +kernel
theorem dX5_isNoLevel_8 : decode cX5_isNoLevel 8 = .ok (.iconst 1, 1) := by decide +kernel
theorem dX5_isNoLevel_9 : decode cX5_isNoLevel 9 = .ok (.goto 17, 3) := by decide +kernel
theorem dX5_isNoLevel_12 : decode cX5_isNoLevel 12 = .ok (.aload_n 0, 1) := by decide +kernel
theorem dX5_isNoLevel_13 : decode cX5_isNoLevel 13 = .ok (.iload_n 1, 1) := by decide +kernel
theorem dX5_isNoLevel_14 : decode cX5_isNoLevel 14 = .ok (.iload_n 2, 1) := by decide +kernel
theorem dX5_isNoLevel_15 : decode cX5_isNoLevel 15 = .ok (.invokevirtual 183, 3) := by decide +kernel
theorem dX5_isNoLevel_18 : decode cX5_isNoLevel 18 = .ok (.ifCond .ne 7, 3) := by decide +kernel
theorem dX5_isNoLevel_21 : decode cX5_isNoLevel 21 = .ok (.iconst 2, 1) := by decide +kernel
theorem dX5_isNoLevel_22 : decode cX5_isNoLevel 22 = .ok (.goto 4, 3) := by decide +kernel
theorem dX5_isNoLevel_25 : decode cX5_isNoLevel 25 = .ok (.iconst 0, 1) := by decide +kernel
theorem dX5_isNoLevel_26 : decode cX5_isNoLevel 26 = .ok (.invokevirtual 148, 3) := by decide +kernel
theorem dX5_isNoLevel_29 : decode cX5_isNoLevel 29 = .ok (.ireturn, 1) := by decide +kernel
def tbX5_isNoLevel (l : Launch) (K : aRs) (X : aXs) : aTb := [
  (0, sLd 0 1 isR),
  (1, sLd 1 2 isI),
  (2, sCallS 1 (fun as μ K => Ct l mdX5_isSide as μ K X) 5 0 0),
  (5, sIf pNe 12 8),
  (8, sPush (aI 1) 9),
  (9, sGoto 26),
  (12, sLd 0 13 isR),
  (13, sLd 1 14 isI),
  (14, sLd 2 15 isI),
  (15, sCallV 2 5 (fun as μ K => Ct l mdX5_price as μ K X) 18 0 0),
  (18, sIf pNe 25 21),
  (21, sPush (aI 2) 22),
  (22, sGoto 26),
  (25, sPush (aI 0) 26),
  (26, sCallV 1 5 (fun as μ K => Ct l mdX5_fails as μ K X) 29 0 0),
  (29, sRetI .boolean 0 K)]
theorem snX5_isNoLevel (l : Launch) (K : aRs) (X : aXs) (n0 : Nat) : ∀ q ∈ tbX5_isNoLevel l K X, aSo l mdX5_isNoLevel K X n0 q.1 q.2 :=
  tc (fun p e s m args below meth c cA D A ad0 h => ok_aload_n h.1 0 rfl dX5_isNoLevel_0) <|
  tc (fun p e s m args below meth c cA D A ad0 h => ok_iload_n h.1 1 rfl dX5_isNoLevel_1) <|
  tc (fun p e s m args below meth c cA D A ad0 h => ok_callS h.1 h.2.1 ⟨Nat.le_refl _, Nat.le_refl _⟩ mdX5_isSide siX5_isSide mkRX5_137 stX5_isSide ⟨by decide, by decide⟩ (aAx_out h.1 h.2.2.1 _) dX5_isNoLevel_2) <|
  tc (fun p e s m args below meth c cA D A ad0 h => ok_if_ne h.1 12 (by decide) dX5_isNoLevel_5) <|
  tc (fun p e s m args below meth c cA D A ad0 h => ok_iconst h.1 ⟨by decide, by decide⟩ dX5_isNoLevel_8) <|
  tc (fun p e s m args below meth c cA D A ad0 h => ok_goto h.1 26 (by decide) dX5_isNoLevel_9) <|
  tc (fun p e s m args below meth c cA D A ad0 h => ok_aload_n h.1 0 rfl dX5_isNoLevel_12) <|
  tc (fun p e s m args below meth c cA D A ad0 h => ok_iload_n h.1 1 rfl dX5_isNoLevel_13) <|
  tc (fun p e s m args below meth c cA D A ad0 h => ok_iload_n h.1 2 rfl dX5_isNoLevel_14) <|
  tc (fun p e s m args below meth c cA D A ad0 h => ok_callV h.1 h.2.1 ⟨Nat.le_refl _, Nat.le_refl _⟩ mdX5_price siX5_price cxX5 mkRX5_183 imX5_price seX5_price ⟨by decide, by decide⟩ (aAx_out h.1 h.2.2.1 _) dX5_isNoLevel_15) <|
  tc (fun p e s m args below meth c cA D A ad0 h => ok_if_ne h.1 25 (by decide) dX5_isNoLevel_18) <|
  tc (fun p e s m args below meth c cA D A ad0 h => ok_iconst h.1 ⟨by decide, by decide⟩ dX5_isNoLevel_21) <|
  tc (fun p e s m args below meth c cA D A ad0 h => ok_goto h.1 26 (by decide) dX5_isNoLevel_22) <|
  tc (fun p e s m args below meth c cA D A ad0 h => ok_iconst h.1 ⟨by decide, by decide⟩ dX5_isNoLevel_25) <|
  tc (fun p e s m args below meth c cA D A ad0 h => ok_callV h.1 h.2.1 ⟨Nat.le_refl _, Nat.le_refl _⟩ mdX5_fails siX5_fails cxX5 mkRX5_148 imX5_fails seX5_fails ⟨by decide, by decide⟩ (aAx_out h.1 h.2.2.1 _) dX5_isNoLevel_26) <|
  tc (fun p e s m args below meth c cA D A ad0 h => ok_ireturn h.1 h.2.2.2.1 (Or.inr (Or.inl rfl)) dX5_isNoLevel_29) <|
  tn
abbrev cuX5_isNoLevel : List Nat := [5, 18, 29]
theorem tX5_isNoLevel_0 (l : Launch) (K : aRs) (X : aXs) : tb (tbX5_isNoLevel l K X) 0 = sLd 0 1 isR := (rfl)
theorem wX5_isNoLevel_0 {l : Launch} {K : aRs} {X : aXs} {J : aK} {W : Nat → aK} (hW : isW (tbX5_isNoLevel l K X) cuX5_isNoLevel J W) (n : Nat) (ls st : List aV) (μ : aM) (g : Nat) : W (n + 1) 0 ls st μ g = (sLd 0 1 isR) (W n) ls st μ g := (hW n 0 ls st μ g).trans rfl
theorem wX5_isNoLevel_1 {l : Launch} {K : aRs} {X : aXs} {J : aK} {W : Nat → aK} (hW : isW (tbX5_isNoLevel l K X) cuX5_isNoLevel J W) (n : Nat) (ls st : List aV) (μ : aM) (g : Nat) : W (n + 1) 1 ls st μ g = (sLd 1 2 isI) (W n) ls st μ g := (hW n 1 ls st μ g).trans rfl
theorem wX5_isNoLevel_2 {l : Launch} {K : aRs} {X : aXs} {J : aK} {W : Nat → aK} (hW : isW (tbX5_isNoLevel l K X) cuX5_isNoLevel J W) (n : Nat) (ls st : List aV) (μ : aM) (g : Nat) : W (n + 1) 2 ls st μ g = (sCallS 1 (fun as μ K => Ct l mdX5_isSide as μ K X) 5 0 0) (W n) ls st μ g := (hW n 2 ls st μ g).trans rfl
theorem tX5_isNoLevel_5 (l : Launch) (K : aRs) (X : aXs) : tb (tbX5_isNoLevel l K X) 5 = sIf pNe 12 8 := (rfl)
theorem wX5_isNoLevel_5 {l : Launch} {K : aRs} {X : aXs} {J : aK} {W : Nat → aK} (hW : isW (tbX5_isNoLevel l K X) cuX5_isNoLevel J W) (n : Nat) (ls st : List aV) (μ : aM) (g : Nat) : W (n + 1) 5 ls st μ g = J 5 ls st μ g := (hW n 5 ls st μ g).trans rfl
theorem wX5_isNoLevel_8 {l : Launch} {K : aRs} {X : aXs} {J : aK} {W : Nat → aK} (hW : isW (tbX5_isNoLevel l K X) cuX5_isNoLevel J W) (n : Nat) (ls st : List aV) (μ : aM) (g : Nat) : W (n + 1) 8 ls st μ g = (sPush (aI 1) 9) (W n) ls st μ g := (hW n 8 ls st μ g).trans rfl
theorem wX5_isNoLevel_9 {l : Launch} {K : aRs} {X : aXs} {J : aK} {W : Nat → aK} (hW : isW (tbX5_isNoLevel l K X) cuX5_isNoLevel J W) (n : Nat) (ls st : List aV) (μ : aM) (g : Nat) : W (n + 1) 9 ls st μ g = (sGoto 26) (W n) ls st μ g := (hW n 9 ls st μ g).trans rfl
theorem wX5_isNoLevel_12 {l : Launch} {K : aRs} {X : aXs} {J : aK} {W : Nat → aK} (hW : isW (tbX5_isNoLevel l K X) cuX5_isNoLevel J W) (n : Nat) (ls st : List aV) (μ : aM) (g : Nat) : W (n + 1) 12 ls st μ g = (sLd 0 13 isR) (W n) ls st μ g := (hW n 12 ls st μ g).trans rfl
theorem wX5_isNoLevel_13 {l : Launch} {K : aRs} {X : aXs} {J : aK} {W : Nat → aK} (hW : isW (tbX5_isNoLevel l K X) cuX5_isNoLevel J W) (n : Nat) (ls st : List aV) (μ : aM) (g : Nat) : W (n + 1) 13 ls st μ g = (sLd 1 14 isI) (W n) ls st μ g := (hW n 13 ls st μ g).trans rfl
theorem wX5_isNoLevel_14 {l : Launch} {K : aRs} {X : aXs} {J : aK} {W : Nat → aK} (hW : isW (tbX5_isNoLevel l K X) cuX5_isNoLevel J W) (n : Nat) (ls st : List aV) (μ : aM) (g : Nat) : W (n + 1) 14 ls st μ g = (sLd 2 15 isI) (W n) ls st μ g := (hW n 14 ls st μ g).trans rfl
theorem wX5_isNoLevel_15 {l : Launch} {K : aRs} {X : aXs} {J : aK} {W : Nat → aK} (hW : isW (tbX5_isNoLevel l K X) cuX5_isNoLevel J W) (n : Nat) (ls st : List aV) (μ : aM) (g : Nat) : W (n + 1) 15 ls st μ g = (sCallV 2 5 (fun as μ K => Ct l mdX5_price as μ K X) 18 0 0) (W n) ls st μ g := (hW n 15 ls st μ g).trans rfl
theorem tX5_isNoLevel_18 (l : Launch) (K : aRs) (X : aXs) : tb (tbX5_isNoLevel l K X) 18 = sIf pNe 25 21 := (rfl)
theorem wX5_isNoLevel_18 {l : Launch} {K : aRs} {X : aXs} {J : aK} {W : Nat → aK} (hW : isW (tbX5_isNoLevel l K X) cuX5_isNoLevel J W) (n : Nat) (ls st : List aV) (μ : aM) (g : Nat) : W (n + 1) 18 ls st μ g = J 18 ls st μ g := (hW n 18 ls st μ g).trans rfl
theorem wX5_isNoLevel_21 {l : Launch} {K : aRs} {X : aXs} {J : aK} {W : Nat → aK} (hW : isW (tbX5_isNoLevel l K X) cuX5_isNoLevel J W) (n : Nat) (ls st : List aV) (μ : aM) (g : Nat) : W (n + 1) 21 ls st μ g = (sPush (aI 2) 22) (W n) ls st μ g := (hW n 21 ls st μ g).trans rfl
theorem wX5_isNoLevel_22 {l : Launch} {K : aRs} {X : aXs} {J : aK} {W : Nat → aK} (hW : isW (tbX5_isNoLevel l K X) cuX5_isNoLevel J W) (n : Nat) (ls st : List aV) (μ : aM) (g : Nat) : W (n + 1) 22 ls st μ g = (sGoto 26) (W n) ls st μ g := (hW n 22 ls st μ g).trans rfl
theorem wX5_isNoLevel_25 {l : Launch} {K : aRs} {X : aXs} {J : aK} {W : Nat → aK} (hW : isW (tbX5_isNoLevel l K X) cuX5_isNoLevel J W) (n : Nat) (ls st : List aV) (μ : aM) (g : Nat) : W (n + 1) 25 ls st μ g = (sPush (aI 0) 26) (W n) ls st μ g := (hW n 25 ls st μ g).trans rfl
theorem wX5_isNoLevel_26 {l : Launch} {K : aRs} {X : aXs} {J : aK} {W : Nat → aK} (hW : isW (tbX5_isNoLevel l K X) cuX5_isNoLevel J W) (n : Nat) (ls st : List aV) (μ : aM) (g : Nat) : W (n + 1) 26 ls st μ g = (sCallV 1 5 (fun as μ K => Ct l mdX5_fails as μ K X) 29 0 0) (W n) ls st μ g := (hW n 26 ls st μ g).trans rfl
theorem tX5_isNoLevel_29 (l : Launch) (K : aRs) (X : aXs) : tb (tbX5_isNoLevel l K X) 29 = sRetI .boolean 0 K := (rfl)
theorem wX5_isNoLevel_29 {l : Launch} {K : aRs} {X : aXs} {J : aK} {W : Nat → aK} (hW : isW (tbX5_isNoLevel l K X) cuX5_isNoLevel J W) (n : Nat) (ls st : List aV) (μ : aM) (g : Nat) : W (n + 1) 29 ls st μ g = J 29 ls st μ g := (hW n 29 ls st μ g).trans rfl
theorem dX5_levelPrice_0 : decode cX5_levelPrice 0 = .ok (.aload_n 0, 1) := by decide +kernel
theorem dX5_levelPrice_1 : decode cX5_levelPrice 1 = .ok (.iload_n 1, 1) := by decide +kernel
theorem dX5_levelPrice_2 : decode cX5_levelPrice 2 = .ok (.iload_n 2, 1) := by decide +kernel
theorem dX5_levelPrice_3 : decode cX5_levelPrice 3 = .ok (.invokevirtual 186, 3) := by decide +kernel
theorem dX5_levelPrice_6 : decode cX5_levelPrice 6 = .ok (.ifCond .eq 7, 3) := by decide +kernel
theorem dX5_levelPrice_9 : decode cX5_levelPrice 9 = .ok (.iconst 0, 1) := by decide +kernel
theorem dX5_levelPrice_10 : decode cX5_levelPrice 10 = .ok (.goto 9, 3) := by decide +kernel
theorem dX5_levelPrice_13 : decode cX5_levelPrice 13 = .ok (.aload_n 0, 1) := by decide +kernel
theorem dX5_levelPrice_14 : decode cX5_levelPrice 14 = .ok (.iload_n 1, 1) := by decide +kernel
theorem dX5_levelPrice_15 : decode cX5_levelPrice 15 = .ok (.iload_n 2, 1) := by decide +kernel
theorem dX5_levelPrice_16 : decode cX5_levelPrice 16 = .ok (.invokevirtual 183, 3) := by decide +kernel
theorem dX5_levelPrice_19 : decode cX5_levelPrice 19 = .ok (.ireturn, 1) := by decide +kernel
def tbX5_levelPrice (l : Launch) (K : aRs) (X : aXs) : aTb := [
  (0, sLd 0 1 isR),
  (1, sLd 1 2 isI),
  (2, sLd 2 3 isI),
  (3, sCallV 2 5 (fun as μ K => Ct l mdX5_isNoLevel as μ K X) 6 0 0),
  (6, sIf pEq 13 9),
  (9, sPush (aI 0) 10),
  (10, sGoto 19),
  (13, sLd 0 14 isR),
  (14, sLd 1 15 isI),
  (15, sLd 2 16 isI),
  (16, sCallV 2 5 (fun as μ K => Ct l mdX5_price as μ K X) 19 0 0),
  (19, sRetI .int 0 K)]
theorem snX5_levelPrice (l : Launch) (K : aRs) (X : aXs) (n0 : Nat) : ∀ q ∈ tbX5_levelPrice l K X, aSo l mdX5_levelPrice K X n0 q.1 q.2 :=
  tc (fun p e s m args below meth c cA D A ad0 h => ok_aload_n h.1 0 rfl dX5_levelPrice_0) <|
  tc (fun p e s m args below meth c cA D A ad0 h => ok_iload_n h.1 1 rfl dX5_levelPrice_1) <|
  tc (fun p e s m args below meth c cA D A ad0 h => ok_iload_n h.1 2 rfl dX5_levelPrice_2) <|
  tc (fun p e s m args below meth c cA D A ad0 h => ok_callV h.1 h.2.1 ⟨Nat.le_refl _, Nat.le_refl _⟩ mdX5_isNoLevel siX5_isNoLevel cxX5 mkRX5_186 imX5_isNoLevel seX5_isNoLevel ⟨by decide, by decide⟩ (aAx_out h.1 h.2.2.1 _) dX5_levelPrice_3) <|
  tc (fun p e s m args below meth c cA D A ad0 h => ok_if_eq h.1 13 (by decide) dX5_levelPrice_6) <|
  tc (fun p e s m args below meth c cA D A ad0 h => ok_iconst h.1 ⟨by decide, by decide⟩ dX5_levelPrice_9) <|
  tc (fun p e s m args below meth c cA D A ad0 h => ok_goto h.1 19 (by decide) dX5_levelPrice_10) <|
  tc (fun p e s m args below meth c cA D A ad0 h => ok_aload_n h.1 0 rfl dX5_levelPrice_13) <|
  tc (fun p e s m args below meth c cA D A ad0 h => ok_iload_n h.1 1 rfl dX5_levelPrice_14) <|
  tc (fun p e s m args below meth c cA D A ad0 h => ok_iload_n h.1 2 rfl dX5_levelPrice_15) <|
  tc (fun p e s m args below meth c cA D A ad0 h => ok_callV h.1 h.2.1 ⟨Nat.le_refl _, Nat.le_refl _⟩ mdX5_price siX5_price cxX5 mkRX5_183 imX5_price seX5_price ⟨by decide, by decide⟩ (aAx_out h.1 h.2.2.1 _) dX5_levelPrice_16) <|
  tc (fun p e s m args below meth c cA D A ad0 h => ok_ireturn h.1 h.2.2.2.1 (Or.inl rfl) dX5_levelPrice_19) <|
  tn
abbrev cuX5_levelPrice : List Nat := [6, 19]
theorem tX5_levelPrice_0 (l : Launch) (K : aRs) (X : aXs) : tb (tbX5_levelPrice l K X) 0 = sLd 0 1 isR := (rfl)
theorem wX5_levelPrice_0 {l : Launch} {K : aRs} {X : aXs} {J : aK} {W : Nat → aK} (hW : isW (tbX5_levelPrice l K X) cuX5_levelPrice J W) (n : Nat) (ls st : List aV) (μ : aM) (g : Nat) : W (n + 1) 0 ls st μ g = (sLd 0 1 isR) (W n) ls st μ g := (hW n 0 ls st μ g).trans rfl
theorem wX5_levelPrice_1 {l : Launch} {K : aRs} {X : aXs} {J : aK} {W : Nat → aK} (hW : isW (tbX5_levelPrice l K X) cuX5_levelPrice J W) (n : Nat) (ls st : List aV) (μ : aM) (g : Nat) : W (n + 1) 1 ls st μ g = (sLd 1 2 isI) (W n) ls st μ g := (hW n 1 ls st μ g).trans rfl
theorem wX5_levelPrice_2 {l : Launch} {K : aRs} {X : aXs} {J : aK} {W : Nat → aK} (hW : isW (tbX5_levelPrice l K X) cuX5_levelPrice J W) (n : Nat) (ls st : List aV) (μ : aM) (g : Nat) : W (n + 1) 2 ls st μ g = (sLd 2 3 isI) (W n) ls st μ g := (hW n 2 ls st μ g).trans rfl
theorem wX5_levelPrice_3 {l : Launch} {K : aRs} {X : aXs} {J : aK} {W : Nat → aK} (hW : isW (tbX5_levelPrice l K X) cuX5_levelPrice J W) (n : Nat) (ls st : List aV) (μ : aM) (g : Nat) : W (n + 1) 3 ls st μ g = (sCallV 2 5 (fun as μ K => Ct l mdX5_isNoLevel as μ K X) 6 0 0) (W n) ls st μ g := (hW n 3 ls st μ g).trans rfl
theorem tX5_levelPrice_6 (l : Launch) (K : aRs) (X : aXs) : tb (tbX5_levelPrice l K X) 6 = sIf pEq 13 9 := (rfl)
theorem wX5_levelPrice_6 {l : Launch} {K : aRs} {X : aXs} {J : aK} {W : Nat → aK} (hW : isW (tbX5_levelPrice l K X) cuX5_levelPrice J W) (n : Nat) (ls st : List aV) (μ : aM) (g : Nat) : W (n + 1) 6 ls st μ g = J 6 ls st μ g := (hW n 6 ls st μ g).trans rfl
theorem wX5_levelPrice_9 {l : Launch} {K : aRs} {X : aXs} {J : aK} {W : Nat → aK} (hW : isW (tbX5_levelPrice l K X) cuX5_levelPrice J W) (n : Nat) (ls st : List aV) (μ : aM) (g : Nat) : W (n + 1) 9 ls st μ g = (sPush (aI 0) 10) (W n) ls st μ g := (hW n 9 ls st μ g).trans rfl
theorem wX5_levelPrice_10 {l : Launch} {K : aRs} {X : aXs} {J : aK} {W : Nat → aK} (hW : isW (tbX5_levelPrice l K X) cuX5_levelPrice J W) (n : Nat) (ls st : List aV) (μ : aM) (g : Nat) : W (n + 1) 10 ls st μ g = (sGoto 19) (W n) ls st μ g := (hW n 10 ls st μ g).trans rfl
theorem wX5_levelPrice_13 {l : Launch} {K : aRs} {X : aXs} {J : aK} {W : Nat → aK} (hW : isW (tbX5_levelPrice l K X) cuX5_levelPrice J W) (n : Nat) (ls st : List aV) (μ : aM) (g : Nat) : W (n + 1) 13 ls st μ g = (sLd 0 14 isR) (W n) ls st μ g := (hW n 13 ls st μ g).trans rfl
theorem wX5_levelPrice_14 {l : Launch} {K : aRs} {X : aXs} {J : aK} {W : Nat → aK} (hW : isW (tbX5_levelPrice l K X) cuX5_levelPrice J W) (n : Nat) (ls st : List aV) (μ : aM) (g : Nat) : W (n + 1) 14 ls st μ g = (sLd 1 15 isI) (W n) ls st μ g := (hW n 14 ls st μ g).trans rfl
theorem wX5_levelPrice_15 {l : Launch} {K : aRs} {X : aXs} {J : aK} {W : Nat → aK} (hW : isW (tbX5_levelPrice l K X) cuX5_levelPrice J W) (n : Nat) (ls st : List aV) (μ : aM) (g : Nat) : W (n + 1) 15 ls st μ g = (sLd 2 16 isI) (W n) ls st μ g := (hW n 15 ls st μ g).trans rfl
theorem wX5_levelPrice_16 {l : Launch} {K : aRs} {X : aXs} {J : aK} {W : Nat → aK} (hW : isW (tbX5_levelPrice l K X) cuX5_levelPrice J W) (n : Nat) (ls st : List aV) (μ : aM) (g : Nat) : W (n + 1) 16 ls st μ g = (sCallV 2 5 (fun as μ K => Ct l mdX5_price as μ K X) 19 0 0) (W n) ls st μ g := (hW n 16 ls st μ g).trans rfl
theorem tX5_levelPrice_19 (l : Launch) (K : aRs) (X : aXs) : tb (tbX5_levelPrice l K X) 19 = sRetI .int 0 K := (rfl)
theorem wX5_levelPrice_19 {l : Launch} {K : aRs} {X : aXs} {J : aK} {W : Nat → aK} (hW : isW (tbX5_levelPrice l K X) cuX5_levelPrice J W) (n : Nat) (ls st : List aV) (μ : aM) (g : Nat) : W (n + 1) 19 ls st μ g = J 19 ls st μ g := (hW n 19 ls st μ g).trans rfl
theorem dX5_shownAt_0 : decode cX5_shownAt 0 = .ok (.aload_n 0, 1) := by decide +kernel
theorem dX5_shownAt_1 : decode cX5_shownAt 1 = .ok (.iload_n 1, 1) := by decide +kernel
theorem dX5_shownAt_2 : decode cX5_shownAt 2 = .ok (.iload_n 2, 1) := by decide +kernel
theorem dX5_shownAt_3 : decode cX5_shownAt 3 = .ok (.invokevirtual 186, 3) := by decide +kernel
theorem dX5_shownAt_6 : decode cX5_shownAt 6 = .ok (.ifCond .eq 5, 3) := by decide +kernel
theorem dX5_shownAt_9 : decode cX5_shownAt 9 = .ok (.iconst 0, 1) := by decide +kernel
theorem dX5_shownAt_10 : decode cX5_shownAt 10 = .ok (.ireturn, 1) := by decide +kernel
theorem dX5_shownAt_11 : decode cX5_shownAt 11 = .ok (.iconst 0, 1) := by decide +kernel
theorem dX5_shownAt_12 : decode cX5_shownAt 12 = .ok (.istore_n 3, 1) := by decide +kernel
theorem dX5_shownAt_13 : decode cX5_shownAt 13 = .ok (.iconst 0, 1) := by decide +kernel
theorem dX5_shownAt_14 : decode cX5_shownAt 14 = .ok (.istore 4, 2) := by decide +kernel
theorem dX5_shownAt_16 : decode cX5_shownAt 16 = .ok (.iload 4, 2) := by decide +kernel
theorem dX5_shownAt_18 : decode cX5_shownAt 18 = .ok (.aload_n 0, 1) := by decide +kernel
theorem dX5_shownAt_19 : decode cX5_shownAt 19 = .ok (.getfield 68, 3) := by decide +kernel
theorem dX5_shownAt_22 : decode cX5_shownAt 22 = .ok (.if_icmp .ge 39, 3) := by decide +kernel
theorem dX5_shownAt_25 : decode cX5_shownAt 25 = .ok (.iload_n 3, 1) := by decide +kernel
theorem dX5_shownAt_26 : decode cX5_shownAt 26 = .ok (.aload_n 0, 1) := by decide +kernel
theorem dX5_shownAt_27 : decode cX5_shownAt 27 = .ok (.iload 4, 2) := by decide +kernel
theorem dX5_shownAt_29 : decode cX5_shownAt 29 = .ok (.iload_n 1, 1) := by decide +kernel
theorem dX5_shownAt_30 : decode cX5_shownAt 30 = .ok (.aload_n 0, 1) := by decide +kernel
theorem dX5_shownAt_31 : decode cX5_shownAt 31 = .ok (.iload_n 1, 1) := by decide +kernel
theorem dX5_shownAt_32 : decode cX5_shownAt 32 = .ok (.iload_n 2, 1) := by decide +kernel
theorem dX5_shownAt_33 : decode cX5_shownAt 33 = .ok (.invokevirtual 183, 3) := by decide +kernel
theorem dX5_shownAt_36 : decode cX5_shownAt 36 = .ok (.invokevirtual 175, 3) := by decide +kernel
theorem dX5_shownAt_39 : decode cX5_shownAt 39 = .ok (.ifCond .eq 13, 3) := by decide +kernel
theorem dX5_shownAt_42 : decode cX5_shownAt 42 = .ok (.aload_n 0, 1) := by decide +kernel
theorem dX5_shownAt_43 : decode cX5_shownAt 43 = .ok (.getfield 38, 3) := by decide +kernel
theorem dX5_shownAt_46 : decode cX5_shownAt 46 = .ok (.iload 4, 2) := by decide +kernel
theorem dX5_shownAt_48 : decode cX5_shownAt 48 = .ok (.iaload, 1) := by decide +kernel
theorem dX5_shownAt_49 : decode cX5_shownAt 49 = .ok (.goto 4, 3) := by decide +kernel
theorem dX5_shownAt_52 : decode cX5_shownAt 52 = .ok (.iconst 0, 1) := by decide +kernel
theorem dX5_shownAt_53 : decode cX5_shownAt 53 = .ok (.iadd, 1) := by decide +kernel
theorem dX5_shownAt_54 : decode cX5_shownAt 54 = .ok (.istore_n 3, 1) := by decide +kernel
theorem dX5_shownAt_55 : decode cX5_shownAt 55 = .ok (.iinc 4 1, 3) := by decide +kernel
theorem dX5_shownAt_58 : decode cX5_shownAt 58 = .ok (.goto (-42), 3) := by decide +kernel
theorem dX5_shownAt_61 : decode cX5_shownAt 61 = .ok (.iload_n 3, 1) := by decide +kernel
theorem dX5_shownAt_62 : decode cX5_shownAt 62 = .ok (.ireturn, 1) := by decide +kernel
def tbX5_shownAt (l : Launch) (K : aRs) (X : aXs) : aTb := [
  (0, sLd 0 1 isR),
  (1, sLd 1 2 isI),
  (2, sLd 2 3 isI),
  (3, sCallV 2 5 (fun as μ K => Ct l mdX5_isNoLevel as μ K X) 6 0 0),
  (6, sIf pEq 11 9),
  (9, sPush (aI 0) 10),
  (10, sRetI .int 0 K),
  (11, sPush (aI 0) 12),
  (12, sSt 3 13 isI),
  (13, sPush (aI 0) 14),
  (14, sSt 4 16 isI),
  (16, sLd 4 18 isI),
  (18, sLd 0 19 isR),
  (19, sGetI 5 0 22),
  (22, sIc qGe 61 25),
  (25, sLd 3 26 isI),
  (26, sLd 0 27 isR),
  (27, sLd 4 29 isI),
  (29, sLd 1 30 isI),
  (30, sLd 0 31 isR),
  (31, sLd 1 32 isI),
  (32, sLd 2 33 isI),
  (33, sCallV 2 5 (fun as μ K => Ct l mdX5_price as μ K X) 36 0 0),
  (36, sCallV 3 5 (fun as μ K => Ct l mdX5_isAt as μ K X) 39 0 0),
  (39, sIf pEq 52 42),
  (42, sLd 0 43 isR),
  (43, sGetR 5 10 46),
  (46, sLd 4 48 isI),
  (48, sAldI 7 49),
  (49, sGoto 53),
  (52, sPush (aI 0) 53),
  (53, sBin fAdd 54),
  (54, sSt 3 55 isI),
  (55, sInc 4 1 58),
  (58, sGoto 16),
  (61, sLd 3 62 isI),
  (62, sRetI .int 0 K)]
theorem snX5_shownAt (l : Launch) (K : aRs) (X : aXs) (n0 : Nat) : ∀ q ∈ tbX5_shownAt l K X, aSo l mdX5_shownAt K X n0 q.1 q.2 :=
  tc (fun p e s m args below meth c cA D A ad0 h => ok_aload_n h.1 0 rfl dX5_shownAt_0) <|
  tc (fun p e s m args below meth c cA D A ad0 h => ok_iload_n h.1 1 rfl dX5_shownAt_1) <|
  tc (fun p e s m args below meth c cA D A ad0 h => ok_iload_n h.1 2 rfl dX5_shownAt_2) <|
  tc (fun p e s m args below meth c cA D A ad0 h => ok_callV h.1 h.2.1 ⟨Nat.le_refl _, Nat.le_refl _⟩ mdX5_isNoLevel siX5_isNoLevel cxX5 mkRX5_186 imX5_isNoLevel seX5_isNoLevel ⟨by decide, by decide⟩ (aAx_out h.1 h.2.2.1 _) dX5_shownAt_3) <|
  tc (fun p e s m args below meth c cA D A ad0 h => ok_if_eq h.1 11 (by decide) dX5_shownAt_6) <|
  tc (fun p e s m args below meth c cA D A ad0 h => ok_iconst h.1 ⟨by decide, by decide⟩ dX5_shownAt_9) <|
  tc (fun p e s m args below meth c cA D A ad0 h => ok_ireturn h.1 h.2.2.2.1 (Or.inl rfl) dX5_shownAt_10) <|
  tc (fun p e s m args below meth c cA D A ad0 h => ok_iconst h.1 ⟨by decide, by decide⟩ dX5_shownAt_11) <|
  tc (fun p e s m args below meth c cA D A ad0 h => ok_istore_n h.1 3 rfl (by decide) dX5_shownAt_12) <|
  tc (fun p e s m args below meth c cA D A ad0 h => ok_iconst h.1 ⟨by decide, by decide⟩ dX5_shownAt_13) <|
  tc (fun p e s m args below meth c cA D A ad0 h => ok_istore h.1 (by decide) dX5_shownAt_14) <|
  tc (fun p e s m args below meth c cA D A ad0 h => ok_iload h.1 dX5_shownAt_16) <|
  tc (fun p e s m args below meth c cA D A ad0 h => ok_aload_n h.1 0 rfl dX5_shownAt_18) <|
  tc (fun p e s m args below meth c cA D A ad0 h => ok_getI h.1 cxX5 (by decide) rfl fkRX5_68 (fun _ _ _ => rfl) dX5_shownAt_19) <|
  tc (fun p e s m args below meth c cA D A ad0 h => ok_icmp_ge h.1 61 (by decide) dX5_shownAt_22) <|
  tc (fun p e s m args below meth c cA D A ad0 h => ok_iload_n h.1 3 rfl dX5_shownAt_25) <|
  tc (fun p e s m args below meth c cA D A ad0 h => ok_aload_n h.1 0 rfl dX5_shownAt_26) <|
  tc (fun p e s m args below meth c cA D A ad0 h => ok_iload h.1 dX5_shownAt_27) <|
  tc (fun p e s m args below meth c cA D A ad0 h => ok_iload_n h.1 1 rfl dX5_shownAt_29) <|
  tc (fun p e s m args below meth c cA D A ad0 h => ok_aload_n h.1 0 rfl dX5_shownAt_30) <|
  tc (fun p e s m args below meth c cA D A ad0 h => ok_iload_n h.1 1 rfl dX5_shownAt_31) <|
  tc (fun p e s m args below meth c cA D A ad0 h => ok_iload_n h.1 2 rfl dX5_shownAt_32) <|
  tc (fun p e s m args below meth c cA D A ad0 h => ok_callV h.1 h.2.1 ⟨Nat.le_refl _, Nat.le_refl _⟩ mdX5_price siX5_price cxX5 mkRX5_183 imX5_price seX5_price ⟨by decide, by decide⟩ (aAx_out h.1 h.2.2.1 _) dX5_shownAt_33) <|
  tc (fun p e s m args below meth c cA D A ad0 h => ok_callV h.1 h.2.1 ⟨Nat.le_refl _, Nat.le_refl _⟩ mdX5_isAt siX5_isAt cxX5 mkRX5_175 imX5_isAt seX5_isAt ⟨by decide, by decide⟩ (aAx_out h.1 h.2.2.1 _) dX5_shownAt_36) <|
  tc (fun p e s m args below meth c cA D A ad0 h => ok_if_eq h.1 52 (by decide) dX5_shownAt_39) <|
  tc (fun p e s m args below meth c cA D A ad0 h => ok_aload_n h.1 0 rfl dX5_shownAt_42) <|
  tc (fun p e s m args below meth c cA D A ad0 h => ok_getR h.1 cxX5 (by decide) rfl fkRX5_38 (fun _ _ _ => rfl) dX5_shownAt_43) <|
  tc (fun p e s m args below meth c cA D A ad0 h => ok_iload h.1 dX5_shownAt_46) <|
  tc (fun p e s m args below meth c cA D A ad0 h => ok_iald h.1 dX5_shownAt_48) <|
  tc (fun p e s m args below meth c cA D A ad0 h => ok_goto h.1 53 (by decide) dX5_shownAt_49) <|
  tc (fun p e s m args below meth c cA D A ad0 h => ok_iconst h.1 ⟨by decide, by decide⟩ dX5_shownAt_52) <|
  tc (fun p e s m args below meth c cA D A ad0 h => ok_iadd h.1 dX5_shownAt_53) <|
  tc (fun p e s m args below meth c cA D A ad0 h => ok_istore_n h.1 3 rfl (by decide) dX5_shownAt_54) <|
  tc (fun p e s m args below meth c cA D A ad0 h => ok_iinc h.1 (by decide) dX5_shownAt_55) <|
  tc (fun p e s m args below meth c cA D A ad0 h => ok_goto h.1 16 (by decide) dX5_shownAt_58) <|
  tc (fun p e s m args below meth c cA D A ad0 h => ok_iload_n h.1 3 rfl dX5_shownAt_61) <|
  tc (fun p e s m args below meth c cA D A ad0 h => ok_ireturn h.1 h.2.2.2.1 (Or.inl rfl) dX5_shownAt_62) <|
  tn
abbrev cuX5_shownAt : List Nat := [6, 16, 36, 39]
theorem tX5_shownAt_0 (l : Launch) (K : aRs) (X : aXs) : tb (tbX5_shownAt l K X) 0 = sLd 0 1 isR := (rfl)
theorem wX5_shownAt_0 {l : Launch} {K : aRs} {X : aXs} {J : aK} {W : Nat → aK} (hW : isW (tbX5_shownAt l K X) cuX5_shownAt J W) (n : Nat) (ls st : List aV) (μ : aM) (g : Nat) : W (n + 1) 0 ls st μ g = (sLd 0 1 isR) (W n) ls st μ g := (hW n 0 ls st μ g).trans rfl
theorem wX5_shownAt_1 {l : Launch} {K : aRs} {X : aXs} {J : aK} {W : Nat → aK} (hW : isW (tbX5_shownAt l K X) cuX5_shownAt J W) (n : Nat) (ls st : List aV) (μ : aM) (g : Nat) : W (n + 1) 1 ls st μ g = (sLd 1 2 isI) (W n) ls st μ g := (hW n 1 ls st μ g).trans rfl
theorem wX5_shownAt_2 {l : Launch} {K : aRs} {X : aXs} {J : aK} {W : Nat → aK} (hW : isW (tbX5_shownAt l K X) cuX5_shownAt J W) (n : Nat) (ls st : List aV) (μ : aM) (g : Nat) : W (n + 1) 2 ls st μ g = (sLd 2 3 isI) (W n) ls st μ g := (hW n 2 ls st μ g).trans rfl
theorem wX5_shownAt_3 {l : Launch} {K : aRs} {X : aXs} {J : aK} {W : Nat → aK} (hW : isW (tbX5_shownAt l K X) cuX5_shownAt J W) (n : Nat) (ls st : List aV) (μ : aM) (g : Nat) : W (n + 1) 3 ls st μ g = (sCallV 2 5 (fun as μ K => Ct l mdX5_isNoLevel as μ K X) 6 0 0) (W n) ls st μ g := (hW n 3 ls st μ g).trans rfl
theorem tX5_shownAt_6 (l : Launch) (K : aRs) (X : aXs) : tb (tbX5_shownAt l K X) 6 = sIf pEq 11 9 := (rfl)
theorem wX5_shownAt_6 {l : Launch} {K : aRs} {X : aXs} {J : aK} {W : Nat → aK} (hW : isW (tbX5_shownAt l K X) cuX5_shownAt J W) (n : Nat) (ls st : List aV) (μ : aM) (g : Nat) : W (n + 1) 6 ls st μ g = J 6 ls st μ g := (hW n 6 ls st μ g).trans rfl
theorem wX5_shownAt_9 {l : Launch} {K : aRs} {X : aXs} {J : aK} {W : Nat → aK} (hW : isW (tbX5_shownAt l K X) cuX5_shownAt J W) (n : Nat) (ls st : List aV) (μ : aM) (g : Nat) : W (n + 1) 9 ls st μ g = (sPush (aI 0) 10) (W n) ls st μ g := (hW n 9 ls st μ g).trans rfl
theorem wX5_shownAt_10 {l : Launch} {K : aRs} {X : aXs} {J : aK} {W : Nat → aK} (hW : isW (tbX5_shownAt l K X) cuX5_shownAt J W) (n : Nat) (ls st : List aV) (μ : aM) (g : Nat) : W (n + 1) 10 ls st μ g = (sRetI .int 0 K) (W n) ls st μ g := (hW n 10 ls st μ g).trans rfl
theorem wX5_shownAt_11 {l : Launch} {K : aRs} {X : aXs} {J : aK} {W : Nat → aK} (hW : isW (tbX5_shownAt l K X) cuX5_shownAt J W) (n : Nat) (ls st : List aV) (μ : aM) (g : Nat) : W (n + 1) 11 ls st μ g = (sPush (aI 0) 12) (W n) ls st μ g := (hW n 11 ls st μ g).trans rfl
theorem wX5_shownAt_12 {l : Launch} {K : aRs} {X : aXs} {J : aK} {W : Nat → aK} (hW : isW (tbX5_shownAt l K X) cuX5_shownAt J W) (n : Nat) (ls st : List aV) (μ : aM) (g : Nat) : W (n + 1) 12 ls st μ g = (sSt 3 13 isI) (W n) ls st μ g := (hW n 12 ls st μ g).trans rfl
theorem wX5_shownAt_13 {l : Launch} {K : aRs} {X : aXs} {J : aK} {W : Nat → aK} (hW : isW (tbX5_shownAt l K X) cuX5_shownAt J W) (n : Nat) (ls st : List aV) (μ : aM) (g : Nat) : W (n + 1) 13 ls st μ g = (sPush (aI 0) 14) (W n) ls st μ g := (hW n 13 ls st μ g).trans rfl
theorem wX5_shownAt_14 {l : Launch} {K : aRs} {X : aXs} {J : aK} {W : Nat → aK} (hW : isW (tbX5_shownAt l K X) cuX5_shownAt J W) (n : Nat) (ls st : List aV) (μ : aM) (g : Nat) : W (n + 1) 14 ls st μ g = (sSt 4 16 isI) (W n) ls st μ g := (hW n 14 ls st μ g).trans rfl
theorem tX5_shownAt_16 (l : Launch) (K : aRs) (X : aXs) : tb (tbX5_shownAt l K X) 16 = sLd 4 18 isI := (rfl)
theorem wX5_shownAt_16 {l : Launch} {K : aRs} {X : aXs} {J : aK} {W : Nat → aK} (hW : isW (tbX5_shownAt l K X) cuX5_shownAt J W) (n : Nat) (ls st : List aV) (μ : aM) (g : Nat) : W (n + 1) 16 ls st μ g = J 16 ls st μ g := (hW n 16 ls st μ g).trans rfl
theorem wX5_shownAt_18 {l : Launch} {K : aRs} {X : aXs} {J : aK} {W : Nat → aK} (hW : isW (tbX5_shownAt l K X) cuX5_shownAt J W) (n : Nat) (ls st : List aV) (μ : aM) (g : Nat) : W (n + 1) 18 ls st μ g = (sLd 0 19 isR) (W n) ls st μ g := (hW n 18 ls st μ g).trans rfl
theorem wX5_shownAt_19 {l : Launch} {K : aRs} {X : aXs} {J : aK} {W : Nat → aK} (hW : isW (tbX5_shownAt l K X) cuX5_shownAt J W) (n : Nat) (ls st : List aV) (μ : aM) (g : Nat) : W (n + 1) 19 ls st μ g = (sGetI 5 0 22) (W n) ls st μ g := (hW n 19 ls st μ g).trans rfl
theorem wX5_shownAt_22 {l : Launch} {K : aRs} {X : aXs} {J : aK} {W : Nat → aK} (hW : isW (tbX5_shownAt l K X) cuX5_shownAt J W) (n : Nat) (ls st : List aV) (μ : aM) (g : Nat) : W (n + 1) 22 ls st μ g = (sIc qGe 61 25) (W n) ls st μ g := (hW n 22 ls st μ g).trans rfl
theorem wX5_shownAt_25 {l : Launch} {K : aRs} {X : aXs} {J : aK} {W : Nat → aK} (hW : isW (tbX5_shownAt l K X) cuX5_shownAt J W) (n : Nat) (ls st : List aV) (μ : aM) (g : Nat) : W (n + 1) 25 ls st μ g = (sLd 3 26 isI) (W n) ls st μ g := (hW n 25 ls st μ g).trans rfl
theorem wX5_shownAt_26 {l : Launch} {K : aRs} {X : aXs} {J : aK} {W : Nat → aK} (hW : isW (tbX5_shownAt l K X) cuX5_shownAt J W) (n : Nat) (ls st : List aV) (μ : aM) (g : Nat) : W (n + 1) 26 ls st μ g = (sLd 0 27 isR) (W n) ls st μ g := (hW n 26 ls st μ g).trans rfl
theorem wX5_shownAt_27 {l : Launch} {K : aRs} {X : aXs} {J : aK} {W : Nat → aK} (hW : isW (tbX5_shownAt l K X) cuX5_shownAt J W) (n : Nat) (ls st : List aV) (μ : aM) (g : Nat) : W (n + 1) 27 ls st μ g = (sLd 4 29 isI) (W n) ls st μ g := (hW n 27 ls st μ g).trans rfl
theorem wX5_shownAt_29 {l : Launch} {K : aRs} {X : aXs} {J : aK} {W : Nat → aK} (hW : isW (tbX5_shownAt l K X) cuX5_shownAt J W) (n : Nat) (ls st : List aV) (μ : aM) (g : Nat) : W (n + 1) 29 ls st μ g = (sLd 1 30 isI) (W n) ls st μ g := (hW n 29 ls st μ g).trans rfl
theorem wX5_shownAt_30 {l : Launch} {K : aRs} {X : aXs} {J : aK} {W : Nat → aK} (hW : isW (tbX5_shownAt l K X) cuX5_shownAt J W) (n : Nat) (ls st : List aV) (μ : aM) (g : Nat) : W (n + 1) 30 ls st μ g = (sLd 0 31 isR) (W n) ls st μ g := (hW n 30 ls st μ g).trans rfl
theorem wX5_shownAt_31 {l : Launch} {K : aRs} {X : aXs} {J : aK} {W : Nat → aK} (hW : isW (tbX5_shownAt l K X) cuX5_shownAt J W) (n : Nat) (ls st : List aV) (μ : aM) (g : Nat) : W (n + 1) 31 ls st μ g = (sLd 1 32 isI) (W n) ls st μ g := (hW n 31 ls st μ g).trans rfl
theorem wX5_shownAt_32 {l : Launch} {K : aRs} {X : aXs} {J : aK} {W : Nat → aK} (hW : isW (tbX5_shownAt l K X) cuX5_shownAt J W) (n : Nat) (ls st : List aV) (μ : aM) (g : Nat) : W (n + 1) 32 ls st μ g = (sLd 2 33 isI) (W n) ls st μ g := (hW n 32 ls st μ g).trans rfl
theorem wX5_shownAt_33 {l : Launch} {K : aRs} {X : aXs} {J : aK} {W : Nat → aK} (hW : isW (tbX5_shownAt l K X) cuX5_shownAt J W) (n : Nat) (ls st : List aV) (μ : aM) (g : Nat) : W (n + 1) 33 ls st μ g = (sCallV 2 5 (fun as μ K => Ct l mdX5_price as μ K X) 36 0 0) (W n) ls st μ g := (hW n 33 ls st μ g).trans rfl
theorem tX5_shownAt_36 (l : Launch) (K : aRs) (X : aXs) : tb (tbX5_shownAt l K X) 36 = sCallV 3 5 (fun as μ K => Ct l mdX5_isAt as μ K X) 39 0 0 := (rfl)
theorem wX5_shownAt_36 {l : Launch} {K : aRs} {X : aXs} {J : aK} {W : Nat → aK} (hW : isW (tbX5_shownAt l K X) cuX5_shownAt J W) (n : Nat) (ls st : List aV) (μ : aM) (g : Nat) : W (n + 1) 36 ls st μ g = J 36 ls st μ g := (hW n 36 ls st μ g).trans rfl
theorem tX5_shownAt_39 (l : Launch) (K : aRs) (X : aXs) : tb (tbX5_shownAt l K X) 39 = sIf pEq 52 42 := (rfl)
theorem wX5_shownAt_39 {l : Launch} {K : aRs} {X : aXs} {J : aK} {W : Nat → aK} (hW : isW (tbX5_shownAt l K X) cuX5_shownAt J W) (n : Nat) (ls st : List aV) (μ : aM) (g : Nat) : W (n + 1) 39 ls st μ g = J 39 ls st μ g := (hW n 39 ls st μ g).trans rfl
theorem wX5_shownAt_42 {l : Launch} {K : aRs} {X : aXs} {J : aK} {W : Nat → aK} (hW : isW (tbX5_shownAt l K X) cuX5_shownAt J W) (n : Nat) (ls st : List aV) (μ : aM) (g : Nat) : W (n + 1) 42 ls st μ g = (sLd 0 43 isR) (W n) ls st μ g := (hW n 42 ls st μ g).trans rfl
theorem wX5_shownAt_43 {l : Launch} {K : aRs} {X : aXs} {J : aK} {W : Nat → aK} (hW : isW (tbX5_shownAt l K X) cuX5_shownAt J W) (n : Nat) (ls st : List aV) (μ : aM) (g : Nat) : W (n + 1) 43 ls st μ g = (sGetR 5 10 46) (W n) ls st μ g := (hW n 43 ls st μ g).trans rfl
theorem wX5_shownAt_46 {l : Launch} {K : aRs} {X : aXs} {J : aK} {W : Nat → aK} (hW : isW (tbX5_shownAt l K X) cuX5_shownAt J W) (n : Nat) (ls st : List aV) (μ : aM) (g : Nat) : W (n + 1) 46 ls st μ g = (sLd 4 48 isI) (W n) ls st μ g := (hW n 46 ls st μ g).trans rfl
theorem wX5_shownAt_48 {l : Launch} {K : aRs} {X : aXs} {J : aK} {W : Nat → aK} (hW : isW (tbX5_shownAt l K X) cuX5_shownAt J W) (n : Nat) (ls st : List aV) (μ : aM) (g : Nat) : W (n + 1) 48 ls st μ g = (sAldI 7 49) (W n) ls st μ g := (hW n 48 ls st μ g).trans rfl
theorem wX5_shownAt_49 {l : Launch} {K : aRs} {X : aXs} {J : aK} {W : Nat → aK} (hW : isW (tbX5_shownAt l K X) cuX5_shownAt J W) (n : Nat) (ls st : List aV) (μ : aM) (g : Nat) : W (n + 1) 49 ls st μ g = (sGoto 53) (W n) ls st μ g := (hW n 49 ls st μ g).trans rfl
theorem wX5_shownAt_52 {l : Launch} {K : aRs} {X : aXs} {J : aK} {W : Nat → aK} (hW : isW (tbX5_shownAt l K X) cuX5_shownAt J W) (n : Nat) (ls st : List aV) (μ : aM) (g : Nat) : W (n + 1) 52 ls st μ g = (sPush (aI 0) 53) (W n) ls st μ g := (hW n 52 ls st μ g).trans rfl
theorem wX5_shownAt_53 {l : Launch} {K : aRs} {X : aXs} {J : aK} {W : Nat → aK} (hW : isW (tbX5_shownAt l K X) cuX5_shownAt J W) (n : Nat) (ls st : List aV) (μ : aM) (g : Nat) : W (n + 1) 53 ls st μ g = (sBin fAdd 54) (W n) ls st μ g := (hW n 53 ls st μ g).trans rfl
theorem wX5_shownAt_54 {l : Launch} {K : aRs} {X : aXs} {J : aK} {W : Nat → aK} (hW : isW (tbX5_shownAt l K X) cuX5_shownAt J W) (n : Nat) (ls st : List aV) (μ : aM) (g : Nat) : W (n + 1) 54 ls st μ g = (sSt 3 55 isI) (W n) ls st μ g := (hW n 54 ls st μ g).trans rfl
theorem wX5_shownAt_55 {l : Launch} {K : aRs} {X : aXs} {J : aK} {W : Nat → aK} (hW : isW (tbX5_shownAt l K X) cuX5_shownAt J W) (n : Nat) (ls st : List aV) (μ : aM) (g : Nat) : W (n + 1) 55 ls st μ g = (sInc 4 1 58) (W n) ls st μ g := (hW n 55 ls st μ g).trans rfl
theorem wX5_shownAt_58 {l : Launch} {K : aRs} {X : aXs} {J : aK} {W : Nat → aK} (hW : isW (tbX5_shownAt l K X) cuX5_shownAt J W) (n : Nat) (ls st : List aV) (μ : aM) (g : Nat) : W (n + 1) 58 ls st μ g = (sGoto 16) (W n) ls st μ g := (hW n 58 ls st μ g).trans rfl
theorem wX5_shownAt_61 {l : Launch} {K : aRs} {X : aXs} {J : aK} {W : Nat → aK} (hW : isW (tbX5_shownAt l K X) cuX5_shownAt J W) (n : Nat) (ls st : List aV) (μ : aM) (g : Nat) : W (n + 1) 61 ls st μ g = (sLd 3 62 isI) (W n) ls st μ g := (hW n 61 ls st μ g).trans rfl
theorem wX5_shownAt_62 {l : Launch} {K : aRs} {X : aXs} {J : aK} {W : Nat → aK} (hW : isW (tbX5_shownAt l K X) cuX5_shownAt J W) (n : Nat) (ls st : List aV) (μ : aM) (g : Nat) : W (n + 1) 62 ls st μ g = (sRetI .int 0 K) (W n) ls st μ g := (hW n 62 ls st μ g).trans rfl
theorem dX5_leftAt_0 : decode cX5_leftAt 0 = .ok (.aload_n 0, 1) := by decide +kernel
theorem dX5_leftAt_1 : decode cX5_leftAt 1 = .ok (.iload_n 1, 1) := by decide +kernel
theorem dX5_leftAt_2 : decode cX5_leftAt 2 = .ok (.iload_n 2, 1) := by decide +kernel
theorem dX5_leftAt_3 : decode cX5_leftAt 3 = .ok (.invokevirtual 186, 3) := by decide +kernel
theorem dX5_leftAt_6 : decode cX5_leftAt 6 = .ok (.ifCond .eq 5, 3) := by decide +kernel
theorem dX5_leftAt_9 : decode cX5_leftAt 9 = .ok (.iconst 0, 1) := by decide +kernel
theorem dX5_leftAt_10 : decode cX5_leftAt 10 = .ok (.ireturn, 1) := by decide +kernel
theorem dX5_leftAt_11 : decode cX5_leftAt 11 = .ok (.iconst 0, 1) := by decide +kernel
theorem dX5_leftAt_12 : decode cX5_leftAt 12 = .ok (.istore_n 3, 1) := by decide +kernel
theorem dX5_leftAt_13 : decode cX5_leftAt 13 = .ok (.iconst 0, 1) := by decide +kernel
theorem dX5_leftAt_14 : decode cX5_leftAt 14 = .ok (.istore 4, 2) := by decide +kernel
theorem dX5_leftAt_16 : decode cX5_leftAt 16 = .ok (.iload 4, 2) := by decide +kernel
theorem dX5_leftAt_18 : decode cX5_leftAt 18 = .ok (.aload_n 0, 1) := by decide +kernel
theorem dX5_leftAt_19 : decode cX5_leftAt 19 = .ok (.getfield 68, 3) := by decide +kernel
theorem dX5_leftAt_22 : decode cX5_leftAt 22 = .ok (.if_icmp .ge 39, 3) := by decide +kernel
theorem dX5_leftAt_25 : decode cX5_leftAt 25 = .ok (.iload_n 3, 1) := by decide +kernel
theorem dX5_leftAt_26 : decode cX5_leftAt 26 = .ok (.aload_n 0, 1) := by decide +kernel
theorem dX5_leftAt_27 : decode cX5_leftAt 27 = .ok (.iload 4, 2) := by decide +kernel
theorem dX5_leftAt_29 : decode cX5_leftAt 29 = .ok (.iload_n 1, 1) := by decide +kernel
theorem dX5_leftAt_30 : decode cX5_leftAt 30 = .ok (.aload_n 0, 1) := by decide +kernel
theorem dX5_leftAt_31 : decode cX5_leftAt 31 = .ok (.iload_n 1, 1) := by decide +kernel
theorem dX5_leftAt_32 : decode cX5_leftAt 32 = .ok (.iload_n 2, 1) := by decide +kernel
theorem dX5_leftAt_33 : decode cX5_leftAt 33 = .ok (.invokevirtual 183, 3) := by decide +kernel
theorem dX5_leftAt_36 : decode cX5_leftAt 36 = .ok (.invokevirtual 175, 3) := by decide +kernel
theorem dX5_leftAt_39 : decode cX5_leftAt 39 = .ok (.ifCond .eq 13, 3) := by decide +kernel
theorem dX5_leftAt_42 : decode cX5_leftAt 42 = .ok (.aload_n 0, 1) := by decide +kernel
theorem dX5_leftAt_43 : decode cX5_leftAt 43 = .ok (.getfield 29, 3) := by decide +kernel
theorem dX5_leftAt_46 : decode cX5_leftAt 46 = .ok (.iload 4, 2) := by decide +kernel
theorem dX5_leftAt_48 : decode cX5_leftAt 48 = .ok (.iaload, 1) := by decide +kernel
theorem dX5_leftAt_49 : decode cX5_leftAt 49 = .ok (.goto 4, 3) := by decide +kernel
theorem dX5_leftAt_52 : decode cX5_leftAt 52 = .ok (.iconst 0, 1) := by decide +kernel
theorem dX5_leftAt_53 : decode cX5_leftAt 53 = .ok (.iadd, 1) := by decide +kernel
theorem dX5_leftAt_54 : decode cX5_leftAt 54 = .ok (.istore_n 3, 1) := by decide +kernel
theorem dX5_leftAt_55 : decode cX5_leftAt 55 = .ok (.iinc 4 1, 3) := by decide +kernel
theorem dX5_leftAt_58 : decode cX5_leftAt 58 = .ok (.goto (-42), 3) := by decide +kernel
theorem dX5_leftAt_61 : decode cX5_leftAt 61 = .ok (.iload_n 3, 1) := by decide +kernel
theorem dX5_leftAt_62 : decode cX5_leftAt 62 = .ok (.ireturn, 1) := by decide +kernel
def tbX5_leftAt (l : Launch) (K : aRs) (X : aXs) : aTb := [
  (0, sLd 0 1 isR),
  (1, sLd 1 2 isI),
  (2, sLd 2 3 isI),
  (3, sCallV 2 5 (fun as μ K => Ct l mdX5_isNoLevel as μ K X) 6 0 0),
  (6, sIf pEq 11 9),
  (9, sPush (aI 0) 10),
  (10, sRetI .int 0 K),
  (11, sPush (aI 0) 12),
  (12, sSt 3 13 isI),
  (13, sPush (aI 0) 14),
  (14, sSt 4 16 isI),
  (16, sLd 4 18 isI),
  (18, sLd 0 19 isR),
  (19, sGetI 5 0 22),
  (22, sIc qGe 61 25),
  (25, sLd 3 26 isI),
  (26, sLd 0 27 isR),
  (27, sLd 4 29 isI),
  (29, sLd 1 30 isI),
  (30, sLd 0 31 isR),
  (31, sLd 1 32 isI),
  (32, sLd 2 33 isI),
  (33, sCallV 2 5 (fun as μ K => Ct l mdX5_price as μ K X) 36 0 0),
  (36, sCallV 3 5 (fun as μ K => Ct l mdX5_isAt as μ K X) 39 0 0),
  (39, sIf pEq 52 42),
  (42, sLd 0 43 isR),
  (43, sGetR 5 7 46),
  (46, sLd 4 48 isI),
  (48, sAldI 7 49),
  (49, sGoto 53),
  (52, sPush (aI 0) 53),
  (53, sBin fAdd 54),
  (54, sSt 3 55 isI),
  (55, sInc 4 1 58),
  (58, sGoto 16),
  (61, sLd 3 62 isI),
  (62, sRetI .int 0 K)]
theorem snX5_leftAt (l : Launch) (K : aRs) (X : aXs) (n0 : Nat) : ∀ q ∈ tbX5_leftAt l K X, aSo l mdX5_leftAt K X n0 q.1 q.2 :=
  tc (fun p e s m args below meth c cA D A ad0 h => ok_aload_n h.1 0 rfl dX5_leftAt_0) <|
  tc (fun p e s m args below meth c cA D A ad0 h => ok_iload_n h.1 1 rfl dX5_leftAt_1) <|
  tc (fun p e s m args below meth c cA D A ad0 h => ok_iload_n h.1 2 rfl dX5_leftAt_2) <|
  tc (fun p e s m args below meth c cA D A ad0 h => ok_callV h.1 h.2.1 ⟨Nat.le_refl _, Nat.le_refl _⟩ mdX5_isNoLevel siX5_isNoLevel cxX5 mkRX5_186 imX5_isNoLevel seX5_isNoLevel ⟨by decide, by decide⟩ (aAx_out h.1 h.2.2.1 _) dX5_leftAt_3) <|
  tc (fun p e s m args below meth c cA D A ad0 h => ok_if_eq h.1 11 (by decide) dX5_leftAt_6) <|
  tc (fun p e s m args below meth c cA D A ad0 h => ok_iconst h.1 ⟨by decide, by decide⟩ dX5_leftAt_9) <|
  tc (fun p e s m args below meth c cA D A ad0 h => ok_ireturn h.1 h.2.2.2.1 (Or.inl rfl) dX5_leftAt_10) <|
  tc (fun p e s m args below meth c cA D A ad0 h => ok_iconst h.1 ⟨by decide, by decide⟩ dX5_leftAt_11) <|
  tc (fun p e s m args below meth c cA D A ad0 h => ok_istore_n h.1 3 rfl (by decide) dX5_leftAt_12) <|
  tc (fun p e s m args below meth c cA D A ad0 h => ok_iconst h.1 ⟨by decide, by decide⟩ dX5_leftAt_13) <|
  tc (fun p e s m args below meth c cA D A ad0 h => ok_istore h.1 (by decide) dX5_leftAt_14) <|
  tc (fun p e s m args below meth c cA D A ad0 h => ok_iload h.1 dX5_leftAt_16) <|
  tc (fun p e s m args below meth c cA D A ad0 h => ok_aload_n h.1 0 rfl dX5_leftAt_18) <|
  tc (fun p e s m args below meth c cA D A ad0 h => ok_getI h.1 cxX5 (by decide) rfl fkRX5_68 (fun _ _ _ => rfl) dX5_leftAt_19) <|
  tc (fun p e s m args below meth c cA D A ad0 h => ok_icmp_ge h.1 61 (by decide) dX5_leftAt_22) <|
  tc (fun p e s m args below meth c cA D A ad0 h => ok_iload_n h.1 3 rfl dX5_leftAt_25) <|
  tc (fun p e s m args below meth c cA D A ad0 h => ok_aload_n h.1 0 rfl dX5_leftAt_26) <|
  tc (fun p e s m args below meth c cA D A ad0 h => ok_iload h.1 dX5_leftAt_27) <|
  tc (fun p e s m args below meth c cA D A ad0 h => ok_iload_n h.1 1 rfl dX5_leftAt_29) <|
  tc (fun p e s m args below meth c cA D A ad0 h => ok_aload_n h.1 0 rfl dX5_leftAt_30) <|
  tc (fun p e s m args below meth c cA D A ad0 h => ok_iload_n h.1 1 rfl dX5_leftAt_31) <|
  tc (fun p e s m args below meth c cA D A ad0 h => ok_iload_n h.1 2 rfl dX5_leftAt_32) <|
  tc (fun p e s m args below meth c cA D A ad0 h => ok_callV h.1 h.2.1 ⟨Nat.le_refl _, Nat.le_refl _⟩ mdX5_price siX5_price cxX5 mkRX5_183 imX5_price seX5_price ⟨by decide, by decide⟩ (aAx_out h.1 h.2.2.1 _) dX5_leftAt_33) <|
  tc (fun p e s m args below meth c cA D A ad0 h => ok_callV h.1 h.2.1 ⟨Nat.le_refl _, Nat.le_refl _⟩ mdX5_isAt siX5_isAt cxX5 mkRX5_175 imX5_isAt seX5_isAt ⟨by decide, by decide⟩ (aAx_out h.1 h.2.2.1 _) dX5_leftAt_36) <|
  tc (fun p e s m args below meth c cA D A ad0 h => ok_if_eq h.1 52 (by decide) dX5_leftAt_39) <|
  tc (fun p e s m args below meth c cA D A ad0 h => ok_aload_n h.1 0 rfl dX5_leftAt_42) <|
  tc (fun p e s m args below meth c cA D A ad0 h => ok_getR h.1 cxX5 (by decide) rfl fkRX5_29 (fun _ _ _ => rfl) dX5_leftAt_43) <|
  tc (fun p e s m args below meth c cA D A ad0 h => ok_iload h.1 dX5_leftAt_46) <|
  tc (fun p e s m args below meth c cA D A ad0 h => ok_iald h.1 dX5_leftAt_48) <|
  tc (fun p e s m args below meth c cA D A ad0 h => ok_goto h.1 53 (by decide) dX5_leftAt_49) <|
  tc (fun p e s m args below meth c cA D A ad0 h => ok_iconst h.1 ⟨by decide, by decide⟩ dX5_leftAt_52) <|
  tc (fun p e s m args below meth c cA D A ad0 h => ok_iadd h.1 dX5_leftAt_53) <|
  tc (fun p e s m args below meth c cA D A ad0 h => ok_istore_n h.1 3 rfl (by decide) dX5_leftAt_54) <|
  tc (fun p e s m args below meth c cA D A ad0 h => ok_iinc h.1 (by decide) dX5_leftAt_55) <|
  tc (fun p e s m args below meth c cA D A ad0 h => ok_goto h.1 16 (by decide) dX5_leftAt_58) <|
  tc (fun p e s m args below meth c cA D A ad0 h => ok_iload_n h.1 3 rfl dX5_leftAt_61) <|
  tc (fun p e s m args below meth c cA D A ad0 h => ok_ireturn h.1 h.2.2.2.1 (Or.inl rfl) dX5_leftAt_62) <|
  tn
abbrev cuX5_leftAt : List Nat := [6, 16, 36, 39]
theorem tX5_leftAt_0 (l : Launch) (K : aRs) (X : aXs) : tb (tbX5_leftAt l K X) 0 = sLd 0 1 isR := (rfl)
theorem wX5_leftAt_0 {l : Launch} {K : aRs} {X : aXs} {J : aK} {W : Nat → aK} (hW : isW (tbX5_leftAt l K X) cuX5_leftAt J W) (n : Nat) (ls st : List aV) (μ : aM) (g : Nat) : W (n + 1) 0 ls st μ g = (sLd 0 1 isR) (W n) ls st μ g := (hW n 0 ls st μ g).trans rfl
theorem wX5_leftAt_1 {l : Launch} {K : aRs} {X : aXs} {J : aK} {W : Nat → aK} (hW : isW (tbX5_leftAt l K X) cuX5_leftAt J W) (n : Nat) (ls st : List aV) (μ : aM) (g : Nat) : W (n + 1) 1 ls st μ g = (sLd 1 2 isI) (W n) ls st μ g := (hW n 1 ls st μ g).trans rfl
theorem wX5_leftAt_2 {l : Launch} {K : aRs} {X : aXs} {J : aK} {W : Nat → aK} (hW : isW (tbX5_leftAt l K X) cuX5_leftAt J W) (n : Nat) (ls st : List aV) (μ : aM) (g : Nat) : W (n + 1) 2 ls st μ g = (sLd 2 3 isI) (W n) ls st μ g := (hW n 2 ls st μ g).trans rfl
theorem wX5_leftAt_3 {l : Launch} {K : aRs} {X : aXs} {J : aK} {W : Nat → aK} (hW : isW (tbX5_leftAt l K X) cuX5_leftAt J W) (n : Nat) (ls st : List aV) (μ : aM) (g : Nat) : W (n + 1) 3 ls st μ g = (sCallV 2 5 (fun as μ K => Ct l mdX5_isNoLevel as μ K X) 6 0 0) (W n) ls st μ g := (hW n 3 ls st μ g).trans rfl
theorem tX5_leftAt_6 (l : Launch) (K : aRs) (X : aXs) : tb (tbX5_leftAt l K X) 6 = sIf pEq 11 9 := (rfl)
theorem wX5_leftAt_6 {l : Launch} {K : aRs} {X : aXs} {J : aK} {W : Nat → aK} (hW : isW (tbX5_leftAt l K X) cuX5_leftAt J W) (n : Nat) (ls st : List aV) (μ : aM) (g : Nat) : W (n + 1) 6 ls st μ g = J 6 ls st μ g := (hW n 6 ls st μ g).trans rfl
theorem wX5_leftAt_9 {l : Launch} {K : aRs} {X : aXs} {J : aK} {W : Nat → aK} (hW : isW (tbX5_leftAt l K X) cuX5_leftAt J W) (n : Nat) (ls st : List aV) (μ : aM) (g : Nat) : W (n + 1) 9 ls st μ g = (sPush (aI 0) 10) (W n) ls st μ g := (hW n 9 ls st μ g).trans rfl
theorem wX5_leftAt_10 {l : Launch} {K : aRs} {X : aXs} {J : aK} {W : Nat → aK} (hW : isW (tbX5_leftAt l K X) cuX5_leftAt J W) (n : Nat) (ls st : List aV) (μ : aM) (g : Nat) : W (n + 1) 10 ls st μ g = (sRetI .int 0 K) (W n) ls st μ g := (hW n 10 ls st μ g).trans rfl
theorem wX5_leftAt_11 {l : Launch} {K : aRs} {X : aXs} {J : aK} {W : Nat → aK} (hW : isW (tbX5_leftAt l K X) cuX5_leftAt J W) (n : Nat) (ls st : List aV) (μ : aM) (g : Nat) : W (n + 1) 11 ls st μ g = (sPush (aI 0) 12) (W n) ls st μ g := (hW n 11 ls st μ g).trans rfl
theorem wX5_leftAt_12 {l : Launch} {K : aRs} {X : aXs} {J : aK} {W : Nat → aK} (hW : isW (tbX5_leftAt l K X) cuX5_leftAt J W) (n : Nat) (ls st : List aV) (μ : aM) (g : Nat) : W (n + 1) 12 ls st μ g = (sSt 3 13 isI) (W n) ls st μ g := (hW n 12 ls st μ g).trans rfl
theorem wX5_leftAt_13 {l : Launch} {K : aRs} {X : aXs} {J : aK} {W : Nat → aK} (hW : isW (tbX5_leftAt l K X) cuX5_leftAt J W) (n : Nat) (ls st : List aV) (μ : aM) (g : Nat) : W (n + 1) 13 ls st μ g = (sPush (aI 0) 14) (W n) ls st μ g := (hW n 13 ls st μ g).trans rfl
theorem wX5_leftAt_14 {l : Launch} {K : aRs} {X : aXs} {J : aK} {W : Nat → aK} (hW : isW (tbX5_leftAt l K X) cuX5_leftAt J W) (n : Nat) (ls st : List aV) (μ : aM) (g : Nat) : W (n + 1) 14 ls st μ g = (sSt 4 16 isI) (W n) ls st μ g := (hW n 14 ls st μ g).trans rfl
theorem tX5_leftAt_16 (l : Launch) (K : aRs) (X : aXs) : tb (tbX5_leftAt l K X) 16 = sLd 4 18 isI := (rfl)
theorem wX5_leftAt_16 {l : Launch} {K : aRs} {X : aXs} {J : aK} {W : Nat → aK} (hW : isW (tbX5_leftAt l K X) cuX5_leftAt J W) (n : Nat) (ls st : List aV) (μ : aM) (g : Nat) : W (n + 1) 16 ls st μ g = J 16 ls st μ g := (hW n 16 ls st μ g).trans rfl
theorem wX5_leftAt_18 {l : Launch} {K : aRs} {X : aXs} {J : aK} {W : Nat → aK} (hW : isW (tbX5_leftAt l K X) cuX5_leftAt J W) (n : Nat) (ls st : List aV) (μ : aM) (g : Nat) : W (n + 1) 18 ls st μ g = (sLd 0 19 isR) (W n) ls st μ g := (hW n 18 ls st μ g).trans rfl
theorem wX5_leftAt_19 {l : Launch} {K : aRs} {X : aXs} {J : aK} {W : Nat → aK} (hW : isW (tbX5_leftAt l K X) cuX5_leftAt J W) (n : Nat) (ls st : List aV) (μ : aM) (g : Nat) : W (n + 1) 19 ls st μ g = (sGetI 5 0 22) (W n) ls st μ g := (hW n 19 ls st μ g).trans rfl
theorem wX5_leftAt_22 {l : Launch} {K : aRs} {X : aXs} {J : aK} {W : Nat → aK} (hW : isW (tbX5_leftAt l K X) cuX5_leftAt J W) (n : Nat) (ls st : List aV) (μ : aM) (g : Nat) : W (n + 1) 22 ls st μ g = (sIc qGe 61 25) (W n) ls st μ g := (hW n 22 ls st μ g).trans rfl
theorem wX5_leftAt_25 {l : Launch} {K : aRs} {X : aXs} {J : aK} {W : Nat → aK} (hW : isW (tbX5_leftAt l K X) cuX5_leftAt J W) (n : Nat) (ls st : List aV) (μ : aM) (g : Nat) : W (n + 1) 25 ls st μ g = (sLd 3 26 isI) (W n) ls st μ g := (hW n 25 ls st μ g).trans rfl
theorem wX5_leftAt_26 {l : Launch} {K : aRs} {X : aXs} {J : aK} {W : Nat → aK} (hW : isW (tbX5_leftAt l K X) cuX5_leftAt J W) (n : Nat) (ls st : List aV) (μ : aM) (g : Nat) : W (n + 1) 26 ls st μ g = (sLd 0 27 isR) (W n) ls st μ g := (hW n 26 ls st μ g).trans rfl
theorem wX5_leftAt_27 {l : Launch} {K : aRs} {X : aXs} {J : aK} {W : Nat → aK} (hW : isW (tbX5_leftAt l K X) cuX5_leftAt J W) (n : Nat) (ls st : List aV) (μ : aM) (g : Nat) : W (n + 1) 27 ls st μ g = (sLd 4 29 isI) (W n) ls st μ g := (hW n 27 ls st μ g).trans rfl
theorem wX5_leftAt_29 {l : Launch} {K : aRs} {X : aXs} {J : aK} {W : Nat → aK} (hW : isW (tbX5_leftAt l K X) cuX5_leftAt J W) (n : Nat) (ls st : List aV) (μ : aM) (g : Nat) : W (n + 1) 29 ls st μ g = (sLd 1 30 isI) (W n) ls st μ g := (hW n 29 ls st μ g).trans rfl
theorem wX5_leftAt_30 {l : Launch} {K : aRs} {X : aXs} {J : aK} {W : Nat → aK} (hW : isW (tbX5_leftAt l K X) cuX5_leftAt J W) (n : Nat) (ls st : List aV) (μ : aM) (g : Nat) : W (n + 1) 30 ls st μ g = (sLd 0 31 isR) (W n) ls st μ g := (hW n 30 ls st μ g).trans rfl
theorem wX5_leftAt_31 {l : Launch} {K : aRs} {X : aXs} {J : aK} {W : Nat → aK} (hW : isW (tbX5_leftAt l K X) cuX5_leftAt J W) (n : Nat) (ls st : List aV) (μ : aM) (g : Nat) : W (n + 1) 31 ls st μ g = (sLd 1 32 isI) (W n) ls st μ g := (hW n 31 ls st μ g).trans rfl
theorem wX5_leftAt_32 {l : Launch} {K : aRs} {X : aXs} {J : aK} {W : Nat → aK} (hW : isW (tbX5_leftAt l K X) cuX5_leftAt J W) (n : Nat) (ls st : List aV) (μ : aM) (g : Nat) : W (n + 1) 32 ls st μ g = (sLd 2 33 isI) (W n) ls st μ g := (hW n 32 ls st μ g).trans rfl
theorem wX5_leftAt_33 {l : Launch} {K : aRs} {X : aXs} {J : aK} {W : Nat → aK} (hW : isW (tbX5_leftAt l K X) cuX5_leftAt J W) (n : Nat) (ls st : List aV) (μ : aM) (g : Nat) : W (n + 1) 33 ls st μ g = (sCallV 2 5 (fun as μ K => Ct l mdX5_price as μ K X) 36 0 0) (W n) ls st μ g := (hW n 33 ls st μ g).trans rfl
theorem tX5_leftAt_36 (l : Launch) (K : aRs) (X : aXs) : tb (tbX5_leftAt l K X) 36 = sCallV 3 5 (fun as μ K => Ct l mdX5_isAt as μ K X) 39 0 0 := (rfl)
theorem wX5_leftAt_36 {l : Launch} {K : aRs} {X : aXs} {J : aK} {W : Nat → aK} (hW : isW (tbX5_leftAt l K X) cuX5_leftAt J W) (n : Nat) (ls st : List aV) (μ : aM) (g : Nat) : W (n + 1) 36 ls st μ g = J 36 ls st μ g := (hW n 36 ls st μ g).trans rfl
theorem tX5_leftAt_39 (l : Launch) (K : aRs) (X : aXs) : tb (tbX5_leftAt l K X) 39 = sIf pEq 52 42 := (rfl)
theorem wX5_leftAt_39 {l : Launch} {K : aRs} {X : aXs} {J : aK} {W : Nat → aK} (hW : isW (tbX5_leftAt l K X) cuX5_leftAt J W) (n : Nat) (ls st : List aV) (μ : aM) (g : Nat) : W (n + 1) 39 ls st μ g = J 39 ls st μ g := (hW n 39 ls st μ g).trans rfl
theorem wX5_leftAt_42 {l : Launch} {K : aRs} {X : aXs} {J : aK} {W : Nat → aK} (hW : isW (tbX5_leftAt l K X) cuX5_leftAt J W) (n : Nat) (ls st : List aV) (μ : aM) (g : Nat) : W (n + 1) 42 ls st μ g = (sLd 0 43 isR) (W n) ls st μ g := (hW n 42 ls st μ g).trans rfl
theorem wX5_leftAt_43 {l : Launch} {K : aRs} {X : aXs} {J : aK} {W : Nat → aK} (hW : isW (tbX5_leftAt l K X) cuX5_leftAt J W) (n : Nat) (ls st : List aV) (μ : aM) (g : Nat) : W (n + 1) 43 ls st μ g = (sGetR 5 7 46) (W n) ls st μ g := (hW n 43 ls st μ g).trans rfl
theorem wX5_leftAt_46 {l : Launch} {K : aRs} {X : aXs} {J : aK} {W : Nat → aK} (hW : isW (tbX5_leftAt l K X) cuX5_leftAt J W) (n : Nat) (ls st : List aV) (μ : aM) (g : Nat) : W (n + 1) 46 ls st μ g = (sLd 4 48 isI) (W n) ls st μ g := (hW n 46 ls st μ g).trans rfl
theorem wX5_leftAt_48 {l : Launch} {K : aRs} {X : aXs} {J : aK} {W : Nat → aK} (hW : isW (tbX5_leftAt l K X) cuX5_leftAt J W) (n : Nat) (ls st : List aV) (μ : aM) (g : Nat) : W (n + 1) 48 ls st μ g = (sAldI 7 49) (W n) ls st μ g := (hW n 48 ls st μ g).trans rfl
theorem wX5_leftAt_49 {l : Launch} {K : aRs} {X : aXs} {J : aK} {W : Nat → aK} (hW : isW (tbX5_leftAt l K X) cuX5_leftAt J W) (n : Nat) (ls st : List aV) (μ : aM) (g : Nat) : W (n + 1) 49 ls st μ g = (sGoto 53) (W n) ls st μ g := (hW n 49 ls st μ g).trans rfl
theorem wX5_leftAt_52 {l : Launch} {K : aRs} {X : aXs} {J : aK} {W : Nat → aK} (hW : isW (tbX5_leftAt l K X) cuX5_leftAt J W) (n : Nat) (ls st : List aV) (μ : aM) (g : Nat) : W (n + 1) 52 ls st μ g = (sPush (aI 0) 53) (W n) ls st μ g := (hW n 52 ls st μ g).trans rfl
theorem wX5_leftAt_53 {l : Launch} {K : aRs} {X : aXs} {J : aK} {W : Nat → aK} (hW : isW (tbX5_leftAt l K X) cuX5_leftAt J W) (n : Nat) (ls st : List aV) (μ : aM) (g : Nat) : W (n + 1) 53 ls st μ g = (sBin fAdd 54) (W n) ls st μ g := (hW n 53 ls st μ g).trans rfl
theorem wX5_leftAt_54 {l : Launch} {K : aRs} {X : aXs} {J : aK} {W : Nat → aK} (hW : isW (tbX5_leftAt l K X) cuX5_leftAt J W) (n : Nat) (ls st : List aV) (μ : aM) (g : Nat) : W (n + 1) 54 ls st μ g = (sSt 3 55 isI) (W n) ls st μ g := (hW n 54 ls st μ g).trans rfl
theorem wX5_leftAt_55 {l : Launch} {K : aRs} {X : aXs} {J : aK} {W : Nat → aK} (hW : isW (tbX5_leftAt l K X) cuX5_leftAt J W) (n : Nat) (ls st : List aV) (μ : aM) (g : Nat) : W (n + 1) 55 ls st μ g = (sInc 4 1 58) (W n) ls st μ g := (hW n 55 ls st μ g).trans rfl
theorem wX5_leftAt_58 {l : Launch} {K : aRs} {X : aXs} {J : aK} {W : Nat → aK} (hW : isW (tbX5_leftAt l K X) cuX5_leftAt J W) (n : Nat) (ls st : List aV) (μ : aM) (g : Nat) : W (n + 1) 58 ls st μ g = (sGoto 16) (W n) ls st μ g := (hW n 58 ls st μ g).trans rfl
theorem wX5_leftAt_61 {l : Launch} {K : aRs} {X : aXs} {J : aK} {W : Nat → aK} (hW : isW (tbX5_leftAt l K X) cuX5_leftAt J W) (n : Nat) (ls st : List aV) (μ : aM) (g : Nat) : W (n + 1) 61 ls st μ g = (sLd 3 62 isI) (W n) ls st μ g := (hW n 61 ls st μ g).trans rfl
theorem wX5_leftAt_62 {l : Launch} {K : aRs} {X : aXs} {J : aK} {W : Nat → aK} (hW : isW (tbX5_leftAt l K X) cuX5_leftAt J W) (n : Nat) (ls st : List aV) (μ : aM) (g : Nat) : W (n + 1) 62 ls st μ g = (sRetI .int 0 K) (W n) ls st μ g := (hW n 62 ls st μ g).trans rfl
theorem dX5_ordersAt_0 : decode cX5_ordersAt 0 = .ok (.aload_n 0, 1) := by decide +kernel
theorem dX5_ordersAt_1 : decode cX5_ordersAt 1 = .ok (.iload_n 1, 1) := by decide +kernel
theorem dX5_ordersAt_2 : decode cX5_ordersAt 2 = .ok (.iload_n 2, 1) := by decide +kernel
theorem dX5_ordersAt_3 : decode cX5_ordersAt 3 = .ok (.invokevirtual 186, 3) := by decide +kernel
theorem dX5_ordersAt_6 : decode cX5_ordersAt 6 = .ok (.ifCond .eq 7, 3) := by decide +kernel
theorem dX5_ordersAt_9 : decode cX5_ordersAt 9 = .ok (.iconst 0, 1) := by decide +kernel
theorem dX5_ordersAt_10 : decode cX5_ordersAt 10 = .ok (.goto 14, 3) := by decide +kernel
theorem dX5_ordersAt_13 : decode cX5_ordersAt 13 = .ok (.aload_n 0, 1) := by decide +kernel
theorem dX5_ordersAt_14 : decode cX5_ordersAt 14 = .ok (.iload_n 1, 1) := by decide +kernel
theorem dX5_ordersAt_15 : decode cX5_ordersAt 15 = .ok (.aload_n 0, 1) := by decide +kernel
theorem dX5_ordersAt_16 : decode cX5_ordersAt 16 = .ok (.iload_n 1, 1) := by decide +kernel
theorem dX5_ordersAt_17 : decode cX5_ordersAt 17 = .ok (.iload_n 2, 1) := by decide +kernel
theorem dX5_ordersAt_18 : decode cX5_ordersAt 18 = .ok (.invokevirtual 183, 3) := by decide +kernel
theorem dX5_ordersAt_21 : decode cX5_ordersAt 21 = .ok (.invokevirtual 179, 3) := by decide +kernel
theorem dX5_ordersAt_24 : decode cX5_ordersAt 24 = .ok (.ireturn, 1) := by decide +kernel
def tbX5_ordersAt (l : Launch) (K : aRs) (X : aXs) : aTb := [
  (0, sLd 0 1 isR),
  (1, sLd 1 2 isI),
  (2, sLd 2 3 isI),
  (3, sCallV 2 5 (fun as μ K => Ct l mdX5_isNoLevel as μ K X) 6 0 0),
  (6, sIf pEq 13 9),
  (9, sPush (aI 0) 10),
  (10, sGoto 24),
  (13, sLd 0 14 isR),
  (14, sLd 1 15 isI),
  (15, sLd 0 16 isR),
  (16, sLd 1 17 isI),
  (17, sLd 2 18 isI),
  (18, sCallV 2 5 (fun as μ K => Ct l mdX5_price as μ K X) 21 0 0),
  (21, sCallV 2 5 (fun as μ K => Ct l mdX5_manyAt as μ K X) 24 0 0),
  (24, sRetI .int 0 K)]
theorem snX5_ordersAt (l : Launch) (K : aRs) (X : aXs) (n0 : Nat) : ∀ q ∈ tbX5_ordersAt l K X, aSo l mdX5_ordersAt K X n0 q.1 q.2 :=
  tc (fun p e s m args below meth c cA D A ad0 h => ok_aload_n h.1 0 rfl dX5_ordersAt_0) <|
  tc (fun p e s m args below meth c cA D A ad0 h => ok_iload_n h.1 1 rfl dX5_ordersAt_1) <|
  tc (fun p e s m args below meth c cA D A ad0 h => ok_iload_n h.1 2 rfl dX5_ordersAt_2) <|
  tc (fun p e s m args below meth c cA D A ad0 h => ok_callV h.1 h.2.1 ⟨Nat.le_refl _, Nat.le_refl _⟩ mdX5_isNoLevel siX5_isNoLevel cxX5 mkRX5_186 imX5_isNoLevel seX5_isNoLevel ⟨by decide, by decide⟩ (aAx_out h.1 h.2.2.1 _) dX5_ordersAt_3) <|
  tc (fun p e s m args below meth c cA D A ad0 h => ok_if_eq h.1 13 (by decide) dX5_ordersAt_6) <|
  tc (fun p e s m args below meth c cA D A ad0 h => ok_iconst h.1 ⟨by decide, by decide⟩ dX5_ordersAt_9) <|
  tc (fun p e s m args below meth c cA D A ad0 h => ok_goto h.1 24 (by decide) dX5_ordersAt_10) <|
  tc (fun p e s m args below meth c cA D A ad0 h => ok_aload_n h.1 0 rfl dX5_ordersAt_13) <|
  tc (fun p e s m args below meth c cA D A ad0 h => ok_iload_n h.1 1 rfl dX5_ordersAt_14) <|
  tc (fun p e s m args below meth c cA D A ad0 h => ok_aload_n h.1 0 rfl dX5_ordersAt_15) <|
  tc (fun p e s m args below meth c cA D A ad0 h => ok_iload_n h.1 1 rfl dX5_ordersAt_16) <|
  tc (fun p e s m args below meth c cA D A ad0 h => ok_iload_n h.1 2 rfl dX5_ordersAt_17) <|
  tc (fun p e s m args below meth c cA D A ad0 h => ok_callV h.1 h.2.1 ⟨Nat.le_refl _, Nat.le_refl _⟩ mdX5_price siX5_price cxX5 mkRX5_183 imX5_price seX5_price ⟨by decide, by decide⟩ (aAx_out h.1 h.2.2.1 _) dX5_ordersAt_18) <|
  tc (fun p e s m args below meth c cA D A ad0 h => ok_callV h.1 h.2.1 ⟨Nat.le_refl _, Nat.le_refl _⟩ mdX5_manyAt siX5_manyAt cxX5 mkRX5_179 imX5_manyAt seX5_manyAt ⟨by decide, by decide⟩ (aAx_out h.1 h.2.2.1 _) dX5_ordersAt_21) <|
  tc (fun p e s m args below meth c cA D A ad0 h => ok_ireturn h.1 h.2.2.2.1 (Or.inl rfl) dX5_ordersAt_24) <|
  tn
abbrev cuX5_ordersAt : List Nat := [6, 21, 24]
theorem tX5_ordersAt_0 (l : Launch) (K : aRs) (X : aXs) : tb (tbX5_ordersAt l K X) 0 = sLd 0 1 isR := (rfl)
theorem wX5_ordersAt_0 {l : Launch} {K : aRs} {X : aXs} {J : aK} {W : Nat → aK} (hW : isW (tbX5_ordersAt l K X) cuX5_ordersAt J W) (n : Nat) (ls st : List aV) (μ : aM) (g : Nat) : W (n + 1) 0 ls st μ g = (sLd 0 1 isR) (W n) ls st μ g := (hW n 0 ls st μ g).trans rfl
theorem wX5_ordersAt_1 {l : Launch} {K : aRs} {X : aXs} {J : aK} {W : Nat → aK} (hW : isW (tbX5_ordersAt l K X) cuX5_ordersAt J W) (n : Nat) (ls st : List aV) (μ : aM) (g : Nat) : W (n + 1) 1 ls st μ g = (sLd 1 2 isI) (W n) ls st μ g := (hW n 1 ls st μ g).trans rfl
theorem wX5_ordersAt_2 {l : Launch} {K : aRs} {X : aXs} {J : aK} {W : Nat → aK} (hW : isW (tbX5_ordersAt l K X) cuX5_ordersAt J W) (n : Nat) (ls st : List aV) (μ : aM) (g : Nat) : W (n + 1) 2 ls st μ g = (sLd 2 3 isI) (W n) ls st μ g := (hW n 2 ls st μ g).trans rfl
theorem wX5_ordersAt_3 {l : Launch} {K : aRs} {X : aXs} {J : aK} {W : Nat → aK} (hW : isW (tbX5_ordersAt l K X) cuX5_ordersAt J W) (n : Nat) (ls st : List aV) (μ : aM) (g : Nat) : W (n + 1) 3 ls st μ g = (sCallV 2 5 (fun as μ K => Ct l mdX5_isNoLevel as μ K X) 6 0 0) (W n) ls st μ g := (hW n 3 ls st μ g).trans rfl
theorem tX5_ordersAt_6 (l : Launch) (K : aRs) (X : aXs) : tb (tbX5_ordersAt l K X) 6 = sIf pEq 13 9 := (rfl)
theorem wX5_ordersAt_6 {l : Launch} {K : aRs} {X : aXs} {J : aK} {W : Nat → aK} (hW : isW (tbX5_ordersAt l K X) cuX5_ordersAt J W) (n : Nat) (ls st : List aV) (μ : aM) (g : Nat) : W (n + 1) 6 ls st μ g = J 6 ls st μ g := (hW n 6 ls st μ g).trans rfl
theorem wX5_ordersAt_9 {l : Launch} {K : aRs} {X : aXs} {J : aK} {W : Nat → aK} (hW : isW (tbX5_ordersAt l K X) cuX5_ordersAt J W) (n : Nat) (ls st : List aV) (μ : aM) (g : Nat) : W (n + 1) 9 ls st μ g = (sPush (aI 0) 10) (W n) ls st μ g := (hW n 9 ls st μ g).trans rfl
theorem wX5_ordersAt_10 {l : Launch} {K : aRs} {X : aXs} {J : aK} {W : Nat → aK} (hW : isW (tbX5_ordersAt l K X) cuX5_ordersAt J W) (n : Nat) (ls st : List aV) (μ : aM) (g : Nat) : W (n + 1) 10 ls st μ g = (sGoto 24) (W n) ls st μ g := (hW n 10 ls st μ g).trans rfl
theorem wX5_ordersAt_13 {l : Launch} {K : aRs} {X : aXs} {J : aK} {W : Nat → aK} (hW : isW (tbX5_ordersAt l K X) cuX5_ordersAt J W) (n : Nat) (ls st : List aV) (μ : aM) (g : Nat) : W (n + 1) 13 ls st μ g = (sLd 0 14 isR) (W n) ls st μ g := (hW n 13 ls st μ g).trans rfl
theorem wX5_ordersAt_14 {l : Launch} {K : aRs} {X : aXs} {J : aK} {W : Nat → aK} (hW : isW (tbX5_ordersAt l K X) cuX5_ordersAt J W) (n : Nat) (ls st : List aV) (μ : aM) (g : Nat) : W (n + 1) 14 ls st μ g = (sLd 1 15 isI) (W n) ls st μ g := (hW n 14 ls st μ g).trans rfl
theorem wX5_ordersAt_15 {l : Launch} {K : aRs} {X : aXs} {J : aK} {W : Nat → aK} (hW : isW (tbX5_ordersAt l K X) cuX5_ordersAt J W) (n : Nat) (ls st : List aV) (μ : aM) (g : Nat) : W (n + 1) 15 ls st μ g = (sLd 0 16 isR) (W n) ls st μ g := (hW n 15 ls st μ g).trans rfl
theorem wX5_ordersAt_16 {l : Launch} {K : aRs} {X : aXs} {J : aK} {W : Nat → aK} (hW : isW (tbX5_ordersAt l K X) cuX5_ordersAt J W) (n : Nat) (ls st : List aV) (μ : aM) (g : Nat) : W (n + 1) 16 ls st μ g = (sLd 1 17 isI) (W n) ls st μ g := (hW n 16 ls st μ g).trans rfl
theorem wX5_ordersAt_17 {l : Launch} {K : aRs} {X : aXs} {J : aK} {W : Nat → aK} (hW : isW (tbX5_ordersAt l K X) cuX5_ordersAt J W) (n : Nat) (ls st : List aV) (μ : aM) (g : Nat) : W (n + 1) 17 ls st μ g = (sLd 2 18 isI) (W n) ls st μ g := (hW n 17 ls st μ g).trans rfl
theorem wX5_ordersAt_18 {l : Launch} {K : aRs} {X : aXs} {J : aK} {W : Nat → aK} (hW : isW (tbX5_ordersAt l K X) cuX5_ordersAt J W) (n : Nat) (ls st : List aV) (μ : aM) (g : Nat) : W (n + 1) 18 ls st μ g = (sCallV 2 5 (fun as μ K => Ct l mdX5_price as μ K X) 21 0 0) (W n) ls st μ g := (hW n 18 ls st μ g).trans rfl
theorem tX5_ordersAt_21 (l : Launch) (K : aRs) (X : aXs) : tb (tbX5_ordersAt l K X) 21 = sCallV 2 5 (fun as μ K => Ct l mdX5_manyAt as μ K X) 24 0 0 := (rfl)
theorem wX5_ordersAt_21 {l : Launch} {K : aRs} {X : aXs} {J : aK} {W : Nat → aK} (hW : isW (tbX5_ordersAt l K X) cuX5_ordersAt J W) (n : Nat) (ls st : List aV) (μ : aM) (g : Nat) : W (n + 1) 21 ls st μ g = J 21 ls st μ g := (hW n 21 ls st μ g).trans rfl
theorem tX5_ordersAt_24 (l : Launch) (K : aRs) (X : aXs) : tb (tbX5_ordersAt l K X) 24 = sRetI .int 0 K := (rfl)
theorem wX5_ordersAt_24 {l : Launch} {K : aRs} {X : aXs} {J : aK} {W : Nat → aK} (hW : isW (tbX5_ordersAt l K X) cuX5_ordersAt J W) (n : Nat) (ls st : List aV) (μ : aM) (g : Nat) : W (n + 1) 24 ls st μ g = J 24 ls st μ g := (hW n 24 ls st μ g).trans rfl
theorem dX5_orderAt_0 : decode cX5_orderAt 0 = .ok (.aload_n 0, 1) := by decide +kernel
theorem dX5_orderAt_1 : decode cX5_orderAt 1 = .ok (.iload_n 1, 1) := by decide +kernel
theorem dX5_orderAt_2 : decode cX5_orderAt 2 = .ok (.iload_n 2, 1) := by decide +kernel
theorem dX5_orderAt_3 : decode cX5_orderAt 3 = .ok (.invokevirtual 186, 3) := by decide +kernel
theorem dX5_orderAt_6 : decode cX5_orderAt 6 = .ok (.ifCond .eq 5, 3) := by decide +kernel
theorem dX5_orderAt_9 : decode cX5_orderAt 9 = .ok (.iconst 0, 1) := by decide +kernel
theorem dX5_orderAt_10 : decode cX5_orderAt 10 = .ok (.ireturn, 1) := by decide +kernel
theorem dX5_orderAt_11 : decode cX5_orderAt 11 = .ok (.aload_n 0, 1) := by decide +kernel
theorem dX5_orderAt_12 : decode cX5_orderAt 12 = .ok (.iload_n 1, 1) := by decide +kernel
theorem dX5_orderAt_13 : decode cX5_orderAt 13 = .ok (.iload_n 2, 1) := by decide +kernel
theorem dX5_orderAt_14 : decode cX5_orderAt 14 = .ok (.invokevirtual 183, 3) := by decide +kernel
theorem dX5_orderAt_17 : decode cX5_orderAt 17 = .ok (.istore 4, 2) := by decide +kernel
theorem dX5_orderAt_19 : decode cX5_orderAt 19 = .ok (.iconst 0, 1) := by decide +kernel
theorem dX5_orderAt_20 : decode cX5_orderAt 20 = .ok (.istore 5, 2) := by decide +kernel
theorem dX5_orderAt_22 : decode cX5_orderAt 22 = .ok (.iload 5, 2) := by decide +kernel
theorem dX5_orderAt_24 : decode cX5_orderAt 24 = .ok (.aload_n 0, 1) := by decide +kernel
theorem dX5_orderAt_25 : decode cX5_orderAt 25 = .ok (.getfield 68, 3) := by decide +kernel
theorem dX5_orderAt_28 : decode cX5_orderAt 28 = .ok (.if_icmp .ge 90, 3) := by decide +kernel
theorem dX5_orderAt_31 : decode cX5_orderAt 31 = .ok (.iconst 0, 1) := by decide +kernel
theorem dX5_orderAt_32 : decode cX5_orderAt 32 = .ok (.istore 6, 2) := by decide +kernel
theorem dX5_orderAt_34 : decode cX5_orderAt 34 = .ok (.iconst 0, 1) := by decide +kernel
theorem dX5_orderAt_35 : decode cX5_orderAt 35 = .ok (.istore 7, 2) := by decide +kernel
theorem dX5_orderAt_37 : decode cX5_orderAt 37 = .ok (.iload 7, 2) := by decide +kernel
theorem dX5_orderAt_39 : decode cX5_orderAt 39 = .ok (.aload_n 0, 1) := by decide +kernel
theorem dX5_orderAt_40 : decode cX5_orderAt 40 = .ok (.getfield 68, 3) := by decide +kernel
theorem dX5_orderAt_43 : decode cX5_orderAt 43 = .ok (.if_icmp .ge 48, 3) := by decide +kernel
theorem dX5_orderAt_46 : decode cX5_orderAt 46 = .ok (.iload 6, 2) := by decide +kernel
theorem dX5_orderAt_48 : decode cX5_orderAt 48 = .ok (.aload_n 0, 1) := by decide +kernel
theorem dX5_orderAt_49 : decode cX5_orderAt 49 = .ok (.iload 7, 2) := by decide +kernel
theorem dX5_orderAt_51 : decode cX5_orderAt 51 = .ok (.iload_n 1, 1) := by decide +kernel
theorem dX5_orderAt_52 : decode cX5_orderAt 52 = .ok (.iload 4, 2) := by decide +kernel
theorem dX5_orderAt_54 : decode cX5_orderAt 54 = .ok (.invokevirtual 175, 3) := by decide +kernel
theorem dX5_orderAt_57 : decode cX5_orderAt 57 = .ok (.ifCond .eq 24, 3) := by decide +kernel
theorem dX5_orderAt_60 : decode cX5_orderAt 60 = .ok (.aload_n 0, 1) := by decide +kernel
theorem dX5_orderAt_61 : decode cX5_orderAt 61 = .ok (.getfield 41, 3) := by decide +kernel
theorem dX5_orderAt_64 : decode cX5_orderAt 64 = .ok (.iload 7, 2) := by decide +kernel
theorem dX5_orderAt_66 : decode cX5_orderAt 66 = .ok (.iaload, 1) := by decide +kernel
theorem dX5_orderAt_67 : decode cX5_orderAt 67 = .ok (.aload_n 0, 1) := by decide +kernel
theorem dX5_orderAt_68 : decode cX5_orderAt 68 = .ok (.getfield 41, 3) := by decide +kernel
theorem dX5_orderAt_71 : decode cX5_orderAt 71 = .ok (.iload 5, 2) := by decide +kernel
theorem dX5_orderAt_73 : decode cX5_orderAt 73 = .ok (.iaload, 1) := by decide +kernel
theorem dX5_orderAt_74 : decode cX5_orderAt 74 = .ok (.if_icmp .ge 7, 3) := by decide +kernel
theorem dX5_orderAt_77 : decode cX5_orderAt 77 = .ok (.iconst 1, 1) := by decide +kernel
theorem dX5_orderAt_78 : decode cX5_orderAt 78 = .ok (.goto 4, 3) := by decide +kernel
theorem dX5_orderAt_81 : decode cX5_orderAt 81 = .ok (.iconst 0, 1) := by decide +kernel
theorem dX5_orderAt_82 : decode cX5_orderAt 82 = .ok (.iadd, 1) := by decide +kernel
theorem dX5_orderAt_83 : decode cX5_orderAt 83 = .ok (.istore 6, 2) := by decide +kernel
theorem dX5_orderAt_85 : decode cX5_orderAt 85 = .ok (.iinc 7 1, 3) := by decide +kernel
theorem dX5_orderAt_88 : decode cX5_orderAt 88 = .ok (.goto (-51), 3) := by decide +kernel
theorem dX5_orderAt_91 : decode cX5_orderAt 91 = .ok (.aload_n 0, 1) := by decide +kernel
theorem dX5_orderAt_92 : decode cX5_orderAt 92 = .ok (.iload 5, 2) := by decide +kernel
theorem dX5_orderAt_94 : decode cX5_orderAt 94 = .ok (.iload_n 1, 1) := by decide +kernel
theorem dX5_orderAt_95 : decode cX5_orderAt 95 = .ok (.iload 4, 2) := by decide +kernel
theorem dX5_orderAt_97 : decode cX5_orderAt 97 = .ok (.invokevirtual 175, 3) := by decide +kernel
theorem dX5_orderAt_100 : decode cX5_orderAt 100 = .ok (.ifCond .eq 12, 3) := by decide +kernel
theorem dX5_orderAt_103 : decode cX5_orderAt 103 = .ok (.iload 6, 2) := by decide +kernel
theorem dX5_orderAt_105 : decode cX5_orderAt 105 = .ok (.iload_n 3, 1) := by decide +kernel
theorem dX5_orderAt_106 : decode cX5_orderAt 106 = .ok (.if_icmp .ne 6, 3) := by decide +kernel
theorem dX5_orderAt_109 : decode cX5_orderAt 109 = .ok (.iload 5, 2) := by decide +kernel
theorem dX5_orderAt_111 : decode cX5_orderAt 111 = .ok (.ireturn, 1) := by decide +kernel
theorem dX5_orderAt_112 : decode cX5_orderAt 112 = .ok (.iinc 5 1, 3) := by decide +kernel
theorem dX5_orderAt_115 : decode cX5_orderAt 115 = .ok (.goto (-93), 3) := by decide +kernel
theorem dX5_orderAt_118 : decode cX5_orderAt 118 = .ok (.aload_n 0, 1) := by decide +kernel
theorem dX5_orderAt_119 : decode cX5_orderAt 119 = .ok (.iconst 3, 1) := by decide +kernel
theorem dX5_orderAt_120 : decode cX5_orderAt 120 = .ok (.putfield 60, 3) := by decide +kernel
theorem dX5_orderAt_123 : decode cX5_orderAt 123 = .ok (.iconst 0, 1) := by decide +kernel
theorem dX5_orderAt_124 : decode cX5_orderAt 124 = .ok (.ireturn, 1) := by decide +kernel
def tbX5_orderAt (l : Launch) (K : aRs) (X : aXs) : aTb := [
  (0, sLd 0 1 isR),
  (1, sLd 1 2 isI),
  (2, sLd 2 3 isI),
  (3, sCallV 2 5 (fun as μ K => Ct l mdX5_isNoLevel as μ K X) 6 0 0),
  (6, sIf pEq 11 9),
  (9, sPush (aI 0) 10),
  (10, sRetI .int 0 K),
  (11, sLd 0 12 isR),
  (12, sLd 1 13 isI),
  (13, sLd 2 14 isI),
  (14, sCallV 2 5 (fun as μ K => Ct l mdX5_price as μ K X) 17 0 0),
  (17, sSt 4 19 isI),
  (19, sPush (aI 0) 20),
  (20, sSt 5 22 isI),
  (22, sLd 5 24 isI),
  (24, sLd 0 25 isR),
  (25, sGetI 5 0 28),
  (28, sIc qGe 118 31),
  (31, sPush (aI 0) 32),
  (32, sSt 6 34 isI),
  (34, sPush (aI 0) 35),
  (35, sSt 7 37 isI),
  (37, sLd 7 39 isI),
  (39, sLd 0 40 isR),
  (40, sGetI 5 0 43),
  (43, sIc qGe 91 46),
  (46, sLd 6 48 isI),
  (48, sLd 0 49 isR),
  (49, sLd 7 51 isI),
  (51, sLd 1 52 isI),
  (52, sLd 4 54 isI),
  (54, sCallV 3 5 (fun as μ K => Ct l mdX5_isAt as μ K X) 57 0 0),
  (57, sIf pEq 81 60),
  (60, sLd 0 61 isR),
  (61, sGetR 5 11 64),
  (64, sLd 7 66 isI),
  (66, sAldI 7 67),
  (67, sLd 0 68 isR),
  (68, sGetR 5 11 71),
  (71, sLd 5 73 isI),
  (73, sAldI 7 74),
  (74, sIc qGe 81 77),
  (77, sPush (aI 1) 78),
  (78, sGoto 82),
  (81, sPush (aI 0) 82),
  (82, sBin fAdd 83),
  (83, sSt 6 85 isI),
  (85, sInc 7 1 88),
  (88, sGoto 37),
  (91, sLd 0 92 isR),
  (92, sLd 5 94 isI),
  (94, sLd 1 95 isI),
  (95, sLd 4 97 isI),
  (97, sCallV 3 5 (fun as μ K => Ct l mdX5_isAt as μ K X) 100 0 0),
  (100, sIf pEq 112 103),
  (103, sLd 6 105 isI),
  (105, sLd 3 106 isI),
  (106, sIc qNe 112 109),
  (109, sLd 5 111 isI),
  (111, sRetI .int 0 K),
  (112, sInc 5 1 115),
  (115, sGoto 22),
  (118, sLd 0 119 isR),
  (119, sPush (aI 3) 120),
  (120, sPutI 5 24 123),
  (123, sPush (aI 0) 124),
  (124, sRetI .int 0 K)]
theorem snX5_orderAt (l : Launch) (K : aRs) (X : aXs) (n0 : Nat) : ∀ q ∈ tbX5_orderAt l K X, aSo l mdX5_orderAt K X n0 q.1 q.2 :=
  tc (fun p e s m args below meth c cA D A ad0 h => ok_aload_n h.1 0 rfl dX5_orderAt_0) <|
  tc (fun p e s m args below meth c cA D A ad0 h => ok_iload_n h.1 1 rfl dX5_orderAt_1) <|
  tc (fun p e s m args below meth c cA D A ad0 h => ok_iload_n h.1 2 rfl dX5_orderAt_2) <|
  tc (fun p e s m args below meth c cA D A ad0 h => ok_callV h.1 h.2.1 ⟨Nat.le_refl _, Nat.le_refl _⟩ mdX5_isNoLevel siX5_isNoLevel cxX5 mkRX5_186 imX5_isNoLevel seX5_isNoLevel ⟨by decide, by decide⟩ (aAx_out h.1 h.2.2.1 _) dX5_orderAt_3) <|
  tc (fun p e s m args below meth c cA D A ad0 h => ok_if_eq h.1 11 (by decide) dX5_orderAt_6) <|
  tc (fun p e s m args below meth c cA D A ad0 h => ok_iconst h.1 ⟨by decide, by decide⟩ dX5_orderAt_9) <|
  tc (fun p e s m args below meth c cA D A ad0 h => ok_ireturn h.1 h.2.2.2.1 (Or.inl rfl) dX5_orderAt_10) <|
  tc (fun p e s m args below meth c cA D A ad0 h => ok_aload_n h.1 0 rfl dX5_orderAt_11) <|
  tc (fun p e s m args below meth c cA D A ad0 h => ok_iload_n h.1 1 rfl dX5_orderAt_12) <|
  tc (fun p e s m args below meth c cA D A ad0 h => ok_iload_n h.1 2 rfl dX5_orderAt_13) <|
  tc (fun p e s m args below meth c cA D A ad0 h => ok_callV h.1 h.2.1 ⟨Nat.le_refl _, Nat.le_refl _⟩ mdX5_price siX5_price cxX5 mkRX5_183 imX5_price seX5_price ⟨by decide, by decide⟩ (aAx_out h.1 h.2.2.1 _) dX5_orderAt_14) <|
  tc (fun p e s m args below meth c cA D A ad0 h => ok_istore h.1 (by decide) dX5_orderAt_17) <|
  tc (fun p e s m args below meth c cA D A ad0 h => ok_iconst h.1 ⟨by decide, by decide⟩ dX5_orderAt_19) <|
  tc (fun p e s m args below meth c cA D A ad0 h => ok_istore h.1 (by decide) dX5_orderAt_20) <|
  tc (fun p e s m args below meth c cA D A ad0 h => ok_iload h.1 dX5_orderAt_22) <|
  tc (fun p e s m args below meth c cA D A ad0 h => ok_aload_n h.1 0 rfl dX5_orderAt_24) <|
  tc (fun p e s m args below meth c cA D A ad0 h => ok_getI h.1 cxX5 (by decide) rfl fkRX5_68 (fun _ _ _ => rfl) dX5_orderAt_25) <|
  tc (fun p e s m args below meth c cA D A ad0 h => ok_icmp_ge h.1 118 (by decide) dX5_orderAt_28) <|
  tc (fun p e s m args below meth c cA D A ad0 h => ok_iconst h.1 ⟨by decide, by decide⟩ dX5_orderAt_31) <|
  tc (fun p e s m args below meth c cA D A ad0 h => ok_istore h.1 (by decide) dX5_orderAt_32) <|
  tc (fun p e s m args below meth c cA D A ad0 h => ok_iconst h.1 ⟨by decide, by decide⟩ dX5_orderAt_34) <|
  tc (fun p e s m args below meth c cA D A ad0 h => ok_istore h.1 (by decide) dX5_orderAt_35) <|
  tc (fun p e s m args below meth c cA D A ad0 h => ok_iload h.1 dX5_orderAt_37) <|
  tc (fun p e s m args below meth c cA D A ad0 h => ok_aload_n h.1 0 rfl dX5_orderAt_39) <|
  tc (fun p e s m args below meth c cA D A ad0 h => ok_getI h.1 cxX5 (by decide) rfl fkRX5_68 (fun _ _ _ => rfl) dX5_orderAt_40) <|
  tc (fun p e s m args below meth c cA D A ad0 h => ok_icmp_ge h.1 91 (by decide) dX5_orderAt_43) <|
  tc (fun p e s m args below meth c cA D A ad0 h => ok_iload h.1 dX5_orderAt_46) <|
  tc (fun p e s m args below meth c cA D A ad0 h => ok_aload_n h.1 0 rfl dX5_orderAt_48) <|
  tc (fun p e s m args below meth c cA D A ad0 h => ok_iload h.1 dX5_orderAt_49) <|
  tc (fun p e s m args below meth c cA D A ad0 h => ok_iload_n h.1 1 rfl dX5_orderAt_51) <|
  tc (fun p e s m args below meth c cA D A ad0 h => ok_iload h.1 dX5_orderAt_52) <|
  tc (fun p e s m args below meth c cA D A ad0 h => ok_callV h.1 h.2.1 ⟨Nat.le_refl _, Nat.le_refl _⟩ mdX5_isAt siX5_isAt cxX5 mkRX5_175 imX5_isAt seX5_isAt ⟨by decide, by decide⟩ (aAx_out h.1 h.2.2.1 _) dX5_orderAt_54) <|
  tc (fun p e s m args below meth c cA D A ad0 h => ok_if_eq h.1 81 (by decide) dX5_orderAt_57) <|
  tc (fun p e s m args below meth c cA D A ad0 h => ok_aload_n h.1 0 rfl dX5_orderAt_60) <|
  tc (fun p e s m args below meth c cA D A ad0 h => ok_getR h.1 cxX5 (by decide) rfl fkRX5_41 (fun _ _ _ => rfl) dX5_orderAt_61) <|
  tc (fun p e s m args below meth c cA D A ad0 h => ok_iload h.1 dX5_orderAt_64) <|
  tc (fun p e s m args below meth c cA D A ad0 h => ok_iald h.1 dX5_orderAt_66) <|
  tc (fun p e s m args below meth c cA D A ad0 h => ok_aload_n h.1 0 rfl dX5_orderAt_67) <|
  tc (fun p e s m args below meth c cA D A ad0 h => ok_getR h.1 cxX5 (by decide) rfl fkRX5_41 (fun _ _ _ => rfl) dX5_orderAt_68) <|
  tc (fun p e s m args below meth c cA D A ad0 h => ok_iload h.1 dX5_orderAt_71) <|
  tc (fun p e s m args below meth c cA D A ad0 h => ok_iald h.1 dX5_orderAt_73) <|
  tc (fun p e s m args below meth c cA D A ad0 h => ok_icmp_ge h.1 81 (by decide) dX5_orderAt_74) <|
  tc (fun p e s m args below meth c cA D A ad0 h => ok_iconst h.1 ⟨by decide, by decide⟩ dX5_orderAt_77) <|
  tc (fun p e s m args below meth c cA D A ad0 h => ok_goto h.1 82 (by decide) dX5_orderAt_78) <|
  tc (fun p e s m args below meth c cA D A ad0 h => ok_iconst h.1 ⟨by decide, by decide⟩ dX5_orderAt_81) <|
  tc (fun p e s m args below meth c cA D A ad0 h => ok_iadd h.1 dX5_orderAt_82) <|
  tc (fun p e s m args below meth c cA D A ad0 h => ok_istore h.1 (by decide) dX5_orderAt_83) <|
  tc (fun p e s m args below meth c cA D A ad0 h => ok_iinc h.1 (by decide) dX5_orderAt_85) <|
  tc (fun p e s m args below meth c cA D A ad0 h => ok_goto h.1 37 (by decide) dX5_orderAt_88) <|
  tc (fun p e s m args below meth c cA D A ad0 h => ok_aload_n h.1 0 rfl dX5_orderAt_91) <|
  tc (fun p e s m args below meth c cA D A ad0 h => ok_iload h.1 dX5_orderAt_92) <|
  tc (fun p e s m args below meth c cA D A ad0 h => ok_iload_n h.1 1 rfl dX5_orderAt_94) <|
  tc (fun p e s m args below meth c cA D A ad0 h => ok_iload h.1 dX5_orderAt_95) <|
  tc (fun p e s m args below meth c cA D A ad0 h => ok_callV h.1 h.2.1 ⟨Nat.le_refl _, Nat.le_refl _⟩ mdX5_isAt siX5_isAt cxX5 mkRX5_175 imX5_isAt seX5_isAt ⟨by decide, by decide⟩ (aAx_out h.1 h.2.2.1 _) dX5_orderAt_97) <|
  tc (fun p e s m args below meth c cA D A ad0 h => ok_if_eq h.1 112 (by decide) dX5_orderAt_100) <|
  tc (fun p e s m args below meth c cA D A ad0 h => ok_iload h.1 dX5_orderAt_103) <|
  tc (fun p e s m args below meth c cA D A ad0 h => ok_iload_n h.1 3 rfl dX5_orderAt_105) <|
  tc (fun p e s m args below meth c cA D A ad0 h => ok_icmp_ne h.1 112 (by decide) dX5_orderAt_106) <|
  tc (fun p e s m args below meth c cA D A ad0 h => ok_iload h.1 dX5_orderAt_109) <|
  tc (fun p e s m args below meth c cA D A ad0 h => ok_ireturn h.1 h.2.2.2.1 (Or.inl rfl) dX5_orderAt_111) <|
  tc (fun p e s m args below meth c cA D A ad0 h => ok_iinc h.1 (by decide) dX5_orderAt_112) <|
  tc (fun p e s m args below meth c cA D A ad0 h => ok_goto h.1 22 (by decide) dX5_orderAt_115) <|
  tc (fun p e s m args below meth c cA D A ad0 h => ok_aload_n h.1 0 rfl dX5_orderAt_118) <|
  tc (fun p e s m args below meth c cA D A ad0 h => ok_iconst h.1 ⟨by decide, by decide⟩ dX5_orderAt_119) <|
  tc (fun p e s m args below meth c cA D A ad0 h => ok_putI h.1 cxX5 (by decide) rfl fkRX5_60 (Or.inl rfl) (fun _ _ _ => rfl) (Or.inl rfl) dX5_orderAt_120) <|
  tc (fun p e s m args below meth c cA D A ad0 h => ok_iconst h.1 ⟨by decide, by decide⟩ dX5_orderAt_123) <|
  tc (fun p e s m args below meth c cA D A ad0 h => ok_ireturn h.1 h.2.2.2.1 (Or.inl rfl) dX5_orderAt_124) <|
  tn
abbrev cuX5_orderAt : List Nat := [6, 17, 22, 37, 57, 100]
theorem tX5_orderAt_0 (l : Launch) (K : aRs) (X : aXs) : tb (tbX5_orderAt l K X) 0 = sLd 0 1 isR := (rfl)
theorem wX5_orderAt_0 {l : Launch} {K : aRs} {X : aXs} {J : aK} {W : Nat → aK} (hW : isW (tbX5_orderAt l K X) cuX5_orderAt J W) (n : Nat) (ls st : List aV) (μ : aM) (g : Nat) : W (n + 1) 0 ls st μ g = (sLd 0 1 isR) (W n) ls st μ g := (hW n 0 ls st μ g).trans rfl
theorem wX5_orderAt_1 {l : Launch} {K : aRs} {X : aXs} {J : aK} {W : Nat → aK} (hW : isW (tbX5_orderAt l K X) cuX5_orderAt J W) (n : Nat) (ls st : List aV) (μ : aM) (g : Nat) : W (n + 1) 1 ls st μ g = (sLd 1 2 isI) (W n) ls st μ g := (hW n 1 ls st μ g).trans rfl
theorem wX5_orderAt_2 {l : Launch} {K : aRs} {X : aXs} {J : aK} {W : Nat → aK} (hW : isW (tbX5_orderAt l K X) cuX5_orderAt J W) (n : Nat) (ls st : List aV) (μ : aM) (g : Nat) : W (n + 1) 2 ls st μ g = (sLd 2 3 isI) (W n) ls st μ g := (hW n 2 ls st μ g).trans rfl
theorem wX5_orderAt_3 {l : Launch} {K : aRs} {X : aXs} {J : aK} {W : Nat → aK} (hW : isW (tbX5_orderAt l K X) cuX5_orderAt J W) (n : Nat) (ls st : List aV) (μ : aM) (g : Nat) : W (n + 1) 3 ls st μ g = (sCallV 2 5 (fun as μ K => Ct l mdX5_isNoLevel as μ K X) 6 0 0) (W n) ls st μ g := (hW n 3 ls st μ g).trans rfl
theorem tX5_orderAt_6 (l : Launch) (K : aRs) (X : aXs) : tb (tbX5_orderAt l K X) 6 = sIf pEq 11 9 := (rfl)
theorem wX5_orderAt_6 {l : Launch} {K : aRs} {X : aXs} {J : aK} {W : Nat → aK} (hW : isW (tbX5_orderAt l K X) cuX5_orderAt J W) (n : Nat) (ls st : List aV) (μ : aM) (g : Nat) : W (n + 1) 6 ls st μ g = J 6 ls st μ g := (hW n 6 ls st μ g).trans rfl
theorem wX5_orderAt_9 {l : Launch} {K : aRs} {X : aXs} {J : aK} {W : Nat → aK} (hW : isW (tbX5_orderAt l K X) cuX5_orderAt J W) (n : Nat) (ls st : List aV) (μ : aM) (g : Nat) : W (n + 1) 9 ls st μ g = (sPush (aI 0) 10) (W n) ls st μ g := (hW n 9 ls st μ g).trans rfl
theorem wX5_orderAt_10 {l : Launch} {K : aRs} {X : aXs} {J : aK} {W : Nat → aK} (hW : isW (tbX5_orderAt l K X) cuX5_orderAt J W) (n : Nat) (ls st : List aV) (μ : aM) (g : Nat) : W (n + 1) 10 ls st μ g = (sRetI .int 0 K) (W n) ls st μ g := (hW n 10 ls st μ g).trans rfl
theorem wX5_orderAt_11 {l : Launch} {K : aRs} {X : aXs} {J : aK} {W : Nat → aK} (hW : isW (tbX5_orderAt l K X) cuX5_orderAt J W) (n : Nat) (ls st : List aV) (μ : aM) (g : Nat) : W (n + 1) 11 ls st μ g = (sLd 0 12 isR) (W n) ls st μ g := (hW n 11 ls st μ g).trans rfl
theorem wX5_orderAt_12 {l : Launch} {K : aRs} {X : aXs} {J : aK} {W : Nat → aK} (hW : isW (tbX5_orderAt l K X) cuX5_orderAt J W) (n : Nat) (ls st : List aV) (μ : aM) (g : Nat) : W (n + 1) 12 ls st μ g = (sLd 1 13 isI) (W n) ls st μ g := (hW n 12 ls st μ g).trans rfl
theorem wX5_orderAt_13 {l : Launch} {K : aRs} {X : aXs} {J : aK} {W : Nat → aK} (hW : isW (tbX5_orderAt l K X) cuX5_orderAt J W) (n : Nat) (ls st : List aV) (μ : aM) (g : Nat) : W (n + 1) 13 ls st μ g = (sLd 2 14 isI) (W n) ls st μ g := (hW n 13 ls st μ g).trans rfl
theorem wX5_orderAt_14 {l : Launch} {K : aRs} {X : aXs} {J : aK} {W : Nat → aK} (hW : isW (tbX5_orderAt l K X) cuX5_orderAt J W) (n : Nat) (ls st : List aV) (μ : aM) (g : Nat) : W (n + 1) 14 ls st μ g = (sCallV 2 5 (fun as μ K => Ct l mdX5_price as μ K X) 17 0 0) (W n) ls st μ g := (hW n 14 ls st μ g).trans rfl
theorem tX5_orderAt_17 (l : Launch) (K : aRs) (X : aXs) : tb (tbX5_orderAt l K X) 17 = sSt 4 19 isI := (rfl)
theorem wX5_orderAt_17 {l : Launch} {K : aRs} {X : aXs} {J : aK} {W : Nat → aK} (hW : isW (tbX5_orderAt l K X) cuX5_orderAt J W) (n : Nat) (ls st : List aV) (μ : aM) (g : Nat) : W (n + 1) 17 ls st μ g = J 17 ls st μ g := (hW n 17 ls st μ g).trans rfl
theorem wX5_orderAt_19 {l : Launch} {K : aRs} {X : aXs} {J : aK} {W : Nat → aK} (hW : isW (tbX5_orderAt l K X) cuX5_orderAt J W) (n : Nat) (ls st : List aV) (μ : aM) (g : Nat) : W (n + 1) 19 ls st μ g = (sPush (aI 0) 20) (W n) ls st μ g := (hW n 19 ls st μ g).trans rfl
theorem wX5_orderAt_20 {l : Launch} {K : aRs} {X : aXs} {J : aK} {W : Nat → aK} (hW : isW (tbX5_orderAt l K X) cuX5_orderAt J W) (n : Nat) (ls st : List aV) (μ : aM) (g : Nat) : W (n + 1) 20 ls st μ g = (sSt 5 22 isI) (W n) ls st μ g := (hW n 20 ls st μ g).trans rfl
theorem tX5_orderAt_22 (l : Launch) (K : aRs) (X : aXs) : tb (tbX5_orderAt l K X) 22 = sLd 5 24 isI := (rfl)
theorem wX5_orderAt_22 {l : Launch} {K : aRs} {X : aXs} {J : aK} {W : Nat → aK} (hW : isW (tbX5_orderAt l K X) cuX5_orderAt J W) (n : Nat) (ls st : List aV) (μ : aM) (g : Nat) : W (n + 1) 22 ls st μ g = J 22 ls st μ g := (hW n 22 ls st μ g).trans rfl
theorem wX5_orderAt_24 {l : Launch} {K : aRs} {X : aXs} {J : aK} {W : Nat → aK} (hW : isW (tbX5_orderAt l K X) cuX5_orderAt J W) (n : Nat) (ls st : List aV) (μ : aM) (g : Nat) : W (n + 1) 24 ls st μ g = (sLd 0 25 isR) (W n) ls st μ g := (hW n 24 ls st μ g).trans rfl
theorem wX5_orderAt_25 {l : Launch} {K : aRs} {X : aXs} {J : aK} {W : Nat → aK} (hW : isW (tbX5_orderAt l K X) cuX5_orderAt J W) (n : Nat) (ls st : List aV) (μ : aM) (g : Nat) : W (n + 1) 25 ls st μ g = (sGetI 5 0 28) (W n) ls st μ g := (hW n 25 ls st μ g).trans rfl
theorem wX5_orderAt_28 {l : Launch} {K : aRs} {X : aXs} {J : aK} {W : Nat → aK} (hW : isW (tbX5_orderAt l K X) cuX5_orderAt J W) (n : Nat) (ls st : List aV) (μ : aM) (g : Nat) : W (n + 1) 28 ls st μ g = (sIc qGe 118 31) (W n) ls st μ g := (hW n 28 ls st μ g).trans rfl
theorem wX5_orderAt_31 {l : Launch} {K : aRs} {X : aXs} {J : aK} {W : Nat → aK} (hW : isW (tbX5_orderAt l K X) cuX5_orderAt J W) (n : Nat) (ls st : List aV) (μ : aM) (g : Nat) : W (n + 1) 31 ls st μ g = (sPush (aI 0) 32) (W n) ls st μ g := (hW n 31 ls st μ g).trans rfl
theorem wX5_orderAt_32 {l : Launch} {K : aRs} {X : aXs} {J : aK} {W : Nat → aK} (hW : isW (tbX5_orderAt l K X) cuX5_orderAt J W) (n : Nat) (ls st : List aV) (μ : aM) (g : Nat) : W (n + 1) 32 ls st μ g = (sSt 6 34 isI) (W n) ls st μ g := (hW n 32 ls st μ g).trans rfl
theorem wX5_orderAt_34 {l : Launch} {K : aRs} {X : aXs} {J : aK} {W : Nat → aK} (hW : isW (tbX5_orderAt l K X) cuX5_orderAt J W) (n : Nat) (ls st : List aV) (μ : aM) (g : Nat) : W (n + 1) 34 ls st μ g = (sPush (aI 0) 35) (W n) ls st μ g := (hW n 34 ls st μ g).trans rfl
theorem wX5_orderAt_35 {l : Launch} {K : aRs} {X : aXs} {J : aK} {W : Nat → aK} (hW : isW (tbX5_orderAt l K X) cuX5_orderAt J W) (n : Nat) (ls st : List aV) (μ : aM) (g : Nat) : W (n + 1) 35 ls st μ g = (sSt 7 37 isI) (W n) ls st μ g := (hW n 35 ls st μ g).trans rfl
theorem tX5_orderAt_37 (l : Launch) (K : aRs) (X : aXs) : tb (tbX5_orderAt l K X) 37 = sLd 7 39 isI := (rfl)
theorem wX5_orderAt_37 {l : Launch} {K : aRs} {X : aXs} {J : aK} {W : Nat → aK} (hW : isW (tbX5_orderAt l K X) cuX5_orderAt J W) (n : Nat) (ls st : List aV) (μ : aM) (g : Nat) : W (n + 1) 37 ls st μ g = J 37 ls st μ g := (hW n 37 ls st μ g).trans rfl
theorem wX5_orderAt_39 {l : Launch} {K : aRs} {X : aXs} {J : aK} {W : Nat → aK} (hW : isW (tbX5_orderAt l K X) cuX5_orderAt J W) (n : Nat) (ls st : List aV) (μ : aM) (g : Nat) : W (n + 1) 39 ls st μ g = (sLd 0 40 isR) (W n) ls st μ g := (hW n 39 ls st μ g).trans rfl
theorem wX5_orderAt_40 {l : Launch} {K : aRs} {X : aXs} {J : aK} {W : Nat → aK} (hW : isW (tbX5_orderAt l K X) cuX5_orderAt J W) (n : Nat) (ls st : List aV) (μ : aM) (g : Nat) : W (n + 1) 40 ls st μ g = (sGetI 5 0 43) (W n) ls st μ g := (hW n 40 ls st μ g).trans rfl
theorem wX5_orderAt_43 {l : Launch} {K : aRs} {X : aXs} {J : aK} {W : Nat → aK} (hW : isW (tbX5_orderAt l K X) cuX5_orderAt J W) (n : Nat) (ls st : List aV) (μ : aM) (g : Nat) : W (n + 1) 43 ls st μ g = (sIc qGe 91 46) (W n) ls st μ g := (hW n 43 ls st μ g).trans rfl
theorem wX5_orderAt_46 {l : Launch} {K : aRs} {X : aXs} {J : aK} {W : Nat → aK} (hW : isW (tbX5_orderAt l K X) cuX5_orderAt J W) (n : Nat) (ls st : List aV) (μ : aM) (g : Nat) : W (n + 1) 46 ls st μ g = (sLd 6 48 isI) (W n) ls st μ g := (hW n 46 ls st μ g).trans rfl
theorem wX5_orderAt_48 {l : Launch} {K : aRs} {X : aXs} {J : aK} {W : Nat → aK} (hW : isW (tbX5_orderAt l K X) cuX5_orderAt J W) (n : Nat) (ls st : List aV) (μ : aM) (g : Nat) : W (n + 1) 48 ls st μ g = (sLd 0 49 isR) (W n) ls st μ g := (hW n 48 ls st μ g).trans rfl
theorem wX5_orderAt_49 {l : Launch} {K : aRs} {X : aXs} {J : aK} {W : Nat → aK} (hW : isW (tbX5_orderAt l K X) cuX5_orderAt J W) (n : Nat) (ls st : List aV) (μ : aM) (g : Nat) : W (n + 1) 49 ls st μ g = (sLd 7 51 isI) (W n) ls st μ g := (hW n 49 ls st μ g).trans rfl
theorem wX5_orderAt_51 {l : Launch} {K : aRs} {X : aXs} {J : aK} {W : Nat → aK} (hW : isW (tbX5_orderAt l K X) cuX5_orderAt J W) (n : Nat) (ls st : List aV) (μ : aM) (g : Nat) : W (n + 1) 51 ls st μ g = (sLd 1 52 isI) (W n) ls st μ g := (hW n 51 ls st μ g).trans rfl
theorem wX5_orderAt_52 {l : Launch} {K : aRs} {X : aXs} {J : aK} {W : Nat → aK} (hW : isW (tbX5_orderAt l K X) cuX5_orderAt J W) (n : Nat) (ls st : List aV) (μ : aM) (g : Nat) : W (n + 1) 52 ls st μ g = (sLd 4 54 isI) (W n) ls st μ g := (hW n 52 ls st μ g).trans rfl
theorem wX5_orderAt_54 {l : Launch} {K : aRs} {X : aXs} {J : aK} {W : Nat → aK} (hW : isW (tbX5_orderAt l K X) cuX5_orderAt J W) (n : Nat) (ls st : List aV) (μ : aM) (g : Nat) : W (n + 1) 54 ls st μ g = (sCallV 3 5 (fun as μ K => Ct l mdX5_isAt as μ K X) 57 0 0) (W n) ls st μ g := (hW n 54 ls st μ g).trans rfl
theorem tX5_orderAt_57 (l : Launch) (K : aRs) (X : aXs) : tb (tbX5_orderAt l K X) 57 = sIf pEq 81 60 := (rfl)
theorem wX5_orderAt_57 {l : Launch} {K : aRs} {X : aXs} {J : aK} {W : Nat → aK} (hW : isW (tbX5_orderAt l K X) cuX5_orderAt J W) (n : Nat) (ls st : List aV) (μ : aM) (g : Nat) : W (n + 1) 57 ls st μ g = J 57 ls st μ g := (hW n 57 ls st μ g).trans rfl
theorem wX5_orderAt_60 {l : Launch} {K : aRs} {X : aXs} {J : aK} {W : Nat → aK} (hW : isW (tbX5_orderAt l K X) cuX5_orderAt J W) (n : Nat) (ls st : List aV) (μ : aM) (g : Nat) : W (n + 1) 60 ls st μ g = (sLd 0 61 isR) (W n) ls st μ g := (hW n 60 ls st μ g).trans rfl
theorem wX5_orderAt_61 {l : Launch} {K : aRs} {X : aXs} {J : aK} {W : Nat → aK} (hW : isW (tbX5_orderAt l K X) cuX5_orderAt J W) (n : Nat) (ls st : List aV) (μ : aM) (g : Nat) : W (n + 1) 61 ls st μ g = (sGetR 5 11 64) (W n) ls st μ g := (hW n 61 ls st μ g).trans rfl
theorem wX5_orderAt_64 {l : Launch} {K : aRs} {X : aXs} {J : aK} {W : Nat → aK} (hW : isW (tbX5_orderAt l K X) cuX5_orderAt J W) (n : Nat) (ls st : List aV) (μ : aM) (g : Nat) : W (n + 1) 64 ls st μ g = (sLd 7 66 isI) (W n) ls st μ g := (hW n 64 ls st μ g).trans rfl
theorem wX5_orderAt_66 {l : Launch} {K : aRs} {X : aXs} {J : aK} {W : Nat → aK} (hW : isW (tbX5_orderAt l K X) cuX5_orderAt J W) (n : Nat) (ls st : List aV) (μ : aM) (g : Nat) : W (n + 1) 66 ls st μ g = (sAldI 7 67) (W n) ls st μ g := (hW n 66 ls st μ g).trans rfl
theorem wX5_orderAt_67 {l : Launch} {K : aRs} {X : aXs} {J : aK} {W : Nat → aK} (hW : isW (tbX5_orderAt l K X) cuX5_orderAt J W) (n : Nat) (ls st : List aV) (μ : aM) (g : Nat) : W (n + 1) 67 ls st μ g = (sLd 0 68 isR) (W n) ls st μ g := (hW n 67 ls st μ g).trans rfl
theorem wX5_orderAt_68 {l : Launch} {K : aRs} {X : aXs} {J : aK} {W : Nat → aK} (hW : isW (tbX5_orderAt l K X) cuX5_orderAt J W) (n : Nat) (ls st : List aV) (μ : aM) (g : Nat) : W (n + 1) 68 ls st μ g = (sGetR 5 11 71) (W n) ls st μ g := (hW n 68 ls st μ g).trans rfl
theorem wX5_orderAt_71 {l : Launch} {K : aRs} {X : aXs} {J : aK} {W : Nat → aK} (hW : isW (tbX5_orderAt l K X) cuX5_orderAt J W) (n : Nat) (ls st : List aV) (μ : aM) (g : Nat) : W (n + 1) 71 ls st μ g = (sLd 5 73 isI) (W n) ls st μ g := (hW n 71 ls st μ g).trans rfl
theorem wX5_orderAt_73 {l : Launch} {K : aRs} {X : aXs} {J : aK} {W : Nat → aK} (hW : isW (tbX5_orderAt l K X) cuX5_orderAt J W) (n : Nat) (ls st : List aV) (μ : aM) (g : Nat) : W (n + 1) 73 ls st μ g = (sAldI 7 74) (W n) ls st μ g := (hW n 73 ls st μ g).trans rfl
theorem wX5_orderAt_74 {l : Launch} {K : aRs} {X : aXs} {J : aK} {W : Nat → aK} (hW : isW (tbX5_orderAt l K X) cuX5_orderAt J W) (n : Nat) (ls st : List aV) (μ : aM) (g : Nat) : W (n + 1) 74 ls st μ g = (sIc qGe 81 77) (W n) ls st μ g := (hW n 74 ls st μ g).trans rfl
theorem wX5_orderAt_77 {l : Launch} {K : aRs} {X : aXs} {J : aK} {W : Nat → aK} (hW : isW (tbX5_orderAt l K X) cuX5_orderAt J W) (n : Nat) (ls st : List aV) (μ : aM) (g : Nat) : W (n + 1) 77 ls st μ g = (sPush (aI 1) 78) (W n) ls st μ g := (hW n 77 ls st μ g).trans rfl
theorem wX5_orderAt_78 {l : Launch} {K : aRs} {X : aXs} {J : aK} {W : Nat → aK} (hW : isW (tbX5_orderAt l K X) cuX5_orderAt J W) (n : Nat) (ls st : List aV) (μ : aM) (g : Nat) : W (n + 1) 78 ls st μ g = (sGoto 82) (W n) ls st μ g := (hW n 78 ls st μ g).trans rfl
theorem wX5_orderAt_81 {l : Launch} {K : aRs} {X : aXs} {J : aK} {W : Nat → aK} (hW : isW (tbX5_orderAt l K X) cuX5_orderAt J W) (n : Nat) (ls st : List aV) (μ : aM) (g : Nat) : W (n + 1) 81 ls st μ g = (sPush (aI 0) 82) (W n) ls st μ g := (hW n 81 ls st μ g).trans rfl
theorem wX5_orderAt_82 {l : Launch} {K : aRs} {X : aXs} {J : aK} {W : Nat → aK} (hW : isW (tbX5_orderAt l K X) cuX5_orderAt J W) (n : Nat) (ls st : List aV) (μ : aM) (g : Nat) : W (n + 1) 82 ls st μ g = (sBin fAdd 83) (W n) ls st μ g := (hW n 82 ls st μ g).trans rfl
theorem wX5_orderAt_83 {l : Launch} {K : aRs} {X : aXs} {J : aK} {W : Nat → aK} (hW : isW (tbX5_orderAt l K X) cuX5_orderAt J W) (n : Nat) (ls st : List aV) (μ : aM) (g : Nat) : W (n + 1) 83 ls st μ g = (sSt 6 85 isI) (W n) ls st μ g := (hW n 83 ls st μ g).trans rfl
theorem wX5_orderAt_85 {l : Launch} {K : aRs} {X : aXs} {J : aK} {W : Nat → aK} (hW : isW (tbX5_orderAt l K X) cuX5_orderAt J W) (n : Nat) (ls st : List aV) (μ : aM) (g : Nat) : W (n + 1) 85 ls st μ g = (sInc 7 1 88) (W n) ls st μ g := (hW n 85 ls st μ g).trans rfl
theorem wX5_orderAt_88 {l : Launch} {K : aRs} {X : aXs} {J : aK} {W : Nat → aK} (hW : isW (tbX5_orderAt l K X) cuX5_orderAt J W) (n : Nat) (ls st : List aV) (μ : aM) (g : Nat) : W (n + 1) 88 ls st μ g = (sGoto 37) (W n) ls st μ g := (hW n 88 ls st μ g).trans rfl
theorem wX5_orderAt_91 {l : Launch} {K : aRs} {X : aXs} {J : aK} {W : Nat → aK} (hW : isW (tbX5_orderAt l K X) cuX5_orderAt J W) (n : Nat) (ls st : List aV) (μ : aM) (g : Nat) : W (n + 1) 91 ls st μ g = (sLd 0 92 isR) (W n) ls st μ g := (hW n 91 ls st μ g).trans rfl
theorem wX5_orderAt_92 {l : Launch} {K : aRs} {X : aXs} {J : aK} {W : Nat → aK} (hW : isW (tbX5_orderAt l K X) cuX5_orderAt J W) (n : Nat) (ls st : List aV) (μ : aM) (g : Nat) : W (n + 1) 92 ls st μ g = (sLd 5 94 isI) (W n) ls st μ g := (hW n 92 ls st μ g).trans rfl
theorem wX5_orderAt_94 {l : Launch} {K : aRs} {X : aXs} {J : aK} {W : Nat → aK} (hW : isW (tbX5_orderAt l K X) cuX5_orderAt J W) (n : Nat) (ls st : List aV) (μ : aM) (g : Nat) : W (n + 1) 94 ls st μ g = (sLd 1 95 isI) (W n) ls st μ g := (hW n 94 ls st μ g).trans rfl
theorem wX5_orderAt_95 {l : Launch} {K : aRs} {X : aXs} {J : aK} {W : Nat → aK} (hW : isW (tbX5_orderAt l K X) cuX5_orderAt J W) (n : Nat) (ls st : List aV) (μ : aM) (g : Nat) : W (n + 1) 95 ls st μ g = (sLd 4 97 isI) (W n) ls st μ g := (hW n 95 ls st μ g).trans rfl
theorem wX5_orderAt_97 {l : Launch} {K : aRs} {X : aXs} {J : aK} {W : Nat → aK} (hW : isW (tbX5_orderAt l K X) cuX5_orderAt J W) (n : Nat) (ls st : List aV) (μ : aM) (g : Nat) : W (n + 1) 97 ls st μ g = (sCallV 3 5 (fun as μ K => Ct l mdX5_isAt as μ K X) 100 0 0) (W n) ls st μ g := (hW n 97 ls st μ g).trans rfl
theorem tX5_orderAt_100 (l : Launch) (K : aRs) (X : aXs) : tb (tbX5_orderAt l K X) 100 = sIf pEq 112 103 := (rfl)
theorem wX5_orderAt_100 {l : Launch} {K : aRs} {X : aXs} {J : aK} {W : Nat → aK} (hW : isW (tbX5_orderAt l K X) cuX5_orderAt J W) (n : Nat) (ls st : List aV) (μ : aM) (g : Nat) : W (n + 1) 100 ls st μ g = J 100 ls st μ g := (hW n 100 ls st μ g).trans rfl
theorem wX5_orderAt_103 {l : Launch} {K : aRs} {X : aXs} {J : aK} {W : Nat → aK} (hW : isW (tbX5_orderAt l K X) cuX5_orderAt J W) (n : Nat) (ls st : List aV) (μ : aM) (g : Nat) : W (n + 1) 103 ls st μ g = (sLd 6 105 isI) (W n) ls st μ g := (hW n 103 ls st μ g).trans rfl
theorem wX5_orderAt_105 {l : Launch} {K : aRs} {X : aXs} {J : aK} {W : Nat → aK} (hW : isW (tbX5_orderAt l K X) cuX5_orderAt J W) (n : Nat) (ls st : List aV) (μ : aM) (g : Nat) : W (n + 1) 105 ls st μ g = (sLd 3 106 isI) (W n) ls st μ g := (hW n 105 ls st μ g).trans rfl
theorem wX5_orderAt_106 {l : Launch} {K : aRs} {X : aXs} {J : aK} {W : Nat → aK} (hW : isW (tbX5_orderAt l K X) cuX5_orderAt J W) (n : Nat) (ls st : List aV) (μ : aM) (g : Nat) : W (n + 1) 106 ls st μ g = (sIc qNe 112 109) (W n) ls st μ g := (hW n 106 ls st μ g).trans rfl
theorem wX5_orderAt_109 {l : Launch} {K : aRs} {X : aXs} {J : aK} {W : Nat → aK} (hW : isW (tbX5_orderAt l K X) cuX5_orderAt J W) (n : Nat) (ls st : List aV) (μ : aM) (g : Nat) : W (n + 1) 109 ls st μ g = (sLd 5 111 isI) (W n) ls st μ g := (hW n 109 ls st μ g).trans rfl
theorem wX5_orderAt_111 {l : Launch} {K : aRs} {X : aXs} {J : aK} {W : Nat → aK} (hW : isW (tbX5_orderAt l K X) cuX5_orderAt J W) (n : Nat) (ls st : List aV) (μ : aM) (g : Nat) : W (n + 1) 111 ls st μ g = (sRetI .int 0 K) (W n) ls st μ g := (hW n 111 ls st μ g).trans rfl
theorem wX5_orderAt_112 {l : Launch} {K : aRs} {X : aXs} {J : aK} {W : Nat → aK} (hW : isW (tbX5_orderAt l K X) cuX5_orderAt J W) (n : Nat) (ls st : List aV) (μ : aM) (g : Nat) : W (n + 1) 112 ls st μ g = (sInc 5 1 115) (W n) ls st μ g := (hW n 112 ls st μ g).trans rfl
set_option maxRecDepth 10000 in
theorem wX5_orderAt_115 {l : Launch} {K : aRs} {X : aXs} {J : aK} {W : Nat → aK} (hW : isW (tbX5_orderAt l K X) cuX5_orderAt J W) (n : Nat) (ls st : List aV) (μ : aM) (g : Nat) : W (n + 1) 115 ls st μ g = (sGoto 22) (W n) ls st μ g := (hW n 115 ls st μ g).trans rfl
set_option maxRecDepth 10000 in
theorem wX5_orderAt_118 {l : Launch} {K : aRs} {X : aXs} {J : aK} {W : Nat → aK} (hW : isW (tbX5_orderAt l K X) cuX5_orderAt J W) (n : Nat) (ls st : List aV) (μ : aM) (g : Nat) : W (n + 1) 118 ls st μ g = (sLd 0 119 isR) (W n) ls st μ g := (hW n 118 ls st μ g).trans rfl
set_option maxRecDepth 10000 in
theorem wX5_orderAt_119 {l : Launch} {K : aRs} {X : aXs} {J : aK} {W : Nat → aK} (hW : isW (tbX5_orderAt l K X) cuX5_orderAt J W) (n : Nat) (ls st : List aV) (μ : aM) (g : Nat) : W (n + 1) 119 ls st μ g = (sPush (aI 3) 120) (W n) ls st μ g := (hW n 119 ls st μ g).trans rfl
set_option maxRecDepth 10000 in
theorem wX5_orderAt_120 {l : Launch} {K : aRs} {X : aXs} {J : aK} {W : Nat → aK} (hW : isW (tbX5_orderAt l K X) cuX5_orderAt J W) (n : Nat) (ls st : List aV) (μ : aM) (g : Nat) : W (n + 1) 120 ls st μ g = (sPutI 5 24 123) (W n) ls st μ g := (hW n 120 ls st μ g).trans rfl
set_option maxRecDepth 10000 in
theorem wX5_orderAt_123 {l : Launch} {K : aRs} {X : aXs} {J : aK} {W : Nat → aK} (hW : isW (tbX5_orderAt l K X) cuX5_orderAt J W) (n : Nat) (ls st : List aV) (μ : aM) (g : Nat) : W (n + 1) 123 ls st μ g = (sPush (aI 0) 124) (W n) ls st μ g := (hW n 123 ls st μ g).trans rfl
set_option maxRecDepth 10000 in
theorem wX5_orderAt_124 {l : Launch} {K : aRs} {X : aXs} {J : aK} {W : Nat → aK} (hW : isW (tbX5_orderAt l K X) cuX5_orderAt J W) (n : Nat) (ls st : List aV) (μ : aM) (g : Nat) : W (n + 1) 124 ls st μ g = (sRetI .int 0 K) (W n) ls st μ g := (hW n 124 ls st μ g).trans rfl
theorem dX5_spread_0 : decode cX5_spread 0 = .ok (.aload_n 0, 1) := by decide +kernel
theorem dX5_spread_1 : decode cX5_spread 1 = .ok (.aload_n 0, 1) := by decide +kernel
theorem dX5_spread_2 : decode cX5_spread 2 = .ok (.bipush 98, 2) := by decide +kernel
theorem dX5_spread_4 : decode cX5_spread 4 = .ok (.invokevirtual 114, 3) := by decide +kernel
theorem dX5_spread_7 : decode cX5_spread 7 = .ok (.ifCond .lt 12, 3) := by decide +kernel
theorem dX5_spread_10 : decode cX5_spread 10 = .ok (.aload_n 0, 1) := by decide +kernel
theorem dX5_spread_11 : decode cX5_spread 11 = .ok (.bipush 115, 2) := by decide +kernel
theorem dX5_spread_13 : decode cX5_spread 13 = .ok (.invokevirtual 114, 3) := by decide +kernel
theorem dX5_spread_16 : decode cX5_spread 16 = .ok (.ifCond .ge 7, 3) := by decide +kernel
theorem dX5_spread_19 : decode cX5_spread 19 = .ok (.iconst 1, 1) := by decide +kernel
theorem dX5_spread_20 : decode cX5_spread 20 = .ok (.goto 4, 3) := by decide +kernel
theorem dX5_spread_23 : decode cX5_spread 23 = .ok (.iconst 0, 1) := by decide +kernel
theorem dX5_spread_24 : decode cX5_spread 24 = .ok (.invokevirtual 148, 3) := by decide +kernel
theorem dX5_spread_27 : decode cX5_spread 27 = .ok (.ifCond .eq 7, 3) := by decide +kernel
theorem dX5_spread_30 : decode cX5_spread 30 = .ok (.iconst 0, 1) := by decide +kernel
theorem dX5_spread_31 : decode cX5_spread 31 = .ok (.goto 26, 3) := by decide +kernel
theorem dX5_spread_34 : decode cX5_spread 34 = .ok (.aload_n 0, 1) := by decide +kernel
theorem dX5_spread_35 : decode cX5_spread 35 = .ok (.getfield 20, 3) := by decide +kernel
theorem dX5_spread_38 : decode cX5_spread 38 = .ok (.aload_n 0, 1) := by decide +kernel
theorem dX5_spread_39 : decode cX5_spread 39 = .ok (.bipush 115, 2) := by decide +kernel
theorem dX5_spread_41 : decode cX5_spread 41 = .ok (.invokevirtual 114, 3) := by decide +kernel
theorem dX5_spread_44 : decode cX5_spread 44 = .ok (.iaload, 1) := by decide +kernel
theorem dX5_spread_45 : decode cX5_spread 45 = .ok (.aload_n 0, 1) := by decide +kernel
theorem dX5_spread_46 : decode cX5_spread 46 = .ok (.getfield 20, 3) := by decide +kernel
theorem dX5_spread_49 : decode cX5_spread 49 = .ok (.aload_n 0, 1) := by decide +kernel
theorem dX5_spread_50 : decode cX5_spread 50 = .ok (.bipush 98, 2) := by decide +kernel
theorem dX5_spread_52 : decode cX5_spread 52 = .ok (.invokevirtual 114, 3) := by decide +kernel
theorem dX5_spread_55 : decode cX5_spread 55 = .ok (.iaload, 1) := by decide +kernel
theorem dX5_spread_56 : decode cX5_spread 56 = .ok (.isub, 1) := by decide +kernel
theorem dX5_spread_57 : decode cX5_spread 57 = .ok (.ireturn, 1) := by decide +kernel
def tbX5_spread (l : Launch) (K : aRs) (X : aXs) : aTb := [
  (0, sLd 0 1 isR),
  (1, sLd 0 2 isR),
  (2, sPush (aI 98) 4),
  (4, sCallV 1 5 (fun as μ K => Ct l mdX5_first as μ K X) 7 0 0),
  (7, sIf pLt 19 10),
  (10, sLd 0 11 isR),
  (11, sPush (aI 115) 13),
  (13, sCallV 1 5 (fun as μ K => Ct l mdX5_first as μ K X) 16 0 0),
  (16, sIf pGe 23 19),
  (19, sPush (aI 1) 20),
  (20, sGoto 24),
  (23, sPush (aI 0) 24),
  (24, sCallV 1 5 (fun as μ K => Ct l mdX5_fails as μ K X) 27 0 0),
  (27, sIf pEq 34 30),
  (30, sPush (aI 0) 31),
  (31, sGoto 57),
  (34, sLd 0 35 isR),
  (35, sGetR 5 4 38),
  (38, sLd 0 39 isR),
  (39, sPush (aI 115) 41),
  (41, sCallV 1 5 (fun as μ K => Ct l mdX5_first as μ K X) 44 0 0),
  (44, sAldI 7 45),
  (45, sLd 0 46 isR),
  (46, sGetR 5 4 49),
  (49, sLd 0 50 isR),
  (50, sPush (aI 98) 52),
  (52, sCallV 1 5 (fun as μ K => Ct l mdX5_first as μ K X) 55 0 0),
  (55, sAldI 7 56),
  (56, sBin fSub 57),
  (57, sRetI .int 0 K)]
theorem snX5_spread (l : Launch) (K : aRs) (X : aXs) (n0 : Nat) : ∀ q ∈ tbX5_spread l K X, aSo l mdX5_spread K X n0 q.1 q.2 :=
  tc (fun p e s m args below meth c cA D A ad0 h => ok_aload_n h.1 0 rfl dX5_spread_0) <|
  tc (fun p e s m args below meth c cA D A ad0 h => ok_aload_n h.1 0 rfl dX5_spread_1) <|
  tc (fun p e s m args below meth c cA D A ad0 h => ok_bipush h.1 ⟨by decide, by decide⟩ (by decide) dX5_spread_2) <|
  tc (fun p e s m args below meth c cA D A ad0 h => ok_callV h.1 h.2.1 ⟨Nat.le_refl _, Nat.le_refl _⟩ mdX5_first siX5_first cxX5 mkRX5_114 imX5_first seX5_first ⟨by decide, by decide⟩ (aAx_out h.1 h.2.2.1 _) dX5_spread_4) <|
  tc (fun p e s m args below meth c cA D A ad0 h => ok_if_lt h.1 19 (by decide) dX5_spread_7) <|
  tc (fun p e s m args below meth c cA D A ad0 h => ok_aload_n h.1 0 rfl dX5_spread_10) <|
  tc (fun p e s m args below meth c cA D A ad0 h => ok_bipush h.1 ⟨by decide, by decide⟩ (by decide) dX5_spread_11) <|
  tc (fun p e s m args below meth c cA D A ad0 h => ok_callV h.1 h.2.1 ⟨Nat.le_refl _, Nat.le_refl _⟩ mdX5_first siX5_first cxX5 mkRX5_114 imX5_first seX5_first ⟨by decide, by decide⟩ (aAx_out h.1 h.2.2.1 _) dX5_spread_13) <|
  tc (fun p e s m args below meth c cA D A ad0 h => ok_if_ge h.1 23 (by decide) dX5_spread_16) <|
  tc (fun p e s m args below meth c cA D A ad0 h => ok_iconst h.1 ⟨by decide, by decide⟩ dX5_spread_19) <|
  tc (fun p e s m args below meth c cA D A ad0 h => ok_goto h.1 24 (by decide) dX5_spread_20) <|
  tc (fun p e s m args below meth c cA D A ad0 h => ok_iconst h.1 ⟨by decide, by decide⟩ dX5_spread_23) <|
  tc (fun p e s m args below meth c cA D A ad0 h => ok_callV h.1 h.2.1 ⟨Nat.le_refl _, Nat.le_refl _⟩ mdX5_fails siX5_fails cxX5 mkRX5_148 imX5_fails seX5_fails ⟨by decide, by decide⟩ (aAx_out h.1 h.2.2.1 _) dX5_spread_24) <|
  tc (fun p e s m args below meth c cA D A ad0 h => ok_if_eq h.1 34 (by decide) dX5_spread_27) <|
  tc (fun p e s m args below meth c cA D A ad0 h => ok_iconst h.1 ⟨by decide, by decide⟩ dX5_spread_30) <|
  tc (fun p e s m args below meth c cA D A ad0 h => ok_goto h.1 57 (by decide) dX5_spread_31) <|
  tc (fun p e s m args below meth c cA D A ad0 h => ok_aload_n h.1 0 rfl dX5_spread_34) <|
  tc (fun p e s m args below meth c cA D A ad0 h => ok_getR h.1 cxX5 (by decide) rfl fkRX5_20 (fun _ _ _ => rfl) dX5_spread_35) <|
  tc (fun p e s m args below meth c cA D A ad0 h => ok_aload_n h.1 0 rfl dX5_spread_38) <|
  tc (fun p e s m args below meth c cA D A ad0 h => ok_bipush h.1 ⟨by decide, by decide⟩ (by decide) dX5_spread_39) <|
  tc (fun p e s m args below meth c cA D A ad0 h => ok_callV h.1 h.2.1 ⟨Nat.le_refl _, Nat.le_refl _⟩ mdX5_first siX5_first cxX5 mkRX5_114 imX5_first seX5_first ⟨by decide, by decide⟩ (aAx_out h.1 h.2.2.1 _) dX5_spread_41) <|
  tc (fun p e s m args below meth c cA D A ad0 h => ok_iald h.1 dX5_spread_44) <|
  tc (fun p e s m args below meth c cA D A ad0 h => ok_aload_n h.1 0 rfl dX5_spread_45) <|
  tc (fun p e s m args below meth c cA D A ad0 h => ok_getR h.1 cxX5 (by decide) rfl fkRX5_20 (fun _ _ _ => rfl) dX5_spread_46) <|
  tc (fun p e s m args below meth c cA D A ad0 h => ok_aload_n h.1 0 rfl dX5_spread_49) <|
  tc (fun p e s m args below meth c cA D A ad0 h => ok_bipush h.1 ⟨by decide, by decide⟩ (by decide) dX5_spread_50) <|
  tc (fun p e s m args below meth c cA D A ad0 h => ok_callV h.1 h.2.1 ⟨Nat.le_refl _, Nat.le_refl _⟩ mdX5_first siX5_first cxX5 mkRX5_114 imX5_first seX5_first ⟨by decide, by decide⟩ (aAx_out h.1 h.2.2.1 _) dX5_spread_52) <|
  tc (fun p e s m args below meth c cA D A ad0 h => ok_iald h.1 dX5_spread_55) <|
  tc (fun p e s m args below meth c cA D A ad0 h => ok_isub h.1 dX5_spread_56) <|
  tc (fun p e s m args below meth c cA D A ad0 h => ok_ireturn h.1 h.2.2.2.1 (Or.inl rfl) dX5_spread_57) <|
  tn
abbrev cuX5_spread : List Nat := [7, 16, 27, 44, 55]
theorem tX5_spread_0 (l : Launch) (K : aRs) (X : aXs) : tb (tbX5_spread l K X) 0 = sLd 0 1 isR := (rfl)
theorem wX5_spread_0 {l : Launch} {K : aRs} {X : aXs} {J : aK} {W : Nat → aK} (hW : isW (tbX5_spread l K X) cuX5_spread J W) (n : Nat) (ls st : List aV) (μ : aM) (g : Nat) : W (n + 1) 0 ls st μ g = (sLd 0 1 isR) (W n) ls st μ g := (hW n 0 ls st μ g).trans rfl
theorem wX5_spread_1 {l : Launch} {K : aRs} {X : aXs} {J : aK} {W : Nat → aK} (hW : isW (tbX5_spread l K X) cuX5_spread J W) (n : Nat) (ls st : List aV) (μ : aM) (g : Nat) : W (n + 1) 1 ls st μ g = (sLd 0 2 isR) (W n) ls st μ g := (hW n 1 ls st μ g).trans rfl
theorem wX5_spread_2 {l : Launch} {K : aRs} {X : aXs} {J : aK} {W : Nat → aK} (hW : isW (tbX5_spread l K X) cuX5_spread J W) (n : Nat) (ls st : List aV) (μ : aM) (g : Nat) : W (n + 1) 2 ls st μ g = (sPush (aI 98) 4) (W n) ls st μ g := (hW n 2 ls st μ g).trans rfl
theorem wX5_spread_4 {l : Launch} {K : aRs} {X : aXs} {J : aK} {W : Nat → aK} (hW : isW (tbX5_spread l K X) cuX5_spread J W) (n : Nat) (ls st : List aV) (μ : aM) (g : Nat) : W (n + 1) 4 ls st μ g = (sCallV 1 5 (fun as μ K => Ct l mdX5_first as μ K X) 7 0 0) (W n) ls st μ g := (hW n 4 ls st μ g).trans rfl
theorem tX5_spread_7 (l : Launch) (K : aRs) (X : aXs) : tb (tbX5_spread l K X) 7 = sIf pLt 19 10 := (rfl)
theorem wX5_spread_7 {l : Launch} {K : aRs} {X : aXs} {J : aK} {W : Nat → aK} (hW : isW (tbX5_spread l K X) cuX5_spread J W) (n : Nat) (ls st : List aV) (μ : aM) (g : Nat) : W (n + 1) 7 ls st μ g = J 7 ls st μ g := (hW n 7 ls st μ g).trans rfl
theorem wX5_spread_10 {l : Launch} {K : aRs} {X : aXs} {J : aK} {W : Nat → aK} (hW : isW (tbX5_spread l K X) cuX5_spread J W) (n : Nat) (ls st : List aV) (μ : aM) (g : Nat) : W (n + 1) 10 ls st μ g = (sLd 0 11 isR) (W n) ls st μ g := (hW n 10 ls st μ g).trans rfl
theorem wX5_spread_11 {l : Launch} {K : aRs} {X : aXs} {J : aK} {W : Nat → aK} (hW : isW (tbX5_spread l K X) cuX5_spread J W) (n : Nat) (ls st : List aV) (μ : aM) (g : Nat) : W (n + 1) 11 ls st μ g = (sPush (aI 115) 13) (W n) ls st μ g := (hW n 11 ls st μ g).trans rfl
theorem wX5_spread_13 {l : Launch} {K : aRs} {X : aXs} {J : aK} {W : Nat → aK} (hW : isW (tbX5_spread l K X) cuX5_spread J W) (n : Nat) (ls st : List aV) (μ : aM) (g : Nat) : W (n + 1) 13 ls st μ g = (sCallV 1 5 (fun as μ K => Ct l mdX5_first as μ K X) 16 0 0) (W n) ls st μ g := (hW n 13 ls st μ g).trans rfl
theorem tX5_spread_16 (l : Launch) (K : aRs) (X : aXs) : tb (tbX5_spread l K X) 16 = sIf pGe 23 19 := (rfl)
theorem wX5_spread_16 {l : Launch} {K : aRs} {X : aXs} {J : aK} {W : Nat → aK} (hW : isW (tbX5_spread l K X) cuX5_spread J W) (n : Nat) (ls st : List aV) (μ : aM) (g : Nat) : W (n + 1) 16 ls st μ g = J 16 ls st μ g := (hW n 16 ls st μ g).trans rfl
theorem wX5_spread_19 {l : Launch} {K : aRs} {X : aXs} {J : aK} {W : Nat → aK} (hW : isW (tbX5_spread l K X) cuX5_spread J W) (n : Nat) (ls st : List aV) (μ : aM) (g : Nat) : W (n + 1) 19 ls st μ g = (sPush (aI 1) 20) (W n) ls st μ g := (hW n 19 ls st μ g).trans rfl
theorem wX5_spread_20 {l : Launch} {K : aRs} {X : aXs} {J : aK} {W : Nat → aK} (hW : isW (tbX5_spread l K X) cuX5_spread J W) (n : Nat) (ls st : List aV) (μ : aM) (g : Nat) : W (n + 1) 20 ls st μ g = (sGoto 24) (W n) ls st μ g := (hW n 20 ls st μ g).trans rfl
theorem wX5_spread_23 {l : Launch} {K : aRs} {X : aXs} {J : aK} {W : Nat → aK} (hW : isW (tbX5_spread l K X) cuX5_spread J W) (n : Nat) (ls st : List aV) (μ : aM) (g : Nat) : W (n + 1) 23 ls st μ g = (sPush (aI 0) 24) (W n) ls st μ g := (hW n 23 ls st μ g).trans rfl
theorem wX5_spread_24 {l : Launch} {K : aRs} {X : aXs} {J : aK} {W : Nat → aK} (hW : isW (tbX5_spread l K X) cuX5_spread J W) (n : Nat) (ls st : List aV) (μ : aM) (g : Nat) : W (n + 1) 24 ls st μ g = (sCallV 1 5 (fun as μ K => Ct l mdX5_fails as μ K X) 27 0 0) (W n) ls st μ g := (hW n 24 ls st μ g).trans rfl
theorem tX5_spread_27 (l : Launch) (K : aRs) (X : aXs) : tb (tbX5_spread l K X) 27 = sIf pEq 34 30 := (rfl)
theorem wX5_spread_27 {l : Launch} {K : aRs} {X : aXs} {J : aK} {W : Nat → aK} (hW : isW (tbX5_spread l K X) cuX5_spread J W) (n : Nat) (ls st : List aV) (μ : aM) (g : Nat) : W (n + 1) 27 ls st μ g = J 27 ls st μ g := (hW n 27 ls st μ g).trans rfl
theorem wX5_spread_30 {l : Launch} {K : aRs} {X : aXs} {J : aK} {W : Nat → aK} (hW : isW (tbX5_spread l K X) cuX5_spread J W) (n : Nat) (ls st : List aV) (μ : aM) (g : Nat) : W (n + 1) 30 ls st μ g = (sPush (aI 0) 31) (W n) ls st μ g := (hW n 30 ls st μ g).trans rfl
theorem wX5_spread_31 {l : Launch} {K : aRs} {X : aXs} {J : aK} {W : Nat → aK} (hW : isW (tbX5_spread l K X) cuX5_spread J W) (n : Nat) (ls st : List aV) (μ : aM) (g : Nat) : W (n + 1) 31 ls st μ g = (sGoto 57) (W n) ls st μ g := (hW n 31 ls st μ g).trans rfl
theorem wX5_spread_34 {l : Launch} {K : aRs} {X : aXs} {J : aK} {W : Nat → aK} (hW : isW (tbX5_spread l K X) cuX5_spread J W) (n : Nat) (ls st : List aV) (μ : aM) (g : Nat) : W (n + 1) 34 ls st μ g = (sLd 0 35 isR) (W n) ls st μ g := (hW n 34 ls st μ g).trans rfl
theorem wX5_spread_35 {l : Launch} {K : aRs} {X : aXs} {J : aK} {W : Nat → aK} (hW : isW (tbX5_spread l K X) cuX5_spread J W) (n : Nat) (ls st : List aV) (μ : aM) (g : Nat) : W (n + 1) 35 ls st μ g = (sGetR 5 4 38) (W n) ls st μ g := (hW n 35 ls st μ g).trans rfl
theorem wX5_spread_38 {l : Launch} {K : aRs} {X : aXs} {J : aK} {W : Nat → aK} (hW : isW (tbX5_spread l K X) cuX5_spread J W) (n : Nat) (ls st : List aV) (μ : aM) (g : Nat) : W (n + 1) 38 ls st μ g = (sLd 0 39 isR) (W n) ls st μ g := (hW n 38 ls st μ g).trans rfl
theorem wX5_spread_39 {l : Launch} {K : aRs} {X : aXs} {J : aK} {W : Nat → aK} (hW : isW (tbX5_spread l K X) cuX5_spread J W) (n : Nat) (ls st : List aV) (μ : aM) (g : Nat) : W (n + 1) 39 ls st μ g = (sPush (aI 115) 41) (W n) ls st μ g := (hW n 39 ls st μ g).trans rfl
theorem wX5_spread_41 {l : Launch} {K : aRs} {X : aXs} {J : aK} {W : Nat → aK} (hW : isW (tbX5_spread l K X) cuX5_spread J W) (n : Nat) (ls st : List aV) (μ : aM) (g : Nat) : W (n + 1) 41 ls st μ g = (sCallV 1 5 (fun as μ K => Ct l mdX5_first as μ K X) 44 0 0) (W n) ls st μ g := (hW n 41 ls st μ g).trans rfl
theorem tX5_spread_44 (l : Launch) (K : aRs) (X : aXs) : tb (tbX5_spread l K X) 44 = sAldI 7 45 := (rfl)
theorem wX5_spread_44 {l : Launch} {K : aRs} {X : aXs} {J : aK} {W : Nat → aK} (hW : isW (tbX5_spread l K X) cuX5_spread J W) (n : Nat) (ls st : List aV) (μ : aM) (g : Nat) : W (n + 1) 44 ls st μ g = J 44 ls st μ g := (hW n 44 ls st μ g).trans rfl
theorem wX5_spread_45 {l : Launch} {K : aRs} {X : aXs} {J : aK} {W : Nat → aK} (hW : isW (tbX5_spread l K X) cuX5_spread J W) (n : Nat) (ls st : List aV) (μ : aM) (g : Nat) : W (n + 1) 45 ls st μ g = (sLd 0 46 isR) (W n) ls st μ g := (hW n 45 ls st μ g).trans rfl
theorem wX5_spread_46 {l : Launch} {K : aRs} {X : aXs} {J : aK} {W : Nat → aK} (hW : isW (tbX5_spread l K X) cuX5_spread J W) (n : Nat) (ls st : List aV) (μ : aM) (g : Nat) : W (n + 1) 46 ls st μ g = (sGetR 5 4 49) (W n) ls st μ g := (hW n 46 ls st μ g).trans rfl
theorem wX5_spread_49 {l : Launch} {K : aRs} {X : aXs} {J : aK} {W : Nat → aK} (hW : isW (tbX5_spread l K X) cuX5_spread J W) (n : Nat) (ls st : List aV) (μ : aM) (g : Nat) : W (n + 1) 49 ls st μ g = (sLd 0 50 isR) (W n) ls st μ g := (hW n 49 ls st μ g).trans rfl
theorem wX5_spread_50 {l : Launch} {K : aRs} {X : aXs} {J : aK} {W : Nat → aK} (hW : isW (tbX5_spread l K X) cuX5_spread J W) (n : Nat) (ls st : List aV) (μ : aM) (g : Nat) : W (n + 1) 50 ls st μ g = (sPush (aI 98) 52) (W n) ls st μ g := (hW n 50 ls st μ g).trans rfl
theorem wX5_spread_52 {l : Launch} {K : aRs} {X : aXs} {J : aK} {W : Nat → aK} (hW : isW (tbX5_spread l K X) cuX5_spread J W) (n : Nat) (ls st : List aV) (μ : aM) (g : Nat) : W (n + 1) 52 ls st μ g = (sCallV 1 5 (fun as μ K => Ct l mdX5_first as μ K X) 55 0 0) (W n) ls st μ g := (hW n 52 ls st μ g).trans rfl
theorem tX5_spread_55 (l : Launch) (K : aRs) (X : aXs) : tb (tbX5_spread l K X) 55 = sAldI 7 56 := (rfl)
theorem wX5_spread_55 {l : Launch} {K : aRs} {X : aXs} {J : aK} {W : Nat → aK} (hW : isW (tbX5_spread l K X) cuX5_spread J W) (n : Nat) (ls st : List aV) (μ : aM) (g : Nat) : W (n + 1) 55 ls st μ g = J 55 ls st μ g := (hW n 55 ls st μ g).trans rfl
theorem wX5_spread_56 {l : Launch} {K : aRs} {X : aXs} {J : aK} {W : Nat → aK} (hW : isW (tbX5_spread l K X) cuX5_spread J W) (n : Nat) (ls st : List aV) (μ : aM) (g : Nat) : W (n + 1) 56 ls st μ g = (sBin fSub 57) (W n) ls st μ g := (hW n 56 ls st μ g).trans rfl
theorem wX5_spread_57 {l : Launch} {K : aRs} {X : aXs} {J : aK} {W : Nat → aK} (hW : isW (tbX5_spread l K X) cuX5_spread J W) (n : Nat) (ls st : List aV) (μ : aM) (g : Nat) : W (n + 1) 57 ls st μ g = (sRetI .int 0 K) (W n) ls st μ g := (hW n 57 ls st μ g).trans rfl
theorem dX5_waiting_0 : decode cX5_waiting 0 = .ok (.aload_n 0, 1) := by decide +kernel
theorem dX5_waiting_1 : decode cX5_waiting 1 = .ok (.aload_n 0, 1) := by decide +kernel
theorem dX5_waiting_2 : decode cX5_waiting 2 = .ok (.bipush 119, 2) := by decide +kernel
theorem dX5_waiting_4 : decode cX5_waiting 4 = .ok (.invokevirtual 71, 3) := by decide +kernel
theorem dX5_waiting_7 : decode cX5_waiting 7 = .ok (.invokevirtual 172, 3) := by decide +kernel
theorem dX5_waiting_10 : decode cX5_waiting 10 = .ok (.ireturn, 1) := by decide +kernel
def tbX5_waiting (l : Launch) (K : aRs) (X : aXs) : aTb := [
  (0, sLd 0 1 isR),
  (1, sLd 0 2 isR),
  (2, sPush (aI 119) 4),
  (4, sCallV 1 5 (fun as μ K => Ct l mdX5_many as μ K X) 7 0 0),
  (7, sCallV 1 5 (fun as μ K => Ct l mdX5_tells as μ K X) 10 0 0),
  (10, sRetI .int 0 K)]
theorem snX5_waiting (l : Launch) (K : aRs) (X : aXs) (n0 : Nat) : ∀ q ∈ tbX5_waiting l K X, aSo l mdX5_waiting K X n0 q.1 q.2 :=
  tc (fun p e s m args below meth c cA D A ad0 h => ok_aload_n h.1 0 rfl dX5_waiting_0) <|
  tc (fun p e s m args below meth c cA D A ad0 h => ok_aload_n h.1 0 rfl dX5_waiting_1) <|
  tc (fun p e s m args below meth c cA D A ad0 h => ok_bipush h.1 ⟨by decide, by decide⟩ (by decide) dX5_waiting_2) <|
  tc (fun p e s m args below meth c cA D A ad0 h => ok_callV h.1 h.2.1 ⟨Nat.le_refl _, Nat.le_refl _⟩ mdX5_many siX5_many cxX5 mkRX5_71 imX5_many seX5_many ⟨by decide, by decide⟩ (aAx_out h.1 h.2.2.1 _) dX5_waiting_4) <|
  tc (fun p e s m args below meth c cA D A ad0 h => ok_callV h.1 h.2.1 ⟨Nat.le_refl _, Nat.le_refl _⟩ mdX5_tells siX5_tells cxX5 mkRX5_172 imX5_tells seX5_tells ⟨by decide, by decide⟩ (aAx_out h.1 h.2.2.1 _) dX5_waiting_7) <|
  tc (fun p e s m args below meth c cA D A ad0 h => ok_ireturn h.1 h.2.2.2.1 (Or.inl rfl) dX5_waiting_10) <|
  tn
abbrev cuX5_waiting : List Nat := [7, 10]
theorem tX5_waiting_0 (l : Launch) (K : aRs) (X : aXs) : tb (tbX5_waiting l K X) 0 = sLd 0 1 isR := (rfl)
theorem wX5_waiting_0 {l : Launch} {K : aRs} {X : aXs} {J : aK} {W : Nat → aK} (hW : isW (tbX5_waiting l K X) cuX5_waiting J W) (n : Nat) (ls st : List aV) (μ : aM) (g : Nat) : W (n + 1) 0 ls st μ g = (sLd 0 1 isR) (W n) ls st μ g := (hW n 0 ls st μ g).trans rfl
theorem wX5_waiting_1 {l : Launch} {K : aRs} {X : aXs} {J : aK} {W : Nat → aK} (hW : isW (tbX5_waiting l K X) cuX5_waiting J W) (n : Nat) (ls st : List aV) (μ : aM) (g : Nat) : W (n + 1) 1 ls st μ g = (sLd 0 2 isR) (W n) ls st μ g := (hW n 1 ls st μ g).trans rfl
theorem wX5_waiting_2 {l : Launch} {K : aRs} {X : aXs} {J : aK} {W : Nat → aK} (hW : isW (tbX5_waiting l K X) cuX5_waiting J W) (n : Nat) (ls st : List aV) (μ : aM) (g : Nat) : W (n + 1) 2 ls st μ g = (sPush (aI 119) 4) (W n) ls st μ g := (hW n 2 ls st μ g).trans rfl
theorem wX5_waiting_4 {l : Launch} {K : aRs} {X : aXs} {J : aK} {W : Nat → aK} (hW : isW (tbX5_waiting l K X) cuX5_waiting J W) (n : Nat) (ls st : List aV) (μ : aM) (g : Nat) : W (n + 1) 4 ls st μ g = (sCallV 1 5 (fun as μ K => Ct l mdX5_many as μ K X) 7 0 0) (W n) ls st μ g := (hW n 4 ls st μ g).trans rfl
theorem tX5_waiting_7 (l : Launch) (K : aRs) (X : aXs) : tb (tbX5_waiting l K X) 7 = sCallV 1 5 (fun as μ K => Ct l mdX5_tells as μ K X) 10 0 0 := (rfl)
theorem wX5_waiting_7 {l : Launch} {K : aRs} {X : aXs} {J : aK} {W : Nat → aK} (hW : isW (tbX5_waiting l K X) cuX5_waiting J W) (n : Nat) (ls st : List aV) (μ : aM) (g : Nat) : W (n + 1) 7 ls st μ g = J 7 ls st μ g := (hW n 7 ls st μ g).trans rfl
theorem tX5_waiting_10 (l : Launch) (K : aRs) (X : aXs) : tb (tbX5_waiting l K X) 10 = sRetI .int 0 K := (rfl)
theorem wX5_waiting_10 {l : Launch} {K : aRs} {X : aXs} {J : aK} {W : Nat → aK} (hW : isW (tbX5_waiting l K X) cuX5_waiting J W) (n : Nat) (ls st : List aV) (μ : aM) (g : Nat) : W (n + 1) 10 ls st μ g = J 10 ls st μ g := (hW n 10 ls st μ g).trans rfl
theorem dX5_wanted_0 : decode cX5_wanted 0 = .ok (.iconst 0, 1) := by decide +kernel
theorem dX5_wanted_1 : decode cX5_wanted 1 = .ok (.istore_n 3, 1) := by decide +kernel
theorem dX5_wanted_2 : decode cX5_wanted 2 = .ok (.iconst 0, 1) := by decide +kernel
theorem dX5_wanted_3 : decode cX5_wanted 3 = .ok (.istore 4, 2) := by decide +kernel
theorem dX5_wanted_5 : decode cX5_wanted 5 = .ok (.iload 4, 2) := by decide +kernel
theorem dX5_wanted_7 : decode cX5_wanted 7 = .ok (.aload_n 0, 1) := by decide +kernel
theorem dX5_wanted_8 : decode cX5_wanted 8 = .ok (.getfield 68, 3) := by decide +kernel
theorem dX5_wanted_11 : decode cX5_wanted 11 = .ok (.if_icmp .ge 61, 3) := by decide +kernel
theorem dX5_wanted_14 : decode cX5_wanted 14 = .ok (.iload_n 3, 1) := by decide +kernel
theorem dX5_wanted_15 : decode cX5_wanted 15 = .ok (.aload_n 0, 1) := by decide +kernel
theorem dX5_wanted_16 : decode cX5_wanted 16 = .ok (.getfield 13, 3) := by decide +kernel
theorem dX5_wanted_19 : decode cX5_wanted 19 = .ok (.iload 4, 2) := by decide +kernel
theorem dX5_wanted_21 : decode cX5_wanted 21 = .ok (.caload, 1) := by decide +kernel
theorem dX5_wanted_22 : decode cX5_wanted 22 = .ok (.bipush 97, 2) := by decide +kernel
theorem dX5_wanted_24 : decode cX5_wanted 24 = .ok (.if_icmp .ne 39, 3) := by decide +kernel
theorem dX5_wanted_27 : decode cX5_wanted 27 = .ok (.aload_n 0, 1) := by decide +kernel
theorem dX5_wanted_28 : decode cX5_wanted 28 = .ok (.getfield 7, 3) := by decide +kernel
theorem dX5_wanted_31 : decode cX5_wanted 31 = .ok (.iload 4, 2) := by decide +kernel
theorem dX5_wanted_33 : decode cX5_wanted 33 = .ok (.caload, 1) := by decide +kernel
theorem dX5_wanted_34 : decode cX5_wanted 34 = .ok (.iload_n 1, 1) := by decide +kernel
theorem dX5_wanted_35 : decode cX5_wanted 35 = .ok (.if_icmp .ne 28, 3) := by decide +kernel
theorem dX5_wanted_38 : decode cX5_wanted 38 = .ok (.iload_n 1, 1) := by decide +kernel
theorem dX5_wanted_39 : decode cX5_wanted 39 = .ok (.iload_n 2, 1) := by decide +kernel
theorem dX5_wanted_40 : decode cX5_wanted 40 = .ok (.aload_n 0, 1) := by decide +kernel
theorem dX5_wanted_41 : decode cX5_wanted 41 = .ok (.getfield 20, 3) := by decide +kernel
theorem dX5_wanted_44 : decode cX5_wanted 44 = .ok (.iload 4, 2) := by decide +kernel
theorem dX5_wanted_46 : decode cX5_wanted 46 = .ok (.iaload, 1) := by decide +kernel
theorem dX5_wanted_47 : decode cX5_wanted 47 = .ok (.invokestatic 75, 3) := by decide +kernel
theorem dX5_wanted_50 : decode cX5_wanted 50 = .ok (.ifCond .ne 13, 3) := by decide +kernel
theorem dX5_wanted_53 : decode cX5_wanted 53 = .ok (.aload_n 0, 1) := by decide +kernel
theorem dX5_wanted_54 : decode cX5_wanted 54 = .ok (.getfield 29, 3) := by decide +kernel
theorem dX5_wanted_57 : decode cX5_wanted 57 = .ok (.iload 4, 2) := by decide +kernel
theorem dX5_wanted_59 : decode cX5_wanted 59 = .ok (.iaload, 1) := by decide +kernel
theorem dX5_wanted_60 : decode cX5_wanted 60 = .ok (.goto 4, 3) := by decide +kernel
theorem dX5_wanted_63 : decode cX5_wanted 63 = .ok (.iconst 0, 1) := by decide +kernel
theorem dX5_wanted_64 : decode cX5_wanted 64 = .ok (.iadd, 1) := by decide +kernel
theorem dX5_wanted_65 : decode cX5_wanted 65 = .ok (.istore_n 3, 1) := by decide +kernel
theorem dX5_wanted_66 : decode cX5_wanted 66 = .ok (.iinc 4 1, 3) := by decide +kernel
theorem dX5_wanted_69 : decode cX5_wanted 69 = .ok (.goto (-64), 3) := by decide +kernel
theorem dX5_wanted_72 : decode cX5_wanted 72 = .ok (.iload_n 3, 1) := by decide +kernel
theorem dX5_wanted_73 : decode cX5_wanted 73 = .ok (.ireturn, 1) := by decide +kernel
def tbX5_wanted (l : Launch) (K : aRs) (X : aXs) : aTb := [
  (0, sPush (aI 0) 1),
  (1, sSt 3 2 isI),
  (2, sPush (aI 0) 3),
  (3, sSt 4 5 isI),
  (5, sLd 4 7 isI),
  (7, sLd 0 8 isR),
  (8, sGetI 5 0 11),
  (11, sIc qGe 72 14),
  (14, sLd 3 15 isI),
  (15, sLd 0 16 isR),
  (16, sGetR 5 2 19),
  (19, sLd 4 21 isI),
  (21, sAldI 6 22),
  (22, sPush (aI 97) 24),
  (24, sIc qNe 63 27),
  (27, sLd 0 28 isR),
  (28, sGetR 5 1 31),
  (31, sLd 4 33 isI),
  (33, sAldI 6 34),
  (34, sLd 1 35 isI),
  (35, sIc qNe 63 38),
  (38, sLd 1 39 isI),
  (39, sLd 2 40 isI),
  (40, sLd 0 41 isR),
  (41, sGetR 5 4 44),
  (44, sLd 4 46 isI),
  (46, sAldI 7 47),
  (47, sCallS 3 (fun as μ K => Ct l mdX5_isAhead as μ K X) 50 0 0),
  (50, sIf pNe 63 53),
  (53, sLd 0 54 isR),
  (54, sGetR 5 7 57),
  (57, sLd 4 59 isI),
  (59, sAldI 7 60),
  (60, sGoto 64),
  (63, sPush (aI 0) 64),
  (64, sBin fAdd 65),
  (65, sSt 3 66 isI),
  (66, sInc 4 1 69),
  (69, sGoto 5),
  (72, sLd 3 73 isI),
  (73, sRetI .int 0 K)]
theorem snX5_wanted (l : Launch) (K : aRs) (X : aXs) (n0 : Nat) : ∀ q ∈ tbX5_wanted l K X, aSo l mdX5_wanted K X n0 q.1 q.2 :=
  tc (fun p e s m args below meth c cA D A ad0 h => ok_iconst h.1 ⟨by decide, by decide⟩ dX5_wanted_0) <|
  tc (fun p e s m args below meth c cA D A ad0 h => ok_istore_n h.1 3 rfl (by decide) dX5_wanted_1) <|
  tc (fun p e s m args below meth c cA D A ad0 h => ok_iconst h.1 ⟨by decide, by decide⟩ dX5_wanted_2) <|
  tc (fun p e s m args below meth c cA D A ad0 h => ok_istore h.1 (by decide) dX5_wanted_3) <|
  tc (fun p e s m args below meth c cA D A ad0 h => ok_iload h.1 dX5_wanted_5) <|
  tc (fun p e s m args below meth c cA D A ad0 h => ok_aload_n h.1 0 rfl dX5_wanted_7) <|
  tc (fun p e s m args below meth c cA D A ad0 h => ok_getI h.1 cxX5 (by decide) rfl fkRX5_68 (fun _ _ _ => rfl) dX5_wanted_8) <|
  tc (fun p e s m args below meth c cA D A ad0 h => ok_icmp_ge h.1 72 (by decide) dX5_wanted_11) <|
  tc (fun p e s m args below meth c cA D A ad0 h => ok_iload_n h.1 3 rfl dX5_wanted_14) <|
  tc (fun p e s m args below meth c cA D A ad0 h => ok_aload_n h.1 0 rfl dX5_wanted_15) <|
  tc (fun p e s m args below meth c cA D A ad0 h => ok_getR h.1 cxX5 (by decide) rfl fkRX5_13 (fun _ _ _ => rfl) dX5_wanted_16) <|
  tc (fun p e s m args below meth c cA D A ad0 h => ok_iload h.1 dX5_wanted_19) <|
  tc (fun p e s m args below meth c cA D A ad0 h => ok_cald h.1 dX5_wanted_21) <|
  tc (fun p e s m args below meth c cA D A ad0 h => ok_bipush h.1 ⟨by decide, by decide⟩ (by decide) dX5_wanted_22) <|
  tc (fun p e s m args below meth c cA D A ad0 h => ok_icmp_ne h.1 63 (by decide) dX5_wanted_24) <|
  tc (fun p e s m args below meth c cA D A ad0 h => ok_aload_n h.1 0 rfl dX5_wanted_27) <|
  tc (fun p e s m args below meth c cA D A ad0 h => ok_getR h.1 cxX5 (by decide) rfl fkRX5_7 (fun _ _ _ => rfl) dX5_wanted_28) <|
  tc (fun p e s m args below meth c cA D A ad0 h => ok_iload h.1 dX5_wanted_31) <|
  tc (fun p e s m args below meth c cA D A ad0 h => ok_cald h.1 dX5_wanted_33) <|
  tc (fun p e s m args below meth c cA D A ad0 h => ok_iload_n h.1 1 rfl dX5_wanted_34) <|
  tc (fun p e s m args below meth c cA D A ad0 h => ok_icmp_ne h.1 63 (by decide) dX5_wanted_35) <|
  tc (fun p e s m args below meth c cA D A ad0 h => ok_iload_n h.1 1 rfl dX5_wanted_38) <|
  tc (fun p e s m args below meth c cA D A ad0 h => ok_iload_n h.1 2 rfl dX5_wanted_39) <|
  tc (fun p e s m args below meth c cA D A ad0 h => ok_aload_n h.1 0 rfl dX5_wanted_40) <|
  tc (fun p e s m args below meth c cA D A ad0 h => ok_getR h.1 cxX5 (by decide) rfl fkRX5_20 (fun _ _ _ => rfl) dX5_wanted_41) <|
  tc (fun p e s m args below meth c cA D A ad0 h => ok_iload h.1 dX5_wanted_44) <|
  tc (fun p e s m args below meth c cA D A ad0 h => ok_iald h.1 dX5_wanted_46) <|
  tc (fun p e s m args below meth c cA D A ad0 h => ok_callS h.1 h.2.1 ⟨Nat.le_refl _, Nat.le_refl _⟩ mdX5_isAhead siX5_isAhead mkRX5_75 stX5_isAhead ⟨by decide, by decide⟩ (aAx_out h.1 h.2.2.1 _) dX5_wanted_47) <|
  tc (fun p e s m args below meth c cA D A ad0 h => ok_if_ne h.1 63 (by decide) dX5_wanted_50) <|
  tc (fun p e s m args below meth c cA D A ad0 h => ok_aload_n h.1 0 rfl dX5_wanted_53) <|
  tc (fun p e s m args below meth c cA D A ad0 h => ok_getR h.1 cxX5 (by decide) rfl fkRX5_29 (fun _ _ _ => rfl) dX5_wanted_54) <|
  tc (fun p e s m args below meth c cA D A ad0 h => ok_iload h.1 dX5_wanted_57) <|
  tc (fun p e s m args below meth c cA D A ad0 h => ok_iald h.1 dX5_wanted_59) <|
  tc (fun p e s m args below meth c cA D A ad0 h => ok_goto h.1 64 (by decide) dX5_wanted_60) <|
  tc (fun p e s m args below meth c cA D A ad0 h => ok_iconst h.1 ⟨by decide, by decide⟩ dX5_wanted_63) <|
  tc (fun p e s m args below meth c cA D A ad0 h => ok_iadd h.1 dX5_wanted_64) <|
  tc (fun p e s m args below meth c cA D A ad0 h => ok_istore_n h.1 3 rfl (by decide) dX5_wanted_65) <|
  tc (fun p e s m args below meth c cA D A ad0 h => ok_iinc h.1 (by decide) dX5_wanted_66) <|
  tc (fun p e s m args below meth c cA D A ad0 h => ok_goto h.1 5 (by decide) dX5_wanted_69) <|
  tc (fun p e s m args below meth c cA D A ad0 h => ok_iload_n h.1 3 rfl dX5_wanted_72) <|
  tc (fun p e s m args below meth c cA D A ad0 h => ok_ireturn h.1 h.2.2.2.1 (Or.inl rfl) dX5_wanted_73) <|
  tn
abbrev cuX5_wanted : List Nat := [5, 50]
theorem tX5_wanted_0 (l : Launch) (K : aRs) (X : aXs) : tb (tbX5_wanted l K X) 0 = sPush (aI 0) 1 := (rfl)
theorem wX5_wanted_0 {l : Launch} {K : aRs} {X : aXs} {J : aK} {W : Nat → aK} (hW : isW (tbX5_wanted l K X) cuX5_wanted J W) (n : Nat) (ls st : List aV) (μ : aM) (g : Nat) : W (n + 1) 0 ls st μ g = (sPush (aI 0) 1) (W n) ls st μ g := (hW n 0 ls st μ g).trans rfl
theorem wX5_wanted_1 {l : Launch} {K : aRs} {X : aXs} {J : aK} {W : Nat → aK} (hW : isW (tbX5_wanted l K X) cuX5_wanted J W) (n : Nat) (ls st : List aV) (μ : aM) (g : Nat) : W (n + 1) 1 ls st μ g = (sSt 3 2 isI) (W n) ls st μ g := (hW n 1 ls st μ g).trans rfl
theorem wX5_wanted_2 {l : Launch} {K : aRs} {X : aXs} {J : aK} {W : Nat → aK} (hW : isW (tbX5_wanted l K X) cuX5_wanted J W) (n : Nat) (ls st : List aV) (μ : aM) (g : Nat) : W (n + 1) 2 ls st μ g = (sPush (aI 0) 3) (W n) ls st μ g := (hW n 2 ls st μ g).trans rfl
theorem wX5_wanted_3 {l : Launch} {K : aRs} {X : aXs} {J : aK} {W : Nat → aK} (hW : isW (tbX5_wanted l K X) cuX5_wanted J W) (n : Nat) (ls st : List aV) (μ : aM) (g : Nat) : W (n + 1) 3 ls st μ g = (sSt 4 5 isI) (W n) ls st μ g := (hW n 3 ls st μ g).trans rfl
theorem tX5_wanted_5 (l : Launch) (K : aRs) (X : aXs) : tb (tbX5_wanted l K X) 5 = sLd 4 7 isI := (rfl)
theorem wX5_wanted_5 {l : Launch} {K : aRs} {X : aXs} {J : aK} {W : Nat → aK} (hW : isW (tbX5_wanted l K X) cuX5_wanted J W) (n : Nat) (ls st : List aV) (μ : aM) (g : Nat) : W (n + 1) 5 ls st μ g = J 5 ls st μ g := (hW n 5 ls st μ g).trans rfl
theorem wX5_wanted_7 {l : Launch} {K : aRs} {X : aXs} {J : aK} {W : Nat → aK} (hW : isW (tbX5_wanted l K X) cuX5_wanted J W) (n : Nat) (ls st : List aV) (μ : aM) (g : Nat) : W (n + 1) 7 ls st μ g = (sLd 0 8 isR) (W n) ls st μ g := (hW n 7 ls st μ g).trans rfl
theorem wX5_wanted_8 {l : Launch} {K : aRs} {X : aXs} {J : aK} {W : Nat → aK} (hW : isW (tbX5_wanted l K X) cuX5_wanted J W) (n : Nat) (ls st : List aV) (μ : aM) (g : Nat) : W (n + 1) 8 ls st μ g = (sGetI 5 0 11) (W n) ls st μ g := (hW n 8 ls st μ g).trans rfl
theorem wX5_wanted_11 {l : Launch} {K : aRs} {X : aXs} {J : aK} {W : Nat → aK} (hW : isW (tbX5_wanted l K X) cuX5_wanted J W) (n : Nat) (ls st : List aV) (μ : aM) (g : Nat) : W (n + 1) 11 ls st μ g = (sIc qGe 72 14) (W n) ls st μ g := (hW n 11 ls st μ g).trans rfl
theorem wX5_wanted_14 {l : Launch} {K : aRs} {X : aXs} {J : aK} {W : Nat → aK} (hW : isW (tbX5_wanted l K X) cuX5_wanted J W) (n : Nat) (ls st : List aV) (μ : aM) (g : Nat) : W (n + 1) 14 ls st μ g = (sLd 3 15 isI) (W n) ls st μ g := (hW n 14 ls st μ g).trans rfl
theorem wX5_wanted_15 {l : Launch} {K : aRs} {X : aXs} {J : aK} {W : Nat → aK} (hW : isW (tbX5_wanted l K X) cuX5_wanted J W) (n : Nat) (ls st : List aV) (μ : aM) (g : Nat) : W (n + 1) 15 ls st μ g = (sLd 0 16 isR) (W n) ls st μ g := (hW n 15 ls st μ g).trans rfl
theorem wX5_wanted_16 {l : Launch} {K : aRs} {X : aXs} {J : aK} {W : Nat → aK} (hW : isW (tbX5_wanted l K X) cuX5_wanted J W) (n : Nat) (ls st : List aV) (μ : aM) (g : Nat) : W (n + 1) 16 ls st μ g = (sGetR 5 2 19) (W n) ls st μ g := (hW n 16 ls st μ g).trans rfl
theorem wX5_wanted_19 {l : Launch} {K : aRs} {X : aXs} {J : aK} {W : Nat → aK} (hW : isW (tbX5_wanted l K X) cuX5_wanted J W) (n : Nat) (ls st : List aV) (μ : aM) (g : Nat) : W (n + 1) 19 ls st μ g = (sLd 4 21 isI) (W n) ls st μ g := (hW n 19 ls st μ g).trans rfl
theorem wX5_wanted_21 {l : Launch} {K : aRs} {X : aXs} {J : aK} {W : Nat → aK} (hW : isW (tbX5_wanted l K X) cuX5_wanted J W) (n : Nat) (ls st : List aV) (μ : aM) (g : Nat) : W (n + 1) 21 ls st μ g = (sAldI 6 22) (W n) ls st μ g := (hW n 21 ls st μ g).trans rfl
theorem wX5_wanted_22 {l : Launch} {K : aRs} {X : aXs} {J : aK} {W : Nat → aK} (hW : isW (tbX5_wanted l K X) cuX5_wanted J W) (n : Nat) (ls st : List aV) (μ : aM) (g : Nat) : W (n + 1) 22 ls st μ g = (sPush (aI 97) 24) (W n) ls st μ g := (hW n 22 ls st μ g).trans rfl
theorem wX5_wanted_24 {l : Launch} {K : aRs} {X : aXs} {J : aK} {W : Nat → aK} (hW : isW (tbX5_wanted l K X) cuX5_wanted J W) (n : Nat) (ls st : List aV) (μ : aM) (g : Nat) : W (n + 1) 24 ls st μ g = (sIc qNe 63 27) (W n) ls st μ g := (hW n 24 ls st μ g).trans rfl
theorem wX5_wanted_27 {l : Launch} {K : aRs} {X : aXs} {J : aK} {W : Nat → aK} (hW : isW (tbX5_wanted l K X) cuX5_wanted J W) (n : Nat) (ls st : List aV) (μ : aM) (g : Nat) : W (n + 1) 27 ls st μ g = (sLd 0 28 isR) (W n) ls st μ g := (hW n 27 ls st μ g).trans rfl
theorem wX5_wanted_28 {l : Launch} {K : aRs} {X : aXs} {J : aK} {W : Nat → aK} (hW : isW (tbX5_wanted l K X) cuX5_wanted J W) (n : Nat) (ls st : List aV) (μ : aM) (g : Nat) : W (n + 1) 28 ls st μ g = (sGetR 5 1 31) (W n) ls st μ g := (hW n 28 ls st μ g).trans rfl
theorem wX5_wanted_31 {l : Launch} {K : aRs} {X : aXs} {J : aK} {W : Nat → aK} (hW : isW (tbX5_wanted l K X) cuX5_wanted J W) (n : Nat) (ls st : List aV) (μ : aM) (g : Nat) : W (n + 1) 31 ls st μ g = (sLd 4 33 isI) (W n) ls st μ g := (hW n 31 ls st μ g).trans rfl
theorem wX5_wanted_33 {l : Launch} {K : aRs} {X : aXs} {J : aK} {W : Nat → aK} (hW : isW (tbX5_wanted l K X) cuX5_wanted J W) (n : Nat) (ls st : List aV) (μ : aM) (g : Nat) : W (n + 1) 33 ls st μ g = (sAldI 6 34) (W n) ls st μ g := (hW n 33 ls st μ g).trans rfl
theorem wX5_wanted_34 {l : Launch} {K : aRs} {X : aXs} {J : aK} {W : Nat → aK} (hW : isW (tbX5_wanted l K X) cuX5_wanted J W) (n : Nat) (ls st : List aV) (μ : aM) (g : Nat) : W (n + 1) 34 ls st μ g = (sLd 1 35 isI) (W n) ls st μ g := (hW n 34 ls st μ g).trans rfl
theorem wX5_wanted_35 {l : Launch} {K : aRs} {X : aXs} {J : aK} {W : Nat → aK} (hW : isW (tbX5_wanted l K X) cuX5_wanted J W) (n : Nat) (ls st : List aV) (μ : aM) (g : Nat) : W (n + 1) 35 ls st μ g = (sIc qNe 63 38) (W n) ls st μ g := (hW n 35 ls st μ g).trans rfl
theorem wX5_wanted_38 {l : Launch} {K : aRs} {X : aXs} {J : aK} {W : Nat → aK} (hW : isW (tbX5_wanted l K X) cuX5_wanted J W) (n : Nat) (ls st : List aV) (μ : aM) (g : Nat) : W (n + 1) 38 ls st μ g = (sLd 1 39 isI) (W n) ls st μ g := (hW n 38 ls st μ g).trans rfl
theorem wX5_wanted_39 {l : Launch} {K : aRs} {X : aXs} {J : aK} {W : Nat → aK} (hW : isW (tbX5_wanted l K X) cuX5_wanted J W) (n : Nat) (ls st : List aV) (μ : aM) (g : Nat) : W (n + 1) 39 ls st μ g = (sLd 2 40 isI) (W n) ls st μ g := (hW n 39 ls st μ g).trans rfl
theorem wX5_wanted_40 {l : Launch} {K : aRs} {X : aXs} {J : aK} {W : Nat → aK} (hW : isW (tbX5_wanted l K X) cuX5_wanted J W) (n : Nat) (ls st : List aV) (μ : aM) (g : Nat) : W (n + 1) 40 ls st μ g = (sLd 0 41 isR) (W n) ls st μ g := (hW n 40 ls st μ g).trans rfl
theorem wX5_wanted_41 {l : Launch} {K : aRs} {X : aXs} {J : aK} {W : Nat → aK} (hW : isW (tbX5_wanted l K X) cuX5_wanted J W) (n : Nat) (ls st : List aV) (μ : aM) (g : Nat) : W (n + 1) 41 ls st μ g = (sGetR 5 4 44) (W n) ls st μ g := (hW n 41 ls st μ g).trans rfl
theorem wX5_wanted_44 {l : Launch} {K : aRs} {X : aXs} {J : aK} {W : Nat → aK} (hW : isW (tbX5_wanted l K X) cuX5_wanted J W) (n : Nat) (ls st : List aV) (μ : aM) (g : Nat) : W (n + 1) 44 ls st μ g = (sLd 4 46 isI) (W n) ls st μ g := (hW n 44 ls st μ g).trans rfl
theorem wX5_wanted_46 {l : Launch} {K : aRs} {X : aXs} {J : aK} {W : Nat → aK} (hW : isW (tbX5_wanted l K X) cuX5_wanted J W) (n : Nat) (ls st : List aV) (μ : aM) (g : Nat) : W (n + 1) 46 ls st μ g = (sAldI 7 47) (W n) ls st μ g := (hW n 46 ls st μ g).trans rfl
theorem wX5_wanted_47 {l : Launch} {K : aRs} {X : aXs} {J : aK} {W : Nat → aK} (hW : isW (tbX5_wanted l K X) cuX5_wanted J W) (n : Nat) (ls st : List aV) (μ : aM) (g : Nat) : W (n + 1) 47 ls st μ g = (sCallS 3 (fun as μ K => Ct l mdX5_isAhead as μ K X) 50 0 0) (W n) ls st μ g := (hW n 47 ls st μ g).trans rfl
theorem tX5_wanted_50 (l : Launch) (K : aRs) (X : aXs) : tb (tbX5_wanted l K X) 50 = sIf pNe 63 53 := (rfl)
theorem wX5_wanted_50 {l : Launch} {K : aRs} {X : aXs} {J : aK} {W : Nat → aK} (hW : isW (tbX5_wanted l K X) cuX5_wanted J W) (n : Nat) (ls st : List aV) (μ : aM) (g : Nat) : W (n + 1) 50 ls st μ g = J 50 ls st μ g := (hW n 50 ls st μ g).trans rfl
theorem wX5_wanted_53 {l : Launch} {K : aRs} {X : aXs} {J : aK} {W : Nat → aK} (hW : isW (tbX5_wanted l K X) cuX5_wanted J W) (n : Nat) (ls st : List aV) (μ : aM) (g : Nat) : W (n + 1) 53 ls st μ g = (sLd 0 54 isR) (W n) ls st μ g := (hW n 53 ls st μ g).trans rfl
theorem wX5_wanted_54 {l : Launch} {K : aRs} {X : aXs} {J : aK} {W : Nat → aK} (hW : isW (tbX5_wanted l K X) cuX5_wanted J W) (n : Nat) (ls st : List aV) (μ : aM) (g : Nat) : W (n + 1) 54 ls st μ g = (sGetR 5 7 57) (W n) ls st μ g := (hW n 54 ls st μ g).trans rfl
theorem wX5_wanted_57 {l : Launch} {K : aRs} {X : aXs} {J : aK} {W : Nat → aK} (hW : isW (tbX5_wanted l K X) cuX5_wanted J W) (n : Nat) (ls st : List aV) (μ : aM) (g : Nat) : W (n + 1) 57 ls st μ g = (sLd 4 59 isI) (W n) ls st μ g := (hW n 57 ls st μ g).trans rfl
theorem wX5_wanted_59 {l : Launch} {K : aRs} {X : aXs} {J : aK} {W : Nat → aK} (hW : isW (tbX5_wanted l K X) cuX5_wanted J W) (n : Nat) (ls st : List aV) (μ : aM) (g : Nat) : W (n + 1) 59 ls st μ g = (sAldI 7 60) (W n) ls st μ g := (hW n 59 ls st μ g).trans rfl
theorem wX5_wanted_60 {l : Launch} {K : aRs} {X : aXs} {J : aK} {W : Nat → aK} (hW : isW (tbX5_wanted l K X) cuX5_wanted J W) (n : Nat) (ls st : List aV) (μ : aM) (g : Nat) : W (n + 1) 60 ls st μ g = (sGoto 64) (W n) ls st μ g := (hW n 60 ls st μ g).trans rfl
theorem wX5_wanted_63 {l : Launch} {K : aRs} {X : aXs} {J : aK} {W : Nat → aK} (hW : isW (tbX5_wanted l K X) cuX5_wanted J W) (n : Nat) (ls st : List aV) (μ : aM) (g : Nat) : W (n + 1) 63 ls st μ g = (sPush (aI 0) 64) (W n) ls st μ g := (hW n 63 ls st μ g).trans rfl
theorem wX5_wanted_64 {l : Launch} {K : aRs} {X : aXs} {J : aK} {W : Nat → aK} (hW : isW (tbX5_wanted l K X) cuX5_wanted J W) (n : Nat) (ls st : List aV) (μ : aM) (g : Nat) : W (n + 1) 64 ls st μ g = (sBin fAdd 65) (W n) ls st μ g := (hW n 64 ls st μ g).trans rfl
theorem wX5_wanted_65 {l : Launch} {K : aRs} {X : aXs} {J : aK} {W : Nat → aK} (hW : isW (tbX5_wanted l K X) cuX5_wanted J W) (n : Nat) (ls st : List aV) (μ : aM) (g : Nat) : W (n + 1) 65 ls st μ g = (sSt 3 66 isI) (W n) ls st μ g := (hW n 65 ls st μ g).trans rfl
theorem wX5_wanted_66 {l : Launch} {K : aRs} {X : aXs} {J : aK} {W : Nat → aK} (hW : isW (tbX5_wanted l K X) cuX5_wanted J W) (n : Nat) (ls st : List aV) (μ : aM) (g : Nat) : W (n + 1) 66 ls st μ g = (sInc 4 1 69) (W n) ls st μ g := (hW n 66 ls st μ g).trans rfl
theorem wX5_wanted_69 {l : Launch} {K : aRs} {X : aXs} {J : aK} {W : Nat → aK} (hW : isW (tbX5_wanted l K X) cuX5_wanted J W) (n : Nat) (ls st : List aV) (μ : aM) (g : Nat) : W (n + 1) 69 ls st μ g = (sGoto 5) (W n) ls st μ g := (hW n 69 ls st μ g).trans rfl
theorem wX5_wanted_72 {l : Launch} {K : aRs} {X : aXs} {J : aK} {W : Nat → aK} (hW : isW (tbX5_wanted l K X) cuX5_wanted J W) (n : Nat) (ls st : List aV) (μ : aM) (g : Nat) : W (n + 1) 72 ls st μ g = (sLd 3 73 isI) (W n) ls st μ g := (hW n 72 ls st μ g).trans rfl
theorem wX5_wanted_73 {l : Launch} {K : aRs} {X : aXs} {J : aK} {W : Nat → aK} (hW : isW (tbX5_wanted l K X) cuX5_wanted J W) (n : Nat) (ls st : List aV) (μ : aM) (g : Nat) : W (n + 1) 73 ls st μ g = (sRetI .int 0 K) (W n) ls st μ g := (hW n 73 ls st μ g).trans rfl
theorem dX5_volumeFor_0 : decode cX5_volumeFor 0 = .ok (.aload_n 0, 1) := by decide +kernel
theorem dX5_volumeFor_1 : decode cX5_volumeFor 1 = .ok (.bipush 98, 2) := by decide +kernel
theorem dX5_volumeFor_3 : decode cX5_volumeFor 3 = .ok (.iload_n 1, 1) := by decide +kernel
theorem dX5_volumeFor_4 : decode cX5_volumeFor 4 = .ok (.invokevirtual 190, 3) := by decide +kernel
theorem dX5_volumeFor_7 : decode cX5_volumeFor 7 = .ok (.aload_n 0, 1) := by decide +kernel
theorem dX5_volumeFor_8 : decode cX5_volumeFor 8 = .ok (.bipush 115, 2) := by decide +kernel
theorem dX5_volumeFor_10 : decode cX5_volumeFor 10 = .ok (.iload_n 1, 1) := by decide +kernel
theorem dX5_volumeFor_11 : decode cX5_volumeFor 11 = .ok (.invokevirtual 190, 3) := by decide +kernel
theorem dX5_volumeFor_14 : decode cX5_volumeFor 14 = .ok (.invokestatic 79, 3) := by decide +kernel
theorem dX5_volumeFor_17 : decode cX5_volumeFor 17 = .ok (.ireturn, 1) := by decide +kernel
def tbX5_volumeFor (l : Launch) (K : aRs) (X : aXs) : aTb := [
  (0, sLd 0 1 isR),
  (1, sPush (aI 98) 3),
  (3, sLd 1 4 isI),
  (4, sCallV 2 5 (fun as μ K => Ct l mdX5_wanted as μ K X) 7 0 0),
  (7, sLd 0 8 isR),
  (8, sPush (aI 115) 10),
  (10, sLd 1 11 isI),
  (11, sCallV 2 5 (fun as μ K => Ct l mdX5_wanted as μ K X) 14 0 0),
  (14, sCallS 2 (fun as μ K => Ct l mdX5_lesser as μ K X) 17 0 0),
  (17, sRetI .int 0 K)]
theorem snX5_volumeFor (l : Launch) (K : aRs) (X : aXs) (n0 : Nat) : ∀ q ∈ tbX5_volumeFor l K X, aSo l mdX5_volumeFor K X n0 q.1 q.2 :=
  tc (fun p e s m args below meth c cA D A ad0 h => ok_aload_n h.1 0 rfl dX5_volumeFor_0) <|
  tc (fun p e s m args below meth c cA D A ad0 h => ok_bipush h.1 ⟨by decide, by decide⟩ (by decide) dX5_volumeFor_1) <|
  tc (fun p e s m args below meth c cA D A ad0 h => ok_iload_n h.1 1 rfl dX5_volumeFor_3) <|
  tc (fun p e s m args below meth c cA D A ad0 h => ok_callV h.1 h.2.1 ⟨Nat.le_refl _, Nat.le_refl _⟩ mdX5_wanted siX5_wanted cxX5 mkRX5_190 imX5_wanted seX5_wanted ⟨by decide, by decide⟩ (aAx_out h.1 h.2.2.1 _) dX5_volumeFor_4) <|
  tc (fun p e s m args below meth c cA D A ad0 h => ok_aload_n h.1 0 rfl dX5_volumeFor_7) <|
  tc (fun p e s m args below meth c cA D A ad0 h => ok_bipush h.1 ⟨by decide, by decide⟩ (by decide) dX5_volumeFor_8) <|
  tc (fun p e s m args below meth c cA D A ad0 h => ok_iload_n h.1 1 rfl dX5_volumeFor_10) <|
  tc (fun p e s m args below meth c cA D A ad0 h => ok_callV h.1 h.2.1 ⟨Nat.le_refl _, Nat.le_refl _⟩ mdX5_wanted siX5_wanted cxX5 mkRX5_190 imX5_wanted seX5_wanted ⟨by decide, by decide⟩ (aAx_out h.1 h.2.2.1 _) dX5_volumeFor_11) <|
  tc (fun p e s m args below meth c cA D A ad0 h => ok_callS h.1 h.2.1 ⟨Nat.le_refl _, Nat.le_refl _⟩ mdX5_lesser siX5_lesser mkRX5_79 stX5_lesser ⟨by decide, by decide⟩ (aAx_out h.1 h.2.2.1 _) dX5_volumeFor_14) <|
  tc (fun p e s m args below meth c cA D A ad0 h => ok_ireturn h.1 h.2.2.2.1 (Or.inl rfl) dX5_volumeFor_17) <|
  tn
abbrev cuX5_volumeFor : List Nat := [7, 14, 17]
theorem tX5_volumeFor_0 (l : Launch) (K : aRs) (X : aXs) : tb (tbX5_volumeFor l K X) 0 = sLd 0 1 isR := (rfl)
theorem wX5_volumeFor_0 {l : Launch} {K : aRs} {X : aXs} {J : aK} {W : Nat → aK} (hW : isW (tbX5_volumeFor l K X) cuX5_volumeFor J W) (n : Nat) (ls st : List aV) (μ : aM) (g : Nat) : W (n + 1) 0 ls st μ g = (sLd 0 1 isR) (W n) ls st μ g := (hW n 0 ls st μ g).trans rfl
theorem wX5_volumeFor_1 {l : Launch} {K : aRs} {X : aXs} {J : aK} {W : Nat → aK} (hW : isW (tbX5_volumeFor l K X) cuX5_volumeFor J W) (n : Nat) (ls st : List aV) (μ : aM) (g : Nat) : W (n + 1) 1 ls st μ g = (sPush (aI 98) 3) (W n) ls st μ g := (hW n 1 ls st μ g).trans rfl
theorem wX5_volumeFor_3 {l : Launch} {K : aRs} {X : aXs} {J : aK} {W : Nat → aK} (hW : isW (tbX5_volumeFor l K X) cuX5_volumeFor J W) (n : Nat) (ls st : List aV) (μ : aM) (g : Nat) : W (n + 1) 3 ls st μ g = (sLd 1 4 isI) (W n) ls st μ g := (hW n 3 ls st μ g).trans rfl
theorem wX5_volumeFor_4 {l : Launch} {K : aRs} {X : aXs} {J : aK} {W : Nat → aK} (hW : isW (tbX5_volumeFor l K X) cuX5_volumeFor J W) (n : Nat) (ls st : List aV) (μ : aM) (g : Nat) : W (n + 1) 4 ls st μ g = (sCallV 2 5 (fun as μ K => Ct l mdX5_wanted as μ K X) 7 0 0) (W n) ls st μ g := (hW n 4 ls st μ g).trans rfl
theorem tX5_volumeFor_7 (l : Launch) (K : aRs) (X : aXs) : tb (tbX5_volumeFor l K X) 7 = sLd 0 8 isR := (rfl)
theorem wX5_volumeFor_7 {l : Launch} {K : aRs} {X : aXs} {J : aK} {W : Nat → aK} (hW : isW (tbX5_volumeFor l K X) cuX5_volumeFor J W) (n : Nat) (ls st : List aV) (μ : aM) (g : Nat) : W (n + 1) 7 ls st μ g = J 7 ls st μ g := (hW n 7 ls st μ g).trans rfl
theorem wX5_volumeFor_8 {l : Launch} {K : aRs} {X : aXs} {J : aK} {W : Nat → aK} (hW : isW (tbX5_volumeFor l K X) cuX5_volumeFor J W) (n : Nat) (ls st : List aV) (μ : aM) (g : Nat) : W (n + 1) 8 ls st μ g = (sPush (aI 115) 10) (W n) ls st μ g := (hW n 8 ls st μ g).trans rfl
theorem wX5_volumeFor_10 {l : Launch} {K : aRs} {X : aXs} {J : aK} {W : Nat → aK} (hW : isW (tbX5_volumeFor l K X) cuX5_volumeFor J W) (n : Nat) (ls st : List aV) (μ : aM) (g : Nat) : W (n + 1) 10 ls st μ g = (sLd 1 11 isI) (W n) ls st μ g := (hW n 10 ls st μ g).trans rfl
theorem wX5_volumeFor_11 {l : Launch} {K : aRs} {X : aXs} {J : aK} {W : Nat → aK} (hW : isW (tbX5_volumeFor l K X) cuX5_volumeFor J W) (n : Nat) (ls st : List aV) (μ : aM) (g : Nat) : W (n + 1) 11 ls st μ g = (sCallV 2 5 (fun as μ K => Ct l mdX5_wanted as μ K X) 14 0 0) (W n) ls st μ g := (hW n 11 ls st μ g).trans rfl
theorem tX5_volumeFor_14 (l : Launch) (K : aRs) (X : aXs) : tb (tbX5_volumeFor l K X) 14 = sCallS 2 (fun as μ K => Ct l mdX5_lesser as μ K X) 17 0 0 := (rfl)
theorem wX5_volumeFor_14 {l : Launch} {K : aRs} {X : aXs} {J : aK} {W : Nat → aK} (hW : isW (tbX5_volumeFor l K X) cuX5_volumeFor J W) (n : Nat) (ls st : List aV) (μ : aM) (g : Nat) : W (n + 1) 14 ls st μ g = J 14 ls st μ g := (hW n 14 ls st μ g).trans rfl
theorem tX5_volumeFor_17 (l : Launch) (K : aRs) (X : aXs) : tb (tbX5_volumeFor l K X) 17 = sRetI .int 0 K := (rfl)
theorem wX5_volumeFor_17 {l : Launch} {K : aRs} {X : aXs} {J : aK} {W : Nat → aK} (hW : isW (tbX5_volumeFor l K X) cuX5_volumeFor J W) (n : Nat) (ls st : List aV) (μ : aM) (g : Nat) : W (n + 1) 17 ls st μ g = J 17 ls st μ g := (hW n 17 ls st μ g).trans rfl
theorem dX5_odds_0 : decode cX5_odds 0 = .ok (.aload_n 0, 1) := by decide +kernel
theorem dX5_odds_1 : decode cX5_odds 1 = .ok (.bipush 98, 2) := by decide +kernel
theorem dX5_odds_3 : decode cX5_odds 3 = .ok (.iload_n 1, 1) := by decide +kernel
theorem dX5_odds_4 : decode cX5_odds 4 = .ok (.invokevirtual 190, 3) := by decide +kernel
theorem dX5_odds_7 : decode cX5_odds 7 = .ok (.aload_n 0, 1) := by decide +kernel
theorem dX5_odds_8 : decode cX5_odds 8 = .ok (.bipush 115, 2) := by decide +kernel
theorem dX5_odds_10 : decode cX5_odds 10 = .ok (.iload_n 1, 1) := by decide +kernel
theorem dX5_odds_11 : decode cX5_odds 11 = .ok (.invokevirtual 190, 3) := by decide +kernel
theorem dX5_odds_14 : decode cX5_odds 14 = .ok (.iadd, 1) := by decide +kernel
theorem dX5_odds_15 : decode cX5_odds 15 = .ok (.iconst 2, 1) := by decide +kernel
theorem dX5_odds_16 : decode cX5_odds 16 = .ok (.aload_n 0, 1) := by decide +kernel
theorem dX5_odds_17 : decode cX5_odds 17 = .ok (.iload_n 1, 1) := by decide +kernel
theorem dX5_odds_18 : decode cX5_odds 18 = .ok (.invokevirtual 168, 3) := by decide +kernel
theorem dX5_odds_21 : decode cX5_odds 21 = .ok (.imul, 1) := by decide +kernel
theorem dX5_odds_22 : decode cX5_odds 22 = .ok (.isub, 1) := by decide +kernel
theorem dX5_odds_23 : decode cX5_odds 23 = .ok (.ireturn, 1) := by decide +kernel
def tbX5_odds (l : Launch) (K : aRs) (X : aXs) : aTb := [
  (0, sLd 0 1 isR),
  (1, sPush (aI 98) 3),
  (3, sLd 1 4 isI),
  (4, sCallV 2 5 (fun as μ K => Ct l mdX5_wanted as μ K X) 7 0 0),
  (7, sLd 0 8 isR),
  (8, sPush (aI 115) 10),
  (10, sLd 1 11 isI),
  (11, sCallV 2 5 (fun as μ K => Ct l mdX5_wanted as μ K X) 14 0 0),
  (14, sBin fAdd 15),
  (15, sPush (aI 2) 16),
  (16, sLd 0 17 isR),
  (17, sLd 1 18 isI),
  (18, sCallV 1 5 (fun as μ K => Ct l mdX5_volumeFor as μ K X) 21 0 0),
  (21, sBin fMul 22),
  (22, sBin fSub 23),
  (23, sRetI .int 0 K)]
theorem snX5_odds (l : Launch) (K : aRs) (X : aXs) (n0 : Nat) : ∀ q ∈ tbX5_odds l K X, aSo l mdX5_odds K X n0 q.1 q.2 :=
  tc (fun p e s m args below meth c cA D A ad0 h => ok_aload_n h.1 0 rfl dX5_odds_0) <|
  tc (fun p e s m args below meth c cA D A ad0 h => ok_bipush h.1 ⟨by decide, by decide⟩ (by decide) dX5_odds_1) <|
  tc (fun p e s m args below meth c cA D A ad0 h => ok_iload_n h.1 1 rfl dX5_odds_3) <|
  tc (fun p e s m args below meth c cA D A ad0 h => ok_callV h.1 h.2.1 ⟨Nat.le_refl _, Nat.le_refl _⟩ mdX5_wanted siX5_wanted cxX5 mkRX5_190 imX5_wanted seX5_wanted ⟨by decide, by decide⟩ (aAx_out h.1 h.2.2.1 _) dX5_odds_4) <|
  tc (fun p e s m args below meth c cA D A ad0 h => ok_aload_n h.1 0 rfl dX5_odds_7) <|
  tc (fun p e s m args below meth c cA D A ad0 h => ok_bipush h.1 ⟨by decide, by decide⟩ (by decide) dX5_odds_8) <|
  tc (fun p e s m args below meth c cA D A ad0 h => ok_iload_n h.1 1 rfl dX5_odds_10) <|
  tc (fun p e s m args below meth c cA D A ad0 h => ok_callV h.1 h.2.1 ⟨Nat.le_refl _, Nat.le_refl _⟩ mdX5_wanted siX5_wanted cxX5 mkRX5_190 imX5_wanted seX5_wanted ⟨by decide, by decide⟩ (aAx_out h.1 h.2.2.1 _) dX5_odds_11) <|
  tc (fun p e s m args below meth c cA D A ad0 h => ok_iadd h.1 dX5_odds_14) <|
  tc (fun p e s m args below meth c cA D A ad0 h => ok_iconst h.1 ⟨by decide, by decide⟩ dX5_odds_15) <|
  tc (fun p e s m args below meth c cA D A ad0 h => ok_aload_n h.1 0 rfl dX5_odds_16) <|
  tc (fun p e s m args below meth c cA D A ad0 h => ok_iload_n h.1 1 rfl dX5_odds_17) <|
  tc (fun p e s m args below meth c cA D A ad0 h => ok_callV h.1 h.2.1 ⟨Nat.le_refl _, Nat.le_refl _⟩ mdX5_volumeFor siX5_volumeFor cxX5 mkRX5_168 imX5_volumeFor seX5_volumeFor ⟨by decide, by decide⟩ (aAx_out h.1 h.2.2.1 _) dX5_odds_18) <|
  tc (fun p e s m args below meth c cA D A ad0 h => ok_imul h.1 dX5_odds_21) <|
  tc (fun p e s m args below meth c cA D A ad0 h => ok_isub h.1 dX5_odds_22) <|
  tc (fun p e s m args below meth c cA D A ad0 h => ok_ireturn h.1 h.2.2.2.1 (Or.inl rfl) dX5_odds_23) <|
  tn
abbrev cuX5_odds : List Nat := [7, 14, 21]
theorem tX5_odds_0 (l : Launch) (K : aRs) (X : aXs) : tb (tbX5_odds l K X) 0 = sLd 0 1 isR := (rfl)
theorem wX5_odds_0 {l : Launch} {K : aRs} {X : aXs} {J : aK} {W : Nat → aK} (hW : isW (tbX5_odds l K X) cuX5_odds J W) (n : Nat) (ls st : List aV) (μ : aM) (g : Nat) : W (n + 1) 0 ls st μ g = (sLd 0 1 isR) (W n) ls st μ g := (hW n 0 ls st μ g).trans rfl
theorem wX5_odds_1 {l : Launch} {K : aRs} {X : aXs} {J : aK} {W : Nat → aK} (hW : isW (tbX5_odds l K X) cuX5_odds J W) (n : Nat) (ls st : List aV) (μ : aM) (g : Nat) : W (n + 1) 1 ls st μ g = (sPush (aI 98) 3) (W n) ls st μ g := (hW n 1 ls st μ g).trans rfl
theorem wX5_odds_3 {l : Launch} {K : aRs} {X : aXs} {J : aK} {W : Nat → aK} (hW : isW (tbX5_odds l K X) cuX5_odds J W) (n : Nat) (ls st : List aV) (μ : aM) (g : Nat) : W (n + 1) 3 ls st μ g = (sLd 1 4 isI) (W n) ls st μ g := (hW n 3 ls st μ g).trans rfl
theorem wX5_odds_4 {l : Launch} {K : aRs} {X : aXs} {J : aK} {W : Nat → aK} (hW : isW (tbX5_odds l K X) cuX5_odds J W) (n : Nat) (ls st : List aV) (μ : aM) (g : Nat) : W (n + 1) 4 ls st μ g = (sCallV 2 5 (fun as μ K => Ct l mdX5_wanted as μ K X) 7 0 0) (W n) ls st μ g := (hW n 4 ls st μ g).trans rfl
theorem tX5_odds_7 (l : Launch) (K : aRs) (X : aXs) : tb (tbX5_odds l K X) 7 = sLd 0 8 isR := (rfl)
theorem wX5_odds_7 {l : Launch} {K : aRs} {X : aXs} {J : aK} {W : Nat → aK} (hW : isW (tbX5_odds l K X) cuX5_odds J W) (n : Nat) (ls st : List aV) (μ : aM) (g : Nat) : W (n + 1) 7 ls st μ g = J 7 ls st μ g := (hW n 7 ls st μ g).trans rfl
theorem wX5_odds_8 {l : Launch} {K : aRs} {X : aXs} {J : aK} {W : Nat → aK} (hW : isW (tbX5_odds l K X) cuX5_odds J W) (n : Nat) (ls st : List aV) (μ : aM) (g : Nat) : W (n + 1) 8 ls st μ g = (sPush (aI 115) 10) (W n) ls st μ g := (hW n 8 ls st μ g).trans rfl
theorem wX5_odds_10 {l : Launch} {K : aRs} {X : aXs} {J : aK} {W : Nat → aK} (hW : isW (tbX5_odds l K X) cuX5_odds J W) (n : Nat) (ls st : List aV) (μ : aM) (g : Nat) : W (n + 1) 10 ls st μ g = (sLd 1 11 isI) (W n) ls st μ g := (hW n 10 ls st μ g).trans rfl
theorem wX5_odds_11 {l : Launch} {K : aRs} {X : aXs} {J : aK} {W : Nat → aK} (hW : isW (tbX5_odds l K X) cuX5_odds J W) (n : Nat) (ls st : List aV) (μ : aM) (g : Nat) : W (n + 1) 11 ls st μ g = (sCallV 2 5 (fun as μ K => Ct l mdX5_wanted as μ K X) 14 0 0) (W n) ls st μ g := (hW n 11 ls st μ g).trans rfl
theorem tX5_odds_14 (l : Launch) (K : aRs) (X : aXs) : tb (tbX5_odds l K X) 14 = sBin fAdd 15 := (rfl)
theorem wX5_odds_14 {l : Launch} {K : aRs} {X : aXs} {J : aK} {W : Nat → aK} (hW : isW (tbX5_odds l K X) cuX5_odds J W) (n : Nat) (ls st : List aV) (μ : aM) (g : Nat) : W (n + 1) 14 ls st μ g = J 14 ls st μ g := (hW n 14 ls st μ g).trans rfl
theorem wX5_odds_15 {l : Launch} {K : aRs} {X : aXs} {J : aK} {W : Nat → aK} (hW : isW (tbX5_odds l K X) cuX5_odds J W) (n : Nat) (ls st : List aV) (μ : aM) (g : Nat) : W (n + 1) 15 ls st μ g = (sPush (aI 2) 16) (W n) ls st μ g := (hW n 15 ls st μ g).trans rfl
theorem wX5_odds_16 {l : Launch} {K : aRs} {X : aXs} {J : aK} {W : Nat → aK} (hW : isW (tbX5_odds l K X) cuX5_odds J W) (n : Nat) (ls st : List aV) (μ : aM) (g : Nat) : W (n + 1) 16 ls st μ g = (sLd 0 17 isR) (W n) ls st μ g := (hW n 16 ls st μ g).trans rfl
theorem wX5_odds_17 {l : Launch} {K : aRs} {X : aXs} {J : aK} {W : Nat → aK} (hW : isW (tbX5_odds l K X) cuX5_odds J W) (n : Nat) (ls st : List aV) (μ : aM) (g : Nat) : W (n + 1) 17 ls st μ g = (sLd 1 18 isI) (W n) ls st μ g := (hW n 17 ls st μ g).trans rfl
theorem wX5_odds_18 {l : Launch} {K : aRs} {X : aXs} {J : aK} {W : Nat → aK} (hW : isW (tbX5_odds l K X) cuX5_odds J W) (n : Nat) (ls st : List aV) (μ : aM) (g : Nat) : W (n + 1) 18 ls st μ g = (sCallV 1 5 (fun as μ K => Ct l mdX5_volumeFor as μ K X) 21 0 0) (W n) ls st μ g := (hW n 18 ls st μ g).trans rfl
theorem tX5_odds_21 (l : Launch) (K : aRs) (X : aXs) : tb (tbX5_odds l K X) 21 = sBin fMul 22 := (rfl)
theorem wX5_odds_21 {l : Launch} {K : aRs} {X : aXs} {J : aK} {W : Nat → aK} (hW : isW (tbX5_odds l K X) cuX5_odds J W) (n : Nat) (ls st : List aV) (μ : aM) (g : Nat) : W (n + 1) 21 ls st μ g = J 21 ls st μ g := (hW n 21 ls st μ g).trans rfl
theorem wX5_odds_22 {l : Launch} {K : aRs} {X : aXs} {J : aK} {W : Nat → aK} (hW : isW (tbX5_odds l K X) cuX5_odds J W) (n : Nat) (ls st : List aV) (μ : aM) (g : Nat) : W (n + 1) 22 ls st μ g = (sBin fSub 23) (W n) ls st μ g := (hW n 22 ls st μ g).trans rfl
theorem wX5_odds_23 {l : Launch} {K : aRs} {X : aXs} {J : aK} {W : Nat → aK} (hW : isW (tbX5_odds l K X) cuX5_odds J W) (n : Nat) (ls st : List aV) (μ : aM) (g : Nat) : W (n + 1) 23 ls st μ g = (sRetI .int 0 K) (W n) ls st μ g := (hW n 23 ls st μ g).trans rfl
theorem dX5_meeting_0 : decode cX5_meeting 0 = .ok (.iconst 0, 1) := by decide +kernel
theorem dX5_meeting_1 : decode cX5_meeting 1 = .ok (.istore_n 1, 1) := by decide +kernel
theorem dX5_meeting_2 : decode cX5_meeting 2 = .ok (.iconst 1, 1) := by decide +kernel
theorem dX5_meeting_3 : decode cX5_meeting 3 = .ok (.istore_n 2, 1) := by decide +kernel
theorem dX5_meeting_4 : decode cX5_meeting 4 = .ok (.iload_n 2, 1) := by decide +kernel
theorem dX5_meeting_5 : decode cX5_meeting 5 = .ok (.sipush 300, 3) := by decide +kernel
theorem dX5_meeting_8 : decode cX5_meeting 8 = .ok (.if_icmp .gt 72, 3) := by decide +kernel
theorem dX5_meeting_11 : decode cX5_meeting 11 = .ok (.iload_n 2, 1) := by decide +kernel
theorem dX5_meeting_12 : decode cX5_meeting 12 = .ok (.invokestatic 141, 3) := by decide +kernel
theorem dX5_meeting_15 : decode cX5_meeting 15 = .ok (.ifCond .eq 59, 3) := by decide +kernel
theorem dX5_meeting_18 : decode cX5_meeting 18 = .ok (.aload_n 0, 1) := by decide +kernel
theorem dX5_meeting_19 : decode cX5_meeting 19 = .ok (.iload_n 2, 1) := by decide +kernel
theorem dX5_meeting_20 : decode cX5_meeting 20 = .ok (.invokevirtual 168, 3) := by decide +kernel
theorem dX5_meeting_23 : decode cX5_meeting 23 = .ok (.ifCond .ne 6, 3) := by decide +kernel
theorem dX5_meeting_26 : decode cX5_meeting 26 = .ok (.goto 48, 3) := by decide +kernel
theorem dX5_meeting_29 : decode cX5_meeting 29 = .ok (.iload_n 1, 1) := by decide +kernel
theorem dX5_meeting_30 : decode cX5_meeting 30 = .ok (.ifCond .eq 42, 3) := by decide +kernel
theorem dX5_meeting_33 : decode cX5_meeting 33 = .ok (.aload_n 0, 1) := by decide +kernel
theorem dX5_meeting_34 : decode cX5_meeting 34 = .ok (.iload_n 2, 1) := by decide +kernel
theorem dX5_meeting_35 : decode cX5_meeting 35 = .ok (.invokevirtual 168, 3) := by decide +kernel
theorem dX5_meeting_38 : decode cX5_meeting 38 = .ok (.aload_n 0, 1) := by decide +kernel
theorem dX5_meeting_39 : decode cX5_meeting 39 = .ok (.iload_n 1, 1) := by decide +kernel
theorem dX5_meeting_40 : decode cX5_meeting 40 = .ok (.invokevirtual 168, 3) := by decide +kernel
theorem dX5_meeting_43 : decode cX5_meeting 43 = .ok (.if_icmp .gt 29, 3) := by decide +kernel
theorem dX5_meeting_46 : decode cX5_meeting 46 = .ok (.aload_n 0, 1) := by decide +kernel
theorem dX5_meeting_47 : decode cX5_meeting 47 = .ok (.iload_n 2, 1) := by decide +kernel
theorem dX5_meeting_48 : decode cX5_meeting 48 = .ok (.invokevirtual 168, 3) := by decide +kernel
theorem dX5_meeting_51 : decode cX5_meeting 51 = .ok (.aload_n 0, 1) := by decide +kernel
theorem dX5_meeting_52 : decode cX5_meeting 52 = .ok (.iload_n 1, 1) := by decide +kernel
theorem dX5_meeting_53 : decode cX5_meeting 53 = .ok (.invokevirtual 168, 3) := by decide +kernel
theorem dX5_meeting_56 : decode cX5_meeting 56 = .ok (.if_icmp .ne 18, 3) := by decide +kernel
theorem dX5_meeting_59 : decode cX5_meeting 59 = .ok (.aload_n 0, 1) := by decide +kernel
theorem dX5_meeting_60 : decode cX5_meeting 60 = .ok (.iload_n 2, 1) := by decide +kernel
theorem dX5_meeting_61 : decode cX5_meeting 61 = .ok (.invokevirtual 193, 3) := by decide +kernel
theorem dX5_meeting_64 : decode cX5_meeting 64 = .ok (.aload_n 0, 1) := by decide +kernel
theorem dX5_meeting_65 : decode cX5_meeting 65 = .ok (.iload_n 1, 1) := by decide +kernel
theorem dX5_meeting_66 : decode cX5_meeting 66 = .ok (.invokevirtual 193, 3) := by decide +kernel
theorem dX5_meeting_69 : decode cX5_meeting 69 = .ok (.if_icmp .ge 5, 3) := by decide +kernel
theorem dX5_meeting_72 : decode cX5_meeting 72 = .ok (.iload_n 2, 1) := by decide +kernel
theorem dX5_meeting_73 : decode cX5_meeting 73 = .ok (.istore_n 1, 1) := by decide +kernel
theorem dX5_meeting_74 : decode cX5_meeting 74 = .ok (.iinc 2 1, 3) := by decide +kernel
theorem dX5_meeting_77 : decode cX5_meeting 77 = .ok (.goto (-73), 3) := by decide +kernel
theorem dX5_meeting_80 : decode cX5_meeting 80 = .ok (.iload_n 1, 1) := by decide +kernel
theorem dX5_meeting_81 : decode cX5_meeting 81 = .ok (.ireturn, 1) := by decide +kernel
def tbX5_meeting (l : Launch) (K : aRs) (X : aXs) : aTb := [
  (0, sPush (aI 0) 1),
  (1, sSt 1 2 isI),
  (2, sPush (aI 1) 3),
  (3, sSt 2 4 isI),
  (4, sLd 2 5 isI),
  (5, sPush (aI 300) 8),
  (8, sIc qGt 80 11),
  (11, sLd 2 12 isI),
  (12, sCallS 1 (fun as μ K => Ct l mdX5_isPrice as μ K X) 15 0 0),
  (15, sIf pEq 74 18),
  (18, sLd 0 19 isR),
  (19, sLd 2 20 isI),
  (20, sCallV 1 5 (fun as μ K => Ct l mdX5_volumeFor as μ K X) 23 0 0),
  (23, sIf pNe 29 26),
  (26, sGoto 74),
  (29, sLd 1 30 isI),
  (30, sIf pEq 72 33),
  (33, sLd 0 34 isR),
  (34, sLd 2 35 isI),
  (35, sCallV 1 5 (fun as μ K => Ct l mdX5_volumeFor as μ K X) 38 0 0),
  (38, sLd 0 39 isR),
  (39, sLd 1 40 isI),
  (40, sCallV 1 5 (fun as μ K => Ct l mdX5_volumeFor as μ K X) 43 0 0),
  (43, sIc qGt 72 46),
  (46, sLd 0 47 isR),
  (47, sLd 2 48 isI),
  (48, sCallV 1 5 (fun as μ K => Ct l mdX5_volumeFor as μ K X) 51 0 0),
  (51, sLd 0 52 isR),
  (52, sLd 1 53 isI),
  (53, sCallV 1 5 (fun as μ K => Ct l mdX5_volumeFor as μ K X) 56 0 0),
  (56, sIc qNe 74 59),
  (59, sLd 0 60 isR),
  (60, sLd 2 61 isI),
  (61, sCallV 1 5 (fun as μ K => Ct l mdX5_odds as μ K X) 64 0 0),
  (64, sLd 0 65 isR),
  (65, sLd 1 66 isI),
  (66, sCallV 1 5 (fun as μ K => Ct l mdX5_odds as μ K X) 69 0 0),
  (69, sIc qGe 74 72),
  (72, sLd 2 73 isI),
  (73, sSt 1 74 isI),
  (74, sInc 2 1 77),
  (77, sGoto 4),
  (80, sLd 1 81 isI),
  (81, sRetI .int 0 K)]
theorem snX5_meeting (l : Launch) (K : aRs) (X : aXs) (n0 : Nat) : ∀ q ∈ tbX5_meeting l K X, aSo l mdX5_meeting K X n0 q.1 q.2 :=
  tc (fun p e s m args below meth c cA D A ad0 h => ok_iconst h.1 ⟨by decide, by decide⟩ dX5_meeting_0) <|
  tc (fun p e s m args below meth c cA D A ad0 h => ok_istore_n h.1 1 rfl (by decide) dX5_meeting_1) <|
  tc (fun p e s m args below meth c cA D A ad0 h => ok_iconst h.1 ⟨by decide, by decide⟩ dX5_meeting_2) <|
  tc (fun p e s m args below meth c cA D A ad0 h => ok_istore_n h.1 2 rfl (by decide) dX5_meeting_3) <|
  tc (fun p e s m args below meth c cA D A ad0 h => ok_iload_n h.1 2 rfl dX5_meeting_4) <|
  tc (fun p e s m args below meth c cA D A ad0 h => ok_sipush h.1 ⟨by decide, by decide⟩ (by decide) dX5_meeting_5) <|
  tc (fun p e s m args below meth c cA D A ad0 h => ok_icmp_gt h.1 80 (by decide) dX5_meeting_8) <|
  tc (fun p e s m args below meth c cA D A ad0 h => ok_iload_n h.1 2 rfl dX5_meeting_11) <|
  tc (fun p e s m args below meth c cA D A ad0 h => ok_callS h.1 h.2.1 ⟨Nat.le_refl _, Nat.le_refl _⟩ mdX5_isPrice siX5_isPrice mkRX5_141 stX5_isPrice ⟨by decide, by decide⟩ (aAx_out h.1 h.2.2.1 _) dX5_meeting_12) <|
  tc (fun p e s m args below meth c cA D A ad0 h => ok_if_eq h.1 74 (by decide) dX5_meeting_15) <|
  tc (fun p e s m args below meth c cA D A ad0 h => ok_aload_n h.1 0 rfl dX5_meeting_18) <|
  tc (fun p e s m args below meth c cA D A ad0 h => ok_iload_n h.1 2 rfl dX5_meeting_19) <|
  tc (fun p e s m args below meth c cA D A ad0 h => ok_callV h.1 h.2.1 ⟨Nat.le_refl _, Nat.le_refl _⟩ mdX5_volumeFor siX5_volumeFor cxX5 mkRX5_168 imX5_volumeFor seX5_volumeFor ⟨by decide, by decide⟩ (aAx_out h.1 h.2.2.1 _) dX5_meeting_20) <|
  tc (fun p e s m args below meth c cA D A ad0 h => ok_if_ne h.1 29 (by decide) dX5_meeting_23) <|
  tc (fun p e s m args below meth c cA D A ad0 h => ok_goto h.1 74 (by decide) dX5_meeting_26) <|
  tc (fun p e s m args below meth c cA D A ad0 h => ok_iload_n h.1 1 rfl dX5_meeting_29) <|
  tc (fun p e s m args below meth c cA D A ad0 h => ok_if_eq h.1 72 (by decide) dX5_meeting_30) <|
  tc (fun p e s m args below meth c cA D A ad0 h => ok_aload_n h.1 0 rfl dX5_meeting_33) <|
  tc (fun p e s m args below meth c cA D A ad0 h => ok_iload_n h.1 2 rfl dX5_meeting_34) <|
  tc (fun p e s m args below meth c cA D A ad0 h => ok_callV h.1 h.2.1 ⟨Nat.le_refl _, Nat.le_refl _⟩ mdX5_volumeFor siX5_volumeFor cxX5 mkRX5_168 imX5_volumeFor seX5_volumeFor ⟨by decide, by decide⟩ (aAx_out h.1 h.2.2.1 _) dX5_meeting_35) <|
  tc (fun p e s m args below meth c cA D A ad0 h => ok_aload_n h.1 0 rfl dX5_meeting_38) <|
  tc (fun p e s m args below meth c cA D A ad0 h => ok_iload_n h.1 1 rfl dX5_meeting_39) <|
  tc (fun p e s m args below meth c cA D A ad0 h => ok_callV h.1 h.2.1 ⟨Nat.le_refl _, Nat.le_refl _⟩ mdX5_volumeFor siX5_volumeFor cxX5 mkRX5_168 imX5_volumeFor seX5_volumeFor ⟨by decide, by decide⟩ (aAx_out h.1 h.2.2.1 _) dX5_meeting_40) <|
  tc (fun p e s m args below meth c cA D A ad0 h => ok_icmp_gt h.1 72 (by decide) dX5_meeting_43) <|
  tc (fun p e s m args below meth c cA D A ad0 h => ok_aload_n h.1 0 rfl dX5_meeting_46) <|
  tc (fun p e s m args below meth c cA D A ad0 h => ok_iload_n h.1 2 rfl dX5_meeting_47) <|
  tc (fun p e s m args below meth c cA D A ad0 h => ok_callV h.1 h.2.1 ⟨Nat.le_refl _, Nat.le_refl _⟩ mdX5_volumeFor siX5_volumeFor cxX5 mkRX5_168 imX5_volumeFor seX5_volumeFor ⟨by decide, by decide⟩ (aAx_out h.1 h.2.2.1 _) dX5_meeting_48) <|
  tc (fun p e s m args below meth c cA D A ad0 h => ok_aload_n h.1 0 rfl dX5_meeting_51) <|
  tc (fun p e s m args below meth c cA D A ad0 h => ok_iload_n h.1 1 rfl dX5_meeting_52) <|
  tc (fun p e s m args below meth c cA D A ad0 h => ok_callV h.1 h.2.1 ⟨Nat.le_refl _, Nat.le_refl _⟩ mdX5_volumeFor siX5_volumeFor cxX5 mkRX5_168 imX5_volumeFor seX5_volumeFor ⟨by decide, by decide⟩ (aAx_out h.1 h.2.2.1 _) dX5_meeting_53) <|
  tc (fun p e s m args below meth c cA D A ad0 h => ok_icmp_ne h.1 74 (by decide) dX5_meeting_56) <|
  tc (fun p e s m args below meth c cA D A ad0 h => ok_aload_n h.1 0 rfl dX5_meeting_59) <|
  tc (fun p e s m args below meth c cA D A ad0 h => ok_iload_n h.1 2 rfl dX5_meeting_60) <|
  tc (fun p e s m args below meth c cA D A ad0 h => ok_callV h.1 h.2.1 ⟨Nat.le_refl _, Nat.le_refl _⟩ mdX5_odds siX5_odds cxX5 mkRX5_193 imX5_odds seX5_odds ⟨by decide, by decide⟩ (aAx_out h.1 h.2.2.1 _) dX5_meeting_61) <|
  tc (fun p e s m args below meth c cA D A ad0 h => ok_aload_n h.1 0 rfl dX5_meeting_64) <|
  tc (fun p e s m args below meth c cA D A ad0 h => ok_iload_n h.1 1 rfl dX5_meeting_65) <|
  tc (fun p e s m args below meth c cA D A ad0 h => ok_callV h.1 h.2.1 ⟨Nat.le_refl _, Nat.le_refl _⟩ mdX5_odds siX5_odds cxX5 mkRX5_193 imX5_odds seX5_odds ⟨by decide, by decide⟩ (aAx_out h.1 h.2.2.1 _) dX5_meeting_66) <|
  tc (fun p e s m args below meth c cA D A ad0 h => ok_icmp_ge h.1 74 (by decide) dX5_meeting_69) <|
  tc (fun p e s m args below meth c cA D A ad0 h => ok_iload_n h.1 2 rfl dX5_meeting_72) <|
  tc (fun p e s m args below meth c cA D A ad0 h => ok_istore_n h.1 1 rfl (by decide) dX5_meeting_73) <|
  tc (fun p e s m args below meth c cA D A ad0 h => ok_iinc h.1 (by decide) dX5_meeting_74) <|
  tc (fun p e s m args below meth c cA D A ad0 h => ok_goto h.1 4 (by decide) dX5_meeting_77) <|
  tc (fun p e s m args below meth c cA D A ad0 h => ok_iload_n h.1 1 rfl dX5_meeting_80) <|
  tc (fun p e s m args below meth c cA D A ad0 h => ok_ireturn h.1 h.2.2.2.1 (Or.inl rfl) dX5_meeting_81) <|
  tn
abbrev cuX5_meeting : List Nat := [4, 15, 23, 38, 43, 51, 56, 64, 69]
theorem tX5_meeting_0 (l : Launch) (K : aRs) (X : aXs) : tb (tbX5_meeting l K X) 0 = sPush (aI 0) 1 := (rfl)
theorem wX5_meeting_0 {l : Launch} {K : aRs} {X : aXs} {J : aK} {W : Nat → aK} (hW : isW (tbX5_meeting l K X) cuX5_meeting J W) (n : Nat) (ls st : List aV) (μ : aM) (g : Nat) : W (n + 1) 0 ls st μ g = (sPush (aI 0) 1) (W n) ls st μ g := (hW n 0 ls st μ g).trans rfl
theorem wX5_meeting_1 {l : Launch} {K : aRs} {X : aXs} {J : aK} {W : Nat → aK} (hW : isW (tbX5_meeting l K X) cuX5_meeting J W) (n : Nat) (ls st : List aV) (μ : aM) (g : Nat) : W (n + 1) 1 ls st μ g = (sSt 1 2 isI) (W n) ls st μ g := (hW n 1 ls st μ g).trans rfl
theorem wX5_meeting_2 {l : Launch} {K : aRs} {X : aXs} {J : aK} {W : Nat → aK} (hW : isW (tbX5_meeting l K X) cuX5_meeting J W) (n : Nat) (ls st : List aV) (μ : aM) (g : Nat) : W (n + 1) 2 ls st μ g = (sPush (aI 1) 3) (W n) ls st μ g := (hW n 2 ls st μ g).trans rfl
theorem wX5_meeting_3 {l : Launch} {K : aRs} {X : aXs} {J : aK} {W : Nat → aK} (hW : isW (tbX5_meeting l K X) cuX5_meeting J W) (n : Nat) (ls st : List aV) (μ : aM) (g : Nat) : W (n + 1) 3 ls st μ g = (sSt 2 4 isI) (W n) ls st μ g := (hW n 3 ls st μ g).trans rfl
theorem tX5_meeting_4 (l : Launch) (K : aRs) (X : aXs) : tb (tbX5_meeting l K X) 4 = sLd 2 5 isI := (rfl)
theorem wX5_meeting_4 {l : Launch} {K : aRs} {X : aXs} {J : aK} {W : Nat → aK} (hW : isW (tbX5_meeting l K X) cuX5_meeting J W) (n : Nat) (ls st : List aV) (μ : aM) (g : Nat) : W (n + 1) 4 ls st μ g = J 4 ls st μ g := (hW n 4 ls st μ g).trans rfl
theorem wX5_meeting_5 {l : Launch} {K : aRs} {X : aXs} {J : aK} {W : Nat → aK} (hW : isW (tbX5_meeting l K X) cuX5_meeting J W) (n : Nat) (ls st : List aV) (μ : aM) (g : Nat) : W (n + 1) 5 ls st μ g = (sPush (aI 300) 8) (W n) ls st μ g := (hW n 5 ls st μ g).trans rfl
theorem wX5_meeting_8 {l : Launch} {K : aRs} {X : aXs} {J : aK} {W : Nat → aK} (hW : isW (tbX5_meeting l K X) cuX5_meeting J W) (n : Nat) (ls st : List aV) (μ : aM) (g : Nat) : W (n + 1) 8 ls st μ g = (sIc qGt 80 11) (W n) ls st μ g := (hW n 8 ls st μ g).trans rfl
theorem wX5_meeting_11 {l : Launch} {K : aRs} {X : aXs} {J : aK} {W : Nat → aK} (hW : isW (tbX5_meeting l K X) cuX5_meeting J W) (n : Nat) (ls st : List aV) (μ : aM) (g : Nat) : W (n + 1) 11 ls st μ g = (sLd 2 12 isI) (W n) ls st μ g := (hW n 11 ls st μ g).trans rfl
theorem wX5_meeting_12 {l : Launch} {K : aRs} {X : aXs} {J : aK} {W : Nat → aK} (hW : isW (tbX5_meeting l K X) cuX5_meeting J W) (n : Nat) (ls st : List aV) (μ : aM) (g : Nat) : W (n + 1) 12 ls st μ g = (sCallS 1 (fun as μ K => Ct l mdX5_isPrice as μ K X) 15 0 0) (W n) ls st μ g := (hW n 12 ls st μ g).trans rfl
theorem tX5_meeting_15 (l : Launch) (K : aRs) (X : aXs) : tb (tbX5_meeting l K X) 15 = sIf pEq 74 18 := (rfl)
theorem wX5_meeting_15 {l : Launch} {K : aRs} {X : aXs} {J : aK} {W : Nat → aK} (hW : isW (tbX5_meeting l K X) cuX5_meeting J W) (n : Nat) (ls st : List aV) (μ : aM) (g : Nat) : W (n + 1) 15 ls st μ g = J 15 ls st μ g := (hW n 15 ls st μ g).trans rfl
theorem wX5_meeting_18 {l : Launch} {K : aRs} {X : aXs} {J : aK} {W : Nat → aK} (hW : isW (tbX5_meeting l K X) cuX5_meeting J W) (n : Nat) (ls st : List aV) (μ : aM) (g : Nat) : W (n + 1) 18 ls st μ g = (sLd 0 19 isR) (W n) ls st μ g := (hW n 18 ls st μ g).trans rfl
theorem wX5_meeting_19 {l : Launch} {K : aRs} {X : aXs} {J : aK} {W : Nat → aK} (hW : isW (tbX5_meeting l K X) cuX5_meeting J W) (n : Nat) (ls st : List aV) (μ : aM) (g : Nat) : W (n + 1) 19 ls st μ g = (sLd 2 20 isI) (W n) ls st μ g := (hW n 19 ls st μ g).trans rfl
theorem wX5_meeting_20 {l : Launch} {K : aRs} {X : aXs} {J : aK} {W : Nat → aK} (hW : isW (tbX5_meeting l K X) cuX5_meeting J W) (n : Nat) (ls st : List aV) (μ : aM) (g : Nat) : W (n + 1) 20 ls st μ g = (sCallV 1 5 (fun as μ K => Ct l mdX5_volumeFor as μ K X) 23 0 0) (W n) ls st μ g := (hW n 20 ls st μ g).trans rfl
theorem tX5_meeting_23 (l : Launch) (K : aRs) (X : aXs) : tb (tbX5_meeting l K X) 23 = sIf pNe 29 26 := (rfl)
theorem wX5_meeting_23 {l : Launch} {K : aRs} {X : aXs} {J : aK} {W : Nat → aK} (hW : isW (tbX5_meeting l K X) cuX5_meeting J W) (n : Nat) (ls st : List aV) (μ : aM) (g : Nat) : W (n + 1) 23 ls st μ g = J 23 ls st μ g := (hW n 23 ls st μ g).trans rfl
theorem wX5_meeting_26 {l : Launch} {K : aRs} {X : aXs} {J : aK} {W : Nat → aK} (hW : isW (tbX5_meeting l K X) cuX5_meeting J W) (n : Nat) (ls st : List aV) (μ : aM) (g : Nat) : W (n + 1) 26 ls st μ g = (sGoto 74) (W n) ls st μ g := (hW n 26 ls st μ g).trans rfl
theorem wX5_meeting_29 {l : Launch} {K : aRs} {X : aXs} {J : aK} {W : Nat → aK} (hW : isW (tbX5_meeting l K X) cuX5_meeting J W) (n : Nat) (ls st : List aV) (μ : aM) (g : Nat) : W (n + 1) 29 ls st μ g = (sLd 1 30 isI) (W n) ls st μ g := (hW n 29 ls st μ g).trans rfl
theorem wX5_meeting_30 {l : Launch} {K : aRs} {X : aXs} {J : aK} {W : Nat → aK} (hW : isW (tbX5_meeting l K X) cuX5_meeting J W) (n : Nat) (ls st : List aV) (μ : aM) (g : Nat) : W (n + 1) 30 ls st μ g = (sIf pEq 72 33) (W n) ls st μ g := (hW n 30 ls st μ g).trans rfl
theorem wX5_meeting_33 {l : Launch} {K : aRs} {X : aXs} {J : aK} {W : Nat → aK} (hW : isW (tbX5_meeting l K X) cuX5_meeting J W) (n : Nat) (ls st : List aV) (μ : aM) (g : Nat) : W (n + 1) 33 ls st μ g = (sLd 0 34 isR) (W n) ls st μ g := (hW n 33 ls st μ g).trans rfl
theorem wX5_meeting_34 {l : Launch} {K : aRs} {X : aXs} {J : aK} {W : Nat → aK} (hW : isW (tbX5_meeting l K X) cuX5_meeting J W) (n : Nat) (ls st : List aV) (μ : aM) (g : Nat) : W (n + 1) 34 ls st μ g = (sLd 2 35 isI) (W n) ls st μ g := (hW n 34 ls st μ g).trans rfl
theorem wX5_meeting_35 {l : Launch} {K : aRs} {X : aXs} {J : aK} {W : Nat → aK} (hW : isW (tbX5_meeting l K X) cuX5_meeting J W) (n : Nat) (ls st : List aV) (μ : aM) (g : Nat) : W (n + 1) 35 ls st μ g = (sCallV 1 5 (fun as μ K => Ct l mdX5_volumeFor as μ K X) 38 0 0) (W n) ls st μ g := (hW n 35 ls st μ g).trans rfl
theorem tX5_meeting_38 (l : Launch) (K : aRs) (X : aXs) : tb (tbX5_meeting l K X) 38 = sLd 0 39 isR := (rfl)
theorem wX5_meeting_38 {l : Launch} {K : aRs} {X : aXs} {J : aK} {W : Nat → aK} (hW : isW (tbX5_meeting l K X) cuX5_meeting J W) (n : Nat) (ls st : List aV) (μ : aM) (g : Nat) : W (n + 1) 38 ls st μ g = J 38 ls st μ g := (hW n 38 ls st μ g).trans rfl
theorem wX5_meeting_39 {l : Launch} {K : aRs} {X : aXs} {J : aK} {W : Nat → aK} (hW : isW (tbX5_meeting l K X) cuX5_meeting J W) (n : Nat) (ls st : List aV) (μ : aM) (g : Nat) : W (n + 1) 39 ls st μ g = (sLd 1 40 isI) (W n) ls st μ g := (hW n 39 ls st μ g).trans rfl
theorem wX5_meeting_40 {l : Launch} {K : aRs} {X : aXs} {J : aK} {W : Nat → aK} (hW : isW (tbX5_meeting l K X) cuX5_meeting J W) (n : Nat) (ls st : List aV) (μ : aM) (g : Nat) : W (n + 1) 40 ls st μ g = (sCallV 1 5 (fun as μ K => Ct l mdX5_volumeFor as μ K X) 43 0 0) (W n) ls st μ g := (hW n 40 ls st μ g).trans rfl
theorem tX5_meeting_43 (l : Launch) (K : aRs) (X : aXs) : tb (tbX5_meeting l K X) 43 = sIc qGt 72 46 := (rfl)
theorem wX5_meeting_43 {l : Launch} {K : aRs} {X : aXs} {J : aK} {W : Nat → aK} (hW : isW (tbX5_meeting l K X) cuX5_meeting J W) (n : Nat) (ls st : List aV) (μ : aM) (g : Nat) : W (n + 1) 43 ls st μ g = J 43 ls st μ g := (hW n 43 ls st μ g).trans rfl
theorem wX5_meeting_46 {l : Launch} {K : aRs} {X : aXs} {J : aK} {W : Nat → aK} (hW : isW (tbX5_meeting l K X) cuX5_meeting J W) (n : Nat) (ls st : List aV) (μ : aM) (g : Nat) : W (n + 1) 46 ls st μ g = (sLd 0 47 isR) (W n) ls st μ g := (hW n 46 ls st μ g).trans rfl
theorem wX5_meeting_47 {l : Launch} {K : aRs} {X : aXs} {J : aK} {W : Nat → aK} (hW : isW (tbX5_meeting l K X) cuX5_meeting J W) (n : Nat) (ls st : List aV) (μ : aM) (g : Nat) : W (n + 1) 47 ls st μ g = (sLd 2 48 isI) (W n) ls st μ g := (hW n 47 ls st μ g).trans rfl
theorem wX5_meeting_48 {l : Launch} {K : aRs} {X : aXs} {J : aK} {W : Nat → aK} (hW : isW (tbX5_meeting l K X) cuX5_meeting J W) (n : Nat) (ls st : List aV) (μ : aM) (g : Nat) : W (n + 1) 48 ls st μ g = (sCallV 1 5 (fun as μ K => Ct l mdX5_volumeFor as μ K X) 51 0 0) (W n) ls st μ g := (hW n 48 ls st μ g).trans rfl
theorem tX5_meeting_51 (l : Launch) (K : aRs) (X : aXs) : tb (tbX5_meeting l K X) 51 = sLd 0 52 isR := (rfl)
theorem wX5_meeting_51 {l : Launch} {K : aRs} {X : aXs} {J : aK} {W : Nat → aK} (hW : isW (tbX5_meeting l K X) cuX5_meeting J W) (n : Nat) (ls st : List aV) (μ : aM) (g : Nat) : W (n + 1) 51 ls st μ g = J 51 ls st μ g := (hW n 51 ls st μ g).trans rfl
theorem wX5_meeting_52 {l : Launch} {K : aRs} {X : aXs} {J : aK} {W : Nat → aK} (hW : isW (tbX5_meeting l K X) cuX5_meeting J W) (n : Nat) (ls st : List aV) (μ : aM) (g : Nat) : W (n + 1) 52 ls st μ g = (sLd 1 53 isI) (W n) ls st μ g := (hW n 52 ls st μ g).trans rfl
theorem wX5_meeting_53 {l : Launch} {K : aRs} {X : aXs} {J : aK} {W : Nat → aK} (hW : isW (tbX5_meeting l K X) cuX5_meeting J W) (n : Nat) (ls st : List aV) (μ : aM) (g : Nat) : W (n + 1) 53 ls st μ g = (sCallV 1 5 (fun as μ K => Ct l mdX5_volumeFor as μ K X) 56 0 0) (W n) ls st μ g := (hW n 53 ls st μ g).trans rfl
theorem tX5_meeting_56 (l : Launch) (K : aRs) (X : aXs) : tb (tbX5_meeting l K X) 56 = sIc qNe 74 59 := (rfl)
theorem wX5_meeting_56 {l : Launch} {K : aRs} {X : aXs} {J : aK} {W : Nat → aK} (hW : isW (tbX5_meeting l K X) cuX5_meeting J W) (n : Nat) (ls st : List aV) (μ : aM) (g : Nat) : W (n + 1) 56 ls st μ g = J 56 ls st μ g := (hW n 56 ls st μ g).trans rfl
theorem wX5_meeting_59 {l : Launch} {K : aRs} {X : aXs} {J : aK} {W : Nat → aK} (hW : isW (tbX5_meeting l K X) cuX5_meeting J W) (n : Nat) (ls st : List aV) (μ : aM) (g : Nat) : W (n + 1) 59 ls st μ g = (sLd 0 60 isR) (W n) ls st μ g := (hW n 59 ls st μ g).trans rfl
theorem wX5_meeting_60 {l : Launch} {K : aRs} {X : aXs} {J : aK} {W : Nat → aK} (hW : isW (tbX5_meeting l K X) cuX5_meeting J W) (n : Nat) (ls st : List aV) (μ : aM) (g : Nat) : W (n + 1) 60 ls st μ g = (sLd 2 61 isI) (W n) ls st μ g := (hW n 60 ls st μ g).trans rfl
theorem wX5_meeting_61 {l : Launch} {K : aRs} {X : aXs} {J : aK} {W : Nat → aK} (hW : isW (tbX5_meeting l K X) cuX5_meeting J W) (n : Nat) (ls st : List aV) (μ : aM) (g : Nat) : W (n + 1) 61 ls st μ g = (sCallV 1 5 (fun as μ K => Ct l mdX5_odds as μ K X) 64 0 0) (W n) ls st μ g := (hW n 61 ls st μ g).trans rfl
theorem tX5_meeting_64 (l : Launch) (K : aRs) (X : aXs) : tb (tbX5_meeting l K X) 64 = sLd 0 65 isR := (rfl)
theorem wX5_meeting_64 {l : Launch} {K : aRs} {X : aXs} {J : aK} {W : Nat → aK} (hW : isW (tbX5_meeting l K X) cuX5_meeting J W) (n : Nat) (ls st : List aV) (μ : aM) (g : Nat) : W (n + 1) 64 ls st μ g = J 64 ls st μ g := (hW n 64 ls st μ g).trans rfl
theorem wX5_meeting_65 {l : Launch} {K : aRs} {X : aXs} {J : aK} {W : Nat → aK} (hW : isW (tbX5_meeting l K X) cuX5_meeting J W) (n : Nat) (ls st : List aV) (μ : aM) (g : Nat) : W (n + 1) 65 ls st μ g = (sLd 1 66 isI) (W n) ls st μ g := (hW n 65 ls st μ g).trans rfl
theorem wX5_meeting_66 {l : Launch} {K : aRs} {X : aXs} {J : aK} {W : Nat → aK} (hW : isW (tbX5_meeting l K X) cuX5_meeting J W) (n : Nat) (ls st : List aV) (μ : aM) (g : Nat) : W (n + 1) 66 ls st μ g = (sCallV 1 5 (fun as μ K => Ct l mdX5_odds as μ K X) 69 0 0) (W n) ls st μ g := (hW n 66 ls st μ g).trans rfl
theorem tX5_meeting_69 (l : Launch) (K : aRs) (X : aXs) : tb (tbX5_meeting l K X) 69 = sIc qGe 74 72 := (rfl)
theorem wX5_meeting_69 {l : Launch} {K : aRs} {X : aXs} {J : aK} {W : Nat → aK} (hW : isW (tbX5_meeting l K X) cuX5_meeting J W) (n : Nat) (ls st : List aV) (μ : aM) (g : Nat) : W (n + 1) 69 ls st μ g = J 69 ls st μ g := (hW n 69 ls st μ g).trans rfl
theorem wX5_meeting_72 {l : Launch} {K : aRs} {X : aXs} {J : aK} {W : Nat → aK} (hW : isW (tbX5_meeting l K X) cuX5_meeting J W) (n : Nat) (ls st : List aV) (μ : aM) (g : Nat) : W (n + 1) 72 ls st μ g = (sLd 2 73 isI) (W n) ls st μ g := (hW n 72 ls st μ g).trans rfl
theorem wX5_meeting_73 {l : Launch} {K : aRs} {X : aXs} {J : aK} {W : Nat → aK} (hW : isW (tbX5_meeting l K X) cuX5_meeting J W) (n : Nat) (ls st : List aV) (μ : aM) (g : Nat) : W (n + 1) 73 ls st μ g = (sSt 1 74 isI) (W n) ls st μ g := (hW n 73 ls st μ g).trans rfl
theorem wX5_meeting_74 {l : Launch} {K : aRs} {X : aXs} {J : aK} {W : Nat → aK} (hW : isW (tbX5_meeting l K X) cuX5_meeting J W) (n : Nat) (ls st : List aV) (μ : aM) (g : Nat) : W (n + 1) 74 ls st μ g = (sInc 2 1 77) (W n) ls st μ g := (hW n 74 ls st μ g).trans rfl
theorem wX5_meeting_77 {l : Launch} {K : aRs} {X : aXs} {J : aK} {W : Nat → aK} (hW : isW (tbX5_meeting l K X) cuX5_meeting J W) (n : Nat) (ls st : List aV) (μ : aM) (g : Nat) : W (n + 1) 77 ls st μ g = (sGoto 4) (W n) ls st μ g := (hW n 77 ls st μ g).trans rfl
theorem wX5_meeting_80 {l : Launch} {K : aRs} {X : aXs} {J : aK} {W : Nat → aK} (hW : isW (tbX5_meeting l K X) cuX5_meeting J W) (n : Nat) (ls st : List aV) (μ : aM) (g : Nat) : W (n + 1) 80 ls st μ g = (sLd 1 81 isI) (W n) ls st μ g := (hW n 80 ls st μ g).trans rfl
theorem wX5_meeting_81 {l : Launch} {K : aRs} {X : aXs} {J : aK} {W : Nat → aK} (hW : isW (tbX5_meeting l K X) cuX5_meeting J W) (n : Nat) (ls st : List aV) (μ : aM) (g : Nat) : W (n + 1) 81 ls st μ g = (sRetI .int 0 K) (W n) ls st μ g := (hW n 81 ls st μ g).trans rfl
theorem dX5_meets_0 : decode cX5_meets 0 = .ok (.aload_n 0, 1) := by decide +kernel
theorem dX5_meets_1 : decode cX5_meets 1 = .ok (.aload_n 0, 1) := by decide +kernel
theorem dX5_meets_2 : decode cX5_meets 2 = .ok (.invokevirtual 164, 3) := by decide +kernel
theorem dX5_meets_5 : decode cX5_meets 5 = .ok (.ifCond .ne 7, 3) := by decide +kernel
theorem dX5_meets_8 : decode cX5_meets 8 = .ok (.iconst 1, 1) := by decide +kernel
theorem dX5_meets_9 : decode cX5_meets 9 = .ok (.goto 4, 3) := by decide +kernel
theorem dX5_meets_12 : decode cX5_meets 12 = .ok (.iconst 0, 1) := by decide +kernel
theorem dX5_meets_13 : decode cX5_meets 13 = .ok (.invokevirtual 148, 3) := by decide +kernel
theorem dX5_meets_16 : decode cX5_meets 16 = .ok (.ifCond .eq 7, 3) := by decide +kernel
theorem dX5_meets_19 : decode cX5_meets 19 = .ok (.iconst 0, 1) := by decide +kernel
theorem dX5_meets_20 : decode cX5_meets 20 = .ok (.goto 7, 3) := by decide +kernel
theorem dX5_meets_23 : decode cX5_meets 23 = .ok (.aload_n 0, 1) := by decide +kernel
theorem dX5_meets_24 : decode cX5_meets 24 = .ok (.invokevirtual 164, 3) := by decide +kernel
theorem dX5_meets_27 : decode cX5_meets 27 = .ok (.ireturn, 1) := by decide +kernel
def tbX5_meets (l : Launch) (K : aRs) (X : aXs) : aTb := [
  (0, sLd 0 1 isR),
  (1, sLd 0 2 isR),
  (2, sCallV 0 5 (fun as μ K => Ct l mdX5_meeting as μ K X) 5 0 0),
  (5, sIf pNe 12 8),
  (8, sPush (aI 1) 9),
  (9, sGoto 13),
  (12, sPush (aI 0) 13),
  (13, sCallV 1 5 (fun as μ K => Ct l mdX5_fails as μ K X) 16 0 0),
  (16, sIf pEq 23 19),
  (19, sPush (aI 0) 20),
  (20, sGoto 27),
  (23, sLd 0 24 isR),
  (24, sCallV 0 5 (fun as μ K => Ct l mdX5_meeting as μ K X) 27 0 0),
  (27, sRetI .int 0 K)]
theorem snX5_meets (l : Launch) (K : aRs) (X : aXs) (n0 : Nat) : ∀ q ∈ tbX5_meets l K X, aSo l mdX5_meets K X n0 q.1 q.2 :=
  tc (fun p e s m args below meth c cA D A ad0 h => ok_aload_n h.1 0 rfl dX5_meets_0) <|
  tc (fun p e s m args below meth c cA D A ad0 h => ok_aload_n h.1 0 rfl dX5_meets_1) <|
  tc (fun p e s m args below meth c cA D A ad0 h => ok_callV h.1 h.2.1 ⟨Nat.le_refl _, Nat.le_refl _⟩ mdX5_meeting siX5_meeting cxX5 mkRX5_164 imX5_meeting seX5_meeting ⟨by decide, by decide⟩ (aAx_out h.1 h.2.2.1 _) dX5_meets_2) <|
  tc (fun p e s m args below meth c cA D A ad0 h => ok_if_ne h.1 12 (by decide) dX5_meets_5) <|
  tc (fun p e s m args below meth c cA D A ad0 h => ok_iconst h.1 ⟨by decide, by decide⟩ dX5_meets_8) <|
  tc (fun p e s m args below meth c cA D A ad0 h => ok_goto h.1 13 (by decide) dX5_meets_9) <|
  tc (fun p e s m args below meth c cA D A ad0 h => ok_iconst h.1 ⟨by decide, by decide⟩ dX5_meets_12) <|
  tc (fun p e s m args below meth c cA D A ad0 h => ok_callV h.1 h.2.1 ⟨Nat.le_refl _, Nat.le_refl _⟩ mdX5_fails siX5_fails cxX5 mkRX5_148 imX5_fails seX5_fails ⟨by decide, by decide⟩ (aAx_out h.1 h.2.2.1 _) dX5_meets_13) <|
  tc (fun p e s m args below meth c cA D A ad0 h => ok_if_eq h.1 23 (by decide) dX5_meets_16) <|
  tc (fun p e s m args below meth c cA D A ad0 h => ok_iconst h.1 ⟨by decide, by decide⟩ dX5_meets_19) <|
  tc (fun p e s m args below meth c cA D A ad0 h => ok_goto h.1 27 (by decide) dX5_meets_20) <|
  tc (fun p e s m args below meth c cA D A ad0 h => ok_aload_n h.1 0 rfl dX5_meets_23) <|
  tc (fun p e s m args below meth c cA D A ad0 h => ok_callV h.1 h.2.1 ⟨Nat.le_refl _, Nat.le_refl _⟩ mdX5_meeting siX5_meeting cxX5 mkRX5_164 imX5_meeting seX5_meeting ⟨by decide, by decide⟩ (aAx_out h.1 h.2.2.1 _) dX5_meets_24) <|
  tc (fun p e s m args below meth c cA D A ad0 h => ok_ireturn h.1 h.2.2.2.1 (Or.inl rfl) dX5_meets_27) <|
  tn
abbrev cuX5_meets : List Nat := [5, 16, 27]
theorem tX5_meets_0 (l : Launch) (K : aRs) (X : aXs) : tb (tbX5_meets l K X) 0 = sLd 0 1 isR := (rfl)
theorem wX5_meets_0 {l : Launch} {K : aRs} {X : aXs} {J : aK} {W : Nat → aK} (hW : isW (tbX5_meets l K X) cuX5_meets J W) (n : Nat) (ls st : List aV) (μ : aM) (g : Nat) : W (n + 1) 0 ls st μ g = (sLd 0 1 isR) (W n) ls st μ g := (hW n 0 ls st μ g).trans rfl
theorem wX5_meets_1 {l : Launch} {K : aRs} {X : aXs} {J : aK} {W : Nat → aK} (hW : isW (tbX5_meets l K X) cuX5_meets J W) (n : Nat) (ls st : List aV) (μ : aM) (g : Nat) : W (n + 1) 1 ls st μ g = (sLd 0 2 isR) (W n) ls st μ g := (hW n 1 ls st μ g).trans rfl
theorem wX5_meets_2 {l : Launch} {K : aRs} {X : aXs} {J : aK} {W : Nat → aK} (hW : isW (tbX5_meets l K X) cuX5_meets J W) (n : Nat) (ls st : List aV) (μ : aM) (g : Nat) : W (n + 1) 2 ls st μ g = (sCallV 0 5 (fun as μ K => Ct l mdX5_meeting as μ K X) 5 0 0) (W n) ls st μ g := (hW n 2 ls st μ g).trans rfl
theorem tX5_meets_5 (l : Launch) (K : aRs) (X : aXs) : tb (tbX5_meets l K X) 5 = sIf pNe 12 8 := (rfl)
theorem wX5_meets_5 {l : Launch} {K : aRs} {X : aXs} {J : aK} {W : Nat → aK} (hW : isW (tbX5_meets l K X) cuX5_meets J W) (n : Nat) (ls st : List aV) (μ : aM) (g : Nat) : W (n + 1) 5 ls st μ g = J 5 ls st μ g := (hW n 5 ls st μ g).trans rfl
theorem wX5_meets_8 {l : Launch} {K : aRs} {X : aXs} {J : aK} {W : Nat → aK} (hW : isW (tbX5_meets l K X) cuX5_meets J W) (n : Nat) (ls st : List aV) (μ : aM) (g : Nat) : W (n + 1) 8 ls st μ g = (sPush (aI 1) 9) (W n) ls st μ g := (hW n 8 ls st μ g).trans rfl
theorem wX5_meets_9 {l : Launch} {K : aRs} {X : aXs} {J : aK} {W : Nat → aK} (hW : isW (tbX5_meets l K X) cuX5_meets J W) (n : Nat) (ls st : List aV) (μ : aM) (g : Nat) : W (n + 1) 9 ls st μ g = (sGoto 13) (W n) ls st μ g := (hW n 9 ls st μ g).trans rfl
theorem wX5_meets_12 {l : Launch} {K : aRs} {X : aXs} {J : aK} {W : Nat → aK} (hW : isW (tbX5_meets l K X) cuX5_meets J W) (n : Nat) (ls st : List aV) (μ : aM) (g : Nat) : W (n + 1) 12 ls st μ g = (sPush (aI 0) 13) (W n) ls st μ g := (hW n 12 ls st μ g).trans rfl
theorem wX5_meets_13 {l : Launch} {K : aRs} {X : aXs} {J : aK} {W : Nat → aK} (hW : isW (tbX5_meets l K X) cuX5_meets J W) (n : Nat) (ls st : List aV) (μ : aM) (g : Nat) : W (n + 1) 13 ls st μ g = (sCallV 1 5 (fun as μ K => Ct l mdX5_fails as μ K X) 16 0 0) (W n) ls st μ g := (hW n 13 ls st μ g).trans rfl
theorem tX5_meets_16 (l : Launch) (K : aRs) (X : aXs) : tb (tbX5_meets l K X) 16 = sIf pEq 23 19 := (rfl)
theorem wX5_meets_16 {l : Launch} {K : aRs} {X : aXs} {J : aK} {W : Nat → aK} (hW : isW (tbX5_meets l K X) cuX5_meets J W) (n : Nat) (ls st : List aV) (μ : aM) (g : Nat) : W (n + 1) 16 ls st μ g = J 16 ls st μ g := (hW n 16 ls st μ g).trans rfl
theorem wX5_meets_19 {l : Launch} {K : aRs} {X : aXs} {J : aK} {W : Nat → aK} (hW : isW (tbX5_meets l K X) cuX5_meets J W) (n : Nat) (ls st : List aV) (μ : aM) (g : Nat) : W (n + 1) 19 ls st μ g = (sPush (aI 0) 20) (W n) ls st μ g := (hW n 19 ls st μ g).trans rfl
theorem wX5_meets_20 {l : Launch} {K : aRs} {X : aXs} {J : aK} {W : Nat → aK} (hW : isW (tbX5_meets l K X) cuX5_meets J W) (n : Nat) (ls st : List aV) (μ : aM) (g : Nat) : W (n + 1) 20 ls st μ g = (sGoto 27) (W n) ls st μ g := (hW n 20 ls st μ g).trans rfl
theorem wX5_meets_23 {l : Launch} {K : aRs} {X : aXs} {J : aK} {W : Nat → aK} (hW : isW (tbX5_meets l K X) cuX5_meets J W) (n : Nat) (ls st : List aV) (μ : aM) (g : Nat) : W (n + 1) 23 ls st μ g = (sLd 0 24 isR) (W n) ls st μ g := (hW n 23 ls st μ g).trans rfl
theorem wX5_meets_24 {l : Launch} {K : aRs} {X : aXs} {J : aK} {W : Nat → aK} (hW : isW (tbX5_meets l K X) cuX5_meets J W) (n : Nat) (ls st : List aV) (μ : aM) (g : Nat) : W (n + 1) 24 ls st μ g = (sCallV 0 5 (fun as μ K => Ct l mdX5_meeting as μ K X) 27 0 0) (W n) ls st μ g := (hW n 24 ls st μ g).trans rfl
theorem tX5_meets_27 (l : Launch) (K : aRs) (X : aXs) : tb (tbX5_meets l K X) 27 = sRetI .int 0 K := (rfl)
theorem wX5_meets_27 {l : Launch} {K : aRs} {X : aXs} {J : aK} {W : Nat → aK} (hW : isW (tbX5_meets l K X) cuX5_meets J W) (n : Nat) (ls st : List aV) (μ : aM) (g : Nat) : W (n + 1) 27 ls st μ g = J 27 ls st μ g := (hW n 27 ls st μ g).trans rfl
theorem dX5_auctionPrice_0 : decode cX5_auctionPrice 0 = .ok (.aload_n 0, 1) := by decide +kernel
theorem dX5_auctionPrice_1 : decode cX5_auctionPrice 1 = .ok (.invokevirtual 196, 3) := by decide +kernel
theorem dX5_auctionPrice_4 : decode cX5_auctionPrice 4 = .ok (.ireturn, 1) := by decide +kernel
def tbX5_auctionPrice (l : Launch) (K : aRs) (X : aXs) : aTb := [
  (0, sLd 0 1 isR),
  (1, sCallV 0 5 (fun as μ K => Ct l mdX5_meets as μ K X) 4 0 0),
  (4, sRetI .int 0 K)]
theorem snX5_auctionPrice (l : Launch) (K : aRs) (X : aXs) (n0 : Nat) : ∀ q ∈ tbX5_auctionPrice l K X, aSo l mdX5_auctionPrice K X n0 q.1 q.2 :=
  tc (fun p e s m args below meth c cA D A ad0 h => ok_aload_n h.1 0 rfl dX5_auctionPrice_0) <|
  tc (fun p e s m args below meth c cA D A ad0 h => ok_callV h.1 h.2.1 ⟨Nat.le_refl _, Nat.le_refl _⟩ mdX5_meets siX5_meets cxX5 mkRX5_196 imX5_meets seX5_meets ⟨by decide, by decide⟩ (aAx_out h.1 h.2.2.1 _) dX5_auctionPrice_1) <|
  tc (fun p e s m args below meth c cA D A ad0 h => ok_ireturn h.1 h.2.2.2.1 (Or.inl rfl) dX5_auctionPrice_4) <|
  tn
abbrev cuX5_auctionPrice : List Nat := [4]
theorem tX5_auctionPrice_0 (l : Launch) (K : aRs) (X : aXs) : tb (tbX5_auctionPrice l K X) 0 = sLd 0 1 isR := (rfl)
theorem wX5_auctionPrice_0 {l : Launch} {K : aRs} {X : aXs} {J : aK} {W : Nat → aK} (hW : isW (tbX5_auctionPrice l K X) cuX5_auctionPrice J W) (n : Nat) (ls st : List aV) (μ : aM) (g : Nat) : W (n + 1) 0 ls st μ g = (sLd 0 1 isR) (W n) ls st μ g := (hW n 0 ls st μ g).trans rfl
theorem wX5_auctionPrice_1 {l : Launch} {K : aRs} {X : aXs} {J : aK} {W : Nat → aK} (hW : isW (tbX5_auctionPrice l K X) cuX5_auctionPrice J W) (n : Nat) (ls st : List aV) (μ : aM) (g : Nat) : W (n + 1) 1 ls st μ g = (sCallV 0 5 (fun as μ K => Ct l mdX5_meets as μ K X) 4 0 0) (W n) ls st μ g := (hW n 1 ls st μ g).trans rfl
theorem tX5_auctionPrice_4 (l : Launch) (K : aRs) (X : aXs) : tb (tbX5_auctionPrice l K X) 4 = sRetI .int 0 K := (rfl)
theorem wX5_auctionPrice_4 {l : Launch} {K : aRs} {X : aXs} {J : aK} {W : Nat → aK} (hW : isW (tbX5_auctionPrice l K X) cuX5_auctionPrice J W) (n : Nat) (ls st : List aV) (μ : aM) (g : Nat) : W (n + 1) 4 ls st μ g = J 4 ls st μ g := (hW n 4 ls st μ g).trans rfl
theorem dX5_auctionPriceByTrying_0 : decode cX5_auctionPriceByTrying 0 = .ok (.aload_n 0, 1) := by decide +kernel
theorem dX5_auctionPriceByTrying_1 : decode cX5_auctionPriceByTrying 1 = .ok (.invokevirtual 196, 3) := by decide +kernel
theorem dX5_auctionPriceByTrying_4 : decode cX5_auctionPriceByTrying 4 = .ok (.ireturn, 1) := by decide +kernel
def tbX5_auctionPriceByTrying (l : Launch) (K : aRs) (X : aXs) : aTb := [
  (0, sLd 0 1 isR),
  (1, sCallV 0 5 (fun as μ K => Ct l mdX5_meets as μ K X) 4 0 0),
  (4, sRetI .int 0 K)]
theorem snX5_auctionPriceByTrying (l : Launch) (K : aRs) (X : aXs) (n0 : Nat) : ∀ q ∈ tbX5_auctionPriceByTrying l K X, aSo l mdX5_auctionPriceByTrying K X n0 q.1 q.2 :=
  tc (fun p e s m args below meth c cA D A ad0 h => ok_aload_n h.1 0 rfl dX5_auctionPriceByTrying_0) <|
  tc (fun p e s m args below meth c cA D A ad0 h => ok_callV h.1 h.2.1 ⟨Nat.le_refl _, Nat.le_refl _⟩ mdX5_meets siX5_meets cxX5 mkRX5_196 imX5_meets seX5_meets ⟨by decide, by decide⟩ (aAx_out h.1 h.2.2.1 _) dX5_auctionPriceByTrying_1) <|
  tc (fun p e s m args below meth c cA D A ad0 h => ok_ireturn h.1 h.2.2.2.1 (Or.inl rfl) dX5_auctionPriceByTrying_4) <|
  tn
abbrev cuX5_auctionPriceByTrying : List Nat := [4]
theorem tX5_auctionPriceByTrying_0 (l : Launch) (K : aRs) (X : aXs) : tb (tbX5_auctionPriceByTrying l K X) 0 = sLd 0 1 isR := (rfl)
theorem wX5_auctionPriceByTrying_0 {l : Launch} {K : aRs} {X : aXs} {J : aK} {W : Nat → aK} (hW : isW (tbX5_auctionPriceByTrying l K X) cuX5_auctionPriceByTrying J W) (n : Nat) (ls st : List aV) (μ : aM) (g : Nat) : W (n + 1) 0 ls st μ g = (sLd 0 1 isR) (W n) ls st μ g := (hW n 0 ls st μ g).trans rfl
theorem wX5_auctionPriceByTrying_1 {l : Launch} {K : aRs} {X : aXs} {J : aK} {W : Nat → aK} (hW : isW (tbX5_auctionPriceByTrying l K X) cuX5_auctionPriceByTrying J W) (n : Nat) (ls st : List aV) (μ : aM) (g : Nat) : W (n + 1) 1 ls st μ g = (sCallV 0 5 (fun as μ K => Ct l mdX5_meets as μ K X) 4 0 0) (W n) ls st μ g := (hW n 1 ls st μ g).trans rfl
theorem tX5_auctionPriceByTrying_4 (l : Launch) (K : aRs) (X : aXs) : tb (tbX5_auctionPriceByTrying l K X) 4 = sRetI .int 0 K := (rfl)
theorem wX5_auctionPriceByTrying_4 {l : Launch} {K : aRs} {X : aXs} {J : aK} {W : Nat → aK} (hW : isW (tbX5_auctionPriceByTrying l K X) cuX5_auctionPriceByTrying J W) (n : Nat) (ls st : List aV) (μ : aM) (g : Nat) : W (n + 1) 4 ls st μ g = J 4 ls st μ g := (hW n 4 ls st μ g).trans rfl
theorem dX5_volumeAt_0 : decode cX5_volumeAt 0 = .ok (.aload_n 0, 1) := by decide +kernel
theorem dX5_volumeAt_1 : decode cX5_volumeAt 1 = .ok (.iload_n 1, 1) := by decide +kernel
theorem dX5_volumeAt_2 : decode cX5_volumeAt 2 = .ok (.invokestatic 141, 3) := by decide +kernel
theorem dX5_volumeAt_5 : decode cX5_volumeAt 5 = .ok (.ifCond .eq 7, 3) := by decide +kernel
theorem dX5_volumeAt_8 : decode cX5_volumeAt 8 = .ok (.iconst 0, 1) := by decide +kernel
theorem dX5_volumeAt_9 : decode cX5_volumeAt 9 = .ok (.goto 4, 3) := by decide +kernel
theorem dX5_volumeAt_12 : decode cX5_volumeAt 12 = .ok (.iconst 1, 1) := by decide +kernel
theorem dX5_volumeAt_13 : decode cX5_volumeAt 13 = .ok (.invokevirtual 148, 3) := by decide +kernel
theorem dX5_volumeAt_16 : decode cX5_volumeAt 16 = .ok (.ifCond .eq 7, 3) := by decide +kernel
theorem dX5_volumeAt_19 : decode cX5_volumeAt 19 = .ok (.iconst 0, 1) := by decide +kernel
theorem dX5_volumeAt_20 : decode cX5_volumeAt 20 = .ok (.goto 8, 3) := by decide +kernel
theorem dX5_volumeAt_23 : decode cX5_volumeAt 23 = .ok (.aload_n 0, 1) := by decide +kernel
theorem dX5_volumeAt_24 : decode cX5_volumeAt 24 = .ok (.iload_n 1, 1) := by decide +kernel
theorem dX5_volumeAt_25 : decode cX5_volumeAt 25 = .ok (.invokevirtual 168, 3) := by decide +kernel
theorem dX5_volumeAt_28 : decode cX5_volumeAt 28 = .ok (.ireturn, 1) := by decide +kernel
def tbX5_volumeAt (l : Launch) (K : aRs) (X : aXs) : aTb := [
  (0, sLd 0 1 isR),
  (1, sLd 1 2 isI),
  (2, sCallS 1 (fun as μ K => Ct l mdX5_isPrice as μ K X) 5 0 0),
  (5, sIf pEq 12 8),
  (8, sPush (aI 0) 9),
  (9, sGoto 13),
  (12, sPush (aI 1) 13),
  (13, sCallV 1 5 (fun as μ K => Ct l mdX5_fails as μ K X) 16 0 0),
  (16, sIf pEq 23 19),
  (19, sPush (aI 0) 20),
  (20, sGoto 28),
  (23, sLd 0 24 isR),
  (24, sLd 1 25 isI),
  (25, sCallV 1 5 (fun as μ K => Ct l mdX5_volumeFor as μ K X) 28 0 0),
  (28, sRetI .int 0 K)]
theorem snX5_volumeAt (l : Launch) (K : aRs) (X : aXs) (n0 : Nat) : ∀ q ∈ tbX5_volumeAt l K X, aSo l mdX5_volumeAt K X n0 q.1 q.2 :=
  tc (fun p e s m args below meth c cA D A ad0 h => ok_aload_n h.1 0 rfl dX5_volumeAt_0) <|
  tc (fun p e s m args below meth c cA D A ad0 h => ok_iload_n h.1 1 rfl dX5_volumeAt_1) <|
  tc (fun p e s m args below meth c cA D A ad0 h => ok_callS h.1 h.2.1 ⟨Nat.le_refl _, Nat.le_refl _⟩ mdX5_isPrice siX5_isPrice mkRX5_141 stX5_isPrice ⟨by decide, by decide⟩ (aAx_out h.1 h.2.2.1 _) dX5_volumeAt_2) <|
  tc (fun p e s m args below meth c cA D A ad0 h => ok_if_eq h.1 12 (by decide) dX5_volumeAt_5) <|
  tc (fun p e s m args below meth c cA D A ad0 h => ok_iconst h.1 ⟨by decide, by decide⟩ dX5_volumeAt_8) <|
  tc (fun p e s m args below meth c cA D A ad0 h => ok_goto h.1 13 (by decide) dX5_volumeAt_9) <|
  tc (fun p e s m args below meth c cA D A ad0 h => ok_iconst h.1 ⟨by decide, by decide⟩ dX5_volumeAt_12) <|
  tc (fun p e s m args below meth c cA D A ad0 h => ok_callV h.1 h.2.1 ⟨Nat.le_refl _, Nat.le_refl _⟩ mdX5_fails siX5_fails cxX5 mkRX5_148 imX5_fails seX5_fails ⟨by decide, by decide⟩ (aAx_out h.1 h.2.2.1 _) dX5_volumeAt_13) <|
  tc (fun p e s m args below meth c cA D A ad0 h => ok_if_eq h.1 23 (by decide) dX5_volumeAt_16) <|
  tc (fun p e s m args below meth c cA D A ad0 h => ok_iconst h.1 ⟨by decide, by decide⟩ dX5_volumeAt_19) <|
  tc (fun p e s m args below meth c cA D A ad0 h => ok_goto h.1 28 (by decide) dX5_volumeAt_20) <|
  tc (fun p e s m args below meth c cA D A ad0 h => ok_aload_n h.1 0 rfl dX5_volumeAt_23) <|
  tc (fun p e s m args below meth c cA D A ad0 h => ok_iload_n h.1 1 rfl dX5_volumeAt_24) <|
  tc (fun p e s m args below meth c cA D A ad0 h => ok_callV h.1 h.2.1 ⟨Nat.le_refl _, Nat.le_refl _⟩ mdX5_volumeFor siX5_volumeFor cxX5 mkRX5_168 imX5_volumeFor seX5_volumeFor ⟨by decide, by decide⟩ (aAx_out h.1 h.2.2.1 _) dX5_volumeAt_25) <|
  tc (fun p e s m args below meth c cA D A ad0 h => ok_ireturn h.1 h.2.2.2.1 (Or.inl rfl) dX5_volumeAt_28) <|
  tn
abbrev cuX5_volumeAt : List Nat := [5, 16, 28]
theorem tX5_volumeAt_0 (l : Launch) (K : aRs) (X : aXs) : tb (tbX5_volumeAt l K X) 0 = sLd 0 1 isR := (rfl)
theorem wX5_volumeAt_0 {l : Launch} {K : aRs} {X : aXs} {J : aK} {W : Nat → aK} (hW : isW (tbX5_volumeAt l K X) cuX5_volumeAt J W) (n : Nat) (ls st : List aV) (μ : aM) (g : Nat) : W (n + 1) 0 ls st μ g = (sLd 0 1 isR) (W n) ls st μ g := (hW n 0 ls st μ g).trans rfl
theorem wX5_volumeAt_1 {l : Launch} {K : aRs} {X : aXs} {J : aK} {W : Nat → aK} (hW : isW (tbX5_volumeAt l K X) cuX5_volumeAt J W) (n : Nat) (ls st : List aV) (μ : aM) (g : Nat) : W (n + 1) 1 ls st μ g = (sLd 1 2 isI) (W n) ls st μ g := (hW n 1 ls st μ g).trans rfl
theorem wX5_volumeAt_2 {l : Launch} {K : aRs} {X : aXs} {J : aK} {W : Nat → aK} (hW : isW (tbX5_volumeAt l K X) cuX5_volumeAt J W) (n : Nat) (ls st : List aV) (μ : aM) (g : Nat) : W (n + 1) 2 ls st μ g = (sCallS 1 (fun as μ K => Ct l mdX5_isPrice as μ K X) 5 0 0) (W n) ls st μ g := (hW n 2 ls st μ g).trans rfl
theorem tX5_volumeAt_5 (l : Launch) (K : aRs) (X : aXs) : tb (tbX5_volumeAt l K X) 5 = sIf pEq 12 8 := (rfl)
theorem wX5_volumeAt_5 {l : Launch} {K : aRs} {X : aXs} {J : aK} {W : Nat → aK} (hW : isW (tbX5_volumeAt l K X) cuX5_volumeAt J W) (n : Nat) (ls st : List aV) (μ : aM) (g : Nat) : W (n + 1) 5 ls st μ g = J 5 ls st μ g := (hW n 5 ls st μ g).trans rfl
theorem wX5_volumeAt_8 {l : Launch} {K : aRs} {X : aXs} {J : aK} {W : Nat → aK} (hW : isW (tbX5_volumeAt l K X) cuX5_volumeAt J W) (n : Nat) (ls st : List aV) (μ : aM) (g : Nat) : W (n + 1) 8 ls st μ g = (sPush (aI 0) 9) (W n) ls st μ g := (hW n 8 ls st μ g).trans rfl
theorem wX5_volumeAt_9 {l : Launch} {K : aRs} {X : aXs} {J : aK} {W : Nat → aK} (hW : isW (tbX5_volumeAt l K X) cuX5_volumeAt J W) (n : Nat) (ls st : List aV) (μ : aM) (g : Nat) : W (n + 1) 9 ls st μ g = (sGoto 13) (W n) ls st μ g := (hW n 9 ls st μ g).trans rfl
theorem wX5_volumeAt_12 {l : Launch} {K : aRs} {X : aXs} {J : aK} {W : Nat → aK} (hW : isW (tbX5_volumeAt l K X) cuX5_volumeAt J W) (n : Nat) (ls st : List aV) (μ : aM) (g : Nat) : W (n + 1) 12 ls st μ g = (sPush (aI 1) 13) (W n) ls st μ g := (hW n 12 ls st μ g).trans rfl
theorem wX5_volumeAt_13 {l : Launch} {K : aRs} {X : aXs} {J : aK} {W : Nat → aK} (hW : isW (tbX5_volumeAt l K X) cuX5_volumeAt J W) (n : Nat) (ls st : List aV) (μ : aM) (g : Nat) : W (n + 1) 13 ls st μ g = (sCallV 1 5 (fun as μ K => Ct l mdX5_fails as μ K X) 16 0 0) (W n) ls st μ g := (hW n 13 ls st μ g).trans rfl
theorem tX5_volumeAt_16 (l : Launch) (K : aRs) (X : aXs) : tb (tbX5_volumeAt l K X) 16 = sIf pEq 23 19 := (rfl)
theorem wX5_volumeAt_16 {l : Launch} {K : aRs} {X : aXs} {J : aK} {W : Nat → aK} (hW : isW (tbX5_volumeAt l K X) cuX5_volumeAt J W) (n : Nat) (ls st : List aV) (μ : aM) (g : Nat) : W (n + 1) 16 ls st μ g = J 16 ls st μ g := (hW n 16 ls st μ g).trans rfl
theorem wX5_volumeAt_19 {l : Launch} {K : aRs} {X : aXs} {J : aK} {W : Nat → aK} (hW : isW (tbX5_volumeAt l K X) cuX5_volumeAt J W) (n : Nat) (ls st : List aV) (μ : aM) (g : Nat) : W (n + 1) 19 ls st μ g = (sPush (aI 0) 20) (W n) ls st μ g := (hW n 19 ls st μ g).trans rfl
theorem wX5_volumeAt_20 {l : Launch} {K : aRs} {X : aXs} {J : aK} {W : Nat → aK} (hW : isW (tbX5_volumeAt l K X) cuX5_volumeAt J W) (n : Nat) (ls st : List aV) (μ : aM) (g : Nat) : W (n + 1) 20 ls st μ g = (sGoto 28) (W n) ls st μ g := (hW n 20 ls st μ g).trans rfl
theorem wX5_volumeAt_23 {l : Launch} {K : aRs} {X : aXs} {J : aK} {W : Nat → aK} (hW : isW (tbX5_volumeAt l K X) cuX5_volumeAt J W) (n : Nat) (ls st : List aV) (μ : aM) (g : Nat) : W (n + 1) 23 ls st μ g = (sLd 0 24 isR) (W n) ls st μ g := (hW n 23 ls st μ g).trans rfl
theorem wX5_volumeAt_24 {l : Launch} {K : aRs} {X : aXs} {J : aK} {W : Nat → aK} (hW : isW (tbX5_volumeAt l K X) cuX5_volumeAt J W) (n : Nat) (ls st : List aV) (μ : aM) (g : Nat) : W (n + 1) 24 ls st μ g = (sLd 1 25 isI) (W n) ls st μ g := (hW n 24 ls st μ g).trans rfl
theorem wX5_volumeAt_25 {l : Launch} {K : aRs} {X : aXs} {J : aK} {W : Nat → aK} (hW : isW (tbX5_volumeAt l K X) cuX5_volumeAt J W) (n : Nat) (ls st : List aV) (μ : aM) (g : Nat) : W (n + 1) 25 ls st μ g = (sCallV 1 5 (fun as μ K => Ct l mdX5_volumeFor as μ K X) 28 0 0) (W n) ls st μ g := (hW n 25 ls st μ g).trans rfl
theorem tX5_volumeAt_28 (l : Launch) (K : aRs) (X : aXs) : tb (tbX5_volumeAt l K X) 28 = sRetI .int 0 K := (rfl)
theorem wX5_volumeAt_28 {l : Launch} {K : aRs} {X : aXs} {J : aK} {W : Nat → aK} (hW : isW (tbX5_volumeAt l K X) cuX5_volumeAt J W) (n : Nat) (ls st : List aV) (μ : aM) (g : Nat) : W (n + 1) 28 ls st μ g = J 28 ls st μ g := (hW n 28 ls st μ g).trans rfl
theorem dX5_tradeCount_0 : decode cX5_tradeCount 0 = .ok (.aload_n 0, 1) := by decide +kernel
theorem dX5_tradeCount_1 : decode cX5_tradeCount 1 = .ok (.aload_n 0, 1) := by decide +kernel
theorem dX5_tradeCount_2 : decode cX5_tradeCount 2 = .ok (.getfield 90, 3) := by decide +kernel
theorem dX5_tradeCount_5 : decode cX5_tradeCount 5 = .ok (.invokevirtual 172, 3) := by decide +kernel
theorem dX5_tradeCount_8 : decode cX5_tradeCount 8 = .ok (.ireturn, 1) := by decide +kernel
def tbX5_tradeCount (l : Launch) (K : aRs) (X : aXs) : aTb := [
  (0, sLd 0 1 isR),
  (1, sLd 0 2 isR),
  (2, sGetI 5 13 5),
  (5, sCallV 1 5 (fun as μ K => Ct l mdX5_tells as μ K X) 8 0 0),
  (8, sRetI .int 0 K)]
theorem snX5_tradeCount (l : Launch) (K : aRs) (X : aXs) (n0 : Nat) : ∀ q ∈ tbX5_tradeCount l K X, aSo l mdX5_tradeCount K X n0 q.1 q.2 :=
  tc (fun p e s m args below meth c cA D A ad0 h => ok_aload_n h.1 0 rfl dX5_tradeCount_0) <|
  tc (fun p e s m args below meth c cA D A ad0 h => ok_aload_n h.1 0 rfl dX5_tradeCount_1) <|
  tc (fun p e s m args below meth c cA D A ad0 h => ok_getI h.1 cxX5 (by decide) rfl fkRX5_90 (fun _ _ _ => rfl) dX5_tradeCount_2) <|
  tc (fun p e s m args below meth c cA D A ad0 h => ok_callV h.1 h.2.1 ⟨Nat.le_refl _, Nat.le_refl _⟩ mdX5_tells siX5_tells cxX5 mkRX5_172 imX5_tells seX5_tells ⟨by decide, by decide⟩ (aAx_out h.1 h.2.2.1 _) dX5_tradeCount_5) <|
  tc (fun p e s m args below meth c cA D A ad0 h => ok_ireturn h.1 h.2.2.2.1 (Or.inl rfl) dX5_tradeCount_8) <|
  tn
abbrev cuX5_tradeCount : List Nat := [8]
theorem tX5_tradeCount_0 (l : Launch) (K : aRs) (X : aXs) : tb (tbX5_tradeCount l K X) 0 = sLd 0 1 isR := (rfl)
theorem wX5_tradeCount_0 {l : Launch} {K : aRs} {X : aXs} {J : aK} {W : Nat → aK} (hW : isW (tbX5_tradeCount l K X) cuX5_tradeCount J W) (n : Nat) (ls st : List aV) (μ : aM) (g : Nat) : W (n + 1) 0 ls st μ g = (sLd 0 1 isR) (W n) ls st μ g := (hW n 0 ls st μ g).trans rfl
theorem wX5_tradeCount_1 {l : Launch} {K : aRs} {X : aXs} {J : aK} {W : Nat → aK} (hW : isW (tbX5_tradeCount l K X) cuX5_tradeCount J W) (n : Nat) (ls st : List aV) (μ : aM) (g : Nat) : W (n + 1) 1 ls st μ g = (sLd 0 2 isR) (W n) ls st μ g := (hW n 1 ls st μ g).trans rfl
theorem wX5_tradeCount_2 {l : Launch} {K : aRs} {X : aXs} {J : aK} {W : Nat → aK} (hW : isW (tbX5_tradeCount l K X) cuX5_tradeCount J W) (n : Nat) (ls st : List aV) (μ : aM) (g : Nat) : W (n + 1) 2 ls st μ g = (sGetI 5 13 5) (W n) ls st μ g := (hW n 2 ls st μ g).trans rfl
theorem wX5_tradeCount_5 {l : Launch} {K : aRs} {X : aXs} {J : aK} {W : Nat → aK} (hW : isW (tbX5_tradeCount l K X) cuX5_tradeCount J W) (n : Nat) (ls st : List aV) (μ : aM) (g : Nat) : W (n + 1) 5 ls st μ g = (sCallV 1 5 (fun as μ K => Ct l mdX5_tells as μ K X) 8 0 0) (W n) ls st μ g := (hW n 5 ls st μ g).trans rfl
theorem tX5_tradeCount_8 (l : Launch) (K : aRs) (X : aXs) : tb (tbX5_tradeCount l K X) 8 = sRetI .int 0 K := (rfl)
theorem wX5_tradeCount_8 {l : Launch} {K : aRs} {X : aXs} {J : aK} {W : Nat → aK} (hW : isW (tbX5_tradeCount l K X) cuX5_tradeCount J W) (n : Nat) (ls st : List aV) (μ : aM) (g : Nat) : W (n + 1) 8 ls st μ g = J 8 ls st μ g := (hW n 8 ls st μ g).trans rfl
theorem dX5_isNoTrade_0 : decode cX5_isNoTrade 0 = .ok (.aload_n 0, 1) := by decide +kernel
theorem dX5_isNoTrade_1 : decode cX5_isNoTrade 1 = .ok (.iload_n 1, 1) := by decide +kernel
theorem dX5_isNoTrade_2 : decode cX5_isNoTrade 2 = .ok (.iconst 0, 1) := by decide +kernel
theorem dX5_isNoTrade_3 : decode cX5_isNoTrade 3 = .ok (.aload_n 0, 1) := by decide +kernel
theorem dX5_isNoTrade_4 : decode cX5_isNoTrade 4 = .ok (.getfield 90, 3) := by decide +kernel
theorem dX5_isNoTrade_7 : decode cX5_isNoTrade 7 = .ok (.bipush 50, 2) := by decide +kernel
theorem dX5_isNoTrade_9 : decode cX5_isNoTrade 9 = .ok (.invokestatic 79, 3) := by decide +kernel
theorem dX5_isNoTrade_12 : decode cX5_isNoTrade 12 = .ok (.iconst 1, 1) := by decide +kernel
theorem dX5_isNoTrade_13 : decode cX5_isNoTrade 13 = .ok (.isub, 1) := by decide +kernel
theorem dX5_isNoTrade_14 : decode cX5_isNoTrade 14 = .ok (.invokestatic 64, 3) := by decide +kernel
theorem dX5_isNoTrade_17 : decode cX5_isNoTrade 17 = .ok (.ifCond .eq 7, 3) := by decide +kernel
theorem dX5_isNoTrade_20 : decode cX5_isNoTrade 20 = .ok (.iconst 0, 1) := by decide +kernel
theorem dX5_isNoTrade_21 : decode cX5_isNoTrade 21 = .ok (.goto 4, 3) := by decide +kernel
theorem dX5_isNoTrade_24 : decode cX5_isNoTrade 24 = .ok (.iconst 1, 1) := by decide +kernel
theorem dX5_isNoTrade_25 : decode cX5_isNoTrade 25 = .ok (.invokevirtual 148, 3) := by decide +kernel
theorem dX5_isNoTrade_28 : decode cX5_isNoTrade 28 = .ok (.ireturn, 1) := by decide +kernel
def tbX5_isNoTrade (l : Launch) (K : aRs) (X : aXs) : aTb := [
  (0, sLd 0 1 isR),
  (1, sLd 1 2 isI),
  (2, sPush (aI 0) 3),
  (3, sLd 0 4 isR),
  (4, sGetI 5 13 7),
  (7, sPush (aI 50) 9),
  (9, sCallS 2 (fun as μ K => Ct l mdX5_lesser as μ K X) 12 0 0),
  (12, sPush (aI 1) 13),
  (13, sBin fSub 14),
  (14, sCallS 3 (fun as μ K => Ct l mdX5_in as μ K X) 17 0 0),
  (17, sIf pEq 24 20),
  (20, sPush (aI 0) 21),
  (21, sGoto 25),
  (24, sPush (aI 1) 25),
  (25, sCallV 1 5 (fun as μ K => Ct l mdX5_fails as μ K X) 28 0 0),
  (28, sRetI .boolean 0 K)]
theorem snX5_isNoTrade (l : Launch) (K : aRs) (X : aXs) (n0 : Nat) : ∀ q ∈ tbX5_isNoTrade l K X, aSo l mdX5_isNoTrade K X n0 q.1 q.2 :=
  tc (fun p e s m args below meth c cA D A ad0 h => ok_aload_n h.1 0 rfl dX5_isNoTrade_0) <|
  tc (fun p e s m args below meth c cA D A ad0 h => ok_iload_n h.1 1 rfl dX5_isNoTrade_1) <|
  tc (fun p e s m args below meth c cA D A ad0 h => ok_iconst h.1 ⟨by decide, by decide⟩ dX5_isNoTrade_2) <|
  tc (fun p e s m args below meth c cA D A ad0 h => ok_aload_n h.1 0 rfl dX5_isNoTrade_3) <|
  tc (fun p e s m args below meth c cA D A ad0 h => ok_getI h.1 cxX5 (by decide) rfl fkRX5_90 (fun _ _ _ => rfl) dX5_isNoTrade_4) <|
  tc (fun p e s m args below meth c cA D A ad0 h => ok_bipush h.1 ⟨by decide, by decide⟩ (by decide) dX5_isNoTrade_7) <|
  tc (fun p e s m args below meth c cA D A ad0 h => ok_callS h.1 h.2.1 ⟨Nat.le_refl _, Nat.le_refl _⟩ mdX5_lesser siX5_lesser mkRX5_79 stX5_lesser ⟨by decide, by decide⟩ (aAx_out h.1 h.2.2.1 _) dX5_isNoTrade_9) <|
  tc (fun p e s m args below meth c cA D A ad0 h => ok_iconst h.1 ⟨by decide, by decide⟩ dX5_isNoTrade_12) <|
  tc (fun p e s m args below meth c cA D A ad0 h => ok_isub h.1 dX5_isNoTrade_13) <|
  tc (fun p e s m args below meth c cA D A ad0 h => ok_callS h.1 h.2.1 ⟨Nat.le_refl _, Nat.le_refl _⟩ mdX5_in siX5_in mkRX5_64 stX5_in ⟨by decide, by decide⟩ (aAx_out h.1 h.2.2.1 _) dX5_isNoTrade_14) <|
  tc (fun p e s m args below meth c cA D A ad0 h => ok_if_eq h.1 24 (by decide) dX5_isNoTrade_17) <|
  tc (fun p e s m args below meth c cA D A ad0 h => ok_iconst h.1 ⟨by decide, by decide⟩ dX5_isNoTrade_20) <|
  tc (fun p e s m args below meth c cA D A ad0 h => ok_goto h.1 25 (by decide) dX5_isNoTrade_21) <|
  tc (fun p e s m args below meth c cA D A ad0 h => ok_iconst h.1 ⟨by decide, by decide⟩ dX5_isNoTrade_24) <|
  tc (fun p e s m args below meth c cA D A ad0 h => ok_callV h.1 h.2.1 ⟨Nat.le_refl _, Nat.le_refl _⟩ mdX5_fails siX5_fails cxX5 mkRX5_148 imX5_fails seX5_fails ⟨by decide, by decide⟩ (aAx_out h.1 h.2.2.1 _) dX5_isNoTrade_25) <|
  tc (fun p e s m args below meth c cA D A ad0 h => ok_ireturn h.1 h.2.2.2.1 (Or.inr (Or.inl rfl)) dX5_isNoTrade_28) <|
  tn
abbrev cuX5_isNoTrade : List Nat := [12, 17, 28]
theorem tX5_isNoTrade_0 (l : Launch) (K : aRs) (X : aXs) : tb (tbX5_isNoTrade l K X) 0 = sLd 0 1 isR := (rfl)
theorem wX5_isNoTrade_0 {l : Launch} {K : aRs} {X : aXs} {J : aK} {W : Nat → aK} (hW : isW (tbX5_isNoTrade l K X) cuX5_isNoTrade J W) (n : Nat) (ls st : List aV) (μ : aM) (g : Nat) : W (n + 1) 0 ls st μ g = (sLd 0 1 isR) (W n) ls st μ g := (hW n 0 ls st μ g).trans rfl
theorem wX5_isNoTrade_1 {l : Launch} {K : aRs} {X : aXs} {J : aK} {W : Nat → aK} (hW : isW (tbX5_isNoTrade l K X) cuX5_isNoTrade J W) (n : Nat) (ls st : List aV) (μ : aM) (g : Nat) : W (n + 1) 1 ls st μ g = (sLd 1 2 isI) (W n) ls st μ g := (hW n 1 ls st μ g).trans rfl
theorem wX5_isNoTrade_2 {l : Launch} {K : aRs} {X : aXs} {J : aK} {W : Nat → aK} (hW : isW (tbX5_isNoTrade l K X) cuX5_isNoTrade J W) (n : Nat) (ls st : List aV) (μ : aM) (g : Nat) : W (n + 1) 2 ls st μ g = (sPush (aI 0) 3) (W n) ls st μ g := (hW n 2 ls st μ g).trans rfl
theorem wX5_isNoTrade_3 {l : Launch} {K : aRs} {X : aXs} {J : aK} {W : Nat → aK} (hW : isW (tbX5_isNoTrade l K X) cuX5_isNoTrade J W) (n : Nat) (ls st : List aV) (μ : aM) (g : Nat) : W (n + 1) 3 ls st μ g = (sLd 0 4 isR) (W n) ls st μ g := (hW n 3 ls st μ g).trans rfl
theorem wX5_isNoTrade_4 {l : Launch} {K : aRs} {X : aXs} {J : aK} {W : Nat → aK} (hW : isW (tbX5_isNoTrade l K X) cuX5_isNoTrade J W) (n : Nat) (ls st : List aV) (μ : aM) (g : Nat) : W (n + 1) 4 ls st μ g = (sGetI 5 13 7) (W n) ls st μ g := (hW n 4 ls st μ g).trans rfl
theorem wX5_isNoTrade_7 {l : Launch} {K : aRs} {X : aXs} {J : aK} {W : Nat → aK} (hW : isW (tbX5_isNoTrade l K X) cuX5_isNoTrade J W) (n : Nat) (ls st : List aV) (μ : aM) (g : Nat) : W (n + 1) 7 ls st μ g = (sPush (aI 50) 9) (W n) ls st μ g := (hW n 7 ls st μ g).trans rfl
theorem wX5_isNoTrade_9 {l : Launch} {K : aRs} {X : aXs} {J : aK} {W : Nat → aK} (hW : isW (tbX5_isNoTrade l K X) cuX5_isNoTrade J W) (n : Nat) (ls st : List aV) (μ : aM) (g : Nat) : W (n + 1) 9 ls st μ g = (sCallS 2 (fun as μ K => Ct l mdX5_lesser as μ K X) 12 0 0) (W n) ls st μ g := (hW n 9 ls st μ g).trans rfl
theorem tX5_isNoTrade_12 (l : Launch) (K : aRs) (X : aXs) : tb (tbX5_isNoTrade l K X) 12 = sPush (aI 1) 13 := (rfl)
theorem wX5_isNoTrade_12 {l : Launch} {K : aRs} {X : aXs} {J : aK} {W : Nat → aK} (hW : isW (tbX5_isNoTrade l K X) cuX5_isNoTrade J W) (n : Nat) (ls st : List aV) (μ : aM) (g : Nat) : W (n + 1) 12 ls st μ g = J 12 ls st μ g := (hW n 12 ls st μ g).trans rfl
theorem wX5_isNoTrade_13 {l : Launch} {K : aRs} {X : aXs} {J : aK} {W : Nat → aK} (hW : isW (tbX5_isNoTrade l K X) cuX5_isNoTrade J W) (n : Nat) (ls st : List aV) (μ : aM) (g : Nat) : W (n + 1) 13 ls st μ g = (sBin fSub 14) (W n) ls st μ g := (hW n 13 ls st μ g).trans rfl
theorem wX5_isNoTrade_14 {l : Launch} {K : aRs} {X : aXs} {J : aK} {W : Nat → aK} (hW : isW (tbX5_isNoTrade l K X) cuX5_isNoTrade J W) (n : Nat) (ls st : List aV) (μ : aM) (g : Nat) : W (n + 1) 14 ls st μ g = (sCallS 3 (fun as μ K => Ct l mdX5_in as μ K X) 17 0 0) (W n) ls st μ g := (hW n 14 ls st μ g).trans rfl
theorem tX5_isNoTrade_17 (l : Launch) (K : aRs) (X : aXs) : tb (tbX5_isNoTrade l K X) 17 = sIf pEq 24 20 := (rfl)
theorem wX5_isNoTrade_17 {l : Launch} {K : aRs} {X : aXs} {J : aK} {W : Nat → aK} (hW : isW (tbX5_isNoTrade l K X) cuX5_isNoTrade J W) (n : Nat) (ls st : List aV) (μ : aM) (g : Nat) : W (n + 1) 17 ls st μ g = J 17 ls st μ g := (hW n 17 ls st μ g).trans rfl
theorem wX5_isNoTrade_20 {l : Launch} {K : aRs} {X : aXs} {J : aK} {W : Nat → aK} (hW : isW (tbX5_isNoTrade l K X) cuX5_isNoTrade J W) (n : Nat) (ls st : List aV) (μ : aM) (g : Nat) : W (n + 1) 20 ls st μ g = (sPush (aI 0) 21) (W n) ls st μ g := (hW n 20 ls st μ g).trans rfl
theorem wX5_isNoTrade_21 {l : Launch} {K : aRs} {X : aXs} {J : aK} {W : Nat → aK} (hW : isW (tbX5_isNoTrade l K X) cuX5_isNoTrade J W) (n : Nat) (ls st : List aV) (μ : aM) (g : Nat) : W (n + 1) 21 ls st μ g = (sGoto 25) (W n) ls st μ g := (hW n 21 ls st μ g).trans rfl
theorem wX5_isNoTrade_24 {l : Launch} {K : aRs} {X : aXs} {J : aK} {W : Nat → aK} (hW : isW (tbX5_isNoTrade l K X) cuX5_isNoTrade J W) (n : Nat) (ls st : List aV) (μ : aM) (g : Nat) : W (n + 1) 24 ls st μ g = (sPush (aI 1) 25) (W n) ls st μ g := (hW n 24 ls st μ g).trans rfl
theorem wX5_isNoTrade_25 {l : Launch} {K : aRs} {X : aXs} {J : aK} {W : Nat → aK} (hW : isW (tbX5_isNoTrade l K X) cuX5_isNoTrade J W) (n : Nat) (ls st : List aV) (μ : aM) (g : Nat) : W (n + 1) 25 ls st μ g = (sCallV 1 5 (fun as μ K => Ct l mdX5_fails as μ K X) 28 0 0) (W n) ls st μ g := (hW n 25 ls st μ g).trans rfl
theorem tX5_isNoTrade_28 (l : Launch) (K : aRs) (X : aXs) : tb (tbX5_isNoTrade l K X) 28 = sRetI .boolean 0 K := (rfl)
theorem wX5_isNoTrade_28 {l : Launch} {K : aRs} {X : aXs} {J : aK} {W : Nat → aK} (hW : isW (tbX5_isNoTrade l K X) cuX5_isNoTrade J W) (n : Nat) (ls st : List aV) (μ : aM) (g : Nat) : W (n + 1) 28 ls st μ g = J 28 ls st μ g := (hW n 28 ls st μ g).trans rfl
theorem dX5_at_0 : decode cX5_at 0 = .ok (.aload_n 0, 1) := by decide +kernel
theorem dX5_at_1 : decode cX5_at 1 = .ok (.getfield 90, 3) := by decide +kernel
theorem dX5_at_4 : decode cX5_at 4 = .ok (.iconst 1, 1) := by decide +kernel
theorem dX5_at_5 : decode cX5_at 5 = .ok (.isub, 1) := by decide +kernel
theorem dX5_at_6 : decode cX5_at 6 = .ok (.iload_n 1, 1) := by decide +kernel
theorem dX5_at_7 : decode cX5_at 7 = .ok (.isub, 1) := by decide +kernel
theorem dX5_at_8 : decode cX5_at 8 = .ok (.bipush 50, 2) := by decide +kernel
theorem dX5_at_10 : decode cX5_at 10 = .ok (.irem, 1) := by decide +kernel
theorem dX5_at_11 : decode cX5_at 11 = .ok (.ireturn, 1) := by decide +kernel
def tbX5_at (l : Launch) (K : aRs) (X : aXs) : aTb := [
  (0, sLd 0 1 isR),
  (1, sGetI 5 13 4),
  (4, sPush (aI 1) 5),
  (5, sBin fSub 6),
  (6, sLd 1 7 isI),
  (7, sBin fSub 8),
  (8, sPush (aI 50) 10),
  (10, sRem 11),
  (11, sRetI .int 0 K)]
theorem snX5_at (l : Launch) (K : aRs) (X : aXs) (n0 : Nat) : ∀ q ∈ tbX5_at l K X, aSo l mdX5_at K X n0 q.1 q.2 :=
  tc (fun p e s m args below meth c cA D A ad0 h => ok_aload_n h.1 0 rfl dX5_at_0) <|
  tc (fun p e s m args below meth c cA D A ad0 h => ok_getI h.1 cxX5 (by decide) rfl fkRX5_90 (fun _ _ _ => rfl) dX5_at_1) <|
  tc (fun p e s m args below meth c cA D A ad0 h => ok_iconst h.1 ⟨by decide, by decide⟩ dX5_at_4) <|
  tc (fun p e s m args below meth c cA D A ad0 h => ok_isub h.1 dX5_at_5) <|
  tc (fun p e s m args below meth c cA D A ad0 h => ok_iload_n h.1 1 rfl dX5_at_6) <|
  tc (fun p e s m args below meth c cA D A ad0 h => ok_isub h.1 dX5_at_7) <|
  tc (fun p e s m args below meth c cA D A ad0 h => ok_bipush h.1 ⟨by decide, by decide⟩ (by decide) dX5_at_8) <|
  tc (fun p e s m args below meth c cA D A ad0 h => ok_irem h.1 dX5_at_10) <|
  tc (fun p e s m args below meth c cA D A ad0 h => ok_ireturn h.1 h.2.2.2.1 (Or.inl rfl) dX5_at_11) <|
  tn
abbrev cuX5_at : List Nat := []
theorem tX5_at_0 (l : Launch) (K : aRs) (X : aXs) : tb (tbX5_at l K X) 0 = sLd 0 1 isR := (rfl)
theorem wX5_at_0 {l : Launch} {K : aRs} {X : aXs} {J : aK} {W : Nat → aK} (hW : isW (tbX5_at l K X) cuX5_at J W) (n : Nat) (ls st : List aV) (μ : aM) (g : Nat) : W (n + 1) 0 ls st μ g = (sLd 0 1 isR) (W n) ls st μ g := (hW n 0 ls st μ g).trans rfl
theorem wX5_at_1 {l : Launch} {K : aRs} {X : aXs} {J : aK} {W : Nat → aK} (hW : isW (tbX5_at l K X) cuX5_at J W) (n : Nat) (ls st : List aV) (μ : aM) (g : Nat) : W (n + 1) 1 ls st μ g = (sGetI 5 13 4) (W n) ls st μ g := (hW n 1 ls st μ g).trans rfl
theorem wX5_at_4 {l : Launch} {K : aRs} {X : aXs} {J : aK} {W : Nat → aK} (hW : isW (tbX5_at l K X) cuX5_at J W) (n : Nat) (ls st : List aV) (μ : aM) (g : Nat) : W (n + 1) 4 ls st μ g = (sPush (aI 1) 5) (W n) ls st μ g := (hW n 4 ls st μ g).trans rfl
theorem wX5_at_5 {l : Launch} {K : aRs} {X : aXs} {J : aK} {W : Nat → aK} (hW : isW (tbX5_at l K X) cuX5_at J W) (n : Nat) (ls st : List aV) (μ : aM) (g : Nat) : W (n + 1) 5 ls st μ g = (sBin fSub 6) (W n) ls st μ g := (hW n 5 ls st μ g).trans rfl
theorem wX5_at_6 {l : Launch} {K : aRs} {X : aXs} {J : aK} {W : Nat → aK} (hW : isW (tbX5_at l K X) cuX5_at J W) (n : Nat) (ls st : List aV) (μ : aM) (g : Nat) : W (n + 1) 6 ls st μ g = (sLd 1 7 isI) (W n) ls st μ g := (hW n 6 ls st μ g).trans rfl
theorem wX5_at_7 {l : Launch} {K : aRs} {X : aXs} {J : aK} {W : Nat → aK} (hW : isW (tbX5_at l K X) cuX5_at J W) (n : Nat) (ls st : List aV) (μ : aM) (g : Nat) : W (n + 1) 7 ls st μ g = (sBin fSub 8) (W n) ls st μ g := (hW n 7 ls st μ g).trans rfl
theorem wX5_at_8 {l : Launch} {K : aRs} {X : aXs} {J : aK} {W : Nat → aK} (hW : isW (tbX5_at l K X) cuX5_at J W) (n : Nat) (ls st : List aV) (μ : aM) (g : Nat) : W (n + 1) 8 ls st μ g = (sPush (aI 50) 10) (W n) ls st μ g := (hW n 8 ls st μ g).trans rfl
theorem wX5_at_10 {l : Launch} {K : aRs} {X : aXs} {J : aK} {W : Nat → aK} (hW : isW (tbX5_at l K X) cuX5_at J W) (n : Nat) (ls st : List aV) (μ : aM) (g : Nat) : W (n + 1) 10 ls st μ g = (sRem 11) (W n) ls st μ g := (hW n 10 ls st μ g).trans rfl
theorem wX5_at_11 {l : Launch} {K : aRs} {X : aXs} {J : aK} {W : Nat → aK} (hW : isW (tbX5_at l K X) cuX5_at J W) (n : Nat) (ls st : List aV) (μ : aM) (g : Nat) : W (n + 1) 11 ls st μ g = (sRetI .int 0 K) (W n) ls st μ g := (hW n 11 ls st μ g).trans rfl
theorem dX5_tradePrice_0 : decode cX5_tradePrice 0 = .ok (.aload_n 0, 1) := by decide +kernel
theorem dX5_tradePrice_1 : decode cX5_tradePrice 1 = .ok (.iload_n 1, 1) := by decide +kernel
theorem dX5_tradePrice_2 : decode cX5_tradePrice 2 = .ok (.invokevirtual 199, 3) := by decide +kernel
theorem dX5_tradePrice_5 : decode cX5_tradePrice 5 = .ok (.ifCond .eq 7, 3) := by decide +kernel
theorem dX5_tradePrice_8 : decode cX5_tradePrice 8 = .ok (.iconst 0, 1) := by decide +kernel
theorem dX5_tradePrice_9 : decode cX5_tradePrice 9 = .ok (.goto 13, 3) := by decide +kernel
theorem dX5_tradePrice_12 : decode cX5_tradePrice 12 = .ok (.aload_n 0, 1) := by decide +kernel
theorem dX5_tradePrice_13 : decode cX5_tradePrice 13 = .ok (.getfield 44, 3) := by decide +kernel
theorem dX5_tradePrice_16 : decode cX5_tradePrice 16 = .ok (.aload_n 0, 1) := by decide +kernel
theorem dX5_tradePrice_17 : decode cX5_tradePrice 17 = .ok (.iload_n 1, 1) := by decide +kernel
theorem dX5_tradePrice_18 : decode cX5_tradePrice 18 = .ok (.invokevirtual 202, 3) := by decide +kernel
theorem dX5_tradePrice_21 : decode cX5_tradePrice 21 = .ok (.iaload, 1) := by decide +kernel
theorem dX5_tradePrice_22 : decode cX5_tradePrice 22 = .ok (.ireturn, 1) := by decide +kernel
def tbX5_tradePrice (l : Launch) (K : aRs) (X : aXs) : aTb := [
  (0, sLd 0 1 isR),
  (1, sLd 1 2 isI),
  (2, sCallV 1 5 (fun as μ K => Ct l mdX5_isNoTrade as μ K X) 5 0 0),
  (5, sIf pEq 12 8),
  (8, sPush (aI 0) 9),
  (9, sGoto 22),
  (12, sLd 0 13 isR),
  (13, sGetR 5 14 16),
  (16, sLd 0 17 isR),
  (17, sLd 1 18 isI),
  (18, sCallV 1 5 (fun as μ K => Ct l mdX5_at as μ K X) 21 0 0),
  (21, sAldI 7 22),
  (22, sRetI .int 0 K)]
theorem snX5_tradePrice (l : Launch) (K : aRs) (X : aXs) (n0 : Nat) : ∀ q ∈ tbX5_tradePrice l K X, aSo l mdX5_tradePrice K X n0 q.1 q.2 :=
  tc (fun p e s m args below meth c cA D A ad0 h => ok_aload_n h.1 0 rfl dX5_tradePrice_0) <|
  tc (fun p e s m args below meth c cA D A ad0 h => ok_iload_n h.1 1 rfl dX5_tradePrice_1) <|
  tc (fun p e s m args below meth c cA D A ad0 h => ok_callV h.1 h.2.1 ⟨Nat.le_refl _, Nat.le_refl _⟩ mdX5_isNoTrade siX5_isNoTrade cxX5 mkRX5_199 imX5_isNoTrade seX5_isNoTrade ⟨by decide, by decide⟩ (aAx_out h.1 h.2.2.1 _) dX5_tradePrice_2) <|
  tc (fun p e s m args below meth c cA D A ad0 h => ok_if_eq h.1 12 (by decide) dX5_tradePrice_5) <|
  tc (fun p e s m args below meth c cA D A ad0 h => ok_iconst h.1 ⟨by decide, by decide⟩ dX5_tradePrice_8) <|
  tc (fun p e s m args below meth c cA D A ad0 h => ok_goto h.1 22 (by decide) dX5_tradePrice_9) <|
  tc (fun p e s m args below meth c cA D A ad0 h => ok_aload_n h.1 0 rfl dX5_tradePrice_12) <|
  tc (fun p e s m args below meth c cA D A ad0 h => ok_getR h.1 cxX5 (by decide) rfl fkRX5_44 (fun _ _ _ => rfl) dX5_tradePrice_13) <|
  tc (fun p e s m args below meth c cA D A ad0 h => ok_aload_n h.1 0 rfl dX5_tradePrice_16) <|
  tc (fun p e s m args below meth c cA D A ad0 h => ok_iload_n h.1 1 rfl dX5_tradePrice_17) <|
  tc (fun p e s m args below meth c cA D A ad0 h => ok_callV h.1 h.2.1 ⟨Nat.le_refl _, Nat.le_refl _⟩ mdX5_at siX5_at cxX5 mkRX5_202 imX5_at seX5_at ⟨by decide, by decide⟩ (aAx_out h.1 h.2.2.1 _) dX5_tradePrice_18) <|
  tc (fun p e s m args below meth c cA D A ad0 h => ok_iald h.1 dX5_tradePrice_21) <|
  tc (fun p e s m args below meth c cA D A ad0 h => ok_ireturn h.1 h.2.2.2.1 (Or.inl rfl) dX5_tradePrice_22) <|
  tn
abbrev cuX5_tradePrice : List Nat := [5, 21]
theorem tX5_tradePrice_0 (l : Launch) (K : aRs) (X : aXs) : tb (tbX5_tradePrice l K X) 0 = sLd 0 1 isR := (rfl)
theorem wX5_tradePrice_0 {l : Launch} {K : aRs} {X : aXs} {J : aK} {W : Nat → aK} (hW : isW (tbX5_tradePrice l K X) cuX5_tradePrice J W) (n : Nat) (ls st : List aV) (μ : aM) (g : Nat) : W (n + 1) 0 ls st μ g = (sLd 0 1 isR) (W n) ls st μ g := (hW n 0 ls st μ g).trans rfl
theorem wX5_tradePrice_1 {l : Launch} {K : aRs} {X : aXs} {J : aK} {W : Nat → aK} (hW : isW (tbX5_tradePrice l K X) cuX5_tradePrice J W) (n : Nat) (ls st : List aV) (μ : aM) (g : Nat) : W (n + 1) 1 ls st μ g = (sLd 1 2 isI) (W n) ls st μ g := (hW n 1 ls st μ g).trans rfl
theorem wX5_tradePrice_2 {l : Launch} {K : aRs} {X : aXs} {J : aK} {W : Nat → aK} (hW : isW (tbX5_tradePrice l K X) cuX5_tradePrice J W) (n : Nat) (ls st : List aV) (μ : aM) (g : Nat) : W (n + 1) 2 ls st μ g = (sCallV 1 5 (fun as μ K => Ct l mdX5_isNoTrade as μ K X) 5 0 0) (W n) ls st μ g := (hW n 2 ls st μ g).trans rfl
theorem tX5_tradePrice_5 (l : Launch) (K : aRs) (X : aXs) : tb (tbX5_tradePrice l K X) 5 = sIf pEq 12 8 := (rfl)
theorem wX5_tradePrice_5 {l : Launch} {K : aRs} {X : aXs} {J : aK} {W : Nat → aK} (hW : isW (tbX5_tradePrice l K X) cuX5_tradePrice J W) (n : Nat) (ls st : List aV) (μ : aM) (g : Nat) : W (n + 1) 5 ls st μ g = J 5 ls st μ g := (hW n 5 ls st μ g).trans rfl
theorem wX5_tradePrice_8 {l : Launch} {K : aRs} {X : aXs} {J : aK} {W : Nat → aK} (hW : isW (tbX5_tradePrice l K X) cuX5_tradePrice J W) (n : Nat) (ls st : List aV) (μ : aM) (g : Nat) : W (n + 1) 8 ls st μ g = (sPush (aI 0) 9) (W n) ls st μ g := (hW n 8 ls st μ g).trans rfl
theorem wX5_tradePrice_9 {l : Launch} {K : aRs} {X : aXs} {J : aK} {W : Nat → aK} (hW : isW (tbX5_tradePrice l K X) cuX5_tradePrice J W) (n : Nat) (ls st : List aV) (μ : aM) (g : Nat) : W (n + 1) 9 ls st μ g = (sGoto 22) (W n) ls st μ g := (hW n 9 ls st μ g).trans rfl
theorem wX5_tradePrice_12 {l : Launch} {K : aRs} {X : aXs} {J : aK} {W : Nat → aK} (hW : isW (tbX5_tradePrice l K X) cuX5_tradePrice J W) (n : Nat) (ls st : List aV) (μ : aM) (g : Nat) : W (n + 1) 12 ls st μ g = (sLd 0 13 isR) (W n) ls st μ g := (hW n 12 ls st μ g).trans rfl
theorem wX5_tradePrice_13 {l : Launch} {K : aRs} {X : aXs} {J : aK} {W : Nat → aK} (hW : isW (tbX5_tradePrice l K X) cuX5_tradePrice J W) (n : Nat) (ls st : List aV) (μ : aM) (g : Nat) : W (n + 1) 13 ls st μ g = (sGetR 5 14 16) (W n) ls st μ g := (hW n 13 ls st μ g).trans rfl
theorem wX5_tradePrice_16 {l : Launch} {K : aRs} {X : aXs} {J : aK} {W : Nat → aK} (hW : isW (tbX5_tradePrice l K X) cuX5_tradePrice J W) (n : Nat) (ls st : List aV) (μ : aM) (g : Nat) : W (n + 1) 16 ls st μ g = (sLd 0 17 isR) (W n) ls st μ g := (hW n 16 ls st μ g).trans rfl
theorem wX5_tradePrice_17 {l : Launch} {K : aRs} {X : aXs} {J : aK} {W : Nat → aK} (hW : isW (tbX5_tradePrice l K X) cuX5_tradePrice J W) (n : Nat) (ls st : List aV) (μ : aM) (g : Nat) : W (n + 1) 17 ls st μ g = (sLd 1 18 isI) (W n) ls st μ g := (hW n 17 ls st μ g).trans rfl
theorem wX5_tradePrice_18 {l : Launch} {K : aRs} {X : aXs} {J : aK} {W : Nat → aK} (hW : isW (tbX5_tradePrice l K X) cuX5_tradePrice J W) (n : Nat) (ls st : List aV) (μ : aM) (g : Nat) : W (n + 1) 18 ls st μ g = (sCallV 1 5 (fun as μ K => Ct l mdX5_at as μ K X) 21 0 0) (W n) ls st μ g := (hW n 18 ls st μ g).trans rfl
theorem tX5_tradePrice_21 (l : Launch) (K : aRs) (X : aXs) : tb (tbX5_tradePrice l K X) 21 = sAldI 7 22 := (rfl)
theorem wX5_tradePrice_21 {l : Launch} {K : aRs} {X : aXs} {J : aK} {W : Nat → aK} (hW : isW (tbX5_tradePrice l K X) cuX5_tradePrice J W) (n : Nat) (ls st : List aV) (μ : aM) (g : Nat) : W (n + 1) 21 ls st μ g = J 21 ls st μ g := (hW n 21 ls st μ g).trans rfl
theorem wX5_tradePrice_22 {l : Launch} {K : aRs} {X : aXs} {J : aK} {W : Nat → aK} (hW : isW (tbX5_tradePrice l K X) cuX5_tradePrice J W) (n : Nat) (ls st : List aV) (μ : aM) (g : Nat) : W (n + 1) 22 ls st μ g = (sRetI .int 0 K) (W n) ls st μ g := (hW n 22 ls st μ g).trans rfl
theorem dX5_tradeAmount_0 : decode cX5_tradeAmount 0 = .ok (.aload_n 0, 1) := by decide +kernel
theorem dX5_tradeAmount_1 : decode cX5_tradeAmount 1 = .ok (.iload_n 1, 1) := by decide +kernel
theorem dX5_tradeAmount_2 : decode cX5_tradeAmount 2 = .ok (.invokevirtual 199, 3) := by decide +kernel
theorem dX5_tradeAmount_5 : decode cX5_tradeAmount 5 = .ok (.ifCond .eq 7, 3) := by decide +kernel
theorem dX5_tradeAmount_8 : decode cX5_tradeAmount 8 = .ok (.iconst 0, 1) := by decide +kernel
theorem dX5_tradeAmount_9 : decode cX5_tradeAmount 9 = .ok (.goto 13, 3) := by decide +kernel
theorem dX5_tradeAmount_12 : decode cX5_tradeAmount 12 = .ok (.aload_n 0, 1) := by decide +kernel
theorem dX5_tradeAmount_13 : decode cX5_tradeAmount 13 = .ok (.getfield 47, 3) := by decide +kernel
theorem dX5_tradeAmount_16 : decode cX5_tradeAmount 16 = .ok (.aload_n 0, 1) := by decide +kernel
theorem dX5_tradeAmount_17 : decode cX5_tradeAmount 17 = .ok (.iload_n 1, 1) := by decide +kernel
theorem dX5_tradeAmount_18 : decode cX5_tradeAmount 18 = .ok (.invokevirtual 202, 3) := by decide +kernel
theorem dX5_tradeAmount_21 : decode cX5_tradeAmount 21 = .ok (.iaload, 1) := by decide +kernel
theorem dX5_tradeAmount_22 : decode cX5_tradeAmount 22 = .ok (.ireturn, 1) := by decide +kernel
def tbX5_tradeAmount (l : Launch) (K : aRs) (X : aXs) : aTb := [
  (0, sLd 0 1 isR),
  (1, sLd 1 2 isI),
  (2, sCallV 1 5 (fun as μ K => Ct l mdX5_isNoTrade as μ K X) 5 0 0),
  (5, sIf pEq 12 8),
  (8, sPush (aI 0) 9),
  (9, sGoto 22),
  (12, sLd 0 13 isR),
  (13, sGetR 5 15 16),
  (16, sLd 0 17 isR),
  (17, sLd 1 18 isI),
  (18, sCallV 1 5 (fun as μ K => Ct l mdX5_at as μ K X) 21 0 0),
  (21, sAldI 7 22),
  (22, sRetI .int 0 K)]
theorem snX5_tradeAmount (l : Launch) (K : aRs) (X : aXs) (n0 : Nat) : ∀ q ∈ tbX5_tradeAmount l K X, aSo l mdX5_tradeAmount K X n0 q.1 q.2 :=
  tc (fun p e s m args below meth c cA D A ad0 h => ok_aload_n h.1 0 rfl dX5_tradeAmount_0) <|
  tc (fun p e s m args below meth c cA D A ad0 h => ok_iload_n h.1 1 rfl dX5_tradeAmount_1) <|
  tc (fun p e s m args below meth c cA D A ad0 h => ok_callV h.1 h.2.1 ⟨Nat.le_refl _, Nat.le_refl _⟩ mdX5_isNoTrade siX5_isNoTrade cxX5 mkRX5_199 imX5_isNoTrade seX5_isNoTrade ⟨by decide, by decide⟩ (aAx_out h.1 h.2.2.1 _) dX5_tradeAmount_2) <|
  tc (fun p e s m args below meth c cA D A ad0 h => ok_if_eq h.1 12 (by decide) dX5_tradeAmount_5) <|
  tc (fun p e s m args below meth c cA D A ad0 h => ok_iconst h.1 ⟨by decide, by decide⟩ dX5_tradeAmount_8) <|
  tc (fun p e s m args below meth c cA D A ad0 h => ok_goto h.1 22 (by decide) dX5_tradeAmount_9) <|
  tc (fun p e s m args below meth c cA D A ad0 h => ok_aload_n h.1 0 rfl dX5_tradeAmount_12) <|
  tc (fun p e s m args below meth c cA D A ad0 h => ok_getR h.1 cxX5 (by decide) rfl fkRX5_47 (fun _ _ _ => rfl) dX5_tradeAmount_13) <|
  tc (fun p e s m args below meth c cA D A ad0 h => ok_aload_n h.1 0 rfl dX5_tradeAmount_16) <|
  tc (fun p e s m args below meth c cA D A ad0 h => ok_iload_n h.1 1 rfl dX5_tradeAmount_17) <|
  tc (fun p e s m args below meth c cA D A ad0 h => ok_callV h.1 h.2.1 ⟨Nat.le_refl _, Nat.le_refl _⟩ mdX5_at siX5_at cxX5 mkRX5_202 imX5_at seX5_at ⟨by decide, by decide⟩ (aAx_out h.1 h.2.2.1 _) dX5_tradeAmount_18) <|
  tc (fun p e s m args below meth c cA D A ad0 h => ok_iald h.1 dX5_tradeAmount_21) <|
  tc (fun p e s m args below meth c cA D A ad0 h => ok_ireturn h.1 h.2.2.2.1 (Or.inl rfl) dX5_tradeAmount_22) <|
  tn
abbrev cuX5_tradeAmount : List Nat := [5, 21]
theorem tX5_tradeAmount_0 (l : Launch) (K : aRs) (X : aXs) : tb (tbX5_tradeAmount l K X) 0 = sLd 0 1 isR := (rfl)
theorem wX5_tradeAmount_0 {l : Launch} {K : aRs} {X : aXs} {J : aK} {W : Nat → aK} (hW : isW (tbX5_tradeAmount l K X) cuX5_tradeAmount J W) (n : Nat) (ls st : List aV) (μ : aM) (g : Nat) : W (n + 1) 0 ls st μ g = (sLd 0 1 isR) (W n) ls st μ g := (hW n 0 ls st μ g).trans rfl
theorem wX5_tradeAmount_1 {l : Launch} {K : aRs} {X : aXs} {J : aK} {W : Nat → aK} (hW : isW (tbX5_tradeAmount l K X) cuX5_tradeAmount J W) (n : Nat) (ls st : List aV) (μ : aM) (g : Nat) : W (n + 1) 1 ls st μ g = (sLd 1 2 isI) (W n) ls st μ g := (hW n 1 ls st μ g).trans rfl
theorem wX5_tradeAmount_2 {l : Launch} {K : aRs} {X : aXs} {J : aK} {W : Nat → aK} (hW : isW (tbX5_tradeAmount l K X) cuX5_tradeAmount J W) (n : Nat) (ls st : List aV) (μ : aM) (g : Nat) : W (n + 1) 2 ls st μ g = (sCallV 1 5 (fun as μ K => Ct l mdX5_isNoTrade as μ K X) 5 0 0) (W n) ls st μ g := (hW n 2 ls st μ g).trans rfl
theorem tX5_tradeAmount_5 (l : Launch) (K : aRs) (X : aXs) : tb (tbX5_tradeAmount l K X) 5 = sIf pEq 12 8 := (rfl)
theorem wX5_tradeAmount_5 {l : Launch} {K : aRs} {X : aXs} {J : aK} {W : Nat → aK} (hW : isW (tbX5_tradeAmount l K X) cuX5_tradeAmount J W) (n : Nat) (ls st : List aV) (μ : aM) (g : Nat) : W (n + 1) 5 ls st μ g = J 5 ls st μ g := (hW n 5 ls st μ g).trans rfl
theorem wX5_tradeAmount_8 {l : Launch} {K : aRs} {X : aXs} {J : aK} {W : Nat → aK} (hW : isW (tbX5_tradeAmount l K X) cuX5_tradeAmount J W) (n : Nat) (ls st : List aV) (μ : aM) (g : Nat) : W (n + 1) 8 ls st μ g = (sPush (aI 0) 9) (W n) ls st μ g := (hW n 8 ls st μ g).trans rfl
theorem wX5_tradeAmount_9 {l : Launch} {K : aRs} {X : aXs} {J : aK} {W : Nat → aK} (hW : isW (tbX5_tradeAmount l K X) cuX5_tradeAmount J W) (n : Nat) (ls st : List aV) (μ : aM) (g : Nat) : W (n + 1) 9 ls st μ g = (sGoto 22) (W n) ls st μ g := (hW n 9 ls st μ g).trans rfl
theorem wX5_tradeAmount_12 {l : Launch} {K : aRs} {X : aXs} {J : aK} {W : Nat → aK} (hW : isW (tbX5_tradeAmount l K X) cuX5_tradeAmount J W) (n : Nat) (ls st : List aV) (μ : aM) (g : Nat) : W (n + 1) 12 ls st μ g = (sLd 0 13 isR) (W n) ls st μ g := (hW n 12 ls st μ g).trans rfl
theorem wX5_tradeAmount_13 {l : Launch} {K : aRs} {X : aXs} {J : aK} {W : Nat → aK} (hW : isW (tbX5_tradeAmount l K X) cuX5_tradeAmount J W) (n : Nat) (ls st : List aV) (μ : aM) (g : Nat) : W (n + 1) 13 ls st μ g = (sGetR 5 15 16) (W n) ls st μ g := (hW n 13 ls st μ g).trans rfl
theorem wX5_tradeAmount_16 {l : Launch} {K : aRs} {X : aXs} {J : aK} {W : Nat → aK} (hW : isW (tbX5_tradeAmount l K X) cuX5_tradeAmount J W) (n : Nat) (ls st : List aV) (μ : aM) (g : Nat) : W (n + 1) 16 ls st μ g = (sLd 0 17 isR) (W n) ls st μ g := (hW n 16 ls st μ g).trans rfl
theorem wX5_tradeAmount_17 {l : Launch} {K : aRs} {X : aXs} {J : aK} {W : Nat → aK} (hW : isW (tbX5_tradeAmount l K X) cuX5_tradeAmount J W) (n : Nat) (ls st : List aV) (μ : aM) (g : Nat) : W (n + 1) 17 ls st μ g = (sLd 1 18 isI) (W n) ls st μ g := (hW n 17 ls st μ g).trans rfl
theorem wX5_tradeAmount_18 {l : Launch} {K : aRs} {X : aXs} {J : aK} {W : Nat → aK} (hW : isW (tbX5_tradeAmount l K X) cuX5_tradeAmount J W) (n : Nat) (ls st : List aV) (μ : aM) (g : Nat) : W (n + 1) 18 ls st μ g = (sCallV 1 5 (fun as μ K => Ct l mdX5_at as μ K X) 21 0 0) (W n) ls st μ g := (hW n 18 ls st μ g).trans rfl
theorem tX5_tradeAmount_21 (l : Launch) (K : aRs) (X : aXs) : tb (tbX5_tradeAmount l K X) 21 = sAldI 7 22 := (rfl)
theorem wX5_tradeAmount_21 {l : Launch} {K : aRs} {X : aXs} {J : aK} {W : Nat → aK} (hW : isW (tbX5_tradeAmount l K X) cuX5_tradeAmount J W) (n : Nat) (ls st : List aV) (μ : aM) (g : Nat) : W (n + 1) 21 ls st μ g = J 21 ls st μ g := (hW n 21 ls st μ g).trans rfl
theorem wX5_tradeAmount_22 {l : Launch} {K : aRs} {X : aXs} {J : aK} {W : Nat → aK} (hW : isW (tbX5_tradeAmount l K X) cuX5_tradeAmount J W) (n : Nat) (ls st : List aV) (μ : aM) (g : Nat) : W (n + 1) 22 ls st μ g = (sRetI .int 0 K) (W n) ls st μ g := (hW n 22 ls st μ g).trans rfl
theorem dX5_tradeBuyer_0 : decode cX5_tradeBuyer 0 = .ok (.aload_n 0, 1) := by decide +kernel
theorem dX5_tradeBuyer_1 : decode cX5_tradeBuyer 1 = .ok (.iload_n 1, 1) := by decide +kernel
theorem dX5_tradeBuyer_2 : decode cX5_tradeBuyer 2 = .ok (.invokevirtual 199, 3) := by decide +kernel
theorem dX5_tradeBuyer_5 : decode cX5_tradeBuyer 5 = .ok (.ifCond .eq 7, 3) := by decide +kernel
theorem dX5_tradeBuyer_8 : decode cX5_tradeBuyer 8 = .ok (.iconst 0, 1) := by decide +kernel
theorem dX5_tradeBuyer_9 : decode cX5_tradeBuyer 9 = .ok (.goto 13, 3) := by decide +kernel
theorem dX5_tradeBuyer_12 : decode cX5_tradeBuyer 12 = .ok (.aload_n 0, 1) := by decide +kernel
theorem dX5_tradeBuyer_13 : decode cX5_tradeBuyer 13 = .ok (.getfield 50, 3) := by decide +kernel
theorem dX5_tradeBuyer_16 : decode cX5_tradeBuyer 16 = .ok (.aload_n 0, 1) := by decide +kernel
theorem dX5_tradeBuyer_17 : decode cX5_tradeBuyer 17 = .ok (.iload_n 1, 1) := by decide +kernel
theorem dX5_tradeBuyer_18 : decode cX5_tradeBuyer 18 = .ok (.invokevirtual 202, 3) := by decide +kernel
theorem dX5_tradeBuyer_21 : decode cX5_tradeBuyer 21 = .ok (.iaload, 1) := by decide +kernel
theorem dX5_tradeBuyer_22 : decode cX5_tradeBuyer 22 = .ok (.ireturn, 1) := by decide +kernel
def tbX5_tradeBuyer (l : Launch) (K : aRs) (X : aXs) : aTb := [
  (0, sLd 0 1 isR),
  (1, sLd 1 2 isI),
  (2, sCallV 1 5 (fun as μ K => Ct l mdX5_isNoTrade as μ K X) 5 0 0),
  (5, sIf pEq 12 8),
  (8, sPush (aI 0) 9),
  (9, sGoto 22),
  (12, sLd 0 13 isR),
  (13, sGetR 5 16 16),
  (16, sLd 0 17 isR),
  (17, sLd 1 18 isI),
  (18, sCallV 1 5 (fun as μ K => Ct l mdX5_at as μ K X) 21 0 0),
  (21, sAldI 7 22),
  (22, sRetI .int 0 K)]
theorem snX5_tradeBuyer (l : Launch) (K : aRs) (X : aXs) (n0 : Nat) : ∀ q ∈ tbX5_tradeBuyer l K X, aSo l mdX5_tradeBuyer K X n0 q.1 q.2 :=
  tc (fun p e s m args below meth c cA D A ad0 h => ok_aload_n h.1 0 rfl dX5_tradeBuyer_0) <|
  tc (fun p e s m args below meth c cA D A ad0 h => ok_iload_n h.1 1 rfl dX5_tradeBuyer_1) <|
  tc (fun p e s m args below meth c cA D A ad0 h => ok_callV h.1 h.2.1 ⟨Nat.le_refl _, Nat.le_refl _⟩ mdX5_isNoTrade siX5_isNoTrade cxX5 mkRX5_199 imX5_isNoTrade seX5_isNoTrade ⟨by decide, by decide⟩ (aAx_out h.1 h.2.2.1 _) dX5_tradeBuyer_2) <|
  tc (fun p e s m args below meth c cA D A ad0 h => ok_if_eq h.1 12 (by decide) dX5_tradeBuyer_5) <|
  tc (fun p e s m args below meth c cA D A ad0 h => ok_iconst h.1 ⟨by decide, by decide⟩ dX5_tradeBuyer_8) <|
  tc (fun p e s m args below meth c cA D A ad0 h => ok_goto h.1 22 (by decide) dX5_tradeBuyer_9) <|
  tc (fun p e s m args below meth c cA D A ad0 h => ok_aload_n h.1 0 rfl dX5_tradeBuyer_12) <|
  tc (fun p e s m args below meth c cA D A ad0 h => ok_getR h.1 cxX5 (by decide) rfl fkRX5_50 (fun _ _ _ => rfl) dX5_tradeBuyer_13) <|
  tc (fun p e s m args below meth c cA D A ad0 h => ok_aload_n h.1 0 rfl dX5_tradeBuyer_16) <|
  tc (fun p e s m args below meth c cA D A ad0 h => ok_iload_n h.1 1 rfl dX5_tradeBuyer_17) <|
  tc (fun p e s m args below meth c cA D A ad0 h => ok_callV h.1 h.2.1 ⟨Nat.le_refl _, Nat.le_refl _⟩ mdX5_at siX5_at cxX5 mkRX5_202 imX5_at seX5_at ⟨by decide, by decide⟩ (aAx_out h.1 h.2.2.1 _) dX5_tradeBuyer_18) <|
  tc (fun p e s m args below meth c cA D A ad0 h => ok_iald h.1 dX5_tradeBuyer_21) <|
  tc (fun p e s m args below meth c cA D A ad0 h => ok_ireturn h.1 h.2.2.2.1 (Or.inl rfl) dX5_tradeBuyer_22) <|
  tn
abbrev cuX5_tradeBuyer : List Nat := [5, 21]
theorem tX5_tradeBuyer_0 (l : Launch) (K : aRs) (X : aXs) : tb (tbX5_tradeBuyer l K X) 0 = sLd 0 1 isR := (rfl)
theorem wX5_tradeBuyer_0 {l : Launch} {K : aRs} {X : aXs} {J : aK} {W : Nat → aK} (hW : isW (tbX5_tradeBuyer l K X) cuX5_tradeBuyer J W) (n : Nat) (ls st : List aV) (μ : aM) (g : Nat) : W (n + 1) 0 ls st μ g = (sLd 0 1 isR) (W n) ls st μ g := (hW n 0 ls st μ g).trans rfl
theorem wX5_tradeBuyer_1 {l : Launch} {K : aRs} {X : aXs} {J : aK} {W : Nat → aK} (hW : isW (tbX5_tradeBuyer l K X) cuX5_tradeBuyer J W) (n : Nat) (ls st : List aV) (μ : aM) (g : Nat) : W (n + 1) 1 ls st μ g = (sLd 1 2 isI) (W n) ls st μ g := (hW n 1 ls st μ g).trans rfl
theorem wX5_tradeBuyer_2 {l : Launch} {K : aRs} {X : aXs} {J : aK} {W : Nat → aK} (hW : isW (tbX5_tradeBuyer l K X) cuX5_tradeBuyer J W) (n : Nat) (ls st : List aV) (μ : aM) (g : Nat) : W (n + 1) 2 ls st μ g = (sCallV 1 5 (fun as μ K => Ct l mdX5_isNoTrade as μ K X) 5 0 0) (W n) ls st μ g := (hW n 2 ls st μ g).trans rfl
theorem tX5_tradeBuyer_5 (l : Launch) (K : aRs) (X : aXs) : tb (tbX5_tradeBuyer l K X) 5 = sIf pEq 12 8 := (rfl)
theorem wX5_tradeBuyer_5 {l : Launch} {K : aRs} {X : aXs} {J : aK} {W : Nat → aK} (hW : isW (tbX5_tradeBuyer l K X) cuX5_tradeBuyer J W) (n : Nat) (ls st : List aV) (μ : aM) (g : Nat) : W (n + 1) 5 ls st μ g = J 5 ls st μ g := (hW n 5 ls st μ g).trans rfl
theorem wX5_tradeBuyer_8 {l : Launch} {K : aRs} {X : aXs} {J : aK} {W : Nat → aK} (hW : isW (tbX5_tradeBuyer l K X) cuX5_tradeBuyer J W) (n : Nat) (ls st : List aV) (μ : aM) (g : Nat) : W (n + 1) 8 ls st μ g = (sPush (aI 0) 9) (W n) ls st μ g := (hW n 8 ls st μ g).trans rfl
theorem wX5_tradeBuyer_9 {l : Launch} {K : aRs} {X : aXs} {J : aK} {W : Nat → aK} (hW : isW (tbX5_tradeBuyer l K X) cuX5_tradeBuyer J W) (n : Nat) (ls st : List aV) (μ : aM) (g : Nat) : W (n + 1) 9 ls st μ g = (sGoto 22) (W n) ls st μ g := (hW n 9 ls st μ g).trans rfl
theorem wX5_tradeBuyer_12 {l : Launch} {K : aRs} {X : aXs} {J : aK} {W : Nat → aK} (hW : isW (tbX5_tradeBuyer l K X) cuX5_tradeBuyer J W) (n : Nat) (ls st : List aV) (μ : aM) (g : Nat) : W (n + 1) 12 ls st μ g = (sLd 0 13 isR) (W n) ls st μ g := (hW n 12 ls st μ g).trans rfl
theorem wX5_tradeBuyer_13 {l : Launch} {K : aRs} {X : aXs} {J : aK} {W : Nat → aK} (hW : isW (tbX5_tradeBuyer l K X) cuX5_tradeBuyer J W) (n : Nat) (ls st : List aV) (μ : aM) (g : Nat) : W (n + 1) 13 ls st μ g = (sGetR 5 16 16) (W n) ls st μ g := (hW n 13 ls st μ g).trans rfl
theorem wX5_tradeBuyer_16 {l : Launch} {K : aRs} {X : aXs} {J : aK} {W : Nat → aK} (hW : isW (tbX5_tradeBuyer l K X) cuX5_tradeBuyer J W) (n : Nat) (ls st : List aV) (μ : aM) (g : Nat) : W (n + 1) 16 ls st μ g = (sLd 0 17 isR) (W n) ls st μ g := (hW n 16 ls st μ g).trans rfl
theorem wX5_tradeBuyer_17 {l : Launch} {K : aRs} {X : aXs} {J : aK} {W : Nat → aK} (hW : isW (tbX5_tradeBuyer l K X) cuX5_tradeBuyer J W) (n : Nat) (ls st : List aV) (μ : aM) (g : Nat) : W (n + 1) 17 ls st μ g = (sLd 1 18 isI) (W n) ls st μ g := (hW n 17 ls st μ g).trans rfl
theorem wX5_tradeBuyer_18 {l : Launch} {K : aRs} {X : aXs} {J : aK} {W : Nat → aK} (hW : isW (tbX5_tradeBuyer l K X) cuX5_tradeBuyer J W) (n : Nat) (ls st : List aV) (μ : aM) (g : Nat) : W (n + 1) 18 ls st μ g = (sCallV 1 5 (fun as μ K => Ct l mdX5_at as μ K X) 21 0 0) (W n) ls st μ g := (hW n 18 ls st μ g).trans rfl
theorem tX5_tradeBuyer_21 (l : Launch) (K : aRs) (X : aXs) : tb (tbX5_tradeBuyer l K X) 21 = sAldI 7 22 := (rfl)
theorem wX5_tradeBuyer_21 {l : Launch} {K : aRs} {X : aXs} {J : aK} {W : Nat → aK} (hW : isW (tbX5_tradeBuyer l K X) cuX5_tradeBuyer J W) (n : Nat) (ls st : List aV) (μ : aM) (g : Nat) : W (n + 1) 21 ls st μ g = J 21 ls st μ g := (hW n 21 ls st μ g).trans rfl
theorem wX5_tradeBuyer_22 {l : Launch} {K : aRs} {X : aXs} {J : aK} {W : Nat → aK} (hW : isW (tbX5_tradeBuyer l K X) cuX5_tradeBuyer J W) (n : Nat) (ls st : List aV) (μ : aM) (g : Nat) : W (n + 1) 22 ls st μ g = (sRetI .int 0 K) (W n) ls st μ g := (hW n 22 ls st μ g).trans rfl
theorem dX5_tradeSeller_0 : decode cX5_tradeSeller 0 = .ok (.aload_n 0, 1) := by decide +kernel
theorem dX5_tradeSeller_1 : decode cX5_tradeSeller 1 = .ok (.iload_n 1, 1) := by decide +kernel
theorem dX5_tradeSeller_2 : decode cX5_tradeSeller 2 = .ok (.invokevirtual 199, 3) := by decide +kernel
theorem dX5_tradeSeller_5 : decode cX5_tradeSeller 5 = .ok (.ifCond .eq 7, 3) := by decide +kernel
theorem dX5_tradeSeller_8 : decode cX5_tradeSeller 8 = .ok (.iconst 0, 1) := by decide +kernel
theorem dX5_tradeSeller_9 : decode cX5_tradeSeller 9 = .ok (.goto 13, 3) := by decide +kernel
theorem dX5_tradeSeller_12 : decode cX5_tradeSeller 12 = .ok (.aload_n 0, 1) := by decide +kernel
theorem dX5_tradeSeller_13 : decode cX5_tradeSeller 13 = .ok (.getfield 53, 3) := by decide +kernel
theorem dX5_tradeSeller_16 : decode cX5_tradeSeller 16 = .ok (.aload_n 0, 1) := by decide +kernel
theorem dX5_tradeSeller_17 : decode cX5_tradeSeller 17 = .ok (.iload_n 1, 1) := by decide +kernel
theorem dX5_tradeSeller_18 : decode cX5_tradeSeller 18 = .ok (.invokevirtual 202, 3) := by decide +kernel
theorem dX5_tradeSeller_21 : decode cX5_tradeSeller 21 = .ok (.iaload, 1) := by decide +kernel
theorem dX5_tradeSeller_22 : decode cX5_tradeSeller 22 = .ok (.ireturn, 1) := by decide +kernel
def tbX5_tradeSeller (l : Launch) (K : aRs) (X : aXs) : aTb := [
  (0, sLd 0 1 isR),
  (1, sLd 1 2 isI),
  (2, sCallV 1 5 (fun as μ K => Ct l mdX5_isNoTrade as μ K X) 5 0 0),
  (5, sIf pEq 12 8),
  (8, sPush (aI 0) 9),
  (9, sGoto 22),
  (12, sLd 0 13 isR),
  (13, sGetR 5 17 16),
  (16, sLd 0 17 isR),
  (17, sLd 1 18 isI),
  (18, sCallV 1 5 (fun as μ K => Ct l mdX5_at as μ K X) 21 0 0),
  (21, sAldI 7 22),
  (22, sRetI .int 0 K)]
theorem snX5_tradeSeller (l : Launch) (K : aRs) (X : aXs) (n0 : Nat) : ∀ q ∈ tbX5_tradeSeller l K X, aSo l mdX5_tradeSeller K X n0 q.1 q.2 :=
  tc (fun p e s m args below meth c cA D A ad0 h => ok_aload_n h.1 0 rfl dX5_tradeSeller_0) <|
  tc (fun p e s m args below meth c cA D A ad0 h => ok_iload_n h.1 1 rfl dX5_tradeSeller_1) <|
  tc (fun p e s m args below meth c cA D A ad0 h => ok_callV h.1 h.2.1 ⟨Nat.le_refl _, Nat.le_refl _⟩ mdX5_isNoTrade siX5_isNoTrade cxX5 mkRX5_199 imX5_isNoTrade seX5_isNoTrade ⟨by decide, by decide⟩ (aAx_out h.1 h.2.2.1 _) dX5_tradeSeller_2) <|
  tc (fun p e s m args below meth c cA D A ad0 h => ok_if_eq h.1 12 (by decide) dX5_tradeSeller_5) <|
  tc (fun p e s m args below meth c cA D A ad0 h => ok_iconst h.1 ⟨by decide, by decide⟩ dX5_tradeSeller_8) <|
  tc (fun p e s m args below meth c cA D A ad0 h => ok_goto h.1 22 (by decide) dX5_tradeSeller_9) <|
  tc (fun p e s m args below meth c cA D A ad0 h => ok_aload_n h.1 0 rfl dX5_tradeSeller_12) <|
  tc (fun p e s m args below meth c cA D A ad0 h => ok_getR h.1 cxX5 (by decide) rfl fkRX5_53 (fun _ _ _ => rfl) dX5_tradeSeller_13) <|
  tc (fun p e s m args below meth c cA D A ad0 h => ok_aload_n h.1 0 rfl dX5_tradeSeller_16) <|
  tc (fun p e s m args below meth c cA D A ad0 h => ok_iload_n h.1 1 rfl dX5_tradeSeller_17) <|
  tc (fun p e s m args below meth c cA D A ad0 h => ok_callV h.1 h.2.1 ⟨Nat.le_refl _, Nat.le_refl _⟩ mdX5_at siX5_at cxX5 mkRX5_202 imX5_at seX5_at ⟨by decide, by decide⟩ (aAx_out h.1 h.2.2.1 _) dX5_tradeSeller_18) <|
  tc (fun p e s m args below meth c cA D A ad0 h => ok_iald h.1 dX5_tradeSeller_21) <|
  tc (fun p e s m args below meth c cA D A ad0 h => ok_ireturn h.1 h.2.2.2.1 (Or.inl rfl) dX5_tradeSeller_22) <|
  tn
abbrev cuX5_tradeSeller : List Nat := [5, 21]
theorem tX5_tradeSeller_0 (l : Launch) (K : aRs) (X : aXs) : tb (tbX5_tradeSeller l K X) 0 = sLd 0 1 isR := (rfl)
theorem wX5_tradeSeller_0 {l : Launch} {K : aRs} {X : aXs} {J : aK} {W : Nat → aK} (hW : isW (tbX5_tradeSeller l K X) cuX5_tradeSeller J W) (n : Nat) (ls st : List aV) (μ : aM) (g : Nat) : W (n + 1) 0 ls st μ g = (sLd 0 1 isR) (W n) ls st μ g := (hW n 0 ls st μ g).trans rfl
theorem wX5_tradeSeller_1 {l : Launch} {K : aRs} {X : aXs} {J : aK} {W : Nat → aK} (hW : isW (tbX5_tradeSeller l K X) cuX5_tradeSeller J W) (n : Nat) (ls st : List aV) (μ : aM) (g : Nat) : W (n + 1) 1 ls st μ g = (sLd 1 2 isI) (W n) ls st μ g := (hW n 1 ls st μ g).trans rfl
theorem wX5_tradeSeller_2 {l : Launch} {K : aRs} {X : aXs} {J : aK} {W : Nat → aK} (hW : isW (tbX5_tradeSeller l K X) cuX5_tradeSeller J W) (n : Nat) (ls st : List aV) (μ : aM) (g : Nat) : W (n + 1) 2 ls st μ g = (sCallV 1 5 (fun as μ K => Ct l mdX5_isNoTrade as μ K X) 5 0 0) (W n) ls st μ g := (hW n 2 ls st μ g).trans rfl
theorem tX5_tradeSeller_5 (l : Launch) (K : aRs) (X : aXs) : tb (tbX5_tradeSeller l K X) 5 = sIf pEq 12 8 := (rfl)
theorem wX5_tradeSeller_5 {l : Launch} {K : aRs} {X : aXs} {J : aK} {W : Nat → aK} (hW : isW (tbX5_tradeSeller l K X) cuX5_tradeSeller J W) (n : Nat) (ls st : List aV) (μ : aM) (g : Nat) : W (n + 1) 5 ls st μ g = J 5 ls st μ g := (hW n 5 ls st μ g).trans rfl
theorem wX5_tradeSeller_8 {l : Launch} {K : aRs} {X : aXs} {J : aK} {W : Nat → aK} (hW : isW (tbX5_tradeSeller l K X) cuX5_tradeSeller J W) (n : Nat) (ls st : List aV) (μ : aM) (g : Nat) : W (n + 1) 8 ls st μ g = (sPush (aI 0) 9) (W n) ls st μ g := (hW n 8 ls st μ g).trans rfl
theorem wX5_tradeSeller_9 {l : Launch} {K : aRs} {X : aXs} {J : aK} {W : Nat → aK} (hW : isW (tbX5_tradeSeller l K X) cuX5_tradeSeller J W) (n : Nat) (ls st : List aV) (μ : aM) (g : Nat) : W (n + 1) 9 ls st μ g = (sGoto 22) (W n) ls st μ g := (hW n 9 ls st μ g).trans rfl
theorem wX5_tradeSeller_12 {l : Launch} {K : aRs} {X : aXs} {J : aK} {W : Nat → aK} (hW : isW (tbX5_tradeSeller l K X) cuX5_tradeSeller J W) (n : Nat) (ls st : List aV) (μ : aM) (g : Nat) : W (n + 1) 12 ls st μ g = (sLd 0 13 isR) (W n) ls st μ g := (hW n 12 ls st μ g).trans rfl
theorem wX5_tradeSeller_13 {l : Launch} {K : aRs} {X : aXs} {J : aK} {W : Nat → aK} (hW : isW (tbX5_tradeSeller l K X) cuX5_tradeSeller J W) (n : Nat) (ls st : List aV) (μ : aM) (g : Nat) : W (n + 1) 13 ls st μ g = (sGetR 5 17 16) (W n) ls st μ g := (hW n 13 ls st μ g).trans rfl
theorem wX5_tradeSeller_16 {l : Launch} {K : aRs} {X : aXs} {J : aK} {W : Nat → aK} (hW : isW (tbX5_tradeSeller l K X) cuX5_tradeSeller J W) (n : Nat) (ls st : List aV) (μ : aM) (g : Nat) : W (n + 1) 16 ls st μ g = (sLd 0 17 isR) (W n) ls st μ g := (hW n 16 ls st μ g).trans rfl
theorem wX5_tradeSeller_17 {l : Launch} {K : aRs} {X : aXs} {J : aK} {W : Nat → aK} (hW : isW (tbX5_tradeSeller l K X) cuX5_tradeSeller J W) (n : Nat) (ls st : List aV) (μ : aM) (g : Nat) : W (n + 1) 17 ls st μ g = (sLd 1 18 isI) (W n) ls st μ g := (hW n 17 ls st μ g).trans rfl
theorem wX5_tradeSeller_18 {l : Launch} {K : aRs} {X : aXs} {J : aK} {W : Nat → aK} (hW : isW (tbX5_tradeSeller l K X) cuX5_tradeSeller J W) (n : Nat) (ls st : List aV) (μ : aM) (g : Nat) : W (n + 1) 18 ls st μ g = (sCallV 1 5 (fun as μ K => Ct l mdX5_at as μ K X) 21 0 0) (W n) ls st μ g := (hW n 18 ls st μ g).trans rfl
theorem tX5_tradeSeller_21 (l : Launch) (K : aRs) (X : aXs) : tb (tbX5_tradeSeller l K X) 21 = sAldI 7 22 := (rfl)
theorem wX5_tradeSeller_21 {l : Launch} {K : aRs} {X : aXs} {J : aK} {W : Nat → aK} (hW : isW (tbX5_tradeSeller l K X) cuX5_tradeSeller J W) (n : Nat) (ls st : List aV) (μ : aM) (g : Nat) : W (n + 1) 21 ls st μ g = J 21 ls st μ g := (hW n 21 ls st μ g).trans rfl
theorem wX5_tradeSeller_22 {l : Launch} {K : aRs} {X : aXs} {J : aK} {W : Nat → aK} (hW : isW (tbX5_tradeSeller l K X) cuX5_tradeSeller J W) (n : Nat) (ls st : List aV) (μ : aM) (g : Nat) : W (n + 1) 22 ls st μ g = (sRetI .int 0 K) (W n) ls st μ g := (hW n 22 ls st μ g).trans rfl
theorem dX5_volume_0 : decode cX5_volume 0 = .ok (.aload_n 0, 1) := by decide +kernel
theorem dX5_volume_1 : decode cX5_volume 1 = .ok (.iconst 0, 1) := by decide +kernel
theorem dX5_volume_2 : decode cX5_volume 2 = .ok (.putfield 60, 3) := by decide +kernel
theorem dX5_volume_5 : decode cX5_volume 5 = .ok (.aload_n 0, 1) := by decide +kernel
theorem dX5_volume_6 : decode cX5_volume 6 = .ok (.getfield 96, 3) := by decide +kernel
theorem dX5_volume_9 : decode cX5_volume 9 = .ok (.lreturn, 1) := by decide +kernel
def tbX5_volume (l : Launch) (K : aRs) (X : aXs) : aTb := [
  (0, sLd 0 1 isR),
  (1, sPush (aI 0) 2),
  (2, sPutI 5 24 5),
  (5, sLd 0 6 isR),
  (6, sGetL 5 19 9),
  (9, sRetL 0 K)]
theorem snX5_volume (l : Launch) (K : aRs) (X : aXs) (n0 : Nat) : ∀ q ∈ tbX5_volume l K X, aSo l mdX5_volume K X n0 q.1 q.2 :=
  tc (fun p e s m args below meth c cA D A ad0 h => ok_aload_n h.1 0 rfl dX5_volume_0) <|
  tc (fun p e s m args below meth c cA D A ad0 h => ok_iconst h.1 ⟨by decide, by decide⟩ dX5_volume_1) <|
  tc (fun p e s m args below meth c cA D A ad0 h => ok_putI h.1 cxX5 (by decide) rfl fkRX5_60 (Or.inl rfl) (fun _ _ _ => rfl) (Or.inl rfl) dX5_volume_2) <|
  tc (fun p e s m args below meth c cA D A ad0 h => ok_aload_n h.1 0 rfl dX5_volume_5) <|
  tc (fun p e s m args below meth c cA D A ad0 h => ok_getL h.1 cxX5 (by decide) rfl fkRX5_96 (fun _ _ _ => rfl) dX5_volume_6) <|
  tc (fun p e s m args below meth c cA D A ad0 h => ok_lreturn h.1 h.2.2.2.1 dX5_volume_9) <|
  tn
abbrev cuX5_volume : List Nat := []
theorem tX5_volume_0 (l : Launch) (K : aRs) (X : aXs) : tb (tbX5_volume l K X) 0 = sLd 0 1 isR := (rfl)
theorem wX5_volume_0 {l : Launch} {K : aRs} {X : aXs} {J : aK} {W : Nat → aK} (hW : isW (tbX5_volume l K X) cuX5_volume J W) (n : Nat) (ls st : List aV) (μ : aM) (g : Nat) : W (n + 1) 0 ls st μ g = (sLd 0 1 isR) (W n) ls st μ g := (hW n 0 ls st μ g).trans rfl
theorem wX5_volume_1 {l : Launch} {K : aRs} {X : aXs} {J : aK} {W : Nat → aK} (hW : isW (tbX5_volume l K X) cuX5_volume J W) (n : Nat) (ls st : List aV) (μ : aM) (g : Nat) : W (n + 1) 1 ls st μ g = (sPush (aI 0) 2) (W n) ls st μ g := (hW n 1 ls st μ g).trans rfl
theorem wX5_volume_2 {l : Launch} {K : aRs} {X : aXs} {J : aK} {W : Nat → aK} (hW : isW (tbX5_volume l K X) cuX5_volume J W) (n : Nat) (ls st : List aV) (μ : aM) (g : Nat) : W (n + 1) 2 ls st μ g = (sPutI 5 24 5) (W n) ls st μ g := (hW n 2 ls st μ g).trans rfl
theorem wX5_volume_5 {l : Launch} {K : aRs} {X : aXs} {J : aK} {W : Nat → aK} (hW : isW (tbX5_volume l K X) cuX5_volume J W) (n : Nat) (ls st : List aV) (μ : aM) (g : Nat) : W (n + 1) 5 ls st μ g = (sLd 0 6 isR) (W n) ls st μ g := (hW n 5 ls st μ g).trans rfl
theorem wX5_volume_6 {l : Launch} {K : aRs} {X : aXs} {J : aK} {W : Nat → aK} (hW : isW (tbX5_volume l K X) cuX5_volume J W) (n : Nat) (ls st : List aV) (μ : aM) (g : Nat) : W (n + 1) 6 ls st μ g = (sGetL 5 19 9) (W n) ls st μ g := (hW n 6 ls st μ g).trans rfl
theorem wX5_volume_9 {l : Launch} {K : aRs} {X : aXs} {J : aK} {W : Nat → aK} (hW : isW (tbX5_volume l K X) cuX5_volume J W) (n : Nat) (ls st : List aV) (μ : aM) (g : Nat) : W (n + 1) 9 ls st μ g = (sRetL 0 K) (W n) ls st μ g := (hW n 9 ls st μ g).trans rfl
theorem dX5_meanPrice_0 : decode cX5_meanPrice 0 = .ok (.aload_n 0, 1) := by decide +kernel
theorem dX5_meanPrice_1 : decode cX5_meanPrice 1 = .ok (.aload_n 0, 1) := by decide +kernel
theorem dX5_meanPrice_2 : decode cX5_meanPrice 2 = .ok (.getfield 90, 3) := by decide +kernel
theorem dX5_meanPrice_5 : decode cX5_meanPrice 5 = .ok (.ifCond .ne 7, 3) := by decide +kernel
theorem dX5_meanPrice_8 : decode cX5_meanPrice 8 = .ok (.iconst 1, 1) := by decide +kernel
theorem dX5_meanPrice_9 : decode cX5_meanPrice 9 = .ok (.goto 4, 3) := by decide +kernel
theorem dX5_meanPrice_12 : decode cX5_meanPrice 12 = .ok (.iconst 0, 1) := by decide +kernel
theorem dX5_meanPrice_13 : decode cX5_meanPrice 13 = .ok (.invokevirtual 148, 3) := by decide +kernel
theorem dX5_meanPrice_16 : decode cX5_meanPrice 16 = .ok (.ifCond .eq 7, 3) := by decide +kernel
theorem dX5_meanPrice_19 : decode cX5_meanPrice 19 = .ok (.dconst 0, 1) := by decide +kernel
theorem dX5_meanPrice_20 : decode cX5_meanPrice 20 = .ok (.goto 14, 3) := by decide +kernel
theorem dX5_meanPrice_23 : decode cX5_meanPrice 23 = .ok (.aload_n 0, 1) := by decide +kernel
theorem dX5_meanPrice_24 : decode cX5_meanPrice 24 = .ok (.getfield 100, 3) := by decide +kernel
theorem dX5_meanPrice_27 : decode cX5_meanPrice 27 = .ok (.l2d, 1) := by decide +kernel
theorem dX5_meanPrice_28 : decode cX5_meanPrice 28 = .ok (.aload_n 0, 1) := by decide +kernel
theorem dX5_meanPrice_29 : decode cX5_meanPrice 29 = .ok (.getfield 96, 3) := by decide +kernel
theorem dX5_meanPrice_32 : decode cX5_meanPrice 32 = .ok (.l2d, 1) := by decide +kernel
theorem dX5_meanPrice_33 : decode cX5_meanPrice 33 = .ok (.ddiv, 1) := by decide +kernel
theorem dX5_meanPrice_34 : decode cX5_meanPrice 34 = .ok (.dreturn, 1) := by decide +kernel
def tbX5_meanPrice (l : Launch) (K : aRs) (X : aXs) : aTb := [
  (0, sLd 0 1 isR),
  (1, sLd 0 2 isR),
  (2, sGetI 5 13 5),
  (5, sIf pNe 12 8),
  (8, sPush (aI 1) 9),
  (9, sGoto 13),
  (12, sPush (aI 0) 13),
  (13, sCallV 1 5 (fun as μ K => Ct l mdX5_fails as μ K X) 16 0 0),
  (16, sIf pEq 23 19),
  (19, sPush (aD 0) 20),
  (20, sGoto 34),
  (23, sLd 0 24 isR),
  (24, sGetL 5 20 27),
  (27, sL2d 28),
  (28, sLd 0 29 isR),
  (29, sGetL 5 19 32),
  (32, sL2d 33),
  (33, sDdiv 34),
  (34, sRetD 0 K)]
theorem snX5_meanPrice (l : Launch) (K : aRs) (X : aXs) (n0 : Nat) : ∀ q ∈ tbX5_meanPrice l K X, aSo l mdX5_meanPrice K X n0 q.1 q.2 :=
  tc (fun p e s m args below meth c cA D A ad0 h => ok_aload_n h.1 0 rfl dX5_meanPrice_0) <|
  tc (fun p e s m args below meth c cA D A ad0 h => ok_aload_n h.1 0 rfl dX5_meanPrice_1) <|
  tc (fun p e s m args below meth c cA D A ad0 h => ok_getI h.1 cxX5 (by decide) rfl fkRX5_90 (fun _ _ _ => rfl) dX5_meanPrice_2) <|
  tc (fun p e s m args below meth c cA D A ad0 h => ok_if_ne h.1 12 (by decide) dX5_meanPrice_5) <|
  tc (fun p e s m args below meth c cA D A ad0 h => ok_iconst h.1 ⟨by decide, by decide⟩ dX5_meanPrice_8) <|
  tc (fun p e s m args below meth c cA D A ad0 h => ok_goto h.1 13 (by decide) dX5_meanPrice_9) <|
  tc (fun p e s m args below meth c cA D A ad0 h => ok_iconst h.1 ⟨by decide, by decide⟩ dX5_meanPrice_12) <|
  tc (fun p e s m args below meth c cA D A ad0 h => ok_callV h.1 h.2.1 ⟨Nat.le_refl _, Nat.le_refl _⟩ mdX5_fails siX5_fails cxX5 mkRX5_148 imX5_fails seX5_fails ⟨by decide, by decide⟩ (aAx_out h.1 h.2.2.1 _) dX5_meanPrice_13) <|
  tc (fun p e s m args below meth c cA D A ad0 h => ok_if_eq h.1 23 (by decide) dX5_meanPrice_16) <|
  tc (fun p e s m args below meth c cA D A ad0 h => ok_dconst0 h.1 dX5_meanPrice_19) <|
  tc (fun p e s m args below meth c cA D A ad0 h => ok_goto h.1 34 (by decide) dX5_meanPrice_20) <|
  tc (fun p e s m args below meth c cA D A ad0 h => ok_aload_n h.1 0 rfl dX5_meanPrice_23) <|
  tc (fun p e s m args below meth c cA D A ad0 h => ok_getL h.1 cxX5 (by decide) rfl fkRX5_100 (fun _ _ _ => rfl) dX5_meanPrice_24) <|
  tc (fun p e s m args below meth c cA D A ad0 h => ok_l2d h.1 dX5_meanPrice_27) <|
  tc (fun p e s m args below meth c cA D A ad0 h => ok_aload_n h.1 0 rfl dX5_meanPrice_28) <|
  tc (fun p e s m args below meth c cA D A ad0 h => ok_getL h.1 cxX5 (by decide) rfl fkRX5_96 (fun _ _ _ => rfl) dX5_meanPrice_29) <|
  tc (fun p e s m args below meth c cA D A ad0 h => ok_l2d h.1 dX5_meanPrice_32) <|
  tc (fun p e s m args below meth c cA D A ad0 h => ok_ddiv h.1 dX5_meanPrice_33) <|
  tc (fun p e s m args below meth c cA D A ad0 h => ok_dreturn h.1 h.2.2.2.1 dX5_meanPrice_34) <|
  tn
abbrev cuX5_meanPrice : List Nat := [16]
theorem tX5_meanPrice_0 (l : Launch) (K : aRs) (X : aXs) : tb (tbX5_meanPrice l K X) 0 = sLd 0 1 isR := (rfl)
theorem wX5_meanPrice_0 {l : Launch} {K : aRs} {X : aXs} {J : aK} {W : Nat → aK} (hW : isW (tbX5_meanPrice l K X) cuX5_meanPrice J W) (n : Nat) (ls st : List aV) (μ : aM) (g : Nat) : W (n + 1) 0 ls st μ g = (sLd 0 1 isR) (W n) ls st μ g := (hW n 0 ls st μ g).trans rfl
theorem wX5_meanPrice_1 {l : Launch} {K : aRs} {X : aXs} {J : aK} {W : Nat → aK} (hW : isW (tbX5_meanPrice l K X) cuX5_meanPrice J W) (n : Nat) (ls st : List aV) (μ : aM) (g : Nat) : W (n + 1) 1 ls st μ g = (sLd 0 2 isR) (W n) ls st μ g := (hW n 1 ls st μ g).trans rfl
theorem wX5_meanPrice_2 {l : Launch} {K : aRs} {X : aXs} {J : aK} {W : Nat → aK} (hW : isW (tbX5_meanPrice l K X) cuX5_meanPrice J W) (n : Nat) (ls st : List aV) (μ : aM) (g : Nat) : W (n + 1) 2 ls st μ g = (sGetI 5 13 5) (W n) ls st μ g := (hW n 2 ls st μ g).trans rfl
theorem wX5_meanPrice_5 {l : Launch} {K : aRs} {X : aXs} {J : aK} {W : Nat → aK} (hW : isW (tbX5_meanPrice l K X) cuX5_meanPrice J W) (n : Nat) (ls st : List aV) (μ : aM) (g : Nat) : W (n + 1) 5 ls st μ g = (sIf pNe 12 8) (W n) ls st μ g := (hW n 5 ls st μ g).trans rfl
theorem wX5_meanPrice_8 {l : Launch} {K : aRs} {X : aXs} {J : aK} {W : Nat → aK} (hW : isW (tbX5_meanPrice l K X) cuX5_meanPrice J W) (n : Nat) (ls st : List aV) (μ : aM) (g : Nat) : W (n + 1) 8 ls st μ g = (sPush (aI 1) 9) (W n) ls st μ g := (hW n 8 ls st μ g).trans rfl
theorem wX5_meanPrice_9 {l : Launch} {K : aRs} {X : aXs} {J : aK} {W : Nat → aK} (hW : isW (tbX5_meanPrice l K X) cuX5_meanPrice J W) (n : Nat) (ls st : List aV) (μ : aM) (g : Nat) : W (n + 1) 9 ls st μ g = (sGoto 13) (W n) ls st μ g := (hW n 9 ls st μ g).trans rfl
theorem wX5_meanPrice_12 {l : Launch} {K : aRs} {X : aXs} {J : aK} {W : Nat → aK} (hW : isW (tbX5_meanPrice l K X) cuX5_meanPrice J W) (n : Nat) (ls st : List aV) (μ : aM) (g : Nat) : W (n + 1) 12 ls st μ g = (sPush (aI 0) 13) (W n) ls st μ g := (hW n 12 ls st μ g).trans rfl
theorem wX5_meanPrice_13 {l : Launch} {K : aRs} {X : aXs} {J : aK} {W : Nat → aK} (hW : isW (tbX5_meanPrice l K X) cuX5_meanPrice J W) (n : Nat) (ls st : List aV) (μ : aM) (g : Nat) : W (n + 1) 13 ls st μ g = (sCallV 1 5 (fun as μ K => Ct l mdX5_fails as μ K X) 16 0 0) (W n) ls st μ g := (hW n 13 ls st μ g).trans rfl
theorem tX5_meanPrice_16 (l : Launch) (K : aRs) (X : aXs) : tb (tbX5_meanPrice l K X) 16 = sIf pEq 23 19 := (rfl)
theorem wX5_meanPrice_16 {l : Launch} {K : aRs} {X : aXs} {J : aK} {W : Nat → aK} (hW : isW (tbX5_meanPrice l K X) cuX5_meanPrice J W) (n : Nat) (ls st : List aV) (μ : aM) (g : Nat) : W (n + 1) 16 ls st μ g = J 16 ls st μ g := (hW n 16 ls st μ g).trans rfl
theorem wX5_meanPrice_19 {l : Launch} {K : aRs} {X : aXs} {J : aK} {W : Nat → aK} (hW : isW (tbX5_meanPrice l K X) cuX5_meanPrice J W) (n : Nat) (ls st : List aV) (μ : aM) (g : Nat) : W (n + 1) 19 ls st μ g = (sPush (aD 0) 20) (W n) ls st μ g := (hW n 19 ls st μ g).trans rfl
theorem wX5_meanPrice_20 {l : Launch} {K : aRs} {X : aXs} {J : aK} {W : Nat → aK} (hW : isW (tbX5_meanPrice l K X) cuX5_meanPrice J W) (n : Nat) (ls st : List aV) (μ : aM) (g : Nat) : W (n + 1) 20 ls st μ g = (sGoto 34) (W n) ls st μ g := (hW n 20 ls st μ g).trans rfl
theorem wX5_meanPrice_23 {l : Launch} {K : aRs} {X : aXs} {J : aK} {W : Nat → aK} (hW : isW (tbX5_meanPrice l K X) cuX5_meanPrice J W) (n : Nat) (ls st : List aV) (μ : aM) (g : Nat) : W (n + 1) 23 ls st μ g = (sLd 0 24 isR) (W n) ls st μ g := (hW n 23 ls st μ g).trans rfl
theorem wX5_meanPrice_24 {l : Launch} {K : aRs} {X : aXs} {J : aK} {W : Nat → aK} (hW : isW (tbX5_meanPrice l K X) cuX5_meanPrice J W) (n : Nat) (ls st : List aV) (μ : aM) (g : Nat) : W (n + 1) 24 ls st μ g = (sGetL 5 20 27) (W n) ls st μ g := (hW n 24 ls st μ g).trans rfl
theorem wX5_meanPrice_27 {l : Launch} {K : aRs} {X : aXs} {J : aK} {W : Nat → aK} (hW : isW (tbX5_meanPrice l K X) cuX5_meanPrice J W) (n : Nat) (ls st : List aV) (μ : aM) (g : Nat) : W (n + 1) 27 ls st μ g = (sL2d 28) (W n) ls st μ g := (hW n 27 ls st μ g).trans rfl
theorem wX5_meanPrice_28 {l : Launch} {K : aRs} {X : aXs} {J : aK} {W : Nat → aK} (hW : isW (tbX5_meanPrice l K X) cuX5_meanPrice J W) (n : Nat) (ls st : List aV) (μ : aM) (g : Nat) : W (n + 1) 28 ls st μ g = (sLd 0 29 isR) (W n) ls st μ g := (hW n 28 ls st μ g).trans rfl
theorem wX5_meanPrice_29 {l : Launch} {K : aRs} {X : aXs} {J : aK} {W : Nat → aK} (hW : isW (tbX5_meanPrice l K X) cuX5_meanPrice J W) (n : Nat) (ls st : List aV) (μ : aM) (g : Nat) : W (n + 1) 29 ls st μ g = (sGetL 5 19 32) (W n) ls st μ g := (hW n 29 ls st μ g).trans rfl
theorem wX5_meanPrice_32 {l : Launch} {K : aRs} {X : aXs} {J : aK} {W : Nat → aK} (hW : isW (tbX5_meanPrice l K X) cuX5_meanPrice J W) (n : Nat) (ls st : List aV) (μ : aM) (g : Nat) : W (n + 1) 32 ls st μ g = (sL2d 33) (W n) ls st μ g := (hW n 32 ls st μ g).trans rfl
theorem wX5_meanPrice_33 {l : Launch} {K : aRs} {X : aXs} {J : aK} {W : Nat → aK} (hW : isW (tbX5_meanPrice l K X) cuX5_meanPrice J W) (n : Nat) (ls st : List aV) (μ : aM) (g : Nat) : W (n + 1) 33 ls st μ g = (sDdiv 34) (W n) ls st μ g := (hW n 33 ls st μ g).trans rfl
theorem wX5_meanPrice_34 {l : Launch} {K : aRs} {X : aXs} {J : aK} {W : Nat → aK} (hW : isW (tbX5_meanPrice l K X) cuX5_meanPrice J W) (n : Nat) (ls st : List aV) (μ : aM) (g : Nat) : W (n + 1) 34 ls st μ g = (sRetD 0 K) (W n) ls st μ g := (hW n 34 ls st μ g).trans rfl
theorem dX5_owners_0 : decode cX5_owners 0 = .ok (.aload_n 0, 1) := by decide +kernel
theorem dX5_owners_1 : decode cX5_owners 1 = .ok (.iconst 0, 1) := by decide +kernel
theorem dX5_owners_2 : decode cX5_owners 2 = .ok (.putfield 60, 3) := by decide +kernel
theorem dX5_owners_5 : decode cX5_owners 5 = .ok (.iconst 0, 1) := by decide +kernel
theorem dX5_owners_6 : decode cX5_owners 6 = .ok (.istore_n 1, 1) := by decide +kernel
theorem dX5_owners_7 : decode cX5_owners 7 = .ok (.iconst 0, 1) := by decide +kernel
theorem dX5_owners_8 : decode cX5_owners 8 = .ok (.istore_n 2, 1) := by decide +kernel
theorem dX5_owners_9 : decode cX5_owners 9 = .ok (.iload_n 2, 1) := by decide +kernel
theorem dX5_owners_10 : decode cX5_owners 10 = .ok (.bipush 6, 2) := by decide +kernel
theorem dX5_owners_12 : decode cX5_owners 12 = .ok (.if_icmp .ge 74, 3) := by decide +kernel
theorem dX5_owners_15 : decode cX5_owners 15 = .ok (.iconst 0, 1) := by decide +kernel
theorem dX5_owners_16 : decode cX5_owners 16 = .ok (.istore_n 3, 1) := by decide +kernel
theorem dX5_owners_17 : decode cX5_owners 17 = .ok (.iconst 0, 1) := by decide +kernel
theorem dX5_owners_18 : decode cX5_owners 18 = .ok (.istore 4, 2) := by decide +kernel
theorem dX5_owners_20 : decode cX5_owners 20 = .ok (.iload 4, 2) := by decide +kernel
theorem dX5_owners_22 : decode cX5_owners 22 = .ok (.aload_n 0, 1) := by decide +kernel
theorem dX5_owners_23 : decode cX5_owners 23 = .ok (.getfield 68, 3) := by decide +kernel
theorem dX5_owners_26 : decode cX5_owners 26 = .ok (.if_icmp .ge 42, 3) := by decide +kernel
theorem dX5_owners_29 : decode cX5_owners 29 = .ok (.iload_n 3, 1) := by decide +kernel
theorem dX5_owners_30 : decode cX5_owners 30 = .ok (.ifCond .ne 26, 3) := by decide +kernel
theorem dX5_owners_33 : decode cX5_owners 33 = .ok (.aload_n 0, 1) := by decide +kernel
theorem dX5_owners_34 : decode cX5_owners 34 = .ok (.getfield 13, 3) := by decide +kernel
theorem dX5_owners_37 : decode cX5_owners 37 = .ok (.iload 4, 2) := by decide +kernel
theorem dX5_owners_39 : decode cX5_owners 39 = .ok (.caload, 1) := by decide +kernel
theorem dX5_owners_40 : decode cX5_owners 40 = .ok (.bipush 97, 2) := by decide +kernel
theorem dX5_owners_42 : decode cX5_owners 42 = .ok (.if_icmp .ne 18, 3) := by decide +kernel
theorem dX5_owners_45 : decode cX5_owners 45 = .ok (.aload_n 0, 1) := by decide +kernel
theorem dX5_owners_46 : decode cX5_owners 46 = .ok (.getfield 16, 3) := by decide +kernel
theorem dX5_owners_49 : decode cX5_owners 49 = .ok (.iload 4, 2) := by decide +kernel
theorem dX5_owners_51 : decode cX5_owners 51 = .ok (.iaload, 1) := by decide +kernel
theorem dX5_owners_52 : decode cX5_owners 52 = .ok (.iload_n 2, 1) := by decide +kernel
theorem dX5_owners_53 : decode cX5_owners 53 = .ok (.if_icmp .ne 7, 3) := by decide +kernel
theorem dX5_owners_56 : decode cX5_owners 56 = .ok (.iconst 1, 1) := by decide +kernel
theorem dX5_owners_57 : decode cX5_owners 57 = .ok (.goto 4, 3) := by decide +kernel
theorem dX5_owners_60 : decode cX5_owners 60 = .ok (.iconst 0, 1) := by decide +kernel
theorem dX5_owners_61 : decode cX5_owners 61 = .ok (.istore_n 3, 1) := by decide +kernel
theorem dX5_owners_62 : decode cX5_owners 62 = .ok (.iinc 4 1, 3) := by decide +kernel
theorem dX5_owners_65 : decode cX5_owners 65 = .ok (.goto (-45), 3) := by decide +kernel
theorem dX5_owners_68 : decode cX5_owners 68 = .ok (.iload_n 1, 1) := by decide +kernel
theorem dX5_owners_69 : decode cX5_owners 69 = .ok (.iload_n 3, 1) := by decide +kernel
theorem dX5_owners_70 : decode cX5_owners 70 = .ok (.ifCond .eq 7, 3) := by decide +kernel
theorem dX5_owners_73 : decode cX5_owners 73 = .ok (.iconst 1, 1) := by decide +kernel
theorem dX5_owners_74 : decode cX5_owners 74 = .ok (.goto 4, 3) := by decide +kernel
theorem dX5_owners_77 : decode cX5_owners 77 = .ok (.iconst 0, 1) := by decide +kernel
theorem dX5_owners_78 : decode cX5_owners 78 = .ok (.iadd, 1) := by decide +kernel
theorem dX5_owners_79 : decode cX5_owners 79 = .ok (.istore_n 1, 1) := by decide +kernel
theorem dX5_owners_80 : decode cX5_owners 80 = .ok (.iinc 2 1, 3) := by decide +kernel
theorem dX5_owners_83 : decode cX5_owners 83 = .ok (.goto (-74), 3) := by decide +kernel
theorem dX5_owners_86 : decode cX5_owners 86 = .ok (.iload_n 1, 1) := by decide +kernel
theorem dX5_owners_87 : decode cX5_owners 87 = .ok (.ireturn, 1) := by decide +kernel
def tbX5_owners (l : Launch) (K : aRs) (X : aXs) : aTb := [
  (0, sLd 0 1 isR),
  (1, sPush (aI 0) 2),
  (2, sPutI 5 24 5),
  (5, sPush (aI 0) 6),
  (6, sSt 1 7 isI),
  (7, sPush (aI 0) 8),
  (8, sSt 2 9 isI),
  (9, sLd 2 10 isI),
  (10, sPush (aI 6) 12),
  (12, sIc qGe 86 15),
  (15, sPush (aI 0) 16),
  (16, sSt 3 17 isI),
  (17, sPush (aI 0) 18),
  (18, sSt 4 20 isI),
  (20, sLd 4 22 isI),
  (22, sLd 0 23 isR),
  (23, sGetI 5 0 26),
  (26, sIc qGe 68 29),
  (29, sLd 3 30 isI),
  (30, sIf pNe 56 33),
  (33, sLd 0 34 isR),
  (34, sGetR 5 2 37),
  (37, sLd 4 39 isI),
  (39, sAldI 6 40),
  (40, sPush (aI 97) 42),
  (42, sIc qNe 60 45),
  (45, sLd 0 46 isR),
  (46, sGetR 5 3 49),
  (49, sLd 4 51 isI),
  (51, sAldI 7 52),
  (52, sLd 2 53 isI),
  (53, sIc qNe 60 56),
  (56, sPush (aI 1) 57),
  (57, sGoto 61),
  (60, sPush (aI 0) 61),
  (61, sSt 3 62 isI),
  (62, sInc 4 1 65),
  (65, sGoto 20),
  (68, sLd 1 69 isI),
  (69, sLd 3 70 isI),
  (70, sIf pEq 77 73),
  (73, sPush (aI 1) 74),
  (74, sGoto 78),
  (77, sPush (aI 0) 78),
  (78, sBin fAdd 79),
  (79, sSt 1 80 isI),
  (80, sInc 2 1 83),
  (83, sGoto 9),
  (86, sLd 1 87 isI),
  (87, sRetI .int 0 K)]
theorem snX5_owners (l : Launch) (K : aRs) (X : aXs) (n0 : Nat) : ∀ q ∈ tbX5_owners l K X, aSo l mdX5_owners K X n0 q.1 q.2 :=
  tc (fun p e s m args below meth c cA D A ad0 h => ok_aload_n h.1 0 rfl dX5_owners_0) <|
  tc (fun p e s m args below meth c cA D A ad0 h => ok_iconst h.1 ⟨by decide, by decide⟩ dX5_owners_1) <|
  tc (fun p e s m args below meth c cA D A ad0 h => ok_putI h.1 cxX5 (by decide) rfl fkRX5_60 (Or.inl rfl) (fun _ _ _ => rfl) (Or.inl rfl) dX5_owners_2) <|
  tc (fun p e s m args below meth c cA D A ad0 h => ok_iconst h.1 ⟨by decide, by decide⟩ dX5_owners_5) <|
  tc (fun p e s m args below meth c cA D A ad0 h => ok_istore_n h.1 1 rfl (by decide) dX5_owners_6) <|
  tc (fun p e s m args below meth c cA D A ad0 h => ok_iconst h.1 ⟨by decide, by decide⟩ dX5_owners_7) <|
  tc (fun p e s m args below meth c cA D A ad0 h => ok_istore_n h.1 2 rfl (by decide) dX5_owners_8) <|
  tc (fun p e s m args below meth c cA D A ad0 h => ok_iload_n h.1 2 rfl dX5_owners_9) <|
  tc (fun p e s m args below meth c cA D A ad0 h => ok_bipush h.1 ⟨by decide, by decide⟩ (by decide) dX5_owners_10) <|
  tc (fun p e s m args below meth c cA D A ad0 h => ok_icmp_ge h.1 86 (by decide) dX5_owners_12) <|
  tc (fun p e s m args below meth c cA D A ad0 h => ok_iconst h.1 ⟨by decide, by decide⟩ dX5_owners_15) <|
  tc (fun p e s m args below meth c cA D A ad0 h => ok_istore_n h.1 3 rfl (by decide) dX5_owners_16) <|
  tc (fun p e s m args below meth c cA D A ad0 h => ok_iconst h.1 ⟨by decide, by decide⟩ dX5_owners_17) <|
  tc (fun p e s m args below meth c cA D A ad0 h => ok_istore h.1 (by decide) dX5_owners_18) <|
  tc (fun p e s m args below meth c cA D A ad0 h => ok_iload h.1 dX5_owners_20) <|
  tc (fun p e s m args below meth c cA D A ad0 h => ok_aload_n h.1 0 rfl dX5_owners_22) <|
  tc (fun p e s m args below meth c cA D A ad0 h => ok_getI h.1 cxX5 (by decide) rfl fkRX5_68 (fun _ _ _ => rfl) dX5_owners_23) <|
  tc (fun p e s m args below meth c cA D A ad0 h => ok_icmp_ge h.1 68 (by decide) dX5_owners_26) <|
  tc (fun p e s m args below meth c cA D A ad0 h => ok_iload_n h.1 3 rfl dX5_owners_29) <|
  tc (fun p e s m args below meth c cA D A ad0 h => ok_if_ne h.1 56 (by decide) dX5_owners_30) <|
  tc (fun p e s m args below meth c cA D A ad0 h => ok_aload_n h.1 0 rfl dX5_owners_33) <|
  tc (fun p e s m args below meth c cA D A ad0 h => ok_getR h.1 cxX5 (by decide) rfl fkRX5_13 (fun _ _ _ => rfl) dX5_owners_34) <|
  tc (fun p e s m args below meth c cA D A ad0 h => ok_iload h.1 dX5_owners_37) <|
  tc (fun p e s m args below meth c cA D A ad0 h => ok_cald h.1 dX5_owners_39) <|
  tc (fun p e s m args below meth c cA D A ad0 h => ok_bipush h.1 ⟨by decide, by decide⟩ (by decide) dX5_owners_40) <|
  tc (fun p e s m args below meth c cA D A ad0 h => ok_icmp_ne h.1 60 (by decide) dX5_owners_42) <|
  tc (fun p e s m args below meth c cA D A ad0 h => ok_aload_n h.1 0 rfl dX5_owners_45) <|
  tc (fun p e s m args below meth c cA D A ad0 h => ok_getR h.1 cxX5 (by decide) rfl fkRX5_16 (fun _ _ _ => rfl) dX5_owners_46) <|
  tc (fun p e s m args below meth c cA D A ad0 h => ok_iload h.1 dX5_owners_49) <|
  tc (fun p e s m args below meth c cA D A ad0 h => ok_iald h.1 dX5_owners_51) <|
  tc (fun p e s m args below meth c cA D A ad0 h => ok_iload_n h.1 2 rfl dX5_owners_52) <|
  tc (fun p e s m args below meth c cA D A ad0 h => ok_icmp_ne h.1 60 (by decide) dX5_owners_53) <|
  tc (fun p e s m args below meth c cA D A ad0 h => ok_iconst h.1 ⟨by decide, by decide⟩ dX5_owners_56) <|
  tc (fun p e s m args below meth c cA D A ad0 h => ok_goto h.1 61 (by decide) dX5_owners_57) <|
  tc (fun p e s m args below meth c cA D A ad0 h => ok_iconst h.1 ⟨by decide, by decide⟩ dX5_owners_60) <|
  tc (fun p e s m args below meth c cA D A ad0 h => ok_istore_n h.1 3 rfl (by decide) dX5_owners_61) <|
  tc (fun p e s m args below meth c cA D A ad0 h => ok_iinc h.1 (by decide) dX5_owners_62) <|
  tc (fun p e s m args below meth c cA D A ad0 h => ok_goto h.1 20 (by decide) dX5_owners_65) <|
  tc (fun p e s m args below meth c cA D A ad0 h => ok_iload_n h.1 1 rfl dX5_owners_68) <|
  tc (fun p e s m args below meth c cA D A ad0 h => ok_iload_n h.1 3 rfl dX5_owners_69) <|
  tc (fun p e s m args below meth c cA D A ad0 h => ok_if_eq h.1 77 (by decide) dX5_owners_70) <|
  tc (fun p e s m args below meth c cA D A ad0 h => ok_iconst h.1 ⟨by decide, by decide⟩ dX5_owners_73) <|
  tc (fun p e s m args below meth c cA D A ad0 h => ok_goto h.1 78 (by decide) dX5_owners_74) <|
  tc (fun p e s m args below meth c cA D A ad0 h => ok_iconst h.1 ⟨by decide, by decide⟩ dX5_owners_77) <|
  tc (fun p e s m args below meth c cA D A ad0 h => ok_iadd h.1 dX5_owners_78) <|
  tc (fun p e s m args below meth c cA D A ad0 h => ok_istore_n h.1 1 rfl (by decide) dX5_owners_79) <|
  tc (fun p e s m args below meth c cA D A ad0 h => ok_iinc h.1 (by decide) dX5_owners_80) <|
  tc (fun p e s m args below meth c cA D A ad0 h => ok_goto h.1 9 (by decide) dX5_owners_83) <|
  tc (fun p e s m args below meth c cA D A ad0 h => ok_iload_n h.1 1 rfl dX5_owners_86) <|
  tc (fun p e s m args below meth c cA D A ad0 h => ok_ireturn h.1 h.2.2.2.1 (Or.inl rfl) dX5_owners_87) <|
  tn
abbrev cuX5_owners : List Nat := [9, 20]
theorem tX5_owners_0 (l : Launch) (K : aRs) (X : aXs) : tb (tbX5_owners l K X) 0 = sLd 0 1 isR := (rfl)
theorem wX5_owners_0 {l : Launch} {K : aRs} {X : aXs} {J : aK} {W : Nat → aK} (hW : isW (tbX5_owners l K X) cuX5_owners J W) (n : Nat) (ls st : List aV) (μ : aM) (g : Nat) : W (n + 1) 0 ls st μ g = (sLd 0 1 isR) (W n) ls st μ g := (hW n 0 ls st μ g).trans rfl
theorem wX5_owners_1 {l : Launch} {K : aRs} {X : aXs} {J : aK} {W : Nat → aK} (hW : isW (tbX5_owners l K X) cuX5_owners J W) (n : Nat) (ls st : List aV) (μ : aM) (g : Nat) : W (n + 1) 1 ls st μ g = (sPush (aI 0) 2) (W n) ls st μ g := (hW n 1 ls st μ g).trans rfl
theorem wX5_owners_2 {l : Launch} {K : aRs} {X : aXs} {J : aK} {W : Nat → aK} (hW : isW (tbX5_owners l K X) cuX5_owners J W) (n : Nat) (ls st : List aV) (μ : aM) (g : Nat) : W (n + 1) 2 ls st μ g = (sPutI 5 24 5) (W n) ls st μ g := (hW n 2 ls st μ g).trans rfl
theorem wX5_owners_5 {l : Launch} {K : aRs} {X : aXs} {J : aK} {W : Nat → aK} (hW : isW (tbX5_owners l K X) cuX5_owners J W) (n : Nat) (ls st : List aV) (μ : aM) (g : Nat) : W (n + 1) 5 ls st μ g = (sPush (aI 0) 6) (W n) ls st μ g := (hW n 5 ls st μ g).trans rfl
theorem wX5_owners_6 {l : Launch} {K : aRs} {X : aXs} {J : aK} {W : Nat → aK} (hW : isW (tbX5_owners l K X) cuX5_owners J W) (n : Nat) (ls st : List aV) (μ : aM) (g : Nat) : W (n + 1) 6 ls st μ g = (sSt 1 7 isI) (W n) ls st μ g := (hW n 6 ls st μ g).trans rfl
theorem wX5_owners_7 {l : Launch} {K : aRs} {X : aXs} {J : aK} {W : Nat → aK} (hW : isW (tbX5_owners l K X) cuX5_owners J W) (n : Nat) (ls st : List aV) (μ : aM) (g : Nat) : W (n + 1) 7 ls st μ g = (sPush (aI 0) 8) (W n) ls st μ g := (hW n 7 ls st μ g).trans rfl
theorem wX5_owners_8 {l : Launch} {K : aRs} {X : aXs} {J : aK} {W : Nat → aK} (hW : isW (tbX5_owners l K X) cuX5_owners J W) (n : Nat) (ls st : List aV) (μ : aM) (g : Nat) : W (n + 1) 8 ls st μ g = (sSt 2 9 isI) (W n) ls st μ g := (hW n 8 ls st μ g).trans rfl
theorem tX5_owners_9 (l : Launch) (K : aRs) (X : aXs) : tb (tbX5_owners l K X) 9 = sLd 2 10 isI := (rfl)
theorem wX5_owners_9 {l : Launch} {K : aRs} {X : aXs} {J : aK} {W : Nat → aK} (hW : isW (tbX5_owners l K X) cuX5_owners J W) (n : Nat) (ls st : List aV) (μ : aM) (g : Nat) : W (n + 1) 9 ls st μ g = J 9 ls st μ g := (hW n 9 ls st μ g).trans rfl
theorem wX5_owners_10 {l : Launch} {K : aRs} {X : aXs} {J : aK} {W : Nat → aK} (hW : isW (tbX5_owners l K X) cuX5_owners J W) (n : Nat) (ls st : List aV) (μ : aM) (g : Nat) : W (n + 1) 10 ls st μ g = (sPush (aI 6) 12) (W n) ls st μ g := (hW n 10 ls st μ g).trans rfl
theorem wX5_owners_12 {l : Launch} {K : aRs} {X : aXs} {J : aK} {W : Nat → aK} (hW : isW (tbX5_owners l K X) cuX5_owners J W) (n : Nat) (ls st : List aV) (μ : aM) (g : Nat) : W (n + 1) 12 ls st μ g = (sIc qGe 86 15) (W n) ls st μ g := (hW n 12 ls st μ g).trans rfl
theorem wX5_owners_15 {l : Launch} {K : aRs} {X : aXs} {J : aK} {W : Nat → aK} (hW : isW (tbX5_owners l K X) cuX5_owners J W) (n : Nat) (ls st : List aV) (μ : aM) (g : Nat) : W (n + 1) 15 ls st μ g = (sPush (aI 0) 16) (W n) ls st μ g := (hW n 15 ls st μ g).trans rfl
theorem wX5_owners_16 {l : Launch} {K : aRs} {X : aXs} {J : aK} {W : Nat → aK} (hW : isW (tbX5_owners l K X) cuX5_owners J W) (n : Nat) (ls st : List aV) (μ : aM) (g : Nat) : W (n + 1) 16 ls st μ g = (sSt 3 17 isI) (W n) ls st μ g := (hW n 16 ls st μ g).trans rfl
theorem wX5_owners_17 {l : Launch} {K : aRs} {X : aXs} {J : aK} {W : Nat → aK} (hW : isW (tbX5_owners l K X) cuX5_owners J W) (n : Nat) (ls st : List aV) (μ : aM) (g : Nat) : W (n + 1) 17 ls st μ g = (sPush (aI 0) 18) (W n) ls st μ g := (hW n 17 ls st μ g).trans rfl
theorem wX5_owners_18 {l : Launch} {K : aRs} {X : aXs} {J : aK} {W : Nat → aK} (hW : isW (tbX5_owners l K X) cuX5_owners J W) (n : Nat) (ls st : List aV) (μ : aM) (g : Nat) : W (n + 1) 18 ls st μ g = (sSt 4 20 isI) (W n) ls st μ g := (hW n 18 ls st μ g).trans rfl
theorem tX5_owners_20 (l : Launch) (K : aRs) (X : aXs) : tb (tbX5_owners l K X) 20 = sLd 4 22 isI := (rfl)
theorem wX5_owners_20 {l : Launch} {K : aRs} {X : aXs} {J : aK} {W : Nat → aK} (hW : isW (tbX5_owners l K X) cuX5_owners J W) (n : Nat) (ls st : List aV) (μ : aM) (g : Nat) : W (n + 1) 20 ls st μ g = J 20 ls st μ g := (hW n 20 ls st μ g).trans rfl
theorem wX5_owners_22 {l : Launch} {K : aRs} {X : aXs} {J : aK} {W : Nat → aK} (hW : isW (tbX5_owners l K X) cuX5_owners J W) (n : Nat) (ls st : List aV) (μ : aM) (g : Nat) : W (n + 1) 22 ls st μ g = (sLd 0 23 isR) (W n) ls st μ g := (hW n 22 ls st μ g).trans rfl
theorem wX5_owners_23 {l : Launch} {K : aRs} {X : aXs} {J : aK} {W : Nat → aK} (hW : isW (tbX5_owners l K X) cuX5_owners J W) (n : Nat) (ls st : List aV) (μ : aM) (g : Nat) : W (n + 1) 23 ls st μ g = (sGetI 5 0 26) (W n) ls st μ g := (hW n 23 ls st μ g).trans rfl
theorem wX5_owners_26 {l : Launch} {K : aRs} {X : aXs} {J : aK} {W : Nat → aK} (hW : isW (tbX5_owners l K X) cuX5_owners J W) (n : Nat) (ls st : List aV) (μ : aM) (g : Nat) : W (n + 1) 26 ls st μ g = (sIc qGe 68 29) (W n) ls st μ g := (hW n 26 ls st μ g).trans rfl
theorem wX5_owners_29 {l : Launch} {K : aRs} {X : aXs} {J : aK} {W : Nat → aK} (hW : isW (tbX5_owners l K X) cuX5_owners J W) (n : Nat) (ls st : List aV) (μ : aM) (g : Nat) : W (n + 1) 29 ls st μ g = (sLd 3 30 isI) (W n) ls st μ g := (hW n 29 ls st μ g).trans rfl
theorem wX5_owners_30 {l : Launch} {K : aRs} {X : aXs} {J : aK} {W : Nat → aK} (hW : isW (tbX5_owners l K X) cuX5_owners J W) (n : Nat) (ls st : List aV) (μ : aM) (g : Nat) : W (n + 1) 30 ls st μ g = (sIf pNe 56 33) (W n) ls st μ g := (hW n 30 ls st μ g).trans rfl
theorem wX5_owners_33 {l : Launch} {K : aRs} {X : aXs} {J : aK} {W : Nat → aK} (hW : isW (tbX5_owners l K X) cuX5_owners J W) (n : Nat) (ls st : List aV) (μ : aM) (g : Nat) : W (n + 1) 33 ls st μ g = (sLd 0 34 isR) (W n) ls st μ g := (hW n 33 ls st μ g).trans rfl
theorem wX5_owners_34 {l : Launch} {K : aRs} {X : aXs} {J : aK} {W : Nat → aK} (hW : isW (tbX5_owners l K X) cuX5_owners J W) (n : Nat) (ls st : List aV) (μ : aM) (g : Nat) : W (n + 1) 34 ls st μ g = (sGetR 5 2 37) (W n) ls st μ g := (hW n 34 ls st μ g).trans rfl
theorem wX5_owners_37 {l : Launch} {K : aRs} {X : aXs} {J : aK} {W : Nat → aK} (hW : isW (tbX5_owners l K X) cuX5_owners J W) (n : Nat) (ls st : List aV) (μ : aM) (g : Nat) : W (n + 1) 37 ls st μ g = (sLd 4 39 isI) (W n) ls st μ g := (hW n 37 ls st μ g).trans rfl
theorem wX5_owners_39 {l : Launch} {K : aRs} {X : aXs} {J : aK} {W : Nat → aK} (hW : isW (tbX5_owners l K X) cuX5_owners J W) (n : Nat) (ls st : List aV) (μ : aM) (g : Nat) : W (n + 1) 39 ls st μ g = (sAldI 6 40) (W n) ls st μ g := (hW n 39 ls st μ g).trans rfl
theorem wX5_owners_40 {l : Launch} {K : aRs} {X : aXs} {J : aK} {W : Nat → aK} (hW : isW (tbX5_owners l K X) cuX5_owners J W) (n : Nat) (ls st : List aV) (μ : aM) (g : Nat) : W (n + 1) 40 ls st μ g = (sPush (aI 97) 42) (W n) ls st μ g := (hW n 40 ls st μ g).trans rfl
theorem wX5_owners_42 {l : Launch} {K : aRs} {X : aXs} {J : aK} {W : Nat → aK} (hW : isW (tbX5_owners l K X) cuX5_owners J W) (n : Nat) (ls st : List aV) (μ : aM) (g : Nat) : W (n + 1) 42 ls st μ g = (sIc qNe 60 45) (W n) ls st μ g := (hW n 42 ls st μ g).trans rfl
theorem wX5_owners_45 {l : Launch} {K : aRs} {X : aXs} {J : aK} {W : Nat → aK} (hW : isW (tbX5_owners l K X) cuX5_owners J W) (n : Nat) (ls st : List aV) (μ : aM) (g : Nat) : W (n + 1) 45 ls st μ g = (sLd 0 46 isR) (W n) ls st μ g := (hW n 45 ls st μ g).trans rfl
theorem wX5_owners_46 {l : Launch} {K : aRs} {X : aXs} {J : aK} {W : Nat → aK} (hW : isW (tbX5_owners l K X) cuX5_owners J W) (n : Nat) (ls st : List aV) (μ : aM) (g : Nat) : W (n + 1) 46 ls st μ g = (sGetR 5 3 49) (W n) ls st μ g := (hW n 46 ls st μ g).trans rfl
theorem wX5_owners_49 {l : Launch} {K : aRs} {X : aXs} {J : aK} {W : Nat → aK} (hW : isW (tbX5_owners l K X) cuX5_owners J W) (n : Nat) (ls st : List aV) (μ : aM) (g : Nat) : W (n + 1) 49 ls st μ g = (sLd 4 51 isI) (W n) ls st μ g := (hW n 49 ls st μ g).trans rfl
theorem wX5_owners_51 {l : Launch} {K : aRs} {X : aXs} {J : aK} {W : Nat → aK} (hW : isW (tbX5_owners l K X) cuX5_owners J W) (n : Nat) (ls st : List aV) (μ : aM) (g : Nat) : W (n + 1) 51 ls st μ g = (sAldI 7 52) (W n) ls st μ g := (hW n 51 ls st μ g).trans rfl
theorem wX5_owners_52 {l : Launch} {K : aRs} {X : aXs} {J : aK} {W : Nat → aK} (hW : isW (tbX5_owners l K X) cuX5_owners J W) (n : Nat) (ls st : List aV) (μ : aM) (g : Nat) : W (n + 1) 52 ls st μ g = (sLd 2 53 isI) (W n) ls st μ g := (hW n 52 ls st μ g).trans rfl
theorem wX5_owners_53 {l : Launch} {K : aRs} {X : aXs} {J : aK} {W : Nat → aK} (hW : isW (tbX5_owners l K X) cuX5_owners J W) (n : Nat) (ls st : List aV) (μ : aM) (g : Nat) : W (n + 1) 53 ls st μ g = (sIc qNe 60 56) (W n) ls st μ g := (hW n 53 ls st μ g).trans rfl
theorem wX5_owners_56 {l : Launch} {K : aRs} {X : aXs} {J : aK} {W : Nat → aK} (hW : isW (tbX5_owners l K X) cuX5_owners J W) (n : Nat) (ls st : List aV) (μ : aM) (g : Nat) : W (n + 1) 56 ls st μ g = (sPush (aI 1) 57) (W n) ls st μ g := (hW n 56 ls st μ g).trans rfl
theorem wX5_owners_57 {l : Launch} {K : aRs} {X : aXs} {J : aK} {W : Nat → aK} (hW : isW (tbX5_owners l K X) cuX5_owners J W) (n : Nat) (ls st : List aV) (μ : aM) (g : Nat) : W (n + 1) 57 ls st μ g = (sGoto 61) (W n) ls st μ g := (hW n 57 ls st μ g).trans rfl
theorem wX5_owners_60 {l : Launch} {K : aRs} {X : aXs} {J : aK} {W : Nat → aK} (hW : isW (tbX5_owners l K X) cuX5_owners J W) (n : Nat) (ls st : List aV) (μ : aM) (g : Nat) : W (n + 1) 60 ls st μ g = (sPush (aI 0) 61) (W n) ls st μ g := (hW n 60 ls st μ g).trans rfl
theorem wX5_owners_61 {l : Launch} {K : aRs} {X : aXs} {J : aK} {W : Nat → aK} (hW : isW (tbX5_owners l K X) cuX5_owners J W) (n : Nat) (ls st : List aV) (μ : aM) (g : Nat) : W (n + 1) 61 ls st μ g = (sSt 3 62 isI) (W n) ls st μ g := (hW n 61 ls st μ g).trans rfl
theorem wX5_owners_62 {l : Launch} {K : aRs} {X : aXs} {J : aK} {W : Nat → aK} (hW : isW (tbX5_owners l K X) cuX5_owners J W) (n : Nat) (ls st : List aV) (μ : aM) (g : Nat) : W (n + 1) 62 ls st μ g = (sInc 4 1 65) (W n) ls st μ g := (hW n 62 ls st μ g).trans rfl
theorem wX5_owners_65 {l : Launch} {K : aRs} {X : aXs} {J : aK} {W : Nat → aK} (hW : isW (tbX5_owners l K X) cuX5_owners J W) (n : Nat) (ls st : List aV) (μ : aM) (g : Nat) : W (n + 1) 65 ls st μ g = (sGoto 20) (W n) ls st μ g := (hW n 65 ls st μ g).trans rfl
theorem wX5_owners_68 {l : Launch} {K : aRs} {X : aXs} {J : aK} {W : Nat → aK} (hW : isW (tbX5_owners l K X) cuX5_owners J W) (n : Nat) (ls st : List aV) (μ : aM) (g : Nat) : W (n + 1) 68 ls st μ g = (sLd 1 69 isI) (W n) ls st μ g := (hW n 68 ls st μ g).trans rfl
theorem wX5_owners_69 {l : Launch} {K : aRs} {X : aXs} {J : aK} {W : Nat → aK} (hW : isW (tbX5_owners l K X) cuX5_owners J W) (n : Nat) (ls st : List aV) (μ : aM) (g : Nat) : W (n + 1) 69 ls st μ g = (sLd 3 70 isI) (W n) ls st μ g := (hW n 69 ls st μ g).trans rfl
theorem wX5_owners_70 {l : Launch} {K : aRs} {X : aXs} {J : aK} {W : Nat → aK} (hW : isW (tbX5_owners l K X) cuX5_owners J W) (n : Nat) (ls st : List aV) (μ : aM) (g : Nat) : W (n + 1) 70 ls st μ g = (sIf pEq 77 73) (W n) ls st μ g := (hW n 70 ls st μ g).trans rfl
theorem wX5_owners_73 {l : Launch} {K : aRs} {X : aXs} {J : aK} {W : Nat → aK} (hW : isW (tbX5_owners l K X) cuX5_owners J W) (n : Nat) (ls st : List aV) (μ : aM) (g : Nat) : W (n + 1) 73 ls st μ g = (sPush (aI 1) 74) (W n) ls st μ g := (hW n 73 ls st μ g).trans rfl
theorem wX5_owners_74 {l : Launch} {K : aRs} {X : aXs} {J : aK} {W : Nat → aK} (hW : isW (tbX5_owners l K X) cuX5_owners J W) (n : Nat) (ls st : List aV) (μ : aM) (g : Nat) : W (n + 1) 74 ls st μ g = (sGoto 78) (W n) ls st μ g := (hW n 74 ls st μ g).trans rfl
theorem wX5_owners_77 {l : Launch} {K : aRs} {X : aXs} {J : aK} {W : Nat → aK} (hW : isW (tbX5_owners l K X) cuX5_owners J W) (n : Nat) (ls st : List aV) (μ : aM) (g : Nat) : W (n + 1) 77 ls st μ g = (sPush (aI 0) 78) (W n) ls st μ g := (hW n 77 ls st μ g).trans rfl
theorem wX5_owners_78 {l : Launch} {K : aRs} {X : aXs} {J : aK} {W : Nat → aK} (hW : isW (tbX5_owners l K X) cuX5_owners J W) (n : Nat) (ls st : List aV) (μ : aM) (g : Nat) : W (n + 1) 78 ls st μ g = (sBin fAdd 79) (W n) ls st μ g := (hW n 78 ls st μ g).trans rfl
theorem wX5_owners_79 {l : Launch} {K : aRs} {X : aXs} {J : aK} {W : Nat → aK} (hW : isW (tbX5_owners l K X) cuX5_owners J W) (n : Nat) (ls st : List aV) (μ : aM) (g : Nat) : W (n + 1) 79 ls st μ g = (sSt 1 80 isI) (W n) ls st μ g := (hW n 79 ls st μ g).trans rfl
theorem wX5_owners_80 {l : Launch} {K : aRs} {X : aXs} {J : aK} {W : Nat → aK} (hW : isW (tbX5_owners l K X) cuX5_owners J W) (n : Nat) (ls st : List aV) (μ : aM) (g : Nat) : W (n + 1) 80 ls st μ g = (sInc 2 1 83) (W n) ls st μ g := (hW n 80 ls st μ g).trans rfl
theorem wX5_owners_83 {l : Launch} {K : aRs} {X : aXs} {J : aK} {W : Nat → aK} (hW : isW (tbX5_owners l K X) cuX5_owners J W) (n : Nat) (ls st : List aV) (μ : aM) (g : Nat) : W (n + 1) 83 ls st μ g = (sGoto 9) (W n) ls st μ g := (hW n 83 ls st μ g).trans rfl
theorem wX5_owners_86 {l : Launch} {K : aRs} {X : aXs} {J : aK} {W : Nat → aK} (hW : isW (tbX5_owners l K X) cuX5_owners J W) (n : Nat) (ls st : List aV) (μ : aM) (g : Nat) : W (n + 1) 86 ls st μ g = (sLd 1 87 isI) (W n) ls st μ g := (hW n 86 ls st μ g).trans rfl
theorem wX5_owners_87 {l : Launch} {K : aRs} {X : aXs} {J : aK} {W : Nat → aK} (hW : isW (tbX5_owners l K X) cuX5_owners J W) (n : Nat) (ls st : List aV) (μ : aM) (g : Nat) : W (n + 1) 87 ls st μ g = (sRetI .int 0 K) (W n) ls st μ g := (hW n 87 ls st μ g).trans rfl
theorem dX5_isConsistent_0 : decode cX5_isConsistent 0 = .ok (.aload_n 0, 1) := by decide +kernel
theorem dX5_isConsistent_1 : decode cX5_isConsistent 1 = .ok (.iconst 0, 1) := by decide +kernel
theorem dX5_isConsistent_2 : decode cX5_isConsistent 2 = .ok (.putfield 60, 3) := by decide +kernel
theorem dX5_isConsistent_5 : decode cX5_isConsistent 5 = .ok (.iconst 0, 1) := by decide +kernel
theorem dX5_isConsistent_6 : decode cX5_isConsistent 6 = .ok (.istore_n 1, 1) := by decide +kernel
theorem dX5_isConsistent_7 : decode cX5_isConsistent 7 = .ok (.iload_n 1, 1) := by decide +kernel
theorem dX5_isConsistent_8 : decode cX5_isConsistent 8 = .ok (.aload_n 0, 1) := by decide +kernel
theorem dX5_isConsistent_9 : decode cX5_isConsistent 9 = .ok (.getfield 68, 3) := by decide +kernel
theorem dX5_isConsistent_12 : decode cX5_isConsistent 12 = .ok (.if_icmp .ge 62, 3) := by decide +kernel
theorem dX5_isConsistent_15 : decode cX5_isConsistent 15 = .ok (.aload_n 0, 1) := by decide +kernel
theorem dX5_isConsistent_16 : decode cX5_isConsistent 16 = .ok (.getfield 13, 3) := by decide +kernel
theorem dX5_isConsistent_19 : decode cX5_isConsistent 19 = .ok (.iload_n 1, 1) := by decide +kernel
theorem dX5_isConsistent_20 : decode cX5_isConsistent 20 = .ok (.caload, 1) := by decide +kernel
theorem dX5_isConsistent_21 : decode cX5_isConsistent 21 = .ok (.bipush 97, 2) := by decide +kernel
theorem dX5_isConsistent_23 : decode cX5_isConsistent 23 = .ok (.if_icmp .ne 45, 3) := by decide +kernel
theorem dX5_isConsistent_26 : decode cX5_isConsistent 26 = .ok (.aload_n 0, 1) := by decide +kernel
theorem dX5_isConsistent_27 : decode cX5_isConsistent 27 = .ok (.getfield 38, 3) := by decide +kernel
theorem dX5_isConsistent_30 : decode cX5_isConsistent 30 = .ok (.iload_n 1, 1) := by decide +kernel
theorem dX5_isConsistent_31 : decode cX5_isConsistent 31 = .ok (.iaload, 1) := by decide +kernel
theorem dX5_isConsistent_32 : decode cX5_isConsistent 32 = .ok (.iconst 1, 1) := by decide +kernel
theorem dX5_isConsistent_33 : decode cX5_isConsistent 33 = .ok (.if_icmp .lt 33, 3) := by decide +kernel
theorem dX5_isConsistent_36 : decode cX5_isConsistent 36 = .ok (.aload_n 0, 1) := by decide +kernel
theorem dX5_isConsistent_37 : decode cX5_isConsistent 37 = .ok (.getfield 38, 3) := by decide +kernel
theorem dX5_isConsistent_40 : decode cX5_isConsistent 40 = .ok (.iload_n 1, 1) := by decide +kernel
theorem dX5_isConsistent_41 : decode cX5_isConsistent 41 = .ok (.iaload, 1) := by decide +kernel
theorem dX5_isConsistent_42 : decode cX5_isConsistent 42 = .ok (.aload_n 0, 1) := by decide +kernel
theorem dX5_isConsistent_43 : decode cX5_isConsistent 43 = .ok (.getfield 35, 3) := by decide +kernel
theorem dX5_isConsistent_46 : decode cX5_isConsistent 46 = .ok (.iload_n 1, 1) := by decide +kernel
theorem dX5_isConsistent_47 : decode cX5_isConsistent 47 = .ok (.iaload, 1) := by decide +kernel
theorem dX5_isConsistent_48 : decode cX5_isConsistent 48 = .ok (.if_icmp .gt 18, 3) := by decide +kernel
theorem dX5_isConsistent_51 : decode cX5_isConsistent 51 = .ok (.aload_n 0, 1) := by decide +kernel
theorem dX5_isConsistent_52 : decode cX5_isConsistent 52 = .ok (.getfield 38, 3) := by decide +kernel
theorem dX5_isConsistent_55 : decode cX5_isConsistent 55 = .ok (.iload_n 1, 1) := by decide +kernel
theorem dX5_isConsistent_56 : decode cX5_isConsistent 56 = .ok (.iaload, 1) := by decide +kernel
theorem dX5_isConsistent_57 : decode cX5_isConsistent 57 = .ok (.aload_n 0, 1) := by decide +kernel
theorem dX5_isConsistent_58 : decode cX5_isConsistent 58 = .ok (.getfield 29, 3) := by decide +kernel
theorem dX5_isConsistent_61 : decode cX5_isConsistent 61 = .ok (.iload_n 1, 1) := by decide +kernel
theorem dX5_isConsistent_62 : decode cX5_isConsistent 62 = .ok (.iaload, 1) := by decide +kernel
theorem dX5_isConsistent_63 : decode cX5_isConsistent 63 = .ok (.if_icmp .le 5, 3) := by decide +kernel
theorem dX5_isConsistent_66 : decode cX5_isConsistent 66 = .ok (.iconst 0, 1) := by decide +kernel
theorem dX5_isConsistent_67 : decode cX5_isConsistent 67 = .ok (.ireturn, 1) := by decide +kernel
theorem dX5_isConsistent_68 : decode cX5_isConsistent 68 = .ok (.iinc 1 1, 3) := by decide +kernel
theorem dX5_isConsistent_71 : decode cX5_isConsistent 71 = .ok (.goto (-64), 3) := by decide +kernel
theorem dX5_isConsistent_74 : decode cX5_isConsistent 74 = .ok (.aload_n 0, 1) := by decide +kernel
theorem dX5_isConsistent_75 : decode cX5_isConsistent 75 = .ok (.getfield 110, 3) := by decide +kernel
theorem dX5_isConsistent_78 : decode cX5_isConsistent 78 = .ok (.ifCond .ne 46, 3) := by decide +kernel
theorem dX5_isConsistent_81 : decode cX5_isConsistent 81 = .ok (.aload_n 0, 1) := by decide +kernel
theorem dX5_isConsistent_82 : decode cX5_isConsistent 82 = .ok (.bipush 98, 2) := by decide +kernel
theorem dX5_isConsistent_84 : decode cX5_isConsistent 84 = .ok (.invokevirtual 114, 3) := by decide +kernel
theorem dX5_isConsistent_87 : decode cX5_isConsistent 87 = .ok (.ifCond .lt 37, 3) := by decide +kernel
theorem dX5_isConsistent_90 : decode cX5_isConsistent 90 = .ok (.aload_n 0, 1) := by decide +kernel
theorem dX5_isConsistent_91 : decode cX5_isConsistent 91 = .ok (.bipush 115, 2) := by decide +kernel
theorem dX5_isConsistent_93 : decode cX5_isConsistent 93 = .ok (.invokevirtual 114, 3) := by decide +kernel
theorem dX5_isConsistent_96 : decode cX5_isConsistent 96 = .ok (.ifCond .lt 28, 3) := by decide +kernel
theorem dX5_isConsistent_99 : decode cX5_isConsistent 99 = .ok (.aload_n 0, 1) := by decide +kernel
theorem dX5_isConsistent_100 : decode cX5_isConsistent 100 = .ok (.getfield 20, 3) := by decide +kernel
theorem dX5_isConsistent_103 : decode cX5_isConsistent 103 = .ok (.aload_n 0, 1) := by decide +kernel
theorem dX5_isConsistent_104 : decode cX5_isConsistent 104 = .ok (.bipush 98, 2) := by decide +kernel
theorem dX5_isConsistent_106 : decode cX5_isConsistent 106 = .ok (.invokevirtual 114, 3) := by decide +kernel
theorem dX5_isConsistent_109 : decode cX5_isConsistent 109 = .ok (.iaload, 1) := by decide +kernel
theorem dX5_isConsistent_110 : decode cX5_isConsistent 110 = .ok (.aload_n 0, 1) := by decide +kernel
theorem dX5_isConsistent_111 : decode cX5_isConsistent 111 = .ok (.getfield 20, 3) := by decide +kernel
theorem dX5_isConsistent_114 : decode cX5_isConsistent 114 = .ok (.aload_n 0, 1) := by decide +kernel
theorem dX5_isConsistent_115 : decode cX5_isConsistent 115 = .ok (.bipush 115, 2) := by decide +kernel
theorem dX5_isConsistent_117 : decode cX5_isConsistent 117 = .ok (.invokevirtual 114, 3) := by decide +kernel
theorem dX5_isConsistent_120 : decode cX5_isConsistent 120 = .ok (.iaload, 1) := by decide +kernel
theorem dX5_isConsistent_121 : decode cX5_isConsistent 121 = .ok (.if_icmp .ge 7, 3) := by decide +kernel
theorem dX5_isConsistent_124 : decode cX5_isConsistent 124 = .ok (.iconst 1, 1) := by decide +kernel
theorem dX5_isConsistent_125 : decode cX5_isConsistent 125 = .ok (.goto 4, 3) := by decide +kernel
theorem dX5_isConsistent_128 : decode cX5_isConsistent 128 = .ok (.iconst 0, 1) := by decide +kernel
theorem dX5_isConsistent_129 : decode cX5_isConsistent 129 = .ok (.ireturn, 1) := by decide +kernel
def tbX5_isConsistent (l : Launch) (K : aRs) (X : aXs) : aTb := [
  (0, sLd 0 1 isR),
  (1, sPush (aI 0) 2),
  (2, sPutI 5 24 5),
  (5, sPush (aI 0) 6),
  (6, sSt 1 7 isI),
  (7, sLd 1 8 isI),
  (8, sLd 0 9 isR),
  (9, sGetI 5 0 12),
  (12, sIc qGe 74 15),
  (15, sLd 0 16 isR),
  (16, sGetR 5 2 19),
  (19, sLd 1 20 isI),
  (20, sAldI 6 21),
  (21, sPush (aI 97) 23),
  (23, sIc qNe 68 26),
  (26, sLd 0 27 isR),
  (27, sGetR 5 10 30),
  (30, sLd 1 31 isI),
  (31, sAldI 7 32),
  (32, sPush (aI 1) 33),
  (33, sIc qLt 66 36),
  (36, sLd 0 37 isR),
  (37, sGetR 5 10 40),
  (40, sLd 1 41 isI),
  (41, sAldI 7 42),
  (42, sLd 0 43 isR),
  (43, sGetR 5 9 46),
  (46, sLd 1 47 isI),
  (47, sAldI 7 48),
  (48, sIc qGt 66 51),
  (51, sLd 0 52 isR),
  (52, sGetR 5 10 55),
  (55, sLd 1 56 isI),
  (56, sAldI 7 57),
  (57, sLd 0 58 isR),
  (58, sGetR 5 7 61),
  (61, sLd 1 62 isI),
  (62, sAldI 7 63),
  (63, sIc qLe 68 66),
  (66, sPush (aI 0) 67),
  (67, sRetI .boolean 0 K),
  (68, sInc 1 1 71),
  (71, sGoto 7),
  (74, sLd 0 75 isR),
  (75, sGetI 5 23 78),
  (78, sIf pNe 124 81),
  (81, sLd 0 82 isR),
  (82, sPush (aI 98) 84),
  (84, sCallV 1 5 (fun as μ K => Ct l mdX5_first as μ K X) 87 0 0),
  (87, sIf pLt 124 90),
  (90, sLd 0 91 isR),
  (91, sPush (aI 115) 93),
  (93, sCallV 1 5 (fun as μ K => Ct l mdX5_first as μ K X) 96 0 0),
  (96, sIf pLt 124 99),
  (99, sLd 0 100 isR),
  (100, sGetR 5 4 103),
  (103, sLd 0 104 isR),
  (104, sPush (aI 98) 106),
  (106, sCallV 1 5 (fun as μ K => Ct l mdX5_first as μ K X) 109 0 0),
  (109, sAldI 7 110),
  (110, sLd 0 111 isR),
  (111, sGetR 5 4 114),
  (114, sLd 0 115 isR),
  (115, sPush (aI 115) 117),
  (117, sCallV 1 5 (fun as μ K => Ct l mdX5_first as μ K X) 120 0 0),
  (120, sAldI 7 121),
  (121, sIc qGe 128 124),
  (124, sPush (aI 1) 125),
  (125, sGoto 129),
  (128, sPush (aI 0) 129),
  (129, sRetI .boolean 0 K)]
theorem snX5_isConsistent (l : Launch) (K : aRs) (X : aXs) (n0 : Nat) : ∀ q ∈ tbX5_isConsistent l K X, aSo l mdX5_isConsistent K X n0 q.1 q.2 :=
  tc (fun p e s m args below meth c cA D A ad0 h => ok_aload_n h.1 0 rfl dX5_isConsistent_0) <|
  tc (fun p e s m args below meth c cA D A ad0 h => ok_iconst h.1 ⟨by decide, by decide⟩ dX5_isConsistent_1) <|
  tc (fun p e s m args below meth c cA D A ad0 h => ok_putI h.1 cxX5 (by decide) rfl fkRX5_60 (Or.inl rfl) (fun _ _ _ => rfl) (Or.inl rfl) dX5_isConsistent_2) <|
  tc (fun p e s m args below meth c cA D A ad0 h => ok_iconst h.1 ⟨by decide, by decide⟩ dX5_isConsistent_5) <|
  tc (fun p e s m args below meth c cA D A ad0 h => ok_istore_n h.1 1 rfl (by decide) dX5_isConsistent_6) <|
  tc (fun p e s m args below meth c cA D A ad0 h => ok_iload_n h.1 1 rfl dX5_isConsistent_7) <|
  tc (fun p e s m args below meth c cA D A ad0 h => ok_aload_n h.1 0 rfl dX5_isConsistent_8) <|
  tc (fun p e s m args below meth c cA D A ad0 h => ok_getI h.1 cxX5 (by decide) rfl fkRX5_68 (fun _ _ _ => rfl) dX5_isConsistent_9) <|
  tc (fun p e s m args below meth c cA D A ad0 h => ok_icmp_ge h.1 74 (by decide) dX5_isConsistent_12) <|
  tc (fun p e s m args below meth c cA D A ad0 h => ok_aload_n h.1 0 rfl dX5_isConsistent_15) <|
  tc (fun p e s m args below meth c cA D A ad0 h => ok_getR h.1 cxX5 (by decide) rfl fkRX5_13 (fun _ _ _ => rfl) dX5_isConsistent_16) <|
  tc (fun p e s m args below meth c cA D A ad0 h => ok_iload_n h.1 1 rfl dX5_isConsistent_19) <|
  tc (fun p e s m args below meth c cA D A ad0 h => ok_cald h.1 dX5_isConsistent_20) <|
  tc (fun p e s m args below meth c cA D A ad0 h => ok_bipush h.1 ⟨by decide, by decide⟩ (by decide) dX5_isConsistent_21) <|
  tc (fun p e s m args below meth c cA D A ad0 h => ok_icmp_ne h.1 68 (by decide) dX5_isConsistent_23) <|
  tc (fun p e s m args below meth c cA D A ad0 h => ok_aload_n h.1 0 rfl dX5_isConsistent_26) <|
  tc (fun p e s m args below meth c cA D A ad0 h => ok_getR h.1 cxX5 (by decide) rfl fkRX5_38 (fun _ _ _ => rfl) dX5_isConsistent_27) <|
  tc (fun p e s m args below meth c cA D A ad0 h => ok_iload_n h.1 1 rfl dX5_isConsistent_30) <|
  tc (fun p e s m args below meth c cA D A ad0 h => ok_iald h.1 dX5_isConsistent_31) <|
  tc (fun p e s m args below meth c cA D A ad0 h => ok_iconst h.1 ⟨by decide, by decide⟩ dX5_isConsistent_32) <|
  tc (fun p e s m args below meth c cA D A ad0 h => ok_icmp_lt h.1 66 (by decide) dX5_isConsistent_33) <|
  tc (fun p e s m args below meth c cA D A ad0 h => ok_aload_n h.1 0 rfl dX5_isConsistent_36) <|
  tc (fun p e s m args below meth c cA D A ad0 h => ok_getR h.1 cxX5 (by decide) rfl fkRX5_38 (fun _ _ _ => rfl) dX5_isConsistent_37) <|
  tc (fun p e s m args below meth c cA D A ad0 h => ok_iload_n h.1 1 rfl dX5_isConsistent_40) <|
  tc (fun p e s m args below meth c cA D A ad0 h => ok_iald h.1 dX5_isConsistent_41) <|
  tc (fun p e s m args below meth c cA D A ad0 h => ok_aload_n h.1 0 rfl dX5_isConsistent_42) <|
  tc (fun p e s m args below meth c cA D A ad0 h => ok_getR h.1 cxX5 (by decide) rfl fkRX5_35 (fun _ _ _ => rfl) dX5_isConsistent_43) <|
  tc (fun p e s m args below meth c cA D A ad0 h => ok_iload_n h.1 1 rfl dX5_isConsistent_46) <|
  tc (fun p e s m args below meth c cA D A ad0 h => ok_iald h.1 dX5_isConsistent_47) <|
  tc (fun p e s m args below meth c cA D A ad0 h => ok_icmp_gt h.1 66 (by decide) dX5_isConsistent_48) <|
  tc (fun p e s m args below meth c cA D A ad0 h => ok_aload_n h.1 0 rfl dX5_isConsistent_51) <|
  tc (fun p e s m args below meth c cA D A ad0 h => ok_getR h.1 cxX5 (by decide) rfl fkRX5_38 (fun _ _ _ => rfl) dX5_isConsistent_52) <|
  tc (fun p e s m args below meth c cA D A ad0 h => ok_iload_n h.1 1 rfl dX5_isConsistent_55) <|
  tc (fun p e s m args below meth c cA D A ad0 h => ok_iald h.1 dX5_isConsistent_56) <|
  tc (fun p e s m args below meth c cA D A ad0 h => ok_aload_n h.1 0 rfl dX5_isConsistent_57) <|
  tc (fun p e s m args below meth c cA D A ad0 h => ok_getR h.1 cxX5 (by decide) rfl fkRX5_29 (fun _ _ _ => rfl) dX5_isConsistent_58) <|
  tc (fun p e s m args below meth c cA D A ad0 h => ok_iload_n h.1 1 rfl dX5_isConsistent_61) <|
  tc (fun p e s m args below meth c cA D A ad0 h => ok_iald h.1 dX5_isConsistent_62) <|
  tc (fun p e s m args below meth c cA D A ad0 h => ok_icmp_le h.1 68 (by decide) dX5_isConsistent_63) <|
  tc (fun p e s m args below meth c cA D A ad0 h => ok_iconst h.1 ⟨by decide, by decide⟩ dX5_isConsistent_66) <|
  tc (fun p e s m args below meth c cA D A ad0 h => ok_ireturn h.1 h.2.2.2.1 (Or.inr (Or.inl rfl)) dX5_isConsistent_67) <|
  tc (fun p e s m args below meth c cA D A ad0 h => ok_iinc h.1 (by decide) dX5_isConsistent_68) <|
  tc (fun p e s m args below meth c cA D A ad0 h => ok_goto h.1 7 (by decide) dX5_isConsistent_71) <|
  tc (fun p e s m args below meth c cA D A ad0 h => ok_aload_n h.1 0 rfl dX5_isConsistent_74) <|
  tc (fun p e s m args below meth c cA D A ad0 h => ok_getI h.1 cxX5 (by decide) rfl fkRX5_110 (fun _ _ _ => rfl) dX5_isConsistent_75) <|
  tc (fun p e s m args below meth c cA D A ad0 h => ok_if_ne h.1 124 (by decide) dX5_isConsistent_78) <|
  tc (fun p e s m args below meth c cA D A ad0 h => ok_aload_n h.1 0 rfl dX5_isConsistent_81) <|
  tc (fun p e s m args below meth c cA D A ad0 h => ok_bipush h.1 ⟨by decide, by decide⟩ (by decide) dX5_isConsistent_82) <|
  tc (fun p e s m args below meth c cA D A ad0 h => ok_callV h.1 h.2.1 ⟨Nat.le_refl _, Nat.le_refl _⟩ mdX5_first siX5_first cxX5 mkRX5_114 imX5_first seX5_first ⟨by decide, by decide⟩ (aAx_out h.1 h.2.2.1 _) dX5_isConsistent_84) <|
  tc (fun p e s m args below meth c cA D A ad0 h => ok_if_lt h.1 124 (by decide) dX5_isConsistent_87) <|
  tc (fun p e s m args below meth c cA D A ad0 h => ok_aload_n h.1 0 rfl dX5_isConsistent_90) <|
  tc (fun p e s m args below meth c cA D A ad0 h => ok_bipush h.1 ⟨by decide, by decide⟩ (by decide) dX5_isConsistent_91) <|
  tc (fun p e s m args below meth c cA D A ad0 h => ok_callV h.1 h.2.1 ⟨Nat.le_refl _, Nat.le_refl _⟩ mdX5_first siX5_first cxX5 mkRX5_114 imX5_first seX5_first ⟨by decide, by decide⟩ (aAx_out h.1 h.2.2.1 _) dX5_isConsistent_93) <|
  tc (fun p e s m args below meth c cA D A ad0 h => ok_if_lt h.1 124 (by decide) dX5_isConsistent_96) <|
  tc (fun p e s m args below meth c cA D A ad0 h => ok_aload_n h.1 0 rfl dX5_isConsistent_99) <|
  tc (fun p e s m args below meth c cA D A ad0 h => ok_getR h.1 cxX5 (by decide) rfl fkRX5_20 (fun _ _ _ => rfl) dX5_isConsistent_100) <|
  tc (fun p e s m args below meth c cA D A ad0 h => ok_aload_n h.1 0 rfl dX5_isConsistent_103) <|
  tc (fun p e s m args below meth c cA D A ad0 h => ok_bipush h.1 ⟨by decide, by decide⟩ (by decide) dX5_isConsistent_104) <|
  tc (fun p e s m args below meth c cA D A ad0 h => ok_callV h.1 h.2.1 ⟨Nat.le_refl _, Nat.le_refl _⟩ mdX5_first siX5_first cxX5 mkRX5_114 imX5_first seX5_first ⟨by decide, by decide⟩ (aAx_out h.1 h.2.2.1 _) dX5_isConsistent_106) <|
  tc (fun p e s m args below meth c cA D A ad0 h => ok_iald h.1 dX5_isConsistent_109) <|
  tc (fun p e s m args below meth c cA D A ad0 h => ok_aload_n h.1 0 rfl dX5_isConsistent_110) <|
  tc (fun p e s m args below meth c cA D A ad0 h => ok_getR h.1 cxX5 (by decide) rfl fkRX5_20 (fun _ _ _ => rfl) dX5_isConsistent_111) <|
  tc (fun p e s m args below meth c cA D A ad0 h => ok_aload_n h.1 0 rfl dX5_isConsistent_114) <|
  tc (fun p e s m args below meth c cA D A ad0 h => ok_bipush h.1 ⟨by decide, by decide⟩ (by decide) dX5_isConsistent_115) <|
  tc (fun p e s m args below meth c cA D A ad0 h => ok_callV h.1 h.2.1 ⟨Nat.le_refl _, Nat.le_refl _⟩ mdX5_first siX5_first cxX5 mkRX5_114 imX5_first seX5_first ⟨by decide, by decide⟩ (aAx_out h.1 h.2.2.1 _) dX5_isConsistent_117) <|
  tc (fun p e s m args below meth c cA D A ad0 h => ok_iald h.1 dX5_isConsistent_120) <|
  tc (fun p e s m args below meth c cA D A ad0 h => ok_icmp_ge h.1 128 (by decide) dX5_isConsistent_121) <|
  tc (fun p e s m args below meth c cA D A ad0 h => ok_iconst h.1 ⟨by decide, by decide⟩ dX5_isConsistent_124) <|
  tc (fun p e s m args below meth c cA D A ad0 h => ok_goto h.1 129 (by decide) dX5_isConsistent_125) <|
  tc (fun p e s m args below meth c cA D A ad0 h => ok_iconst h.1 ⟨by decide, by decide⟩ dX5_isConsistent_128) <|
  tc (fun p e s m args below meth c cA D A ad0 h => ok_ireturn h.1 h.2.2.2.1 (Or.inr (Or.inl rfl)) dX5_isConsistent_129) <|
  tn
abbrev cuX5_isConsistent : List Nat := [7, 87, 96, 109, 120]
theorem tX5_isConsistent_0 (l : Launch) (K : aRs) (X : aXs) : tb (tbX5_isConsistent l K X) 0 = sLd 0 1 isR := (rfl)
theorem wX5_isConsistent_0 {l : Launch} {K : aRs} {X : aXs} {J : aK} {W : Nat → aK} (hW : isW (tbX5_isConsistent l K X) cuX5_isConsistent J W) (n : Nat) (ls st : List aV) (μ : aM) (g : Nat) : W (n + 1) 0 ls st μ g = (sLd 0 1 isR) (W n) ls st μ g := (hW n 0 ls st μ g).trans rfl
theorem wX5_isConsistent_1 {l : Launch} {K : aRs} {X : aXs} {J : aK} {W : Nat → aK} (hW : isW (tbX5_isConsistent l K X) cuX5_isConsistent J W) (n : Nat) (ls st : List aV) (μ : aM) (g : Nat) : W (n + 1) 1 ls st μ g = (sPush (aI 0) 2) (W n) ls st μ g := (hW n 1 ls st μ g).trans rfl
theorem wX5_isConsistent_2 {l : Launch} {K : aRs} {X : aXs} {J : aK} {W : Nat → aK} (hW : isW (tbX5_isConsistent l K X) cuX5_isConsistent J W) (n : Nat) (ls st : List aV) (μ : aM) (g : Nat) : W (n + 1) 2 ls st μ g = (sPutI 5 24 5) (W n) ls st μ g := (hW n 2 ls st μ g).trans rfl
theorem wX5_isConsistent_5 {l : Launch} {K : aRs} {X : aXs} {J : aK} {W : Nat → aK} (hW : isW (tbX5_isConsistent l K X) cuX5_isConsistent J W) (n : Nat) (ls st : List aV) (μ : aM) (g : Nat) : W (n + 1) 5 ls st μ g = (sPush (aI 0) 6) (W n) ls st μ g := (hW n 5 ls st μ g).trans rfl
theorem wX5_isConsistent_6 {l : Launch} {K : aRs} {X : aXs} {J : aK} {W : Nat → aK} (hW : isW (tbX5_isConsistent l K X) cuX5_isConsistent J W) (n : Nat) (ls st : List aV) (μ : aM) (g : Nat) : W (n + 1) 6 ls st μ g = (sSt 1 7 isI) (W n) ls st μ g := (hW n 6 ls st μ g).trans rfl
theorem tX5_isConsistent_7 (l : Launch) (K : aRs) (X : aXs) : tb (tbX5_isConsistent l K X) 7 = sLd 1 8 isI := (rfl)
theorem wX5_isConsistent_7 {l : Launch} {K : aRs} {X : aXs} {J : aK} {W : Nat → aK} (hW : isW (tbX5_isConsistent l K X) cuX5_isConsistent J W) (n : Nat) (ls st : List aV) (μ : aM) (g : Nat) : W (n + 1) 7 ls st μ g = J 7 ls st μ g := (hW n 7 ls st μ g).trans rfl
theorem wX5_isConsistent_8 {l : Launch} {K : aRs} {X : aXs} {J : aK} {W : Nat → aK} (hW : isW (tbX5_isConsistent l K X) cuX5_isConsistent J W) (n : Nat) (ls st : List aV) (μ : aM) (g : Nat) : W (n + 1) 8 ls st μ g = (sLd 0 9 isR) (W n) ls st μ g := (hW n 8 ls st μ g).trans rfl
theorem wX5_isConsistent_9 {l : Launch} {K : aRs} {X : aXs} {J : aK} {W : Nat → aK} (hW : isW (tbX5_isConsistent l K X) cuX5_isConsistent J W) (n : Nat) (ls st : List aV) (μ : aM) (g : Nat) : W (n + 1) 9 ls st μ g = (sGetI 5 0 12) (W n) ls st μ g := (hW n 9 ls st μ g).trans rfl
theorem wX5_isConsistent_12 {l : Launch} {K : aRs} {X : aXs} {J : aK} {W : Nat → aK} (hW : isW (tbX5_isConsistent l K X) cuX5_isConsistent J W) (n : Nat) (ls st : List aV) (μ : aM) (g : Nat) : W (n + 1) 12 ls st μ g = (sIc qGe 74 15) (W n) ls st μ g := (hW n 12 ls st μ g).trans rfl
theorem wX5_isConsistent_15 {l : Launch} {K : aRs} {X : aXs} {J : aK} {W : Nat → aK} (hW : isW (tbX5_isConsistent l K X) cuX5_isConsistent J W) (n : Nat) (ls st : List aV) (μ : aM) (g : Nat) : W (n + 1) 15 ls st μ g = (sLd 0 16 isR) (W n) ls st μ g := (hW n 15 ls st μ g).trans rfl
theorem wX5_isConsistent_16 {l : Launch} {K : aRs} {X : aXs} {J : aK} {W : Nat → aK} (hW : isW (tbX5_isConsistent l K X) cuX5_isConsistent J W) (n : Nat) (ls st : List aV) (μ : aM) (g : Nat) : W (n + 1) 16 ls st μ g = (sGetR 5 2 19) (W n) ls st μ g := (hW n 16 ls st μ g).trans rfl
theorem wX5_isConsistent_19 {l : Launch} {K : aRs} {X : aXs} {J : aK} {W : Nat → aK} (hW : isW (tbX5_isConsistent l K X) cuX5_isConsistent J W) (n : Nat) (ls st : List aV) (μ : aM) (g : Nat) : W (n + 1) 19 ls st μ g = (sLd 1 20 isI) (W n) ls st μ g := (hW n 19 ls st μ g).trans rfl
theorem wX5_isConsistent_20 {l : Launch} {K : aRs} {X : aXs} {J : aK} {W : Nat → aK} (hW : isW (tbX5_isConsistent l K X) cuX5_isConsistent J W) (n : Nat) (ls st : List aV) (μ : aM) (g : Nat) : W (n + 1) 20 ls st μ g = (sAldI 6 21) (W n) ls st μ g := (hW n 20 ls st μ g).trans rfl
theorem wX5_isConsistent_21 {l : Launch} {K : aRs} {X : aXs} {J : aK} {W : Nat → aK} (hW : isW (tbX5_isConsistent l K X) cuX5_isConsistent J W) (n : Nat) (ls st : List aV) (μ : aM) (g : Nat) : W (n + 1) 21 ls st μ g = (sPush (aI 97) 23) (W n) ls st μ g := (hW n 21 ls st μ g).trans rfl
theorem wX5_isConsistent_23 {l : Launch} {K : aRs} {X : aXs} {J : aK} {W : Nat → aK} (hW : isW (tbX5_isConsistent l K X) cuX5_isConsistent J W) (n : Nat) (ls st : List aV) (μ : aM) (g : Nat) : W (n + 1) 23 ls st μ g = (sIc qNe 68 26) (W n) ls st μ g := (hW n 23 ls st μ g).trans rfl
theorem wX5_isConsistent_26 {l : Launch} {K : aRs} {X : aXs} {J : aK} {W : Nat → aK} (hW : isW (tbX5_isConsistent l K X) cuX5_isConsistent J W) (n : Nat) (ls st : List aV) (μ : aM) (g : Nat) : W (n + 1) 26 ls st μ g = (sLd 0 27 isR) (W n) ls st μ g := (hW n 26 ls st μ g).trans rfl
theorem wX5_isConsistent_27 {l : Launch} {K : aRs} {X : aXs} {J : aK} {W : Nat → aK} (hW : isW (tbX5_isConsistent l K X) cuX5_isConsistent J W) (n : Nat) (ls st : List aV) (μ : aM) (g : Nat) : W (n + 1) 27 ls st μ g = (sGetR 5 10 30) (W n) ls st μ g := (hW n 27 ls st μ g).trans rfl
theorem wX5_isConsistent_30 {l : Launch} {K : aRs} {X : aXs} {J : aK} {W : Nat → aK} (hW : isW (tbX5_isConsistent l K X) cuX5_isConsistent J W) (n : Nat) (ls st : List aV) (μ : aM) (g : Nat) : W (n + 1) 30 ls st μ g = (sLd 1 31 isI) (W n) ls st μ g := (hW n 30 ls st μ g).trans rfl
theorem wX5_isConsistent_31 {l : Launch} {K : aRs} {X : aXs} {J : aK} {W : Nat → aK} (hW : isW (tbX5_isConsistent l K X) cuX5_isConsistent J W) (n : Nat) (ls st : List aV) (μ : aM) (g : Nat) : W (n + 1) 31 ls st μ g = (sAldI 7 32) (W n) ls st μ g := (hW n 31 ls st μ g).trans rfl
theorem wX5_isConsistent_32 {l : Launch} {K : aRs} {X : aXs} {J : aK} {W : Nat → aK} (hW : isW (tbX5_isConsistent l K X) cuX5_isConsistent J W) (n : Nat) (ls st : List aV) (μ : aM) (g : Nat) : W (n + 1) 32 ls st μ g = (sPush (aI 1) 33) (W n) ls st μ g := (hW n 32 ls st μ g).trans rfl
theorem wX5_isConsistent_33 {l : Launch} {K : aRs} {X : aXs} {J : aK} {W : Nat → aK} (hW : isW (tbX5_isConsistent l K X) cuX5_isConsistent J W) (n : Nat) (ls st : List aV) (μ : aM) (g : Nat) : W (n + 1) 33 ls st μ g = (sIc qLt 66 36) (W n) ls st μ g := (hW n 33 ls st μ g).trans rfl
theorem wX5_isConsistent_36 {l : Launch} {K : aRs} {X : aXs} {J : aK} {W : Nat → aK} (hW : isW (tbX5_isConsistent l K X) cuX5_isConsistent J W) (n : Nat) (ls st : List aV) (μ : aM) (g : Nat) : W (n + 1) 36 ls st μ g = (sLd 0 37 isR) (W n) ls st μ g := (hW n 36 ls st μ g).trans rfl
theorem wX5_isConsistent_37 {l : Launch} {K : aRs} {X : aXs} {J : aK} {W : Nat → aK} (hW : isW (tbX5_isConsistent l K X) cuX5_isConsistent J W) (n : Nat) (ls st : List aV) (μ : aM) (g : Nat) : W (n + 1) 37 ls st μ g = (sGetR 5 10 40) (W n) ls st μ g := (hW n 37 ls st μ g).trans rfl
theorem wX5_isConsistent_40 {l : Launch} {K : aRs} {X : aXs} {J : aK} {W : Nat → aK} (hW : isW (tbX5_isConsistent l K X) cuX5_isConsistent J W) (n : Nat) (ls st : List aV) (μ : aM) (g : Nat) : W (n + 1) 40 ls st μ g = (sLd 1 41 isI) (W n) ls st μ g := (hW n 40 ls st μ g).trans rfl
theorem wX5_isConsistent_41 {l : Launch} {K : aRs} {X : aXs} {J : aK} {W : Nat → aK} (hW : isW (tbX5_isConsistent l K X) cuX5_isConsistent J W) (n : Nat) (ls st : List aV) (μ : aM) (g : Nat) : W (n + 1) 41 ls st μ g = (sAldI 7 42) (W n) ls st μ g := (hW n 41 ls st μ g).trans rfl
theorem wX5_isConsistent_42 {l : Launch} {K : aRs} {X : aXs} {J : aK} {W : Nat → aK} (hW : isW (tbX5_isConsistent l K X) cuX5_isConsistent J W) (n : Nat) (ls st : List aV) (μ : aM) (g : Nat) : W (n + 1) 42 ls st μ g = (sLd 0 43 isR) (W n) ls st μ g := (hW n 42 ls st μ g).trans rfl
theorem wX5_isConsistent_43 {l : Launch} {K : aRs} {X : aXs} {J : aK} {W : Nat → aK} (hW : isW (tbX5_isConsistent l K X) cuX5_isConsistent J W) (n : Nat) (ls st : List aV) (μ : aM) (g : Nat) : W (n + 1) 43 ls st μ g = (sGetR 5 9 46) (W n) ls st μ g := (hW n 43 ls st μ g).trans rfl
theorem wX5_isConsistent_46 {l : Launch} {K : aRs} {X : aXs} {J : aK} {W : Nat → aK} (hW : isW (tbX5_isConsistent l K X) cuX5_isConsistent J W) (n : Nat) (ls st : List aV) (μ : aM) (g : Nat) : W (n + 1) 46 ls st μ g = (sLd 1 47 isI) (W n) ls st μ g := (hW n 46 ls st μ g).trans rfl
theorem wX5_isConsistent_47 {l : Launch} {K : aRs} {X : aXs} {J : aK} {W : Nat → aK} (hW : isW (tbX5_isConsistent l K X) cuX5_isConsistent J W) (n : Nat) (ls st : List aV) (μ : aM) (g : Nat) : W (n + 1) 47 ls st μ g = (sAldI 7 48) (W n) ls st μ g := (hW n 47 ls st μ g).trans rfl
theorem wX5_isConsistent_48 {l : Launch} {K : aRs} {X : aXs} {J : aK} {W : Nat → aK} (hW : isW (tbX5_isConsistent l K X) cuX5_isConsistent J W) (n : Nat) (ls st : List aV) (μ : aM) (g : Nat) : W (n + 1) 48 ls st μ g = (sIc qGt 66 51) (W n) ls st μ g := (hW n 48 ls st μ g).trans rfl
theorem wX5_isConsistent_51 {l : Launch} {K : aRs} {X : aXs} {J : aK} {W : Nat → aK} (hW : isW (tbX5_isConsistent l K X) cuX5_isConsistent J W) (n : Nat) (ls st : List aV) (μ : aM) (g : Nat) : W (n + 1) 51 ls st μ g = (sLd 0 52 isR) (W n) ls st μ g := (hW n 51 ls st μ g).trans rfl
theorem wX5_isConsistent_52 {l : Launch} {K : aRs} {X : aXs} {J : aK} {W : Nat → aK} (hW : isW (tbX5_isConsistent l K X) cuX5_isConsistent J W) (n : Nat) (ls st : List aV) (μ : aM) (g : Nat) : W (n + 1) 52 ls st μ g = (sGetR 5 10 55) (W n) ls st μ g := (hW n 52 ls st μ g).trans rfl
theorem wX5_isConsistent_55 {l : Launch} {K : aRs} {X : aXs} {J : aK} {W : Nat → aK} (hW : isW (tbX5_isConsistent l K X) cuX5_isConsistent J W) (n : Nat) (ls st : List aV) (μ : aM) (g : Nat) : W (n + 1) 55 ls st μ g = (sLd 1 56 isI) (W n) ls st μ g := (hW n 55 ls st μ g).trans rfl
theorem wX5_isConsistent_56 {l : Launch} {K : aRs} {X : aXs} {J : aK} {W : Nat → aK} (hW : isW (tbX5_isConsistent l K X) cuX5_isConsistent J W) (n : Nat) (ls st : List aV) (μ : aM) (g : Nat) : W (n + 1) 56 ls st μ g = (sAldI 7 57) (W n) ls st μ g := (hW n 56 ls st μ g).trans rfl
theorem wX5_isConsistent_57 {l : Launch} {K : aRs} {X : aXs} {J : aK} {W : Nat → aK} (hW : isW (tbX5_isConsistent l K X) cuX5_isConsistent J W) (n : Nat) (ls st : List aV) (μ : aM) (g : Nat) : W (n + 1) 57 ls st μ g = (sLd 0 58 isR) (W n) ls st μ g := (hW n 57 ls st μ g).trans rfl
theorem wX5_isConsistent_58 {l : Launch} {K : aRs} {X : aXs} {J : aK} {W : Nat → aK} (hW : isW (tbX5_isConsistent l K X) cuX5_isConsistent J W) (n : Nat) (ls st : List aV) (μ : aM) (g : Nat) : W (n + 1) 58 ls st μ g = (sGetR 5 7 61) (W n) ls st μ g := (hW n 58 ls st μ g).trans rfl
theorem wX5_isConsistent_61 {l : Launch} {K : aRs} {X : aXs} {J : aK} {W : Nat → aK} (hW : isW (tbX5_isConsistent l K X) cuX5_isConsistent J W) (n : Nat) (ls st : List aV) (μ : aM) (g : Nat) : W (n + 1) 61 ls st μ g = (sLd 1 62 isI) (W n) ls st μ g := (hW n 61 ls st μ g).trans rfl
theorem wX5_isConsistent_62 {l : Launch} {K : aRs} {X : aXs} {J : aK} {W : Nat → aK} (hW : isW (tbX5_isConsistent l K X) cuX5_isConsistent J W) (n : Nat) (ls st : List aV) (μ : aM) (g : Nat) : W (n + 1) 62 ls st μ g = (sAldI 7 63) (W n) ls st μ g := (hW n 62 ls st μ g).trans rfl
theorem wX5_isConsistent_63 {l : Launch} {K : aRs} {X : aXs} {J : aK} {W : Nat → aK} (hW : isW (tbX5_isConsistent l K X) cuX5_isConsistent J W) (n : Nat) (ls st : List aV) (μ : aM) (g : Nat) : W (n + 1) 63 ls st μ g = (sIc qLe 68 66) (W n) ls st μ g := (hW n 63 ls st μ g).trans rfl
theorem wX5_isConsistent_66 {l : Launch} {K : aRs} {X : aXs} {J : aK} {W : Nat → aK} (hW : isW (tbX5_isConsistent l K X) cuX5_isConsistent J W) (n : Nat) (ls st : List aV) (μ : aM) (g : Nat) : W (n + 1) 66 ls st μ g = (sPush (aI 0) 67) (W n) ls st μ g := (hW n 66 ls st μ g).trans rfl
theorem wX5_isConsistent_67 {l : Launch} {K : aRs} {X : aXs} {J : aK} {W : Nat → aK} (hW : isW (tbX5_isConsistent l K X) cuX5_isConsistent J W) (n : Nat) (ls st : List aV) (μ : aM) (g : Nat) : W (n + 1) 67 ls st μ g = (sRetI .boolean 0 K) (W n) ls st μ g := (hW n 67 ls st μ g).trans rfl
theorem wX5_isConsistent_68 {l : Launch} {K : aRs} {X : aXs} {J : aK} {W : Nat → aK} (hW : isW (tbX5_isConsistent l K X) cuX5_isConsistent J W) (n : Nat) (ls st : List aV) (μ : aM) (g : Nat) : W (n + 1) 68 ls st μ g = (sInc 1 1 71) (W n) ls st μ g := (hW n 68 ls st μ g).trans rfl
theorem wX5_isConsistent_71 {l : Launch} {K : aRs} {X : aXs} {J : aK} {W : Nat → aK} (hW : isW (tbX5_isConsistent l K X) cuX5_isConsistent J W) (n : Nat) (ls st : List aV) (μ : aM) (g : Nat) : W (n + 1) 71 ls st μ g = (sGoto 7) (W n) ls st μ g := (hW n 71 ls st μ g).trans rfl
theorem wX5_isConsistent_74 {l : Launch} {K : aRs} {X : aXs} {J : aK} {W : Nat → aK} (hW : isW (tbX5_isConsistent l K X) cuX5_isConsistent J W) (n : Nat) (ls st : List aV) (μ : aM) (g : Nat) : W (n + 1) 74 ls st μ g = (sLd 0 75 isR) (W n) ls st μ g := (hW n 74 ls st μ g).trans rfl
theorem wX5_isConsistent_75 {l : Launch} {K : aRs} {X : aXs} {J : aK} {W : Nat → aK} (hW : isW (tbX5_isConsistent l K X) cuX5_isConsistent J W) (n : Nat) (ls st : List aV) (μ : aM) (g : Nat) : W (n + 1) 75 ls st μ g = (sGetI 5 23 78) (W n) ls st μ g := (hW n 75 ls st μ g).trans rfl
theorem wX5_isConsistent_78 {l : Launch} {K : aRs} {X : aXs} {J : aK} {W : Nat → aK} (hW : isW (tbX5_isConsistent l K X) cuX5_isConsistent J W) (n : Nat) (ls st : List aV) (μ : aM) (g : Nat) : W (n + 1) 78 ls st μ g = (sIf pNe 124 81) (W n) ls st μ g := (hW n 78 ls st μ g).trans rfl
theorem wX5_isConsistent_81 {l : Launch} {K : aRs} {X : aXs} {J : aK} {W : Nat → aK} (hW : isW (tbX5_isConsistent l K X) cuX5_isConsistent J W) (n : Nat) (ls st : List aV) (μ : aM) (g : Nat) : W (n + 1) 81 ls st μ g = (sLd 0 82 isR) (W n) ls st μ g := (hW n 81 ls st μ g).trans rfl
theorem wX5_isConsistent_82 {l : Launch} {K : aRs} {X : aXs} {J : aK} {W : Nat → aK} (hW : isW (tbX5_isConsistent l K X) cuX5_isConsistent J W) (n : Nat) (ls st : List aV) (μ : aM) (g : Nat) : W (n + 1) 82 ls st μ g = (sPush (aI 98) 84) (W n) ls st μ g := (hW n 82 ls st μ g).trans rfl
theorem wX5_isConsistent_84 {l : Launch} {K : aRs} {X : aXs} {J : aK} {W : Nat → aK} (hW : isW (tbX5_isConsistent l K X) cuX5_isConsistent J W) (n : Nat) (ls st : List aV) (μ : aM) (g : Nat) : W (n + 1) 84 ls st μ g = (sCallV 1 5 (fun as μ K => Ct l mdX5_first as μ K X) 87 0 0) (W n) ls st μ g := (hW n 84 ls st μ g).trans rfl
theorem tX5_isConsistent_87 (l : Launch) (K : aRs) (X : aXs) : tb (tbX5_isConsistent l K X) 87 = sIf pLt 124 90 := (rfl)
theorem wX5_isConsistent_87 {l : Launch} {K : aRs} {X : aXs} {J : aK} {W : Nat → aK} (hW : isW (tbX5_isConsistent l K X) cuX5_isConsistent J W) (n : Nat) (ls st : List aV) (μ : aM) (g : Nat) : W (n + 1) 87 ls st μ g = J 87 ls st μ g := (hW n 87 ls st μ g).trans rfl
theorem wX5_isConsistent_90 {l : Launch} {K : aRs} {X : aXs} {J : aK} {W : Nat → aK} (hW : isW (tbX5_isConsistent l K X) cuX5_isConsistent J W) (n : Nat) (ls st : List aV) (μ : aM) (g : Nat) : W (n + 1) 90 ls st μ g = (sLd 0 91 isR) (W n) ls st μ g := (hW n 90 ls st μ g).trans rfl
theorem wX5_isConsistent_91 {l : Launch} {K : aRs} {X : aXs} {J : aK} {W : Nat → aK} (hW : isW (tbX5_isConsistent l K X) cuX5_isConsistent J W) (n : Nat) (ls st : List aV) (μ : aM) (g : Nat) : W (n + 1) 91 ls st μ g = (sPush (aI 115) 93) (W n) ls st μ g := (hW n 91 ls st μ g).trans rfl
theorem wX5_isConsistent_93 {l : Launch} {K : aRs} {X : aXs} {J : aK} {W : Nat → aK} (hW : isW (tbX5_isConsistent l K X) cuX5_isConsistent J W) (n : Nat) (ls st : List aV) (μ : aM) (g : Nat) : W (n + 1) 93 ls st μ g = (sCallV 1 5 (fun as μ K => Ct l mdX5_first as μ K X) 96 0 0) (W n) ls st μ g := (hW n 93 ls st μ g).trans rfl
theorem tX5_isConsistent_96 (l : Launch) (K : aRs) (X : aXs) : tb (tbX5_isConsistent l K X) 96 = sIf pLt 124 99 := (rfl)
theorem wX5_isConsistent_96 {l : Launch} {K : aRs} {X : aXs} {J : aK} {W : Nat → aK} (hW : isW (tbX5_isConsistent l K X) cuX5_isConsistent J W) (n : Nat) (ls st : List aV) (μ : aM) (g : Nat) : W (n + 1) 96 ls st μ g = J 96 ls st μ g := (hW n 96 ls st μ g).trans rfl
theorem wX5_isConsistent_99 {l : Launch} {K : aRs} {X : aXs} {J : aK} {W : Nat → aK} (hW : isW (tbX5_isConsistent l K X) cuX5_isConsistent J W) (n : Nat) (ls st : List aV) (μ : aM) (g : Nat) : W (n + 1) 99 ls st μ g = (sLd 0 100 isR) (W n) ls st μ g := (hW n 99 ls st μ g).trans rfl
theorem wX5_isConsistent_100 {l : Launch} {K : aRs} {X : aXs} {J : aK} {W : Nat → aK} (hW : isW (tbX5_isConsistent l K X) cuX5_isConsistent J W) (n : Nat) (ls st : List aV) (μ : aM) (g : Nat) : W (n + 1) 100 ls st μ g = (sGetR 5 4 103) (W n) ls st μ g := (hW n 100 ls st μ g).trans rfl
theorem wX5_isConsistent_103 {l : Launch} {K : aRs} {X : aXs} {J : aK} {W : Nat → aK} (hW : isW (tbX5_isConsistent l K X) cuX5_isConsistent J W) (n : Nat) (ls st : List aV) (μ : aM) (g : Nat) : W (n + 1) 103 ls st μ g = (sLd 0 104 isR) (W n) ls st μ g := (hW n 103 ls st μ g).trans rfl
theorem wX5_isConsistent_104 {l : Launch} {K : aRs} {X : aXs} {J : aK} {W : Nat → aK} (hW : isW (tbX5_isConsistent l K X) cuX5_isConsistent J W) (n : Nat) (ls st : List aV) (μ : aM) (g : Nat) : W (n + 1) 104 ls st μ g = (sPush (aI 98) 106) (W n) ls st μ g := (hW n 104 ls st μ g).trans rfl
theorem wX5_isConsistent_106 {l : Launch} {K : aRs} {X : aXs} {J : aK} {W : Nat → aK} (hW : isW (tbX5_isConsistent l K X) cuX5_isConsistent J W) (n : Nat) (ls st : List aV) (μ : aM) (g : Nat) : W (n + 1) 106 ls st μ g = (sCallV 1 5 (fun as μ K => Ct l mdX5_first as μ K X) 109 0 0) (W n) ls st μ g := (hW n 106 ls st μ g).trans rfl
theorem tX5_isConsistent_109 (l : Launch) (K : aRs) (X : aXs) : tb (tbX5_isConsistent l K X) 109 = sAldI 7 110 := (rfl)
theorem wX5_isConsistent_109 {l : Launch} {K : aRs} {X : aXs} {J : aK} {W : Nat → aK} (hW : isW (tbX5_isConsistent l K X) cuX5_isConsistent J W) (n : Nat) (ls st : List aV) (μ : aM) (g : Nat) : W (n + 1) 109 ls st μ g = J 109 ls st μ g := (hW n 109 ls st μ g).trans rfl
theorem wX5_isConsistent_110 {l : Launch} {K : aRs} {X : aXs} {J : aK} {W : Nat → aK} (hW : isW (tbX5_isConsistent l K X) cuX5_isConsistent J W) (n : Nat) (ls st : List aV) (μ : aM) (g : Nat) : W (n + 1) 110 ls st μ g = (sLd 0 111 isR) (W n) ls st μ g := (hW n 110 ls st μ g).trans rfl
set_option maxRecDepth 10000 in
theorem wX5_isConsistent_111 {l : Launch} {K : aRs} {X : aXs} {J : aK} {W : Nat → aK} (hW : isW (tbX5_isConsistent l K X) cuX5_isConsistent J W) (n : Nat) (ls st : List aV) (μ : aM) (g : Nat) : W (n + 1) 111 ls st μ g = (sGetR 5 4 114) (W n) ls st μ g := (hW n 111 ls st μ g).trans rfl
set_option maxRecDepth 10000 in
theorem wX5_isConsistent_114 {l : Launch} {K : aRs} {X : aXs} {J : aK} {W : Nat → aK} (hW : isW (tbX5_isConsistent l K X) cuX5_isConsistent J W) (n : Nat) (ls st : List aV) (μ : aM) (g : Nat) : W (n + 1) 114 ls st μ g = (sLd 0 115 isR) (W n) ls st μ g := (hW n 114 ls st μ g).trans rfl
set_option maxRecDepth 10000 in
theorem wX5_isConsistent_115 {l : Launch} {K : aRs} {X : aXs} {J : aK} {W : Nat → aK} (hW : isW (tbX5_isConsistent l K X) cuX5_isConsistent J W) (n : Nat) (ls st : List aV) (μ : aM) (g : Nat) : W (n + 1) 115 ls st μ g = (sPush (aI 115) 117) (W n) ls st μ g := (hW n 115 ls st μ g).trans rfl
set_option maxRecDepth 10000 in
theorem wX5_isConsistent_117 {l : Launch} {K : aRs} {X : aXs} {J : aK} {W : Nat → aK} (hW : isW (tbX5_isConsistent l K X) cuX5_isConsistent J W) (n : Nat) (ls st : List aV) (μ : aM) (g : Nat) : W (n + 1) 117 ls st μ g = (sCallV 1 5 (fun as μ K => Ct l mdX5_first as μ K X) 120 0 0) (W n) ls st μ g := (hW n 117 ls st μ g).trans rfl
set_option maxRecDepth 10000 in
theorem tX5_isConsistent_120 (l : Launch) (K : aRs) (X : aXs) : tb (tbX5_isConsistent l K X) 120 = sAldI 7 121 := (rfl)
theorem wX5_isConsistent_120 {l : Launch} {K : aRs} {X : aXs} {J : aK} {W : Nat → aK} (hW : isW (tbX5_isConsistent l K X) cuX5_isConsistent J W) (n : Nat) (ls st : List aV) (μ : aM) (g : Nat) : W (n + 1) 120 ls st μ g = J 120 ls st μ g := (hW n 120 ls st μ g).trans rfl
set_option maxRecDepth 10000 in
theorem wX5_isConsistent_121 {l : Launch} {K : aRs} {X : aXs} {J : aK} {W : Nat → aK} (hW : isW (tbX5_isConsistent l K X) cuX5_isConsistent J W) (n : Nat) (ls st : List aV) (μ : aM) (g : Nat) : W (n + 1) 121 ls st μ g = (sIc qGe 128 124) (W n) ls st μ g := (hW n 121 ls st μ g).trans rfl
set_option maxRecDepth 10000 in
theorem wX5_isConsistent_124 {l : Launch} {K : aRs} {X : aXs} {J : aK} {W : Nat → aK} (hW : isW (tbX5_isConsistent l K X) cuX5_isConsistent J W) (n : Nat) (ls st : List aV) (μ : aM) (g : Nat) : W (n + 1) 124 ls st μ g = (sPush (aI 1) 125) (W n) ls st μ g := (hW n 124 ls st μ g).trans rfl
set_option maxRecDepth 10000 in
theorem wX5_isConsistent_125 {l : Launch} {K : aRs} {X : aXs} {J : aK} {W : Nat → aK} (hW : isW (tbX5_isConsistent l K X) cuX5_isConsistent J W) (n : Nat) (ls st : List aV) (μ : aM) (g : Nat) : W (n + 1) 125 ls st μ g = (sGoto 129) (W n) ls st μ g := (hW n 125 ls st μ g).trans rfl
set_option maxRecDepth 10000 in
theorem wX5_isConsistent_128 {l : Launch} {K : aRs} {X : aXs} {J : aK} {W : Nat → aK} (hW : isW (tbX5_isConsistent l K X) cuX5_isConsistent J W) (n : Nat) (ls st : List aV) (μ : aM) (g : Nat) : W (n + 1) 128 ls st μ g = (sPush (aI 0) 129) (W n) ls st μ g := (hW n 128 ls st μ g).trans rfl
set_option maxRecDepth 10000 in
theorem wX5_isConsistent_129 {l : Launch} {K : aRs} {X : aXs} {J : aK} {W : Nat → aK} (hW : isW (tbX5_isConsistent l K X) cuX5_isConsistent J W) (n : Nat) (ls st : List aV) (μ : aM) (g : Nat) : W (n + 1) 129 ls st μ g = (sRetI .boolean 0 K) (W n) ls st μ g := (hW n 129 ls st μ g).trans rfl
