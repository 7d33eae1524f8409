/-! ===== the law's own pieces: tables of steps, by program (gen/mklaw.py) ===== -/
theorem dLwI_0 : decode code 0 = .ok (.new 8, 3) := by decide +kernel
theorem dLwI_3 : decode code 3 = .ok (.dup, 1) := by decide +kernel
theorem dLwI_4 : decode code 4 = .ok (.invokespecial 111, 3) := by decide +kernel
theorem dLwI_7 : decode code 7 = .ok (.astore_n 1, 1) := by decide +kernel
theorem dLwI_8 : decode code 8 = .ok (.new 112, 3) := by decide +kernel
theorem dLwI_11 : decode code 11 = .ok (.dup, 1) := by decide +kernel
theorem dLwI_12 : decode code 12 = .ok (.invokespecial 114, 3) := by decide +kernel
theorem dLwI_15 : decode code 15 = .ok (.astore_n 2, 1) := by decide +kernel
theorem dLwI_16 : decode code 16 = .ok (.iconst 1, 1) := by decide +kernel
theorem dLwI_17 : decode code 17 = .ok (.newarray .long, 2) := by decide +kernel
theorem dLwI_19 : decode code 19 = .ok (.astore_n 3, 1) := by decide +kernel
theorem dLwI_20 : decode code 20 = .ok (.iconst 1, 1) := by decide +kernel
theorem dLwI_21 : decode code 21 = .ok (.newarray .double, 2) := by decide +kernel
theorem dLwI_23 : decode code 23 = .ok (.astore 4, 2) := by decide +kernel
theorem dLwI_25 : decode code 25 = .ok (.iconst 0, 1) := by decide +kernel
theorem dLwI_26 : decode code 26 = .ok (.istore 5, 2) := by decide +kernel
def tbLwI (l : Launch) (L : Nat) (xs : Nat → Int32) : aTb := [
  (0, sNewO 4 3 3600),
  (3, sDup 4),
  (4, sCallV 0 4 (fun as μ K => Ct l mdX4_init as μ K nX) 7 9 3600),
  (7, sSt 1 8 isR),
  (8, sNewO 5 11 3600),
  (11, sDup 12),
  (12, sCallV 0 5 (fun as μ K => Ct l mdX5_init as μ K nX) 15 15 3600),
  (15, sSt 2 16 isR),
  (16, sPush (aI 1) 17),
  (17, sNewA 8 19 3600),
  (19, sSt 3 20 isR),
  (20, sPush (aI 1) 21),
  (21, sNewA 9 23 3600),
  (23, sSt 4 25 isR),
  (25, sPush (aI 0) 26),
  (26, sSt 5 28 isI)]
theorem snLwI (l : Launch) (L : Nat) (xs : Nat → Int32) (hL3 : L ≤ 3072) : ∀ q ∈ tbLwI l L xs, Snd (BL l L xs) q.1 q.2 :=
  tcG (sLw (fun p e s m below meth c b cA D A ad0 h hb => ok_newO h.1 (show 3600 ≤ room_1.cells ∧ 2000 * 3600 ≤ room_1.slots from ⟨Nat.le_of_ble_eq_true rfl, Nat.le_of_ble_eq_true rfl⟩) cxX4 (by decide) (by decide) ckRL_8 iaX4 niRX4 dLwI_0)) <|
  tcG (sLw (fun p e s m below meth c b cA D A ad0 h hb => ok_dup h.1 dLwI_3)) <|
  tcG (sLw (fun p e s m below meth c b cA D A ad0 h hb => ok_callI h.1 h.2.1 (show 3600 ≤ room_1.cells ∧ 2000 * 3600 ≤ room_1.slots from ⟨Nat.le_of_ble_eq_true rfl, Nat.le_of_ble_eq_true rfl⟩) mdX4_init siX4_init rfl rfl mkRL_111 imX4_init ⟨by decide, by decide⟩ aAx_no dLwI_4)) <|
  tcG (sLw (fun p e s m below meth c b cA D A ad0 h hb => ok_astore_n h.1 1 rfl (by decide) dLwI_7)) <|
  tcG (sLw (fun p e s m below meth c b cA D A ad0 h hb => ok_newO h.1 (show 3600 ≤ room_1.cells ∧ 2000 * 3600 ≤ room_1.slots from ⟨Nat.le_of_ble_eq_true rfl, Nat.le_of_ble_eq_true rfl⟩) cxX5 (by decide) (by decide) ckRL_112 iaX5 niRX5 dLwI_8)) <|
  tcG (sLw (fun p e s m below meth c b cA D A ad0 h hb => ok_dup h.1 dLwI_11)) <|
  tcG (sLw (fun p e s m below meth c b cA D A ad0 h hb => ok_callI h.1 h.2.1 (show 3600 ≤ room_1.cells ∧ 2000 * 3600 ≤ room_1.slots from ⟨Nat.le_of_ble_eq_true rfl, Nat.le_of_ble_eq_true rfl⟩) mdX5_init siX5_init rfl rfl mkRL_114 imX5_init ⟨by decide, by decide⟩ aAx_no dLwI_12)) <|
  tcG (sLw (fun p e s m below meth c b cA D A ad0 h hb => ok_astore_n h.1 2 rfl (by decide) dLwI_15)) <|
  tcG (sLw (fun p e s m below meth c b cA D A ad0 h hb => ok_iconst h.1 ⟨by decide, by decide⟩ dLwI_16)) <|
  tcG (sLw (fun p e s m below meth c b cA D A ad0 h hb => ok_newL h.1 (show 3600 ≤ room_1.cells ∧ 2000 * 3600 ≤ room_1.slots from ⟨Nat.le_of_ble_eq_true rfl, Nat.le_of_ble_eq_true rfl⟩) ar_long dLwI_17)) <|
  tcG (sLw (fun p e s m below meth c b cA D A ad0 h hb => ok_astore_n h.1 3 rfl (by decide) dLwI_19)) <|
  tcG (sLw (fun p e s m below meth c b cA D A ad0 h hb => ok_iconst h.1 ⟨by decide, by decide⟩ dLwI_20)) <|
  tcG (sLw (fun p e s m below meth c b cA D A ad0 h hb => ok_newD h.1 (show 3600 ≤ room_1.cells ∧ 2000 * 3600 ≤ room_1.slots from ⟨Nat.le_of_ble_eq_true rfl, Nat.le_of_ble_eq_true rfl⟩) ar_double dLwI_21)) <|
  tcG (sLw (fun p e s m below meth c b cA D A ad0 h hb => ok_astore h.1 (by decide) dLwI_23)) <|
  tcG (sLw (fun p e s m below meth c b cA D A ad0 h hb => ok_iconst h.1 ⟨by decide, by decide⟩ dLwI_25)) <|
  tcG (sLw (fun p e s m below meth c b cA D A ad0 h hb => ok_istore h.1 (by decide) dLwI_26)) <|
  tnG
abbrev cuLwI : List Nat := [7, 15, 28]
theorem wLwI_28 {l : Launch} {L : Nat} {xs : Nat → Int32} {J : aK} {W : Nat → aK} (hW : isW (tbLwI l L xs) cuLwI J W) (n : Nat) (ls st : List aV) (μ : aM) (g : Nat) : W (n + 1) 28 ls st μ g = J 28 ls st μ g := (hW n 28 ls st μ g).trans rfl
theorem tLwI_0 (l : Launch) (L : Nat) (xs : Nat → Int32) : tb (tbLwI l L xs) 0 = sNewO 4 3 3600 := (rfl)
theorem wLwI_0 {l : Launch} {L : Nat} {xs : Nat → Int32} {J : aK} {W : Nat → aK} (hW : isW (tbLwI l L xs) cuLwI J W) (n : Nat) (ls st : List aV) (μ : aM) (g : Nat) : W (n + 1) 0 ls st μ g = (sNewO 4 3 3600) (W n) ls st μ g := (hW n 0 ls st μ g).trans rfl
theorem wLwI_3 {l : Launch} {L : Nat} {xs : Nat → Int32} {J : aK} {W : Nat → aK} (hW : isW (tbLwI l L xs) cuLwI J W) (n : Nat) (ls st : List aV) (μ : aM) (g : Nat) : W (n + 1) 3 ls st μ g = (sDup 4) (W n) ls st μ g := (hW n 3 ls st μ g).trans rfl
theorem wLwI_4 {l : Launch} {L : Nat} {xs : Nat → Int32} {J : aK} {W : Nat → aK} (hW : isW (tbLwI l L xs) cuLwI J W) (n : Nat) (ls st : List aV) (μ : aM) (g : Nat) : W (n + 1) 4 ls st μ g = (sCallV 0 4 (fun as μ K => Ct l mdX4_init as μ K nX) 7 9 3600) (W n) ls st μ g := (hW n 4 ls st μ g).trans rfl
theorem tLwI_7 (l : Launch) (L : Nat) (xs : Nat → Int32) : tb (tbLwI l L xs) 7 = sSt 1 8 isR := (rfl)
theorem wLwI_7 {l : Launch} {L : Nat} {xs : Nat → Int32} {J : aK} {W : Nat → aK} (hW : isW (tbLwI l L xs) cuLwI J W) (n : Nat) (ls st : List aV) (μ : aM) (g : Nat) : W (n + 1) 7 ls st μ g = J 7 ls st μ g := (hW n 7 ls st μ g).trans rfl
theorem wLwI_8 {l : Launch} {L : Nat} {xs : Nat → Int32} {J : aK} {W : Nat → aK} (hW : isW (tbLwI l L xs) cuLwI J W) (n : Nat) (ls st : List aV) (μ : aM) (g : Nat) : W (n + 1) 8 ls st μ g = (sNewO 5 11 3600) (W n) ls st μ g := (hW n 8 ls st μ g).trans rfl
theorem wLwI_11 {l : Launch} {L : Nat} {xs : Nat → Int32} {J : aK} {W : Nat → aK} (hW : isW (tbLwI l L xs) cuLwI J W) (n : Nat) (ls st : List aV) (μ : aM) (g : Nat) : W (n + 1) 11 ls st μ g = (sDup 12) (W n) ls st μ g := (hW n 11 ls st μ g).trans rfl
theorem wLwI_12 {l : Launch} {L : Nat} {xs : Nat → Int32} {J : aK} {W : Nat → aK} (hW : isW (tbLwI l L xs) cuLwI J W) (n : Nat) (ls st : List aV) (μ : aM) (g : Nat) : W (n + 1) 12 ls st μ g = (sCallV 0 5 (fun as μ K => Ct l mdX5_init as μ K nX) 15 15 3600) (W n) ls st μ g := (hW n 12 ls st μ g).trans rfl
theorem tLwI_15 (l : Launch) (L : Nat) (xs : Nat → Int32) : tb (tbLwI l L xs) 15 = sSt 2 16 isR := (rfl)
theorem wLwI_15 {l : Launch} {L : Nat} {xs : Nat → Int32} {J : aK} {W : Nat → aK} (hW : isW (tbLwI l L xs) cuLwI J W) (n : Nat) (ls st : List aV) (μ : aM) (g : Nat) : W (n + 1) 15 ls st μ g = J 15 ls st μ g := (hW n 15 ls st μ g).trans rfl
theorem wLwI_16 {l : Launch} {L : Nat} {xs : Nat → Int32} {J : aK} {W : Nat → aK} (hW : isW (tbLwI l L xs) cuLwI J W) (n : Nat) (ls st : List aV) (μ : aM) (g : Nat) : W (n + 1) 16 ls st μ g = (sPush (aI 1) 17) (W n) ls st μ g := (hW n 16 ls st μ g).trans rfl
theorem wLwI_17 {l : Launch} {L : Nat} {xs : Nat → Int32} {J : aK} {W : Nat → aK} (hW : isW (tbLwI l L xs) cuLwI J W) (n : Nat) (ls st : List aV) (μ : aM) (g : Nat) : W (n + 1) 17 ls st μ g = (sNewA 8 19 3600) (W n) ls st μ g := (hW n 17 ls st μ g).trans rfl
theorem wLwI_19 {l : Launch} {L : Nat} {xs : Nat → Int32} {J : aK} {W : Nat → aK} (hW : isW (tbLwI l L xs) cuLwI J W) (n : Nat) (ls st : List aV) (μ : aM) (g : Nat) : W (n + 1) 19 ls st μ g = (sSt 3 20 isR) (W n) ls st μ g := (hW n 19 ls st μ g).trans rfl
theorem wLwI_20 {l : Launch} {L : Nat} {xs : Nat → Int32} {J : aK} {W : Nat → aK} (hW : isW (tbLwI l L xs) cuLwI J W) (n : Nat) (ls st : List aV) (μ : aM) (g : Nat) : W (n + 1) 20 ls st μ g = (sPush (aI 1) 21) (W n) ls st μ g := (hW n 20 ls st μ g).trans rfl
theorem wLwI_21 {l : Launch} {L : Nat} {xs : Nat → Int32} {J : aK} {W : Nat → aK} (hW : isW (tbLwI l L xs) cuLwI J W) (n : Nat) (ls st : List aV) (μ : aM) (g : Nat) : W (n + 1) 21 ls st μ g = (sNewA 9 23 3600) (W n) ls st μ g := (hW n 21 ls st μ g).trans rfl
theorem wLwI_23 {l : Launch} {L : Nat} {xs : Nat → Int32} {J : aK} {W : Nat → aK} (hW : isW (tbLwI l L xs) cuLwI J W) (n : Nat) (ls st : List aV) (μ : aM) (g : Nat) : W (n + 1) 23 ls st μ g = (sSt 4 25 isR) (W n) ls st μ g := (hW n 23 ls st μ g).trans rfl
theorem wLwI_25 {l : Launch} {L : Nat} {xs : Nat → Int32} {J : aK} {W : Nat → aK} (hW : isW (tbLwI l L xs) cuLwI J W) (n : Nat) (ls st : List aV) (μ : aM) (g : Nat) : W (n + 1) 25 ls st μ g = (sPush (aI 0) 26) (W n) ls st μ g := (hW n 25 ls st μ g).trans rfl
theorem wLwI_26 {l : Launch} {L : Nat} {xs : Nat → Int32} {J : aK} {W : Nat → aK} (hW : isW (tbLwI l L xs) cuLwI J W) (n : Nat) (ls st : List aV) (μ : aM) (g : Nat) : W (n + 1) 26 ls st μ g = (sSt 5 28 isI) (W n) ls st μ g := (hW n 26 ls st μ g).trans rfl
theorem dLwH_28 : decode code 28 = .ok (.iload 5, 2) := by decide +kernel
theorem dLwH_30 : decode code 30 = .ok (.aload_n 0, 1) := by decide +kernel
theorem dLwH_31 : decode code 31 = .ok (.arraylength, 1) := by decide +kernel
theorem dLwH_32 : decode code 32 = .ok (.bipush 6, 2) := by decide +kernel
theorem dLwH_34 : decode code 34 = .ok (.isub, 1) := by decide +kernel
theorem dLwH_35 : decode code 35 = .ok (.if_icmp .gt 1940, 3) := by decide +kernel
theorem dLwH_38 : decode code 38 = .ok (.aload_n 0, 1) := by decide +kernel
theorem dLwH_39 : decode code 39 = .ok (.iload 5, 2) := by decide +kernel
theorem dLwH_41 : decode code 41 = .ok (.iaload, 1) := by decide +kernel
theorem dLwH_42 : decode code 42 = .ok (.bipush 63, 2) := by decide +kernel
theorem dLwH_44 : decode code 44 = .ok (.iand, 1) := by decide +kernel
theorem dLwH_45 : decode code 45 = .ok (.tableswitch 1924 0 33 #[151, 257, 363, 419, 487, 543, 601, 645, 689, 702, 758, 814, 870, 948, 961, 1019, 1089, 1159, 1229, 1299, 1381, 1425, 1438, 1482, 1526, 1582, 1595, 1651, 1707, 1763, 1819, 1833, 1898, 1911], 151) := by decide +kernel
def tbLwH (l : Launch) (L : Nat) (xs : Nat → Int32) : aTb := [
  (28, sLd 5 30 isI),
  (30, sLd 0 31 isR),
  (31, sSlen L 32),
  (32, sPush (aI 6) 34),
  (34, sBin fSub 35),
  (35, sIc qGt 1975 38),
  (38, sLd 0 39 isR),
  (39, sLd 5 41 isI),
  (41, sSld L xs 42),
  (42, sPush (aI 63) 44),
  (44, sBin fAnd 45),
  (45, sSw [196, 302, 408, 464, 532, 588, 646, 690, 734, 747, 803, 859, 915, 993, 1006, 1064, 1134, 1204, 1274, 1344, 1426, 1470, 1483, 1527, 1571, 1627, 1640, 1696, 1752, 1808, 1864, 1878, 1943, 1956] 33 1969)]
theorem snLwH (l : Launch) (L : Nat) (xs : Nat → Int32) (hL3 : L ≤ 3072) : ∀ q ∈ tbLwH l L xs, Snd (BL l L xs) q.1 q.2 :=
  tcG (sLw (fun p e s m below meth c b cA D A ad0 h hb => ok_iload h.1 dLwH_28)) <|
  tcG (sLw (fun p e s m below meth c b cA D A ad0 h hb => ok_aload_n h.1 0 rfl dLwH_30)) <|
  tcG (sLw (fun p e s m below meth c b cA D A ad0 h hb => ok_slen h hb hL3 dLwH_31)) <|
  tcG (sLw (fun p e s m below meth c b cA D A ad0 h hb => ok_bipush h.1 ⟨by decide, by decide⟩ (by decide) dLwH_32)) <|
  tcG (sLw (fun p e s m below meth c b cA D A ad0 h hb => ok_isub h.1 dLwH_34)) <|
  tcG (sLw (fun p e s m below meth c b cA D A ad0 h hb => ok_icmp_gt h.1 1975 (by decide) dLwH_35)) <|
  tcG (sLw (fun p e s m below meth c b cA D A ad0 h hb => ok_aload_n h.1 0 rfl dLwH_38)) <|
  tcG (sLw (fun p e s m below meth c b cA D A ad0 h hb => ok_iload h.1 dLwH_39)) <|
  tcG (sLw (fun p e s m below meth c b cA D A ad0 h hb => ok_sld h hb dLwH_41)) <|
  tcG (sLw (fun p e s m below meth c b cA D A ad0 h hb => ok_bipush h.1 ⟨by decide, by decide⟩ (by decide) dLwH_42)) <|
  tcG (sLw (fun p e s m below meth c b cA D A ad0 h hb => ok_iand h.1 dLwH_44)) <|
  tcG (sLw (fun p e s m below meth c b cA D A ad0 h hb => ok_sw h dLwH_45 rfl rfl (by decide +kernel))) <|
  tnG
abbrev cuLwH : List Nat := [196, 302, 408, 464, 532, 588, 646, 690, 734, 747, 803, 859, 915, 993, 1006, 1064, 1134, 1204, 1274, 1344, 1426, 1470, 1483, 1527, 1571, 1627, 1640, 1696, 1752, 1808, 1864, 1878, 1943, 1956, 1969, 1975]
theorem wLwH_196 {l : Launch} {L : Nat} {xs : Nat → Int32} {J : aK} {W : Nat → aK} (hW : isW (tbLwH l L xs) cuLwH J W) (n : Nat) (ls st : List aV) (μ : aM) (g : Nat) : W (n + 1) 196 ls st μ g = J 196 ls st μ g := (hW n 196 ls st μ g).trans rfl
theorem wLwH_302 {l : Launch} {L : Nat} {xs : Nat → Int32} {J : aK} {W : Nat → aK} (hW : isW (tbLwH l L xs) cuLwH J W) (n : Nat) (ls st : List aV) (μ : aM) (g : Nat) : W (n + 1) 302 ls st μ g = J 302 ls st μ g := (hW n 302 ls st μ g).trans rfl
theorem wLwH_408 {l : Launch} {L : Nat} {xs : Nat → Int32} {J : aK} {W : Nat → aK} (hW : isW (tbLwH l L xs) cuLwH J W) (n : Nat) (ls st : List aV) (μ : aM) (g : Nat) : W (n + 1) 408 ls st μ g = J 408 ls st μ g := (hW n 408 ls st μ g).trans rfl
theorem wLwH_464 {l : Launch} {L : Nat} {xs : Nat → Int32} {J : aK} {W : Nat → aK} (hW : isW (tbLwH l L xs) cuLwH J W) (n : Nat) (ls st : List aV) (μ : aM) (g : Nat) : W (n + 1) 464 ls st μ g = J 464 ls st μ g := (hW n 464 ls st μ g).trans rfl
theorem wLwH_532 {l : Launch} {L : Nat} {xs : Nat → Int32} {J : aK} {W : Nat → aK} (hW : isW (tbLwH l L xs) cuLwH J W) (n : Nat) (ls st : List aV) (μ : aM) (g : Nat) : W (n + 1) 532 ls st μ g = J 532 ls st μ g := (hW n 532 ls st μ g).trans rfl
theorem wLwH_588 {l : Launch} {L : Nat} {xs : Nat → Int32} {J : aK} {W : Nat → aK} (hW : isW (tbLwH l L xs) cuLwH J W) (n : Nat) (ls st : List aV) (μ : aM) (g : Nat) : W (n + 1) 588 ls st μ g = J 588 ls st μ g := (hW n 588 ls st μ g).trans rfl
theorem wLwH_646 {l : Launch} {L : Nat} {xs : Nat → Int32} {J : aK} {W : Nat → aK} (hW : isW (tbLwH l L xs) cuLwH J W) (n : Nat) (ls st : List aV) (μ : aM) (g : Nat) : W (n + 1) 646 ls st μ g = J 646 ls st μ g := (hW n 646 ls st μ g).trans rfl
theorem wLwH_690 {l : Launch} {L : Nat} {xs : Nat → Int32} {J : aK} {W : Nat → aK} (hW : isW (tbLwH l L xs) cuLwH J W) (n : Nat) (ls st : List aV) (μ : aM) (g : Nat) : W (n + 1) 690 ls st μ g = J 690 ls st μ g := (hW n 690 ls st μ g).trans rfl
theorem wLwH_734 {l : Launch} {L : Nat} {xs : Nat → Int32} {J : aK} {W : Nat → aK} (hW : isW (tbLwH l L xs) cuLwH J W) (n : Nat) (ls st : List aV) (μ : aM) (g : Nat) : W (n + 1) 734 ls st μ g = J 734 ls st μ g := (hW n 734 ls st μ g).trans rfl
theorem wLwH_747 {l : Launch} {L : Nat} {xs : Nat → Int32} {J : aK} {W : Nat → aK} (hW : isW (tbLwH l L xs) cuLwH J W) (n : Nat) (ls st : List aV) (μ : aM) (g : Nat) : W (n + 1) 747 ls st μ g = J 747 ls st μ g := (hW n 747 ls st μ g).trans rfl
theorem wLwH_803 {l : Launch} {L : Nat} {xs : Nat → Int32} {J : aK} {W : Nat → aK} (hW : isW (tbLwH l L xs) cuLwH J W) (n : Nat) (ls st : List aV) (μ : aM) (g : Nat) : W (n + 1) 803 ls st μ g = J 803 ls st μ g := (hW n 803 ls st μ g).trans rfl
theorem wLwH_859 {l : Launch} {L : Nat} {xs : Nat → Int32} {J : aK} {W : Nat → aK} (hW : isW (tbLwH l L xs) cuLwH J W) (n : Nat) (ls st : List aV) (μ : aM) (g : Nat) : W (n + 1) 859 ls st μ g = J 859 ls st μ g := (hW n 859 ls st μ g).trans rfl
theorem wLwH_915 {l : Launch} {L : Nat} {xs : Nat → Int32} {J : aK} {W : Nat → aK} (hW : isW (tbLwH l L xs) cuLwH J W) (n : Nat) (ls st : List aV) (μ : aM) (g : Nat) : W (n + 1) 915 ls st μ g = J 915 ls st μ g := (hW n 915 ls st μ g).trans rfl
theorem wLwH_993 {l : Launch} {L : Nat} {xs : Nat → Int32} {J : aK} {W : Nat → aK} (hW : isW (tbLwH l L xs) cuLwH J W) (n : Nat) (ls st : List aV) (μ : aM) (g : Nat) : W (n + 1) 993 ls st μ g = J 993 ls st μ g := (hW n 993 ls st μ g).trans rfl
theorem wLwH_1006 {l : Launch} {L : Nat} {xs : Nat → Int32} {J : aK} {W : Nat → aK} (hW : isW (tbLwH l L xs) cuLwH J W) (n : Nat) (ls st : List aV) (μ : aM) (g : Nat) : W (n + 1) 1006 ls st μ g = J 1006 ls st μ g := (hW n 1006 ls st μ g).trans rfl
theorem wLwH_1064 {l : Launch} {L : Nat} {xs : Nat → Int32} {J : aK} {W : Nat → aK} (hW : isW (tbLwH l L xs) cuLwH J W) (n : Nat) (ls st : List aV) (μ : aM) (g : Nat) : W (n + 1) 1064 ls st μ g = J 1064 ls st μ g := (hW n 1064 ls st μ g).trans rfl
theorem wLwH_1134 {l : Launch} {L : Nat} {xs : Nat → Int32} {J : aK} {W : Nat → aK} (hW : isW (tbLwH l L xs) cuLwH J W) (n : Nat) (ls st : List aV) (μ : aM) (g : Nat) : W (n + 1) 1134 ls st μ g = J 1134 ls st μ g := (hW n 1134 ls st μ g).trans rfl
theorem wLwH_1204 {l : Launch} {L : Nat} {xs : Nat → Int32} {J : aK} {W : Nat → aK} (hW : isW (tbLwH l L xs) cuLwH J W) (n : Nat) (ls st : List aV) (μ : aM) (g : Nat) : W (n + 1) 1204 ls st μ g = J 1204 ls st μ g := (hW n 1204 ls st μ g).trans rfl
theorem wLwH_1274 {l : Launch} {L : Nat} {xs : Nat → Int32} {J : aK} {W : Nat → aK} (hW : isW (tbLwH l L xs) cuLwH J W) (n : Nat) (ls st : List aV) (μ : aM) (g : Nat) : W (n + 1) 1274 ls st μ g = J 1274 ls st μ g := (hW n 1274 ls st μ g).trans rfl
theorem wLwH_1344 {l : Launch} {L : Nat} {xs : Nat → Int32} {J : aK} {W : Nat → aK} (hW : isW (tbLwH l L xs) cuLwH J W) (n : Nat) (ls st : List aV) (μ : aM) (g : Nat) : W (n + 1) 1344 ls st μ g = J 1344 ls st μ g := (hW n 1344 ls st μ g).trans rfl
theorem wLwH_1426 {l : Launch} {L : Nat} {xs : Nat → Int32} {J : aK} {W : Nat → aK} (hW : isW (tbLwH l L xs) cuLwH J W) (n : Nat) (ls st : List aV) (μ : aM) (g : Nat) : W (n + 1) 1426 ls st μ g = J 1426 ls st μ g := (hW n 1426 ls st μ g).trans rfl
theorem wLwH_1470 {l : Launch} {L : Nat} {xs : Nat → Int32} {J : aK} {W : Nat → aK} (hW : isW (tbLwH l L xs) cuLwH J W) (n : Nat) (ls st : List aV) (μ : aM) (g : Nat) : W (n + 1) 1470 ls st μ g = J 1470 ls st μ g := (hW n 1470 ls st μ g).trans rfl
theorem wLwH_1483 {l : Launch} {L : Nat} {xs : Nat → Int32} {J : aK} {W : Nat → aK} (hW : isW (tbLwH l L xs) cuLwH J W) (n : Nat) (ls st : List aV) (μ : aM) (g : Nat) : W (n + 1) 1483 ls st μ g = J 1483 ls st μ g := (hW n 1483 ls st μ g).trans rfl
theorem wLwH_1527 {l : Launch} {L : Nat} {xs : Nat → Int32} {J : aK} {W : Nat → aK} (hW : isW (tbLwH l L xs) cuLwH J W) (n : Nat) (ls st : List aV) (μ : aM) (g : Nat) : W (n + 1) 1527 ls st μ g = J 1527 ls st μ g := (hW n 1527 ls st μ g).trans rfl
theorem wLwH_1571 {l : Launch} {L : Nat} {xs : Nat → Int32} {J : aK} {W : Nat → aK} (hW : isW (tbLwH l L xs) cuLwH J W) (n : Nat) (ls st : List aV) (μ : aM) (g : Nat) : W (n + 1) 1571 ls st μ g = J 1571 ls st μ g := (hW n 1571 ls st μ g).trans rfl
theorem wLwH_1627 {l : Launch} {L : Nat} {xs : Nat → Int32} {J : aK} {W : Nat → aK} (hW : isW (tbLwH l L xs) cuLwH J W) (n : Nat) (ls st : List aV) (μ : aM) (g : Nat) : W (n + 1) 1627 ls st μ g = J 1627 ls st μ g := (hW n 1627 ls st μ g).trans rfl
theorem wLwH_1640 {l : Launch} {L : Nat} {xs : Nat → Int32} {J : aK} {W : Nat → aK} (hW : isW (tbLwH l L xs) cuLwH J W) (n : Nat) (ls st : List aV) (μ : aM) (g : Nat) : W (n + 1) 1640 ls st μ g = J 1640 ls st μ g := (hW n 1640 ls st μ g).trans rfl
theorem wLwH_1696 {l : Launch} {L : Nat} {xs : Nat → Int32} {J : aK} {W : Nat → aK} (hW : isW (tbLwH l L xs) cuLwH J W) (n : Nat) (ls st : List aV) (μ : aM) (g : Nat) : W (n + 1) 1696 ls st μ g = J 1696 ls st μ g := (hW n 1696 ls st μ g).trans rfl
theorem wLwH_1752 {l : Launch} {L : Nat} {xs : Nat → Int32} {J : aK} {W : Nat → aK} (hW : isW (tbLwH l L xs) cuLwH J W) (n : Nat) (ls st : List aV) (μ : aM) (g : Nat) : W (n + 1) 1752 ls st μ g = J 1752 ls st μ g := (hW n 1752 ls st μ g).trans rfl
theorem wLwH_1808 {l : Launch} {L : Nat} {xs : Nat → Int32} {J : aK} {W : Nat → aK} (hW : isW (tbLwH l L xs) cuLwH J W) (n : Nat) (ls st : List aV) (μ : aM) (g : Nat) : W (n + 1) 1808 ls st μ g = J 1808 ls st μ g := (hW n 1808 ls st μ g).trans rfl
theorem wLwH_1864 {l : Launch} {L : Nat} {xs : Nat → Int32} {J : aK} {W : Nat → aK} (hW : isW (tbLwH l L xs) cuLwH J W) (n : Nat) (ls st : List aV) (μ : aM) (g : Nat) : W (n + 1) 1864 ls st μ g = J 1864 ls st μ g := (hW n 1864 ls st μ g).trans rfl
theorem wLwH_1878 {l : Launch} {L : Nat} {xs : Nat → Int32} {J : aK} {W : Nat → aK} (hW : isW (tbLwH l L xs) cuLwH J W) (n : Nat) (ls st : List aV) (μ : aM) (g : Nat) : W (n + 1) 1878 ls st μ g = J 1878 ls st μ g := (hW n 1878 ls st μ g).trans rfl
theorem wLwH_1943 {l : Launch} {L : Nat} {xs : Nat → Int32} {J : aK} {W : Nat → aK} (hW : isW (tbLwH l L xs) cuLwH J W) (n : Nat) (ls st : List aV) (μ : aM) (g : Nat) : W (n + 1) 1943 ls st μ g = J 1943 ls st μ g := (hW n 1943 ls st μ g).trans rfl
theorem wLwH_1956 {l : Launch} {L : Nat} {xs : Nat → Int32} {J : aK} {W : Nat → aK} (hW : isW (tbLwH l L xs) cuLwH J W) (n : Nat) (ls st : List aV) (μ : aM) (g : Nat) : W (n + 1) 1956 ls st μ g = J 1956 ls st μ g := (hW n 1956 ls st μ g).trans rfl
theorem wLwH_1969 {l : Launch} {L : Nat} {xs : Nat → Int32} {J : aK} {W : Nat → aK} (hW : isW (tbLwH l L xs) cuLwH J W) (n : Nat) (ls st : List aV) (μ : aM) (g : Nat) : W (n + 1) 1969 ls st μ g = J 1969 ls st μ g := (hW n 1969 ls st μ g).trans rfl
theorem wLwH_1975 {l : Launch} {L : Nat} {xs : Nat → Int32} {J : aK} {W : Nat → aK} (hW : isW (tbLwH l L xs) cuLwH J W) (n : Nat) (ls st : List aV) (μ : aM) (g : Nat) : W (n + 1) 1975 ls st μ g = J 1975 ls st μ g := (hW n 1975 ls st μ g).trans rfl
theorem tLwH_28 (l : Launch) (L : Nat) (xs : Nat → Int32) : tb (tbLwH l L xs) 28 = sLd 5 30 isI := (rfl)
theorem wLwH_28 {l : Launch} {L : Nat} {xs : Nat → Int32} {J : aK} {W : Nat → aK} (hW : isW (tbLwH l L xs) cuLwH J W) (n : Nat) (ls st : List aV) (μ : aM) (g : Nat) : W (n + 1) 28 ls st μ g = (sLd 5 30 isI) (W n) ls st μ g := (hW n 28 ls st μ g).trans rfl
theorem wLwH_30 {l : Launch} {L : Nat} {xs : Nat → Int32} {J : aK} {W : Nat → aK} (hW : isW (tbLwH l L xs) cuLwH J W) (n : Nat) (ls st : List aV) (μ : aM) (g : Nat) : W (n + 1) 30 ls st μ g = (sLd 0 31 isR) (W n) ls st μ g := (hW n 30 ls st μ g).trans rfl
theorem wLwH_31 {l : Launch} {L : Nat} {xs : Nat → Int32} {J : aK} {W : Nat → aK} (hW : isW (tbLwH l L xs) cuLwH J W) (n : Nat) (ls st : List aV) (μ : aM) (g : Nat) : W (n + 1) 31 ls st μ g = (sSlen L 32) (W n) ls st μ g := (hW n 31 ls st μ g).trans rfl
theorem wLwH_32 {l : Launch} {L : Nat} {xs : Nat → Int32} {J : aK} {W : Nat → aK} (hW : isW (tbLwH l L xs) cuLwH J W) (n : Nat) (ls st : List aV) (μ : aM) (g : Nat) : W (n + 1) 32 ls st μ g = (sPush (aI 6) 34) (W n) ls st μ g := (hW n 32 ls st μ g).trans rfl
theorem wLwH_34 {l : Launch} {L : Nat} {xs : Nat → Int32} {J : aK} {W : Nat → aK} (hW : isW (tbLwH l L xs) cuLwH J W) (n : Nat) (ls st : List aV) (μ : aM) (g : Nat) : W (n + 1) 34 ls st μ g = (sBin fSub 35) (W n) ls st μ g := (hW n 34 ls st μ g).trans rfl
theorem wLwH_35 {l : Launch} {L : Nat} {xs : Nat → Int32} {J : aK} {W : Nat → aK} (hW : isW (tbLwH l L xs) cuLwH J W) (n : Nat) (ls st : List aV) (μ : aM) (g : Nat) : W (n + 1) 35 ls st μ g = (sIc qGt 1975 38) (W n) ls st μ g := (hW n 35 ls st μ g).trans rfl
theorem wLwH_38 {l : Launch} {L : Nat} {xs : Nat → Int32} {J : aK} {W : Nat → aK} (hW : isW (tbLwH l L xs) cuLwH J W) (n : Nat) (ls st : List aV) (μ : aM) (g : Nat) : W (n + 1) 38 ls st μ g = (sLd 0 39 isR) (W n) ls st μ g := (hW n 38 ls st μ g).trans rfl
theorem wLwH_39 {l : Launch} {L : Nat} {xs : Nat → Int32} {J : aK} {W : Nat → aK} (hW : isW (tbLwH l L xs) cuLwH J W) (n : Nat) (ls st : List aV) (μ : aM) (g : Nat) : W (n + 1) 39 ls st μ g = (sLd 5 41 isI) (W n) ls st μ g := (hW n 39 ls st μ g).trans rfl
theorem wLwH_41 {l : Launch} {L : Nat} {xs : Nat → Int32} {J : aK} {W : Nat → aK} (hW : isW (tbLwH l L xs) cuLwH J W) (n : Nat) (ls st : List aV) (μ : aM) (g : Nat) : W (n + 1) 41 ls st μ g = (sSld L xs 42) (W n) ls st μ g := (hW n 41 ls st μ g).trans rfl
theorem wLwH_42 {l : Launch} {L : Nat} {xs : Nat → Int32} {J : aK} {W : Nat → aK} (hW : isW (tbLwH l L xs) cuLwH J W) (n : Nat) (ls st : List aV) (μ : aM) (g : Nat) : W (n + 1) 42 ls st μ g = (sPush (aI 63) 44) (W n) ls st μ g := (hW n 42 ls st μ g).trans rfl
theorem wLwH_44 {l : Launch} {L : Nat} {xs : Nat → Int32} {J : aK} {W : Nat → aK} (hW : isW (tbLwH l L xs) cuLwH J W) (n : Nat) (ls st : List aV) (μ : aM) (g : Nat) : W (n + 1) 44 ls st μ g = (sBin fAnd 45) (W n) ls st μ g := (hW n 44 ls st μ g).trans rfl
theorem wLwH_45 {l : Launch} {L : Nat} {xs : Nat → Int32} {J : aK} {W : Nat → aK} (hW : isW (tbLwH l L xs) cuLwH J W) (n : Nat) (ls st : List aV) (μ : aM) (g : Nat) : W (n + 1) 45 ls st μ g = (sSw [196, 302, 408, 464, 532, 588, 646, 690, 734, 747, 803, 859, 915, 993, 1006, 1064, 1134, 1204, 1274, 1344, 1426, 1470, 1483, 1527, 1571, 1627, 1640, 1696, 1752, 1808, 1864, 1878, 1943, 1956] 33 1969) (W n) ls st μ g := (hW n 45 ls st μ g).trans rfl
theorem dLw0_196 : decode code 196 = .ok (.aload_n 1, 1) := by decide +kernel
theorem dLw0_197 : decode code 197 = .ok (.aload_n 0, 1) := by decide +kernel
theorem dLw0_198 : decode code 198 = .ok (.iload 5, 2) := by decide +kernel
theorem dLw0_200 : decode code 200 = .ok (.iconst 1, 1) := by decide +kernel
theorem dLw0_201 : decode code 201 = .ok (.iadd, 1) := by decide +kernel
theorem dLw0_202 : decode code 202 = .ok (.iaload, 1) := by decide +kernel
theorem dLw0_203 : decode code 203 = .ok (.aload_n 0, 1) := by decide +kernel
theorem dLw0_204 : decode code 204 = .ok (.iload 5, 2) := by decide +kernel
theorem dLw0_206 : decode code 206 = .ok (.iconst 2, 1) := by decide +kernel
theorem dLw0_207 : decode code 207 = .ok (.iadd, 1) := by decide +kernel
theorem dLw0_208 : decode code 208 = .ok (.iaload, 1) := by decide +kernel
theorem dLw0_209 : decode code 209 = .ok (.i2c, 1) := by decide +kernel
theorem dLw0_210 : decode code 210 = .ok (.aload_n 0, 1) := by decide +kernel
theorem dLw0_211 : decode code 211 = .ok (.iload 5, 2) := by decide +kernel
theorem dLw0_213 : decode code 213 = .ok (.iconst 3, 1) := by decide +kernel
theorem dLw0_214 : decode code 214 = .ok (.iadd, 1) := by decide +kernel
theorem dLw0_215 : decode code 215 = .ok (.iaload, 1) := by decide +kernel
theorem dLw0_216 : decode code 216 = .ok (.aload_n 0, 1) := by decide +kernel
theorem dLw0_217 : decode code 217 = .ok (.iload 5, 2) := by decide +kernel
theorem dLw0_219 : decode code 219 = .ok (.iconst 4, 1) := by decide +kernel
theorem dLw0_220 : decode code 220 = .ok (.iadd, 1) := by decide +kernel
theorem dLw0_221 : decode code 221 = .ok (.iaload, 1) := by decide +kernel
theorem dLw0_222 : decode code 222 = .ok (.aload_n 0, 1) := by decide +kernel
theorem dLw0_223 : decode code 223 = .ok (.iload 5, 2) := by decide +kernel
theorem dLw0_225 : decode code 225 = .ok (.iconst 5, 1) := by decide +kernel
theorem dLw0_226 : decode code 226 = .ok (.iadd, 1) := by decide +kernel
theorem dLw0_227 : decode code 227 = .ok (.iaload, 1) := by decide +kernel
theorem dLw0_228 : decode code 228 = .ok (.aload_n 3, 1) := by decide +kernel
theorem dLw0_229 : decode code 229 = .ok (.invokestatic 115, 3) := by decide +kernel
theorem dLw0_232 : decode code 232 = .ok (.istore 6, 2) := by decide +kernel
theorem dLw0_234 : decode code 234 = .ok (.aload_n 2, 1) := by decide +kernel
theorem dLw0_235 : decode code 235 = .ok (.aload_n 0, 1) := by decide +kernel
theorem dLw0_236 : decode code 236 = .ok (.iload 5, 2) := by decide +kernel
theorem dLw0_238 : decode code 238 = .ok (.iconst 1, 1) := by decide +kernel
theorem dLw0_239 : decode code 239 = .ok (.iadd, 1) := by decide +kernel
theorem dLw0_240 : decode code 240 = .ok (.iaload, 1) := by decide +kernel
theorem dLw0_241 : decode code 241 = .ok (.aload_n 0, 1) := by decide +kernel
theorem dLw0_242 : decode code 242 = .ok (.iload 5, 2) := by decide +kernel
theorem dLw0_244 : decode code 244 = .ok (.iconst 2, 1) := by decide +kernel
theorem dLw0_245 : decode code 245 = .ok (.iadd, 1) := by decide +kernel
theorem dLw0_246 : decode code 246 = .ok (.iaload, 1) := by decide +kernel
theorem dLw0_247 : decode code 247 = .ok (.i2c, 1) := by decide +kernel
theorem dLw0_248 : decode code 248 = .ok (.aload_n 0, 1) := by decide +kernel
theorem dLw0_249 : decode code 249 = .ok (.iload 5, 2) := by decide +kernel
theorem dLw0_251 : decode code 251 = .ok (.iconst 3, 1) := by decide +kernel
theorem dLw0_252 : decode code 252 = .ok (.iadd, 1) := by decide +kernel
theorem dLw0_253 : decode code 253 = .ok (.iaload, 1) := by decide +kernel
theorem dLw0_254 : decode code 254 = .ok (.aload_n 0, 1) := by decide +kernel
theorem dLw0_255 : decode code 255 = .ok (.iload 5, 2) := by decide +kernel
theorem dLw0_257 : decode code 257 = .ok (.iconst 4, 1) := by decide +kernel
theorem dLw0_258 : decode code 258 = .ok (.iadd, 1) := by decide +kernel
theorem dLw0_259 : decode code 259 = .ok (.iaload, 1) := by decide +kernel
theorem dLw0_260 : decode code 260 = .ok (.aload_n 0, 1) := by decide +kernel
theorem dLw0_261 : decode code 261 = .ok (.iload 5, 2) := by decide +kernel
theorem dLw0_263 : decode code 263 = .ok (.iconst 5, 1) := by decide +kernel
theorem dLw0_264 : decode code 264 = .ok (.iadd, 1) := by decide +kernel
theorem dLw0_265 : decode code 265 = .ok (.iaload, 1) := by decide +kernel
theorem dLw0_266 : decode code 266 = .ok (.invokevirtual 120, 3) := by decide +kernel
theorem dLw0_269 : decode code 269 = .ok (.istore 7, 2) := by decide +kernel
theorem dLw0_271 : decode code 271 = .ok (.aload_n 2, 1) := by decide +kernel
theorem dLw0_272 : decode code 272 = .ok (.invokevirtual 121, 3) := by decide +kernel
theorem dLw0_275 : decode code 275 = .ok (.iload 6, 2) := by decide +kernel
theorem dLw0_277 : decode code 277 = .ok (.if_icmp .eq 5, 3) := by decide +kernel
theorem dLw0_280 : decode code 280 = .ok (.iconst 0, 1) := by decide +kernel
theorem dLw0_281 : decode code 281 = .ok (.ireturn, 1) := by decide +kernel
theorem dLw0_282 : decode code 282 = .ok (.iload 6, 2) := by decide +kernel
theorem dLw0_284 : decode code 284 = .ok (.ifCond .ne 15, 3) := by decide +kernel
theorem dLw0_287 : decode code 287 = .ok (.aload_n 3, 1) := by decide +kernel
theorem dLw0_288 : decode code 288 = .ok (.iconst 0, 1) := by decide +kernel
theorem dLw0_289 : decode code 289 = .ok (.laload, 1) := by decide +kernel
theorem dLw0_290 : decode code 290 = .ok (.iload 7, 2) := by decide +kernel
theorem dLw0_292 : decode code 292 = .ok (.i2l, 1) := by decide +kernel
theorem dLw0_293 : decode code 293 = .ok (.lcmp, 1) := by decide +kernel
theorem dLw0_294 : decode code 294 = .ok (.ifCond .eq 5, 3) := by decide +kernel
theorem dLw0_297 : decode code 297 = .ok (.iconst 0, 1) := by decide +kernel
theorem dLw0_298 : decode code 298 = .ok (.ireturn, 1) := by decide +kernel
theorem dLw0_299 : decode code 299 = .ok (.goto 1670, 3) := by decide +kernel
def tbLw0 (l : Launch) (L : Nat) (xs : Nat → Int32) : aTb := [
  (196, sLd 1 197 isR),
  (197, sLd 0 198 isR),
  (198, sLd 5 200 isI),
  (200, sPush (aI 1) 201),
  (201, sBin fAdd 202),
  (202, sSld L xs 203),
  (203, sLd 0 204 isR),
  (204, sLd 5 206 isI),
  (206, sPush (aI 2) 207),
  (207, sBin fAdd 208),
  (208, sSld L xs 209),
  (209, sUn fI2c 210),
  (210, sLd 0 211 isR),
  (211, sLd 5 213 isI),
  (213, sPush (aI 3) 214),
  (214, sBin fAdd 215),
  (215, sSld L xs 216),
  (216, sLd 0 217 isR),
  (217, sLd 5 219 isI),
  (219, sPush (aI 4) 220),
  (220, sBin fAdd 221),
  (221, sSld L xs 222),
  (222, sLd 0 223 isR),
  (223, sLd 5 225 isI),
  (225, sPush (aI 5) 226),
  (226, sBin fAdd 227),
  (227, sSld L xs 228),
  (228, sLd 3 229 isR),
  (229, sCallS 7 (fun as μ K => CtH l mdL_send hhL_send as μ K) 232 3 3600),
  (232, sSt 6 234 isI),
  (234, sLd 2 235 isR),
  (235, sLd 0 236 isR),
  (236, sLd 5 238 isI),
  (238, sPush (aI 1) 239),
  (239, sBin fAdd 240),
  (240, sSld L xs 241),
  (241, sLd 0 242 isR),
  (242, sLd 5 244 isI),
  (244, sPush (aI 2) 245),
  (245, sBin fAdd 246),
  (246, sSld L xs 247),
  (247, sUn fI2c 248),
  (248, sLd 0 249 isR),
  (249, sLd 5 251 isI),
  (251, sPush (aI 3) 252),
  (252, sBin fAdd 253),
  (253, sSld L xs 254),
  (254, sLd 0 255 isR),
  (255, sLd 5 257 isI),
  (257, sPush (aI 4) 258),
  (258, sBin fAdd 259),
  (259, sSld L xs 260),
  (260, sLd 0 261 isR),
  (261, sLd 5 263 isI),
  (263, sPush (aI 5) 264),
  (264, sBin fAdd 265),
  (265, sSld L xs 266),
  (266, sCallV 5 5 (fun as μ K => Ct l mdX5_send as μ K nX) 269 0 3600),
  (269, sSt 7 271 isI),
  (271, sLd 2 272 isR),
  (272, sCallV 0 5 (fun as μ K => Ct l mdX5_thrown as μ K nX) 275 0 3600),
  (275, sLd 6 277 isI),
  (277, sIc qEq 282 280),
  (280, sPush (aI 0) 281),
  (281, sLret),
  (282, sLd 6 284 isI),
  (284, sIf pNe 299 287),
  (287, sLd 3 288 isR),
  (288, sPush (aI 0) 289),
  (289, sAldL 290),
  (290, sLd 7 292 isI),
  (292, sI2l 293),
  (293, sLcmp 294),
  (294, sIf pEq 299 297),
  (297, sPush (aI 0) 298),
  (298, sLret),
  (299, sGoto 1969)]
theorem snLw0 (l : Launch) (L : Nat) (xs : Nat → Int32) (hL3 : L ≤ 3072) : ∀ q ∈ tbLw0 l L xs, Snd (BL l L xs) q.1 q.2 :=
  tcG (sLw (fun p e s m below meth c b cA D A ad0 h hb => ok_aload_n h.1 1 rfl dLw0_196)) <|
  tcG (sLw (fun p e s m below meth c b cA D A ad0 h hb => ok_aload_n h.1 0 rfl dLw0_197)) <|
  tcG (sLw (fun p e s m below meth c b cA D A ad0 h hb => ok_iload h.1 dLw0_198)) <|
  tcG (sLw (fun p e s m below meth c b cA D A ad0 h hb => ok_iconst h.1 ⟨by decide, by decide⟩ dLw0_200)) <|
  tcG (sLw (fun p e s m below meth c b cA D A ad0 h hb => ok_iadd h.1 dLw0_201)) <|
  tcG (sLw (fun p e s m below meth c b cA D A ad0 h hb => ok_sld h hb dLw0_202)) <|
  tcG (sLw (fun p e s m below meth c b cA D A ad0 h hb => ok_aload_n h.1 0 rfl dLw0_203)) <|
  tcG (sLw (fun p e s m below meth c b cA D A ad0 h hb => ok_iload h.1 dLw0_204)) <|
  tcG (sLw (fun p e s m below meth c b cA D A ad0 h hb => ok_iconst h.1 ⟨by decide, by decide⟩ dLw0_206)) <|
  tcG (sLw (fun p e s m below meth c b cA D A ad0 h hb => ok_iadd h.1 dLw0_207)) <|
  tcG (sLw (fun p e s m below meth c b cA D A ad0 h hb => ok_sld h hb dLw0_208)) <|
  tcG (sLw (fun p e s m below meth c b cA D A ad0 h hb => ok_i2c h.1 dLw0_209)) <|
  tcG (sLw (fun p e s m below meth c b cA D A ad0 h hb => ok_aload_n h.1 0 rfl dLw0_210)) <|
  tcG (sLw (fun p e s m below meth c b cA D A ad0 h hb => ok_iload h.1 dLw0_211)) <|
  tcG (sLw (fun p e s m below meth c b cA D A ad0 h hb => ok_iconst h.1 ⟨by decide, by decide⟩ dLw0_213)) <|
  tcG (sLw (fun p e s m below meth c b cA D A ad0 h hb => ok_iadd h.1 dLw0_214)) <|
  tcG (sLw (fun p e s m below meth c b cA D A ad0 h hb => ok_sld h hb dLw0_215)) <|
  tcG (sLw (fun p e s m below meth c b cA D A ad0 h hb => ok_aload_n h.1 0 rfl dLw0_216)) <|
  tcG (sLw (fun p e s m below meth c b cA D A ad0 h hb => ok_iload h.1 dLw0_217)) <|
  tcG (sLw (fun p e s m below meth c b cA D A ad0 h hb => ok_iconst h.1 ⟨by decide, by decide⟩ dLw0_219)) <|
  tcG (sLw (fun p e s m below meth c b cA D A ad0 h hb => ok_iadd h.1 dLw0_220)) <|
  tcG (sLw (fun p e s m below meth c b cA D A ad0 h hb => ok_sld h hb dLw0_221)) <|
  tcG (sLw (fun p e s m below meth c b cA D A ad0 h hb => ok_aload_n h.1 0 rfl dLw0_222)) <|
  tcG (sLw (fun p e s m below meth c b cA D A ad0 h hb => ok_iload h.1 dLw0_223)) <|
  tcG (sLw (fun p e s m below meth c b cA D A ad0 h hb => ok_iconst h.1 ⟨by decide, by decide⟩ dLw0_225)) <|
  tcG (sLw (fun p e s m below meth c b cA D A ad0 h hb => ok_iadd h.1 dLw0_226)) <|
  tcG (sLw (fun p e s m below meth c b cA D A ad0 h hb => ok_sld h hb dLw0_227)) <|
  tcG (sLw (fun p e s m below meth c b cA D A ad0 h hb => ok_aload_n h.1 3 rfl dLw0_228)) <|
  tcG (sLw (fun p e s m below meth c b cA D A ad0 h hb => ok_callSH h.1 h.2.1 (show 3600 ≤ room_1.cells ∧ 2000 * 3600 ≤ room_1.slots from ⟨Nat.le_of_ble_eq_true rfl, Nat.le_of_ble_eq_true rfl⟩) mdL_send hhL_send siL_send mkRL_115 stL_send ⟨by decide, by decide⟩ dLw0_229)) <|
  tcG (sLw (fun p e s m below meth c b cA D A ad0 h hb => ok_istore h.1 (by decide) dLw0_232)) <|
  tcG (sLw (fun p e s m below meth c b cA D A ad0 h hb => ok_aload_n h.1 2 rfl dLw0_234)) <|
  tcG (sLw (fun p e s m below meth c b cA D A ad0 h hb => ok_aload_n h.1 0 rfl dLw0_235)) <|
  tcG (sLw (fun p e s m below meth c b cA D A ad0 h hb => ok_iload h.1 dLw0_236)) <|
  tcG (sLw (fun p e s m below meth c b cA D A ad0 h hb => ok_iconst h.1 ⟨by decide, by decide⟩ dLw0_238)) <|
  tcG (sLw (fun p e s m below meth c b cA D A ad0 h hb => ok_iadd h.1 dLw0_239)) <|
  tcG (sLw (fun p e s m below meth c b cA D A ad0 h hb => ok_sld h hb dLw0_240)) <|
  tcG (sLw (fun p e s m below meth c b cA D A ad0 h hb => ok_aload_n h.1 0 rfl dLw0_241)) <|
  tcG (sLw (fun p e s m below meth c b cA D A ad0 h hb => ok_iload h.1 dLw0_242)) <|
  tcG (sLw (fun p e s m below meth c b cA D A ad0 h hb => ok_iconst h.1 ⟨by decide, by decide⟩ dLw0_244)) <|
  tcG (sLw (fun p e s m below meth c b cA D A ad0 h hb => ok_iadd h.1 dLw0_245)) <|
  tcG (sLw (fun p e s m below meth c b cA D A ad0 h hb => ok_sld h hb dLw0_246)) <|
  tcG (sLw (fun p e s m below meth c b cA D A ad0 h hb => ok_i2c h.1 dLw0_247)) <|
  tcG (sLw (fun p e s m below meth c b cA D A ad0 h hb => ok_aload_n h.1 0 rfl dLw0_248)) <|
  tcG (sLw (fun p e s m below meth c b cA D A ad0 h hb => ok_iload h.1 dLw0_249)) <|
  tcG (sLw (fun p e s m below meth c b cA D A ad0 h hb => ok_iconst h.1 ⟨by decide, by decide⟩ dLw0_251)) <|
  tcG (sLw (fun p e s m below meth c b cA D A ad0 h hb => ok_iadd h.1 dLw0_252)) <|
  tcG (sLw (fun p e s m below meth c b cA D A ad0 h hb => ok_sld h hb dLw0_253)) <|
  tcG (sLw (fun p e s m below meth c b cA D A ad0 h hb => ok_aload_n h.1 0 rfl dLw0_254)) <|
  tcG (sLw (fun p e s m below meth c b cA D A ad0 h hb => ok_iload h.1 dLw0_255)) <|
  tcG (sLw (fun p e s m below meth c b cA D A ad0 h hb => ok_iconst h.1 ⟨by decide, by decide⟩ dLw0_257)) <|
  tcG (sLw (fun p e s m below meth c b cA D A ad0 h hb => ok_iadd h.1 dLw0_258)) <|
  tcG (sLw (fun p e s m below meth c b cA D A ad0 h hb => ok_sld h hb dLw0_259)) <|
  tcG (sLw (fun p e s m below meth c b cA D A ad0 h hb => ok_aload_n h.1 0 rfl dLw0_260)) <|
  tcG (sLw (fun p e s m below meth c b cA D A ad0 h hb => ok_iload h.1 dLw0_261)) <|
  tcG (sLw (fun p e s m below meth c b cA D A ad0 h hb => ok_iconst h.1 ⟨by decide, by decide⟩ dLw0_263)) <|
  tcG (sLw (fun p e s m below meth c b cA D A ad0 h hb => ok_iadd h.1 dLw0_264)) <|
  tcG (sLw (fun p e s m below meth c b cA D A ad0 h hb => ok_sld h hb dLw0_265)) <|
  tcG (sLw (fun p e s m below meth c b cA D A ad0 h hb => ok_callV h.1 h.2.1 (show 3600 ≤ room_1.cells ∧ 2000 * 3600 ≤ room_1.slots from ⟨Nat.le_of_ble_eq_true rfl, Nat.le_of_ble_eq_true rfl⟩) mdX5_send siX5_send cxX5 mkRL_120 imX5_send seX5_send ⟨by decide, by decide⟩ aAx_no dLw0_266)) <|
  tcG (sLw (fun p e s m below meth c b cA D A ad0 h hb => ok_istore h.1 (by decide) dLw0_269)) <|
  tcG (sLw (fun p e s m below meth c b cA D A ad0 h hb => ok_aload_n h.1 2 rfl dLw0_271)) <|
  tcG (sLw (fun p e s m below meth c b cA D A ad0 h hb => ok_callV h.1 h.2.1 (show 3600 ≤ room_1.cells ∧ 2000 * 3600 ≤ room_1.slots from ⟨Nat.le_of_ble_eq_true rfl, Nat.le_of_ble_eq_true rfl⟩) mdX5_thrown siX5_thrown cxX5 mkRL_121 imX5_thrown seX5_thrown ⟨by decide, by decide⟩ aAx_no dLw0_272)) <|
  tcG (sLw (fun p e s m below meth c b cA D A ad0 h hb => ok_iload h.1 dLw0_275)) <|
  tcG (sLw (fun p e s m below meth c b cA D A ad0 h hb => ok_icmp_eq h.1 282 (by decide) dLw0_277)) <|
  tcG (sLw (fun p e s m below meth c b cA D A ad0 h hb => ok_iconst h.1 ⟨by decide, by decide⟩ dLw0_280)) <|
  tcG (sLw (fun p e s m below meth c b cA D A ad0 h hb => ok_lret h dLw0_281)) <|
  tcG (sLw (fun p e s m below meth c b cA D A ad0 h hb => ok_iload h.1 dLw0_282)) <|
  tcG (sLw (fun p e s m below meth c b cA D A ad0 h hb => ok_if_ne h.1 299 (by decide) dLw0_284)) <|
  tcG (sLw (fun p e s m below meth c b cA D A ad0 h hb => ok_aload_n h.1 3 rfl dLw0_287)) <|
  tcG (sLw (fun p e s m below meth c b cA D A ad0 h hb => ok_iconst h.1 ⟨by decide, by decide⟩ dLw0_288)) <|
  tcG (sLw (fun p e s m below meth c b cA D A ad0 h hb => ok_lald h.1 dLw0_289)) <|
  tcG (sLw (fun p e s m below meth c b cA D A ad0 h hb => ok_iload h.1 dLw0_290)) <|
  tcG (sLw (fun p e s m below meth c b cA D A ad0 h hb => ok_i2l h.1 dLw0_292)) <|
  tcG (sLw (fun p e s m below meth c b cA D A ad0 h hb => ok_lcmp h.1 dLw0_293)) <|
  tcG (sLw (fun p e s m below meth c b cA D A ad0 h hb => ok_if_eq h.1 299 (by decide) dLw0_294)) <|
  tcG (sLw (fun p e s m below meth c b cA D A ad0 h hb => ok_iconst h.1 ⟨by decide, by decide⟩ dLw0_297)) <|
  tcG (sLw (fun p e s m below meth c b cA D A ad0 h hb => ok_lret h dLw0_298)) <|
  tcG (sLw (fun p e s m below meth c b cA D A ad0 h hb => ok_goto h.1 1969 (by decide) dLw0_299)) <|
  tnG
abbrev cuLw0 : List Nat := [232, 269, 275, 1969]
theorem wLw0_1969 {l : Launch} {L : Nat} {xs : Nat → Int32} {J : aK} {W : Nat → aK} (hW : isW (tbLw0 l L xs) cuLw0 J W) (n : Nat) (ls st : List aV) (μ : aM) (g : Nat) : W (n + 1) 1969 ls st μ g = J 1969 ls st μ g := (hW n 1969 ls st μ g).trans rfl
theorem tLw0_196 (l : Launch) (L : Nat) (xs : Nat → Int32) : tb (tbLw0 l L xs) 196 = sLd 1 197 isR := (rfl)
theorem wLw0_196 {l : Launch} {L : Nat} {xs : Nat → Int32} {J : aK} {W : Nat → aK} (hW : isW (tbLw0 l L xs) cuLw0 J W) (n : Nat) (ls st : List aV) (μ : aM) (g : Nat) : W (n + 1) 196 ls st μ g = (sLd 1 197 isR) (W n) ls st μ g := (hW n 196 ls st μ g).trans rfl
theorem wLw0_197 {l : Launch} {L : Nat} {xs : Nat → Int32} {J : aK} {W : Nat → aK} (hW : isW (tbLw0 l L xs) cuLw0 J W) (n : Nat) (ls st : List aV) (μ : aM) (g : Nat) : W (n + 1) 197 ls st μ g = (sLd 0 198 isR) (W n) ls st μ g := (hW n 197 ls st μ g).trans rfl
theorem wLw0_198 {l : Launch} {L : Nat} {xs : Nat → Int32} {J : aK} {W : Nat → aK} (hW : isW (tbLw0 l L xs) cuLw0 J W) (n : Nat) (ls st : List aV) (μ : aM) (g : Nat) : W (n + 1) 198 ls st μ g = (sLd 5 200 isI) (W n) ls st μ g := (hW n 198 ls st μ g).trans rfl
theorem wLw0_200 {l : Launch} {L : Nat} {xs : Nat → Int32} {J : aK} {W : Nat → aK} (hW : isW (tbLw0 l L xs) cuLw0 J W) (n : Nat) (ls st : List aV) (μ : aM) (g : Nat) : W (n + 1) 200 ls st μ g = (sPush (aI 1) 201) (W n) ls st μ g := (hW n 200 ls st μ g).trans rfl
theorem wLw0_201 {l : Launch} {L : Nat} {xs : Nat → Int32} {J : aK} {W : Nat → aK} (hW : isW (tbLw0 l L xs) cuLw0 J W) (n : Nat) (ls st : List aV) (μ : aM) (g : Nat) : W (n + 1) 201 ls st μ g = (sBin fAdd 202) (W n) ls st μ g := (hW n 201 ls st μ g).trans rfl
theorem wLw0_202 {l : Launch} {L : Nat} {xs : Nat → Int32} {J : aK} {W : Nat → aK} (hW : isW (tbLw0 l L xs) cuLw0 J W) (n : Nat) (ls st : List aV) (μ : aM) (g : Nat) : W (n + 1) 202 ls st μ g = (sSld L xs 203) (W n) ls st μ g := (hW n 202 ls st μ g).trans rfl
theorem wLw0_203 {l : Launch} {L : Nat} {xs : Nat → Int32} {J : aK} {W : Nat → aK} (hW : isW (tbLw0 l L xs) cuLw0 J W) (n : Nat) (ls st : List aV) (μ : aM) (g : Nat) : W (n + 1) 203 ls st μ g = (sLd 0 204 isR) (W n) ls st μ g := (hW n 203 ls st μ g).trans rfl
theorem wLw0_204 {l : Launch} {L : Nat} {xs : Nat → Int32} {J : aK} {W : Nat → aK} (hW : isW (tbLw0 l L xs) cuLw0 J W) (n : Nat) (ls st : List aV) (μ : aM) (g : Nat) : W (n + 1) 204 ls st μ g = (sLd 5 206 isI) (W n) ls st μ g := (hW n 204 ls st μ g).trans rfl
theorem wLw0_206 {l : Launch} {L : Nat} {xs : Nat → Int32} {J : aK} {W : Nat → aK} (hW : isW (tbLw0 l L xs) cuLw0 J W) (n : Nat) (ls st : List aV) (μ : aM) (g : Nat) : W (n + 1) 206 ls st μ g = (sPush (aI 2) 207) (W n) ls st μ g := (hW n 206 ls st μ g).trans rfl
theorem wLw0_207 {l : Launch} {L : Nat} {xs : Nat → Int32} {J : aK} {W : Nat → aK} (hW : isW (tbLw0 l L xs) cuLw0 J W) (n : Nat) (ls st : List aV) (μ : aM) (g : Nat) : W (n + 1) 207 ls st μ g = (sBin fAdd 208) (W n) ls st μ g := (hW n 207 ls st μ g).trans rfl
theorem wLw0_208 {l : Launch} {L : Nat} {xs : Nat → Int32} {J : aK} {W : Nat → aK} (hW : isW (tbLw0 l L xs) cuLw0 J W) (n : Nat) (ls st : List aV) (μ : aM) (g : Nat) : W (n + 1) 208 ls st μ g = (sSld L xs 209) (W n) ls st μ g := (hW n 208 ls st μ g).trans rfl
theorem wLw0_209 {l : Launch} {L : Nat} {xs : Nat → Int32} {J : aK} {W : Nat → aK} (hW : isW (tbLw0 l L xs) cuLw0 J W) (n : Nat) (ls st : List aV) (μ : aM) (g : Nat) : W (n + 1) 209 ls st μ g = (sUn fI2c 210) (W n) ls st μ g := (hW n 209 ls st μ g).trans rfl
theorem wLw0_210 {l : Launch} {L : Nat} {xs : Nat → Int32} {J : aK} {W : Nat → aK} (hW : isW (tbLw0 l L xs) cuLw0 J W) (n : Nat) (ls st : List aV) (μ : aM) (g : Nat) : W (n + 1) 210 ls st μ g = (sLd 0 211 isR) (W n) ls st μ g := (hW n 210 ls st μ g).trans rfl
theorem wLw0_211 {l : Launch} {L : Nat} {xs : Nat → Int32} {J : aK} {W : Nat → aK} (hW : isW (tbLw0 l L xs) cuLw0 J W) (n : Nat) (ls st : List aV) (μ : aM) (g : Nat) : W (n + 1) 211 ls st μ g = (sLd 5 213 isI) (W n) ls st μ g := (hW n 211 ls st μ g).trans rfl
theorem wLw0_213 {l : Launch} {L : Nat} {xs : Nat → Int32} {J : aK} {W : Nat → aK} (hW : isW (tbLw0 l L xs) cuLw0 J W) (n : Nat) (ls st : List aV) (μ : aM) (g : Nat) : W (n + 1) 213 ls st μ g = (sPush (aI 3) 214) (W n) ls st μ g := (hW n 213 ls st μ g).trans rfl
theorem wLw0_214 {l : Launch} {L : Nat} {xs : Nat → Int32} {J : aK} {W : Nat → aK} (hW : isW (tbLw0 l L xs) cuLw0 J W) (n : Nat) (ls st : List aV) (μ : aM) (g : Nat) : W (n + 1) 214 ls st μ g = (sBin fAdd 215) (W n) ls st μ g := (hW n 214 ls st μ g).trans rfl
theorem wLw0_215 {l : Launch} {L : Nat} {xs : Nat → Int32} {J : aK} {W : Nat → aK} (hW : isW (tbLw0 l L xs) cuLw0 J W) (n : Nat) (ls st : List aV) (μ : aM) (g : Nat) : W (n + 1) 215 ls st μ g = (sSld L xs 216) (W n) ls st μ g := (hW n 215 ls st μ g).trans rfl
theorem wLw0_216 {l : Launch} {L : Nat} {xs : Nat → Int32} {J : aK} {W : Nat → aK} (hW : isW (tbLw0 l L xs) cuLw0 J W) (n : Nat) (ls st : List aV) (μ : aM) (g : Nat) : W (n + 1) 216 ls st μ g = (sLd 0 217 isR) (W n) ls st μ g := (hW n 216 ls st μ g).trans rfl
theorem wLw0_217 {l : Launch} {L : Nat} {xs : Nat → Int32} {J : aK} {W : Nat → aK} (hW : isW (tbLw0 l L xs) cuLw0 J W) (n : Nat) (ls st : List aV) (μ : aM) (g : Nat) : W (n + 1) 217 ls st μ g = (sLd 5 219 isI) (W n) ls st μ g := (hW n 217 ls st μ g).trans rfl
theorem wLw0_219 {l : Launch} {L : Nat} {xs : Nat → Int32} {J : aK} {W : Nat → aK} (hW : isW (tbLw0 l L xs) cuLw0 J W) (n : Nat) (ls st : List aV) (μ : aM) (g : Nat) : W (n + 1) 219 ls st μ g = (sPush (aI 4) 220) (W n) ls st μ g := (hW n 219 ls st μ g).trans rfl
theorem wLw0_220 {l : Launch} {L : Nat} {xs : Nat → Int32} {J : aK} {W : Nat → aK} (hW : isW (tbLw0 l L xs) cuLw0 J W) (n : Nat) (ls st : List aV) (μ : aM) (g : Nat) : W (n + 1) 220 ls st μ g = (sBin fAdd 221) (W n) ls st μ g := (hW n 220 ls st μ g).trans rfl
theorem wLw0_221 {l : Launch} {L : Nat} {xs : Nat → Int32} {J : aK} {W : Nat → aK} (hW : isW (tbLw0 l L xs) cuLw0 J W) (n : Nat) (ls st : List aV) (μ : aM) (g : Nat) : W (n + 1) 221 ls st μ g = (sSld L xs 222) (W n) ls st μ g := (hW n 221 ls st μ g).trans rfl
theorem wLw0_222 {l : Launch} {L : Nat} {xs : Nat → Int32} {J : aK} {W : Nat → aK} (hW : isW (tbLw0 l L xs) cuLw0 J W) (n : Nat) (ls st : List aV) (μ : aM) (g : Nat) : W (n + 1) 222 ls st μ g = (sLd 0 223 isR) (W n) ls st μ g := (hW n 222 ls st μ g).trans rfl
theorem wLw0_223 {l : Launch} {L : Nat} {xs : Nat → Int32} {J : aK} {W : Nat → aK} (hW : isW (tbLw0 l L xs) cuLw0 J W) (n : Nat) (ls st : List aV) (μ : aM) (g : Nat) : W (n + 1) 223 ls st μ g = (sLd 5 225 isI) (W n) ls st μ g := (hW n 223 ls st μ g).trans rfl
theorem wLw0_225 {l : Launch} {L : Nat} {xs : Nat → Int32} {J : aK} {W : Nat → aK} (hW : isW (tbLw0 l L xs) cuLw0 J W) (n : Nat) (ls st : List aV) (μ : aM) (g : Nat) : W (n + 1) 225 ls st μ g = (sPush (aI 5) 226) (W n) ls st μ g := (hW n 225 ls st μ g).trans rfl
theorem wLw0_226 {l : Launch} {L : Nat} {xs : Nat → Int32} {J : aK} {W : Nat → aK} (hW : isW (tbLw0 l L xs) cuLw0 J W) (n : Nat) (ls st : List aV) (μ : aM) (g : Nat) : W (n + 1) 226 ls st μ g = (sBin fAdd 227) (W n) ls st μ g := (hW n 226 ls st μ g).trans rfl
theorem wLw0_227 {l : Launch} {L : Nat} {xs : Nat → Int32} {J : aK} {W : Nat → aK} (hW : isW (tbLw0 l L xs) cuLw0 J W) (n : Nat) (ls st : List aV) (μ : aM) (g : Nat) : W (n + 1) 227 ls st μ g = (sSld L xs 228) (W n) ls st μ g := (hW n 227 ls st μ g).trans rfl
theorem wLw0_228 {l : Launch} {L : Nat} {xs : Nat → Int32} {J : aK} {W : Nat → aK} (hW : isW (tbLw0 l L xs) cuLw0 J W) (n : Nat) (ls st : List aV) (μ : aM) (g : Nat) : W (n + 1) 228 ls st μ g = (sLd 3 229 isR) (W n) ls st μ g := (hW n 228 ls st μ g).trans rfl
theorem wLw0_229 {l : Launch} {L : Nat} {xs : Nat → Int32} {J : aK} {W : Nat → aK} (hW : isW (tbLw0 l L xs) cuLw0 J W) (n : Nat) (ls st : List aV) (μ : aM) (g : Nat) : W (n + 1) 229 ls st μ g = (sCallS 7 (fun as μ K => CtH l mdL_send hhL_send as μ K) 232 3 3600) (W n) ls st μ g := (hW n 229 ls st μ g).trans rfl
theorem tLw0_232 (l : Launch) (L : Nat) (xs : Nat → Int32) : tb (tbLw0 l L xs) 232 = sSt 6 234 isI := (rfl)
theorem wLw0_232 {l : Launch} {L : Nat} {xs : Nat → Int32} {J : aK} {W : Nat → aK} (hW : isW (tbLw0 l L xs) cuLw0 J W) (n : Nat) (ls st : List aV) (μ : aM) (g : Nat) : W (n + 1) 232 ls st μ g = J 232 ls st μ g := (hW n 232 ls st μ g).trans rfl
theorem wLw0_234 {l : Launch} {L : Nat} {xs : Nat → Int32} {J : aK} {W : Nat → aK} (hW : isW (tbLw0 l L xs) cuLw0 J W) (n : Nat) (ls st : List aV) (μ : aM) (g : Nat) : W (n + 1) 234 ls st μ g = (sLd 2 235 isR) (W n) ls st μ g := (hW n 234 ls st μ g).trans rfl
theorem wLw0_235 {l : Launch} {L : Nat} {xs : Nat → Int32} {J : aK} {W : Nat → aK} (hW : isW (tbLw0 l L xs) cuLw0 J W) (n : Nat) (ls st : List aV) (μ : aM) (g : Nat) : W (n + 1) 235 ls st μ g = (sLd 0 236 isR) (W n) ls st μ g := (hW n 235 ls st μ g).trans rfl
theorem wLw0_236 {l : Launch} {L : Nat} {xs : Nat → Int32} {J : aK} {W : Nat → aK} (hW : isW (tbLw0 l L xs) cuLw0 J W) (n : Nat) (ls st : List aV) (μ : aM) (g : Nat) : W (n + 1) 236 ls st μ g = (sLd 5 238 isI) (W n) ls st μ g := (hW n 236 ls st μ g).trans rfl
theorem wLw0_238 {l : Launch} {L : Nat} {xs : Nat → Int32} {J : aK} {W : Nat → aK} (hW : isW (tbLw0 l L xs) cuLw0 J W) (n : Nat) (ls st : List aV) (μ : aM) (g : Nat) : W (n + 1) 238 ls st μ g = (sPush (aI 1) 239) (W n) ls st μ g := (hW n 238 ls st μ g).trans rfl
theorem wLw0_239 {l : Launch} {L : Nat} {xs : Nat → Int32} {J : aK} {W : Nat → aK} (hW : isW (tbLw0 l L xs) cuLw0 J W) (n : Nat) (ls st : List aV) (μ : aM) (g : Nat) : W (n + 1) 239 ls st μ g = (sBin fAdd 240) (W n) ls st μ g := (hW n 239 ls st μ g).trans rfl
theorem wLw0_240 {l : Launch} {L : Nat} {xs : Nat → Int32} {J : aK} {W : Nat → aK} (hW : isW (tbLw0 l L xs) cuLw0 J W) (n : Nat) (ls st : List aV) (μ : aM) (g : Nat) : W (n + 1) 240 ls st μ g = (sSld L xs 241) (W n) ls st μ g := (hW n 240 ls st μ g).trans rfl
theorem wLw0_241 {l : Launch} {L : Nat} {xs : Nat → Int32} {J : aK} {W : Nat → aK} (hW : isW (tbLw0 l L xs) cuLw0 J W) (n : Nat) (ls st : List aV) (μ : aM) (g : Nat) : W (n + 1) 241 ls st μ g = (sLd 0 242 isR) (W n) ls st μ g := (hW n 241 ls st μ g).trans rfl
theorem wLw0_242 {l : Launch} {L : Nat} {xs : Nat → Int32} {J : aK} {W : Nat → aK} (hW : isW (tbLw0 l L xs) cuLw0 J W) (n : Nat) (ls st : List aV) (μ : aM) (g : Nat) : W (n + 1) 242 ls st μ g = (sLd 5 244 isI) (W n) ls st μ g := (hW n 242 ls st μ g).trans rfl
theorem wLw0_244 {l : Launch} {L : Nat} {xs : Nat → Int32} {J : aK} {W : Nat → aK} (hW : isW (tbLw0 l L xs) cuLw0 J W) (n : Nat) (ls st : List aV) (μ : aM) (g : Nat) : W (n + 1) 244 ls st μ g = (sPush (aI 2) 245) (W n) ls st μ g := (hW n 244 ls st μ g).trans rfl
theorem wLw0_245 {l : Launch} {L : Nat} {xs : Nat → Int32} {J : aK} {W : Nat → aK} (hW : isW (tbLw0 l L xs) cuLw0 J W) (n : Nat) (ls st : List aV) (μ : aM) (g : Nat) : W (n + 1) 245 ls st μ g = (sBin fAdd 246) (W n) ls st μ g := (hW n 245 ls st μ g).trans rfl
theorem wLw0_246 {l : Launch} {L : Nat} {xs : Nat → Int32} {J : aK} {W : Nat → aK} (hW : isW (tbLw0 l L xs) cuLw0 J W) (n : Nat) (ls st : List aV) (μ : aM) (g : Nat) : W (n + 1) 246 ls st μ g = (sSld L xs 247) (W n) ls st μ g := (hW n 246 ls st μ g).trans rfl
theorem wLw0_247 {l : Launch} {L : Nat} {xs : Nat → Int32} {J : aK} {W : Nat → aK} (hW : isW (tbLw0 l L xs) cuLw0 J W) (n : Nat) (ls st : List aV) (μ : aM) (g : Nat) : W (n + 1) 247 ls st μ g = (sUn fI2c 248) (W n) ls st μ g := (hW n 247 ls st μ g).trans rfl
theorem wLw0_248 {l : Launch} {L : Nat} {xs : Nat → Int32} {J : aK} {W : Nat → aK} (hW : isW (tbLw0 l L xs) cuLw0 J W) (n : Nat) (ls st : List aV) (μ : aM) (g : Nat) : W (n + 1) 248 ls st μ g = (sLd 0 249 isR) (W n) ls st μ g := (hW n 248 ls st μ g).trans rfl
theorem wLw0_249 {l : Launch} {L : Nat} {xs : Nat → Int32} {J : aK} {W : Nat → aK} (hW : isW (tbLw0 l L xs) cuLw0 J W) (n : Nat) (ls st : List aV) (μ : aM) (g : Nat) : W (n + 1) 249 ls st μ g = (sLd 5 251 isI) (W n) ls st μ g := (hW n 249 ls st μ g).trans rfl
theorem wLw0_251 {l : Launch} {L : Nat} {xs : Nat → Int32} {J : aK} {W : Nat → aK} (hW : isW (tbLw0 l L xs) cuLw0 J W) (n : Nat) (ls st : List aV) (μ : aM) (g : Nat) : W (n + 1) 251 ls st μ g = (sPush (aI 3) 252) (W n) ls st μ g := (hW n 251 ls st μ g).trans rfl
theorem wLw0_252 {l : Launch} {L : Nat} {xs : Nat → Int32} {J : aK} {W : Nat → aK} (hW : isW (tbLw0 l L xs) cuLw0 J W) (n : Nat) (ls st : List aV) (μ : aM) (g : Nat) : W (n + 1) 252 ls st μ g = (sBin fAdd 253) (W n) ls st μ g := (hW n 252 ls st μ g).trans rfl
theorem wLw0_253 {l : Launch} {L : Nat} {xs : Nat → Int32} {J : aK} {W : Nat → aK} (hW : isW (tbLw0 l L xs) cuLw0 J W) (n : Nat) (ls st : List aV) (μ : aM) (g : Nat) : W (n + 1) 253 ls st μ g = (sSld L xs 254) (W n) ls st μ g := (hW n 253 ls st μ g).trans rfl
theorem wLw0_254 {l : Launch} {L : Nat} {xs : Nat → Int32} {J : aK} {W : Nat → aK} (hW : isW (tbLw0 l L xs) cuLw0 J W) (n : Nat) (ls st : List aV) (μ : aM) (g : Nat) : W (n + 1) 254 ls st μ g = (sLd 0 255 isR) (W n) ls st μ g := (hW n 254 ls st μ g).trans rfl
theorem wLw0_255 {l : Launch} {L : Nat} {xs : Nat → Int32} {J : aK} {W : Nat → aK} (hW : isW (tbLw0 l L xs) cuLw0 J W) (n : Nat) (ls st : List aV) (μ : aM) (g : Nat) : W (n + 1) 255 ls st μ g = (sLd 5 257 isI) (W n) ls st μ g := (hW n 255 ls st μ g).trans rfl
theorem wLw0_257 {l : Launch} {L : Nat} {xs : Nat → Int32} {J : aK} {W : Nat → aK} (hW : isW (tbLw0 l L xs) cuLw0 J W) (n : Nat) (ls st : List aV) (μ : aM) (g : Nat) : W (n + 1) 257 ls st μ g = (sPush (aI 4) 258) (W n) ls st μ g := (hW n 257 ls st μ g).trans rfl
theorem wLw0_258 {l : Launch} {L : Nat} {xs : Nat → Int32} {J : aK} {W : Nat → aK} (hW : isW (tbLw0 l L xs) cuLw0 J W) (n : Nat) (ls st : List aV) (μ : aM) (g : Nat) : W (n + 1) 258 ls st μ g = (sBin fAdd 259) (W n) ls st μ g := (hW n 258 ls st μ g).trans rfl
theorem wLw0_259 {l : Launch} {L : Nat} {xs : Nat → Int32} {J : aK} {W : Nat → aK} (hW : isW (tbLw0 l L xs) cuLw0 J W) (n : Nat) (ls st : List aV) (μ : aM) (g : Nat) : W (n + 1) 259 ls st μ g = (sSld L xs 260) (W n) ls st μ g := (hW n 259 ls st μ g).trans rfl
theorem wLw0_260 {l : Launch} {L : Nat} {xs : Nat → Int32} {J : aK} {W : Nat → aK} (hW : isW (tbLw0 l L xs) cuLw0 J W) (n : Nat) (ls st : List aV) (μ : aM) (g : Nat) : W (n + 1) 260 ls st μ g = (sLd 0 261 isR) (W n) ls st μ g := (hW n 260 ls st μ g).trans rfl
theorem wLw0_261 {l : Launch} {L : Nat} {xs : Nat → Int32} {J : aK} {W : Nat → aK} (hW : isW (tbLw0 l L xs) cuLw0 J W) (n : Nat) (ls st : List aV) (μ : aM) (g : Nat) : W (n + 1) 261 ls st μ g = (sLd 5 263 isI) (W n) ls st μ g := (hW n 261 ls st μ g).trans rfl
theorem wLw0_263 {l : Launch} {L : Nat} {xs : Nat → Int32} {J : aK} {W : Nat → aK} (hW : isW (tbLw0 l L xs) cuLw0 J W) (n : Nat) (ls st : List aV) (μ : aM) (g : Nat) : W (n + 1) 263 ls st μ g = (sPush (aI 5) 264) (W n) ls st μ g := (hW n 263 ls st μ g).trans rfl
theorem wLw0_264 {l : Launch} {L : Nat} {xs : Nat → Int32} {J : aK} {W : Nat → aK} (hW : isW (tbLw0 l L xs) cuLw0 J W) (n : Nat) (ls st : List aV) (μ : aM) (g : Nat) : W (n + 1) 264 ls st μ g = (sBin fAdd 265) (W n) ls st μ g := (hW n 264 ls st μ g).trans rfl
theorem wLw0_265 {l : Launch} {L : Nat} {xs : Nat → Int32} {J : aK} {W : Nat → aK} (hW : isW (tbLw0 l L xs) cuLw0 J W) (n : Nat) (ls st : List aV) (μ : aM) (g : Nat) : W (n + 1) 265 ls st μ g = (sSld L xs 266) (W n) ls st μ g := (hW n 265 ls st μ g).trans rfl
theorem wLw0_266 {l : Launch} {L : Nat} {xs : Nat → Int32} {J : aK} {W : Nat → aK} (hW : isW (tbLw0 l L xs) cuLw0 J W) (n : Nat) (ls st : List aV) (μ : aM) (g : Nat) : W (n + 1) 266 ls st μ g = (sCallV 5 5 (fun as μ K => Ct l mdX5_send as μ K nX) 269 0 3600) (W n) ls st μ g := (hW n 266 ls st μ g).trans rfl
theorem tLw0_269 (l : Launch) (L : Nat) (xs : Nat → Int32) : tb (tbLw0 l L xs) 269 = sSt 7 271 isI := (rfl)
theorem wLw0_269 {l : Launch} {L : Nat} {xs : Nat → Int32} {J : aK} {W : Nat → aK} (hW : isW (tbLw0 l L xs) cuLw0 J W) (n : Nat) (ls st : List aV) (μ : aM) (g : Nat) : W (n + 1) 269 ls st μ g = J 269 ls st μ g := (hW n 269 ls st μ g).trans rfl
theorem wLw0_271 {l : Launch} {L : Nat} {xs : Nat → Int32} {J : aK} {W : Nat → aK} (hW : isW (tbLw0 l L xs) cuLw0 J W) (n : Nat) (ls st : List aV) (μ : aM) (g : Nat) : W (n + 1) 271 ls st μ g = (sLd 2 272 isR) (W n) ls st μ g := (hW n 271 ls st μ g).trans rfl
theorem wLw0_272 {l : Launch} {L : Nat} {xs : Nat → Int32} {J : aK} {W : Nat → aK} (hW : isW (tbLw0 l L xs) cuLw0 J W) (n : Nat) (ls st : List aV) (μ : aM) (g : Nat) : W (n + 1) 272 ls st μ g = (sCallV 0 5 (fun as μ K => Ct l mdX5_thrown as μ K nX) 275 0 3600) (W n) ls st μ g := (hW n 272 ls st μ g).trans rfl
theorem tLw0_275 (l : Launch) (L : Nat) (xs : Nat → Int32) : tb (tbLw0 l L xs) 275 = sLd 6 277 isI := (rfl)
theorem wLw0_275 {l : Launch} {L : Nat} {xs : Nat → Int32} {J : aK} {W : Nat → aK} (hW : isW (tbLw0 l L xs) cuLw0 J W) (n : Nat) (ls st : List aV) (μ : aM) (g : Nat) : W (n + 1) 275 ls st μ g = J 275 ls st μ g := (hW n 275 ls st μ g).trans rfl
theorem wLw0_277 {l : Launch} {L : Nat} {xs : Nat → Int32} {J : aK} {W : Nat → aK} (hW : isW (tbLw0 l L xs) cuLw0 J W) (n : Nat) (ls st : List aV) (μ : aM) (g : Nat) : W (n + 1) 277 ls st μ g = (sIc qEq 282 280) (W n) ls st μ g := (hW n 277 ls st μ g).trans rfl
theorem wLw0_280 {l : Launch} {L : Nat} {xs : Nat → Int32} {J : aK} {W : Nat → aK} (hW : isW (tbLw0 l L xs) cuLw0 J W) (n : Nat) (ls st : List aV) (μ : aM) (g : Nat) : W (n + 1) 280 ls st μ g = (sPush (aI 0) 281) (W n) ls st μ g := (hW n 280 ls st μ g).trans rfl
theorem wLw0_281 {l : Launch} {L : Nat} {xs : Nat → Int32} {J : aK} {W : Nat → aK} (hW : isW (tbLw0 l L xs) cuLw0 J W) (n : Nat) (ls st : List aV) (μ : aM) (g : Nat) : W (n + 1) 281 ls st μ g = (sLret) (W n) ls st μ g := (hW n 281 ls st μ g).trans rfl
theorem wLw0_282 {l : Launch} {L : Nat} {xs : Nat → Int32} {J : aK} {W : Nat → aK} (hW : isW (tbLw0 l L xs) cuLw0 J W) (n : Nat) (ls st : List aV) (μ : aM) (g : Nat) : W (n + 1) 282 ls st μ g = (sLd 6 284 isI) (W n) ls st μ g := (hW n 282 ls st μ g).trans rfl
theorem wLw0_284 {l : Launch} {L : Nat} {xs : Nat → Int32} {J : aK} {W : Nat → aK} (hW : isW (tbLw0 l L xs) cuLw0 J W) (n : Nat) (ls st : List aV) (μ : aM) (g : Nat) : W (n + 1) 284 ls st μ g = (sIf pNe 299 287) (W n) ls st μ g := (hW n 284 ls st μ g).trans rfl
theorem wLw0_287 {l : Launch} {L : Nat} {xs : Nat → Int32} {J : aK} {W : Nat → aK} (hW : isW (tbLw0 l L xs) cuLw0 J W) (n : Nat) (ls st : List aV) (μ : aM) (g : Nat) : W (n + 1) 287 ls st μ g = (sLd 3 288 isR) (W n) ls st μ g := (hW n 287 ls st μ g).trans rfl
theorem wLw0_288 {l : Launch} {L : Nat} {xs : Nat → Int32} {J : aK} {W : Nat → aK} (hW : isW (tbLw0 l L xs) cuLw0 J W) (n : Nat) (ls st : List aV) (μ : aM) (g : Nat) : W (n + 1) 288 ls st μ g = (sPush (aI 0) 289) (W n) ls st μ g := (hW n 288 ls st μ g).trans rfl
theorem wLw0_289 {l : Launch} {L : Nat} {xs : Nat → Int32} {J : aK} {W : Nat → aK} (hW : isW (tbLw0 l L xs) cuLw0 J W) (n : Nat) (ls st : List aV) (μ : aM) (g : Nat) : W (n + 1) 289 ls st μ g = (sAldL 290) (W n) ls st μ g := (hW n 289 ls st μ g).trans rfl
theorem wLw0_290 {l : Launch} {L : Nat} {xs : Nat → Int32} {J : aK} {W : Nat → aK} (hW : isW (tbLw0 l L xs) cuLw0 J W) (n : Nat) (ls st : List aV) (μ : aM) (g : Nat) : W (n + 1) 290 ls st μ g = (sLd 7 292 isI) (W n) ls st μ g := (hW n 290 ls st μ g).trans rfl
theorem wLw0_292 {l : Launch} {L : Nat} {xs : Nat → Int32} {J : aK} {W : Nat → aK} (hW : isW (tbLw0 l L xs) cuLw0 J W) (n : Nat) (ls st : List aV) (μ : aM) (g : Nat) : W (n + 1) 292 ls st μ g = (sI2l 293) (W n) ls st μ g := (hW n 292 ls st μ g).trans rfl
theorem wLw0_293 {l : Launch} {L : Nat} {xs : Nat → Int32} {J : aK} {W : Nat → aK} (hW : isW (tbLw0 l L xs) cuLw0 J W) (n : Nat) (ls st : List aV) (μ : aM) (g : Nat) : W (n + 1) 293 ls st μ g = (sLcmp 294) (W n) ls st μ g := (hW n 293 ls st μ g).trans rfl
theorem wLw0_294 {l : Launch} {L : Nat} {xs : Nat → Int32} {J : aK} {W : Nat → aK} (hW : isW (tbLw0 l L xs) cuLw0 J W) (n : Nat) (ls st : List aV) (μ : aM) (g : Nat) : W (n + 1) 294 ls st μ g = (sIf pEq 299 297) (W n) ls st μ g := (hW n 294 ls st μ g).trans rfl
theorem wLw0_297 {l : Launch} {L : Nat} {xs : Nat → Int32} {J : aK} {W : Nat → aK} (hW : isW (tbLw0 l L xs) cuLw0 J W) (n : Nat) (ls st : List aV) (μ : aM) (g : Nat) : W (n + 1) 297 ls st μ g = (sPush (aI 0) 298) (W n) ls st μ g := (hW n 297 ls st μ g).trans rfl
theorem wLw0_298 {l : Launch} {L : Nat} {xs : Nat → Int32} {J : aK} {W : Nat → aK} (hW : isW (tbLw0 l L xs) cuLw0 J W) (n : Nat) (ls st : List aV) (μ : aM) (g : Nat) : W (n + 1) 298 ls st μ g = (sLret) (W n) ls st μ g := (hW n 298 ls st μ g).trans rfl
theorem wLw0_299 {l : Launch} {L : Nat} {xs : Nat → Int32} {J : aK} {W : Nat → aK} (hW : isW (tbLw0 l L xs) cuLw0 J W) (n : Nat) (ls st : List aV) (μ : aM) (g : Nat) : W (n + 1) 299 ls st μ g = (sGoto 1969) (W n) ls st μ g := (hW n 299 ls st μ g).trans rfl
theorem dLw1_302 : decode code 302 = .ok (.aload_n 1, 1) := by decide +kernel
theorem dLw1_303 : decode code 303 = .ok (.aload_n 0, 1) := by decide +kernel
theorem dLw1_304 : decode code 304 = .ok (.iload 5, 2) := by decide +kernel
theorem dLw1_306 : decode code 306 = .ok (.iconst 1, 1) := by decide +kernel
theorem dLw1_307 : decode code 307 = .ok (.iadd, 1) := by decide +kernel
theorem dLw1_308 : decode code 308 = .ok (.iaload, 1) := by decide +kernel
theorem dLw1_309 : decode code 309 = .ok (.aload_n 0, 1) := by decide +kernel
theorem dLw1_310 : decode code 310 = .ok (.iload 5, 2) := by decide +kernel
theorem dLw1_312 : decode code 312 = .ok (.iconst 2, 1) := by decide +kernel
theorem dLw1_313 : decode code 313 = .ok (.iadd, 1) := by decide +kernel
theorem dLw1_314 : decode code 314 = .ok (.iaload, 1) := by decide +kernel
theorem dLw1_315 : decode code 315 = .ok (.i2c, 1) := by decide +kernel
theorem dLw1_316 : decode code 316 = .ok (.aload_n 0, 1) := by decide +kernel
theorem dLw1_317 : decode code 317 = .ok (.iload 5, 2) := by decide +kernel
theorem dLw1_319 : decode code 319 = .ok (.iconst 3, 1) := by decide +kernel
theorem dLw1_320 : decode code 320 = .ok (.iadd, 1) := by decide +kernel
theorem dLw1_321 : decode code 321 = .ok (.iaload, 1) := by decide +kernel
theorem dLw1_322 : decode code 322 = .ok (.aload_n 0, 1) := by decide +kernel
theorem dLw1_323 : decode code 323 = .ok (.iload 5, 2) := by decide +kernel
theorem dLw1_325 : decode code 325 = .ok (.iconst 4, 1) := by decide +kernel
theorem dLw1_326 : decode code 326 = .ok (.iadd, 1) := by decide +kernel
theorem dLw1_327 : decode code 327 = .ok (.iaload, 1) := by decide +kernel
theorem dLw1_328 : decode code 328 = .ok (.aload_n 0, 1) := by decide +kernel
theorem dLw1_329 : decode code 329 = .ok (.iload 5, 2) := by decide +kernel
theorem dLw1_331 : decode code 331 = .ok (.iconst 5, 1) := by decide +kernel
theorem dLw1_332 : decode code 332 = .ok (.iadd, 1) := by decide +kernel
theorem dLw1_333 : decode code 333 = .ok (.iaload, 1) := by decide +kernel
theorem dLw1_334 : decode code 334 = .ok (.aload_n 3, 1) := by decide +kernel
theorem dLw1_335 : decode code 335 = .ok (.invokestatic 124, 3) := by decide +kernel
theorem dLw1_338 : decode code 338 = .ok (.istore 6, 2) := by decide +kernel
theorem dLw1_340 : decode code 340 = .ok (.aload_n 2, 1) := by decide +kernel
theorem dLw1_341 : decode code 341 = .ok (.aload_n 0, 1) := by decide +kernel
theorem dLw1_342 : decode code 342 = .ok (.iload 5, 2) := by decide +kernel
theorem dLw1_344 : decode code 344 = .ok (.iconst 1, 1) := by decide +kernel
theorem dLw1_345 : decode code 345 = .ok (.iadd, 1) := by decide +kernel
theorem dLw1_346 : decode code 346 = .ok (.iaload, 1) := by decide +kernel
theorem dLw1_347 : decode code 347 = .ok (.aload_n 0, 1) := by decide +kernel
theorem dLw1_348 : decode code 348 = .ok (.iload 5, 2) := by decide +kernel
theorem dLw1_350 : decode code 350 = .ok (.iconst 2, 1) := by decide +kernel
theorem dLw1_351 : decode code 351 = .ok (.iadd, 1) := by decide +kernel
theorem dLw1_352 : decode code 352 = .ok (.iaload, 1) := by decide +kernel
theorem dLw1_353 : decode code 353 = .ok (.i2c, 1) := by decide +kernel
theorem dLw1_354 : decode code 354 = .ok (.aload_n 0, 1) := by decide +kernel
theorem dLw1_355 : decode code 355 = .ok (.iload 5, 2) := by decide +kernel
theorem dLw1_357 : decode code 357 = .ok (.iconst 3, 1) := by decide +kernel
theorem dLw1_358 : decode code 358 = .ok (.iadd, 1) := by decide +kernel
theorem dLw1_359 : decode code 359 = .ok (.iaload, 1) := by decide +kernel
theorem dLw1_360 : decode code 360 = .ok (.aload_n 0, 1) := by decide +kernel
theorem dLw1_361 : decode code 361 = .ok (.iload 5, 2) := by decide +kernel
theorem dLw1_363 : decode code 363 = .ok (.iconst 4, 1) := by decide +kernel
theorem dLw1_364 : decode code 364 = .ok (.iadd, 1) := by decide +kernel
theorem dLw1_365 : decode code 365 = .ok (.iaload, 1) := by decide +kernel
theorem dLw1_366 : decode code 366 = .ok (.aload_n 0, 1) := by decide +kernel
theorem dLw1_367 : decode code 367 = .ok (.iload 5, 2) := by decide +kernel
theorem dLw1_369 : decode code 369 = .ok (.iconst 5, 1) := by decide +kernel
theorem dLw1_370 : decode code 370 = .ok (.iadd, 1) := by decide +kernel
theorem dLw1_371 : decode code 371 = .ok (.iaload, 1) := by decide +kernel
theorem dLw1_372 : decode code 372 = .ok (.invokevirtual 126, 3) := by decide +kernel
theorem dLw1_375 : decode code 375 = .ok (.istore 7, 2) := by decide +kernel
theorem dLw1_377 : decode code 377 = .ok (.aload_n 2, 1) := by decide +kernel
theorem dLw1_378 : decode code 378 = .ok (.invokevirtual 121, 3) := by decide +kernel
theorem dLw1_381 : decode code 381 = .ok (.iload 6, 2) := by decide +kernel
theorem dLw1_383 : decode code 383 = .ok (.if_icmp .eq 5, 3) := by decide +kernel
theorem dLw1_386 : decode code 386 = .ok (.iconst 0, 1) := by decide +kernel
theorem dLw1_387 : decode code 387 = .ok (.ireturn, 1) := by decide +kernel
theorem dLw1_388 : decode code 388 = .ok (.iload 6, 2) := by decide +kernel
theorem dLw1_390 : decode code 390 = .ok (.ifCond .ne 15, 3) := by decide +kernel
theorem dLw1_393 : decode code 393 = .ok (.aload_n 3, 1) := by decide +kernel
theorem dLw1_394 : decode code 394 = .ok (.iconst 0, 1) := by decide +kernel
theorem dLw1_395 : decode code 395 = .ok (.laload, 1) := by decide +kernel
theorem dLw1_396 : decode code 396 = .ok (.iload 7, 2) := by decide +kernel
theorem dLw1_398 : decode code 398 = .ok (.i2l, 1) := by decide +kernel
theorem dLw1_399 : decode code 399 = .ok (.lcmp, 1) := by decide +kernel
theorem dLw1_400 : decode code 400 = .ok (.ifCond .eq 5, 3) := by decide +kernel
theorem dLw1_403 : decode code 403 = .ok (.iconst 0, 1) := by decide +kernel
theorem dLw1_404 : decode code 404 = .ok (.ireturn, 1) := by decide +kernel
theorem dLw1_405 : decode code 405 = .ok (.goto 1564, 3) := by decide +kernel
def tbLw1 (l : Launch) (L : Nat) (xs : Nat → Int32) : aTb := [
  (302, sLd 1 303 isR),
  (303, sLd 0 304 isR),
  (304, sLd 5 306 isI),
  (306, sPush (aI 1) 307),
  (307, sBin fAdd 308),
  (308, sSld L xs 309),
  (309, sLd 0 310 isR),
  (310, sLd 5 312 isI),
  (312, sPush (aI 2) 313),
  (313, sBin fAdd 314),
  (314, sSld L xs 315),
  (315, sUn fI2c 316),
  (316, sLd 0 317 isR),
  (317, sLd 5 319 isI),
  (319, sPush (aI 3) 320),
  (320, sBin fAdd 321),
  (321, sSld L xs 322),
  (322, sLd 0 323 isR),
  (323, sLd 5 325 isI),
  (325, sPush (aI 4) 326),
  (326, sBin fAdd 327),
  (327, sSld L xs 328),
  (328, sLd 0 329 isR),
  (329, sLd 5 331 isI),
  (331, sPush (aI 5) 332),
  (332, sBin fAdd 333),
  (333, sSld L xs 334),
  (334, sLd 3 335 isR),
  (335, sCallS 7 (fun as μ K => CtH l mdL_sendStop hhL_sendStop as μ K) 338 3 3600),
  (338, sSt 6 340 isI),
  (340, sLd 2 341 isR),
  (341, sLd 0 342 isR),
  (342, sLd 5 344 isI),
  (344, sPush (aI 1) 345),
  (345, sBin fAdd 346),
  (346, sSld L xs 347),
  (347, sLd 0 348 isR),
  (348, sLd 5 350 isI),
  (350, sPush (aI 2) 351),
  (351, sBin fAdd 352),
  (352, sSld L xs 353),
  (353, sUn fI2c 354),
  (354, sLd 0 355 isR),
  (355, sLd 5 357 isI),
  (357, sPush (aI 3) 358),
  (358, sBin fAdd 359),
  (359, sSld L xs 360),
  (360, sLd 0 361 isR),
  (361, sLd 5 363 isI),
  (363, sPush (aI 4) 364),
  (364, sBin fAdd 365),
  (365, sSld L xs 366),
  (366, sLd 0 367 isR),
  (367, sLd 5 369 isI),
  (369, sPush (aI 5) 370),
  (370, sBin fAdd 371),
  (371, sSld L xs 372),
  (372, sCallV 5 5 (fun as μ K => Ct l mdX5_sendStop as μ K nX) 375 0 3600),
  (375, sSt 7 377 isI),
  (377, sLd 2 378 isR),
  (378, sCallV 0 5 (fun as μ K => Ct l mdX5_thrown as μ K nX) 381 0 3600),
  (381, sLd 6 383 isI),
  (383, sIc qEq 388 386),
  (386, sPush (aI 0) 387),
  (387, sLret),
  (388, sLd 6 390 isI),
  (390, sIf pNe 405 393),
  (393, sLd 3 394 isR),
  (394, sPush (aI 0) 395),
  (395, sAldL 396),
  (396, sLd 7 398 isI),
  (398, sI2l 399),
  (399, sLcmp 400),
  (400, sIf pEq 405 403),
  (403, sPush (aI 0) 404),
  (404, sLret),
  (405, sGoto 1969)]
theorem snLw1 (l : Launch) (L : Nat) (xs : Nat → Int32) (hL3 : L ≤ 3072) : ∀ q ∈ tbLw1 l L xs, Snd (BL l L xs) q.1 q.2 :=
  tcG (sLw (fun p e s m below meth c b cA D A ad0 h hb => ok_aload_n h.1 1 rfl dLw1_302)) <|
  tcG (sLw (fun p e s m below meth c b cA D A ad0 h hb => ok_aload_n h.1 0 rfl dLw1_303)) <|
  tcG (sLw (fun p e s m below meth c b cA D A ad0 h hb => ok_iload h.1 dLw1_304)) <|
  tcG (sLw (fun p e s m below meth c b cA D A ad0 h hb => ok_iconst h.1 ⟨by decide, by decide⟩ dLw1_306)) <|
  tcG (sLw (fun p e s m below meth c b cA D A ad0 h hb => ok_iadd h.1 dLw1_307)) <|
  tcG (sLw (fun p e s m below meth c b cA D A ad0 h hb => ok_sld h hb dLw1_308)) <|
  tcG (sLw (fun p e s m below meth c b cA D A ad0 h hb => ok_aload_n h.1 0 rfl dLw1_309)) <|
  tcG (sLw (fun p e s m below meth c b cA D A ad0 h hb => ok_iload h.1 dLw1_310)) <|
  tcG (sLw (fun p e s m below meth c b cA D A ad0 h hb => ok_iconst h.1 ⟨by decide, by decide⟩ dLw1_312)) <|
  tcG (sLw (fun p e s m below meth c b cA D A ad0 h hb => ok_iadd h.1 dLw1_313)) <|
  tcG (sLw (fun p e s m below meth c b cA D A ad0 h hb => ok_sld h hb dLw1_314)) <|
  tcG (sLw (fun p e s m below meth c b cA D A ad0 h hb => ok_i2c h.1 dLw1_315)) <|
  tcG (sLw (fun p e s m below meth c b cA D A ad0 h hb => ok_aload_n h.1 0 rfl dLw1_316)) <|
  tcG (sLw (fun p e s m below meth c b cA D A ad0 h hb => ok_iload h.1 dLw1_317)) <|
  tcG (sLw (fun p e s m below meth c b cA D A ad0 h hb => ok_iconst h.1 ⟨by decide, by decide⟩ dLw1_319)) <|
  tcG (sLw (fun p e s m below meth c b cA D A ad0 h hb => ok_iadd h.1 dLw1_320)) <|
  tcG (sLw (fun p e s m below meth c b cA D A ad0 h hb => ok_sld h hb dLw1_321)) <|
  tcG (sLw (fun p e s m below meth c b cA D A ad0 h hb => ok_aload_n h.1 0 rfl dLw1_322)) <|
  tcG (sLw (fun p e s m below meth c b cA D A ad0 h hb => ok_iload h.1 dLw1_323)) <|
  tcG (sLw (fun p e s m below meth c b cA D A ad0 h hb => ok_iconst h.1 ⟨by decide, by decide⟩ dLw1_325)) <|
  tcG (sLw (fun p e s m below meth c b cA D A ad0 h hb => ok_iadd h.1 dLw1_326)) <|
  tcG (sLw (fun p e s m below meth c b cA D A ad0 h hb => ok_sld h hb dLw1_327)) <|
  tcG (sLw (fun p e s m below meth c b cA D A ad0 h hb => ok_aload_n h.1 0 rfl dLw1_328)) <|
  tcG (sLw (fun p e s m below meth c b cA D A ad0 h hb => ok_iload h.1 dLw1_329)) <|
  tcG (sLw (fun p e s m below meth c b cA D A ad0 h hb => ok_iconst h.1 ⟨by decide, by decide⟩ dLw1_331)) <|
  tcG (sLw (fun p e s m below meth c b cA D A ad0 h hb => ok_iadd h.1 dLw1_332)) <|
  tcG (sLw (fun p e s m below meth c b cA D A ad0 h hb => ok_sld h hb dLw1_333)) <|
  tcG (sLw (fun p e s m below meth c b cA D A ad0 h hb => ok_aload_n h.1 3 rfl dLw1_334)) <|
  tcG (sLw (fun p e s m below meth c b cA D A ad0 h hb => ok_callSH h.1 h.2.1 (show 3600 ≤ room_1.cells ∧ 2000 * 3600 ≤ room_1.slots from ⟨Nat.le_of_ble_eq_true rfl, Nat.le_of_ble_eq_true rfl⟩) mdL_sendStop hhL_sendStop siL_sendStop mkRL_124 stL_sendStop ⟨by decide, by decide⟩ dLw1_335)) <|
  tcG (sLw (fun p e s m below meth c b cA D A ad0 h hb => ok_istore h.1 (by decide) dLw1_338)) <|
  tcG (sLw (fun p e s m below meth c b cA D A ad0 h hb => ok_aload_n h.1 2 rfl dLw1_340)) <|
  tcG (sLw (fun p e s m below meth c b cA D A ad0 h hb => ok_aload_n h.1 0 rfl dLw1_341)) <|
  tcG (sLw (fun p e s m below meth c b cA D A ad0 h hb => ok_iload h.1 dLw1_342)) <|
  tcG (sLw (fun p e s m below meth c b cA D A ad0 h hb => ok_iconst h.1 ⟨by decide, by decide⟩ dLw1_344)) <|
  tcG (sLw (fun p e s m below meth c b cA D A ad0 h hb => ok_iadd h.1 dLw1_345)) <|
  tcG (sLw (fun p e s m below meth c b cA D A ad0 h hb => ok_sld h hb dLw1_346)) <|
  tcG (sLw (fun p e s m below meth c b cA D A ad0 h hb => ok_aload_n h.1 0 rfl dLw1_347)) <|
  tcG (sLw (fun p e s m below meth c b cA D A ad0 h hb => ok_iload h.1 dLw1_348)) <|
  tcG (sLw (fun p e s m below meth c b cA D A ad0 h hb => ok_iconst h.1 ⟨by decide, by decide⟩ dLw1_350)) <|
  tcG (sLw (fun p e s m below meth c b cA D A ad0 h hb => ok_iadd h.1 dLw1_351)) <|
  tcG (sLw (fun p e s m below meth c b cA D A ad0 h hb => ok_sld h hb dLw1_352)) <|
  tcG (sLw (fun p e s m below meth c b cA D A ad0 h hb => ok_i2c h.1 dLw1_353)) <|
  tcG (sLw (fun p e s m below meth c b cA D A ad0 h hb => ok_aload_n h.1 0 rfl dLw1_354)) <|
  tcG (sLw (fun p e s m below meth c b cA D A ad0 h hb => ok_iload h.1 dLw1_355)) <|
  tcG (sLw (fun p e s m below meth c b cA D A ad0 h hb => ok_iconst h.1 ⟨by decide, by decide⟩ dLw1_357)) <|
  tcG (sLw (fun p e s m below meth c b cA D A ad0 h hb => ok_iadd h.1 dLw1_358)) <|
  tcG (sLw (fun p e s m below meth c b cA D A ad0 h hb => ok_sld h hb dLw1_359)) <|
  tcG (sLw (fun p e s m below meth c b cA D A ad0 h hb => ok_aload_n h.1 0 rfl dLw1_360)) <|
  tcG (sLw (fun p e s m below meth c b cA D A ad0 h hb => ok_iload h.1 dLw1_361)) <|
  tcG (sLw (fun p e s m below meth c b cA D A ad0 h hb => ok_iconst h.1 ⟨by decide, by decide⟩ dLw1_363)) <|
  tcG (sLw (fun p e s m below meth c b cA D A ad0 h hb => ok_iadd h.1 dLw1_364)) <|
  tcG (sLw (fun p e s m below meth c b cA D A ad0 h hb => ok_sld h hb dLw1_365)) <|
  tcG (sLw (fun p e s m below meth c b cA D A ad0 h hb => ok_aload_n h.1 0 rfl dLw1_366)) <|
  tcG (sLw (fun p e s m below meth c b cA D A ad0 h hb => ok_iload h.1 dLw1_367)) <|
  tcG (sLw (fun p e s m below meth c b cA D A ad0 h hb => ok_iconst h.1 ⟨by decide, by decide⟩ dLw1_369)) <|
  tcG (sLw (fun p e s m below meth c b cA D A ad0 h hb => ok_iadd h.1 dLw1_370)) <|
  tcG (sLw (fun p e s m below meth c b cA D A ad0 h hb => ok_sld h hb dLw1_371)) <|
  tcG (sLw (fun p e s m below meth c b cA D A ad0 h hb => ok_callV h.1 h.2.1 (show 3600 ≤ room_1.cells ∧ 2000 * 3600 ≤ room_1.slots from ⟨Nat.le_of_ble_eq_true rfl, Nat.le_of_ble_eq_true rfl⟩) mdX5_sendStop siX5_sendStop cxX5 mkRL_126 imX5_sendStop seX5_sendStop ⟨by decide, by decide⟩ aAx_no dLw1_372)) <|
  tcG (sLw (fun p e s m below meth c b cA D A ad0 h hb => ok_istore h.1 (by decide) dLw1_375)) <|
  tcG (sLw (fun p e s m below meth c b cA D A ad0 h hb => ok_aload_n h.1 2 rfl dLw1_377)) <|
  tcG (sLw (fun p e s m below meth c b cA D A ad0 h hb => ok_callV h.1 h.2.1 (show 3600 ≤ room_1.cells ∧ 2000 * 3600 ≤ room_1.slots from ⟨Nat.le_of_ble_eq_true rfl, Nat.le_of_ble_eq_true rfl⟩) mdX5_thrown siX5_thrown cxX5 mkRL_121 imX5_thrown seX5_thrown ⟨by decide, by decide⟩ aAx_no dLw1_378)) <|
  tcG (sLw (fun p e s m below meth c b cA D A ad0 h hb => ok_iload h.1 dLw1_381)) <|
  tcG (sLw (fun p e s m below meth c b cA D A ad0 h hb => ok_icmp_eq h.1 388 (by decide) dLw1_383)) <|
  tcG (sLw (fun p e s m below meth c b cA D A ad0 h hb => ok_iconst h.1 ⟨by decide, by decide⟩ dLw1_386)) <|
  tcG (sLw (fun p e s m below meth c b cA D A ad0 h hb => ok_lret h dLw1_387)) <|
  tcG (sLw (fun p e s m below meth c b cA D A ad0 h hb => ok_iload h.1 dLw1_388)) <|
  tcG (sLw (fun p e s m below meth c b cA D A ad0 h hb => ok_if_ne h.1 405 (by decide) dLw1_390)) <|
  tcG (sLw (fun p e s m below meth c b cA D A ad0 h hb => ok_aload_n h.1 3 rfl dLw1_393)) <|
  tcG (sLw (fun p e s m below meth c b cA D A ad0 h hb => ok_iconst h.1 ⟨by decide, by decide⟩ dLw1_394)) <|
  tcG (sLw (fun p e s m below meth c b cA D A ad0 h hb => ok_lald h.1 dLw1_395)) <|
  tcG (sLw (fun p e s m below meth c b cA D A ad0 h hb => ok_iload h.1 dLw1_396)) <|
  tcG (sLw (fun p e s m below meth c b cA D A ad0 h hb => ok_i2l h.1 dLw1_398)) <|
  tcG (sLw (fun p e s m below meth c b cA D A ad0 h hb => ok_lcmp h.1 dLw1_399)) <|
  tcG (sLw (fun p e s m below meth c b cA D A ad0 h hb => ok_if_eq h.1 405 (by decide) dLw1_400)) <|
  tcG (sLw (fun p e s m below meth c b cA D A ad0 h hb => ok_iconst h.1 ⟨by decide, by decide⟩ dLw1_403)) <|
  tcG (sLw (fun p e s m below meth c b cA D A ad0 h hb => ok_lret h dLw1_404)) <|
  tcG (sLw (fun p e s m below meth c b cA D A ad0 h hb => ok_goto h.1 1969 (by decide) dLw1_405)) <|
  tnG
abbrev cuLw1 : List Nat := [338, 375, 381, 1969]
theorem wLw1_1969 {l : Launch} {L : Nat} {xs : Nat → Int32} {J : aK} {W : Nat → aK} (hW : isW (tbLw1 l L xs) cuLw1 J W) (n : Nat) (ls st : List aV) (μ : aM) (g : Nat) : W (n + 1) 1969 ls st μ g = J 1969 ls st μ g := (hW n 1969 ls st μ g).trans rfl
theorem tLw1_302 (l : Launch) (L : Nat) (xs : Nat → Int32) : tb (tbLw1 l L xs) 302 = sLd 1 303 isR := (rfl)
theorem wLw1_302 {l : Launch} {L : Nat} {xs : Nat → Int32} {J : aK} {W : Nat → aK} (hW : isW (tbLw1 l L xs) cuLw1 J W) (n : Nat) (ls st : List aV) (μ : aM) (g : Nat) : W (n + 1) 302 ls st μ g = (sLd 1 303 isR) (W n) ls st μ g := (hW n 302 ls st μ g).trans rfl
theorem wLw1_303 {l : Launch} {L : Nat} {xs : Nat → Int32} {J : aK} {W : Nat → aK} (hW : isW (tbLw1 l L xs) cuLw1 J W) (n : Nat) (ls st : List aV) (μ : aM) (g : Nat) : W (n + 1) 303 ls st μ g = (sLd 0 304 isR) (W n) ls st μ g := (hW n 303 ls st μ g).trans rfl
theorem wLw1_304 {l : Launch} {L : Nat} {xs : Nat → Int32} {J : aK} {W : Nat → aK} (hW : isW (tbLw1 l L xs) cuLw1 J W) (n : Nat) (ls st : List aV) (μ : aM) (g : Nat) : W (n + 1) 304 ls st μ g = (sLd 5 306 isI) (W n) ls st μ g := (hW n 304 ls st μ g).trans rfl
theorem wLw1_306 {l : Launch} {L : Nat} {xs : Nat → Int32} {J : aK} {W : Nat → aK} (hW : isW (tbLw1 l L xs) cuLw1 J W) (n : Nat) (ls st : List aV) (μ : aM) (g : Nat) : W (n + 1) 306 ls st μ g = (sPush (aI 1) 307) (W n) ls st μ g := (hW n 306 ls st μ g).trans rfl
theorem wLw1_307 {l : Launch} {L : Nat} {xs : Nat → Int32} {J : aK} {W : Nat → aK} (hW : isW (tbLw1 l L xs) cuLw1 J W) (n : Nat) (ls st : List aV) (μ : aM) (g : Nat) : W (n + 1) 307 ls st μ g = (sBin fAdd 308) (W n) ls st μ g := (hW n 307 ls st μ g).trans rfl
theorem wLw1_308 {l : Launch} {L : Nat} {xs : Nat → Int32} {J : aK} {W : Nat → aK} (hW : isW (tbLw1 l L xs) cuLw1 J W) (n : Nat) (ls st : List aV) (μ : aM) (g : Nat) : W (n + 1) 308 ls st μ g = (sSld L xs 309) (W n) ls st μ g := (hW n 308 ls st μ g).trans rfl
theorem wLw1_309 {l : Launch} {L : Nat} {xs : Nat → Int32} {J : aK} {W : Nat → aK} (hW : isW (tbLw1 l L xs) cuLw1 J W) (n : Nat) (ls st : List aV) (μ : aM) (g : Nat) : W (n + 1) 309 ls st μ g = (sLd 0 310 isR) (W n) ls st μ g := (hW n 309 ls st μ g).trans rfl
theorem wLw1_310 {l : Launch} {L : Nat} {xs : Nat → Int32} {J : aK} {W : Nat → aK} (hW : isW (tbLw1 l L xs) cuLw1 J W) (n : Nat) (ls st : List aV) (μ : aM) (g : Nat) : W (n + 1) 310 ls st μ g = (sLd 5 312 isI) (W n) ls st μ g := (hW n 310 ls st μ g).trans rfl
theorem wLw1_312 {l : Launch} {L : Nat} {xs : Nat → Int32} {J : aK} {W : Nat → aK} (hW : isW (tbLw1 l L xs) cuLw1 J W) (n : Nat) (ls st : List aV) (μ : aM) (g : Nat) : W (n + 1) 312 ls st μ g = (sPush (aI 2) 313) (W n) ls st μ g := (hW n 312 ls st μ g).trans rfl
theorem wLw1_313 {l : Launch} {L : Nat} {xs : Nat → Int32} {J : aK} {W : Nat → aK} (hW : isW (tbLw1 l L xs) cuLw1 J W) (n : Nat) (ls st : List aV) (μ : aM) (g : Nat) : W (n + 1) 313 ls st μ g = (sBin fAdd 314) (W n) ls st μ g := (hW n 313 ls st μ g).trans rfl
theorem wLw1_314 {l : Launch} {L : Nat} {xs : Nat → Int32} {J : aK} {W : Nat → aK} (hW : isW (tbLw1 l L xs) cuLw1 J W) (n : Nat) (ls st : List aV) (μ : aM) (g : Nat) : W (n + 1) 314 ls st μ g = (sSld L xs 315) (W n) ls st μ g := (hW n 314 ls st μ g).trans rfl
theorem wLw1_315 {l : Launch} {L : Nat} {xs : Nat → Int32} {J : aK} {W : Nat → aK} (hW : isW (tbLw1 l L xs) cuLw1 J W) (n : Nat) (ls st : List aV) (μ : aM) (g : Nat) : W (n + 1) 315 ls st μ g = (sUn fI2c 316) (W n) ls st μ g := (hW n 315 ls st μ g).trans rfl
theorem wLw1_316 {l : Launch} {L : Nat} {xs : Nat → Int32} {J : aK} {W : Nat → aK} (hW : isW (tbLw1 l L xs) cuLw1 J W) (n : Nat) (ls st : List aV) (μ : aM) (g : Nat) : W (n + 1) 316 ls st μ g = (sLd 0 317 isR) (W n) ls st μ g := (hW n 316 ls st μ g).trans rfl
theorem wLw1_317 {l : Launch} {L : Nat} {xs : Nat → Int32} {J : aK} {W : Nat → aK} (hW : isW (tbLw1 l L xs) cuLw1 J W) (n : Nat) (ls st : List aV) (μ : aM) (g : Nat) : W (n + 1) 317 ls st μ g = (sLd 5 319 isI) (W n) ls st μ g := (hW n 317 ls st μ g).trans rfl
theorem wLw1_319 {l : Launch} {L : Nat} {xs : Nat → Int32} {J : aK} {W : Nat → aK} (hW : isW (tbLw1 l L xs) cuLw1 J W) (n : Nat) (ls st : List aV) (μ : aM) (g : Nat) : W (n + 1) 319 ls st μ g = (sPush (aI 3) 320) (W n) ls st μ g := (hW n 319 ls st μ g).trans rfl
theorem wLw1_320 {l : Launch} {L : Nat} {xs : Nat → Int32} {J : aK} {W : Nat → aK} (hW : isW (tbLw1 l L xs) cuLw1 J W) (n : Nat) (ls st : List aV) (μ : aM) (g : Nat) : W (n + 1) 320 ls st μ g = (sBin fAdd 321) (W n) ls st μ g := (hW n 320 ls st μ g).trans rfl
theorem wLw1_321 {l : Launch} {L : Nat} {xs : Nat → Int32} {J : aK} {W : Nat → aK} (hW : isW (tbLw1 l L xs) cuLw1 J W) (n : Nat) (ls st : List aV) (μ : aM) (g : Nat) : W (n + 1) 321 ls st μ g = (sSld L xs 322) (W n) ls st μ g := (hW n 321 ls st μ g).trans rfl
theorem wLw1_322 {l : Launch} {L : Nat} {xs : Nat → Int32} {J : aK} {W : Nat → aK} (hW : isW (tbLw1 l L xs) cuLw1 J W) (n : Nat) (ls st : List aV) (μ : aM) (g : Nat) : W (n + 1) 322 ls st μ g = (sLd 0 323 isR) (W n) ls st μ g := (hW n 322 ls st μ g).trans rfl
theorem wLw1_323 {l : Launch} {L : Nat} {xs : Nat → Int32} {J : aK} {W : Nat → aK} (hW : isW (tbLw1 l L xs) cuLw1 J W) (n : Nat) (ls st : List aV) (μ : aM) (g : Nat) : W (n + 1) 323 ls st μ g = (sLd 5 325 isI) (W n) ls st μ g := (hW n 323 ls st μ g).trans rfl
theorem wLw1_325 {l : Launch} {L : Nat} {xs : Nat → Int32} {J : aK} {W : Nat → aK} (hW : isW (tbLw1 l L xs) cuLw1 J W) (n : Nat) (ls st : List aV) (μ : aM) (g : Nat) : W (n + 1) 325 ls st μ g = (sPush (aI 4) 326) (W n) ls st μ g := (hW n 325 ls st μ g).trans rfl
theorem wLw1_326 {l : Launch} {L : Nat} {xs : Nat → Int32} {J : aK} {W : Nat → aK} (hW : isW (tbLw1 l L xs) cuLw1 J W) (n : Nat) (ls st : List aV) (μ : aM) (g : Nat) : W (n + 1) 326 ls st μ g = (sBin fAdd 327) (W n) ls st μ g := (hW n 326 ls st μ g).trans rfl
theorem wLw1_327 {l : Launch} {L : Nat} {xs : Nat → Int32} {J : aK} {W : Nat → aK} (hW : isW (tbLw1 l L xs) cuLw1 J W) (n : Nat) (ls st : List aV) (μ : aM) (g : Nat) : W (n + 1) 327 ls st μ g = (sSld L xs 328) (W n) ls st μ g := (hW n 327 ls st μ g).trans rfl
theorem wLw1_328 {l : Launch} {L : Nat} {xs : Nat → Int32} {J : aK} {W : Nat → aK} (hW : isW (tbLw1 l L xs) cuLw1 J W) (n : Nat) (ls st : List aV) (μ : aM) (g : Nat) : W (n + 1) 328 ls st μ g = (sLd 0 329 isR) (W n) ls st μ g := (hW n 328 ls st μ g).trans rfl
theorem wLw1_329 {l : Launch} {L : Nat} {xs : Nat → Int32} {J : aK} {W : Nat → aK} (hW : isW (tbLw1 l L xs) cuLw1 J W) (n : Nat) (ls st : List aV) (μ : aM) (g : Nat) : W (n + 1) 329 ls st μ g = (sLd 5 331 isI) (W n) ls st μ g := (hW n 329 ls st μ g).trans rfl
theorem wLw1_331 {l : Launch} {L : Nat} {xs : Nat → Int32} {J : aK} {W : Nat → aK} (hW : isW (tbLw1 l L xs) cuLw1 J W) (n : Nat) (ls st : List aV) (μ : aM) (g : Nat) : W (n + 1) 331 ls st μ g = (sPush (aI 5) 332) (W n) ls st μ g := (hW n 331 ls st μ g).trans rfl
theorem wLw1_332 {l : Launch} {L : Nat} {xs : Nat → Int32} {J : aK} {W : Nat → aK} (hW : isW (tbLw1 l L xs) cuLw1 J W) (n : Nat) (ls st : List aV) (μ : aM) (g : Nat) : W (n + 1) 332 ls st μ g = (sBin fAdd 333) (W n) ls st μ g := (hW n 332 ls st μ g).trans rfl
theorem wLw1_333 {l : Launch} {L : Nat} {xs : Nat → Int32} {J : aK} {W : Nat → aK} (hW : isW (tbLw1 l L xs) cuLw1 J W) (n : Nat) (ls st : List aV) (μ : aM) (g : Nat) : W (n + 1) 333 ls st μ g = (sSld L xs 334) (W n) ls st μ g := (hW n 333 ls st μ g).trans rfl
theorem wLw1_334 {l : Launch} {L : Nat} {xs : Nat → Int32} {J : aK} {W : Nat → aK} (hW : isW (tbLw1 l L xs) cuLw1 J W) (n : Nat) (ls st : List aV) (μ : aM) (g : Nat) : W (n + 1) 334 ls st μ g = (sLd 3 335 isR) (W n) ls st μ g := (hW n 334 ls st μ g).trans rfl
theorem wLw1_335 {l : Launch} {L : Nat} {xs : Nat → Int32} {J : aK} {W : Nat → aK} (hW : isW (tbLw1 l L xs) cuLw1 J W) (n : Nat) (ls st : List aV) (μ : aM) (g : Nat) : W (n + 1) 335 ls st μ g = (sCallS 7 (fun as μ K => CtH l mdL_sendStop hhL_sendStop as μ K) 338 3 3600) (W n) ls st μ g := (hW n 335 ls st μ g).trans rfl
theorem tLw1_338 (l : Launch) (L : Nat) (xs : Nat → Int32) : tb (tbLw1 l L xs) 338 = sSt 6 340 isI := (rfl)
theorem wLw1_338 {l : Launch} {L : Nat} {xs : Nat → Int32} {J : aK} {W : Nat → aK} (hW : isW (tbLw1 l L xs) cuLw1 J W) (n : Nat) (ls st : List aV) (μ : aM) (g : Nat) : W (n + 1) 338 ls st μ g = J 338 ls st μ g := (hW n 338 ls st μ g).trans rfl
theorem wLw1_340 {l : Launch} {L : Nat} {xs : Nat → Int32} {J : aK} {W : Nat → aK} (hW : isW (tbLw1 l L xs) cuLw1 J W) (n : Nat) (ls st : List aV) (μ : aM) (g : Nat) : W (n + 1) 340 ls st μ g = (sLd 2 341 isR) (W n) ls st μ g := (hW n 340 ls st μ g).trans rfl
theorem wLw1_341 {l : Launch} {L : Nat} {xs : Nat → Int32} {J : aK} {W : Nat → aK} (hW : isW (tbLw1 l L xs) cuLw1 J W) (n : Nat) (ls st : List aV) (μ : aM) (g : Nat) : W (n + 1) 341 ls st μ g = (sLd 0 342 isR) (W n) ls st μ g := (hW n 341 ls st μ g).trans rfl
theorem wLw1_342 {l : Launch} {L : Nat} {xs : Nat → Int32} {J : aK} {W : Nat → aK} (hW : isW (tbLw1 l L xs) cuLw1 J W) (n : Nat) (ls st : List aV) (μ : aM) (g : Nat) : W (n + 1) 342 ls st μ g = (sLd 5 344 isI) (W n) ls st μ g := (hW n 342 ls st μ g).trans rfl
theorem wLw1_344 {l : Launch} {L : Nat} {xs : Nat → Int32} {J : aK} {W : Nat → aK} (hW : isW (tbLw1 l L xs) cuLw1 J W) (n : Nat) (ls st : List aV) (μ : aM) (g : Nat) : W (n + 1) 344 ls st μ g = (sPush (aI 1) 345) (W n) ls st μ g := (hW n 344 ls st μ g).trans rfl
theorem wLw1_345 {l : Launch} {L : Nat} {xs : Nat → Int32} {J : aK} {W : Nat → aK} (hW : isW (tbLw1 l L xs) cuLw1 J W) (n : Nat) (ls st : List aV) (μ : aM) (g : Nat) : W (n + 1) 345 ls st μ g = (sBin fAdd 346) (W n) ls st μ g := (hW n 345 ls st μ g).trans rfl
theorem wLw1_346 {l : Launch} {L : Nat} {xs : Nat → Int32} {J : aK} {W : Nat → aK} (hW : isW (tbLw1 l L xs) cuLw1 J W) (n : Nat) (ls st : List aV) (μ : aM) (g : Nat) : W (n + 1) 346 ls st μ g = (sSld L xs 347) (W n) ls st μ g := (hW n 346 ls st μ g).trans rfl
theorem wLw1_347 {l : Launch} {L : Nat} {xs : Nat → Int32} {J : aK} {W : Nat → aK} (hW : isW (tbLw1 l L xs) cuLw1 J W) (n : Nat) (ls st : List aV) (μ : aM) (g : Nat) : W (n + 1) 347 ls st μ g = (sLd 0 348 isR) (W n) ls st μ g := (hW n 347 ls st μ g).trans rfl
theorem wLw1_348 {l : Launch} {L : Nat} {xs : Nat → Int32} {J : aK} {W : Nat → aK} (hW : isW (tbLw1 l L xs) cuLw1 J W) (n : Nat) (ls st : List aV) (μ : aM) (g : Nat) : W (n + 1) 348 ls st μ g = (sLd 5 350 isI) (W n) ls st μ g := (hW n 348 ls st μ g).trans rfl
theorem wLw1_350 {l : Launch} {L : Nat} {xs : Nat → Int32} {J : aK} {W : Nat → aK} (hW : isW (tbLw1 l L xs) cuLw1 J W) (n : Nat) (ls st : List aV) (μ : aM) (g : Nat) : W (n + 1) 350 ls st μ g = (sPush (aI 2) 351) (W n) ls st μ g := (hW n 350 ls st μ g).trans rfl
theorem wLw1_351 {l : Launch} {L : Nat} {xs : Nat → Int32} {J : aK} {W : Nat → aK} (hW : isW (tbLw1 l L xs) cuLw1 J W) (n : Nat) (ls st : List aV) (μ : aM) (g : Nat) : W (n + 1) 351 ls st μ g = (sBin fAdd 352) (W n) ls st μ g := (hW n 351 ls st μ g).trans rfl
theorem wLw1_352 {l : Launch} {L : Nat} {xs : Nat → Int32} {J : aK} {W : Nat → aK} (hW : isW (tbLw1 l L xs) cuLw1 J W) (n : Nat) (ls st : List aV) (μ : aM) (g : Nat) : W (n + 1) 352 ls st μ g = (sSld L xs 353) (W n) ls st μ g := (hW n 352 ls st μ g).trans rfl
theorem wLw1_353 {l : Launch} {L : Nat} {xs : Nat → Int32} {J : aK} {W : Nat → aK} (hW : isW (tbLw1 l L xs) cuLw1 J W) (n : Nat) (ls st : List aV) (μ : aM) (g : Nat) : W (n + 1) 353 ls st μ g = (sUn fI2c 354) (W n) ls st μ g := (hW n 353 ls st μ g).trans rfl
theorem wLw1_354 {l : Launch} {L : Nat} {xs : Nat → Int32} {J : aK} {W : Nat → aK} (hW : isW (tbLw1 l L xs) cuLw1 J W) (n : Nat) (ls st : List aV) (μ : aM) (g : Nat) : W (n + 1) 354 ls st μ g = (sLd 0 355 isR) (W n) ls st μ g := (hW n 354 ls st μ g).trans rfl
theorem wLw1_355 {l : Launch} {L : Nat} {xs : Nat → Int32} {J : aK} {W : Nat → aK} (hW : isW (tbLw1 l L xs) cuLw1 J W) (n : Nat) (ls st : List aV) (μ : aM) (g : Nat) : W (n + 1) 355 ls st μ g = (sLd 5 357 isI) (W n) ls st μ g := (hW n 355 ls st μ g).trans rfl
theorem wLw1_357 {l : Launch} {L : Nat} {xs : Nat → Int32} {J : aK} {W : Nat → aK} (hW : isW (tbLw1 l L xs) cuLw1 J W) (n : Nat) (ls st : List aV) (μ : aM) (g : Nat) : W (n + 1) 357 ls st μ g = (sPush (aI 3) 358) (W n) ls st μ g := (hW n 357 ls st μ g).trans rfl
theorem wLw1_358 {l : Launch} {L : Nat} {xs : Nat → Int32} {J : aK} {W : Nat → aK} (hW : isW (tbLw1 l L xs) cuLw1 J W) (n : Nat) (ls st : List aV) (μ : aM) (g : Nat) : W (n + 1) 358 ls st μ g = (sBin fAdd 359) (W n) ls st μ g := (hW n 358 ls st μ g).trans rfl
theorem wLw1_359 {l : Launch} {L : Nat} {xs : Nat → Int32} {J : aK} {W : Nat → aK} (hW : isW (tbLw1 l L xs) cuLw1 J W) (n : Nat) (ls st : List aV) (μ : aM) (g : Nat) : W (n + 1) 359 ls st μ g = (sSld L xs 360) (W n) ls st μ g := (hW n 359 ls st μ g).trans rfl
theorem wLw1_360 {l : Launch} {L : Nat} {xs : Nat → Int32} {J : aK} {W : Nat → aK} (hW : isW (tbLw1 l L xs) cuLw1 J W) (n : Nat) (ls st : List aV) (μ : aM) (g : Nat) : W (n + 1) 360 ls st μ g = (sLd 0 361 isR) (W n) ls st μ g := (hW n 360 ls st μ g).trans rfl
theorem wLw1_361 {l : Launch} {L : Nat} {xs : Nat → Int32} {J : aK} {W : Nat → aK} (hW : isW (tbLw1 l L xs) cuLw1 J W) (n : Nat) (ls st : List aV) (μ : aM) (g : Nat) : W (n + 1) 361 ls st μ g = (sLd 5 363 isI) (W n) ls st μ g := (hW n 361 ls st μ g).trans rfl
theorem wLw1_363 {l : Launch} {L : Nat} {xs : Nat → Int32} {J : aK} {W : Nat → aK} (hW : isW (tbLw1 l L xs) cuLw1 J W) (n : Nat) (ls st : List aV) (μ : aM) (g : Nat) : W (n + 1) 363 ls st μ g = (sPush (aI 4) 364) (W n) ls st μ g := (hW n 363 ls st μ g).trans rfl
theorem wLw1_364 {l : Launch} {L : Nat} {xs : Nat → Int32} {J : aK} {W : Nat → aK} (hW : isW (tbLw1 l L xs) cuLw1 J W) (n : Nat) (ls st : List aV) (μ : aM) (g : Nat) : W (n + 1) 364 ls st μ g = (sBin fAdd 365) (W n) ls st μ g := (hW n 364 ls st μ g).trans rfl
theorem wLw1_365 {l : Launch} {L : Nat} {xs : Nat → Int32} {J : aK} {W : Nat → aK} (hW : isW (tbLw1 l L xs) cuLw1 J W) (n : Nat) (ls st : List aV) (μ : aM) (g : Nat) : W (n + 1) 365 ls st μ g = (sSld L xs 366) (W n) ls st μ g := (hW n 365 ls st μ g).trans rfl
theorem wLw1_366 {l : Launch} {L : Nat} {xs : Nat → Int32} {J : aK} {W : Nat → aK} (hW : isW (tbLw1 l L xs) cuLw1 J W) (n : Nat) (ls st : List aV) (μ : aM) (g : Nat) : W (n + 1) 366 ls st μ g = (sLd 0 367 isR) (W n) ls st μ g := (hW n 366 ls st μ g).trans rfl
theorem wLw1_367 {l : Launch} {L : Nat} {xs : Nat → Int32} {J : aK} {W : Nat → aK} (hW : isW (tbLw1 l L xs) cuLw1 J W) (n : Nat) (ls st : List aV) (μ : aM) (g : Nat) : W (n + 1) 367 ls st μ g = (sLd 5 369 isI) (W n) ls st μ g := (hW n 367 ls st μ g).trans rfl
theorem wLw1_369 {l : Launch} {L : Nat} {xs : Nat → Int32} {J : aK} {W : Nat → aK} (hW : isW (tbLw1 l L xs) cuLw1 J W) (n : Nat) (ls st : List aV) (μ : aM) (g : Nat) : W (n + 1) 369 ls st μ g = (sPush (aI 5) 370) (W n) ls st μ g := (hW n 369 ls st μ g).trans rfl
theorem wLw1_370 {l : Launch} {L : Nat} {xs : Nat → Int32} {J : aK} {W : Nat → aK} (hW : isW (tbLw1 l L xs) cuLw1 J W) (n : Nat) (ls st : List aV) (μ : aM) (g : Nat) : W (n + 1) 370 ls st μ g = (sBin fAdd 371) (W n) ls st μ g := (hW n 370 ls st μ g).trans rfl
theorem wLw1_371 {l : Launch} {L : Nat} {xs : Nat → Int32} {J : aK} {W : Nat → aK} (hW : isW (tbLw1 l L xs) cuLw1 J W) (n : Nat) (ls st : List aV) (μ : aM) (g : Nat) : W (n + 1) 371 ls st μ g = (sSld L xs 372) (W n) ls st μ g := (hW n 371 ls st μ g).trans rfl
theorem wLw1_372 {l : Launch} {L : Nat} {xs : Nat → Int32} {J : aK} {W : Nat → aK} (hW : isW (tbLw1 l L xs) cuLw1 J W) (n : Nat) (ls st : List aV) (μ : aM) (g : Nat) : W (n + 1) 372 ls st μ g = (sCallV 5 5 (fun as μ K => Ct l mdX5_sendStop as μ K nX) 375 0 3600) (W n) ls st μ g := (hW n 372 ls st μ g).trans rfl
theorem tLw1_375 (l : Launch) (L : Nat) (xs : Nat → Int32) : tb (tbLw1 l L xs) 375 = sSt 7 377 isI := (rfl)
theorem wLw1_375 {l : Launch} {L : Nat} {xs : Nat → Int32} {J : aK} {W : Nat → aK} (hW : isW (tbLw1 l L xs) cuLw1 J W) (n : Nat) (ls st : List aV) (μ : aM) (g : Nat) : W (n + 1) 375 ls st μ g = J 375 ls st μ g := (hW n 375 ls st μ g).trans rfl
theorem wLw1_377 {l : Launch} {L : Nat} {xs : Nat → Int32} {J : aK} {W : Nat → aK} (hW : isW (tbLw1 l L xs) cuLw1 J W) (n : Nat) (ls st : List aV) (μ : aM) (g : Nat) : W (n + 1) 377 ls st μ g = (sLd 2 378 isR) (W n) ls st μ g := (hW n 377 ls st μ g).trans rfl
theorem wLw1_378 {l : Launch} {L : Nat} {xs : Nat → Int32} {J : aK} {W : Nat → aK} (hW : isW (tbLw1 l L xs) cuLw1 J W) (n : Nat) (ls st : List aV) (μ : aM) (g : Nat) : W (n + 1) 378 ls st μ g = (sCallV 0 5 (fun as μ K => Ct l mdX5_thrown as μ K nX) 381 0 3600) (W n) ls st μ g := (hW n 378 ls st μ g).trans rfl
theorem tLw1_381 (l : Launch) (L : Nat) (xs : Nat → Int32) : tb (tbLw1 l L xs) 381 = sLd 6 383 isI := (rfl)
theorem wLw1_381 {l : Launch} {L : Nat} {xs : Nat → Int32} {J : aK} {W : Nat → aK} (hW : isW (tbLw1 l L xs) cuLw1 J W) (n : Nat) (ls st : List aV) (μ : aM) (g : Nat) : W (n + 1) 381 ls st μ g = J 381 ls st μ g := (hW n 381 ls st μ g).trans rfl
theorem wLw1_383 {l : Launch} {L : Nat} {xs : Nat → Int32} {J : aK} {W : Nat → aK} (hW : isW (tbLw1 l L xs) cuLw1 J W) (n : Nat) (ls st : List aV) (μ : aM) (g : Nat) : W (n + 1) 383 ls st μ g = (sIc qEq 388 386) (W n) ls st μ g := (hW n 383 ls st μ g).trans rfl
theorem wLw1_386 {l : Launch} {L : Nat} {xs : Nat → Int32} {J : aK} {W : Nat → aK} (hW : isW (tbLw1 l L xs) cuLw1 J W) (n : Nat) (ls st : List aV) (μ : aM) (g : Nat) : W (n + 1) 386 ls st μ g = (sPush (aI 0) 387) (W n) ls st μ g := (hW n 386 ls st μ g).trans rfl
theorem wLw1_387 {l : Launch} {L : Nat} {xs : Nat → Int32} {J : aK} {W : Nat → aK} (hW : isW (tbLw1 l L xs) cuLw1 J W) (n : Nat) (ls st : List aV) (μ : aM) (g : Nat) : W (n + 1) 387 ls st μ g = (sLret) (W n) ls st μ g := (hW n 387 ls st μ g).trans rfl
theorem wLw1_388 {l : Launch} {L : Nat} {xs : Nat → Int32} {J : aK} {W : Nat → aK} (hW : isW (tbLw1 l L xs) cuLw1 J W) (n : Nat) (ls st : List aV) (μ : aM) (g : Nat) : W (n + 1) 388 ls st μ g = (sLd 6 390 isI) (W n) ls st μ g := (hW n 388 ls st μ g).trans rfl
theorem wLw1_390 {l : Launch} {L : Nat} {xs : Nat → Int32} {J : aK} {W : Nat → aK} (hW : isW (tbLw1 l L xs) cuLw1 J W) (n : Nat) (ls st : List aV) (μ : aM) (g : Nat) : W (n + 1) 390 ls st μ g = (sIf pNe 405 393) (W n) ls st μ g := (hW n 390 ls st μ g).trans rfl
theorem wLw1_393 {l : Launch} {L : Nat} {xs : Nat → Int32} {J : aK} {W : Nat → aK} (hW : isW (tbLw1 l L xs) cuLw1 J W) (n : Nat) (ls st : List aV) (μ : aM) (g : Nat) : W (n + 1) 393 ls st μ g = (sLd 3 394 isR) (W n) ls st μ g := (hW n 393 ls st μ g).trans rfl
theorem wLw1_394 {l : Launch} {L : Nat} {xs : Nat → Int32} {J : aK} {W : Nat → aK} (hW : isW (tbLw1 l L xs) cuLw1 J W) (n : Nat) (ls st : List aV) (μ : aM) (g : Nat) : W (n + 1) 394 ls st μ g = (sPush (aI 0) 395) (W n) ls st μ g := (hW n 394 ls st μ g).trans rfl
theorem wLw1_395 {l : Launch} {L : Nat} {xs : Nat → Int32} {J : aK} {W : Nat → aK} (hW : isW (tbLw1 l L xs) cuLw1 J W) (n : Nat) (ls st : List aV) (μ : aM) (g : Nat) : W (n + 1) 395 ls st μ g = (sAldL 396) (W n) ls st μ g := (hW n 395 ls st μ g).trans rfl
theorem wLw1_396 {l : Launch} {L : Nat} {xs : Nat → Int32} {J : aK} {W : Nat → aK} (hW : isW (tbLw1 l L xs) cuLw1 J W) (n : Nat) (ls st : List aV) (μ : aM) (g : Nat) : W (n + 1) 396 ls st μ g = (sLd 7 398 isI) (W n) ls st μ g := (hW n 396 ls st μ g).trans rfl
theorem wLw1_398 {l : Launch} {L : Nat} {xs : Nat → Int32} {J : aK} {W : Nat → aK} (hW : isW (tbLw1 l L xs) cuLw1 J W) (n : Nat) (ls st : List aV) (μ : aM) (g : Nat) : W (n + 1) 398 ls st μ g = (sI2l 399) (W n) ls st μ g := (hW n 398 ls st μ g).trans rfl
theorem wLw1_399 {l : Launch} {L : Nat} {xs : Nat → Int32} {J : aK} {W : Nat → aK} (hW : isW (tbLw1 l L xs) cuLw1 J W) (n : Nat) (ls st : List aV) (μ : aM) (g : Nat) : W (n + 1) 399 ls st μ g = (sLcmp 400) (W n) ls st μ g := (hW n 399 ls st μ g).trans rfl
theorem wLw1_400 {l : Launch} {L : Nat} {xs : Nat → Int32} {J : aK} {W : Nat → aK} (hW : isW (tbLw1 l L xs) cuLw1 J W) (n : Nat) (ls st : List aV) (μ : aM) (g : Nat) : W (n + 1) 400 ls st μ g = (sIf pEq 405 403) (W n) ls st μ g := (hW n 400 ls st μ g).trans rfl
theorem wLw1_403 {l : Launch} {L : Nat} {xs : Nat → Int32} {J : aK} {W : Nat → aK} (hW : isW (tbLw1 l L xs) cuLw1 J W) (n : Nat) (ls st : List aV) (μ : aM) (g : Nat) : W (n + 1) 403 ls st μ g = (sPush (aI 0) 404) (W n) ls st μ g := (hW n 403 ls st μ g).trans rfl
theorem wLw1_404 {l : Launch} {L : Nat} {xs : Nat → Int32} {J : aK} {W : Nat → aK} (hW : isW (tbLw1 l L xs) cuLw1 J W) (n : Nat) (ls st : List aV) (μ : aM) (g : Nat) : W (n + 1) 404 ls st μ g = (sLret) (W n) ls st μ g := (hW n 404 ls st μ g).trans rfl
theorem wLw1_405 {l : Launch} {L : Nat} {xs : Nat → Int32} {J : aK} {W : Nat → aK} (hW : isW (tbLw1 l L xs) cuLw1 J W) (n : Nat) (ls st : List aV) (μ : aM) (g : Nat) : W (n + 1) 405 ls st μ g = (sGoto 1969) (W n) ls st μ g := (hW n 405 ls st μ g).trans rfl
theorem dLw2_408 : decode code 408 = .ok (.aload_n 1, 1) := by decide +kernel
theorem dLw2_409 : decode code 409 = .ok (.aload_n 0, 1) := by decide +kernel
theorem dLw2_410 : decode code 410 = .ok (.iload 5, 2) := by decide +kernel
theorem dLw2_412 : decode code 412 = .ok (.iconst 1, 1) := by decide +kernel
theorem dLw2_413 : decode code 413 = .ok (.iadd, 1) := by decide +kernel
theorem dLw2_414 : decode code 414 = .ok (.iaload, 1) := by decide +kernel
theorem dLw2_415 : decode code 415 = .ok (.aload_n 3, 1) := by decide +kernel
theorem dLw2_416 : decode code 416 = .ok (.invokestatic 127, 3) := by decide +kernel
theorem dLw2_419 : decode code 419 = .ok (.istore 6, 2) := by decide +kernel
theorem dLw2_421 : decode code 421 = .ok (.aload_n 2, 1) := by decide +kernel
theorem dLw2_422 : decode code 422 = .ok (.aload_n 0, 1) := by decide +kernel
theorem dLw2_423 : decode code 423 = .ok (.iload 5, 2) := by decide +kernel
theorem dLw2_425 : decode code 425 = .ok (.iconst 1, 1) := by decide +kernel
theorem dLw2_426 : decode code 426 = .ok (.iadd, 1) := by decide +kernel
theorem dLw2_427 : decode code 427 = .ok (.iaload, 1) := by decide +kernel
theorem dLw2_428 : decode code 428 = .ok (.invokevirtual 130, 3) := by decide +kernel
theorem dLw2_431 : decode code 431 = .ok (.istore 7, 2) := by decide +kernel
theorem dLw2_433 : decode code 433 = .ok (.aload_n 2, 1) := by decide +kernel
theorem dLw2_434 : decode code 434 = .ok (.invokevirtual 121, 3) := by decide +kernel
theorem dLw2_437 : decode code 437 = .ok (.iload 6, 2) := by decide +kernel
theorem dLw2_439 : decode code 439 = .ok (.if_icmp .eq 5, 3) := by decide +kernel
theorem dLw2_442 : decode code 442 = .ok (.iconst 0, 1) := by decide +kernel
theorem dLw2_443 : decode code 443 = .ok (.ireturn, 1) := by decide +kernel
theorem dLw2_444 : decode code 444 = .ok (.iload 6, 2) := by decide +kernel
theorem dLw2_446 : decode code 446 = .ok (.ifCond .ne 15, 3) := by decide +kernel
theorem dLw2_449 : decode code 449 = .ok (.aload_n 3, 1) := by decide +kernel
theorem dLw2_450 : decode code 450 = .ok (.iconst 0, 1) := by decide +kernel
theorem dLw2_451 : decode code 451 = .ok (.laload, 1) := by decide +kernel
theorem dLw2_452 : decode code 452 = .ok (.iload 7, 2) := by decide +kernel
theorem dLw2_454 : decode code 454 = .ok (.i2l, 1) := by decide +kernel
theorem dLw2_455 : decode code 455 = .ok (.lcmp, 1) := by decide +kernel
theorem dLw2_456 : decode code 456 = .ok (.ifCond .eq 5, 3) := by decide +kernel
theorem dLw2_459 : decode code 459 = .ok (.iconst 0, 1) := by decide +kernel
theorem dLw2_460 : decode code 460 = .ok (.ireturn, 1) := by decide +kernel
theorem dLw2_461 : decode code 461 = .ok (.goto 1508, 3) := by decide +kernel
def tbLw2 (l : Launch) (L : Nat) (xs : Nat → Int32) : aTb := [
  (408, sLd 1 409 isR),
  (409, sLd 0 410 isR),
  (410, sLd 5 412 isI),
  (412, sPush (aI 1) 413),
  (413, sBin fAdd 414),
  (414, sSld L xs 415),
  (415, sLd 3 416 isR),
  (416, sCallS 3 (fun as μ K => CtH l mdL_cancel hhL_cancel as μ K) 419 2 3600),
  (419, sSt 6 421 isI),
  (421, sLd 2 422 isR),
  (422, sLd 0 423 isR),
  (423, sLd 5 425 isI),
  (425, sPush (aI 1) 426),
  (426, sBin fAdd 427),
  (427, sSld L xs 428),
  (428, sCallV 1 5 (fun as μ K => Ct l mdX5_cancel as μ K nX) 431 0 3600),
  (431, sSt 7 433 isI),
  (433, sLd 2 434 isR),
  (434, sCallV 0 5 (fun as μ K => Ct l mdX5_thrown as μ K nX) 437 0 3600),
  (437, sLd 6 439 isI),
  (439, sIc qEq 444 442),
  (442, sPush (aI 0) 443),
  (443, sLret),
  (444, sLd 6 446 isI),
  (446, sIf pNe 461 449),
  (449, sLd 3 450 isR),
  (450, sPush (aI 0) 451),
  (451, sAldL 452),
  (452, sLd 7 454 isI),
  (454, sI2l 455),
  (455, sLcmp 456),
  (456, sIf pEq 461 459),
  (459, sPush (aI 0) 460),
  (460, sLret),
  (461, sGoto 1969)]
theorem snLw2 (l : Launch) (L : Nat) (xs : Nat → Int32) (hL3 : L ≤ 3072) : ∀ q ∈ tbLw2 l L xs, Snd (BL l L xs) q.1 q.2 :=
  tcG (sLw (fun p e s m below meth c b cA D A ad0 h hb => ok_aload_n h.1 1 rfl dLw2_408)) <|
  tcG (sLw (fun p e s m below meth c b cA D A ad0 h hb => ok_aload_n h.1 0 rfl dLw2_409)) <|
  tcG (sLw (fun p e s m below meth c b cA D A ad0 h hb => ok_iload h.1 dLw2_410)) <|
  tcG (sLw (fun p e s m below meth c b cA D A ad0 h hb => ok_iconst h.1 ⟨by decide, by decide⟩ dLw2_412)) <|
  tcG (sLw (fun p e s m below meth c b cA D A ad0 h hb => ok_iadd h.1 dLw2_413)) <|
  tcG (sLw (fun p e s m below meth c b cA D A ad0 h hb => ok_sld h hb dLw2_414)) <|
  tcG (sLw (fun p e s m below meth c b cA D A ad0 h hb => ok_aload_n h.1 3 rfl dLw2_415)) <|
  tcG (sLw (fun p e s m below meth c b cA D A ad0 h hb => ok_callSH h.1 h.2.1 (show 3600 ≤ room_1.cells ∧ 2000 * 3600 ≤ room_1.slots from ⟨Nat.le_of_ble_eq_true rfl, Nat.le_of_ble_eq_true rfl⟩) mdL_cancel hhL_cancel siL_cancel mkRL_127 stL_cancel ⟨by decide, by decide⟩ dLw2_416)) <|
  tcG (sLw (fun p e s m below meth c b cA D A ad0 h hb => ok_istore h.1 (by decide) dLw2_419)) <|
  tcG (sLw (fun p e s m below meth c b cA D A ad0 h hb => ok_aload_n h.1 2 rfl dLw2_421)) <|
  tcG (sLw (fun p e s m below meth c b cA D A ad0 h hb => ok_aload_n h.1 0 rfl dLw2_422)) <|
  tcG (sLw (fun p e s m below meth c b cA D A ad0 h hb => ok_iload h.1 dLw2_423)) <|
  tcG (sLw (fun p e s m below meth c b cA D A ad0 h hb => ok_iconst h.1 ⟨by decide, by decide⟩ dLw2_425)) <|
  tcG (sLw (fun p e s m below meth c b cA D A ad0 h hb => ok_iadd h.1 dLw2_426)) <|
  tcG (sLw (fun p e s m below meth c b cA D A ad0 h hb => ok_sld h hb dLw2_427)) <|
  tcG (sLw (fun p e s m below meth c b cA D A ad0 h hb => ok_callV h.1 h.2.1 (show 3600 ≤ room_1.cells ∧ 2000 * 3600 ≤ room_1.slots from ⟨Nat.le_of_ble_eq_true rfl, Nat.le_of_ble_eq_true rfl⟩) mdX5_cancel siX5_cancel cxX5 mkRL_130 imX5_cancel seX5_cancel ⟨by decide, by decide⟩ aAx_no dLw2_428)) <|
  tcG (sLw (fun p e s m below meth c b cA D A ad0 h hb => ok_istore h.1 (by decide) dLw2_431)) <|
  tcG (sLw (fun p e s m below meth c b cA D A ad0 h hb => ok_aload_n h.1 2 rfl dLw2_433)) <|
  tcG (sLw (fun p e s m below meth c b cA D A ad0 h hb => ok_callV h.1 h.2.1 (show 3600 ≤ room_1.cells ∧ 2000 * 3600 ≤ room_1.slots from ⟨Nat.le_of_ble_eq_true rfl, Nat.le_of_ble_eq_true rfl⟩) mdX5_thrown siX5_thrown cxX5 mkRL_121 imX5_thrown seX5_thrown ⟨by decide, by decide⟩ aAx_no dLw2_434)) <|
  tcG (sLw (fun p e s m below meth c b cA D A ad0 h hb => ok_iload h.1 dLw2_437)) <|
  tcG (sLw (fun p e s m below meth c b cA D A ad0 h hb => ok_icmp_eq h.1 444 (by decide) dLw2_439)) <|
  tcG (sLw (fun p e s m below meth c b cA D A ad0 h hb => ok_iconst h.1 ⟨by decide, by decide⟩ dLw2_442)) <|
  tcG (sLw (fun p e s m below meth c b cA D A ad0 h hb => ok_lret h dLw2_443)) <|
  tcG (sLw (fun p e s m below meth c b cA D A ad0 h hb => ok_iload h.1 dLw2_444)) <|
  tcG (sLw (fun p e s m below meth c b cA D A ad0 h hb => ok_if_ne h.1 461 (by decide) dLw2_446)) <|
  tcG (sLw (fun p e s m below meth c b cA D A ad0 h hb => ok_aload_n h.1 3 rfl dLw2_449)) <|
  tcG (sLw (fun p e s m below meth c b cA D A ad0 h hb => ok_iconst h.1 ⟨by decide, by decide⟩ dLw2_450)) <|
  tcG (sLw (fun p e s m below meth c b cA D A ad0 h hb => ok_lald h.1 dLw2_451)) <|
  tcG (sLw (fun p e s m below meth c b cA D A ad0 h hb => ok_iload h.1 dLw2_452)) <|
  tcG (sLw (fun p e s m below meth c b cA D A ad0 h hb => ok_i2l h.1 dLw2_454)) <|
  tcG (sLw (fun p e s m below meth c b cA D A ad0 h hb => ok_lcmp h.1 dLw2_455)) <|
  tcG (sLw (fun p e s m below meth c b cA D A ad0 h hb => ok_if_eq h.1 461 (by decide) dLw2_456)) <|
  tcG (sLw (fun p e s m below meth c b cA D A ad0 h hb => ok_iconst h.1 ⟨by decide, by decide⟩ dLw2_459)) <|
  tcG (sLw (fun p e s m below meth c b cA D A ad0 h hb => ok_lret h dLw2_460)) <|
  tcG (sLw (fun p e s m below meth c b cA D A ad0 h hb => ok_goto h.1 1969 (by decide) dLw2_461)) <|
  tnG
abbrev cuLw2 : List Nat := [419, 431, 437, 1969]
theorem wLw2_1969 {l : Launch} {L : Nat} {xs : Nat → Int32} {J : aK} {W : Nat → aK} (hW : isW (tbLw2 l L xs) cuLw2 J W) (n : Nat) (ls st : List aV) (μ : aM) (g : Nat) : W (n + 1) 1969 ls st μ g = J 1969 ls st μ g := (hW n 1969 ls st μ g).trans rfl
theorem tLw2_408 (l : Launch) (L : Nat) (xs : Nat → Int32) : tb (tbLw2 l L xs) 408 = sLd 1 409 isR := (rfl)
theorem wLw2_408 {l : Launch} {L : Nat} {xs : Nat → Int32} {J : aK} {W : Nat → aK} (hW : isW (tbLw2 l L xs) cuLw2 J W) (n : Nat) (ls st : List aV) (μ : aM) (g : Nat) : W (n + 1) 408 ls st μ g = (sLd 1 409 isR) (W n) ls st μ g := (hW n 408 ls st μ g).trans rfl
theorem wLw2_409 {l : Launch} {L : Nat} {xs : Nat → Int32} {J : aK} {W : Nat → aK} (hW : isW (tbLw2 l L xs) cuLw2 J W) (n : Nat) (ls st : List aV) (μ : aM) (g : Nat) : W (n + 1) 409 ls st μ g = (sLd 0 410 isR) (W n) ls st μ g := (hW n 409 ls st μ g).trans rfl
theorem wLw2_410 {l : Launch} {L : Nat} {xs : Nat → Int32} {J : aK} {W : Nat → aK} (hW : isW (tbLw2 l L xs) cuLw2 J W) (n : Nat) (ls st : List aV) (μ : aM) (g : Nat) : W (n + 1) 410 ls st μ g = (sLd 5 412 isI) (W n) ls st μ g := (hW n 410 ls st μ g).trans rfl
theorem wLw2_412 {l : Launch} {L : Nat} {xs : Nat → Int32} {J : aK} {W : Nat → aK} (hW : isW (tbLw2 l L xs) cuLw2 J W) (n : Nat) (ls st : List aV) (μ : aM) (g : Nat) : W (n + 1) 412 ls st μ g = (sPush (aI 1) 413) (W n) ls st μ g := (hW n 412 ls st μ g).trans rfl
theorem wLw2_413 {l : Launch} {L : Nat} {xs : Nat → Int32} {J : aK} {W : Nat → aK} (hW : isW (tbLw2 l L xs) cuLw2 J W) (n : Nat) (ls st : List aV) (μ : aM) (g : Nat) : W (n + 1) 413 ls st μ g = (sBin fAdd 414) (W n) ls st μ g := (hW n 413 ls st μ g).trans rfl
theorem wLw2_414 {l : Launch} {L : Nat} {xs : Nat → Int32} {J : aK} {W : Nat → aK} (hW : isW (tbLw2 l L xs) cuLw2 J W) (n : Nat) (ls st : List aV) (μ : aM) (g : Nat) : W (n + 1) 414 ls st μ g = (sSld L xs 415) (W n) ls st μ g := (hW n 414 ls st μ g).trans rfl
theorem wLw2_415 {l : Launch} {L : Nat} {xs : Nat → Int32} {J : aK} {W : Nat → aK} (hW : isW (tbLw2 l L xs) cuLw2 J W) (n : Nat) (ls st : List aV) (μ : aM) (g : Nat) : W (n + 1) 415 ls st μ g = (sLd 3 416 isR) (W n) ls st μ g := (hW n 415 ls st μ g).trans rfl
theorem wLw2_416 {l : Launch} {L : Nat} {xs : Nat → Int32} {J : aK} {W : Nat → aK} (hW : isW (tbLw2 l L xs) cuLw2 J W) (n : Nat) (ls st : List aV) (μ : aM) (g : Nat) : W (n + 1) 416 ls st μ g = (sCallS 3 (fun as μ K => CtH l mdL_cancel hhL_cancel as μ K) 419 2 3600) (W n) ls st μ g := (hW n 416 ls st μ g).trans rfl
theorem tLw2_419 (l : Launch) (L : Nat) (xs : Nat → Int32) : tb (tbLw2 l L xs) 419 = sSt 6 421 isI := (rfl)
theorem wLw2_419 {l : Launch} {L : Nat} {xs : Nat → Int32} {J : aK} {W : Nat → aK} (hW : isW (tbLw2 l L xs) cuLw2 J W) (n : Nat) (ls st : List aV) (μ : aM) (g : Nat) : W (n + 1) 419 ls st μ g = J 419 ls st μ g := (hW n 419 ls st μ g).trans rfl
theorem wLw2_421 {l : Launch} {L : Nat} {xs : Nat → Int32} {J : aK} {W : Nat → aK} (hW : isW (tbLw2 l L xs) cuLw2 J W) (n : Nat) (ls st : List aV) (μ : aM) (g : Nat) : W (n + 1) 421 ls st μ g = (sLd 2 422 isR) (W n) ls st μ g := (hW n 421 ls st μ g).trans rfl
theorem wLw2_422 {l : Launch} {L : Nat} {xs : Nat → Int32} {J : aK} {W : Nat → aK} (hW : isW (tbLw2 l L xs) cuLw2 J W) (n : Nat) (ls st : List aV) (μ : aM) (g : Nat) : W (n + 1) 422 ls st μ g = (sLd 0 423 isR) (W n) ls st μ g := (hW n 422 ls st μ g).trans rfl
theorem wLw2_423 {l : Launch} {L : Nat} {xs : Nat → Int32} {J : aK} {W : Nat → aK} (hW : isW (tbLw2 l L xs) cuLw2 J W) (n : Nat) (ls st : List aV) (μ : aM) (g : Nat) : W (n + 1) 423 ls st μ g = (sLd 5 425 isI) (W n) ls st μ g := (hW n 423 ls st μ g).trans rfl
theorem wLw2_425 {l : Launch} {L : Nat} {xs : Nat → Int32} {J : aK} {W : Nat → aK} (hW : isW (tbLw2 l L xs) cuLw2 J W) (n : Nat) (ls st : List aV) (μ : aM) (g : Nat) : W (n + 1) 425 ls st μ g = (sPush (aI 1) 426) (W n) ls st μ g := (hW n 425 ls st μ g).trans rfl
theorem wLw2_426 {l : Launch} {L : Nat} {xs : Nat → Int32} {J : aK} {W : Nat → aK} (hW : isW (tbLw2 l L xs) cuLw2 J W) (n : Nat) (ls st : List aV) (μ : aM) (g : Nat) : W (n + 1) 426 ls st μ g = (sBin fAdd 427) (W n) ls st μ g := (hW n 426 ls st μ g).trans rfl
theorem wLw2_427 {l : Launch} {L : Nat} {xs : Nat → Int32} {J : aK} {W : Nat → aK} (hW : isW (tbLw2 l L xs) cuLw2 J W) (n : Nat) (ls st : List aV) (μ : aM) (g : Nat) : W (n + 1) 427 ls st μ g = (sSld L xs 428) (W n) ls st μ g := (hW n 427 ls st μ g).trans rfl
theorem wLw2_428 {l : Launch} {L : Nat} {xs : Nat → Int32} {J : aK} {W : Nat → aK} (hW : isW (tbLw2 l L xs) cuLw2 J W) (n : Nat) (ls st : List aV) (μ : aM) (g : Nat) : W (n + 1) 428 ls st μ g = (sCallV 1 5 (fun as μ K => Ct l mdX5_cancel as μ K nX) 431 0 3600) (W n) ls st μ g := (hW n 428 ls st μ g).trans rfl
theorem tLw2_431 (l : Launch) (L : Nat) (xs : Nat → Int32) : tb (tbLw2 l L xs) 431 = sSt 7 433 isI := (rfl)
theorem wLw2_431 {l : Launch} {L : Nat} {xs : Nat → Int32} {J : aK} {W : Nat → aK} (hW : isW (tbLw2 l L xs) cuLw2 J W) (n : Nat) (ls st : List aV) (μ : aM) (g : Nat) : W (n + 1) 431 ls st μ g = J 431 ls st μ g := (hW n 431 ls st μ g).trans rfl
theorem wLw2_433 {l : Launch} {L : Nat} {xs : Nat → Int32} {J : aK} {W : Nat → aK} (hW : isW (tbLw2 l L xs) cuLw2 J W) (n : Nat) (ls st : List aV) (μ : aM) (g : Nat) : W (n + 1) 433 ls st μ g = (sLd 2 434 isR) (W n) ls st μ g := (hW n 433 ls st μ g).trans rfl
theorem wLw2_434 {l : Launch} {L : Nat} {xs : Nat → Int32} {J : aK} {W : Nat → aK} (hW : isW (tbLw2 l L xs) cuLw2 J W) (n : Nat) (ls st : List aV) (μ : aM) (g : Nat) : W (n + 1) 434 ls st μ g = (sCallV 0 5 (fun as μ K => Ct l mdX5_thrown as μ K nX) 437 0 3600) (W n) ls st μ g := (hW n 434 ls st μ g).trans rfl
theorem tLw2_437 (l : Launch) (L : Nat) (xs : Nat → Int32) : tb (tbLw2 l L xs) 437 = sLd 6 439 isI := (rfl)
theorem wLw2_437 {l : Launch} {L : Nat} {xs : Nat → Int32} {J : aK} {W : Nat → aK} (hW : isW (tbLw2 l L xs) cuLw2 J W) (n : Nat) (ls st : List aV) (μ : aM) (g : Nat) : W (n + 1) 437 ls st μ g = J 437 ls st μ g := (hW n 437 ls st μ g).trans rfl
theorem wLw2_439 {l : Launch} {L : Nat} {xs : Nat → Int32} {J : aK} {W : Nat → aK} (hW : isW (tbLw2 l L xs) cuLw2 J W) (n : Nat) (ls st : List aV) (μ : aM) (g : Nat) : W (n + 1) 439 ls st μ g = (sIc qEq 444 442) (W n) ls st μ g := (hW n 439 ls st μ g).trans rfl
theorem wLw2_442 {l : Launch} {L : Nat} {xs : Nat → Int32} {J : aK} {W : Nat → aK} (hW : isW (tbLw2 l L xs) cuLw2 J W) (n : Nat) (ls st : List aV) (μ : aM) (g : Nat) : W (n + 1) 442 ls st μ g = (sPush (aI 0) 443) (W n) ls st μ g := (hW n 442 ls st μ g).trans rfl
theorem wLw2_443 {l : Launch} {L : Nat} {xs : Nat → Int32} {J : aK} {W : Nat → aK} (hW : isW (tbLw2 l L xs) cuLw2 J W) (n : Nat) (ls st : List aV) (μ : aM) (g : Nat) : W (n + 1) 443 ls st μ g = (sLret) (W n) ls st μ g := (hW n 443 ls st μ g).trans rfl
theorem wLw2_444 {l : Launch} {L : Nat} {xs : Nat → Int32} {J : aK} {W : Nat → aK} (hW : isW (tbLw2 l L xs) cuLw2 J W) (n : Nat) (ls st : List aV) (μ : aM) (g : Nat) : W (n + 1) 444 ls st μ g = (sLd 6 446 isI) (W n) ls st μ g := (hW n 444 ls st μ g).trans rfl
theorem wLw2_446 {l : Launch} {L : Nat} {xs : Nat → Int32} {J : aK} {W : Nat → aK} (hW : isW (tbLw2 l L xs) cuLw2 J W) (n : Nat) (ls st : List aV) (μ : aM) (g : Nat) : W (n + 1) 446 ls st μ g = (sIf pNe 461 449) (W n) ls st μ g := (hW n 446 ls st μ g).trans rfl
theorem wLw2_449 {l : Launch} {L : Nat} {xs : Nat → Int32} {J : aK} {W : Nat → aK} (hW : isW (tbLw2 l L xs) cuLw2 J W) (n : Nat) (ls st : List aV) (μ : aM) (g : Nat) : W (n + 1) 449 ls st μ g = (sLd 3 450 isR) (W n) ls st μ g := (hW n 449 ls st μ g).trans rfl
theorem wLw2_450 {l : Launch} {L : Nat} {xs : Nat → Int32} {J : aK} {W : Nat → aK} (hW : isW (tbLw2 l L xs) cuLw2 J W) (n : Nat) (ls st : List aV) (μ : aM) (g : Nat) : W (n + 1) 450 ls st μ g = (sPush (aI 0) 451) (W n) ls st μ g := (hW n 450 ls st μ g).trans rfl
theorem wLw2_451 {l : Launch} {L : Nat} {xs : Nat → Int32} {J : aK} {W : Nat → aK} (hW : isW (tbLw2 l L xs) cuLw2 J W) (n : Nat) (ls st : List aV) (μ : aM) (g : Nat) : W (n + 1) 451 ls st μ g = (sAldL 452) (W n) ls st μ g := (hW n 451 ls st μ g).trans rfl
theorem wLw2_452 {l : Launch} {L : Nat} {xs : Nat → Int32} {J : aK} {W : Nat → aK} (hW : isW (tbLw2 l L xs) cuLw2 J W) (n : Nat) (ls st : List aV) (μ : aM) (g : Nat) : W (n + 1) 452 ls st μ g = (sLd 7 454 isI) (W n) ls st μ g := (hW n 452 ls st μ g).trans rfl
theorem wLw2_454 {l : Launch} {L : Nat} {xs : Nat → Int32} {J : aK} {W : Nat → aK} (hW : isW (tbLw2 l L xs) cuLw2 J W) (n : Nat) (ls st : List aV) (μ : aM) (g : Nat) : W (n + 1) 454 ls st μ g = (sI2l 455) (W n) ls st μ g := (hW n 454 ls st μ g).trans rfl
theorem wLw2_455 {l : Launch} {L : Nat} {xs : Nat → Int32} {J : aK} {W : Nat → aK} (hW : isW (tbLw2 l L xs) cuLw2 J W) (n : Nat) (ls st : List aV) (μ : aM) (g : Nat) : W (n + 1) 455 ls st μ g = (sLcmp 456) (W n) ls st μ g := (hW n 455 ls st μ g).trans rfl
theorem wLw2_456 {l : Launch} {L : Nat} {xs : Nat → Int32} {J : aK} {W : Nat → aK} (hW : isW (tbLw2 l L xs) cuLw2 J W) (n : Nat) (ls st : List aV) (μ : aM) (g : Nat) : W (n + 1) 456 ls st μ g = (sIf pEq 461 459) (W n) ls st μ g := (hW n 456 ls st μ g).trans rfl
theorem wLw2_459 {l : Launch} {L : Nat} {xs : Nat → Int32} {J : aK} {W : Nat → aK} (hW : isW (tbLw2 l L xs) cuLw2 J W) (n : Nat) (ls st : List aV) (μ : aM) (g : Nat) : W (n + 1) 459 ls st μ g = (sPush (aI 0) 460) (W n) ls st μ g := (hW n 459 ls st μ g).trans rfl
theorem wLw2_460 {l : Launch} {L : Nat} {xs : Nat → Int32} {J : aK} {W : Nat → aK} (hW : isW (tbLw2 l L xs) cuLw2 J W) (n : Nat) (ls st : List aV) (μ : aM) (g : Nat) : W (n + 1) 460 ls st μ g = (sLret) (W n) ls st μ g := (hW n 460 ls st μ g).trans rfl
theorem wLw2_461 {l : Launch} {L : Nat} {xs : Nat → Int32} {J : aK} {W : Nat → aK} (hW : isW (tbLw2 l L xs) cuLw2 J W) (n : Nat) (ls st : List aV) (μ : aM) (g : Nat) : W (n + 1) 461 ls st μ g = (sGoto 1969) (W n) ls st μ g := (hW n 461 ls st μ g).trans rfl
theorem dLw3_464 : decode code 464 = .ok (.aload_n 1, 1) := by decide +kernel
theorem dLw3_465 : decode code 465 = .ok (.aload_n 0, 1) := by decide +kernel
theorem dLw3_466 : decode code 466 = .ok (.iload 5, 2) := by decide +kernel
theorem dLw3_468 : decode code 468 = .ok (.iconst 1, 1) := by decide +kernel
theorem dLw3_469 : decode code 469 = .ok (.iadd, 1) := by decide +kernel
theorem dLw3_470 : decode code 470 = .ok (.iaload, 1) := by decide +kernel
theorem dLw3_471 : decode code 471 = .ok (.aload_n 0, 1) := by decide +kernel
theorem dLw3_472 : decode code 472 = .ok (.iload 5, 2) := by decide +kernel
theorem dLw3_474 : decode code 474 = .ok (.iconst 2, 1) := by decide +kernel
theorem dLw3_475 : decode code 475 = .ok (.iadd, 1) := by decide +kernel
theorem dLw3_476 : decode code 476 = .ok (.iaload, 1) := by decide +kernel
theorem dLw3_477 : decode code 477 = .ok (.aload_n 3, 1) := by decide +kernel
theorem dLw3_478 : decode code 478 = .ok (.invokestatic 131, 3) := by decide +kernel
theorem dLw3_481 : decode code 481 = .ok (.istore 6, 2) := by decide +kernel
theorem dLw3_483 : decode code 483 = .ok (.aload_n 2, 1) := by decide +kernel
theorem dLw3_484 : decode code 484 = .ok (.aload_n 0, 1) := by decide +kernel
theorem dLw3_485 : decode code 485 = .ok (.iload 5, 2) := by decide +kernel
theorem dLw3_487 : decode code 487 = .ok (.iconst 1, 1) := by decide +kernel
theorem dLw3_488 : decode code 488 = .ok (.iadd, 1) := by decide +kernel
theorem dLw3_489 : decode code 489 = .ok (.iaload, 1) := by decide +kernel
theorem dLw3_490 : decode code 490 = .ok (.aload_n 0, 1) := by decide +kernel
theorem dLw3_491 : decode code 491 = .ok (.iload 5, 2) := by decide +kernel
theorem dLw3_493 : decode code 493 = .ok (.iconst 2, 1) := by decide +kernel
theorem dLw3_494 : decode code 494 = .ok (.iadd, 1) := by decide +kernel
theorem dLw3_495 : decode code 495 = .ok (.iaload, 1) := by decide +kernel
theorem dLw3_496 : decode code 496 = .ok (.invokevirtual 134, 3) := by decide +kernel
theorem dLw3_499 : decode code 499 = .ok (.istore 7, 2) := by decide +kernel
theorem dLw3_501 : decode code 501 = .ok (.aload_n 2, 1) := by decide +kernel
theorem dLw3_502 : decode code 502 = .ok (.invokevirtual 121, 3) := by decide +kernel
theorem dLw3_505 : decode code 505 = .ok (.iload 6, 2) := by decide +kernel
theorem dLw3_507 : decode code 507 = .ok (.if_icmp .eq 5, 3) := by decide +kernel
theorem dLw3_510 : decode code 510 = .ok (.iconst 0, 1) := by decide +kernel
theorem dLw3_511 : decode code 511 = .ok (.ireturn, 1) := by decide +kernel
theorem dLw3_512 : decode code 512 = .ok (.iload 6, 2) := by decide +kernel
theorem dLw3_514 : decode code 514 = .ok (.ifCond .ne 15, 3) := by decide +kernel
theorem dLw3_517 : decode code 517 = .ok (.aload_n 3, 1) := by decide +kernel
theorem dLw3_518 : decode code 518 = .ok (.iconst 0, 1) := by decide +kernel
theorem dLw3_519 : decode code 519 = .ok (.laload, 1) := by decide +kernel
theorem dLw3_520 : decode code 520 = .ok (.iload 7, 2) := by decide +kernel
theorem dLw3_522 : decode code 522 = .ok (.i2l, 1) := by decide +kernel
theorem dLw3_523 : decode code 523 = .ok (.lcmp, 1) := by decide +kernel
theorem dLw3_524 : decode code 524 = .ok (.ifCond .eq 5, 3) := by decide +kernel
theorem dLw3_527 : decode code 527 = .ok (.iconst 0, 1) := by decide +kernel
theorem dLw3_528 : decode code 528 = .ok (.ireturn, 1) := by decide +kernel
theorem dLw3_529 : decode code 529 = .ok (.goto 1440, 3) := by decide +kernel
def tbLw3 (l : Launch) (L : Nat) (xs : Nat → Int32) : aTb := [
  (464, sLd 1 465 isR),
  (465, sLd 0 466 isR),
  (466, sLd 5 468 isI),
  (468, sPush (aI 1) 469),
  (469, sBin fAdd 470),
  (470, sSld L xs 471),
  (471, sLd 0 472 isR),
  (472, sLd 5 474 isI),
  (474, sPush (aI 2) 475),
  (475, sBin fAdd 476),
  (476, sSld L xs 477),
  (477, sLd 3 478 isR),
  (478, sCallS 4 (fun as μ K => CtH l mdL_reduce hhL_reduce as μ K) 481 3 3600),
  (481, sSt 6 483 isI),
  (483, sLd 2 484 isR),
  (484, sLd 0 485 isR),
  (485, sLd 5 487 isI),
  (487, sPush (aI 1) 488),
  (488, sBin fAdd 489),
  (489, sSld L xs 490),
  (490, sLd 0 491 isR),
  (491, sLd 5 493 isI),
  (493, sPush (aI 2) 494),
  (494, sBin fAdd 495),
  (495, sSld L xs 496),
  (496, sCallV 2 5 (fun as μ K => Ct l mdX5_reduce as μ K nX) 499 0 3600),
  (499, sSt 7 501 isI),
  (501, sLd 2 502 isR),
  (502, sCallV 0 5 (fun as μ K => Ct l mdX5_thrown as μ K nX) 505 0 3600),
  (505, sLd 6 507 isI),
  (507, sIc qEq 512 510),
  (510, sPush (aI 0) 511),
  (511, sLret),
  (512, sLd 6 514 isI),
  (514, sIf pNe 529 517),
  (517, sLd 3 518 isR),
  (518, sPush (aI 0) 519),
  (519, sAldL 520),
  (520, sLd 7 522 isI),
  (522, sI2l 523),
  (523, sLcmp 524),
  (524, sIf pEq 529 527),
  (527, sPush (aI 0) 528),
  (528, sLret),
  (529, sGoto 1969)]
theorem snLw3 (l : Launch) (L : Nat) (xs : Nat → Int32) (hL3 : L ≤ 3072) : ∀ q ∈ tbLw3 l L xs, Snd (BL l L xs) q.1 q.2 :=
  tcG (sLw (fun p e s m below meth c b cA D A ad0 h hb => ok_aload_n h.1 1 rfl dLw3_464)) <|
  tcG (sLw (fun p e s m below meth c b cA D A ad0 h hb => ok_aload_n h.1 0 rfl dLw3_465)) <|
  tcG (sLw (fun p e s m below meth c b cA D A ad0 h hb => ok_iload h.1 dLw3_466)) <|
  tcG (sLw (fun p e s m below meth c b cA D A ad0 h hb => ok_iconst h.1 ⟨by decide, by decide⟩ dLw3_468)) <|
  tcG (sLw (fun p e s m below meth c b cA D A ad0 h hb => ok_iadd h.1 dLw3_469)) <|
  tcG (sLw (fun p e s m below meth c b cA D A ad0 h hb => ok_sld h hb dLw3_470)) <|
  tcG (sLw (fun p e s m below meth c b cA D A ad0 h hb => ok_aload_n h.1 0 rfl dLw3_471)) <|
  tcG (sLw (fun p e s m below meth c b cA D A ad0 h hb => ok_iload h.1 dLw3_472)) <|
  tcG (sLw (fun p e s m below meth c b cA D A ad0 h hb => ok_iconst h.1 ⟨by decide, by decide⟩ dLw3_474)) <|
  tcG (sLw (fun p e s m below meth c b cA D A ad0 h hb => ok_iadd h.1 dLw3_475)) <|
  tcG (sLw (fun p e s m below meth c b cA D A ad0 h hb => ok_sld h hb dLw3_476)) <|
  tcG (sLw (fun p e s m below meth c b cA D A ad0 h hb => ok_aload_n h.1 3 rfl dLw3_477)) <|
  tcG (sLw (fun p e s m below meth c b cA D A ad0 h hb => ok_callSH h.1 h.2.1 (show 3600 ≤ room_1.cells ∧ 2000 * 3600 ≤ room_1.slots from ⟨Nat.le_of_ble_eq_true rfl, Nat.le_of_ble_eq_true rfl⟩) mdL_reduce hhL_reduce siL_reduce mkRL_131 stL_reduce ⟨by decide, by decide⟩ dLw3_478)) <|
  tcG (sLw (fun p e s m below meth c b cA D A ad0 h hb => ok_istore h.1 (by decide) dLw3_481)) <|
  tcG (sLw (fun p e s m below meth c b cA D A ad0 h hb => ok_aload_n h.1 2 rfl dLw3_483)) <|
  tcG (sLw (fun p e s m below meth c b cA D A ad0 h hb => ok_aload_n h.1 0 rfl dLw3_484)) <|
  tcG (sLw (fun p e s m below meth c b cA D A ad0 h hb => ok_iload h.1 dLw3_485)) <|
  tcG (sLw (fun p e s m below meth c b cA D A ad0 h hb => ok_iconst h.1 ⟨by decide, by decide⟩ dLw3_487)) <|
  tcG (sLw (fun p e s m below meth c b cA D A ad0 h hb => ok_iadd h.1 dLw3_488)) <|
  tcG (sLw (fun p e s m below meth c b cA D A ad0 h hb => ok_sld h hb dLw3_489)) <|
  tcG (sLw (fun p e s m below meth c b cA D A ad0 h hb => ok_aload_n h.1 0 rfl dLw3_490)) <|
  tcG (sLw (fun p e s m below meth c b cA D A ad0 h hb => ok_iload h.1 dLw3_491)) <|
  tcG (sLw (fun p e s m below meth c b cA D A ad0 h hb => ok_iconst h.1 ⟨by decide, by decide⟩ dLw3_493)) <|
  tcG (sLw (fun p e s m below meth c b cA D A ad0 h hb => ok_iadd h.1 dLw3_494)) <|
  tcG (sLw (fun p e s m below meth c b cA D A ad0 h hb => ok_sld h hb dLw3_495)) <|
  tcG (sLw (fun p e s m below meth c b cA D A ad0 h hb => ok_callV h.1 h.2.1 (show 3600 ≤ room_1.cells ∧ 2000 * 3600 ≤ room_1.slots from ⟨Nat.le_of_ble_eq_true rfl, Nat.le_of_ble_eq_true rfl⟩) mdX5_reduce siX5_reduce cxX5 mkRL_134 imX5_reduce seX5_reduce ⟨by decide, by decide⟩ aAx_no dLw3_496)) <|
  tcG (sLw (fun p e s m below meth c b cA D A ad0 h hb => ok_istore h.1 (by decide) dLw3_499)) <|
  tcG (sLw (fun p e s m below meth c b cA D A ad0 h hb => ok_aload_n h.1 2 rfl dLw3_501)) <|
  tcG (sLw (fun p e s m below meth c b cA D A ad0 h hb => ok_callV h.1 h.2.1 (show 3600 ≤ room_1.cells ∧ 2000 * 3600 ≤ room_1.slots from ⟨Nat.le_of_ble_eq_true rfl, Nat.le_of_ble_eq_true rfl⟩) mdX5_thrown siX5_thrown cxX5 mkRL_121 imX5_thrown seX5_thrown ⟨by decide, by decide⟩ aAx_no dLw3_502)) <|
  tcG (sLw (fun p e s m below meth c b cA D A ad0 h hb => ok_iload h.1 dLw3_505)) <|
  tcG (sLw (fun p e s m below meth c b cA D A ad0 h hb => ok_icmp_eq h.1 512 (by decide) dLw3_507)) <|
  tcG (sLw (fun p e s m below meth c b cA D A ad0 h hb => ok_iconst h.1 ⟨by decide, by decide⟩ dLw3_510)) <|
  tcG (sLw (fun p e s m below meth c b cA D A ad0 h hb => ok_lret h dLw3_511)) <|
  tcG (sLw (fun p e s m below meth c b cA D A ad0 h hb => ok_iload h.1 dLw3_512)) <|
  tcG (sLw (fun p e s m below meth c b cA D A ad0 h hb => ok_if_ne h.1 529 (by decide) dLw3_514)) <|
  tcG (sLw (fun p e s m below meth c b cA D A ad0 h hb => ok_aload_n h.1 3 rfl dLw3_517)) <|
  tcG (sLw (fun p e s m below meth c b cA D A ad0 h hb => ok_iconst h.1 ⟨by decide, by decide⟩ dLw3_518)) <|
  tcG (sLw (fun p e s m below meth c b cA D A ad0 h hb => ok_lald h.1 dLw3_519)) <|
  tcG (sLw (fun p e s m below meth c b cA D A ad0 h hb => ok_iload h.1 dLw3_520)) <|
  tcG (sLw (fun p e s m below meth c b cA D A ad0 h hb => ok_i2l h.1 dLw3_522)) <|
  tcG (sLw (fun p e s m below meth c b cA D A ad0 h hb => ok_lcmp h.1 dLw3_523)) <|
  tcG (sLw (fun p e s m below meth c b cA D A ad0 h hb => ok_if_eq h.1 529 (by decide) dLw3_524)) <|
  tcG (sLw (fun p e s m below meth c b cA D A ad0 h hb => ok_iconst h.1 ⟨by decide, by decide⟩ dLw3_527)) <|
  tcG (sLw (fun p e s m below meth c b cA D A ad0 h hb => ok_lret h dLw3_528)) <|
  tcG (sLw (fun p e s m below meth c b cA D A ad0 h hb => ok_goto h.1 1969 (by decide) dLw3_529)) <|
  tnG
abbrev cuLw3 : List Nat := [481, 499, 505, 1969]
theorem wLw3_1969 {l : Launch} {L : Nat} {xs : Nat → Int32} {J : aK} {W : Nat → aK} (hW : isW (tbLw3 l L xs) cuLw3 J W) (n : Nat) (ls st : List aV) (μ : aM) (g : Nat) : W (n + 1) 1969 ls st μ g = J 1969 ls st μ g := (hW n 1969 ls st μ g).trans rfl
theorem tLw3_464 (l : Launch) (L : Nat) (xs : Nat → Int32) : tb (tbLw3 l L xs) 464 = sLd 1 465 isR := (rfl)
theorem wLw3_464 {l : Launch} {L : Nat} {xs : Nat → Int32} {J : aK} {W : Nat → aK} (hW : isW (tbLw3 l L xs) cuLw3 J W) (n : Nat) (ls st : List aV) (μ : aM) (g : Nat) : W (n + 1) 464 ls st μ g = (sLd 1 465 isR) (W n) ls st μ g := (hW n 464 ls st μ g).trans rfl
theorem wLw3_465 {l : Launch} {L : Nat} {xs : Nat → Int32} {J : aK} {W : Nat → aK} (hW : isW (tbLw3 l L xs) cuLw3 J W) (n : Nat) (ls st : List aV) (μ : aM) (g : Nat) : W (n + 1) 465 ls st μ g = (sLd 0 466 isR) (W n) ls st μ g := (hW n 465 ls st μ g).trans rfl
theorem wLw3_466 {l : Launch} {L : Nat} {xs : Nat → Int32} {J : aK} {W : Nat → aK} (hW : isW (tbLw3 l L xs) cuLw3 J W) (n : Nat) (ls st : List aV) (μ : aM) (g : Nat) : W (n + 1) 466 ls st μ g = (sLd 5 468 isI) (W n) ls st μ g := (hW n 466 ls st μ g).trans rfl
theorem wLw3_468 {l : Launch} {L : Nat} {xs : Nat → Int32} {J : aK} {W : Nat → aK} (hW : isW (tbLw3 l L xs) cuLw3 J W) (n : Nat) (ls st : List aV) (μ : aM) (g : Nat) : W (n + 1) 468 ls st μ g = (sPush (aI 1) 469) (W n) ls st μ g := (hW n 468 ls st μ g).trans rfl
theorem wLw3_469 {l : Launch} {L : Nat} {xs : Nat → Int32} {J : aK} {W : Nat → aK} (hW : isW (tbLw3 l L xs) cuLw3 J W) (n : Nat) (ls st : List aV) (μ : aM) (g : Nat) : W (n + 1) 469 ls st μ g = (sBin fAdd 470) (W n) ls st μ g := (hW n 469 ls st μ g).trans rfl
theorem wLw3_470 {l : Launch} {L : Nat} {xs : Nat → Int32} {J : aK} {W : Nat → aK} (hW : isW (tbLw3 l L xs) cuLw3 J W) (n : Nat) (ls st : List aV) (μ : aM) (g : Nat) : W (n + 1) 470 ls st μ g = (sSld L xs 471) (W n) ls st μ g := (hW n 470 ls st μ g).trans rfl
theorem wLw3_471 {l : Launch} {L : Nat} {xs : Nat → Int32} {J : aK} {W : Nat → aK} (hW : isW (tbLw3 l L xs) cuLw3 J W) (n : Nat) (ls st : List aV) (μ : aM) (g : Nat) : W (n + 1) 471 ls st μ g = (sLd 0 472 isR) (W n) ls st μ g := (hW n 471 ls st μ g).trans rfl
theorem wLw3_472 {l : Launch} {L : Nat} {xs : Nat → Int32} {J : aK} {W : Nat → aK} (hW : isW (tbLw3 l L xs) cuLw3 J W) (n : Nat) (ls st : List aV) (μ : aM) (g : Nat) : W (n + 1) 472 ls st μ g = (sLd 5 474 isI) (W n) ls st μ g := (hW n 472 ls st μ g).trans rfl
theorem wLw3_474 {l : Launch} {L : Nat} {xs : Nat → Int32} {J : aK} {W : Nat → aK} (hW : isW (tbLw3 l L xs) cuLw3 J W) (n : Nat) (ls st : List aV) (μ : aM) (g : Nat) : W (n + 1) 474 ls st μ g = (sPush (aI 2) 475) (W n) ls st μ g := (hW n 474 ls st μ g).trans rfl
theorem wLw3_475 {l : Launch} {L : Nat} {xs : Nat → Int32} {J : aK} {W : Nat → aK} (hW : isW (tbLw3 l L xs) cuLw3 J W) (n : Nat) (ls st : List aV) (μ : aM) (g : Nat) : W (n + 1) 475 ls st μ g = (sBin fAdd 476) (W n) ls st μ g := (hW n 475 ls st μ g).trans rfl
theorem wLw3_476 {l : Launch} {L : Nat} {xs : Nat → Int32} {J : aK} {W : Nat → aK} (hW : isW (tbLw3 l L xs) cuLw3 J W) (n : Nat) (ls st : List aV) (μ : aM) (g : Nat) : W (n + 1) 476 ls st μ g = (sSld L xs 477) (W n) ls st μ g := (hW n 476 ls st μ g).trans rfl
theorem wLw3_477 {l : Launch} {L : Nat} {xs : Nat → Int32} {J : aK} {W : Nat → aK} (hW : isW (tbLw3 l L xs) cuLw3 J W) (n : Nat) (ls st : List aV) (μ : aM) (g : Nat) : W (n + 1) 477 ls st μ g = (sLd 3 478 isR) (W n) ls st μ g := (hW n 477 ls st μ g).trans rfl
theorem wLw3_478 {l : Launch} {L : Nat} {xs : Nat → Int32} {J : aK} {W : Nat → aK} (hW : isW (tbLw3 l L xs) cuLw3 J W) (n : Nat) (ls st : List aV) (μ : aM) (g : Nat) : W (n + 1) 478 ls st μ g = (sCallS 4 (fun as μ K => CtH l mdL_reduce hhL_reduce as μ K) 481 3 3600) (W n) ls st μ g := (hW n 478 ls st μ g).trans rfl
theorem tLw3_481 (l : Launch) (L : Nat) (xs : Nat → Int32) : tb (tbLw3 l L xs) 481 = sSt 6 483 isI := (rfl)
theorem wLw3_481 {l : Launch} {L : Nat} {xs : Nat → Int32} {J : aK} {W : Nat → aK} (hW : isW (tbLw3 l L xs) cuLw3 J W) (n : Nat) (ls st : List aV) (μ : aM) (g : Nat) : W (n + 1) 481 ls st μ g = J 481 ls st μ g := (hW n 481 ls st μ g).trans rfl
theorem wLw3_483 {l : Launch} {L : Nat} {xs : Nat → Int32} {J : aK} {W : Nat → aK} (hW : isW (tbLw3 l L xs) cuLw3 J W) (n : Nat) (ls st : List aV) (μ : aM) (g : Nat) : W (n + 1) 483 ls st μ g = (sLd 2 484 isR) (W n) ls st μ g := (hW n 483 ls st μ g).trans rfl
theorem wLw3_484 {l : Launch} {L : Nat} {xs : Nat → Int32} {J : aK} {W : Nat → aK} (hW : isW (tbLw3 l L xs) cuLw3 J W) (n : Nat) (ls st : List aV) (μ : aM) (g : Nat) : W (n + 1) 484 ls st μ g = (sLd 0 485 isR) (W n) ls st μ g := (hW n 484 ls st μ g).trans rfl
theorem wLw3_485 {l : Launch} {L : Nat} {xs : Nat → Int32} {J : aK} {W : Nat → aK} (hW : isW (tbLw3 l L xs) cuLw3 J W) (n : Nat) (ls st : List aV) (μ : aM) (g : Nat) : W (n + 1) 485 ls st μ g = (sLd 5 487 isI) (W n) ls st μ g := (hW n 485 ls st μ g).trans rfl
theorem wLw3_487 {l : Launch} {L : Nat} {xs : Nat → Int32} {J : aK} {W : Nat → aK} (hW : isW (tbLw3 l L xs) cuLw3 J W) (n : Nat) (ls st : List aV) (μ : aM) (g : Nat) : W (n + 1) 487 ls st μ g = (sPush (aI 1) 488) (W n) ls st μ g := (hW n 487 ls st μ g).trans rfl
theorem wLw3_488 {l : Launch} {L : Nat} {xs : Nat → Int32} {J : aK} {W : Nat → aK} (hW : isW (tbLw3 l L xs) cuLw3 J W) (n : Nat) (ls st : List aV) (μ : aM) (g : Nat) : W (n + 1) 488 ls st μ g = (sBin fAdd 489) (W n) ls st μ g := (hW n 488 ls st μ g).trans rfl
theorem wLw3_489 {l : Launch} {L : Nat} {xs : Nat → Int32} {J : aK} {W : Nat → aK} (hW : isW (tbLw3 l L xs) cuLw3 J W) (n : Nat) (ls st : List aV) (μ : aM) (g : Nat) : W (n + 1) 489 ls st μ g = (sSld L xs 490) (W n) ls st μ g := (hW n 489 ls st μ g).trans rfl
theorem wLw3_490 {l : Launch} {L : Nat} {xs : Nat → Int32} {J : aK} {W : Nat → aK} (hW : isW (tbLw3 l L xs) cuLw3 J W) (n : Nat) (ls st : List aV) (μ : aM) (g : Nat) : W (n + 1) 490 ls st μ g = (sLd 0 491 isR) (W n) ls st μ g := (hW n 490 ls st μ g).trans rfl
theorem wLw3_491 {l : Launch} {L : Nat} {xs : Nat → Int32} {J : aK} {W : Nat → aK} (hW : isW (tbLw3 l L xs) cuLw3 J W) (n : Nat) (ls st : List aV) (μ : aM) (g : Nat) : W (n + 1) 491 ls st μ g = (sLd 5 493 isI) (W n) ls st μ g := (hW n 491 ls st μ g).trans rfl
theorem wLw3_493 {l : Launch} {L : Nat} {xs : Nat → Int32} {J : aK} {W : Nat → aK} (hW : isW (tbLw3 l L xs) cuLw3 J W) (n : Nat) (ls st : List aV) (μ : aM) (g : Nat) : W (n + 1) 493 ls st μ g = (sPush (aI 2) 494) (W n) ls st μ g := (hW n 493 ls st μ g).trans rfl
theorem wLw3_494 {l : Launch} {L : Nat} {xs : Nat → Int32} {J : aK} {W : Nat → aK} (hW : isW (tbLw3 l L xs) cuLw3 J W) (n : Nat) (ls st : List aV) (μ : aM) (g : Nat) : W (n + 1) 494 ls st μ g = (sBin fAdd 495) (W n) ls st μ g := (hW n 494 ls st μ g).trans rfl
theorem wLw3_495 {l : Launch} {L : Nat} {xs : Nat → Int32} {J : aK} {W : Nat → aK} (hW : isW (tbLw3 l L xs) cuLw3 J W) (n : Nat) (ls st : List aV) (μ : aM) (g : Nat) : W (n + 1) 495 ls st μ g = (sSld L xs 496) (W n) ls st μ g := (hW n 495 ls st μ g).trans rfl
theorem wLw3_496 {l : Launch} {L : Nat} {xs : Nat → Int32} {J : aK} {W : Nat → aK} (hW : isW (tbLw3 l L xs) cuLw3 J W) (n : Nat) (ls st : List aV) (μ : aM) (g : Nat) : W (n + 1) 496 ls st μ g = (sCallV 2 5 (fun as μ K => Ct l mdX5_reduce as μ K nX) 499 0 3600) (W n) ls st μ g := (hW n 496 ls st μ g).trans rfl
theorem tLw3_499 (l : Launch) (L : Nat) (xs : Nat → Int32) : tb (tbLw3 l L xs) 499 = sSt 7 501 isI := (rfl)
theorem wLw3_499 {l : Launch} {L : Nat} {xs : Nat → Int32} {J : aK} {W : Nat → aK} (hW : isW (tbLw3 l L xs) cuLw3 J W) (n : Nat) (ls st : List aV) (μ : aM) (g : Nat) : W (n + 1) 499 ls st μ g = J 499 ls st μ g := (hW n 499 ls st μ g).trans rfl
theorem wLw3_501 {l : Launch} {L : Nat} {xs : Nat → Int32} {J : aK} {W : Nat → aK} (hW : isW (tbLw3 l L xs) cuLw3 J W) (n : Nat) (ls st : List aV) (μ : aM) (g : Nat) : W (n + 1) 501 ls st μ g = (sLd 2 502 isR) (W n) ls st μ g := (hW n 501 ls st μ g).trans rfl
theorem wLw3_502 {l : Launch} {L : Nat} {xs : Nat → Int32} {J : aK} {W : Nat → aK} (hW : isW (tbLw3 l L xs) cuLw3 J W) (n : Nat) (ls st : List aV) (μ : aM) (g : Nat) : W (n + 1) 502 ls st μ g = (sCallV 0 5 (fun as μ K => Ct l mdX5_thrown as μ K nX) 505 0 3600) (W n) ls st μ g := (hW n 502 ls st μ g).trans rfl
theorem tLw3_505 (l : Launch) (L : Nat) (xs : Nat → Int32) : tb (tbLw3 l L xs) 505 = sLd 6 507 isI := (rfl)
theorem wLw3_505 {l : Launch} {L : Nat} {xs : Nat → Int32} {J : aK} {W : Nat → aK} (hW : isW (tbLw3 l L xs) cuLw3 J W) (n : Nat) (ls st : List aV) (μ : aM) (g : Nat) : W (n + 1) 505 ls st μ g = J 505 ls st μ g := (hW n 505 ls st μ g).trans rfl
theorem wLw3_507 {l : Launch} {L : Nat} {xs : Nat → Int32} {J : aK} {W : Nat → aK} (hW : isW (tbLw3 l L xs) cuLw3 J W) (n : Nat) (ls st : List aV) (μ : aM) (g : Nat) : W (n + 1) 507 ls st μ g = (sIc qEq 512 510) (W n) ls st μ g := (hW n 507 ls st μ g).trans rfl
theorem wLw3_510 {l : Launch} {L : Nat} {xs : Nat → Int32} {J : aK} {W : Nat → aK} (hW : isW (tbLw3 l L xs) cuLw3 J W) (n : Nat) (ls st : List aV) (μ : aM) (g : Nat) : W (n + 1) 510 ls st μ g = (sPush (aI 0) 511) (W n) ls st μ g := (hW n 510 ls st μ g).trans rfl
theorem wLw3_511 {l : Launch} {L : Nat} {xs : Nat → Int32} {J : aK} {W : Nat → aK} (hW : isW (tbLw3 l L xs) cuLw3 J W) (n : Nat) (ls st : List aV) (μ : aM) (g : Nat) : W (n + 1) 511 ls st μ g = (sLret) (W n) ls st μ g := (hW n 511 ls st μ g).trans rfl
theorem wLw3_512 {l : Launch} {L : Nat} {xs : Nat → Int32} {J : aK} {W : Nat → aK} (hW : isW (tbLw3 l L xs) cuLw3 J W) (n : Nat) (ls st : List aV) (μ : aM) (g : Nat) : W (n + 1) 512 ls st μ g = (sLd 6 514 isI) (W n) ls st μ g := (hW n 512 ls st μ g).trans rfl
theorem wLw3_514 {l : Launch} {L : Nat} {xs : Nat → Int32} {J : aK} {W : Nat → aK} (hW : isW (tbLw3 l L xs) cuLw3 J W) (n : Nat) (ls st : List aV) (μ : aM) (g : Nat) : W (n + 1) 514 ls st μ g = (sIf pNe 529 517) (W n) ls st μ g := (hW n 514 ls st μ g).trans rfl
theorem wLw3_517 {l : Launch} {L : Nat} {xs : Nat → Int32} {J : aK} {W : Nat → aK} (hW : isW (tbLw3 l L xs) cuLw3 J W) (n : Nat) (ls st : List aV) (μ : aM) (g : Nat) : W (n + 1) 517 ls st μ g = (sLd 3 518 isR) (W n) ls st μ g := (hW n 517 ls st μ g).trans rfl
theorem wLw3_518 {l : Launch} {L : Nat} {xs : Nat → Int32} {J : aK} {W : Nat → aK} (hW : isW (tbLw3 l L xs) cuLw3 J W) (n : Nat) (ls st : List aV) (μ : aM) (g : Nat) : W (n + 1) 518 ls st μ g = (sPush (aI 0) 519) (W n) ls st μ g := (hW n 518 ls st μ g).trans rfl
theorem wLw3_519 {l : Launch} {L : Nat} {xs : Nat → Int32} {J : aK} {W : Nat → aK} (hW : isW (tbLw3 l L xs) cuLw3 J W) (n : Nat) (ls st : List aV) (μ : aM) (g : Nat) : W (n + 1) 519 ls st μ g = (sAldL 520) (W n) ls st μ g := (hW n 519 ls st μ g).trans rfl
theorem wLw3_520 {l : Launch} {L : Nat} {xs : Nat → Int32} {J : aK} {W : Nat → aK} (hW : isW (tbLw3 l L xs) cuLw3 J W) (n : Nat) (ls st : List aV) (μ : aM) (g : Nat) : W (n + 1) 520 ls st μ g = (sLd 7 522 isI) (W n) ls st μ g := (hW n 520 ls st μ g).trans rfl
theorem wLw3_522 {l : Launch} {L : Nat} {xs : Nat → Int32} {J : aK} {W : Nat → aK} (hW : isW (tbLw3 l L xs) cuLw3 J W) (n : Nat) (ls st : List aV) (μ : aM) (g : Nat) : W (n + 1) 522 ls st μ g = (sI2l 523) (W n) ls st μ g := (hW n 522 ls st μ g).trans rfl
theorem wLw3_523 {l : Launch} {L : Nat} {xs : Nat → Int32} {J : aK} {W : Nat → aK} (hW : isW (tbLw3 l L xs) cuLw3 J W) (n : Nat) (ls st : List aV) (μ : aM) (g : Nat) : W (n + 1) 523 ls st μ g = (sLcmp 524) (W n) ls st μ g := (hW n 523 ls st μ g).trans rfl
theorem wLw3_524 {l : Launch} {L : Nat} {xs : Nat → Int32} {J : aK} {W : Nat → aK} (hW : isW (tbLw3 l L xs) cuLw3 J W) (n : Nat) (ls st : List aV) (μ : aM) (g : Nat) : W (n + 1) 524 ls st μ g = (sIf pEq 529 527) (W n) ls st μ g := (hW n 524 ls st μ g).trans rfl
theorem wLw3_527 {l : Launch} {L : Nat} {xs : Nat → Int32} {J : aK} {W : Nat → aK} (hW : isW (tbLw3 l L xs) cuLw3 J W) (n : Nat) (ls st : List aV) (μ : aM) (g : Nat) : W (n + 1) 527 ls st μ g = (sPush (aI 0) 528) (W n) ls st μ g := (hW n 527 ls st μ g).trans rfl
theorem wLw3_528 {l : Launch} {L : Nat} {xs : Nat → Int32} {J : aK} {W : Nat → aK} (hW : isW (tbLw3 l L xs) cuLw3 J W) (n : Nat) (ls st : List aV) (μ : aM) (g : Nat) : W (n + 1) 528 ls st μ g = (sLret) (W n) ls st μ g := (hW n 528 ls st μ g).trans rfl
theorem wLw3_529 {l : Launch} {L : Nat} {xs : Nat → Int32} {J : aK} {W : Nat → aK} (hW : isW (tbLw3 l L xs) cuLw3 J W) (n : Nat) (ls st : List aV) (μ : aM) (g : Nat) : W (n + 1) 529 ls st μ g = (sGoto 1969) (W n) ls st μ g := (hW n 529 ls st μ g).trans rfl
theorem dLw4_532 : decode code 532 = .ok (.aload_n 1, 1) := by decide +kernel
theorem dLw4_533 : decode code 533 = .ok (.aload_n 0, 1) := by decide +kernel
theorem dLw4_534 : decode code 534 = .ok (.iload 5, 2) := by decide +kernel
theorem dLw4_536 : decode code 536 = .ok (.iconst 1, 1) := by decide +kernel
theorem dLw4_537 : decode code 537 = .ok (.iadd, 1) := by decide +kernel
theorem dLw4_538 : decode code 538 = .ok (.iaload, 1) := by decide +kernel
theorem dLw4_539 : decode code 539 = .ok (.aload_n 3, 1) := by decide +kernel
theorem dLw4_540 : decode code 540 = .ok (.invokestatic 135, 3) := by decide +kernel
theorem dLw4_543 : decode code 543 = .ok (.istore 6, 2) := by decide +kernel
theorem dLw4_545 : decode code 545 = .ok (.aload_n 2, 1) := by decide +kernel
theorem dLw4_546 : decode code 546 = .ok (.aload_n 0, 1) := by decide +kernel
theorem dLw4_547 : decode code 547 = .ok (.iload 5, 2) := by decide +kernel
theorem dLw4_549 : decode code 549 = .ok (.iconst 1, 1) := by decide +kernel
theorem dLw4_550 : decode code 550 = .ok (.iadd, 1) := by decide +kernel
theorem dLw4_551 : decode code 551 = .ok (.iaload, 1) := by decide +kernel
theorem dLw4_552 : decode code 552 = .ok (.invokevirtual 137, 3) := by decide +kernel
theorem dLw4_555 : decode code 555 = .ok (.istore 7, 2) := by decide +kernel
theorem dLw4_557 : decode code 557 = .ok (.aload_n 2, 1) := by decide +kernel
theorem dLw4_558 : decode code 558 = .ok (.invokevirtual 121, 3) := by decide +kernel
theorem dLw4_561 : decode code 561 = .ok (.iload 6, 2) := by decide +kernel
theorem dLw4_563 : decode code 563 = .ok (.if_icmp .eq 5, 3) := by decide +kernel
theorem dLw4_566 : decode code 566 = .ok (.iconst 0, 1) := by decide +kernel
theorem dLw4_567 : decode code 567 = .ok (.ireturn, 1) := by decide +kernel
theorem dLw4_568 : decode code 568 = .ok (.iload 6, 2) := by decide +kernel
theorem dLw4_570 : decode code 570 = .ok (.ifCond .ne 15, 3) := by decide +kernel
theorem dLw4_573 : decode code 573 = .ok (.aload_n 3, 1) := by decide +kernel
theorem dLw4_574 : decode code 574 = .ok (.iconst 0, 1) := by decide +kernel
theorem dLw4_575 : decode code 575 = .ok (.laload, 1) := by decide +kernel
theorem dLw4_576 : decode code 576 = .ok (.iload 7, 2) := by decide +kernel
theorem dLw4_578 : decode code 578 = .ok (.i2l, 1) := by decide +kernel
theorem dLw4_579 : decode code 579 = .ok (.lcmp, 1) := by decide +kernel
theorem dLw4_580 : decode code 580 = .ok (.ifCond .eq 5, 3) := by decide +kernel
theorem dLw4_583 : decode code 583 = .ok (.iconst 0, 1) := by decide +kernel
theorem dLw4_584 : decode code 584 = .ok (.ireturn, 1) := by decide +kernel
theorem dLw4_585 : decode code 585 = .ok (.goto 1384, 3) := by decide +kernel
def tbLw4 (l : Launch) (L : Nat) (xs : Nat → Int32) : aTb := [
  (532, sLd 1 533 isR),
  (533, sLd 0 534 isR),
  (534, sLd 5 536 isI),
  (536, sPush (aI 1) 537),
  (537, sBin fAdd 538),
  (538, sSld L xs 539),
  (539, sLd 3 540 isR),
  (540, sCallS 3 (fun as μ K => CtH l mdL_setBand hhL_setBand as μ K) 543 1 3600),
  (543, sSt 6 545 isI),
  (545, sLd 2 546 isR),
  (546, sLd 0 547 isR),
  (547, sLd 5 549 isI),
  (549, sPush (aI 1) 550),
  (550, sBin fAdd 551),
  (551, sSld L xs 552),
  (552, sCallV 1 5 (fun as μ K => Ct l mdX5_setBand as μ K nX) 555 0 3600),
  (555, sSt 7 557 isI),
  (557, sLd 2 558 isR),
  (558, sCallV 0 5 (fun as μ K => Ct l mdX5_thrown as μ K nX) 561 0 3600),
  (561, sLd 6 563 isI),
  (563, sIc qEq 568 566),
  (566, sPush (aI 0) 567),
  (567, sLret),
  (568, sLd 6 570 isI),
  (570, sIf pNe 585 573),
  (573, sLd 3 574 isR),
  (574, sPush (aI 0) 575),
  (575, sAldL 576),
  (576, sLd 7 578 isI),
  (578, sI2l 579),
  (579, sLcmp 580),
  (580, sIf pEq 585 583),
  (583, sPush (aI 0) 584),
  (584, sLret),
  (585, sGoto 1969)]
theorem snLw4 (l : Launch) (L : Nat) (xs : Nat → Int32) (hL3 : L ≤ 3072) : ∀ q ∈ tbLw4 l L xs, Snd (BL l L xs) q.1 q.2 :=
  tcG (sLw (fun p e s m below meth c b cA D A ad0 h hb => ok_aload_n h.1 1 rfl dLw4_532)) <|
  tcG (sLw (fun p e s m below meth c b cA D A ad0 h hb => ok_aload_n h.1 0 rfl dLw4_533)) <|
  tcG (sLw (fun p e s m below meth c b cA D A ad0 h hb => ok_iload h.1 dLw4_534)) <|
  tcG (sLw (fun p e s m below meth c b cA D A ad0 h hb => ok_iconst h.1 ⟨by decide, by decide⟩ dLw4_536)) <|
  tcG (sLw (fun p e s m below meth c b cA D A ad0 h hb => ok_iadd h.1 dLw4_537)) <|
  tcG (sLw (fun p e s m below meth c b cA D A ad0 h hb => ok_sld h hb dLw4_538)) <|
  tcG (sLw (fun p e s m below meth c b cA D A ad0 h hb => ok_aload_n h.1 3 rfl dLw4_539)) <|
  tcG (sLw (fun p e s m below meth c b cA D A ad0 h hb => ok_callSH h.1 h.2.1 (show 3600 ≤ room_1.cells ∧ 2000 * 3600 ≤ room_1.slots from ⟨Nat.le_of_ble_eq_true rfl, Nat.le_of_ble_eq_true rfl⟩) mdL_setBand hhL_setBand siL_setBand mkRL_135 stL_setBand ⟨by decide, by decide⟩ dLw4_540)) <|
  tcG (sLw (fun p e s m below meth c b cA D A ad0 h hb => ok_istore h.1 (by decide) dLw4_543)) <|
  tcG (sLw (fun p e s m below meth c b cA D A ad0 h hb => ok_aload_n h.1 2 rfl dLw4_545)) <|
  tcG (sLw (fun p e s m below meth c b cA D A ad0 h hb => ok_aload_n h.1 0 rfl dLw4_546)) <|
  tcG (sLw (fun p e s m below meth c b cA D A ad0 h hb => ok_iload h.1 dLw4_547)) <|
  tcG (sLw (fun p e s m below meth c b cA D A ad0 h hb => ok_iconst h.1 ⟨by decide, by decide⟩ dLw4_549)) <|
  tcG (sLw (fun p e s m below meth c b cA D A ad0 h hb => ok_iadd h.1 dLw4_550)) <|
  tcG (sLw (fun p e s m below meth c b cA D A ad0 h hb => ok_sld h hb dLw4_551)) <|
  tcG (sLw (fun p e s m below meth c b cA D A ad0 h hb => ok_callV h.1 h.2.1 (show 3600 ≤ room_1.cells ∧ 2000 * 3600 ≤ room_1.slots from ⟨Nat.le_of_ble_eq_true rfl, Nat.le_of_ble_eq_true rfl⟩) mdX5_setBand siX5_setBand cxX5 mkRL_137 imX5_setBand seX5_setBand ⟨by decide, by decide⟩ aAx_no dLw4_552)) <|
  tcG (sLw (fun p e s m below meth c b cA D A ad0 h hb => ok_istore h.1 (by decide) dLw4_555)) <|
  tcG (sLw (fun p e s m below meth c b cA D A ad0 h hb => ok_aload_n h.1 2 rfl dLw4_557)) <|
  tcG (sLw (fun p e s m below meth c b cA D A ad0 h hb => ok_callV h.1 h.2.1 (show 3600 ≤ room_1.cells ∧ 2000 * 3600 ≤ room_1.slots from ⟨Nat.le_of_ble_eq_true rfl, Nat.le_of_ble_eq_true rfl⟩) mdX5_thrown siX5_thrown cxX5 mkRL_121 imX5_thrown seX5_thrown ⟨by decide, by decide⟩ aAx_no dLw4_558)) <|
  tcG (sLw (fun p e s m below meth c b cA D A ad0 h hb => ok_iload h.1 dLw4_561)) <|
  tcG (sLw (fun p e s m below meth c b cA D A ad0 h hb => ok_icmp_eq h.1 568 (by decide) dLw4_563)) <|
  tcG (sLw (fun p e s m below meth c b cA D A ad0 h hb => ok_iconst h.1 ⟨by decide, by decide⟩ dLw4_566)) <|
  tcG (sLw (fun p e s m below meth c b cA D A ad0 h hb => ok_lret h dLw4_567)) <|
  tcG (sLw (fun p e s m below meth c b cA D A ad0 h hb => ok_iload h.1 dLw4_568)) <|
  tcG (sLw (fun p e s m below meth c b cA D A ad0 h hb => ok_if_ne h.1 585 (by decide) dLw4_570)) <|
  tcG (sLw (fun p e s m below meth c b cA D A ad0 h hb => ok_aload_n h.1 3 rfl dLw4_573)) <|
  tcG (sLw (fun p e s m below meth c b cA D A ad0 h hb => ok_iconst h.1 ⟨by decide, by decide⟩ dLw4_574)) <|
  tcG (sLw (fun p e s m below meth c b cA D A ad0 h hb => ok_lald h.1 dLw4_575)) <|
  tcG (sLw (fun p e s m below meth c b cA D A ad0 h hb => ok_iload h.1 dLw4_576)) <|
  tcG (sLw (fun p e s m below meth c b cA D A ad0 h hb => ok_i2l h.1 dLw4_578)) <|
  tcG (sLw (fun p e s m below meth c b cA D A ad0 h hb => ok_lcmp h.1 dLw4_579)) <|
  tcG (sLw (fun p e s m below meth c b cA D A ad0 h hb => ok_if_eq h.1 585 (by decide) dLw4_580)) <|
  tcG (sLw (fun p e s m below meth c b cA D A ad0 h hb => ok_iconst h.1 ⟨by decide, by decide⟩ dLw4_583)) <|
  tcG (sLw (fun p e s m below meth c b cA D A ad0 h hb => ok_lret h dLw4_584)) <|
  tcG (sLw (fun p e s m below meth c b cA D A ad0 h hb => ok_goto h.1 1969 (by decide) dLw4_585)) <|
  tnG
abbrev cuLw4 : List Nat := [543, 555, 561, 1969]
theorem wLw4_1969 {l : Launch} {L : Nat} {xs : Nat → Int32} {J : aK} {W : Nat → aK} (hW : isW (tbLw4 l L xs) cuLw4 J W) (n : Nat) (ls st : List aV) (μ : aM) (g : Nat) : W (n + 1) 1969 ls st μ g = J 1969 ls st μ g := (hW n 1969 ls st μ g).trans rfl
theorem tLw4_532 (l : Launch) (L : Nat) (xs : Nat → Int32) : tb (tbLw4 l L xs) 532 = sLd 1 533 isR := (rfl)
theorem wLw4_532 {l : Launch} {L : Nat} {xs : Nat → Int32} {J : aK} {W : Nat → aK} (hW : isW (tbLw4 l L xs) cuLw4 J W) (n : Nat) (ls st : List aV) (μ : aM) (g : Nat) : W (n + 1) 532 ls st μ g = (sLd 1 533 isR) (W n) ls st μ g := (hW n 532 ls st μ g).trans rfl
theorem wLw4_533 {l : Launch} {L : Nat} {xs : Nat → Int32} {J : aK} {W : Nat → aK} (hW : isW (tbLw4 l L xs) cuLw4 J W) (n : Nat) (ls st : List aV) (μ : aM) (g : Nat) : W (n + 1) 533 ls st μ g = (sLd 0 534 isR) (W n) ls st μ g := (hW n 533 ls st μ g).trans rfl
theorem wLw4_534 {l : Launch} {L : Nat} {xs : Nat → Int32} {J : aK} {W : Nat → aK} (hW : isW (tbLw4 l L xs) cuLw4 J W) (n : Nat) (ls st : List aV) (μ : aM) (g : Nat) : W (n + 1) 534 ls st μ g = (sLd 5 536 isI) (W n) ls st μ g := (hW n 534 ls st μ g).trans rfl
theorem wLw4_536 {l : Launch} {L : Nat} {xs : Nat → Int32} {J : aK} {W : Nat → aK} (hW : isW (tbLw4 l L xs) cuLw4 J W) (n : Nat) (ls st : List aV) (μ : aM) (g : Nat) : W (n + 1) 536 ls st μ g = (sPush (aI 1) 537) (W n) ls st μ g := (hW n 536 ls st μ g).trans rfl
theorem wLw4_537 {l : Launch} {L : Nat} {xs : Nat → Int32} {J : aK} {W : Nat → aK} (hW : isW (tbLw4 l L xs) cuLw4 J W) (n : Nat) (ls st : List aV) (μ : aM) (g : Nat) : W (n + 1) 537 ls st μ g = (sBin fAdd 538) (W n) ls st μ g := (hW n 537 ls st μ g).trans rfl
theorem wLw4_538 {l : Launch} {L : Nat} {xs : Nat → Int32} {J : aK} {W : Nat → aK} (hW : isW (tbLw4 l L xs) cuLw4 J W) (n : Nat) (ls st : List aV) (μ : aM) (g : Nat) : W (n + 1) 538 ls st μ g = (sSld L xs 539) (W n) ls st μ g := (hW n 538 ls st μ g).trans rfl
theorem wLw4_539 {l : Launch} {L : Nat} {xs : Nat → Int32} {J : aK} {W : Nat → aK} (hW : isW (tbLw4 l L xs) cuLw4 J W) (n : Nat) (ls st : List aV) (μ : aM) (g : Nat) : W (n + 1) 539 ls st μ g = (sLd 3 540 isR) (W n) ls st μ g := (hW n 539 ls st μ g).trans rfl
theorem wLw4_540 {l : Launch} {L : Nat} {xs : Nat → Int32} {J : aK} {W : Nat → aK} (hW : isW (tbLw4 l L xs) cuLw4 J W) (n : Nat) (ls st : List aV) (μ : aM) (g : Nat) : W (n + 1) 540 ls st μ g = (sCallS 3 (fun as μ K => CtH l mdL_setBand hhL_setBand as μ K) 543 1 3600) (W n) ls st μ g := (hW n 540 ls st μ g).trans rfl
theorem tLw4_543 (l : Launch) (L : Nat) (xs : Nat → Int32) : tb (tbLw4 l L xs) 543 = sSt 6 545 isI := (rfl)
theorem wLw4_543 {l : Launch} {L : Nat} {xs : Nat → Int32} {J : aK} {W : Nat → aK} (hW : isW (tbLw4 l L xs) cuLw4 J W) (n : Nat) (ls st : List aV) (μ : aM) (g : Nat) : W (n + 1) 543 ls st μ g = J 543 ls st μ g := (hW n 543 ls st μ g).trans rfl
theorem wLw4_545 {l : Launch} {L : Nat} {xs : Nat → Int32} {J : aK} {W : Nat → aK} (hW : isW (tbLw4 l L xs) cuLw4 J W) (n : Nat) (ls st : List aV) (μ : aM) (g : Nat) : W (n + 1) 545 ls st μ g = (sLd 2 546 isR) (W n) ls st μ g := (hW n 545 ls st μ g).trans rfl
theorem wLw4_546 {l : Launch} {L : Nat} {xs : Nat → Int32} {J : aK} {W : Nat → aK} (hW : isW (tbLw4 l L xs) cuLw4 J W) (n : Nat) (ls st : List aV) (μ : aM) (g : Nat) : W (n + 1) 546 ls st μ g = (sLd 0 547 isR) (W n) ls st μ g := (hW n 546 ls st μ g).trans rfl
theorem wLw4_547 {l : Launch} {L : Nat} {xs : Nat → Int32} {J : aK} {W : Nat → aK} (hW : isW (tbLw4 l L xs) cuLw4 J W) (n : Nat) (ls st : List aV) (μ : aM) (g : Nat) : W (n + 1) 547 ls st μ g = (sLd 5 549 isI) (W n) ls st μ g := (hW n 547 ls st μ g).trans rfl
theorem wLw4_549 {l : Launch} {L : Nat} {xs : Nat → Int32} {J : aK} {W : Nat → aK} (hW : isW (tbLw4 l L xs) cuLw4 J W) (n : Nat) (ls st : List aV) (μ : aM) (g : Nat) : W (n + 1) 549 ls st μ g = (sPush (aI 1) 550) (W n) ls st μ g := (hW n 549 ls st μ g).trans rfl
theorem wLw4_550 {l : Launch} {L : Nat} {xs : Nat → Int32} {J : aK} {W : Nat → aK} (hW : isW (tbLw4 l L xs) cuLw4 J W) (n : Nat) (ls st : List aV) (μ : aM) (g : Nat) : W (n + 1) 550 ls st μ g = (sBin fAdd 551) (W n) ls st μ g := (hW n 550 ls st μ g).trans rfl
theorem wLw4_551 {l : Launch} {L : Nat} {xs : Nat → Int32} {J : aK} {W : Nat → aK} (hW : isW (tbLw4 l L xs) cuLw4 J W) (n : Nat) (ls st : List aV) (μ : aM) (g : Nat) : W (n + 1) 551 ls st μ g = (sSld L xs 552) (W n) ls st μ g := (hW n 551 ls st μ g).trans rfl
theorem wLw4_552 {l : Launch} {L : Nat} {xs : Nat → Int32} {J : aK} {W : Nat → aK} (hW : isW (tbLw4 l L xs) cuLw4 J W) (n : Nat) (ls st : List aV) (μ : aM) (g : Nat) : W (n + 1) 552 ls st μ g = (sCallV 1 5 (fun as μ K => Ct l mdX5_setBand as μ K nX) 555 0 3600) (W n) ls st μ g := (hW n 552 ls st μ g).trans rfl
theorem tLw4_555 (l : Launch) (L : Nat) (xs : Nat → Int32) : tb (tbLw4 l L xs) 555 = sSt 7 557 isI := (rfl)
theorem wLw4_555 {l : Launch} {L : Nat} {xs : Nat → Int32} {J : aK} {W : Nat → aK} (hW : isW (tbLw4 l L xs) cuLw4 J W) (n : Nat) (ls st : List aV) (μ : aM) (g : Nat) : W (n + 1) 555 ls st μ g = J 555 ls st μ g := (hW n 555 ls st μ g).trans rfl
theorem wLw4_557 {l : Launch} {L : Nat} {xs : Nat → Int32} {J : aK} {W : Nat → aK} (hW : isW (tbLw4 l L xs) cuLw4 J W) (n : Nat) (ls st : List aV) (μ : aM) (g : Nat) : W (n + 1) 557 ls st μ g = (sLd 2 558 isR) (W n) ls st μ g := (hW n 557 ls st μ g).trans rfl
theorem wLw4_558 {l : Launch} {L : Nat} {xs : Nat → Int32} {J : aK} {W : Nat → aK} (hW : isW (tbLw4 l L xs) cuLw4 J W) (n : Nat) (ls st : List aV) (μ : aM) (g : Nat) : W (n + 1) 558 ls st μ g = (sCallV 0 5 (fun as μ K => Ct l mdX5_thrown as μ K nX) 561 0 3600) (W n) ls st μ g := (hW n 558 ls st μ g).trans rfl
theorem tLw4_561 (l : Launch) (L : Nat) (xs : Nat → Int32) : tb (tbLw4 l L xs) 561 = sLd 6 563 isI := (rfl)
theorem wLw4_561 {l : Launch} {L : Nat} {xs : Nat → Int32} {J : aK} {W : Nat → aK} (hW : isW (tbLw4 l L xs) cuLw4 J W) (n : Nat) (ls st : List aV) (μ : aM) (g : Nat) : W (n + 1) 561 ls st μ g = J 561 ls st μ g := (hW n 561 ls st μ g).trans rfl
theorem wLw4_563 {l : Launch} {L : Nat} {xs : Nat → Int32} {J : aK} {W : Nat → aK} (hW : isW (tbLw4 l L xs) cuLw4 J W) (n : Nat) (ls st : List aV) (μ : aM) (g : Nat) : W (n + 1) 563 ls st μ g = (sIc qEq 568 566) (W n) ls st μ g := (hW n 563 ls st μ g).trans rfl
theorem wLw4_566 {l : Launch} {L : Nat} {xs : Nat → Int32} {J : aK} {W : Nat → aK} (hW : isW (tbLw4 l L xs) cuLw4 J W) (n : Nat) (ls st : List aV) (μ : aM) (g : Nat) : W (n + 1) 566 ls st μ g = (sPush (aI 0) 567) (W n) ls st μ g := (hW n 566 ls st μ g).trans rfl
theorem wLw4_567 {l : Launch} {L : Nat} {xs : Nat → Int32} {J : aK} {W : Nat → aK} (hW : isW (tbLw4 l L xs) cuLw4 J W) (n : Nat) (ls st : List aV) (μ : aM) (g : Nat) : W (n + 1) 567 ls st μ g = (sLret) (W n) ls st μ g := (hW n 567 ls st μ g).trans rfl
theorem wLw4_568 {l : Launch} {L : Nat} {xs : Nat → Int32} {J : aK} {W : Nat → aK} (hW : isW (tbLw4 l L xs) cuLw4 J W) (n : Nat) (ls st : List aV) (μ : aM) (g : Nat) : W (n + 1) 568 ls st μ g = (sLd 6 570 isI) (W n) ls st μ g := (hW n 568 ls st μ g).trans rfl
theorem wLw4_570 {l : Launch} {L : Nat} {xs : Nat → Int32} {J : aK} {W : Nat → aK} (hW : isW (tbLw4 l L xs) cuLw4 J W) (n : Nat) (ls st : List aV) (μ : aM) (g : Nat) : W (n + 1) 570 ls st μ g = (sIf pNe 585 573) (W n) ls st μ g := (hW n 570 ls st μ g).trans rfl
theorem wLw4_573 {l : Launch} {L : Nat} {xs : Nat → Int32} {J : aK} {W : Nat → aK} (hW : isW (tbLw4 l L xs) cuLw4 J W) (n : Nat) (ls st : List aV) (μ : aM) (g : Nat) : W (n + 1) 573 ls st μ g = (sLd 3 574 isR) (W n) ls st μ g := (hW n 573 ls st μ g).trans rfl
theorem wLw4_574 {l : Launch} {L : Nat} {xs : Nat → Int32} {J : aK} {W : Nat → aK} (hW : isW (tbLw4 l L xs) cuLw4 J W) (n : Nat) (ls st : List aV) (μ : aM) (g : Nat) : W (n + 1) 574 ls st μ g = (sPush (aI 0) 575) (W n) ls st μ g := (hW n 574 ls st μ g).trans rfl
theorem wLw4_575 {l : Launch} {L : Nat} {xs : Nat → Int32} {J : aK} {W : Nat → aK} (hW : isW (tbLw4 l L xs) cuLw4 J W) (n : Nat) (ls st : List aV) (μ : aM) (g : Nat) : W (n + 1) 575 ls st μ g = (sAldL 576) (W n) ls st μ g := (hW n 575 ls st μ g).trans rfl
theorem wLw4_576 {l : Launch} {L : Nat} {xs : Nat → Int32} {J : aK} {W : Nat → aK} (hW : isW (tbLw4 l L xs) cuLw4 J W) (n : Nat) (ls st : List aV) (μ : aM) (g : Nat) : W (n + 1) 576 ls st μ g = (sLd 7 578 isI) (W n) ls st μ g := (hW n 576 ls st μ g).trans rfl
theorem wLw4_578 {l : Launch} {L : Nat} {xs : Nat → Int32} {J : aK} {W : Nat → aK} (hW : isW (tbLw4 l L xs) cuLw4 J W) (n : Nat) (ls st : List aV) (μ : aM) (g : Nat) : W (n + 1) 578 ls st μ g = (sI2l 579) (W n) ls st μ g := (hW n 578 ls st μ g).trans rfl
theorem wLw4_579 {l : Launch} {L : Nat} {xs : Nat → Int32} {J : aK} {W : Nat → aK} (hW : isW (tbLw4 l L xs) cuLw4 J W) (n : Nat) (ls st : List aV) (μ : aM) (g : Nat) : W (n + 1) 579 ls st μ g = (sLcmp 580) (W n) ls st μ g := (hW n 579 ls st μ g).trans rfl
theorem wLw4_580 {l : Launch} {L : Nat} {xs : Nat → Int32} {J : aK} {W : Nat → aK} (hW : isW (tbLw4 l L xs) cuLw4 J W) (n : Nat) (ls st : List aV) (μ : aM) (g : Nat) : W (n + 1) 580 ls st μ g = (sIf pEq 585 583) (W n) ls st μ g := (hW n 580 ls st μ g).trans rfl
theorem wLw4_583 {l : Launch} {L : Nat} {xs : Nat → Int32} {J : aK} {W : Nat → aK} (hW : isW (tbLw4 l L xs) cuLw4 J W) (n : Nat) (ls st : List aV) (μ : aM) (g : Nat) : W (n + 1) 583 ls st μ g = (sPush (aI 0) 584) (W n) ls st μ g := (hW n 583 ls st μ g).trans rfl
theorem wLw4_584 {l : Launch} {L : Nat} {xs : Nat → Int32} {J : aK} {W : Nat → aK} (hW : isW (tbLw4 l L xs) cuLw4 J W) (n : Nat) (ls st : List aV) (μ : aM) (g : Nat) : W (n + 1) 584 ls st μ g = (sLret) (W n) ls st μ g := (hW n 584 ls st μ g).trans rfl
theorem wLw4_585 {l : Launch} {L : Nat} {xs : Nat → Int32} {J : aK} {W : Nat → aK} (hW : isW (tbLw4 l L xs) cuLw4 J W) (n : Nat) (ls st : List aV) (μ : aM) (g : Nat) : W (n + 1) 585 ls st μ g = (sGoto 1969) (W n) ls st μ g := (hW n 585 ls st μ g).trans rfl
theorem dLw5_588 : decode code 588 = .ok (.aload_n 1, 1) := by decide +kernel
theorem dLw5_589 : decode code 589 = .ok (.aload_n 0, 1) := by decide +kernel
theorem dLw5_590 : decode code 590 = .ok (.iload 5, 2) := by decide +kernel
theorem dLw5_592 : decode code 592 = .ok (.iconst 1, 1) := by decide +kernel
theorem dLw5_593 : decode code 593 = .ok (.iadd, 1) := by decide +kernel
theorem dLw5_594 : decode code 594 = .ok (.iaload, 1) := by decide +kernel
theorem dLw5_595 : decode code 595 = .ok (.i2c, 1) := by decide +kernel
theorem dLw5_596 : decode code 596 = .ok (.aload_n 3, 1) := by decide +kernel
theorem dLw5_597 : decode code 597 = .ok (.invokestatic 138, 3) := by decide +kernel
theorem dLw5_600 : decode code 600 = .ok (.istore 6, 2) := by decide +kernel
theorem dLw5_602 : decode code 602 = .ok (.aload_n 2, 1) := by decide +kernel
theorem dLw5_603 : decode code 603 = .ok (.aload_n 0, 1) := by decide +kernel
theorem dLw5_604 : decode code 604 = .ok (.iload 5, 2) := by decide +kernel
theorem dLw5_606 : decode code 606 = .ok (.iconst 1, 1) := by decide +kernel
theorem dLw5_607 : decode code 607 = .ok (.iadd, 1) := by decide +kernel
theorem dLw5_608 : decode code 608 = .ok (.iaload, 1) := by decide +kernel
theorem dLw5_609 : decode code 609 = .ok (.i2c, 1) := by decide +kernel
theorem dLw5_610 : decode code 610 = .ok (.invokevirtual 141, 3) := by decide +kernel
theorem dLw5_613 : decode code 613 = .ok (.istore 7, 2) := by decide +kernel
theorem dLw5_615 : decode code 615 = .ok (.aload_n 2, 1) := by decide +kernel
theorem dLw5_616 : decode code 616 = .ok (.invokevirtual 121, 3) := by decide +kernel
theorem dLw5_619 : decode code 619 = .ok (.iload 6, 2) := by decide +kernel
theorem dLw5_621 : decode code 621 = .ok (.if_icmp .eq 5, 3) := by decide +kernel
theorem dLw5_624 : decode code 624 = .ok (.iconst 0, 1) := by decide +kernel
theorem dLw5_625 : decode code 625 = .ok (.ireturn, 1) := by decide +kernel
theorem dLw5_626 : decode code 626 = .ok (.iload 6, 2) := by decide +kernel
theorem dLw5_628 : decode code 628 = .ok (.ifCond .ne 15, 3) := by decide +kernel
theorem dLw5_631 : decode code 631 = .ok (.aload_n 3, 1) := by decide +kernel
theorem dLw5_632 : decode code 632 = .ok (.iconst 0, 1) := by decide +kernel
theorem dLw5_633 : decode code 633 = .ok (.laload, 1) := by decide +kernel
theorem dLw5_634 : decode code 634 = .ok (.iload 7, 2) := by decide +kernel
theorem dLw5_636 : decode code 636 = .ok (.i2l, 1) := by decide +kernel
theorem dLw5_637 : decode code 637 = .ok (.lcmp, 1) := by decide +kernel
theorem dLw5_638 : decode code 638 = .ok (.ifCond .eq 5, 3) := by decide +kernel
theorem dLw5_641 : decode code 641 = .ok (.iconst 0, 1) := by decide +kernel
theorem dLw5_642 : decode code 642 = .ok (.ireturn, 1) := by decide +kernel
theorem dLw5_643 : decode code 643 = .ok (.goto 1326, 3) := by decide +kernel
def tbLw5 (l : Launch) (L : Nat) (xs : Nat → Int32) : aTb := [
  (588, sLd 1 589 isR),
  (589, sLd 0 590 isR),
  (590, sLd 5 592 isI),
  (592, sPush (aI 1) 593),
  (593, sBin fAdd 594),
  (594, sSld L xs 595),
  (595, sUn fI2c 596),
  (596, sLd 3 597 isR),
  (597, sCallS 3 (fun as μ K => CtH l mdL_setRule hhL_setRule as μ K) 600 1 3600),
  (600, sSt 6 602 isI),
  (602, sLd 2 603 isR),
  (603, sLd 0 604 isR),
  (604, sLd 5 606 isI),
  (606, sPush (aI 1) 607),
  (607, sBin fAdd 608),
  (608, sSld L xs 609),
  (609, sUn fI2c 610),
  (610, sCallV 1 5 (fun as μ K => Ct l mdX5_setRule as μ K nX) 613 0 3600),
  (613, sSt 7 615 isI),
  (615, sLd 2 616 isR),
  (616, sCallV 0 5 (fun as μ K => Ct l mdX5_thrown as μ K nX) 619 0 3600),
  (619, sLd 6 621 isI),
  (621, sIc qEq 626 624),
  (624, sPush (aI 0) 625),
  (625, sLret),
  (626, sLd 6 628 isI),
  (628, sIf pNe 643 631),
  (631, sLd 3 632 isR),
  (632, sPush (aI 0) 633),
  (633, sAldL 634),
  (634, sLd 7 636 isI),
  (636, sI2l 637),
  (637, sLcmp 638),
  (638, sIf pEq 643 641),
  (641, sPush (aI 0) 642),
  (642, sLret),
  (643, sGoto 1969)]
theorem snLw5 (l : Launch) (L : Nat) (xs : Nat → Int32) (hL3 : L ≤ 3072) : ∀ q ∈ tbLw5 l L xs, Snd (BL l L xs) q.1 q.2 :=
  tcG (sLw (fun p e s m below meth c b cA D A ad0 h hb => ok_aload_n h.1 1 rfl dLw5_588)) <|
  tcG (sLw (fun p e s m below meth c b cA D A ad0 h hb => ok_aload_n h.1 0 rfl dLw5_589)) <|
  tcG (sLw (fun p e s m below meth c b cA D A ad0 h hb => ok_iload h.1 dLw5_590)) <|
  tcG (sLw (fun p e s m below meth c b cA D A ad0 h hb => ok_iconst h.1 ⟨by decide, by decide⟩ dLw5_592)) <|
  tcG (sLw (fun p e s m below meth c b cA D A ad0 h hb => ok_iadd h.1 dLw5_593)) <|
  tcG (sLw (fun p e s m below meth c b cA D A ad0 h hb => ok_sld h hb dLw5_594)) <|
  tcG (sLw (fun p e s m below meth c b cA D A ad0 h hb => ok_i2c h.1 dLw5_595)) <|
  tcG (sLw (fun p e s m below meth c b cA D A ad0 h hb => ok_aload_n h.1 3 rfl dLw5_596)) <|
  tcG (sLw (fun p e s m below meth c b cA D A ad0 h hb => ok_callSH h.1 h.2.1 (show 3600 ≤ room_1.cells ∧ 2000 * 3600 ≤ room_1.slots from ⟨Nat.le_of_ble_eq_true rfl, Nat.le_of_ble_eq_true rfl⟩) mdL_setRule hhL_setRule siL_setRule mkRL_138 stL_setRule ⟨by decide, by decide⟩ dLw5_597)) <|
  tcG (sLw (fun p e s m below meth c b cA D A ad0 h hb => ok_istore h.1 (by decide) dLw5_600)) <|
  tcG (sLw (fun p e s m below meth c b cA D A ad0 h hb => ok_aload_n h.1 2 rfl dLw5_602)) <|
  tcG (sLw (fun p e s m below meth c b cA D A ad0 h hb => ok_aload_n h.1 0 rfl dLw5_603)) <|
  tcG (sLw (fun p e s m below meth c b cA D A ad0 h hb => ok_iload h.1 dLw5_604)) <|
  tcG (sLw (fun p e s m below meth c b cA D A ad0 h hb => ok_iconst h.1 ⟨by decide, by decide⟩ dLw5_606)) <|
  tcG (sLw (fun p e s m below meth c b cA D A ad0 h hb => ok_iadd h.1 dLw5_607)) <|
  tcG (sLw (fun p e s m below meth c b cA D A ad0 h hb => ok_sld h hb dLw5_608)) <|
  tcG (sLw (fun p e s m below meth c b cA D A ad0 h hb => ok_i2c h.1 dLw5_609)) <|
  tcG (sLw (fun p e s m below meth c b cA D A ad0 h hb => ok_callV h.1 h.2.1 (show 3600 ≤ room_1.cells ∧ 2000 * 3600 ≤ room_1.slots from ⟨Nat.le_of_ble_eq_true rfl, Nat.le_of_ble_eq_true rfl⟩) mdX5_setRule siX5_setRule cxX5 mkRL_141 imX5_setRule seX5_setRule ⟨by decide, by decide⟩ aAx_no dLw5_610)) <|
  tcG (sLw (fun p e s m below meth c b cA D A ad0 h hb => ok_istore h.1 (by decide) dLw5_613)) <|
  tcG (sLw (fun p e s m below meth c b cA D A ad0 h hb => ok_aload_n h.1 2 rfl dLw5_615)) <|
  tcG (sLw (fun p e s m below meth c b cA D A ad0 h hb => ok_callV h.1 h.2.1 (show 3600 ≤ room_1.cells ∧ 2000 * 3600 ≤ room_1.slots from ⟨Nat.le_of_ble_eq_true rfl, Nat.le_of_ble_eq_true rfl⟩) mdX5_thrown siX5_thrown cxX5 mkRL_121 imX5_thrown seX5_thrown ⟨by decide, by decide⟩ aAx_no dLw5_616)) <|
  tcG (sLw (fun p e s m below meth c b cA D A ad0 h hb => ok_iload h.1 dLw5_619)) <|
  tcG (sLw (fun p e s m below meth c b cA D A ad0 h hb => ok_icmp_eq h.1 626 (by decide) dLw5_621)) <|
  tcG (sLw (fun p e s m below meth c b cA D A ad0 h hb => ok_iconst h.1 ⟨by decide, by decide⟩ dLw5_624)) <|
  tcG (sLw (fun p e s m below meth c b cA D A ad0 h hb => ok_lret h dLw5_625)) <|
  tcG (sLw (fun p e s m below meth c b cA D A ad0 h hb => ok_iload h.1 dLw5_626)) <|
  tcG (sLw (fun p e s m below meth c b cA D A ad0 h hb => ok_if_ne h.1 643 (by decide) dLw5_628)) <|
  tcG (sLw (fun p e s m below meth c b cA D A ad0 h hb => ok_aload_n h.1 3 rfl dLw5_631)) <|
  tcG (sLw (fun p e s m below meth c b cA D A ad0 h hb => ok_iconst h.1 ⟨by decide, by decide⟩ dLw5_632)) <|
  tcG (sLw (fun p e s m below meth c b cA D A ad0 h hb => ok_lald h.1 dLw5_633)) <|
  tcG (sLw (fun p e s m below meth c b cA D A ad0 h hb => ok_iload h.1 dLw5_634)) <|
  tcG (sLw (fun p e s m below meth c b cA D A ad0 h hb => ok_i2l h.1 dLw5_636)) <|
  tcG (sLw (fun p e s m below meth c b cA D A ad0 h hb => ok_lcmp h.1 dLw5_637)) <|
  tcG (sLw (fun p e s m below meth c b cA D A ad0 h hb => ok_if_eq h.1 643 (by decide) dLw5_638)) <|
  tcG (sLw (fun p e s m below meth c b cA D A ad0 h hb => ok_iconst h.1 ⟨by decide, by decide⟩ dLw5_641)) <|
  tcG (sLw (fun p e s m below meth c b cA D A ad0 h hb => ok_lret h dLw5_642)) <|
  tcG (sLw (fun p e s m below meth c b cA D A ad0 h hb => ok_goto h.1 1969 (by decide) dLw5_643)) <|
  tnG
abbrev cuLw5 : List Nat := [600, 613, 619, 1969]
theorem wLw5_1969 {l : Launch} {L : Nat} {xs : Nat → Int32} {J : aK} {W : Nat → aK} (hW : isW (tbLw5 l L xs) cuLw5 J W) (n : Nat) (ls st : List aV) (μ : aM) (g : Nat) : W (n + 1) 1969 ls st μ g = J 1969 ls st μ g := (hW n 1969 ls st μ g).trans rfl
theorem tLw5_588 (l : Launch) (L : Nat) (xs : Nat → Int32) : tb (tbLw5 l L xs) 588 = sLd 1 589 isR := (rfl)
theorem wLw5_588 {l : Launch} {L : Nat} {xs : Nat → Int32} {J : aK} {W : Nat → aK} (hW : isW (tbLw5 l L xs) cuLw5 J W) (n : Nat) (ls st : List aV) (μ : aM) (g : Nat) : W (n + 1) 588 ls st μ g = (sLd 1 589 isR) (W n) ls st μ g := (hW n 588 ls st μ g).trans rfl
theorem wLw5_589 {l : Launch} {L : Nat} {xs : Nat → Int32} {J : aK} {W : Nat → aK} (hW : isW (tbLw5 l L xs) cuLw5 J W) (n : Nat) (ls st : List aV) (μ : aM) (g : Nat) : W (n + 1) 589 ls st μ g = (sLd 0 590 isR) (W n) ls st μ g := (hW n 589 ls st μ g).trans rfl
theorem wLw5_590 {l : Launch} {L : Nat} {xs : Nat → Int32} {J : aK} {W : Nat → aK} (hW : isW (tbLw5 l L xs) cuLw5 J W) (n : Nat) (ls st : List aV) (μ : aM) (g : Nat) : W (n + 1) 590 ls st μ g = (sLd 5 592 isI) (W n) ls st μ g := (hW n 590 ls st μ g).trans rfl
theorem wLw5_592 {l : Launch} {L : Nat} {xs : Nat → Int32} {J : aK} {W : Nat → aK} (hW : isW (tbLw5 l L xs) cuLw5 J W) (n : Nat) (ls st : List aV) (μ : aM) (g : Nat) : W (n + 1) 592 ls st μ g = (sPush (aI 1) 593) (W n) ls st μ g := (hW n 592 ls st μ g).trans rfl
theorem wLw5_593 {l : Launch} {L : Nat} {xs : Nat → Int32} {J : aK} {W : Nat → aK} (hW : isW (tbLw5 l L xs) cuLw5 J W) (n : Nat) (ls st : List aV) (μ : aM) (g : Nat) : W (n + 1) 593 ls st μ g = (sBin fAdd 594) (W n) ls st μ g := (hW n 593 ls st μ g).trans rfl
theorem wLw5_594 {l : Launch} {L : Nat} {xs : Nat → Int32} {J : aK} {W : Nat → aK} (hW : isW (tbLw5 l L xs) cuLw5 J W) (n : Nat) (ls st : List aV) (μ : aM) (g : Nat) : W (n + 1) 594 ls st μ g = (sSld L xs 595) (W n) ls st μ g := (hW n 594 ls st μ g).trans rfl
theorem wLw5_595 {l : Launch} {L : Nat} {xs : Nat → Int32} {J : aK} {W : Nat → aK} (hW : isW (tbLw5 l L xs) cuLw5 J W) (n : Nat) (ls st : List aV) (μ : aM) (g : Nat) : W (n + 1) 595 ls st μ g = (sUn fI2c 596) (W n) ls st μ g := (hW n 595 ls st μ g).trans rfl
theorem wLw5_596 {l : Launch} {L : Nat} {xs : Nat → Int32} {J : aK} {W : Nat → aK} (hW : isW (tbLw5 l L xs) cuLw5 J W) (n : Nat) (ls st : List aV) (μ : aM) (g : Nat) : W (n + 1) 596 ls st μ g = (sLd 3 597 isR) (W n) ls st μ g := (hW n 596 ls st μ g).trans rfl
theorem wLw5_597 {l : Launch} {L : Nat} {xs : Nat → Int32} {J : aK} {W : Nat → aK} (hW : isW (tbLw5 l L xs) cuLw5 J W) (n : Nat) (ls st : List aV) (μ : aM) (g : Nat) : W (n + 1) 597 ls st μ g = (sCallS 3 (fun as μ K => CtH l mdL_setRule hhL_setRule as μ K) 600 1 3600) (W n) ls st μ g := (hW n 597 ls st μ g).trans rfl
theorem tLw5_600 (l : Launch) (L : Nat) (xs : Nat → Int32) : tb (tbLw5 l L xs) 600 = sSt 6 602 isI := (rfl)
theorem wLw5_600 {l : Launch} {L : Nat} {xs : Nat → Int32} {J : aK} {W : Nat → aK} (hW : isW (tbLw5 l L xs) cuLw5 J W) (n : Nat) (ls st : List aV) (μ : aM) (g : Nat) : W (n + 1) 600 ls st μ g = J 600 ls st μ g := (hW n 600 ls st μ g).trans rfl
theorem wLw5_602 {l : Launch} {L : Nat} {xs : Nat → Int32} {J : aK} {W : Nat → aK} (hW : isW (tbLw5 l L xs) cuLw5 J W) (n : Nat) (ls st : List aV) (μ : aM) (g : Nat) : W (n + 1) 602 ls st μ g = (sLd 2 603 isR) (W n) ls st μ g := (hW n 602 ls st μ g).trans rfl
theorem wLw5_603 {l : Launch} {L : Nat} {xs : Nat → Int32} {J : aK} {W : Nat → aK} (hW : isW (tbLw5 l L xs) cuLw5 J W) (n : Nat) (ls st : List aV) (μ : aM) (g : Nat) : W (n + 1) 603 ls st μ g = (sLd 0 604 isR) (W n) ls st μ g := (hW n 603 ls st μ g).trans rfl
theorem wLw5_604 {l : Launch} {L : Nat} {xs : Nat → Int32} {J : aK} {W : Nat → aK} (hW : isW (tbLw5 l L xs) cuLw5 J W) (n : Nat) (ls st : List aV) (μ : aM) (g : Nat) : W (n + 1) 604 ls st μ g = (sLd 5 606 isI) (W n) ls st μ g := (hW n 604 ls st μ g).trans rfl
theorem wLw5_606 {l : Launch} {L : Nat} {xs : Nat → Int32} {J : aK} {W : Nat → aK} (hW : isW (tbLw5 l L xs) cuLw5 J W) (n : Nat) (ls st : List aV) (μ : aM) (g : Nat) : W (n + 1) 606 ls st μ g = (sPush (aI 1) 607) (W n) ls st μ g := (hW n 606 ls st μ g).trans rfl
theorem wLw5_607 {l : Launch} {L : Nat} {xs : Nat → Int32} {J : aK} {W : Nat → aK} (hW : isW (tbLw5 l L xs) cuLw5 J W) (n : Nat) (ls st : List aV) (μ : aM) (g : Nat) : W (n + 1) 607 ls st μ g = (sBin fAdd 608) (W n) ls st μ g := (hW n 607 ls st μ g).trans rfl
theorem wLw5_608 {l : Launch} {L : Nat} {xs : Nat → Int32} {J : aK} {W : Nat → aK} (hW : isW (tbLw5 l L xs) cuLw5 J W) (n : Nat) (ls st : List aV) (μ : aM) (g : Nat) : W (n + 1) 608 ls st μ g = (sSld L xs 609) (W n) ls st μ g := (hW n 608 ls st μ g).trans rfl
theorem wLw5_609 {l : Launch} {L : Nat} {xs : Nat → Int32} {J : aK} {W : Nat → aK} (hW : isW (tbLw5 l L xs) cuLw5 J W) (n : Nat) (ls st : List aV) (μ : aM) (g : Nat) : W (n + 1) 609 ls st μ g = (sUn fI2c 610) (W n) ls st μ g := (hW n 609 ls st μ g).trans rfl
theorem wLw5_610 {l : Launch} {L : Nat} {xs : Nat → Int32} {J : aK} {W : Nat → aK} (hW : isW (tbLw5 l L xs) cuLw5 J W) (n : Nat) (ls st : List aV) (μ : aM) (g : Nat) : W (n + 1) 610 ls st μ g = (sCallV 1 5 (fun as μ K => Ct l mdX5_setRule as μ K nX) 613 0 3600) (W n) ls st μ g := (hW n 610 ls st μ g).trans rfl
theorem tLw5_613 (l : Launch) (L : Nat) (xs : Nat → Int32) : tb (tbLw5 l L xs) 613 = sSt 7 615 isI := (rfl)
theorem wLw5_613 {l : Launch} {L : Nat} {xs : Nat → Int32} {J : aK} {W : Nat → aK} (hW : isW (tbLw5 l L xs) cuLw5 J W) (n : Nat) (ls st : List aV) (μ : aM) (g : Nat) : W (n + 1) 613 ls st μ g = J 613 ls st μ g := (hW n 613 ls st μ g).trans rfl
theorem wLw5_615 {l : Launch} {L : Nat} {xs : Nat → Int32} {J : aK} {W : Nat → aK} (hW : isW (tbLw5 l L xs) cuLw5 J W) (n : Nat) (ls st : List aV) (μ : aM) (g : Nat) : W (n + 1) 615 ls st μ g = (sLd 2 616 isR) (W n) ls st μ g := (hW n 615 ls st μ g).trans rfl
theorem wLw5_616 {l : Launch} {L : Nat} {xs : Nat → Int32} {J : aK} {W : Nat → aK} (hW : isW (tbLw5 l L xs) cuLw5 J W) (n : Nat) (ls st : List aV) (μ : aM) (g : Nat) : W (n + 1) 616 ls st μ g = (sCallV 0 5 (fun as μ K => Ct l mdX5_thrown as μ K nX) 619 0 3600) (W n) ls st μ g := (hW n 616 ls st μ g).trans rfl
theorem tLw5_619 (l : Launch) (L : Nat) (xs : Nat → Int32) : tb (tbLw5 l L xs) 619 = sLd 6 621 isI := (rfl)
theorem wLw5_619 {l : Launch} {L : Nat} {xs : Nat → Int32} {J : aK} {W : Nat → aK} (hW : isW (tbLw5 l L xs) cuLw5 J W) (n : Nat) (ls st : List aV) (μ : aM) (g : Nat) : W (n + 1) 619 ls st μ g = J 619 ls st μ g := (hW n 619 ls st μ g).trans rfl
theorem wLw5_621 {l : Launch} {L : Nat} {xs : Nat → Int32} {J : aK} {W : Nat → aK} (hW : isW (tbLw5 l L xs) cuLw5 J W) (n : Nat) (ls st : List aV) (μ : aM) (g : Nat) : W (n + 1) 621 ls st μ g = (sIc qEq 626 624) (W n) ls st μ g := (hW n 621 ls st μ g).trans rfl
theorem wLw5_624 {l : Launch} {L : Nat} {xs : Nat → Int32} {J : aK} {W : Nat → aK} (hW : isW (tbLw5 l L xs) cuLw5 J W) (n : Nat) (ls st : List aV) (μ : aM) (g : Nat) : W (n + 1) 624 ls st μ g = (sPush (aI 0) 625) (W n) ls st μ g := (hW n 624 ls st μ g).trans rfl
theorem wLw5_625 {l : Launch} {L : Nat} {xs : Nat → Int32} {J : aK} {W : Nat → aK} (hW : isW (tbLw5 l L xs) cuLw5 J W) (n : Nat) (ls st : List aV) (μ : aM) (g : Nat) : W (n + 1) 625 ls st μ g = (sLret) (W n) ls st μ g := (hW n 625 ls st μ g).trans rfl
theorem wLw5_626 {l : Launch} {L : Nat} {xs : Nat → Int32} {J : aK} {W : Nat → aK} (hW : isW (tbLw5 l L xs) cuLw5 J W) (n : Nat) (ls st : List aV) (μ : aM) (g : Nat) : W (n + 1) 626 ls st μ g = (sLd 6 628 isI) (W n) ls st μ g := (hW n 626 ls st μ g).trans rfl
theorem wLw5_628 {l : Launch} {L : Nat} {xs : Nat → Int32} {J : aK} {W : Nat → aK} (hW : isW (tbLw5 l L xs) cuLw5 J W) (n : Nat) (ls st : List aV) (μ : aM) (g : Nat) : W (n + 1) 628 ls st μ g = (sIf pNe 643 631) (W n) ls st μ g := (hW n 628 ls st μ g).trans rfl
theorem wLw5_631 {l : Launch} {L : Nat} {xs : Nat → Int32} {J : aK} {W : Nat → aK} (hW : isW (tbLw5 l L xs) cuLw5 J W) (n : Nat) (ls st : List aV) (μ : aM) (g : Nat) : W (n + 1) 631 ls st μ g = (sLd 3 632 isR) (W n) ls st μ g := (hW n 631 ls st μ g).trans rfl
theorem wLw5_632 {l : Launch} {L : Nat} {xs : Nat → Int32} {J : aK} {W : Nat → aK} (hW : isW (tbLw5 l L xs) cuLw5 J W) (n : Nat) (ls st : List aV) (μ : aM) (g : Nat) : W (n + 1) 632 ls st μ g = (sPush (aI 0) 633) (W n) ls st μ g := (hW n 632 ls st μ g).trans rfl
theorem wLw5_633 {l : Launch} {L : Nat} {xs : Nat → Int32} {J : aK} {W : Nat → aK} (hW : isW (tbLw5 l L xs) cuLw5 J W) (n : Nat) (ls st : List aV) (μ : aM) (g : Nat) : W (n + 1) 633 ls st μ g = (sAldL 634) (W n) ls st μ g := (hW n 633 ls st μ g).trans rfl
theorem wLw5_634 {l : Launch} {L : Nat} {xs : Nat → Int32} {J : aK} {W : Nat → aK} (hW : isW (tbLw5 l L xs) cuLw5 J W) (n : Nat) (ls st : List aV) (μ : aM) (g : Nat) : W (n + 1) 634 ls st μ g = (sLd 7 636 isI) (W n) ls st μ g := (hW n 634 ls st μ g).trans rfl
theorem wLw5_636 {l : Launch} {L : Nat} {xs : Nat → Int32} {J : aK} {W : Nat → aK} (hW : isW (tbLw5 l L xs) cuLw5 J W) (n : Nat) (ls st : List aV) (μ : aM) (g : Nat) : W (n + 1) 636 ls st μ g = (sI2l 637) (W n) ls st μ g := (hW n 636 ls st μ g).trans rfl
theorem wLw5_637 {l : Launch} {L : Nat} {xs : Nat → Int32} {J : aK} {W : Nat → aK} (hW : isW (tbLw5 l L xs) cuLw5 J W) (n : Nat) (ls st : List aV) (μ : aM) (g : Nat) : W (n + 1) 637 ls st μ g = (sLcmp 638) (W n) ls st μ g := (hW n 637 ls st μ g).trans rfl
theorem wLw5_638 {l : Launch} {L : Nat} {xs : Nat → Int32} {J : aK} {W : Nat → aK} (hW : isW (tbLw5 l L xs) cuLw5 J W) (n : Nat) (ls st : List aV) (μ : aM) (g : Nat) : W (n + 1) 638 ls st μ g = (sIf pEq 643 641) (W n) ls st μ g := (hW n 638 ls st μ g).trans rfl
theorem wLw5_641 {l : Launch} {L : Nat} {xs : Nat → Int32} {J : aK} {W : Nat → aK} (hW : isW (tbLw5 l L xs) cuLw5 J W) (n : Nat) (ls st : List aV) (μ : aM) (g : Nat) : W (n + 1) 641 ls st μ g = (sPush (aI 0) 642) (W n) ls st μ g := (hW n 641 ls st μ g).trans rfl
theorem wLw5_642 {l : Launch} {L : Nat} {xs : Nat → Int32} {J : aK} {W : Nat → aK} (hW : isW (tbLw5 l L xs) cuLw5 J W) (n : Nat) (ls st : List aV) (μ : aM) (g : Nat) : W (n + 1) 642 ls st μ g = (sLret) (W n) ls st μ g := (hW n 642 ls st μ g).trans rfl
theorem wLw5_643 {l : Launch} {L : Nat} {xs : Nat → Int32} {J : aK} {W : Nat → aK} (hW : isW (tbLw5 l L xs) cuLw5 J W) (n : Nat) (ls st : List aV) (μ : aM) (g : Nat) : W (n + 1) 643 ls st μ g = (sGoto 1969) (W n) ls st μ g := (hW n 643 ls st μ g).trans rfl
theorem dLw6_646 : decode code 646 = .ok (.aload_n 1, 1) := by decide +kernel
theorem dLw6_647 : decode code 647 = .ok (.aload_n 3, 1) := by decide +kernel
theorem dLw6_648 : decode code 648 = .ok (.invokestatic 142, 3) := by decide +kernel
theorem dLw6_651 : decode code 651 = .ok (.istore 6, 2) := by decide +kernel
theorem dLw6_653 : decode code 653 = .ok (.aload_n 2, 1) := by decide +kernel
theorem dLw6_654 : decode code 654 = .ok (.invokevirtual 145, 3) := by decide +kernel
theorem dLw6_657 : decode code 657 = .ok (.istore 7, 2) := by decide +kernel
theorem dLw6_659 : decode code 659 = .ok (.aload_n 2, 1) := by decide +kernel
theorem dLw6_660 : decode code 660 = .ok (.invokevirtual 121, 3) := by decide +kernel
theorem dLw6_663 : decode code 663 = .ok (.iload 6, 2) := by decide +kernel
theorem dLw6_665 : decode code 665 = .ok (.if_icmp .eq 5, 3) := by decide +kernel
theorem dLw6_668 : decode code 668 = .ok (.iconst 0, 1) := by decide +kernel
theorem dLw6_669 : decode code 669 = .ok (.ireturn, 1) := by decide +kernel
theorem dLw6_670 : decode code 670 = .ok (.iload 6, 2) := by decide +kernel
theorem dLw6_672 : decode code 672 = .ok (.ifCond .ne 15, 3) := by decide +kernel
theorem dLw6_675 : decode code 675 = .ok (.aload_n 3, 1) := by decide +kernel
theorem dLw6_676 : decode code 676 = .ok (.iconst 0, 1) := by decide +kernel
theorem dLw6_677 : decode code 677 = .ok (.laload, 1) := by decide +kernel
theorem dLw6_678 : decode code 678 = .ok (.iload 7, 2) := by decide +kernel
theorem dLw6_680 : decode code 680 = .ok (.i2l, 1) := by decide +kernel
theorem dLw6_681 : decode code 681 = .ok (.lcmp, 1) := by decide +kernel
theorem dLw6_682 : decode code 682 = .ok (.ifCond .eq 5, 3) := by decide +kernel
theorem dLw6_685 : decode code 685 = .ok (.iconst 0, 1) := by decide +kernel
theorem dLw6_686 : decode code 686 = .ok (.ireturn, 1) := by decide +kernel
theorem dLw6_687 : decode code 687 = .ok (.goto 1282, 3) := by decide +kernel
def tbLw6 (l : Launch) (L : Nat) (xs : Nat → Int32) : aTb := [
  (646, sLd 1 647 isR),
  (647, sLd 3 648 isR),
  (648, sCallS 2 (fun as μ K => CtH l mdL_halt hhL_halt as μ K) 651 1 3600),
  (651, sSt 6 653 isI),
  (653, sLd 2 654 isR),
  (654, sCallV 0 5 (fun as μ K => Ct l mdX5_halt as μ K nX) 657 0 3600),
  (657, sSt 7 659 isI),
  (659, sLd 2 660 isR),
  (660, sCallV 0 5 (fun as μ K => Ct l mdX5_thrown as μ K nX) 663 0 3600),
  (663, sLd 6 665 isI),
  (665, sIc qEq 670 668),
  (668, sPush (aI 0) 669),
  (669, sLret),
  (670, sLd 6 672 isI),
  (672, sIf pNe 687 675),
  (675, sLd 3 676 isR),
  (676, sPush (aI 0) 677),
  (677, sAldL 678),
  (678, sLd 7 680 isI),
  (680, sI2l 681),
  (681, sLcmp 682),
  (682, sIf pEq 687 685),
  (685, sPush (aI 0) 686),
  (686, sLret),
  (687, sGoto 1969)]
theorem snLw6 (l : Launch) (L : Nat) (xs : Nat → Int32) (hL3 : L ≤ 3072) : ∀ q ∈ tbLw6 l L xs, Snd (BL l L xs) q.1 q.2 :=
  tcG (sLw (fun p e s m below meth c b cA D A ad0 h hb => ok_aload_n h.1 1 rfl dLw6_646)) <|
  tcG (sLw (fun p e s m below meth c b cA D A ad0 h hb => ok_aload_n h.1 3 rfl dLw6_647)) <|
  tcG (sLw (fun p e s m below meth c b cA D A ad0 h hb => ok_callSH h.1 h.2.1 (show 3600 ≤ room_1.cells ∧ 2000 * 3600 ≤ room_1.slots from ⟨Nat.le_of_ble_eq_true rfl, Nat.le_of_ble_eq_true rfl⟩) mdL_halt hhL_halt siL_halt mkRL_142 stL_halt ⟨by decide, by decide⟩ dLw6_648)) <|
  tcG (sLw (fun p e s m below meth c b cA D A ad0 h hb => ok_istore h.1 (by decide) dLw6_651)) <|
  tcG (sLw (fun p e s m below meth c b cA D A ad0 h hb => ok_aload_n h.1 2 rfl dLw6_653)) <|
  tcG (sLw (fun p e s m below meth c b cA D A ad0 h hb => ok_callV h.1 h.2.1 (show 3600 ≤ room_1.cells ∧ 2000 * 3600 ≤ room_1.slots from ⟨Nat.le_of_ble_eq_true rfl, Nat.le_of_ble_eq_true rfl⟩) mdX5_halt siX5_halt cxX5 mkRL_145 imX5_halt seX5_halt ⟨by decide, by decide⟩ aAx_no dLw6_654)) <|
  tcG (sLw (fun p e s m below meth c b cA D A ad0 h hb => ok_istore h.1 (by decide) dLw6_657)) <|
  tcG (sLw (fun p e s m below meth c b cA D A ad0 h hb => ok_aload_n h.1 2 rfl dLw6_659)) <|
  tcG (sLw (fun p e s m below meth c b cA D A ad0 h hb => ok_callV h.1 h.2.1 (show 3600 ≤ room_1.cells ∧ 2000 * 3600 ≤ room_1.slots from ⟨Nat.le_of_ble_eq_true rfl, Nat.le_of_ble_eq_true rfl⟩) mdX5_thrown siX5_thrown cxX5 mkRL_121 imX5_thrown seX5_thrown ⟨by decide, by decide⟩ aAx_no dLw6_660)) <|
  tcG (sLw (fun p e s m below meth c b cA D A ad0 h hb => ok_iload h.1 dLw6_663)) <|
  tcG (sLw (fun p e s m below meth c b cA D A ad0 h hb => ok_icmp_eq h.1 670 (by decide) dLw6_665)) <|
  tcG (sLw (fun p e s m below meth c b cA D A ad0 h hb => ok_iconst h.1 ⟨by decide, by decide⟩ dLw6_668)) <|
  tcG (sLw (fun p e s m below meth c b cA D A ad0 h hb => ok_lret h dLw6_669)) <|
  tcG (sLw (fun p e s m below meth c b cA D A ad0 h hb => ok_iload h.1 dLw6_670)) <|
  tcG (sLw (fun p e s m below meth c b cA D A ad0 h hb => ok_if_ne h.1 687 (by decide) dLw6_672)) <|
  tcG (sLw (fun p e s m below meth c b cA D A ad0 h hb => ok_aload_n h.1 3 rfl dLw6_675)) <|
  tcG (sLw (fun p e s m below meth c b cA D A ad0 h hb => ok_iconst h.1 ⟨by decide, by decide⟩ dLw6_676)) <|
  tcG (sLw (fun p e s m below meth c b cA D A ad0 h hb => ok_lald h.1 dLw6_677)) <|
  tcG (sLw (fun p e s m below meth c b cA D A ad0 h hb => ok_iload h.1 dLw6_678)) <|
  tcG (sLw (fun p e s m below meth c b cA D A ad0 h hb => ok_i2l h.1 dLw6_680)) <|
  tcG (sLw (fun p e s m below meth c b cA D A ad0 h hb => ok_lcmp h.1 dLw6_681)) <|
  tcG (sLw (fun p e s m below meth c b cA D A ad0 h hb => ok_if_eq h.1 687 (by decide) dLw6_682)) <|
  tcG (sLw (fun p e s m below meth c b cA D A ad0 h hb => ok_iconst h.1 ⟨by decide, by decide⟩ dLw6_685)) <|
  tcG (sLw (fun p e s m below meth c b cA D A ad0 h hb => ok_lret h dLw6_686)) <|
  tcG (sLw (fun p e s m below meth c b cA D A ad0 h hb => ok_goto h.1 1969 (by decide) dLw6_687)) <|
  tnG
abbrev cuLw6 : List Nat := [651, 657, 663, 1969]
theorem wLw6_1969 {l : Launch} {L : Nat} {xs : Nat → Int32} {J : aK} {W : Nat → aK} (hW : isW (tbLw6 l L xs) cuLw6 J W) (n : Nat) (ls st : List aV) (μ : aM) (g : Nat) : W (n + 1) 1969 ls st μ g = J 1969 ls st μ g := (hW n 1969 ls st μ g).trans rfl
theorem tLw6_646 (l : Launch) (L : Nat) (xs : Nat → Int32) : tb (tbLw6 l L xs) 646 = sLd 1 647 isR := (rfl)
theorem wLw6_646 {l : Launch} {L : Nat} {xs : Nat → Int32} {J : aK} {W : Nat → aK} (hW : isW (tbLw6 l L xs) cuLw6 J W) (n : Nat) (ls st : List aV) (μ : aM) (g : Nat) : W (n + 1) 646 ls st μ g = (sLd 1 647 isR) (W n) ls st μ g := (hW n 646 ls st μ g).trans rfl
theorem wLw6_647 {l : Launch} {L : Nat} {xs : Nat → Int32} {J : aK} {W : Nat → aK} (hW : isW (tbLw6 l L xs) cuLw6 J W) (n : Nat) (ls st : List aV) (μ : aM) (g : Nat) : W (n + 1) 647 ls st μ g = (sLd 3 648 isR) (W n) ls st μ g := (hW n 647 ls st μ g).trans rfl
theorem wLw6_648 {l : Launch} {L : Nat} {xs : Nat → Int32} {J : aK} {W : Nat → aK} (hW : isW (tbLw6 l L xs) cuLw6 J W) (n : Nat) (ls st : List aV) (μ : aM) (g : Nat) : W (n + 1) 648 ls st μ g = (sCallS 2 (fun as μ K => CtH l mdL_halt hhL_halt as μ K) 651 1 3600) (W n) ls st μ g := (hW n 648 ls st μ g).trans rfl
theorem tLw6_651 (l : Launch) (L : Nat) (xs : Nat → Int32) : tb (tbLw6 l L xs) 651 = sSt 6 653 isI := (rfl)
theorem wLw6_651 {l : Launch} {L : Nat} {xs : Nat → Int32} {J : aK} {W : Nat → aK} (hW : isW (tbLw6 l L xs) cuLw6 J W) (n : Nat) (ls st : List aV) (μ : aM) (g : Nat) : W (n + 1) 651 ls st μ g = J 651 ls st μ g := (hW n 651 ls st μ g).trans rfl
theorem wLw6_653 {l : Launch} {L : Nat} {xs : Nat → Int32} {J : aK} {W : Nat → aK} (hW : isW (tbLw6 l L xs) cuLw6 J W) (n : Nat) (ls st : List aV) (μ : aM) (g : Nat) : W (n + 1) 653 ls st μ g = (sLd 2 654 isR) (W n) ls st μ g := (hW n 653 ls st μ g).trans rfl
theorem wLw6_654 {l : Launch} {L : Nat} {xs : Nat → Int32} {J : aK} {W : Nat → aK} (hW : isW (tbLw6 l L xs) cuLw6 J W) (n : Nat) (ls st : List aV) (μ : aM) (g : Nat) : W (n + 1) 654 ls st μ g = (sCallV 0 5 (fun as μ K => Ct l mdX5_halt as μ K nX) 657 0 3600) (W n) ls st μ g := (hW n 654 ls st μ g).trans rfl
theorem tLw6_657 (l : Launch) (L : Nat) (xs : Nat → Int32) : tb (tbLw6 l L xs) 657 = sSt 7 659 isI := (rfl)
theorem wLw6_657 {l : Launch} {L : Nat} {xs : Nat → Int32} {J : aK} {W : Nat → aK} (hW : isW (tbLw6 l L xs) cuLw6 J W) (n : Nat) (ls st : List aV) (μ : aM) (g : Nat) : W (n + 1) 657 ls st μ g = J 657 ls st μ g := (hW n 657 ls st μ g).trans rfl
theorem wLw6_659 {l : Launch} {L : Nat} {xs : Nat → Int32} {J : aK} {W : Nat → aK} (hW : isW (tbLw6 l L xs) cuLw6 J W) (n : Nat) (ls st : List aV) (μ : aM) (g : Nat) : W (n + 1) 659 ls st μ g = (sLd 2 660 isR) (W n) ls st μ g := (hW n 659 ls st μ g).trans rfl
theorem wLw6_660 {l : Launch} {L : Nat} {xs : Nat → Int32} {J : aK} {W : Nat → aK} (hW : isW (tbLw6 l L xs) cuLw6 J W) (n : Nat) (ls st : List aV) (μ : aM) (g : Nat) : W (n + 1) 660 ls st μ g = (sCallV 0 5 (fun as μ K => Ct l mdX5_thrown as μ K nX) 663 0 3600) (W n) ls st μ g := (hW n 660 ls st μ g).trans rfl
theorem tLw6_663 (l : Launch) (L : Nat) (xs : Nat → Int32) : tb (tbLw6 l L xs) 663 = sLd 6 665 isI := (rfl)
theorem wLw6_663 {l : Launch} {L : Nat} {xs : Nat → Int32} {J : aK} {W : Nat → aK} (hW : isW (tbLw6 l L xs) cuLw6 J W) (n : Nat) (ls st : List aV) (μ : aM) (g : Nat) : W (n + 1) 663 ls st μ g = J 663 ls st μ g := (hW n 663 ls st μ g).trans rfl
theorem wLw6_665 {l : Launch} {L : Nat} {xs : Nat → Int32} {J : aK} {W : Nat → aK} (hW : isW (tbLw6 l L xs) cuLw6 J W) (n : Nat) (ls st : List aV) (μ : aM) (g : Nat) : W (n + 1) 665 ls st μ g = (sIc qEq 670 668) (W n) ls st μ g := (hW n 665 ls st μ g).trans rfl
theorem wLw6_668 {l : Launch} {L : Nat} {xs : Nat → Int32} {J : aK} {W : Nat → aK} (hW : isW (tbLw6 l L xs) cuLw6 J W) (n : Nat) (ls st : List aV) (μ : aM) (g : Nat) : W (n + 1) 668 ls st μ g = (sPush (aI 0) 669) (W n) ls st μ g := (hW n 668 ls st μ g).trans rfl
theorem wLw6_669 {l : Launch} {L : Nat} {xs : Nat → Int32} {J : aK} {W : Nat → aK} (hW : isW (tbLw6 l L xs) cuLw6 J W) (n : Nat) (ls st : List aV) (μ : aM) (g : Nat) : W (n + 1) 669 ls st μ g = (sLret) (W n) ls st μ g := (hW n 669 ls st μ g).trans rfl
theorem wLw6_670 {l : Launch} {L : Nat} {xs : Nat → Int32} {J : aK} {W : Nat → aK} (hW : isW (tbLw6 l L xs) cuLw6 J W) (n : Nat) (ls st : List aV) (μ : aM) (g : Nat) : W (n + 1) 670 ls st μ g = (sLd 6 672 isI) (W n) ls st μ g := (hW n 670 ls st μ g).trans rfl
theorem wLw6_672 {l : Launch} {L : Nat} {xs : Nat → Int32} {J : aK} {W : Nat → aK} (hW : isW (tbLw6 l L xs) cuLw6 J W) (n : Nat) (ls st : List aV) (μ : aM) (g : Nat) : W (n + 1) 672 ls st μ g = (sIf pNe 687 675) (W n) ls st μ g := (hW n 672 ls st μ g).trans rfl
theorem wLw6_675 {l : Launch} {L : Nat} {xs : Nat → Int32} {J : aK} {W : Nat → aK} (hW : isW (tbLw6 l L xs) cuLw6 J W) (n : Nat) (ls st : List aV) (μ : aM) (g : Nat) : W (n + 1) 675 ls st μ g = (sLd 3 676 isR) (W n) ls st μ g := (hW n 675 ls st μ g).trans rfl
theorem wLw6_676 {l : Launch} {L : Nat} {xs : Nat → Int32} {J : aK} {W : Nat → aK} (hW : isW (tbLw6 l L xs) cuLw6 J W) (n : Nat) (ls st : List aV) (μ : aM) (g : Nat) : W (n + 1) 676 ls st μ g = (sPush (aI 0) 677) (W n) ls st μ g := (hW n 676 ls st μ g).trans rfl
theorem wLw6_677 {l : Launch} {L : Nat} {xs : Nat → Int32} {J : aK} {W : Nat → aK} (hW : isW (tbLw6 l L xs) cuLw6 J W) (n : Nat) (ls st : List aV) (μ : aM) (g : Nat) : W (n + 1) 677 ls st μ g = (sAldL 678) (W n) ls st μ g := (hW n 677 ls st μ g).trans rfl
theorem wLw6_678 {l : Launch} {L : Nat} {xs : Nat → Int32} {J : aK} {W : Nat → aK} (hW : isW (tbLw6 l L xs) cuLw6 J W) (n : Nat) (ls st : List aV) (μ : aM) (g : Nat) : W (n + 1) 678 ls st μ g = (sLd 7 680 isI) (W n) ls st μ g := (hW n 678 ls st μ g).trans rfl
theorem wLw6_680 {l : Launch} {L : Nat} {xs : Nat → Int32} {J : aK} {W : Nat → aK} (hW : isW (tbLw6 l L xs) cuLw6 J W) (n : Nat) (ls st : List aV) (μ : aM) (g : Nat) : W (n + 1) 680 ls st μ g = (sI2l 681) (W n) ls st μ g := (hW n 680 ls st μ g).trans rfl
theorem wLw6_681 {l : Launch} {L : Nat} {xs : Nat → Int32} {J : aK} {W : Nat → aK} (hW : isW (tbLw6 l L xs) cuLw6 J W) (n : Nat) (ls st : List aV) (μ : aM) (g : Nat) : W (n + 1) 681 ls st μ g = (sLcmp 682) (W n) ls st μ g := (hW n 681 ls st μ g).trans rfl
theorem wLw6_682 {l : Launch} {L : Nat} {xs : Nat → Int32} {J : aK} {W : Nat → aK} (hW : isW (tbLw6 l L xs) cuLw6 J W) (n : Nat) (ls st : List aV) (μ : aM) (g : Nat) : W (n + 1) 682 ls st μ g = (sIf pEq 687 685) (W n) ls st μ g := (hW n 682 ls st μ g).trans rfl
theorem wLw6_685 {l : Launch} {L : Nat} {xs : Nat → Int32} {J : aK} {W : Nat → aK} (hW : isW (tbLw6 l L xs) cuLw6 J W) (n : Nat) (ls st : List aV) (μ : aM) (g : Nat) : W (n + 1) 685 ls st μ g = (sPush (aI 0) 686) (W n) ls st μ g := (hW n 685 ls st μ g).trans rfl
theorem wLw6_686 {l : Launch} {L : Nat} {xs : Nat → Int32} {J : aK} {W : Nat → aK} (hW : isW (tbLw6 l L xs) cuLw6 J W) (n : Nat) (ls st : List aV) (μ : aM) (g : Nat) : W (n + 1) 686 ls st μ g = (sLret) (W n) ls st μ g := (hW n 686 ls st μ g).trans rfl
theorem wLw6_687 {l : Launch} {L : Nat} {xs : Nat → Int32} {J : aK} {W : Nat → aK} (hW : isW (tbLw6 l L xs) cuLw6 J W) (n : Nat) (ls st : List aV) (μ : aM) (g : Nat) : W (n + 1) 687 ls st μ g = (sGoto 1969) (W n) ls st μ g := (hW n 687 ls st μ g).trans rfl
theorem dLw7_690 : decode code 690 = .ok (.aload_n 1, 1) := by decide +kernel
theorem dLw7_691 : decode code 691 = .ok (.aload_n 3, 1) := by decide +kernel
theorem dLw7_692 : decode code 692 = .ok (.invokestatic 146, 3) := by decide +kernel
theorem dLw7_695 : decode code 695 = .ok (.istore 6, 2) := by decide +kernel
theorem dLw7_697 : decode code 697 = .ok (.aload_n 2, 1) := by decide +kernel
theorem dLw7_698 : decode code 698 = .ok (.invokevirtual 148, 3) := by decide +kernel
theorem dLw7_701 : decode code 701 = .ok (.istore 7, 2) := by decide +kernel
theorem dLw7_703 : decode code 703 = .ok (.aload_n 2, 1) := by decide +kernel
theorem dLw7_704 : decode code 704 = .ok (.invokevirtual 121, 3) := by decide +kernel
theorem dLw7_707 : decode code 707 = .ok (.iload 6, 2) := by decide +kernel
theorem dLw7_709 : decode code 709 = .ok (.if_icmp .eq 5, 3) := by decide +kernel
theorem dLw7_712 : decode code 712 = .ok (.iconst 0, 1) := by decide +kernel
theorem dLw7_713 : decode code 713 = .ok (.ireturn, 1) := by decide +kernel
theorem dLw7_714 : decode code 714 = .ok (.iload 6, 2) := by decide +kernel
theorem dLw7_716 : decode code 716 = .ok (.ifCond .ne 15, 3) := by decide +kernel
theorem dLw7_719 : decode code 719 = .ok (.aload_n 3, 1) := by decide +kernel
theorem dLw7_720 : decode code 720 = .ok (.iconst 0, 1) := by decide +kernel
theorem dLw7_721 : decode code 721 = .ok (.laload, 1) := by decide +kernel
theorem dLw7_722 : decode code 722 = .ok (.iload 7, 2) := by decide +kernel
theorem dLw7_724 : decode code 724 = .ok (.i2l, 1) := by decide +kernel
theorem dLw7_725 : decode code 725 = .ok (.lcmp, 1) := by decide +kernel
theorem dLw7_726 : decode code 726 = .ok (.ifCond .eq 5, 3) := by decide +kernel
theorem dLw7_729 : decode code 729 = .ok (.iconst 0, 1) := by decide +kernel
theorem dLw7_730 : decode code 730 = .ok (.ireturn, 1) := by decide +kernel
theorem dLw7_731 : decode code 731 = .ok (.goto 1238, 3) := by decide +kernel
def tbLw7 (l : Launch) (L : Nat) (xs : Nat → Int32) : aTb := [
  (690, sLd 1 691 isR),
  (691, sLd 3 692 isR),
  (692, sCallS 2 (fun as μ K => CtH l mdL_auction hhL_auction as μ K) 695 1 3600),
  (695, sSt 6 697 isI),
  (697, sLd 2 698 isR),
  (698, sCallV 0 5 (fun as μ K => Ct l mdX5_auction as μ K nX) 701 0 3600),
  (701, sSt 7 703 isI),
  (703, sLd 2 704 isR),
  (704, sCallV 0 5 (fun as μ K => Ct l mdX5_thrown as μ K nX) 707 0 3600),
  (707, sLd 6 709 isI),
  (709, sIc qEq 714 712),
  (712, sPush (aI 0) 713),
  (713, sLret),
  (714, sLd 6 716 isI),
  (716, sIf pNe 731 719),
  (719, sLd 3 720 isR),
  (720, sPush (aI 0) 721),
  (721, sAldL 722),
  (722, sLd 7 724 isI),
  (724, sI2l 725),
  (725, sLcmp 726),
  (726, sIf pEq 731 729),
  (729, sPush (aI 0) 730),
  (730, sLret),
  (731, sGoto 1969)]
theorem snLw7 (l : Launch) (L : Nat) (xs : Nat → Int32) (hL3 : L ≤ 3072) : ∀ q ∈ tbLw7 l L xs, Snd (BL l L xs) q.1 q.2 :=
  tcG (sLw (fun p e s m below meth c b cA D A ad0 h hb => ok_aload_n h.1 1 rfl dLw7_690)) <|
  tcG (sLw (fun p e s m below meth c b cA D A ad0 h hb => ok_aload_n h.1 3 rfl dLw7_691)) <|
  tcG (sLw (fun p e s m below meth c b cA D A ad0 h hb => ok_callSH h.1 h.2.1 (show 3600 ≤ room_1.cells ∧ 2000 * 3600 ≤ room_1.slots from ⟨Nat.le_of_ble_eq_true rfl, Nat.le_of_ble_eq_true rfl⟩) mdL_auction hhL_auction siL_auction mkRL_146 stL_auction ⟨by decide, by decide⟩ dLw7_692)) <|
  tcG (sLw (fun p e s m below meth c b cA D A ad0 h hb => ok_istore h.1 (by decide) dLw7_695)) <|
  tcG (sLw (fun p e s m below meth c b cA D A ad0 h hb => ok_aload_n h.1 2 rfl dLw7_697)) <|
  tcG (sLw (fun p e s m below meth c b cA D A ad0 h hb => ok_callV h.1 h.2.1 (show 3600 ≤ room_1.cells ∧ 2000 * 3600 ≤ room_1.slots from ⟨Nat.le_of_ble_eq_true rfl, Nat.le_of_ble_eq_true rfl⟩) mdX5_auction siX5_auction cxX5 mkRL_148 imX5_auction seX5_auction ⟨by decide, by decide⟩ aAx_no dLw7_698)) <|
  tcG (sLw (fun p e s m below meth c b cA D A ad0 h hb => ok_istore h.1 (by decide) dLw7_701)) <|
  tcG (sLw (fun p e s m below meth c b cA D A ad0 h hb => ok_aload_n h.1 2 rfl dLw7_703)) <|
  tcG (sLw (fun p e s m below meth c b cA D A ad0 h hb => ok_callV h.1 h.2.1 (show 3600 ≤ room_1.cells ∧ 2000 * 3600 ≤ room_1.slots from ⟨Nat.le_of_ble_eq_true rfl, Nat.le_of_ble_eq_true rfl⟩) mdX5_thrown siX5_thrown cxX5 mkRL_121 imX5_thrown seX5_thrown ⟨by decide, by decide⟩ aAx_no dLw7_704)) <|
  tcG (sLw (fun p e s m below meth c b cA D A ad0 h hb => ok_iload h.1 dLw7_707)) <|
  tcG (sLw (fun p e s m below meth c b cA D A ad0 h hb => ok_icmp_eq h.1 714 (by decide) dLw7_709)) <|
  tcG (sLw (fun p e s m below meth c b cA D A ad0 h hb => ok_iconst h.1 ⟨by decide, by decide⟩ dLw7_712)) <|
  tcG (sLw (fun p e s m below meth c b cA D A ad0 h hb => ok_lret h dLw7_713)) <|
  tcG (sLw (fun p e s m below meth c b cA D A ad0 h hb => ok_iload h.1 dLw7_714)) <|
  tcG (sLw (fun p e s m below meth c b cA D A ad0 h hb => ok_if_ne h.1 731 (by decide) dLw7_716)) <|
  tcG (sLw (fun p e s m below meth c b cA D A ad0 h hb => ok_aload_n h.1 3 rfl dLw7_719)) <|
  tcG (sLw (fun p e s m below meth c b cA D A ad0 h hb => ok_iconst h.1 ⟨by decide, by decide⟩ dLw7_720)) <|
  tcG (sLw (fun p e s m below meth c b cA D A ad0 h hb => ok_lald h.1 dLw7_721)) <|
  tcG (sLw (fun p e s m below meth c b cA D A ad0 h hb => ok_iload h.1 dLw7_722)) <|
  tcG (sLw (fun p e s m below meth c b cA D A ad0 h hb => ok_i2l h.1 dLw7_724)) <|
  tcG (sLw (fun p e s m below meth c b cA D A ad0 h hb => ok_lcmp h.1 dLw7_725)) <|
  tcG (sLw (fun p e s m below meth c b cA D A ad0 h hb => ok_if_eq h.1 731 (by decide) dLw7_726)) <|
  tcG (sLw (fun p e s m below meth c b cA D A ad0 h hb => ok_iconst h.1 ⟨by decide, by decide⟩ dLw7_729)) <|
  tcG (sLw (fun p e s m below meth c b cA D A ad0 h hb => ok_lret h dLw7_730)) <|
  tcG (sLw (fun p e s m below meth c b cA D A ad0 h hb => ok_goto h.1 1969 (by decide) dLw7_731)) <|
  tnG
abbrev cuLw7 : List Nat := [695, 701, 707, 1969]
theorem wLw7_1969 {l : Launch} {L : Nat} {xs : Nat → Int32} {J : aK} {W : Nat → aK} (hW : isW (tbLw7 l L xs) cuLw7 J W) (n : Nat) (ls st : List aV) (μ : aM) (g : Nat) : W (n + 1) 1969 ls st μ g = J 1969 ls st μ g := (hW n 1969 ls st μ g).trans rfl
theorem tLw7_690 (l : Launch) (L : Nat) (xs : Nat → Int32) : tb (tbLw7 l L xs) 690 = sLd 1 691 isR := (rfl)
theorem wLw7_690 {l : Launch} {L : Nat} {xs : Nat → Int32} {J : aK} {W : Nat → aK} (hW : isW (tbLw7 l L xs) cuLw7 J W) (n : Nat) (ls st : List aV) (μ : aM) (g : Nat) : W (n + 1) 690 ls st μ g = (sLd 1 691 isR) (W n) ls st μ g := (hW n 690 ls st μ g).trans rfl
theorem wLw7_691 {l : Launch} {L : Nat} {xs : Nat → Int32} {J : aK} {W : Nat → aK} (hW : isW (tbLw7 l L xs) cuLw7 J W) (n : Nat) (ls st : List aV) (μ : aM) (g : Nat) : W (n + 1) 691 ls st μ g = (sLd 3 692 isR) (W n) ls st μ g := (hW n 691 ls st μ g).trans rfl
theorem wLw7_692 {l : Launch} {L : Nat} {xs : Nat → Int32} {J : aK} {W : Nat → aK} (hW : isW (tbLw7 l L xs) cuLw7 J W) (n : Nat) (ls st : List aV) (μ : aM) (g : Nat) : W (n + 1) 692 ls st μ g = (sCallS 2 (fun as μ K => CtH l mdL_auction hhL_auction as μ K) 695 1 3600) (W n) ls st μ g := (hW n 692 ls st μ g).trans rfl
theorem tLw7_695 (l : Launch) (L : Nat) (xs : Nat → Int32) : tb (tbLw7 l L xs) 695 = sSt 6 697 isI := (rfl)
theorem wLw7_695 {l : Launch} {L : Nat} {xs : Nat → Int32} {J : aK} {W : Nat → aK} (hW : isW (tbLw7 l L xs) cuLw7 J W) (n : Nat) (ls st : List aV) (μ : aM) (g : Nat) : W (n + 1) 695 ls st μ g = J 695 ls st μ g := (hW n 695 ls st μ g).trans rfl
theorem wLw7_697 {l : Launch} {L : Nat} {xs : Nat → Int32} {J : aK} {W : Nat → aK} (hW : isW (tbLw7 l L xs) cuLw7 J W) (n : Nat) (ls st : List aV) (μ : aM) (g : Nat) : W (n + 1) 697 ls st μ g = (sLd 2 698 isR) (W n) ls st μ g := (hW n 697 ls st μ g).trans rfl
theorem wLw7_698 {l : Launch} {L : Nat} {xs : Nat → Int32} {J : aK} {W : Nat → aK} (hW : isW (tbLw7 l L xs) cuLw7 J W) (n : Nat) (ls st : List aV) (μ : aM) (g : Nat) : W (n + 1) 698 ls st μ g = (sCallV 0 5 (fun as μ K => Ct l mdX5_auction as μ K nX) 701 0 3600) (W n) ls st μ g := (hW n 698 ls st μ g).trans rfl
theorem tLw7_701 (l : Launch) (L : Nat) (xs : Nat → Int32) : tb (tbLw7 l L xs) 701 = sSt 7 703 isI := (rfl)
theorem wLw7_701 {l : Launch} {L : Nat} {xs : Nat → Int32} {J : aK} {W : Nat → aK} (hW : isW (tbLw7 l L xs) cuLw7 J W) (n : Nat) (ls st : List aV) (μ : aM) (g : Nat) : W (n + 1) 701 ls st μ g = J 701 ls st μ g := (hW n 701 ls st μ g).trans rfl
theorem wLw7_703 {l : Launch} {L : Nat} {xs : Nat → Int32} {J : aK} {W : Nat → aK} (hW : isW (tbLw7 l L xs) cuLw7 J W) (n : Nat) (ls st : List aV) (μ : aM) (g : Nat) : W (n + 1) 703 ls st μ g = (sLd 2 704 isR) (W n) ls st μ g := (hW n 703 ls st μ g).trans rfl
theorem wLw7_704 {l : Launch} {L : Nat} {xs : Nat → Int32} {J : aK} {W : Nat → aK} (hW : isW (tbLw7 l L xs) cuLw7 J W) (n : Nat) (ls st : List aV) (μ : aM) (g : Nat) : W (n + 1) 704 ls st μ g = (sCallV 0 5 (fun as μ K => Ct l mdX5_thrown as μ K nX) 707 0 3600) (W n) ls st μ g := (hW n 704 ls st μ g).trans rfl
theorem tLw7_707 (l : Launch) (L : Nat) (xs : Nat → Int32) : tb (tbLw7 l L xs) 707 = sLd 6 709 isI := (rfl)
theorem wLw7_707 {l : Launch} {L : Nat} {xs : Nat → Int32} {J : aK} {W : Nat → aK} (hW : isW (tbLw7 l L xs) cuLw7 J W) (n : Nat) (ls st : List aV) (μ : aM) (g : Nat) : W (n + 1) 707 ls st μ g = J 707 ls st μ g := (hW n 707 ls st μ g).trans rfl
theorem wLw7_709 {l : Launch} {L : Nat} {xs : Nat → Int32} {J : aK} {W : Nat → aK} (hW : isW (tbLw7 l L xs) cuLw7 J W) (n : Nat) (ls st : List aV) (μ : aM) (g : Nat) : W (n + 1) 709 ls st μ g = (sIc qEq 714 712) (W n) ls st μ g := (hW n 709 ls st μ g).trans rfl
theorem wLw7_712 {l : Launch} {L : Nat} {xs : Nat → Int32} {J : aK} {W : Nat → aK} (hW : isW (tbLw7 l L xs) cuLw7 J W) (n : Nat) (ls st : List aV) (μ : aM) (g : Nat) : W (n + 1) 712 ls st μ g = (sPush (aI 0) 713) (W n) ls st μ g := (hW n 712 ls st μ g).trans rfl
theorem wLw7_713 {l : Launch} {L : Nat} {xs : Nat → Int32} {J : aK} {W : Nat → aK} (hW : isW (tbLw7 l L xs) cuLw7 J W) (n : Nat) (ls st : List aV) (μ : aM) (g : Nat) : W (n + 1) 713 ls st μ g = (sLret) (W n) ls st μ g := (hW n 713 ls st μ g).trans rfl
theorem wLw7_714 {l : Launch} {L : Nat} {xs : Nat → Int32} {J : aK} {W : Nat → aK} (hW : isW (tbLw7 l L xs) cuLw7 J W) (n : Nat) (ls st : List aV) (μ : aM) (g : Nat) : W (n + 1) 714 ls st μ g = (sLd 6 716 isI) (W n) ls st μ g := (hW n 714 ls st μ g).trans rfl
theorem wLw7_716 {l : Launch} {L : Nat} {xs : Nat → Int32} {J : aK} {W : Nat → aK} (hW : isW (tbLw7 l L xs) cuLw7 J W) (n : Nat) (ls st : List aV) (μ : aM) (g : Nat) : W (n + 1) 716 ls st μ g = (sIf pNe 731 719) (W n) ls st μ g := (hW n 716 ls st μ g).trans rfl
theorem wLw7_719 {l : Launch} {L : Nat} {xs : Nat → Int32} {J : aK} {W : Nat → aK} (hW : isW (tbLw7 l L xs) cuLw7 J W) (n : Nat) (ls st : List aV) (μ : aM) (g : Nat) : W (n + 1) 719 ls st μ g = (sLd 3 720 isR) (W n) ls st μ g := (hW n 719 ls st μ g).trans rfl
theorem wLw7_720 {l : Launch} {L : Nat} {xs : Nat → Int32} {J : aK} {W : Nat → aK} (hW : isW (tbLw7 l L xs) cuLw7 J W) (n : Nat) (ls st : List aV) (μ : aM) (g : Nat) : W (n + 1) 720 ls st μ g = (sPush (aI 0) 721) (W n) ls st μ g := (hW n 720 ls st μ g).trans rfl
theorem wLw7_721 {l : Launch} {L : Nat} {xs : Nat → Int32} {J : aK} {W : Nat → aK} (hW : isW (tbLw7 l L xs) cuLw7 J W) (n : Nat) (ls st : List aV) (μ : aM) (g : Nat) : W (n + 1) 721 ls st μ g = (sAldL 722) (W n) ls st μ g := (hW n 721 ls st μ g).trans rfl
theorem wLw7_722 {l : Launch} {L : Nat} {xs : Nat → Int32} {J : aK} {W : Nat → aK} (hW : isW (tbLw7 l L xs) cuLw7 J W) (n : Nat) (ls st : List aV) (μ : aM) (g : Nat) : W (n + 1) 722 ls st μ g = (sLd 7 724 isI) (W n) ls st μ g := (hW n 722 ls st μ g).trans rfl
theorem wLw7_724 {l : Launch} {L : Nat} {xs : Nat → Int32} {J : aK} {W : Nat → aK} (hW : isW (tbLw7 l L xs) cuLw7 J W) (n : Nat) (ls st : List aV) (μ : aM) (g : Nat) : W (n + 1) 724 ls st μ g = (sI2l 725) (W n) ls st μ g := (hW n 724 ls st μ g).trans rfl
theorem wLw7_725 {l : Launch} {L : Nat} {xs : Nat → Int32} {J : aK} {W : Nat → aK} (hW : isW (tbLw7 l L xs) cuLw7 J W) (n : Nat) (ls st : List aV) (μ : aM) (g : Nat) : W (n + 1) 725 ls st μ g = (sLcmp 726) (W n) ls st μ g := (hW n 725 ls st μ g).trans rfl
theorem wLw7_726 {l : Launch} {L : Nat} {xs : Nat → Int32} {J : aK} {W : Nat → aK} (hW : isW (tbLw7 l L xs) cuLw7 J W) (n : Nat) (ls st : List aV) (μ : aM) (g : Nat) : W (n + 1) 726 ls st μ g = (sIf pEq 731 729) (W n) ls st μ g := (hW n 726 ls st μ g).trans rfl
theorem wLw7_729 {l : Launch} {L : Nat} {xs : Nat → Int32} {J : aK} {W : Nat → aK} (hW : isW (tbLw7 l L xs) cuLw7 J W) (n : Nat) (ls st : List aV) (μ : aM) (g : Nat) : W (n + 1) 729 ls st μ g = (sPush (aI 0) 730) (W n) ls st μ g := (hW n 729 ls st μ g).trans rfl
theorem wLw7_730 {l : Launch} {L : Nat} {xs : Nat → Int32} {J : aK} {W : Nat → aK} (hW : isW (tbLw7 l L xs) cuLw7 J W) (n : Nat) (ls st : List aV) (μ : aM) (g : Nat) : W (n + 1) 730 ls st μ g = (sLret) (W n) ls st μ g := (hW n 730 ls st μ g).trans rfl
theorem wLw7_731 {l : Launch} {L : Nat} {xs : Nat → Int32} {J : aK} {W : Nat → aK} (hW : isW (tbLw7 l L xs) cuLw7 J W) (n : Nat) (ls st : List aV) (μ : aM) (g : Nat) : W (n + 1) 731 ls st μ g = (sGoto 1969) (W n) ls st μ g := (hW n 731 ls st μ g).trans rfl
theorem dLw8_734 : decode code 734 = .ok (.aload_n 1, 1) := by decide +kernel
theorem dLw8_735 : decode code 735 = .ok (.invokevirtual 149, 3) := by decide +kernel
theorem dLw8_738 : decode code 738 = .ok (.aload_n 2, 1) := by decide +kernel
theorem dLw8_739 : decode code 739 = .ok (.invokevirtual 153, 3) := by decide +kernel
theorem dLw8_742 : decode code 742 = .ok (.if_icmp .eq 1227, 3) := by decide +kernel
theorem dLw8_745 : decode code 745 = .ok (.iconst 0, 1) := by decide +kernel
theorem dLw8_746 : decode code 746 = .ok (.ireturn, 1) := by decide +kernel
def tbLw8 (l : Launch) (L : Nat) (xs : Nat → Int32) : aTb := [
  (734, sLd 1 735 isR),
  (735, sCallV 0 4 (fun as μ K => Ct l mdX4_isHalted as μ K nX) 738 0 3600),
  (738, sLd 2 739 isR),
  (739, sCallV 0 5 (fun as μ K => Ct l mdX5_isHalted as μ K nX) 742 0 3600),
  (742, sIc qEq 1969 745),
  (745, sPush (aI 0) 746),
  (746, sLret)]
theorem snLw8 (l : Launch) (L : Nat) (xs : Nat → Int32) (hL3 : L ≤ 3072) : ∀ q ∈ tbLw8 l L xs, Snd (BL l L xs) q.1 q.2 :=
  tcG (sLw (fun p e s m below meth c b cA D A ad0 h hb => ok_aload_n h.1 1 rfl dLw8_734)) <|
  tcG (sLw (fun p e s m below meth c b cA D A ad0 h hb => ok_callV h.1 h.2.1 (show 3600 ≤ room_1.cells ∧ 2000 * 3600 ≤ room_1.slots from ⟨Nat.le_of_ble_eq_true rfl, Nat.le_of_ble_eq_true rfl⟩) mdX4_isHalted siX4_isHalted cxX4 mkRL_149 imX4_isHalted seX4_isHalted ⟨by decide, by decide⟩ aAx_no dLw8_735)) <|
  tcG (sLw (fun p e s m below meth c b cA D A ad0 h hb => ok_aload_n h.1 2 rfl dLw8_738)) <|
  tcG (sLw (fun p e s m below meth c b cA D A ad0 h hb => ok_callV h.1 h.2.1 (show 3600 ≤ room_1.cells ∧ 2000 * 3600 ≤ room_1.slots from ⟨Nat.le_of_ble_eq_true rfl, Nat.le_of_ble_eq_true rfl⟩) mdX5_isHalted siX5_isHalted cxX5 mkRL_153 imX5_isHalted seX5_isHalted ⟨by decide, by decide⟩ aAx_no dLw8_739)) <|
  tcG (sLw (fun p e s m below meth c b cA D A ad0 h hb => ok_icmp_eq h.1 1969 (by decide) dLw8_742)) <|
  tcG (sLw (fun p e s m below meth c b cA D A ad0 h hb => ok_iconst h.1 ⟨by decide, by decide⟩ dLw8_745)) <|
  tcG (sLw (fun p e s m below meth c b cA D A ad0 h hb => ok_lret h dLw8_746)) <|
  tnG
abbrev cuLw8 : List Nat := [738, 742, 1969]
theorem wLw8_1969 {l : Launch} {L : Nat} {xs : Nat → Int32} {J : aK} {W : Nat → aK} (hW : isW (tbLw8 l L xs) cuLw8 J W) (n : Nat) (ls st : List aV) (μ : aM) (g : Nat) : W (n + 1) 1969 ls st μ g = J 1969 ls st μ g := (hW n 1969 ls st μ g).trans rfl
theorem tLw8_734 (l : Launch) (L : Nat) (xs : Nat → Int32) : tb (tbLw8 l L xs) 734 = sLd 1 735 isR := (rfl)
theorem wLw8_734 {l : Launch} {L : Nat} {xs : Nat → Int32} {J : aK} {W : Nat → aK} (hW : isW (tbLw8 l L xs) cuLw8 J W) (n : Nat) (ls st : List aV) (μ : aM) (g : Nat) : W (n + 1) 734 ls st μ g = (sLd 1 735 isR) (W n) ls st μ g := (hW n 734 ls st μ g).trans rfl
theorem wLw8_735 {l : Launch} {L : Nat} {xs : Nat → Int32} {J : aK} {W : Nat → aK} (hW : isW (tbLw8 l L xs) cuLw8 J W) (n : Nat) (ls st : List aV) (μ : aM) (g : Nat) : W (n + 1) 735 ls st μ g = (sCallV 0 4 (fun as μ K => Ct l mdX4_isHalted as μ K nX) 738 0 3600) (W n) ls st μ g := (hW n 735 ls st μ g).trans rfl
theorem tLw8_738 (l : Launch) (L : Nat) (xs : Nat → Int32) : tb (tbLw8 l L xs) 738 = sLd 2 739 isR := (rfl)
theorem wLw8_738 {l : Launch} {L : Nat} {xs : Nat → Int32} {J : aK} {W : Nat → aK} (hW : isW (tbLw8 l L xs) cuLw8 J W) (n : Nat) (ls st : List aV) (μ : aM) (g : Nat) : W (n + 1) 738 ls st μ g = J 738 ls st μ g := (hW n 738 ls st μ g).trans rfl
theorem wLw8_739 {l : Launch} {L : Nat} {xs : Nat → Int32} {J : aK} {W : Nat → aK} (hW : isW (tbLw8 l L xs) cuLw8 J W) (n : Nat) (ls st : List aV) (μ : aM) (g : Nat) : W (n + 1) 739 ls st μ g = (sCallV 0 5 (fun as μ K => Ct l mdX5_isHalted as μ K nX) 742 0 3600) (W n) ls st μ g := (hW n 739 ls st μ g).trans rfl
theorem tLw8_742 (l : Launch) (L : Nat) (xs : Nat → Int32) : tb (tbLw8 l L xs) 742 = sIc qEq 1969 745 := (rfl)
theorem wLw8_742 {l : Launch} {L : Nat} {xs : Nat → Int32} {J : aK} {W : Nat → aK} (hW : isW (tbLw8 l L xs) cuLw8 J W) (n : Nat) (ls st : List aV) (μ : aM) (g : Nat) : W (n + 1) 742 ls st μ g = J 742 ls st μ g := (hW n 742 ls st μ g).trans rfl
theorem wLw8_745 {l : Launch} {L : Nat} {xs : Nat → Int32} {J : aK} {W : Nat → aK} (hW : isW (tbLw8 l L xs) cuLw8 J W) (n : Nat) (ls st : List aV) (μ : aM) (g : Nat) : W (n + 1) 745 ls st μ g = (sPush (aI 0) 746) (W n) ls st μ g := (hW n 745 ls st μ g).trans rfl
theorem wLw8_746 {l : Launch} {L : Nat} {xs : Nat → Int32} {J : aK} {W : Nat → aK} (hW : isW (tbLw8 l L xs) cuLw8 J W) (n : Nat) (ls st : List aV) (μ : aM) (g : Nat) : W (n + 1) 746 ls st μ g = (sLret) (W n) ls st μ g := (hW n 746 ls st μ g).trans rfl
theorem dLw9_747 : decode code 747 = .ok (.aload_n 1, 1) := by decide +kernel
theorem dLw9_748 : decode code 748 = .ok (.aload_n 0, 1) := by decide +kernel
theorem dLw9_749 : decode code 749 = .ok (.iload 5, 2) := by decide +kernel
theorem dLw9_751 : decode code 751 = .ok (.iconst 1, 1) := by decide +kernel
theorem dLw9_752 : decode code 752 = .ok (.iadd, 1) := by decide +kernel
theorem dLw9_753 : decode code 753 = .ok (.iaload, 1) := by decide +kernel
theorem dLw9_754 : decode code 754 = .ok (.aload_n 3, 1) := by decide +kernel
theorem dLw9_755 : decode code 755 = .ok (.invokestatic 154, 3) := by decide +kernel
theorem dLw9_758 : decode code 758 = .ok (.istore 6, 2) := by decide +kernel
theorem dLw9_760 : decode code 760 = .ok (.aload_n 2, 1) := by decide +kernel
theorem dLw9_761 : decode code 761 = .ok (.aload_n 0, 1) := by decide +kernel
theorem dLw9_762 : decode code 762 = .ok (.iload 5, 2) := by decide +kernel
theorem dLw9_764 : decode code 764 = .ok (.iconst 1, 1) := by decide +kernel
theorem dLw9_765 : decode code 765 = .ok (.iadd, 1) := by decide +kernel
theorem dLw9_766 : decode code 766 = .ok (.iaload, 1) := by decide +kernel
theorem dLw9_767 : decode code 767 = .ok (.invokevirtual 156, 3) := by decide +kernel
theorem dLw9_770 : decode code 770 = .ok (.istore 7, 2) := by decide +kernel
theorem dLw9_772 : decode code 772 = .ok (.aload_n 2, 1) := by decide +kernel
theorem dLw9_773 : decode code 773 = .ok (.invokevirtual 121, 3) := by decide +kernel
theorem dLw9_776 : decode code 776 = .ok (.iload 6, 2) := by decide +kernel
theorem dLw9_778 : decode code 778 = .ok (.if_icmp .eq 5, 3) := by decide +kernel
theorem dLw9_781 : decode code 781 = .ok (.iconst 0, 1) := by decide +kernel
theorem dLw9_782 : decode code 782 = .ok (.ireturn, 1) := by decide +kernel
theorem dLw9_783 : decode code 783 = .ok (.iload 6, 2) := by decide +kernel
theorem dLw9_785 : decode code 785 = .ok (.ifCond .ne 15, 3) := by decide +kernel
theorem dLw9_788 : decode code 788 = .ok (.aload_n 3, 1) := by decide +kernel
theorem dLw9_789 : decode code 789 = .ok (.iconst 0, 1) := by decide +kernel
theorem dLw9_790 : decode code 790 = .ok (.laload, 1) := by decide +kernel
theorem dLw9_791 : decode code 791 = .ok (.iload 7, 2) := by decide +kernel
theorem dLw9_793 : decode code 793 = .ok (.i2l, 1) := by decide +kernel
theorem dLw9_794 : decode code 794 = .ok (.lcmp, 1) := by decide +kernel
theorem dLw9_795 : decode code 795 = .ok (.ifCond .eq 5, 3) := by decide +kernel
theorem dLw9_798 : decode code 798 = .ok (.iconst 0, 1) := by decide +kernel
theorem dLw9_799 : decode code 799 = .ok (.ireturn, 1) := by decide +kernel
theorem dLw9_800 : decode code 800 = .ok (.goto 1169, 3) := by decide +kernel
def tbLw9 (l : Launch) (L : Nat) (xs : Nat → Int32) : aTb := [
  (747, sLd 1 748 isR),
  (748, sLd 0 749 isR),
  (749, sLd 5 751 isI),
  (751, sPush (aI 1) 752),
  (752, sBin fAdd 753),
  (753, sSld L xs 754),
  (754, sLd 3 755 isR),
  (755, sCallS 3 (fun as μ K => CtH l mdL_stateOf hhL_stateOf as μ K) 758 1 3600),
  (758, sSt 6 760 isI),
  (760, sLd 2 761 isR),
  (761, sLd 0 762 isR),
  (762, sLd 5 764 isI),
  (764, sPush (aI 1) 765),
  (765, sBin fAdd 766),
  (766, sSld L xs 767),
  (767, sCallV 1 5 (fun as μ K => Ct l mdX5_stateOf as μ K nX) 770 0 3600),
  (770, sSt 7 772 isI),
  (772, sLd 2 773 isR),
  (773, sCallV 0 5 (fun as μ K => Ct l mdX5_thrown as μ K nX) 776 0 3600),
  (776, sLd 6 778 isI),
  (778, sIc qEq 783 781),
  (781, sPush (aI 0) 782),
  (782, sLret),
  (783, sLd 6 785 isI),
  (785, sIf pNe 800 788),
  (788, sLd 3 789 isR),
  (789, sPush (aI 0) 790),
  (790, sAldL 791),
  (791, sLd 7 793 isI),
  (793, sI2l 794),
  (794, sLcmp 795),
  (795, sIf pEq 800 798),
  (798, sPush (aI 0) 799),
  (799, sLret),
  (800, sGoto 1969)]
theorem snLw9 (l : Launch) (L : Nat) (xs : Nat → Int32) (hL3 : L ≤ 3072) : ∀ q ∈ tbLw9 l L xs, Snd (BL l L xs) q.1 q.2 :=
  tcG (sLw (fun p e s m below meth c b cA D A ad0 h hb => ok_aload_n h.1 1 rfl dLw9_747)) <|
  tcG (sLw (fun p e s m below meth c b cA D A ad0 h hb => ok_aload_n h.1 0 rfl dLw9_748)) <|
  tcG (sLw (fun p e s m below meth c b cA D A ad0 h hb => ok_iload h.1 dLw9_749)) <|
  tcG (sLw (fun p e s m below meth c b cA D A ad0 h hb => ok_iconst h.1 ⟨by decide, by decide⟩ dLw9_751)) <|
  tcG (sLw (fun p e s m below meth c b cA D A ad0 h hb => ok_iadd h.1 dLw9_752)) <|
  tcG (sLw (fun p e s m below meth c b cA D A ad0 h hb => ok_sld h hb dLw9_753)) <|
  tcG (sLw (fun p e s m below meth c b cA D A ad0 h hb => ok_aload_n h.1 3 rfl dLw9_754)) <|
  tcG (sLw (fun p e s m below meth c b cA D A ad0 h hb => ok_callSH h.1 h.2.1 (show 3600 ≤ room_1.cells ∧ 2000 * 3600 ≤ room_1.slots from ⟨Nat.le_of_ble_eq_true rfl, Nat.le_of_ble_eq_true rfl⟩) mdL_stateOf hhL_stateOf siL_stateOf mkRL_154 stL_stateOf ⟨by decide, by decide⟩ dLw9_755)) <|
  tcG (sLw (fun p e s m below meth c b cA D A ad0 h hb => ok_istore h.1 (by decide) dLw9_758)) <|
  tcG (sLw (fun p e s m below meth c b cA D A ad0 h hb => ok_aload_n h.1 2 rfl dLw9_760)) <|
  tcG (sLw (fun p e s m below meth c b cA D A ad0 h hb => ok_aload_n h.1 0 rfl dLw9_761)) <|
  tcG (sLw (fun p e s m below meth c b cA D A ad0 h hb => ok_iload h.1 dLw9_762)) <|
  tcG (sLw (fun p e s m below meth c b cA D A ad0 h hb => ok_iconst h.1 ⟨by decide, by decide⟩ dLw9_764)) <|
  tcG (sLw (fun p e s m below meth c b cA D A ad0 h hb => ok_iadd h.1 dLw9_765)) <|
  tcG (sLw (fun p e s m below meth c b cA D A ad0 h hb => ok_sld h hb dLw9_766)) <|
  tcG (sLw (fun p e s m below meth c b cA D A ad0 h hb => ok_callV h.1 h.2.1 (show 3600 ≤ room_1.cells ∧ 2000 * 3600 ≤ room_1.slots from ⟨Nat.le_of_ble_eq_true rfl, Nat.le_of_ble_eq_true rfl⟩) mdX5_stateOf siX5_stateOf cxX5 mkRL_156 imX5_stateOf seX5_stateOf ⟨by decide, by decide⟩ aAx_no dLw9_767)) <|
  tcG (sLw (fun p e s m below meth c b cA D A ad0 h hb => ok_istore h.1 (by decide) dLw9_770)) <|
  tcG (sLw (fun p e s m below meth c b cA D A ad0 h hb => ok_aload_n h.1 2 rfl dLw9_772)) <|
  tcG (sLw (fun p e s m below meth c b cA D A ad0 h hb => ok_callV h.1 h.2.1 (show 3600 ≤ room_1.cells ∧ 2000 * 3600 ≤ room_1.slots from ⟨Nat.le_of_ble_eq_true rfl, Nat.le_of_ble_eq_true rfl⟩) mdX5_thrown siX5_thrown cxX5 mkRL_121 imX5_thrown seX5_thrown ⟨by decide, by decide⟩ aAx_no dLw9_773)) <|
  tcG (sLw (fun p e s m below meth c b cA D A ad0 h hb => ok_iload h.1 dLw9_776)) <|
  tcG (sLw (fun p e s m below meth c b cA D A ad0 h hb => ok_icmp_eq h.1 783 (by decide) dLw9_778)) <|
  tcG (sLw (fun p e s m below meth c b cA D A ad0 h hb => ok_iconst h.1 ⟨by decide, by decide⟩ dLw9_781)) <|
  tcG (sLw (fun p e s m below meth c b cA D A ad0 h hb => ok_lret h dLw9_782)) <|
  tcG (sLw (fun p e s m below meth c b cA D A ad0 h hb => ok_iload h.1 dLw9_783)) <|
  tcG (sLw (fun p e s m below meth c b cA D A ad0 h hb => ok_if_ne h.1 800 (by decide) dLw9_785)) <|
  tcG (sLw (fun p e s m below meth c b cA D A ad0 h hb => ok_aload_n h.1 3 rfl dLw9_788)) <|
  tcG (sLw (fun p e s m below meth c b cA D A ad0 h hb => ok_iconst h.1 ⟨by decide, by decide⟩ dLw9_789)) <|
  tcG (sLw (fun p e s m below meth c b cA D A ad0 h hb => ok_lald h.1 dLw9_790)) <|
  tcG (sLw (fun p e s m below meth c b cA D A ad0 h hb => ok_iload h.1 dLw9_791)) <|
  tcG (sLw (fun p e s m below meth c b cA D A ad0 h hb => ok_i2l h.1 dLw9_793)) <|
  tcG (sLw (fun p e s m below meth c b cA D A ad0 h hb => ok_lcmp h.1 dLw9_794)) <|
  tcG (sLw (fun p e s m below meth c b cA D A ad0 h hb => ok_if_eq h.1 800 (by decide) dLw9_795)) <|
  tcG (sLw (fun p e s m below meth c b cA D A ad0 h hb => ok_iconst h.1 ⟨by decide, by decide⟩ dLw9_798)) <|
  tcG (sLw (fun p e s m below meth c b cA D A ad0 h hb => ok_lret h dLw9_799)) <|
  tcG (sLw (fun p e s m below meth c b cA D A ad0 h hb => ok_goto h.1 1969 (by decide) dLw9_800)) <|
  tnG
abbrev cuLw9 : List Nat := [758, 770, 776, 1969]
theorem wLw9_1969 {l : Launch} {L : Nat} {xs : Nat → Int32} {J : aK} {W : Nat → aK} (hW : isW (tbLw9 l L xs) cuLw9 J W) (n : Nat) (ls st : List aV) (μ : aM) (g : Nat) : W (n + 1) 1969 ls st μ g = J 1969 ls st μ g := (hW n 1969 ls st μ g).trans rfl
theorem tLw9_747 (l : Launch) (L : Nat) (xs : Nat → Int32) : tb (tbLw9 l L xs) 747 = sLd 1 748 isR := (rfl)
theorem wLw9_747 {l : Launch} {L : Nat} {xs : Nat → Int32} {J : aK} {W : Nat → aK} (hW : isW (tbLw9 l L xs) cuLw9 J W) (n : Nat) (ls st : List aV) (μ : aM) (g : Nat) : W (n + 1) 747 ls st μ g = (sLd 1 748 isR) (W n) ls st μ g := (hW n 747 ls st μ g).trans rfl
theorem wLw9_748 {l : Launch} {L : Nat} {xs : Nat → Int32} {J : aK} {W : Nat → aK} (hW : isW (tbLw9 l L xs) cuLw9 J W) (n : Nat) (ls st : List aV) (μ : aM) (g : Nat) : W (n + 1) 748 ls st μ g = (sLd 0 749 isR) (W n) ls st μ g := (hW n 748 ls st μ g).trans rfl
theorem wLw9_749 {l : Launch} {L : Nat} {xs : Nat → Int32} {J : aK} {W : Nat → aK} (hW : isW (tbLw9 l L xs) cuLw9 J W) (n : Nat) (ls st : List aV) (μ : aM) (g : Nat) : W (n + 1) 749 ls st μ g = (sLd 5 751 isI) (W n) ls st μ g := (hW n 749 ls st μ g).trans rfl
theorem wLw9_751 {l : Launch} {L : Nat} {xs : Nat → Int32} {J : aK} {W : Nat → aK} (hW : isW (tbLw9 l L xs) cuLw9 J W) (n : Nat) (ls st : List aV) (μ : aM) (g : Nat) : W (n + 1) 751 ls st μ g = (sPush (aI 1) 752) (W n) ls st μ g := (hW n 751 ls st μ g).trans rfl
theorem wLw9_752 {l : Launch} {L : Nat} {xs : Nat → Int32} {J : aK} {W : Nat → aK} (hW : isW (tbLw9 l L xs) cuLw9 J W) (n : Nat) (ls st : List aV) (μ : aM) (g : Nat) : W (n + 1) 752 ls st μ g = (sBin fAdd 753) (W n) ls st μ g := (hW n 752 ls st μ g).trans rfl
theorem wLw9_753 {l : Launch} {L : Nat} {xs : Nat → Int32} {J : aK} {W : Nat → aK} (hW : isW (tbLw9 l L xs) cuLw9 J W) (n : Nat) (ls st : List aV) (μ : aM) (g : Nat) : W (n + 1) 753 ls st μ g = (sSld L xs 754) (W n) ls st μ g := (hW n 753 ls st μ g).trans rfl
theorem wLw9_754 {l : Launch} {L : Nat} {xs : Nat → Int32} {J : aK} {W : Nat → aK} (hW : isW (tbLw9 l L xs) cuLw9 J W) (n : Nat) (ls st : List aV) (μ : aM) (g : Nat) : W (n + 1) 754 ls st μ g = (sLd 3 755 isR) (W n) ls st μ g := (hW n 754 ls st μ g).trans rfl
theorem wLw9_755 {l : Launch} {L : Nat} {xs : Nat → Int32} {J : aK} {W : Nat → aK} (hW : isW (tbLw9 l L xs) cuLw9 J W) (n : Nat) (ls st : List aV) (μ : aM) (g : Nat) : W (n + 1) 755 ls st μ g = (sCallS 3 (fun as μ K => CtH l mdL_stateOf hhL_stateOf as μ K) 758 1 3600) (W n) ls st μ g := (hW n 755 ls st μ g).trans rfl
theorem tLw9_758 (l : Launch) (L : Nat) (xs : Nat → Int32) : tb (tbLw9 l L xs) 758 = sSt 6 760 isI := (rfl)
theorem wLw9_758 {l : Launch} {L : Nat} {xs : Nat → Int32} {J : aK} {W : Nat → aK} (hW : isW (tbLw9 l L xs) cuLw9 J W) (n : Nat) (ls st : List aV) (μ : aM) (g : Nat) : W (n + 1) 758 ls st μ g = J 758 ls st μ g := (hW n 758 ls st μ g).trans rfl
theorem wLw9_760 {l : Launch} {L : Nat} {xs : Nat → Int32} {J : aK} {W : Nat → aK} (hW : isW (tbLw9 l L xs) cuLw9 J W) (n : Nat) (ls st : List aV) (μ : aM) (g : Nat) : W (n + 1) 760 ls st μ g = (sLd 2 761 isR) (W n) ls st μ g := (hW n 760 ls st μ g).trans rfl
theorem wLw9_761 {l : Launch} {L : Nat} {xs : Nat → Int32} {J : aK} {W : Nat → aK} (hW : isW (tbLw9 l L xs) cuLw9 J W) (n : Nat) (ls st : List aV) (μ : aM) (g : Nat) : W (n + 1) 761 ls st μ g = (sLd 0 762 isR) (W n) ls st μ g := (hW n 761 ls st μ g).trans rfl
theorem wLw9_762 {l : Launch} {L : Nat} {xs : Nat → Int32} {J : aK} {W : Nat → aK} (hW : isW (tbLw9 l L xs) cuLw9 J W) (n : Nat) (ls st : List aV) (μ : aM) (g : Nat) : W (n + 1) 762 ls st μ g = (sLd 5 764 isI) (W n) ls st μ g := (hW n 762 ls st μ g).trans rfl
theorem wLw9_764 {l : Launch} {L : Nat} {xs : Nat → Int32} {J : aK} {W : Nat → aK} (hW : isW (tbLw9 l L xs) cuLw9 J W) (n : Nat) (ls st : List aV) (μ : aM) (g : Nat) : W (n + 1) 764 ls st μ g = (sPush (aI 1) 765) (W n) ls st μ g := (hW n 764 ls st μ g).trans rfl
theorem wLw9_765 {l : Launch} {L : Nat} {xs : Nat → Int32} {J : aK} {W : Nat → aK} (hW : isW (tbLw9 l L xs) cuLw9 J W) (n : Nat) (ls st : List aV) (μ : aM) (g : Nat) : W (n + 1) 765 ls st μ g = (sBin fAdd 766) (W n) ls st μ g := (hW n 765 ls st μ g).trans rfl
theorem wLw9_766 {l : Launch} {L : Nat} {xs : Nat → Int32} {J : aK} {W : Nat → aK} (hW : isW (tbLw9 l L xs) cuLw9 J W) (n : Nat) (ls st : List aV) (μ : aM) (g : Nat) : W (n + 1) 766 ls st μ g = (sSld L xs 767) (W n) ls st μ g := (hW n 766 ls st μ g).trans rfl
theorem wLw9_767 {l : Launch} {L : Nat} {xs : Nat → Int32} {J : aK} {W : Nat → aK} (hW : isW (tbLw9 l L xs) cuLw9 J W) (n : Nat) (ls st : List aV) (μ : aM) (g : Nat) : W (n + 1) 767 ls st μ g = (sCallV 1 5 (fun as μ K => Ct l mdX5_stateOf as μ K nX) 770 0 3600) (W n) ls st μ g := (hW n 767 ls st μ g).trans rfl
theorem tLw9_770 (l : Launch) (L : Nat) (xs : Nat → Int32) : tb (tbLw9 l L xs) 770 = sSt 7 772 isI := (rfl)
theorem wLw9_770 {l : Launch} {L : Nat} {xs : Nat → Int32} {J : aK} {W : Nat → aK} (hW : isW (tbLw9 l L xs) cuLw9 J W) (n : Nat) (ls st : List aV) (μ : aM) (g : Nat) : W (n + 1) 770 ls st μ g = J 770 ls st μ g := (hW n 770 ls st μ g).trans rfl
theorem wLw9_772 {l : Launch} {L : Nat} {xs : Nat → Int32} {J : aK} {W : Nat → aK} (hW : isW (tbLw9 l L xs) cuLw9 J W) (n : Nat) (ls st : List aV) (μ : aM) (g : Nat) : W (n + 1) 772 ls st μ g = (sLd 2 773 isR) (W n) ls st μ g := (hW n 772 ls st μ g).trans rfl
theorem wLw9_773 {l : Launch} {L : Nat} {xs : Nat → Int32} {J : aK} {W : Nat → aK} (hW : isW (tbLw9 l L xs) cuLw9 J W) (n : Nat) (ls st : List aV) (μ : aM) (g : Nat) : W (n + 1) 773 ls st μ g = (sCallV 0 5 (fun as μ K => Ct l mdX5_thrown as μ K nX) 776 0 3600) (W n) ls st μ g := (hW n 773 ls st μ g).trans rfl
theorem tLw9_776 (l : Launch) (L : Nat) (xs : Nat → Int32) : tb (tbLw9 l L xs) 776 = sLd 6 778 isI := (rfl)
theorem wLw9_776 {l : Launch} {L : Nat} {xs : Nat → Int32} {J : aK} {W : Nat → aK} (hW : isW (tbLw9 l L xs) cuLw9 J W) (n : Nat) (ls st : List aV) (μ : aM) (g : Nat) : W (n + 1) 776 ls st μ g = J 776 ls st μ g := (hW n 776 ls st μ g).trans rfl
theorem wLw9_778 {l : Launch} {L : Nat} {xs : Nat → Int32} {J : aK} {W : Nat → aK} (hW : isW (tbLw9 l L xs) cuLw9 J W) (n : Nat) (ls st : List aV) (μ : aM) (g : Nat) : W (n + 1) 778 ls st μ g = (sIc qEq 783 781) (W n) ls st μ g := (hW n 778 ls st μ g).trans rfl
theorem wLw9_781 {l : Launch} {L : Nat} {xs : Nat → Int32} {J : aK} {W : Nat → aK} (hW : isW (tbLw9 l L xs) cuLw9 J W) (n : Nat) (ls st : List aV) (μ : aM) (g : Nat) : W (n + 1) 781 ls st μ g = (sPush (aI 0) 782) (W n) ls st μ g := (hW n 781 ls st μ g).trans rfl
theorem wLw9_782 {l : Launch} {L : Nat} {xs : Nat → Int32} {J : aK} {W : Nat → aK} (hW : isW (tbLw9 l L xs) cuLw9 J W) (n : Nat) (ls st : List aV) (μ : aM) (g : Nat) : W (n + 1) 782 ls st μ g = (sLret) (W n) ls st μ g := (hW n 782 ls st μ g).trans rfl
theorem wLw9_783 {l : Launch} {L : Nat} {xs : Nat → Int32} {J : aK} {W : Nat → aK} (hW : isW (tbLw9 l L xs) cuLw9 J W) (n : Nat) (ls st : List aV) (μ : aM) (g : Nat) : W (n + 1) 783 ls st μ g = (sLd 6 785 isI) (W n) ls st μ g := (hW n 783 ls st μ g).trans rfl
theorem wLw9_785 {l : Launch} {L : Nat} {xs : Nat → Int32} {J : aK} {W : Nat → aK} (hW : isW (tbLw9 l L xs) cuLw9 J W) (n : Nat) (ls st : List aV) (μ : aM) (g : Nat) : W (n + 1) 785 ls st μ g = (sIf pNe 800 788) (W n) ls st μ g := (hW n 785 ls st μ g).trans rfl
theorem wLw9_788 {l : Launch} {L : Nat} {xs : Nat → Int32} {J : aK} {W : Nat → aK} (hW : isW (tbLw9 l L xs) cuLw9 J W) (n : Nat) (ls st : List aV) (μ : aM) (g : Nat) : W (n + 1) 788 ls st μ g = (sLd 3 789 isR) (W n) ls st μ g := (hW n 788 ls st μ g).trans rfl
theorem wLw9_789 {l : Launch} {L : Nat} {xs : Nat → Int32} {J : aK} {W : Nat → aK} (hW : isW (tbLw9 l L xs) cuLw9 J W) (n : Nat) (ls st : List aV) (μ : aM) (g : Nat) : W (n + 1) 789 ls st μ g = (sPush (aI 0) 790) (W n) ls st μ g := (hW n 789 ls st μ g).trans rfl
theorem wLw9_790 {l : Launch} {L : Nat} {xs : Nat → Int32} {J : aK} {W : Nat → aK} (hW : isW (tbLw9 l L xs) cuLw9 J W) (n : Nat) (ls st : List aV) (μ : aM) (g : Nat) : W (n + 1) 790 ls st μ g = (sAldL 791) (W n) ls st μ g := (hW n 790 ls st μ g).trans rfl
theorem wLw9_791 {l : Launch} {L : Nat} {xs : Nat → Int32} {J : aK} {W : Nat → aK} (hW : isW (tbLw9 l L xs) cuLw9 J W) (n : Nat) (ls st : List aV) (μ : aM) (g : Nat) : W (n + 1) 791 ls st μ g = (sLd 7 793 isI) (W n) ls st μ g := (hW n 791 ls st μ g).trans rfl
theorem wLw9_793 {l : Launch} {L : Nat} {xs : Nat → Int32} {J : aK} {W : Nat → aK} (hW : isW (tbLw9 l L xs) cuLw9 J W) (n : Nat) (ls st : List aV) (μ : aM) (g : Nat) : W (n + 1) 793 ls st μ g = (sI2l 794) (W n) ls st μ g := (hW n 793 ls st μ g).trans rfl
theorem wLw9_794 {l : Launch} {L : Nat} {xs : Nat → Int32} {J : aK} {W : Nat → aK} (hW : isW (tbLw9 l L xs) cuLw9 J W) (n : Nat) (ls st : List aV) (μ : aM) (g : Nat) : W (n + 1) 794 ls st μ g = (sLcmp 795) (W n) ls st μ g := (hW n 794 ls st μ g).trans rfl
theorem wLw9_795 {l : Launch} {L : Nat} {xs : Nat → Int32} {J : aK} {W : Nat → aK} (hW : isW (tbLw9 l L xs) cuLw9 J W) (n : Nat) (ls st : List aV) (μ : aM) (g : Nat) : W (n + 1) 795 ls st μ g = (sIf pEq 800 798) (W n) ls st μ g := (hW n 795 ls st μ g).trans rfl
theorem wLw9_798 {l : Launch} {L : Nat} {xs : Nat → Int32} {J : aK} {W : Nat → aK} (hW : isW (tbLw9 l L xs) cuLw9 J W) (n : Nat) (ls st : List aV) (μ : aM) (g : Nat) : W (n + 1) 798 ls st μ g = (sPush (aI 0) 799) (W n) ls st μ g := (hW n 798 ls st μ g).trans rfl
theorem wLw9_799 {l : Launch} {L : Nat} {xs : Nat → Int32} {J : aK} {W : Nat → aK} (hW : isW (tbLw9 l L xs) cuLw9 J W) (n : Nat) (ls st : List aV) (μ : aM) (g : Nat) : W (n + 1) 799 ls st μ g = (sLret) (W n) ls st μ g := (hW n 799 ls st μ g).trans rfl
theorem wLw9_800 {l : Launch} {L : Nat} {xs : Nat → Int32} {J : aK} {W : Nat → aK} (hW : isW (tbLw9 l L xs) cuLw9 J W) (n : Nat) (ls st : List aV) (μ : aM) (g : Nat) : W (n + 1) 800 ls st μ g = (sGoto 1969) (W n) ls st μ g := (hW n 800 ls st μ g).trans rfl
theorem dLw10_803 : decode code 803 = .ok (.aload_n 1, 1) := by decide +kernel
theorem dLw10_804 : decode code 804 = .ok (.aload_n 0, 1) := by decide +kernel
theorem dLw10_805 : decode code 805 = .ok (.iload 5, 2) := by decide +kernel
theorem dLw10_807 : decode code 807 = .ok (.iconst 1, 1) := by decide +kernel
theorem dLw10_808 : decode code 808 = .ok (.iadd, 1) := by decide +kernel
theorem dLw10_809 : decode code 809 = .ok (.iaload, 1) := by decide +kernel
theorem dLw10_810 : decode code 810 = .ok (.aload_n 3, 1) := by decide +kernel
theorem dLw10_811 : decode code 811 = .ok (.invokestatic 157, 3) := by decide +kernel
theorem dLw10_814 : decode code 814 = .ok (.istore 6, 2) := by decide +kernel
theorem dLw10_816 : decode code 816 = .ok (.aload_n 2, 1) := by decide +kernel
theorem dLw10_817 : decode code 817 = .ok (.aload_n 0, 1) := by decide +kernel
theorem dLw10_818 : decode code 818 = .ok (.iload 5, 2) := by decide +kernel
theorem dLw10_820 : decode code 820 = .ok (.iconst 1, 1) := by decide +kernel
theorem dLw10_821 : decode code 821 = .ok (.iadd, 1) := by decide +kernel
theorem dLw10_822 : decode code 822 = .ok (.iaload, 1) := by decide +kernel
theorem dLw10_823 : decode code 823 = .ok (.invokevirtual 159, 3) := by decide +kernel
theorem dLw10_826 : decode code 826 = .ok (.istore 7, 2) := by decide +kernel
theorem dLw10_828 : decode code 828 = .ok (.aload_n 2, 1) := by decide +kernel
theorem dLw10_829 : decode code 829 = .ok (.invokevirtual 121, 3) := by decide +kernel
theorem dLw10_832 : decode code 832 = .ok (.iload 6, 2) := by decide +kernel
theorem dLw10_834 : decode code 834 = .ok (.if_icmp .eq 5, 3) := by decide +kernel
theorem dLw10_837 : decode code 837 = .ok (.iconst 0, 1) := by decide +kernel
theorem dLw10_838 : decode code 838 = .ok (.ireturn, 1) := by decide +kernel
theorem dLw10_839 : decode code 839 = .ok (.iload 6, 2) := by decide +kernel
theorem dLw10_841 : decode code 841 = .ok (.ifCond .ne 15, 3) := by decide +kernel
theorem dLw10_844 : decode code 844 = .ok (.aload_n 3, 1) := by decide +kernel
theorem dLw10_845 : decode code 845 = .ok (.iconst 0, 1) := by decide +kernel
theorem dLw10_846 : decode code 846 = .ok (.laload, 1) := by decide +kernel
theorem dLw10_847 : decode code 847 = .ok (.iload 7, 2) := by decide +kernel
theorem dLw10_849 : decode code 849 = .ok (.i2l, 1) := by decide +kernel
theorem dLw10_850 : decode code 850 = .ok (.lcmp, 1) := by decide +kernel
theorem dLw10_851 : decode code 851 = .ok (.ifCond .eq 5, 3) := by decide +kernel
theorem dLw10_854 : decode code 854 = .ok (.iconst 0, 1) := by decide +kernel
theorem dLw10_855 : decode code 855 = .ok (.ireturn, 1) := by decide +kernel
theorem dLw10_856 : decode code 856 = .ok (.goto 1113, 3) := by decide +kernel
def tbLw10 (l : Launch) (L : Nat) (xs : Nat → Int32) : aTb := [
  (803, sLd 1 804 isR),
  (804, sLd 0 805 isR),
  (805, sLd 5 807 isI),
  (807, sPush (aI 1) 808),
  (808, sBin fAdd 809),
  (809, sSld L xs 810),
  (810, sLd 3 811 isR),
  (811, sCallS 3 (fun as μ K => CtH l mdL_leftOf hhL_leftOf as μ K) 814 1 3600),
  (814, sSt 6 816 isI),
  (816, sLd 2 817 isR),
  (817, sLd 0 818 isR),
  (818, sLd 5 820 isI),
  (820, sPush (aI 1) 821),
  (821, sBin fAdd 822),
  (822, sSld L xs 823),
  (823, sCallV 1 5 (fun as μ K => Ct l mdX5_leftOf as μ K nX) 826 0 3600),
  (826, sSt 7 828 isI),
  (828, sLd 2 829 isR),
  (829, sCallV 0 5 (fun as μ K => Ct l mdX5_thrown as μ K nX) 832 0 3600),
  (832, sLd 6 834 isI),
  (834, sIc qEq 839 837),
  (837, sPush (aI 0) 838),
  (838, sLret),
  (839, sLd 6 841 isI),
  (841, sIf pNe 856 844),
  (844, sLd 3 845 isR),
  (845, sPush (aI 0) 846),
  (846, sAldL 847),
  (847, sLd 7 849 isI),
  (849, sI2l 850),
  (850, sLcmp 851),
  (851, sIf pEq 856 854),
  (854, sPush (aI 0) 855),
  (855, sLret),
  (856, sGoto 1969)]
theorem snLw10 (l : Launch) (L : Nat) (xs : Nat → Int32) (hL3 : L ≤ 3072) : ∀ q ∈ tbLw10 l L xs, Snd (BL l L xs) q.1 q.2 :=
  tcG (sLw (fun p e s m below meth c b cA D A ad0 h hb => ok_aload_n h.1 1 rfl dLw10_803)) <|
  tcG (sLw (fun p e s m below meth c b cA D A ad0 h hb => ok_aload_n h.1 0 rfl dLw10_804)) <|
  tcG (sLw (fun p e s m below meth c b cA D A ad0 h hb => ok_iload h.1 dLw10_805)) <|
  tcG (sLw (fun p e s m below meth c b cA D A ad0 h hb => ok_iconst h.1 ⟨by decide, by decide⟩ dLw10_807)) <|
  tcG (sLw (fun p e s m below meth c b cA D A ad0 h hb => ok_iadd h.1 dLw10_808)) <|
  tcG (sLw (fun p e s m below meth c b cA D A ad0 h hb => ok_sld h hb dLw10_809)) <|
  tcG (sLw (fun p e s m below meth c b cA D A ad0 h hb => ok_aload_n h.1 3 rfl dLw10_810)) <|
  tcG (sLw (fun p e s m below meth c b cA D A ad0 h hb => ok_callSH h.1 h.2.1 (show 3600 ≤ room_1.cells ∧ 2000 * 3600 ≤ room_1.slots from ⟨Nat.le_of_ble_eq_true rfl, Nat.le_of_ble_eq_true rfl⟩) mdL_leftOf hhL_leftOf siL_leftOf mkRL_157 stL_leftOf ⟨by decide, by decide⟩ dLw10_811)) <|
  tcG (sLw (fun p e s m below meth c b cA D A ad0 h hb => ok_istore h.1 (by decide) dLw10_814)) <|
  tcG (sLw (fun p e s m below meth c b cA D A ad0 h hb => ok_aload_n h.1 2 rfl dLw10_816)) <|
  tcG (sLw (fun p e s m below meth c b cA D A ad0 h hb => ok_aload_n h.1 0 rfl dLw10_817)) <|
  tcG (sLw (fun p e s m below meth c b cA D A ad0 h hb => ok_iload h.1 dLw10_818)) <|
  tcG (sLw (fun p e s m below meth c b cA D A ad0 h hb => ok_iconst h.1 ⟨by decide, by decide⟩ dLw10_820)) <|
  tcG (sLw (fun p e s m below meth c b cA D A ad0 h hb => ok_iadd h.1 dLw10_821)) <|
  tcG (sLw (fun p e s m below meth c b cA D A ad0 h hb => ok_sld h hb dLw10_822)) <|
  tcG (sLw (fun p e s m below meth c b cA D A ad0 h hb => ok_callV h.1 h.2.1 (show 3600 ≤ room_1.cells ∧ 2000 * 3600 ≤ room_1.slots from ⟨Nat.le_of_ble_eq_true rfl, Nat.le_of_ble_eq_true rfl⟩) mdX5_leftOf siX5_leftOf cxX5 mkRL_159 imX5_leftOf seX5_leftOf ⟨by decide, by decide⟩ aAx_no dLw10_823)) <|
  tcG (sLw (fun p e s m below meth c b cA D A ad0 h hb => ok_istore h.1 (by decide) dLw10_826)) <|
  tcG (sLw (fun p e s m below meth c b cA D A ad0 h hb => ok_aload_n h.1 2 rfl dLw10_828)) <|
  tcG (sLw (fun p e s m below meth c b cA D A ad0 h hb => ok_callV h.1 h.2.1 (show 3600 ≤ room_1.cells ∧ 2000 * 3600 ≤ room_1.slots from ⟨Nat.le_of_ble_eq_true rfl, Nat.le_of_ble_eq_true rfl⟩) mdX5_thrown siX5_thrown cxX5 mkRL_121 imX5_thrown seX5_thrown ⟨by decide, by decide⟩ aAx_no dLw10_829)) <|
  tcG (sLw (fun p e s m below meth c b cA D A ad0 h hb => ok_iload h.1 dLw10_832)) <|
  tcG (sLw (fun p e s m below meth c b cA D A ad0 h hb => ok_icmp_eq h.1 839 (by decide) dLw10_834)) <|
  tcG (sLw (fun p e s m below meth c b cA D A ad0 h hb => ok_iconst h.1 ⟨by decide, by decide⟩ dLw10_837)) <|
  tcG (sLw (fun p e s m below meth c b cA D A ad0 h hb => ok_lret h dLw10_838)) <|
  tcG (sLw (fun p e s m below meth c b cA D A ad0 h hb => ok_iload h.1 dLw10_839)) <|
  tcG (sLw (fun p e s m below meth c b cA D A ad0 h hb => ok_if_ne h.1 856 (by decide) dLw10_841)) <|
  tcG (sLw (fun p e s m below meth c b cA D A ad0 h hb => ok_aload_n h.1 3 rfl dLw10_844)) <|
  tcG (sLw (fun p e s m below meth c b cA D A ad0 h hb => ok_iconst h.1 ⟨by decide, by decide⟩ dLw10_845)) <|
  tcG (sLw (fun p e s m below meth c b cA D A ad0 h hb => ok_lald h.1 dLw10_846)) <|
  tcG (sLw (fun p e s m below meth c b cA D A ad0 h hb => ok_iload h.1 dLw10_847)) <|
  tcG (sLw (fun p e s m below meth c b cA D A ad0 h hb => ok_i2l h.1 dLw10_849)) <|
  tcG (sLw (fun p e s m below meth c b cA D A ad0 h hb => ok_lcmp h.1 dLw10_850)) <|
  tcG (sLw (fun p e s m below meth c b cA D A ad0 h hb => ok_if_eq h.1 856 (by decide) dLw10_851)) <|
  tcG (sLw (fun p e s m below meth c b cA D A ad0 h hb => ok_iconst h.1 ⟨by decide, by decide⟩ dLw10_854)) <|
  tcG (sLw (fun p e s m below meth c b cA D A ad0 h hb => ok_lret h dLw10_855)) <|
  tcG (sLw (fun p e s m below meth c b cA D A ad0 h hb => ok_goto h.1 1969 (by decide) dLw10_856)) <|
  tnG
abbrev cuLw10 : List Nat := [814, 826, 832, 1969]
theorem wLw10_1969 {l : Launch} {L : Nat} {xs : Nat → Int32} {J : aK} {W : Nat → aK} (hW : isW (tbLw10 l L xs) cuLw10 J W) (n : Nat) (ls st : List aV) (μ : aM) (g : Nat) : W (n + 1) 1969 ls st μ g = J 1969 ls st μ g := (hW n 1969 ls st μ g).trans rfl
theorem tLw10_803 (l : Launch) (L : Nat) (xs : Nat → Int32) : tb (tbLw10 l L xs) 803 = sLd 1 804 isR := (rfl)
theorem wLw10_803 {l : Launch} {L : Nat} {xs : Nat → Int32} {J : aK} {W : Nat → aK} (hW : isW (tbLw10 l L xs) cuLw10 J W) (n : Nat) (ls st : List aV) (μ : aM) (g : Nat) : W (n + 1) 803 ls st μ g = (sLd 1 804 isR) (W n) ls st μ g := (hW n 803 ls st μ g).trans rfl
theorem wLw10_804 {l : Launch} {L : Nat} {xs : Nat → Int32} {J : aK} {W : Nat → aK} (hW : isW (tbLw10 l L xs) cuLw10 J W) (n : Nat) (ls st : List aV) (μ : aM) (g : Nat) : W (n + 1) 804 ls st μ g = (sLd 0 805 isR) (W n) ls st μ g := (hW n 804 ls st μ g).trans rfl
theorem wLw10_805 {l : Launch} {L : Nat} {xs : Nat → Int32} {J : aK} {W : Nat → aK} (hW : isW (tbLw10 l L xs) cuLw10 J W) (n : Nat) (ls st : List aV) (μ : aM) (g : Nat) : W (n + 1) 805 ls st μ g = (sLd 5 807 isI) (W n) ls st μ g := (hW n 805 ls st μ g).trans rfl
theorem wLw10_807 {l : Launch} {L : Nat} {xs : Nat → Int32} {J : aK} {W : Nat → aK} (hW : isW (tbLw10 l L xs) cuLw10 J W) (n : Nat) (ls st : List aV) (μ : aM) (g : Nat) : W (n + 1) 807 ls st μ g = (sPush (aI 1) 808) (W n) ls st μ g := (hW n 807 ls st μ g).trans rfl
theorem wLw10_808 {l : Launch} {L : Nat} {xs : Nat → Int32} {J : aK} {W : Nat → aK} (hW : isW (tbLw10 l L xs) cuLw10 J W) (n : Nat) (ls st : List aV) (μ : aM) (g : Nat) : W (n + 1) 808 ls st μ g = (sBin fAdd 809) (W n) ls st μ g := (hW n 808 ls st μ g).trans rfl
theorem wLw10_809 {l : Launch} {L : Nat} {xs : Nat → Int32} {J : aK} {W : Nat → aK} (hW : isW (tbLw10 l L xs) cuLw10 J W) (n : Nat) (ls st : List aV) (μ : aM) (g : Nat) : W (n + 1) 809 ls st μ g = (sSld L xs 810) (W n) ls st μ g := (hW n 809 ls st μ g).trans rfl
theorem wLw10_810 {l : Launch} {L : Nat} {xs : Nat → Int32} {J : aK} {W : Nat → aK} (hW : isW (tbLw10 l L xs) cuLw10 J W) (n : Nat) (ls st : List aV) (μ : aM) (g : Nat) : W (n + 1) 810 ls st μ g = (sLd 3 811 isR) (W n) ls st μ g := (hW n 810 ls st μ g).trans rfl
theorem wLw10_811 {l : Launch} {L : Nat} {xs : Nat → Int32} {J : aK} {W : Nat → aK} (hW : isW (tbLw10 l L xs) cuLw10 J W) (n : Nat) (ls st : List aV) (μ : aM) (g : Nat) : W (n + 1) 811 ls st μ g = (sCallS 3 (fun as μ K => CtH l mdL_leftOf hhL_leftOf as μ K) 814 1 3600) (W n) ls st μ g := (hW n 811 ls st μ g).trans rfl
theorem tLw10_814 (l : Launch) (L : Nat) (xs : Nat → Int32) : tb (tbLw10 l L xs) 814 = sSt 6 816 isI := (rfl)
theorem wLw10_814 {l : Launch} {L : Nat} {xs : Nat → Int32} {J : aK} {W : Nat → aK} (hW : isW (tbLw10 l L xs) cuLw10 J W) (n : Nat) (ls st : List aV) (μ : aM) (g : Nat) : W (n + 1) 814 ls st μ g = J 814 ls st μ g := (hW n 814 ls st μ g).trans rfl
theorem wLw10_816 {l : Launch} {L : Nat} {xs : Nat → Int32} {J : aK} {W : Nat → aK} (hW : isW (tbLw10 l L xs) cuLw10 J W) (n : Nat) (ls st : List aV) (μ : aM) (g : Nat) : W (n + 1) 816 ls st μ g = (sLd 2 817 isR) (W n) ls st μ g := (hW n 816 ls st μ g).trans rfl
theorem wLw10_817 {l : Launch} {L : Nat} {xs : Nat → Int32} {J : aK} {W : Nat → aK} (hW : isW (tbLw10 l L xs) cuLw10 J W) (n : Nat) (ls st : List aV) (μ : aM) (g : Nat) : W (n + 1) 817 ls st μ g = (sLd 0 818 isR) (W n) ls st μ g := (hW n 817 ls st μ g).trans rfl
theorem wLw10_818 {l : Launch} {L : Nat} {xs : Nat → Int32} {J : aK} {W : Nat → aK} (hW : isW (tbLw10 l L xs) cuLw10 J W) (n : Nat) (ls st : List aV) (μ : aM) (g : Nat) : W (n + 1) 818 ls st μ g = (sLd 5 820 isI) (W n) ls st μ g := (hW n 818 ls st μ g).trans rfl
theorem wLw10_820 {l : Launch} {L : Nat} {xs : Nat → Int32} {J : aK} {W : Nat → aK} (hW : isW (tbLw10 l L xs) cuLw10 J W) (n : Nat) (ls st : List aV) (μ : aM) (g : Nat) : W (n + 1) 820 ls st μ g = (sPush (aI 1) 821) (W n) ls st μ g := (hW n 820 ls st μ g).trans rfl
theorem wLw10_821 {l : Launch} {L : Nat} {xs : Nat → Int32} {J : aK} {W : Nat → aK} (hW : isW (tbLw10 l L xs) cuLw10 J W) (n : Nat) (ls st : List aV) (μ : aM) (g : Nat) : W (n + 1) 821 ls st μ g = (sBin fAdd 822) (W n) ls st μ g := (hW n 821 ls st μ g).trans rfl
theorem wLw10_822 {l : Launch} {L : Nat} {xs : Nat → Int32} {J : aK} {W : Nat → aK} (hW : isW (tbLw10 l L xs) cuLw10 J W) (n : Nat) (ls st : List aV) (μ : aM) (g : Nat) : W (n + 1) 822 ls st μ g = (sSld L xs 823) (W n) ls st μ g := (hW n 822 ls st μ g).trans rfl
theorem wLw10_823 {l : Launch} {L : Nat} {xs : Nat → Int32} {J : aK} {W : Nat → aK} (hW : isW (tbLw10 l L xs) cuLw10 J W) (n : Nat) (ls st : List aV) (μ : aM) (g : Nat) : W (n + 1) 823 ls st μ g = (sCallV 1 5 (fun as μ K => Ct l mdX5_leftOf as μ K nX) 826 0 3600) (W n) ls st μ g := (hW n 823 ls st μ g).trans rfl
theorem tLw10_826 (l : Launch) (L : Nat) (xs : Nat → Int32) : tb (tbLw10 l L xs) 826 = sSt 7 828 isI := (rfl)
theorem wLw10_826 {l : Launch} {L : Nat} {xs : Nat → Int32} {J : aK} {W : Nat → aK} (hW : isW (tbLw10 l L xs) cuLw10 J W) (n : Nat) (ls st : List aV) (μ : aM) (g : Nat) : W (n + 1) 826 ls st μ g = J 826 ls st μ g := (hW n 826 ls st μ g).trans rfl
theorem wLw10_828 {l : Launch} {L : Nat} {xs : Nat → Int32} {J : aK} {W : Nat → aK} (hW : isW (tbLw10 l L xs) cuLw10 J W) (n : Nat) (ls st : List aV) (μ : aM) (g : Nat) : W (n + 1) 828 ls st μ g = (sLd 2 829 isR) (W n) ls st μ g := (hW n 828 ls st μ g).trans rfl
theorem wLw10_829 {l : Launch} {L : Nat} {xs : Nat → Int32} {J : aK} {W : Nat → aK} (hW : isW (tbLw10 l L xs) cuLw10 J W) (n : Nat) (ls st : List aV) (μ : aM) (g : Nat) : W (n + 1) 829 ls st μ g = (sCallV 0 5 (fun as μ K => Ct l mdX5_thrown as μ K nX) 832 0 3600) (W n) ls st μ g := (hW n 829 ls st μ g).trans rfl
theorem tLw10_832 (l : Launch) (L : Nat) (xs : Nat → Int32) : tb (tbLw10 l L xs) 832 = sLd 6 834 isI := (rfl)
theorem wLw10_832 {l : Launch} {L : Nat} {xs : Nat → Int32} {J : aK} {W : Nat → aK} (hW : isW (tbLw10 l L xs) cuLw10 J W) (n : Nat) (ls st : List aV) (μ : aM) (g : Nat) : W (n + 1) 832 ls st μ g = J 832 ls st μ g := (hW n 832 ls st μ g).trans rfl
theorem wLw10_834 {l : Launch} {L : Nat} {xs : Nat → Int32} {J : aK} {W : Nat → aK} (hW : isW (tbLw10 l L xs) cuLw10 J W) (n : Nat) (ls st : List aV) (μ : aM) (g : Nat) : W (n + 1) 834 ls st μ g = (sIc qEq 839 837) (W n) ls st μ g := (hW n 834 ls st μ g).trans rfl
theorem wLw10_837 {l : Launch} {L : Nat} {xs : Nat → Int32} {J : aK} {W : Nat → aK} (hW : isW (tbLw10 l L xs) cuLw10 J W) (n : Nat) (ls st : List aV) (μ : aM) (g : Nat) : W (n + 1) 837 ls st μ g = (sPush (aI 0) 838) (W n) ls st μ g := (hW n 837 ls st μ g).trans rfl
theorem wLw10_838 {l : Launch} {L : Nat} {xs : Nat → Int32} {J : aK} {W : Nat → aK} (hW : isW (tbLw10 l L xs) cuLw10 J W) (n : Nat) (ls st : List aV) (μ : aM) (g : Nat) : W (n + 1) 838 ls st μ g = (sLret) (W n) ls st μ g := (hW n 838 ls st μ g).trans rfl
theorem wLw10_839 {l : Launch} {L : Nat} {xs : Nat → Int32} {J : aK} {W : Nat → aK} (hW : isW (tbLw10 l L xs) cuLw10 J W) (n : Nat) (ls st : List aV) (μ : aM) (g : Nat) : W (n + 1) 839 ls st μ g = (sLd 6 841 isI) (W n) ls st μ g := (hW n 839 ls st μ g).trans rfl
theorem wLw10_841 {l : Launch} {L : Nat} {xs : Nat → Int32} {J : aK} {W : Nat → aK} (hW : isW (tbLw10 l L xs) cuLw10 J W) (n : Nat) (ls st : List aV) (μ : aM) (g : Nat) : W (n + 1) 841 ls st μ g = (sIf pNe 856 844) (W n) ls st μ g := (hW n 841 ls st μ g).trans rfl
theorem wLw10_844 {l : Launch} {L : Nat} {xs : Nat → Int32} {J : aK} {W : Nat → aK} (hW : isW (tbLw10 l L xs) cuLw10 J W) (n : Nat) (ls st : List aV) (μ : aM) (g : Nat) : W (n + 1) 844 ls st μ g = (sLd 3 845 isR) (W n) ls st μ g := (hW n 844 ls st μ g).trans rfl
theorem wLw10_845 {l : Launch} {L : Nat} {xs : Nat → Int32} {J : aK} {W : Nat → aK} (hW : isW (tbLw10 l L xs) cuLw10 J W) (n : Nat) (ls st : List aV) (μ : aM) (g : Nat) : W (n + 1) 845 ls st μ g = (sPush (aI 0) 846) (W n) ls st μ g := (hW n 845 ls st μ g).trans rfl
theorem wLw10_846 {l : Launch} {L : Nat} {xs : Nat → Int32} {J : aK} {W : Nat → aK} (hW : isW (tbLw10 l L xs) cuLw10 J W) (n : Nat) (ls st : List aV) (μ : aM) (g : Nat) : W (n + 1) 846 ls st μ g = (sAldL 847) (W n) ls st μ g := (hW n 846 ls st μ g).trans rfl
theorem wLw10_847 {l : Launch} {L : Nat} {xs : Nat → Int32} {J : aK} {W : Nat → aK} (hW : isW (tbLw10 l L xs) cuLw10 J W) (n : Nat) (ls st : List aV) (μ : aM) (g : Nat) : W (n + 1) 847 ls st μ g = (sLd 7 849 isI) (W n) ls st μ g := (hW n 847 ls st μ g).trans rfl
theorem wLw10_849 {l : Launch} {L : Nat} {xs : Nat → Int32} {J : aK} {W : Nat → aK} (hW : isW (tbLw10 l L xs) cuLw10 J W) (n : Nat) (ls st : List aV) (μ : aM) (g : Nat) : W (n + 1) 849 ls st μ g = (sI2l 850) (W n) ls st μ g := (hW n 849 ls st μ g).trans rfl
theorem wLw10_850 {l : Launch} {L : Nat} {xs : Nat → Int32} {J : aK} {W : Nat → aK} (hW : isW (tbLw10 l L xs) cuLw10 J W) (n : Nat) (ls st : List aV) (μ : aM) (g : Nat) : W (n + 1) 850 ls st μ g = (sLcmp 851) (W n) ls st μ g := (hW n 850 ls st μ g).trans rfl
theorem wLw10_851 {l : Launch} {L : Nat} {xs : Nat → Int32} {J : aK} {W : Nat → aK} (hW : isW (tbLw10 l L xs) cuLw10 J W) (n : Nat) (ls st : List aV) (μ : aM) (g : Nat) : W (n + 1) 851 ls st μ g = (sIf pEq 856 854) (W n) ls st μ g := (hW n 851 ls st μ g).trans rfl
theorem wLw10_854 {l : Launch} {L : Nat} {xs : Nat → Int32} {J : aK} {W : Nat → aK} (hW : isW (tbLw10 l L xs) cuLw10 J W) (n : Nat) (ls st : List aV) (μ : aM) (g : Nat) : W (n + 1) 854 ls st μ g = (sPush (aI 0) 855) (W n) ls st μ g := (hW n 854 ls st μ g).trans rfl
theorem wLw10_855 {l : Launch} {L : Nat} {xs : Nat → Int32} {J : aK} {W : Nat → aK} (hW : isW (tbLw10 l L xs) cuLw10 J W) (n : Nat) (ls st : List aV) (μ : aM) (g : Nat) : W (n + 1) 855 ls st μ g = (sLret) (W n) ls st μ g := (hW n 855 ls st μ g).trans rfl
theorem wLw10_856 {l : Launch} {L : Nat} {xs : Nat → Int32} {J : aK} {W : Nat → aK} (hW : isW (tbLw10 l L xs) cuLw10 J W) (n : Nat) (ls st : List aV) (μ : aM) (g : Nat) : W (n + 1) 856 ls st μ g = (sGoto 1969) (W n) ls st μ g := (hW n 856 ls st μ g).trans rfl
theorem dLw11_859 : decode code 859 = .ok (.aload_n 1, 1) := by decide +kernel
theorem dLw11_860 : decode code 860 = .ok (.aload_n 0, 1) := by decide +kernel
theorem dLw11_861 : decode code 861 = .ok (.iload 5, 2) := by decide +kernel
theorem dLw11_863 : decode code 863 = .ok (.iconst 1, 1) := by decide +kernel
theorem dLw11_864 : decode code 864 = .ok (.iadd, 1) := by decide +kernel
theorem dLw11_865 : decode code 865 = .ok (.iaload, 1) := by decide +kernel
theorem dLw11_866 : decode code 866 = .ok (.aload_n 3, 1) := by decide +kernel
theorem dLw11_867 : decode code 867 = .ok (.invokestatic 160, 3) := by decide +kernel
theorem dLw11_870 : decode code 870 = .ok (.istore 6, 2) := by decide +kernel
theorem dLw11_872 : decode code 872 = .ok (.aload_n 2, 1) := by decide +kernel
theorem dLw11_873 : decode code 873 = .ok (.aload_n 0, 1) := by decide +kernel
theorem dLw11_874 : decode code 874 = .ok (.iload 5, 2) := by decide +kernel
theorem dLw11_876 : decode code 876 = .ok (.iconst 1, 1) := by decide +kernel
theorem dLw11_877 : decode code 877 = .ok (.iadd, 1) := by decide +kernel
theorem dLw11_878 : decode code 878 = .ok (.iaload, 1) := by decide +kernel
theorem dLw11_879 : decode code 879 = .ok (.invokevirtual 162, 3) := by decide +kernel
theorem dLw11_882 : decode code 882 = .ok (.istore 7, 2) := by decide +kernel
theorem dLw11_884 : decode code 884 = .ok (.aload_n 2, 1) := by decide +kernel
theorem dLw11_885 : decode code 885 = .ok (.invokevirtual 121, 3) := by decide +kernel
theorem dLw11_888 : decode code 888 = .ok (.iload 6, 2) := by decide +kernel
theorem dLw11_890 : decode code 890 = .ok (.if_icmp .eq 5, 3) := by decide +kernel
theorem dLw11_893 : decode code 893 = .ok (.iconst 0, 1) := by decide +kernel
theorem dLw11_894 : decode code 894 = .ok (.ireturn, 1) := by decide +kernel
theorem dLw11_895 : decode code 895 = .ok (.iload 6, 2) := by decide +kernel
theorem dLw11_897 : decode code 897 = .ok (.ifCond .ne 15, 3) := by decide +kernel
theorem dLw11_900 : decode code 900 = .ok (.aload_n 3, 1) := by decide +kernel
theorem dLw11_901 : decode code 901 = .ok (.iconst 0, 1) := by decide +kernel
theorem dLw11_902 : decode code 902 = .ok (.laload, 1) := by decide +kernel
theorem dLw11_903 : decode code 903 = .ok (.iload 7, 2) := by decide +kernel
theorem dLw11_905 : decode code 905 = .ok (.i2l, 1) := by decide +kernel
theorem dLw11_906 : decode code 906 = .ok (.lcmp, 1) := by decide +kernel
theorem dLw11_907 : decode code 907 = .ok (.ifCond .eq 5, 3) := by decide +kernel
theorem dLw11_910 : decode code 910 = .ok (.iconst 0, 1) := by decide +kernel
theorem dLw11_911 : decode code 911 = .ok (.ireturn, 1) := by decide +kernel
theorem dLw11_912 : decode code 912 = .ok (.goto 1057, 3) := by decide +kernel
def tbLw11 (l : Launch) (L : Nat) (xs : Nat → Int32) : aTb := [
  (859, sLd 1 860 isR),
  (860, sLd 0 861 isR),
  (861, sLd 5 863 isI),
  (863, sPush (aI 1) 864),
  (864, sBin fAdd 865),
  (865, sSld L xs 866),
  (866, sLd 3 867 isR),
  (867, sCallS 3 (fun as μ K => CtH l mdL_shownOf hhL_shownOf as μ K) 870 2 3600),
  (870, sSt 6 872 isI),
  (872, sLd 2 873 isR),
  (873, sLd 0 874 isR),
  (874, sLd 5 876 isI),
  (876, sPush (aI 1) 877),
  (877, sBin fAdd 878),
  (878, sSld L xs 879),
  (879, sCallV 1 5 (fun as μ K => Ct l mdX5_shownOf as μ K nX) 882 0 3600),
  (882, sSt 7 884 isI),
  (884, sLd 2 885 isR),
  (885, sCallV 0 5 (fun as μ K => Ct l mdX5_thrown as μ K nX) 888 0 3600),
  (888, sLd 6 890 isI),
  (890, sIc qEq 895 893),
  (893, sPush (aI 0) 894),
  (894, sLret),
  (895, sLd 6 897 isI),
  (897, sIf pNe 912 900),
  (900, sLd 3 901 isR),
  (901, sPush (aI 0) 902),
  (902, sAldL 903),
  (903, sLd 7 905 isI),
  (905, sI2l 906),
  (906, sLcmp 907),
  (907, sIf pEq 912 910),
  (910, sPush (aI 0) 911),
  (911, sLret),
  (912, sGoto 1969)]
theorem snLw11 (l : Launch) (L : Nat) (xs : Nat → Int32) (hL3 : L ≤ 3072) : ∀ q ∈ tbLw11 l L xs, Snd (BL l L xs) q.1 q.2 :=
  tcG (sLw (fun p e s m below meth c b cA D A ad0 h hb => ok_aload_n h.1 1 rfl dLw11_859)) <|
  tcG (sLw (fun p e s m below meth c b cA D A ad0 h hb => ok_aload_n h.1 0 rfl dLw11_860)) <|
  tcG (sLw (fun p e s m below meth c b cA D A ad0 h hb => ok_iload h.1 dLw11_861)) <|
  tcG (sLw (fun p e s m below meth c b cA D A ad0 h hb => ok_iconst h.1 ⟨by decide, by decide⟩ dLw11_863)) <|
  tcG (sLw (fun p e s m below meth c b cA D A ad0 h hb => ok_iadd h.1 dLw11_864)) <|
  tcG (sLw (fun p e s m below meth c b cA D A ad0 h hb => ok_sld h hb dLw11_865)) <|
  tcG (sLw (fun p e s m below meth c b cA D A ad0 h hb => ok_aload_n h.1 3 rfl dLw11_866)) <|
  tcG (sLw (fun p e s m below meth c b cA D A ad0 h hb => ok_callSH h.1 h.2.1 (show 3600 ≤ room_1.cells ∧ 2000 * 3600 ≤ room_1.slots from ⟨Nat.le_of_ble_eq_true rfl, Nat.le_of_ble_eq_true rfl⟩) mdL_shownOf hhL_shownOf siL_shownOf mkRL_160 stL_shownOf ⟨by decide, by decide⟩ dLw11_867)) <|
  tcG (sLw (fun p e s m below meth c b cA D A ad0 h hb => ok_istore h.1 (by decide) dLw11_870)) <|
  tcG (sLw (fun p e s m below meth c b cA D A ad0 h hb => ok_aload_n h.1 2 rfl dLw11_872)) <|
  tcG (sLw (fun p e s m below meth c b cA D A ad0 h hb => ok_aload_n h.1 0 rfl dLw11_873)) <|
  tcG (sLw (fun p e s m below meth c b cA D A ad0 h hb => ok_iload h.1 dLw11_874)) <|
  tcG (sLw (fun p e s m below meth c b cA D A ad0 h hb => ok_iconst h.1 ⟨by decide, by decide⟩ dLw11_876)) <|
  tcG (sLw (fun p e s m below meth c b cA D A ad0 h hb => ok_iadd h.1 dLw11_877)) <|
  tcG (sLw (fun p e s m below meth c b cA D A ad0 h hb => ok_sld h hb dLw11_878)) <|
  tcG (sLw (fun p e s m below meth c b cA D A ad0 h hb => ok_callV h.1 h.2.1 (show 3600 ≤ room_1.cells ∧ 2000 * 3600 ≤ room_1.slots from ⟨Nat.le_of_ble_eq_true rfl, Nat.le_of_ble_eq_true rfl⟩) mdX5_shownOf siX5_shownOf cxX5 mkRL_162 imX5_shownOf seX5_shownOf ⟨by decide, by decide⟩ aAx_no dLw11_879)) <|
  tcG (sLw (fun p e s m below meth c b cA D A ad0 h hb => ok_istore h.1 (by decide) dLw11_882)) <|
  tcG (sLw (fun p e s m below meth c b cA D A ad0 h hb => ok_aload_n h.1 2 rfl dLw11_884)) <|
  tcG (sLw (fun p e s m below meth c b cA D A ad0 h hb => ok_callV h.1 h.2.1 (show 3600 ≤ room_1.cells ∧ 2000 * 3600 ≤ room_1.slots from ⟨Nat.le_of_ble_eq_true rfl, Nat.le_of_ble_eq_true rfl⟩) mdX5_thrown siX5_thrown cxX5 mkRL_121 imX5_thrown seX5_thrown ⟨by decide, by decide⟩ aAx_no dLw11_885)) <|
  tcG (sLw (fun p e s m below meth c b cA D A ad0 h hb => ok_iload h.1 dLw11_888)) <|
  tcG (sLw (fun p e s m below meth c b cA D A ad0 h hb => ok_icmp_eq h.1 895 (by decide) dLw11_890)) <|
  tcG (sLw (fun p e s m below meth c b cA D A ad0 h hb => ok_iconst h.1 ⟨by decide, by decide⟩ dLw11_893)) <|
  tcG (sLw (fun p e s m below meth c b cA D A ad0 h hb => ok_lret h dLw11_894)) <|
  tcG (sLw (fun p e s m below meth c b cA D A ad0 h hb => ok_iload h.1 dLw11_895)) <|
  tcG (sLw (fun p e s m below meth c b cA D A ad0 h hb => ok_if_ne h.1 912 (by decide) dLw11_897)) <|
  tcG (sLw (fun p e s m below meth c b cA D A ad0 h hb => ok_aload_n h.1 3 rfl dLw11_900)) <|
  tcG (sLw (fun p e s m below meth c b cA D A ad0 h hb => ok_iconst h.1 ⟨by decide, by decide⟩ dLw11_901)) <|
  tcG (sLw (fun p e s m below meth c b cA D A ad0 h hb => ok_lald h.1 dLw11_902)) <|
  tcG (sLw (fun p e s m below meth c b cA D A ad0 h hb => ok_iload h.1 dLw11_903)) <|
  tcG (sLw (fun p e s m below meth c b cA D A ad0 h hb => ok_i2l h.1 dLw11_905)) <|
  tcG (sLw (fun p e s m below meth c b cA D A ad0 h hb => ok_lcmp h.1 dLw11_906)) <|
  tcG (sLw (fun p e s m below meth c b cA D A ad0 h hb => ok_if_eq h.1 912 (by decide) dLw11_907)) <|
  tcG (sLw (fun p e s m below meth c b cA D A ad0 h hb => ok_iconst h.1 ⟨by decide, by decide⟩ dLw11_910)) <|
  tcG (sLw (fun p e s m below meth c b cA D A ad0 h hb => ok_lret h dLw11_911)) <|
  tcG (sLw (fun p e s m below meth c b cA D A ad0 h hb => ok_goto h.1 1969 (by decide) dLw11_912)) <|
  tnG
abbrev cuLw11 : List Nat := [870, 882, 888, 1969]
theorem wLw11_1969 {l : Launch} {L : Nat} {xs : Nat → Int32} {J : aK} {W : Nat → aK} (hW : isW (tbLw11 l L xs) cuLw11 J W) (n : Nat) (ls st : List aV) (μ : aM) (g : Nat) : W (n + 1) 1969 ls st μ g = J 1969 ls st μ g := (hW n 1969 ls st μ g).trans rfl
theorem tLw11_859 (l : Launch) (L : Nat) (xs : Nat → Int32) : tb (tbLw11 l L xs) 859 = sLd 1 860 isR := (rfl)
theorem wLw11_859 {l : Launch} {L : Nat} {xs : Nat → Int32} {J : aK} {W : Nat → aK} (hW : isW (tbLw11 l L xs) cuLw11 J W) (n : Nat) (ls st : List aV) (μ : aM) (g : Nat) : W (n + 1) 859 ls st μ g = (sLd 1 860 isR) (W n) ls st μ g := (hW n 859 ls st μ g).trans rfl
theorem wLw11_860 {l : Launch} {L : Nat} {xs : Nat → Int32} {J : aK} {W : Nat → aK} (hW : isW (tbLw11 l L xs) cuLw11 J W) (n : Nat) (ls st : List aV) (μ : aM) (g : Nat) : W (n + 1) 860 ls st μ g = (sLd 0 861 isR) (W n) ls st μ g := (hW n 860 ls st μ g).trans rfl
theorem wLw11_861 {l : Launch} {L : Nat} {xs : Nat → Int32} {J : aK} {W : Nat → aK} (hW : isW (tbLw11 l L xs) cuLw11 J W) (n : Nat) (ls st : List aV) (μ : aM) (g : Nat) : W (n + 1) 861 ls st μ g = (sLd 5 863 isI) (W n) ls st μ g := (hW n 861 ls st μ g).trans rfl
theorem wLw11_863 {l : Launch} {L : Nat} {xs : Nat → Int32} {J : aK} {W : Nat → aK} (hW : isW (tbLw11 l L xs) cuLw11 J W) (n : Nat) (ls st : List aV) (μ : aM) (g : Nat) : W (n + 1) 863 ls st μ g = (sPush (aI 1) 864) (W n) ls st μ g := (hW n 863 ls st μ g).trans rfl
theorem wLw11_864 {l : Launch} {L : Nat} {xs : Nat → Int32} {J : aK} {W : Nat → aK} (hW : isW (tbLw11 l L xs) cuLw11 J W) (n : Nat) (ls st : List aV) (μ : aM) (g : Nat) : W (n + 1) 864 ls st μ g = (sBin fAdd 865) (W n) ls st μ g := (hW n 864 ls st μ g).trans rfl
theorem wLw11_865 {l : Launch} {L : Nat} {xs : Nat → Int32} {J : aK} {W : Nat → aK} (hW : isW (tbLw11 l L xs) cuLw11 J W) (n : Nat) (ls st : List aV) (μ : aM) (g : Nat) : W (n + 1) 865 ls st μ g = (sSld L xs 866) (W n) ls st μ g := (hW n 865 ls st μ g).trans rfl
theorem wLw11_866 {l : Launch} {L : Nat} {xs : Nat → Int32} {J : aK} {W : Nat → aK} (hW : isW (tbLw11 l L xs) cuLw11 J W) (n : Nat) (ls st : List aV) (μ : aM) (g : Nat) : W (n + 1) 866 ls st μ g = (sLd 3 867 isR) (W n) ls st μ g := (hW n 866 ls st μ g).trans rfl
theorem wLw11_867 {l : Launch} {L : Nat} {xs : Nat → Int32} {J : aK} {W : Nat → aK} (hW : isW (tbLw11 l L xs) cuLw11 J W) (n : Nat) (ls st : List aV) (μ : aM) (g : Nat) : W (n + 1) 867 ls st μ g = (sCallS 3 (fun as μ K => CtH l mdL_shownOf hhL_shownOf as μ K) 870 2 3600) (W n) ls st μ g := (hW n 867 ls st μ g).trans rfl
theorem tLw11_870 (l : Launch) (L : Nat) (xs : Nat → Int32) : tb (tbLw11 l L xs) 870 = sSt 6 872 isI := (rfl)
theorem wLw11_870 {l : Launch} {L : Nat} {xs : Nat → Int32} {J : aK} {W : Nat → aK} (hW : isW (tbLw11 l L xs) cuLw11 J W) (n : Nat) (ls st : List aV) (μ : aM) (g : Nat) : W (n + 1) 870 ls st μ g = J 870 ls st μ g := (hW n 870 ls st μ g).trans rfl
theorem wLw11_872 {l : Launch} {L : Nat} {xs : Nat → Int32} {J : aK} {W : Nat → aK} (hW : isW (tbLw11 l L xs) cuLw11 J W) (n : Nat) (ls st : List aV) (μ : aM) (g : Nat) : W (n + 1) 872 ls st μ g = (sLd 2 873 isR) (W n) ls st μ g := (hW n 872 ls st μ g).trans rfl
theorem wLw11_873 {l : Launch} {L : Nat} {xs : Nat → Int32} {J : aK} {W : Nat → aK} (hW : isW (tbLw11 l L xs) cuLw11 J W) (n : Nat) (ls st : List aV) (μ : aM) (g : Nat) : W (n + 1) 873 ls st μ g = (sLd 0 874 isR) (W n) ls st μ g := (hW n 873 ls st μ g).trans rfl
theorem wLw11_874 {l : Launch} {L : Nat} {xs : Nat → Int32} {J : aK} {W : Nat → aK} (hW : isW (tbLw11 l L xs) cuLw11 J W) (n : Nat) (ls st : List aV) (μ : aM) (g : Nat) : W (n + 1) 874 ls st μ g = (sLd 5 876 isI) (W n) ls st μ g := (hW n 874 ls st μ g).trans rfl
theorem wLw11_876 {l : Launch} {L : Nat} {xs : Nat → Int32} {J : aK} {W : Nat → aK} (hW : isW (tbLw11 l L xs) cuLw11 J W) (n : Nat) (ls st : List aV) (μ : aM) (g : Nat) : W (n + 1) 876 ls st μ g = (sPush (aI 1) 877) (W n) ls st μ g := (hW n 876 ls st μ g).trans rfl
theorem wLw11_877 {l : Launch} {L : Nat} {xs : Nat → Int32} {J : aK} {W : Nat → aK} (hW : isW (tbLw11 l L xs) cuLw11 J W) (n : Nat) (ls st : List aV) (μ : aM) (g : Nat) : W (n + 1) 877 ls st μ g = (sBin fAdd 878) (W n) ls st μ g := (hW n 877 ls st μ g).trans rfl
theorem wLw11_878 {l : Launch} {L : Nat} {xs : Nat → Int32} {J : aK} {W : Nat → aK} (hW : isW (tbLw11 l L xs) cuLw11 J W) (n : Nat) (ls st : List aV) (μ : aM) (g : Nat) : W (n + 1) 878 ls st μ g = (sSld L xs 879) (W n) ls st μ g := (hW n 878 ls st μ g).trans rfl
theorem wLw11_879 {l : Launch} {L : Nat} {xs : Nat → Int32} {J : aK} {W : Nat → aK} (hW : isW (tbLw11 l L xs) cuLw11 J W) (n : Nat) (ls st : List aV) (μ : aM) (g : Nat) : W (n + 1) 879 ls st μ g = (sCallV 1 5 (fun as μ K => Ct l mdX5_shownOf as μ K nX) 882 0 3600) (W n) ls st μ g := (hW n 879 ls st μ g).trans rfl
theorem tLw11_882 (l : Launch) (L : Nat) (xs : Nat → Int32) : tb (tbLw11 l L xs) 882 = sSt 7 884 isI := (rfl)
theorem wLw11_882 {l : Launch} {L : Nat} {xs : Nat → Int32} {J : aK} {W : Nat → aK} (hW : isW (tbLw11 l L xs) cuLw11 J W) (n : Nat) (ls st : List aV) (μ : aM) (g : Nat) : W (n + 1) 882 ls st μ g = J 882 ls st μ g := (hW n 882 ls st μ g).trans rfl
theorem wLw11_884 {l : Launch} {L : Nat} {xs : Nat → Int32} {J : aK} {W : Nat → aK} (hW : isW (tbLw11 l L xs) cuLw11 J W) (n : Nat) (ls st : List aV) (μ : aM) (g : Nat) : W (n + 1) 884 ls st μ g = (sLd 2 885 isR) (W n) ls st μ g := (hW n 884 ls st μ g).trans rfl
theorem wLw11_885 {l : Launch} {L : Nat} {xs : Nat → Int32} {J : aK} {W : Nat → aK} (hW : isW (tbLw11 l L xs) cuLw11 J W) (n : Nat) (ls st : List aV) (μ : aM) (g : Nat) : W (n + 1) 885 ls st μ g = (sCallV 0 5 (fun as μ K => Ct l mdX5_thrown as μ K nX) 888 0 3600) (W n) ls st μ g := (hW n 885 ls st μ g).trans rfl
theorem tLw11_888 (l : Launch) (L : Nat) (xs : Nat → Int32) : tb (tbLw11 l L xs) 888 = sLd 6 890 isI := (rfl)
theorem wLw11_888 {l : Launch} {L : Nat} {xs : Nat → Int32} {J : aK} {W : Nat → aK} (hW : isW (tbLw11 l L xs) cuLw11 J W) (n : Nat) (ls st : List aV) (μ : aM) (g : Nat) : W (n + 1) 888 ls st μ g = J 888 ls st μ g := (hW n 888 ls st μ g).trans rfl
theorem wLw11_890 {l : Launch} {L : Nat} {xs : Nat → Int32} {J : aK} {W : Nat → aK} (hW : isW (tbLw11 l L xs) cuLw11 J W) (n : Nat) (ls st : List aV) (μ : aM) (g : Nat) : W (n + 1) 890 ls st μ g = (sIc qEq 895 893) (W n) ls st μ g := (hW n 890 ls st μ g).trans rfl
theorem wLw11_893 {l : Launch} {L : Nat} {xs : Nat → Int32} {J : aK} {W : Nat → aK} (hW : isW (tbLw11 l L xs) cuLw11 J W) (n : Nat) (ls st : List aV) (μ : aM) (g : Nat) : W (n + 1) 893 ls st μ g = (sPush (aI 0) 894) (W n) ls st μ g := (hW n 893 ls st μ g).trans rfl
theorem wLw11_894 {l : Launch} {L : Nat} {xs : Nat → Int32} {J : aK} {W : Nat → aK} (hW : isW (tbLw11 l L xs) cuLw11 J W) (n : Nat) (ls st : List aV) (μ : aM) (g : Nat) : W (n + 1) 894 ls st μ g = (sLret) (W n) ls st μ g := (hW n 894 ls st μ g).trans rfl
theorem wLw11_895 {l : Launch} {L : Nat} {xs : Nat → Int32} {J : aK} {W : Nat → aK} (hW : isW (tbLw11 l L xs) cuLw11 J W) (n : Nat) (ls st : List aV) (μ : aM) (g : Nat) : W (n + 1) 895 ls st μ g = (sLd 6 897 isI) (W n) ls st μ g := (hW n 895 ls st μ g).trans rfl
theorem wLw11_897 {l : Launch} {L : Nat} {xs : Nat → Int32} {J : aK} {W : Nat → aK} (hW : isW (tbLw11 l L xs) cuLw11 J W) (n : Nat) (ls st : List aV) (μ : aM) (g : Nat) : W (n + 1) 897 ls st μ g = (sIf pNe 912 900) (W n) ls st μ g := (hW n 897 ls st μ g).trans rfl
theorem wLw11_900 {l : Launch} {L : Nat} {xs : Nat → Int32} {J : aK} {W : Nat → aK} (hW : isW (tbLw11 l L xs) cuLw11 J W) (n : Nat) (ls st : List aV) (μ : aM) (g : Nat) : W (n + 1) 900 ls st μ g = (sLd 3 901 isR) (W n) ls st μ g := (hW n 900 ls st μ g).trans rfl
theorem wLw11_901 {l : Launch} {L : Nat} {xs : Nat → Int32} {J : aK} {W : Nat → aK} (hW : isW (tbLw11 l L xs) cuLw11 J W) (n : Nat) (ls st : List aV) (μ : aM) (g : Nat) : W (n + 1) 901 ls st μ g = (sPush (aI 0) 902) (W n) ls st μ g := (hW n 901 ls st μ g).trans rfl
theorem wLw11_902 {l : Launch} {L : Nat} {xs : Nat → Int32} {J : aK} {W : Nat → aK} (hW : isW (tbLw11 l L xs) cuLw11 J W) (n : Nat) (ls st : List aV) (μ : aM) (g : Nat) : W (n + 1) 902 ls st μ g = (sAldL 903) (W n) ls st μ g := (hW n 902 ls st μ g).trans rfl
theorem wLw11_903 {l : Launch} {L : Nat} {xs : Nat → Int32} {J : aK} {W : Nat → aK} (hW : isW (tbLw11 l L xs) cuLw11 J W) (n : Nat) (ls st : List aV) (μ : aM) (g : Nat) : W (n + 1) 903 ls st μ g = (sLd 7 905 isI) (W n) ls st μ g := (hW n 903 ls st μ g).trans rfl
theorem wLw11_905 {l : Launch} {L : Nat} {xs : Nat → Int32} {J : aK} {W : Nat → aK} (hW : isW (tbLw11 l L xs) cuLw11 J W) (n : Nat) (ls st : List aV) (μ : aM) (g : Nat) : W (n + 1) 905 ls st μ g = (sI2l 906) (W n) ls st μ g := (hW n 905 ls st μ g).trans rfl
theorem wLw11_906 {l : Launch} {L : Nat} {xs : Nat → Int32} {J : aK} {W : Nat → aK} (hW : isW (tbLw11 l L xs) cuLw11 J W) (n : Nat) (ls st : List aV) (μ : aM) (g : Nat) : W (n + 1) 906 ls st μ g = (sLcmp 907) (W n) ls st μ g := (hW n 906 ls st μ g).trans rfl
theorem wLw11_907 {l : Launch} {L : Nat} {xs : Nat → Int32} {J : aK} {W : Nat → aK} (hW : isW (tbLw11 l L xs) cuLw11 J W) (n : Nat) (ls st : List aV) (μ : aM) (g : Nat) : W (n + 1) 907 ls st μ g = (sIf pEq 912 910) (W n) ls st μ g := (hW n 907 ls st μ g).trans rfl
theorem wLw11_910 {l : Launch} {L : Nat} {xs : Nat → Int32} {J : aK} {W : Nat → aK} (hW : isW (tbLw11 l L xs) cuLw11 J W) (n : Nat) (ls st : List aV) (μ : aM) (g : Nat) : W (n + 1) 910 ls st μ g = (sPush (aI 0) 911) (W n) ls st μ g := (hW n 910 ls st μ g).trans rfl
theorem wLw11_911 {l : Launch} {L : Nat} {xs : Nat → Int32} {J : aK} {W : Nat → aK} (hW : isW (tbLw11 l L xs) cuLw11 J W) (n : Nat) (ls st : List aV) (μ : aM) (g : Nat) : W (n + 1) 911 ls st μ g = (sLret) (W n) ls st μ g := (hW n 911 ls st μ g).trans rfl
theorem wLw11_912 {l : Launch} {L : Nat} {xs : Nat → Int32} {J : aK} {W : Nat → aK} (hW : isW (tbLw11 l L xs) cuLw11 J W) (n : Nat) (ls st : List aV) (μ : aM) (g : Nat) : W (n + 1) 912 ls st μ g = (sGoto 1969) (W n) ls st μ g := (hW n 912 ls st μ g).trans rfl
theorem dLw12_915 : decode code 915 = .ok (.aload_n 1, 1) := by decide +kernel
theorem dLw12_916 : decode code 916 = .ok (.aload_n 0, 1) := by decide +kernel
theorem dLw12_917 : decode code 917 = .ok (.iload 5, 2) := by decide +kernel
theorem dLw12_919 : decode code 919 = .ok (.iconst 1, 1) := by decide +kernel
theorem dLw12_920 : decode code 920 = .ok (.iadd, 1) := by decide +kernel
theorem dLw12_921 : decode code 921 = .ok (.iaload, 1) := by decide +kernel
theorem dLw12_922 : decode code 922 = .ok (.aload 4, 2) := by decide +kernel
theorem dLw12_924 : decode code 924 = .ok (.invokestatic 163, 3) := by decide +kernel
theorem dLw12_927 : decode code 927 = .ok (.istore 6, 2) := by decide +kernel
theorem dLw12_929 : decode code 929 = .ok (.aload_n 2, 1) := by decide +kernel
theorem dLw12_930 : decode code 930 = .ok (.aload_n 0, 1) := by decide +kernel
theorem dLw12_931 : decode code 931 = .ok (.iload 5, 2) := by decide +kernel
theorem dLw12_933 : decode code 933 = .ok (.iconst 1, 1) := by decide +kernel
theorem dLw12_934 : decode code 934 = .ok (.iadd, 1) := by decide +kernel
theorem dLw12_935 : decode code 935 = .ok (.iaload, 1) := by decide +kernel
theorem dLw12_936 : decode code 936 = .ok (.invokevirtual 166, 3) := by decide +kernel
theorem dLw12_939 : decode code 939 = .ok (.fstore 7, 2) := by decide +kernel
theorem dLw12_941 : decode code 941 = .ok (.aload_n 2, 1) := by decide +kernel
theorem dLw12_942 : decode code 942 = .ok (.invokevirtual 121, 3) := by decide +kernel
theorem dLw12_945 : decode code 945 = .ok (.iload 6, 2) := by decide +kernel
theorem dLw12_947 : decode code 947 = .ok (.if_icmp .eq 5, 3) := by decide +kernel
theorem dLw12_950 : decode code 950 = .ok (.iconst 0, 1) := by decide +kernel
theorem dLw12_951 : decode code 951 = .ok (.ireturn, 1) := by decide +kernel
theorem dLw12_952 : decode code 952 = .ok (.iload 6, 2) := by decide +kernel
theorem dLw12_954 : decode code 954 = .ok (.ifCond .ne 36, 3) := by decide +kernel
theorem dLw12_957 : decode code 957 = .ok (.aload 4, 2) := by decide +kernel
theorem dLw12_959 : decode code 959 = .ok (.iconst 0, 1) := by decide +kernel
theorem dLw12_960 : decode code 960 = .ok (.daload, 1) := by decide +kernel
theorem dLw12_961 : decode code 961 = .ok (.fload 7, 2) := by decide +kernel
theorem dLw12_963 : decode code 963 = .ok (.f2d, 1) := by decide +kernel
theorem dLw12_964 : decode code 964 = .ok (.dcmp .l, 1) := by decide +kernel
theorem dLw12_965 : decode code 965 = .ok (.ifCond .eq 25, 3) := by decide +kernel
theorem dLw12_968 : decode code 968 = .ok (.aload 4, 2) := by decide +kernel
theorem dLw12_970 : decode code 970 = .ok (.iconst 0, 1) := by decide +kernel
theorem dLw12_971 : decode code 971 = .ok (.daload, 1) := by decide +kernel
theorem dLw12_972 : decode code 972 = .ok (.aload 4, 2) := by decide +kernel
theorem dLw12_974 : decode code 974 = .ok (.iconst 0, 1) := by decide +kernel
theorem dLw12_975 : decode code 975 = .ok (.daload, 1) := by decide +kernel
theorem dLw12_976 : decode code 976 = .ok (.dcmp .l, 1) := by decide +kernel
theorem dLw12_977 : decode code 977 = .ok (.ifCond .eq 11, 3) := by decide +kernel
theorem dLw12_980 : decode code 980 = .ok (.fload 7, 2) := by decide +kernel
theorem dLw12_982 : decode code 982 = .ok (.fload 7, 2) := by decide +kernel
theorem dLw12_984 : decode code 984 = .ok (.fcmp .l, 1) := by decide +kernel
theorem dLw12_985 : decode code 985 = .ok (.ifCond .ne 5, 3) := by decide +kernel
theorem dLw12_988 : decode code 988 = .ok (.iconst 0, 1) := by decide +kernel
theorem dLw12_989 : decode code 989 = .ok (.ireturn, 1) := by decide +kernel
theorem dLw12_990 : decode code 990 = .ok (.goto 979, 3) := by decide +kernel
def tbLw12 (l : Launch) (L : Nat) (xs : Nat → Int32) : aTb := [
  (915, sLd 1 916 isR),
  (916, sLd 0 917 isR),
  (917, sLd 5 919 isI),
  (919, sPush (aI 1) 920),
  (920, sBin fAdd 921),
  (921, sSld L xs 922),
  (922, sLd 4 924 isR),
  (924, sCallS 3 (fun as μ K => CtH l mdL_filledShare hhL_filledShare as μ K) 927 1 3600),
  (927, sSt 6 929 isI),
  (929, sLd 2 930 isR),
  (930, sLd 0 931 isR),
  (931, sLd 5 933 isI),
  (933, sPush (aI 1) 934),
  (934, sBin fAdd 935),
  (935, sSld L xs 936),
  (936, sCallV 1 5 (fun as μ K => Ct l mdX5_filledShare as μ K nX) 939 0 3600),
  (939, sSt 7 941 isF),
  (941, sLd 2 942 isR),
  (942, sCallV 0 5 (fun as μ K => Ct l mdX5_thrown as μ K nX) 945 0 3600),
  (945, sLd 6 947 isI),
  (947, sIc qEq 952 950),
  (950, sPush (aI 0) 951),
  (951, sLret),
  (952, sLd 6 954 isI),
  (954, sIf pNe 990 957),
  (957, sLd 4 959 isR),
  (959, sPush (aI 0) 960),
  (960, sAldD 961),
  (961, sLd 7 963 isF),
  (963, sF2d 964),
  (964, sDcmp .l 965),
  (965, sIf pEq 990 968),
  (968, sLd 4 970 isR),
  (970, sPush (aI 0) 971),
  (971, sAldD 972),
  (972, sLd 4 974 isR),
  (974, sPush (aI 0) 975),
  (975, sAldD 976),
  (976, sDcmp .l 977),
  (977, sIf pEq 988 980),
  (980, sLd 7 982 isF),
  (982, sLd 7 984 isF),
  (985, sIf pNe 990 988),
  (988, sPush (aI 0) 989),
  (989, sLret),
  (990, sGoto 1969)]
theorem snLw12 (l : Launch) (L : Nat) (xs : Nat → Int32) (hL3 : L ≤ 3072) : ∀ q ∈ tbLw12 l L xs, Snd (BL l L xs) q.1 q.2 :=
  tcG (sLw (fun p e s m below meth c b cA D A ad0 h hb => ok_aload_n h.1 1 rfl dLw12_915)) <|
  tcG (sLw (fun p e s m below meth c b cA D A ad0 h hb => ok_aload_n h.1 0 rfl dLw12_916)) <|
  tcG (sLw (fun p e s m below meth c b cA D A ad0 h hb => ok_iload h.1 dLw12_917)) <|
  tcG (sLw (fun p e s m below meth c b cA D A ad0 h hb => ok_iconst h.1 ⟨by decide, by decide⟩ dLw12_919)) <|
  tcG (sLw (fun p e s m below meth c b cA D A ad0 h hb => ok_iadd h.1 dLw12_920)) <|
  tcG (sLw (fun p e s m below meth c b cA D A ad0 h hb => ok_sld h hb dLw12_921)) <|
  tcG (sLw (fun p e s m below meth c b cA D A ad0 h hb => ok_aload h.1 dLw12_922)) <|
  tcG (sLw (fun p e s m below meth c b cA D A ad0 h hb => ok_callSH h.1 h.2.1 (show 3600 ≤ room_1.cells ∧ 2000 * 3600 ≤ room_1.slots from ⟨Nat.le_of_ble_eq_true rfl, Nat.le_of_ble_eq_true rfl⟩) mdL_filledShare hhL_filledShare siL_filledShare mkRL_163 stL_filledShare ⟨by decide, by decide⟩ dLw12_924)) <|
  tcG (sLw (fun p e s m below meth c b cA D A ad0 h hb => ok_istore h.1 (by decide) dLw12_927)) <|
  tcG (sLw (fun p e s m below meth c b cA D A ad0 h hb => ok_aload_n h.1 2 rfl dLw12_929)) <|
  tcG (sLw (fun p e s m below meth c b cA D A ad0 h hb => ok_aload_n h.1 0 rfl dLw12_930)) <|
  tcG (sLw (fun p e s m below meth c b cA D A ad0 h hb => ok_iload h.1 dLw12_931)) <|
  tcG (sLw (fun p e s m below meth c b cA D A ad0 h hb => ok_iconst h.1 ⟨by decide, by decide⟩ dLw12_933)) <|
  tcG (sLw (fun p e s m below meth c b cA D A ad0 h hb => ok_iadd h.1 dLw12_934)) <|
  tcG (sLw (fun p e s m below meth c b cA D A ad0 h hb => ok_sld h hb dLw12_935)) <|
  tcG (sLw (fun p e s m below meth c b cA D A ad0 h hb => ok_callV h.1 h.2.1 (show 3600 ≤ room_1.cells ∧ 2000 * 3600 ≤ room_1.slots from ⟨Nat.le_of_ble_eq_true rfl, Nat.le_of_ble_eq_true rfl⟩) mdX5_filledShare siX5_filledShare cxX5 mkRL_166 imX5_filledShare seX5_filledShare ⟨by decide, by decide⟩ aAx_no dLw12_936)) <|
  tcG (sLw (fun p e s m below meth c b cA D A ad0 h hb => ok_fstore h.1 (by decide) dLw12_939)) <|
  tcG (sLw (fun p e s m below meth c b cA D A ad0 h hb => ok_aload_n h.1 2 rfl dLw12_941)) <|
  tcG (sLw (fun p e s m below meth c b cA D A ad0 h hb => ok_callV h.1 h.2.1 (show 3600 ≤ room_1.cells ∧ 2000 * 3600 ≤ room_1.slots from ⟨Nat.le_of_ble_eq_true rfl, Nat.le_of_ble_eq_true rfl⟩) mdX5_thrown siX5_thrown cxX5 mkRL_121 imX5_thrown seX5_thrown ⟨by decide, by decide⟩ aAx_no dLw12_942)) <|
  tcG (sLw (fun p e s m below meth c b cA D A ad0 h hb => ok_iload h.1 dLw12_945)) <|
  tcG (sLw (fun p e s m below meth c b cA D A ad0 h hb => ok_icmp_eq h.1 952 (by decide) dLw12_947)) <|
  tcG (sLw (fun p e s m below meth c b cA D A ad0 h hb => ok_iconst h.1 ⟨by decide, by decide⟩ dLw12_950)) <|
  tcG (sLw (fun p e s m below meth c b cA D A ad0 h hb => ok_lret h dLw12_951)) <|
  tcG (sLw (fun p e s m below meth c b cA D A ad0 h hb => ok_iload h.1 dLw12_952)) <|
  tcG (sLw (fun p e s m below meth c b cA D A ad0 h hb => ok_if_ne h.1 990 (by decide) dLw12_954)) <|
  tcG (sLw (fun p e s m below meth c b cA D A ad0 h hb => ok_aload h.1 dLw12_957)) <|
  tcG (sLw (fun p e s m below meth c b cA D A ad0 h hb => ok_iconst h.1 ⟨by decide, by decide⟩ dLw12_959)) <|
  tcG (sLw (fun p e s m below meth c b cA D A ad0 h hb => ok_dald h.1 dLw12_960)) <|
  tcG (sLw (fun p e s m below meth c b cA D A ad0 h hb => ok_fload h.1 dLw12_961)) <|
  tcG (sLw (fun p e s m below meth c b cA D A ad0 h hb => ok_f2d h.1 dLw12_963)) <|
  tcG (sLw (fun p e s m below meth c b cA D A ad0 h hb => ok_dcmp h.1 dLw12_964)) <|
  tcG (sLw (fun p e s m below meth c b cA D A ad0 h hb => ok_if_eq h.1 990 (by decide) dLw12_965)) <|
  tcG (sLw (fun p e s m below meth c b cA D A ad0 h hb => ok_aload h.1 dLw12_968)) <|
  tcG (sLw (fun p e s m below meth c b cA D A ad0 h hb => ok_iconst h.1 ⟨by decide, by decide⟩ dLw12_970)) <|
  tcG (sLw (fun p e s m below meth c b cA D A ad0 h hb => ok_dald h.1 dLw12_971)) <|
  tcG (sLw (fun p e s m below meth c b cA D A ad0 h hb => ok_aload h.1 dLw12_972)) <|
  tcG (sLw (fun p e s m below meth c b cA D A ad0 h hb => ok_iconst h.1 ⟨by decide, by decide⟩ dLw12_974)) <|
  tcG (sLw (fun p e s m below meth c b cA D A ad0 h hb => ok_dald h.1 dLw12_975)) <|
  tcG (sLw (fun p e s m below meth c b cA D A ad0 h hb => ok_dcmp h.1 dLw12_976)) <|
  tcG (sLw (fun p e s m below meth c b cA D A ad0 h hb => ok_if_eq h.1 988 (by decide) dLw12_977)) <|
  tcG (sLw (fun p e s m below meth c b cA D A ad0 h hb => ok_fload h.1 dLw12_980)) <|
  tcG (sLw (fun p e s m below meth c b cA D A ad0 h hb => ok_fload h.1 dLw12_982)) <|
  tcG (sLw (fun p e s m below meth c b cA D A ad0 h hb => ok_if_ne h.1 990 (by decide) dLw12_985)) <|
  tcG (sLw (fun p e s m below meth c b cA D A ad0 h hb => ok_iconst h.1 ⟨by decide, by decide⟩ dLw12_988)) <|
  tcG (sLw (fun p e s m below meth c b cA D A ad0 h hb => ok_lret h dLw12_989)) <|
  tcG (sLw (fun p e s m below meth c b cA D A ad0 h hb => ok_goto h.1 1969 (by decide) dLw12_990)) <|
  tnG
abbrev cuLw12 : List Nat := [927, 939, 945, 1969]
theorem wLw12_1969 {l : Launch} {L : Nat} {xs : Nat → Int32} {J : aK} {W : Nat → aK} (hW : isW (tbLw12 l L xs) cuLw12 J W) (n : Nat) (ls st : List aV) (μ : aM) (g : Nat) : W (n + 1) 1969 ls st μ g = J 1969 ls st μ g := (hW n 1969 ls st μ g).trans rfl
theorem tLw12_915 (l : Launch) (L : Nat) (xs : Nat → Int32) : tb (tbLw12 l L xs) 915 = sLd 1 916 isR := (rfl)
theorem wLw12_915 {l : Launch} {L : Nat} {xs : Nat → Int32} {J : aK} {W : Nat → aK} (hW : isW (tbLw12 l L xs) cuLw12 J W) (n : Nat) (ls st : List aV) (μ : aM) (g : Nat) : W (n + 1) 915 ls st μ g = (sLd 1 916 isR) (W n) ls st μ g := (hW n 915 ls st μ g).trans rfl
theorem wLw12_916 {l : Launch} {L : Nat} {xs : Nat → Int32} {J : aK} {W : Nat → aK} (hW : isW (tbLw12 l L xs) cuLw12 J W) (n : Nat) (ls st : List aV) (μ : aM) (g : Nat) : W (n + 1) 916 ls st μ g = (sLd 0 917 isR) (W n) ls st μ g := (hW n 916 ls st μ g).trans rfl
theorem wLw12_917 {l : Launch} {L : Nat} {xs : Nat → Int32} {J : aK} {W : Nat → aK} (hW : isW (tbLw12 l L xs) cuLw12 J W) (n : Nat) (ls st : List aV) (μ : aM) (g : Nat) : W (n + 1) 917 ls st μ g = (sLd 5 919 isI) (W n) ls st μ g := (hW n 917 ls st μ g).trans rfl
theorem wLw12_919 {l : Launch} {L : Nat} {xs : Nat → Int32} {J : aK} {W : Nat → aK} (hW : isW (tbLw12 l L xs) cuLw12 J W) (n : Nat) (ls st : List aV) (μ : aM) (g : Nat) : W (n + 1) 919 ls st μ g = (sPush (aI 1) 920) (W n) ls st μ g := (hW n 919 ls st μ g).trans rfl
theorem wLw12_920 {l : Launch} {L : Nat} {xs : Nat → Int32} {J : aK} {W : Nat → aK} (hW : isW (tbLw12 l L xs) cuLw12 J W) (n : Nat) (ls st : List aV) (μ : aM) (g : Nat) : W (n + 1) 920 ls st μ g = (sBin fAdd 921) (W n) ls st μ g := (hW n 920 ls st μ g).trans rfl
theorem wLw12_921 {l : Launch} {L : Nat} {xs : Nat → Int32} {J : aK} {W : Nat → aK} (hW : isW (tbLw12 l L xs) cuLw12 J W) (n : Nat) (ls st : List aV) (μ : aM) (g : Nat) : W (n + 1) 921 ls st μ g = (sSld L xs 922) (W n) ls st μ g := (hW n 921 ls st μ g).trans rfl
theorem wLw12_922 {l : Launch} {L : Nat} {xs : Nat → Int32} {J : aK} {W : Nat → aK} (hW : isW (tbLw12 l L xs) cuLw12 J W) (n : Nat) (ls st : List aV) (μ : aM) (g : Nat) : W (n + 1) 922 ls st μ g = (sLd 4 924 isR) (W n) ls st μ g := (hW n 922 ls st μ g).trans rfl
theorem wLw12_924 {l : Launch} {L : Nat} {xs : Nat → Int32} {J : aK} {W : Nat → aK} (hW : isW (tbLw12 l L xs) cuLw12 J W) (n : Nat) (ls st : List aV) (μ : aM) (g : Nat) : W (n + 1) 924 ls st μ g = (sCallS 3 (fun as μ K => CtH l mdL_filledShare hhL_filledShare as μ K) 927 1 3600) (W n) ls st μ g := (hW n 924 ls st μ g).trans rfl
theorem tLw12_927 (l : Launch) (L : Nat) (xs : Nat → Int32) : tb (tbLw12 l L xs) 927 = sSt 6 929 isI := (rfl)
theorem wLw12_927 {l : Launch} {L : Nat} {xs : Nat → Int32} {J : aK} {W : Nat → aK} (hW : isW (tbLw12 l L xs) cuLw12 J W) (n : Nat) (ls st : List aV) (μ : aM) (g : Nat) : W (n + 1) 927 ls st μ g = J 927 ls st μ g := (hW n 927 ls st μ g).trans rfl
theorem wLw12_929 {l : Launch} {L : Nat} {xs : Nat → Int32} {J : aK} {W : Nat → aK} (hW : isW (tbLw12 l L xs) cuLw12 J W) (n : Nat) (ls st : List aV) (μ : aM) (g : Nat) : W (n + 1) 929 ls st μ g = (sLd 2 930 isR) (W n) ls st μ g := (hW n 929 ls st μ g).trans rfl
theorem wLw12_930 {l : Launch} {L : Nat} {xs : Nat → Int32} {J : aK} {W : Nat → aK} (hW : isW (tbLw12 l L xs) cuLw12 J W) (n : Nat) (ls st : List aV) (μ : aM) (g : Nat) : W (n + 1) 930 ls st μ g = (sLd 0 931 isR) (W n) ls st μ g := (hW n 930 ls st μ g).trans rfl
theorem wLw12_931 {l : Launch} {L : Nat} {xs : Nat → Int32} {J : aK} {W : Nat → aK} (hW : isW (tbLw12 l L xs) cuLw12 J W) (n : Nat) (ls st : List aV) (μ : aM) (g : Nat) : W (n + 1) 931 ls st μ g = (sLd 5 933 isI) (W n) ls st μ g := (hW n 931 ls st μ g).trans rfl
theorem wLw12_933 {l : Launch} {L : Nat} {xs : Nat → Int32} {J : aK} {W : Nat → aK} (hW : isW (tbLw12 l L xs) cuLw12 J W) (n : Nat) (ls st : List aV) (μ : aM) (g : Nat) : W (n + 1) 933 ls st μ g = (sPush (aI 1) 934) (W n) ls st μ g := (hW n 933 ls st μ g).trans rfl
theorem wLw12_934 {l : Launch} {L : Nat} {xs : Nat → Int32} {J : aK} {W : Nat → aK} (hW : isW (tbLw12 l L xs) cuLw12 J W) (n : Nat) (ls st : List aV) (μ : aM) (g : Nat) : W (n + 1) 934 ls st μ g = (sBin fAdd 935) (W n) ls st μ g := (hW n 934 ls st μ g).trans rfl
theorem wLw12_935 {l : Launch} {L : Nat} {xs : Nat → Int32} {J : aK} {W : Nat → aK} (hW : isW (tbLw12 l L xs) cuLw12 J W) (n : Nat) (ls st : List aV) (μ : aM) (g : Nat) : W (n + 1) 935 ls st μ g = (sSld L xs 936) (W n) ls st μ g := (hW n 935 ls st μ g).trans rfl
theorem wLw12_936 {l : Launch} {L : Nat} {xs : Nat → Int32} {J : aK} {W : Nat → aK} (hW : isW (tbLw12 l L xs) cuLw12 J W) (n : Nat) (ls st : List aV) (μ : aM) (g : Nat) : W (n + 1) 936 ls st μ g = (sCallV 1 5 (fun as μ K => Ct l mdX5_filledShare as μ K nX) 939 0 3600) (W n) ls st μ g := (hW n 936 ls st μ g).trans rfl
theorem tLw12_939 (l : Launch) (L : Nat) (xs : Nat → Int32) : tb (tbLw12 l L xs) 939 = sSt 7 941 isF := (rfl)
theorem wLw12_939 {l : Launch} {L : Nat} {xs : Nat → Int32} {J : aK} {W : Nat → aK} (hW : isW (tbLw12 l L xs) cuLw12 J W) (n : Nat) (ls st : List aV) (μ : aM) (g : Nat) : W (n + 1) 939 ls st μ g = J 939 ls st μ g := (hW n 939 ls st μ g).trans rfl
theorem wLw12_941 {l : Launch} {L : Nat} {xs : Nat → Int32} {J : aK} {W : Nat → aK} (hW : isW (tbLw12 l L xs) cuLw12 J W) (n : Nat) (ls st : List aV) (μ : aM) (g : Nat) : W (n + 1) 941 ls st μ g = (sLd 2 942 isR) (W n) ls st μ g := (hW n 941 ls st μ g).trans rfl
theorem wLw12_942 {l : Launch} {L : Nat} {xs : Nat → Int32} {J : aK} {W : Nat → aK} (hW : isW (tbLw12 l L xs) cuLw12 J W) (n : Nat) (ls st : List aV) (μ : aM) (g : Nat) : W (n + 1) 942 ls st μ g = (sCallV 0 5 (fun as μ K => Ct l mdX5_thrown as μ K nX) 945 0 3600) (W n) ls st μ g := (hW n 942 ls st μ g).trans rfl
theorem tLw12_945 (l : Launch) (L : Nat) (xs : Nat → Int32) : tb (tbLw12 l L xs) 945 = sLd 6 947 isI := (rfl)
theorem wLw12_945 {l : Launch} {L : Nat} {xs : Nat → Int32} {J : aK} {W : Nat → aK} (hW : isW (tbLw12 l L xs) cuLw12 J W) (n : Nat) (ls st : List aV) (μ : aM) (g : Nat) : W (n + 1) 945 ls st μ g = J 945 ls st μ g := (hW n 945 ls st μ g).trans rfl
theorem wLw12_947 {l : Launch} {L : Nat} {xs : Nat → Int32} {J : aK} {W : Nat → aK} (hW : isW (tbLw12 l L xs) cuLw12 J W) (n : Nat) (ls st : List aV) (μ : aM) (g : Nat) : W (n + 1) 947 ls st μ g = (sIc qEq 952 950) (W n) ls st μ g := (hW n 947 ls st μ g).trans rfl
theorem wLw12_950 {l : Launch} {L : Nat} {xs : Nat → Int32} {J : aK} {W : Nat → aK} (hW : isW (tbLw12 l L xs) cuLw12 J W) (n : Nat) (ls st : List aV) (μ : aM) (g : Nat) : W (n + 1) 950 ls st μ g = (sPush (aI 0) 951) (W n) ls st μ g := (hW n 950 ls st μ g).trans rfl
theorem wLw12_951 {l : Launch} {L : Nat} {xs : Nat → Int32} {J : aK} {W : Nat → aK} (hW : isW (tbLw12 l L xs) cuLw12 J W) (n : Nat) (ls st : List aV) (μ : aM) (g : Nat) : W (n + 1) 951 ls st μ g = (sLret) (W n) ls st μ g := (hW n 951 ls st μ g).trans rfl
theorem wLw12_952 {l : Launch} {L : Nat} {xs : Nat → Int32} {J : aK} {W : Nat → aK} (hW : isW (tbLw12 l L xs) cuLw12 J W) (n : Nat) (ls st : List aV) (μ : aM) (g : Nat) : W (n + 1) 952 ls st μ g = (sLd 6 954 isI) (W n) ls st μ g := (hW n 952 ls st μ g).trans rfl
theorem wLw12_954 {l : Launch} {L : Nat} {xs : Nat → Int32} {J : aK} {W : Nat → aK} (hW : isW (tbLw12 l L xs) cuLw12 J W) (n : Nat) (ls st : List aV) (μ : aM) (g : Nat) : W (n + 1) 954 ls st μ g = (sIf pNe 990 957) (W n) ls st μ g := (hW n 954 ls st μ g).trans rfl
theorem wLw12_957 {l : Launch} {L : Nat} {xs : Nat → Int32} {J : aK} {W : Nat → aK} (hW : isW (tbLw12 l L xs) cuLw12 J W) (n : Nat) (ls st : List aV) (μ : aM) (g : Nat) : W (n + 1) 957 ls st μ g = (sLd 4 959 isR) (W n) ls st μ g := (hW n 957 ls st μ g).trans rfl
theorem wLw12_959 {l : Launch} {L : Nat} {xs : Nat → Int32} {J : aK} {W : Nat → aK} (hW : isW (tbLw12 l L xs) cuLw12 J W) (n : Nat) (ls st : List aV) (μ : aM) (g : Nat) : W (n + 1) 959 ls st μ g = (sPush (aI 0) 960) (W n) ls st μ g := (hW n 959 ls st μ g).trans rfl
theorem wLw12_960 {l : Launch} {L : Nat} {xs : Nat → Int32} {J : aK} {W : Nat → aK} (hW : isW (tbLw12 l L xs) cuLw12 J W) (n : Nat) (ls st : List aV) (μ : aM) (g : Nat) : W (n + 1) 960 ls st μ g = (sAldD 961) (W n) ls st μ g := (hW n 960 ls st μ g).trans rfl
theorem wLw12_961 {l : Launch} {L : Nat} {xs : Nat → Int32} {J : aK} {W : Nat → aK} (hW : isW (tbLw12 l L xs) cuLw12 J W) (n : Nat) (ls st : List aV) (μ : aM) (g : Nat) : W (n + 1) 961 ls st μ g = (sLd 7 963 isF) (W n) ls st μ g := (hW n 961 ls st μ g).trans rfl
theorem wLw12_963 {l : Launch} {L : Nat} {xs : Nat → Int32} {J : aK} {W : Nat → aK} (hW : isW (tbLw12 l L xs) cuLw12 J W) (n : Nat) (ls st : List aV) (μ : aM) (g : Nat) : W (n + 1) 963 ls st μ g = (sF2d 964) (W n) ls st μ g := (hW n 963 ls st μ g).trans rfl
theorem wLw12_964 {l : Launch} {L : Nat} {xs : Nat → Int32} {J : aK} {W : Nat → aK} (hW : isW (tbLw12 l L xs) cuLw12 J W) (n : Nat) (ls st : List aV) (μ : aM) (g : Nat) : W (n + 1) 964 ls st μ g = (sDcmp .l 965) (W n) ls st μ g := (hW n 964 ls st μ g).trans rfl
theorem wLw12_965 {l : Launch} {L : Nat} {xs : Nat → Int32} {J : aK} {W : Nat → aK} (hW : isW (tbLw12 l L xs) cuLw12 J W) (n : Nat) (ls st : List aV) (μ : aM) (g : Nat) : W (n + 1) 965 ls st μ g = (sIf pEq 990 968) (W n) ls st μ g := (hW n 965 ls st μ g).trans rfl
theorem wLw12_968 {l : Launch} {L : Nat} {xs : Nat → Int32} {J : aK} {W : Nat → aK} (hW : isW (tbLw12 l L xs) cuLw12 J W) (n : Nat) (ls st : List aV) (μ : aM) (g : Nat) : W (n + 1) 968 ls st μ g = (sLd 4 970 isR) (W n) ls st μ g := (hW n 968 ls st μ g).trans rfl
theorem wLw12_970 {l : Launch} {L : Nat} {xs : Nat → Int32} {J : aK} {W : Nat → aK} (hW : isW (tbLw12 l L xs) cuLw12 J W) (n : Nat) (ls st : List aV) (μ : aM) (g : Nat) : W (n + 1) 970 ls st μ g = (sPush (aI 0) 971) (W n) ls st μ g := (hW n 970 ls st μ g).trans rfl
theorem wLw12_971 {l : Launch} {L : Nat} {xs : Nat → Int32} {J : aK} {W : Nat → aK} (hW : isW (tbLw12 l L xs) cuLw12 J W) (n : Nat) (ls st : List aV) (μ : aM) (g : Nat) : W (n + 1) 971 ls st μ g = (sAldD 972) (W n) ls st μ g := (hW n 971 ls st μ g).trans rfl
theorem wLw12_972 {l : Launch} {L : Nat} {xs : Nat → Int32} {J : aK} {W : Nat → aK} (hW : isW (tbLw12 l L xs) cuLw12 J W) (n : Nat) (ls st : List aV) (μ : aM) (g : Nat) : W (n + 1) 972 ls st μ g = (sLd 4 974 isR) (W n) ls st μ g := (hW n 972 ls st μ g).trans rfl
theorem wLw12_974 {l : Launch} {L : Nat} {xs : Nat → Int32} {J : aK} {W : Nat → aK} (hW : isW (tbLw12 l L xs) cuLw12 J W) (n : Nat) (ls st : List aV) (μ : aM) (g : Nat) : W (n + 1) 974 ls st μ g = (sPush (aI 0) 975) (W n) ls st μ g := (hW n 974 ls st μ g).trans rfl
theorem wLw12_975 {l : Launch} {L : Nat} {xs : Nat → Int32} {J : aK} {W : Nat → aK} (hW : isW (tbLw12 l L xs) cuLw12 J W) (n : Nat) (ls st : List aV) (μ : aM) (g : Nat) : W (n + 1) 975 ls st μ g = (sAldD 976) (W n) ls st μ g := (hW n 975 ls st μ g).trans rfl
theorem wLw12_976 {l : Launch} {L : Nat} {xs : Nat → Int32} {J : aK} {W : Nat → aK} (hW : isW (tbLw12 l L xs) cuLw12 J W) (n : Nat) (ls st : List aV) (μ : aM) (g : Nat) : W (n + 1) 976 ls st μ g = (sDcmp .l 977) (W n) ls st μ g := (hW n 976 ls st μ g).trans rfl
theorem wLw12_977 {l : Launch} {L : Nat} {xs : Nat → Int32} {J : aK} {W : Nat → aK} (hW : isW (tbLw12 l L xs) cuLw12 J W) (n : Nat) (ls st : List aV) (μ : aM) (g : Nat) : W (n + 1) 977 ls st μ g = (sIf pEq 988 980) (W n) ls st μ g := (hW n 977 ls st μ g).trans rfl
theorem wLw12_980 {l : Launch} {L : Nat} {xs : Nat → Int32} {J : aK} {W : Nat → aK} (hW : isW (tbLw12 l L xs) cuLw12 J W) (n : Nat) (ls st : List aV) (μ : aM) (g : Nat) : W (n + 1) 980 ls st μ g = (sLd 7 982 isF) (W n) ls st μ g := (hW n 980 ls st μ g).trans rfl
theorem wLw12_982 {l : Launch} {L : Nat} {xs : Nat → Int32} {J : aK} {W : Nat → aK} (hW : isW (tbLw12 l L xs) cuLw12 J W) (n : Nat) (ls st : List aV) (μ : aM) (g : Nat) : W (n + 1) 982 ls st μ g = (sLd 7 984 isF) (W n) ls st μ g := (hW n 982 ls st μ g).trans rfl
theorem wLw12_985 {l : Launch} {L : Nat} {xs : Nat → Int32} {J : aK} {W : Nat → aK} (hW : isW (tbLw12 l L xs) cuLw12 J W) (n : Nat) (ls st : List aV) (μ : aM) (g : Nat) : W (n + 1) 985 ls st μ g = (sIf pNe 990 988) (W n) ls st μ g := (hW n 985 ls st μ g).trans rfl
theorem wLw12_988 {l : Launch} {L : Nat} {xs : Nat → Int32} {J : aK} {W : Nat → aK} (hW : isW (tbLw12 l L xs) cuLw12 J W) (n : Nat) (ls st : List aV) (μ : aM) (g : Nat) : W (n + 1) 988 ls st μ g = (sPush (aI 0) 989) (W n) ls st μ g := (hW n 988 ls st μ g).trans rfl
theorem wLw12_989 {l : Launch} {L : Nat} {xs : Nat → Int32} {J : aK} {W : Nat → aK} (hW : isW (tbLw12 l L xs) cuLw12 J W) (n : Nat) (ls st : List aV) (μ : aM) (g : Nat) : W (n + 1) 989 ls st μ g = (sLret) (W n) ls st μ g := (hW n 989 ls st μ g).trans rfl
theorem wLw12_990 {l : Launch} {L : Nat} {xs : Nat → Int32} {J : aK} {W : Nat → aK} (hW : isW (tbLw12 l L xs) cuLw12 J W) (n : Nat) (ls st : List aV) (μ : aM) (g : Nat) : W (n + 1) 990 ls st μ g = (sGoto 1969) (W n) ls st μ g := (hW n 990 ls st μ g).trans rfl
theorem dLw13_993 : decode code 993 = .ok (.aload_n 1, 1) := by decide +kernel
theorem dLw13_994 : decode code 994 = .ok (.invokevirtual 167, 3) := by decide +kernel
theorem dLw13_997 : decode code 997 = .ok (.aload_n 2, 1) := by decide +kernel
theorem dLw13_998 : decode code 998 = .ok (.invokevirtual 170, 3) := by decide +kernel
theorem dLw13_1001 : decode code 1001 = .ok (.if_icmp .eq 968, 3) := by decide +kernel
theorem dLw13_1004 : decode code 1004 = .ok (.iconst 0, 1) := by decide +kernel
theorem dLw13_1005 : decode code 1005 = .ok (.ireturn, 1) := by decide +kernel
def tbLw13 (l : Launch) (L : Nat) (xs : Nat → Int32) : aTb := [
  (993, sLd 1 994 isR),
  (994, sCallV 0 4 (fun as μ K => Ct l mdX4_orderCount as μ K nX) 997 0 3600),
  (997, sLd 2 998 isR),
  (998, sCallV 0 5 (fun as μ K => Ct l mdX5_orderCount as μ K nX) 1001 0 3600),
  (1001, sIc qEq 1969 1004),
  (1004, sPush (aI 0) 1005),
  (1005, sLret)]
theorem snLw13 (l : Launch) (L : Nat) (xs : Nat → Int32) (hL3 : L ≤ 3072) : ∀ q ∈ tbLw13 l L xs, Snd (BL l L xs) q.1 q.2 :=
  tcG (sLw (fun p e s m below meth c b cA D A ad0 h hb => ok_aload_n h.1 1 rfl dLw13_993)) <|
  tcG (sLw (fun p e s m below meth c b cA D A ad0 h hb => ok_callV h.1 h.2.1 (show 3600 ≤ room_1.cells ∧ 2000 * 3600 ≤ room_1.slots from ⟨Nat.le_of_ble_eq_true rfl, Nat.le_of_ble_eq_true rfl⟩) mdX4_orderCount siX4_orderCount cxX4 mkRL_167 imX4_orderCount seX4_orderCount ⟨by decide, by decide⟩ aAx_no dLw13_994)) <|
  tcG (sLw (fun p e s m below meth c b cA D A ad0 h hb => ok_aload_n h.1 2 rfl dLw13_997)) <|
  tcG (sLw (fun p e s m below meth c b cA D A ad0 h hb => ok_callV h.1 h.2.1 (show 3600 ≤ room_1.cells ∧ 2000 * 3600 ≤ room_1.slots from ⟨Nat.le_of_ble_eq_true rfl, Nat.le_of_ble_eq_true rfl⟩) mdX5_orderCount siX5_orderCount cxX5 mkRL_170 imX5_orderCount seX5_orderCount ⟨by decide, by decide⟩ aAx_no dLw13_998)) <|
  tcG (sLw (fun p e s m below meth c b cA D A ad0 h hb => ok_icmp_eq h.1 1969 (by decide) dLw13_1001)) <|
  tcG (sLw (fun p e s m below meth c b cA D A ad0 h hb => ok_iconst h.1 ⟨by decide, by decide⟩ dLw13_1004)) <|
  tcG (sLw (fun p e s m below meth c b cA D A ad0 h hb => ok_lret h dLw13_1005)) <|
  tnG
abbrev cuLw13 : List Nat := [997, 1001, 1969]
theorem wLw13_1969 {l : Launch} {L : Nat} {xs : Nat → Int32} {J : aK} {W : Nat → aK} (hW : isW (tbLw13 l L xs) cuLw13 J W) (n : Nat) (ls st : List aV) (μ : aM) (g : Nat) : W (n + 1) 1969 ls st μ g = J 1969 ls st μ g := (hW n 1969 ls st μ g).trans rfl
theorem tLw13_993 (l : Launch) (L : Nat) (xs : Nat → Int32) : tb (tbLw13 l L xs) 993 = sLd 1 994 isR := (rfl)
theorem wLw13_993 {l : Launch} {L : Nat} {xs : Nat → Int32} {J : aK} {W : Nat → aK} (hW : isW (tbLw13 l L xs) cuLw13 J W) (n : Nat) (ls st : List aV) (μ : aM) (g : Nat) : W (n + 1) 993 ls st μ g = (sLd 1 994 isR) (W n) ls st μ g := (hW n 993 ls st μ g).trans rfl
theorem wLw13_994 {l : Launch} {L : Nat} {xs : Nat → Int32} {J : aK} {W : Nat → aK} (hW : isW (tbLw13 l L xs) cuLw13 J W) (n : Nat) (ls st : List aV) (μ : aM) (g : Nat) : W (n + 1) 994 ls st μ g = (sCallV 0 4 (fun as μ K => Ct l mdX4_orderCount as μ K nX) 997 0 3600) (W n) ls st μ g := (hW n 994 ls st μ g).trans rfl
theorem tLw13_997 (l : Launch) (L : Nat) (xs : Nat → Int32) : tb (tbLw13 l L xs) 997 = sLd 2 998 isR := (rfl)
theorem wLw13_997 {l : Launch} {L : Nat} {xs : Nat → Int32} {J : aK} {W : Nat → aK} (hW : isW (tbLw13 l L xs) cuLw13 J W) (n : Nat) (ls st : List aV) (μ : aM) (g : Nat) : W (n + 1) 997 ls st μ g = J 997 ls st μ g := (hW n 997 ls st μ g).trans rfl
theorem wLw13_998 {l : Launch} {L : Nat} {xs : Nat → Int32} {J : aK} {W : Nat → aK} (hW : isW (tbLw13 l L xs) cuLw13 J W) (n : Nat) (ls st : List aV) (μ : aM) (g : Nat) : W (n + 1) 998 ls st μ g = (sCallV 0 5 (fun as μ K => Ct l mdX5_orderCount as μ K nX) 1001 0 3600) (W n) ls st μ g := (hW n 998 ls st μ g).trans rfl
theorem tLw13_1001 (l : Launch) (L : Nat) (xs : Nat → Int32) : tb (tbLw13 l L xs) 1001 = sIc qEq 1969 1004 := (rfl)
theorem wLw13_1001 {l : Launch} {L : Nat} {xs : Nat → Int32} {J : aK} {W : Nat → aK} (hW : isW (tbLw13 l L xs) cuLw13 J W) (n : Nat) (ls st : List aV) (μ : aM) (g : Nat) : W (n + 1) 1001 ls st μ g = J 1001 ls st μ g := (hW n 1001 ls st μ g).trans rfl
theorem wLw13_1004 {l : Launch} {L : Nat} {xs : Nat → Int32} {J : aK} {W : Nat → aK} (hW : isW (tbLw13 l L xs) cuLw13 J W) (n : Nat) (ls st : List aV) (μ : aM) (g : Nat) : W (n + 1) 1004 ls st μ g = (sPush (aI 0) 1005) (W n) ls st μ g := (hW n 1004 ls st μ g).trans rfl
theorem wLw13_1005 {l : Launch} {L : Nat} {xs : Nat → Int32} {J : aK} {W : Nat → aK} (hW : isW (tbLw13 l L xs) cuLw13 J W) (n : Nat) (ls st : List aV) (μ : aM) (g : Nat) : W (n + 1) 1005 ls st μ g = (sLret) (W n) ls st μ g := (hW n 1005 ls st μ g).trans rfl
theorem dLw14_1006 : decode code 1006 = .ok (.aload_n 1, 1) := by decide +kernel
theorem dLw14_1007 : decode code 1007 = .ok (.aload_n 0, 1) := by decide +kernel
theorem dLw14_1008 : decode code 1008 = .ok (.iload 5, 2) := by decide +kernel
theorem dLw14_1010 : decode code 1010 = .ok (.iconst 1, 1) := by decide +kernel
theorem dLw14_1011 : decode code 1011 = .ok (.iadd, 1) := by decide +kernel
theorem dLw14_1012 : decode code 1012 = .ok (.iaload, 1) := by decide +kernel
theorem dLw14_1013 : decode code 1013 = .ok (.i2c, 1) := by decide +kernel
theorem dLw14_1014 : decode code 1014 = .ok (.aload_n 3, 1) := by decide +kernel
theorem dLw14_1015 : decode code 1015 = .ok (.invokestatic 171, 3) := by decide +kernel
theorem dLw14_1018 : decode code 1018 = .ok (.istore 6, 2) := by decide +kernel
theorem dLw14_1020 : decode code 1020 = .ok (.aload_n 2, 1) := by decide +kernel
theorem dLw14_1021 : decode code 1021 = .ok (.aload_n 0, 1) := by decide +kernel
theorem dLw14_1022 : decode code 1022 = .ok (.iload 5, 2) := by decide +kernel
theorem dLw14_1024 : decode code 1024 = .ok (.iconst 1, 1) := by decide +kernel
theorem dLw14_1025 : decode code 1025 = .ok (.iadd, 1) := by decide +kernel
theorem dLw14_1026 : decode code 1026 = .ok (.iaload, 1) := by decide +kernel
theorem dLw14_1027 : decode code 1027 = .ok (.i2c, 1) := by decide +kernel
theorem dLw14_1028 : decode code 1028 = .ok (.invokevirtual 173, 3) := by decide +kernel
theorem dLw14_1031 : decode code 1031 = .ok (.istore 7, 2) := by decide +kernel
theorem dLw14_1033 : decode code 1033 = .ok (.aload_n 2, 1) := by decide +kernel
theorem dLw14_1034 : decode code 1034 = .ok (.invokevirtual 121, 3) := by decide +kernel
theorem dLw14_1037 : decode code 1037 = .ok (.iload 6, 2) := by decide +kernel
theorem dLw14_1039 : decode code 1039 = .ok (.if_icmp .eq 5, 3) := by decide +kernel
theorem dLw14_1042 : decode code 1042 = .ok (.iconst 0, 1) := by decide +kernel
theorem dLw14_1043 : decode code 1043 = .ok (.ireturn, 1) := by decide +kernel
theorem dLw14_1044 : decode code 1044 = .ok (.iload 6, 2) := by decide +kernel
theorem dLw14_1046 : decode code 1046 = .ok (.ifCond .ne 15, 3) := by decide +kernel
theorem dLw14_1049 : decode code 1049 = .ok (.aload_n 3, 1) := by decide +kernel
theorem dLw14_1050 : decode code 1050 = .ok (.iconst 0, 1) := by decide +kernel
theorem dLw14_1051 : decode code 1051 = .ok (.laload, 1) := by decide +kernel
theorem dLw14_1052 : decode code 1052 = .ok (.iload 7, 2) := by decide +kernel
theorem dLw14_1054 : decode code 1054 = .ok (.i2l, 1) := by decide +kernel
theorem dLw14_1055 : decode code 1055 = .ok (.lcmp, 1) := by decide +kernel
theorem dLw14_1056 : decode code 1056 = .ok (.ifCond .eq 5, 3) := by decide +kernel
theorem dLw14_1059 : decode code 1059 = .ok (.iconst 0, 1) := by decide +kernel
theorem dLw14_1060 : decode code 1060 = .ok (.ireturn, 1) := by decide +kernel
theorem dLw14_1061 : decode code 1061 = .ok (.goto 908, 3) := by decide +kernel
def tbLw14 (l : Launch) (L : Nat) (xs : Nat → Int32) : aTb := [
  (1006, sLd 1 1007 isR),
  (1007, sLd 0 1008 isR),
  (1008, sLd 5 1010 isI),
  (1010, sPush (aI 1) 1011),
  (1011, sBin fAdd 1012),
  (1012, sSld L xs 1013),
  (1013, sUn fI2c 1014),
  (1014, sLd 3 1015 isR),
  (1015, sCallS 3 (fun as μ K => CtH l mdL_levels hhL_levels as μ K) 1018 1 3600),
  (1018, sSt 6 1020 isI),
  (1020, sLd 2 1021 isR),
  (1021, sLd 0 1022 isR),
  (1022, sLd 5 1024 isI),
  (1024, sPush (aI 1) 1025),
  (1025, sBin fAdd 1026),
  (1026, sSld L xs 1027),
  (1027, sUn fI2c 1028),
  (1028, sCallV 1 5 (fun as μ K => Ct l mdX5_levels as μ K nX) 1031 0 3600),
  (1031, sSt 7 1033 isI),
  (1033, sLd 2 1034 isR),
  (1034, sCallV 0 5 (fun as μ K => Ct l mdX5_thrown as μ K nX) 1037 0 3600),
  (1037, sLd 6 1039 isI),
  (1039, sIc qEq 1044 1042),
  (1042, sPush (aI 0) 1043),
  (1043, sLret),
  (1044, sLd 6 1046 isI),
  (1046, sIf pNe 1061 1049),
  (1049, sLd 3 1050 isR),
  (1050, sPush (aI 0) 1051),
  (1051, sAldL 1052),
  (1052, sLd 7 1054 isI),
  (1054, sI2l 1055),
  (1055, sLcmp 1056),
  (1056, sIf pEq 1061 1059),
  (1059, sPush (aI 0) 1060),
  (1060, sLret),
  (1061, sGoto 1969)]
theorem snLw14 (l : Launch) (L : Nat) (xs : Nat → Int32) (hL3 : L ≤ 3072) : ∀ q ∈ tbLw14 l L xs, Snd (BL l L xs) q.1 q.2 :=
  tcG (sLw (fun p e s m below meth c b cA D A ad0 h hb => ok_aload_n h.1 1 rfl dLw14_1006)) <|
  tcG (sLw (fun p e s m below meth c b cA D A ad0 h hb => ok_aload_n h.1 0 rfl dLw14_1007)) <|
  tcG (sLw (fun p e s m below meth c b cA D A ad0 h hb => ok_iload h.1 dLw14_1008)) <|
  tcG (sLw (fun p e s m below meth c b cA D A ad0 h hb => ok_iconst h.1 ⟨by decide, by decide⟩ dLw14_1010)) <|
  tcG (sLw (fun p e s m below meth c b cA D A ad0 h hb => ok_iadd h.1 dLw14_1011)) <|
  tcG (sLw (fun p e s m below meth c b cA D A ad0 h hb => ok_sld h hb dLw14_1012)) <|
  tcG (sLw (fun p e s m below meth c b cA D A ad0 h hb => ok_i2c h.1 dLw14_1013)) <|
  tcG (sLw (fun p e s m below meth c b cA D A ad0 h hb => ok_aload_n h.1 3 rfl dLw14_1014)) <|
  tcG (sLw (fun p e s m below meth c b cA D A ad0 h hb => ok_callSH h.1 h.2.1 (show 3600 ≤ room_1.cells ∧ 2000 * 3600 ≤ room_1.slots from ⟨Nat.le_of_ble_eq_true rfl, Nat.le_of_ble_eq_true rfl⟩) mdL_levels hhL_levels siL_levels mkRL_171 stL_levels ⟨by decide, by decide⟩ dLw14_1015)) <|
  tcG (sLw (fun p e s m below meth c b cA D A ad0 h hb => ok_istore h.1 (by decide) dLw14_1018)) <|
  tcG (sLw (fun p e s m below meth c b cA D A ad0 h hb => ok_aload_n h.1 2 rfl dLw14_1020)) <|
  tcG (sLw (fun p e s m below meth c b cA D A ad0 h hb => ok_aload_n h.1 0 rfl dLw14_1021)) <|
  tcG (sLw (fun p e s m below meth c b cA D A ad0 h hb => ok_iload h.1 dLw14_1022)) <|
  tcG (sLw (fun p e s m below meth c b cA D A ad0 h hb => ok_iconst h.1 ⟨by decide, by decide⟩ dLw14_1024)) <|
  tcG (sLw (fun p e s m below meth c b cA D A ad0 h hb => ok_iadd h.1 dLw14_1025)) <|
  tcG (sLw (fun p e s m below meth c b cA D A ad0 h hb => ok_sld h hb dLw14_1026)) <|
  tcG (sLw (fun p e s m below meth c b cA D A ad0 h hb => ok_i2c h.1 dLw14_1027)) <|
  tcG (sLw (fun p e s m below meth c b cA D A ad0 h hb => ok_callV h.1 h.2.1 (show 3600 ≤ room_1.cells ∧ 2000 * 3600 ≤ room_1.slots from ⟨Nat.le_of_ble_eq_true rfl, Nat.le_of_ble_eq_true rfl⟩) mdX5_levels siX5_levels cxX5 mkRL_173 imX5_levels seX5_levels ⟨by decide, by decide⟩ aAx_no dLw14_1028)) <|
  tcG (sLw (fun p e s m below meth c b cA D A ad0 h hb => ok_istore h.1 (by decide) dLw14_1031)) <|
  tcG (sLw (fun p e s m below meth c b cA D A ad0 h hb => ok_aload_n h.1 2 rfl dLw14_1033)) <|
  tcG (sLw (fun p e s m below meth c b cA D A ad0 h hb => ok_callV h.1 h.2.1 (show 3600 ≤ room_1.cells ∧ 2000 * 3600 ≤ room_1.slots from ⟨Nat.le_of_ble_eq_true rfl, Nat.le_of_ble_eq_true rfl⟩) mdX5_thrown siX5_thrown cxX5 mkRL_121 imX5_thrown seX5_thrown ⟨by decide, by decide⟩ aAx_no dLw14_1034)) <|
  tcG (sLw (fun p e s m below meth c b cA D A ad0 h hb => ok_iload h.1 dLw14_1037)) <|
  tcG (sLw (fun p e s m below meth c b cA D A ad0 h hb => ok_icmp_eq h.1 1044 (by decide) dLw14_1039)) <|
  tcG (sLw (fun p e s m below meth c b cA D A ad0 h hb => ok_iconst h.1 ⟨by decide, by decide⟩ dLw14_1042)) <|
  tcG (sLw (fun p e s m below meth c b cA D A ad0 h hb => ok_lret h dLw14_1043)) <|
  tcG (sLw (fun p e s m below meth c b cA D A ad0 h hb => ok_iload h.1 dLw14_1044)) <|
  tcG (sLw (fun p e s m below meth c b cA D A ad0 h hb => ok_if_ne h.1 1061 (by decide) dLw14_1046)) <|
  tcG (sLw (fun p e s m below meth c b cA D A ad0 h hb => ok_aload_n h.1 3 rfl dLw14_1049)) <|
  tcG (sLw (fun p e s m below meth c b cA D A ad0 h hb => ok_iconst h.1 ⟨by decide, by decide⟩ dLw14_1050)) <|
  tcG (sLw (fun p e s m below meth c b cA D A ad0 h hb => ok_lald h.1 dLw14_1051)) <|
  tcG (sLw (fun p e s m below meth c b cA D A ad0 h hb => ok_iload h.1 dLw14_1052)) <|
  tcG (sLw (fun p e s m below meth c b cA D A ad0 h hb => ok_i2l h.1 dLw14_1054)) <|
  tcG (sLw (fun p e s m below meth c b cA D A ad0 h hb => ok_lcmp h.1 dLw14_1055)) <|
  tcG (sLw (fun p e s m below meth c b cA D A ad0 h hb => ok_if_eq h.1 1061 (by decide) dLw14_1056)) <|
  tcG (sLw (fun p e s m below meth c b cA D A ad0 h hb => ok_iconst h.1 ⟨by decide, by decide⟩ dLw14_1059)) <|
  tcG (sLw (fun p e s m below meth c b cA D A ad0 h hb => ok_lret h dLw14_1060)) <|
  tcG (sLw (fun p e s m below meth c b cA D A ad0 h hb => ok_goto h.1 1969 (by decide) dLw14_1061)) <|
  tnG
abbrev cuLw14 : List Nat := [1018, 1031, 1037, 1969]
theorem wLw14_1969 {l : Launch} {L : Nat} {xs : Nat → Int32} {J : aK} {W : Nat → aK} (hW : isW (tbLw14 l L xs) cuLw14 J W) (n : Nat) (ls st : List aV) (μ : aM) (g : Nat) : W (n + 1) 1969 ls st μ g = J 1969 ls st μ g := (hW n 1969 ls st μ g).trans rfl
theorem tLw14_1006 (l : Launch) (L : Nat) (xs : Nat → Int32) : tb (tbLw14 l L xs) 1006 = sLd 1 1007 isR := (rfl)
theorem wLw14_1006 {l : Launch} {L : Nat} {xs : Nat → Int32} {J : aK} {W : Nat → aK} (hW : isW (tbLw14 l L xs) cuLw14 J W) (n : Nat) (ls st : List aV) (μ : aM) (g : Nat) : W (n + 1) 1006 ls st μ g = (sLd 1 1007 isR) (W n) ls st μ g := (hW n 1006 ls st μ g).trans rfl
theorem wLw14_1007 {l : Launch} {L : Nat} {xs : Nat → Int32} {J : aK} {W : Nat → aK} (hW : isW (tbLw14 l L xs) cuLw14 J W) (n : Nat) (ls st : List aV) (μ : aM) (g : Nat) : W (n + 1) 1007 ls st μ g = (sLd 0 1008 isR) (W n) ls st μ g := (hW n 1007 ls st μ g).trans rfl
theorem wLw14_1008 {l : Launch} {L : Nat} {xs : Nat → Int32} {J : aK} {W : Nat → aK} (hW : isW (tbLw14 l L xs) cuLw14 J W) (n : Nat) (ls st : List aV) (μ : aM) (g : Nat) : W (n + 1) 1008 ls st μ g = (sLd 5 1010 isI) (W n) ls st μ g := (hW n 1008 ls st μ g).trans rfl
theorem wLw14_1010 {l : Launch} {L : Nat} {xs : Nat → Int32} {J : aK} {W : Nat → aK} (hW : isW (tbLw14 l L xs) cuLw14 J W) (n : Nat) (ls st : List aV) (μ : aM) (g : Nat) : W (n + 1) 1010 ls st μ g = (sPush (aI 1) 1011) (W n) ls st μ g := (hW n 1010 ls st μ g).trans rfl
theorem wLw14_1011 {l : Launch} {L : Nat} {xs : Nat → Int32} {J : aK} {W : Nat → aK} (hW : isW (tbLw14 l L xs) cuLw14 J W) (n : Nat) (ls st : List aV) (μ : aM) (g : Nat) : W (n + 1) 1011 ls st μ g = (sBin fAdd 1012) (W n) ls st μ g := (hW n 1011 ls st μ g).trans rfl
theorem wLw14_1012 {l : Launch} {L : Nat} {xs : Nat → Int32} {J : aK} {W : Nat → aK} (hW : isW (tbLw14 l L xs) cuLw14 J W) (n : Nat) (ls st : List aV) (μ : aM) (g : Nat) : W (n + 1) 1012 ls st μ g = (sSld L xs 1013) (W n) ls st μ g := (hW n 1012 ls st μ g).trans rfl
theorem wLw14_1013 {l : Launch} {L : Nat} {xs : Nat → Int32} {J : aK} {W : Nat → aK} (hW : isW (tbLw14 l L xs) cuLw14 J W) (n : Nat) (ls st : List aV) (μ : aM) (g : Nat) : W (n + 1) 1013 ls st μ g = (sUn fI2c 1014) (W n) ls st μ g := (hW n 1013 ls st μ g).trans rfl
theorem wLw14_1014 {l : Launch} {L : Nat} {xs : Nat → Int32} {J : aK} {W : Nat → aK} (hW : isW (tbLw14 l L xs) cuLw14 J W) (n : Nat) (ls st : List aV) (μ : aM) (g : Nat) : W (n + 1) 1014 ls st μ g = (sLd 3 1015 isR) (W n) ls st μ g := (hW n 1014 ls st μ g).trans rfl
theorem wLw14_1015 {l : Launch} {L : Nat} {xs : Nat → Int32} {J : aK} {W : Nat → aK} (hW : isW (tbLw14 l L xs) cuLw14 J W) (n : Nat) (ls st : List aV) (μ : aM) (g : Nat) : W (n + 1) 1015 ls st μ g = (sCallS 3 (fun as μ K => CtH l mdL_levels hhL_levels as μ K) 1018 1 3600) (W n) ls st μ g := (hW n 1015 ls st μ g).trans rfl
theorem tLw14_1018 (l : Launch) (L : Nat) (xs : Nat → Int32) : tb (tbLw14 l L xs) 1018 = sSt 6 1020 isI := (rfl)
theorem wLw14_1018 {l : Launch} {L : Nat} {xs : Nat → Int32} {J : aK} {W : Nat → aK} (hW : isW (tbLw14 l L xs) cuLw14 J W) (n : Nat) (ls st : List aV) (μ : aM) (g : Nat) : W (n + 1) 1018 ls st μ g = J 1018 ls st μ g := (hW n 1018 ls st μ g).trans rfl
theorem wLw14_1020 {l : Launch} {L : Nat} {xs : Nat → Int32} {J : aK} {W : Nat → aK} (hW : isW (tbLw14 l L xs) cuLw14 J W) (n : Nat) (ls st : List aV) (μ : aM) (g : Nat) : W (n + 1) 1020 ls st μ g = (sLd 2 1021 isR) (W n) ls st μ g := (hW n 1020 ls st μ g).trans rfl
theorem wLw14_1021 {l : Launch} {L : Nat} {xs : Nat → Int32} {J : aK} {W : Nat → aK} (hW : isW (tbLw14 l L xs) cuLw14 J W) (n : Nat) (ls st : List aV) (μ : aM) (g : Nat) : W (n + 1) 1021 ls st μ g = (sLd 0 1022 isR) (W n) ls st μ g := (hW n 1021 ls st μ g).trans rfl
theorem wLw14_1022 {l : Launch} {L : Nat} {xs : Nat → Int32} {J : aK} {W : Nat → aK} (hW : isW (tbLw14 l L xs) cuLw14 J W) (n : Nat) (ls st : List aV) (μ : aM) (g : Nat) : W (n + 1) 1022 ls st μ g = (sLd 5 1024 isI) (W n) ls st μ g := (hW n 1022 ls st μ g).trans rfl
theorem wLw14_1024 {l : Launch} {L : Nat} {xs : Nat → Int32} {J : aK} {W : Nat → aK} (hW : isW (tbLw14 l L xs) cuLw14 J W) (n : Nat) (ls st : List aV) (μ : aM) (g : Nat) : W (n + 1) 1024 ls st μ g = (sPush (aI 1) 1025) (W n) ls st μ g := (hW n 1024 ls st μ g).trans rfl
theorem wLw14_1025 {l : Launch} {L : Nat} {xs : Nat → Int32} {J : aK} {W : Nat → aK} (hW : isW (tbLw14 l L xs) cuLw14 J W) (n : Nat) (ls st : List aV) (μ : aM) (g : Nat) : W (n + 1) 1025 ls st μ g = (sBin fAdd 1026) (W n) ls st μ g := (hW n 1025 ls st μ g).trans rfl
theorem wLw14_1026 {l : Launch} {L : Nat} {xs : Nat → Int32} {J : aK} {W : Nat → aK} (hW : isW (tbLw14 l L xs) cuLw14 J W) (n : Nat) (ls st : List aV) (μ : aM) (g : Nat) : W (n + 1) 1026 ls st μ g = (sSld L xs 1027) (W n) ls st μ g := (hW n 1026 ls st μ g).trans rfl
theorem wLw14_1027 {l : Launch} {L : Nat} {xs : Nat → Int32} {J : aK} {W : Nat → aK} (hW : isW (tbLw14 l L xs) cuLw14 J W) (n : Nat) (ls st : List aV) (μ : aM) (g : Nat) : W (n + 1) 1027 ls st μ g = (sUn fI2c 1028) (W n) ls st μ g := (hW n 1027 ls st μ g).trans rfl
theorem wLw14_1028 {l : Launch} {L : Nat} {xs : Nat → Int32} {J : aK} {W : Nat → aK} (hW : isW (tbLw14 l L xs) cuLw14 J W) (n : Nat) (ls st : List aV) (μ : aM) (g : Nat) : W (n + 1) 1028 ls st μ g = (sCallV 1 5 (fun as μ K => Ct l mdX5_levels as μ K nX) 1031 0 3600) (W n) ls st μ g := (hW n 1028 ls st μ g).trans rfl
theorem tLw14_1031 (l : Launch) (L : Nat) (xs : Nat → Int32) : tb (tbLw14 l L xs) 1031 = sSt 7 1033 isI := (rfl)
theorem wLw14_1031 {l : Launch} {L : Nat} {xs : Nat → Int32} {J : aK} {W : Nat → aK} (hW : isW (tbLw14 l L xs) cuLw14 J W) (n : Nat) (ls st : List aV) (μ : aM) (g : Nat) : W (n + 1) 1031 ls st μ g = J 1031 ls st μ g := (hW n 1031 ls st μ g).trans rfl
theorem wLw14_1033 {l : Launch} {L : Nat} {xs : Nat → Int32} {J : aK} {W : Nat → aK} (hW : isW (tbLw14 l L xs) cuLw14 J W) (n : Nat) (ls st : List aV) (μ : aM) (g : Nat) : W (n + 1) 1033 ls st μ g = (sLd 2 1034 isR) (W n) ls st μ g := (hW n 1033 ls st μ g).trans rfl
theorem wLw14_1034 {l : Launch} {L : Nat} {xs : Nat → Int32} {J : aK} {W : Nat → aK} (hW : isW (tbLw14 l L xs) cuLw14 J W) (n : Nat) (ls st : List aV) (μ : aM) (g : Nat) : W (n + 1) 1034 ls st μ g = (sCallV 0 5 (fun as μ K => Ct l mdX5_thrown as μ K nX) 1037 0 3600) (W n) ls st μ g := (hW n 1034 ls st μ g).trans rfl
theorem tLw14_1037 (l : Launch) (L : Nat) (xs : Nat → Int32) : tb (tbLw14 l L xs) 1037 = sLd 6 1039 isI := (rfl)
theorem wLw14_1037 {l : Launch} {L : Nat} {xs : Nat → Int32} {J : aK} {W : Nat → aK} (hW : isW (tbLw14 l L xs) cuLw14 J W) (n : Nat) (ls st : List aV) (μ : aM) (g : Nat) : W (n + 1) 1037 ls st μ g = J 1037 ls st μ g := (hW n 1037 ls st μ g).trans rfl
theorem wLw14_1039 {l : Launch} {L : Nat} {xs : Nat → Int32} {J : aK} {W : Nat → aK} (hW : isW (tbLw14 l L xs) cuLw14 J W) (n : Nat) (ls st : List aV) (μ : aM) (g : Nat) : W (n + 1) 1039 ls st μ g = (sIc qEq 1044 1042) (W n) ls st μ g := (hW n 1039 ls st μ g).trans rfl
theorem wLw14_1042 {l : Launch} {L : Nat} {xs : Nat → Int32} {J : aK} {W : Nat → aK} (hW : isW (tbLw14 l L xs) cuLw14 J W) (n : Nat) (ls st : List aV) (μ : aM) (g : Nat) : W (n + 1) 1042 ls st μ g = (sPush (aI 0) 1043) (W n) ls st μ g := (hW n 1042 ls st μ g).trans rfl
theorem wLw14_1043 {l : Launch} {L : Nat} {xs : Nat → Int32} {J : aK} {W : Nat → aK} (hW : isW (tbLw14 l L xs) cuLw14 J W) (n : Nat) (ls st : List aV) (μ : aM) (g : Nat) : W (n + 1) 1043 ls st μ g = (sLret) (W n) ls st μ g := (hW n 1043 ls st μ g).trans rfl
theorem wLw14_1044 {l : Launch} {L : Nat} {xs : Nat → Int32} {J : aK} {W : Nat → aK} (hW : isW (tbLw14 l L xs) cuLw14 J W) (n : Nat) (ls st : List aV) (μ : aM) (g : Nat) : W (n + 1) 1044 ls st μ g = (sLd 6 1046 isI) (W n) ls st μ g := (hW n 1044 ls st μ g).trans rfl
theorem wLw14_1046 {l : Launch} {L : Nat} {xs : Nat → Int32} {J : aK} {W : Nat → aK} (hW : isW (tbLw14 l L xs) cuLw14 J W) (n : Nat) (ls st : List aV) (μ : aM) (g : Nat) : W (n + 1) 1046 ls st μ g = (sIf pNe 1061 1049) (W n) ls st μ g := (hW n 1046 ls st μ g).trans rfl
theorem wLw14_1049 {l : Launch} {L : Nat} {xs : Nat → Int32} {J : aK} {W : Nat → aK} (hW : isW (tbLw14 l L xs) cuLw14 J W) (n : Nat) (ls st : List aV) (μ : aM) (g : Nat) : W (n + 1) 1049 ls st μ g = (sLd 3 1050 isR) (W n) ls st μ g := (hW n 1049 ls st μ g).trans rfl
theorem wLw14_1050 {l : Launch} {L : Nat} {xs : Nat → Int32} {J : aK} {W : Nat → aK} (hW : isW (tbLw14 l L xs) cuLw14 J W) (n : Nat) (ls st : List aV) (μ : aM) (g : Nat) : W (n + 1) 1050 ls st μ g = (sPush (aI 0) 1051) (W n) ls st μ g := (hW n 1050 ls st μ g).trans rfl
theorem wLw14_1051 {l : Launch} {L : Nat} {xs : Nat → Int32} {J : aK} {W : Nat → aK} (hW : isW (tbLw14 l L xs) cuLw14 J W) (n : Nat) (ls st : List aV) (μ : aM) (g : Nat) : W (n + 1) 1051 ls st μ g = (sAldL 1052) (W n) ls st μ g := (hW n 1051 ls st μ g).trans rfl
theorem wLw14_1052 {l : Launch} {L : Nat} {xs : Nat → Int32} {J : aK} {W : Nat → aK} (hW : isW (tbLw14 l L xs) cuLw14 J W) (n : Nat) (ls st : List aV) (μ : aM) (g : Nat) : W (n + 1) 1052 ls st μ g = (sLd 7 1054 isI) (W n) ls st μ g := (hW n 1052 ls st μ g).trans rfl
theorem wLw14_1054 {l : Launch} {L : Nat} {xs : Nat → Int32} {J : aK} {W : Nat → aK} (hW : isW (tbLw14 l L xs) cuLw14 J W) (n : Nat) (ls st : List aV) (μ : aM) (g : Nat) : W (n + 1) 1054 ls st μ g = (sI2l 1055) (W n) ls st μ g := (hW n 1054 ls st μ g).trans rfl
theorem wLw14_1055 {l : Launch} {L : Nat} {xs : Nat → Int32} {J : aK} {W : Nat → aK} (hW : isW (tbLw14 l L xs) cuLw14 J W) (n : Nat) (ls st : List aV) (μ : aM) (g : Nat) : W (n + 1) 1055 ls st μ g = (sLcmp 1056) (W n) ls st μ g := (hW n 1055 ls st μ g).trans rfl
theorem wLw14_1056 {l : Launch} {L : Nat} {xs : Nat → Int32} {J : aK} {W : Nat → aK} (hW : isW (tbLw14 l L xs) cuLw14 J W) (n : Nat) (ls st : List aV) (μ : aM) (g : Nat) : W (n + 1) 1056 ls st μ g = (sIf pEq 1061 1059) (W n) ls st μ g := (hW n 1056 ls st μ g).trans rfl
theorem wLw14_1059 {l : Launch} {L : Nat} {xs : Nat → Int32} {J : aK} {W : Nat → aK} (hW : isW (tbLw14 l L xs) cuLw14 J W) (n : Nat) (ls st : List aV) (μ : aM) (g : Nat) : W (n + 1) 1059 ls st μ g = (sPush (aI 0) 1060) (W n) ls st μ g := (hW n 1059 ls st μ g).trans rfl
theorem wLw14_1060 {l : Launch} {L : Nat} {xs : Nat → Int32} {J : aK} {W : Nat → aK} (hW : isW (tbLw14 l L xs) cuLw14 J W) (n : Nat) (ls st : List aV) (μ : aM) (g : Nat) : W (n + 1) 1060 ls st μ g = (sLret) (W n) ls st μ g := (hW n 1060 ls st μ g).trans rfl
theorem wLw14_1061 {l : Launch} {L : Nat} {xs : Nat → Int32} {J : aK} {W : Nat → aK} (hW : isW (tbLw14 l L xs) cuLw14 J W) (n : Nat) (ls st : List aV) (μ : aM) (g : Nat) : W (n + 1) 1061 ls st μ g = (sGoto 1969) (W n) ls st μ g := (hW n 1061 ls st μ g).trans rfl
theorem dLw15_1064 : decode code 1064 = .ok (.aload_n 1, 1) := by decide +kernel
theorem dLw15_1065 : decode code 1065 = .ok (.aload_n 0, 1) := by decide +kernel
theorem dLw15_1066 : decode code 1066 = .ok (.iload 5, 2) := by decide +kernel
theorem dLw15_1068 : decode code 1068 = .ok (.iconst 1, 1) := by decide +kernel
theorem dLw15_1069 : decode code 1069 = .ok (.iadd, 1) := by decide +kernel
theorem dLw15_1070 : decode code 1070 = .ok (.iaload, 1) := by decide +kernel
theorem dLw15_1071 : decode code 1071 = .ok (.i2c, 1) := by decide +kernel
theorem dLw15_1072 : decode code 1072 = .ok (.aload_n 0, 1) := by decide +kernel
theorem dLw15_1073 : decode code 1073 = .ok (.iload 5, 2) := by decide +kernel
theorem dLw15_1075 : decode code 1075 = .ok (.iconst 2, 1) := by decide +kernel
theorem dLw15_1076 : decode code 1076 = .ok (.iadd, 1) := by decide +kernel
theorem dLw15_1077 : decode code 1077 = .ok (.iaload, 1) := by decide +kernel
theorem dLw15_1078 : decode code 1078 = .ok (.aload_n 3, 1) := by decide +kernel
theorem dLw15_1079 : decode code 1079 = .ok (.invokestatic 174, 3) := by decide +kernel
theorem dLw15_1082 : decode code 1082 = .ok (.istore 6, 2) := by decide +kernel
theorem dLw15_1084 : decode code 1084 = .ok (.aload_n 2, 1) := by decide +kernel
theorem dLw15_1085 : decode code 1085 = .ok (.aload_n 0, 1) := by decide +kernel
theorem dLw15_1086 : decode code 1086 = .ok (.iload 5, 2) := by decide +kernel
theorem dLw15_1088 : decode code 1088 = .ok (.iconst 1, 1) := by decide +kernel
theorem dLw15_1089 : decode code 1089 = .ok (.iadd, 1) := by decide +kernel
theorem dLw15_1090 : decode code 1090 = .ok (.iaload, 1) := by decide +kernel
theorem dLw15_1091 : decode code 1091 = .ok (.i2c, 1) := by decide +kernel
theorem dLw15_1092 : decode code 1092 = .ok (.aload_n 0, 1) := by decide +kernel
theorem dLw15_1093 : decode code 1093 = .ok (.iload 5, 2) := by decide +kernel
theorem dLw15_1095 : decode code 1095 = .ok (.iconst 2, 1) := by decide +kernel
theorem dLw15_1096 : decode code 1096 = .ok (.iadd, 1) := by decide +kernel
theorem dLw15_1097 : decode code 1097 = .ok (.iaload, 1) := by decide +kernel
theorem dLw15_1098 : decode code 1098 = .ok (.invokevirtual 177, 3) := by decide +kernel
theorem dLw15_1101 : decode code 1101 = .ok (.istore 7, 2) := by decide +kernel
theorem dLw15_1103 : decode code 1103 = .ok (.aload_n 2, 1) := by decide +kernel
theorem dLw15_1104 : decode code 1104 = .ok (.invokevirtual 121, 3) := by decide +kernel
theorem dLw15_1107 : decode code 1107 = .ok (.iload 6, 2) := by decide +kernel
theorem dLw15_1109 : decode code 1109 = .ok (.if_icmp .eq 5, 3) := by decide +kernel
theorem dLw15_1112 : decode code 1112 = .ok (.iconst 0, 1) := by decide +kernel
theorem dLw15_1113 : decode code 1113 = .ok (.ireturn, 1) := by decide +kernel
theorem dLw15_1114 : decode code 1114 = .ok (.iload 6, 2) := by decide +kernel
theorem dLw15_1116 : decode code 1116 = .ok (.ifCond .ne 15, 3) := by decide +kernel
theorem dLw15_1119 : decode code 1119 = .ok (.aload_n 3, 1) := by decide +kernel
theorem dLw15_1120 : decode code 1120 = .ok (.iconst 0, 1) := by decide +kernel
theorem dLw15_1121 : decode code 1121 = .ok (.laload, 1) := by decide +kernel
theorem dLw15_1122 : decode code 1122 = .ok (.iload 7, 2) := by decide +kernel
theorem dLw15_1124 : decode code 1124 = .ok (.i2l, 1) := by decide +kernel
theorem dLw15_1125 : decode code 1125 = .ok (.lcmp, 1) := by decide +kernel
theorem dLw15_1126 : decode code 1126 = .ok (.ifCond .eq 5, 3) := by decide +kernel
theorem dLw15_1129 : decode code 1129 = .ok (.iconst 0, 1) := by decide +kernel
theorem dLw15_1130 : decode code 1130 = .ok (.ireturn, 1) := by decide +kernel
theorem dLw15_1131 : decode code 1131 = .ok (.goto 838, 3) := by decide +kernel
def tbLw15 (l : Launch) (L : Nat) (xs : Nat → Int32) : aTb := [
  (1064, sLd 1 1065 isR),
  (1065, sLd 0 1066 isR),
  (1066, sLd 5 1068 isI),
  (1068, sPush (aI 1) 1069),
  (1069, sBin fAdd 1070),
  (1070, sSld L xs 1071),
  (1071, sUn fI2c 1072),
  (1072, sLd 0 1073 isR),
  (1073, sLd 5 1075 isI),
  (1075, sPush (aI 2) 1076),
  (1076, sBin fAdd 1077),
  (1077, sSld L xs 1078),
  (1078, sLd 3 1079 isR),
  (1079, sCallS 4 (fun as μ K => CtH l mdL_levelPrice hhL_levelPrice as μ K) 1082 2 3600),
  (1082, sSt 6 1084 isI),
  (1084, sLd 2 1085 isR),
  (1085, sLd 0 1086 isR),
  (1086, sLd 5 1088 isI),
  (1088, sPush (aI 1) 1089),
  (1089, sBin fAdd 1090),
  (1090, sSld L xs 1091),
  (1091, sUn fI2c 1092),
  (1092, sLd 0 1093 isR),
  (1093, sLd 5 1095 isI),
  (1095, sPush (aI 2) 1096),
  (1096, sBin fAdd 1097),
  (1097, sSld L xs 1098),
  (1098, sCallV 2 5 (fun as μ K => Ct l mdX5_levelPrice as μ K nX) 1101 0 3600),
  (1101, sSt 7 1103 isI),
  (1103, sLd 2 1104 isR),
  (1104, sCallV 0 5 (fun as μ K => Ct l mdX5_thrown as μ K nX) 1107 0 3600),
  (1107, sLd 6 1109 isI),
  (1109, sIc qEq 1114 1112),
  (1112, sPush (aI 0) 1113),
  (1113, sLret),
  (1114, sLd 6 1116 isI),
  (1116, sIf pNe 1131 1119),
  (1119, sLd 3 1120 isR),
  (1120, sPush (aI 0) 1121),
  (1121, sAldL 1122),
  (1122, sLd 7 1124 isI),
  (1124, sI2l 1125),
  (1125, sLcmp 1126),
  (1126, sIf pEq 1131 1129),
  (1129, sPush (aI 0) 1130),
  (1130, sLret),
  (1131, sGoto 1969)]
theorem snLw15 (l : Launch) (L : Nat) (xs : Nat → Int32) (hL3 : L ≤ 3072) : ∀ q ∈ tbLw15 l L xs, Snd (BL l L xs) q.1 q.2 :=
  tcG (sLw (fun p e s m below meth c b cA D A ad0 h hb => ok_aload_n h.1 1 rfl dLw15_1064)) <|
  tcG (sLw (fun p e s m below meth c b cA D A ad0 h hb => ok_aload_n h.1 0 rfl dLw15_1065)) <|
  tcG (sLw (fun p e s m below meth c b cA D A ad0 h hb => ok_iload h.1 dLw15_1066)) <|
  tcG (sLw (fun p e s m below meth c b cA D A ad0 h hb => ok_iconst h.1 ⟨by decide, by decide⟩ dLw15_1068)) <|
  tcG (sLw (fun p e s m below meth c b cA D A ad0 h hb => ok_iadd h.1 dLw15_1069)) <|
  tcG (sLw (fun p e s m below meth c b cA D A ad0 h hb => ok_sld h hb dLw15_1070)) <|
  tcG (sLw (fun p e s m below meth c b cA D A ad0 h hb => ok_i2c h.1 dLw15_1071)) <|
  tcG (sLw (fun p e s m below meth c b cA D A ad0 h hb => ok_aload_n h.1 0 rfl dLw15_1072)) <|
  tcG (sLw (fun p e s m below meth c b cA D A ad0 h hb => ok_iload h.1 dLw15_1073)) <|
  tcG (sLw (fun p e s m below meth c b cA D A ad0 h hb => ok_iconst h.1 ⟨by decide, by decide⟩ dLw15_1075)) <|
  tcG (sLw (fun p e s m below meth c b cA D A ad0 h hb => ok_iadd h.1 dLw15_1076)) <|
  tcG (sLw (fun p e s m below meth c b cA D A ad0 h hb => ok_sld h hb dLw15_1077)) <|
  tcG (sLw (fun p e s m below meth c b cA D A ad0 h hb => ok_aload_n h.1 3 rfl dLw15_1078)) <|
  tcG (sLw (fun p e s m below meth c b cA D A ad0 h hb => ok_callSH h.1 h.2.1 (show 3600 ≤ room_1.cells ∧ 2000 * 3600 ≤ room_1.slots from ⟨Nat.le_of_ble_eq_true rfl, Nat.le_of_ble_eq_true rfl⟩) mdL_levelPrice hhL_levelPrice siL_levelPrice mkRL_174 stL_levelPrice ⟨by decide, by decide⟩ dLw15_1079)) <|
  tcG (sLw (fun p e s m below meth c b cA D A ad0 h hb => ok_istore h.1 (by decide) dLw15_1082)) <|
  tcG (sLw (fun p e s m below meth c b cA D A ad0 h hb => ok_aload_n h.1 2 rfl dLw15_1084)) <|
  tcG (sLw (fun p e s m below meth c b cA D A ad0 h hb => ok_aload_n h.1 0 rfl dLw15_1085)) <|
  tcG (sLw (fun p e s m below meth c b cA D A ad0 h hb => ok_iload h.1 dLw15_1086)) <|
  tcG (sLw (fun p e s m below meth c b cA D A ad0 h hb => ok_iconst h.1 ⟨by decide, by decide⟩ dLw15_1088)) <|
  tcG (sLw (fun p e s m below meth c b cA D A ad0 h hb => ok_iadd h.1 dLw15_1089)) <|
  tcG (sLw (fun p e s m below meth c b cA D A ad0 h hb => ok_sld h hb dLw15_1090)) <|
  tcG (sLw (fun p e s m below meth c b cA D A ad0 h hb => ok_i2c h.1 dLw15_1091)) <|
  tcG (sLw (fun p e s m below meth c b cA D A ad0 h hb => ok_aload_n h.1 0 rfl dLw15_1092)) <|
  tcG (sLw (fun p e s m below meth c b cA D A ad0 h hb => ok_iload h.1 dLw15_1093)) <|
  tcG (sLw (fun p e s m below meth c b cA D A ad0 h hb => ok_iconst h.1 ⟨by decide, by decide⟩ dLw15_1095)) <|
  tcG (sLw (fun p e s m below meth c b cA D A ad0 h hb => ok_iadd h.1 dLw15_1096)) <|
  tcG (sLw (fun p e s m below meth c b cA D A ad0 h hb => ok_sld h hb dLw15_1097)) <|
  tcG (sLw (fun p e s m below meth c b cA D A ad0 h hb => ok_callV h.1 h.2.1 (show 3600 ≤ room_1.cells ∧ 2000 * 3600 ≤ room_1.slots from ⟨Nat.le_of_ble_eq_true rfl, Nat.le_of_ble_eq_true rfl⟩) mdX5_levelPrice siX5_levelPrice cxX5 mkRL_177 imX5_levelPrice seX5_levelPrice ⟨by decide, by decide⟩ aAx_no dLw15_1098)) <|
  tcG (sLw (fun p e s m below meth c b cA D A ad0 h hb => ok_istore h.1 (by decide) dLw15_1101)) <|
  tcG (sLw (fun p e s m below meth c b cA D A ad0 h hb => ok_aload_n h.1 2 rfl dLw15_1103)) <|
  tcG (sLw (fun p e s m below meth c b cA D A ad0 h hb => ok_callV h.1 h.2.1 (show 3600 ≤ room_1.cells ∧ 2000 * 3600 ≤ room_1.slots from ⟨Nat.le_of_ble_eq_true rfl, Nat.le_of_ble_eq_true rfl⟩) mdX5_thrown siX5_thrown cxX5 mkRL_121 imX5_thrown seX5_thrown ⟨by decide, by decide⟩ aAx_no dLw15_1104)) <|
  tcG (sLw (fun p e s m below meth c b cA D A ad0 h hb => ok_iload h.1 dLw15_1107)) <|
  tcG (sLw (fun p e s m below meth c b cA D A ad0 h hb => ok_icmp_eq h.1 1114 (by decide) dLw15_1109)) <|
  tcG (sLw (fun p e s m below meth c b cA D A ad0 h hb => ok_iconst h.1 ⟨by decide, by decide⟩ dLw15_1112)) <|
  tcG (sLw (fun p e s m below meth c b cA D A ad0 h hb => ok_lret h dLw15_1113)) <|
  tcG (sLw (fun p e s m below meth c b cA D A ad0 h hb => ok_iload h.1 dLw15_1114)) <|
  tcG (sLw (fun p e s m below meth c b cA D A ad0 h hb => ok_if_ne h.1 1131 (by decide) dLw15_1116)) <|
  tcG (sLw (fun p e s m below meth c b cA D A ad0 h hb => ok_aload_n h.1 3 rfl dLw15_1119)) <|
  tcG (sLw (fun p e s m below meth c b cA D A ad0 h hb => ok_iconst h.1 ⟨by decide, by decide⟩ dLw15_1120)) <|
  tcG (sLw (fun p e s m below meth c b cA D A ad0 h hb => ok_lald h.1 dLw15_1121)) <|
  tcG (sLw (fun p e s m below meth c b cA D A ad0 h hb => ok_iload h.1 dLw15_1122)) <|
  tcG (sLw (fun p e s m below meth c b cA D A ad0 h hb => ok_i2l h.1 dLw15_1124)) <|
  tcG (sLw (fun p e s m below meth c b cA D A ad0 h hb => ok_lcmp h.1 dLw15_1125)) <|
  tcG (sLw (fun p e s m below meth c b cA D A ad0 h hb => ok_if_eq h.1 1131 (by decide) dLw15_1126)) <|
  tcG (sLw (fun p e s m below meth c b cA D A ad0 h hb => ok_iconst h.1 ⟨by decide, by decide⟩ dLw15_1129)) <|
  tcG (sLw (fun p e s m below meth c b cA D A ad0 h hb => ok_lret h dLw15_1130)) <|
  tcG (sLw (fun p e s m below meth c b cA D A ad0 h hb => ok_goto h.1 1969 (by decide) dLw15_1131)) <|
  tnG
abbrev cuLw15 : List Nat := [1082, 1101, 1107, 1969]
theorem wLw15_1969 {l : Launch} {L : Nat} {xs : Nat → Int32} {J : aK} {W : Nat → aK} (hW : isW (tbLw15 l L xs) cuLw15 J W) (n : Nat) (ls st : List aV) (μ : aM) (g : Nat) : W (n + 1) 1969 ls st μ g = J 1969 ls st μ g := (hW n 1969 ls st μ g).trans rfl
theorem tLw15_1064 (l : Launch) (L : Nat) (xs : Nat → Int32) : tb (tbLw15 l L xs) 1064 = sLd 1 1065 isR := (rfl)
theorem wLw15_1064 {l : Launch} {L : Nat} {xs : Nat → Int32} {J : aK} {W : Nat → aK} (hW : isW (tbLw15 l L xs) cuLw15 J W) (n : Nat) (ls st : List aV) (μ : aM) (g : Nat) : W (n + 1) 1064 ls st μ g = (sLd 1 1065 isR) (W n) ls st μ g := (hW n 1064 ls st μ g).trans rfl
theorem wLw15_1065 {l : Launch} {L : Nat} {xs : Nat → Int32} {J : aK} {W : Nat → aK} (hW : isW (tbLw15 l L xs) cuLw15 J W) (n : Nat) (ls st : List aV) (μ : aM) (g : Nat) : W (n + 1) 1065 ls st μ g = (sLd 0 1066 isR) (W n) ls st μ g := (hW n 1065 ls st μ g).trans rfl
theorem wLw15_1066 {l : Launch} {L : Nat} {xs : Nat → Int32} {J : aK} {W : Nat → aK} (hW : isW (tbLw15 l L xs) cuLw15 J W) (n : Nat) (ls st : List aV) (μ : aM) (g : Nat) : W (n + 1) 1066 ls st μ g = (sLd 5 1068 isI) (W n) ls st μ g := (hW n 1066 ls st μ g).trans rfl
theorem wLw15_1068 {l : Launch} {L : Nat} {xs : Nat → Int32} {J : aK} {W : Nat → aK} (hW : isW (tbLw15 l L xs) cuLw15 J W) (n : Nat) (ls st : List aV) (μ : aM) (g : Nat) : W (n + 1) 1068 ls st μ g = (sPush (aI 1) 1069) (W n) ls st μ g := (hW n 1068 ls st μ g).trans rfl
theorem wLw15_1069 {l : Launch} {L : Nat} {xs : Nat → Int32} {J : aK} {W : Nat → aK} (hW : isW (tbLw15 l L xs) cuLw15 J W) (n : Nat) (ls st : List aV) (μ : aM) (g : Nat) : W (n + 1) 1069 ls st μ g = (sBin fAdd 1070) (W n) ls st μ g := (hW n 1069 ls st μ g).trans rfl
theorem wLw15_1070 {l : Launch} {L : Nat} {xs : Nat → Int32} {J : aK} {W : Nat → aK} (hW : isW (tbLw15 l L xs) cuLw15 J W) (n : Nat) (ls st : List aV) (μ : aM) (g : Nat) : W (n + 1) 1070 ls st μ g = (sSld L xs 1071) (W n) ls st μ g := (hW n 1070 ls st μ g).trans rfl
theorem wLw15_1071 {l : Launch} {L : Nat} {xs : Nat → Int32} {J : aK} {W : Nat → aK} (hW : isW (tbLw15 l L xs) cuLw15 J W) (n : Nat) (ls st : List aV) (μ : aM) (g : Nat) : W (n + 1) 1071 ls st μ g = (sUn fI2c 1072) (W n) ls st μ g := (hW n 1071 ls st μ g).trans rfl
theorem wLw15_1072 {l : Launch} {L : Nat} {xs : Nat → Int32} {J : aK} {W : Nat → aK} (hW : isW (tbLw15 l L xs) cuLw15 J W) (n : Nat) (ls st : List aV) (μ : aM) (g : Nat) : W (n + 1) 1072 ls st μ g = (sLd 0 1073 isR) (W n) ls st μ g := (hW n 1072 ls st μ g).trans rfl
theorem wLw15_1073 {l : Launch} {L : Nat} {xs : Nat → Int32} {J : aK} {W : Nat → aK} (hW : isW (tbLw15 l L xs) cuLw15 J W) (n : Nat) (ls st : List aV) (μ : aM) (g : Nat) : W (n + 1) 1073 ls st μ g = (sLd 5 1075 isI) (W n) ls st μ g := (hW n 1073 ls st μ g).trans rfl
theorem wLw15_1075 {l : Launch} {L : Nat} {xs : Nat → Int32} {J : aK} {W : Nat → aK} (hW : isW (tbLw15 l L xs) cuLw15 J W) (n : Nat) (ls st : List aV) (μ : aM) (g : Nat) : W (n + 1) 1075 ls st μ g = (sPush (aI 2) 1076) (W n) ls st μ g := (hW n 1075 ls st μ g).trans rfl
theorem wLw15_1076 {l : Launch} {L : Nat} {xs : Nat → Int32} {J : aK} {W : Nat → aK} (hW : isW (tbLw15 l L xs) cuLw15 J W) (n : Nat) (ls st : List aV) (μ : aM) (g : Nat) : W (n + 1) 1076 ls st μ g = (sBin fAdd 1077) (W n) ls st μ g := (hW n 1076 ls st μ g).trans rfl
theorem wLw15_1077 {l : Launch} {L : Nat} {xs : Nat → Int32} {J : aK} {W : Nat → aK} (hW : isW (tbLw15 l L xs) cuLw15 J W) (n : Nat) (ls st : List aV) (μ : aM) (g : Nat) : W (n + 1) 1077 ls st μ g = (sSld L xs 1078) (W n) ls st μ g := (hW n 1077 ls st μ g).trans rfl
theorem wLw15_1078 {l : Launch} {L : Nat} {xs : Nat → Int32} {J : aK} {W : Nat → aK} (hW : isW (tbLw15 l L xs) cuLw15 J W) (n : Nat) (ls st : List aV) (μ : aM) (g : Nat) : W (n + 1) 1078 ls st μ g = (sLd 3 1079 isR) (W n) ls st μ g := (hW n 1078 ls st μ g).trans rfl
theorem wLw15_1079 {l : Launch} {L : Nat} {xs : Nat → Int32} {J : aK} {W : Nat → aK} (hW : isW (tbLw15 l L xs) cuLw15 J W) (n : Nat) (ls st : List aV) (μ : aM) (g : Nat) : W (n + 1) 1079 ls st μ g = (sCallS 4 (fun as μ K => CtH l mdL_levelPrice hhL_levelPrice as μ K) 1082 2 3600) (W n) ls st μ g := (hW n 1079 ls st μ g).trans rfl
theorem tLw15_1082 (l : Launch) (L : Nat) (xs : Nat → Int32) : tb (tbLw15 l L xs) 1082 = sSt 6 1084 isI := (rfl)
theorem wLw15_1082 {l : Launch} {L : Nat} {xs : Nat → Int32} {J : aK} {W : Nat → aK} (hW : isW (tbLw15 l L xs) cuLw15 J W) (n : Nat) (ls st : List aV) (μ : aM) (g : Nat) : W (n + 1) 1082 ls st μ g = J 1082 ls st μ g := (hW n 1082 ls st μ g).trans rfl
theorem wLw15_1084 {l : Launch} {L : Nat} {xs : Nat → Int32} {J : aK} {W : Nat → aK} (hW : isW (tbLw15 l L xs) cuLw15 J W) (n : Nat) (ls st : List aV) (μ : aM) (g : Nat) : W (n + 1) 1084 ls st μ g = (sLd 2 1085 isR) (W n) ls st μ g := (hW n 1084 ls st μ g).trans rfl
theorem wLw15_1085 {l : Launch} {L : Nat} {xs : Nat → Int32} {J : aK} {W : Nat → aK} (hW : isW (tbLw15 l L xs) cuLw15 J W) (n : Nat) (ls st : List aV) (μ : aM) (g : Nat) : W (n + 1) 1085 ls st μ g = (sLd 0 1086 isR) (W n) ls st μ g := (hW n 1085 ls st μ g).trans rfl
theorem wLw15_1086 {l : Launch} {L : Nat} {xs : Nat → Int32} {J : aK} {W : Nat → aK} (hW : isW (tbLw15 l L xs) cuLw15 J W) (n : Nat) (ls st : List aV) (μ : aM) (g : Nat) : W (n + 1) 1086 ls st μ g = (sLd 5 1088 isI) (W n) ls st μ g := (hW n 1086 ls st μ g).trans rfl
theorem wLw15_1088 {l : Launch} {L : Nat} {xs : Nat → Int32} {J : aK} {W : Nat → aK} (hW : isW (tbLw15 l L xs) cuLw15 J W) (n : Nat) (ls st : List aV) (μ : aM) (g : Nat) : W (n + 1) 1088 ls st μ g = (sPush (aI 1) 1089) (W n) ls st μ g := (hW n 1088 ls st μ g).trans rfl
theorem wLw15_1089 {l : Launch} {L : Nat} {xs : Nat → Int32} {J : aK} {W : Nat → aK} (hW : isW (tbLw15 l L xs) cuLw15 J W) (n : Nat) (ls st : List aV) (μ : aM) (g : Nat) : W (n + 1) 1089 ls st μ g = (sBin fAdd 1090) (W n) ls st μ g := (hW n 1089 ls st μ g).trans rfl
theorem wLw15_1090 {l : Launch} {L : Nat} {xs : Nat → Int32} {J : aK} {W : Nat → aK} (hW : isW (tbLw15 l L xs) cuLw15 J W) (n : Nat) (ls st : List aV) (μ : aM) (g : Nat) : W (n + 1) 1090 ls st μ g = (sSld L xs 1091) (W n) ls st μ g := (hW n 1090 ls st μ g).trans rfl
theorem wLw15_1091 {l : Launch} {L : Nat} {xs : Nat → Int32} {J : aK} {W : Nat → aK} (hW : isW (tbLw15 l L xs) cuLw15 J W) (n : Nat) (ls st : List aV) (μ : aM) (g : Nat) : W (n + 1) 1091 ls st μ g = (sUn fI2c 1092) (W n) ls st μ g := (hW n 1091 ls st μ g).trans rfl
theorem wLw15_1092 {l : Launch} {L : Nat} {xs : Nat → Int32} {J : aK} {W : Nat → aK} (hW : isW (tbLw15 l L xs) cuLw15 J W) (n : Nat) (ls st : List aV) (μ : aM) (g : Nat) : W (n + 1) 1092 ls st μ g = (sLd 0 1093 isR) (W n) ls st μ g := (hW n 1092 ls st μ g).trans rfl
theorem wLw15_1093 {l : Launch} {L : Nat} {xs : Nat → Int32} {J : aK} {W : Nat → aK} (hW : isW (tbLw15 l L xs) cuLw15 J W) (n : Nat) (ls st : List aV) (μ : aM) (g : Nat) : W (n + 1) 1093 ls st μ g = (sLd 5 1095 isI) (W n) ls st μ g := (hW n 1093 ls st μ g).trans rfl
theorem wLw15_1095 {l : Launch} {L : Nat} {xs : Nat → Int32} {J : aK} {W : Nat → aK} (hW : isW (tbLw15 l L xs) cuLw15 J W) (n : Nat) (ls st : List aV) (μ : aM) (g : Nat) : W (n + 1) 1095 ls st μ g = (sPush (aI 2) 1096) (W n) ls st μ g := (hW n 1095 ls st μ g).trans rfl
theorem wLw15_1096 {l : Launch} {L : Nat} {xs : Nat → Int32} {J : aK} {W : Nat → aK} (hW : isW (tbLw15 l L xs) cuLw15 J W) (n : Nat) (ls st : List aV) (μ : aM) (g : Nat) : W (n + 1) 1096 ls st μ g = (sBin fAdd 1097) (W n) ls st μ g := (hW n 1096 ls st μ g).trans rfl
theorem wLw15_1097 {l : Launch} {L : Nat} {xs : Nat → Int32} {J : aK} {W : Nat → aK} (hW : isW (tbLw15 l L xs) cuLw15 J W) (n : Nat) (ls st : List aV) (μ : aM) (g : Nat) : W (n + 1) 1097 ls st μ g = (sSld L xs 1098) (W n) ls st μ g := (hW n 1097 ls st μ g).trans rfl
theorem wLw15_1098 {l : Launch} {L : Nat} {xs : Nat → Int32} {J : aK} {W : Nat → aK} (hW : isW (tbLw15 l L xs) cuLw15 J W) (n : Nat) (ls st : List aV) (μ : aM) (g : Nat) : W (n + 1) 1098 ls st μ g = (sCallV 2 5 (fun as μ K => Ct l mdX5_levelPrice as μ K nX) 1101 0 3600) (W n) ls st μ g := (hW n 1098 ls st μ g).trans rfl
theorem tLw15_1101 (l : Launch) (L : Nat) (xs : Nat → Int32) : tb (tbLw15 l L xs) 1101 = sSt 7 1103 isI := (rfl)
theorem wLw15_1101 {l : Launch} {L : Nat} {xs : Nat → Int32} {J : aK} {W : Nat → aK} (hW : isW (tbLw15 l L xs) cuLw15 J W) (n : Nat) (ls st : List aV) (μ : aM) (g : Nat) : W (n + 1) 1101 ls st μ g = J 1101 ls st μ g := (hW n 1101 ls st μ g).trans rfl
theorem wLw15_1103 {l : Launch} {L : Nat} {xs : Nat → Int32} {J : aK} {W : Nat → aK} (hW : isW (tbLw15 l L xs) cuLw15 J W) (n : Nat) (ls st : List aV) (μ : aM) (g : Nat) : W (n + 1) 1103 ls st μ g = (sLd 2 1104 isR) (W n) ls st μ g := (hW n 1103 ls st μ g).trans rfl
theorem wLw15_1104 {l : Launch} {L : Nat} {xs : Nat → Int32} {J : aK} {W : Nat → aK} (hW : isW (tbLw15 l L xs) cuLw15 J W) (n : Nat) (ls st : List aV) (μ : aM) (g : Nat) : W (n + 1) 1104 ls st μ g = (sCallV 0 5 (fun as μ K => Ct l mdX5_thrown as μ K nX) 1107 0 3600) (W n) ls st μ g := (hW n 1104 ls st μ g).trans rfl
theorem tLw15_1107 (l : Launch) (L : Nat) (xs : Nat → Int32) : tb (tbLw15 l L xs) 1107 = sLd 6 1109 isI := (rfl)
theorem wLw15_1107 {l : Launch} {L : Nat} {xs : Nat → Int32} {J : aK} {W : Nat → aK} (hW : isW (tbLw15 l L xs) cuLw15 J W) (n : Nat) (ls st : List aV) (μ : aM) (g : Nat) : W (n + 1) 1107 ls st μ g = J 1107 ls st μ g := (hW n 1107 ls st μ g).trans rfl
theorem wLw15_1109 {l : Launch} {L : Nat} {xs : Nat → Int32} {J : aK} {W : Nat → aK} (hW : isW (tbLw15 l L xs) cuLw15 J W) (n : Nat) (ls st : List aV) (μ : aM) (g : Nat) : W (n + 1) 1109 ls st μ g = (sIc qEq 1114 1112) (W n) ls st μ g := (hW n 1109 ls st μ g).trans rfl
theorem wLw15_1112 {l : Launch} {L : Nat} {xs : Nat → Int32} {J : aK} {W : Nat → aK} (hW : isW (tbLw15 l L xs) cuLw15 J W) (n : Nat) (ls st : List aV) (μ : aM) (g : Nat) : W (n + 1) 1112 ls st μ g = (sPush (aI 0) 1113) (W n) ls st μ g := (hW n 1112 ls st μ g).trans rfl
theorem wLw15_1113 {l : Launch} {L : Nat} {xs : Nat → Int32} {J : aK} {W : Nat → aK} (hW : isW (tbLw15 l L xs) cuLw15 J W) (n : Nat) (ls st : List aV) (μ : aM) (g : Nat) : W (n + 1) 1113 ls st μ g = (sLret) (W n) ls st μ g := (hW n 1113 ls st μ g).trans rfl
theorem wLw15_1114 {l : Launch} {L : Nat} {xs : Nat → Int32} {J : aK} {W : Nat → aK} (hW : isW (tbLw15 l L xs) cuLw15 J W) (n : Nat) (ls st : List aV) (μ : aM) (g : Nat) : W (n + 1) 1114 ls st μ g = (sLd 6 1116 isI) (W n) ls st μ g := (hW n 1114 ls st μ g).trans rfl
theorem wLw15_1116 {l : Launch} {L : Nat} {xs : Nat → Int32} {J : aK} {W : Nat → aK} (hW : isW (tbLw15 l L xs) cuLw15 J W) (n : Nat) (ls st : List aV) (μ : aM) (g : Nat) : W (n + 1) 1116 ls st μ g = (sIf pNe 1131 1119) (W n) ls st μ g := (hW n 1116 ls st μ g).trans rfl
theorem wLw15_1119 {l : Launch} {L : Nat} {xs : Nat → Int32} {J : aK} {W : Nat → aK} (hW : isW (tbLw15 l L xs) cuLw15 J W) (n : Nat) (ls st : List aV) (μ : aM) (g : Nat) : W (n + 1) 1119 ls st μ g = (sLd 3 1120 isR) (W n) ls st μ g := (hW n 1119 ls st μ g).trans rfl
theorem wLw15_1120 {l : Launch} {L : Nat} {xs : Nat → Int32} {J : aK} {W : Nat → aK} (hW : isW (tbLw15 l L xs) cuLw15 J W) (n : Nat) (ls st : List aV) (μ : aM) (g : Nat) : W (n + 1) 1120 ls st μ g = (sPush (aI 0) 1121) (W n) ls st μ g := (hW n 1120 ls st μ g).trans rfl
theorem wLw15_1121 {l : Launch} {L : Nat} {xs : Nat → Int32} {J : aK} {W : Nat → aK} (hW : isW (tbLw15 l L xs) cuLw15 J W) (n : Nat) (ls st : List aV) (μ : aM) (g : Nat) : W (n + 1) 1121 ls st μ g = (sAldL 1122) (W n) ls st μ g := (hW n 1121 ls st μ g).trans rfl
theorem wLw15_1122 {l : Launch} {L : Nat} {xs : Nat → Int32} {J : aK} {W : Nat → aK} (hW : isW (tbLw15 l L xs) cuLw15 J W) (n : Nat) (ls st : List aV) (μ : aM) (g : Nat) : W (n + 1) 1122 ls st μ g = (sLd 7 1124 isI) (W n) ls st μ g := (hW n 1122 ls st μ g).trans rfl
theorem wLw15_1124 {l : Launch} {L : Nat} {xs : Nat → Int32} {J : aK} {W : Nat → aK} (hW : isW (tbLw15 l L xs) cuLw15 J W) (n : Nat) (ls st : List aV) (μ : aM) (g : Nat) : W (n + 1) 1124 ls st μ g = (sI2l 1125) (W n) ls st μ g := (hW n 1124 ls st μ g).trans rfl
theorem wLw15_1125 {l : Launch} {L : Nat} {xs : Nat → Int32} {J : aK} {W : Nat → aK} (hW : isW (tbLw15 l L xs) cuLw15 J W) (n : Nat) (ls st : List aV) (μ : aM) (g : Nat) : W (n + 1) 1125 ls st μ g = (sLcmp 1126) (W n) ls st μ g := (hW n 1125 ls st μ g).trans rfl
theorem wLw15_1126 {l : Launch} {L : Nat} {xs : Nat → Int32} {J : aK} {W : Nat → aK} (hW : isW (tbLw15 l L xs) cuLw15 J W) (n : Nat) (ls st : List aV) (μ : aM) (g : Nat) : W (n + 1) 1126 ls st μ g = (sIf pEq 1131 1129) (W n) ls st μ g := (hW n 1126 ls st μ g).trans rfl
theorem wLw15_1129 {l : Launch} {L : Nat} {xs : Nat → Int32} {J : aK} {W : Nat → aK} (hW : isW (tbLw15 l L xs) cuLw15 J W) (n : Nat) (ls st : List aV) (μ : aM) (g : Nat) : W (n + 1) 1129 ls st μ g = (sPush (aI 0) 1130) (W n) ls st μ g := (hW n 1129 ls st μ g).trans rfl
theorem wLw15_1130 {l : Launch} {L : Nat} {xs : Nat → Int32} {J : aK} {W : Nat → aK} (hW : isW (tbLw15 l L xs) cuLw15 J W) (n : Nat) (ls st : List aV) (μ : aM) (g : Nat) : W (n + 1) 1130 ls st μ g = (sLret) (W n) ls st μ g := (hW n 1130 ls st μ g).trans rfl
theorem wLw15_1131 {l : Launch} {L : Nat} {xs : Nat → Int32} {J : aK} {W : Nat → aK} (hW : isW (tbLw15 l L xs) cuLw15 J W) (n : Nat) (ls st : List aV) (μ : aM) (g : Nat) : W (n + 1) 1131 ls st μ g = (sGoto 1969) (W n) ls st μ g := (hW n 1131 ls st μ g).trans rfl
theorem dLw16_1134 : decode code 1134 = .ok (.aload_n 1, 1) := by decide +kernel
theorem dLw16_1135 : decode code 1135 = .ok (.aload_n 0, 1) := by decide +kernel
theorem dLw16_1136 : decode code 1136 = .ok (.iload 5, 2) := by decide +kernel
theorem dLw16_1138 : decode code 1138 = .ok (.iconst 1, 1) := by decide +kernel
theorem dLw16_1139 : decode code 1139 = .ok (.iadd, 1) := by decide +kernel
theorem dLw16_1140 : decode code 1140 = .ok (.iaload, 1) := by decide +kernel
theorem dLw16_1141 : decode code 1141 = .ok (.i2c, 1) := by decide +kernel
theorem dLw16_1142 : decode code 1142 = .ok (.aload_n 0, 1) := by decide +kernel
theorem dLw16_1143 : decode code 1143 = .ok (.iload 5, 2) := by decide +kernel
theorem dLw16_1145 : decode code 1145 = .ok (.iconst 2, 1) := by decide +kernel
theorem dLw16_1146 : decode code 1146 = .ok (.iadd, 1) := by decide +kernel
theorem dLw16_1147 : decode code 1147 = .ok (.iaload, 1) := by decide +kernel
theorem dLw16_1148 : decode code 1148 = .ok (.aload_n 3, 1) := by decide +kernel
theorem dLw16_1149 : decode code 1149 = .ok (.invokestatic 178, 3) := by decide +kernel
theorem dLw16_1152 : decode code 1152 = .ok (.istore 6, 2) := by decide +kernel
theorem dLw16_1154 : decode code 1154 = .ok (.aload_n 2, 1) := by decide +kernel
theorem dLw16_1155 : decode code 1155 = .ok (.aload_n 0, 1) := by decide +kernel
theorem dLw16_1156 : decode code 1156 = .ok (.iload 5, 2) := by decide +kernel
theorem dLw16_1158 : decode code 1158 = .ok (.iconst 1, 1) := by decide +kernel
theorem dLw16_1159 : decode code 1159 = .ok (.iadd, 1) := by decide +kernel
theorem dLw16_1160 : decode code 1160 = .ok (.iaload, 1) := by decide +kernel
theorem dLw16_1161 : decode code 1161 = .ok (.i2c, 1) := by decide +kernel
theorem dLw16_1162 : decode code 1162 = .ok (.aload_n 0, 1) := by decide +kernel
theorem dLw16_1163 : decode code 1163 = .ok (.iload 5, 2) := by decide +kernel
theorem dLw16_1165 : decode code 1165 = .ok (.iconst 2, 1) := by decide +kernel
theorem dLw16_1166 : decode code 1166 = .ok (.iadd, 1) := by decide +kernel
theorem dLw16_1167 : decode code 1167 = .ok (.iaload, 1) := by decide +kernel
theorem dLw16_1168 : decode code 1168 = .ok (.invokevirtual 180, 3) := by decide +kernel
theorem dLw16_1171 : decode code 1171 = .ok (.istore 7, 2) := by decide +kernel
theorem dLw16_1173 : decode code 1173 = .ok (.aload_n 2, 1) := by decide +kernel
theorem dLw16_1174 : decode code 1174 = .ok (.invokevirtual 121, 3) := by decide +kernel
theorem dLw16_1177 : decode code 1177 = .ok (.iload 6, 2) := by decide +kernel
theorem dLw16_1179 : decode code 1179 = .ok (.if_icmp .eq 5, 3) := by decide +kernel
theorem dLw16_1182 : decode code 1182 = .ok (.iconst 0, 1) := by decide +kernel
theorem dLw16_1183 : decode code 1183 = .ok (.ireturn, 1) := by decide +kernel
theorem dLw16_1184 : decode code 1184 = .ok (.iload 6, 2) := by decide +kernel
theorem dLw16_1186 : decode code 1186 = .ok (.ifCond .ne 15, 3) := by decide +kernel
theorem dLw16_1189 : decode code 1189 = .ok (.aload_n 3, 1) := by decide +kernel
theorem dLw16_1190 : decode code 1190 = .ok (.iconst 0, 1) := by decide +kernel
theorem dLw16_1191 : decode code 1191 = .ok (.laload, 1) := by decide +kernel
theorem dLw16_1192 : decode code 1192 = .ok (.iload 7, 2) := by decide +kernel
theorem dLw16_1194 : decode code 1194 = .ok (.i2l, 1) := by decide +kernel
theorem dLw16_1195 : decode code 1195 = .ok (.lcmp, 1) := by decide +kernel
theorem dLw16_1196 : decode code 1196 = .ok (.ifCond .eq 5, 3) := by decide +kernel
theorem dLw16_1199 : decode code 1199 = .ok (.iconst 0, 1) := by decide +kernel
theorem dLw16_1200 : decode code 1200 = .ok (.ireturn, 1) := by decide +kernel
theorem dLw16_1201 : decode code 1201 = .ok (.goto 768, 3) := by decide +kernel
def tbLw16 (l : Launch) (L : Nat) (xs : Nat → Int32) : aTb := [
  (1134, sLd 1 1135 isR),
  (1135, sLd 0 1136 isR),
  (1136, sLd 5 1138 isI),
  (1138, sPush (aI 1) 1139),
  (1139, sBin fAdd 1140),
  (1140, sSld L xs 1141),
  (1141, sUn fI2c 1142),
  (1142, sLd 0 1143 isR),
  (1143, sLd 5 1145 isI),
  (1145, sPush (aI 2) 1146),
  (1146, sBin fAdd 1147),
  (1147, sSld L xs 1148),
  (1148, sLd 3 1149 isR),
  (1149, sCallS 4 (fun as μ K => CtH l mdL_shownAt hhL_shownAt as μ K) 1152 2 3600),
  (1152, sSt 6 1154 isI),
  (1154, sLd 2 1155 isR),
  (1155, sLd 0 1156 isR),
  (1156, sLd 5 1158 isI),
  (1158, sPush (aI 1) 1159),
  (1159, sBin fAdd 1160),
  (1160, sSld L xs 1161),
  (1161, sUn fI2c 1162),
  (1162, sLd 0 1163 isR),
  (1163, sLd 5 1165 isI),
  (1165, sPush (aI 2) 1166),
  (1166, sBin fAdd 1167),
  (1167, sSld L xs 1168),
  (1168, sCallV 2 5 (fun as μ K => Ct l mdX5_shownAt as μ K nX) 1171 0 3600),
  (1171, sSt 7 1173 isI),
  (1173, sLd 2 1174 isR),
  (1174, sCallV 0 5 (fun as μ K => Ct l mdX5_thrown as μ K nX) 1177 0 3600),
  (1177, sLd 6 1179 isI),
  (1179, sIc qEq 1184 1182),
  (1182, sPush (aI 0) 1183),
  (1183, sLret),
  (1184, sLd 6 1186 isI),
  (1186, sIf pNe 1201 1189),
  (1189, sLd 3 1190 isR),
  (1190, sPush (aI 0) 1191),
  (1191, sAldL 1192),
  (1192, sLd 7 1194 isI),
  (1194, sI2l 1195),
  (1195, sLcmp 1196),
  (1196, sIf pEq 1201 1199),
  (1199, sPush (aI 0) 1200),
  (1200, sLret),
  (1201, sGoto 1969)]
theorem snLw16 (l : Launch) (L : Nat) (xs : Nat → Int32) (hL3 : L ≤ 3072) : ∀ q ∈ tbLw16 l L xs, Snd (BL l L xs) q.1 q.2 :=
  tcG (sLw (fun p e s m below meth c b cA D A ad0 h hb => ok_aload_n h.1 1 rfl dLw16_1134)) <|
  tcG (sLw (fun p e s m below meth c b cA D A ad0 h hb => ok_aload_n h.1 0 rfl dLw16_1135)) <|
  tcG (sLw (fun p e s m below meth c b cA D A ad0 h hb => ok_iload h.1 dLw16_1136)) <|
  tcG (sLw (fun p e s m below meth c b cA D A ad0 h hb => ok_iconst h.1 ⟨by decide, by decide⟩ dLw16_1138)) <|
  tcG (sLw (fun p e s m below meth c b cA D A ad0 h hb => ok_iadd h.1 dLw16_1139)) <|
  tcG (sLw (fun p e s m below meth c b cA D A ad0 h hb => ok_sld h hb dLw16_1140)) <|
  tcG (sLw (fun p e s m below meth c b cA D A ad0 h hb => ok_i2c h.1 dLw16_1141)) <|
  tcG (sLw (fun p e s m below meth c b cA D A ad0 h hb => ok_aload_n h.1 0 rfl dLw16_1142)) <|
  tcG (sLw (fun p e s m below meth c b cA D A ad0 h hb => ok_iload h.1 dLw16_1143)) <|
  tcG (sLw (fun p e s m below meth c b cA D A ad0 h hb => ok_iconst h.1 ⟨by decide, by decide⟩ dLw16_1145)) <|
  tcG (sLw (fun p e s m below meth c b cA D A ad0 h hb => ok_iadd h.1 dLw16_1146)) <|
  tcG (sLw (fun p e s m below meth c b cA D A ad0 h hb => ok_sld h hb dLw16_1147)) <|
  tcG (sLw (fun p e s m below meth c b cA D A ad0 h hb => ok_aload_n h.1 3 rfl dLw16_1148)) <|
  tcG (sLw (fun p e s m below meth c b cA D A ad0 h hb => ok_callSH h.1 h.2.1 (show 3600 ≤ room_1.cells ∧ 2000 * 3600 ≤ room_1.slots from ⟨Nat.le_of_ble_eq_true rfl, Nat.le_of_ble_eq_true rfl⟩) mdL_shownAt hhL_shownAt siL_shownAt mkRL_178 stL_shownAt ⟨by decide, by decide⟩ dLw16_1149)) <|
  tcG (sLw (fun p e s m below meth c b cA D A ad0 h hb => ok_istore h.1 (by decide) dLw16_1152)) <|
  tcG (sLw (fun p e s m below meth c b cA D A ad0 h hb => ok_aload_n h.1 2 rfl dLw16_1154)) <|
  tcG (sLw (fun p e s m below meth c b cA D A ad0 h hb => ok_aload_n h.1 0 rfl dLw16_1155)) <|
  tcG (sLw (fun p e s m below meth c b cA D A ad0 h hb => ok_iload h.1 dLw16_1156)) <|
  tcG (sLw (fun p e s m below meth c b cA D A ad0 h hb => ok_iconst h.1 ⟨by decide, by decide⟩ dLw16_1158)) <|
  tcG (sLw (fun p e s m below meth c b cA D A ad0 h hb => ok_iadd h.1 dLw16_1159)) <|
  tcG (sLw (fun p e s m below meth c b cA D A ad0 h hb => ok_sld h hb dLw16_1160)) <|
  tcG (sLw (fun p e s m below meth c b cA D A ad0 h hb => ok_i2c h.1 dLw16_1161)) <|
  tcG (sLw (fun p e s m below meth c b cA D A ad0 h hb => ok_aload_n h.1 0 rfl dLw16_1162)) <|
  tcG (sLw (fun p e s m below meth c b cA D A ad0 h hb => ok_iload h.1 dLw16_1163)) <|
  tcG (sLw (fun p e s m below meth c b cA D A ad0 h hb => ok_iconst h.1 ⟨by decide, by decide⟩ dLw16_1165)) <|
  tcG (sLw (fun p e s m below meth c b cA D A ad0 h hb => ok_iadd h.1 dLw16_1166)) <|
  tcG (sLw (fun p e s m below meth c b cA D A ad0 h hb => ok_sld h hb dLw16_1167)) <|
  tcG (sLw (fun p e s m below meth c b cA D A ad0 h hb => ok_callV h.1 h.2.1 (show 3600 ≤ room_1.cells ∧ 2000 * 3600 ≤ room_1.slots from ⟨Nat.le_of_ble_eq_true rfl, Nat.le_of_ble_eq_true rfl⟩) mdX5_shownAt siX5_shownAt cxX5 mkRL_180 imX5_shownAt seX5_shownAt ⟨by decide, by decide⟩ aAx_no dLw16_1168)) <|
  tcG (sLw (fun p e s m below meth c b cA D A ad0 h hb => ok_istore h.1 (by decide) dLw16_1171)) <|
  tcG (sLw (fun p e s m below meth c b cA D A ad0 h hb => ok_aload_n h.1 2 rfl dLw16_1173)) <|
  tcG (sLw (fun p e s m below meth c b cA D A ad0 h hb => ok_callV h.1 h.2.1 (show 3600 ≤ room_1.cells ∧ 2000 * 3600 ≤ room_1.slots from ⟨Nat.le_of_ble_eq_true rfl, Nat.le_of_ble_eq_true rfl⟩) mdX5_thrown siX5_thrown cxX5 mkRL_121 imX5_thrown seX5_thrown ⟨by decide, by decide⟩ aAx_no dLw16_1174)) <|
  tcG (sLw (fun p e s m below meth c b cA D A ad0 h hb => ok_iload h.1 dLw16_1177)) <|
  tcG (sLw (fun p e s m below meth c b cA D A ad0 h hb => ok_icmp_eq h.1 1184 (by decide) dLw16_1179)) <|
  tcG (sLw (fun p e s m below meth c b cA D A ad0 h hb => ok_iconst h.1 ⟨by decide, by decide⟩ dLw16_1182)) <|
  tcG (sLw (fun p e s m below meth c b cA D A ad0 h hb => ok_lret h dLw16_1183)) <|
  tcG (sLw (fun p e s m below meth c b cA D A ad0 h hb => ok_iload h.1 dLw16_1184)) <|
  tcG (sLw (fun p e s m below meth c b cA D A ad0 h hb => ok_if_ne h.1 1201 (by decide) dLw16_1186)) <|
  tcG (sLw (fun p e s m below meth c b cA D A ad0 h hb => ok_aload_n h.1 3 rfl dLw16_1189)) <|
  tcG (sLw (fun p e s m below meth c b cA D A ad0 h hb => ok_iconst h.1 ⟨by decide, by decide⟩ dLw16_1190)) <|
  tcG (sLw (fun p e s m below meth c b cA D A ad0 h hb => ok_lald h.1 dLw16_1191)) <|
  tcG (sLw (fun p e s m below meth c b cA D A ad0 h hb => ok_iload h.1 dLw16_1192)) <|
  tcG (sLw (fun p e s m below meth c b cA D A ad0 h hb => ok_i2l h.1 dLw16_1194)) <|
  tcG (sLw (fun p e s m below meth c b cA D A ad0 h hb => ok_lcmp h.1 dLw16_1195)) <|
  tcG (sLw (fun p e s m below meth c b cA D A ad0 h hb => ok_if_eq h.1 1201 (by decide) dLw16_1196)) <|
  tcG (sLw (fun p e s m below meth c b cA D A ad0 h hb => ok_iconst h.1 ⟨by decide, by decide⟩ dLw16_1199)) <|
  tcG (sLw (fun p e s m below meth c b cA D A ad0 h hb => ok_lret h dLw16_1200)) <|
  tcG (sLw (fun p e s m below meth c b cA D A ad0 h hb => ok_goto h.1 1969 (by decide) dLw16_1201)) <|
  tnG
abbrev cuLw16 : List Nat := [1152, 1171, 1177, 1969]
theorem wLw16_1969 {l : Launch} {L : Nat} {xs : Nat → Int32} {J : aK} {W : Nat → aK} (hW : isW (tbLw16 l L xs) cuLw16 J W) (n : Nat) (ls st : List aV) (μ : aM) (g : Nat) : W (n + 1) 1969 ls st μ g = J 1969 ls st μ g := (hW n 1969 ls st μ g).trans rfl
theorem tLw16_1134 (l : Launch) (L : Nat) (xs : Nat → Int32) : tb (tbLw16 l L xs) 1134 = sLd 1 1135 isR := (rfl)
theorem wLw16_1134 {l : Launch} {L : Nat} {xs : Nat → Int32} {J : aK} {W : Nat → aK} (hW : isW (tbLw16 l L xs) cuLw16 J W) (n : Nat) (ls st : List aV) (μ : aM) (g : Nat) : W (n + 1) 1134 ls st μ g = (sLd 1 1135 isR) (W n) ls st μ g := (hW n 1134 ls st μ g).trans rfl
theorem wLw16_1135 {l : Launch} {L : Nat} {xs : Nat → Int32} {J : aK} {W : Nat → aK} (hW : isW (tbLw16 l L xs) cuLw16 J W) (n : Nat) (ls st : List aV) (μ : aM) (g : Nat) : W (n + 1) 1135 ls st μ g = (sLd 0 1136 isR) (W n) ls st μ g := (hW n 1135 ls st μ g).trans rfl
theorem wLw16_1136 {l : Launch} {L : Nat} {xs : Nat → Int32} {J : aK} {W : Nat → aK} (hW : isW (tbLw16 l L xs) cuLw16 J W) (n : Nat) (ls st : List aV) (μ : aM) (g : Nat) : W (n + 1) 1136 ls st μ g = (sLd 5 1138 isI) (W n) ls st μ g := (hW n 1136 ls st μ g).trans rfl
theorem wLw16_1138 {l : Launch} {L : Nat} {xs : Nat → Int32} {J : aK} {W : Nat → aK} (hW : isW (tbLw16 l L xs) cuLw16 J W) (n : Nat) (ls st : List aV) (μ : aM) (g : Nat) : W (n + 1) 1138 ls st μ g = (sPush (aI 1) 1139) (W n) ls st μ g := (hW n 1138 ls st μ g).trans rfl
theorem wLw16_1139 {l : Launch} {L : Nat} {xs : Nat → Int32} {J : aK} {W : Nat → aK} (hW : isW (tbLw16 l L xs) cuLw16 J W) (n : Nat) (ls st : List aV) (μ : aM) (g : Nat) : W (n + 1) 1139 ls st μ g = (sBin fAdd 1140) (W n) ls st μ g := (hW n 1139 ls st μ g).trans rfl
theorem wLw16_1140 {l : Launch} {L : Nat} {xs : Nat → Int32} {J : aK} {W : Nat → aK} (hW : isW (tbLw16 l L xs) cuLw16 J W) (n : Nat) (ls st : List aV) (μ : aM) (g : Nat) : W (n + 1) 1140 ls st μ g = (sSld L xs 1141) (W n) ls st μ g := (hW n 1140 ls st μ g).trans rfl
theorem wLw16_1141 {l : Launch} {L : Nat} {xs : Nat → Int32} {J : aK} {W : Nat → aK} (hW : isW (tbLw16 l L xs) cuLw16 J W) (n : Nat) (ls st : List aV) (μ : aM) (g : Nat) : W (n + 1) 1141 ls st μ g = (sUn fI2c 1142) (W n) ls st μ g := (hW n 1141 ls st μ g).trans rfl
theorem wLw16_1142 {l : Launch} {L : Nat} {xs : Nat → Int32} {J : aK} {W : Nat → aK} (hW : isW (tbLw16 l L xs) cuLw16 J W) (n : Nat) (ls st : List aV) (μ : aM) (g : Nat) : W (n + 1) 1142 ls st μ g = (sLd 0 1143 isR) (W n) ls st μ g := (hW n 1142 ls st μ g).trans rfl
theorem wLw16_1143 {l : Launch} {L : Nat} {xs : Nat → Int32} {J : aK} {W : Nat → aK} (hW : isW (tbLw16 l L xs) cuLw16 J W) (n : Nat) (ls st : List aV) (μ : aM) (g : Nat) : W (n + 1) 1143 ls st μ g = (sLd 5 1145 isI) (W n) ls st μ g := (hW n 1143 ls st μ g).trans rfl
theorem wLw16_1145 {l : Launch} {L : Nat} {xs : Nat → Int32} {J : aK} {W : Nat → aK} (hW : isW (tbLw16 l L xs) cuLw16 J W) (n : Nat) (ls st : List aV) (μ : aM) (g : Nat) : W (n + 1) 1145 ls st μ g = (sPush (aI 2) 1146) (W n) ls st μ g := (hW n 1145 ls st μ g).trans rfl
theorem wLw16_1146 {l : Launch} {L : Nat} {xs : Nat → Int32} {J : aK} {W : Nat → aK} (hW : isW (tbLw16 l L xs) cuLw16 J W) (n : Nat) (ls st : List aV) (μ : aM) (g : Nat) : W (n + 1) 1146 ls st μ g = (sBin fAdd 1147) (W n) ls st μ g := (hW n 1146 ls st μ g).trans rfl
theorem wLw16_1147 {l : Launch} {L : Nat} {xs : Nat → Int32} {J : aK} {W : Nat → aK} (hW : isW (tbLw16 l L xs) cuLw16 J W) (n : Nat) (ls st : List aV) (μ : aM) (g : Nat) : W (n + 1) 1147 ls st μ g = (sSld L xs 1148) (W n) ls st μ g := (hW n 1147 ls st μ g).trans rfl
theorem wLw16_1148 {l : Launch} {L : Nat} {xs : Nat → Int32} {J : aK} {W : Nat → aK} (hW : isW (tbLw16 l L xs) cuLw16 J W) (n : Nat) (ls st : List aV) (μ : aM) (g : Nat) : W (n + 1) 1148 ls st μ g = (sLd 3 1149 isR) (W n) ls st μ g := (hW n 1148 ls st μ g).trans rfl
theorem wLw16_1149 {l : Launch} {L : Nat} {xs : Nat → Int32} {J : aK} {W : Nat → aK} (hW : isW (tbLw16 l L xs) cuLw16 J W) (n : Nat) (ls st : List aV) (μ : aM) (g : Nat) : W (n + 1) 1149 ls st μ g = (sCallS 4 (fun as μ K => CtH l mdL_shownAt hhL_shownAt as μ K) 1152 2 3600) (W n) ls st μ g := (hW n 1149 ls st μ g).trans rfl
theorem tLw16_1152 (l : Launch) (L : Nat) (xs : Nat → Int32) : tb (tbLw16 l L xs) 1152 = sSt 6 1154 isI := (rfl)
theorem wLw16_1152 {l : Launch} {L : Nat} {xs : Nat → Int32} {J : aK} {W : Nat → aK} (hW : isW (tbLw16 l L xs) cuLw16 J W) (n : Nat) (ls st : List aV) (μ : aM) (g : Nat) : W (n + 1) 1152 ls st μ g = J 1152 ls st μ g := (hW n 1152 ls st μ g).trans rfl
theorem wLw16_1154 {l : Launch} {L : Nat} {xs : Nat → Int32} {J : aK} {W : Nat → aK} (hW : isW (tbLw16 l L xs) cuLw16 J W) (n : Nat) (ls st : List aV) (μ : aM) (g : Nat) : W (n + 1) 1154 ls st μ g = (sLd 2 1155 isR) (W n) ls st μ g := (hW n 1154 ls st μ g).trans rfl
theorem wLw16_1155 {l : Launch} {L : Nat} {xs : Nat → Int32} {J : aK} {W : Nat → aK} (hW : isW (tbLw16 l L xs) cuLw16 J W) (n : Nat) (ls st : List aV) (μ : aM) (g : Nat) : W (n + 1) 1155 ls st μ g = (sLd 0 1156 isR) (W n) ls st μ g := (hW n 1155 ls st μ g).trans rfl
theorem wLw16_1156 {l : Launch} {L : Nat} {xs : Nat → Int32} {J : aK} {W : Nat → aK} (hW : isW (tbLw16 l L xs) cuLw16 J W) (n : Nat) (ls st : List aV) (μ : aM) (g : Nat) : W (n + 1) 1156 ls st μ g = (sLd 5 1158 isI) (W n) ls st μ g := (hW n 1156 ls st μ g).trans rfl
theorem wLw16_1158 {l : Launch} {L : Nat} {xs : Nat → Int32} {J : aK} {W : Nat → aK} (hW : isW (tbLw16 l L xs) cuLw16 J W) (n : Nat) (ls st : List aV) (μ : aM) (g : Nat) : W (n + 1) 1158 ls st μ g = (sPush (aI 1) 1159) (W n) ls st μ g := (hW n 1158 ls st μ g).trans rfl
theorem wLw16_1159 {l : Launch} {L : Nat} {xs : Nat → Int32} {J : aK} {W : Nat → aK} (hW : isW (tbLw16 l L xs) cuLw16 J W) (n : Nat) (ls st : List aV) (μ : aM) (g : Nat) : W (n + 1) 1159 ls st μ g = (sBin fAdd 1160) (W n) ls st μ g := (hW n 1159 ls st μ g).trans rfl
theorem wLw16_1160 {l : Launch} {L : Nat} {xs : Nat → Int32} {J : aK} {W : Nat → aK} (hW : isW (tbLw16 l L xs) cuLw16 J W) (n : Nat) (ls st : List aV) (μ : aM) (g : Nat) : W (n + 1) 1160 ls st μ g = (sSld L xs 1161) (W n) ls st μ g := (hW n 1160 ls st μ g).trans rfl
theorem wLw16_1161 {l : Launch} {L : Nat} {xs : Nat → Int32} {J : aK} {W : Nat → aK} (hW : isW (tbLw16 l L xs) cuLw16 J W) (n : Nat) (ls st : List aV) (μ : aM) (g : Nat) : W (n + 1) 1161 ls st μ g = (sUn fI2c 1162) (W n) ls st μ g := (hW n 1161 ls st μ g).trans rfl
theorem wLw16_1162 {l : Launch} {L : Nat} {xs : Nat → Int32} {J : aK} {W : Nat → aK} (hW : isW (tbLw16 l L xs) cuLw16 J W) (n : Nat) (ls st : List aV) (μ : aM) (g : Nat) : W (n + 1) 1162 ls st μ g = (sLd 0 1163 isR) (W n) ls st μ g := (hW n 1162 ls st μ g).trans rfl
theorem wLw16_1163 {l : Launch} {L : Nat} {xs : Nat → Int32} {J : aK} {W : Nat → aK} (hW : isW (tbLw16 l L xs) cuLw16 J W) (n : Nat) (ls st : List aV) (μ : aM) (g : Nat) : W (n + 1) 1163 ls st μ g = (sLd 5 1165 isI) (W n) ls st μ g := (hW n 1163 ls st μ g).trans rfl
theorem wLw16_1165 {l : Launch} {L : Nat} {xs : Nat → Int32} {J : aK} {W : Nat → aK} (hW : isW (tbLw16 l L xs) cuLw16 J W) (n : Nat) (ls st : List aV) (μ : aM) (g : Nat) : W (n + 1) 1165 ls st μ g = (sPush (aI 2) 1166) (W n) ls st μ g := (hW n 1165 ls st μ g).trans rfl
theorem wLw16_1166 {l : Launch} {L : Nat} {xs : Nat → Int32} {J : aK} {W : Nat → aK} (hW : isW (tbLw16 l L xs) cuLw16 J W) (n : Nat) (ls st : List aV) (μ : aM) (g : Nat) : W (n + 1) 1166 ls st μ g = (sBin fAdd 1167) (W n) ls st μ g := (hW n 1166 ls st μ g).trans rfl
theorem wLw16_1167 {l : Launch} {L : Nat} {xs : Nat → Int32} {J : aK} {W : Nat → aK} (hW : isW (tbLw16 l L xs) cuLw16 J W) (n : Nat) (ls st : List aV) (μ : aM) (g : Nat) : W (n + 1) 1167 ls st μ g = (sSld L xs 1168) (W n) ls st μ g := (hW n 1167 ls st μ g).trans rfl
theorem wLw16_1168 {l : Launch} {L : Nat} {xs : Nat → Int32} {J : aK} {W : Nat → aK} (hW : isW (tbLw16 l L xs) cuLw16 J W) (n : Nat) (ls st : List aV) (μ : aM) (g : Nat) : W (n + 1) 1168 ls st μ g = (sCallV 2 5 (fun as μ K => Ct l mdX5_shownAt as μ K nX) 1171 0 3600) (W n) ls st μ g := (hW n 1168 ls st μ g).trans rfl
theorem tLw16_1171 (l : Launch) (L : Nat) (xs : Nat → Int32) : tb (tbLw16 l L xs) 1171 = sSt 7 1173 isI := (rfl)
theorem wLw16_1171 {l : Launch} {L : Nat} {xs : Nat → Int32} {J : aK} {W : Nat → aK} (hW : isW (tbLw16 l L xs) cuLw16 J W) (n : Nat) (ls st : List aV) (μ : aM) (g : Nat) : W (n + 1) 1171 ls st μ g = J 1171 ls st μ g := (hW n 1171 ls st μ g).trans rfl
theorem wLw16_1173 {l : Launch} {L : Nat} {xs : Nat → Int32} {J : aK} {W : Nat → aK} (hW : isW (tbLw16 l L xs) cuLw16 J W) (n : Nat) (ls st : List aV) (μ : aM) (g : Nat) : W (n + 1) 1173 ls st μ g = (sLd 2 1174 isR) (W n) ls st μ g := (hW n 1173 ls st μ g).trans rfl
theorem wLw16_1174 {l : Launch} {L : Nat} {xs : Nat → Int32} {J : aK} {W : Nat → aK} (hW : isW (tbLw16 l L xs) cuLw16 J W) (n : Nat) (ls st : List aV) (μ : aM) (g : Nat) : W (n + 1) 1174 ls st μ g = (sCallV 0 5 (fun as μ K => Ct l mdX5_thrown as μ K nX) 1177 0 3600) (W n) ls st μ g := (hW n 1174 ls st μ g).trans rfl
theorem tLw16_1177 (l : Launch) (L : Nat) (xs : Nat → Int32) : tb (tbLw16 l L xs) 1177 = sLd 6 1179 isI := (rfl)
theorem wLw16_1177 {l : Launch} {L : Nat} {xs : Nat → Int32} {J : aK} {W : Nat → aK} (hW : isW (tbLw16 l L xs) cuLw16 J W) (n : Nat) (ls st : List aV) (μ : aM) (g : Nat) : W (n + 1) 1177 ls st μ g = J 1177 ls st μ g := (hW n 1177 ls st μ g).trans rfl
theorem wLw16_1179 {l : Launch} {L : Nat} {xs : Nat → Int32} {J : aK} {W : Nat → aK} (hW : isW (tbLw16 l L xs) cuLw16 J W) (n : Nat) (ls st : List aV) (μ : aM) (g : Nat) : W (n + 1) 1179 ls st μ g = (sIc qEq 1184 1182) (W n) ls st μ g := (hW n 1179 ls st μ g).trans rfl
theorem wLw16_1182 {l : Launch} {L : Nat} {xs : Nat → Int32} {J : aK} {W : Nat → aK} (hW : isW (tbLw16 l L xs) cuLw16 J W) (n : Nat) (ls st : List aV) (μ : aM) (g : Nat) : W (n + 1) 1182 ls st μ g = (sPush (aI 0) 1183) (W n) ls st μ g := (hW n 1182 ls st μ g).trans rfl
theorem wLw16_1183 {l : Launch} {L : Nat} {xs : Nat → Int32} {J : aK} {W : Nat → aK} (hW : isW (tbLw16 l L xs) cuLw16 J W) (n : Nat) (ls st : List aV) (μ : aM) (g : Nat) : W (n + 1) 1183 ls st μ g = (sLret) (W n) ls st μ g := (hW n 1183 ls st μ g).trans rfl
theorem wLw16_1184 {l : Launch} {L : Nat} {xs : Nat → Int32} {J : aK} {W : Nat → aK} (hW : isW (tbLw16 l L xs) cuLw16 J W) (n : Nat) (ls st : List aV) (μ : aM) (g : Nat) : W (n + 1) 1184 ls st μ g = (sLd 6 1186 isI) (W n) ls st μ g := (hW n 1184 ls st μ g).trans rfl
theorem wLw16_1186 {l : Launch} {L : Nat} {xs : Nat → Int32} {J : aK} {W : Nat → aK} (hW : isW (tbLw16 l L xs) cuLw16 J W) (n : Nat) (ls st : List aV) (μ : aM) (g : Nat) : W (n + 1) 1186 ls st μ g = (sIf pNe 1201 1189) (W n) ls st μ g := (hW n 1186 ls st μ g).trans rfl
theorem wLw16_1189 {l : Launch} {L : Nat} {xs : Nat → Int32} {J : aK} {W : Nat → aK} (hW : isW (tbLw16 l L xs) cuLw16 J W) (n : Nat) (ls st : List aV) (μ : aM) (g : Nat) : W (n + 1) 1189 ls st μ g = (sLd 3 1190 isR) (W n) ls st μ g := (hW n 1189 ls st μ g).trans rfl
theorem wLw16_1190 {l : Launch} {L : Nat} {xs : Nat → Int32} {J : aK} {W : Nat → aK} (hW : isW (tbLw16 l L xs) cuLw16 J W) (n : Nat) (ls st : List aV) (μ : aM) (g : Nat) : W (n + 1) 1190 ls st μ g = (sPush (aI 0) 1191) (W n) ls st μ g := (hW n 1190 ls st μ g).trans rfl
theorem wLw16_1191 {l : Launch} {L : Nat} {xs : Nat → Int32} {J : aK} {W : Nat → aK} (hW : isW (tbLw16 l L xs) cuLw16 J W) (n : Nat) (ls st : List aV) (μ : aM) (g : Nat) : W (n + 1) 1191 ls st μ g = (sAldL 1192) (W n) ls st μ g := (hW n 1191 ls st μ g).trans rfl
theorem wLw16_1192 {l : Launch} {L : Nat} {xs : Nat → Int32} {J : aK} {W : Nat → aK} (hW : isW (tbLw16 l L xs) cuLw16 J W) (n : Nat) (ls st : List aV) (μ : aM) (g : Nat) : W (n + 1) 1192 ls st μ g = (sLd 7 1194 isI) (W n) ls st μ g := (hW n 1192 ls st μ g).trans rfl
theorem wLw16_1194 {l : Launch} {L : Nat} {xs : Nat → Int32} {J : aK} {W : Nat → aK} (hW : isW (tbLw16 l L xs) cuLw16 J W) (n : Nat) (ls st : List aV) (μ : aM) (g : Nat) : W (n + 1) 1194 ls st μ g = (sI2l 1195) (W n) ls st μ g := (hW n 1194 ls st μ g).trans rfl
theorem wLw16_1195 {l : Launch} {L : Nat} {xs : Nat → Int32} {J : aK} {W : Nat → aK} (hW : isW (tbLw16 l L xs) cuLw16 J W) (n : Nat) (ls st : List aV) (μ : aM) (g : Nat) : W (n + 1) 1195 ls st μ g = (sLcmp 1196) (W n) ls st μ g := (hW n 1195 ls st μ g).trans rfl
theorem wLw16_1196 {l : Launch} {L : Nat} {xs : Nat → Int32} {J : aK} {W : Nat → aK} (hW : isW (tbLw16 l L xs) cuLw16 J W) (n : Nat) (ls st : List aV) (μ : aM) (g : Nat) : W (n + 1) 1196 ls st μ g = (sIf pEq 1201 1199) (W n) ls st μ g := (hW n 1196 ls st μ g).trans rfl
theorem wLw16_1199 {l : Launch} {L : Nat} {xs : Nat → Int32} {J : aK} {W : Nat → aK} (hW : isW (tbLw16 l L xs) cuLw16 J W) (n : Nat) (ls st : List aV) (μ : aM) (g : Nat) : W (n + 1) 1199 ls st μ g = (sPush (aI 0) 1200) (W n) ls st μ g := (hW n 1199 ls st μ g).trans rfl
theorem wLw16_1200 {l : Launch} {L : Nat} {xs : Nat → Int32} {J : aK} {W : Nat → aK} (hW : isW (tbLw16 l L xs) cuLw16 J W) (n : Nat) (ls st : List aV) (μ : aM) (g : Nat) : W (n + 1) 1200 ls st μ g = (sLret) (W n) ls st μ g := (hW n 1200 ls st μ g).trans rfl
theorem wLw16_1201 {l : Launch} {L : Nat} {xs : Nat → Int32} {J : aK} {W : Nat → aK} (hW : isW (tbLw16 l L xs) cuLw16 J W) (n : Nat) (ls st : List aV) (μ : aM) (g : Nat) : W (n + 1) 1201 ls st μ g = (sGoto 1969) (W n) ls st μ g := (hW n 1201 ls st μ g).trans rfl
theorem dLw17_1204 : decode code 1204 = .ok (.aload_n 1, 1) := by decide +kernel
theorem dLw17_1205 : decode code 1205 = .ok (.aload_n 0, 1) := by decide +kernel
theorem dLw17_1206 : decode code 1206 = .ok (.iload 5, 2) := by decide +kernel
theorem dLw17_1208 : decode code 1208 = .ok (.iconst 1, 1) := by decide +kernel
theorem dLw17_1209 : decode code 1209 = .ok (.iadd, 1) := by decide +kernel
theorem dLw17_1210 : decode code 1210 = .ok (.iaload, 1) := by decide +kernel
theorem dLw17_1211 : decode code 1211 = .ok (.i2c, 1) := by decide +kernel
theorem dLw17_1212 : decode code 1212 = .ok (.aload_n 0, 1) := by decide +kernel
theorem dLw17_1213 : decode code 1213 = .ok (.iload 5, 2) := by decide +kernel
theorem dLw17_1215 : decode code 1215 = .ok (.iconst 2, 1) := by decide +kernel
theorem dLw17_1216 : decode code 1216 = .ok (.iadd, 1) := by decide +kernel
theorem dLw17_1217 : decode code 1217 = .ok (.iaload, 1) := by decide +kernel
theorem dLw17_1218 : decode code 1218 = .ok (.aload_n 3, 1) := by decide +kernel
theorem dLw17_1219 : decode code 1219 = .ok (.invokestatic 181, 3) := by decide +kernel
theorem dLw17_1222 : decode code 1222 = .ok (.istore 6, 2) := by decide +kernel
theorem dLw17_1224 : decode code 1224 = .ok (.aload_n 2, 1) := by decide +kernel
theorem dLw17_1225 : decode code 1225 = .ok (.aload_n 0, 1) := by decide +kernel
theorem dLw17_1226 : decode code 1226 = .ok (.iload 5, 2) := by decide +kernel
theorem dLw17_1228 : decode code 1228 = .ok (.iconst 1, 1) := by decide +kernel
theorem dLw17_1229 : decode code 1229 = .ok (.iadd, 1) := by decide +kernel
theorem dLw17_1230 : decode code 1230 = .ok (.iaload, 1) := by decide +kernel
theorem dLw17_1231 : decode code 1231 = .ok (.i2c, 1) := by decide +kernel
theorem dLw17_1232 : decode code 1232 = .ok (.aload_n 0, 1) := by decide +kernel
theorem dLw17_1233 : decode code 1233 = .ok (.iload 5, 2) := by decide +kernel
theorem dLw17_1235 : decode code 1235 = .ok (.iconst 2, 1) := by decide +kernel
theorem dLw17_1236 : decode code 1236 = .ok (.iadd, 1) := by decide +kernel
theorem dLw17_1237 : decode code 1237 = .ok (.iaload, 1) := by decide +kernel
theorem dLw17_1238 : decode code 1238 = .ok (.invokevirtual 183, 3) := by decide +kernel
theorem dLw17_1241 : decode code 1241 = .ok (.istore 7, 2) := by decide +kernel
theorem dLw17_1243 : decode code 1243 = .ok (.aload_n 2, 1) := by decide +kernel
theorem dLw17_1244 : decode code 1244 = .ok (.invokevirtual 121, 3) := by decide +kernel
theorem dLw17_1247 : decode code 1247 = .ok (.iload 6, 2) := by decide +kernel
theorem dLw17_1249 : decode code 1249 = .ok (.if_icmp .eq 5, 3) := by decide +kernel
theorem dLw17_1252 : decode code 1252 = .ok (.iconst 0, 1) := by decide +kernel
theorem dLw17_1253 : decode code 1253 = .ok (.ireturn, 1) := by decide +kernel
theorem dLw17_1254 : decode code 1254 = .ok (.iload 6, 2) := by decide +kernel
theorem dLw17_1256 : decode code 1256 = .ok (.ifCond .ne 15, 3) := by decide +kernel
theorem dLw17_1259 : decode code 1259 = .ok (.aload_n 3, 1) := by decide +kernel
theorem dLw17_1260 : decode code 1260 = .ok (.iconst 0, 1) := by decide +kernel
theorem dLw17_1261 : decode code 1261 = .ok (.laload, 1) := by decide +kernel
theorem dLw17_1262 : decode code 1262 = .ok (.iload 7, 2) := by decide +kernel
theorem dLw17_1264 : decode code 1264 = .ok (.i2l, 1) := by decide +kernel
theorem dLw17_1265 : decode code 1265 = .ok (.lcmp, 1) := by decide +kernel
theorem dLw17_1266 : decode code 1266 = .ok (.ifCond .eq 5, 3) := by decide +kernel
theorem dLw17_1269 : decode code 1269 = .ok (.iconst 0, 1) := by decide +kernel
theorem dLw17_1270 : decode code 1270 = .ok (.ireturn, 1) := by decide +kernel
theorem dLw17_1271 : decode code 1271 = .ok (.goto 698, 3) := by decide +kernel
def tbLw17 (l : Launch) (L : Nat) (xs : Nat → Int32) : aTb := [
  (1204, sLd 1 1205 isR),
  (1205, sLd 0 1206 isR),
  (1206, sLd 5 1208 isI),
  (1208, sPush (aI 1) 1209),
  (1209, sBin fAdd 1210),
  (1210, sSld L xs 1211),
  (1211, sUn fI2c 1212),
  (1212, sLd 0 1213 isR),
  (1213, sLd 5 1215 isI),
  (1215, sPush (aI 2) 1216),
  (1216, sBin fAdd 1217),
  (1217, sSld L xs 1218),
  (1218, sLd 3 1219 isR),
  (1219, sCallS 4 (fun as μ K => CtH l mdL_leftAt hhL_leftAt as μ K) 1222 2 3600),
  (1222, sSt 6 1224 isI),
  (1224, sLd 2 1225 isR),
  (1225, sLd 0 1226 isR),
  (1226, sLd 5 1228 isI),
  (1228, sPush (aI 1) 1229),
  (1229, sBin fAdd 1230),
  (1230, sSld L xs 1231),
  (1231, sUn fI2c 1232),
  (1232, sLd 0 1233 isR),
  (1233, sLd 5 1235 isI),
  (1235, sPush (aI 2) 1236),
  (1236, sBin fAdd 1237),
  (1237, sSld L xs 1238),
  (1238, sCallV 2 5 (fun as μ K => Ct l mdX5_leftAt as μ K nX) 1241 0 3600),
  (1241, sSt 7 1243 isI),
  (1243, sLd 2 1244 isR),
  (1244, sCallV 0 5 (fun as μ K => Ct l mdX5_thrown as μ K nX) 1247 0 3600),
  (1247, sLd 6 1249 isI),
  (1249, sIc qEq 1254 1252),
  (1252, sPush (aI 0) 1253),
  (1253, sLret),
  (1254, sLd 6 1256 isI),
  (1256, sIf pNe 1271 1259),
  (1259, sLd 3 1260 isR),
  (1260, sPush (aI 0) 1261),
  (1261, sAldL 1262),
  (1262, sLd 7 1264 isI),
  (1264, sI2l 1265),
  (1265, sLcmp 1266),
  (1266, sIf pEq 1271 1269),
  (1269, sPush (aI 0) 1270),
  (1270, sLret),
  (1271, sGoto 1969)]
theorem snLw17 (l : Launch) (L : Nat) (xs : Nat → Int32) (hL3 : L ≤ 3072) : ∀ q ∈ tbLw17 l L xs, Snd (BL l L xs) q.1 q.2 :=
  tcG (sLw (fun p e s m below meth c b cA D A ad0 h hb => ok_aload_n h.1 1 rfl dLw17_1204)) <|
  tcG (sLw (fun p e s m below meth c b cA D A ad0 h hb => ok_aload_n h.1 0 rfl dLw17_1205)) <|
  tcG (sLw (fun p e s m below meth c b cA D A ad0 h hb => ok_iload h.1 dLw17_1206)) <|
  tcG (sLw (fun p e s m below meth c b cA D A ad0 h hb => ok_iconst h.1 ⟨by decide, by decide⟩ dLw17_1208)) <|
  tcG (sLw (fun p e s m below meth c b cA D A ad0 h hb => ok_iadd h.1 dLw17_1209)) <|
  tcG (sLw (fun p e s m below meth c b cA D A ad0 h hb => ok_sld h hb dLw17_1210)) <|
  tcG (sLw (fun p e s m below meth c b cA D A ad0 h hb => ok_i2c h.1 dLw17_1211)) <|
  tcG (sLw (fun p e s m below meth c b cA D A ad0 h hb => ok_aload_n h.1 0 rfl dLw17_1212)) <|
  tcG (sLw (fun p e s m below meth c b cA D A ad0 h hb => ok_iload h.1 dLw17_1213)) <|
  tcG (sLw (fun p e s m below meth c b cA D A ad0 h hb => ok_iconst h.1 ⟨by decide, by decide⟩ dLw17_1215)) <|
  tcG (sLw (fun p e s m below meth c b cA D A ad0 h hb => ok_iadd h.1 dLw17_1216)) <|
  tcG (sLw (fun p e s m below meth c b cA D A ad0 h hb => ok_sld h hb dLw17_1217)) <|
  tcG (sLw (fun p e s m below meth c b cA D A ad0 h hb => ok_aload_n h.1 3 rfl dLw17_1218)) <|
  tcG (sLw (fun p e s m below meth c b cA D A ad0 h hb => ok_callSH h.1 h.2.1 (show 3600 ≤ room_1.cells ∧ 2000 * 3600 ≤ room_1.slots from ⟨Nat.le_of_ble_eq_true rfl, Nat.le_of_ble_eq_true rfl⟩) mdL_leftAt hhL_leftAt siL_leftAt mkRL_181 stL_leftAt ⟨by decide, by decide⟩ dLw17_1219)) <|
  tcG (sLw (fun p e s m below meth c b cA D A ad0 h hb => ok_istore h.1 (by decide) dLw17_1222)) <|
  tcG (sLw (fun p e s m below meth c b cA D A ad0 h hb => ok_aload_n h.1 2 rfl dLw17_1224)) <|
  tcG (sLw (fun p e s m below meth c b cA D A ad0 h hb => ok_aload_n h.1 0 rfl dLw17_1225)) <|
  tcG (sLw (fun p e s m below meth c b cA D A ad0 h hb => ok_iload h.1 dLw17_1226)) <|
  tcG (sLw (fun p e s m below meth c b cA D A ad0 h hb => ok_iconst h.1 ⟨by decide, by decide⟩ dLw17_1228)) <|
  tcG (sLw (fun p e s m below meth c b cA D A ad0 h hb => ok_iadd h.1 dLw17_1229)) <|
  tcG (sLw (fun p e s m below meth c b cA D A ad0 h hb => ok_sld h hb dLw17_1230)) <|
  tcG (sLw (fun p e s m below meth c b cA D A ad0 h hb => ok_i2c h.1 dLw17_1231)) <|
  tcG (sLw (fun p e s m below meth c b cA D A ad0 h hb => ok_aload_n h.1 0 rfl dLw17_1232)) <|
  tcG (sLw (fun p e s m below meth c b cA D A ad0 h hb => ok_iload h.1 dLw17_1233)) <|
  tcG (sLw (fun p e s m below meth c b cA D A ad0 h hb => ok_iconst h.1 ⟨by decide, by decide⟩ dLw17_1235)) <|
  tcG (sLw (fun p e s m below meth c b cA D A ad0 h hb => ok_iadd h.1 dLw17_1236)) <|
  tcG (sLw (fun p e s m below meth c b cA D A ad0 h hb => ok_sld h hb dLw17_1237)) <|
  tcG (sLw (fun p e s m below meth c b cA D A ad0 h hb => ok_callV h.1 h.2.1 (show 3600 ≤ room_1.cells ∧ 2000 * 3600 ≤ room_1.slots from ⟨Nat.le_of_ble_eq_true rfl, Nat.le_of_ble_eq_true rfl⟩) mdX5_leftAt siX5_leftAt cxX5 mkRL_183 imX5_leftAt seX5_leftAt ⟨by decide, by decide⟩ aAx_no dLw17_1238)) <|
  tcG (sLw (fun p e s m below meth c b cA D A ad0 h hb => ok_istore h.1 (by decide) dLw17_1241)) <|
  tcG (sLw (fun p e s m below meth c b cA D A ad0 h hb => ok_aload_n h.1 2 rfl dLw17_1243)) <|
  tcG (sLw (fun p e s m below meth c b cA D A ad0 h hb => ok_callV h.1 h.2.1 (show 3600 ≤ room_1.cells ∧ 2000 * 3600 ≤ room_1.slots from ⟨Nat.le_of_ble_eq_true rfl, Nat.le_of_ble_eq_true rfl⟩) mdX5_thrown siX5_thrown cxX5 mkRL_121 imX5_thrown seX5_thrown ⟨by decide, by decide⟩ aAx_no dLw17_1244)) <|
  tcG (sLw (fun p e s m below meth c b cA D A ad0 h hb => ok_iload h.1 dLw17_1247)) <|
  tcG (sLw (fun p e s m below meth c b cA D A ad0 h hb => ok_icmp_eq h.1 1254 (by decide) dLw17_1249)) <|
  tcG (sLw (fun p e s m below meth c b cA D A ad0 h hb => ok_iconst h.1 ⟨by decide, by decide⟩ dLw17_1252)) <|
  tcG (sLw (fun p e s m below meth c b cA D A ad0 h hb => ok_lret h dLw17_1253)) <|
  tcG (sLw (fun p e s m below meth c b cA D A ad0 h hb => ok_iload h.1 dLw17_1254)) <|
  tcG (sLw (fun p e s m below meth c b cA D A ad0 h hb => ok_if_ne h.1 1271 (by decide) dLw17_1256)) <|
  tcG (sLw (fun p e s m below meth c b cA D A ad0 h hb => ok_aload_n h.1 3 rfl dLw17_1259)) <|
  tcG (sLw (fun p e s m below meth c b cA D A ad0 h hb => ok_iconst h.1 ⟨by decide, by decide⟩ dLw17_1260)) <|
  tcG (sLw (fun p e s m below meth c b cA D A ad0 h hb => ok_lald h.1 dLw17_1261)) <|
  tcG (sLw (fun p e s m below meth c b cA D A ad0 h hb => ok_iload h.1 dLw17_1262)) <|
  tcG (sLw (fun p e s m below meth c b cA D A ad0 h hb => ok_i2l h.1 dLw17_1264)) <|
  tcG (sLw (fun p e s m below meth c b cA D A ad0 h hb => ok_lcmp h.1 dLw17_1265)) <|
  tcG (sLw (fun p e s m below meth c b cA D A ad0 h hb => ok_if_eq h.1 1271 (by decide) dLw17_1266)) <|
  tcG (sLw (fun p e s m below meth c b cA D A ad0 h hb => ok_iconst h.1 ⟨by decide, by decide⟩ dLw17_1269)) <|
  tcG (sLw (fun p e s m below meth c b cA D A ad0 h hb => ok_lret h dLw17_1270)) <|
  tcG (sLw (fun p e s m below meth c b cA D A ad0 h hb => ok_goto h.1 1969 (by decide) dLw17_1271)) <|
  tnG
abbrev cuLw17 : List Nat := [1222, 1241, 1247, 1969]
theorem wLw17_1969 {l : Launch} {L : Nat} {xs : Nat → Int32} {J : aK} {W : Nat → aK} (hW : isW (tbLw17 l L xs) cuLw17 J W) (n : Nat) (ls st : List aV) (μ : aM) (g : Nat) : W (n + 1) 1969 ls st μ g = J 1969 ls st μ g := (hW n 1969 ls st μ g).trans rfl
theorem tLw17_1204 (l : Launch) (L : Nat) (xs : Nat → Int32) : tb (tbLw17 l L xs) 1204 = sLd 1 1205 isR := (rfl)
theorem wLw17_1204 {l : Launch} {L : Nat} {xs : Nat → Int32} {J : aK} {W : Nat → aK} (hW : isW (tbLw17 l L xs) cuLw17 J W) (n : Nat) (ls st : List aV) (μ : aM) (g : Nat) : W (n + 1) 1204 ls st μ g = (sLd 1 1205 isR) (W n) ls st μ g := (hW n 1204 ls st μ g).trans rfl
theorem wLw17_1205 {l : Launch} {L : Nat} {xs : Nat → Int32} {J : aK} {W : Nat → aK} (hW : isW (tbLw17 l L xs) cuLw17 J W) (n : Nat) (ls st : List aV) (μ : aM) (g : Nat) : W (n + 1) 1205 ls st μ g = (sLd 0 1206 isR) (W n) ls st μ g := (hW n 1205 ls st μ g).trans rfl
theorem wLw17_1206 {l : Launch} {L : Nat} {xs : Nat → Int32} {J : aK} {W : Nat → aK} (hW : isW (tbLw17 l L xs) cuLw17 J W) (n : Nat) (ls st : List aV) (μ : aM) (g : Nat) : W (n + 1) 1206 ls st μ g = (sLd 5 1208 isI) (W n) ls st μ g := (hW n 1206 ls st μ g).trans rfl
theorem wLw17_1208 {l : Launch} {L : Nat} {xs : Nat → Int32} {J : aK} {W : Nat → aK} (hW : isW (tbLw17 l L xs) cuLw17 J W) (n : Nat) (ls st : List aV) (μ : aM) (g : Nat) : W (n + 1) 1208 ls st μ g = (sPush (aI 1) 1209) (W n) ls st μ g := (hW n 1208 ls st μ g).trans rfl
theorem wLw17_1209 {l : Launch} {L : Nat} {xs : Nat → Int32} {J : aK} {W : Nat → aK} (hW : isW (tbLw17 l L xs) cuLw17 J W) (n : Nat) (ls st : List aV) (μ : aM) (g : Nat) : W (n + 1) 1209 ls st μ g = (sBin fAdd 1210) (W n) ls st μ g := (hW n 1209 ls st μ g).trans rfl
theorem wLw17_1210 {l : Launch} {L : Nat} {xs : Nat → Int32} {J : aK} {W : Nat → aK} (hW : isW (tbLw17 l L xs) cuLw17 J W) (n : Nat) (ls st : List aV) (μ : aM) (g : Nat) : W (n + 1) 1210 ls st μ g = (sSld L xs 1211) (W n) ls st μ g := (hW n 1210 ls st μ g).trans rfl
theorem wLw17_1211 {l : Launch} {L : Nat} {xs : Nat → Int32} {J : aK} {W : Nat → aK} (hW : isW (tbLw17 l L xs) cuLw17 J W) (n : Nat) (ls st : List aV) (μ : aM) (g : Nat) : W (n + 1) 1211 ls st μ g = (sUn fI2c 1212) (W n) ls st μ g := (hW n 1211 ls st μ g).trans rfl
theorem wLw17_1212 {l : Launch} {L : Nat} {xs : Nat → Int32} {J : aK} {W : Nat → aK} (hW : isW (tbLw17 l L xs) cuLw17 J W) (n : Nat) (ls st : List aV) (μ : aM) (g : Nat) : W (n + 1) 1212 ls st μ g = (sLd 0 1213 isR) (W n) ls st μ g := (hW n 1212 ls st μ g).trans rfl
theorem wLw17_1213 {l : Launch} {L : Nat} {xs : Nat → Int32} {J : aK} {W : Nat → aK} (hW : isW (tbLw17 l L xs) cuLw17 J W) (n : Nat) (ls st : List aV) (μ : aM) (g : Nat) : W (n + 1) 1213 ls st μ g = (sLd 5 1215 isI) (W n) ls st μ g := (hW n 1213 ls st μ g).trans rfl
theorem wLw17_1215 {l : Launch} {L : Nat} {xs : Nat → Int32} {J : aK} {W : Nat → aK} (hW : isW (tbLw17 l L xs) cuLw17 J W) (n : Nat) (ls st : List aV) (μ : aM) (g : Nat) : W (n + 1) 1215 ls st μ g = (sPush (aI 2) 1216) (W n) ls st μ g := (hW n 1215 ls st μ g).trans rfl
theorem wLw17_1216 {l : Launch} {L : Nat} {xs : Nat → Int32} {J : aK} {W : Nat → aK} (hW : isW (tbLw17 l L xs) cuLw17 J W) (n : Nat) (ls st : List aV) (μ : aM) (g : Nat) : W (n + 1) 1216 ls st μ g = (sBin fAdd 1217) (W n) ls st μ g := (hW n 1216 ls st μ g).trans rfl
theorem wLw17_1217 {l : Launch} {L : Nat} {xs : Nat → Int32} {J : aK} {W : Nat → aK} (hW : isW (tbLw17 l L xs) cuLw17 J W) (n : Nat) (ls st : List aV) (μ : aM) (g : Nat) : W (n + 1) 1217 ls st μ g = (sSld L xs 1218) (W n) ls st μ g := (hW n 1217 ls st μ g).trans rfl
theorem wLw17_1218 {l : Launch} {L : Nat} {xs : Nat → Int32} {J : aK} {W : Nat → aK} (hW : isW (tbLw17 l L xs) cuLw17 J W) (n : Nat) (ls st : List aV) (μ : aM) (g : Nat) : W (n + 1) 1218 ls st μ g = (sLd 3 1219 isR) (W n) ls st μ g := (hW n 1218 ls st μ g).trans rfl
theorem wLw17_1219 {l : Launch} {L : Nat} {xs : Nat → Int32} {J : aK} {W : Nat → aK} (hW : isW (tbLw17 l L xs) cuLw17 J W) (n : Nat) (ls st : List aV) (μ : aM) (g : Nat) : W (n + 1) 1219 ls st μ g = (sCallS 4 (fun as μ K => CtH l mdL_leftAt hhL_leftAt as μ K) 1222 2 3600) (W n) ls st μ g := (hW n 1219 ls st μ g).trans rfl
theorem tLw17_1222 (l : Launch) (L : Nat) (xs : Nat → Int32) : tb (tbLw17 l L xs) 1222 = sSt 6 1224 isI := (rfl)
theorem wLw17_1222 {l : Launch} {L : Nat} {xs : Nat → Int32} {J : aK} {W : Nat → aK} (hW : isW (tbLw17 l L xs) cuLw17 J W) (n : Nat) (ls st : List aV) (μ : aM) (g : Nat) : W (n + 1) 1222 ls st μ g = J 1222 ls st μ g := (hW n 1222 ls st μ g).trans rfl
theorem wLw17_1224 {l : Launch} {L : Nat} {xs : Nat → Int32} {J : aK} {W : Nat → aK} (hW : isW (tbLw17 l L xs) cuLw17 J W) (n : Nat) (ls st : List aV) (μ : aM) (g : Nat) : W (n + 1) 1224 ls st μ g = (sLd 2 1225 isR) (W n) ls st μ g := (hW n 1224 ls st μ g).trans rfl
theorem wLw17_1225 {l : Launch} {L : Nat} {xs : Nat → Int32} {J : aK} {W : Nat → aK} (hW : isW (tbLw17 l L xs) cuLw17 J W) (n : Nat) (ls st : List aV) (μ : aM) (g : Nat) : W (n + 1) 1225 ls st μ g = (sLd 0 1226 isR) (W n) ls st μ g := (hW n 1225 ls st μ g).trans rfl
theorem wLw17_1226 {l : Launch} {L : Nat} {xs : Nat → Int32} {J : aK} {W : Nat → aK} (hW : isW (tbLw17 l L xs) cuLw17 J W) (n : Nat) (ls st : List aV) (μ : aM) (g : Nat) : W (n + 1) 1226 ls st μ g = (sLd 5 1228 isI) (W n) ls st μ g := (hW n 1226 ls st μ g).trans rfl
theorem wLw17_1228 {l : Launch} {L : Nat} {xs : Nat → Int32} {J : aK} {W : Nat → aK} (hW : isW (tbLw17 l L xs) cuLw17 J W) (n : Nat) (ls st : List aV) (μ : aM) (g : Nat) : W (n + 1) 1228 ls st μ g = (sPush (aI 1) 1229) (W n) ls st μ g := (hW n 1228 ls st μ g).trans rfl
theorem wLw17_1229 {l : Launch} {L : Nat} {xs : Nat → Int32} {J : aK} {W : Nat → aK} (hW : isW (tbLw17 l L xs) cuLw17 J W) (n : Nat) (ls st : List aV) (μ : aM) (g : Nat) : W (n + 1) 1229 ls st μ g = (sBin fAdd 1230) (W n) ls st μ g := (hW n 1229 ls st μ g).trans rfl
theorem wLw17_1230 {l : Launch} {L : Nat} {xs : Nat → Int32} {J : aK} {W : Nat → aK} (hW : isW (tbLw17 l L xs) cuLw17 J W) (n : Nat) (ls st : List aV) (μ : aM) (g : Nat) : W (n + 1) 1230 ls st μ g = (sSld L xs 1231) (W n) ls st μ g := (hW n 1230 ls st μ g).trans rfl
theorem wLw17_1231 {l : Launch} {L : Nat} {xs : Nat → Int32} {J : aK} {W : Nat → aK} (hW : isW (tbLw17 l L xs) cuLw17 J W) (n : Nat) (ls st : List aV) (μ : aM) (g : Nat) : W (n + 1) 1231 ls st μ g = (sUn fI2c 1232) (W n) ls st μ g := (hW n 1231 ls st μ g).trans rfl
theorem wLw17_1232 {l : Launch} {L : Nat} {xs : Nat → Int32} {J : aK} {W : Nat → aK} (hW : isW (tbLw17 l L xs) cuLw17 J W) (n : Nat) (ls st : List aV) (μ : aM) (g : Nat) : W (n + 1) 1232 ls st μ g = (sLd 0 1233 isR) (W n) ls st μ g := (hW n 1232 ls st μ g).trans rfl
theorem wLw17_1233 {l : Launch} {L : Nat} {xs : Nat → Int32} {J : aK} {W : Nat → aK} (hW : isW (tbLw17 l L xs) cuLw17 J W) (n : Nat) (ls st : List aV) (μ : aM) (g : Nat) : W (n + 1) 1233 ls st μ g = (sLd 5 1235 isI) (W n) ls st μ g := (hW n 1233 ls st μ g).trans rfl
theorem wLw17_1235 {l : Launch} {L : Nat} {xs : Nat → Int32} {J : aK} {W : Nat → aK} (hW : isW (tbLw17 l L xs) cuLw17 J W) (n : Nat) (ls st : List aV) (μ : aM) (g : Nat) : W (n + 1) 1235 ls st μ g = (sPush (aI 2) 1236) (W n) ls st μ g := (hW n 1235 ls st μ g).trans rfl
theorem wLw17_1236 {l : Launch} {L : Nat} {xs : Nat → Int32} {J : aK} {W : Nat → aK} (hW : isW (tbLw17 l L xs) cuLw17 J W) (n : Nat) (ls st : List aV) (μ : aM) (g : Nat) : W (n + 1) 1236 ls st μ g = (sBin fAdd 1237) (W n) ls st μ g := (hW n 1236 ls st μ g).trans rfl
theorem wLw17_1237 {l : Launch} {L : Nat} {xs : Nat → Int32} {J : aK} {W : Nat → aK} (hW : isW (tbLw17 l L xs) cuLw17 J W) (n : Nat) (ls st : List aV) (μ : aM) (g : Nat) : W (n + 1) 1237 ls st μ g = (sSld L xs 1238) (W n) ls st μ g := (hW n 1237 ls st μ g).trans rfl
theorem wLw17_1238 {l : Launch} {L : Nat} {xs : Nat → Int32} {J : aK} {W : Nat → aK} (hW : isW (tbLw17 l L xs) cuLw17 J W) (n : Nat) (ls st : List aV) (μ : aM) (g : Nat) : W (n + 1) 1238 ls st μ g = (sCallV 2 5 (fun as μ K => Ct l mdX5_leftAt as μ K nX) 1241 0 3600) (W n) ls st μ g := (hW n 1238 ls st μ g).trans rfl
theorem tLw17_1241 (l : Launch) (L : Nat) (xs : Nat → Int32) : tb (tbLw17 l L xs) 1241 = sSt 7 1243 isI := (rfl)
theorem wLw17_1241 {l : Launch} {L : Nat} {xs : Nat → Int32} {J : aK} {W : Nat → aK} (hW : isW (tbLw17 l L xs) cuLw17 J W) (n : Nat) (ls st : List aV) (μ : aM) (g : Nat) : W (n + 1) 1241 ls st μ g = J 1241 ls st μ g := (hW n 1241 ls st μ g).trans rfl
theorem wLw17_1243 {l : Launch} {L : Nat} {xs : Nat → Int32} {J : aK} {W : Nat → aK} (hW : isW (tbLw17 l L xs) cuLw17 J W) (n : Nat) (ls st : List aV) (μ : aM) (g : Nat) : W (n + 1) 1243 ls st μ g = (sLd 2 1244 isR) (W n) ls st μ g := (hW n 1243 ls st μ g).trans rfl
theorem wLw17_1244 {l : Launch} {L : Nat} {xs : Nat → Int32} {J : aK} {W : Nat → aK} (hW : isW (tbLw17 l L xs) cuLw17 J W) (n : Nat) (ls st : List aV) (μ : aM) (g : Nat) : W (n + 1) 1244 ls st μ g = (sCallV 0 5 (fun as μ K => Ct l mdX5_thrown as μ K nX) 1247 0 3600) (W n) ls st μ g := (hW n 1244 ls st μ g).trans rfl
theorem tLw17_1247 (l : Launch) (L : Nat) (xs : Nat → Int32) : tb (tbLw17 l L xs) 1247 = sLd 6 1249 isI := (rfl)
theorem wLw17_1247 {l : Launch} {L : Nat} {xs : Nat → Int32} {J : aK} {W : Nat → aK} (hW : isW (tbLw17 l L xs) cuLw17 J W) (n : Nat) (ls st : List aV) (μ : aM) (g : Nat) : W (n + 1) 1247 ls st μ g = J 1247 ls st μ g := (hW n 1247 ls st μ g).trans rfl
theorem wLw17_1249 {l : Launch} {L : Nat} {xs : Nat → Int32} {J : aK} {W : Nat → aK} (hW : isW (tbLw17 l L xs) cuLw17 J W) (n : Nat) (ls st : List aV) (μ : aM) (g : Nat) : W (n + 1) 1249 ls st μ g = (sIc qEq 1254 1252) (W n) ls st μ g := (hW n 1249 ls st μ g).trans rfl
theorem wLw17_1252 {l : Launch} {L : Nat} {xs : Nat → Int32} {J : aK} {W : Nat → aK} (hW : isW (tbLw17 l L xs) cuLw17 J W) (n : Nat) (ls st : List aV) (μ : aM) (g : Nat) : W (n + 1) 1252 ls st μ g = (sPush (aI 0) 1253) (W n) ls st μ g := (hW n 1252 ls st μ g).trans rfl
theorem wLw17_1253 {l : Launch} {L : Nat} {xs : Nat → Int32} {J : aK} {W : Nat → aK} (hW : isW (tbLw17 l L xs) cuLw17 J W) (n : Nat) (ls st : List aV) (μ : aM) (g : Nat) : W (n + 1) 1253 ls st μ g = (sLret) (W n) ls st μ g := (hW n 1253 ls st μ g).trans rfl
theorem wLw17_1254 {l : Launch} {L : Nat} {xs : Nat → Int32} {J : aK} {W : Nat → aK} (hW : isW (tbLw17 l L xs) cuLw17 J W) (n : Nat) (ls st : List aV) (μ : aM) (g : Nat) : W (n + 1) 1254 ls st μ g = (sLd 6 1256 isI) (W n) ls st μ g := (hW n 1254 ls st μ g).trans rfl
theorem wLw17_1256 {l : Launch} {L : Nat} {xs : Nat → Int32} {J : aK} {W : Nat → aK} (hW : isW (tbLw17 l L xs) cuLw17 J W) (n : Nat) (ls st : List aV) (μ : aM) (g : Nat) : W (n + 1) 1256 ls st μ g = (sIf pNe 1271 1259) (W n) ls st μ g := (hW n 1256 ls st μ g).trans rfl
theorem wLw17_1259 {l : Launch} {L : Nat} {xs : Nat → Int32} {J : aK} {W : Nat → aK} (hW : isW (tbLw17 l L xs) cuLw17 J W) (n : Nat) (ls st : List aV) (μ : aM) (g : Nat) : W (n + 1) 1259 ls st μ g = (sLd 3 1260 isR) (W n) ls st μ g := (hW n 1259 ls st μ g).trans rfl
theorem wLw17_1260 {l : Launch} {L : Nat} {xs : Nat → Int32} {J : aK} {W : Nat → aK} (hW : isW (tbLw17 l L xs) cuLw17 J W) (n : Nat) (ls st : List aV) (μ : aM) (g : Nat) : W (n + 1) 1260 ls st μ g = (sPush (aI 0) 1261) (W n) ls st μ g := (hW n 1260 ls st μ g).trans rfl
theorem wLw17_1261 {l : Launch} {L : Nat} {xs : Nat → Int32} {J : aK} {W : Nat → aK} (hW : isW (tbLw17 l L xs) cuLw17 J W) (n : Nat) (ls st : List aV) (μ : aM) (g : Nat) : W (n + 1) 1261 ls st μ g = (sAldL 1262) (W n) ls st μ g := (hW n 1261 ls st μ g).trans rfl
theorem wLw17_1262 {l : Launch} {L : Nat} {xs : Nat → Int32} {J : aK} {W : Nat → aK} (hW : isW (tbLw17 l L xs) cuLw17 J W) (n : Nat) (ls st : List aV) (μ : aM) (g : Nat) : W (n + 1) 1262 ls st μ g = (sLd 7 1264 isI) (W n) ls st μ g := (hW n 1262 ls st μ g).trans rfl
theorem wLw17_1264 {l : Launch} {L : Nat} {xs : Nat → Int32} {J : aK} {W : Nat → aK} (hW : isW (tbLw17 l L xs) cuLw17 J W) (n : Nat) (ls st : List aV) (μ : aM) (g : Nat) : W (n + 1) 1264 ls st μ g = (sI2l 1265) (W n) ls st μ g := (hW n 1264 ls st μ g).trans rfl
theorem wLw17_1265 {l : Launch} {L : Nat} {xs : Nat → Int32} {J : aK} {W : Nat → aK} (hW : isW (tbLw17 l L xs) cuLw17 J W) (n : Nat) (ls st : List aV) (μ : aM) (g : Nat) : W (n + 1) 1265 ls st μ g = (sLcmp 1266) (W n) ls st μ g := (hW n 1265 ls st μ g).trans rfl
theorem wLw17_1266 {l : Launch} {L : Nat} {xs : Nat → Int32} {J : aK} {W : Nat → aK} (hW : isW (tbLw17 l L xs) cuLw17 J W) (n : Nat) (ls st : List aV) (μ : aM) (g : Nat) : W (n + 1) 1266 ls st μ g = (sIf pEq 1271 1269) (W n) ls st μ g := (hW n 1266 ls st μ g).trans rfl
theorem wLw17_1269 {l : Launch} {L : Nat} {xs : Nat → Int32} {J : aK} {W : Nat → aK} (hW : isW (tbLw17 l L xs) cuLw17 J W) (n : Nat) (ls st : List aV) (μ : aM) (g : Nat) : W (n + 1) 1269 ls st μ g = (sPush (aI 0) 1270) (W n) ls st μ g := (hW n 1269 ls st μ g).trans rfl
theorem wLw17_1270 {l : Launch} {L : Nat} {xs : Nat → Int32} {J : aK} {W : Nat → aK} (hW : isW (tbLw17 l L xs) cuLw17 J W) (n : Nat) (ls st : List aV) (μ : aM) (g : Nat) : W (n + 1) 1270 ls st μ g = (sLret) (W n) ls st μ g := (hW n 1270 ls st μ g).trans rfl
theorem wLw17_1271 {l : Launch} {L : Nat} {xs : Nat → Int32} {J : aK} {W : Nat → aK} (hW : isW (tbLw17 l L xs) cuLw17 J W) (n : Nat) (ls st : List aV) (μ : aM) (g : Nat) : W (n + 1) 1271 ls st μ g = (sGoto 1969) (W n) ls st μ g := (hW n 1271 ls st μ g).trans rfl
theorem dLw18_1274 : decode code 1274 = .ok (.aload_n 1, 1) := by decide +kernel
theorem dLw18_1275 : decode code 1275 = .ok (.aload_n 0, 1) := by decide +kernel
theorem dLw18_1276 : decode code 1276 = .ok (.iload 5, 2) := by decide +kernel
theorem dLw18_1278 : decode code 1278 = .ok (.iconst 1, 1) := by decide +kernel
theorem dLw18_1279 : decode code 1279 = .ok (.iadd, 1) := by decide +kernel
theorem dLw18_1280 : decode code 1280 = .ok (.iaload, 1) := by decide +kernel
theorem dLw18_1281 : decode code 1281 = .ok (.i2c, 1) := by decide +kernel
theorem dLw18_1282 : decode code 1282 = .ok (.aload_n 0, 1) := by decide +kernel
theorem dLw18_1283 : decode code 1283 = .ok (.iload 5, 2) := by decide +kernel
theorem dLw18_1285 : decode code 1285 = .ok (.iconst 2, 1) := by decide +kernel
theorem dLw18_1286 : decode code 1286 = .ok (.iadd, 1) := by decide +kernel
theorem dLw18_1287 : decode code 1287 = .ok (.iaload, 1) := by decide +kernel
theorem dLw18_1288 : decode code 1288 = .ok (.aload_n 3, 1) := by decide +kernel
theorem dLw18_1289 : decode code 1289 = .ok (.invokestatic 184, 3) := by decide +kernel
theorem dLw18_1292 : decode code 1292 = .ok (.istore 6, 2) := by decide +kernel
theorem dLw18_1294 : decode code 1294 = .ok (.aload_n 2, 1) := by decide +kernel
theorem dLw18_1295 : decode code 1295 = .ok (.aload_n 0, 1) := by decide +kernel
theorem dLw18_1296 : decode code 1296 = .ok (.iload 5, 2) := by decide +kernel
theorem dLw18_1298 : decode code 1298 = .ok (.iconst 1, 1) := by decide +kernel
theorem dLw18_1299 : decode code 1299 = .ok (.iadd, 1) := by decide +kernel
theorem dLw18_1300 : decode code 1300 = .ok (.iaload, 1) := by decide +kernel
theorem dLw18_1301 : decode code 1301 = .ok (.i2c, 1) := by decide +kernel
theorem dLw18_1302 : decode code 1302 = .ok (.aload_n 0, 1) := by decide +kernel
theorem dLw18_1303 : decode code 1303 = .ok (.iload 5, 2) := by decide +kernel
theorem dLw18_1305 : decode code 1305 = .ok (.iconst 2, 1) := by decide +kernel
theorem dLw18_1306 : decode code 1306 = .ok (.iadd, 1) := by decide +kernel
theorem dLw18_1307 : decode code 1307 = .ok (.iaload, 1) := by decide +kernel
theorem dLw18_1308 : decode code 1308 = .ok (.invokevirtual 186, 3) := by decide +kernel
theorem dLw18_1311 : decode code 1311 = .ok (.istore 7, 2) := by decide +kernel
theorem dLw18_1313 : decode code 1313 = .ok (.aload_n 2, 1) := by decide +kernel
theorem dLw18_1314 : decode code 1314 = .ok (.invokevirtual 121, 3) := by decide +kernel
theorem dLw18_1317 : decode code 1317 = .ok (.iload 6, 2) := by decide +kernel
theorem dLw18_1319 : decode code 1319 = .ok (.if_icmp .eq 5, 3) := by decide +kernel
theorem dLw18_1322 : decode code 1322 = .ok (.iconst 0, 1) := by decide +kernel
theorem dLw18_1323 : decode code 1323 = .ok (.ireturn, 1) := by decide +kernel
theorem dLw18_1324 : decode code 1324 = .ok (.iload 6, 2) := by decide +kernel
theorem dLw18_1326 : decode code 1326 = .ok (.ifCond .ne 15, 3) := by decide +kernel
theorem dLw18_1329 : decode code 1329 = .ok (.aload_n 3, 1) := by decide +kernel
theorem dLw18_1330 : decode code 1330 = .ok (.iconst 0, 1) := by decide +kernel
theorem dLw18_1331 : decode code 1331 = .ok (.laload, 1) := by decide +kernel
theorem dLw18_1332 : decode code 1332 = .ok (.iload 7, 2) := by decide +kernel
theorem dLw18_1334 : decode code 1334 = .ok (.i2l, 1) := by decide +kernel
theorem dLw18_1335 : decode code 1335 = .ok (.lcmp, 1) := by decide +kernel
theorem dLw18_1336 : decode code 1336 = .ok (.ifCond .eq 5, 3) := by decide +kernel
theorem dLw18_1339 : decode code 1339 = .ok (.iconst 0, 1) := by decide +kernel
theorem dLw18_1340 : decode code 1340 = .ok (.ireturn, 1) := by decide +kernel
theorem dLw18_1341 : decode code 1341 = .ok (.goto 628, 3) := by decide +kernel
def tbLw18 (l : Launch) (L : Nat) (xs : Nat → Int32) : aTb := [
  (1274, sLd 1 1275 isR),
  (1275, sLd 0 1276 isR),
  (1276, sLd 5 1278 isI),
  (1278, sPush (aI 1) 1279),
  (1279, sBin fAdd 1280),
  (1280, sSld L xs 1281),
  (1281, sUn fI2c 1282),
  (1282, sLd 0 1283 isR),
  (1283, sLd 5 1285 isI),
  (1285, sPush (aI 2) 1286),
  (1286, sBin fAdd 1287),
  (1287, sSld L xs 1288),
  (1288, sLd 3 1289 isR),
  (1289, sCallS 4 (fun as μ K => CtH l mdL_ordersAt hhL_ordersAt as μ K) 1292 2 3600),
  (1292, sSt 6 1294 isI),
  (1294, sLd 2 1295 isR),
  (1295, sLd 0 1296 isR),
  (1296, sLd 5 1298 isI),
  (1298, sPush (aI 1) 1299),
  (1299, sBin fAdd 1300),
  (1300, sSld L xs 1301),
  (1301, sUn fI2c 1302),
  (1302, sLd 0 1303 isR),
  (1303, sLd 5 1305 isI),
  (1305, sPush (aI 2) 1306),
  (1306, sBin fAdd 1307),
  (1307, sSld L xs 1308),
  (1308, sCallV 2 5 (fun as μ K => Ct l mdX5_ordersAt as μ K nX) 1311 0 3600),
  (1311, sSt 7 1313 isI),
  (1313, sLd 2 1314 isR),
  (1314, sCallV 0 5 (fun as μ K => Ct l mdX5_thrown as μ K nX) 1317 0 3600),
  (1317, sLd 6 1319 isI),
  (1319, sIc qEq 1324 1322),
  (1322, sPush (aI 0) 1323),
  (1323, sLret),
  (1324, sLd 6 1326 isI),
  (1326, sIf pNe 1341 1329),
  (1329, sLd 3 1330 isR),
  (1330, sPush (aI 0) 1331),
  (1331, sAldL 1332),
  (1332, sLd 7 1334 isI),
  (1334, sI2l 1335),
  (1335, sLcmp 1336),
  (1336, sIf pEq 1341 1339),
  (1339, sPush (aI 0) 1340),
  (1340, sLret),
  (1341, sGoto 1969)]
theorem snLw18 (l : Launch) (L : Nat) (xs : Nat → Int32) (hL3 : L ≤ 3072) : ∀ q ∈ tbLw18 l L xs, Snd (BL l L xs) q.1 q.2 :=
  tcG (sLw (fun p e s m below meth c b cA D A ad0 h hb => ok_aload_n h.1 1 rfl dLw18_1274)) <|
  tcG (sLw (fun p e s m below meth c b cA D A ad0 h hb => ok_aload_n h.1 0 rfl dLw18_1275)) <|
  tcG (sLw (fun p e s m below meth c b cA D A ad0 h hb => ok_iload h.1 dLw18_1276)) <|
  tcG (sLw (fun p e s m below meth c b cA D A ad0 h hb => ok_iconst h.1 ⟨by decide, by decide⟩ dLw18_1278)) <|
  tcG (sLw (fun p e s m below meth c b cA D A ad0 h hb => ok_iadd h.1 dLw18_1279)) <|
  tcG (sLw (fun p e s m below meth c b cA D A ad0 h hb => ok_sld h hb dLw18_1280)) <|
  tcG (sLw (fun p e s m below meth c b cA D A ad0 h hb => ok_i2c h.1 dLw18_1281)) <|
  tcG (sLw (fun p e s m below meth c b cA D A ad0 h hb => ok_aload_n h.1 0 rfl dLw18_1282)) <|
  tcG (sLw (fun p e s m below meth c b cA D A ad0 h hb => ok_iload h.1 dLw18_1283)) <|
  tcG (sLw (fun p e s m below meth c b cA D A ad0 h hb => ok_iconst h.1 ⟨by decide, by decide⟩ dLw18_1285)) <|
  tcG (sLw (fun p e s m below meth c b cA D A ad0 h hb => ok_iadd h.1 dLw18_1286)) <|
  tcG (sLw (fun p e s m below meth c b cA D A ad0 h hb => ok_sld h hb dLw18_1287)) <|
  tcG (sLw (fun p e s m below meth c b cA D A ad0 h hb => ok_aload_n h.1 3 rfl dLw18_1288)) <|
  tcG (sLw (fun p e s m below meth c b cA D A ad0 h hb => ok_callSH h.1 h.2.1 (show 3600 ≤ room_1.cells ∧ 2000 * 3600 ≤ room_1.slots from ⟨Nat.le_of_ble_eq_true rfl, Nat.le_of_ble_eq_true rfl⟩) mdL_ordersAt hhL_ordersAt siL_ordersAt mkRL_184 stL_ordersAt ⟨by decide, by decide⟩ dLw18_1289)) <|
  tcG (sLw (fun p e s m below meth c b cA D A ad0 h hb => ok_istore h.1 (by decide) dLw18_1292)) <|
  tcG (sLw (fun p e s m below meth c b cA D A ad0 h hb => ok_aload_n h.1 2 rfl dLw18_1294)) <|
  tcG (sLw (fun p e s m below meth c b cA D A ad0 h hb => ok_aload_n h.1 0 rfl dLw18_1295)) <|
  tcG (sLw (fun p e s m below meth c b cA D A ad0 h hb => ok_iload h.1 dLw18_1296)) <|
  tcG (sLw (fun p e s m below meth c b cA D A ad0 h hb => ok_iconst h.1 ⟨by decide, by decide⟩ dLw18_1298)) <|
  tcG (sLw (fun p e s m below meth c b cA D A ad0 h hb => ok_iadd h.1 dLw18_1299)) <|
  tcG (sLw (fun p e s m below meth c b cA D A ad0 h hb => ok_sld h hb dLw18_1300)) <|
  tcG (sLw (fun p e s m below meth c b cA D A ad0 h hb => ok_i2c h.1 dLw18_1301)) <|
  tcG (sLw (fun p e s m below meth c b cA D A ad0 h hb => ok_aload_n h.1 0 rfl dLw18_1302)) <|
  tcG (sLw (fun p e s m below meth c b cA D A ad0 h hb => ok_iload h.1 dLw18_1303)) <|
  tcG (sLw (fun p e s m below meth c b cA D A ad0 h hb => ok_iconst h.1 ⟨by decide, by decide⟩ dLw18_1305)) <|
  tcG (sLw (fun p e s m below meth c b cA D A ad0 h hb => ok_iadd h.1 dLw18_1306)) <|
  tcG (sLw (fun p e s m below meth c b cA D A ad0 h hb => ok_sld h hb dLw18_1307)) <|
  tcG (sLw (fun p e s m below meth c b cA D A ad0 h hb => ok_callV h.1 h.2.1 (show 3600 ≤ room_1.cells ∧ 2000 * 3600 ≤ room_1.slots from ⟨Nat.le_of_ble_eq_true rfl, Nat.le_of_ble_eq_true rfl⟩) mdX5_ordersAt siX5_ordersAt cxX5 mkRL_186 imX5_ordersAt seX5_ordersAt ⟨by decide, by decide⟩ aAx_no dLw18_1308)) <|
  tcG (sLw (fun p e s m below meth c b cA D A ad0 h hb => ok_istore h.1 (by decide) dLw18_1311)) <|
  tcG (sLw (fun p e s m below meth c b cA D A ad0 h hb => ok_aload_n h.1 2 rfl dLw18_1313)) <|
  tcG (sLw (fun p e s m below meth c b cA D A ad0 h hb => ok_callV h.1 h.2.1 (show 3600 ≤ room_1.cells ∧ 2000 * 3600 ≤ room_1.slots from ⟨Nat.le_of_ble_eq_true rfl, Nat.le_of_ble_eq_true rfl⟩) mdX5_thrown siX5_thrown cxX5 mkRL_121 imX5_thrown seX5_thrown ⟨by decide, by decide⟩ aAx_no dLw18_1314)) <|
  tcG (sLw (fun p e s m below meth c b cA D A ad0 h hb => ok_iload h.1 dLw18_1317)) <|
  tcG (sLw (fun p e s m below meth c b cA D A ad0 h hb => ok_icmp_eq h.1 1324 (by decide) dLw18_1319)) <|
  tcG (sLw (fun p e s m below meth c b cA D A ad0 h hb => ok_iconst h.1 ⟨by decide, by decide⟩ dLw18_1322)) <|
  tcG (sLw (fun p e s m below meth c b cA D A ad0 h hb => ok_lret h dLw18_1323)) <|
  tcG (sLw (fun p e s m below meth c b cA D A ad0 h hb => ok_iload h.1 dLw18_1324)) <|
  tcG (sLw (fun p e s m below meth c b cA D A ad0 h hb => ok_if_ne h.1 1341 (by decide) dLw18_1326)) <|
  tcG (sLw (fun p e s m below meth c b cA D A ad0 h hb => ok_aload_n h.1 3 rfl dLw18_1329)) <|
  tcG (sLw (fun p e s m below meth c b cA D A ad0 h hb => ok_iconst h.1 ⟨by decide, by decide⟩ dLw18_1330)) <|
  tcG (sLw (fun p e s m below meth c b cA D A ad0 h hb => ok_lald h.1 dLw18_1331)) <|
  tcG (sLw (fun p e s m below meth c b cA D A ad0 h hb => ok_iload h.1 dLw18_1332)) <|
  tcG (sLw (fun p e s m below meth c b cA D A ad0 h hb => ok_i2l h.1 dLw18_1334)) <|
  tcG (sLw (fun p e s m below meth c b cA D A ad0 h hb => ok_lcmp h.1 dLw18_1335)) <|
  tcG (sLw (fun p e s m below meth c b cA D A ad0 h hb => ok_if_eq h.1 1341 (by decide) dLw18_1336)) <|
  tcG (sLw (fun p e s m below meth c b cA D A ad0 h hb => ok_iconst h.1 ⟨by decide, by decide⟩ dLw18_1339)) <|
  tcG (sLw (fun p e s m below meth c b cA D A ad0 h hb => ok_lret h dLw18_1340)) <|
  tcG (sLw (fun p e s m below meth c b cA D A ad0 h hb => ok_goto h.1 1969 (by decide) dLw18_1341)) <|
  tnG
abbrev cuLw18 : List Nat := [1292, 1311, 1317, 1969]
theorem wLw18_1969 {l : Launch} {L : Nat} {xs : Nat → Int32} {J : aK} {W : Nat → aK} (hW : isW (tbLw18 l L xs) cuLw18 J W) (n : Nat) (ls st : List aV) (μ : aM) (g : Nat) : W (n + 1) 1969 ls st μ g = J 1969 ls st μ g := (hW n 1969 ls st μ g).trans rfl
theorem tLw18_1274 (l : Launch) (L : Nat) (xs : Nat → Int32) : tb (tbLw18 l L xs) 1274 = sLd 1 1275 isR := (rfl)
theorem wLw18_1274 {l : Launch} {L : Nat} {xs : Nat → Int32} {J : aK} {W : Nat → aK} (hW : isW (tbLw18 l L xs) cuLw18 J W) (n : Nat) (ls st : List aV) (μ : aM) (g : Nat) : W (n + 1) 1274 ls st μ g = (sLd 1 1275 isR) (W n) ls st μ g := (hW n 1274 ls st μ g).trans rfl
theorem wLw18_1275 {l : Launch} {L : Nat} {xs : Nat → Int32} {J : aK} {W : Nat → aK} (hW : isW (tbLw18 l L xs) cuLw18 J W) (n : Nat) (ls st : List aV) (μ : aM) (g : Nat) : W (n + 1) 1275 ls st μ g = (sLd 0 1276 isR) (W n) ls st μ g := (hW n 1275 ls st μ g).trans rfl
theorem wLw18_1276 {l : Launch} {L : Nat} {xs : Nat → Int32} {J : aK} {W : Nat → aK} (hW : isW (tbLw18 l L xs) cuLw18 J W) (n : Nat) (ls st : List aV) (μ : aM) (g : Nat) : W (n + 1) 1276 ls st μ g = (sLd 5 1278 isI) (W n) ls st μ g := (hW n 1276 ls st μ g).trans rfl
theorem wLw18_1278 {l : Launch} {L : Nat} {xs : Nat → Int32} {J : aK} {W : Nat → aK} (hW : isW (tbLw18 l L xs) cuLw18 J W) (n : Nat) (ls st : List aV) (μ : aM) (g : Nat) : W (n + 1) 1278 ls st μ g = (sPush (aI 1) 1279) (W n) ls st μ g := (hW n 1278 ls st μ g).trans rfl
theorem wLw18_1279 {l : Launch} {L : Nat} {xs : Nat → Int32} {J : aK} {W : Nat → aK} (hW : isW (tbLw18 l L xs) cuLw18 J W) (n : Nat) (ls st : List aV) (μ : aM) (g : Nat) : W (n + 1) 1279 ls st μ g = (sBin fAdd 1280) (W n) ls st μ g := (hW n 1279 ls st μ g).trans rfl
theorem wLw18_1280 {l : Launch} {L : Nat} {xs : Nat → Int32} {J : aK} {W : Nat → aK} (hW : isW (tbLw18 l L xs) cuLw18 J W) (n : Nat) (ls st : List aV) (μ : aM) (g : Nat) : W (n + 1) 1280 ls st μ g = (sSld L xs 1281) (W n) ls st μ g := (hW n 1280 ls st μ g).trans rfl
theorem wLw18_1281 {l : Launch} {L : Nat} {xs : Nat → Int32} {J : aK} {W : Nat → aK} (hW : isW (tbLw18 l L xs) cuLw18 J W) (n : Nat) (ls st : List aV) (μ : aM) (g : Nat) : W (n + 1) 1281 ls st μ g = (sUn fI2c 1282) (W n) ls st μ g := (hW n 1281 ls st μ g).trans rfl
theorem wLw18_1282 {l : Launch} {L : Nat} {xs : Nat → Int32} {J : aK} {W : Nat → aK} (hW : isW (tbLw18 l L xs) cuLw18 J W) (n : Nat) (ls st : List aV) (μ : aM) (g : Nat) : W (n + 1) 1282 ls st μ g = (sLd 0 1283 isR) (W n) ls st μ g := (hW n 1282 ls st μ g).trans rfl
theorem wLw18_1283 {l : Launch} {L : Nat} {xs : Nat → Int32} {J : aK} {W : Nat → aK} (hW : isW (tbLw18 l L xs) cuLw18 J W) (n : Nat) (ls st : List aV) (μ : aM) (g : Nat) : W (n + 1) 1283 ls st μ g = (sLd 5 1285 isI) (W n) ls st μ g := (hW n 1283 ls st μ g).trans rfl
theorem wLw18_1285 {l : Launch} {L : Nat} {xs : Nat → Int32} {J : aK} {W : Nat → aK} (hW : isW (tbLw18 l L xs) cuLw18 J W) (n : Nat) (ls st : List aV) (μ : aM) (g : Nat) : W (n + 1) 1285 ls st μ g = (sPush (aI 2) 1286) (W n) ls st μ g := (hW n 1285 ls st μ g).trans rfl
theorem wLw18_1286 {l : Launch} {L : Nat} {xs : Nat → Int32} {J : aK} {W : Nat → aK} (hW : isW (tbLw18 l L xs) cuLw18 J W) (n : Nat) (ls st : List aV) (μ : aM) (g : Nat) : W (n + 1) 1286 ls st μ g = (sBin fAdd 1287) (W n) ls st μ g := (hW n 1286 ls st μ g).trans rfl
theorem wLw18_1287 {l : Launch} {L : Nat} {xs : Nat → Int32} {J : aK} {W : Nat → aK} (hW : isW (tbLw18 l L xs) cuLw18 J W) (n : Nat) (ls st : List aV) (μ : aM) (g : Nat) : W (n + 1) 1287 ls st μ g = (sSld L xs 1288) (W n) ls st μ g := (hW n 1287 ls st μ g).trans rfl
theorem wLw18_1288 {l : Launch} {L : Nat} {xs : Nat → Int32} {J : aK} {W : Nat → aK} (hW : isW (tbLw18 l L xs) cuLw18 J W) (n : Nat) (ls st : List aV) (μ : aM) (g : Nat) : W (n + 1) 1288 ls st μ g = (sLd 3 1289 isR) (W n) ls st μ g := (hW n 1288 ls st μ g).trans rfl
theorem wLw18_1289 {l : Launch} {L : Nat} {xs : Nat → Int32} {J : aK} {W : Nat → aK} (hW : isW (tbLw18 l L xs) cuLw18 J W) (n : Nat) (ls st : List aV) (μ : aM) (g : Nat) : W (n + 1) 1289 ls st μ g = (sCallS 4 (fun as μ K => CtH l mdL_ordersAt hhL_ordersAt as μ K) 1292 2 3600) (W n) ls st μ g := (hW n 1289 ls st μ g).trans rfl
theorem tLw18_1292 (l : Launch) (L : Nat) (xs : Nat → Int32) : tb (tbLw18 l L xs) 1292 = sSt 6 1294 isI := (rfl)
theorem wLw18_1292 {l : Launch} {L : Nat} {xs : Nat → Int32} {J : aK} {W : Nat → aK} (hW : isW (tbLw18 l L xs) cuLw18 J W) (n : Nat) (ls st : List aV) (μ : aM) (g : Nat) : W (n + 1) 1292 ls st μ g = J 1292 ls st μ g := (hW n 1292 ls st μ g).trans rfl
theorem wLw18_1294 {l : Launch} {L : Nat} {xs : Nat → Int32} {J : aK} {W : Nat → aK} (hW : isW (tbLw18 l L xs) cuLw18 J W) (n : Nat) (ls st : List aV) (μ : aM) (g : Nat) : W (n + 1) 1294 ls st μ g = (sLd 2 1295 isR) (W n) ls st μ g := (hW n 1294 ls st μ g).trans rfl
theorem wLw18_1295 {l : Launch} {L : Nat} {xs : Nat → Int32} {J : aK} {W : Nat → aK} (hW : isW (tbLw18 l L xs) cuLw18 J W) (n : Nat) (ls st : List aV) (μ : aM) (g : Nat) : W (n + 1) 1295 ls st μ g = (sLd 0 1296 isR) (W n) ls st μ g := (hW n 1295 ls st μ g).trans rfl
theorem wLw18_1296 {l : Launch} {L : Nat} {xs : Nat → Int32} {J : aK} {W : Nat → aK} (hW : isW (tbLw18 l L xs) cuLw18 J W) (n : Nat) (ls st : List aV) (μ : aM) (g : Nat) : W (n + 1) 1296 ls st μ g = (sLd 5 1298 isI) (W n) ls st μ g := (hW n 1296 ls st μ g).trans rfl
theorem wLw18_1298 {l : Launch} {L : Nat} {xs : Nat → Int32} {J : aK} {W : Nat → aK} (hW : isW (tbLw18 l L xs) cuLw18 J W) (n : Nat) (ls st : List aV) (μ : aM) (g : Nat) : W (n + 1) 1298 ls st μ g = (sPush (aI 1) 1299) (W n) ls st μ g := (hW n 1298 ls st μ g).trans rfl
theorem wLw18_1299 {l : Launch} {L : Nat} {xs : Nat → Int32} {J : aK} {W : Nat → aK} (hW : isW (tbLw18 l L xs) cuLw18 J W) (n : Nat) (ls st : List aV) (μ : aM) (g : Nat) : W (n + 1) 1299 ls st μ g = (sBin fAdd 1300) (W n) ls st μ g := (hW n 1299 ls st μ g).trans rfl
theorem wLw18_1300 {l : Launch} {L : Nat} {xs : Nat → Int32} {J : aK} {W : Nat → aK} (hW : isW (tbLw18 l L xs) cuLw18 J W) (n : Nat) (ls st : List aV) (μ : aM) (g : Nat) : W (n + 1) 1300 ls st μ g = (sSld L xs 1301) (W n) ls st μ g := (hW n 1300 ls st μ g).trans rfl
theorem wLw18_1301 {l : Launch} {L : Nat} {xs : Nat → Int32} {J : aK} {W : Nat → aK} (hW : isW (tbLw18 l L xs) cuLw18 J W) (n : Nat) (ls st : List aV) (μ : aM) (g : Nat) : W (n + 1) 1301 ls st μ g = (sUn fI2c 1302) (W n) ls st μ g := (hW n 1301 ls st μ g).trans rfl
theorem wLw18_1302 {l : Launch} {L : Nat} {xs : Nat → Int32} {J : aK} {W : Nat → aK} (hW : isW (tbLw18 l L xs) cuLw18 J W) (n : Nat) (ls st : List aV) (μ : aM) (g : Nat) : W (n + 1) 1302 ls st μ g = (sLd 0 1303 isR) (W n) ls st μ g := (hW n 1302 ls st μ g).trans rfl
theorem wLw18_1303 {l : Launch} {L : Nat} {xs : Nat → Int32} {J : aK} {W : Nat → aK} (hW : isW (tbLw18 l L xs) cuLw18 J W) (n : Nat) (ls st : List aV) (μ : aM) (g : Nat) : W (n + 1) 1303 ls st μ g = (sLd 5 1305 isI) (W n) ls st μ g := (hW n 1303 ls st μ g).trans rfl
theorem wLw18_1305 {l : Launch} {L : Nat} {xs : Nat → Int32} {J : aK} {W : Nat → aK} (hW : isW (tbLw18 l L xs) cuLw18 J W) (n : Nat) (ls st : List aV) (μ : aM) (g : Nat) : W (n + 1) 1305 ls st μ g = (sPush (aI 2) 1306) (W n) ls st μ g := (hW n 1305 ls st μ g).trans rfl
theorem wLw18_1306 {l : Launch} {L : Nat} {xs : Nat → Int32} {J : aK} {W : Nat → aK} (hW : isW (tbLw18 l L xs) cuLw18 J W) (n : Nat) (ls st : List aV) (μ : aM) (g : Nat) : W (n + 1) 1306 ls st μ g = (sBin fAdd 1307) (W n) ls st μ g := (hW n 1306 ls st μ g).trans rfl
theorem wLw18_1307 {l : Launch} {L : Nat} {xs : Nat → Int32} {J : aK} {W : Nat → aK} (hW : isW (tbLw18 l L xs) cuLw18 J W) (n : Nat) (ls st : List aV) (μ : aM) (g : Nat) : W (n + 1) 1307 ls st μ g = (sSld L xs 1308) (W n) ls st μ g := (hW n 1307 ls st μ g).trans rfl
theorem wLw18_1308 {l : Launch} {L : Nat} {xs : Nat → Int32} {J : aK} {W : Nat → aK} (hW : isW (tbLw18 l L xs) cuLw18 J W) (n : Nat) (ls st : List aV) (μ : aM) (g : Nat) : W (n + 1) 1308 ls st μ g = (sCallV 2 5 (fun as μ K => Ct l mdX5_ordersAt as μ K nX) 1311 0 3600) (W n) ls st μ g := (hW n 1308 ls st μ g).trans rfl
theorem tLw18_1311 (l : Launch) (L : Nat) (xs : Nat → Int32) : tb (tbLw18 l L xs) 1311 = sSt 7 1313 isI := (rfl)
theorem wLw18_1311 {l : Launch} {L : Nat} {xs : Nat → Int32} {J : aK} {W : Nat → aK} (hW : isW (tbLw18 l L xs) cuLw18 J W) (n : Nat) (ls st : List aV) (μ : aM) (g : Nat) : W (n + 1) 1311 ls st μ g = J 1311 ls st μ g := (hW n 1311 ls st μ g).trans rfl
theorem wLw18_1313 {l : Launch} {L : Nat} {xs : Nat → Int32} {J : aK} {W : Nat → aK} (hW : isW (tbLw18 l L xs) cuLw18 J W) (n : Nat) (ls st : List aV) (μ : aM) (g : Nat) : W (n + 1) 1313 ls st μ g = (sLd 2 1314 isR) (W n) ls st μ g := (hW n 1313 ls st μ g).trans rfl
theorem wLw18_1314 {l : Launch} {L : Nat} {xs : Nat → Int32} {J : aK} {W : Nat → aK} (hW : isW (tbLw18 l L xs) cuLw18 J W) (n : Nat) (ls st : List aV) (μ : aM) (g : Nat) : W (n + 1) 1314 ls st μ g = (sCallV 0 5 (fun as μ K => Ct l mdX5_thrown as μ K nX) 1317 0 3600) (W n) ls st μ g := (hW n 1314 ls st μ g).trans rfl
theorem tLw18_1317 (l : Launch) (L : Nat) (xs : Nat → Int32) : tb (tbLw18 l L xs) 1317 = sLd 6 1319 isI := (rfl)
theorem wLw18_1317 {l : Launch} {L : Nat} {xs : Nat → Int32} {J : aK} {W : Nat → aK} (hW : isW (tbLw18 l L xs) cuLw18 J W) (n : Nat) (ls st : List aV) (μ : aM) (g : Nat) : W (n + 1) 1317 ls st μ g = J 1317 ls st μ g := (hW n 1317 ls st μ g).trans rfl
theorem wLw18_1319 {l : Launch} {L : Nat} {xs : Nat → Int32} {J : aK} {W : Nat → aK} (hW : isW (tbLw18 l L xs) cuLw18 J W) (n : Nat) (ls st : List aV) (μ : aM) (g : Nat) : W (n + 1) 1319 ls st μ g = (sIc qEq 1324 1322) (W n) ls st μ g := (hW n 1319 ls st μ g).trans rfl
theorem wLw18_1322 {l : Launch} {L : Nat} {xs : Nat → Int32} {J : aK} {W : Nat → aK} (hW : isW (tbLw18 l L xs) cuLw18 J W) (n : Nat) (ls st : List aV) (μ : aM) (g : Nat) : W (n + 1) 1322 ls st μ g = (sPush (aI 0) 1323) (W n) ls st μ g := (hW n 1322 ls st μ g).trans rfl
theorem wLw18_1323 {l : Launch} {L : Nat} {xs : Nat → Int32} {J : aK} {W : Nat → aK} (hW : isW (tbLw18 l L xs) cuLw18 J W) (n : Nat) (ls st : List aV) (μ : aM) (g : Nat) : W (n + 1) 1323 ls st μ g = (sLret) (W n) ls st μ g := (hW n 1323 ls st μ g).trans rfl
theorem wLw18_1324 {l : Launch} {L : Nat} {xs : Nat → Int32} {J : aK} {W : Nat → aK} (hW : isW (tbLw18 l L xs) cuLw18 J W) (n : Nat) (ls st : List aV) (μ : aM) (g : Nat) : W (n + 1) 1324 ls st μ g = (sLd 6 1326 isI) (W n) ls st μ g := (hW n 1324 ls st μ g).trans rfl
theorem wLw18_1326 {l : Launch} {L : Nat} {xs : Nat → Int32} {J : aK} {W : Nat → aK} (hW : isW (tbLw18 l L xs) cuLw18 J W) (n : Nat) (ls st : List aV) (μ : aM) (g : Nat) : W (n + 1) 1326 ls st μ g = (sIf pNe 1341 1329) (W n) ls st μ g := (hW n 1326 ls st μ g).trans rfl
theorem wLw18_1329 {l : Launch} {L : Nat} {xs : Nat → Int32} {J : aK} {W : Nat → aK} (hW : isW (tbLw18 l L xs) cuLw18 J W) (n : Nat) (ls st : List aV) (μ : aM) (g : Nat) : W (n + 1) 1329 ls st μ g = (sLd 3 1330 isR) (W n) ls st μ g := (hW n 1329 ls st μ g).trans rfl
theorem wLw18_1330 {l : Launch} {L : Nat} {xs : Nat → Int32} {J : aK} {W : Nat → aK} (hW : isW (tbLw18 l L xs) cuLw18 J W) (n : Nat) (ls st : List aV) (μ : aM) (g : Nat) : W (n + 1) 1330 ls st μ g = (sPush (aI 0) 1331) (W n) ls st μ g := (hW n 1330 ls st μ g).trans rfl
theorem wLw18_1331 {l : Launch} {L : Nat} {xs : Nat → Int32} {J : aK} {W : Nat → aK} (hW : isW (tbLw18 l L xs) cuLw18 J W) (n : Nat) (ls st : List aV) (μ : aM) (g : Nat) : W (n + 1) 1331 ls st μ g = (sAldL 1332) (W n) ls st μ g := (hW n 1331 ls st μ g).trans rfl
theorem wLw18_1332 {l : Launch} {L : Nat} {xs : Nat → Int32} {J : aK} {W : Nat → aK} (hW : isW (tbLw18 l L xs) cuLw18 J W) (n : Nat) (ls st : List aV) (μ : aM) (g : Nat) : W (n + 1) 1332 ls st μ g = (sLd 7 1334 isI) (W n) ls st μ g := (hW n 1332 ls st μ g).trans rfl
theorem wLw18_1334 {l : Launch} {L : Nat} {xs : Nat → Int32} {J : aK} {W : Nat → aK} (hW : isW (tbLw18 l L xs) cuLw18 J W) (n : Nat) (ls st : List aV) (μ : aM) (g : Nat) : W (n + 1) 1334 ls st μ g = (sI2l 1335) (W n) ls st μ g := (hW n 1334 ls st μ g).trans rfl
theorem wLw18_1335 {l : Launch} {L : Nat} {xs : Nat → Int32} {J : aK} {W : Nat → aK} (hW : isW (tbLw18 l L xs) cuLw18 J W) (n : Nat) (ls st : List aV) (μ : aM) (g : Nat) : W (n + 1) 1335 ls st μ g = (sLcmp 1336) (W n) ls st μ g := (hW n 1335 ls st μ g).trans rfl
theorem wLw18_1336 {l : Launch} {L : Nat} {xs : Nat → Int32} {J : aK} {W : Nat → aK} (hW : isW (tbLw18 l L xs) cuLw18 J W) (n : Nat) (ls st : List aV) (μ : aM) (g : Nat) : W (n + 1) 1336 ls st μ g = (sIf pEq 1341 1339) (W n) ls st μ g := (hW n 1336 ls st μ g).trans rfl
theorem wLw18_1339 {l : Launch} {L : Nat} {xs : Nat → Int32} {J : aK} {W : Nat → aK} (hW : isW (tbLw18 l L xs) cuLw18 J W) (n : Nat) (ls st : List aV) (μ : aM) (g : Nat) : W (n + 1) 1339 ls st μ g = (sPush (aI 0) 1340) (W n) ls st μ g := (hW n 1339 ls st μ g).trans rfl
theorem wLw18_1340 {l : Launch} {L : Nat} {xs : Nat → Int32} {J : aK} {W : Nat → aK} (hW : isW (tbLw18 l L xs) cuLw18 J W) (n : Nat) (ls st : List aV) (μ : aM) (g : Nat) : W (n + 1) 1340 ls st μ g = (sLret) (W n) ls st μ g := (hW n 1340 ls st μ g).trans rfl
theorem wLw18_1341 {l : Launch} {L : Nat} {xs : Nat → Int32} {J : aK} {W : Nat → aK} (hW : isW (tbLw18 l L xs) cuLw18 J W) (n : Nat) (ls st : List aV) (μ : aM) (g : Nat) : W (n + 1) 1341 ls st μ g = (sGoto 1969) (W n) ls st μ g := (hW n 1341 ls st μ g).trans rfl
theorem dLw19_1344 : decode code 1344 = .ok (.aload_n 1, 1) := by decide +kernel
theorem dLw19_1345 : decode code 1345 = .ok (.aload_n 0, 1) := by decide +kernel
theorem dLw19_1346 : decode code 1346 = .ok (.iload 5, 2) := by decide +kernel
theorem dLw19_1348 : decode code 1348 = .ok (.iconst 1, 1) := by decide +kernel
theorem dLw19_1349 : decode code 1349 = .ok (.iadd, 1) := by decide +kernel
theorem dLw19_1350 : decode code 1350 = .ok (.iaload, 1) := by decide +kernel
theorem dLw19_1351 : decode code 1351 = .ok (.i2c, 1) := by decide +kernel
theorem dLw19_1352 : decode code 1352 = .ok (.aload_n 0, 1) := by decide +kernel
theorem dLw19_1353 : decode code 1353 = .ok (.iload 5, 2) := by decide +kernel
theorem dLw19_1355 : decode code 1355 = .ok (.iconst 2, 1) := by decide +kernel
theorem dLw19_1356 : decode code 1356 = .ok (.iadd, 1) := by decide +kernel
theorem dLw19_1357 : decode code 1357 = .ok (.iaload, 1) := by decide +kernel
theorem dLw19_1358 : decode code 1358 = .ok (.aload_n 0, 1) := by decide +kernel
theorem dLw19_1359 : decode code 1359 = .ok (.iload 5, 2) := by decide +kernel
theorem dLw19_1361 : decode code 1361 = .ok (.iconst 3, 1) := by decide +kernel
theorem dLw19_1362 : decode code 1362 = .ok (.iadd, 1) := by decide +kernel
theorem dLw19_1363 : decode code 1363 = .ok (.iaload, 1) := by decide +kernel
theorem dLw19_1364 : decode code 1364 = .ok (.aload_n 3, 1) := by decide +kernel
theorem dLw19_1365 : decode code 1365 = .ok (.invokestatic 187, 3) := by decide +kernel
theorem dLw19_1368 : decode code 1368 = .ok (.istore 6, 2) := by decide +kernel
theorem dLw19_1370 : decode code 1370 = .ok (.aload_n 2, 1) := by decide +kernel
theorem dLw19_1371 : decode code 1371 = .ok (.aload_n 0, 1) := by decide +kernel
theorem dLw19_1372 : decode code 1372 = .ok (.iload 5, 2) := by decide +kernel
theorem dLw19_1374 : decode code 1374 = .ok (.iconst 1, 1) := by decide +kernel
theorem dLw19_1375 : decode code 1375 = .ok (.iadd, 1) := by decide +kernel
theorem dLw19_1376 : decode code 1376 = .ok (.iaload, 1) := by decide +kernel
theorem dLw19_1377 : decode code 1377 = .ok (.i2c, 1) := by decide +kernel
theorem dLw19_1378 : decode code 1378 = .ok (.aload_n 0, 1) := by decide +kernel
theorem dLw19_1379 : decode code 1379 = .ok (.iload 5, 2) := by decide +kernel
theorem dLw19_1381 : decode code 1381 = .ok (.iconst 2, 1) := by decide +kernel
theorem dLw19_1382 : decode code 1382 = .ok (.iadd, 1) := by decide +kernel
theorem dLw19_1383 : decode code 1383 = .ok (.iaload, 1) := by decide +kernel
theorem dLw19_1384 : decode code 1384 = .ok (.aload_n 0, 1) := by decide +kernel
theorem dLw19_1385 : decode code 1385 = .ok (.iload 5, 2) := by decide +kernel
theorem dLw19_1387 : decode code 1387 = .ok (.iconst 3, 1) := by decide +kernel
theorem dLw19_1388 : decode code 1388 = .ok (.iadd, 1) := by decide +kernel
theorem dLw19_1389 : decode code 1389 = .ok (.iaload, 1) := by decide +kernel
theorem dLw19_1390 : decode code 1390 = .ok (.invokevirtual 190, 3) := by decide +kernel
theorem dLw19_1393 : decode code 1393 = .ok (.istore 7, 2) := by decide +kernel
theorem dLw19_1395 : decode code 1395 = .ok (.aload_n 2, 1) := by decide +kernel
theorem dLw19_1396 : decode code 1396 = .ok (.invokevirtual 121, 3) := by decide +kernel
theorem dLw19_1399 : decode code 1399 = .ok (.iload 6, 2) := by decide +kernel
theorem dLw19_1401 : decode code 1401 = .ok (.if_icmp .eq 5, 3) := by decide +kernel
theorem dLw19_1404 : decode code 1404 = .ok (.iconst 0, 1) := by decide +kernel
theorem dLw19_1405 : decode code 1405 = .ok (.ireturn, 1) := by decide +kernel
theorem dLw19_1406 : decode code 1406 = .ok (.iload 6, 2) := by decide +kernel
theorem dLw19_1408 : decode code 1408 = .ok (.ifCond .ne 15, 3) := by decide +kernel
theorem dLw19_1411 : decode code 1411 = .ok (.aload_n 3, 1) := by decide +kernel
theorem dLw19_1412 : decode code 1412 = .ok (.iconst 0, 1) := by decide +kernel
theorem dLw19_1413 : decode code 1413 = .ok (.laload, 1) := by decide +kernel
theorem dLw19_1414 : decode code 1414 = .ok (.iload 7, 2) := by decide +kernel
theorem dLw19_1416 : decode code 1416 = .ok (.i2l, 1) := by decide +kernel
theorem dLw19_1417 : decode code 1417 = .ok (.lcmp, 1) := by decide +kernel
theorem dLw19_1418 : decode code 1418 = .ok (.ifCond .eq 5, 3) := by decide +kernel
theorem dLw19_1421 : decode code 1421 = .ok (.iconst 0, 1) := by decide +kernel
theorem dLw19_1422 : decode code 1422 = .ok (.ireturn, 1) := by decide +kernel
theorem dLw19_1423 : decode code 1423 = .ok (.goto 546, 3) := by decide +kernel
def tbLw19 (l : Launch) (L : Nat) (xs : Nat → Int32) : aTb := [
  (1344, sLd 1 1345 isR),
  (1345, sLd 0 1346 isR),
  (1346, sLd 5 1348 isI),
  (1348, sPush (aI 1) 1349),
  (1349, sBin fAdd 1350),
  (1350, sSld L xs 1351),
  (1351, sUn fI2c 1352),
  (1352, sLd 0 1353 isR),
  (1353, sLd 5 1355 isI),
  (1355, sPush (aI 2) 1356),
  (1356, sBin fAdd 1357),
  (1357, sSld L xs 1358),
  (1358, sLd 0 1359 isR),
  (1359, sLd 5 1361 isI),
  (1361, sPush (aI 3) 1362),
  (1362, sBin fAdd 1363),
  (1363, sSld L xs 1364),
  (1364, sLd 3 1365 isR),
  (1365, sCallS 5 (fun as μ K => CtH l mdL_orderAt hhL_orderAt as μ K) 1368 3 3600),
  (1368, sSt 6 1370 isI),
  (1370, sLd 2 1371 isR),
  (1371, sLd 0 1372 isR),
  (1372, sLd 5 1374 isI),
  (1374, sPush (aI 1) 1375),
  (1375, sBin fAdd 1376),
  (1376, sSld L xs 1377),
  (1377, sUn fI2c 1378),
  (1378, sLd 0 1379 isR),
  (1379, sLd 5 1381 isI),
  (1381, sPush (aI 2) 1382),
  (1382, sBin fAdd 1383),
  (1383, sSld L xs 1384),
  (1384, sLd 0 1385 isR),
  (1385, sLd 5 1387 isI),
  (1387, sPush (aI 3) 1388),
  (1388, sBin fAdd 1389),
  (1389, sSld L xs 1390),
  (1390, sCallV 3 5 (fun as μ K => Ct l mdX5_orderAt as μ K nX) 1393 0 3600),
  (1393, sSt 7 1395 isI),
  (1395, sLd 2 1396 isR),
  (1396, sCallV 0 5 (fun as μ K => Ct l mdX5_thrown as μ K nX) 1399 0 3600),
  (1399, sLd 6 1401 isI),
  (1401, sIc qEq 1406 1404),
  (1404, sPush (aI 0) 1405),
  (1405, sLret),
  (1406, sLd 6 1408 isI),
  (1408, sIf pNe 1423 1411),
  (1411, sLd 3 1412 isR),
  (1412, sPush (aI 0) 1413),
  (1413, sAldL 1414),
  (1414, sLd 7 1416 isI),
  (1416, sI2l 1417),
  (1417, sLcmp 1418),
  (1418, sIf pEq 1423 1421),
  (1421, sPush (aI 0) 1422),
  (1422, sLret),
  (1423, sGoto 1969)]
theorem snLw19 (l : Launch) (L : Nat) (xs : Nat → Int32) (hL3 : L ≤ 3072) : ∀ q ∈ tbLw19 l L xs, Snd (BL l L xs) q.1 q.2 :=
  tcG (sLw (fun p e s m below meth c b cA D A ad0 h hb => ok_aload_n h.1 1 rfl dLw19_1344)) <|
  tcG (sLw (fun p e s m below meth c b cA D A ad0 h hb => ok_aload_n h.1 0 rfl dLw19_1345)) <|
  tcG (sLw (fun p e s m below meth c b cA D A ad0 h hb => ok_iload h.1 dLw19_1346)) <|
  tcG (sLw (fun p e s m below meth c b cA D A ad0 h hb => ok_iconst h.1 ⟨by decide, by decide⟩ dLw19_1348)) <|
  tcG (sLw (fun p e s m below meth c b cA D A ad0 h hb => ok_iadd h.1 dLw19_1349)) <|
  tcG (sLw (fun p e s m below meth c b cA D A ad0 h hb => ok_sld h hb dLw19_1350)) <|
  tcG (sLw (fun p e s m below meth c b cA D A ad0 h hb => ok_i2c h.1 dLw19_1351)) <|
  tcG (sLw (fun p e s m below meth c b cA D A ad0 h hb => ok_aload_n h.1 0 rfl dLw19_1352)) <|
  tcG (sLw (fun p e s m below meth c b cA D A ad0 h hb => ok_iload h.1 dLw19_1353)) <|
  tcG (sLw (fun p e s m below meth c b cA D A ad0 h hb => ok_iconst h.1 ⟨by decide, by decide⟩ dLw19_1355)) <|
  tcG (sLw (fun p e s m below meth c b cA D A ad0 h hb => ok_iadd h.1 dLw19_1356)) <|
  tcG (sLw (fun p e s m below meth c b cA D A ad0 h hb => ok_sld h hb dLw19_1357)) <|
  tcG (sLw (fun p e s m below meth c b cA D A ad0 h hb => ok_aload_n h.1 0 rfl dLw19_1358)) <|
  tcG (sLw (fun p e s m below meth c b cA D A ad0 h hb => ok_iload h.1 dLw19_1359)) <|
  tcG (sLw (fun p e s m below meth c b cA D A ad0 h hb => ok_iconst h.1 ⟨by decide, by decide⟩ dLw19_1361)) <|
  tcG (sLw (fun p e s m below meth c b cA D A ad0 h hb => ok_iadd h.1 dLw19_1362)) <|
  tcG (sLw (fun p e s m below meth c b cA D A ad0 h hb => ok_sld h hb dLw19_1363)) <|
  tcG (sLw (fun p e s m below meth c b cA D A ad0 h hb => ok_aload_n h.1 3 rfl dLw19_1364)) <|
  tcG (sLw (fun p e s m below meth c b cA D A ad0 h hb => ok_callSH h.1 h.2.1 (show 3600 ≤ room_1.cells ∧ 2000 * 3600 ≤ room_1.slots from ⟨Nat.le_of_ble_eq_true rfl, Nat.le_of_ble_eq_true rfl⟩) mdL_orderAt hhL_orderAt siL_orderAt mkRL_187 stL_orderAt ⟨by decide, by decide⟩ dLw19_1365)) <|
  tcG (sLw (fun p e s m below meth c b cA D A ad0 h hb => ok_istore h.1 (by decide) dLw19_1368)) <|
  tcG (sLw (fun p e s m below meth c b cA D A ad0 h hb => ok_aload_n h.1 2 rfl dLw19_1370)) <|
  tcG (sLw (fun p e s m below meth c b cA D A ad0 h hb => ok_aload_n h.1 0 rfl dLw19_1371)) <|
  tcG (sLw (fun p e s m below meth c b cA D A ad0 h hb => ok_iload h.1 dLw19_1372)) <|
  tcG (sLw (fun p e s m below meth c b cA D A ad0 h hb => ok_iconst h.1 ⟨by decide, by decide⟩ dLw19_1374)) <|
  tcG (sLw (fun p e s m below meth c b cA D A ad0 h hb => ok_iadd h.1 dLw19_1375)) <|
  tcG (sLw (fun p e s m below meth c b cA D A ad0 h hb => ok_sld h hb dLw19_1376)) <|
  tcG (sLw (fun p e s m below meth c b cA D A ad0 h hb => ok_i2c h.1 dLw19_1377)) <|
  tcG (sLw (fun p e s m below meth c b cA D A ad0 h hb => ok_aload_n h.1 0 rfl dLw19_1378)) <|
  tcG (sLw (fun p e s m below meth c b cA D A ad0 h hb => ok_iload h.1 dLw19_1379)) <|
  tcG (sLw (fun p e s m below meth c b cA D A ad0 h hb => ok_iconst h.1 ⟨by decide, by decide⟩ dLw19_1381)) <|
  tcG (sLw (fun p e s m below meth c b cA D A ad0 h hb => ok_iadd h.1 dLw19_1382)) <|
  tcG (sLw (fun p e s m below meth c b cA D A ad0 h hb => ok_sld h hb dLw19_1383)) <|
  tcG (sLw (fun p e s m below meth c b cA D A ad0 h hb => ok_aload_n h.1 0 rfl dLw19_1384)) <|
  tcG (sLw (fun p e s m below meth c b cA D A ad0 h hb => ok_iload h.1 dLw19_1385)) <|
  tcG (sLw (fun p e s m below meth c b cA D A ad0 h hb => ok_iconst h.1 ⟨by decide, by decide⟩ dLw19_1387)) <|
  tcG (sLw (fun p e s m below meth c b cA D A ad0 h hb => ok_iadd h.1 dLw19_1388)) <|
  tcG (sLw (fun p e s m below meth c b cA D A ad0 h hb => ok_sld h hb dLw19_1389)) <|
  tcG (sLw (fun p e s m below meth c b cA D A ad0 h hb => ok_callV h.1 h.2.1 (show 3600 ≤ room_1.cells ∧ 2000 * 3600 ≤ room_1.slots from ⟨Nat.le_of_ble_eq_true rfl, Nat.le_of_ble_eq_true rfl⟩) mdX5_orderAt siX5_orderAt cxX5 mkRL_190 imX5_orderAt seX5_orderAt ⟨by decide, by decide⟩ aAx_no dLw19_1390)) <|
  tcG (sLw (fun p e s m below meth c b cA D A ad0 h hb => ok_istore h.1 (by decide) dLw19_1393)) <|
  tcG (sLw (fun p e s m below meth c b cA D A ad0 h hb => ok_aload_n h.1 2 rfl dLw19_1395)) <|
  tcG (sLw (fun p e s m below meth c b cA D A ad0 h hb => ok_callV h.1 h.2.1 (show 3600 ≤ room_1.cells ∧ 2000 * 3600 ≤ room_1.slots from ⟨Nat.le_of_ble_eq_true rfl, Nat.le_of_ble_eq_true rfl⟩) mdX5_thrown siX5_thrown cxX5 mkRL_121 imX5_thrown seX5_thrown ⟨by decide, by decide⟩ aAx_no dLw19_1396)) <|
  tcG (sLw (fun p e s m below meth c b cA D A ad0 h hb => ok_iload h.1 dLw19_1399)) <|
  tcG (sLw (fun p e s m below meth c b cA D A ad0 h hb => ok_icmp_eq h.1 1406 (by decide) dLw19_1401)) <|
  tcG (sLw (fun p e s m below meth c b cA D A ad0 h hb => ok_iconst h.1 ⟨by decide, by decide⟩ dLw19_1404)) <|
  tcG (sLw (fun p e s m below meth c b cA D A ad0 h hb => ok_lret h dLw19_1405)) <|
  tcG (sLw (fun p e s m below meth c b cA D A ad0 h hb => ok_iload h.1 dLw19_1406)) <|
  tcG (sLw (fun p e s m below meth c b cA D A ad0 h hb => ok_if_ne h.1 1423 (by decide) dLw19_1408)) <|
  tcG (sLw (fun p e s m below meth c b cA D A ad0 h hb => ok_aload_n h.1 3 rfl dLw19_1411)) <|
  tcG (sLw (fun p e s m below meth c b cA D A ad0 h hb => ok_iconst h.1 ⟨by decide, by decide⟩ dLw19_1412)) <|
  tcG (sLw (fun p e s m below meth c b cA D A ad0 h hb => ok_lald h.1 dLw19_1413)) <|
  tcG (sLw (fun p e s m below meth c b cA D A ad0 h hb => ok_iload h.1 dLw19_1414)) <|
  tcG (sLw (fun p e s m below meth c b cA D A ad0 h hb => ok_i2l h.1 dLw19_1416)) <|
  tcG (sLw (fun p e s m below meth c b cA D A ad0 h hb => ok_lcmp h.1 dLw19_1417)) <|
  tcG (sLw (fun p e s m below meth c b cA D A ad0 h hb => ok_if_eq h.1 1423 (by decide) dLw19_1418)) <|
  tcG (sLw (fun p e s m below meth c b cA D A ad0 h hb => ok_iconst h.1 ⟨by decide, by decide⟩ dLw19_1421)) <|
  tcG (sLw (fun p e s m below meth c b cA D A ad0 h hb => ok_lret h dLw19_1422)) <|
  tcG (sLw (fun p e s m below meth c b cA D A ad0 h hb => ok_goto h.1 1969 (by decide) dLw19_1423)) <|
  tnG
abbrev cuLw19 : List Nat := [1368, 1393, 1399, 1969]
theorem wLw19_1969 {l : Launch} {L : Nat} {xs : Nat → Int32} {J : aK} {W : Nat → aK} (hW : isW (tbLw19 l L xs) cuLw19 J W) (n : Nat) (ls st : List aV) (μ : aM) (g : Nat) : W (n + 1) 1969 ls st μ g = J 1969 ls st μ g := (hW n 1969 ls st μ g).trans rfl
theorem tLw19_1344 (l : Launch) (L : Nat) (xs : Nat → Int32) : tb (tbLw19 l L xs) 1344 = sLd 1 1345 isR := (rfl)
theorem wLw19_1344 {l : Launch} {L : Nat} {xs : Nat → Int32} {J : aK} {W : Nat → aK} (hW : isW (tbLw19 l L xs) cuLw19 J W) (n : Nat) (ls st : List aV) (μ : aM) (g : Nat) : W (n + 1) 1344 ls st μ g = (sLd 1 1345 isR) (W n) ls st μ g := (hW n 1344 ls st μ g).trans rfl
theorem wLw19_1345 {l : Launch} {L : Nat} {xs : Nat → Int32} {J : aK} {W : Nat → aK} (hW : isW (tbLw19 l L xs) cuLw19 J W) (n : Nat) (ls st : List aV) (μ : aM) (g : Nat) : W (n + 1) 1345 ls st μ g = (sLd 0 1346 isR) (W n) ls st μ g := (hW n 1345 ls st μ g).trans rfl
theorem wLw19_1346 {l : Launch} {L : Nat} {xs : Nat → Int32} {J : aK} {W : Nat → aK} (hW : isW (tbLw19 l L xs) cuLw19 J W) (n : Nat) (ls st : List aV) (μ : aM) (g : Nat) : W (n + 1) 1346 ls st μ g = (sLd 5 1348 isI) (W n) ls st μ g := (hW n 1346 ls st μ g).trans rfl
theorem wLw19_1348 {l : Launch} {L : Nat} {xs : Nat → Int32} {J : aK} {W : Nat → aK} (hW : isW (tbLw19 l L xs) cuLw19 J W) (n : Nat) (ls st : List aV) (μ : aM) (g : Nat) : W (n + 1) 1348 ls st μ g = (sPush (aI 1) 1349) (W n) ls st μ g := (hW n 1348 ls st μ g).trans rfl
theorem wLw19_1349 {l : Launch} {L : Nat} {xs : Nat → Int32} {J : aK} {W : Nat → aK} (hW : isW (tbLw19 l L xs) cuLw19 J W) (n : Nat) (ls st : List aV) (μ : aM) (g : Nat) : W (n + 1) 1349 ls st μ g = (sBin fAdd 1350) (W n) ls st μ g := (hW n 1349 ls st μ g).trans rfl
theorem wLw19_1350 {l : Launch} {L : Nat} {xs : Nat → Int32} {J : aK} {W : Nat → aK} (hW : isW (tbLw19 l L xs) cuLw19 J W) (n : Nat) (ls st : List aV) (μ : aM) (g : Nat) : W (n + 1) 1350 ls st μ g = (sSld L xs 1351) (W n) ls st μ g := (hW n 1350 ls st μ g).trans rfl
theorem wLw19_1351 {l : Launch} {L : Nat} {xs : Nat → Int32} {J : aK} {W : Nat → aK} (hW : isW (tbLw19 l L xs) cuLw19 J W) (n : Nat) (ls st : List aV) (μ : aM) (g : Nat) : W (n + 1) 1351 ls st μ g = (sUn fI2c 1352) (W n) ls st μ g := (hW n 1351 ls st μ g).trans rfl
theorem wLw19_1352 {l : Launch} {L : Nat} {xs : Nat → Int32} {J : aK} {W : Nat → aK} (hW : isW (tbLw19 l L xs) cuLw19 J W) (n : Nat) (ls st : List aV) (μ : aM) (g : Nat) : W (n + 1) 1352 ls st μ g = (sLd 0 1353 isR) (W n) ls st μ g := (hW n 1352 ls st μ g).trans rfl
theorem wLw19_1353 {l : Launch} {L : Nat} {xs : Nat → Int32} {J : aK} {W : Nat → aK} (hW : isW (tbLw19 l L xs) cuLw19 J W) (n : Nat) (ls st : List aV) (μ : aM) (g : Nat) : W (n + 1) 1353 ls st μ g = (sLd 5 1355 isI) (W n) ls st μ g := (hW n 1353 ls st μ g).trans rfl
theorem wLw19_1355 {l : Launch} {L : Nat} {xs : Nat → Int32} {J : aK} {W : Nat → aK} (hW : isW (tbLw19 l L xs) cuLw19 J W) (n : Nat) (ls st : List aV) (μ : aM) (g : Nat) : W (n + 1) 1355 ls st μ g = (sPush (aI 2) 1356) (W n) ls st μ g := (hW n 1355 ls st μ g).trans rfl
theorem wLw19_1356 {l : Launch} {L : Nat} {xs : Nat → Int32} {J : aK} {W : Nat → aK} (hW : isW (tbLw19 l L xs) cuLw19 J W) (n : Nat) (ls st : List aV) (μ : aM) (g : Nat) : W (n + 1) 1356 ls st μ g = (sBin fAdd 1357) (W n) ls st μ g := (hW n 1356 ls st μ g).trans rfl
theorem wLw19_1357 {l : Launch} {L : Nat} {xs : Nat → Int32} {J : aK} {W : Nat → aK} (hW : isW (tbLw19 l L xs) cuLw19 J W) (n : Nat) (ls st : List aV) (μ : aM) (g : Nat) : W (n + 1) 1357 ls st μ g = (sSld L xs 1358) (W n) ls st μ g := (hW n 1357 ls st μ g).trans rfl
theorem wLw19_1358 {l : Launch} {L : Nat} {xs : Nat → Int32} {J : aK} {W : Nat → aK} (hW : isW (tbLw19 l L xs) cuLw19 J W) (n : Nat) (ls st : List aV) (μ : aM) (g : Nat) : W (n + 1) 1358 ls st μ g = (sLd 0 1359 isR) (W n) ls st μ g := (hW n 1358 ls st μ g).trans rfl
theorem wLw19_1359 {l : Launch} {L : Nat} {xs : Nat → Int32} {J : aK} {W : Nat → aK} (hW : isW (tbLw19 l L xs) cuLw19 J W) (n : Nat) (ls st : List aV) (μ : aM) (g : Nat) : W (n + 1) 1359 ls st μ g = (sLd 5 1361 isI) (W n) ls st μ g := (hW n 1359 ls st μ g).trans rfl
theorem wLw19_1361 {l : Launch} {L : Nat} {xs : Nat → Int32} {J : aK} {W : Nat → aK} (hW : isW (tbLw19 l L xs) cuLw19 J W) (n : Nat) (ls st : List aV) (μ : aM) (g : Nat) : W (n + 1) 1361 ls st μ g = (sPush (aI 3) 1362) (W n) ls st μ g := (hW n 1361 ls st μ g).trans rfl
theorem wLw19_1362 {l : Launch} {L : Nat} {xs : Nat → Int32} {J : aK} {W : Nat → aK} (hW : isW (tbLw19 l L xs) cuLw19 J W) (n : Nat) (ls st : List aV) (μ : aM) (g : Nat) : W (n + 1) 1362 ls st μ g = (sBin fAdd 1363) (W n) ls st μ g := (hW n 1362 ls st μ g).trans rfl
theorem wLw19_1363 {l : Launch} {L : Nat} {xs : Nat → Int32} {J : aK} {W : Nat → aK} (hW : isW (tbLw19 l L xs) cuLw19 J W) (n : Nat) (ls st : List aV) (μ : aM) (g : Nat) : W (n + 1) 1363 ls st μ g = (sSld L xs 1364) (W n) ls st μ g := (hW n 1363 ls st μ g).trans rfl
theorem wLw19_1364 {l : Launch} {L : Nat} {xs : Nat → Int32} {J : aK} {W : Nat → aK} (hW : isW (tbLw19 l L xs) cuLw19 J W) (n : Nat) (ls st : List aV) (μ : aM) (g : Nat) : W (n + 1) 1364 ls st μ g = (sLd 3 1365 isR) (W n) ls st μ g := (hW n 1364 ls st μ g).trans rfl
theorem wLw19_1365 {l : Launch} {L : Nat} {xs : Nat → Int32} {J : aK} {W : Nat → aK} (hW : isW (tbLw19 l L xs) cuLw19 J W) (n : Nat) (ls st : List aV) (μ : aM) (g : Nat) : W (n + 1) 1365 ls st μ g = (sCallS 5 (fun as μ K => CtH l mdL_orderAt hhL_orderAt as μ K) 1368 3 3600) (W n) ls st μ g := (hW n 1365 ls st μ g).trans rfl
theorem tLw19_1368 (l : Launch) (L : Nat) (xs : Nat → Int32) : tb (tbLw19 l L xs) 1368 = sSt 6 1370 isI := (rfl)
theorem wLw19_1368 {l : Launch} {L : Nat} {xs : Nat → Int32} {J : aK} {W : Nat → aK} (hW : isW (tbLw19 l L xs) cuLw19 J W) (n : Nat) (ls st : List aV) (μ : aM) (g : Nat) : W (n + 1) 1368 ls st μ g = J 1368 ls st μ g := (hW n 1368 ls st μ g).trans rfl
theorem wLw19_1370 {l : Launch} {L : Nat} {xs : Nat → Int32} {J : aK} {W : Nat → aK} (hW : isW (tbLw19 l L xs) cuLw19 J W) (n : Nat) (ls st : List aV) (μ : aM) (g : Nat) : W (n + 1) 1370 ls st μ g = (sLd 2 1371 isR) (W n) ls st μ g := (hW n 1370 ls st μ g).trans rfl
theorem wLw19_1371 {l : Launch} {L : Nat} {xs : Nat → Int32} {J : aK} {W : Nat → aK} (hW : isW (tbLw19 l L xs) cuLw19 J W) (n : Nat) (ls st : List aV) (μ : aM) (g : Nat) : W (n + 1) 1371 ls st μ g = (sLd 0 1372 isR) (W n) ls st μ g := (hW n 1371 ls st μ g).trans rfl
theorem wLw19_1372 {l : Launch} {L : Nat} {xs : Nat → Int32} {J : aK} {W : Nat → aK} (hW : isW (tbLw19 l L xs) cuLw19 J W) (n : Nat) (ls st : List aV) (μ : aM) (g : Nat) : W (n + 1) 1372 ls st μ g = (sLd 5 1374 isI) (W n) ls st μ g := (hW n 1372 ls st μ g).trans rfl
theorem wLw19_1374 {l : Launch} {L : Nat} {xs : Nat → Int32} {J : aK} {W : Nat → aK} (hW : isW (tbLw19 l L xs) cuLw19 J W) (n : Nat) (ls st : List aV) (μ : aM) (g : Nat) : W (n + 1) 1374 ls st μ g = (sPush (aI 1) 1375) (W n) ls st μ g := (hW n 1374 ls st μ g).trans rfl
theorem wLw19_1375 {l : Launch} {L : Nat} {xs : Nat → Int32} {J : aK} {W : Nat → aK} (hW : isW (tbLw19 l L xs) cuLw19 J W) (n : Nat) (ls st : List aV) (μ : aM) (g : Nat) : W (n + 1) 1375 ls st μ g = (sBin fAdd 1376) (W n) ls st μ g := (hW n 1375 ls st μ g).trans rfl
theorem wLw19_1376 {l : Launch} {L : Nat} {xs : Nat → Int32} {J : aK} {W : Nat → aK} (hW : isW (tbLw19 l L xs) cuLw19 J W) (n : Nat) (ls st : List aV) (μ : aM) (g : Nat) : W (n + 1) 1376 ls st μ g = (sSld L xs 1377) (W n) ls st μ g := (hW n 1376 ls st μ g).trans rfl
theorem wLw19_1377 {l : Launch} {L : Nat} {xs : Nat → Int32} {J : aK} {W : Nat → aK} (hW : isW (tbLw19 l L xs) cuLw19 J W) (n : Nat) (ls st : List aV) (μ : aM) (g : Nat) : W (n + 1) 1377 ls st μ g = (sUn fI2c 1378) (W n) ls st μ g := (hW n 1377 ls st μ g).trans rfl
theorem wLw19_1378 {l : Launch} {L : Nat} {xs : Nat → Int32} {J : aK} {W : Nat → aK} (hW : isW (tbLw19 l L xs) cuLw19 J W) (n : Nat) (ls st : List aV) (μ : aM) (g : Nat) : W (n + 1) 1378 ls st μ g = (sLd 0 1379 isR) (W n) ls st μ g := (hW n 1378 ls st μ g).trans rfl
theorem wLw19_1379 {l : Launch} {L : Nat} {xs : Nat → Int32} {J : aK} {W : Nat → aK} (hW : isW (tbLw19 l L xs) cuLw19 J W) (n : Nat) (ls st : List aV) (μ : aM) (g : Nat) : W (n + 1) 1379 ls st μ g = (sLd 5 1381 isI) (W n) ls st μ g := (hW n 1379 ls st μ g).trans rfl
theorem wLw19_1381 {l : Launch} {L : Nat} {xs : Nat → Int32} {J : aK} {W : Nat → aK} (hW : isW (tbLw19 l L xs) cuLw19 J W) (n : Nat) (ls st : List aV) (μ : aM) (g : Nat) : W (n + 1) 1381 ls st μ g = (sPush (aI 2) 1382) (W n) ls st μ g := (hW n 1381 ls st μ g).trans rfl
theorem wLw19_1382 {l : Launch} {L : Nat} {xs : Nat → Int32} {J : aK} {W : Nat → aK} (hW : isW (tbLw19 l L xs) cuLw19 J W) (n : Nat) (ls st : List aV) (μ : aM) (g : Nat) : W (n + 1) 1382 ls st μ g = (sBin fAdd 1383) (W n) ls st μ g := (hW n 1382 ls st μ g).trans rfl
theorem wLw19_1383 {l : Launch} {L : Nat} {xs : Nat → Int32} {J : aK} {W : Nat → aK} (hW : isW (tbLw19 l L xs) cuLw19 J W) (n : Nat) (ls st : List aV) (μ : aM) (g : Nat) : W (n + 1) 1383 ls st μ g = (sSld L xs 1384) (W n) ls st μ g := (hW n 1383 ls st μ g).trans rfl
theorem wLw19_1384 {l : Launch} {L : Nat} {xs : Nat → Int32} {J : aK} {W : Nat → aK} (hW : isW (tbLw19 l L xs) cuLw19 J W) (n : Nat) (ls st : List aV) (μ : aM) (g : Nat) : W (n + 1) 1384 ls st μ g = (sLd 0 1385 isR) (W n) ls st μ g := (hW n 1384 ls st μ g).trans rfl
theorem wLw19_1385 {l : Launch} {L : Nat} {xs : Nat → Int32} {J : aK} {W : Nat → aK} (hW : isW (tbLw19 l L xs) cuLw19 J W) (n : Nat) (ls st : List aV) (μ : aM) (g : Nat) : W (n + 1) 1385 ls st μ g = (sLd 5 1387 isI) (W n) ls st μ g := (hW n 1385 ls st μ g).trans rfl
theorem wLw19_1387 {l : Launch} {L : Nat} {xs : Nat → Int32} {J : aK} {W : Nat → aK} (hW : isW (tbLw19 l L xs) cuLw19 J W) (n : Nat) (ls st : List aV) (μ : aM) (g : Nat) : W (n + 1) 1387 ls st μ g = (sPush (aI 3) 1388) (W n) ls st μ g := (hW n 1387 ls st μ g).trans rfl
theorem wLw19_1388 {l : Launch} {L : Nat} {xs : Nat → Int32} {J : aK} {W : Nat → aK} (hW : isW (tbLw19 l L xs) cuLw19 J W) (n : Nat) (ls st : List aV) (μ : aM) (g : Nat) : W (n + 1) 1388 ls st μ g = (sBin fAdd 1389) (W n) ls st μ g := (hW n 1388 ls st μ g).trans rfl
theorem wLw19_1389 {l : Launch} {L : Nat} {xs : Nat → Int32} {J : aK} {W : Nat → aK} (hW : isW (tbLw19 l L xs) cuLw19 J W) (n : Nat) (ls st : List aV) (μ : aM) (g : Nat) : W (n + 1) 1389 ls st μ g = (sSld L xs 1390) (W n) ls st μ g := (hW n 1389 ls st μ g).trans rfl
theorem wLw19_1390 {l : Launch} {L : Nat} {xs : Nat → Int32} {J : aK} {W : Nat → aK} (hW : isW (tbLw19 l L xs) cuLw19 J W) (n : Nat) (ls st : List aV) (μ : aM) (g : Nat) : W (n + 1) 1390 ls st μ g = (sCallV 3 5 (fun as μ K => Ct l mdX5_orderAt as μ K nX) 1393 0 3600) (W n) ls st μ g := (hW n 1390 ls st μ g).trans rfl
theorem tLw19_1393 (l : Launch) (L : Nat) (xs : Nat → Int32) : tb (tbLw19 l L xs) 1393 = sSt 7 1395 isI := (rfl)
theorem wLw19_1393 {l : Launch} {L : Nat} {xs : Nat → Int32} {J : aK} {W : Nat → aK} (hW : isW (tbLw19 l L xs) cuLw19 J W) (n : Nat) (ls st : List aV) (μ : aM) (g : Nat) : W (n + 1) 1393 ls st μ g = J 1393 ls st μ g := (hW n 1393 ls st μ g).trans rfl
theorem wLw19_1395 {l : Launch} {L : Nat} {xs : Nat → Int32} {J : aK} {W : Nat → aK} (hW : isW (tbLw19 l L xs) cuLw19 J W) (n : Nat) (ls st : List aV) (μ : aM) (g : Nat) : W (n + 1) 1395 ls st μ g = (sLd 2 1396 isR) (W n) ls st μ g := (hW n 1395 ls st μ g).trans rfl
theorem wLw19_1396 {l : Launch} {L : Nat} {xs : Nat → Int32} {J : aK} {W : Nat → aK} (hW : isW (tbLw19 l L xs) cuLw19 J W) (n : Nat) (ls st : List aV) (μ : aM) (g : Nat) : W (n + 1) 1396 ls st μ g = (sCallV 0 5 (fun as μ K => Ct l mdX5_thrown as μ K nX) 1399 0 3600) (W n) ls st μ g := (hW n 1396 ls st μ g).trans rfl
theorem tLw19_1399 (l : Launch) (L : Nat) (xs : Nat → Int32) : tb (tbLw19 l L xs) 1399 = sLd 6 1401 isI := (rfl)
theorem wLw19_1399 {l : Launch} {L : Nat} {xs : Nat → Int32} {J : aK} {W : Nat → aK} (hW : isW (tbLw19 l L xs) cuLw19 J W) (n : Nat) (ls st : List aV) (μ : aM) (g : Nat) : W (n + 1) 1399 ls st μ g = J 1399 ls st μ g := (hW n 1399 ls st μ g).trans rfl
theorem wLw19_1401 {l : Launch} {L : Nat} {xs : Nat → Int32} {J : aK} {W : Nat → aK} (hW : isW (tbLw19 l L xs) cuLw19 J W) (n : Nat) (ls st : List aV) (μ : aM) (g : Nat) : W (n + 1) 1401 ls st μ g = (sIc qEq 1406 1404) (W n) ls st μ g := (hW n 1401 ls st μ g).trans rfl
theorem wLw19_1404 {l : Launch} {L : Nat} {xs : Nat → Int32} {J : aK} {W : Nat → aK} (hW : isW (tbLw19 l L xs) cuLw19 J W) (n : Nat) (ls st : List aV) (μ : aM) (g : Nat) : W (n + 1) 1404 ls st μ g = (sPush (aI 0) 1405) (W n) ls st μ g := (hW n 1404 ls st μ g).trans rfl
theorem wLw19_1405 {l : Launch} {L : Nat} {xs : Nat → Int32} {J : aK} {W : Nat → aK} (hW : isW (tbLw19 l L xs) cuLw19 J W) (n : Nat) (ls st : List aV) (μ : aM) (g : Nat) : W (n + 1) 1405 ls st μ g = (sLret) (W n) ls st μ g := (hW n 1405 ls st μ g).trans rfl
theorem wLw19_1406 {l : Launch} {L : Nat} {xs : Nat → Int32} {J : aK} {W : Nat → aK} (hW : isW (tbLw19 l L xs) cuLw19 J W) (n : Nat) (ls st : List aV) (μ : aM) (g : Nat) : W (n + 1) 1406 ls st μ g = (sLd 6 1408 isI) (W n) ls st μ g := (hW n 1406 ls st μ g).trans rfl
theorem wLw19_1408 {l : Launch} {L : Nat} {xs : Nat → Int32} {J : aK} {W : Nat → aK} (hW : isW (tbLw19 l L xs) cuLw19 J W) (n : Nat) (ls st : List aV) (μ : aM) (g : Nat) : W (n + 1) 1408 ls st μ g = (sIf pNe 1423 1411) (W n) ls st μ g := (hW n 1408 ls st μ g).trans rfl
theorem wLw19_1411 {l : Launch} {L : Nat} {xs : Nat → Int32} {J : aK} {W : Nat → aK} (hW : isW (tbLw19 l L xs) cuLw19 J W) (n : Nat) (ls st : List aV) (μ : aM) (g : Nat) : W (n + 1) 1411 ls st μ g = (sLd 3 1412 isR) (W n) ls st μ g := (hW n 1411 ls st μ g).trans rfl
theorem wLw19_1412 {l : Launch} {L : Nat} {xs : Nat → Int32} {J : aK} {W : Nat → aK} (hW : isW (tbLw19 l L xs) cuLw19 J W) (n : Nat) (ls st : List aV) (μ : aM) (g : Nat) : W (n + 1) 1412 ls st μ g = (sPush (aI 0) 1413) (W n) ls st μ g := (hW n 1412 ls st μ g).trans rfl
theorem wLw19_1413 {l : Launch} {L : Nat} {xs : Nat → Int32} {J : aK} {W : Nat → aK} (hW : isW (tbLw19 l L xs) cuLw19 J W) (n : Nat) (ls st : List aV) (μ : aM) (g : Nat) : W (n + 1) 1413 ls st μ g = (sAldL 1414) (W n) ls st μ g := (hW n 1413 ls st μ g).trans rfl
theorem wLw19_1414 {l : Launch} {L : Nat} {xs : Nat → Int32} {J : aK} {W : Nat → aK} (hW : isW (tbLw19 l L xs) cuLw19 J W) (n : Nat) (ls st : List aV) (μ : aM) (g : Nat) : W (n + 1) 1414 ls st μ g = (sLd 7 1416 isI) (W n) ls st μ g := (hW n 1414 ls st μ g).trans rfl
theorem wLw19_1416 {l : Launch} {L : Nat} {xs : Nat → Int32} {J : aK} {W : Nat → aK} (hW : isW (tbLw19 l L xs) cuLw19 J W) (n : Nat) (ls st : List aV) (μ : aM) (g : Nat) : W (n + 1) 1416 ls st μ g = (sI2l 1417) (W n) ls st μ g := (hW n 1416 ls st μ g).trans rfl
theorem wLw19_1417 {l : Launch} {L : Nat} {xs : Nat → Int32} {J : aK} {W : Nat → aK} (hW : isW (tbLw19 l L xs) cuLw19 J W) (n : Nat) (ls st : List aV) (μ : aM) (g : Nat) : W (n + 1) 1417 ls st μ g = (sLcmp 1418) (W n) ls st μ g := (hW n 1417 ls st μ g).trans rfl
theorem wLw19_1418 {l : Launch} {L : Nat} {xs : Nat → Int32} {J : aK} {W : Nat → aK} (hW : isW (tbLw19 l L xs) cuLw19 J W) (n : Nat) (ls st : List aV) (μ : aM) (g : Nat) : W (n + 1) 1418 ls st μ g = (sIf pEq 1423 1421) (W n) ls st μ g := (hW n 1418 ls st μ g).trans rfl
theorem wLw19_1421 {l : Launch} {L : Nat} {xs : Nat → Int32} {J : aK} {W : Nat → aK} (hW : isW (tbLw19 l L xs) cuLw19 J W) (n : Nat) (ls st : List aV) (μ : aM) (g : Nat) : W (n + 1) 1421 ls st μ g = (sPush (aI 0) 1422) (W n) ls st μ g := (hW n 1421 ls st μ g).trans rfl
theorem wLw19_1422 {l : Launch} {L : Nat} {xs : Nat → Int32} {J : aK} {W : Nat → aK} (hW : isW (tbLw19 l L xs) cuLw19 J W) (n : Nat) (ls st : List aV) (μ : aM) (g : Nat) : W (n + 1) 1422 ls st μ g = (sLret) (W n) ls st μ g := (hW n 1422 ls st μ g).trans rfl
theorem wLw19_1423 {l : Launch} {L : Nat} {xs : Nat → Int32} {J : aK} {W : Nat → aK} (hW : isW (tbLw19 l L xs) cuLw19 J W) (n : Nat) (ls st : List aV) (μ : aM) (g : Nat) : W (n + 1) 1423 ls st μ g = (sGoto 1969) (W n) ls st μ g := (hW n 1423 ls st μ g).trans rfl
theorem dLw20_1426 : decode code 1426 = .ok (.aload_n 1, 1) := by decide +kernel
theorem dLw20_1427 : decode code 1427 = .ok (.aload_n 3, 1) := by decide +kernel
theorem dLw20_1428 : decode code 1428 = .ok (.invokestatic 191, 3) := by decide +kernel
theorem dLw20_1431 : decode code 1431 = .ok (.istore 6, 2) := by decide +kernel
theorem dLw20_1433 : decode code 1433 = .ok (.aload_n 2, 1) := by decide +kernel
theorem dLw20_1434 : decode code 1434 = .ok (.invokevirtual 193, 3) := by decide +kernel
theorem dLw20_1437 : decode code 1437 = .ok (.istore 7, 2) := by decide +kernel
theorem dLw20_1439 : decode code 1439 = .ok (.aload_n 2, 1) := by decide +kernel
theorem dLw20_1440 : decode code 1440 = .ok (.invokevirtual 121, 3) := by decide +kernel
theorem dLw20_1443 : decode code 1443 = .ok (.iload 6, 2) := by decide +kernel
theorem dLw20_1445 : decode code 1445 = .ok (.if_icmp .eq 5, 3) := by decide +kernel
theorem dLw20_1448 : decode code 1448 = .ok (.iconst 0, 1) := by decide +kernel
theorem dLw20_1449 : decode code 1449 = .ok (.ireturn, 1) := by decide +kernel
theorem dLw20_1450 : decode code 1450 = .ok (.iload 6, 2) := by decide +kernel
theorem dLw20_1452 : decode code 1452 = .ok (.ifCond .ne 15, 3) := by decide +kernel
theorem dLw20_1455 : decode code 1455 = .ok (.aload_n 3, 1) := by decide +kernel
theorem dLw20_1456 : decode code 1456 = .ok (.iconst 0, 1) := by decide +kernel
theorem dLw20_1457 : decode code 1457 = .ok (.laload, 1) := by decide +kernel
theorem dLw20_1458 : decode code 1458 = .ok (.iload 7, 2) := by decide +kernel
theorem dLw20_1460 : decode code 1460 = .ok (.i2l, 1) := by decide +kernel
theorem dLw20_1461 : decode code 1461 = .ok (.lcmp, 1) := by decide +kernel
theorem dLw20_1462 : decode code 1462 = .ok (.ifCond .eq 5, 3) := by decide +kernel
theorem dLw20_1465 : decode code 1465 = .ok (.iconst 0, 1) := by decide +kernel
theorem dLw20_1466 : decode code 1466 = .ok (.ireturn, 1) := by decide +kernel
theorem dLw20_1467 : decode code 1467 = .ok (.goto 502, 3) := by decide +kernel
def tbLw20 (l : Launch) (L : Nat) (xs : Nat → Int32) : aTb := [
  (1426, sLd 1 1427 isR),
  (1427, sLd 3 1428 isR),
  (1428, sCallS 2 (fun as μ K => CtH l mdL_spread hhL_spread as μ K) 1431 1 3600),
  (1431, sSt 6 1433 isI),
  (1433, sLd 2 1434 isR),
  (1434, sCallV 0 5 (fun as μ K => Ct l mdX5_spread as μ K nX) 1437 0 3600),
  (1437, sSt 7 1439 isI),
  (1439, sLd 2 1440 isR),
  (1440, sCallV 0 5 (fun as μ K => Ct l mdX5_thrown as μ K nX) 1443 0 3600),
  (1443, sLd 6 1445 isI),
  (1445, sIc qEq 1450 1448),
  (1448, sPush (aI 0) 1449),
  (1449, sLret),
  (1450, sLd 6 1452 isI),
  (1452, sIf pNe 1467 1455),
  (1455, sLd 3 1456 isR),
  (1456, sPush (aI 0) 1457),
  (1457, sAldL 1458),
  (1458, sLd 7 1460 isI),
  (1460, sI2l 1461),
  (1461, sLcmp 1462),
  (1462, sIf pEq 1467 1465),
  (1465, sPush (aI 0) 1466),
  (1466, sLret),
  (1467, sGoto 1969)]
theorem snLw20 (l : Launch) (L : Nat) (xs : Nat → Int32) (hL3 : L ≤ 3072) : ∀ q ∈ tbLw20 l L xs, Snd (BL l L xs) q.1 q.2 :=
  tcG (sLw (fun p e s m below meth c b cA D A ad0 h hb => ok_aload_n h.1 1 rfl dLw20_1426)) <|
  tcG (sLw (fun p e s m below meth c b cA D A ad0 h hb => ok_aload_n h.1 3 rfl dLw20_1427)) <|
  tcG (sLw (fun p e s m below meth c b cA D A ad0 h hb => ok_callSH h.1 h.2.1 (show 3600 ≤ room_1.cells ∧ 2000 * 3600 ≤ room_1.slots from ⟨Nat.le_of_ble_eq_true rfl, Nat.le_of_ble_eq_true rfl⟩) mdL_spread hhL_spread siL_spread mkRL_191 stL_spread ⟨by decide, by decide⟩ dLw20_1428)) <|
  tcG (sLw (fun p e s m below meth c b cA D A ad0 h hb => ok_istore h.1 (by decide) dLw20_1431)) <|
  tcG (sLw (fun p e s m below meth c b cA D A ad0 h hb => ok_aload_n h.1 2 rfl dLw20_1433)) <|
  tcG (sLw (fun p e s m below meth c b cA D A ad0 h hb => ok_callV h.1 h.2.1 (show 3600 ≤ room_1.cells ∧ 2000 * 3600 ≤ room_1.slots from ⟨Nat.le_of_ble_eq_true rfl, Nat.le_of_ble_eq_true rfl⟩) mdX5_spread siX5_spread cxX5 mkRL_193 imX5_spread seX5_spread ⟨by decide, by decide⟩ aAx_no dLw20_1434)) <|
  tcG (sLw (fun p e s m below meth c b cA D A ad0 h hb => ok_istore h.1 (by decide) dLw20_1437)) <|
  tcG (sLw (fun p e s m below meth c b cA D A ad0 h hb => ok_aload_n h.1 2 rfl dLw20_1439)) <|
  tcG (sLw (fun p e s m below meth c b cA D A ad0 h hb => ok_callV h.1 h.2.1 (show 3600 ≤ room_1.cells ∧ 2000 * 3600 ≤ room_1.slots from ⟨Nat.le_of_ble_eq_true rfl, Nat.le_of_ble_eq_true rfl⟩) mdX5_thrown siX5_thrown cxX5 mkRL_121 imX5_thrown seX5_thrown ⟨by decide, by decide⟩ aAx_no dLw20_1440)) <|
  tcG (sLw (fun p e s m below meth c b cA D A ad0 h hb => ok_iload h.1 dLw20_1443)) <|
  tcG (sLw (fun p e s m below meth c b cA D A ad0 h hb => ok_icmp_eq h.1 1450 (by decide) dLw20_1445)) <|
  tcG (sLw (fun p e s m below meth c b cA D A ad0 h hb => ok_iconst h.1 ⟨by decide, by decide⟩ dLw20_1448)) <|
  tcG (sLw (fun p e s m below meth c b cA D A ad0 h hb => ok_lret h dLw20_1449)) <|
  tcG (sLw (fun p e s m below meth c b cA D A ad0 h hb => ok_iload h.1 dLw20_1450)) <|
  tcG (sLw (fun p e s m below meth c b cA D A ad0 h hb => ok_if_ne h.1 1467 (by decide) dLw20_1452)) <|
  tcG (sLw (fun p e s m below meth c b cA D A ad0 h hb => ok_aload_n h.1 3 rfl dLw20_1455)) <|
  tcG (sLw (fun p e s m below meth c b cA D A ad0 h hb => ok_iconst h.1 ⟨by decide, by decide⟩ dLw20_1456)) <|
  tcG (sLw (fun p e s m below meth c b cA D A ad0 h hb => ok_lald h.1 dLw20_1457)) <|
  tcG (sLw (fun p e s m below meth c b cA D A ad0 h hb => ok_iload h.1 dLw20_1458)) <|
  tcG (sLw (fun p e s m below meth c b cA D A ad0 h hb => ok_i2l h.1 dLw20_1460)) <|
  tcG (sLw (fun p e s m below meth c b cA D A ad0 h hb => ok_lcmp h.1 dLw20_1461)) <|
  tcG (sLw (fun p e s m below meth c b cA D A ad0 h hb => ok_if_eq h.1 1467 (by decide) dLw20_1462)) <|
  tcG (sLw (fun p e s m below meth c b cA D A ad0 h hb => ok_iconst h.1 ⟨by decide, by decide⟩ dLw20_1465)) <|
  tcG (sLw (fun p e s m below meth c b cA D A ad0 h hb => ok_lret h dLw20_1466)) <|
  tcG (sLw (fun p e s m below meth c b cA D A ad0 h hb => ok_goto h.1 1969 (by decide) dLw20_1467)) <|
  tnG
abbrev cuLw20 : List Nat := [1431, 1437, 1443, 1969]
theorem wLw20_1969 {l : Launch} {L : Nat} {xs : Nat → Int32} {J : aK} {W : Nat → aK} (hW : isW (tbLw20 l L xs) cuLw20 J W) (n : Nat) (ls st : List aV) (μ : aM) (g : Nat) : W (n + 1) 1969 ls st μ g = J 1969 ls st μ g := (hW n 1969 ls st μ g).trans rfl
theorem tLw20_1426 (l : Launch) (L : Nat) (xs : Nat → Int32) : tb (tbLw20 l L xs) 1426 = sLd 1 1427 isR := (rfl)
theorem wLw20_1426 {l : Launch} {L : Nat} {xs : Nat → Int32} {J : aK} {W : Nat → aK} (hW : isW (tbLw20 l L xs) cuLw20 J W) (n : Nat) (ls st : List aV) (μ : aM) (g : Nat) : W (n + 1) 1426 ls st μ g = (sLd 1 1427 isR) (W n) ls st μ g := (hW n 1426 ls st μ g).trans rfl
theorem wLw20_1427 {l : Launch} {L : Nat} {xs : Nat → Int32} {J : aK} {W : Nat → aK} (hW : isW (tbLw20 l L xs) cuLw20 J W) (n : Nat) (ls st : List aV) (μ : aM) (g : Nat) : W (n + 1) 1427 ls st μ g = (sLd 3 1428 isR) (W n) ls st μ g := (hW n 1427 ls st μ g).trans rfl
theorem wLw20_1428 {l : Launch} {L : Nat} {xs : Nat → Int32} {J : aK} {W : Nat → aK} (hW : isW (tbLw20 l L xs) cuLw20 J W) (n : Nat) (ls st : List aV) (μ : aM) (g : Nat) : W (n + 1) 1428 ls st μ g = (sCallS 2 (fun as μ K => CtH l mdL_spread hhL_spread as μ K) 1431 1 3600) (W n) ls st μ g := (hW n 1428 ls st μ g).trans rfl
theorem tLw20_1431 (l : Launch) (L : Nat) (xs : Nat → Int32) : tb (tbLw20 l L xs) 1431 = sSt 6 1433 isI := (rfl)
theorem wLw20_1431 {l : Launch} {L : Nat} {xs : Nat → Int32} {J : aK} {W : Nat → aK} (hW : isW (tbLw20 l L xs) cuLw20 J W) (n : Nat) (ls st : List aV) (μ : aM) (g : Nat) : W (n + 1) 1431 ls st μ g = J 1431 ls st μ g := (hW n 1431 ls st μ g).trans rfl
theorem wLw20_1433 {l : Launch} {L : Nat} {xs : Nat → Int32} {J : aK} {W : Nat → aK} (hW : isW (tbLw20 l L xs) cuLw20 J W) (n : Nat) (ls st : List aV) (μ : aM) (g : Nat) : W (n + 1) 1433 ls st μ g = (sLd 2 1434 isR) (W n) ls st μ g := (hW n 1433 ls st μ g).trans rfl
theorem wLw20_1434 {l : Launch} {L : Nat} {xs : Nat → Int32} {J : aK} {W : Nat → aK} (hW : isW (tbLw20 l L xs) cuLw20 J W) (n : Nat) (ls st : List aV) (μ : aM) (g : Nat) : W (n + 1) 1434 ls st μ g = (sCallV 0 5 (fun as μ K => Ct l mdX5_spread as μ K nX) 1437 0 3600) (W n) ls st μ g := (hW n 1434 ls st μ g).trans rfl
theorem tLw20_1437 (l : Launch) (L : Nat) (xs : Nat → Int32) : tb (tbLw20 l L xs) 1437 = sSt 7 1439 isI := (rfl)
theorem wLw20_1437 {l : Launch} {L : Nat} {xs : Nat → Int32} {J : aK} {W : Nat → aK} (hW : isW (tbLw20 l L xs) cuLw20 J W) (n : Nat) (ls st : List aV) (μ : aM) (g : Nat) : W (n + 1) 1437 ls st μ g = J 1437 ls st μ g := (hW n 1437 ls st μ g).trans rfl
theorem wLw20_1439 {l : Launch} {L : Nat} {xs : Nat → Int32} {J : aK} {W : Nat → aK} (hW : isW (tbLw20 l L xs) cuLw20 J W) (n : Nat) (ls st : List aV) (μ : aM) (g : Nat) : W (n + 1) 1439 ls st μ g = (sLd 2 1440 isR) (W n) ls st μ g := (hW n 1439 ls st μ g).trans rfl
theorem wLw20_1440 {l : Launch} {L : Nat} {xs : Nat → Int32} {J : aK} {W : Nat → aK} (hW : isW (tbLw20 l L xs) cuLw20 J W) (n : Nat) (ls st : List aV) (μ : aM) (g : Nat) : W (n + 1) 1440 ls st μ g = (sCallV 0 5 (fun as μ K => Ct l mdX5_thrown as μ K nX) 1443 0 3600) (W n) ls st μ g := (hW n 1440 ls st μ g).trans rfl
theorem tLw20_1443 (l : Launch) (L : Nat) (xs : Nat → Int32) : tb (tbLw20 l L xs) 1443 = sLd 6 1445 isI := (rfl)
theorem wLw20_1443 {l : Launch} {L : Nat} {xs : Nat → Int32} {J : aK} {W : Nat → aK} (hW : isW (tbLw20 l L xs) cuLw20 J W) (n : Nat) (ls st : List aV) (μ : aM) (g : Nat) : W (n + 1) 1443 ls st μ g = J 1443 ls st μ g := (hW n 1443 ls st μ g).trans rfl
theorem wLw20_1445 {l : Launch} {L : Nat} {xs : Nat → Int32} {J : aK} {W : Nat → aK} (hW : isW (tbLw20 l L xs) cuLw20 J W) (n : Nat) (ls st : List aV) (μ : aM) (g : Nat) : W (n + 1) 1445 ls st μ g = (sIc qEq 1450 1448) (W n) ls st μ g := (hW n 1445 ls st μ g).trans rfl
theorem wLw20_1448 {l : Launch} {L : Nat} {xs : Nat → Int32} {J : aK} {W : Nat → aK} (hW : isW (tbLw20 l L xs) cuLw20 J W) (n : Nat) (ls st : List aV) (μ : aM) (g : Nat) : W (n + 1) 1448 ls st μ g = (sPush (aI 0) 1449) (W n) ls st μ g := (hW n 1448 ls st μ g).trans rfl
theorem wLw20_1449 {l : Launch} {L : Nat} {xs : Nat → Int32} {J : aK} {W : Nat → aK} (hW : isW (tbLw20 l L xs) cuLw20 J W) (n : Nat) (ls st : List aV) (μ : aM) (g : Nat) : W (n + 1) 1449 ls st μ g = (sLret) (W n) ls st μ g := (hW n 1449 ls st μ g).trans rfl
theorem wLw20_1450 {l : Launch} {L : Nat} {xs : Nat → Int32} {J : aK} {W : Nat → aK} (hW : isW (tbLw20 l L xs) cuLw20 J W) (n : Nat) (ls st : List aV) (μ : aM) (g : Nat) : W (n + 1) 1450 ls st μ g = (sLd 6 1452 isI) (W n) ls st μ g := (hW n 1450 ls st μ g).trans rfl
theorem wLw20_1452 {l : Launch} {L : Nat} {xs : Nat → Int32} {J : aK} {W : Nat → aK} (hW : isW (tbLw20 l L xs) cuLw20 J W) (n : Nat) (ls st : List aV) (μ : aM) (g : Nat) : W (n + 1) 1452 ls st μ g = (sIf pNe 1467 1455) (W n) ls st μ g := (hW n 1452 ls st μ g).trans rfl
theorem wLw20_1455 {l : Launch} {L : Nat} {xs : Nat → Int32} {J : aK} {W : Nat → aK} (hW : isW (tbLw20 l L xs) cuLw20 J W) (n : Nat) (ls st : List aV) (μ : aM) (g : Nat) : W (n + 1) 1455 ls st μ g = (sLd 3 1456 isR) (W n) ls st μ g := (hW n 1455 ls st μ g).trans rfl
theorem wLw20_1456 {l : Launch} {L : Nat} {xs : Nat → Int32} {J : aK} {W : Nat → aK} (hW : isW (tbLw20 l L xs) cuLw20 J W) (n : Nat) (ls st : List aV) (μ : aM) (g : Nat) : W (n + 1) 1456 ls st μ g = (sPush (aI 0) 1457) (W n) ls st μ g := (hW n 1456 ls st μ g).trans rfl
theorem wLw20_1457 {l : Launch} {L : Nat} {xs : Nat → Int32} {J : aK} {W : Nat → aK} (hW : isW (tbLw20 l L xs) cuLw20 J W) (n : Nat) (ls st : List aV) (μ : aM) (g : Nat) : W (n + 1) 1457 ls st μ g = (sAldL 1458) (W n) ls st μ g := (hW n 1457 ls st μ g).trans rfl
theorem wLw20_1458 {l : Launch} {L : Nat} {xs : Nat → Int32} {J : aK} {W : Nat → aK} (hW : isW (tbLw20 l L xs) cuLw20 J W) (n : Nat) (ls st : List aV) (μ : aM) (g : Nat) : W (n + 1) 1458 ls st μ g = (sLd 7 1460 isI) (W n) ls st μ g := (hW n 1458 ls st μ g).trans rfl
theorem wLw20_1460 {l : Launch} {L : Nat} {xs : Nat → Int32} {J : aK} {W : Nat → aK} (hW : isW (tbLw20 l L xs) cuLw20 J W) (n : Nat) (ls st : List aV) (μ : aM) (g : Nat) : W (n + 1) 1460 ls st μ g = (sI2l 1461) (W n) ls st μ g := (hW n 1460 ls st μ g).trans rfl
theorem wLw20_1461 {l : Launch} {L : Nat} {xs : Nat → Int32} {J : aK} {W : Nat → aK} (hW : isW (tbLw20 l L xs) cuLw20 J W) (n : Nat) (ls st : List aV) (μ : aM) (g : Nat) : W (n + 1) 1461 ls st μ g = (sLcmp 1462) (W n) ls st μ g := (hW n 1461 ls st μ g).trans rfl
theorem wLw20_1462 {l : Launch} {L : Nat} {xs : Nat → Int32} {J : aK} {W : Nat → aK} (hW : isW (tbLw20 l L xs) cuLw20 J W) (n : Nat) (ls st : List aV) (μ : aM) (g : Nat) : W (n + 1) 1462 ls st μ g = (sIf pEq 1467 1465) (W n) ls st μ g := (hW n 1462 ls st μ g).trans rfl
theorem wLw20_1465 {l : Launch} {L : Nat} {xs : Nat → Int32} {J : aK} {W : Nat → aK} (hW : isW (tbLw20 l L xs) cuLw20 J W) (n : Nat) (ls st : List aV) (μ : aM) (g : Nat) : W (n + 1) 1465 ls st μ g = (sPush (aI 0) 1466) (W n) ls st μ g := (hW n 1465 ls st μ g).trans rfl
theorem wLw20_1466 {l : Launch} {L : Nat} {xs : Nat → Int32} {J : aK} {W : Nat → aK} (hW : isW (tbLw20 l L xs) cuLw20 J W) (n : Nat) (ls st : List aV) (μ : aM) (g : Nat) : W (n + 1) 1466 ls st μ g = (sLret) (W n) ls st μ g := (hW n 1466 ls st μ g).trans rfl
theorem wLw20_1467 {l : Launch} {L : Nat} {xs : Nat → Int32} {J : aK} {W : Nat → aK} (hW : isW (tbLw20 l L xs) cuLw20 J W) (n : Nat) (ls st : List aV) (μ : aM) (g : Nat) : W (n + 1) 1467 ls st μ g = (sGoto 1969) (W n) ls st μ g := (hW n 1467 ls st μ g).trans rfl
theorem dLw21_1470 : decode code 1470 = .ok (.aload_n 1, 1) := by decide +kernel
theorem dLw21_1471 : decode code 1471 = .ok (.invokevirtual 194, 3) := by decide +kernel
theorem dLw21_1474 : decode code 1474 = .ok (.aload_n 2, 1) := by decide +kernel
theorem dLw21_1475 : decode code 1475 = .ok (.invokevirtual 197, 3) := by decide +kernel
theorem dLw21_1478 : decode code 1478 = .ok (.if_icmp .eq 491, 3) := by decide +kernel
theorem dLw21_1481 : decode code 1481 = .ok (.iconst 0, 1) := by decide +kernel
theorem dLw21_1482 : decode code 1482 = .ok (.ireturn, 1) := by decide +kernel
def tbLw21 (l : Launch) (L : Nat) (xs : Nat → Int32) : aTb := [
  (1470, sLd 1 1471 isR),
  (1471, sCallV 0 4 (fun as μ K => Ct l mdX4_waiting as μ K nX) 1474 0 3600),
  (1474, sLd 2 1475 isR),
  (1475, sCallV 0 5 (fun as μ K => Ct l mdX5_waiting as μ K nX) 1478 0 3600),
  (1478, sIc qEq 1969 1481),
  (1481, sPush (aI 0) 1482),
  (1482, sLret)]
theorem snLw21 (l : Launch) (L : Nat) (xs : Nat → Int32) (hL3 : L ≤ 3072) : ∀ q ∈ tbLw21 l L xs, Snd (BL l L xs) q.1 q.2 :=
  tcG (sLw (fun p e s m below meth c b cA D A ad0 h hb => ok_aload_n h.1 1 rfl dLw21_1470)) <|
  tcG (sLw (fun p e s m below meth c b cA D A ad0 h hb => ok_callV h.1 h.2.1 (show 3600 ≤ room_1.cells ∧ 2000 * 3600 ≤ room_1.slots from ⟨Nat.le_of_ble_eq_true rfl, Nat.le_of_ble_eq_true rfl⟩) mdX4_waiting siX4_waiting cxX4 mkRL_194 imX4_waiting seX4_waiting ⟨by decide, by decide⟩ aAx_no dLw21_1471)) <|
  tcG (sLw (fun p e s m below meth c b cA D A ad0 h hb => ok_aload_n h.1 2 rfl dLw21_1474)) <|
  tcG (sLw (fun p e s m below meth c b cA D A ad0 h hb => ok_callV h.1 h.2.1 (show 3600 ≤ room_1.cells ∧ 2000 * 3600 ≤ room_1.slots from ⟨Nat.le_of_ble_eq_true rfl, Nat.le_of_ble_eq_true rfl⟩) mdX5_waiting siX5_waiting cxX5 mkRL_197 imX5_waiting seX5_waiting ⟨by decide, by decide⟩ aAx_no dLw21_1475)) <|
  tcG (sLw (fun p e s m below meth c b cA D A ad0 h hb => ok_icmp_eq h.1 1969 (by decide) dLw21_1478)) <|
  tcG (sLw (fun p e s m below meth c b cA D A ad0 h hb => ok_iconst h.1 ⟨by decide, by decide⟩ dLw21_1481)) <|
  tcG (sLw (fun p e s m below meth c b cA D A ad0 h hb => ok_lret h dLw21_1482)) <|
  tnG
abbrev cuLw21 : List Nat := [1474, 1478, 1969]
theorem wLw21_1969 {l : Launch} {L : Nat} {xs : Nat → Int32} {J : aK} {W : Nat → aK} (hW : isW (tbLw21 l L xs) cuLw21 J W) (n : Nat) (ls st : List aV) (μ : aM) (g : Nat) : W (n + 1) 1969 ls st μ g = J 1969 ls st μ g := (hW n 1969 ls st μ g).trans rfl
theorem tLw21_1470 (l : Launch) (L : Nat) (xs : Nat → Int32) : tb (tbLw21 l L xs) 1470 = sLd 1 1471 isR := (rfl)
theorem wLw21_1470 {l : Launch} {L : Nat} {xs : Nat → Int32} {J : aK} {W : Nat → aK} (hW : isW (tbLw21 l L xs) cuLw21 J W) (n : Nat) (ls st : List aV) (μ : aM) (g : Nat) : W (n + 1) 1470 ls st μ g = (sLd 1 1471 isR) (W n) ls st μ g := (hW n 1470 ls st μ g).trans rfl
theorem wLw21_1471 {l : Launch} {L : Nat} {xs : Nat → Int32} {J : aK} {W : Nat → aK} (hW : isW (tbLw21 l L xs) cuLw21 J W) (n : Nat) (ls st : List aV) (μ : aM) (g : Nat) : W (n + 1) 1471 ls st μ g = (sCallV 0 4 (fun as μ K => Ct l mdX4_waiting as μ K nX) 1474 0 3600) (W n) ls st μ g := (hW n 1471 ls st μ g).trans rfl
theorem tLw21_1474 (l : Launch) (L : Nat) (xs : Nat → Int32) : tb (tbLw21 l L xs) 1474 = sLd 2 1475 isR := (rfl)
theorem wLw21_1474 {l : Launch} {L : Nat} {xs : Nat → Int32} {J : aK} {W : Nat → aK} (hW : isW (tbLw21 l L xs) cuLw21 J W) (n : Nat) (ls st : List aV) (μ : aM) (g : Nat) : W (n + 1) 1474 ls st μ g = J 1474 ls st μ g := (hW n 1474 ls st μ g).trans rfl
theorem wLw21_1475 {l : Launch} {L : Nat} {xs : Nat → Int32} {J : aK} {W : Nat → aK} (hW : isW (tbLw21 l L xs) cuLw21 J W) (n : Nat) (ls st : List aV) (μ : aM) (g : Nat) : W (n + 1) 1475 ls st μ g = (sCallV 0 5 (fun as μ K => Ct l mdX5_waiting as μ K nX) 1478 0 3600) (W n) ls st μ g := (hW n 1475 ls st μ g).trans rfl
theorem tLw21_1478 (l : Launch) (L : Nat) (xs : Nat → Int32) : tb (tbLw21 l L xs) 1478 = sIc qEq 1969 1481 := (rfl)
theorem wLw21_1478 {l : Launch} {L : Nat} {xs : Nat → Int32} {J : aK} {W : Nat → aK} (hW : isW (tbLw21 l L xs) cuLw21 J W) (n : Nat) (ls st : List aV) (μ : aM) (g : Nat) : W (n + 1) 1478 ls st μ g = J 1478 ls st μ g := (hW n 1478 ls st μ g).trans rfl
theorem wLw21_1481 {l : Launch} {L : Nat} {xs : Nat → Int32} {J : aK} {W : Nat → aK} (hW : isW (tbLw21 l L xs) cuLw21 J W) (n : Nat) (ls st : List aV) (μ : aM) (g : Nat) : W (n + 1) 1481 ls st μ g = (sPush (aI 0) 1482) (W n) ls st μ g := (hW n 1481 ls st μ g).trans rfl
theorem wLw21_1482 {l : Launch} {L : Nat} {xs : Nat → Int32} {J : aK} {W : Nat → aK} (hW : isW (tbLw21 l L xs) cuLw21 J W) (n : Nat) (ls st : List aV) (μ : aM) (g : Nat) : W (n + 1) 1482 ls st μ g = (sLret) (W n) ls st μ g := (hW n 1482 ls st μ g).trans rfl
theorem dLw22_1483 : decode code 1483 = .ok (.aload_n 1, 1) := by decide +kernel
theorem dLw22_1484 : decode code 1484 = .ok (.aload_n 3, 1) := by decide +kernel
theorem dLw22_1485 : decode code 1485 = .ok (.invokestatic 198, 3) := by decide +kernel
theorem dLw22_1488 : decode code 1488 = .ok (.istore 6, 2) := by decide +kernel
theorem dLw22_1490 : decode code 1490 = .ok (.aload_n 2, 1) := by decide +kernel
theorem dLw22_1491 : decode code 1491 = .ok (.invokevirtual 200, 3) := by decide +kernel
theorem dLw22_1494 : decode code 1494 = .ok (.istore 7, 2) := by decide +kernel
theorem dLw22_1496 : decode code 1496 = .ok (.aload_n 2, 1) := by decide +kernel
theorem dLw22_1497 : decode code 1497 = .ok (.invokevirtual 121, 3) := by decide +kernel
theorem dLw22_1500 : decode code 1500 = .ok (.iload 6, 2) := by decide +kernel
theorem dLw22_1502 : decode code 1502 = .ok (.if_icmp .eq 5, 3) := by decide +kernel
theorem dLw22_1505 : decode code 1505 = .ok (.iconst 0, 1) := by decide +kernel
theorem dLw22_1506 : decode code 1506 = .ok (.ireturn, 1) := by decide +kernel
theorem dLw22_1507 : decode code 1507 = .ok (.iload 6, 2) := by decide +kernel
theorem dLw22_1509 : decode code 1509 = .ok (.ifCond .ne 15, 3) := by decide +kernel
theorem dLw22_1512 : decode code 1512 = .ok (.aload_n 3, 1) := by decide +kernel
theorem dLw22_1513 : decode code 1513 = .ok (.iconst 0, 1) := by decide +kernel
theorem dLw22_1514 : decode code 1514 = .ok (.laload, 1) := by decide +kernel
theorem dLw22_1515 : decode code 1515 = .ok (.iload 7, 2) := by decide +kernel
theorem dLw22_1517 : decode code 1517 = .ok (.i2l, 1) := by decide +kernel
theorem dLw22_1518 : decode code 1518 = .ok (.lcmp, 1) := by decide +kernel
theorem dLw22_1519 : decode code 1519 = .ok (.ifCond .eq 5, 3) := by decide +kernel
theorem dLw22_1522 : decode code 1522 = .ok (.iconst 0, 1) := by decide +kernel
theorem dLw22_1523 : decode code 1523 = .ok (.ireturn, 1) := by decide +kernel
theorem dLw22_1524 : decode code 1524 = .ok (.goto 445, 3) := by decide +kernel
def tbLw22 (l : Launch) (L : Nat) (xs : Nat → Int32) : aTb := [
  (1483, sLd 1 1484 isR),
  (1484, sLd 3 1485 isR),
  (1485, sCallS 2 (fun as μ K => CtH l mdL_auctionPrice hhL_auctionPrice as μ K) 1488 1 3600),
  (1488, sSt 6 1490 isI),
  (1490, sLd 2 1491 isR),
  (1491, sCallV 0 5 (fun as μ K => Ct l mdX5_auctionPrice as μ K nX) 1494 0 3600),
  (1494, sSt 7 1496 isI),
  (1496, sLd 2 1497 isR),
  (1497, sCallV 0 5 (fun as μ K => Ct l mdX5_thrown as μ K nX) 1500 0 3600),
  (1500, sLd 6 1502 isI),
  (1502, sIc qEq 1507 1505),
  (1505, sPush (aI 0) 1506),
  (1506, sLret),
  (1507, sLd 6 1509 isI),
  (1509, sIf pNe 1524 1512),
  (1512, sLd 3 1513 isR),
  (1513, sPush (aI 0) 1514),
  (1514, sAldL 1515),
  (1515, sLd 7 1517 isI),
  (1517, sI2l 1518),
  (1518, sLcmp 1519),
  (1519, sIf pEq 1524 1522),
  (1522, sPush (aI 0) 1523),
  (1523, sLret),
  (1524, sGoto 1969)]
theorem snLw22 (l : Launch) (L : Nat) (xs : Nat → Int32) (hL3 : L ≤ 3072) : ∀ q ∈ tbLw22 l L xs, Snd (BL l L xs) q.1 q.2 :=
  tcG (sLw (fun p e s m below meth c b cA D A ad0 h hb => ok_aload_n h.1 1 rfl dLw22_1483)) <|
  tcG (sLw (fun p e s m below meth c b cA D A ad0 h hb => ok_aload_n h.1 3 rfl dLw22_1484)) <|
  tcG (sLw (fun p e s m below meth c b cA D A ad0 h hb => ok_callSH h.1 h.2.1 (show 3600 ≤ room_1.cells ∧ 2000 * 3600 ≤ room_1.slots from ⟨Nat.le_of_ble_eq_true rfl, Nat.le_of_ble_eq_true rfl⟩) mdL_auctionPrice hhL_auctionPrice siL_auctionPrice mkRL_198 stL_auctionPrice ⟨by decide, by decide⟩ dLw22_1485)) <|
  tcG (sLw (fun p e s m below meth c b cA D A ad0 h hb => ok_istore h.1 (by decide) dLw22_1488)) <|
  tcG (sLw (fun p e s m below meth c b cA D A ad0 h hb => ok_aload_n h.1 2 rfl dLw22_1490)) <|
  tcG (sLw (fun p e s m below meth c b cA D A ad0 h hb => ok_callV h.1 h.2.1 (show 3600 ≤ room_1.cells ∧ 2000 * 3600 ≤ room_1.slots from ⟨Nat.le_of_ble_eq_true rfl, Nat.le_of_ble_eq_true rfl⟩) mdX5_auctionPrice siX5_auctionPrice cxX5 mkRL_200 imX5_auctionPrice seX5_auctionPrice ⟨by decide, by decide⟩ aAx_no dLw22_1491)) <|
  tcG (sLw (fun p e s m below meth c b cA D A ad0 h hb => ok_istore h.1 (by decide) dLw22_1494)) <|
  tcG (sLw (fun p e s m below meth c b cA D A ad0 h hb => ok_aload_n h.1 2 rfl dLw22_1496)) <|
  tcG (sLw (fun p e s m below meth c b cA D A ad0 h hb => ok_callV h.1 h.2.1 (show 3600 ≤ room_1.cells ∧ 2000 * 3600 ≤ room_1.slots from ⟨Nat.le_of_ble_eq_true rfl, Nat.le_of_ble_eq_true rfl⟩) mdX5_thrown siX5_thrown cxX5 mkRL_121 imX5_thrown seX5_thrown ⟨by decide, by decide⟩ aAx_no dLw22_1497)) <|
  tcG (sLw (fun p e s m below meth c b cA D A ad0 h hb => ok_iload h.1 dLw22_1500)) <|
  tcG (sLw (fun p e s m below meth c b cA D A ad0 h hb => ok_icmp_eq h.1 1507 (by decide) dLw22_1502)) <|
  tcG (sLw (fun p e s m below meth c b cA D A ad0 h hb => ok_iconst h.1 ⟨by decide, by decide⟩ dLw22_1505)) <|
  tcG (sLw (fun p e s m below meth c b cA D A ad0 h hb => ok_lret h dLw22_1506)) <|
  tcG (sLw (fun p e s m below meth c b cA D A ad0 h hb => ok_iload h.1 dLw22_1507)) <|
  tcG (sLw (fun p e s m below meth c b cA D A ad0 h hb => ok_if_ne h.1 1524 (by decide) dLw22_1509)) <|
  tcG (sLw (fun p e s m below meth c b cA D A ad0 h hb => ok_aload_n h.1 3 rfl dLw22_1512)) <|
  tcG (sLw (fun p e s m below meth c b cA D A ad0 h hb => ok_iconst h.1 ⟨by decide, by decide⟩ dLw22_1513)) <|
  tcG (sLw (fun p e s m below meth c b cA D A ad0 h hb => ok_lald h.1 dLw22_1514)) <|
  tcG (sLw (fun p e s m below meth c b cA D A ad0 h hb => ok_iload h.1 dLw22_1515)) <|
  tcG (sLw (fun p e s m below meth c b cA D A ad0 h hb => ok_i2l h.1 dLw22_1517)) <|
  tcG (sLw (fun p e s m below meth c b cA D A ad0 h hb => ok_lcmp h.1 dLw22_1518)) <|
  tcG (sLw (fun p e s m below meth c b cA D A ad0 h hb => ok_if_eq h.1 1524 (by decide) dLw22_1519)) <|
  tcG (sLw (fun p e s m below meth c b cA D A ad0 h hb => ok_iconst h.1 ⟨by decide, by decide⟩ dLw22_1522)) <|
  tcG (sLw (fun p e s m below meth c b cA D A ad0 h hb => ok_lret h dLw22_1523)) <|
  tcG (sLw (fun p e s m below meth c b cA D A ad0 h hb => ok_goto h.1 1969 (by decide) dLw22_1524)) <|
  tnG
abbrev cuLw22 : List Nat := [1488, 1494, 1500, 1969]
theorem wLw22_1969 {l : Launch} {L : Nat} {xs : Nat → Int32} {J : aK} {W : Nat → aK} (hW : isW (tbLw22 l L xs) cuLw22 J W) (n : Nat) (ls st : List aV) (μ : aM) (g : Nat) : W (n + 1) 1969 ls st μ g = J 1969 ls st μ g := (hW n 1969 ls st μ g).trans rfl
theorem tLw22_1483 (l : Launch) (L : Nat) (xs : Nat → Int32) : tb (tbLw22 l L xs) 1483 = sLd 1 1484 isR := (rfl)
theorem wLw22_1483 {l : Launch} {L : Nat} {xs : Nat → Int32} {J : aK} {W : Nat → aK} (hW : isW (tbLw22 l L xs) cuLw22 J W) (n : Nat) (ls st : List aV) (μ : aM) (g : Nat) : W (n + 1) 1483 ls st μ g = (sLd 1 1484 isR) (W n) ls st μ g := (hW n 1483 ls st μ g).trans rfl
theorem wLw22_1484 {l : Launch} {L : Nat} {xs : Nat → Int32} {J : aK} {W : Nat → aK} (hW : isW (tbLw22 l L xs) cuLw22 J W) (n : Nat) (ls st : List aV) (μ : aM) (g : Nat) : W (n + 1) 1484 ls st μ g = (sLd 3 1485 isR) (W n) ls st μ g := (hW n 1484 ls st μ g).trans rfl
theorem wLw22_1485 {l : Launch} {L : Nat} {xs : Nat → Int32} {J : aK} {W : Nat → aK} (hW : isW (tbLw22 l L xs) cuLw22 J W) (n : Nat) (ls st : List aV) (μ : aM) (g : Nat) : W (n + 1) 1485 ls st μ g = (sCallS 2 (fun as μ K => CtH l mdL_auctionPrice hhL_auctionPrice as μ K) 1488 1 3600) (W n) ls st μ g := (hW n 1485 ls st μ g).trans rfl
theorem tLw22_1488 (l : Launch) (L : Nat) (xs : Nat → Int32) : tb (tbLw22 l L xs) 1488 = sSt 6 1490 isI := (rfl)
theorem wLw22_1488 {l : Launch} {L : Nat} {xs : Nat → Int32} {J : aK} {W : Nat → aK} (hW : isW (tbLw22 l L xs) cuLw22 J W) (n : Nat) (ls st : List aV) (μ : aM) (g : Nat) : W (n + 1) 1488 ls st μ g = J 1488 ls st μ g := (hW n 1488 ls st μ g).trans rfl
theorem wLw22_1490 {l : Launch} {L : Nat} {xs : Nat → Int32} {J : aK} {W : Nat → aK} (hW : isW (tbLw22 l L xs) cuLw22 J W) (n : Nat) (ls st : List aV) (μ : aM) (g : Nat) : W (n + 1) 1490 ls st μ g = (sLd 2 1491 isR) (W n) ls st μ g := (hW n 1490 ls st μ g).trans rfl
theorem wLw22_1491 {l : Launch} {L : Nat} {xs : Nat → Int32} {J : aK} {W : Nat → aK} (hW : isW (tbLw22 l L xs) cuLw22 J W) (n : Nat) (ls st : List aV) (μ : aM) (g : Nat) : W (n + 1) 1491 ls st μ g = (sCallV 0 5 (fun as μ K => Ct l mdX5_auctionPrice as μ K nX) 1494 0 3600) (W n) ls st μ g := (hW n 1491 ls st μ g).trans rfl
theorem tLw22_1494 (l : Launch) (L : Nat) (xs : Nat → Int32) : tb (tbLw22 l L xs) 1494 = sSt 7 1496 isI := (rfl)
theorem wLw22_1494 {l : Launch} {L : Nat} {xs : Nat → Int32} {J : aK} {W : Nat → aK} (hW : isW (tbLw22 l L xs) cuLw22 J W) (n : Nat) (ls st : List aV) (μ : aM) (g : Nat) : W (n + 1) 1494 ls st μ g = J 1494 ls st μ g := (hW n 1494 ls st μ g).trans rfl
theorem wLw22_1496 {l : Launch} {L : Nat} {xs : Nat → Int32} {J : aK} {W : Nat → aK} (hW : isW (tbLw22 l L xs) cuLw22 J W) (n : Nat) (ls st : List aV) (μ : aM) (g : Nat) : W (n + 1) 1496 ls st μ g = (sLd 2 1497 isR) (W n) ls st μ g := (hW n 1496 ls st μ g).trans rfl
theorem wLw22_1497 {l : Launch} {L : Nat} {xs : Nat → Int32} {J : aK} {W : Nat → aK} (hW : isW (tbLw22 l L xs) cuLw22 J W) (n : Nat) (ls st : List aV) (μ : aM) (g : Nat) : W (n + 1) 1497 ls st μ g = (sCallV 0 5 (fun as μ K => Ct l mdX5_thrown as μ K nX) 1500 0 3600) (W n) ls st μ g := (hW n 1497 ls st μ g).trans rfl
theorem tLw22_1500 (l : Launch) (L : Nat) (xs : Nat → Int32) : tb (tbLw22 l L xs) 1500 = sLd 6 1502 isI := (rfl)
theorem wLw22_1500 {l : Launch} {L : Nat} {xs : Nat → Int32} {J : aK} {W : Nat → aK} (hW : isW (tbLw22 l L xs) cuLw22 J W) (n : Nat) (ls st : List aV) (μ : aM) (g : Nat) : W (n + 1) 1500 ls st μ g = J 1500 ls st μ g := (hW n 1500 ls st μ g).trans rfl
theorem wLw22_1502 {l : Launch} {L : Nat} {xs : Nat → Int32} {J : aK} {W : Nat → aK} (hW : isW (tbLw22 l L xs) cuLw22 J W) (n : Nat) (ls st : List aV) (μ : aM) (g : Nat) : W (n + 1) 1502 ls st μ g = (sIc qEq 1507 1505) (W n) ls st μ g := (hW n 1502 ls st μ g).trans rfl
theorem wLw22_1505 {l : Launch} {L : Nat} {xs : Nat → Int32} {J : aK} {W : Nat → aK} (hW : isW (tbLw22 l L xs) cuLw22 J W) (n : Nat) (ls st : List aV) (μ : aM) (g : Nat) : W (n + 1) 1505 ls st μ g = (sPush (aI 0) 1506) (W n) ls st μ g := (hW n 1505 ls st μ g).trans rfl
theorem wLw22_1506 {l : Launch} {L : Nat} {xs : Nat → Int32} {J : aK} {W : Nat → aK} (hW : isW (tbLw22 l L xs) cuLw22 J W) (n : Nat) (ls st : List aV) (μ : aM) (g : Nat) : W (n + 1) 1506 ls st μ g = (sLret) (W n) ls st μ g := (hW n 1506 ls st μ g).trans rfl
theorem wLw22_1507 {l : Launch} {L : Nat} {xs : Nat → Int32} {J : aK} {W : Nat → aK} (hW : isW (tbLw22 l L xs) cuLw22 J W) (n : Nat) (ls st : List aV) (μ : aM) (g : Nat) : W (n + 1) 1507 ls st μ g = (sLd 6 1509 isI) (W n) ls st μ g := (hW n 1507 ls st μ g).trans rfl
theorem wLw22_1509 {l : Launch} {L : Nat} {xs : Nat → Int32} {J : aK} {W : Nat → aK} (hW : isW (tbLw22 l L xs) cuLw22 J W) (n : Nat) (ls st : List aV) (μ : aM) (g : Nat) : W (n + 1) 1509 ls st μ g = (sIf pNe 1524 1512) (W n) ls st μ g := (hW n 1509 ls st μ g).trans rfl
theorem wLw22_1512 {l : Launch} {L : Nat} {xs : Nat → Int32} {J : aK} {W : Nat → aK} (hW : isW (tbLw22 l L xs) cuLw22 J W) (n : Nat) (ls st : List aV) (μ : aM) (g : Nat) : W (n + 1) 1512 ls st μ g = (sLd 3 1513 isR) (W n) ls st μ g := (hW n 1512 ls st μ g).trans rfl
theorem wLw22_1513 {l : Launch} {L : Nat} {xs : Nat → Int32} {J : aK} {W : Nat → aK} (hW : isW (tbLw22 l L xs) cuLw22 J W) (n : Nat) (ls st : List aV) (μ : aM) (g : Nat) : W (n + 1) 1513 ls st μ g = (sPush (aI 0) 1514) (W n) ls st μ g := (hW n 1513 ls st μ g).trans rfl
theorem wLw22_1514 {l : Launch} {L : Nat} {xs : Nat → Int32} {J : aK} {W : Nat → aK} (hW : isW (tbLw22 l L xs) cuLw22 J W) (n : Nat) (ls st : List aV) (μ : aM) (g : Nat) : W (n + 1) 1514 ls st μ g = (sAldL 1515) (W n) ls st μ g := (hW n 1514 ls st μ g).trans rfl
theorem wLw22_1515 {l : Launch} {L : Nat} {xs : Nat → Int32} {J : aK} {W : Nat → aK} (hW : isW (tbLw22 l L xs) cuLw22 J W) (n : Nat) (ls st : List aV) (μ : aM) (g : Nat) : W (n + 1) 1515 ls st μ g = (sLd 7 1517 isI) (W n) ls st μ g := (hW n 1515 ls st μ g).trans rfl
theorem wLw22_1517 {l : Launch} {L : Nat} {xs : Nat → Int32} {J : aK} {W : Nat → aK} (hW : isW (tbLw22 l L xs) cuLw22 J W) (n : Nat) (ls st : List aV) (μ : aM) (g : Nat) : W (n + 1) 1517 ls st μ g = (sI2l 1518) (W n) ls st μ g := (hW n 1517 ls st μ g).trans rfl
theorem wLw22_1518 {l : Launch} {L : Nat} {xs : Nat → Int32} {J : aK} {W : Nat → aK} (hW : isW (tbLw22 l L xs) cuLw22 J W) (n : Nat) (ls st : List aV) (μ : aM) (g : Nat) : W (n + 1) 1518 ls st μ g = (sLcmp 1519) (W n) ls st μ g := (hW n 1518 ls st μ g).trans rfl
theorem wLw22_1519 {l : Launch} {L : Nat} {xs : Nat → Int32} {J : aK} {W : Nat → aK} (hW : isW (tbLw22 l L xs) cuLw22 J W) (n : Nat) (ls st : List aV) (μ : aM) (g : Nat) : W (n + 1) 1519 ls st μ g = (sIf pEq 1524 1522) (W n) ls st μ g := (hW n 1519 ls st μ g).trans rfl
theorem wLw22_1522 {l : Launch} {L : Nat} {xs : Nat → Int32} {J : aK} {W : Nat → aK} (hW : isW (tbLw22 l L xs) cuLw22 J W) (n : Nat) (ls st : List aV) (μ : aM) (g : Nat) : W (n + 1) 1522 ls st μ g = (sPush (aI 0) 1523) (W n) ls st μ g := (hW n 1522 ls st μ g).trans rfl
theorem wLw22_1523 {l : Launch} {L : Nat} {xs : Nat → Int32} {J : aK} {W : Nat → aK} (hW : isW (tbLw22 l L xs) cuLw22 J W) (n : Nat) (ls st : List aV) (μ : aM) (g : Nat) : W (n + 1) 1523 ls st μ g = (sLret) (W n) ls st μ g := (hW n 1523 ls st μ g).trans rfl
theorem wLw22_1524 {l : Launch} {L : Nat} {xs : Nat → Int32} {J : aK} {W : Nat → aK} (hW : isW (tbLw22 l L xs) cuLw22 J W) (n : Nat) (ls st : List aV) (μ : aM) (g : Nat) : W (n + 1) 1524 ls st μ g = (sGoto 1969) (W n) ls st μ g := (hW n 1524 ls st μ g).trans rfl
theorem dLw23_1527 : decode code 1527 = .ok (.aload_n 1, 1) := by decide +kernel
theorem dLw23_1528 : decode code 1528 = .ok (.aload_n 3, 1) := by decide +kernel
theorem dLw23_1529 : decode code 1529 = .ok (.invokestatic 201, 3) := by decide +kernel
theorem dLw23_1532 : decode code 1532 = .ok (.istore 6, 2) := by decide +kernel
theorem dLw23_1534 : decode code 1534 = .ok (.aload_n 2, 1) := by decide +kernel
theorem dLw23_1535 : decode code 1535 = .ok (.invokevirtual 203, 3) := by decide +kernel
theorem dLw23_1538 : decode code 1538 = .ok (.istore 7, 2) := by decide +kernel
theorem dLw23_1540 : decode code 1540 = .ok (.aload_n 2, 1) := by decide +kernel
theorem dLw23_1541 : decode code 1541 = .ok (.invokevirtual 121, 3) := by decide +kernel
theorem dLw23_1544 : decode code 1544 = .ok (.iload 6, 2) := by decide +kernel
theorem dLw23_1546 : decode code 1546 = .ok (.if_icmp .eq 5, 3) := by decide +kernel
theorem dLw23_1549 : decode code 1549 = .ok (.iconst 0, 1) := by decide +kernel
theorem dLw23_1550 : decode code 1550 = .ok (.ireturn, 1) := by decide +kernel
theorem dLw23_1551 : decode code 1551 = .ok (.iload 6, 2) := by decide +kernel
theorem dLw23_1553 : decode code 1553 = .ok (.ifCond .ne 15, 3) := by decide +kernel
theorem dLw23_1556 : decode code 1556 = .ok (.aload_n 3, 1) := by decide +kernel
theorem dLw23_1557 : decode code 1557 = .ok (.iconst 0, 1) := by decide +kernel
theorem dLw23_1558 : decode code 1558 = .ok (.laload, 1) := by decide +kernel
theorem dLw23_1559 : decode code 1559 = .ok (.iload 7, 2) := by decide +kernel
theorem dLw23_1561 : decode code 1561 = .ok (.i2l, 1) := by decide +kernel
theorem dLw23_1562 : decode code 1562 = .ok (.lcmp, 1) := by decide +kernel
theorem dLw23_1563 : decode code 1563 = .ok (.ifCond .eq 5, 3) := by decide +kernel
theorem dLw23_1566 : decode code 1566 = .ok (.iconst 0, 1) := by decide +kernel
theorem dLw23_1567 : decode code 1567 = .ok (.ireturn, 1) := by decide +kernel
theorem dLw23_1568 : decode code 1568 = .ok (.goto 401, 3) := by decide +kernel
def tbLw23 (l : Launch) (L : Nat) (xs : Nat → Int32) : aTb := [
  (1527, sLd 1 1528 isR),
  (1528, sLd 3 1529 isR),
  (1529, sCallS 2 (fun as μ K => CtH l mdL_auctionPriceByTrying hhL_auctionPriceByTrying as μ K) 1532 1 3600),
  (1532, sSt 6 1534 isI),
  (1534, sLd 2 1535 isR),
  (1535, sCallV 0 5 (fun as μ K => Ct l mdX5_auctionPriceByTrying as μ K nX) 1538 0 3600),
  (1538, sSt 7 1540 isI),
  (1540, sLd 2 1541 isR),
  (1541, sCallV 0 5 (fun as μ K => Ct l mdX5_thrown as μ K nX) 1544 0 3600),
  (1544, sLd 6 1546 isI),
  (1546, sIc qEq 1551 1549),
  (1549, sPush (aI 0) 1550),
  (1550, sLret),
  (1551, sLd 6 1553 isI),
  (1553, sIf pNe 1568 1556),
  (1556, sLd 3 1557 isR),
  (1557, sPush (aI 0) 1558),
  (1558, sAldL 1559),
  (1559, sLd 7 1561 isI),
  (1561, sI2l 1562),
  (1562, sLcmp 1563),
  (1563, sIf pEq 1568 1566),
  (1566, sPush (aI 0) 1567),
  (1567, sLret),
  (1568, sGoto 1969)]
theorem snLw23 (l : Launch) (L : Nat) (xs : Nat → Int32) (hL3 : L ≤ 3072) : ∀ q ∈ tbLw23 l L xs, Snd (BL l L xs) q.1 q.2 :=
  tcG (sLw (fun p e s m below meth c b cA D A ad0 h hb => ok_aload_n h.1 1 rfl dLw23_1527)) <|
  tcG (sLw (fun p e s m below meth c b cA D A ad0 h hb => ok_aload_n h.1 3 rfl dLw23_1528)) <|
  tcG (sLw (fun p e s m below meth c b cA D A ad0 h hb => ok_callSH h.1 h.2.1 (show 3600 ≤ room_1.cells ∧ 2000 * 3600 ≤ room_1.slots from ⟨Nat.le_of_ble_eq_true rfl, Nat.le_of_ble_eq_true rfl⟩) mdL_auctionPriceByTrying hhL_auctionPriceByTrying siL_auctionPriceByTrying mkRL_201 stL_auctionPriceByTrying ⟨by decide, by decide⟩ dLw23_1529)) <|
  tcG (sLw (fun p e s m below meth c b cA D A ad0 h hb => ok_istore h.1 (by decide) dLw23_1532)) <|
  tcG (sLw (fun p e s m below meth c b cA D A ad0 h hb => ok_aload_n h.1 2 rfl dLw23_1534)) <|
  tcG (sLw (fun p e s m below meth c b cA D A ad0 h hb => ok_callV h.1 h.2.1 (show 3600 ≤ room_1.cells ∧ 2000 * 3600 ≤ room_1.slots from ⟨Nat.le_of_ble_eq_true rfl, Nat.le_of_ble_eq_true rfl⟩) mdX5_auctionPriceByTrying siX5_auctionPriceByTrying cxX5 mkRL_203 imX5_auctionPriceByTrying seX5_auctionPriceByTrying ⟨by decide, by decide⟩ aAx_no dLw23_1535)) <|
  tcG (sLw (fun p e s m below meth c b cA D A ad0 h hb => ok_istore h.1 (by decide) dLw23_1538)) <|
  tcG (sLw (fun p e s m below meth c b cA D A ad0 h hb => ok_aload_n h.1 2 rfl dLw23_1540)) <|
  tcG (sLw (fun p e s m below meth c b cA D A ad0 h hb => ok_callV h.1 h.2.1 (show 3600 ≤ room_1.cells ∧ 2000 * 3600 ≤ room_1.slots from ⟨Nat.le_of_ble_eq_true rfl, Nat.le_of_ble_eq_true rfl⟩) mdX5_thrown siX5_thrown cxX5 mkRL_121 imX5_thrown seX5_thrown ⟨by decide, by decide⟩ aAx_no dLw23_1541)) <|
  tcG (sLw (fun p e s m below meth c b cA D A ad0 h hb => ok_iload h.1 dLw23_1544)) <|
  tcG (sLw (fun p e s m below meth c b cA D A ad0 h hb => ok_icmp_eq h.1 1551 (by decide) dLw23_1546)) <|
  tcG (sLw (fun p e s m below meth c b cA D A ad0 h hb => ok_iconst h.1 ⟨by decide, by decide⟩ dLw23_1549)) <|
  tcG (sLw (fun p e s m below meth c b cA D A ad0 h hb => ok_lret h dLw23_1550)) <|
  tcG (sLw (fun p e s m below meth c b cA D A ad0 h hb => ok_iload h.1 dLw23_1551)) <|
  tcG (sLw (fun p e s m below meth c b cA D A ad0 h hb => ok_if_ne h.1 1568 (by decide) dLw23_1553)) <|
  tcG (sLw (fun p e s m below meth c b cA D A ad0 h hb => ok_aload_n h.1 3 rfl dLw23_1556)) <|
  tcG (sLw (fun p e s m below meth c b cA D A ad0 h hb => ok_iconst h.1 ⟨by decide, by decide⟩ dLw23_1557)) <|
  tcG (sLw (fun p e s m below meth c b cA D A ad0 h hb => ok_lald h.1 dLw23_1558)) <|
  tcG (sLw (fun p e s m below meth c b cA D A ad0 h hb => ok_iload h.1 dLw23_1559)) <|
  tcG (sLw (fun p e s m below meth c b cA D A ad0 h hb => ok_i2l h.1 dLw23_1561)) <|
  tcG (sLw (fun p e s m below meth c b cA D A ad0 h hb => ok_lcmp h.1 dLw23_1562)) <|
  tcG (sLw (fun p e s m below meth c b cA D A ad0 h hb => ok_if_eq h.1 1568 (by decide) dLw23_1563)) <|
  tcG (sLw (fun p e s m below meth c b cA D A ad0 h hb => ok_iconst h.1 ⟨by decide, by decide⟩ dLw23_1566)) <|
  tcG (sLw (fun p e s m below meth c b cA D A ad0 h hb => ok_lret h dLw23_1567)) <|
  tcG (sLw (fun p e s m below meth c b cA D A ad0 h hb => ok_goto h.1 1969 (by decide) dLw23_1568)) <|
  tnG
abbrev cuLw23 : List Nat := [1532, 1538, 1544, 1969]
theorem wLw23_1969 {l : Launch} {L : Nat} {xs : Nat → Int32} {J : aK} {W : Nat → aK} (hW : isW (tbLw23 l L xs) cuLw23 J W) (n : Nat) (ls st : List aV) (μ : aM) (g : Nat) : W (n + 1) 1969 ls st μ g = J 1969 ls st μ g := (hW n 1969 ls st μ g).trans rfl
theorem tLw23_1527 (l : Launch) (L : Nat) (xs : Nat → Int32) : tb (tbLw23 l L xs) 1527 = sLd 1 1528 isR := (rfl)
theorem wLw23_1527 {l : Launch} {L : Nat} {xs : Nat → Int32} {J : aK} {W : Nat → aK} (hW : isW (tbLw23 l L xs) cuLw23 J W) (n : Nat) (ls st : List aV) (μ : aM) (g : Nat) : W (n + 1) 1527 ls st μ g = (sLd 1 1528 isR) (W n) ls st μ g := (hW n 1527 ls st μ g).trans rfl
theorem wLw23_1528 {l : Launch} {L : Nat} {xs : Nat → Int32} {J : aK} {W : Nat → aK} (hW : isW (tbLw23 l L xs) cuLw23 J W) (n : Nat) (ls st : List aV) (μ : aM) (g : Nat) : W (n + 1) 1528 ls st μ g = (sLd 3 1529 isR) (W n) ls st μ g := (hW n 1528 ls st μ g).trans rfl
theorem wLw23_1529 {l : Launch} {L : Nat} {xs : Nat → Int32} {J : aK} {W : Nat → aK} (hW : isW (tbLw23 l L xs) cuLw23 J W) (n : Nat) (ls st : List aV) (μ : aM) (g : Nat) : W (n + 1) 1529 ls st μ g = (sCallS 2 (fun as μ K => CtH l mdL_auctionPriceByTrying hhL_auctionPriceByTrying as μ K) 1532 1 3600) (W n) ls st μ g := (hW n 1529 ls st μ g).trans rfl
theorem tLw23_1532 (l : Launch) (L : Nat) (xs : Nat → Int32) : tb (tbLw23 l L xs) 1532 = sSt 6 1534 isI := (rfl)
theorem wLw23_1532 {l : Launch} {L : Nat} {xs : Nat → Int32} {J : aK} {W : Nat → aK} (hW : isW (tbLw23 l L xs) cuLw23 J W) (n : Nat) (ls st : List aV) (μ : aM) (g : Nat) : W (n + 1) 1532 ls st μ g = J 1532 ls st μ g := (hW n 1532 ls st μ g).trans rfl
theorem wLw23_1534 {l : Launch} {L : Nat} {xs : Nat → Int32} {J : aK} {W : Nat → aK} (hW : isW (tbLw23 l L xs) cuLw23 J W) (n : Nat) (ls st : List aV) (μ : aM) (g : Nat) : W (n + 1) 1534 ls st μ g = (sLd 2 1535 isR) (W n) ls st μ g := (hW n 1534 ls st μ g).trans rfl
theorem wLw23_1535 {l : Launch} {L : Nat} {xs : Nat → Int32} {J : aK} {W : Nat → aK} (hW : isW (tbLw23 l L xs) cuLw23 J W) (n : Nat) (ls st : List aV) (μ : aM) (g : Nat) : W (n + 1) 1535 ls st μ g = (sCallV 0 5 (fun as μ K => Ct l mdX5_auctionPriceByTrying as μ K nX) 1538 0 3600) (W n) ls st μ g := (hW n 1535 ls st μ g).trans rfl
theorem tLw23_1538 (l : Launch) (L : Nat) (xs : Nat → Int32) : tb (tbLw23 l L xs) 1538 = sSt 7 1540 isI := (rfl)
theorem wLw23_1538 {l : Launch} {L : Nat} {xs : Nat → Int32} {J : aK} {W : Nat → aK} (hW : isW (tbLw23 l L xs) cuLw23 J W) (n : Nat) (ls st : List aV) (μ : aM) (g : Nat) : W (n + 1) 1538 ls st μ g = J 1538 ls st μ g := (hW n 1538 ls st μ g).trans rfl
theorem wLw23_1540 {l : Launch} {L : Nat} {xs : Nat → Int32} {J : aK} {W : Nat → aK} (hW : isW (tbLw23 l L xs) cuLw23 J W) (n : Nat) (ls st : List aV) (μ : aM) (g : Nat) : W (n + 1) 1540 ls st μ g = (sLd 2 1541 isR) (W n) ls st μ g := (hW n 1540 ls st μ g).trans rfl
theorem wLw23_1541 {l : Launch} {L : Nat} {xs : Nat → Int32} {J : aK} {W : Nat → aK} (hW : isW (tbLw23 l L xs) cuLw23 J W) (n : Nat) (ls st : List aV) (μ : aM) (g : Nat) : W (n + 1) 1541 ls st μ g = (sCallV 0 5 (fun as μ K => Ct l mdX5_thrown as μ K nX) 1544 0 3600) (W n) ls st μ g := (hW n 1541 ls st μ g).trans rfl
theorem tLw23_1544 (l : Launch) (L : Nat) (xs : Nat → Int32) : tb (tbLw23 l L xs) 1544 = sLd 6 1546 isI := (rfl)
theorem wLw23_1544 {l : Launch} {L : Nat} {xs : Nat → Int32} {J : aK} {W : Nat → aK} (hW : isW (tbLw23 l L xs) cuLw23 J W) (n : Nat) (ls st : List aV) (μ : aM) (g : Nat) : W (n + 1) 1544 ls st μ g = J 1544 ls st μ g := (hW n 1544 ls st μ g).trans rfl
theorem wLw23_1546 {l : Launch} {L : Nat} {xs : Nat → Int32} {J : aK} {W : Nat → aK} (hW : isW (tbLw23 l L xs) cuLw23 J W) (n : Nat) (ls st : List aV) (μ : aM) (g : Nat) : W (n + 1) 1546 ls st μ g = (sIc qEq 1551 1549) (W n) ls st μ g := (hW n 1546 ls st μ g).trans rfl
theorem wLw23_1549 {l : Launch} {L : Nat} {xs : Nat → Int32} {J : aK} {W : Nat → aK} (hW : isW (tbLw23 l L xs) cuLw23 J W) (n : Nat) (ls st : List aV) (μ : aM) (g : Nat) : W (n + 1) 1549 ls st μ g = (sPush (aI 0) 1550) (W n) ls st μ g := (hW n 1549 ls st μ g).trans rfl
theorem wLw23_1550 {l : Launch} {L : Nat} {xs : Nat → Int32} {J : aK} {W : Nat → aK} (hW : isW (tbLw23 l L xs) cuLw23 J W) (n : Nat) (ls st : List aV) (μ : aM) (g : Nat) : W (n + 1) 1550 ls st μ g = (sLret) (W n) ls st μ g := (hW n 1550 ls st μ g).trans rfl
theorem wLw23_1551 {l : Launch} {L : Nat} {xs : Nat → Int32} {J : aK} {W : Nat → aK} (hW : isW (tbLw23 l L xs) cuLw23 J W) (n : Nat) (ls st : List aV) (μ : aM) (g : Nat) : W (n + 1) 1551 ls st μ g = (sLd 6 1553 isI) (W n) ls st μ g := (hW n 1551 ls st μ g).trans rfl
theorem wLw23_1553 {l : Launch} {L : Nat} {xs : Nat → Int32} {J : aK} {W : Nat → aK} (hW : isW (tbLw23 l L xs) cuLw23 J W) (n : Nat) (ls st : List aV) (μ : aM) (g : Nat) : W (n + 1) 1553 ls st μ g = (sIf pNe 1568 1556) (W n) ls st μ g := (hW n 1553 ls st μ g).trans rfl
theorem wLw23_1556 {l : Launch} {L : Nat} {xs : Nat → Int32} {J : aK} {W : Nat → aK} (hW : isW (tbLw23 l L xs) cuLw23 J W) (n : Nat) (ls st : List aV) (μ : aM) (g : Nat) : W (n + 1) 1556 ls st μ g = (sLd 3 1557 isR) (W n) ls st μ g := (hW n 1556 ls st μ g).trans rfl
theorem wLw23_1557 {l : Launch} {L : Nat} {xs : Nat → Int32} {J : aK} {W : Nat → aK} (hW : isW (tbLw23 l L xs) cuLw23 J W) (n : Nat) (ls st : List aV) (μ : aM) (g : Nat) : W (n + 1) 1557 ls st μ g = (sPush (aI 0) 1558) (W n) ls st μ g := (hW n 1557 ls st μ g).trans rfl
theorem wLw23_1558 {l : Launch} {L : Nat} {xs : Nat → Int32} {J : aK} {W : Nat → aK} (hW : isW (tbLw23 l L xs) cuLw23 J W) (n : Nat) (ls st : List aV) (μ : aM) (g : Nat) : W (n + 1) 1558 ls st μ g = (sAldL 1559) (W n) ls st μ g := (hW n 1558 ls st μ g).trans rfl
theorem wLw23_1559 {l : Launch} {L : Nat} {xs : Nat → Int32} {J : aK} {W : Nat → aK} (hW : isW (tbLw23 l L xs) cuLw23 J W) (n : Nat) (ls st : List aV) (μ : aM) (g : Nat) : W (n + 1) 1559 ls st μ g = (sLd 7 1561 isI) (W n) ls st μ g := (hW n 1559 ls st μ g).trans rfl
theorem wLw23_1561 {l : Launch} {L : Nat} {xs : Nat → Int32} {J : aK} {W : Nat → aK} (hW : isW (tbLw23 l L xs) cuLw23 J W) (n : Nat) (ls st : List aV) (μ : aM) (g : Nat) : W (n + 1) 1561 ls st μ g = (sI2l 1562) (W n) ls st μ g := (hW n 1561 ls st μ g).trans rfl
theorem wLw23_1562 {l : Launch} {L : Nat} {xs : Nat → Int32} {J : aK} {W : Nat → aK} (hW : isW (tbLw23 l L xs) cuLw23 J W) (n : Nat) (ls st : List aV) (μ : aM) (g : Nat) : W (n + 1) 1562 ls st μ g = (sLcmp 1563) (W n) ls st μ g := (hW n 1562 ls st μ g).trans rfl
theorem wLw23_1563 {l : Launch} {L : Nat} {xs : Nat → Int32} {J : aK} {W : Nat → aK} (hW : isW (tbLw23 l L xs) cuLw23 J W) (n : Nat) (ls st : List aV) (μ : aM) (g : Nat) : W (n + 1) 1563 ls st μ g = (sIf pEq 1568 1566) (W n) ls st μ g := (hW n 1563 ls st μ g).trans rfl
theorem wLw23_1566 {l : Launch} {L : Nat} {xs : Nat → Int32} {J : aK} {W : Nat → aK} (hW : isW (tbLw23 l L xs) cuLw23 J W) (n : Nat) (ls st : List aV) (μ : aM) (g : Nat) : W (n + 1) 1566 ls st μ g = (sPush (aI 0) 1567) (W n) ls st μ g := (hW n 1566 ls st μ g).trans rfl
theorem wLw23_1567 {l : Launch} {L : Nat} {xs : Nat → Int32} {J : aK} {W : Nat → aK} (hW : isW (tbLw23 l L xs) cuLw23 J W) (n : Nat) (ls st : List aV) (μ : aM) (g : Nat) : W (n + 1) 1567 ls st μ g = (sLret) (W n) ls st μ g := (hW n 1567 ls st μ g).trans rfl
theorem wLw23_1568 {l : Launch} {L : Nat} {xs : Nat → Int32} {J : aK} {W : Nat → aK} (hW : isW (tbLw23 l L xs) cuLw23 J W) (n : Nat) (ls st : List aV) (μ : aM) (g : Nat) : W (n + 1) 1568 ls st μ g = (sGoto 1969) (W n) ls st μ g := (hW n 1568 ls st μ g).trans rfl
theorem dLw24_1571 : decode code 1571 = .ok (.aload_n 1, 1) := by decide +kernel
theorem dLw24_1572 : decode code 1572 = .ok (.aload_n 0, 1) := by decide +kernel
theorem dLw24_1573 : decode code 1573 = .ok (.iload 5, 2) := by decide +kernel
theorem dLw24_1575 : decode code 1575 = .ok (.iconst 1, 1) := by decide +kernel
theorem dLw24_1576 : decode code 1576 = .ok (.iadd, 1) := by decide +kernel
theorem dLw24_1577 : decode code 1577 = .ok (.iaload, 1) := by decide +kernel
theorem dLw24_1578 : decode code 1578 = .ok (.aload_n 3, 1) := by decide +kernel
theorem dLw24_1579 : decode code 1579 = .ok (.invokestatic 204, 3) := by decide +kernel
theorem dLw24_1582 : decode code 1582 = .ok (.istore 6, 2) := by decide +kernel
theorem dLw24_1584 : decode code 1584 = .ok (.aload_n 2, 1) := by decide +kernel
theorem dLw24_1585 : decode code 1585 = .ok (.aload_n 0, 1) := by decide +kernel
theorem dLw24_1586 : decode code 1586 = .ok (.iload 5, 2) := by decide +kernel
theorem dLw24_1588 : decode code 1588 = .ok (.iconst 1, 1) := by decide +kernel
theorem dLw24_1589 : decode code 1589 = .ok (.iadd, 1) := by decide +kernel
theorem dLw24_1590 : decode code 1590 = .ok (.iaload, 1) := by decide +kernel
theorem dLw24_1591 : decode code 1591 = .ok (.invokevirtual 206, 3) := by decide +kernel
theorem dLw24_1594 : decode code 1594 = .ok (.istore 7, 2) := by decide +kernel
theorem dLw24_1596 : decode code 1596 = .ok (.aload_n 2, 1) := by decide +kernel
theorem dLw24_1597 : decode code 1597 = .ok (.invokevirtual 121, 3) := by decide +kernel
theorem dLw24_1600 : decode code 1600 = .ok (.iload 6, 2) := by decide +kernel
theorem dLw24_1602 : decode code 1602 = .ok (.if_icmp .eq 5, 3) := by decide +kernel
theorem dLw24_1605 : decode code 1605 = .ok (.iconst 0, 1) := by decide +kernel
theorem dLw24_1606 : decode code 1606 = .ok (.ireturn, 1) := by decide +kernel
theorem dLw24_1607 : decode code 1607 = .ok (.iload 6, 2) := by decide +kernel
theorem dLw24_1609 : decode code 1609 = .ok (.ifCond .ne 15, 3) := by decide +kernel
theorem dLw24_1612 : decode code 1612 = .ok (.aload_n 3, 1) := by decide +kernel
theorem dLw24_1613 : decode code 1613 = .ok (.iconst 0, 1) := by decide +kernel
theorem dLw24_1614 : decode code 1614 = .ok (.laload, 1) := by decide +kernel
theorem dLw24_1615 : decode code 1615 = .ok (.iload 7, 2) := by decide +kernel
theorem dLw24_1617 : decode code 1617 = .ok (.i2l, 1) := by decide +kernel
theorem dLw24_1618 : decode code 1618 = .ok (.lcmp, 1) := by decide +kernel
theorem dLw24_1619 : decode code 1619 = .ok (.ifCond .eq 5, 3) := by decide +kernel
theorem dLw24_1622 : decode code 1622 = .ok (.iconst 0, 1) := by decide +kernel
theorem dLw24_1623 : decode code 1623 = .ok (.ireturn, 1) := by decide +kernel
theorem dLw24_1624 : decode code 1624 = .ok (.goto 345, 3) := by decide +kernel
def tbLw24 (l : Launch) (L : Nat) (xs : Nat → Int32) : aTb := [
  (1571, sLd 1 1572 isR),
  (1572, sLd 0 1573 isR),
  (1573, sLd 5 1575 isI),
  (1575, sPush (aI 1) 1576),
  (1576, sBin fAdd 1577),
  (1577, sSld L xs 1578),
  (1578, sLd 3 1579 isR),
  (1579, sCallS 3 (fun as μ K => CtH l mdL_volumeAt hhL_volumeAt as μ K) 1582 1 3600),
  (1582, sSt 6 1584 isI),
  (1584, sLd 2 1585 isR),
  (1585, sLd 0 1586 isR),
  (1586, sLd 5 1588 isI),
  (1588, sPush (aI 1) 1589),
  (1589, sBin fAdd 1590),
  (1590, sSld L xs 1591),
  (1591, sCallV 1 5 (fun as μ K => Ct l mdX5_volumeAt as μ K nX) 1594 0 3600),
  (1594, sSt 7 1596 isI),
  (1596, sLd 2 1597 isR),
  (1597, sCallV 0 5 (fun as μ K => Ct l mdX5_thrown as μ K nX) 1600 0 3600),
  (1600, sLd 6 1602 isI),
  (1602, sIc qEq 1607 1605),
  (1605, sPush (aI 0) 1606),
  (1606, sLret),
  (1607, sLd 6 1609 isI),
  (1609, sIf pNe 1624 1612),
  (1612, sLd 3 1613 isR),
  (1613, sPush (aI 0) 1614),
  (1614, sAldL 1615),
  (1615, sLd 7 1617 isI),
  (1617, sI2l 1618),
  (1618, sLcmp 1619),
  (1619, sIf pEq 1624 1622),
  (1622, sPush (aI 0) 1623),
  (1623, sLret),
  (1624, sGoto 1969)]
theorem snLw24 (l : Launch) (L : Nat) (xs : Nat → Int32) (hL3 : L ≤ 3072) : ∀ q ∈ tbLw24 l L xs, Snd (BL l L xs) q.1 q.2 :=
  tcG (sLw (fun p e s m below meth c b cA D A ad0 h hb => ok_aload_n h.1 1 rfl dLw24_1571)) <|
  tcG (sLw (fun p e s m below meth c b cA D A ad0 h hb => ok_aload_n h.1 0 rfl dLw24_1572)) <|
  tcG (sLw (fun p e s m below meth c b cA D A ad0 h hb => ok_iload h.1 dLw24_1573)) <|
  tcG (sLw (fun p e s m below meth c b cA D A ad0 h hb => ok_iconst h.1 ⟨by decide, by decide⟩ dLw24_1575)) <|
  tcG (sLw (fun p e s m below meth c b cA D A ad0 h hb => ok_iadd h.1 dLw24_1576)) <|
  tcG (sLw (fun p e s m below meth c b cA D A ad0 h hb => ok_sld h hb dLw24_1577)) <|
  tcG (sLw (fun p e s m below meth c b cA D A ad0 h hb => ok_aload_n h.1 3 rfl dLw24_1578)) <|
  tcG (sLw (fun p e s m below meth c b cA D A ad0 h hb => ok_callSH h.1 h.2.1 (show 3600 ≤ room_1.cells ∧ 2000 * 3600 ≤ room_1.slots from ⟨Nat.le_of_ble_eq_true rfl, Nat.le_of_ble_eq_true rfl⟩) mdL_volumeAt hhL_volumeAt siL_volumeAt mkRL_204 stL_volumeAt ⟨by decide, by decide⟩ dLw24_1579)) <|
  tcG (sLw (fun p e s m below meth c b cA D A ad0 h hb => ok_istore h.1 (by decide) dLw24_1582)) <|
  tcG (sLw (fun p e s m below meth c b cA D A ad0 h hb => ok_aload_n h.1 2 rfl dLw24_1584)) <|
  tcG (sLw (fun p e s m below meth c b cA D A ad0 h hb => ok_aload_n h.1 0 rfl dLw24_1585)) <|
  tcG (sLw (fun p e s m below meth c b cA D A ad0 h hb => ok_iload h.1 dLw24_1586)) <|
  tcG (sLw (fun p e s m below meth c b cA D A ad0 h hb => ok_iconst h.1 ⟨by decide, by decide⟩ dLw24_1588)) <|
  tcG (sLw (fun p e s m below meth c b cA D A ad0 h hb => ok_iadd h.1 dLw24_1589)) <|
  tcG (sLw (fun p e s m below meth c b cA D A ad0 h hb => ok_sld h hb dLw24_1590)) <|
  tcG (sLw (fun p e s m below meth c b cA D A ad0 h hb => ok_callV h.1 h.2.1 (show 3600 ≤ room_1.cells ∧ 2000 * 3600 ≤ room_1.slots from ⟨Nat.le_of_ble_eq_true rfl, Nat.le_of_ble_eq_true rfl⟩) mdX5_volumeAt siX5_volumeAt cxX5 mkRL_206 imX5_volumeAt seX5_volumeAt ⟨by decide, by decide⟩ aAx_no dLw24_1591)) <|
  tcG (sLw (fun p e s m below meth c b cA D A ad0 h hb => ok_istore h.1 (by decide) dLw24_1594)) <|
  tcG (sLw (fun p e s m below meth c b cA D A ad0 h hb => ok_aload_n h.1 2 rfl dLw24_1596)) <|
  tcG (sLw (fun p e s m below meth c b cA D A ad0 h hb => ok_callV h.1 h.2.1 (show 3600 ≤ room_1.cells ∧ 2000 * 3600 ≤ room_1.slots from ⟨Nat.le_of_ble_eq_true rfl, Nat.le_of_ble_eq_true rfl⟩) mdX5_thrown siX5_thrown cxX5 mkRL_121 imX5_thrown seX5_thrown ⟨by decide, by decide⟩ aAx_no dLw24_1597)) <|
  tcG (sLw (fun p e s m below meth c b cA D A ad0 h hb => ok_iload h.1 dLw24_1600)) <|
  tcG (sLw (fun p e s m below meth c b cA D A ad0 h hb => ok_icmp_eq h.1 1607 (by decide) dLw24_1602)) <|
  tcG (sLw (fun p e s m below meth c b cA D A ad0 h hb => ok_iconst h.1 ⟨by decide, by decide⟩ dLw24_1605)) <|
  tcG (sLw (fun p e s m below meth c b cA D A ad0 h hb => ok_lret h dLw24_1606)) <|
  tcG (sLw (fun p e s m below meth c b cA D A ad0 h hb => ok_iload h.1 dLw24_1607)) <|
  tcG (sLw (fun p e s m below meth c b cA D A ad0 h hb => ok_if_ne h.1 1624 (by decide) dLw24_1609)) <|
  tcG (sLw (fun p e s m below meth c b cA D A ad0 h hb => ok_aload_n h.1 3 rfl dLw24_1612)) <|
  tcG (sLw (fun p e s m below meth c b cA D A ad0 h hb => ok_iconst h.1 ⟨by decide, by decide⟩ dLw24_1613)) <|
  tcG (sLw (fun p e s m below meth c b cA D A ad0 h hb => ok_lald h.1 dLw24_1614)) <|
  tcG (sLw (fun p e s m below meth c b cA D A ad0 h hb => ok_iload h.1 dLw24_1615)) <|
  tcG (sLw (fun p e s m below meth c b cA D A ad0 h hb => ok_i2l h.1 dLw24_1617)) <|
  tcG (sLw (fun p e s m below meth c b cA D A ad0 h hb => ok_lcmp h.1 dLw24_1618)) <|
  tcG (sLw (fun p e s m below meth c b cA D A ad0 h hb => ok_if_eq h.1 1624 (by decide) dLw24_1619)) <|
  tcG (sLw (fun p e s m below meth c b cA D A ad0 h hb => ok_iconst h.1 ⟨by decide, by decide⟩ dLw24_1622)) <|
  tcG (sLw (fun p e s m below meth c b cA D A ad0 h hb => ok_lret h dLw24_1623)) <|
  tcG (sLw (fun p e s m below meth c b cA D A ad0 h hb => ok_goto h.1 1969 (by decide) dLw24_1624)) <|
  tnG
abbrev cuLw24 : List Nat := [1582, 1594, 1600, 1969]
theorem wLw24_1969 {l : Launch} {L : Nat} {xs : Nat → Int32} {J : aK} {W : Nat → aK} (hW : isW (tbLw24 l L xs) cuLw24 J W) (n : Nat) (ls st : List aV) (μ : aM) (g : Nat) : W (n + 1) 1969 ls st μ g = J 1969 ls st μ g := (hW n 1969 ls st μ g).trans rfl
theorem tLw24_1571 (l : Launch) (L : Nat) (xs : Nat → Int32) : tb (tbLw24 l L xs) 1571 = sLd 1 1572 isR := (rfl)
theorem wLw24_1571 {l : Launch} {L : Nat} {xs : Nat → Int32} {J : aK} {W : Nat → aK} (hW : isW (tbLw24 l L xs) cuLw24 J W) (n : Nat) (ls st : List aV) (μ : aM) (g : Nat) : W (n + 1) 1571 ls st μ g = (sLd 1 1572 isR) (W n) ls st μ g := (hW n 1571 ls st μ g).trans rfl
theorem wLw24_1572 {l : Launch} {L : Nat} {xs : Nat → Int32} {J : aK} {W : Nat → aK} (hW : isW (tbLw24 l L xs) cuLw24 J W) (n : Nat) (ls st : List aV) (μ : aM) (g : Nat) : W (n + 1) 1572 ls st μ g = (sLd 0 1573 isR) (W n) ls st μ g := (hW n 1572 ls st μ g).trans rfl
theorem wLw24_1573 {l : Launch} {L : Nat} {xs : Nat → Int32} {J : aK} {W : Nat → aK} (hW : isW (tbLw24 l L xs) cuLw24 J W) (n : Nat) (ls st : List aV) (μ : aM) (g : Nat) : W (n + 1) 1573 ls st μ g = (sLd 5 1575 isI) (W n) ls st μ g := (hW n 1573 ls st μ g).trans rfl
theorem wLw24_1575 {l : Launch} {L : Nat} {xs : Nat → Int32} {J : aK} {W : Nat → aK} (hW : isW (tbLw24 l L xs) cuLw24 J W) (n : Nat) (ls st : List aV) (μ : aM) (g : Nat) : W (n + 1) 1575 ls st μ g = (sPush (aI 1) 1576) (W n) ls st μ g := (hW n 1575 ls st μ g).trans rfl
theorem wLw24_1576 {l : Launch} {L : Nat} {xs : Nat → Int32} {J : aK} {W : Nat → aK} (hW : isW (tbLw24 l L xs) cuLw24 J W) (n : Nat) (ls st : List aV) (μ : aM) (g : Nat) : W (n + 1) 1576 ls st μ g = (sBin fAdd 1577) (W n) ls st μ g := (hW n 1576 ls st μ g).trans rfl
theorem wLw24_1577 {l : Launch} {L : Nat} {xs : Nat → Int32} {J : aK} {W : Nat → aK} (hW : isW (tbLw24 l L xs) cuLw24 J W) (n : Nat) (ls st : List aV) (μ : aM) (g : Nat) : W (n + 1) 1577 ls st μ g = (sSld L xs 1578) (W n) ls st μ g := (hW n 1577 ls st μ g).trans rfl
theorem wLw24_1578 {l : Launch} {L : Nat} {xs : Nat → Int32} {J : aK} {W : Nat → aK} (hW : isW (tbLw24 l L xs) cuLw24 J W) (n : Nat) (ls st : List aV) (μ : aM) (g : Nat) : W (n + 1) 1578 ls st μ g = (sLd 3 1579 isR) (W n) ls st μ g := (hW n 1578 ls st μ g).trans rfl
theorem wLw24_1579 {l : Launch} {L : Nat} {xs : Nat → Int32} {J : aK} {W : Nat → aK} (hW : isW (tbLw24 l L xs) cuLw24 J W) (n : Nat) (ls st : List aV) (μ : aM) (g : Nat) : W (n + 1) 1579 ls st μ g = (sCallS 3 (fun as μ K => CtH l mdL_volumeAt hhL_volumeAt as μ K) 1582 1 3600) (W n) ls st μ g := (hW n 1579 ls st μ g).trans rfl
theorem tLw24_1582 (l : Launch) (L : Nat) (xs : Nat → Int32) : tb (tbLw24 l L xs) 1582 = sSt 6 1584 isI := (rfl)
theorem wLw24_1582 {l : Launch} {L : Nat} {xs : Nat → Int32} {J : aK} {W : Nat → aK} (hW : isW (tbLw24 l L xs) cuLw24 J W) (n : Nat) (ls st : List aV) (μ : aM) (g : Nat) : W (n + 1) 1582 ls st μ g = J 1582 ls st μ g := (hW n 1582 ls st μ g).trans rfl
theorem wLw24_1584 {l : Launch} {L : Nat} {xs : Nat → Int32} {J : aK} {W : Nat → aK} (hW : isW (tbLw24 l L xs) cuLw24 J W) (n : Nat) (ls st : List aV) (μ : aM) (g : Nat) : W (n + 1) 1584 ls st μ g = (sLd 2 1585 isR) (W n) ls st μ g := (hW n 1584 ls st μ g).trans rfl
theorem wLw24_1585 {l : Launch} {L : Nat} {xs : Nat → Int32} {J : aK} {W : Nat → aK} (hW : isW (tbLw24 l L xs) cuLw24 J W) (n : Nat) (ls st : List aV) (μ : aM) (g : Nat) : W (n + 1) 1585 ls st μ g = (sLd 0 1586 isR) (W n) ls st μ g := (hW n 1585 ls st μ g).trans rfl
theorem wLw24_1586 {l : Launch} {L : Nat} {xs : Nat → Int32} {J : aK} {W : Nat → aK} (hW : isW (tbLw24 l L xs) cuLw24 J W) (n : Nat) (ls st : List aV) (μ : aM) (g : Nat) : W (n + 1) 1586 ls st μ g = (sLd 5 1588 isI) (W n) ls st μ g := (hW n 1586 ls st μ g).trans rfl
theorem wLw24_1588 {l : Launch} {L : Nat} {xs : Nat → Int32} {J : aK} {W : Nat → aK} (hW : isW (tbLw24 l L xs) cuLw24 J W) (n : Nat) (ls st : List aV) (μ : aM) (g : Nat) : W (n + 1) 1588 ls st μ g = (sPush (aI 1) 1589) (W n) ls st μ g := (hW n 1588 ls st μ g).trans rfl
theorem wLw24_1589 {l : Launch} {L : Nat} {xs : Nat → Int32} {J : aK} {W : Nat → aK} (hW : isW (tbLw24 l L xs) cuLw24 J W) (n : Nat) (ls st : List aV) (μ : aM) (g : Nat) : W (n + 1) 1589 ls st μ g = (sBin fAdd 1590) (W n) ls st μ g := (hW n 1589 ls st μ g).trans rfl
theorem wLw24_1590 {l : Launch} {L : Nat} {xs : Nat → Int32} {J : aK} {W : Nat → aK} (hW : isW (tbLw24 l L xs) cuLw24 J W) (n : Nat) (ls st : List aV) (μ : aM) (g : Nat) : W (n + 1) 1590 ls st μ g = (sSld L xs 1591) (W n) ls st μ g := (hW n 1590 ls st μ g).trans rfl
theorem wLw24_1591 {l : Launch} {L : Nat} {xs : Nat → Int32} {J : aK} {W : Nat → aK} (hW : isW (tbLw24 l L xs) cuLw24 J W) (n : Nat) (ls st : List aV) (μ : aM) (g : Nat) : W (n + 1) 1591 ls st μ g = (sCallV 1 5 (fun as μ K => Ct l mdX5_volumeAt as μ K nX) 1594 0 3600) (W n) ls st μ g := (hW n 1591 ls st μ g).trans rfl
theorem tLw24_1594 (l : Launch) (L : Nat) (xs : Nat → Int32) : tb (tbLw24 l L xs) 1594 = sSt 7 1596 isI := (rfl)
theorem wLw24_1594 {l : Launch} {L : Nat} {xs : Nat → Int32} {J : aK} {W : Nat → aK} (hW : isW (tbLw24 l L xs) cuLw24 J W) (n : Nat) (ls st : List aV) (μ : aM) (g : Nat) : W (n + 1) 1594 ls st μ g = J 1594 ls st μ g := (hW n 1594 ls st μ g).trans rfl
theorem wLw24_1596 {l : Launch} {L : Nat} {xs : Nat → Int32} {J : aK} {W : Nat → aK} (hW : isW (tbLw24 l L xs) cuLw24 J W) (n : Nat) (ls st : List aV) (μ : aM) (g : Nat) : W (n + 1) 1596 ls st μ g = (sLd 2 1597 isR) (W n) ls st μ g := (hW n 1596 ls st μ g).trans rfl
theorem wLw24_1597 {l : Launch} {L : Nat} {xs : Nat → Int32} {J : aK} {W : Nat → aK} (hW : isW (tbLw24 l L xs) cuLw24 J W) (n : Nat) (ls st : List aV) (μ : aM) (g : Nat) : W (n + 1) 1597 ls st μ g = (sCallV 0 5 (fun as μ K => Ct l mdX5_thrown as μ K nX) 1600 0 3600) (W n) ls st μ g := (hW n 1597 ls st μ g).trans rfl
theorem tLw24_1600 (l : Launch) (L : Nat) (xs : Nat → Int32) : tb (tbLw24 l L xs) 1600 = sLd 6 1602 isI := (rfl)
theorem wLw24_1600 {l : Launch} {L : Nat} {xs : Nat → Int32} {J : aK} {W : Nat → aK} (hW : isW (tbLw24 l L xs) cuLw24 J W) (n : Nat) (ls st : List aV) (μ : aM) (g : Nat) : W (n + 1) 1600 ls st μ g = J 1600 ls st μ g := (hW n 1600 ls st μ g).trans rfl
theorem wLw24_1602 {l : Launch} {L : Nat} {xs : Nat → Int32} {J : aK} {W : Nat → aK} (hW : isW (tbLw24 l L xs) cuLw24 J W) (n : Nat) (ls st : List aV) (μ : aM) (g : Nat) : W (n + 1) 1602 ls st μ g = (sIc qEq 1607 1605) (W n) ls st μ g := (hW n 1602 ls st μ g).trans rfl
theorem wLw24_1605 {l : Launch} {L : Nat} {xs : Nat → Int32} {J : aK} {W : Nat → aK} (hW : isW (tbLw24 l L xs) cuLw24 J W) (n : Nat) (ls st : List aV) (μ : aM) (g : Nat) : W (n + 1) 1605 ls st μ g = (sPush (aI 0) 1606) (W n) ls st μ g := (hW n 1605 ls st μ g).trans rfl
theorem wLw24_1606 {l : Launch} {L : Nat} {xs : Nat → Int32} {J : aK} {W : Nat → aK} (hW : isW (tbLw24 l L xs) cuLw24 J W) (n : Nat) (ls st : List aV) (μ : aM) (g : Nat) : W (n + 1) 1606 ls st μ g = (sLret) (W n) ls st μ g := (hW n 1606 ls st μ g).trans rfl
theorem wLw24_1607 {l : Launch} {L : Nat} {xs : Nat → Int32} {J : aK} {W : Nat → aK} (hW : isW (tbLw24 l L xs) cuLw24 J W) (n : Nat) (ls st : List aV) (μ : aM) (g : Nat) : W (n + 1) 1607 ls st μ g = (sLd 6 1609 isI) (W n) ls st μ g := (hW n 1607 ls st μ g).trans rfl
theorem wLw24_1609 {l : Launch} {L : Nat} {xs : Nat → Int32} {J : aK} {W : Nat → aK} (hW : isW (tbLw24 l L xs) cuLw24 J W) (n : Nat) (ls st : List aV) (μ : aM) (g : Nat) : W (n + 1) 1609 ls st μ g = (sIf pNe 1624 1612) (W n) ls st μ g := (hW n 1609 ls st μ g).trans rfl
theorem wLw24_1612 {l : Launch} {L : Nat} {xs : Nat → Int32} {J : aK} {W : Nat → aK} (hW : isW (tbLw24 l L xs) cuLw24 J W) (n : Nat) (ls st : List aV) (μ : aM) (g : Nat) : W (n + 1) 1612 ls st μ g = (sLd 3 1613 isR) (W n) ls st μ g := (hW n 1612 ls st μ g).trans rfl
theorem wLw24_1613 {l : Launch} {L : Nat} {xs : Nat → Int32} {J : aK} {W : Nat → aK} (hW : isW (tbLw24 l L xs) cuLw24 J W) (n : Nat) (ls st : List aV) (μ : aM) (g : Nat) : W (n + 1) 1613 ls st μ g = (sPush (aI 0) 1614) (W n) ls st μ g := (hW n 1613 ls st μ g).trans rfl
theorem wLw24_1614 {l : Launch} {L : Nat} {xs : Nat → Int32} {J : aK} {W : Nat → aK} (hW : isW (tbLw24 l L xs) cuLw24 J W) (n : Nat) (ls st : List aV) (μ : aM) (g : Nat) : W (n + 1) 1614 ls st μ g = (sAldL 1615) (W n) ls st μ g := (hW n 1614 ls st μ g).trans rfl
theorem wLw24_1615 {l : Launch} {L : Nat} {xs : Nat → Int32} {J : aK} {W : Nat → aK} (hW : isW (tbLw24 l L xs) cuLw24 J W) (n : Nat) (ls st : List aV) (μ : aM) (g : Nat) : W (n + 1) 1615 ls st μ g = (sLd 7 1617 isI) (W n) ls st μ g := (hW n 1615 ls st μ g).trans rfl
theorem wLw24_1617 {l : Launch} {L : Nat} {xs : Nat → Int32} {J : aK} {W : Nat → aK} (hW : isW (tbLw24 l L xs) cuLw24 J W) (n : Nat) (ls st : List aV) (μ : aM) (g : Nat) : W (n + 1) 1617 ls st μ g = (sI2l 1618) (W n) ls st μ g := (hW n 1617 ls st μ g).trans rfl
theorem wLw24_1618 {l : Launch} {L : Nat} {xs : Nat → Int32} {J : aK} {W : Nat → aK} (hW : isW (tbLw24 l L xs) cuLw24 J W) (n : Nat) (ls st : List aV) (μ : aM) (g : Nat) : W (n + 1) 1618 ls st μ g = (sLcmp 1619) (W n) ls st μ g := (hW n 1618 ls st μ g).trans rfl
theorem wLw24_1619 {l : Launch} {L : Nat} {xs : Nat → Int32} {J : aK} {W : Nat → aK} (hW : isW (tbLw24 l L xs) cuLw24 J W) (n : Nat) (ls st : List aV) (μ : aM) (g : Nat) : W (n + 1) 1619 ls st μ g = (sIf pEq 1624 1622) (W n) ls st μ g := (hW n 1619 ls st μ g).trans rfl
theorem wLw24_1622 {l : Launch} {L : Nat} {xs : Nat → Int32} {J : aK} {W : Nat → aK} (hW : isW (tbLw24 l L xs) cuLw24 J W) (n : Nat) (ls st : List aV) (μ : aM) (g : Nat) : W (n + 1) 1622 ls st μ g = (sPush (aI 0) 1623) (W n) ls st μ g := (hW n 1622 ls st μ g).trans rfl
theorem wLw24_1623 {l : Launch} {L : Nat} {xs : Nat → Int32} {J : aK} {W : Nat → aK} (hW : isW (tbLw24 l L xs) cuLw24 J W) (n : Nat) (ls st : List aV) (μ : aM) (g : Nat) : W (n + 1) 1623 ls st μ g = (sLret) (W n) ls st μ g := (hW n 1623 ls st μ g).trans rfl
theorem wLw24_1624 {l : Launch} {L : Nat} {xs : Nat → Int32} {J : aK} {W : Nat → aK} (hW : isW (tbLw24 l L xs) cuLw24 J W) (n : Nat) (ls st : List aV) (μ : aM) (g : Nat) : W (n + 1) 1624 ls st μ g = (sGoto 1969) (W n) ls st μ g := (hW n 1624 ls st μ g).trans rfl
theorem dLw25_1627 : decode code 1627 = .ok (.aload_n 1, 1) := by decide +kernel
theorem dLw25_1628 : decode code 1628 = .ok (.invokevirtual 207, 3) := by decide +kernel
theorem dLw25_1631 : decode code 1631 = .ok (.aload_n 2, 1) := by decide +kernel
theorem dLw25_1632 : decode code 1632 = .ok (.invokevirtual 210, 3) := by decide +kernel
theorem dLw25_1635 : decode code 1635 = .ok (.if_icmp .eq 334, 3) := by decide +kernel
theorem dLw25_1638 : decode code 1638 = .ok (.iconst 0, 1) := by decide +kernel
theorem dLw25_1639 : decode code 1639 = .ok (.ireturn, 1) := by decide +kernel
def tbLw25 (l : Launch) (L : Nat) (xs : Nat → Int32) : aTb := [
  (1627, sLd 1 1628 isR),
  (1628, sCallV 0 4 (fun as μ K => Ct l mdX4_tradeCount as μ K nX) 1631 0 3600),
  (1631, sLd 2 1632 isR),
  (1632, sCallV 0 5 (fun as μ K => Ct l mdX5_tradeCount as μ K nX) 1635 0 3600),
  (1635, sIc qEq 1969 1638),
  (1638, sPush (aI 0) 1639),
  (1639, sLret)]
theorem snLw25 (l : Launch) (L : Nat) (xs : Nat → Int32) (hL3 : L ≤ 3072) : ∀ q ∈ tbLw25 l L xs, Snd (BL l L xs) q.1 q.2 :=
  tcG (sLw (fun p e s m below meth c b cA D A ad0 h hb => ok_aload_n h.1 1 rfl dLw25_1627)) <|
  tcG (sLw (fun p e s m below meth c b cA D A ad0 h hb => ok_callV h.1 h.2.1 (show 3600 ≤ room_1.cells ∧ 2000 * 3600 ≤ room_1.slots from ⟨Nat.le_of_ble_eq_true rfl, Nat.le_of_ble_eq_true rfl⟩) mdX4_tradeCount siX4_tradeCount cxX4 mkRL_207 imX4_tradeCount seX4_tradeCount ⟨by decide, by decide⟩ aAx_no dLw25_1628)) <|
  tcG (sLw (fun p e s m below meth c b cA D A ad0 h hb => ok_aload_n h.1 2 rfl dLw25_1631)) <|
  tcG (sLw (fun p e s m below meth c b cA D A ad0 h hb => ok_callV h.1 h.2.1 (show 3600 ≤ room_1.cells ∧ 2000 * 3600 ≤ room_1.slots from ⟨Nat.le_of_ble_eq_true rfl, Nat.le_of_ble_eq_true rfl⟩) mdX5_tradeCount siX5_tradeCount cxX5 mkRL_210 imX5_tradeCount seX5_tradeCount ⟨by decide, by decide⟩ aAx_no dLw25_1632)) <|
  tcG (sLw (fun p e s m below meth c b cA D A ad0 h hb => ok_icmp_eq h.1 1969 (by decide) dLw25_1635)) <|
  tcG (sLw (fun p e s m below meth c b cA D A ad0 h hb => ok_iconst h.1 ⟨by decide, by decide⟩ dLw25_1638)) <|
  tcG (sLw (fun p e s m below meth c b cA D A ad0 h hb => ok_lret h dLw25_1639)) <|
  tnG
abbrev cuLw25 : List Nat := [1631, 1635, 1969]
theorem wLw25_1969 {l : Launch} {L : Nat} {xs : Nat → Int32} {J : aK} {W : Nat → aK} (hW : isW (tbLw25 l L xs) cuLw25 J W) (n : Nat) (ls st : List aV) (μ : aM) (g : Nat) : W (n + 1) 1969 ls st μ g = J 1969 ls st μ g := (hW n 1969 ls st μ g).trans rfl
theorem tLw25_1627 (l : Launch) (L : Nat) (xs : Nat → Int32) : tb (tbLw25 l L xs) 1627 = sLd 1 1628 isR := (rfl)
theorem wLw25_1627 {l : Launch} {L : Nat} {xs : Nat → Int32} {J : aK} {W : Nat → aK} (hW : isW (tbLw25 l L xs) cuLw25 J W) (n : Nat) (ls st : List aV) (μ : aM) (g : Nat) : W (n + 1) 1627 ls st μ g = (sLd 1 1628 isR) (W n) ls st μ g := (hW n 1627 ls st μ g).trans rfl
theorem wLw25_1628 {l : Launch} {L : Nat} {xs : Nat → Int32} {J : aK} {W : Nat → aK} (hW : isW (tbLw25 l L xs) cuLw25 J W) (n : Nat) (ls st : List aV) (μ : aM) (g : Nat) : W (n + 1) 1628 ls st μ g = (sCallV 0 4 (fun as μ K => Ct l mdX4_tradeCount as μ K nX) 1631 0 3600) (W n) ls st μ g := (hW n 1628 ls st μ g).trans rfl
theorem tLw25_1631 (l : Launch) (L : Nat) (xs : Nat → Int32) : tb (tbLw25 l L xs) 1631 = sLd 2 1632 isR := (rfl)
theorem wLw25_1631 {l : Launch} {L : Nat} {xs : Nat → Int32} {J : aK} {W : Nat → aK} (hW : isW (tbLw25 l L xs) cuLw25 J W) (n : Nat) (ls st : List aV) (μ : aM) (g : Nat) : W (n + 1) 1631 ls st μ g = J 1631 ls st μ g := (hW n 1631 ls st μ g).trans rfl
theorem wLw25_1632 {l : Launch} {L : Nat} {xs : Nat → Int32} {J : aK} {W : Nat → aK} (hW : isW (tbLw25 l L xs) cuLw25 J W) (n : Nat) (ls st : List aV) (μ : aM) (g : Nat) : W (n + 1) 1632 ls st μ g = (sCallV 0 5 (fun as μ K => Ct l mdX5_tradeCount as μ K nX) 1635 0 3600) (W n) ls st μ g := (hW n 1632 ls st μ g).trans rfl
theorem tLw25_1635 (l : Launch) (L : Nat) (xs : Nat → Int32) : tb (tbLw25 l L xs) 1635 = sIc qEq 1969 1638 := (rfl)
theorem wLw25_1635 {l : Launch} {L : Nat} {xs : Nat → Int32} {J : aK} {W : Nat → aK} (hW : isW (tbLw25 l L xs) cuLw25 J W) (n : Nat) (ls st : List aV) (μ : aM) (g : Nat) : W (n + 1) 1635 ls st μ g = J 1635 ls st μ g := (hW n 1635 ls st μ g).trans rfl
theorem wLw25_1638 {l : Launch} {L : Nat} {xs : Nat → Int32} {J : aK} {W : Nat → aK} (hW : isW (tbLw25 l L xs) cuLw25 J W) (n : Nat) (ls st : List aV) (μ : aM) (g : Nat) : W (n + 1) 1638 ls st μ g = (sPush (aI 0) 1639) (W n) ls st μ g := (hW n 1638 ls st μ g).trans rfl
theorem wLw25_1639 {l : Launch} {L : Nat} {xs : Nat → Int32} {J : aK} {W : Nat → aK} (hW : isW (tbLw25 l L xs) cuLw25 J W) (n : Nat) (ls st : List aV) (μ : aM) (g : Nat) : W (n + 1) 1639 ls st μ g = (sLret) (W n) ls st μ g := (hW n 1639 ls st μ g).trans rfl
theorem dLw26_1640 : decode code 1640 = .ok (.aload_n 1, 1) := by decide +kernel
theorem dLw26_1641 : decode code 1641 = .ok (.aload_n 0, 1) := by decide +kernel
theorem dLw26_1642 : decode code 1642 = .ok (.iload 5, 2) := by decide +kernel
theorem dLw26_1644 : decode code 1644 = .ok (.iconst 1, 1) := by decide +kernel
theorem dLw26_1645 : decode code 1645 = .ok (.iadd, 1) := by decide +kernel
theorem dLw26_1646 : decode code 1646 = .ok (.iaload, 1) := by decide +kernel
theorem dLw26_1647 : decode code 1647 = .ok (.aload_n 3, 1) := by decide +kernel
theorem dLw26_1648 : decode code 1648 = .ok (.invokestatic 211, 3) := by decide +kernel
theorem dLw26_1651 : decode code 1651 = .ok (.istore 6, 2) := by decide +kernel
theorem dLw26_1653 : decode code 1653 = .ok (.aload_n 2, 1) := by decide +kernel
theorem dLw26_1654 : decode code 1654 = .ok (.aload_n 0, 1) := by decide +kernel
theorem dLw26_1655 : decode code 1655 = .ok (.iload 5, 2) := by decide +kernel
theorem dLw26_1657 : decode code 1657 = .ok (.iconst 1, 1) := by decide +kernel
theorem dLw26_1658 : decode code 1658 = .ok (.iadd, 1) := by decide +kernel
theorem dLw26_1659 : decode code 1659 = .ok (.iaload, 1) := by decide +kernel
theorem dLw26_1660 : decode code 1660 = .ok (.invokevirtual 213, 3) := by decide +kernel
theorem dLw26_1663 : decode code 1663 = .ok (.istore 7, 2) := by decide +kernel
theorem dLw26_1665 : decode code 1665 = .ok (.aload_n 2, 1) := by decide +kernel
theorem dLw26_1666 : decode code 1666 = .ok (.invokevirtual 121, 3) := by decide +kernel
theorem dLw26_1669 : decode code 1669 = .ok (.iload 6, 2) := by decide +kernel
theorem dLw26_1671 : decode code 1671 = .ok (.if_icmp .eq 5, 3) := by decide +kernel
theorem dLw26_1674 : decode code 1674 = .ok (.iconst 0, 1) := by decide +kernel
theorem dLw26_1675 : decode code 1675 = .ok (.ireturn, 1) := by decide +kernel
theorem dLw26_1676 : decode code 1676 = .ok (.iload 6, 2) := by decide +kernel
theorem dLw26_1678 : decode code 1678 = .ok (.ifCond .ne 15, 3) := by decide +kernel
theorem dLw26_1681 : decode code 1681 = .ok (.aload_n 3, 1) := by decide +kernel
theorem dLw26_1682 : decode code 1682 = .ok (.iconst 0, 1) := by decide +kernel
theorem dLw26_1683 : decode code 1683 = .ok (.laload, 1) := by decide +kernel
theorem dLw26_1684 : decode code 1684 = .ok (.iload 7, 2) := by decide +kernel
theorem dLw26_1686 : decode code 1686 = .ok (.i2l, 1) := by decide +kernel
theorem dLw26_1687 : decode code 1687 = .ok (.lcmp, 1) := by decide +kernel
theorem dLw26_1688 : decode code 1688 = .ok (.ifCond .eq 5, 3) := by decide +kernel
theorem dLw26_1691 : decode code 1691 = .ok (.iconst 0, 1) := by decide +kernel
theorem dLw26_1692 : decode code 1692 = .ok (.ireturn, 1) := by decide +kernel
theorem dLw26_1693 : decode code 1693 = .ok (.goto 276, 3) := by decide +kernel
def tbLw26 (l : Launch) (L : Nat) (xs : Nat → Int32) : aTb := [
  (1640, sLd 1 1641 isR),
  (1641, sLd 0 1642 isR),
  (1642, sLd 5 1644 isI),
  (1644, sPush (aI 1) 1645),
  (1645, sBin fAdd 1646),
  (1646, sSld L xs 1647),
  (1647, sLd 3 1648 isR),
  (1648, sCallS 3 (fun as μ K => CtH l mdL_tradePrice hhL_tradePrice as μ K) 1651 1 3600),
  (1651, sSt 6 1653 isI),
  (1653, sLd 2 1654 isR),
  (1654, sLd 0 1655 isR),
  (1655, sLd 5 1657 isI),
  (1657, sPush (aI 1) 1658),
  (1658, sBin fAdd 1659),
  (1659, sSld L xs 1660),
  (1660, sCallV 1 5 (fun as μ K => Ct l mdX5_tradePrice as μ K nX) 1663 0 3600),
  (1663, sSt 7 1665 isI),
  (1665, sLd 2 1666 isR),
  (1666, sCallV 0 5 (fun as μ K => Ct l mdX5_thrown as μ K nX) 1669 0 3600),
  (1669, sLd 6 1671 isI),
  (1671, sIc qEq 1676 1674),
  (1674, sPush (aI 0) 1675),
  (1675, sLret),
  (1676, sLd 6 1678 isI),
  (1678, sIf pNe 1693 1681),
  (1681, sLd 3 1682 isR),
  (1682, sPush (aI 0) 1683),
  (1683, sAldL 1684),
  (1684, sLd 7 1686 isI),
  (1686, sI2l 1687),
  (1687, sLcmp 1688),
  (1688, sIf pEq 1693 1691),
  (1691, sPush (aI 0) 1692),
  (1692, sLret),
  (1693, sGoto 1969)]
theorem snLw26 (l : Launch) (L : Nat) (xs : Nat → Int32) (hL3 : L ≤ 3072) : ∀ q ∈ tbLw26 l L xs, Snd (BL l L xs) q.1 q.2 :=
  tcG (sLw (fun p e s m below meth c b cA D A ad0 h hb => ok_aload_n h.1 1 rfl dLw26_1640)) <|
  tcG (sLw (fun p e s m below meth c b cA D A ad0 h hb => ok_aload_n h.1 0 rfl dLw26_1641)) <|
  tcG (sLw (fun p e s m below meth c b cA D A ad0 h hb => ok_iload h.1 dLw26_1642)) <|
  tcG (sLw (fun p e s m below meth c b cA D A ad0 h hb => ok_iconst h.1 ⟨by decide, by decide⟩ dLw26_1644)) <|
  tcG (sLw (fun p e s m below meth c b cA D A ad0 h hb => ok_iadd h.1 dLw26_1645)) <|
  tcG (sLw (fun p e s m below meth c b cA D A ad0 h hb => ok_sld h hb dLw26_1646)) <|
  tcG (sLw (fun p e s m below meth c b cA D A ad0 h hb => ok_aload_n h.1 3 rfl dLw26_1647)) <|
  tcG (sLw (fun p e s m below meth c b cA D A ad0 h hb => ok_callSH h.1 h.2.1 (show 3600 ≤ room_1.cells ∧ 2000 * 3600 ≤ room_1.slots from ⟨Nat.le_of_ble_eq_true rfl, Nat.le_of_ble_eq_true rfl⟩) mdL_tradePrice hhL_tradePrice siL_tradePrice mkRL_211 stL_tradePrice ⟨by decide, by decide⟩ dLw26_1648)) <|
  tcG (sLw (fun p e s m below meth c b cA D A ad0 h hb => ok_istore h.1 (by decide) dLw26_1651)) <|
  tcG (sLw (fun p e s m below meth c b cA D A ad0 h hb => ok_aload_n h.1 2 rfl dLw26_1653)) <|
  tcG (sLw (fun p e s m below meth c b cA D A ad0 h hb => ok_aload_n h.1 0 rfl dLw26_1654)) <|
  tcG (sLw (fun p e s m below meth c b cA D A ad0 h hb => ok_iload h.1 dLw26_1655)) <|
  tcG (sLw (fun p e s m below meth c b cA D A ad0 h hb => ok_iconst h.1 ⟨by decide, by decide⟩ dLw26_1657)) <|
  tcG (sLw (fun p e s m below meth c b cA D A ad0 h hb => ok_iadd h.1 dLw26_1658)) <|
  tcG (sLw (fun p e s m below meth c b cA D A ad0 h hb => ok_sld h hb dLw26_1659)) <|
  tcG (sLw (fun p e s m below meth c b cA D A ad0 h hb => ok_callV h.1 h.2.1 (show 3600 ≤ room_1.cells ∧ 2000 * 3600 ≤ room_1.slots from ⟨Nat.le_of_ble_eq_true rfl, Nat.le_of_ble_eq_true rfl⟩) mdX5_tradePrice siX5_tradePrice cxX5 mkRL_213 imX5_tradePrice seX5_tradePrice ⟨by decide, by decide⟩ aAx_no dLw26_1660)) <|
  tcG (sLw (fun p e s m below meth c b cA D A ad0 h hb => ok_istore h.1 (by decide) dLw26_1663)) <|
  tcG (sLw (fun p e s m below meth c b cA D A ad0 h hb => ok_aload_n h.1 2 rfl dLw26_1665)) <|
  tcG (sLw (fun p e s m below meth c b cA D A ad0 h hb => ok_callV h.1 h.2.1 (show 3600 ≤ room_1.cells ∧ 2000 * 3600 ≤ room_1.slots from ⟨Nat.le_of_ble_eq_true rfl, Nat.le_of_ble_eq_true rfl⟩) mdX5_thrown siX5_thrown cxX5 mkRL_121 imX5_thrown seX5_thrown ⟨by decide, by decide⟩ aAx_no dLw26_1666)) <|
  tcG (sLw (fun p e s m below meth c b cA D A ad0 h hb => ok_iload h.1 dLw26_1669)) <|
  tcG (sLw (fun p e s m below meth c b cA D A ad0 h hb => ok_icmp_eq h.1 1676 (by decide) dLw26_1671)) <|
  tcG (sLw (fun p e s m below meth c b cA D A ad0 h hb => ok_iconst h.1 ⟨by decide, by decide⟩ dLw26_1674)) <|
  tcG (sLw (fun p e s m below meth c b cA D A ad0 h hb => ok_lret h dLw26_1675)) <|
  tcG (sLw (fun p e s m below meth c b cA D A ad0 h hb => ok_iload h.1 dLw26_1676)) <|
  tcG (sLw (fun p e s m below meth c b cA D A ad0 h hb => ok_if_ne h.1 1693 (by decide) dLw26_1678)) <|
  tcG (sLw (fun p e s m below meth c b cA D A ad0 h hb => ok_aload_n h.1 3 rfl dLw26_1681)) <|
  tcG (sLw (fun p e s m below meth c b cA D A ad0 h hb => ok_iconst h.1 ⟨by decide, by decide⟩ dLw26_1682)) <|
  tcG (sLw (fun p e s m below meth c b cA D A ad0 h hb => ok_lald h.1 dLw26_1683)) <|
  tcG (sLw (fun p e s m below meth c b cA D A ad0 h hb => ok_iload h.1 dLw26_1684)) <|
  tcG (sLw (fun p e s m below meth c b cA D A ad0 h hb => ok_i2l h.1 dLw26_1686)) <|
  tcG (sLw (fun p e s m below meth c b cA D A ad0 h hb => ok_lcmp h.1 dLw26_1687)) <|
  tcG (sLw (fun p e s m below meth c b cA D A ad0 h hb => ok_if_eq h.1 1693 (by decide) dLw26_1688)) <|
  tcG (sLw (fun p e s m below meth c b cA D A ad0 h hb => ok_iconst h.1 ⟨by decide, by decide⟩ dLw26_1691)) <|
  tcG (sLw (fun p e s m below meth c b cA D A ad0 h hb => ok_lret h dLw26_1692)) <|
  tcG (sLw (fun p e s m below meth c b cA D A ad0 h hb => ok_goto h.1 1969 (by decide) dLw26_1693)) <|
  tnG
abbrev cuLw26 : List Nat := [1651, 1663, 1669, 1969]
theorem wLw26_1969 {l : Launch} {L : Nat} {xs : Nat → Int32} {J : aK} {W : Nat → aK} (hW : isW (tbLw26 l L xs) cuLw26 J W) (n : Nat) (ls st : List aV) (μ : aM) (g : Nat) : W (n + 1) 1969 ls st μ g = J 1969 ls st μ g := (hW n 1969 ls st μ g).trans rfl
theorem tLw26_1640 (l : Launch) (L : Nat) (xs : Nat → Int32) : tb (tbLw26 l L xs) 1640 = sLd 1 1641 isR := (rfl)
theorem wLw26_1640 {l : Launch} {L : Nat} {xs : Nat → Int32} {J : aK} {W : Nat → aK} (hW : isW (tbLw26 l L xs) cuLw26 J W) (n : Nat) (ls st : List aV) (μ : aM) (g : Nat) : W (n + 1) 1640 ls st μ g = (sLd 1 1641 isR) (W n) ls st μ g := (hW n 1640 ls st μ g).trans rfl
theorem wLw26_1641 {l : Launch} {L : Nat} {xs : Nat → Int32} {J : aK} {W : Nat → aK} (hW : isW (tbLw26 l L xs) cuLw26 J W) (n : Nat) (ls st : List aV) (μ : aM) (g : Nat) : W (n + 1) 1641 ls st μ g = (sLd 0 1642 isR) (W n) ls st μ g := (hW n 1641 ls st μ g).trans rfl
theorem wLw26_1642 {l : Launch} {L : Nat} {xs : Nat → Int32} {J : aK} {W : Nat → aK} (hW : isW (tbLw26 l L xs) cuLw26 J W) (n : Nat) (ls st : List aV) (μ : aM) (g : Nat) : W (n + 1) 1642 ls st μ g = (sLd 5 1644 isI) (W n) ls st μ g := (hW n 1642 ls st μ g).trans rfl
theorem wLw26_1644 {l : Launch} {L : Nat} {xs : Nat → Int32} {J : aK} {W : Nat → aK} (hW : isW (tbLw26 l L xs) cuLw26 J W) (n : Nat) (ls st : List aV) (μ : aM) (g : Nat) : W (n + 1) 1644 ls st μ g = (sPush (aI 1) 1645) (W n) ls st μ g := (hW n 1644 ls st μ g).trans rfl
theorem wLw26_1645 {l : Launch} {L : Nat} {xs : Nat → Int32} {J : aK} {W : Nat → aK} (hW : isW (tbLw26 l L xs) cuLw26 J W) (n : Nat) (ls st : List aV) (μ : aM) (g : Nat) : W (n + 1) 1645 ls st μ g = (sBin fAdd 1646) (W n) ls st μ g := (hW n 1645 ls st μ g).trans rfl
theorem wLw26_1646 {l : Launch} {L : Nat} {xs : Nat → Int32} {J : aK} {W : Nat → aK} (hW : isW (tbLw26 l L xs) cuLw26 J W) (n : Nat) (ls st : List aV) (μ : aM) (g : Nat) : W (n + 1) 1646 ls st μ g = (sSld L xs 1647) (W n) ls st μ g := (hW n 1646 ls st μ g).trans rfl
theorem wLw26_1647 {l : Launch} {L : Nat} {xs : Nat → Int32} {J : aK} {W : Nat → aK} (hW : isW (tbLw26 l L xs) cuLw26 J W) (n : Nat) (ls st : List aV) (μ : aM) (g : Nat) : W (n + 1) 1647 ls st μ g = (sLd 3 1648 isR) (W n) ls st μ g := (hW n 1647 ls st μ g).trans rfl
theorem wLw26_1648 {l : Launch} {L : Nat} {xs : Nat → Int32} {J : aK} {W : Nat → aK} (hW : isW (tbLw26 l L xs) cuLw26 J W) (n : Nat) (ls st : List aV) (μ : aM) (g : Nat) : W (n + 1) 1648 ls st μ g = (sCallS 3 (fun as μ K => CtH l mdL_tradePrice hhL_tradePrice as μ K) 1651 1 3600) (W n) ls st μ g := (hW n 1648 ls st μ g).trans rfl
theorem tLw26_1651 (l : Launch) (L : Nat) (xs : Nat → Int32) : tb (tbLw26 l L xs) 1651 = sSt 6 1653 isI := (rfl)
theorem wLw26_1651 {l : Launch} {L : Nat} {xs : Nat → Int32} {J : aK} {W : Nat → aK} (hW : isW (tbLw26 l L xs) cuLw26 J W) (n : Nat) (ls st : List aV) (μ : aM) (g : Nat) : W (n + 1) 1651 ls st μ g = J 1651 ls st μ g := (hW n 1651 ls st μ g).trans rfl
theorem wLw26_1653 {l : Launch} {L : Nat} {xs : Nat → Int32} {J : aK} {W : Nat → aK} (hW : isW (tbLw26 l L xs) cuLw26 J W) (n : Nat) (ls st : List aV) (μ : aM) (g : Nat) : W (n + 1) 1653 ls st μ g = (sLd 2 1654 isR) (W n) ls st μ g := (hW n 1653 ls st μ g).trans rfl
theorem wLw26_1654 {l : Launch} {L : Nat} {xs : Nat → Int32} {J : aK} {W : Nat → aK} (hW : isW (tbLw26 l L xs) cuLw26 J W) (n : Nat) (ls st : List aV) (μ : aM) (g : Nat) : W (n + 1) 1654 ls st μ g = (sLd 0 1655 isR) (W n) ls st μ g := (hW n 1654 ls st μ g).trans rfl
theorem wLw26_1655 {l : Launch} {L : Nat} {xs : Nat → Int32} {J : aK} {W : Nat → aK} (hW : isW (tbLw26 l L xs) cuLw26 J W) (n : Nat) (ls st : List aV) (μ : aM) (g : Nat) : W (n + 1) 1655 ls st μ g = (sLd 5 1657 isI) (W n) ls st μ g := (hW n 1655 ls st μ g).trans rfl
theorem wLw26_1657 {l : Launch} {L : Nat} {xs : Nat → Int32} {J : aK} {W : Nat → aK} (hW : isW (tbLw26 l L xs) cuLw26 J W) (n : Nat) (ls st : List aV) (μ : aM) (g : Nat) : W (n + 1) 1657 ls st μ g = (sPush (aI 1) 1658) (W n) ls st μ g := (hW n 1657 ls st μ g).trans rfl
theorem wLw26_1658 {l : Launch} {L : Nat} {xs : Nat → Int32} {J : aK} {W : Nat → aK} (hW : isW (tbLw26 l L xs) cuLw26 J W) (n : Nat) (ls st : List aV) (μ : aM) (g : Nat) : W (n + 1) 1658 ls st μ g = (sBin fAdd 1659) (W n) ls st μ g := (hW n 1658 ls st μ g).trans rfl
theorem wLw26_1659 {l : Launch} {L : Nat} {xs : Nat → Int32} {J : aK} {W : Nat → aK} (hW : isW (tbLw26 l L xs) cuLw26 J W) (n : Nat) (ls st : List aV) (μ : aM) (g : Nat) : W (n + 1) 1659 ls st μ g = (sSld L xs 1660) (W n) ls st μ g := (hW n 1659 ls st μ g).trans rfl
theorem wLw26_1660 {l : Launch} {L : Nat} {xs : Nat → Int32} {J : aK} {W : Nat → aK} (hW : isW (tbLw26 l L xs) cuLw26 J W) (n : Nat) (ls st : List aV) (μ : aM) (g : Nat) : W (n + 1) 1660 ls st μ g = (sCallV 1 5 (fun as μ K => Ct l mdX5_tradePrice as μ K nX) 1663 0 3600) (W n) ls st μ g := (hW n 1660 ls st μ g).trans rfl
theorem tLw26_1663 (l : Launch) (L : Nat) (xs : Nat → Int32) : tb (tbLw26 l L xs) 1663 = sSt 7 1665 isI := (rfl)
theorem wLw26_1663 {l : Launch} {L : Nat} {xs : Nat → Int32} {J : aK} {W : Nat → aK} (hW : isW (tbLw26 l L xs) cuLw26 J W) (n : Nat) (ls st : List aV) (μ : aM) (g : Nat) : W (n + 1) 1663 ls st μ g = J 1663 ls st μ g := (hW n 1663 ls st μ g).trans rfl
theorem wLw26_1665 {l : Launch} {L : Nat} {xs : Nat → Int32} {J : aK} {W : Nat → aK} (hW : isW (tbLw26 l L xs) cuLw26 J W) (n : Nat) (ls st : List aV) (μ : aM) (g : Nat) : W (n + 1) 1665 ls st μ g = (sLd 2 1666 isR) (W n) ls st μ g := (hW n 1665 ls st μ g).trans rfl
theorem wLw26_1666 {l : Launch} {L : Nat} {xs : Nat → Int32} {J : aK} {W : Nat → aK} (hW : isW (tbLw26 l L xs) cuLw26 J W) (n : Nat) (ls st : List aV) (μ : aM) (g : Nat) : W (n + 1) 1666 ls st μ g = (sCallV 0 5 (fun as μ K => Ct l mdX5_thrown as μ K nX) 1669 0 3600) (W n) ls st μ g := (hW n 1666 ls st μ g).trans rfl
theorem tLw26_1669 (l : Launch) (L : Nat) (xs : Nat → Int32) : tb (tbLw26 l L xs) 1669 = sLd 6 1671 isI := (rfl)
theorem wLw26_1669 {l : Launch} {L : Nat} {xs : Nat → Int32} {J : aK} {W : Nat → aK} (hW : isW (tbLw26 l L xs) cuLw26 J W) (n : Nat) (ls st : List aV) (μ : aM) (g : Nat) : W (n + 1) 1669 ls st μ g = J 1669 ls st μ g := (hW n 1669 ls st μ g).trans rfl
theorem wLw26_1671 {l : Launch} {L : Nat} {xs : Nat → Int32} {J : aK} {W : Nat → aK} (hW : isW (tbLw26 l L xs) cuLw26 J W) (n : Nat) (ls st : List aV) (μ : aM) (g : Nat) : W (n + 1) 1671 ls st μ g = (sIc qEq 1676 1674) (W n) ls st μ g := (hW n 1671 ls st μ g).trans rfl
theorem wLw26_1674 {l : Launch} {L : Nat} {xs : Nat → Int32} {J : aK} {W : Nat → aK} (hW : isW (tbLw26 l L xs) cuLw26 J W) (n : Nat) (ls st : List aV) (μ : aM) (g : Nat) : W (n + 1) 1674 ls st μ g = (sPush (aI 0) 1675) (W n) ls st μ g := (hW n 1674 ls st μ g).trans rfl
theorem wLw26_1675 {l : Launch} {L : Nat} {xs : Nat → Int32} {J : aK} {W : Nat → aK} (hW : isW (tbLw26 l L xs) cuLw26 J W) (n : Nat) (ls st : List aV) (μ : aM) (g : Nat) : W (n + 1) 1675 ls st μ g = (sLret) (W n) ls st μ g := (hW n 1675 ls st μ g).trans rfl
theorem wLw26_1676 {l : Launch} {L : Nat} {xs : Nat → Int32} {J : aK} {W : Nat → aK} (hW : isW (tbLw26 l L xs) cuLw26 J W) (n : Nat) (ls st : List aV) (μ : aM) (g : Nat) : W (n + 1) 1676 ls st μ g = (sLd 6 1678 isI) (W n) ls st μ g := (hW n 1676 ls st μ g).trans rfl
theorem wLw26_1678 {l : Launch} {L : Nat} {xs : Nat → Int32} {J : aK} {W : Nat → aK} (hW : isW (tbLw26 l L xs) cuLw26 J W) (n : Nat) (ls st : List aV) (μ : aM) (g : Nat) : W (n + 1) 1678 ls st μ g = (sIf pNe 1693 1681) (W n) ls st μ g := (hW n 1678 ls st μ g).trans rfl
theorem wLw26_1681 {l : Launch} {L : Nat} {xs : Nat → Int32} {J : aK} {W : Nat → aK} (hW : isW (tbLw26 l L xs) cuLw26 J W) (n : Nat) (ls st : List aV) (μ : aM) (g : Nat) : W (n + 1) 1681 ls st μ g = (sLd 3 1682 isR) (W n) ls st μ g := (hW n 1681 ls st μ g).trans rfl
theorem wLw26_1682 {l : Launch} {L : Nat} {xs : Nat → Int32} {J : aK} {W : Nat → aK} (hW : isW (tbLw26 l L xs) cuLw26 J W) (n : Nat) (ls st : List aV) (μ : aM) (g : Nat) : W (n + 1) 1682 ls st μ g = (sPush (aI 0) 1683) (W n) ls st μ g := (hW n 1682 ls st μ g).trans rfl
theorem wLw26_1683 {l : Launch} {L : Nat} {xs : Nat → Int32} {J : aK} {W : Nat → aK} (hW : isW (tbLw26 l L xs) cuLw26 J W) (n : Nat) (ls st : List aV) (μ : aM) (g : Nat) : W (n + 1) 1683 ls st μ g = (sAldL 1684) (W n) ls st μ g := (hW n 1683 ls st μ g).trans rfl
theorem wLw26_1684 {l : Launch} {L : Nat} {xs : Nat → Int32} {J : aK} {W : Nat → aK} (hW : isW (tbLw26 l L xs) cuLw26 J W) (n : Nat) (ls st : List aV) (μ : aM) (g : Nat) : W (n + 1) 1684 ls st μ g = (sLd 7 1686 isI) (W n) ls st μ g := (hW n 1684 ls st μ g).trans rfl
theorem wLw26_1686 {l : Launch} {L : Nat} {xs : Nat → Int32} {J : aK} {W : Nat → aK} (hW : isW (tbLw26 l L xs) cuLw26 J W) (n : Nat) (ls st : List aV) (μ : aM) (g : Nat) : W (n + 1) 1686 ls st μ g = (sI2l 1687) (W n) ls st μ g := (hW n 1686 ls st μ g).trans rfl
theorem wLw26_1687 {l : Launch} {L : Nat} {xs : Nat → Int32} {J : aK} {W : Nat → aK} (hW : isW (tbLw26 l L xs) cuLw26 J W) (n : Nat) (ls st : List aV) (μ : aM) (g : Nat) : W (n + 1) 1687 ls st μ g = (sLcmp 1688) (W n) ls st μ g := (hW n 1687 ls st μ g).trans rfl
theorem wLw26_1688 {l : Launch} {L : Nat} {xs : Nat → Int32} {J : aK} {W : Nat → aK} (hW : isW (tbLw26 l L xs) cuLw26 J W) (n : Nat) (ls st : List aV) (μ : aM) (g : Nat) : W (n + 1) 1688 ls st μ g = (sIf pEq 1693 1691) (W n) ls st μ g := (hW n 1688 ls st μ g).trans rfl
theorem wLw26_1691 {l : Launch} {L : Nat} {xs : Nat → Int32} {J : aK} {W : Nat → aK} (hW : isW (tbLw26 l L xs) cuLw26 J W) (n : Nat) (ls st : List aV) (μ : aM) (g : Nat) : W (n + 1) 1691 ls st μ g = (sPush (aI 0) 1692) (W n) ls st μ g := (hW n 1691 ls st μ g).trans rfl
theorem wLw26_1692 {l : Launch} {L : Nat} {xs : Nat → Int32} {J : aK} {W : Nat → aK} (hW : isW (tbLw26 l L xs) cuLw26 J W) (n : Nat) (ls st : List aV) (μ : aM) (g : Nat) : W (n + 1) 1692 ls st μ g = (sLret) (W n) ls st μ g := (hW n 1692 ls st μ g).trans rfl
theorem wLw26_1693 {l : Launch} {L : Nat} {xs : Nat → Int32} {J : aK} {W : Nat → aK} (hW : isW (tbLw26 l L xs) cuLw26 J W) (n : Nat) (ls st : List aV) (μ : aM) (g : Nat) : W (n + 1) 1693 ls st μ g = (sGoto 1969) (W n) ls st μ g := (hW n 1693 ls st μ g).trans rfl
theorem dLw27_1696 : decode code 1696 = .ok (.aload_n 1, 1) := by decide +kernel
theorem dLw27_1697 : decode code 1697 = .ok (.aload_n 0, 1) := by decide +kernel
theorem dLw27_1698 : decode code 1698 = .ok (.iload 5, 2) := by decide +kernel
theorem dLw27_1700 : decode code 1700 = .ok (.iconst 1, 1) := by decide +kernel
theorem dLw27_1701 : decode code 1701 = .ok (.iadd, 1) := by decide +kernel
theorem dLw27_1702 : decode code 1702 = .ok (.iaload, 1) := by decide +kernel
theorem dLw27_1703 : decode code 1703 = .ok (.aload_n 3, 1) := by decide +kernel
theorem dLw27_1704 : decode code 1704 = .ok (.invokestatic 214, 3) := by decide +kernel
theorem dLw27_1707 : decode code 1707 = .ok (.istore 6, 2) := by decide +kernel
theorem dLw27_1709 : decode code 1709 = .ok (.aload_n 2, 1) := by decide +kernel
theorem dLw27_1710 : decode code 1710 = .ok (.aload_n 0, 1) := by decide +kernel
theorem dLw27_1711 : decode code 1711 = .ok (.iload 5, 2) := by decide +kernel
theorem dLw27_1713 : decode code 1713 = .ok (.iconst 1, 1) := by decide +kernel
theorem dLw27_1714 : decode code 1714 = .ok (.iadd, 1) := by decide +kernel
theorem dLw27_1715 : decode code 1715 = .ok (.iaload, 1) := by decide +kernel
theorem dLw27_1716 : decode code 1716 = .ok (.invokevirtual 216, 3) := by decide +kernel
theorem dLw27_1719 : decode code 1719 = .ok (.istore 7, 2) := by decide +kernel
theorem dLw27_1721 : decode code 1721 = .ok (.aload_n 2, 1) := by decide +kernel
theorem dLw27_1722 : decode code 1722 = .ok (.invokevirtual 121, 3) := by decide +kernel
theorem dLw27_1725 : decode code 1725 = .ok (.iload 6, 2) := by decide +kernel
theorem dLw27_1727 : decode code 1727 = .ok (.if_icmp .eq 5, 3) := by decide +kernel
theorem dLw27_1730 : decode code 1730 = .ok (.iconst 0, 1) := by decide +kernel
theorem dLw27_1731 : decode code 1731 = .ok (.ireturn, 1) := by decide +kernel
theorem dLw27_1732 : decode code 1732 = .ok (.iload 6, 2) := by decide +kernel
theorem dLw27_1734 : decode code 1734 = .ok (.ifCond .ne 15, 3) := by decide +kernel
theorem dLw27_1737 : decode code 1737 = .ok (.aload_n 3, 1) := by decide +kernel
theorem dLw27_1738 : decode code 1738 = .ok (.iconst 0, 1) := by decide +kernel
theorem dLw27_1739 : decode code 1739 = .ok (.laload, 1) := by decide +kernel
theorem dLw27_1740 : decode code 1740 = .ok (.iload 7, 2) := by decide +kernel
theorem dLw27_1742 : decode code 1742 = .ok (.i2l, 1) := by decide +kernel
theorem dLw27_1743 : decode code 1743 = .ok (.lcmp, 1) := by decide +kernel
theorem dLw27_1744 : decode code 1744 = .ok (.ifCond .eq 5, 3) := by decide +kernel
theorem dLw27_1747 : decode code 1747 = .ok (.iconst 0, 1) := by decide +kernel
theorem dLw27_1748 : decode code 1748 = .ok (.ireturn, 1) := by decide +kernel
theorem dLw27_1749 : decode code 1749 = .ok (.goto 220, 3) := by decide +kernel
def tbLw27 (l : Launch) (L : Nat) (xs : Nat → Int32) : aTb := [
  (1696, sLd 1 1697 isR),
  (1697, sLd 0 1698 isR),
  (1698, sLd 5 1700 isI),
  (1700, sPush (aI 1) 1701),
  (1701, sBin fAdd 1702),
  (1702, sSld L xs 1703),
  (1703, sLd 3 1704 isR),
  (1704, sCallS 3 (fun as μ K => CtH l mdL_tradeAmount hhL_tradeAmount as μ K) 1707 1 3600),
  (1707, sSt 6 1709 isI),
  (1709, sLd 2 1710 isR),
  (1710, sLd 0 1711 isR),
  (1711, sLd 5 1713 isI),
  (1713, sPush (aI 1) 1714),
  (1714, sBin fAdd 1715),
  (1715, sSld L xs 1716),
  (1716, sCallV 1 5 (fun as μ K => Ct l mdX5_tradeAmount as μ K nX) 1719 0 3600),
  (1719, sSt 7 1721 isI),
  (1721, sLd 2 1722 isR),
  (1722, sCallV 0 5 (fun as μ K => Ct l mdX5_thrown as μ K nX) 1725 0 3600),
  (1725, sLd 6 1727 isI),
  (1727, sIc qEq 1732 1730),
  (1730, sPush (aI 0) 1731),
  (1731, sLret),
  (1732, sLd 6 1734 isI),
  (1734, sIf pNe 1749 1737),
  (1737, sLd 3 1738 isR),
  (1738, sPush (aI 0) 1739),
  (1739, sAldL 1740),
  (1740, sLd 7 1742 isI),
  (1742, sI2l 1743),
  (1743, sLcmp 1744),
  (1744, sIf pEq 1749 1747),
  (1747, sPush (aI 0) 1748),
  (1748, sLret),
  (1749, sGoto 1969)]
theorem snLw27 (l : Launch) (L : Nat) (xs : Nat → Int32) (hL3 : L ≤ 3072) : ∀ q ∈ tbLw27 l L xs, Snd (BL l L xs) q.1 q.2 :=
  tcG (sLw (fun p e s m below meth c b cA D A ad0 h hb => ok_aload_n h.1 1 rfl dLw27_1696)) <|
  tcG (sLw (fun p e s m below meth c b cA D A ad0 h hb => ok_aload_n h.1 0 rfl dLw27_1697)) <|
  tcG (sLw (fun p e s m below meth c b cA D A ad0 h hb => ok_iload h.1 dLw27_1698)) <|
  tcG (sLw (fun p e s m below meth c b cA D A ad0 h hb => ok_iconst h.1 ⟨by decide, by decide⟩ dLw27_1700)) <|
  tcG (sLw (fun p e s m below meth c b cA D A ad0 h hb => ok_iadd h.1 dLw27_1701)) <|
  tcG (sLw (fun p e s m below meth c b cA D A ad0 h hb => ok_sld h hb dLw27_1702)) <|
  tcG (sLw (fun p e s m below meth c b cA D A ad0 h hb => ok_aload_n h.1 3 rfl dLw27_1703)) <|
  tcG (sLw (fun p e s m below meth c b cA D A ad0 h hb => ok_callSH h.1 h.2.1 (show 3600 ≤ room_1.cells ∧ 2000 * 3600 ≤ room_1.slots from ⟨Nat.le_of_ble_eq_true rfl, Nat.le_of_ble_eq_true rfl⟩) mdL_tradeAmount hhL_tradeAmount siL_tradeAmount mkRL_214 stL_tradeAmount ⟨by decide, by decide⟩ dLw27_1704)) <|
  tcG (sLw (fun p e s m below meth c b cA D A ad0 h hb => ok_istore h.1 (by decide) dLw27_1707)) <|
  tcG (sLw (fun p e s m below meth c b cA D A ad0 h hb => ok_aload_n h.1 2 rfl dLw27_1709)) <|
  tcG (sLw (fun p e s m below meth c b cA D A ad0 h hb => ok_aload_n h.1 0 rfl dLw27_1710)) <|
  tcG (sLw (fun p e s m below meth c b cA D A ad0 h hb => ok_iload h.1 dLw27_1711)) <|
  tcG (sLw (fun p e s m below meth c b cA D A ad0 h hb => ok_iconst h.1 ⟨by decide, by decide⟩ dLw27_1713)) <|
  tcG (sLw (fun p e s m below meth c b cA D A ad0 h hb => ok_iadd h.1 dLw27_1714)) <|
  tcG (sLw (fun p e s m below meth c b cA D A ad0 h hb => ok_sld h hb dLw27_1715)) <|
  tcG (sLw (fun p e s m below meth c b cA D A ad0 h hb => ok_callV h.1 h.2.1 (show 3600 ≤ room_1.cells ∧ 2000 * 3600 ≤ room_1.slots from ⟨Nat.le_of_ble_eq_true rfl, Nat.le_of_ble_eq_true rfl⟩) mdX5_tradeAmount siX5_tradeAmount cxX5 mkRL_216 imX5_tradeAmount seX5_tradeAmount ⟨by decide, by decide⟩ aAx_no dLw27_1716)) <|
  tcG (sLw (fun p e s m below meth c b cA D A ad0 h hb => ok_istore h.1 (by decide) dLw27_1719)) <|
  tcG (sLw (fun p e s m below meth c b cA D A ad0 h hb => ok_aload_n h.1 2 rfl dLw27_1721)) <|
  tcG (sLw (fun p e s m below meth c b cA D A ad0 h hb => ok_callV h.1 h.2.1 (show 3600 ≤ room_1.cells ∧ 2000 * 3600 ≤ room_1.slots from ⟨Nat.le_of_ble_eq_true rfl, Nat.le_of_ble_eq_true rfl⟩) mdX5_thrown siX5_thrown cxX5 mkRL_121 imX5_thrown seX5_thrown ⟨by decide, by decide⟩ aAx_no dLw27_1722)) <|
  tcG (sLw (fun p e s m below meth c b cA D A ad0 h hb => ok_iload h.1 dLw27_1725)) <|
  tcG (sLw (fun p e s m below meth c b cA D A ad0 h hb => ok_icmp_eq h.1 1732 (by decide) dLw27_1727)) <|
  tcG (sLw (fun p e s m below meth c b cA D A ad0 h hb => ok_iconst h.1 ⟨by decide, by decide⟩ dLw27_1730)) <|
  tcG (sLw (fun p e s m below meth c b cA D A ad0 h hb => ok_lret h dLw27_1731)) <|
  tcG (sLw (fun p e s m below meth c b cA D A ad0 h hb => ok_iload h.1 dLw27_1732)) <|
  tcG (sLw (fun p e s m below meth c b cA D A ad0 h hb => ok_if_ne h.1 1749 (by decide) dLw27_1734)) <|
  tcG (sLw (fun p e s m below meth c b cA D A ad0 h hb => ok_aload_n h.1 3 rfl dLw27_1737)) <|
  tcG (sLw (fun p e s m below meth c b cA D A ad0 h hb => ok_iconst h.1 ⟨by decide, by decide⟩ dLw27_1738)) <|
  tcG (sLw (fun p e s m below meth c b cA D A ad0 h hb => ok_lald h.1 dLw27_1739)) <|
  tcG (sLw (fun p e s m below meth c b cA D A ad0 h hb => ok_iload h.1 dLw27_1740)) <|
  tcG (sLw (fun p e s m below meth c b cA D A ad0 h hb => ok_i2l h.1 dLw27_1742)) <|
  tcG (sLw (fun p e s m below meth c b cA D A ad0 h hb => ok_lcmp h.1 dLw27_1743)) <|
  tcG (sLw (fun p e s m below meth c b cA D A ad0 h hb => ok_if_eq h.1 1749 (by decide) dLw27_1744)) <|
  tcG (sLw (fun p e s m below meth c b cA D A ad0 h hb => ok_iconst h.1 ⟨by decide, by decide⟩ dLw27_1747)) <|
  tcG (sLw (fun p e s m below meth c b cA D A ad0 h hb => ok_lret h dLw27_1748)) <|
  tcG (sLw (fun p e s m below meth c b cA D A ad0 h hb => ok_goto h.1 1969 (by decide) dLw27_1749)) <|
  tnG
abbrev cuLw27 : List Nat := [1707, 1719, 1725, 1969]
theorem wLw27_1969 {l : Launch} {L : Nat} {xs : Nat → Int32} {J : aK} {W : Nat → aK} (hW : isW (tbLw27 l L xs) cuLw27 J W) (n : Nat) (ls st : List aV) (μ : aM) (g : Nat) : W (n + 1) 1969 ls st μ g = J 1969 ls st μ g := (hW n 1969 ls st μ g).trans rfl
theorem tLw27_1696 (l : Launch) (L : Nat) (xs : Nat → Int32) : tb (tbLw27 l L xs) 1696 = sLd 1 1697 isR := (rfl)
theorem wLw27_1696 {l : Launch} {L : Nat} {xs : Nat → Int32} {J : aK} {W : Nat → aK} (hW : isW (tbLw27 l L xs) cuLw27 J W) (n : Nat) (ls st : List aV) (μ : aM) (g : Nat) : W (n + 1) 1696 ls st μ g = (sLd 1 1697 isR) (W n) ls st μ g := (hW n 1696 ls st μ g).trans rfl
theorem wLw27_1697 {l : Launch} {L : Nat} {xs : Nat → Int32} {J : aK} {W : Nat → aK} (hW : isW (tbLw27 l L xs) cuLw27 J W) (n : Nat) (ls st : List aV) (μ : aM) (g : Nat) : W (n + 1) 1697 ls st μ g = (sLd 0 1698 isR) (W n) ls st μ g := (hW n 1697 ls st μ g).trans rfl
theorem wLw27_1698 {l : Launch} {L : Nat} {xs : Nat → Int32} {J : aK} {W : Nat → aK} (hW : isW (tbLw27 l L xs) cuLw27 J W) (n : Nat) (ls st : List aV) (μ : aM) (g : Nat) : W (n + 1) 1698 ls st μ g = (sLd 5 1700 isI) (W n) ls st μ g := (hW n 1698 ls st μ g).trans rfl
theorem wLw27_1700 {l : Launch} {L : Nat} {xs : Nat → Int32} {J : aK} {W : Nat → aK} (hW : isW (tbLw27 l L xs) cuLw27 J W) (n : Nat) (ls st : List aV) (μ : aM) (g : Nat) : W (n + 1) 1700 ls st μ g = (sPush (aI 1) 1701) (W n) ls st μ g := (hW n 1700 ls st μ g).trans rfl
theorem wLw27_1701 {l : Launch} {L : Nat} {xs : Nat → Int32} {J : aK} {W : Nat → aK} (hW : isW (tbLw27 l L xs) cuLw27 J W) (n : Nat) (ls st : List aV) (μ : aM) (g : Nat) : W (n + 1) 1701 ls st μ g = (sBin fAdd 1702) (W n) ls st μ g := (hW n 1701 ls st μ g).trans rfl
theorem wLw27_1702 {l : Launch} {L : Nat} {xs : Nat → Int32} {J : aK} {W : Nat → aK} (hW : isW (tbLw27 l L xs) cuLw27 J W) (n : Nat) (ls st : List aV) (μ : aM) (g : Nat) : W (n + 1) 1702 ls st μ g = (sSld L xs 1703) (W n) ls st μ g := (hW n 1702 ls st μ g).trans rfl
theorem wLw27_1703 {l : Launch} {L : Nat} {xs : Nat → Int32} {J : aK} {W : Nat → aK} (hW : isW (tbLw27 l L xs) cuLw27 J W) (n : Nat) (ls st : List aV) (μ : aM) (g : Nat) : W (n + 1) 1703 ls st μ g = (sLd 3 1704 isR) (W n) ls st μ g := (hW n 1703 ls st μ g).trans rfl
theorem wLw27_1704 {l : Launch} {L : Nat} {xs : Nat → Int32} {J : aK} {W : Nat → aK} (hW : isW (tbLw27 l L xs) cuLw27 J W) (n : Nat) (ls st : List aV) (μ : aM) (g : Nat) : W (n + 1) 1704 ls st μ g = (sCallS 3 (fun as μ K => CtH l mdL_tradeAmount hhL_tradeAmount as μ K) 1707 1 3600) (W n) ls st μ g := (hW n 1704 ls st μ g).trans rfl
theorem tLw27_1707 (l : Launch) (L : Nat) (xs : Nat → Int32) : tb (tbLw27 l L xs) 1707 = sSt 6 1709 isI := (rfl)
theorem wLw27_1707 {l : Launch} {L : Nat} {xs : Nat → Int32} {J : aK} {W : Nat → aK} (hW : isW (tbLw27 l L xs) cuLw27 J W) (n : Nat) (ls st : List aV) (μ : aM) (g : Nat) : W (n + 1) 1707 ls st μ g = J 1707 ls st μ g := (hW n 1707 ls st μ g).trans rfl
theorem wLw27_1709 {l : Launch} {L : Nat} {xs : Nat → Int32} {J : aK} {W : Nat → aK} (hW : isW (tbLw27 l L xs) cuLw27 J W) (n : Nat) (ls st : List aV) (μ : aM) (g : Nat) : W (n + 1) 1709 ls st μ g = (sLd 2 1710 isR) (W n) ls st μ g := (hW n 1709 ls st μ g).trans rfl
theorem wLw27_1710 {l : Launch} {L : Nat} {xs : Nat → Int32} {J : aK} {W : Nat → aK} (hW : isW (tbLw27 l L xs) cuLw27 J W) (n : Nat) (ls st : List aV) (μ : aM) (g : Nat) : W (n + 1) 1710 ls st μ g = (sLd 0 1711 isR) (W n) ls st μ g := (hW n 1710 ls st μ g).trans rfl
theorem wLw27_1711 {l : Launch} {L : Nat} {xs : Nat → Int32} {J : aK} {W : Nat → aK} (hW : isW (tbLw27 l L xs) cuLw27 J W) (n : Nat) (ls st : List aV) (μ : aM) (g : Nat) : W (n + 1) 1711 ls st μ g = (sLd 5 1713 isI) (W n) ls st μ g := (hW n 1711 ls st μ g).trans rfl
theorem wLw27_1713 {l : Launch} {L : Nat} {xs : Nat → Int32} {J : aK} {W : Nat → aK} (hW : isW (tbLw27 l L xs) cuLw27 J W) (n : Nat) (ls st : List aV) (μ : aM) (g : Nat) : W (n + 1) 1713 ls st μ g = (sPush (aI 1) 1714) (W n) ls st μ g := (hW n 1713 ls st μ g).trans rfl
theorem wLw27_1714 {l : Launch} {L : Nat} {xs : Nat → Int32} {J : aK} {W : Nat → aK} (hW : isW (tbLw27 l L xs) cuLw27 J W) (n : Nat) (ls st : List aV) (μ : aM) (g : Nat) : W (n + 1) 1714 ls st μ g = (sBin fAdd 1715) (W n) ls st μ g := (hW n 1714 ls st μ g).trans rfl
theorem wLw27_1715 {l : Launch} {L : Nat} {xs : Nat → Int32} {J : aK} {W : Nat → aK} (hW : isW (tbLw27 l L xs) cuLw27 J W) (n : Nat) (ls st : List aV) (μ : aM) (g : Nat) : W (n + 1) 1715 ls st μ g = (sSld L xs 1716) (W n) ls st μ g := (hW n 1715 ls st μ g).trans rfl
theorem wLw27_1716 {l : Launch} {L : Nat} {xs : Nat → Int32} {J : aK} {W : Nat → aK} (hW : isW (tbLw27 l L xs) cuLw27 J W) (n : Nat) (ls st : List aV) (μ : aM) (g : Nat) : W (n + 1) 1716 ls st μ g = (sCallV 1 5 (fun as μ K => Ct l mdX5_tradeAmount as μ K nX) 1719 0 3600) (W n) ls st μ g := (hW n 1716 ls st μ g).trans rfl
theorem tLw27_1719 (l : Launch) (L : Nat) (xs : Nat → Int32) : tb (tbLw27 l L xs) 1719 = sSt 7 1721 isI := (rfl)
theorem wLw27_1719 {l : Launch} {L : Nat} {xs : Nat → Int32} {J : aK} {W : Nat → aK} (hW : isW (tbLw27 l L xs) cuLw27 J W) (n : Nat) (ls st : List aV) (μ : aM) (g : Nat) : W (n + 1) 1719 ls st μ g = J 1719 ls st μ g := (hW n 1719 ls st μ g).trans rfl
theorem wLw27_1721 {l : Launch} {L : Nat} {xs : Nat → Int32} {J : aK} {W : Nat → aK} (hW : isW (tbLw27 l L xs) cuLw27 J W) (n : Nat) (ls st : List aV) (μ : aM) (g : Nat) : W (n + 1) 1721 ls st μ g = (sLd 2 1722 isR) (W n) ls st μ g := (hW n 1721 ls st μ g).trans rfl
theorem wLw27_1722 {l : Launch} {L : Nat} {xs : Nat → Int32} {J : aK} {W : Nat → aK} (hW : isW (tbLw27 l L xs) cuLw27 J W) (n : Nat) (ls st : List aV) (μ : aM) (g : Nat) : W (n + 1) 1722 ls st μ g = (sCallV 0 5 (fun as μ K => Ct l mdX5_thrown as μ K nX) 1725 0 3600) (W n) ls st μ g := (hW n 1722 ls st μ g).trans rfl
theorem tLw27_1725 (l : Launch) (L : Nat) (xs : Nat → Int32) : tb (tbLw27 l L xs) 1725 = sLd 6 1727 isI := (rfl)
theorem wLw27_1725 {l : Launch} {L : Nat} {xs : Nat → Int32} {J : aK} {W : Nat → aK} (hW : isW (tbLw27 l L xs) cuLw27 J W) (n : Nat) (ls st : List aV) (μ : aM) (g : Nat) : W (n + 1) 1725 ls st μ g = J 1725 ls st μ g := (hW n 1725 ls st μ g).trans rfl
theorem wLw27_1727 {l : Launch} {L : Nat} {xs : Nat → Int32} {J : aK} {W : Nat → aK} (hW : isW (tbLw27 l L xs) cuLw27 J W) (n : Nat) (ls st : List aV) (μ : aM) (g : Nat) : W (n + 1) 1727 ls st μ g = (sIc qEq 1732 1730) (W n) ls st μ g := (hW n 1727 ls st μ g).trans rfl
theorem wLw27_1730 {l : Launch} {L : Nat} {xs : Nat → Int32} {J : aK} {W : Nat → aK} (hW : isW (tbLw27 l L xs) cuLw27 J W) (n : Nat) (ls st : List aV) (μ : aM) (g : Nat) : W (n + 1) 1730 ls st μ g = (sPush (aI 0) 1731) (W n) ls st μ g := (hW n 1730 ls st μ g).trans rfl
theorem wLw27_1731 {l : Launch} {L : Nat} {xs : Nat → Int32} {J : aK} {W : Nat → aK} (hW : isW (tbLw27 l L xs) cuLw27 J W) (n : Nat) (ls st : List aV) (μ : aM) (g : Nat) : W (n + 1) 1731 ls st μ g = (sLret) (W n) ls st μ g := (hW n 1731 ls st μ g).trans rfl
theorem wLw27_1732 {l : Launch} {L : Nat} {xs : Nat → Int32} {J : aK} {W : Nat → aK} (hW : isW (tbLw27 l L xs) cuLw27 J W) (n : Nat) (ls st : List aV) (μ : aM) (g : Nat) : W (n + 1) 1732 ls st μ g = (sLd 6 1734 isI) (W n) ls st μ g := (hW n 1732 ls st μ g).trans rfl
theorem wLw27_1734 {l : Launch} {L : Nat} {xs : Nat → Int32} {J : aK} {W : Nat → aK} (hW : isW (tbLw27 l L xs) cuLw27 J W) (n : Nat) (ls st : List aV) (μ : aM) (g : Nat) : W (n + 1) 1734 ls st μ g = (sIf pNe 1749 1737) (W n) ls st μ g := (hW n 1734 ls st μ g).trans rfl
theorem wLw27_1737 {l : Launch} {L : Nat} {xs : Nat → Int32} {J : aK} {W : Nat → aK} (hW : isW (tbLw27 l L xs) cuLw27 J W) (n : Nat) (ls st : List aV) (μ : aM) (g : Nat) : W (n + 1) 1737 ls st μ g = (sLd 3 1738 isR) (W n) ls st μ g := (hW n 1737 ls st μ g).trans rfl
theorem wLw27_1738 {l : Launch} {L : Nat} {xs : Nat → Int32} {J : aK} {W : Nat → aK} (hW : isW (tbLw27 l L xs) cuLw27 J W) (n : Nat) (ls st : List aV) (μ : aM) (g : Nat) : W (n + 1) 1738 ls st μ g = (sPush (aI 0) 1739) (W n) ls st μ g := (hW n 1738 ls st μ g).trans rfl
theorem wLw27_1739 {l : Launch} {L : Nat} {xs : Nat → Int32} {J : aK} {W : Nat → aK} (hW : isW (tbLw27 l L xs) cuLw27 J W) (n : Nat) (ls st : List aV) (μ : aM) (g : Nat) : W (n + 1) 1739 ls st μ g = (sAldL 1740) (W n) ls st μ g := (hW n 1739 ls st μ g).trans rfl
theorem wLw27_1740 {l : Launch} {L : Nat} {xs : Nat → Int32} {J : aK} {W : Nat → aK} (hW : isW (tbLw27 l L xs) cuLw27 J W) (n : Nat) (ls st : List aV) (μ : aM) (g : Nat) : W (n + 1) 1740 ls st μ g = (sLd 7 1742 isI) (W n) ls st μ g := (hW n 1740 ls st μ g).trans rfl
theorem wLw27_1742 {l : Launch} {L : Nat} {xs : Nat → Int32} {J : aK} {W : Nat → aK} (hW : isW (tbLw27 l L xs) cuLw27 J W) (n : Nat) (ls st : List aV) (μ : aM) (g : Nat) : W (n + 1) 1742 ls st μ g = (sI2l 1743) (W n) ls st μ g := (hW n 1742 ls st μ g).trans rfl
theorem wLw27_1743 {l : Launch} {L : Nat} {xs : Nat → Int32} {J : aK} {W : Nat → aK} (hW : isW (tbLw27 l L xs) cuLw27 J W) (n : Nat) (ls st : List aV) (μ : aM) (g : Nat) : W (n + 1) 1743 ls st μ g = (sLcmp 1744) (W n) ls st μ g := (hW n 1743 ls st μ g).trans rfl
theorem wLw27_1744 {l : Launch} {L : Nat} {xs : Nat → Int32} {J : aK} {W : Nat → aK} (hW : isW (tbLw27 l L xs) cuLw27 J W) (n : Nat) (ls st : List aV) (μ : aM) (g : Nat) : W (n + 1) 1744 ls st μ g = (sIf pEq 1749 1747) (W n) ls st μ g := (hW n 1744 ls st μ g).trans rfl
theorem wLw27_1747 {l : Launch} {L : Nat} {xs : Nat → Int32} {J : aK} {W : Nat → aK} (hW : isW (tbLw27 l L xs) cuLw27 J W) (n : Nat) (ls st : List aV) (μ : aM) (g : Nat) : W (n + 1) 1747 ls st μ g = (sPush (aI 0) 1748) (W n) ls st μ g := (hW n 1747 ls st μ g).trans rfl
theorem wLw27_1748 {l : Launch} {L : Nat} {xs : Nat → Int32} {J : aK} {W : Nat → aK} (hW : isW (tbLw27 l L xs) cuLw27 J W) (n : Nat) (ls st : List aV) (μ : aM) (g : Nat) : W (n + 1) 1748 ls st μ g = (sLret) (W n) ls st μ g := (hW n 1748 ls st μ g).trans rfl
theorem wLw27_1749 {l : Launch} {L : Nat} {xs : Nat → Int32} {J : aK} {W : Nat → aK} (hW : isW (tbLw27 l L xs) cuLw27 J W) (n : Nat) (ls st : List aV) (μ : aM) (g : Nat) : W (n + 1) 1749 ls st μ g = (sGoto 1969) (W n) ls st μ g := (hW n 1749 ls st μ g).trans rfl
theorem dLw28_1752 : decode code 1752 = .ok (.aload_n 1, 1) := by decide +kernel
theorem dLw28_1753 : decode code 1753 = .ok (.aload_n 0, 1) := by decide +kernel
theorem dLw28_1754 : decode code 1754 = .ok (.iload 5, 2) := by decide +kernel
theorem dLw28_1756 : decode code 1756 = .ok (.iconst 1, 1) := by decide +kernel
theorem dLw28_1757 : decode code 1757 = .ok (.iadd, 1) := by decide +kernel
theorem dLw28_1758 : decode code 1758 = .ok (.iaload, 1) := by decide +kernel
theorem dLw28_1759 : decode code 1759 = .ok (.aload_n 3, 1) := by decide +kernel
theorem dLw28_1760 : decode code 1760 = .ok (.invokestatic 217, 3) := by decide +kernel
theorem dLw28_1763 : decode code 1763 = .ok (.istore 6, 2) := by decide +kernel
theorem dLw28_1765 : decode code 1765 = .ok (.aload_n 2, 1) := by decide +kernel
theorem dLw28_1766 : decode code 1766 = .ok (.aload_n 0, 1) := by decide +kernel
theorem dLw28_1767 : decode code 1767 = .ok (.iload 5, 2) := by decide +kernel
theorem dLw28_1769 : decode code 1769 = .ok (.iconst 1, 1) := by decide +kernel
theorem dLw28_1770 : decode code 1770 = .ok (.iadd, 1) := by decide +kernel
theorem dLw28_1771 : decode code 1771 = .ok (.iaload, 1) := by decide +kernel
theorem dLw28_1772 : decode code 1772 = .ok (.invokevirtual 219, 3) := by decide +kernel
theorem dLw28_1775 : decode code 1775 = .ok (.istore 7, 2) := by decide +kernel
theorem dLw28_1777 : decode code 1777 = .ok (.aload_n 2, 1) := by decide +kernel
theorem dLw28_1778 : decode code 1778 = .ok (.invokevirtual 121, 3) := by decide +kernel
theorem dLw28_1781 : decode code 1781 = .ok (.iload 6, 2) := by decide +kernel
theorem dLw28_1783 : decode code 1783 = .ok (.if_icmp .eq 5, 3) := by decide +kernel
theorem dLw28_1786 : decode code 1786 = .ok (.iconst 0, 1) := by decide +kernel
theorem dLw28_1787 : decode code 1787 = .ok (.ireturn, 1) := by decide +kernel
theorem dLw28_1788 : decode code 1788 = .ok (.iload 6, 2) := by decide +kernel
theorem dLw28_1790 : decode code 1790 = .ok (.ifCond .ne 15, 3) := by decide +kernel
theorem dLw28_1793 : decode code 1793 = .ok (.aload_n 3, 1) := by decide +kernel
theorem dLw28_1794 : decode code 1794 = .ok (.iconst 0, 1) := by decide +kernel
theorem dLw28_1795 : decode code 1795 = .ok (.laload, 1) := by decide +kernel
theorem dLw28_1796 : decode code 1796 = .ok (.iload 7, 2) := by decide +kernel
theorem dLw28_1798 : decode code 1798 = .ok (.i2l, 1) := by decide +kernel
theorem dLw28_1799 : decode code 1799 = .ok (.lcmp, 1) := by decide +kernel
theorem dLw28_1800 : decode code 1800 = .ok (.ifCond .eq 5, 3) := by decide +kernel
theorem dLw28_1803 : decode code 1803 = .ok (.iconst 0, 1) := by decide +kernel
theorem dLw28_1804 : decode code 1804 = .ok (.ireturn, 1) := by decide +kernel
theorem dLw28_1805 : decode code 1805 = .ok (.goto 164, 3) := by decide +kernel
def tbLw28 (l : Launch) (L : Nat) (xs : Nat → Int32) : aTb := [
  (1752, sLd 1 1753 isR),
  (1753, sLd 0 1754 isR),
  (1754, sLd 5 1756 isI),
  (1756, sPush (aI 1) 1757),
  (1757, sBin fAdd 1758),
  (1758, sSld L xs 1759),
  (1759, sLd 3 1760 isR),
  (1760, sCallS 3 (fun as μ K => CtH l mdL_tradeBuyer hhL_tradeBuyer as μ K) 1763 1 3600),
  (1763, sSt 6 1765 isI),
  (1765, sLd 2 1766 isR),
  (1766, sLd 0 1767 isR),
  (1767, sLd 5 1769 isI),
  (1769, sPush (aI 1) 1770),
  (1770, sBin fAdd 1771),
  (1771, sSld L xs 1772),
  (1772, sCallV 1 5 (fun as μ K => Ct l mdX5_tradeBuyer as μ K nX) 1775 0 3600),
  (1775, sSt 7 1777 isI),
  (1777, sLd 2 1778 isR),
  (1778, sCallV 0 5 (fun as μ K => Ct l mdX5_thrown as μ K nX) 1781 0 3600),
  (1781, sLd 6 1783 isI),
  (1783, sIc qEq 1788 1786),
  (1786, sPush (aI 0) 1787),
  (1787, sLret),
  (1788, sLd 6 1790 isI),
  (1790, sIf pNe 1805 1793),
  (1793, sLd 3 1794 isR),
  (1794, sPush (aI 0) 1795),
  (1795, sAldL 1796),
  (1796, sLd 7 1798 isI),
  (1798, sI2l 1799),
  (1799, sLcmp 1800),
  (1800, sIf pEq 1805 1803),
  (1803, sPush (aI 0) 1804),
  (1804, sLret),
  (1805, sGoto 1969)]
theorem snLw28 (l : Launch) (L : Nat) (xs : Nat → Int32) (hL3 : L ≤ 3072) : ∀ q ∈ tbLw28 l L xs, Snd (BL l L xs) q.1 q.2 :=
  tcG (sLw (fun p e s m below meth c b cA D A ad0 h hb => ok_aload_n h.1 1 rfl dLw28_1752)) <|
  tcG (sLw (fun p e s m below meth c b cA D A ad0 h hb => ok_aload_n h.1 0 rfl dLw28_1753)) <|
  tcG (sLw (fun p e s m below meth c b cA D A ad0 h hb => ok_iload h.1 dLw28_1754)) <|
  tcG (sLw (fun p e s m below meth c b cA D A ad0 h hb => ok_iconst h.1 ⟨by decide, by decide⟩ dLw28_1756)) <|
  tcG (sLw (fun p e s m below meth c b cA D A ad0 h hb => ok_iadd h.1 dLw28_1757)) <|
  tcG (sLw (fun p e s m below meth c b cA D A ad0 h hb => ok_sld h hb dLw28_1758)) <|
  tcG (sLw (fun p e s m below meth c b cA D A ad0 h hb => ok_aload_n h.1 3 rfl dLw28_1759)) <|
  tcG (sLw (fun p e s m below meth c b cA D A ad0 h hb => ok_callSH h.1 h.2.1 (show 3600 ≤ room_1.cells ∧ 2000 * 3600 ≤ room_1.slots from ⟨Nat.le_of_ble_eq_true rfl, Nat.le_of_ble_eq_true rfl⟩) mdL_tradeBuyer hhL_tradeBuyer siL_tradeBuyer mkRL_217 stL_tradeBuyer ⟨by decide, by decide⟩ dLw28_1760)) <|
  tcG (sLw (fun p e s m below meth c b cA D A ad0 h hb => ok_istore h.1 (by decide) dLw28_1763)) <|
  tcG (sLw (fun p e s m below meth c b cA D A ad0 h hb => ok_aload_n h.1 2 rfl dLw28_1765)) <|
  tcG (sLw (fun p e s m below meth c b cA D A ad0 h hb => ok_aload_n h.1 0 rfl dLw28_1766)) <|
  tcG (sLw (fun p e s m below meth c b cA D A ad0 h hb => ok_iload h.1 dLw28_1767)) <|
  tcG (sLw (fun p e s m below meth c b cA D A ad0 h hb => ok_iconst h.1 ⟨by decide, by decide⟩ dLw28_1769)) <|
  tcG (sLw (fun p e s m below meth c b cA D A ad0 h hb => ok_iadd h.1 dLw28_1770)) <|
  tcG (sLw (fun p e s m below meth c b cA D A ad0 h hb => ok_sld h hb dLw28_1771)) <|
  tcG (sLw (fun p e s m below meth c b cA D A ad0 h hb => ok_callV h.1 h.2.1 (show 3600 ≤ room_1.cells ∧ 2000 * 3600 ≤ room_1.slots from ⟨Nat.le_of_ble_eq_true rfl, Nat.le_of_ble_eq_true rfl⟩) mdX5_tradeBuyer siX5_tradeBuyer cxX5 mkRL_219 imX5_tradeBuyer seX5_tradeBuyer ⟨by decide, by decide⟩ aAx_no dLw28_1772)) <|
  tcG (sLw (fun p e s m below meth c b cA D A ad0 h hb => ok_istore h.1 (by decide) dLw28_1775)) <|
  tcG (sLw (fun p e s m below meth c b cA D A ad0 h hb => ok_aload_n h.1 2 rfl dLw28_1777)) <|
  tcG (sLw (fun p e s m below meth c b cA D A ad0 h hb => ok_callV h.1 h.2.1 (show 3600 ≤ room_1.cells ∧ 2000 * 3600 ≤ room_1.slots from ⟨Nat.le_of_ble_eq_true rfl, Nat.le_of_ble_eq_true rfl⟩) mdX5_thrown siX5_thrown cxX5 mkRL_121 imX5_thrown seX5_thrown ⟨by decide, by decide⟩ aAx_no dLw28_1778)) <|
  tcG (sLw (fun p e s m below meth c b cA D A ad0 h hb => ok_iload h.1 dLw28_1781)) <|
  tcG (sLw (fun p e s m below meth c b cA D A ad0 h hb => ok_icmp_eq h.1 1788 (by decide) dLw28_1783)) <|
  tcG (sLw (fun p e s m below meth c b cA D A ad0 h hb => ok_iconst h.1 ⟨by decide, by decide⟩ dLw28_1786)) <|
  tcG (sLw (fun p e s m below meth c b cA D A ad0 h hb => ok_lret h dLw28_1787)) <|
  tcG (sLw (fun p e s m below meth c b cA D A ad0 h hb => ok_iload h.1 dLw28_1788)) <|
  tcG (sLw (fun p e s m below meth c b cA D A ad0 h hb => ok_if_ne h.1 1805 (by decide) dLw28_1790)) <|
  tcG (sLw (fun p e s m below meth c b cA D A ad0 h hb => ok_aload_n h.1 3 rfl dLw28_1793)) <|
  tcG (sLw (fun p e s m below meth c b cA D A ad0 h hb => ok_iconst h.1 ⟨by decide, by decide⟩ dLw28_1794)) <|
  tcG (sLw (fun p e s m below meth c b cA D A ad0 h hb => ok_lald h.1 dLw28_1795)) <|
  tcG (sLw (fun p e s m below meth c b cA D A ad0 h hb => ok_iload h.1 dLw28_1796)) <|
  tcG (sLw (fun p e s m below meth c b cA D A ad0 h hb => ok_i2l h.1 dLw28_1798)) <|
  tcG (sLw (fun p e s m below meth c b cA D A ad0 h hb => ok_lcmp h.1 dLw28_1799)) <|
  tcG (sLw (fun p e s m below meth c b cA D A ad0 h hb => ok_if_eq h.1 1805 (by decide) dLw28_1800)) <|
  tcG (sLw (fun p e s m below meth c b cA D A ad0 h hb => ok_iconst h.1 ⟨by decide, by decide⟩ dLw28_1803)) <|
  tcG (sLw (fun p e s m below meth c b cA D A ad0 h hb => ok_lret h dLw28_1804)) <|
  tcG (sLw (fun p e s m below meth c b cA D A ad0 h hb => ok_goto h.1 1969 (by decide) dLw28_1805)) <|
  tnG
abbrev cuLw28 : List Nat := [1763, 1775, 1781, 1969]
theorem wLw28_1969 {l : Launch} {L : Nat} {xs : Nat → Int32} {J : aK} {W : Nat → aK} (hW : isW (tbLw28 l L xs) cuLw28 J W) (n : Nat) (ls st : List aV) (μ : aM) (g : Nat) : W (n + 1) 1969 ls st μ g = J 1969 ls st μ g := (hW n 1969 ls st μ g).trans rfl
theorem tLw28_1752 (l : Launch) (L : Nat) (xs : Nat → Int32) : tb (tbLw28 l L xs) 1752 = sLd 1 1753 isR := (rfl)
theorem wLw28_1752 {l : Launch} {L : Nat} {xs : Nat → Int32} {J : aK} {W : Nat → aK} (hW : isW (tbLw28 l L xs) cuLw28 J W) (n : Nat) (ls st : List aV) (μ : aM) (g : Nat) : W (n + 1) 1752 ls st μ g = (sLd 1 1753 isR) (W n) ls st μ g := (hW n 1752 ls st μ g).trans rfl
theorem wLw28_1753 {l : Launch} {L : Nat} {xs : Nat → Int32} {J : aK} {W : Nat → aK} (hW : isW (tbLw28 l L xs) cuLw28 J W) (n : Nat) (ls st : List aV) (μ : aM) (g : Nat) : W (n + 1) 1753 ls st μ g = (sLd 0 1754 isR) (W n) ls st μ g := (hW n 1753 ls st μ g).trans rfl
theorem wLw28_1754 {l : Launch} {L : Nat} {xs : Nat → Int32} {J : aK} {W : Nat → aK} (hW : isW (tbLw28 l L xs) cuLw28 J W) (n : Nat) (ls st : List aV) (μ : aM) (g : Nat) : W (n + 1) 1754 ls st μ g = (sLd 5 1756 isI) (W n) ls st μ g := (hW n 1754 ls st μ g).trans rfl
theorem wLw28_1756 {l : Launch} {L : Nat} {xs : Nat → Int32} {J : aK} {W : Nat → aK} (hW : isW (tbLw28 l L xs) cuLw28 J W) (n : Nat) (ls st : List aV) (μ : aM) (g : Nat) : W (n + 1) 1756 ls st μ g = (sPush (aI 1) 1757) (W n) ls st μ g := (hW n 1756 ls st μ g).trans rfl
theorem wLw28_1757 {l : Launch} {L : Nat} {xs : Nat → Int32} {J : aK} {W : Nat → aK} (hW : isW (tbLw28 l L xs) cuLw28 J W) (n : Nat) (ls st : List aV) (μ : aM) (g : Nat) : W (n + 1) 1757 ls st μ g = (sBin fAdd 1758) (W n) ls st μ g := (hW n 1757 ls st μ g).trans rfl
theorem wLw28_1758 {l : Launch} {L : Nat} {xs : Nat → Int32} {J : aK} {W : Nat → aK} (hW : isW (tbLw28 l L xs) cuLw28 J W) (n : Nat) (ls st : List aV) (μ : aM) (g : Nat) : W (n + 1) 1758 ls st μ g = (sSld L xs 1759) (W n) ls st μ g := (hW n 1758 ls st μ g).trans rfl
theorem wLw28_1759 {l : Launch} {L : Nat} {xs : Nat → Int32} {J : aK} {W : Nat → aK} (hW : isW (tbLw28 l L xs) cuLw28 J W) (n : Nat) (ls st : List aV) (μ : aM) (g : Nat) : W (n + 1) 1759 ls st μ g = (sLd 3 1760 isR) (W n) ls st μ g := (hW n 1759 ls st μ g).trans rfl
theorem wLw28_1760 {l : Launch} {L : Nat} {xs : Nat → Int32} {J : aK} {W : Nat → aK} (hW : isW (tbLw28 l L xs) cuLw28 J W) (n : Nat) (ls st : List aV) (μ : aM) (g : Nat) : W (n + 1) 1760 ls st μ g = (sCallS 3 (fun as μ K => CtH l mdL_tradeBuyer hhL_tradeBuyer as μ K) 1763 1 3600) (W n) ls st μ g := (hW n 1760 ls st μ g).trans rfl
theorem tLw28_1763 (l : Launch) (L : Nat) (xs : Nat → Int32) : tb (tbLw28 l L xs) 1763 = sSt 6 1765 isI := (rfl)
theorem wLw28_1763 {l : Launch} {L : Nat} {xs : Nat → Int32} {J : aK} {W : Nat → aK} (hW : isW (tbLw28 l L xs) cuLw28 J W) (n : Nat) (ls st : List aV) (μ : aM) (g : Nat) : W (n + 1) 1763 ls st μ g = J 1763 ls st μ g := (hW n 1763 ls st μ g).trans rfl
theorem wLw28_1765 {l : Launch} {L : Nat} {xs : Nat → Int32} {J : aK} {W : Nat → aK} (hW : isW (tbLw28 l L xs) cuLw28 J W) (n : Nat) (ls st : List aV) (μ : aM) (g : Nat) : W (n + 1) 1765 ls st μ g = (sLd 2 1766 isR) (W n) ls st μ g := (hW n 1765 ls st μ g).trans rfl
theorem wLw28_1766 {l : Launch} {L : Nat} {xs : Nat → Int32} {J : aK} {W : Nat → aK} (hW : isW (tbLw28 l L xs) cuLw28 J W) (n : Nat) (ls st : List aV) (μ : aM) (g : Nat) : W (n + 1) 1766 ls st μ g = (sLd 0 1767 isR) (W n) ls st μ g := (hW n 1766 ls st μ g).trans rfl
theorem wLw28_1767 {l : Launch} {L : Nat} {xs : Nat → Int32} {J : aK} {W : Nat → aK} (hW : isW (tbLw28 l L xs) cuLw28 J W) (n : Nat) (ls st : List aV) (μ : aM) (g : Nat) : W (n + 1) 1767 ls st μ g = (sLd 5 1769 isI) (W n) ls st μ g := (hW n 1767 ls st μ g).trans rfl
theorem wLw28_1769 {l : Launch} {L : Nat} {xs : Nat → Int32} {J : aK} {W : Nat → aK} (hW : isW (tbLw28 l L xs) cuLw28 J W) (n : Nat) (ls st : List aV) (μ : aM) (g : Nat) : W (n + 1) 1769 ls st μ g = (sPush (aI 1) 1770) (W n) ls st μ g := (hW n 1769 ls st μ g).trans rfl
theorem wLw28_1770 {l : Launch} {L : Nat} {xs : Nat → Int32} {J : aK} {W : Nat → aK} (hW : isW (tbLw28 l L xs) cuLw28 J W) (n : Nat) (ls st : List aV) (μ : aM) (g : Nat) : W (n + 1) 1770 ls st μ g = (sBin fAdd 1771) (W n) ls st μ g := (hW n 1770 ls st μ g).trans rfl
theorem wLw28_1771 {l : Launch} {L : Nat} {xs : Nat → Int32} {J : aK} {W : Nat → aK} (hW : isW (tbLw28 l L xs) cuLw28 J W) (n : Nat) (ls st : List aV) (μ : aM) (g : Nat) : W (n + 1) 1771 ls st μ g = (sSld L xs 1772) (W n) ls st μ g := (hW n 1771 ls st μ g).trans rfl
theorem wLw28_1772 {l : Launch} {L : Nat} {xs : Nat → Int32} {J : aK} {W : Nat → aK} (hW : isW (tbLw28 l L xs) cuLw28 J W) (n : Nat) (ls st : List aV) (μ : aM) (g : Nat) : W (n + 1) 1772 ls st μ g = (sCallV 1 5 (fun as μ K => Ct l mdX5_tradeBuyer as μ K nX) 1775 0 3600) (W n) ls st μ g := (hW n 1772 ls st μ g).trans rfl
theorem tLw28_1775 (l : Launch) (L : Nat) (xs : Nat → Int32) : tb (tbLw28 l L xs) 1775 = sSt 7 1777 isI := (rfl)
theorem wLw28_1775 {l : Launch} {L : Nat} {xs : Nat → Int32} {J : aK} {W : Nat → aK} (hW : isW (tbLw28 l L xs) cuLw28 J W) (n : Nat) (ls st : List aV) (μ : aM) (g : Nat) : W (n + 1) 1775 ls st μ g = J 1775 ls st μ g := (hW n 1775 ls st μ g).trans rfl
theorem wLw28_1777 {l : Launch} {L : Nat} {xs : Nat → Int32} {J : aK} {W : Nat → aK} (hW : isW (tbLw28 l L xs) cuLw28 J W) (n : Nat) (ls st : List aV) (μ : aM) (g : Nat) : W (n + 1) 1777 ls st μ g = (sLd 2 1778 isR) (W n) ls st μ g := (hW n 1777 ls st μ g).trans rfl
theorem wLw28_1778 {l : Launch} {L : Nat} {xs : Nat → Int32} {J : aK} {W : Nat → aK} (hW : isW (tbLw28 l L xs) cuLw28 J W) (n : Nat) (ls st : List aV) (μ : aM) (g : Nat) : W (n + 1) 1778 ls st μ g = (sCallV 0 5 (fun as μ K => Ct l mdX5_thrown as μ K nX) 1781 0 3600) (W n) ls st μ g := (hW n 1778 ls st μ g).trans rfl
theorem tLw28_1781 (l : Launch) (L : Nat) (xs : Nat → Int32) : tb (tbLw28 l L xs) 1781 = sLd 6 1783 isI := (rfl)
theorem wLw28_1781 {l : Launch} {L : Nat} {xs : Nat → Int32} {J : aK} {W : Nat → aK} (hW : isW (tbLw28 l L xs) cuLw28 J W) (n : Nat) (ls st : List aV) (μ : aM) (g : Nat) : W (n + 1) 1781 ls st μ g = J 1781 ls st μ g := (hW n 1781 ls st μ g).trans rfl
theorem wLw28_1783 {l : Launch} {L : Nat} {xs : Nat → Int32} {J : aK} {W : Nat → aK} (hW : isW (tbLw28 l L xs) cuLw28 J W) (n : Nat) (ls st : List aV) (μ : aM) (g : Nat) : W (n + 1) 1783 ls st μ g = (sIc qEq 1788 1786) (W n) ls st μ g := (hW n 1783 ls st μ g).trans rfl
theorem wLw28_1786 {l : Launch} {L : Nat} {xs : Nat → Int32} {J : aK} {W : Nat → aK} (hW : isW (tbLw28 l L xs) cuLw28 J W) (n : Nat) (ls st : List aV) (μ : aM) (g : Nat) : W (n + 1) 1786 ls st μ g = (sPush (aI 0) 1787) (W n) ls st μ g := (hW n 1786 ls st μ g).trans rfl
theorem wLw28_1787 {l : Launch} {L : Nat} {xs : Nat → Int32} {J : aK} {W : Nat → aK} (hW : isW (tbLw28 l L xs) cuLw28 J W) (n : Nat) (ls st : List aV) (μ : aM) (g : Nat) : W (n + 1) 1787 ls st μ g = (sLret) (W n) ls st μ g := (hW n 1787 ls st μ g).trans rfl
theorem wLw28_1788 {l : Launch} {L : Nat} {xs : Nat → Int32} {J : aK} {W : Nat → aK} (hW : isW (tbLw28 l L xs) cuLw28 J W) (n : Nat) (ls st : List aV) (μ : aM) (g : Nat) : W (n + 1) 1788 ls st μ g = (sLd 6 1790 isI) (W n) ls st μ g := (hW n 1788 ls st μ g).trans rfl
theorem wLw28_1790 {l : Launch} {L : Nat} {xs : Nat → Int32} {J : aK} {W : Nat → aK} (hW : isW (tbLw28 l L xs) cuLw28 J W) (n : Nat) (ls st : List aV) (μ : aM) (g : Nat) : W (n + 1) 1790 ls st μ g = (sIf pNe 1805 1793) (W n) ls st μ g := (hW n 1790 ls st μ g).trans rfl
theorem wLw28_1793 {l : Launch} {L : Nat} {xs : Nat → Int32} {J : aK} {W : Nat → aK} (hW : isW (tbLw28 l L xs) cuLw28 J W) (n : Nat) (ls st : List aV) (μ : aM) (g : Nat) : W (n + 1) 1793 ls st μ g = (sLd 3 1794 isR) (W n) ls st μ g := (hW n 1793 ls st μ g).trans rfl
theorem wLw28_1794 {l : Launch} {L : Nat} {xs : Nat → Int32} {J : aK} {W : Nat → aK} (hW : isW (tbLw28 l L xs) cuLw28 J W) (n : Nat) (ls st : List aV) (μ : aM) (g : Nat) : W (n + 1) 1794 ls st μ g = (sPush (aI 0) 1795) (W n) ls st μ g := (hW n 1794 ls st μ g).trans rfl
theorem wLw28_1795 {l : Launch} {L : Nat} {xs : Nat → Int32} {J : aK} {W : Nat → aK} (hW : isW (tbLw28 l L xs) cuLw28 J W) (n : Nat) (ls st : List aV) (μ : aM) (g : Nat) : W (n + 1) 1795 ls st μ g = (sAldL 1796) (W n) ls st μ g := (hW n 1795 ls st μ g).trans rfl
theorem wLw28_1796 {l : Launch} {L : Nat} {xs : Nat → Int32} {J : aK} {W : Nat → aK} (hW : isW (tbLw28 l L xs) cuLw28 J W) (n : Nat) (ls st : List aV) (μ : aM) (g : Nat) : W (n + 1) 1796 ls st μ g = (sLd 7 1798 isI) (W n) ls st μ g := (hW n 1796 ls st μ g).trans rfl
theorem wLw28_1798 {l : Launch} {L : Nat} {xs : Nat → Int32} {J : aK} {W : Nat → aK} (hW : isW (tbLw28 l L xs) cuLw28 J W) (n : Nat) (ls st : List aV) (μ : aM) (g : Nat) : W (n + 1) 1798 ls st μ g = (sI2l 1799) (W n) ls st μ g := (hW n 1798 ls st μ g).trans rfl
theorem wLw28_1799 {l : Launch} {L : Nat} {xs : Nat → Int32} {J : aK} {W : Nat → aK} (hW : isW (tbLw28 l L xs) cuLw28 J W) (n : Nat) (ls st : List aV) (μ : aM) (g : Nat) : W (n + 1) 1799 ls st μ g = (sLcmp 1800) (W n) ls st μ g := (hW n 1799 ls st μ g).trans rfl
theorem wLw28_1800 {l : Launch} {L : Nat} {xs : Nat → Int32} {J : aK} {W : Nat → aK} (hW : isW (tbLw28 l L xs) cuLw28 J W) (n : Nat) (ls st : List aV) (μ : aM) (g : Nat) : W (n + 1) 1800 ls st μ g = (sIf pEq 1805 1803) (W n) ls st μ g := (hW n 1800 ls st μ g).trans rfl
theorem wLw28_1803 {l : Launch} {L : Nat} {xs : Nat → Int32} {J : aK} {W : Nat → aK} (hW : isW (tbLw28 l L xs) cuLw28 J W) (n : Nat) (ls st : List aV) (μ : aM) (g : Nat) : W (n + 1) 1803 ls st μ g = (sPush (aI 0) 1804) (W n) ls st μ g := (hW n 1803 ls st μ g).trans rfl
theorem wLw28_1804 {l : Launch} {L : Nat} {xs : Nat → Int32} {J : aK} {W : Nat → aK} (hW : isW (tbLw28 l L xs) cuLw28 J W) (n : Nat) (ls st : List aV) (μ : aM) (g : Nat) : W (n + 1) 1804 ls st μ g = (sLret) (W n) ls st μ g := (hW n 1804 ls st μ g).trans rfl
theorem wLw28_1805 {l : Launch} {L : Nat} {xs : Nat → Int32} {J : aK} {W : Nat → aK} (hW : isW (tbLw28 l L xs) cuLw28 J W) (n : Nat) (ls st : List aV) (μ : aM) (g : Nat) : W (n + 1) 1805 ls st μ g = (sGoto 1969) (W n) ls st μ g := (hW n 1805 ls st μ g).trans rfl
theorem dLw29_1808 : decode code 1808 = .ok (.aload_n 1, 1) := by decide +kernel
theorem dLw29_1809 : decode code 1809 = .ok (.aload_n 0, 1) := by decide +kernel
theorem dLw29_1810 : decode code 1810 = .ok (.iload 5, 2) := by decide +kernel
theorem dLw29_1812 : decode code 1812 = .ok (.iconst 1, 1) := by decide +kernel
theorem dLw29_1813 : decode code 1813 = .ok (.iadd, 1) := by decide +kernel
theorem dLw29_1814 : decode code 1814 = .ok (.iaload, 1) := by decide +kernel
theorem dLw29_1815 : decode code 1815 = .ok (.aload_n 3, 1) := by decide +kernel
theorem dLw29_1816 : decode code 1816 = .ok (.invokestatic 220, 3) := by decide +kernel
theorem dLw29_1819 : decode code 1819 = .ok (.istore 6, 2) := by decide +kernel
theorem dLw29_1821 : decode code 1821 = .ok (.aload_n 2, 1) := by decide +kernel
theorem dLw29_1822 : decode code 1822 = .ok (.aload_n 0, 1) := by decide +kernel
theorem dLw29_1823 : decode code 1823 = .ok (.iload 5, 2) := by decide +kernel
theorem dLw29_1825 : decode code 1825 = .ok (.iconst 1, 1) := by decide +kernel
theorem dLw29_1826 : decode code 1826 = .ok (.iadd, 1) := by decide +kernel
theorem dLw29_1827 : decode code 1827 = .ok (.iaload, 1) := by decide +kernel
theorem dLw29_1828 : decode code 1828 = .ok (.invokevirtual 222, 3) := by decide +kernel
theorem dLw29_1831 : decode code 1831 = .ok (.istore 7, 2) := by decide +kernel
theorem dLw29_1833 : decode code 1833 = .ok (.aload_n 2, 1) := by decide +kernel
theorem dLw29_1834 : decode code 1834 = .ok (.invokevirtual 121, 3) := by decide +kernel
theorem dLw29_1837 : decode code 1837 = .ok (.iload 6, 2) := by decide +kernel
theorem dLw29_1839 : decode code 1839 = .ok (.if_icmp .eq 5, 3) := by decide +kernel
theorem dLw29_1842 : decode code 1842 = .ok (.iconst 0, 1) := by decide +kernel
theorem dLw29_1843 : decode code 1843 = .ok (.ireturn, 1) := by decide +kernel
theorem dLw29_1844 : decode code 1844 = .ok (.iload 6, 2) := by decide +kernel
theorem dLw29_1846 : decode code 1846 = .ok (.ifCond .ne 15, 3) := by decide +kernel
theorem dLw29_1849 : decode code 1849 = .ok (.aload_n 3, 1) := by decide +kernel
theorem dLw29_1850 : decode code 1850 = .ok (.iconst 0, 1) := by decide +kernel
theorem dLw29_1851 : decode code 1851 = .ok (.laload, 1) := by decide +kernel
theorem dLw29_1852 : decode code 1852 = .ok (.iload 7, 2) := by decide +kernel
theorem dLw29_1854 : decode code 1854 = .ok (.i2l, 1) := by decide +kernel
theorem dLw29_1855 : decode code 1855 = .ok (.lcmp, 1) := by decide +kernel
theorem dLw29_1856 : decode code 1856 = .ok (.ifCond .eq 5, 3) := by decide +kernel
theorem dLw29_1859 : decode code 1859 = .ok (.iconst 0, 1) := by decide +kernel
theorem dLw29_1860 : decode code 1860 = .ok (.ireturn, 1) := by decide +kernel
theorem dLw29_1861 : decode code 1861 = .ok (.goto 108, 3) := by decide +kernel
def tbLw29 (l : Launch) (L : Nat) (xs : Nat → Int32) : aTb := [
  (1808, sLd 1 1809 isR),
  (1809, sLd 0 1810 isR),
  (1810, sLd 5 1812 isI),
  (1812, sPush (aI 1) 1813),
  (1813, sBin fAdd 1814),
  (1814, sSld L xs 1815),
  (1815, sLd 3 1816 isR),
  (1816, sCallS 3 (fun as μ K => CtH l mdL_tradeSeller hhL_tradeSeller as μ K) 1819 1 3600),
  (1819, sSt 6 1821 isI),
  (1821, sLd 2 1822 isR),
  (1822, sLd 0 1823 isR),
  (1823, sLd 5 1825 isI),
  (1825, sPush (aI 1) 1826),
  (1826, sBin fAdd 1827),
  (1827, sSld L xs 1828),
  (1828, sCallV 1 5 (fun as μ K => Ct l mdX5_tradeSeller as μ K nX) 1831 0 3600),
  (1831, sSt 7 1833 isI),
  (1833, sLd 2 1834 isR),
  (1834, sCallV 0 5 (fun as μ K => Ct l mdX5_thrown as μ K nX) 1837 0 3600),
  (1837, sLd 6 1839 isI),
  (1839, sIc qEq 1844 1842),
  (1842, sPush (aI 0) 1843),
  (1843, sLret),
  (1844, sLd 6 1846 isI),
  (1846, sIf pNe 1861 1849),
  (1849, sLd 3 1850 isR),
  (1850, sPush (aI 0) 1851),
  (1851, sAldL 1852),
  (1852, sLd 7 1854 isI),
  (1854, sI2l 1855),
  (1855, sLcmp 1856),
  (1856, sIf pEq 1861 1859),
  (1859, sPush (aI 0) 1860),
  (1860, sLret),
  (1861, sGoto 1969)]
theorem snLw29 (l : Launch) (L : Nat) (xs : Nat → Int32) (hL3 : L ≤ 3072) : ∀ q ∈ tbLw29 l L xs, Snd (BL l L xs) q.1 q.2 :=
  tcG (sLw (fun p e s m below meth c b cA D A ad0 h hb => ok_aload_n h.1 1 rfl dLw29_1808)) <|
  tcG (sLw (fun p e s m below meth c b cA D A ad0 h hb => ok_aload_n h.1 0 rfl dLw29_1809)) <|
  tcG (sLw (fun p e s m below meth c b cA D A ad0 h hb => ok_iload h.1 dLw29_1810)) <|
  tcG (sLw (fun p e s m below meth c b cA D A ad0 h hb => ok_iconst h.1 ⟨by decide, by decide⟩ dLw29_1812)) <|
  tcG (sLw (fun p e s m below meth c b cA D A ad0 h hb => ok_iadd h.1 dLw29_1813)) <|
  tcG (sLw (fun p e s m below meth c b cA D A ad0 h hb => ok_sld h hb dLw29_1814)) <|
  tcG (sLw (fun p e s m below meth c b cA D A ad0 h hb => ok_aload_n h.1 3 rfl dLw29_1815)) <|
  tcG (sLw (fun p e s m below meth c b cA D A ad0 h hb => ok_callSH h.1 h.2.1 (show 3600 ≤ room_1.cells ∧ 2000 * 3600 ≤ room_1.slots from ⟨Nat.le_of_ble_eq_true rfl, Nat.le_of_ble_eq_true rfl⟩) mdL_tradeSeller hhL_tradeSeller siL_tradeSeller mkRL_220 stL_tradeSeller ⟨by decide, by decide⟩ dLw29_1816)) <|
  tcG (sLw (fun p e s m below meth c b cA D A ad0 h hb => ok_istore h.1 (by decide) dLw29_1819)) <|
  tcG (sLw (fun p e s m below meth c b cA D A ad0 h hb => ok_aload_n h.1 2 rfl dLw29_1821)) <|
  tcG (sLw (fun p e s m below meth c b cA D A ad0 h hb => ok_aload_n h.1 0 rfl dLw29_1822)) <|
  tcG (sLw (fun p e s m below meth c b cA D A ad0 h hb => ok_iload h.1 dLw29_1823)) <|
  tcG (sLw (fun p e s m below meth c b cA D A ad0 h hb => ok_iconst h.1 ⟨by decide, by decide⟩ dLw29_1825)) <|
  tcG (sLw (fun p e s m below meth c b cA D A ad0 h hb => ok_iadd h.1 dLw29_1826)) <|
  tcG (sLw (fun p e s m below meth c b cA D A ad0 h hb => ok_sld h hb dLw29_1827)) <|
  tcG (sLw (fun p e s m below meth c b cA D A ad0 h hb => ok_callV h.1 h.2.1 (show 3600 ≤ room_1.cells ∧ 2000 * 3600 ≤ room_1.slots from ⟨Nat.le_of_ble_eq_true rfl, Nat.le_of_ble_eq_true rfl⟩) mdX5_tradeSeller siX5_tradeSeller cxX5 mkRL_222 imX5_tradeSeller seX5_tradeSeller ⟨by decide, by decide⟩ aAx_no dLw29_1828)) <|
  tcG (sLw (fun p e s m below meth c b cA D A ad0 h hb => ok_istore h.1 (by decide) dLw29_1831)) <|
  tcG (sLw (fun p e s m below meth c b cA D A ad0 h hb => ok_aload_n h.1 2 rfl dLw29_1833)) <|
  tcG (sLw (fun p e s m below meth c b cA D A ad0 h hb => ok_callV h.1 h.2.1 (show 3600 ≤ room_1.cells ∧ 2000 * 3600 ≤ room_1.slots from ⟨Nat.le_of_ble_eq_true rfl, Nat.le_of_ble_eq_true rfl⟩) mdX5_thrown siX5_thrown cxX5 mkRL_121 imX5_thrown seX5_thrown ⟨by decide, by decide⟩ aAx_no dLw29_1834)) <|
  tcG (sLw (fun p e s m below meth c b cA D A ad0 h hb => ok_iload h.1 dLw29_1837)) <|
  tcG (sLw (fun p e s m below meth c b cA D A ad0 h hb => ok_icmp_eq h.1 1844 (by decide) dLw29_1839)) <|
  tcG (sLw (fun p e s m below meth c b cA D A ad0 h hb => ok_iconst h.1 ⟨by decide, by decide⟩ dLw29_1842)) <|
  tcG (sLw (fun p e s m below meth c b cA D A ad0 h hb => ok_lret h dLw29_1843)) <|
  tcG (sLw (fun p e s m below meth c b cA D A ad0 h hb => ok_iload h.1 dLw29_1844)) <|
  tcG (sLw (fun p e s m below meth c b cA D A ad0 h hb => ok_if_ne h.1 1861 (by decide) dLw29_1846)) <|
  tcG (sLw (fun p e s m below meth c b cA D A ad0 h hb => ok_aload_n h.1 3 rfl dLw29_1849)) <|
  tcG (sLw (fun p e s m below meth c b cA D A ad0 h hb => ok_iconst h.1 ⟨by decide, by decide⟩ dLw29_1850)) <|
  tcG (sLw (fun p e s m below meth c b cA D A ad0 h hb => ok_lald h.1 dLw29_1851)) <|
  tcG (sLw (fun p e s m below meth c b cA D A ad0 h hb => ok_iload h.1 dLw29_1852)) <|
  tcG (sLw (fun p e s m below meth c b cA D A ad0 h hb => ok_i2l h.1 dLw29_1854)) <|
  tcG (sLw (fun p e s m below meth c b cA D A ad0 h hb => ok_lcmp h.1 dLw29_1855)) <|
  tcG (sLw (fun p e s m below meth c b cA D A ad0 h hb => ok_if_eq h.1 1861 (by decide) dLw29_1856)) <|
  tcG (sLw (fun p e s m below meth c b cA D A ad0 h hb => ok_iconst h.1 ⟨by decide, by decide⟩ dLw29_1859)) <|
  tcG (sLw (fun p e s m below meth c b cA D A ad0 h hb => ok_lret h dLw29_1860)) <|
  tcG (sLw (fun p e s m below meth c b cA D A ad0 h hb => ok_goto h.1 1969 (by decide) dLw29_1861)) <|
  tnG
abbrev cuLw29 : List Nat := [1819, 1831, 1837, 1969]
theorem wLw29_1969 {l : Launch} {L : Nat} {xs : Nat → Int32} {J : aK} {W : Nat → aK} (hW : isW (tbLw29 l L xs) cuLw29 J W) (n : Nat) (ls st : List aV) (μ : aM) (g : Nat) : W (n + 1) 1969 ls st μ g = J 1969 ls st μ g := (hW n 1969 ls st μ g).trans rfl
theorem tLw29_1808 (l : Launch) (L : Nat) (xs : Nat → Int32) : tb (tbLw29 l L xs) 1808 = sLd 1 1809 isR := (rfl)
theorem wLw29_1808 {l : Launch} {L : Nat} {xs : Nat → Int32} {J : aK} {W : Nat → aK} (hW : isW (tbLw29 l L xs) cuLw29 J W) (n : Nat) (ls st : List aV) (μ : aM) (g : Nat) : W (n + 1) 1808 ls st μ g = (sLd 1 1809 isR) (W n) ls st μ g := (hW n 1808 ls st μ g).trans rfl
theorem wLw29_1809 {l : Launch} {L : Nat} {xs : Nat → Int32} {J : aK} {W : Nat → aK} (hW : isW (tbLw29 l L xs) cuLw29 J W) (n : Nat) (ls st : List aV) (μ : aM) (g : Nat) : W (n + 1) 1809 ls st μ g = (sLd 0 1810 isR) (W n) ls st μ g := (hW n 1809 ls st μ g).trans rfl
theorem wLw29_1810 {l : Launch} {L : Nat} {xs : Nat → Int32} {J : aK} {W : Nat → aK} (hW : isW (tbLw29 l L xs) cuLw29 J W) (n : Nat) (ls st : List aV) (μ : aM) (g : Nat) : W (n + 1) 1810 ls st μ g = (sLd 5 1812 isI) (W n) ls st μ g := (hW n 1810 ls st μ g).trans rfl
theorem wLw29_1812 {l : Launch} {L : Nat} {xs : Nat → Int32} {J : aK} {W : Nat → aK} (hW : isW (tbLw29 l L xs) cuLw29 J W) (n : Nat) (ls st : List aV) (μ : aM) (g : Nat) : W (n + 1) 1812 ls st μ g = (sPush (aI 1) 1813) (W n) ls st μ g := (hW n 1812 ls st μ g).trans rfl
theorem wLw29_1813 {l : Launch} {L : Nat} {xs : Nat → Int32} {J : aK} {W : Nat → aK} (hW : isW (tbLw29 l L xs) cuLw29 J W) (n : Nat) (ls st : List aV) (μ : aM) (g : Nat) : W (n + 1) 1813 ls st μ g = (sBin fAdd 1814) (W n) ls st μ g := (hW n 1813 ls st μ g).trans rfl
theorem wLw29_1814 {l : Launch} {L : Nat} {xs : Nat → Int32} {J : aK} {W : Nat → aK} (hW : isW (tbLw29 l L xs) cuLw29 J W) (n : Nat) (ls st : List aV) (μ : aM) (g : Nat) : W (n + 1) 1814 ls st μ g = (sSld L xs 1815) (W n) ls st μ g := (hW n 1814 ls st μ g).trans rfl
theorem wLw29_1815 {l : Launch} {L : Nat} {xs : Nat → Int32} {J : aK} {W : Nat → aK} (hW : isW (tbLw29 l L xs) cuLw29 J W) (n : Nat) (ls st : List aV) (μ : aM) (g : Nat) : W (n + 1) 1815 ls st μ g = (sLd 3 1816 isR) (W n) ls st μ g := (hW n 1815 ls st μ g).trans rfl
theorem wLw29_1816 {l : Launch} {L : Nat} {xs : Nat → Int32} {J : aK} {W : Nat → aK} (hW : isW (tbLw29 l L xs) cuLw29 J W) (n : Nat) (ls st : List aV) (μ : aM) (g : Nat) : W (n + 1) 1816 ls st μ g = (sCallS 3 (fun as μ K => CtH l mdL_tradeSeller hhL_tradeSeller as μ K) 1819 1 3600) (W n) ls st μ g := (hW n 1816 ls st μ g).trans rfl
theorem tLw29_1819 (l : Launch) (L : Nat) (xs : Nat → Int32) : tb (tbLw29 l L xs) 1819 = sSt 6 1821 isI := (rfl)
theorem wLw29_1819 {l : Launch} {L : Nat} {xs : Nat → Int32} {J : aK} {W : Nat → aK} (hW : isW (tbLw29 l L xs) cuLw29 J W) (n : Nat) (ls st : List aV) (μ : aM) (g : Nat) : W (n + 1) 1819 ls st μ g = J 1819 ls st μ g := (hW n 1819 ls st μ g).trans rfl
theorem wLw29_1821 {l : Launch} {L : Nat} {xs : Nat → Int32} {J : aK} {W : Nat → aK} (hW : isW (tbLw29 l L xs) cuLw29 J W) (n : Nat) (ls st : List aV) (μ : aM) (g : Nat) : W (n + 1) 1821 ls st μ g = (sLd 2 1822 isR) (W n) ls st μ g := (hW n 1821 ls st μ g).trans rfl
theorem wLw29_1822 {l : Launch} {L : Nat} {xs : Nat → Int32} {J : aK} {W : Nat → aK} (hW : isW (tbLw29 l L xs) cuLw29 J W) (n : Nat) (ls st : List aV) (μ : aM) (g : Nat) : W (n + 1) 1822 ls st μ g = (sLd 0 1823 isR) (W n) ls st μ g := (hW n 1822 ls st μ g).trans rfl
theorem wLw29_1823 {l : Launch} {L : Nat} {xs : Nat → Int32} {J : aK} {W : Nat → aK} (hW : isW (tbLw29 l L xs) cuLw29 J W) (n : Nat) (ls st : List aV) (μ : aM) (g : Nat) : W (n + 1) 1823 ls st μ g = (sLd 5 1825 isI) (W n) ls st μ g := (hW n 1823 ls st μ g).trans rfl
theorem wLw29_1825 {l : Launch} {L : Nat} {xs : Nat → Int32} {J : aK} {W : Nat → aK} (hW : isW (tbLw29 l L xs) cuLw29 J W) (n : Nat) (ls st : List aV) (μ : aM) (g : Nat) : W (n + 1) 1825 ls st μ g = (sPush (aI 1) 1826) (W n) ls st μ g := (hW n 1825 ls st μ g).trans rfl
theorem wLw29_1826 {l : Launch} {L : Nat} {xs : Nat → Int32} {J : aK} {W : Nat → aK} (hW : isW (tbLw29 l L xs) cuLw29 J W) (n : Nat) (ls st : List aV) (μ : aM) (g : Nat) : W (n + 1) 1826 ls st μ g = (sBin fAdd 1827) (W n) ls st μ g := (hW n 1826 ls st μ g).trans rfl
theorem wLw29_1827 {l : Launch} {L : Nat} {xs : Nat → Int32} {J : aK} {W : Nat → aK} (hW : isW (tbLw29 l L xs) cuLw29 J W) (n : Nat) (ls st : List aV) (μ : aM) (g : Nat) : W (n + 1) 1827 ls st μ g = (sSld L xs 1828) (W n) ls st μ g := (hW n 1827 ls st μ g).trans rfl
theorem wLw29_1828 {l : Launch} {L : Nat} {xs : Nat → Int32} {J : aK} {W : Nat → aK} (hW : isW (tbLw29 l L xs) cuLw29 J W) (n : Nat) (ls st : List aV) (μ : aM) (g : Nat) : W (n + 1) 1828 ls st μ g = (sCallV 1 5 (fun as μ K => Ct l mdX5_tradeSeller as μ K nX) 1831 0 3600) (W n) ls st μ g := (hW n 1828 ls st μ g).trans rfl
theorem tLw29_1831 (l : Launch) (L : Nat) (xs : Nat → Int32) : tb (tbLw29 l L xs) 1831 = sSt 7 1833 isI := (rfl)
theorem wLw29_1831 {l : Launch} {L : Nat} {xs : Nat → Int32} {J : aK} {W : Nat → aK} (hW : isW (tbLw29 l L xs) cuLw29 J W) (n : Nat) (ls st : List aV) (μ : aM) (g : Nat) : W (n + 1) 1831 ls st μ g = J 1831 ls st μ g := (hW n 1831 ls st μ g).trans rfl
theorem wLw29_1833 {l : Launch} {L : Nat} {xs : Nat → Int32} {J : aK} {W : Nat → aK} (hW : isW (tbLw29 l L xs) cuLw29 J W) (n : Nat) (ls st : List aV) (μ : aM) (g : Nat) : W (n + 1) 1833 ls st μ g = (sLd 2 1834 isR) (W n) ls st μ g := (hW n 1833 ls st μ g).trans rfl
theorem wLw29_1834 {l : Launch} {L : Nat} {xs : Nat → Int32} {J : aK} {W : Nat → aK} (hW : isW (tbLw29 l L xs) cuLw29 J W) (n : Nat) (ls st : List aV) (μ : aM) (g : Nat) : W (n + 1) 1834 ls st μ g = (sCallV 0 5 (fun as μ K => Ct l mdX5_thrown as μ K nX) 1837 0 3600) (W n) ls st μ g := (hW n 1834 ls st μ g).trans rfl
theorem tLw29_1837 (l : Launch) (L : Nat) (xs : Nat → Int32) : tb (tbLw29 l L xs) 1837 = sLd 6 1839 isI := (rfl)
theorem wLw29_1837 {l : Launch} {L : Nat} {xs : Nat → Int32} {J : aK} {W : Nat → aK} (hW : isW (tbLw29 l L xs) cuLw29 J W) (n : Nat) (ls st : List aV) (μ : aM) (g : Nat) : W (n + 1) 1837 ls st μ g = J 1837 ls st μ g := (hW n 1837 ls st μ g).trans rfl
theorem wLw29_1839 {l : Launch} {L : Nat} {xs : Nat → Int32} {J : aK} {W : Nat → aK} (hW : isW (tbLw29 l L xs) cuLw29 J W) (n : Nat) (ls st : List aV) (μ : aM) (g : Nat) : W (n + 1) 1839 ls st μ g = (sIc qEq 1844 1842) (W n) ls st μ g := (hW n 1839 ls st μ g).trans rfl
theorem wLw29_1842 {l : Launch} {L : Nat} {xs : Nat → Int32} {J : aK} {W : Nat → aK} (hW : isW (tbLw29 l L xs) cuLw29 J W) (n : Nat) (ls st : List aV) (μ : aM) (g : Nat) : W (n + 1) 1842 ls st μ g = (sPush (aI 0) 1843) (W n) ls st μ g := (hW n 1842 ls st μ g).trans rfl
theorem wLw29_1843 {l : Launch} {L : Nat} {xs : Nat → Int32} {J : aK} {W : Nat → aK} (hW : isW (tbLw29 l L xs) cuLw29 J W) (n : Nat) (ls st : List aV) (μ : aM) (g : Nat) : W (n + 1) 1843 ls st μ g = (sLret) (W n) ls st μ g := (hW n 1843 ls st μ g).trans rfl
theorem wLw29_1844 {l : Launch} {L : Nat} {xs : Nat → Int32} {J : aK} {W : Nat → aK} (hW : isW (tbLw29 l L xs) cuLw29 J W) (n : Nat) (ls st : List aV) (μ : aM) (g : Nat) : W (n + 1) 1844 ls st μ g = (sLd 6 1846 isI) (W n) ls st μ g := (hW n 1844 ls st μ g).trans rfl
theorem wLw29_1846 {l : Launch} {L : Nat} {xs : Nat → Int32} {J : aK} {W : Nat → aK} (hW : isW (tbLw29 l L xs) cuLw29 J W) (n : Nat) (ls st : List aV) (μ : aM) (g : Nat) : W (n + 1) 1846 ls st μ g = (sIf pNe 1861 1849) (W n) ls st μ g := (hW n 1846 ls st μ g).trans rfl
theorem wLw29_1849 {l : Launch} {L : Nat} {xs : Nat → Int32} {J : aK} {W : Nat → aK} (hW : isW (tbLw29 l L xs) cuLw29 J W) (n : Nat) (ls st : List aV) (μ : aM) (g : Nat) : W (n + 1) 1849 ls st μ g = (sLd 3 1850 isR) (W n) ls st μ g := (hW n 1849 ls st μ g).trans rfl
theorem wLw29_1850 {l : Launch} {L : Nat} {xs : Nat → Int32} {J : aK} {W : Nat → aK} (hW : isW (tbLw29 l L xs) cuLw29 J W) (n : Nat) (ls st : List aV) (μ : aM) (g : Nat) : W (n + 1) 1850 ls st μ g = (sPush (aI 0) 1851) (W n) ls st μ g := (hW n 1850 ls st μ g).trans rfl
theorem wLw29_1851 {l : Launch} {L : Nat} {xs : Nat → Int32} {J : aK} {W : Nat → aK} (hW : isW (tbLw29 l L xs) cuLw29 J W) (n : Nat) (ls st : List aV) (μ : aM) (g : Nat) : W (n + 1) 1851 ls st μ g = (sAldL 1852) (W n) ls st μ g := (hW n 1851 ls st μ g).trans rfl
theorem wLw29_1852 {l : Launch} {L : Nat} {xs : Nat → Int32} {J : aK} {W : Nat → aK} (hW : isW (tbLw29 l L xs) cuLw29 J W) (n : Nat) (ls st : List aV) (μ : aM) (g : Nat) : W (n + 1) 1852 ls st μ g = (sLd 7 1854 isI) (W n) ls st μ g := (hW n 1852 ls st μ g).trans rfl
theorem wLw29_1854 {l : Launch} {L : Nat} {xs : Nat → Int32} {J : aK} {W : Nat → aK} (hW : isW (tbLw29 l L xs) cuLw29 J W) (n : Nat) (ls st : List aV) (μ : aM) (g : Nat) : W (n + 1) 1854 ls st μ g = (sI2l 1855) (W n) ls st μ g := (hW n 1854 ls st μ g).trans rfl
theorem wLw29_1855 {l : Launch} {L : Nat} {xs : Nat → Int32} {J : aK} {W : Nat → aK} (hW : isW (tbLw29 l L xs) cuLw29 J W) (n : Nat) (ls st : List aV) (μ : aM) (g : Nat) : W (n + 1) 1855 ls st μ g = (sLcmp 1856) (W n) ls st μ g := (hW n 1855 ls st μ g).trans rfl
theorem wLw29_1856 {l : Launch} {L : Nat} {xs : Nat → Int32} {J : aK} {W : Nat → aK} (hW : isW (tbLw29 l L xs) cuLw29 J W) (n : Nat) (ls st : List aV) (μ : aM) (g : Nat) : W (n + 1) 1856 ls st μ g = (sIf pEq 1861 1859) (W n) ls st μ g := (hW n 1856 ls st μ g).trans rfl
theorem wLw29_1859 {l : Launch} {L : Nat} {xs : Nat → Int32} {J : aK} {W : Nat → aK} (hW : isW (tbLw29 l L xs) cuLw29 J W) (n : Nat) (ls st : List aV) (μ : aM) (g : Nat) : W (n + 1) 1859 ls st μ g = (sPush (aI 0) 1860) (W n) ls st μ g := (hW n 1859 ls st μ g).trans rfl
theorem wLw29_1860 {l : Launch} {L : Nat} {xs : Nat → Int32} {J : aK} {W : Nat → aK} (hW : isW (tbLw29 l L xs) cuLw29 J W) (n : Nat) (ls st : List aV) (μ : aM) (g : Nat) : W (n + 1) 1860 ls st μ g = (sLret) (W n) ls st μ g := (hW n 1860 ls st μ g).trans rfl
theorem wLw29_1861 {l : Launch} {L : Nat} {xs : Nat → Int32} {J : aK} {W : Nat → aK} (hW : isW (tbLw29 l L xs) cuLw29 J W) (n : Nat) (ls st : List aV) (μ : aM) (g : Nat) : W (n + 1) 1861 ls st μ g = (sGoto 1969) (W n) ls st μ g := (hW n 1861 ls st μ g).trans rfl
theorem dLw30_1864 : decode code 1864 = .ok (.aload_n 1, 1) := by decide +kernel
theorem dLw30_1865 : decode code 1865 = .ok (.invokevirtual 223, 3) := by decide +kernel
theorem dLw30_1868 : decode code 1868 = .ok (.aload_n 2, 1) := by decide +kernel
theorem dLw30_1869 : decode code 1869 = .ok (.invokevirtual 227, 3) := by decide +kernel
theorem dLw30_1872 : decode code 1872 = .ok (.lcmp, 1) := by decide +kernel
theorem dLw30_1873 : decode code 1873 = .ok (.ifCond .eq 96, 3) := by decide +kernel
theorem dLw30_1876 : decode code 1876 = .ok (.iconst 0, 1) := by decide +kernel
theorem dLw30_1877 : decode code 1877 = .ok (.ireturn, 1) := by decide +kernel
def tbLw30 (l : Launch) (L : Nat) (xs : Nat → Int32) : aTb := [
  (1864, sLd 1 1865 isR),
  (1865, sCallV 0 4 (fun as μ K => Ct l mdX4_volume as μ K nX) 1868 0 3600),
  (1868, sLd 2 1869 isR),
  (1869, sCallV 0 5 (fun as μ K => Ct l mdX5_volume as μ K nX) 1872 0 3600),
  (1872, sLcmp 1873),
  (1873, sIf pEq 1969 1876),
  (1876, sPush (aI 0) 1877),
  (1877, sLret)]
theorem snLw30 (l : Launch) (L : Nat) (xs : Nat → Int32) (hL3 : L ≤ 3072) : ∀ q ∈ tbLw30 l L xs, Snd (BL l L xs) q.1 q.2 :=
  tcG (sLw (fun p e s m below meth c b cA D A ad0 h hb => ok_aload_n h.1 1 rfl dLw30_1864)) <|
  tcG (sLw (fun p e s m below meth c b cA D A ad0 h hb => ok_callV h.1 h.2.1 (show 3600 ≤ room_1.cells ∧ 2000 * 3600 ≤ room_1.slots from ⟨Nat.le_of_ble_eq_true rfl, Nat.le_of_ble_eq_true rfl⟩) mdX4_volume siX4_volume cxX4 mkRL_223 imX4_volume seX4_volume ⟨by decide, by decide⟩ aAx_no dLw30_1865)) <|
  tcG (sLw (fun p e s m below meth c b cA D A ad0 h hb => ok_aload_n h.1 2 rfl dLw30_1868)) <|
  tcG (sLw (fun p e s m below meth c b cA D A ad0 h hb => ok_callV h.1 h.2.1 (show 3600 ≤ room_1.cells ∧ 2000 * 3600 ≤ room_1.slots from ⟨Nat.le_of_ble_eq_true rfl, Nat.le_of_ble_eq_true rfl⟩) mdX5_volume siX5_volume cxX5 mkRL_227 imX5_volume seX5_volume ⟨by decide, by decide⟩ aAx_no dLw30_1869)) <|
  tcG (sLw (fun p e s m below meth c b cA D A ad0 h hb => ok_lcmp h.1 dLw30_1872)) <|
  tcG (sLw (fun p e s m below meth c b cA D A ad0 h hb => ok_if_eq h.1 1969 (by decide) dLw30_1873)) <|
  tcG (sLw (fun p e s m below meth c b cA D A ad0 h hb => ok_iconst h.1 ⟨by decide, by decide⟩ dLw30_1876)) <|
  tcG (sLw (fun p e s m below meth c b cA D A ad0 h hb => ok_lret h dLw30_1877)) <|
  tnG
abbrev cuLw30 : List Nat := [1868, 1872, 1969]
theorem wLw30_1969 {l : Launch} {L : Nat} {xs : Nat → Int32} {J : aK} {W : Nat → aK} (hW : isW (tbLw30 l L xs) cuLw30 J W) (n : Nat) (ls st : List aV) (μ : aM) (g : Nat) : W (n + 1) 1969 ls st μ g = J 1969 ls st μ g := (hW n 1969 ls st μ g).trans rfl
theorem tLw30_1864 (l : Launch) (L : Nat) (xs : Nat → Int32) : tb (tbLw30 l L xs) 1864 = sLd 1 1865 isR := (rfl)
theorem wLw30_1864 {l : Launch} {L : Nat} {xs : Nat → Int32} {J : aK} {W : Nat → aK} (hW : isW (tbLw30 l L xs) cuLw30 J W) (n : Nat) (ls st : List aV) (μ : aM) (g : Nat) : W (n + 1) 1864 ls st μ g = (sLd 1 1865 isR) (W n) ls st μ g := (hW n 1864 ls st μ g).trans rfl
theorem wLw30_1865 {l : Launch} {L : Nat} {xs : Nat → Int32} {J : aK} {W : Nat → aK} (hW : isW (tbLw30 l L xs) cuLw30 J W) (n : Nat) (ls st : List aV) (μ : aM) (g : Nat) : W (n + 1) 1865 ls st μ g = (sCallV 0 4 (fun as μ K => Ct l mdX4_volume as μ K nX) 1868 0 3600) (W n) ls st μ g := (hW n 1865 ls st μ g).trans rfl
theorem tLw30_1868 (l : Launch) (L : Nat) (xs : Nat → Int32) : tb (tbLw30 l L xs) 1868 = sLd 2 1869 isR := (rfl)
theorem wLw30_1868 {l : Launch} {L : Nat} {xs : Nat → Int32} {J : aK} {W : Nat → aK} (hW : isW (tbLw30 l L xs) cuLw30 J W) (n : Nat) (ls st : List aV) (μ : aM) (g : Nat) : W (n + 1) 1868 ls st μ g = J 1868 ls st μ g := (hW n 1868 ls st μ g).trans rfl
theorem wLw30_1869 {l : Launch} {L : Nat} {xs : Nat → Int32} {J : aK} {W : Nat → aK} (hW : isW (tbLw30 l L xs) cuLw30 J W) (n : Nat) (ls st : List aV) (μ : aM) (g : Nat) : W (n + 1) 1869 ls st μ g = (sCallV 0 5 (fun as μ K => Ct l mdX5_volume as μ K nX) 1872 0 3600) (W n) ls st μ g := (hW n 1869 ls st μ g).trans rfl
theorem tLw30_1872 (l : Launch) (L : Nat) (xs : Nat → Int32) : tb (tbLw30 l L xs) 1872 = sLcmp 1873 := (rfl)
theorem wLw30_1872 {l : Launch} {L : Nat} {xs : Nat → Int32} {J : aK} {W : Nat → aK} (hW : isW (tbLw30 l L xs) cuLw30 J W) (n : Nat) (ls st : List aV) (μ : aM) (g : Nat) : W (n + 1) 1872 ls st μ g = J 1872 ls st μ g := (hW n 1872 ls st μ g).trans rfl
theorem wLw30_1873 {l : Launch} {L : Nat} {xs : Nat → Int32} {J : aK} {W : Nat → aK} (hW : isW (tbLw30 l L xs) cuLw30 J W) (n : Nat) (ls st : List aV) (μ : aM) (g : Nat) : W (n + 1) 1873 ls st μ g = (sIf pEq 1969 1876) (W n) ls st μ g := (hW n 1873 ls st μ g).trans rfl
theorem wLw30_1876 {l : Launch} {L : Nat} {xs : Nat → Int32} {J : aK} {W : Nat → aK} (hW : isW (tbLw30 l L xs) cuLw30 J W) (n : Nat) (ls st : List aV) (μ : aM) (g : Nat) : W (n + 1) 1876 ls st μ g = (sPush (aI 0) 1877) (W n) ls st μ g := (hW n 1876 ls st μ g).trans rfl
theorem wLw30_1877 {l : Launch} {L : Nat} {xs : Nat → Int32} {J : aK} {W : Nat → aK} (hW : isW (tbLw30 l L xs) cuLw30 J W) (n : Nat) (ls st : List aV) (μ : aM) (g : Nat) : W (n + 1) 1877 ls st μ g = (sLret) (W n) ls st μ g := (hW n 1877 ls st μ g).trans rfl
theorem dLw31_1878 : decode code 1878 = .ok (.aload_n 1, 1) := by decide +kernel
theorem dLw31_1879 : decode code 1879 = .ok (.aload 4, 2) := by decide +kernel
theorem dLw31_1881 : decode code 1881 = .ok (.invokestatic 228, 3) := by decide +kernel
theorem dLw31_1884 : decode code 1884 = .ok (.istore 6, 2) := by decide +kernel
theorem dLw31_1886 : decode code 1886 = .ok (.aload_n 2, 1) := by decide +kernel
theorem dLw31_1887 : decode code 1887 = .ok (.invokevirtual 231, 3) := by decide +kernel
theorem dLw31_1890 : decode code 1890 = .ok (.dstore 7, 2) := by decide +kernel
theorem dLw31_1892 : decode code 1892 = .ok (.aload_n 2, 1) := by decide +kernel
theorem dLw31_1893 : decode code 1893 = .ok (.invokevirtual 121, 3) := by decide +kernel
theorem dLw31_1896 : decode code 1896 = .ok (.iload 6, 2) := by decide +kernel
theorem dLw31_1898 : decode code 1898 = .ok (.if_icmp .eq 5, 3) := by decide +kernel
theorem dLw31_1901 : decode code 1901 = .ok (.iconst 0, 1) := by decide +kernel
theorem dLw31_1902 : decode code 1902 = .ok (.ireturn, 1) := by decide +kernel
theorem dLw31_1903 : decode code 1903 = .ok (.iload 6, 2) := by decide +kernel
theorem dLw31_1905 : decode code 1905 = .ok (.ifCond .ne 35, 3) := by decide +kernel
theorem dLw31_1908 : decode code 1908 = .ok (.aload 4, 2) := by decide +kernel
theorem dLw31_1910 : decode code 1910 = .ok (.iconst 0, 1) := by decide +kernel
theorem dLw31_1911 : decode code 1911 = .ok (.daload, 1) := by decide +kernel
theorem dLw31_1912 : decode code 1912 = .ok (.dload 7, 2) := by decide +kernel
theorem dLw31_1914 : decode code 1914 = .ok (.dcmp .l, 1) := by decide +kernel
theorem dLw31_1915 : decode code 1915 = .ok (.ifCond .eq 25, 3) := by decide +kernel
theorem dLw31_1918 : decode code 1918 = .ok (.aload 4, 2) := by decide +kernel
theorem dLw31_1920 : decode code 1920 = .ok (.iconst 0, 1) := by decide +kernel
theorem dLw31_1921 : decode code 1921 = .ok (.daload, 1) := by decide +kernel
theorem dLw31_1922 : decode code 1922 = .ok (.aload 4, 2) := by decide +kernel
theorem dLw31_1924 : decode code 1924 = .ok (.iconst 0, 1) := by decide +kernel
theorem dLw31_1925 : decode code 1925 = .ok (.daload, 1) := by decide +kernel
theorem dLw31_1926 : decode code 1926 = .ok (.dcmp .l, 1) := by decide +kernel
theorem dLw31_1927 : decode code 1927 = .ok (.ifCond .eq 11, 3) := by decide +kernel
theorem dLw31_1930 : decode code 1930 = .ok (.dload 7, 2) := by decide +kernel
theorem dLw31_1932 : decode code 1932 = .ok (.dload 7, 2) := by decide +kernel
theorem dLw31_1934 : decode code 1934 = .ok (.dcmp .l, 1) := by decide +kernel
theorem dLw31_1935 : decode code 1935 = .ok (.ifCond .ne 5, 3) := by decide +kernel
theorem dLw31_1938 : decode code 1938 = .ok (.iconst 0, 1) := by decide +kernel
theorem dLw31_1939 : decode code 1939 = .ok (.ireturn, 1) := by decide +kernel
theorem dLw31_1940 : decode code 1940 = .ok (.goto 29, 3) := by decide +kernel
def tbLw31 (l : Launch) (L : Nat) (xs : Nat → Int32) : aTb := [
  (1878, sLd 1 1879 isR),
  (1879, sLd 4 1881 isR),
  (1881, sCallS 2 (fun as μ K => CtH l mdL_meanPrice hhL_meanPrice as μ K) 1884 1 3600),
  (1884, sSt 6 1886 isI),
  (1886, sLd 2 1887 isR),
  (1887, sCallV 0 5 (fun as μ K => Ct l mdX5_meanPrice as μ K nX) 1890 0 3600),
  (1890, sSt2 7 1892 isD),
  (1892, sLd 2 1893 isR),
  (1893, sCallV 0 5 (fun as μ K => Ct l mdX5_thrown as μ K nX) 1896 0 3600),
  (1896, sLd 6 1898 isI),
  (1898, sIc qEq 1903 1901),
  (1901, sPush (aI 0) 1902),
  (1902, sLret),
  (1903, sLd 6 1905 isI),
  (1905, sIf pNe 1940 1908),
  (1908, sLd 4 1910 isR),
  (1910, sPush (aI 0) 1911),
  (1911, sAldD 1912),
  (1912, sLd 7 1914 isD),
  (1914, sDcmp .l 1915),
  (1915, sIf pEq 1940 1918),
  (1918, sLd 4 1920 isR),
  (1920, sPush (aI 0) 1921),
  (1921, sAldD 1922),
  (1922, sLd 4 1924 isR),
  (1924, sPush (aI 0) 1925),
  (1925, sAldD 1926),
  (1926, sDcmp .l 1927),
  (1927, sIf pEq 1938 1930),
  (1930, sLd 7 1932 isD),
  (1932, sLd 7 1934 isD),
  (1934, sDcmp .l 1935),
  (1935, sIf pNe 1940 1938),
  (1938, sPush (aI 0) 1939),
  (1939, sLret),
  (1940, sGoto 1969)]
theorem snLw31 (l : Launch) (L : Nat) (xs : Nat → Int32) (hL3 : L ≤ 3072) : ∀ q ∈ tbLw31 l L xs, Snd (BL l L xs) q.1 q.2 :=
  tcG (sLw (fun p e s m below meth c b cA D A ad0 h hb => ok_aload_n h.1 1 rfl dLw31_1878)) <|
  tcG (sLw (fun p e s m below meth c b cA D A ad0 h hb => ok_aload h.1 dLw31_1879)) <|
  tcG (sLw (fun p e s m below meth c b cA D A ad0 h hb => ok_callSH h.1 h.2.1 (show 3600 ≤ room_1.cells ∧ 2000 * 3600 ≤ room_1.slots from ⟨Nat.le_of_ble_eq_true rfl, Nat.le_of_ble_eq_true rfl⟩) mdL_meanPrice hhL_meanPrice siL_meanPrice mkRL_228 stL_meanPrice ⟨by decide, by decide⟩ dLw31_1881)) <|
  tcG (sLw (fun p e s m below meth c b cA D A ad0 h hb => ok_istore h.1 (by decide) dLw31_1884)) <|
  tcG (sLw (fun p e s m below meth c b cA D A ad0 h hb => ok_aload_n h.1 2 rfl dLw31_1886)) <|
  tcG (sLw (fun p e s m below meth c b cA D A ad0 h hb => ok_callV h.1 h.2.1 (show 3600 ≤ room_1.cells ∧ 2000 * 3600 ≤ room_1.slots from ⟨Nat.le_of_ble_eq_true rfl, Nat.le_of_ble_eq_true rfl⟩) mdX5_meanPrice siX5_meanPrice cxX5 mkRL_231 imX5_meanPrice seX5_meanPrice ⟨by decide, by decide⟩ aAx_no dLw31_1887)) <|
  tcG (sLw (fun p e s m below meth c b cA D A ad0 h hb => ok_dstore h.1 (by decide) dLw31_1890)) <|
  tcG (sLw (fun p e s m below meth c b cA D A ad0 h hb => ok_aload_n h.1 2 rfl dLw31_1892)) <|
  tcG (sLw (fun p e s m below meth c b cA D A ad0 h hb => ok_callV h.1 h.2.1 (show 3600 ≤ room_1.cells ∧ 2000 * 3600 ≤ room_1.slots from ⟨Nat.le_of_ble_eq_true rfl, Nat.le_of_ble_eq_true rfl⟩) mdX5_thrown siX5_thrown cxX5 mkRL_121 imX5_thrown seX5_thrown ⟨by decide, by decide⟩ aAx_no dLw31_1893)) <|
  tcG (sLw (fun p e s m below meth c b cA D A ad0 h hb => ok_iload h.1 dLw31_1896)) <|
  tcG (sLw (fun p e s m below meth c b cA D A ad0 h hb => ok_icmp_eq h.1 1903 (by decide) dLw31_1898)) <|
  tcG (sLw (fun p e s m below meth c b cA D A ad0 h hb => ok_iconst h.1 ⟨by decide, by decide⟩ dLw31_1901)) <|
  tcG (sLw (fun p e s m below meth c b cA D A ad0 h hb => ok_lret h dLw31_1902)) <|
  tcG (sLw (fun p e s m below meth c b cA D A ad0 h hb => ok_iload h.1 dLw31_1903)) <|
  tcG (sLw (fun p e s m below meth c b cA D A ad0 h hb => ok_if_ne h.1 1940 (by decide) dLw31_1905)) <|
  tcG (sLw (fun p e s m below meth c b cA D A ad0 h hb => ok_aload h.1 dLw31_1908)) <|
  tcG (sLw (fun p e s m below meth c b cA D A ad0 h hb => ok_iconst h.1 ⟨by decide, by decide⟩ dLw31_1910)) <|
  tcG (sLw (fun p e s m below meth c b cA D A ad0 h hb => ok_dald h.1 dLw31_1911)) <|
  tcG (sLw (fun p e s m below meth c b cA D A ad0 h hb => ok_dload h.1 dLw31_1912)) <|
  tcG (sLw (fun p e s m below meth c b cA D A ad0 h hb => ok_dcmp h.1 dLw31_1914)) <|
  tcG (sLw (fun p e s m below meth c b cA D A ad0 h hb => ok_if_eq h.1 1940 (by decide) dLw31_1915)) <|
  tcG (sLw (fun p e s m below meth c b cA D A ad0 h hb => ok_aload h.1 dLw31_1918)) <|
  tcG (sLw (fun p e s m below meth c b cA D A ad0 h hb => ok_iconst h.1 ⟨by decide, by decide⟩ dLw31_1920)) <|
  tcG (sLw (fun p e s m below meth c b cA D A ad0 h hb => ok_dald h.1 dLw31_1921)) <|
  tcG (sLw (fun p e s m below meth c b cA D A ad0 h hb => ok_aload h.1 dLw31_1922)) <|
  tcG (sLw (fun p e s m below meth c b cA D A ad0 h hb => ok_iconst h.1 ⟨by decide, by decide⟩ dLw31_1924)) <|
  tcG (sLw (fun p e s m below meth c b cA D A ad0 h hb => ok_dald h.1 dLw31_1925)) <|
  tcG (sLw (fun p e s m below meth c b cA D A ad0 h hb => ok_dcmp h.1 dLw31_1926)) <|
  tcG (sLw (fun p e s m below meth c b cA D A ad0 h hb => ok_if_eq h.1 1938 (by decide) dLw31_1927)) <|
  tcG (sLw (fun p e s m below meth c b cA D A ad0 h hb => ok_dload h.1 dLw31_1930)) <|
  tcG (sLw (fun p e s m below meth c b cA D A ad0 h hb => ok_dload h.1 dLw31_1932)) <|
  tcG (sLw (fun p e s m below meth c b cA D A ad0 h hb => ok_dcmp h.1 dLw31_1934)) <|
  tcG (sLw (fun p e s m below meth c b cA D A ad0 h hb => ok_if_ne h.1 1940 (by decide) dLw31_1935)) <|
  tcG (sLw (fun p e s m below meth c b cA D A ad0 h hb => ok_iconst h.1 ⟨by decide, by decide⟩ dLw31_1938)) <|
  tcG (sLw (fun p e s m below meth c b cA D A ad0 h hb => ok_lret h dLw31_1939)) <|
  tcG (sLw (fun p e s m below meth c b cA D A ad0 h hb => ok_goto h.1 1969 (by decide) dLw31_1940)) <|
  tnG
abbrev cuLw31 : List Nat := [1884, 1890, 1896, 1969]
theorem wLw31_1969 {l : Launch} {L : Nat} {xs : Nat → Int32} {J : aK} {W : Nat → aK} (hW : isW (tbLw31 l L xs) cuLw31 J W) (n : Nat) (ls st : List aV) (μ : aM) (g : Nat) : W (n + 1) 1969 ls st μ g = J 1969 ls st μ g := (hW n 1969 ls st μ g).trans rfl
theorem tLw31_1878 (l : Launch) (L : Nat) (xs : Nat → Int32) : tb (tbLw31 l L xs) 1878 = sLd 1 1879 isR := (rfl)
theorem wLw31_1878 {l : Launch} {L : Nat} {xs : Nat → Int32} {J : aK} {W : Nat → aK} (hW : isW (tbLw31 l L xs) cuLw31 J W) (n : Nat) (ls st : List aV) (μ : aM) (g : Nat) : W (n + 1) 1878 ls st μ g = (sLd 1 1879 isR) (W n) ls st μ g := (hW n 1878 ls st μ g).trans rfl
theorem wLw31_1879 {l : Launch} {L : Nat} {xs : Nat → Int32} {J : aK} {W : Nat → aK} (hW : isW (tbLw31 l L xs) cuLw31 J W) (n : Nat) (ls st : List aV) (μ : aM) (g : Nat) : W (n + 1) 1879 ls st μ g = (sLd 4 1881 isR) (W n) ls st μ g := (hW n 1879 ls st μ g).trans rfl
theorem wLw31_1881 {l : Launch} {L : Nat} {xs : Nat → Int32} {J : aK} {W : Nat → aK} (hW : isW (tbLw31 l L xs) cuLw31 J W) (n : Nat) (ls st : List aV) (μ : aM) (g : Nat) : W (n + 1) 1881 ls st μ g = (sCallS 2 (fun as μ K => CtH l mdL_meanPrice hhL_meanPrice as μ K) 1884 1 3600) (W n) ls st μ g := (hW n 1881 ls st μ g).trans rfl
theorem tLw31_1884 (l : Launch) (L : Nat) (xs : Nat → Int32) : tb (tbLw31 l L xs) 1884 = sSt 6 1886 isI := (rfl)
theorem wLw31_1884 {l : Launch} {L : Nat} {xs : Nat → Int32} {J : aK} {W : Nat → aK} (hW : isW (tbLw31 l L xs) cuLw31 J W) (n : Nat) (ls st : List aV) (μ : aM) (g : Nat) : W (n + 1) 1884 ls st μ g = J 1884 ls st μ g := (hW n 1884 ls st μ g).trans rfl
theorem wLw31_1886 {l : Launch} {L : Nat} {xs : Nat → Int32} {J : aK} {W : Nat → aK} (hW : isW (tbLw31 l L xs) cuLw31 J W) (n : Nat) (ls st : List aV) (μ : aM) (g : Nat) : W (n + 1) 1886 ls st μ g = (sLd 2 1887 isR) (W n) ls st μ g := (hW n 1886 ls st μ g).trans rfl
theorem wLw31_1887 {l : Launch} {L : Nat} {xs : Nat → Int32} {J : aK} {W : Nat → aK} (hW : isW (tbLw31 l L xs) cuLw31 J W) (n : Nat) (ls st : List aV) (μ : aM) (g : Nat) : W (n + 1) 1887 ls st μ g = (sCallV 0 5 (fun as μ K => Ct l mdX5_meanPrice as μ K nX) 1890 0 3600) (W n) ls st μ g := (hW n 1887 ls st μ g).trans rfl
theorem tLw31_1890 (l : Launch) (L : Nat) (xs : Nat → Int32) : tb (tbLw31 l L xs) 1890 = sSt2 7 1892 isD := (rfl)
theorem wLw31_1890 {l : Launch} {L : Nat} {xs : Nat → Int32} {J : aK} {W : Nat → aK} (hW : isW (tbLw31 l L xs) cuLw31 J W) (n : Nat) (ls st : List aV) (μ : aM) (g : Nat) : W (n + 1) 1890 ls st μ g = J 1890 ls st μ g := (hW n 1890 ls st μ g).trans rfl
theorem wLw31_1892 {l : Launch} {L : Nat} {xs : Nat → Int32} {J : aK} {W : Nat → aK} (hW : isW (tbLw31 l L xs) cuLw31 J W) (n : Nat) (ls st : List aV) (μ : aM) (g : Nat) : W (n + 1) 1892 ls st μ g = (sLd 2 1893 isR) (W n) ls st μ g := (hW n 1892 ls st μ g).trans rfl
theorem wLw31_1893 {l : Launch} {L : Nat} {xs : Nat → Int32} {J : aK} {W : Nat → aK} (hW : isW (tbLw31 l L xs) cuLw31 J W) (n : Nat) (ls st : List aV) (μ : aM) (g : Nat) : W (n + 1) 1893 ls st μ g = (sCallV 0 5 (fun as μ K => Ct l mdX5_thrown as μ K nX) 1896 0 3600) (W n) ls st μ g := (hW n 1893 ls st μ g).trans rfl
theorem tLw31_1896 (l : Launch) (L : Nat) (xs : Nat → Int32) : tb (tbLw31 l L xs) 1896 = sLd 6 1898 isI := (rfl)
theorem wLw31_1896 {l : Launch} {L : Nat} {xs : Nat → Int32} {J : aK} {W : Nat → aK} (hW : isW (tbLw31 l L xs) cuLw31 J W) (n : Nat) (ls st : List aV) (μ : aM) (g : Nat) : W (n + 1) 1896 ls st μ g = J 1896 ls st μ g := (hW n 1896 ls st μ g).trans rfl
theorem wLw31_1898 {l : Launch} {L : Nat} {xs : Nat → Int32} {J : aK} {W : Nat → aK} (hW : isW (tbLw31 l L xs) cuLw31 J W) (n : Nat) (ls st : List aV) (μ : aM) (g : Nat) : W (n + 1) 1898 ls st μ g = (sIc qEq 1903 1901) (W n) ls st μ g := (hW n 1898 ls st μ g).trans rfl
theorem wLw31_1901 {l : Launch} {L : Nat} {xs : Nat → Int32} {J : aK} {W : Nat → aK} (hW : isW (tbLw31 l L xs) cuLw31 J W) (n : Nat) (ls st : List aV) (μ : aM) (g : Nat) : W (n + 1) 1901 ls st μ g = (sPush (aI 0) 1902) (W n) ls st μ g := (hW n 1901 ls st μ g).trans rfl
theorem wLw31_1902 {l : Launch} {L : Nat} {xs : Nat → Int32} {J : aK} {W : Nat → aK} (hW : isW (tbLw31 l L xs) cuLw31 J W) (n : Nat) (ls st : List aV) (μ : aM) (g : Nat) : W (n + 1) 1902 ls st μ g = (sLret) (W n) ls st μ g := (hW n 1902 ls st μ g).trans rfl
theorem wLw31_1903 {l : Launch} {L : Nat} {xs : Nat → Int32} {J : aK} {W : Nat → aK} (hW : isW (tbLw31 l L xs) cuLw31 J W) (n : Nat) (ls st : List aV) (μ : aM) (g : Nat) : W (n + 1) 1903 ls st μ g = (sLd 6 1905 isI) (W n) ls st μ g := (hW n 1903 ls st μ g).trans rfl
theorem wLw31_1905 {l : Launch} {L : Nat} {xs : Nat → Int32} {J : aK} {W : Nat → aK} (hW : isW (tbLw31 l L xs) cuLw31 J W) (n : Nat) (ls st : List aV) (μ : aM) (g : Nat) : W (n + 1) 1905 ls st μ g = (sIf pNe 1940 1908) (W n) ls st μ g := (hW n 1905 ls st μ g).trans rfl
theorem wLw31_1908 {l : Launch} {L : Nat} {xs : Nat → Int32} {J : aK} {W : Nat → aK} (hW : isW (tbLw31 l L xs) cuLw31 J W) (n : Nat) (ls st : List aV) (μ : aM) (g : Nat) : W (n + 1) 1908 ls st μ g = (sLd 4 1910 isR) (W n) ls st μ g := (hW n 1908 ls st μ g).trans rfl
theorem wLw31_1910 {l : Launch} {L : Nat} {xs : Nat → Int32} {J : aK} {W : Nat → aK} (hW : isW (tbLw31 l L xs) cuLw31 J W) (n : Nat) (ls st : List aV) (μ : aM) (g : Nat) : W (n + 1) 1910 ls st μ g = (sPush (aI 0) 1911) (W n) ls st μ g := (hW n 1910 ls st μ g).trans rfl
theorem wLw31_1911 {l : Launch} {L : Nat} {xs : Nat → Int32} {J : aK} {W : Nat → aK} (hW : isW (tbLw31 l L xs) cuLw31 J W) (n : Nat) (ls st : List aV) (μ : aM) (g : Nat) : W (n + 1) 1911 ls st μ g = (sAldD 1912) (W n) ls st μ g := (hW n 1911 ls st μ g).trans rfl
theorem wLw31_1912 {l : Launch} {L : Nat} {xs : Nat → Int32} {J : aK} {W : Nat → aK} (hW : isW (tbLw31 l L xs) cuLw31 J W) (n : Nat) (ls st : List aV) (μ : aM) (g : Nat) : W (n + 1) 1912 ls st μ g = (sLd 7 1914 isD) (W n) ls st μ g := (hW n 1912 ls st μ g).trans rfl
theorem wLw31_1914 {l : Launch} {L : Nat} {xs : Nat → Int32} {J : aK} {W : Nat → aK} (hW : isW (tbLw31 l L xs) cuLw31 J W) (n : Nat) (ls st : List aV) (μ : aM) (g : Nat) : W (n + 1) 1914 ls st μ g = (sDcmp .l 1915) (W n) ls st μ g := (hW n 1914 ls st μ g).trans rfl
theorem wLw31_1915 {l : Launch} {L : Nat} {xs : Nat → Int32} {J : aK} {W : Nat → aK} (hW : isW (tbLw31 l L xs) cuLw31 J W) (n : Nat) (ls st : List aV) (μ : aM) (g : Nat) : W (n + 1) 1915 ls st μ g = (sIf pEq 1940 1918) (W n) ls st μ g := (hW n 1915 ls st μ g).trans rfl
theorem wLw31_1918 {l : Launch} {L : Nat} {xs : Nat → Int32} {J : aK} {W : Nat → aK} (hW : isW (tbLw31 l L xs) cuLw31 J W) (n : Nat) (ls st : List aV) (μ : aM) (g : Nat) : W (n + 1) 1918 ls st μ g = (sLd 4 1920 isR) (W n) ls st μ g := (hW n 1918 ls st μ g).trans rfl
theorem wLw31_1920 {l : Launch} {L : Nat} {xs : Nat → Int32} {J : aK} {W : Nat → aK} (hW : isW (tbLw31 l L xs) cuLw31 J W) (n : Nat) (ls st : List aV) (μ : aM) (g : Nat) : W (n + 1) 1920 ls st μ g = (sPush (aI 0) 1921) (W n) ls st μ g := (hW n 1920 ls st μ g).trans rfl
theorem wLw31_1921 {l : Launch} {L : Nat} {xs : Nat → Int32} {J : aK} {W : Nat → aK} (hW : isW (tbLw31 l L xs) cuLw31 J W) (n : Nat) (ls st : List aV) (μ : aM) (g : Nat) : W (n + 1) 1921 ls st μ g = (sAldD 1922) (W n) ls st μ g := (hW n 1921 ls st μ g).trans rfl
theorem wLw31_1922 {l : Launch} {L : Nat} {xs : Nat → Int32} {J : aK} {W : Nat → aK} (hW : isW (tbLw31 l L xs) cuLw31 J W) (n : Nat) (ls st : List aV) (μ : aM) (g : Nat) : W (n + 1) 1922 ls st μ g = (sLd 4 1924 isR) (W n) ls st μ g := (hW n 1922 ls st μ g).trans rfl
theorem wLw31_1924 {l : Launch} {L : Nat} {xs : Nat → Int32} {J : aK} {W : Nat → aK} (hW : isW (tbLw31 l L xs) cuLw31 J W) (n : Nat) (ls st : List aV) (μ : aM) (g : Nat) : W (n + 1) 1924 ls st μ g = (sPush (aI 0) 1925) (W n) ls st μ g := (hW n 1924 ls st μ g).trans rfl
theorem wLw31_1925 {l : Launch} {L : Nat} {xs : Nat → Int32} {J : aK} {W : Nat → aK} (hW : isW (tbLw31 l L xs) cuLw31 J W) (n : Nat) (ls st : List aV) (μ : aM) (g : Nat) : W (n + 1) 1925 ls st μ g = (sAldD 1926) (W n) ls st μ g := (hW n 1925 ls st μ g).trans rfl
theorem wLw31_1926 {l : Launch} {L : Nat} {xs : Nat → Int32} {J : aK} {W : Nat → aK} (hW : isW (tbLw31 l L xs) cuLw31 J W) (n : Nat) (ls st : List aV) (μ : aM) (g : Nat) : W (n + 1) 1926 ls st μ g = (sDcmp .l 1927) (W n) ls st μ g := (hW n 1926 ls st μ g).trans rfl
theorem wLw31_1927 {l : Launch} {L : Nat} {xs : Nat → Int32} {J : aK} {W : Nat → aK} (hW : isW (tbLw31 l L xs) cuLw31 J W) (n : Nat) (ls st : List aV) (μ : aM) (g : Nat) : W (n + 1) 1927 ls st μ g = (sIf pEq 1938 1930) (W n) ls st μ g := (hW n 1927 ls st μ g).trans rfl
theorem wLw31_1930 {l : Launch} {L : Nat} {xs : Nat → Int32} {J : aK} {W : Nat → aK} (hW : isW (tbLw31 l L xs) cuLw31 J W) (n : Nat) (ls st : List aV) (μ : aM) (g : Nat) : W (n + 1) 1930 ls st μ g = (sLd 7 1932 isD) (W n) ls st μ g := (hW n 1930 ls st μ g).trans rfl
theorem wLw31_1932 {l : Launch} {L : Nat} {xs : Nat → Int32} {J : aK} {W : Nat → aK} (hW : isW (tbLw31 l L xs) cuLw31 J W) (n : Nat) (ls st : List aV) (μ : aM) (g : Nat) : W (n + 1) 1932 ls st μ g = (sLd 7 1934 isD) (W n) ls st μ g := (hW n 1932 ls st μ g).trans rfl
theorem wLw31_1934 {l : Launch} {L : Nat} {xs : Nat → Int32} {J : aK} {W : Nat → aK} (hW : isW (tbLw31 l L xs) cuLw31 J W) (n : Nat) (ls st : List aV) (μ : aM) (g : Nat) : W (n + 1) 1934 ls st μ g = (sDcmp .l 1935) (W n) ls st μ g := (hW n 1934 ls st μ g).trans rfl
theorem wLw31_1935 {l : Launch} {L : Nat} {xs : Nat → Int32} {J : aK} {W : Nat → aK} (hW : isW (tbLw31 l L xs) cuLw31 J W) (n : Nat) (ls st : List aV) (μ : aM) (g : Nat) : W (n + 1) 1935 ls st μ g = (sIf pNe 1940 1938) (W n) ls st μ g := (hW n 1935 ls st μ g).trans rfl
theorem wLw31_1938 {l : Launch} {L : Nat} {xs : Nat → Int32} {J : aK} {W : Nat → aK} (hW : isW (tbLw31 l L xs) cuLw31 J W) (n : Nat) (ls st : List aV) (μ : aM) (g : Nat) : W (n + 1) 1938 ls st μ g = (sPush (aI 0) 1939) (W n) ls st μ g := (hW n 1938 ls st μ g).trans rfl
theorem wLw31_1939 {l : Launch} {L : Nat} {xs : Nat → Int32} {J : aK} {W : Nat → aK} (hW : isW (tbLw31 l L xs) cuLw31 J W) (n : Nat) (ls st : List aV) (μ : aM) (g : Nat) : W (n + 1) 1939 ls st μ g = (sLret) (W n) ls st μ g := (hW n 1939 ls st μ g).trans rfl
theorem wLw31_1940 {l : Launch} {L : Nat} {xs : Nat → Int32} {J : aK} {W : Nat → aK} (hW : isW (tbLw31 l L xs) cuLw31 J W) (n : Nat) (ls st : List aV) (μ : aM) (g : Nat) : W (n + 1) 1940 ls st μ g = (sGoto 1969) (W n) ls st μ g := (hW n 1940 ls st μ g).trans rfl
theorem dLw32_1943 : decode code 1943 = .ok (.aload_n 1, 1) := by decide +kernel
theorem dLw32_1944 : decode code 1944 = .ok (.invokevirtual 232, 3) := by decide +kernel
theorem dLw32_1947 : decode code 1947 = .ok (.aload_n 2, 1) := by decide +kernel
theorem dLw32_1948 : decode code 1948 = .ok (.invokevirtual 235, 3) := by decide +kernel
theorem dLw32_1951 : decode code 1951 = .ok (.if_icmp .eq 18, 3) := by decide +kernel
theorem dLw32_1954 : decode code 1954 = .ok (.iconst 0, 1) := by decide +kernel
theorem dLw32_1955 : decode code 1955 = .ok (.ireturn, 1) := by decide +kernel
def tbLw32 (l : Launch) (L : Nat) (xs : Nat → Int32) : aTb := [
  (1943, sLd 1 1944 isR),
  (1944, sCallV 0 4 (fun as μ K => Ct l mdX4_owners as μ K nX) 1947 0 3600),
  (1947, sLd 2 1948 isR),
  (1948, sCallV 0 5 (fun as μ K => Ct l mdX5_owners as μ K nX) 1951 0 3600),
  (1951, sIc qEq 1969 1954),
  (1954, sPush (aI 0) 1955),
  (1955, sLret)]
theorem snLw32 (l : Launch) (L : Nat) (xs : Nat → Int32) (hL3 : L ≤ 3072) : ∀ q ∈ tbLw32 l L xs, Snd (BL l L xs) q.1 q.2 :=
  tcG (sLw (fun p e s m below meth c b cA D A ad0 h hb => ok_aload_n h.1 1 rfl dLw32_1943)) <|
  tcG (sLw (fun p e s m below meth c b cA D A ad0 h hb => ok_callV h.1 h.2.1 (show 3600 ≤ room_1.cells ∧ 2000 * 3600 ≤ room_1.slots from ⟨Nat.le_of_ble_eq_true rfl, Nat.le_of_ble_eq_true rfl⟩) mdX4_owners siX4_owners cxX4 mkRL_232 imX4_owners seX4_owners ⟨by decide, by decide⟩ aAx_no dLw32_1944)) <|
  tcG (sLw (fun p e s m below meth c b cA D A ad0 h hb => ok_aload_n h.1 2 rfl dLw32_1947)) <|
  tcG (sLw (fun p e s m below meth c b cA D A ad0 h hb => ok_callV h.1 h.2.1 (show 3600 ≤ room_1.cells ∧ 2000 * 3600 ≤ room_1.slots from ⟨Nat.le_of_ble_eq_true rfl, Nat.le_of_ble_eq_true rfl⟩) mdX5_owners siX5_owners cxX5 mkRL_235 imX5_owners seX5_owners ⟨by decide, by decide⟩ aAx_no dLw32_1948)) <|
  tcG (sLw (fun p e s m below meth c b cA D A ad0 h hb => ok_icmp_eq h.1 1969 (by decide) dLw32_1951)) <|
  tcG (sLw (fun p e s m below meth c b cA D A ad0 h hb => ok_iconst h.1 ⟨by decide, by decide⟩ dLw32_1954)) <|
  tcG (sLw (fun p e s m below meth c b cA D A ad0 h hb => ok_lret h dLw32_1955)) <|
  tnG
abbrev cuLw32 : List Nat := [1947, 1951, 1969]
theorem wLw32_1969 {l : Launch} {L : Nat} {xs : Nat → Int32} {J : aK} {W : Nat → aK} (hW : isW (tbLw32 l L xs) cuLw32 J W) (n : Nat) (ls st : List aV) (μ : aM) (g : Nat) : W (n + 1) 1969 ls st μ g = J 1969 ls st μ g := (hW n 1969 ls st μ g).trans rfl
theorem tLw32_1943 (l : Launch) (L : Nat) (xs : Nat → Int32) : tb (tbLw32 l L xs) 1943 = sLd 1 1944 isR := (rfl)
theorem wLw32_1943 {l : Launch} {L : Nat} {xs : Nat → Int32} {J : aK} {W : Nat → aK} (hW : isW (tbLw32 l L xs) cuLw32 J W) (n : Nat) (ls st : List aV) (μ : aM) (g : Nat) : W (n + 1) 1943 ls st μ g = (sLd 1 1944 isR) (W n) ls st μ g := (hW n 1943 ls st μ g).trans rfl
theorem wLw32_1944 {l : Launch} {L : Nat} {xs : Nat → Int32} {J : aK} {W : Nat → aK} (hW : isW (tbLw32 l L xs) cuLw32 J W) (n : Nat) (ls st : List aV) (μ : aM) (g : Nat) : W (n + 1) 1944 ls st μ g = (sCallV 0 4 (fun as μ K => Ct l mdX4_owners as μ K nX) 1947 0 3600) (W n) ls st μ g := (hW n 1944 ls st μ g).trans rfl
theorem tLw32_1947 (l : Launch) (L : Nat) (xs : Nat → Int32) : tb (tbLw32 l L xs) 1947 = sLd 2 1948 isR := (rfl)
theorem wLw32_1947 {l : Launch} {L : Nat} {xs : Nat → Int32} {J : aK} {W : Nat → aK} (hW : isW (tbLw32 l L xs) cuLw32 J W) (n : Nat) (ls st : List aV) (μ : aM) (g : Nat) : W (n + 1) 1947 ls st μ g = J 1947 ls st μ g := (hW n 1947 ls st μ g).trans rfl
theorem wLw32_1948 {l : Launch} {L : Nat} {xs : Nat → Int32} {J : aK} {W : Nat → aK} (hW : isW (tbLw32 l L xs) cuLw32 J W) (n : Nat) (ls st : List aV) (μ : aM) (g : Nat) : W (n + 1) 1948 ls st μ g = (sCallV 0 5 (fun as μ K => Ct l mdX5_owners as μ K nX) 1951 0 3600) (W n) ls st μ g := (hW n 1948 ls st μ g).trans rfl
theorem tLw32_1951 (l : Launch) (L : Nat) (xs : Nat → Int32) : tb (tbLw32 l L xs) 1951 = sIc qEq 1969 1954 := (rfl)
theorem wLw32_1951 {l : Launch} {L : Nat} {xs : Nat → Int32} {J : aK} {W : Nat → aK} (hW : isW (tbLw32 l L xs) cuLw32 J W) (n : Nat) (ls st : List aV) (μ : aM) (g : Nat) : W (n + 1) 1951 ls st μ g = J 1951 ls st μ g := (hW n 1951 ls st μ g).trans rfl
theorem wLw32_1954 {l : Launch} {L : Nat} {xs : Nat → Int32} {J : aK} {W : Nat → aK} (hW : isW (tbLw32 l L xs) cuLw32 J W) (n : Nat) (ls st : List aV) (μ : aM) (g : Nat) : W (n + 1) 1954 ls st μ g = (sPush (aI 0) 1955) (W n) ls st μ g := (hW n 1954 ls st μ g).trans rfl
theorem wLw32_1955 {l : Launch} {L : Nat} {xs : Nat → Int32} {J : aK} {W : Nat → aK} (hW : isW (tbLw32 l L xs) cuLw32 J W) (n : Nat) (ls st : List aV) (μ : aM) (g : Nat) : W (n + 1) 1955 ls st μ g = (sLret) (W n) ls st μ g := (hW n 1955 ls st μ g).trans rfl
theorem dLw33_1956 : decode code 1956 = .ok (.aload_n 1, 1) := by decide +kernel
theorem dLw33_1957 : decode code 1957 = .ok (.invokevirtual 236, 3) := by decide +kernel
theorem dLw33_1960 : decode code 1960 = .ok (.aload_n 2, 1) := by decide +kernel
theorem dLw33_1961 : decode code 1961 = .ok (.invokevirtual 239, 3) := by decide +kernel
theorem dLw33_1964 : decode code 1964 = .ok (.if_icmp .eq 5, 3) := by decide +kernel
theorem dLw33_1967 : decode code 1967 = .ok (.iconst 0, 1) := by decide +kernel
theorem dLw33_1968 : decode code 1968 = .ok (.ireturn, 1) := by decide +kernel
def tbLw33 (l : Launch) (L : Nat) (xs : Nat → Int32) : aTb := [
  (1956, sLd 1 1957 isR),
  (1957, sCallV 0 4 (fun as μ K => Ct l mdX4_isConsistent as μ K nX) 1960 0 3600),
  (1960, sLd 2 1961 isR),
  (1961, sCallV 0 5 (fun as μ K => Ct l mdX5_isConsistent as μ K nX) 1964 0 3600),
  (1964, sIc qEq 1969 1967),
  (1967, sPush (aI 0) 1968),
  (1968, sLret)]
theorem snLw33 (l : Launch) (L : Nat) (xs : Nat → Int32) (hL3 : L ≤ 3072) : ∀ q ∈ tbLw33 l L xs, Snd (BL l L xs) q.1 q.2 :=
  tcG (sLw (fun p e s m below meth c b cA D A ad0 h hb => ok_aload_n h.1 1 rfl dLw33_1956)) <|
  tcG (sLw (fun p e s m below meth c b cA D A ad0 h hb => ok_callV h.1 h.2.1 (show 3600 ≤ room_1.cells ∧ 2000 * 3600 ≤ room_1.slots from ⟨Nat.le_of_ble_eq_true rfl, Nat.le_of_ble_eq_true rfl⟩) mdX4_isConsistent siX4_isConsistent cxX4 mkRL_236 imX4_isConsistent seX4_isConsistent ⟨by decide, by decide⟩ aAx_no dLw33_1957)) <|
  tcG (sLw (fun p e s m below meth c b cA D A ad0 h hb => ok_aload_n h.1 2 rfl dLw33_1960)) <|
  tcG (sLw (fun p e s m below meth c b cA D A ad0 h hb => ok_callV h.1 h.2.1 (show 3600 ≤ room_1.cells ∧ 2000 * 3600 ≤ room_1.slots from ⟨Nat.le_of_ble_eq_true rfl, Nat.le_of_ble_eq_true rfl⟩) mdX5_isConsistent siX5_isConsistent cxX5 mkRL_239 imX5_isConsistent seX5_isConsistent ⟨by decide, by decide⟩ aAx_no dLw33_1961)) <|
  tcG (sLw (fun p e s m below meth c b cA D A ad0 h hb => ok_icmp_eq h.1 1969 (by decide) dLw33_1964)) <|
  tcG (sLw (fun p e s m below meth c b cA D A ad0 h hb => ok_iconst h.1 ⟨by decide, by decide⟩ dLw33_1967)) <|
  tcG (sLw (fun p e s m below meth c b cA D A ad0 h hb => ok_lret h dLw33_1968)) <|
  tnG
abbrev cuLw33 : List Nat := [1960, 1964, 1969]
theorem wLw33_1969 {l : Launch} {L : Nat} {xs : Nat → Int32} {J : aK} {W : Nat → aK} (hW : isW (tbLw33 l L xs) cuLw33 J W) (n : Nat) (ls st : List aV) (μ : aM) (g : Nat) : W (n + 1) 1969 ls st μ g = J 1969 ls st μ g := (hW n 1969 ls st μ g).trans rfl
theorem tLw33_1956 (l : Launch) (L : Nat) (xs : Nat → Int32) : tb (tbLw33 l L xs) 1956 = sLd 1 1957 isR := (rfl)
theorem wLw33_1956 {l : Launch} {L : Nat} {xs : Nat → Int32} {J : aK} {W : Nat → aK} (hW : isW (tbLw33 l L xs) cuLw33 J W) (n : Nat) (ls st : List aV) (μ : aM) (g : Nat) : W (n + 1) 1956 ls st μ g = (sLd 1 1957 isR) (W n) ls st μ g := (hW n 1956 ls st μ g).trans rfl
theorem wLw33_1957 {l : Launch} {L : Nat} {xs : Nat → Int32} {J : aK} {W : Nat → aK} (hW : isW (tbLw33 l L xs) cuLw33 J W) (n : Nat) (ls st : List aV) (μ : aM) (g : Nat) : W (n + 1) 1957 ls st μ g = (sCallV 0 4 (fun as μ K => Ct l mdX4_isConsistent as μ K nX) 1960 0 3600) (W n) ls st μ g := (hW n 1957 ls st μ g).trans rfl
theorem tLw33_1960 (l : Launch) (L : Nat) (xs : Nat → Int32) : tb (tbLw33 l L xs) 1960 = sLd 2 1961 isR := (rfl)
theorem wLw33_1960 {l : Launch} {L : Nat} {xs : Nat → Int32} {J : aK} {W : Nat → aK} (hW : isW (tbLw33 l L xs) cuLw33 J W) (n : Nat) (ls st : List aV) (μ : aM) (g : Nat) : W (n + 1) 1960 ls st μ g = J 1960 ls st μ g := (hW n 1960 ls st μ g).trans rfl
theorem wLw33_1961 {l : Launch} {L : Nat} {xs : Nat → Int32} {J : aK} {W : Nat → aK} (hW : isW (tbLw33 l L xs) cuLw33 J W) (n : Nat) (ls st : List aV) (μ : aM) (g : Nat) : W (n + 1) 1961 ls st μ g = (sCallV 0 5 (fun as μ K => Ct l mdX5_isConsistent as μ K nX) 1964 0 3600) (W n) ls st μ g := (hW n 1961 ls st μ g).trans rfl
theorem tLw33_1964 (l : Launch) (L : Nat) (xs : Nat → Int32) : tb (tbLw33 l L xs) 1964 = sIc qEq 1969 1967 := (rfl)
theorem wLw33_1964 {l : Launch} {L : Nat} {xs : Nat → Int32} {J : aK} {W : Nat → aK} (hW : isW (tbLw33 l L xs) cuLw33 J W) (n : Nat) (ls st : List aV) (μ : aM) (g : Nat) : W (n + 1) 1964 ls st μ g = J 1964 ls st μ g := (hW n 1964 ls st μ g).trans rfl
theorem wLw33_1967 {l : Launch} {L : Nat} {xs : Nat → Int32} {J : aK} {W : Nat → aK} (hW : isW (tbLw33 l L xs) cuLw33 J W) (n : Nat) (ls st : List aV) (μ : aM) (g : Nat) : W (n + 1) 1967 ls st μ g = (sPush (aI 0) 1968) (W n) ls st μ g := (hW n 1967 ls st μ g).trans rfl
theorem wLw33_1968 {l : Launch} {L : Nat} {xs : Nat → Int32} {J : aK} {W : Nat → aK} (hW : isW (tbLw33 l L xs) cuLw33 J W) (n : Nat) (ls st : List aV) (μ : aM) (g : Nat) : W (n + 1) 1968 ls st μ g = (sLret) (W n) ls st μ g := (hW n 1968 ls st μ g).trans rfl
theorem dLwT_1969 : decode code 1969 = .ok (.iinc 5 6, 3) := by decide +kernel
theorem dLwT_1972 : decode code 1972 = .ok (.goto (-1944), 3) := by decide +kernel
def tbLwT (l : Launch) (L : Nat) (xs : Nat → Int32) : aTb := [
  (1969, sInc 5 6 1972),
  (1972, sGoto 28)]
theorem snLwT (l : Launch) (L : Nat) (xs : Nat → Int32) (hL3 : L ≤ 3072) : ∀ q ∈ tbLwT l L xs, Snd (BL l L xs) q.1 q.2 :=
  tcG (sLw (fun p e s m below meth c b cA D A ad0 h hb => ok_iinc h.1 (by decide) dLwT_1969)) <|
  tcG (sLw (fun p e s m below meth c b cA D A ad0 h hb => ok_goto h.1 28 (by decide) dLwT_1972)) <|
  tnG
abbrev cuLwT : List Nat := [28]
theorem wLwT_28 {l : Launch} {L : Nat} {xs : Nat → Int32} {J : aK} {W : Nat → aK} (hW : isW (tbLwT l L xs) cuLwT J W) (n : Nat) (ls st : List aV) (μ : aM) (g : Nat) : W (n + 1) 28 ls st μ g = J 28 ls st μ g := (hW n 28 ls st μ g).trans rfl
theorem tLwT_1969 (l : Launch) (L : Nat) (xs : Nat → Int32) : tb (tbLwT l L xs) 1969 = sInc 5 6 1972 := (rfl)
theorem wLwT_1969 {l : Launch} {L : Nat} {xs : Nat → Int32} {J : aK} {W : Nat → aK} (hW : isW (tbLwT l L xs) cuLwT J W) (n : Nat) (ls st : List aV) (μ : aM) (g : Nat) : W (n + 1) 1969 ls st μ g = (sInc 5 6 1972) (W n) ls st μ g := (hW n 1969 ls st μ g).trans rfl
theorem wLwT_1972 {l : Launch} {L : Nat} {xs : Nat → Int32} {J : aK} {W : Nat → aK} (hW : isW (tbLwT l L xs) cuLwT J W) (n : Nat) (ls st : List aV) (μ : aM) (g : Nat) : W (n + 1) 1972 ls st μ g = (sGoto 28) (W n) ls st μ g := (hW n 1972 ls st μ g).trans rfl
theorem dLwE_1975 : decode code 1975 = .ok (.iconst 1, 1) := by decide +kernel
theorem dLwE_1976 : decode code 1976 = .ok (.ireturn, 1) := by decide +kernel
def tbLwE (l : Launch) (L : Nat) (xs : Nat → Int32) : aTb := [
  (1975, sPush (aI 1) 1976),
  (1976, sLret)]
theorem snLwE (l : Launch) (L : Nat) (xs : Nat → Int32) (hL3 : L ≤ 3072) : ∀ q ∈ tbLwE l L xs, Snd (BL l L xs) q.1 q.2 :=
  tcG (sLw (fun p e s m below meth c b cA D A ad0 h hb => ok_iconst h.1 ⟨by decide, by decide⟩ dLwE_1975)) <|
  tcG (sLw (fun p e s m below meth c b cA D A ad0 h hb => ok_lret h dLwE_1976)) <|
  tnG
abbrev cuLwE : List Nat := []
theorem tLwE_1975 (l : Launch) (L : Nat) (xs : Nat → Int32) : tb (tbLwE l L xs) 1975 = sPush (aI 1) 1976 := (rfl)
theorem wLwE_1975 {l : Launch} {L : Nat} {xs : Nat → Int32} {J : aK} {W : Nat → aK} (hW : isW (tbLwE l L xs) cuLwE J W) (n : Nat) (ls st : List aV) (μ : aM) (g : Nat) : W (n + 1) 1975 ls st μ g = (sPush (aI 1) 1976) (W n) ls st μ g := (hW n 1975 ls st μ g).trans rfl
theorem wLwE_1976 {l : Launch} {L : Nat} {xs : Nat → Int32} {J : aK} {W : Nat → aK} (hW : isW (tbLwE l L xs) cuLwE J W) (n : Nat) (ls st : List aV) (μ : aM) (g : Nat) : W (n + 1) 1976 ls st μ g = (sLret) (W n) ls st μ g := (hW n 1976 ls st μ g).trans rfl
