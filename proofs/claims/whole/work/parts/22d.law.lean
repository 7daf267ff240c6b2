-- ===== the law's loop =====
/-- what is owed of a case of the law at pc -/
def UCase (pc : Nat) : Prop := ∀ (sn k i : Nat) (xs : Nat → Int32) (M : zMem), J (1000 * k) M → k < 512 → vp_in (nI i + 1) sn → vp_in (nI i + 2) sn → vp_in (nI i + 3) sn → vp_in (nI i + 4) sn → vp_in (nI i + 5) sn → (∀ M2, J (1000 * (k + 1)) M2 → zUL sn xs (k + 1) 1649 (LU i) [] M2) → zUL sn xs k pc (LU i) [] M
section
variable {sn k i : Nat} {xs : Nat → Int32} {M : zMem}
theorem zUL.up {pc : Nat} {L : List (Nat × Value)} {st : List Value} (h : zUL sn xs (k + 1) pc L st M) : zUL sn xs k pc L st M := z_U.widen (by omega) (by omega) h
theorem uc_0 : UCase 212 := fun sn k i xs M hJ hk h1 h2 h3 h4 h5 kk => u_0 hJ hk h1 h2 h3 h4 h5 (fun M2 h => (kk M2 h).up)
theorem uc_1 : UCase 285 := fun sn k i xs M hJ hk h1 h2 h3 h4 h5 kk => u_1 hJ hk h1 h2 h3 h4 h5 (fun M2 h => (kk M2 h).up)
theorem uc_2 : UCase 310 := fun sn k i xs M hJ hk h1 h2 h3 h4 h5 kk => u_2 hJ hk h1 h2 h3 h4 h5 (fun M2 h => (kk M2 h).up)
theorem uc_3 : UCase 323 := fun sn k i xs M hJ hk h1 h2 h3 h4 h5 kk => u_3 hJ hk h1 h2 h3 h4 h5 (fun M2 h => (kk M2 h).up)
theorem uc_4 : UCase 336 := fun sn k i xs M hJ hk h1 h2 h3 h4 h5 kk => u_4 hJ hk h1 h2 h3 h4 h5 (fun M2 h => (kk M2 h).up)
theorem uc_5 : UCase 349 := fun sn k i xs M hJ hk h1 h2 h3 h4 h5 kk => u_5 hJ hk h1 h2 h3 h4 h5 (fun M2 h => (kk M2 h).up)
theorem uc_7 : UCase 442 := fun sn k i xs M hJ hk h1 h2 h3 h4 h5 kk => u_7 hJ hk h1 h2 h3 h4 h5 (fun M2 h => (kk M2 h).up)
theorem uc_11 : UCase 695 := fun sn k i xs M hJ hk h1 h2 h3 h4 h5 kk => u_11 hJ hk h1 h2 h3 h4 h5 (fun M2 h => (kk M2 h).up)
theorem uc_12 : UCase 720 := fun sn k i xs M hJ hk h1 h2 h3 h4 h5 kk => u_12 hJ hk h1 h2 h3 h4 h5 (fun M2 h => (kk M2 h).up)
theorem uc_13 : UCase 769 := fun sn k i xs M hJ hk h1 h2 h3 h4 h5 kk => u_13 hJ hk h1 h2 h3 h4 h5 (fun M2 h => (kk M2 h).up)
theorem uc_14 : UCase 806 := fun sn k i xs M hJ hk h1 h2 h3 h4 h5 kk => u_14 hJ hk h1 h2 h3 h4 h5 (fun M2 h => (kk M2 h).up)
theorem uc_15 : UCase 843 := fun sn k i xs M hJ hk h1 h2 h3 h4 h5 kk => u_15 hJ hk h1 h2 h3 h4 h5 (fun M2 h => (kk M2 h).up)
theorem uc_16 : UCase 880 := fun sn k i xs M hJ hk h1 h2 h3 h4 h5 kk => u_16 hJ hk h1 h2 h3 h4 h5 (fun M2 h => (kk M2 h).up)
theorem uc_17 : UCase 917 := fun sn k i xs M hJ hk h1 h2 h3 h4 h5 kk => u_17 hJ hk h1 h2 h3 h4 h5 (fun M2 h => (kk M2 h).up)
theorem uc_18 : UCase 930 := fun sn k i xs M hJ hk h1 h2 h3 h4 h5 kk => u_18 hJ hk h1 h2 h3 h4 h5 (fun M2 h => (kk M2 h).up)
theorem uc_19 : UCase 967 := fun sn k i xs M hJ hk h1 h2 h3 h4 h5 kk => u_19 hJ hk h1 h2 h3 h4 h5 (fun M2 h => (kk M2 h).up)
theorem uc_20 : UCase 1004 := fun sn k i xs M hJ hk h1 h2 h3 h4 h5 kk => u_20 hJ hk h1 h2 h3 h4 h5 (fun M2 h => (kk M2 h).up)
theorem uc_21 : UCase 1041 := fun sn k i xs M hJ hk h1 h2 h3 h4 h5 kk => u_21 hJ hk h1 h2 h3 h4 h5 (fun M2 h => (kk M2 h).up)
theorem uc_22 : UCase 1066 := fun sn k i xs M hJ hk h1 h2 h3 h4 h5 kk => u_22 hJ hk h1 h2 h3 h4 h5 (fun M2 h => (kk M2 h).up)
theorem uc_23 : UCase 1115 := fun sn k i xs M hJ hk h1 h2 h3 h4 h5 kk => u_23 hJ hk h1 h2 h3 h4 h5 (fun M2 h => (kk M2 h).up)
theorem uc_24 : UCase 1152 := fun sn k i xs M hJ hk h1 h2 h3 h4 h5 kk => u_24 hJ hk h1 h2 h3 h4 h5 (fun M2 h => (kk M2 h).up)
theorem uc_27 : UCase 1337 := fun sn k i xs M hJ hk h1 h2 h3 h4 h5 kk => u_27 hJ hk h1 h2 h3 h4 h5 (fun M2 h => (kk M2 h).up)
theorem uc_28 : UCase 1362 := fun sn k i xs M hJ hk h1 h2 h3 h4 h5 kk => u_28 hJ hk h1 h2 h3 h4 h5 (fun M2 h => (kk M2 h).up)
theorem uc_29 : UCase 1387 := fun sn k i xs M hJ hk h1 h2 h3 h4 h5 kk => u_29 hJ hk h1 h2 h3 h4 h5 (fun M2 h => (kk M2 h).up)
theorem uc_30 : UCase 1424 := fun sn k i xs M hJ hk h1 h2 h3 h4 h5 kk => u_30 hJ hk h1 h2 h3 h4 h5 (fun M2 h => (kk M2 h).up)
theorem uc_31 : UCase 1449 := fun sn k i xs M hJ hk h1 h2 h3 h4 h5 kk => u_31 hJ hk h1 h2 h3 h4 h5 (fun M2 h => (kk M2 h).up)
theorem uc_32 : UCase 1486 := fun sn k i xs M hJ hk h1 h2 h3 h4 h5 kk => u_32 hJ hk h1 h2 h3 h4 h5 (fun M2 h => (kk M2 h).up)
theorem uc_33 : UCase 1511 := fun sn k i xs M hJ hk h1 h2 h3 h4 h5 kk => u_33 hJ hk h1 h2 h3 h4 h5 (fun M2 h => (kk M2 h).up)
theorem uc_34 : UCase 1536 := fun sn k i xs M hJ hk h1 h2 h3 h4 h5 kk => u_34 hJ hk h1 h2 h3 h4 h5 (fun M2 h => (kk M2 h).up)
theorem uc_35 : UCase 1549 := fun sn k i xs M hJ hk h1 h2 h3 h4 h5 kk => u_35 hJ hk h1 h2 h3 h4 h5 (fun M2 h => (kk M2 h).up)
theorem uc_36 : UCase 1574 := fun sn k i xs M hJ hk h1 h2 h3 h4 h5 kk => u_36 hJ hk h1 h2 h3 h4 h5 (fun M2 h => (kk M2 h).up)
theorem uc_37 : UCase 1599 := fun sn k i xs M hJ hk h1 h2 h3 h4 h5 kk => u_37 hJ hk h1 h2 h3 h4 h5 (fun M2 h => (kk M2 h).up)
theorem uc_38 : UCase 1624 := fun sn k i xs M hJ hk h1 h2 h3 h4 h5 kk => u_38 hJ hk h1 h2 h3 h4 h5 (fun M2 h => (kk M2 h).up)
set_option maxRecDepth 20000 in
theorem u_sw (c6 : UCase 386) (c8 : UCase 479) (c9 : UCase 535) (c10 : UCase 615) (c25 : UCase 1189) (c26 : UCase 1257) (hJ : J (1000 * k) M) (hk : k < 512) (h0 : vp_in (nI i) sn) (h1 : vp_in (nI i + 1) sn) (h2 : vp_in (nI i + 2) sn) (h3 : vp_in (nI i + 3) sn) (h4 : vp_in (nI i + 4) sn) (h5 : vp_in (nI i + 5) sn) (kk : ∀ M2, J (1000 * (k + 1)) M2 → zUL sn xs (k + 1) 1649 (LU i) [] M2) : zUL sn xs k 33 (LU i) [] M := by
  refine zu_aloadT_n dL_law_33 rfl 1 rfl ?_
  refine zu_iload dL_law_34 0 rfl ?_
  refine zu_sald dL_law_36 h0 ?_
  refine zu_bipush (v := 63) dL_law_37 (by decide) ?_
  refine zu_iand dL_law_39 ?_
  generalize xs (Int32.toNatClampNeg (nI i)) &&& 63 = x
  by_cases h : x.toInt < 0 ∨ 38 < x.toInt
  · exact zu_tableOut (tgt := 1649) dL_law_40 h (by decide) (kk M (J_up9 hJ (by omega))).up
  rcases (show x.toInt = 0 ∨ x.toInt = 1 ∨ x.toInt = 2 ∨ x.toInt = 3 ∨ x.toInt = 4 ∨ x.toInt = 5 ∨ x.toInt = 6 ∨ x.toInt = 7 ∨ x.toInt = 8 ∨ x.toInt = 9 ∨ x.toInt = 10 ∨ x.toInt = 11 ∨ x.toInt = 12 ∨ x.toInt = 13 ∨ x.toInt = 14 ∨ x.toInt = 15 ∨ x.toInt = 16 ∨ x.toInt = 17 ∨ x.toInt = 18 ∨ x.toInt = 19 ∨ x.toInt = 20 ∨ x.toInt = 21 ∨ x.toInt = 22 ∨ x.toInt = 23 ∨ x.toInt = 24 ∨ x.toInt = 25 ∨ x.toInt = 26 ∨ x.toInt = 27 ∨ x.toInt = 28 ∨ x.toInt = 29 ∨ x.toInt = 30 ∨ x.toInt = 31 ∨ x.toInt = 32 ∨ x.toInt = 33 ∨ x.toInt = 34 ∨ x.toInt = 35 ∨ x.toInt = 36 ∨ x.toInt = 37 ∨ x.toInt = 38 by omega) with e | e | e | e | e | e | e | e | e | e | e | e | e | e | e | e | e | e | e | e | e | e | e | e | e | e | e | e | e | e | e | e | e | e | e | e | e | e | e
  · exact zu_tableIn (off := 172) (tgt := 212) dL_law_40 (by omega) (by omega) (by rw [e]; rfl) (by decide) (uc_0 sn k i xs M hJ hk h1 h2 h3 h4 h5 kk)
  · exact zu_tableIn (off := 245) (tgt := 285) dL_law_40 (by omega) (by omega) (by rw [e]; rfl) (by decide) (uc_1 sn k i xs M hJ hk h1 h2 h3 h4 h5 kk)
  · exact zu_tableIn (off := 270) (tgt := 310) dL_law_40 (by omega) (by omega) (by rw [e]; rfl) (by decide) (uc_2 sn k i xs M hJ hk h1 h2 h3 h4 h5 kk)
  · exact zu_tableIn (off := 283) (tgt := 323) dL_law_40 (by omega) (by omega) (by rw [e]; rfl) (by decide) (uc_3 sn k i xs M hJ hk h1 h2 h3 h4 h5 kk)
  · exact zu_tableIn (off := 296) (tgt := 336) dL_law_40 (by omega) (by omega) (by rw [e]; rfl) (by decide) (uc_4 sn k i xs M hJ hk h1 h2 h3 h4 h5 kk)
  · exact zu_tableIn (off := 309) (tgt := 349) dL_law_40 (by omega) (by omega) (by rw [e]; rfl) (by decide) (uc_5 sn k i xs M hJ hk h1 h2 h3 h4 h5 kk)
  · exact zu_tableIn (off := 346) (tgt := 386) dL_law_40 (by omega) (by omega) (by rw [e]; rfl) (by decide) (c6 sn k i xs M hJ hk h1 h2 h3 h4 h5 kk)
  · exact zu_tableIn (off := 402) (tgt := 442) dL_law_40 (by omega) (by omega) (by rw [e]; rfl) (by decide) (uc_7 sn k i xs M hJ hk h1 h2 h3 h4 h5 kk)
  · exact zu_tableIn (off := 439) (tgt := 479) dL_law_40 (by omega) (by omega) (by rw [e]; rfl) (by decide) (c8 sn k i xs M hJ hk h1 h2 h3 h4 h5 kk)
  · exact zu_tableIn (off := 495) (tgt := 535) dL_law_40 (by omega) (by omega) (by rw [e]; rfl) (by decide) (c9 sn k i xs M hJ hk h1 h2 h3 h4 h5 kk)
  · exact zu_tableIn (off := 575) (tgt := 615) dL_law_40 (by omega) (by omega) (by rw [e]; rfl) (by decide) (c10 sn k i xs M hJ hk h1 h2 h3 h4 h5 kk)
  · exact zu_tableIn (off := 655) (tgt := 695) dL_law_40 (by omega) (by omega) (by rw [e]; rfl) (by decide) (uc_11 sn k i xs M hJ hk h1 h2 h3 h4 h5 kk)
  · exact zu_tableIn (off := 680) (tgt := 720) dL_law_40 (by omega) (by omega) (by rw [e]; rfl) (by decide) (uc_12 sn k i xs M hJ hk h1 h2 h3 h4 h5 kk)
  · exact zu_tableIn (off := 729) (tgt := 769) dL_law_40 (by omega) (by omega) (by rw [e]; rfl) (by decide) (uc_13 sn k i xs M hJ hk h1 h2 h3 h4 h5 kk)
  · exact zu_tableIn (off := 766) (tgt := 806) dL_law_40 (by omega) (by omega) (by rw [e]; rfl) (by decide) (uc_14 sn k i xs M hJ hk h1 h2 h3 h4 h5 kk)
  · exact zu_tableIn (off := 803) (tgt := 843) dL_law_40 (by omega) (by omega) (by rw [e]; rfl) (by decide) (uc_15 sn k i xs M hJ hk h1 h2 h3 h4 h5 kk)
  · exact zu_tableIn (off := 840) (tgt := 880) dL_law_40 (by omega) (by omega) (by rw [e]; rfl) (by decide) (uc_16 sn k i xs M hJ hk h1 h2 h3 h4 h5 kk)
  · exact zu_tableIn (off := 877) (tgt := 917) dL_law_40 (by omega) (by omega) (by rw [e]; rfl) (by decide) (uc_17 sn k i xs M hJ hk h1 h2 h3 h4 h5 kk)
  · exact zu_tableIn (off := 890) (tgt := 930) dL_law_40 (by omega) (by omega) (by rw [e]; rfl) (by decide) (uc_18 sn k i xs M hJ hk h1 h2 h3 h4 h5 kk)
  · exact zu_tableIn (off := 927) (tgt := 967) dL_law_40 (by omega) (by omega) (by rw [e]; rfl) (by decide) (uc_19 sn k i xs M hJ hk h1 h2 h3 h4 h5 kk)
  · exact zu_tableIn (off := 964) (tgt := 1004) dL_law_40 (by omega) (by omega) (by rw [e]; rfl) (by decide) (uc_20 sn k i xs M hJ hk h1 h2 h3 h4 h5 kk)
  · exact zu_tableIn (off := 1001) (tgt := 1041) dL_law_40 (by omega) (by omega) (by rw [e]; rfl) (by decide) (uc_21 sn k i xs M hJ hk h1 h2 h3 h4 h5 kk)
  · exact zu_tableIn (off := 1026) (tgt := 1066) dL_law_40 (by omega) (by omega) (by rw [e]; rfl) (by decide) (uc_22 sn k i xs M hJ hk h1 h2 h3 h4 h5 kk)
  · exact zu_tableIn (off := 1075) (tgt := 1115) dL_law_40 (by omega) (by omega) (by rw [e]; rfl) (by decide) (uc_23 sn k i xs M hJ hk h1 h2 h3 h4 h5 kk)
  · exact zu_tableIn (off := 1112) (tgt := 1152) dL_law_40 (by omega) (by omega) (by rw [e]; rfl) (by decide) (uc_24 sn k i xs M hJ hk h1 h2 h3 h4 h5 kk)
  · exact zu_tableIn (off := 1149) (tgt := 1189) dL_law_40 (by omega) (by omega) (by rw [e]; rfl) (by decide) (c25 sn k i xs M hJ hk h1 h2 h3 h4 h5 kk)
  · exact zu_tableIn (off := 1217) (tgt := 1257) dL_law_40 (by omega) (by omega) (by rw [e]; rfl) (by decide) (c26 sn k i xs M hJ hk h1 h2 h3 h4 h5 kk)
  · exact zu_tableIn (off := 1297) (tgt := 1337) dL_law_40 (by omega) (by omega) (by rw [e]; rfl) (by decide) (uc_27 sn k i xs M hJ hk h1 h2 h3 h4 h5 kk)
  · exact zu_tableIn (off := 1322) (tgt := 1362) dL_law_40 (by omega) (by omega) (by rw [e]; rfl) (by decide) (uc_28 sn k i xs M hJ hk h1 h2 h3 h4 h5 kk)
  · exact zu_tableIn (off := 1347) (tgt := 1387) dL_law_40 (by omega) (by omega) (by rw [e]; rfl) (by decide) (uc_29 sn k i xs M hJ hk h1 h2 h3 h4 h5 kk)
  · exact zu_tableIn (off := 1384) (tgt := 1424) dL_law_40 (by omega) (by omega) (by rw [e]; rfl) (by decide) (uc_30 sn k i xs M hJ hk h1 h2 h3 h4 h5 kk)
  · exact zu_tableIn (off := 1409) (tgt := 1449) dL_law_40 (by omega) (by omega) (by rw [e]; rfl) (by decide) (uc_31 sn k i xs M hJ hk h1 h2 h3 h4 h5 kk)
  · exact zu_tableIn (off := 1446) (tgt := 1486) dL_law_40 (by omega) (by omega) (by rw [e]; rfl) (by decide) (uc_32 sn k i xs M hJ hk h1 h2 h3 h4 h5 kk)
  · exact zu_tableIn (off := 1471) (tgt := 1511) dL_law_40 (by omega) (by omega) (by rw [e]; rfl) (by decide) (uc_33 sn k i xs M hJ hk h1 h2 h3 h4 h5 kk)
  · exact zu_tableIn (off := 1496) (tgt := 1536) dL_law_40 (by omega) (by omega) (by rw [e]; rfl) (by decide) (uc_34 sn k i xs M hJ hk h1 h2 h3 h4 h5 kk)
  · exact zu_tableIn (off := 1509) (tgt := 1549) dL_law_40 (by omega) (by omega) (by rw [e]; rfl) (by decide) (uc_35 sn k i xs M hJ hk h1 h2 h3 h4 h5 kk)
  · exact zu_tableIn (off := 1534) (tgt := 1574) dL_law_40 (by omega) (by omega) (by rw [e]; rfl) (by decide) (uc_36 sn k i xs M hJ hk h1 h2 h3 h4 h5 kk)
  · exact zu_tableIn (off := 1559) (tgt := 1599) dL_law_40 (by omega) (by omega) (by rw [e]; rfl) (by decide) (uc_37 sn k i xs M hJ hk h1 h2 h3 h4 h5 kk)
  · exact zu_tableIn (off := 1584) (tgt := 1624) dL_law_40 (by omega) (by omega) (by rw [e]; rfl) (by decide) (uc_38 sn k i xs M hJ hk h1 h2 h3 h4 h5 kk)
theorem u_loop (c6 : UCase 386) (c8 : UCase 479) (c9 : UCase 535) (c10 : UCase 615) (c25 : UCase 1189) (c26 : UCase 1257) (hsn : sn ≤ 3072) : ∀ (c k : Nat) (M : zMem), c + k = 513 → k ≤ 512 → J (1000 * k) M → zUL sn xs k 23 (LU (6 * k)) [] M := by
  intro c
  induction c with
  | zero => intro k M h1 h2; omega
  | succ c ih =>
    intro k M hck hk hJ
    refine zu_iload dL_law_23 0 rfl ?_
    refine zu_aloadT_n dL_law_25 rfl 1 rfl ?_
    refine zu_slen dL_law_26 ?_
    refine zu_bipush (v := 6) dL_law_27 (by decide) ?_
    refine zu_isub dL_law_29 ?_
    have e1 : (Int32.ofNat sn - 6).toInt = (sn : Int) - 6 := by
      rw [Int32.toInt_sub, show (Int32.ofNat sn).toInt = (sn : Int) from nI_toInt (n := sn) (by omega), show (6 : Int32).toInt = 6 by decide]
      exact Int.bmod_eq_of_le (by omega) (by omega)
    have e2 : (nI (6 * k)).toInt = ((6 * k : Nat) : Int) := nI_toInt (by omega)
    refine zu_icmp_gt (tgt := 1655) dL_law_30 (by decide) (fun _ => ?_) (fun h => ?_)
    · refine zu_iconst (v := 1) dL_law_1655 (by decide) ?_
      exact zu_end dL_law_1656 hk
    · have h : 6 * k + 6 ≤ sn := by
        rw [Int32.lt_iff_toInt_lt, e1, e2] at h
        omega
      have hin : ∀ j, j < 6 → vp_in (nI (6 * k) + nI j) sn := fun j hj => by rw [nI_add]; exact nIin (by omega) (by omega)
      refine u_sw c6 c8 c9 c10 c25 c26 hJ (by omega) (nIin (by omega) (by omega)) (hin 1 (by omega)) (hin 2 (by omega)) (hin 3 (by omega)) (hin 4 (by omega)) (hin 5 (by omega)) (fun M2 hJ2 => ?_)
      refine zu_iinc (n := 0) (v := nI (6 * (k + 1))) dL_law_1649 rfl ?_ (by decide) (L2 := LU (6 * (k + 1))) rfl ?_
      · show nI (6 * k) + nI 6 = _
        rw [nI_add]; rfl
      refine zu_goto (tgt := 23) dL_law_1652 (by decide) ?_
      exact ih (k + 1) M2 (by omega) (by omega) hJ2
end
