set_option maxRecDepth 100000 in
set_option maxHeartbeats 4000000 in
theorem t_X7_clear {d : Nat} {b0 : Nat} {M : zMem} {K : zK} (h0 : b0 ∈ iX7)
    (T : (∀ M21 : zMem, M21 = wI M b0 1 0 → (∀ M23 : zMem, M23 = wI M21 b0 2 0 → K none M23))) : S_X7_clear d b0 M K := by
  show zV m_X7_clear d 0 [(0, .ref b0)] [] M K
  refine zr_aload_n dX7_clear_0 rfl 0 rfl ?_
  refine zr_iconst (v := 0) dX7_clear_1 (by decide) ?_
  refine zn_puti dX7_clear_2 f_X7_15 (oX7 _ h0) (by decide) (by decide) (fun M21 e22 => ?_)
  have T := T M21 e22
  refine zr_aload_n dX7_clear_5 rfl 0 rfl ?_
  refine zr_iconst (v := 0) dX7_clear_6 (by decide) ?_
  refine zn_puti dX7_clear_7 f_X7_19 (oX7 _ h0) (by decide) (by decide) (fun M23 e24 => ?_)
  have T := T M23 e24
  exact zm_vret dX7_clear_10 rfl T
set_option maxRecDepth 100000 in
set_option maxHeartbeats 4000000 in
theorem t_X7_copyFrom {d : Nat} {b0 : Nat} {b1 : Nat} {M : zMem} {K : zK} (h0 : b0 ∈ iX7) (h1 : b1 ∈ iX7)
    (T : (∀ M21 : zMem, M21 = cI M (b1 + 1) 0 (b0 + 1) 0 60 → (∀ M23 : zMem, M23 = wI M21 b0 1 (M21.1 b1 1) → (∀ M25 : zMem, M25 = wI M23 b0 2 (M23.1 b1 2) → K none M25)))) : S_X7_copyFrom (d + 1) b0 b1 M K := by
  show zV m_X7_copyFrom (d + 1) 0 [(0, .ref b0), (1, .ref b1)] [] M K
  refine zr_aload_n dX7_copyFrom_0 rfl 1 rfl ?_
  refine zm_getr (a := b1 + 1) dX7_copyFrom_1 f_X7_9 (oX7 _ h1) (by decide) (by decide) (rX7_0 _ h1) ?_
  refine zr_iconst (v := 0) dX7_copyFrom_4 (by decide) ?_
  refine zr_aload_n dX7_copyFrom_5 rfl 0 rfl ?_
  refine zm_getr (a := b0 + 1) dX7_copyFrom_6 f_X7_9 (oX7 _ h0) (by decide) (by decide) (rX7_0 _ h0) ?_
  refine zr_iconst (v := 0) dX7_copyFrom_9 (by decide) ?_
  refine zr_bipush (v := 60) dX7_copyFrom_10 (by decide) ?_
  refine zn_copyi (n0 := 60) (n1 := 60) (s1 := 0) (d1 := 0) (m1 := 60) dX7_copyFrom_12 l_X7_22 zcpw (aX _ (qX7_0 _ h1)) (lX _ (qX7_0 _ h1)) (aX _ (qX7_0 _ h0)) (lX _ (qX7_0 _ h0)) (by decide) (by decide) (by decide) (by decide) (Nat.le_of_ble_eq_true rfl) (fun M21 e22 => ?_)
  have T := T M21 e22
  refine zr_aload_n dX7_copyFrom_15 rfl 0 rfl ?_
  refine zr_aload_n dX7_copyFrom_16 rfl 1 rfl ?_
  refine zm_geti dX7_copyFrom_17 f_X7_15 (oX7 _ h1) (by decide) (by decide) ?_
  refine zn_puti dX7_copyFrom_20 f_X7_15 (oX7 _ h0) (by decide) (by decide) (fun M23 e24 => ?_)
  have T := T M23 e24
  refine zr_aload_n dX7_copyFrom_23 rfl 0 rfl ?_
  refine zr_aload_n dX7_copyFrom_24 rfl 1 rfl ?_
  refine zm_geti dX7_copyFrom_25 f_X7_19 (oX7 _ h1) (by decide) (by decide) ?_
  refine zn_puti dX7_copyFrom_28 f_X7_19 (oX7 _ h0) (by decide) (by decide) (fun M25 e26 => ?_)
  have T := T M25 e26
  exact zm_vret dX7_copyFrom_31 rfl T
set_option maxRecDepth 100000 in
set_option maxHeartbeats 4000000 in
theorem t_J6_bitCount_0f7a4 {d : Nat} {x0 : Int32} {M : zMem} {K : zK} 
    (T : K (some (.int ((((((((x0 - (((Int32.toUInt32 x0 >>> (Int32.toUInt32 1 &&& Int32.toUInt32 31)).toInt32) &&& 1431655765)) &&& 858993459) + (((Int32.toUInt32 (x0 - (((Int32.toUInt32 x0 >>> (Int32.toUInt32 1 &&& Int32.toUInt32 31)).toInt32) &&& 1431655765)) >>> (Int32.toUInt32 2 &&& Int32.toUInt32 31)).toInt32) &&& 858993459)) + ((Int32.toUInt32 (((x0 - (((Int32.toUInt32 x0 >>> (Int32.toUInt32 1 &&& Int32.toUInt32 31)).toInt32) &&& 1431655765)) &&& 858993459) + (((Int32.toUInt32 (x0 - (((Int32.toUInt32 x0 >>> (Int32.toUInt32 1 &&& Int32.toUInt32 31)).toInt32) &&& 1431655765)) >>> (Int32.toUInt32 2 &&& Int32.toUInt32 31)).toInt32) &&& 858993459)) >>> (Int32.toUInt32 4 &&& Int32.toUInt32 31)).toInt32)) &&& 252645135) + ((Int32.toUInt32 (((((x0 - (((Int32.toUInt32 x0 >>> (Int32.toUInt32 1 &&& Int32.toUInt32 31)).toInt32) &&& 1431655765)) &&& 858993459) + (((Int32.toUInt32 (x0 - (((Int32.toUInt32 x0 >>> (Int32.toUInt32 1 &&& Int32.toUInt32 31)).toInt32) &&& 1431655765)) >>> (Int32.toUInt32 2 &&& Int32.toUInt32 31)).toInt32) &&& 858993459)) + ((Int32.toUInt32 (((x0 - (((Int32.toUInt32 x0 >>> (Int32.toUInt32 1 &&& Int32.toUInt32 31)).toInt32) &&& 1431655765)) &&& 858993459) + (((Int32.toUInt32 (x0 - (((Int32.toUInt32 x0 >>> (Int32.toUInt32 1 &&& Int32.toUInt32 31)).toInt32) &&& 1431655765)) >>> (Int32.toUInt32 2 &&& Int32.toUInt32 31)).toInt32) &&& 858993459)) >>> (Int32.toUInt32 4 &&& Int32.toUInt32 31)).toInt32)) &&& 252645135) >>> (Int32.toUInt32 8 &&& Int32.toUInt32 31)).toInt32)) + ((Int32.toUInt32 ((((((x0 - (((Int32.toUInt32 x0 >>> (Int32.toUInt32 1 &&& Int32.toUInt32 31)).toInt32) &&& 1431655765)) &&& 858993459) + (((Int32.toUInt32 (x0 - (((Int32.toUInt32 x0 >>> (Int32.toUInt32 1 &&& Int32.toUInt32 31)).toInt32) &&& 1431655765)) >>> (Int32.toUInt32 2 &&& Int32.toUInt32 31)).toInt32) &&& 858993459)) + ((Int32.toUInt32 (((x0 - (((Int32.toUInt32 x0 >>> (Int32.toUInt32 1 &&& Int32.toUInt32 31)).toInt32) &&& 1431655765)) &&& 858993459) + (((Int32.toUInt32 (x0 - (((Int32.toUInt32 x0 >>> (Int32.toUInt32 1 &&& Int32.toUInt32 31)).toInt32) &&& 1431655765)) >>> (Int32.toUInt32 2 &&& Int32.toUInt32 31)).toInt32) &&& 858993459)) >>> (Int32.toUInt32 4 &&& Int32.toUInt32 31)).toInt32)) &&& 252645135) + ((Int32.toUInt32 (((((x0 - (((Int32.toUInt32 x0 >>> (Int32.toUInt32 1 &&& Int32.toUInt32 31)).toInt32) &&& 1431655765)) &&& 858993459) + (((Int32.toUInt32 (x0 - (((Int32.toUInt32 x0 >>> (Int32.toUInt32 1 &&& Int32.toUInt32 31)).toInt32) &&& 1431655765)) >>> (Int32.toUInt32 2 &&& Int32.toUInt32 31)).toInt32) &&& 858993459)) + ((Int32.toUInt32 (((x0 - (((Int32.toUInt32 x0 >>> (Int32.toUInt32 1 &&& Int32.toUInt32 31)).toInt32) &&& 1431655765)) &&& 858993459) + (((Int32.toUInt32 (x0 - (((Int32.toUInt32 x0 >>> (Int32.toUInt32 1 &&& Int32.toUInt32 31)).toInt32) &&& 1431655765)) >>> (Int32.toUInt32 2 &&& Int32.toUInt32 31)).toInt32) &&& 858993459)) >>> (Int32.toUInt32 4 &&& Int32.toUInt32 31)).toInt32)) &&& 252645135) >>> (Int32.toUInt32 8 &&& Int32.toUInt32 31)).toInt32)) >>> (Int32.toUInt32 16 &&& Int32.toUInt32 31)).toInt32)) &&& 63))) M) : S_J6_bitCount_0f7a4 d x0 M K := by
  show zV m_J6_bitCount_0f7a4 d 0 [(0, .int x0)] [] M K
  refine zr_iload_n dJ6_bitCount_0f7a4_0 rfl 0 rfl ?_
  refine zr_iload_n dJ6_bitCount_0f7a4_1 rfl 0 rfl ?_
  refine zr_iconst (v := 1) dJ6_bitCount_0f7a4_2 (by decide) ?_
  refine zr_iushr dJ6_bitCount_0f7a4_3 ?_
  refine zr_ldcw (v := 1431655765) dJ6_bitCount_0f7a4_4 k_J6_265 ?_
  refine zr_iand dJ6_bitCount_0f7a4_7 ?_
  refine zr_isub dJ6_bitCount_0f7a4_8 ?_
  refine zr_istore_n dJ6_bitCount_0f7a4_9 rfl (by decide) (L2 := [(0, .int (x0 - (((Int32.toUInt32 x0 >>> (Int32.toUInt32 1 &&& Int32.toUInt32 31)).toInt32) &&& 1431655765)))]) rfl ?_
  refine zr_iload_n dJ6_bitCount_0f7a4_10 rfl 0 rfl ?_
  refine zr_ldcw (v := 858993459) dJ6_bitCount_0f7a4_11 k_J6_266 ?_
  refine zr_iand dJ6_bitCount_0f7a4_14 ?_
  refine zr_iload_n dJ6_bitCount_0f7a4_15 rfl 0 rfl ?_
  refine zr_iconst (v := 2) dJ6_bitCount_0f7a4_16 (by decide) ?_
  refine zr_iushr dJ6_bitCount_0f7a4_17 ?_
  refine zr_ldcw (v := 858993459) dJ6_bitCount_0f7a4_18 k_J6_266 ?_
  refine zr_iand dJ6_bitCount_0f7a4_21 ?_
  refine zr_iadd dJ6_bitCount_0f7a4_22 ?_
  refine zr_istore_n dJ6_bitCount_0f7a4_23 rfl (by decide) (L2 := [(0, .int (((x0 - (((Int32.toUInt32 x0 >>> (Int32.toUInt32 1 &&& Int32.toUInt32 31)).toInt32) &&& 1431655765)) &&& 858993459) + (((Int32.toUInt32 (x0 - (((Int32.toUInt32 x0 >>> (Int32.toUInt32 1 &&& Int32.toUInt32 31)).toInt32) &&& 1431655765)) >>> (Int32.toUInt32 2 &&& Int32.toUInt32 31)).toInt32) &&& 858993459)))]) rfl ?_
  refine zr_iload_n dJ6_bitCount_0f7a4_24 rfl 0 rfl ?_
  refine zr_iload_n dJ6_bitCount_0f7a4_25 rfl 0 rfl ?_
  refine zr_iconst (v := 4) dJ6_bitCount_0f7a4_26 (by decide) ?_
  refine zr_iushr dJ6_bitCount_0f7a4_27 ?_
  refine zr_iadd dJ6_bitCount_0f7a4_28 ?_
  refine zr_ldcw (v := 252645135) dJ6_bitCount_0f7a4_29 k_J6_267 ?_
  refine zr_iand dJ6_bitCount_0f7a4_32 ?_
  refine zr_istore_n dJ6_bitCount_0f7a4_33 rfl (by decide) (L2 := [(0, .int (((((x0 - (((Int32.toUInt32 x0 >>> (Int32.toUInt32 1 &&& Int32.toUInt32 31)).toInt32) &&& 1431655765)) &&& 858993459) + (((Int32.toUInt32 (x0 - (((Int32.toUInt32 x0 >>> (Int32.toUInt32 1 &&& Int32.toUInt32 31)).toInt32) &&& 1431655765)) >>> (Int32.toUInt32 2 &&& Int32.toUInt32 31)).toInt32) &&& 858993459)) + ((Int32.toUInt32 (((x0 - (((Int32.toUInt32 x0 >>> (Int32.toUInt32 1 &&& Int32.toUInt32 31)).toInt32) &&& 1431655765)) &&& 858993459) + (((Int32.toUInt32 (x0 - (((Int32.toUInt32 x0 >>> (Int32.toUInt32 1 &&& Int32.toUInt32 31)).toInt32) &&& 1431655765)) >>> (Int32.toUInt32 2 &&& Int32.toUInt32 31)).toInt32) &&& 858993459)) >>> (Int32.toUInt32 4 &&& Int32.toUInt32 31)).toInt32)) &&& 252645135))]) rfl ?_
  refine zr_iload_n dJ6_bitCount_0f7a4_34 rfl 0 rfl ?_
  refine zr_iload_n dJ6_bitCount_0f7a4_35 rfl 0 rfl ?_
  refine zr_bipush (v := 8) dJ6_bitCount_0f7a4_36 (by decide) ?_
  refine zr_iushr dJ6_bitCount_0f7a4_38 ?_
  refine zr_iadd dJ6_bitCount_0f7a4_39 ?_
  refine zr_istore_n dJ6_bitCount_0f7a4_40 rfl (by decide) (L2 := [(0, .int ((((((x0 - (((Int32.toUInt32 x0 >>> (Int32.toUInt32 1 &&& Int32.toUInt32 31)).toInt32) &&& 1431655765)) &&& 858993459) + (((Int32.toUInt32 (x0 - (((Int32.toUInt32 x0 >>> (Int32.toUInt32 1 &&& Int32.toUInt32 31)).toInt32) &&& 1431655765)) >>> (Int32.toUInt32 2 &&& Int32.toUInt32 31)).toInt32) &&& 858993459)) + ((Int32.toUInt32 (((x0 - (((Int32.toUInt32 x0 >>> (Int32.toUInt32 1 &&& Int32.toUInt32 31)).toInt32) &&& 1431655765)) &&& 858993459) + (((Int32.toUInt32 (x0 - (((Int32.toUInt32 x0 >>> (Int32.toUInt32 1 &&& Int32.toUInt32 31)).toInt32) &&& 1431655765)) >>> (Int32.toUInt32 2 &&& Int32.toUInt32 31)).toInt32) &&& 858993459)) >>> (Int32.toUInt32 4 &&& Int32.toUInt32 31)).toInt32)) &&& 252645135) + ((Int32.toUInt32 (((((x0 - (((Int32.toUInt32 x0 >>> (Int32.toUInt32 1 &&& Int32.toUInt32 31)).toInt32) &&& 1431655765)) &&& 858993459) + (((Int32.toUInt32 (x0 - (((Int32.toUInt32 x0 >>> (Int32.toUInt32 1 &&& Int32.toUInt32 31)).toInt32) &&& 1431655765)) >>> (Int32.toUInt32 2 &&& Int32.toUInt32 31)).toInt32) &&& 858993459)) + ((Int32.toUInt32 (((x0 - (((Int32.toUInt32 x0 >>> (Int32.toUInt32 1 &&& Int32.toUInt32 31)).toInt32) &&& 1431655765)) &&& 858993459) + (((Int32.toUInt32 (x0 - (((Int32.toUInt32 x0 >>> (Int32.toUInt32 1 &&& Int32.toUInt32 31)).toInt32) &&& 1431655765)) >>> (Int32.toUInt32 2 &&& Int32.toUInt32 31)).toInt32) &&& 858993459)) >>> (Int32.toUInt32 4 &&& Int32.toUInt32 31)).toInt32)) &&& 252645135) >>> (Int32.toUInt32 8 &&& Int32.toUInt32 31)).toInt32)))]) rfl ?_
  refine zr_iload_n dJ6_bitCount_0f7a4_41 rfl 0 rfl ?_
  refine zr_iload_n dJ6_bitCount_0f7a4_42 rfl 0 rfl ?_
  refine zr_bipush (v := 16) dJ6_bitCount_0f7a4_43 (by decide) ?_
  refine zr_iushr dJ6_bitCount_0f7a4_45 ?_
  refine zr_iadd dJ6_bitCount_0f7a4_46 ?_
  refine zr_istore_n dJ6_bitCount_0f7a4_47 rfl (by decide) (L2 := [(0, .int (((((((x0 - (((Int32.toUInt32 x0 >>> (Int32.toUInt32 1 &&& Int32.toUInt32 31)).toInt32) &&& 1431655765)) &&& 858993459) + (((Int32.toUInt32 (x0 - (((Int32.toUInt32 x0 >>> (Int32.toUInt32 1 &&& Int32.toUInt32 31)).toInt32) &&& 1431655765)) >>> (Int32.toUInt32 2 &&& Int32.toUInt32 31)).toInt32) &&& 858993459)) + ((Int32.toUInt32 (((x0 - (((Int32.toUInt32 x0 >>> (Int32.toUInt32 1 &&& Int32.toUInt32 31)).toInt32) &&& 1431655765)) &&& 858993459) + (((Int32.toUInt32 (x0 - (((Int32.toUInt32 x0 >>> (Int32.toUInt32 1 &&& Int32.toUInt32 31)).toInt32) &&& 1431655765)) >>> (Int32.toUInt32 2 &&& Int32.toUInt32 31)).toInt32) &&& 858993459)) >>> (Int32.toUInt32 4 &&& Int32.toUInt32 31)).toInt32)) &&& 252645135) + ((Int32.toUInt32 (((((x0 - (((Int32.toUInt32 x0 >>> (Int32.toUInt32 1 &&& Int32.toUInt32 31)).toInt32) &&& 1431655765)) &&& 858993459) + (((Int32.toUInt32 (x0 - (((Int32.toUInt32 x0 >>> (Int32.toUInt32 1 &&& Int32.toUInt32 31)).toInt32) &&& 1431655765)) >>> (Int32.toUInt32 2 &&& Int32.toUInt32 31)).toInt32) &&& 858993459)) + ((Int32.toUInt32 (((x0 - (((Int32.toUInt32 x0 >>> (Int32.toUInt32 1 &&& Int32.toUInt32 31)).toInt32) &&& 1431655765)) &&& 858993459) + (((Int32.toUInt32 (x0 - (((Int32.toUInt32 x0 >>> (Int32.toUInt32 1 &&& Int32.toUInt32 31)).toInt32) &&& 1431655765)) >>> (Int32.toUInt32 2 &&& Int32.toUInt32 31)).toInt32) &&& 858993459)) >>> (Int32.toUInt32 4 &&& Int32.toUInt32 31)).toInt32)) &&& 252645135) >>> (Int32.toUInt32 8 &&& Int32.toUInt32 31)).toInt32)) + ((Int32.toUInt32 ((((((x0 - (((Int32.toUInt32 x0 >>> (Int32.toUInt32 1 &&& Int32.toUInt32 31)).toInt32) &&& 1431655765)) &&& 858993459) + (((Int32.toUInt32 (x0 - (((Int32.toUInt32 x0 >>> (Int32.toUInt32 1 &&& Int32.toUInt32 31)).toInt32) &&& 1431655765)) >>> (Int32.toUInt32 2 &&& Int32.toUInt32 31)).toInt32) &&& 858993459)) + ((Int32.toUInt32 (((x0 - (((Int32.toUInt32 x0 >>> (Int32.toUInt32 1 &&& Int32.toUInt32 31)).toInt32) &&& 1431655765)) &&& 858993459) + (((Int32.toUInt32 (x0 - (((Int32.toUInt32 x0 >>> (Int32.toUInt32 1 &&& Int32.toUInt32 31)).toInt32) &&& 1431655765)) >>> (Int32.toUInt32 2 &&& Int32.toUInt32 31)).toInt32) &&& 858993459)) >>> (Int32.toUInt32 4 &&& Int32.toUInt32 31)).toInt32)) &&& 252645135) + ((Int32.toUInt32 (((((x0 - (((Int32.toUInt32 x0 >>> (Int32.toUInt32 1 &&& Int32.toUInt32 31)).toInt32) &&& 1431655765)) &&& 858993459) + (((Int32.toUInt32 (x0 - (((Int32.toUInt32 x0 >>> (Int32.toUInt32 1 &&& Int32.toUInt32 31)).toInt32) &&& 1431655765)) >>> (Int32.toUInt32 2 &&& Int32.toUInt32 31)).toInt32) &&& 858993459)) + ((Int32.toUInt32 (((x0 - (((Int32.toUInt32 x0 >>> (Int32.toUInt32 1 &&& Int32.toUInt32 31)).toInt32) &&& 1431655765)) &&& 858993459) + (((Int32.toUInt32 (x0 - (((Int32.toUInt32 x0 >>> (Int32.toUInt32 1 &&& Int32.toUInt32 31)).toInt32) &&& 1431655765)) >>> (Int32.toUInt32 2 &&& Int32.toUInt32 31)).toInt32) &&& 858993459)) >>> (Int32.toUInt32 4 &&& Int32.toUInt32 31)).toInt32)) &&& 252645135) >>> (Int32.toUInt32 8 &&& Int32.toUInt32 31)).toInt32)) >>> (Int32.toUInt32 16 &&& Int32.toUInt32 31)).toInt32)))]) rfl ?_
  refine zr_iload_n dJ6_bitCount_0f7a4_48 rfl 0 rfl ?_
  refine zr_bipush (v := 63) dJ6_bitCount_0f7a4_49 (by decide) ?_
  refine zr_iand dJ6_bitCount_0f7a4_51 ?_
  exact zm_iret dJ6_bitCount_0f7a4_52 rfl T
set_option maxRecDepth 100000 in
set_option maxHeartbeats 4000000 in
theorem t_X0_read {d : Nat}  {M : zMem} {K : zK} 
    (T : (∀ M21 : zMem, M21 = wI M 222 6 0 → S_X0_read_7 (d + 1) 0 M21 K)) : S_X0_read (d + 1)  M K := by
  show zV m_X0_read (d + 1) 0 [(0, .ref 222)] [] M K
  refine zr_aload_n dX0_read_0 rfl 0 rfl ?_
  refine zr_iconst (v := 0) dX0_read_1 (by decide) ?_
  refine zn_puti dX0_read_2 f_X0_24 (by decide) (by decide) (by decide) (fun M21 e22 => ?_)
  have T := T M21 e22
  refine zr_iconst (v := 0) dX0_read_5 (by decide) ?_
  refine zr_istore_n dX0_read_6 rfl (by decide) (L2 := [(1, .int 0), (0, .ref 222)]) rfl ?_
  exact zV.pick [1, 0] rfl T
set_option maxRecDepth 100000 in
set_option maxHeartbeats 4000000 in
theorem t_X0_read_7 {d : Nat} {x1 : Int32} {M : zMem} {K : zK} 
    (T : (940 ≤ x1 → S_X6_isWhole d  M (zB (fun r22 M23 => K (some (.int (bi r22))) M23))) ∧ (¬ (940 ≤ x1) → ((M.1 220 4) = 0 → S_X6_isWhole d  M (zB (fun r25 M26 => K (some (.int (bi r25))) M26))) ∧ (¬ ((M.1 220 4) = 0) → S_X0_readLine d  M (zB (fun r27 M28 => (r27 = true → S_X0_read_7 (d + 1) (x1 + 1) M28 K) ∧ (r27 = false → K (some (.int 0)) M28)))))) : S_X0_read_7 (d + 1) x1 M K := by
  show zV m_X0_read (d + 1) 7 [(0, .ref 222), (1, .int x1)] [] M K
  refine zr_iload_n dX0_read_7 rfl 1 rfl ?_
  refine zr_sipush (v := 940) dX0_read_8 (by decide) ?_
  refine zr_icmp_ge (tgt := 39) dX0_read_11 (by decide) (fun h21 => ?_) (fun h21 => ?_)
  · have T := T.1 h21
    refine zr_aload_n dX0_read_39 rfl 0 rfl ?_
    refine zm_getr (a := 220) dX0_read_40 f_X0_44 (by decide) (by decide) (by decide) (by decide) ?_
    refine zm_callV_b (c := 6) (b := 220) dX0_read_43 w_X6_isWhole l_X0_61 rfl (by decide) (by decide) s_X6_isWhole [] rfl rfl (Nat.le_of_ble_eq_true rfl) (Nat.le_of_ble_eq_true rfl) ?_
    refine zV.post T ?_
    rintro v M23 ⟨r22, rfl, T⟩
    refine ⟨r22, rfl, ?_⟩
    exact zm_zret dX0_read_46 rfl (bi_01 _) T
  · have T := T.2 h21
    refine zr_aload_n dX0_read_14 rfl 0 rfl ?_
    refine zm_getr (a := 220) dX0_read_15 f_X0_44 (by decide) (by decide) (by decide) (by decide) ?_
    refine zm_geti dX0_read_18 f_X0_52 (by decide) (by decide) (by decide) ?_
    refine zr_if_eq (tgt := 39) dX0_read_21 (by decide) (fun h24 => ?_) (fun h24 => ?_)
    · have T := T.1 h24
      refine zr_aload_n dX0_read_39 rfl 0 rfl ?_
      refine zm_getr (a := 220) dX0_read_40 f_X0_44 (by decide) (by decide) (by decide) (by decide) ?_
      refine zm_callV_b (c := 6) (b := 220) dX0_read_43 w_X6_isWhole l_X0_61 rfl (by decide) (by decide) s_X6_isWhole [] rfl rfl (Nat.le_of_ble_eq_true rfl) (Nat.le_of_ble_eq_true rfl) ?_
      refine zV.post T ?_
      rintro v M26 ⟨r25, rfl, T⟩
      refine ⟨r25, rfl, ?_⟩
      exact zm_zret dX0_read_46 rfl (bi_01 _) T
    · have T := T.2 h24
      refine zr_aload_n dX0_read_24 rfl 0 rfl ?_
      refine zm_callV_b (c := 0) (b := 222) dX0_read_25 w_X0_readLine l_X0_57 rfl (by decide) (by decide) s_X0_readLine [] rfl rfl (Nat.le_of_ble_eq_true rfl) (Nat.le_of_ble_eq_true rfl) ?_
      refine zV.post T ?_
      rintro v M28 ⟨r27, rfl, T⟩
      refine ⟨r27, rfl, ?_⟩
      refine zm_ifb_ne (tgt := 33) dX0_read_28 (by decide) (fun h29 => ?_) (fun h29 => ?_)
      · have T := T.1 h29
        refine zr_iinc (n := 1) (v := x1 + 1) dX0_read_33 rfl rfl (by decide) (L2 := [(1, .int (x1 + 1)), (0, .ref 222)]) rfl ?_
        refine zr_goto (tgt := 7) dX0_read_36 (by decide) ?_
        exact zV.pick [1, 0] rfl T
      · have T := T.2 h29
        refine zr_iconst (v := 0) dX0_read_31 (by decide) ?_
        exact zm_zret dX0_read_32 rfl (by decide) T
set_option maxRecDepth 100000 in
set_option maxHeartbeats 4000000 in
theorem t_X0_readLine {d : Nat}  {M : zMem} {K : zK} 
    (T : ((M.1 220 6) < 9 → S_X6_fail d 1 M (zB (fun r22 M23 => K (some (.int (bi r22))) M23))) ∧ (¬ ((M.1 220 6) < 9) → ((M.1 220 6) ≤ 13 → ((M.1 222 6) < 40 → vp_in (M.1 222 6) 40 ∧ ((∀ M27 : zMem, M27 = wI M 223 (Int32.toNatClampNeg (M.1 222 6)) (M.1 220 6) → S_X6_next d  M27 (zU (fun M30 => S_X6_seePeer d 3 M30 (zI (fun r31 M32 => (¬ r31 = (-1) → vp_in (M32.1 222 6) 40 ∧ ((∀ M35 : zMem, M35 = wI M32 224 (Int32.toNatClampNeg (M32.1 222 6)) r31 → S_X6_next d  M35 (zU (fun M38 => ((M.1 220 6) = 10 → S_X0_readLine_112 (d + 1) (M.1 220 6) r31 M38 K) ∧ (¬ ((M.1 220 6) = 10) → (¬ (M.1 220 6) = 11 → S_X0_readOtherPeer d r31 M38 (zB (fun r42 M43 => (r42 = false → K (some (.int 0)) M43) ∧ (r42 = true → S_X0_readLine_141 (d + 1)  M43 K)))) ∧ ((M.1 220 6) = 11 → S_X0_readLine_112 (d + 1) (M.1 220 6) r31 M38 K))))))) ∧ (r31 = (-1) → K (some (.int 0)) M32)))))))) ∧ (¬ ((M.1 222 6) < 40) → S_X6_fail d 4 M (zB (fun r45 M46 => K (some (.int (bi r45))) M46)))) ∧ (¬ ((M.1 220 6) ≤ 13) → S_X6_fail d 1 M (zB (fun r47 M48 => K (some (.int (bi r47))) M48))))) : S_X0_readLine (d + 1)  M K := by
  show zV m_X0_readLine (d + 1) 0 [(0, .ref 222)] [] M K
  refine zr_aload_n dX0_readLine_0 rfl 0 rfl ?_
  refine zm_getr (a := 220) dX0_readLine_1 f_X0_44 (by decide) (by decide) (by decide) (by decide) ?_
  refine zm_geti dX0_readLine_4 f_X0_64 (by decide) (by decide) (by decide) ?_
  refine zr_istore_n dX0_readLine_7 rfl (by decide) (L2 := [(1, .int (M.1 220 6)), (0, .ref 222)]) rfl ?_
  refine zr_iload_n dX0_readLine_8 rfl 0 rfl ?_
  refine zr_bipush (v := 9) dX0_readLine_9 (by decide) ?_
  refine zr_icmp_lt (tgt := 20) dX0_readLine_11 (by decide) (fun h21 => ?_) (fun h21 => ?_)
  · have T := T.1 h21
    refine zr_aload_n dX0_readLine_20 rfl 1 rfl ?_
    refine zm_getr (a := 220) dX0_readLine_21 f_X0_44 (by decide) (by decide) (by decide) (by decide) ?_
    refine zr_iconst (v := 1) dX0_readLine_24 (by decide) ?_
    refine zm_callV_b (c := 6) (b := 220) dX0_readLine_25 w_X6_fail l_X0_67 rfl (by decide) (by decide) s_X6_fail [.int 1] rfl rfl (Nat.le_of_ble_eq_true rfl) (Nat.le_of_ble_eq_true rfl) ?_
    refine zV.post T ?_
    rintro v M23 ⟨r22, rfl, T⟩
    refine ⟨r22, rfl, ?_⟩
    exact zm_zret dX0_readLine_28 rfl (bi_01 _) T
  · have T := T.2 h21
    refine zr_iload_n dX0_readLine_14 rfl 0 rfl ?_
    refine zr_bipush (v := 13) dX0_readLine_15 (by decide) ?_
    refine zr_icmp_le (tgt := 29) dX0_readLine_17 (by decide) (fun h24 => ?_) (fun h24 => ?_)
    · have T := T.1 h24
      refine zr_aload_n dX0_readLine_29 rfl 1 rfl ?_
      refine zm_geti dX0_readLine_30 f_X0_24 (by decide) (by decide) (by decide) ?_
      refine zr_bipush (v := 40) dX0_readLine_33 (by decide) ?_
      refine zr_icmp_lt (tgt := 47) dX0_readLine_35 (by decide) (fun h25 => ?_) (fun h25 => ?_)
      · have T := T.1 h25
        refine zr_aload_n dX0_readLine_47 rfl 1 rfl ?_
        refine zm_getr (a := 223) dX0_readLine_48 f_X0_9 (by decide) (by decide) (by decide) (by decide) ?_
        refine zr_aload_n dX0_readLine_51 rfl 1 rfl ?_
        refine zm_geti dX0_readLine_52 f_X0_24 (by decide) (by decide) (by decide) ?_
        refine zr_iload_n dX0_readLine_55 rfl 0 rfl ?_
        obtain ⟨hq26, T⟩ := T
        refine zn_iast (n := 40) (o := (Int32.toNatClampNeg (M.1 222 6))) dX0_readLine_56 (by decide) (by decide) hq26 rfl (fun M27 e28 => ?_)
        have T := T M27 e28
        refine zr_aload_n dX0_readLine_57 rfl 1 rfl ?_
        refine zm_getr (a := 220) dX0_readLine_58 f_X0_44 (by decide) (by decide) (by decide) (by decide) ?_
        refine zm_callV_v (c := 6) (b := 220) dX0_readLine_61 w_X6_next l_X0_71 rfl (by decide) (by decide) s_X6_next [] rfl rfl (Nat.le_of_ble_eq_true rfl) (Nat.le_of_ble_eq_true rfl) ?_
        refine zV.post T ?_
        rintro v M30 ⟨rfl, T⟩
        refine ⟨rfl, ?_⟩
        refine zr_aload_n dX0_readLine_64 rfl 1 rfl ?_
        refine zm_getr (a := 220) dX0_readLine_65 f_X0_44 (by decide) (by decide) (by decide) (by decide) ?_
        refine zr_aload_n dX0_readLine_68 rfl 1 rfl ?_
        refine zm_getr (a := 3) dX0_readLine_69 f_X0_48 (by decide) (by decide) (by decide) (by decide) ?_
        refine zm_callV_i (c := 6) (b := 220) dX0_readLine_72 w_X6_seePeer l_X0_74 rfl (by decide) (by decide) s_X6_seePeer [.ref 3] rfl rfl (Nat.le_of_ble_eq_true rfl) (Nat.le_of_ble_eq_true rfl) ?_
        refine zV.post T ?_
        rintro v M32 ⟨r31, rfl, T⟩
        refine ⟨r31, rfl, ?_⟩
        refine zr_istore_n dX0_readLine_75 rfl (by decide) (L2 := [(2, .int r31), (1, .int (M.1 220 6)), (0, .ref 222)]) rfl ?_
        refine zr_iload_n dX0_readLine_76 rfl 0 rfl ?_
        refine zr_iconst (v := (-1)) dX0_readLine_77 (by decide) ?_
        refine zr_icmp_ne (tgt := 83) dX0_readLine_78 (by decide) (fun h33 => ?_) (fun h33 => ?_)
        · have T := T.1 h33
          refine zr_aload_n dX0_readLine_83 rfl 2 rfl ?_
          refine zm_getr (a := 224) dX0_readLine_84 f_X0_15 (by decide) (by decide) (by decide) (by decide) ?_
          refine zr_aload_n dX0_readLine_87 rfl 2 rfl ?_
          refine zm_geti dX0_readLine_88 f_X0_24 (by decide) (by decide) (by decide) ?_
          refine zr_iload_n dX0_readLine_91 rfl 0 rfl ?_
          obtain ⟨hq34, T⟩ := T
          refine zn_iast (n := 40) (o := (Int32.toNatClampNeg (M32.1 222 6))) dX0_readLine_92 (by decide) (by decide) hq34 rfl (fun M35 e36 => ?_)
          have T := T M35 e36
          refine zr_aload_n dX0_readLine_93 rfl 2 rfl ?_
          refine zm_getr (a := 220) dX0_readLine_94 f_X0_44 (by decide) (by decide) (by decide) (by decide) ?_
          refine zm_callV_v (c := 6) (b := 220) dX0_readLine_97 w_X6_next l_X0_71 rfl (by decide) (by decide) s_X6_next [] rfl rfl (Nat.le_of_ble_eq_true rfl) (Nat.le_of_ble_eq_true rfl) ?_
          refine zV.post T ?_
          rintro v M38 ⟨rfl, T⟩
          refine ⟨rfl, ?_⟩
          refine zr_iload_n dX0_readLine_100 rfl 1 rfl ?_
          refine zr_bipush (v := 10) dX0_readLine_101 (by decide) ?_
          refine zr_icmp_eq (tgt := 112) dX0_readLine_103 (by decide) (fun h39 => ?_) (fun h39 => ?_)
          · have T := T.1 h39
            exact zV.pick [2, 1, 0] rfl T
          · have T := T.2 h39
            refine zr_iload_n dX0_readLine_106 rfl 1 rfl ?_
            refine zr_bipush (v := 11) dX0_readLine_107 (by decide) ?_
            refine zr_icmp_ne (tgt := 116) dX0_readLine_109 (by decide) (fun h40 => ?_) (fun h40 => ?_)
            · have T := T.1 h40
              refine zr_iconst (v := 0) dX0_readLine_116 (by decide) ?_
              refine zr_istore_n dX0_readLine_117 rfl (by decide) (L2 := [(3, .int 0), (2, .int r31), (1, .int (M.1 220 6)), (0, .ref 222)]) rfl ?_
              refine zr_iload_n dX0_readLine_118 rfl 0 rfl ?_
              refine zr_if_eq (tgt := 133) dX0_readLine_119 (by decide) (fun _ => ?_) (fun h => absurd h (by decide))
              refine zr_aload_n dX0_readLine_133 rfl 3 rfl ?_
              refine zr_iload_n dX0_readLine_134 rfl 1 rfl ?_
              refine zm_callV_b (c := 0) (b := 222) dX0_readLine_135 w_X0_readOtherPeer l_X0_81 rfl (by decide) (by decide) s_X0_readOtherPeer [.int r31] rfl rfl (Nat.le_of_ble_eq_true rfl) (Nat.le_of_ble_eq_true rfl) ?_
              refine zV.post T ?_
              rintro v M43 ⟨r42, rfl, T⟩
              refine ⟨r42, rfl, ?_⟩
              refine zm_ifb_eq (tgt := 151) dX0_readLine_138 (by decide) (fun h44 => ?_) (fun h44 => ?_)
              · have T := T.1 h44
                refine zr_iconst (v := 0) dX0_readLine_151 (by decide) ?_
                exact zm_zret dX0_readLine_152 rfl (by decide) T
              · have T := T.2 h44
                exact zV.pick [3] rfl T
            · have T := T.2 h40
              exact zV.pick [2, 1, 0] rfl T
        · have T := T.2 h33
          refine zr_iconst (v := 0) dX0_readLine_81 (by decide) ?_
          exact zm_zret dX0_readLine_82 rfl (by decide) T
      · have T := T.2 h25
        refine zr_aload_n dX0_readLine_38 rfl 1 rfl ?_
        refine zm_getr (a := 220) dX0_readLine_39 f_X0_44 (by decide) (by decide) (by decide) (by decide) ?_
        refine zr_iconst (v := 4) dX0_readLine_42 (by decide) ?_
        refine zm_callV_b (c := 6) (b := 220) dX0_readLine_43 w_X6_fail l_X0_67 rfl (by decide) (by decide) s_X6_fail [.int 4] rfl rfl (Nat.le_of_ble_eq_true rfl) (Nat.le_of_ble_eq_true rfl) ?_
        refine zV.post T ?_
        rintro v M46 ⟨r45, rfl, T⟩
        refine ⟨r45, rfl, ?_⟩
        exact zm_zret dX0_readLine_46 rfl (bi_01 _) T
    · have T := T.2 h24
      refine zr_aload_n dX0_readLine_20 rfl 1 rfl ?_
      refine zm_getr (a := 220) dX0_readLine_21 f_X0_44 (by decide) (by decide) (by decide) (by decide) ?_
      refine zr_iconst (v := 1) dX0_readLine_24 (by decide) ?_
      refine zm_callV_b (c := 6) (b := 220) dX0_readLine_25 w_X6_fail l_X0_67 rfl (by decide) (by decide) s_X6_fail [.int 1] rfl rfl (Nat.le_of_ble_eq_true rfl) (Nat.le_of_ble_eq_true rfl) ?_
      refine zV.post T ?_
      rintro v M48 ⟨r47, rfl, T⟩
      refine ⟨r47, rfl, ?_⟩
      exact zm_zret dX0_readLine_28 rfl (bi_01 _) T
set_option maxRecDepth 100000 in
set_option maxHeartbeats 4000000 in
theorem t_X0_readLine_112 {d : Nat} {x1 : Int32} {x2 : Int32} {M : zMem} {K : zK} 
    (T : S_X0_readKeyPart d x1 M (zB (fun r22 M23 => (r22 = false → K (some (.int 0)) M23) ∧ (r22 = true → S_X0_readLine_141 (d + 1)  M23 K)))) : S_X0_readLine_112 (d + 1) x1 x2 M K := by
  show zV m_X0_readLine (d + 1) 112 [(0, .ref 222), (1, .int x1), (2, .int x2)] [] M K
  refine zr_iconst (v := 1) dX0_readLine_112 (by decide) ?_
  refine zr_goto (tgt := 117) dX0_readLine_113 (by decide) ?_
  refine zr_istore_n dX0_readLine_117 rfl (by decide) (L2 := [(3, .int 1), (0, .ref 222), (1, .int x1), (2, .int x2)]) rfl ?_
  refine zr_iload_n dX0_readLine_118 rfl 0 rfl ?_
  refine zr_if_eq (tgt := 133) dX0_readLine_119 (by decide) (fun h => absurd h (by decide)) (fun _ => ?_)
  refine zr_aload_n dX0_readLine_122 rfl 1 rfl ?_
  refine zr_iload_n dX0_readLine_123 rfl 2 rfl ?_
  refine zm_callV_b (c := 0) (b := 222) dX0_readLine_124 w_X0_readKeyPart l_X0_78 rfl (by decide) (by decide) s_X0_readKeyPart [.int x1] rfl rfl (Nat.le_of_ble_eq_true rfl) (Nat.le_of_ble_eq_true rfl) ?_
  refine zV.post T ?_
  rintro v M23 ⟨r22, rfl, T⟩
  refine ⟨r22, rfl, ?_⟩
  refine zm_ifb_eq (tgt := 151) dX0_readLine_127 (by decide) (fun h24 => ?_) (fun h24 => ?_)
  · have T := T.1 h24
    refine zr_iconst (v := 0) dX0_readLine_151 (by decide) ?_
    exact zm_zret dX0_readLine_152 rfl (by decide) T
  · have T := T.2 h24
    refine zr_goto (tgt := 141) dX0_readLine_130 (by decide) ?_
    exact zV.pick [1] rfl T
set_option maxRecDepth 100000 in
set_option maxHeartbeats 4000000 in
theorem t_X0_readLine_141 {d : Nat}  {M : zMem} {K : zK} 
    (T : S_X6_passLineEnd d  M (zB (fun r21 M22 => (r21 = true → (∀ M24 : zMem, M24 = wI M22 222 6 ((M22.1 222 6) + 1) → K (some (.int 1)) M24)) ∧ (r21 = false → K (some (.int 0)) M22)))) : S_X0_readLine_141 (d + 1)  M K := by
  show zV m_X0_readLine (d + 1) 141 [(0, .ref 222)] [] M K
  refine zr_aload_n dX0_readLine_141 rfl 0 rfl ?_
  refine zm_getr (a := 220) dX0_readLine_142 f_X0_44 (by decide) (by decide) (by decide) (by decide) ?_
  refine zm_callV_b (c := 6) (b := 220) dX0_readLine_145 w_X6_passLineEnd l_X0_84 rfl (by decide) (by decide) s_X6_passLineEnd [] rfl rfl (Nat.le_of_ble_eq_true rfl) (Nat.le_of_ble_eq_true rfl) ?_
  refine zV.post T ?_
  rintro v M22 ⟨r21, rfl, T⟩
  refine ⟨r21, rfl, ?_⟩
  refine zm_ifb_ne (tgt := 153) dX0_readLine_148 (by decide) (fun h23 => ?_) (fun h23 => ?_)
  · have T := T.1 h23
    refine zr_aload_n dX0_readLine_153 rfl 0 rfl ?_
    refine zr_dup dX0_readLine_154 rfl ?_
    refine zm_geti dX0_readLine_155 f_X0_24 (by decide) (by decide) (by decide) ?_
    refine zr_iconst (v := 1) dX0_readLine_158 (by decide) ?_
    refine zr_iadd dX0_readLine_159 ?_
    refine zn_puti dX0_readLine_160 f_X0_24 (by decide) (by decide) (by decide) (fun M24 e25 => ?_)
    have T := T M24 e25
    refine zr_iconst (v := 1) dX0_readLine_163 (by decide) ?_
    exact zm_zret dX0_readLine_164 rfl (by decide) T
  · have T := T.2 h23
    refine zr_iconst (v := 0) dX0_readLine_151 (by decide) ?_
    exact zm_zret dX0_readLine_152 rfl (by decide) T
set_option maxRecDepth 100000 in
set_option maxHeartbeats 4000000 in
theorem t_X0_readKeyPart {d : Nat} {x1 : Int32} {M : zMem} {K : zK} 
    (T : S_X6_seeKey d 3 M (zI (fun r21 M22 => (¬ r21 = (-1) → vp_in (M22.1 222 6) 40 ∧ ((∀ M25 : zMem, M25 = wI M22 225 (Int32.toNatClampNeg (M22.1 222 6)) r21 → S_X6_next d  M25 (zU (fun M28 => (¬ x1 = 11 → S_X6_seeNumber d 0 999 M28 (zI (fun r30 M31 => (¬ r30 = (-1) → vp_in (M31.1 222 6) 40 ∧ ((∀ M34 : zMem, M34 = wI M31 226 (Int32.toNatClampNeg (M31.1 222 6)) r30 → S_X6_next d  M34 (zU (fun M37 => K (some (.int 1)) M37))))) ∧ (r30 = (-1) → K (some (.int 0)) M31)))) ∧ (x1 = 11 → K (some (.int 1)) M28)))))) ∧ (r21 = (-1) → K (some (.int 0)) M22)))) : S_X0_readKeyPart (d + 1) x1 M K := by
  show zV m_X0_readKeyPart (d + 1) 0 [(0, .ref 222), (1, .int x1)] [] M K
  refine zr_aload_n dX0_readKeyPart_0 rfl 0 rfl ?_
  refine zm_getr (a := 220) dX0_readKeyPart_1 f_X0_44 (by decide) (by decide) (by decide) (by decide) ?_
  refine zr_aload_n dX0_readKeyPart_4 rfl 0 rfl ?_
  refine zm_getr (a := 3) dX0_readKeyPart_5 f_X0_48 (by decide) (by decide) (by decide) (by decide) ?_
  refine zm_callV_i (c := 6) (b := 220) dX0_readKeyPart_8 w_X6_seeKey l_X0_87 rfl (by decide) (by decide) s_X6_seeKey [.ref 3] rfl rfl (Nat.le_of_ble_eq_true rfl) (Nat.le_of_ble_eq_true rfl) ?_
  refine zV.post T ?_
  rintro v M22 ⟨r21, rfl, T⟩
  refine ⟨r21, rfl, ?_⟩
  refine zr_istore_n dX0_readKeyPart_11 rfl (by decide) (L2 := [(2, .int r21), (0, .ref 222), (1, .int x1)]) rfl ?_
  refine zr_iload_n dX0_readKeyPart_12 rfl 0 rfl ?_
  refine zr_iconst (v := (-1)) dX0_readKeyPart_13 (by decide) ?_
  refine zr_icmp_ne (tgt := 19) dX0_readKeyPart_14 (by decide) (fun h23 => ?_) (fun h23 => ?_)
  · have T := T.1 h23
    refine zr_aload_n dX0_readKeyPart_19 rfl 1 rfl ?_
    refine zm_getr (a := 225) dX0_readKeyPart_20 f_X0_18 (by decide) (by decide) (by decide) (by decide) ?_
    refine zr_aload_n dX0_readKeyPart_23 rfl 1 rfl ?_
    refine zm_geti dX0_readKeyPart_24 f_X0_24 (by decide) (by decide) (by decide) ?_
    refine zr_iload_n dX0_readKeyPart_27 rfl 0 rfl ?_
    obtain ⟨hq24, T⟩ := T
    refine zn_iast (n := 40) (o := (Int32.toNatClampNeg (M22.1 222 6))) dX0_readKeyPart_28 (by decide) (by decide) hq24 rfl (fun M25 e26 => ?_)
    have T := T M25 e26
    refine zr_aload_n dX0_readKeyPart_29 rfl 1 rfl ?_
    refine zm_getr (a := 220) dX0_readKeyPart_30 f_X0_44 (by decide) (by decide) (by decide) (by decide) ?_
    refine zm_callV_v (c := 6) (b := 220) dX0_readKeyPart_33 w_X6_next l_X0_71 rfl (by decide) (by decide) s_X6_next [] rfl rfl (Nat.le_of_ble_eq_true rfl) (Nat.le_of_ble_eq_true rfl) ?_
    refine zV.post T ?_
    rintro v M28 ⟨rfl, T⟩
    refine ⟨rfl, ?_⟩
    refine zr_iload_n dX0_readKeyPart_36 rfl 2 rfl ?_
    refine zr_bipush (v := 11) dX0_readKeyPart_37 (by decide) ?_
    refine zr_icmp_ne (tgt := 44) dX0_readKeyPart_39 (by decide) (fun h29 => ?_) (fun h29 => ?_)
    · have T := T.1 h29
      refine zr_aload_n dX0_readKeyPart_44 rfl 1 rfl ?_
      refine zm_getr (a := 220) dX0_readKeyPart_45 f_X0_44 (by decide) (by decide) (by decide) (by decide) ?_
      refine zr_iconst (v := 0) dX0_readKeyPart_48 (by decide) ?_
      refine zr_sipush (v := 999) dX0_readKeyPart_49 (by decide) ?_
      refine zm_callV_i (c := 6) (b := 220) dX0_readKeyPart_52 w_X6_seeNumber l_X0_90 rfl (by decide) (by decide) s_X6_seeNumber [.int 0, .int 999] rfl rfl (Nat.le_of_ble_eq_true rfl) (Nat.le_of_ble_eq_true rfl) ?_
      refine zV.post T ?_
      rintro v M31 ⟨r30, rfl, T⟩
      refine ⟨r30, rfl, ?_⟩
      refine zr_istore_n dX0_readKeyPart_55 rfl (by decide) (L2 := [(3, .int r30), (2, .int r21), (0, .ref 222), (1, .int x1)]) rfl ?_
      refine zr_iload_n dX0_readKeyPart_56 rfl 0 rfl ?_
      refine zr_iconst (v := (-1)) dX0_readKeyPart_57 (by decide) ?_
      refine zr_icmp_ne (tgt := 63) dX0_readKeyPart_58 (by decide) (fun h32 => ?_) (fun h32 => ?_)
      · have T := T.1 h32
        refine zr_aload_n dX0_readKeyPart_63 rfl 2 rfl ?_
        refine zm_getr (a := 226) dX0_readKeyPart_64 f_X0_21 (by decide) (by decide) (by decide) (by decide) ?_
        refine zr_aload_n dX0_readKeyPart_67 rfl 2 rfl ?_
        refine zm_geti dX0_readKeyPart_68 f_X0_24 (by decide) (by decide) (by decide) ?_
        refine zr_iload_n dX0_readKeyPart_71 rfl 0 rfl ?_
        obtain ⟨hq33, T⟩ := T
        refine zn_iast (n := 40) (o := (Int32.toNatClampNeg (M31.1 222 6))) dX0_readKeyPart_72 (by decide) (by decide) hq33 rfl (fun M34 e35 => ?_)
        have T := T M34 e35
        refine zr_aload_n dX0_readKeyPart_73 rfl 2 rfl ?_
        refine zm_getr (a := 220) dX0_readKeyPart_74 f_X0_44 (by decide) (by decide) (by decide) (by decide) ?_
        refine zm_callV_v (c := 6) (b := 220) dX0_readKeyPart_77 w_X6_next l_X0_71 rfl (by decide) (by decide) s_X6_next [] rfl rfl (Nat.le_of_ble_eq_true rfl) (Nat.le_of_ble_eq_true rfl) ?_
        refine zV.post T ?_
        rintro v M37 ⟨rfl, T⟩
        refine ⟨rfl, ?_⟩
        refine zr_iconst (v := 1) dX0_readKeyPart_80 (by decide) ?_
        exact zm_zret dX0_readKeyPart_81 rfl (by decide) T
      · have T := T.2 h32
        refine zr_iconst (v := 0) dX0_readKeyPart_61 (by decide) ?_
        exact zm_zret dX0_readKeyPart_62 rfl (by decide) T
    · have T := T.2 h29
      refine zr_iconst (v := 1) dX0_readKeyPart_42 (by decide) ?_
      exact zm_zret dX0_readKeyPart_43 rfl (by decide) T
  · have T := T.2 h23
    refine zr_iconst (v := 0) dX0_readKeyPart_17 (by decide) ?_
    exact zm_zret dX0_readKeyPart_18 rfl (by decide) T
set_option maxRecDepth 100000 in
set_option maxHeartbeats 4000000 in
theorem t_X0_readOtherPeer {d : Nat} {x1 : Int32} {M : zMem} {K : zK} 
    (T : S_X6_seePeer d 3 M (zI (fun r21 M22 => (¬ r21 = (-1) → (¬ r21 = x1 → vp_in (M22.1 222 6) 40 ∧ ((∀ M26 : zMem, M26 = wI M22 225 (Int32.toNatClampNeg (M22.1 222 6)) r21 → S_X6_next d  M26 (zU (fun M29 => K (some (.int 1)) M29))))) ∧ (r21 = x1 → S_X6_fail d 3 M22 (zB (fun r30 M31 => K (some (.int (bi r30))) M31)))) ∧ (r21 = (-1) → K (some (.int 0)) M22)))) : S_X0_readOtherPeer (d + 1) x1 M K := by
  show zV m_X0_readOtherPeer (d + 1) 0 [(0, .ref 222), (1, .int x1)] [] M K
  refine zr_aload_n dX0_readOtherPeer_0 rfl 0 rfl ?_
  refine zm_getr (a := 220) dX0_readOtherPeer_1 f_X0_44 (by decide) (by decide) (by decide) (by decide) ?_
  refine zr_aload_n dX0_readOtherPeer_4 rfl 0 rfl ?_
  refine zm_getr (a := 3) dX0_readOtherPeer_5 f_X0_48 (by decide) (by decide) (by decide) (by decide) ?_
  refine zm_callV_i (c := 6) (b := 220) dX0_readOtherPeer_8 w_X6_seePeer l_X0_74 rfl (by decide) (by decide) s_X6_seePeer [.ref 3] rfl rfl (Nat.le_of_ble_eq_true rfl) (Nat.le_of_ble_eq_true rfl) ?_
  refine zV.post T ?_
  rintro v M22 ⟨r21, rfl, T⟩
  refine ⟨r21, rfl, ?_⟩
  refine zr_istore_n dX0_readOtherPeer_11 rfl (by decide) (L2 := [(2, .int r21), (0, .ref 222), (1, .int x1)]) rfl ?_
  refine zr_iload_n dX0_readOtherPeer_12 rfl 0 rfl ?_
  refine zr_iconst (v := (-1)) dX0_readOtherPeer_13 (by decide) ?_
  refine zr_icmp_ne (tgt := 19) dX0_readOtherPeer_14 (by decide) (fun h23 => ?_) (fun h23 => ?_)
  · have T := T.1 h23
    refine zr_iload_n dX0_readOtherPeer_19 rfl 0 rfl ?_
    refine zr_iload_n dX0_readOtherPeer_20 rfl 2 rfl ?_
    refine zr_icmp_ne (tgt := 33) dX0_readOtherPeer_21 (by decide) (fun h24 => ?_) (fun h24 => ?_)
    · have T := T.1 h24
      refine zr_aload_n dX0_readOtherPeer_33 rfl 1 rfl ?_
      refine zm_getr (a := 225) dX0_readOtherPeer_34 f_X0_18 (by decide) (by decide) (by decide) (by decide) ?_
      refine zr_aload_n dX0_readOtherPeer_37 rfl 1 rfl ?_
      refine zm_geti dX0_readOtherPeer_38 f_X0_24 (by decide) (by decide) (by decide) ?_
      refine zr_iload_n dX0_readOtherPeer_41 rfl 0 rfl ?_
      obtain ⟨hq25, T⟩ := T
      refine zn_iast (n := 40) (o := (Int32.toNatClampNeg (M22.1 222 6))) dX0_readOtherPeer_42 (by decide) (by decide) hq25 rfl (fun M26 e27 => ?_)
      have T := T M26 e27
      refine zr_aload_n dX0_readOtherPeer_43 rfl 1 rfl ?_
      refine zm_getr (a := 220) dX0_readOtherPeer_44 f_X0_44 (by decide) (by decide) (by decide) (by decide) ?_
      refine zm_callV_v (c := 6) (b := 220) dX0_readOtherPeer_47 w_X6_next l_X0_71 rfl (by decide) (by decide) s_X6_next [] rfl rfl (Nat.le_of_ble_eq_true rfl) (Nat.le_of_ble_eq_true rfl) ?_
      refine zV.post T ?_
      rintro v M29 ⟨rfl, T⟩
      refine ⟨rfl, ?_⟩
      refine zr_iconst (v := 1) dX0_readOtherPeer_50 (by decide) ?_
      exact zm_zret dX0_readOtherPeer_51 rfl (by decide) T
    · have T := T.2 h24
      refine zr_aload_n dX0_readOtherPeer_24 rfl 1 rfl ?_
      refine zm_getr (a := 220) dX0_readOtherPeer_25 f_X0_44 (by decide) (by decide) (by decide) (by decide) ?_
      refine zr_iconst (v := 3) dX0_readOtherPeer_28 (by decide) ?_
      refine zm_callV_b (c := 6) (b := 220) dX0_readOtherPeer_29 w_X6_fail l_X0_67 rfl (by decide) (by decide) s_X6_fail [.int 3] rfl rfl (Nat.le_of_ble_eq_true rfl) (Nat.le_of_ble_eq_true rfl) ?_
      refine zV.post T ?_
      rintro v M31 ⟨r30, rfl, T⟩
      refine ⟨r30, rfl, ?_⟩
      exact zm_zret dX0_readOtherPeer_32 rfl (bi_01 _) T
  · have T := T.2 h23
    refine zr_iconst (v := 0) dX0_readOtherPeer_17 (by decide) ?_
    exact zm_zret dX0_readOtherPeer_18 rfl (by decide) T
set_option maxRecDepth 100000 in
set_option maxHeartbeats 4000000 in
theorem t_X0_judge {d : Nat} {b1 : Nat} {M : zMem} {K : zK} (h1 : b1 ∈ iX4)
    (T : (∀ M21 : zMem, M21 = wI M 222 8 0 → (∀ M23 : zMem, M23 = wI M21 222 9 0 → S_X0_judge_12 (d + 1) b1 0 M23 K))) : S_X0_judge (d + 1) b1 M K := by
  show zV m_X0_judge (d + 1) 0 [(0, .ref 222), (1, .ref b1)] [] M K
  refine zr_aload_n dX0_judge_0 rfl 0 rfl ?_
  refine zr_iconst (v := 0) dX0_judge_1 (by decide) ?_
  refine zn_puti dX0_judge_2 f_X0_32 (by decide) (by decide) (by decide) (fun M21 e22 => ?_)
  have T := T M21 e22
  refine zr_aload_n dX0_judge_5 rfl 0 rfl ?_
  refine zr_iconst (v := 0) dX0_judge_6 (by decide) ?_
  refine zn_puti dX0_judge_7 f_X0_35 (by decide) (by decide) (by decide) (fun M23 e24 => ?_)
  have T := T M23 e24
  refine zr_iconst (v := 0) dX0_judge_10 (by decide) ?_
  refine zr_istore_n dX0_judge_11 rfl (by decide) (L2 := [(2, .int 0), (0, .ref 222), (1, .ref b1)]) rfl ?_
  exact zV.pick [1, 2, 0] rfl T
set_option maxRecDepth 100000 in
set_option maxHeartbeats 4000000 in
theorem t_X0_judge_12 {d : Nat} {b1 : Nat} {x2 : Int32} {M : zMem} {K : zK} (h1 : b1 ∈ iX4)
    (T : ((M.1 222 6) ≤ x2 → S_X0_judge_60 (d + 1) b1 M K) ∧ (¬ ((M.1 222 6) ≤ x2) → (¬ (M.1 222 8) = 0 → S_X0_judge_60 (d + 1) b1 M K) ∧ ((M.1 222 8) = 0 → S_X0_liveLine d b1 x2 M (zI (fun r23 M24 => (∀ M25 : zMem, M25 = wI M24 222 8 r23 → (¬ (M25.1 222 8) = 0 → S_X0_judge_12 (d + 1) b1 (x2 + 1) M25 K) ∧ ((M25.1 222 8) = 0 → (∀ M28 : zMem, M28 = wI M25 222 9 ((M25.1 222 9) + 1) → S_X0_judge_12 (d + 1) b1 (x2 + 1) M28 K)))))))) : S_X0_judge_12 (d + 1) b1 x2 M K := by
  show zV m_X0_judge (d + 1) 12 [(0, .ref 222), (1, .ref b1), (2, .int x2)] [] M K
  refine zr_iload_n dX0_judge_12 rfl 2 rfl ?_
  refine zr_aload_n dX0_judge_13 rfl 0 rfl ?_
  refine zm_geti dX0_judge_14 f_X0_24 (by decide) (by decide) (by decide) ?_
  refine zr_icmp_ge (tgt := 60) dX0_judge_17 (by decide) (fun h21 => ?_) (fun h21 => ?_)
  · have T := T.1 h21
    exact zV.pick [0, 1] rfl T
  · have T := T.2 h21
    refine zr_aload_n dX0_judge_20 rfl 0 rfl ?_
    refine zm_geti dX0_judge_21 f_X0_32 (by decide) (by decide) (by decide) ?_
    refine zr_if_ne (tgt := 60) dX0_judge_24 (by decide) (fun h22 => ?_) (fun h22 => ?_)
    · have T := T.1 h22
      exact zV.pick [0, 1] rfl T
    · have T := T.2 h22
      refine zr_aload_n dX0_judge_27 rfl 0 rfl ?_
      refine zr_aload_n dX0_judge_28 rfl 0 rfl ?_
      refine zr_aload_n dX0_judge_29 rfl 1 rfl ?_
      refine zr_iload_n dX0_judge_30 rfl 2 rfl ?_
      refine zm_callV_i (c := 0) (b := 222) dX0_judge_31 w_X0_liveLine l_X0_94 rfl (by decide) (by decide) s_X0_liveLine [.ref b1, .int x2] rfl rfl (Nat.le_of_ble_eq_true rfl) (Nat.le_of_ble_eq_true rfl) ?_
      refine zV.post T ?_
      rintro v M24 ⟨r23, rfl, T⟩
      refine ⟨r23, rfl, ?_⟩
      refine zn_puti dX0_judge_34 f_X0_32 (by decide) (by decide) (by decide) (fun M25 e26 => ?_)
      have T := T M25 e26
      refine zr_aload_n dX0_judge_37 rfl 0 rfl ?_
      refine zm_geti dX0_judge_38 f_X0_32 (by decide) (by decide) (by decide) ?_
      refine zr_if_ne (tgt := 54) dX0_judge_41 (by decide) (fun h27 => ?_) (fun h27 => ?_)
      · have T := T.1 h27
        refine zr_iinc (n := 2) (v := x2 + 1) dX0_judge_54 rfl rfl (by decide) (L2 := [(2, .int (x2 + 1)), (0, .ref 222), (1, .ref b1)]) rfl ?_
        refine zr_goto (tgt := 12) dX0_judge_57 (by decide) ?_
        exact zV.pick [1, 2, 0] rfl T
      · have T := T.2 h27
        refine zr_aload_n dX0_judge_44 rfl 0 rfl ?_
        refine zr_dup dX0_judge_45 rfl ?_
        refine zm_geti dX0_judge_46 f_X0_35 (by decide) (by decide) (by decide) ?_
        refine zr_iconst (v := 1) dX0_judge_49 (by decide) ?_
        refine zr_iadd dX0_judge_50 ?_
        refine zn_puti dX0_judge_51 f_X0_35 (by decide) (by decide) (by decide) (fun M28 e29 => ?_)
        have T := T M28 e29
        refine zr_iinc (n := 2) (v := x2 + 1) dX0_judge_54 rfl rfl (by decide) (L2 := [(2, .int (x2 + 1)), (0, .ref 222), (1, .ref b1)]) rfl ?_
        refine zr_goto (tgt := 12) dX0_judge_57 (by decide) ?_
        exact zV.pick [1, 2, 0] rfl T
set_option maxRecDepth 100000 in
set_option maxHeartbeats 4000000 in
theorem t_X0_judge_60 {d : Nat} {b1 : Nat} {M : zMem} {K : zK} (h1 : b1 ∈ iX4)
    (T : (∀ M21 : zMem, M21 = wI M 222 7 1 → (∀ M23 : zMem, M23 = wI M21 222 10 (M21.1 (pF b1) 6) → S_X4_rootKinds d b1 M23 (zI (fun r25 M26 => (∀ M27 : zMem, M27 = wI M26 222 11 r25 → (¬ (M27.1 222 8) = 0 → K (some (.int (M27.1 222 9))) M27) ∧ ((M27.1 222 8) = 0 → K (some (.int (-1))) M27))))))) : S_X0_judge_60 (d + 1) b1 M K := by
  show zV m_X0_judge (d + 1) 60 [(0, .ref 222), (1, .ref b1)] [] M K
  refine zr_aload_n dX0_judge_60 rfl 0 rfl ?_
  refine zr_iconst (v := 1) dX0_judge_61 (by decide) ?_
  refine zn_putz dX0_judge_62 f_X0_28 (by decide) (by decide) (by decide) (by decide) (fun M21 e22 => ?_)
  have T := T M21 e22
  refine zr_aload_n dX0_judge_65 rfl 0 rfl ?_
  refine zr_aload_n dX0_judge_66 rfl 1 rfl ?_
  refine zm_getr (a := pF b1) dX0_judge_67 f_X0_98 (oX4 _ h1) (by decide) (by decide) (rX4_1 _ h1) ?_
  refine zm_geti dX0_judge_70 f_X0_104 (oX3 _ (qX4_1 _ h1)) (by decide) (by decide) ?_
  refine zn_puti dX0_judge_73 f_X0_38 (by decide) (by decide) (by decide) (fun M23 e24 => ?_)
  have T := T M23 e24
  refine zr_aload_n dX0_judge_76 rfl 0 rfl ?_
  refine zr_aload_n dX0_judge_77 rfl 1 rfl ?_
  refine zm_callV_i (c := 4) (b := b1) dX0_judge_78 w_X4_rootKinds l_X0_109 rfl (oX4 _ h1) (by decide) s_X4_rootKinds [] rfl rfl (Nat.le_of_ble_eq_true rfl) (Nat.le_of_ble_eq_true rfl) ?_
  refine zV.post T ?_
  rintro v M26 ⟨r25, rfl, T⟩
  refine ⟨r25, rfl, ?_⟩
  refine zn_puti dX0_judge_81 f_X0_41 (by decide) (by decide) (by decide) (fun M27 e28 => ?_)
  have T := T M27 e28
  refine zr_aload_n dX0_judge_84 rfl 0 rfl ?_
  refine zm_geti dX0_judge_85 f_X0_32 (by decide) (by decide) (by decide) ?_
  refine zr_if_ne (tgt := 95) dX0_judge_88 (by decide) (fun h29 => ?_) (fun h29 => ?_)
  · have T := T.1 h29
    refine zr_aload_n dX0_judge_95 rfl 0 rfl ?_
    refine zm_geti dX0_judge_96 f_X0_35 (by decide) (by decide) (by decide) ?_
    exact zm_iret dX0_judge_99 rfl T
  · have T := T.2 h29
    refine zr_iconst (v := (-1)) dX0_judge_91 (by decide) ?_
    refine zr_goto (tgt := 99) dX0_judge_92 (by decide) ?_
    exact zm_iret dX0_judge_99 rfl T
set_option maxRecDepth 100000 in
set_option maxHeartbeats 4000000 in
theorem t_X0_liveLine {d : Nat} {b1 : Nat} {x2 : Int32} {M : zMem} {K : zK} (h1 : b1 ∈ iX4)
    (T : vp_in x2 40 ∧ (vp_in x2 40 ∧ (vp_in x2 40 ∧ (((M.1 223 (Int32.toNatClampNeg x2)) = 9 → S_X4_tryCut d b1 (M.1 224 (Int32.toNatClampNeg x2)) (M.1 225 (Int32.toNatClampNeg x2)) M (zI (fun r24 M25 => S_X0_whyOf d r24 30 M25 (zI (fun r26 M27 => K (some (.int r26)) M27))))) ∧ ((M.1 223 (Int32.toNatClampNeg x2)) = 10 → vp_in x2 40 ∧ (S_X4_tryPut d b1 (M.1 224 (Int32.toNatClampNeg x2)) (M.1 225 (Int32.toNatClampNeg x2)) (M.1 226 (Int32.toNatClampNeg x2)) M (zI (fun r29 M30 => S_X0_whyOf d r29 0 M30 (zI (fun r31 M32 => K (some (.int r31)) M32)))))) ∧ ((M.1 223 (Int32.toNatClampNeg x2)) = 11 → S_X4_tryDrop d b1 (M.1 224 (Int32.toNatClampNeg x2)) (M.1 225 (Int32.toNatClampNeg x2)) M (zI (fun r33 M34 => S_X0_whyOf d r33 10 M34 (zI (fun r35 M36 => K (some (.int r35)) M36))))) ∧ ((M.1 223 (Int32.toNatClampNeg x2)) = 12 → S_X4_tryPull d b1 (M.1 224 (Int32.toNatClampNeg x2)) (M.1 225 (Int32.toNatClampNeg x2)) M (zI (fun r37 M38 => S_X0_whyOf d r37 20 M38 (zI (fun r39 M40 => K (some (.int r39)) M40))))) ∧ (¬ (M.1 223 (Int32.toNatClampNeg x2)) = 9 → ¬ (M.1 223 (Int32.toNatClampNeg x2)) = 10 → ¬ (M.1 223 (Int32.toNatClampNeg x2)) = 11 → ¬ (M.1 223 (Int32.toNatClampNeg x2)) = 12 → S_X4_tryHeal d b1 (M.1 224 (Int32.toNatClampNeg x2)) (M.1 225 (Int32.toNatClampNeg x2)) M (zI (fun r41 M42 => S_X0_whyOf d r41 40 M42 (zI (fun r43 M44 => K (some (.int r43)) M44))))))))) : S_X0_liveLine (d + 1) b1 x2 M K := by
  show zV m_X0_liveLine (d + 1) 0 [(0, .ref 222), (1, .ref b1), (2, .int x2)] [] M K
  refine zr_aload_n dX0_liveLine_0 rfl 0 rfl ?_
  refine zm_getr (a := 224) dX0_liveLine_1 f_X0_15 (by decide) (by decide) (by decide) (by decide) ?_
  refine zr_iload_n dX0_liveLine_4 rfl 2 rfl ?_
  obtain ⟨hq21, T⟩ := T
  refine zm_iald (n := 40) (o := (Int32.toNatClampNeg x2)) dX0_liveLine_5 (by decide) (by decide) hq21 rfl ?_
  refine zr_istore_n dX0_liveLine_6 rfl (by decide) (L2 := [(3, .int (M.1 224 (Int32.toNatClampNeg x2))), (0, .ref 222), (1, .ref b1), (2, .int x2)]) rfl ?_
  refine zr_aload_n dX0_liveLine_7 rfl 1 rfl ?_
  refine zm_getr (a := 225) dX0_liveLine_8 f_X0_18 (by decide) (by decide) (by decide) (by decide) ?_
  refine zr_iload_n dX0_liveLine_11 rfl 3 rfl ?_
  obtain ⟨hq22, T⟩ := T
  refine zm_iald (n := 40) (o := (Int32.toNatClampNeg x2)) dX0_liveLine_12 (by decide) (by decide) hq22 rfl ?_
  refine zr_istore dX0_liveLine_13 (by decide) (L2 := [(4, .int (M.1 225 (Int32.toNatClampNeg x2))), (3, .int (M.1 224 (Int32.toNatClampNeg x2))), (0, .ref 222), (1, .ref b1), (2, .int x2)]) rfl ?_
  refine zr_aload_n dX0_liveLine_15 rfl 2 rfl ?_
  refine zm_getr (a := 223) dX0_liveLine_16 f_X0_9 (by decide) (by decide) (by decide) (by decide) ?_
  refine zr_iload_n dX0_liveLine_19 rfl 4 rfl ?_
  obtain ⟨hq23, T⟩ := T
  refine zm_iald (n := 40) (o := (Int32.toNatClampNeg x2)) dX0_liveLine_20 (by decide) (by decide) hq23 rfl ?_
  by_cases h45 : (M.1 223 (Int32.toNatClampNeg x2)) = 9
  · have T := T.1 h45
    refine zr_tableIn (tgt := 96) dX0_liveLine_21 (by rw [h45]; decide) (by rw [h45]; decide) (by rw [h45]; rfl) (by decide) ?_
    refine zr_aload_n dX0_liveLine_96 rfl 3 rfl ?_
    refine zr_iload_n dX0_liveLine_97 rfl 1 rfl ?_
    refine zr_iload dX0_liveLine_98 0 rfl ?_
    refine zm_callV_i (c := 4) (b := b1) dX0_liveLine_100 w_X4_tryCut l_X0_126 rfl (oX4 _ h1) (by decide) s_X4_tryCut [.int (M.1 224 (Int32.toNatClampNeg x2)), .int (M.1 225 (Int32.toNatClampNeg x2))] rfl rfl (Nat.le_of_ble_eq_true rfl) (Nat.le_of_ble_eq_true rfl) ?_
    refine zV.post T ?_
    rintro v M25 ⟨r24, rfl, T⟩
    refine ⟨r24, rfl, ?_⟩
    refine zr_bipush (v := 30) dX0_liveLine_103 (by decide) ?_
    refine zm_callS_i dX0_liveLine_105 w_X0_whyOf l_X0_117 s_X0_whyOf [.int r24, .int 30] rfl rfl (Nat.le_of_ble_eq_true rfl) (Nat.le_of_ble_eq_true rfl) ?_
    refine zV.post T ?_
    rintro v M27 ⟨r26, rfl, T⟩
    refine ⟨r26, rfl, ?_⟩
    exact zm_iret dX0_liveLine_108 rfl T
  by_cases h46 : (M.1 223 (Int32.toNatClampNeg x2)) = 10
  · have T := T.2.1 h46
    refine zr_tableIn (tgt := 52) dX0_liveLine_21 (by rw [h46]; decide) (by rw [h46]; decide) (by rw [h46]; rfl) (by decide) ?_
    refine zr_aload_n dX0_liveLine_52 rfl 3 rfl ?_
    refine zr_iload_n dX0_liveLine_53 rfl 1 rfl ?_
    refine zr_iload dX0_liveLine_54 0 rfl ?_
    refine zr_aload_n dX0_liveLine_56 rfl 2 rfl ?_
    refine zm_getr (a := 226) dX0_liveLine_57 f_X0_21 (by decide) (by decide) (by decide) (by decide) ?_
    refine zr_iload_n dX0_liveLine_60 rfl 4 rfl ?_
    obtain ⟨hq28, T⟩ := T
    refine zm_iald (n := 40) (o := (Int32.toNatClampNeg x2)) dX0_liveLine_61 (by decide) (by decide) hq28 rfl ?_
    refine zm_callV_i (c := 4) (b := b1) dX0_liveLine_62 w_X4_tryPut l_X0_113 rfl (oX4 _ h1) (by decide) s_X4_tryPut [.int (M.1 224 (Int32.toNatClampNeg x2)), .int (M.1 225 (Int32.toNatClampNeg x2)), .int (M.1 226 (Int32.toNatClampNeg x2))] rfl rfl (Nat.le_of_ble_eq_true rfl) (Nat.le_of_ble_eq_true rfl) ?_
    refine zV.post T ?_
    rintro v M30 ⟨r29, rfl, T⟩
    refine ⟨r29, rfl, ?_⟩
    refine zr_iconst (v := 0) dX0_liveLine_65 (by decide) ?_
    refine zm_callS_i dX0_liveLine_66 w_X0_whyOf l_X0_117 s_X0_whyOf [.int r29, .int 0] rfl rfl (Nat.le_of_ble_eq_true rfl) (Nat.le_of_ble_eq_true rfl) ?_
    refine zV.post T ?_
    rintro v M32 ⟨r31, rfl, T⟩
    refine ⟨r31, rfl, ?_⟩
    exact zm_iret dX0_liveLine_69 rfl T
  by_cases h47 : (M.1 223 (Int32.toNatClampNeg x2)) = 11
  · have T := T.2.2.1 h47
    refine zr_tableIn (tgt := 70) dX0_liveLine_21 (by rw [h47]; decide) (by rw [h47]; decide) (by rw [h47]; rfl) (by decide) ?_
    refine zr_aload_n dX0_liveLine_70 rfl 3 rfl ?_
    refine zr_iload_n dX0_liveLine_71 rfl 1 rfl ?_
    refine zr_iload dX0_liveLine_72 0 rfl ?_
    refine zm_callV_i (c := 4) (b := b1) dX0_liveLine_74 w_X4_tryDrop l_X0_120 rfl (oX4 _ h1) (by decide) s_X4_tryDrop [.int (M.1 224 (Int32.toNatClampNeg x2)), .int (M.1 225 (Int32.toNatClampNeg x2))] rfl rfl (Nat.le_of_ble_eq_true rfl) (Nat.le_of_ble_eq_true rfl) ?_
    refine zV.post T ?_
    rintro v M34 ⟨r33, rfl, T⟩
    refine ⟨r33, rfl, ?_⟩
    refine zr_bipush (v := 10) dX0_liveLine_77 (by decide) ?_
    refine zm_callS_i dX0_liveLine_79 w_X0_whyOf l_X0_117 s_X0_whyOf [.int r33, .int 10] rfl rfl (Nat.le_of_ble_eq_true rfl) (Nat.le_of_ble_eq_true rfl) ?_
    refine zV.post T ?_
    rintro v M36 ⟨r35, rfl, T⟩
    refine ⟨r35, rfl, ?_⟩
    exact zm_iret dX0_liveLine_82 rfl T
  by_cases h48 : (M.1 223 (Int32.toNatClampNeg x2)) = 12
  · have T := T.2.2.2.1 h48
    refine zr_tableIn (tgt := 83) dX0_liveLine_21 (by rw [h48]; decide) (by rw [h48]; decide) (by rw [h48]; rfl) (by decide) ?_
    refine zr_aload_n dX0_liveLine_83 rfl 3 rfl ?_
    refine zr_iload_n dX0_liveLine_84 rfl 1 rfl ?_
    refine zr_iload dX0_liveLine_85 0 rfl ?_
    refine zm_callV_i (c := 4) (b := b1) dX0_liveLine_87 w_X4_tryPull l_X0_123 rfl (oX4 _ h1) (by decide) s_X4_tryPull [.int (M.1 224 (Int32.toNatClampNeg x2)), .int (M.1 225 (Int32.toNatClampNeg x2))] rfl rfl (Nat.le_of_ble_eq_true rfl) (Nat.le_of_ble_eq_true rfl) ?_
    refine zV.post T ?_
    rintro v M38 ⟨r37, rfl, T⟩
    refine ⟨r37, rfl, ?_⟩
    refine zr_bipush (v := 20) dX0_liveLine_90 (by decide) ?_
    refine zm_callS_i dX0_liveLine_92 w_X0_whyOf l_X0_117 s_X0_whyOf [.int r37, .int 20] rfl rfl (Nat.le_of_ble_eq_true rfl) (Nat.le_of_ble_eq_true rfl) ?_
    refine zV.post T ?_
    rintro v M40 ⟨r39, rfl, T⟩
    refine ⟨r39, rfl, ?_⟩
    exact zm_iret dX0_liveLine_95 rfl T
  · have T := T.2.2.2.2 h45 h46 h47 h48
    refine zr_tableOut (tgt := 109) dX0_liveLine_21 (z_out_9_12 h45 h46 h47 h48) (by decide) ?_
    refine zr_aload_n dX0_liveLine_109 rfl 3 rfl ?_
    refine zr_iload_n dX0_liveLine_110 rfl 1 rfl ?_
    refine zr_iload dX0_liveLine_111 0 rfl ?_
    refine zm_callV_i (c := 4) (b := b1) dX0_liveLine_113 w_X4_tryHeal l_X0_129 rfl (oX4 _ h1) (by decide) s_X4_tryHeal [.int (M.1 224 (Int32.toNatClampNeg x2)), .int (M.1 225 (Int32.toNatClampNeg x2))] rfl rfl (Nat.le_of_ble_eq_true rfl) (Nat.le_of_ble_eq_true rfl) ?_
    refine zV.post T ?_
    rintro v M42 ⟨r41, rfl, T⟩
    refine ⟨r41, rfl, ?_⟩
    refine zr_bipush (v := 40) dX0_liveLine_116 (by decide) ?_
    refine zm_callS_i dX0_liveLine_118 w_X0_whyOf l_X0_117 s_X0_whyOf [.int r41, .int 40] rfl rfl (Nat.le_of_ble_eq_true rfl) (Nat.le_of_ble_eq_true rfl) ?_
    refine zV.post T ?_
    rintro v M44 ⟨r43, rfl, T⟩
    refine ⟨r43, rfl, ?_⟩
    exact zm_iret dX0_liveLine_121 rfl T
set_option maxRecDepth 100000 in
set_option maxHeartbeats 4000000 in
theorem t_X0_whyOf {d : Nat} {x0 : Int32} {x1 : Int32} {M : zMem} {K : zK} 
    (T : (¬ x0 = 0 → K (some (.int (x1 + x0))) M) ∧ (x0 = 0 → K (some (.int 0)) M)) : S_X0_whyOf d x0 x1 M K := by
  show zV m_X0_whyOf d 0 [(0, .int x0), (1, .int x1)] [] M K
  refine zr_iload_n dX0_whyOf_0 rfl 0 rfl ?_
  refine zr_if_ne (tgt := 8) dX0_whyOf_1 (by decide) (fun h21 => ?_) (fun h21 => ?_)
  · have T := T.1 h21
    refine zr_iload_n dX0_whyOf_8 rfl 1 rfl ?_
    refine zr_iload_n dX0_whyOf_9 rfl 0 rfl ?_
    refine zr_iadd dX0_whyOf_10 ?_
    exact zm_iret dX0_whyOf_11 rfl T
  · have T := T.2 h21
    refine zr_iconst (v := 0) dX0_whyOf_4 (by decide) ?_
    refine zr_goto (tgt := 11) dX0_whyOf_5 (by decide) ?_
    exact zm_iret dX0_whyOf_11 rfl T
set_option maxRecDepth 100000 in
set_option maxHeartbeats 4000000 in
theorem t_X0_tell {d : Nat} {x1 : Int32} {M : zMem} {K : zK} 
    (T : (¬ (M.1 222 7) = 0 → (x1 = 0 → K (some (.int (M.1 222 8))) M) ∧ (x1 = 1 → K (some (.int (M.1 222 9))) M) ∧ (x1 = 2 → K (some (.int (M.1 222 10))) M) ∧ (x1 = 3 → K (some (.int (M.1 222 11))) M) ∧ (¬ x1 = 0 → ¬ x1 = 1 → ¬ x1 = 2 → ¬ x1 = 3 → K (some (.int (-1))) M)) ∧ ((M.1 222 7) = 0 → K (some (.int (-1))) M)) : S_X0_tell d x1 M K := by
  show zV m_X0_tell d 0 [(0, .ref 222), (1, .int x1)] [] M K
  refine zr_aload_n dX0_tell_0 rfl 0 rfl ?_
  refine zm_geti dX0_tell_1 f_X0_28 (by decide) (by decide) (by decide) ?_
  refine zr_if_ne (tgt := 9) dX0_tell_4 (by decide) (fun h21 => ?_) (fun h21 => ?_)
  · have T := T.1 h21
    refine zr_iload_n dX0_tell_9 rfl 1 rfl ?_
    by_cases h22 : x1 = 0
    · have T := T.1 h22
      refine zr_tableIn (tgt := 40) dX0_tell_10 (by rw [h22]; decide) (by rw [h22]; decide) (by rw [h22]; rfl) (by decide) ?_
      refine zr_aload_n dX0_tell_40 rfl 0 rfl ?_
      refine zm_geti dX0_tell_41 f_X0_32 (by decide) (by decide) (by decide) ?_
      exact zm_iret dX0_tell_44 rfl T
    by_cases h23 : x1 = 1
    · have T := T.2.1 h23
      refine zr_tableIn (tgt := 45) dX0_tell_10 (by rw [h23]; decide) (by rw [h23]; decide) (by rw [h23]; rfl) (by decide) ?_
      refine zr_aload_n dX0_tell_45 rfl 0 rfl ?_
      refine zm_geti dX0_tell_46 f_X0_35 (by decide) (by decide) (by decide) ?_
      exact zm_iret dX0_tell_49 rfl T
    by_cases h24 : x1 = 2
    · have T := T.2.2.1 h24
      refine zr_tableIn (tgt := 50) dX0_tell_10 (by rw [h24]; decide) (by rw [h24]; decide) (by rw [h24]; rfl) (by decide) ?_
      refine zr_aload_n dX0_tell_50 rfl 0 rfl ?_
      refine zm_geti dX0_tell_51 f_X0_38 (by decide) (by decide) (by decide) ?_
      exact zm_iret dX0_tell_54 rfl T
    by_cases h25 : x1 = 3
    · have T := T.2.2.2.1 h25
      refine zr_tableIn (tgt := 55) dX0_tell_10 (by rw [h25]; decide) (by rw [h25]; decide) (by rw [h25]; rfl) (by decide) ?_
      refine zr_aload_n dX0_tell_55 rfl 0 rfl ?_
      refine zm_geti dX0_tell_56 f_X0_41 (by decide) (by decide) (by decide) ?_
      exact zm_iret dX0_tell_59 rfl T
    · have T := T.2.2.2.2 h22 h23 h24 h25
      refine zr_tableOut (tgt := 60) dX0_tell_10 (z_out_0_3 h22 h23 h24 h25) (by decide) ?_
      refine zr_iconst (v := (-1)) dX0_tell_60 (by decide) ?_
      exact zm_iret dX0_tell_61 rfl T
  · have T := T.2 h21
    refine zr_iconst (v := (-1)) dX0_tell_7 (by decide) ?_
    exact zm_iret dX0_tell_8 rfl T
set_option maxRecDepth 100000 in
set_option maxHeartbeats 4000000 in
theorem t_X7_read {d : Nat} {b0 : Nat} {b2 : Nat} {M : zMem} {K : zK} (h0 : b0 ∈ iX7) (h2 : b2 ∈ iX5)
    (T : S_X7_clear d b0 M (zU (fun M22 => S_X7_readCond d b0 b2 1 M22 (zB (fun r23 M24 => (r23 = true → (¬ (M24.1 220 4) = 0 → S_X6_fail d 1 M24 (zB (fun r27 M28 => K (some (.int (bi r27))) M28))) ∧ ((M24.1 220 4) = 0 → S_X6_isWhole d  M24 (zB (fun r29 M30 => K (some (.int (bi r29))) M30)))) ∧ (r23 = false → K (some (.int 0)) M24)))))) : S_X7_read (d + 1) b0 b2 M K := by
  show zV m_X7_read (d + 1) 0 [(0, .ref b0), (1, .ref 220), (2, .ref b2)] [] M K
  refine zr_aload_n dX7_read_0 rfl 0 rfl ?_
  refine zm_callV_v (c := 7) (b := b0) dX7_read_1 w_X7_clear l_X7_28 rfl (oX7 _ h0) (by decide) s_X7_clear [] rfl rfl (Nat.le_of_ble_eq_true rfl) (Nat.le_of_ble_eq_true rfl) ?_
  refine zV.post T ?_
  rintro v M22 ⟨rfl, T⟩
  refine ⟨rfl, ?_⟩
  refine zr_aload_n dX7_read_4 rfl 0 rfl ?_
  refine zr_aload_n dX7_read_5 rfl 1 rfl ?_
  refine zr_aload_n dX7_read_6 rfl 2 rfl ?_
  refine zr_iconst (v := 1) dX7_read_7 (by decide) ?_
  refine zm_callV_b (c := 7) (b := b0) dX7_read_8 w_X7_readCond l_X7_31 rfl (oX7 _ h0) (by decide) s_X7_readCond [.ref 220, .ref b2, .int 1] rfl rfl (Nat.le_of_ble_eq_true rfl) (Nat.le_of_ble_eq_true rfl) ?_
  refine zV.post T ?_
  rintro v M24 ⟨r23, rfl, T⟩
  refine ⟨r23, rfl, ?_⟩
  refine zm_ifb_ne (tgt := 16) dX7_read_11 (by decide) (fun h25 => ?_) (fun h25 => ?_)
  · have T := T.1 h25
    refine zr_aload_n dX7_read_16 rfl 1 rfl ?_
    refine zm_geti dX7_read_17 f_X7_35 (by decide) (by decide) (by decide) ?_
    refine zr_if_ne (tgt := 30) dX7_read_20 (by decide) (fun h26 => ?_) (fun h26 => ?_)
    · have T := T.1 h26
      refine zr_aload_n dX7_read_30 rfl 1 rfl ?_
      refine zr_iconst (v := 1) dX7_read_31 (by decide) ?_
      refine zm_callV_b (c := 6) (b := 220) dX7_read_32 w_X6_fail l_X7_44 rfl (by decide) (by decide) s_X6_fail [.int 1] rfl rfl (Nat.le_of_ble_eq_true rfl) (Nat.le_of_ble_eq_true rfl) ?_
      refine zV.post T ?_
      rintro v M28 ⟨r27, rfl, T⟩
      refine ⟨r27, rfl, ?_⟩
      exact zm_zret dX7_read_35 rfl (bi_01 _) T
    · have T := T.2 h26
      refine zr_aload_n dX7_read_23 rfl 1 rfl ?_
      refine zm_callV_b (c := 6) (b := 220) dX7_read_24 w_X6_isWhole l_X7_40 rfl (by decide) (by decide) s_X6_isWhole [] rfl rfl (Nat.le_of_ble_eq_true rfl) (Nat.le_of_ble_eq_true rfl) ?_
      refine zV.post T ?_
      rintro v M30 ⟨r29, rfl, T⟩
      refine ⟨r29, rfl, ?_⟩
      refine zr_goto (tgt := 35) dX7_read_27 (by decide) ?_
      exact zm_zret dX7_read_35 rfl (bi_01 _) T
  · have T := T.2 h25
    refine zr_iconst (v := 0) dX7_read_14 (by decide) ?_
    exact zm_zret dX7_read_15 rfl (by decide) T
set_option maxRecDepth 100000 in
set_option maxHeartbeats 4000000 in
theorem t_X7_readCond {d : Nat} {b0 : Nat} {b2 : Nat} {x3 : Int32} {M : zMem} {K : zK} (h0 : b0 ∈ iX7) (h2 : b2 ∈ iX5)
    (T : S_X7_readAll d b0 b2 x3 M (zB (fun r21 M22 => (r21 = true → S_X7_readCond_15 (d + 1) b0 b2 x3 0 M22 K) ∧ (r21 = false → K (some (.int 0)) M22)))) : S_X7_readCond (d + 1) b0 b2 x3 M K := by
  show zV m_X7_readCond (d + 1) 0 [(0, .ref b0), (1, .ref 220), (2, .ref b2), (3, .int x3)] [] M K
  refine zr_aload_n dX7_readCond_0 rfl 0 rfl ?_
  refine zr_aload_n dX7_readCond_1 rfl 1 rfl ?_
  refine zr_aload_n dX7_readCond_2 rfl 2 rfl ?_
  refine zr_iload_n dX7_readCond_3 rfl 3 rfl ?_
  refine zm_callV_b (c := 7) (b := b0) dX7_readCond_4 w_X7_readAll l_X7_48 rfl (oX7 _ h0) (by decide) s_X7_readAll [.ref 220, .ref b2, .int x3] rfl rfl (Nat.le_of_ble_eq_true rfl) (Nat.le_of_ble_eq_true rfl) ?_
  refine zV.post T ?_
  rintro v M22 ⟨r21, rfl, T⟩
  refine ⟨r21, rfl, ?_⟩
  refine zm_ifb_ne (tgt := 12) dX7_readCond_7 (by decide) (fun h23 => ?_) (fun h23 => ?_)
  · have T := T.1 h23
    refine zr_iconst (v := 0) dX7_readCond_12 (by decide) ?_
    refine zr_istore dX7_readCond_13 (by decide) (L2 := [(4, .int 0), (0, .ref b0), (1, .ref 220), (2, .ref b2), (3, .int x3)]) rfl ?_
    exact zV.pick [1, 2, 3, 4, 0] rfl T
  · have T := T.2 h23
    refine zr_iconst (v := 0) dX7_readCond_10 (by decide) ?_
    exact zm_zret dX7_readCond_11 rfl (by decide) T
set_option maxRecDepth 100000 in
set_option maxHeartbeats 4000000 in
theorem t_X7_readCond_15 {d : Nat} {b0 : Nat} {b2 : Nat} {x3 : Int32} {x4 : Int32} {M : zMem} {K : zK} (h0 : b0 ∈ iX7) (h2 : b2 ∈ iX5)
    (T : (940 ≤ x4 → K (some (.int 1)) M) ∧ (¬ (940 ≤ x4) → (¬ (M.1 220 6) = 14 → K (some (.int 1)) M) ∧ ((M.1 220 6) = 14 → S_X6_next d  M (zU (fun M24 => S_X7_readAll d b0 b2 x3 M24 (zB (fun r25 M26 => (r25 = true → S_X7_add d b0 14 0 0 M26 (zU (fun M29 => S_X7_readCond_15 (d + 1) b0 b2 x3 (x4 + 1) M29 K))) ∧ (r25 = false → K (some (.int 0)) M26)))))))) : S_X7_readCond_15 (d + 1) b0 b2 x3 x4 M K := by
  show zV m_X7_readCond (d + 1) 15 [(0, .ref b0), (1, .ref 220), (2, .ref b2), (3, .int x3), (4, .int x4)] [] M K
  refine zr_iload dX7_readCond_15 4 rfl ?_
  refine zr_sipush (v := 940) dX7_readCond_17 (by decide) ?_
  refine zr_icmp_ge (tgt := 62) dX7_readCond_20 (by decide) (fun h21 => ?_) (fun h21 => ?_)
  · have T := T.1 h21
    refine zr_iconst (v := 1) dX7_readCond_62 (by decide) ?_
    exact zm_zret dX7_readCond_63 rfl (by decide) T
  · have T := T.2 h21
    refine zr_aload_n dX7_readCond_23 rfl 1 rfl ?_
    refine zm_geti dX7_readCond_24 f_X7_51 (by decide) (by decide) (by decide) ?_
    refine zr_bipush (v := 14) dX7_readCond_27 (by decide) ?_
    refine zr_icmp_ne (tgt := 62) dX7_readCond_29 (by decide) (fun h22 => ?_) (fun h22 => ?_)
    · have T := T.1 h22
      refine zr_iconst (v := 1) dX7_readCond_62 (by decide) ?_
      exact zm_zret dX7_readCond_63 rfl (by decide) T
    · have T := T.2 h22
      refine zr_aload_n dX7_readCond_32 rfl 1 rfl ?_
      refine zm_callV_v (c := 6) (b := 220) dX7_readCond_33 w_X6_next l_X7_54 rfl (by decide) (by decide) s_X6_next [] rfl rfl (Nat.le_of_ble_eq_true rfl) (Nat.le_of_ble_eq_true rfl) ?_
      refine zV.post T ?_
      rintro v M24 ⟨rfl, T⟩
      refine ⟨rfl, ?_⟩
      refine zr_aload_n dX7_readCond_36 rfl 0 rfl ?_
      refine zr_aload_n dX7_readCond_37 rfl 1 rfl ?_
      refine zr_aload_n dX7_readCond_38 rfl 2 rfl ?_
      refine zr_iload_n dX7_readCond_39 rfl 3 rfl ?_
      refine zm_callV_b (c := 7) (b := b0) dX7_readCond_40 w_X7_readAll l_X7_48 rfl (oX7 _ h0) (by decide) s_X7_readAll [.ref 220, .ref b2, .int x3] rfl rfl (Nat.le_of_ble_eq_true rfl) (Nat.le_of_ble_eq_true rfl) ?_
      refine zV.post T ?_
      rintro v M26 ⟨r25, rfl, T⟩
      refine ⟨r25, rfl, ?_⟩
      refine zm_ifb_ne (tgt := 48) dX7_readCond_43 (by decide) (fun h27 => ?_) (fun h27 => ?_)
      · have T := T.1 h27
        refine zr_aload_n dX7_readCond_48 rfl 0 rfl ?_
        refine zr_bipush (v := 14) dX7_readCond_49 (by decide) ?_
        refine zr_iconst (v := 0) dX7_readCond_51 (by decide) ?_
        refine zr_iconst (v := 0) dX7_readCond_52 (by decide) ?_
        refine zm_callV_v (c := 7) (b := b0) dX7_readCond_53 w_X7_add l_X7_57 rfl (oX7 _ h0) (by decide) s_X7_add [.int 14, .int 0, .int 0] rfl rfl (Nat.le_of_ble_eq_true rfl) (Nat.le_of_ble_eq_true rfl) ?_
        refine zV.post T ?_
        rintro v M29 ⟨rfl, T⟩
        refine ⟨rfl, ?_⟩
        refine zr_iinc (n := 4) (v := x4 + 1) dX7_readCond_56 rfl rfl (by decide) (L2 := [(4, .int (x4 + 1)), (0, .ref b0), (1, .ref 220), (2, .ref b2), (3, .int x3)]) rfl ?_
        refine zr_goto (tgt := 15) dX7_readCond_59 (by decide) ?_
        exact zV.pick [1, 2, 3, 4, 0] rfl T
      · have T := T.2 h27
        refine zr_iconst (v := 0) dX7_readCond_46 (by decide) ?_
        exact zm_zret dX7_readCond_47 rfl (by decide) T
set_option maxRecDepth 100000 in
set_option maxHeartbeats 4000000 in
theorem t_X7_readAll {d : Nat} {b0 : Nat} {b2 : Nat} {x3 : Int32} {M : zMem} {K : zK} (h0 : b0 ∈ iX7) (h2 : b2 ∈ iX5)
    (T : S_X7_readOne d b0 b2 x3 M (zB (fun r21 M22 => (r21 = true → S_X7_readAll_15 (d + 1) b0 b2 x3 0 M22 K) ∧ (r21 = false → K (some (.int 0)) M22)))) : S_X7_readAll (d + 1) b0 b2 x3 M K := by
  show zV m_X7_readAll (d + 1) 0 [(0, .ref b0), (1, .ref 220), (2, .ref b2), (3, .int x3)] [] M K
  refine zr_aload_n dX7_readAll_0 rfl 0 rfl ?_
  refine zr_aload_n dX7_readAll_1 rfl 1 rfl ?_
  refine zr_aload_n dX7_readAll_2 rfl 2 rfl ?_
  refine zr_iload_n dX7_readAll_3 rfl 3 rfl ?_
  refine zm_callV_b (c := 7) (b := b0) dX7_readAll_4 w_X7_readOne l_X7_61 rfl (oX7 _ h0) (by decide) s_X7_readOne [.ref 220, .ref b2, .int x3] rfl rfl (Nat.le_of_ble_eq_true rfl) (Nat.le_of_ble_eq_true rfl) ?_
  refine zV.post T ?_
  rintro v M22 ⟨r21, rfl, T⟩
  refine ⟨r21, rfl, ?_⟩
  refine zm_ifb_ne (tgt := 12) dX7_readAll_7 (by decide) (fun h23 => ?_) (fun h23 => ?_)
  · have T := T.1 h23
    refine zr_iconst (v := 0) dX7_readAll_12 (by decide) ?_
    refine zr_istore dX7_readAll_13 (by decide) (L2 := [(4, .int 0), (0, .ref b0), (1, .ref 220), (2, .ref b2), (3, .int x3)]) rfl ?_
    exact zV.pick [1, 2, 3, 4, 0] rfl T
  · have T := T.2 h23
    refine zr_iconst (v := 0) dX7_readAll_10 (by decide) ?_
    exact zm_zret dX7_readAll_11 rfl (by decide) T
set_option maxRecDepth 100000 in
set_option maxHeartbeats 4000000 in
theorem t_X7_readAll_15 {d : Nat} {b0 : Nat} {b2 : Nat} {x3 : Int32} {x4 : Int32} {M : zMem} {K : zK} (h0 : b0 ∈ iX7) (h2 : b2 ∈ iX5)
    (T : (940 ≤ x4 → K (some (.int 1)) M) ∧ (¬ (940 ≤ x4) → (¬ (M.1 220 6) = 15 → K (some (.int 1)) M) ∧ ((M.1 220 6) = 15 → S_X6_next d  M (zU (fun M24 => S_X7_readOne d b0 b2 x3 M24 (zB (fun r25 M26 => (r25 = true → S_X7_add d b0 15 0 0 M26 (zU (fun M29 => S_X7_readAll_15 (d + 1) b0 b2 x3 (x4 + 1) M29 K))) ∧ (r25 = false → K (some (.int 0)) M26)))))))) : S_X7_readAll_15 (d + 1) b0 b2 x3 x4 M K := by
  show zV m_X7_readAll (d + 1) 15 [(0, .ref b0), (1, .ref 220), (2, .ref b2), (3, .int x3), (4, .int x4)] [] M K
  refine zr_iload dX7_readAll_15 4 rfl ?_
  refine zr_sipush (v := 940) dX7_readAll_17 (by decide) ?_
  refine zr_icmp_ge (tgt := 62) dX7_readAll_20 (by decide) (fun h21 => ?_) (fun h21 => ?_)
  · have T := T.1 h21
    refine zr_iconst (v := 1) dX7_readAll_62 (by decide) ?_
    exact zm_zret dX7_readAll_63 rfl (by decide) T
  · have T := T.2 h21
    refine zr_aload_n dX7_readAll_23 rfl 1 rfl ?_
    refine zm_geti dX7_readAll_24 f_X7_51 (by decide) (by decide) (by decide) ?_
    refine zr_bipush (v := 15) dX7_readAll_27 (by decide) ?_
    refine zr_icmp_ne (tgt := 62) dX7_readAll_29 (by decide) (fun h22 => ?_) (fun h22 => ?_)
    · have T := T.1 h22
      refine zr_iconst (v := 1) dX7_readAll_62 (by decide) ?_
      exact zm_zret dX7_readAll_63 rfl (by decide) T
    · have T := T.2 h22
      refine zr_aload_n dX7_readAll_32 rfl 1 rfl ?_
      refine zm_callV_v (c := 6) (b := 220) dX7_readAll_33 w_X6_next l_X7_54 rfl (by decide) (by decide) s_X6_next [] rfl rfl (Nat.le_of_ble_eq_true rfl) (Nat.le_of_ble_eq_true rfl) ?_
      refine zV.post T ?_
      rintro v M24 ⟨rfl, T⟩
      refine ⟨rfl, ?_⟩
      refine zr_aload_n dX7_readAll_36 rfl 0 rfl ?_
      refine zr_aload_n dX7_readAll_37 rfl 1 rfl ?_
      refine zr_aload_n dX7_readAll_38 rfl 2 rfl ?_
      refine zr_iload_n dX7_readAll_39 rfl 3 rfl ?_
      refine zm_callV_b (c := 7) (b := b0) dX7_readAll_40 w_X7_readOne l_X7_61 rfl (oX7 _ h0) (by decide) s_X7_readOne [.ref 220, .ref b2, .int x3] rfl rfl (Nat.le_of_ble_eq_true rfl) (Nat.le_of_ble_eq_true rfl) ?_
      refine zV.post T ?_
      rintro v M26 ⟨r25, rfl, T⟩
      refine ⟨r25, rfl, ?_⟩
      refine zm_ifb_ne (tgt := 48) dX7_readAll_43 (by decide) (fun h27 => ?_) (fun h27 => ?_)
      · have T := T.1 h27
        refine zr_aload_n dX7_readAll_48 rfl 0 rfl ?_
        refine zr_bipush (v := 15) dX7_readAll_49 (by decide) ?_
        refine zr_iconst (v := 0) dX7_readAll_51 (by decide) ?_
        refine zr_iconst (v := 0) dX7_readAll_52 (by decide) ?_
        refine zm_callV_v (c := 7) (b := b0) dX7_readAll_53 w_X7_add l_X7_57 rfl (oX7 _ h0) (by decide) s_X7_add [.int 15, .int 0, .int 0] rfl rfl (Nat.le_of_ble_eq_true rfl) (Nat.le_of_ble_eq_true rfl) ?_
        refine zV.post T ?_
        rintro v M29 ⟨rfl, T⟩
        refine ⟨rfl, ?_⟩
        refine zr_iinc (n := 4) (v := x4 + 1) dX7_readAll_56 rfl rfl (by decide) (L2 := [(4, .int (x4 + 1)), (0, .ref b0), (1, .ref 220), (2, .ref b2), (3, .int x3)]) rfl ?_
        refine zr_goto (tgt := 15) dX7_readAll_59 (by decide) ?_
        exact zV.pick [1, 2, 3, 4, 0] rfl T
      · have T := T.2 h27
        refine zr_iconst (v := 0) dX7_readAll_46 (by decide) ?_
        exact zm_zret dX7_readAll_47 rfl (by decide) T
set_option maxRecDepth 100000 in
set_option maxHeartbeats 4000000 in
theorem t_X7_readOne {d : Nat} {b0 : Nat} {b2 : Nat} {x3 : Int32} {M : zMem} {K : zK} (h0 : b0 ∈ iX7) (h2 : b2 ∈ iX5)
    (T : (¬ (M.1 220 9) = 40 → ((M.1 220 6) < 16 → S_X6_fail d 1 M (zB (fun r24 M25 => K (some (.int (bi r24))) M25))) ∧ (¬ ((M.1 220 6) < 16) → ((M.1 220 6) ≤ 23 → S_X7_readOne_47 (d + 1) b0 b2 x3 (M.1 220 6) 0 M K) ∧ (¬ ((M.1 220 6) ≤ 23) → S_X6_fail d 1 M (zB (fun r27 M28 => K (some (.int (bi r27))) M28))))) ∧ ((M.1 220 9) = 40 → S_X7_readOne_47 (d + 1) b0 b2 x3 (M.1 220 6) 1 M K)) : S_X7_readOne (d + 1) b0 b2 x3 M K := by
  show zV m_X7_readOne (d + 1) 0 [(0, .ref b0), (1, .ref 220), (2, .ref b2), (3, .int x3)] [] M K
  refine zr_aload_n dX7_readOne_0 rfl 1 rfl ?_
  refine zm_geti dX7_readOne_1 f_X7_51 (by decide) (by decide) (by decide) ?_
  refine zr_istore dX7_readOne_4 (by decide) (L2 := [(4, .int (M.1 220 6)), (0, .ref b0), (1, .ref 220), (2, .ref b2), (3, .int x3)]) rfl ?_
  refine zr_aload_n dX7_readOne_6 rfl 2 rfl ?_
  refine zm_geti dX7_readOne_7 f_X7_64 (by decide) (by decide) (by decide) ?_
  refine zr_bipush (v := 40) dX7_readOne_10 (by decide) ?_
  refine zr_icmp_ne (tgt := 19) dX7_readOne_12 (by decide) (fun h21 => ?_) (fun h21 => ?_)
  · have T := T.1 h21
    refine zr_iconst (v := 0) dX7_readOne_19 (by decide) ?_
    refine zr_istore dX7_readOne_20 (by decide) (L2 := [(5, .int 0), (4, .int (M.1 220 6)), (0, .ref b0), (1, .ref 220), (2, .ref b2), (3, .int x3)]) rfl ?_
    refine zr_iload dX7_readOne_22 0 rfl ?_
    refine zr_if_ne (tgt := 47) dX7_readOne_24 (by decide) (fun h => absurd h (by decide)) (fun _ => ?_)
    refine zr_iload dX7_readOne_27 1 rfl ?_
    refine zr_bipush (v := 16) dX7_readOne_29 (by decide) ?_
    refine zr_icmp_lt (tgt := 41) dX7_readOne_31 (by decide) (fun h23 => ?_) (fun h23 => ?_)
    · have T := T.1 h23
      refine zr_aload_n dX7_readOne_41 rfl 3 rfl ?_
      refine zr_iconst (v := 1) dX7_readOne_42 (by decide) ?_
      refine zm_callV_b (c := 6) (b := 220) dX7_readOne_43 w_X6_fail l_X7_44 rfl (by decide) (by decide) s_X6_fail [.int 1] rfl rfl (Nat.le_of_ble_eq_true rfl) (Nat.le_of_ble_eq_true rfl) ?_
      refine zV.post T ?_
      rintro v M25 ⟨r24, rfl, T⟩
      refine ⟨r24, rfl, ?_⟩
      exact zm_zret dX7_readOne_46 rfl (bi_01 _) T
    · have T := T.2 h23
      refine zr_iload dX7_readOne_34 1 rfl ?_
      refine zr_bipush (v := 23) dX7_readOne_36 (by decide) ?_
      refine zr_icmp_le (tgt := 47) dX7_readOne_38 (by decide) (fun h26 => ?_) (fun h26 => ?_)
      · have T := T.1 h26
        exact zV.pick [2, 3, 4, 5, 1, 0] rfl T
      · have T := T.2 h26
        refine zr_aload_n dX7_readOne_41 rfl 3 rfl ?_
        refine zr_iconst (v := 1) dX7_readOne_42 (by decide) ?_
        refine zm_callV_b (c := 6) (b := 220) dX7_readOne_43 w_X6_fail l_X7_44 rfl (by decide) (by decide) s_X6_fail [.int 1] rfl rfl (Nat.le_of_ble_eq_true rfl) (Nat.le_of_ble_eq_true rfl) ?_
        refine zV.post T ?_
        rintro v M28 ⟨r27, rfl, T⟩
        refine ⟨r27, rfl, ?_⟩
        exact zm_zret dX7_readOne_46 rfl (bi_01 _) T
  · have T := T.2 h21
    refine zr_iconst (v := 1) dX7_readOne_15 (by decide) ?_
    refine zr_goto (tgt := 20) dX7_readOne_16 (by decide) ?_
    refine zr_istore dX7_readOne_20 (by decide) (L2 := [(5, .int 1), (4, .int (M.1 220 6)), (0, .ref b0), (1, .ref 220), (2, .ref b2), (3, .int x3)]) rfl ?_
    refine zr_iload dX7_readOne_22 0 rfl ?_
    refine zr_if_ne (tgt := 47) dX7_readOne_24 (by decide) (fun _ => ?_) (fun h => absurd h (by decide))
    exact zV.pick [2, 3, 4, 5, 1, 0] rfl T
set_option maxRecDepth 100000 in
set_option maxHeartbeats 4000000 in
theorem t_X7_readOne_47 {d : Nat} {b0 : Nat} {b2 : Nat} {x3 : Int32} {x4 : Int32} {x5 : Int32} {M : zMem} {K : zK} (h0 : b0 ∈ iX7) (h2 : b2 ∈ iX5)
    (T : (20 ≤ (M.1 b0 2) → S_X6_fail d 4 M (zB (fun r22 M23 => K (some (.int (bi r22))) M23))) ∧ (¬ (20 ≤ (M.1 b0 2)) → (x3 ≤ 8 → (∀ M25 : zMem, M25 = wI M b0 2 ((M.1 b0 2) + 1) → S_X6_next d  M25 (zU (fun M28 => (x5 = 0 → (¬ x4 = 16 → S_X7_readPlainOne d b0 b2 x4 M28 (zB (fun r31 M32 => K (some (.int (bi r31))) M32))) ∧ (x4 = 16 → S_X7_readDenied d b0 b2 (x3 + 1) M28 (zB (fun r33 M34 => K (some (.int (bi r33))) M34)))) ∧ (¬ (x5 = 0) → S_X7_readCond d b0 b2 (x3 + 1) M28 (zB (fun r35 M36 => (r35 = false → K (some (.int 0)) M36) ∧ (r35 = true → S_X6_passSign d 41 M36 (zB (fun r38 M39 => (r38 = false → K (some (.int 0)) M39) ∧ (r38 = true → K (some (.int 1)) M39))))))))))) ∧ (¬ (x3 ≤ 8) → S_X6_fail d 4 M (zB (fun r41 M42 => K (some (.int (bi r41))) M42))))) : S_X7_readOne_47 (d + 1) b0 b2 x3 x4 x5 M K := by
  show zV m_X7_readOne (d + 1) 47 [(0, .ref b0), (1, .ref 220), (2, .ref b2), (3, .int x3), (4, .int x4), (5, .int x5)] [] M K
  refine zr_aload_n dX7_readOne_47 rfl 0 rfl ?_
  refine zm_geti dX7_readOne_48 f_X7_19 (oX7 _ h0) (by decide) (by decide) ?_
  refine zr_bipush (v := 20) dX7_readOne_51 (by decide) ?_
  refine zr_icmp_ge (tgt := 62) dX7_readOne_53 (by decide) (fun h21 => ?_) (fun h21 => ?_)
  · have T := T.1 h21
    refine zr_aload_n dX7_readOne_62 rfl 1 rfl ?_
    refine zr_iconst (v := 4) dX7_readOne_63 (by decide) ?_
    refine zm_callV_b (c := 6) (b := 220) dX7_readOne_64 w_X6_fail l_X7_44 rfl (by decide) (by decide) s_X6_fail [.int 4] rfl rfl (Nat.le_of_ble_eq_true rfl) (Nat.le_of_ble_eq_true rfl) ?_
    refine zV.post T ?_
    rintro v M23 ⟨r22, rfl, T⟩
    refine ⟨r22, rfl, ?_⟩
    exact zm_zret dX7_readOne_67 rfl (bi_01 _) T
  · have T := T.2 h21
    refine zr_iload_n dX7_readOne_56 rfl 3 rfl ?_
    refine zr_bipush (v := 8) dX7_readOne_57 (by decide) ?_
    refine zr_icmp_le (tgt := 68) dX7_readOne_59 (by decide) (fun h24 => ?_) (fun h24 => ?_)
    · have T := T.1 h24
      refine zr_aload_n dX7_readOne_68 rfl 0 rfl ?_
      refine zr_dup dX7_readOne_69 rfl ?_
      refine zm_geti dX7_readOne_70 f_X7_19 (oX7 _ h0) (by decide) (by decide) ?_
      refine zr_iconst (v := 1) dX7_readOne_73 (by decide) ?_
      refine zr_iadd dX7_readOne_74 ?_
      refine zn_puti dX7_readOne_75 f_X7_19 (oX7 _ h0) (by decide) (by decide) (fun M25 e26 => ?_)
      have T := T M25 e26
      refine zr_aload_n dX7_readOne_78 rfl 1 rfl ?_
      refine zm_callV_v (c := 6) (b := 220) dX7_readOne_79 w_X6_next l_X7_54 rfl (by decide) (by decide) s_X6_next [] rfl rfl (Nat.le_of_ble_eq_true rfl) (Nat.le_of_ble_eq_true rfl) ?_
      refine zV.post T ?_
      rintro v M28 ⟨rfl, T⟩
      refine ⟨rfl, ?_⟩
      refine zr_iload dX7_readOne_82 5 rfl ?_
      refine zr_if_eq (tgt := 114) dX7_readOne_84 (by decide) (fun h29 => ?_) (fun h29 => ?_)
      · have T := T.1 h29
        refine zr_iload dX7_readOne_114 4 rfl ?_
        refine zr_bipush (v := 16) dX7_readOne_116 (by decide) ?_
        refine zr_icmp_ne (tgt := 133) dX7_readOne_118 (by decide) (fun h30 => ?_) (fun h30 => ?_)
        · have T := T.1 h30
          refine zr_aload_n dX7_readOne_133 rfl 0 rfl ?_
          refine zr_aload_n dX7_readOne_134 rfl 1 rfl ?_
          refine zr_aload_n dX7_readOne_135 rfl 2 rfl ?_
          refine zr_iload dX7_readOne_136 4 rfl ?_
          refine zm_callV_b (c := 7) (b := b0) dX7_readOne_138 w_X7_readPlainOne l_X7_73 rfl (oX7 _ h0) (by decide) s_X7_readPlainOne [.ref 220, .ref b2, .int x4] rfl rfl (Nat.le_of_ble_eq_true rfl) (Nat.le_of_ble_eq_true rfl) ?_
          refine zV.post T ?_
          rintro v M32 ⟨r31, rfl, T⟩
          refine ⟨r31, rfl, ?_⟩
          exact zm_zret dX7_readOne_141 rfl (bi_01 _) T
        · have T := T.2 h30
          refine zr_aload_n dX7_readOne_121 rfl 0 rfl ?_
          refine zr_aload_n dX7_readOne_122 rfl 1 rfl ?_
          refine zr_aload_n dX7_readOne_123 rfl 2 rfl ?_
          refine zr_iload_n dX7_readOne_124 rfl 3 rfl ?_
          refine zr_iconst (v := 1) dX7_readOne_125 (by decide) ?_
          refine zr_iadd dX7_readOne_126 ?_
          refine zm_callV_b (c := 7) (b := b0) dX7_readOne_127 w_X7_readDenied l_X7_70 rfl (oX7 _ h0) (by decide) s_X7_readDenied [.ref 220, .ref b2, .int (x3 + 1)] rfl rfl (Nat.le_of_ble_eq_true rfl) (Nat.le_of_ble_eq_true rfl) ?_
          refine zV.post T ?_
          rintro v M34 ⟨r33, rfl, T⟩
          refine ⟨r33, rfl, ?_⟩
          refine zr_goto (tgt := 141) dX7_readOne_130 (by decide) ?_
          exact zm_zret dX7_readOne_141 rfl (bi_01 _) T
      · have T := T.2 h29
        refine zr_aload_n dX7_readOne_87 rfl 0 rfl ?_
        refine zr_aload_n dX7_readOne_88 rfl 1 rfl ?_
        refine zr_aload_n dX7_readOne_89 rfl 2 rfl ?_
        refine zr_iload_n dX7_readOne_90 rfl 3 rfl ?_
        refine zr_iconst (v := 1) dX7_readOne_91 (by decide) ?_
        refine zr_iadd dX7_readOne_92 ?_
        refine zm_callV_b (c := 7) (b := b0) dX7_readOne_93 w_X7_readCond l_X7_31 rfl (oX7 _ h0) (by decide) s_X7_readCond [.ref 220, .ref b2, .int (x3 + 1)] rfl rfl (Nat.le_of_ble_eq_true rfl) (Nat.le_of_ble_eq_true rfl) ?_
        refine zV.post T ?_
        rintro v M36 ⟨r35, rfl, T⟩
        refine ⟨r35, rfl, ?_⟩
        refine zm_ifb_eq (tgt := 112) dX7_readOne_96 (by decide) (fun h37 => ?_) (fun h37 => ?_)
        · have T := T.1 h37
          refine zr_iconst (v := 0) dX7_readOne_112 (by decide) ?_
          exact zm_zret dX7_readOne_113 rfl (by decide) T
        · have T := T.2 h37
          refine zr_aload_n dX7_readOne_99 rfl 1 rfl ?_
          refine zr_bipush (v := 41) dX7_readOne_100 (by decide) ?_
          refine zm_callV_b (c := 6) (b := 220) dX7_readOne_102 w_X6_passSign l_X7_67 rfl (by decide) (by decide) s_X6_passSign [.int 41] rfl rfl (Nat.le_of_ble_eq_true rfl) (Nat.le_of_ble_eq_true rfl) ?_
          refine zV.post T ?_
          rintro v M39 ⟨r38, rfl, T⟩
          refine ⟨r38, rfl, ?_⟩
          refine zm_ifb_eq (tgt := 112) dX7_readOne_105 (by decide) (fun h40 => ?_) (fun h40 => ?_)
          · have T := T.1 h40
            refine zr_iconst (v := 0) dX7_readOne_112 (by decide) ?_
            exact zm_zret dX7_readOne_113 rfl (by decide) T
          · have T := T.2 h40
            refine zr_iconst (v := 1) dX7_readOne_108 (by decide) ?_
            refine zr_goto (tgt := 113) dX7_readOne_109 (by decide) ?_
            exact zm_zret dX7_readOne_113 rfl (by decide) T
    · have T := T.2 h24
      refine zr_aload_n dX7_readOne_62 rfl 1 rfl ?_
      refine zr_iconst (v := 4) dX7_readOne_63 (by decide) ?_
      refine zm_callV_b (c := 6) (b := 220) dX7_readOne_64 w_X6_fail l_X7_44 rfl (by decide) (by decide) s_X6_fail [.int 4] rfl rfl (Nat.le_of_ble_eq_true rfl) (Nat.le_of_ble_eq_true rfl) ?_
      refine zV.post T ?_
      rintro v M42 ⟨r41, rfl, T⟩
      refine ⟨r41, rfl, ?_⟩
      exact zm_zret dX7_readOne_67 rfl (bi_01 _) T
set_option maxRecDepth 100000 in
set_option maxHeartbeats 4000000 in
theorem t_X7_readDenied {d : Nat} {b0 : Nat} {b2 : Nat} {x3 : Int32} {M : zMem} {K : zK} (h0 : b0 ∈ iX7) (h2 : b2 ∈ iX5)
    (T : S_X7_readOne d b0 b2 x3 M (zB (fun r21 M22 => (r21 = true → S_X7_add d b0 16 0 0 M22 (zU (fun M25 => K (some (.int 1)) M25))) ∧ (r21 = false → K (some (.int 0)) M22)))) : S_X7_readDenied (d + 1) b0 b2 x3 M K := by
  show zV m_X7_readDenied (d + 1) 0 [(0, .ref b0), (1, .ref 220), (2, .ref b2), (3, .int x3)] [] M K
  refine zr_aload_n dX7_readDenied_0 rfl 0 rfl ?_
  refine zr_aload_n dX7_readDenied_1 rfl 1 rfl ?_
  refine zr_aload_n dX7_readDenied_2 rfl 2 rfl ?_
  refine zr_iload_n dX7_readDenied_3 rfl 3 rfl ?_
  refine zm_callV_b (c := 7) (b := b0) dX7_readDenied_4 w_X7_readOne l_X7_61 rfl (oX7 _ h0) (by decide) s_X7_readOne [.ref 220, .ref b2, .int x3] rfl rfl (Nat.le_of_ble_eq_true rfl) (Nat.le_of_ble_eq_true rfl) ?_
  refine zV.post T ?_
  rintro v M22 ⟨r21, rfl, T⟩
  refine ⟨r21, rfl, ?_⟩
  refine zm_ifb_ne (tgt := 12) dX7_readDenied_7 (by decide) (fun h23 => ?_) (fun h23 => ?_)
  · have T := T.1 h23
    refine zr_aload_n dX7_readDenied_12 rfl 0 rfl ?_
    refine zr_bipush (v := 16) dX7_readDenied_13 (by decide) ?_
    refine zr_iconst (v := 0) dX7_readDenied_15 (by decide) ?_
    refine zr_iconst (v := 0) dX7_readDenied_16 (by decide) ?_
    refine zm_callV_v (c := 7) (b := b0) dX7_readDenied_17 w_X7_add l_X7_57 rfl (oX7 _ h0) (by decide) s_X7_add [.int 16, .int 0, .int 0] rfl rfl (Nat.le_of_ble_eq_true rfl) (Nat.le_of_ble_eq_true rfl) ?_
    refine zV.post T ?_
    rintro v M25 ⟨rfl, T⟩
    refine ⟨rfl, ?_⟩
    refine zr_iconst (v := 1) dX7_readDenied_20 (by decide) ?_
    exact zm_zret dX7_readDenied_21 rfl (by decide) T
  · have T := T.2 h23
    refine zr_iconst (v := 0) dX7_readDenied_10 (by decide) ?_
    exact zm_zret dX7_readDenied_11 rfl (by decide) T
set_option maxRecDepth 100000 in
set_option maxHeartbeats 4000000 in
theorem t_X7_add {d : Nat} {b0 : Nat} {x1 : Int32} {x2 : Int32} {x3 : Int32} {M : zMem} {K : zK} (h0 : b0 ∈ iX7)
    (T : (60 ≤ (M.1 b0 1) → K none M) ∧ (¬ (60 ≤ (M.1 b0 1)) → vp_in (M.1 b0 1) 60 ∧ ((∀ M23 : zMem, M23 = wI M (b0 + 1) (Int32.toNatClampNeg (M.1 b0 1)) ((x1 ||| (x2 <<< (8 &&& 31))) ||| (x3 <<< (16 &&& 31))) → (∀ M25 : zMem, M25 = wI M23 b0 1 ((M23.1 b0 1) + 1) → K none M25))))) : S_X7_add d b0 x1 x2 x3 M K := by
  show zV m_X7_add d 0 [(0, .ref b0), (1, .int x1), (2, .int x2), (3, .int x3)] [] M K
  refine zr_aload_n dX7_add_0 rfl 0 rfl ?_
  refine zm_geti dX7_add_1 f_X7_15 (oX7 _ h0) (by decide) (by decide) ?_
  refine zr_aload_n dX7_add_4 rfl 0 rfl ?_
  refine zm_getr (a := b0 + 1) dX7_add_5 f_X7_9 (oX7 _ h0) (by decide) (by decide) (rX7_0 _ h0) ?_
  refine zm_alen (t := 0) (v := 60) dX7_add_8 (aX _ (qX7_0 _ h0)) (by decide) (by rw [lX _ (qX7_0 _ h0)]; decide) ?_
  refine zr_icmp_ge (tgt := 42) dX7_add_9 (by decide) (fun h21 => ?_) (fun h21 => ?_)
  · have T := T.1 h21
    exact zm_vret dX7_add_42 rfl T
  · have T := T.2 h21
    refine zr_aload_n dX7_add_12 rfl 0 rfl ?_
    refine zm_getr (a := b0 + 1) dX7_add_13 f_X7_9 (oX7 _ h0) (by decide) (by decide) (rX7_0 _ h0) ?_
    refine zr_aload_n dX7_add_16 rfl 0 rfl ?_
    refine zm_geti dX7_add_17 f_X7_15 (oX7 _ h0) (by decide) (by decide) ?_
    refine zr_iload_n dX7_add_20 rfl 1 rfl ?_
    refine zr_iload_n dX7_add_21 rfl 2 rfl ?_
    refine zr_bipush (v := 8) dX7_add_22 (by decide) ?_
    refine zr_ishl dX7_add_24 ?_
    refine zr_ior dX7_add_25 ?_
    refine zr_iload_n dX7_add_26 rfl 3 rfl ?_
    refine zr_bipush (v := 16) dX7_add_27 (by decide) ?_
    refine zr_ishl dX7_add_29 ?_
    refine zr_ior dX7_add_30 ?_
    obtain ⟨hq22, T⟩ := T
    refine zn_iast (n := 60) (o := (Int32.toNatClampNeg (M.1 b0 1))) dX7_add_31 (aX _ (qX7_0 _ h0)) (lX _ (qX7_0 _ h0)) hq22 rfl (fun M23 e24 => ?_)
    have T := T M23 e24
    refine zr_aload_n dX7_add_32 rfl 0 rfl ?_
    refine zr_dup dX7_add_33 rfl ?_
    refine zm_geti dX7_add_34 f_X7_15 (oX7 _ h0) (by decide) (by decide) ?_
    refine zr_iconst (v := 1) dX7_add_37 (by decide) ?_
    refine zr_iadd dX7_add_38 ?_
    refine zn_puti dX7_add_39 f_X7_15 (oX7 _ h0) (by decide) (by decide) (fun M25 e26 => ?_)
    have T := T M25 e26
    exact zm_vret dX7_add_42 rfl T
set_option maxRecDepth 100000 in
set_option maxHeartbeats 4000000 in
theorem t_X7_readPlainOne {d : Nat} {b0 : Nat} {b2 : Nat} {x3 : Int32} {M : zMem} {K : zK} (h0 : b0 ∈ iX7) (h2 : b2 ∈ iX5)
    (T : (¬ x3 = 17 → (x3 = 18 → S_X7_readPlainOne_27 (d + 1) b0 b2 x3 M K) ∧ (¬ (x3 = 18) → (¬ x3 = 19 → ((M.1 220 9) < 60 → S_X6_fail d 1 M (zB (fun r25 M26 => K (some (.int (bi r25))) M26))) ∧ (¬ ((M.1 220 9) < 60) → ((M.1 220 9) ≤ 62 → S_X6_next d  M (zU (fun M29 => S_X6_seeNumber d 0 999 M29 (zI (fun r30 M31 => (¬ r30 = (-1) → S_X6_next d  M31 (zU (fun M34 => S_X7_add d b0 x3 (M.1 220 9) r30 M34 (zU (fun M36 => K (some (.int 1)) M36))))) ∧ (r30 = (-1) → K (some (.int 0)) M31)))))) ∧ (¬ ((M.1 220 9) ≤ 62) → S_X6_fail d 1 M (zB (fun r37 M38 => K (some (.int (bi r37))) M38))))) ∧ (x3 = 19 → S_X7_readPlainOne_27 (d + 1) b0 b2 x3 M K))) ∧ (x3 = 17 → S_X7_add d b0 x3 0 0 M (zU (fun M40 => K (some (.int 1)) M40)))) : S_X7_readPlainOne (d + 1) b0 b2 x3 M K := by
  show zV m_X7_readPlainOne (d + 1) 0 [(0, .ref b0), (1, .ref 220), (2, .ref b2), (3, .int x3)] [] M K
  refine zr_iload_n dX7_readPlainOne_0 rfl 3 rfl ?_
  refine zr_bipush (v := 17) dX7_readPlainOne_1 (by decide) ?_
  refine zr_icmp_ne (tgt := 15) dX7_readPlainOne_3 (by decide) (fun h21 => ?_) (fun h21 => ?_)
  · have T := T.1 h21
    refine zr_iload_n dX7_readPlainOne_15 rfl 3 rfl ?_
    refine zr_bipush (v := 18) dX7_readPlainOne_16 (by decide) ?_
    refine zr_icmp_eq (tgt := 27) dX7_readPlainOne_18 (by decide) (fun h22 => ?_) (fun h22 => ?_)
    · have T := T.1 h22
      exact zV.pick [0, 1, 2, 3] rfl T
    · have T := T.2 h22
      refine zr_iload_n dX7_readPlainOne_21 rfl 3 rfl ?_
      refine zr_bipush (v := 19) dX7_readPlainOne_22 (by decide) ?_
      refine zr_icmp_ne (tgt := 56) dX7_readPlainOne_24 (by decide) (fun h23 => ?_) (fun h23 => ?_)
      · have T := T.1 h23
        refine zr_aload_n dX7_readPlainOne_56 rfl 1 rfl ?_
        refine zm_geti dX7_readPlainOne_57 f_X7_64 (by decide) (by decide) (by decide) ?_
        refine zr_istore dX7_readPlainOne_60 (by decide) (L2 := [(4, .int (M.1 220 9)), (0, .ref b0), (1, .ref 220), (2, .ref b2), (3, .int x3)]) rfl ?_
        refine zr_iload dX7_readPlainOne_62 0 rfl ?_
        refine zr_bipush (v := 60) dX7_readPlainOne_64 (by decide) ?_
        refine zr_icmp_lt (tgt := 76) dX7_readPlainOne_66 (by decide) (fun h24 => ?_) (fun h24 => ?_)
        · have T := T.1 h24
          refine zr_aload_n dX7_readPlainOne_76 rfl 2 rfl ?_
          refine zr_iconst (v := 1) dX7_readPlainOne_77 (by decide) ?_
          refine zm_callV_b (c := 6) (b := 220) dX7_readPlainOne_78 w_X6_fail l_X7_44 rfl (by decide) (by decide) s_X6_fail [.int 1] rfl rfl (Nat.le_of_ble_eq_true rfl) (Nat.le_of_ble_eq_true rfl) ?_
          refine zV.post T ?_
          rintro v M26 ⟨r25, rfl, T⟩
          refine ⟨r25, rfl, ?_⟩
          exact zm_zret dX7_readPlainOne_81 rfl (bi_01 _) T
        · have T := T.2 h24
          refine zr_iload dX7_readPlainOne_69 0 rfl ?_
          refine zr_bipush (v := 62) dX7_readPlainOne_71 (by decide) ?_
          refine zr_icmp_le (tgt := 82) dX7_readPlainOne_73 (by decide) (fun h27 => ?_) (fun h27 => ?_)
          · have T := T.1 h27
            refine zr_aload_n dX7_readPlainOne_82 rfl 2 rfl ?_
            refine zm_callV_v (c := 6) (b := 220) dX7_readPlainOne_83 w_X6_next l_X7_54 rfl (by decide) (by decide) s_X6_next [] rfl rfl (Nat.le_of_ble_eq_true rfl) (Nat.le_of_ble_eq_true rfl) ?_
            refine zV.post T ?_
            rintro v M29 ⟨rfl, T⟩
            refine ⟨rfl, ?_⟩
            refine zr_aload_n dX7_readPlainOne_86 rfl 2 rfl ?_
            refine zr_iconst (v := 0) dX7_readPlainOne_87 (by decide) ?_
            refine zr_sipush (v := 999) dX7_readPlainOne_88 (by decide) ?_
            refine zm_callV_i (c := 6) (b := 220) dX7_readPlainOne_91 w_X6_seeNumber l_X7_80 rfl (by decide) (by decide) s_X6_seeNumber [.int 0, .int 999] rfl rfl (Nat.le_of_ble_eq_true rfl) (Nat.le_of_ble_eq_true rfl) ?_
            refine zV.post T ?_
            rintro v M31 ⟨r30, rfl, T⟩
            refine ⟨r30, rfl, ?_⟩
            refine zr_istore dX7_readPlainOne_94 (by decide) (L2 := [(5, .int r30), (4, .int (M.1 220 9)), (0, .ref b0), (1, .ref 220), (2, .ref b2), (3, .int x3)]) rfl ?_
            refine zr_iload dX7_readPlainOne_96 0 rfl ?_
            refine zr_iconst (v := (-1)) dX7_readPlainOne_98 (by decide) ?_
            refine zr_icmp_ne (tgt := 104) dX7_readPlainOne_99 (by decide) (fun h32 => ?_) (fun h32 => ?_)
            · have T := T.1 h32
              refine zr_aload_n dX7_readPlainOne_104 rfl 3 rfl ?_
              refine zm_callV_v (c := 6) (b := 220) dX7_readPlainOne_105 w_X6_next l_X7_54 rfl (by decide) (by decide) s_X6_next [] rfl rfl (Nat.le_of_ble_eq_true rfl) (Nat.le_of_ble_eq_true rfl) ?_
              refine zV.post T ?_
              rintro v M34 ⟨rfl, T⟩
              refine ⟨rfl, ?_⟩
              refine zr_aload_n dX7_readPlainOne_108 rfl 2 rfl ?_
              refine zr_iload_n dX7_readPlainOne_109 rfl 5 rfl ?_
              refine zr_iload dX7_readPlainOne_110 1 rfl ?_
              refine zr_iload dX7_readPlainOne_112 0 rfl ?_
              refine zm_callV_v (c := 7) (b := b0) dX7_readPlainOne_114 w_X7_add l_X7_57 rfl (oX7 _ h0) (by decide) s_X7_add [.int x3, .int (M.1 220 9), .int r30] rfl rfl (Nat.le_of_ble_eq_true rfl) (Nat.le_of_ble_eq_true rfl) ?_
              refine zV.post T ?_
              rintro v M36 ⟨rfl, T⟩
              refine ⟨rfl, ?_⟩
              refine zr_iconst (v := 1) dX7_readPlainOne_117 (by decide) ?_
              exact zm_zret dX7_readPlainOne_118 rfl (by decide) T
            · have T := T.2 h32
              refine zr_iconst (v := 0) dX7_readPlainOne_102 (by decide) ?_
              exact zm_zret dX7_readPlainOne_103 rfl (by decide) T
          · have T := T.2 h27
            refine zr_aload_n dX7_readPlainOne_76 rfl 2 rfl ?_
            refine zr_iconst (v := 1) dX7_readPlainOne_77 (by decide) ?_
            refine zm_callV_b (c := 6) (b := 220) dX7_readPlainOne_78 w_X6_fail l_X7_44 rfl (by decide) (by decide) s_X6_fail [.int 1] rfl rfl (Nat.le_of_ble_eq_true rfl) (Nat.le_of_ble_eq_true rfl) ?_
            refine zV.post T ?_
            rintro v M38 ⟨r37, rfl, T⟩
            refine ⟨r37, rfl, ?_⟩
            exact zm_zret dX7_readPlainOne_81 rfl (bi_01 _) T
      · have T := T.2 h23
        exact zV.pick [0, 1, 2, 3] rfl T
  · have T := T.2 h21
    refine zr_aload_n dX7_readPlainOne_6 rfl 0 rfl ?_
    refine zr_iload_n dX7_readPlainOne_7 rfl 3 rfl ?_
    refine zr_iconst (v := 0) dX7_readPlainOne_8 (by decide) ?_
    refine zr_iconst (v := 0) dX7_readPlainOne_9 (by decide) ?_
    refine zm_callV_v (c := 7) (b := b0) dX7_readPlainOne_10 w_X7_add l_X7_57 rfl (oX7 _ h0) (by decide) s_X7_add [.int x3, .int 0, .int 0] rfl rfl (Nat.le_of_ble_eq_true rfl) (Nat.le_of_ble_eq_true rfl) ?_
    refine zV.post T ?_
    rintro v M40 ⟨rfl, T⟩
    refine ⟨rfl, ?_⟩
    refine zr_iconst (v := 1) dX7_readPlainOne_13 (by decide) ?_
    exact zm_zret dX7_readPlainOne_14 rfl (by decide) T
set_option maxRecDepth 100000 in
set_option maxHeartbeats 4000000 in
theorem t_X7_readPlainOne_27 {d : Nat} {b0 : Nat} {b2 : Nat} {x3 : Int32} {M : zMem} {K : zK} (h0 : b0 ∈ iX7) (h2 : b2 ∈ iX5)
    (T : S_X6_seePeer d b2 M (zI (fun r21 M22 => (¬ r21 = (-1) → S_X7_add d b0 x3 0 r21 M22 (zU (fun M25 => S_X6_next d  M25 (zU (fun M27 => K (some (.int 1)) M27))))) ∧ (r21 = (-1) → K (some (.int 0)) M22)))) : S_X7_readPlainOne_27 (d + 1) b0 b2 x3 M K := by
  show zV m_X7_readPlainOne (d + 1) 27 [(0, .ref b0), (1, .ref 220), (2, .ref b2), (3, .int x3)] [] M K
  refine zr_aload_n dX7_readPlainOne_27 rfl 1 rfl ?_
  refine zr_aload_n dX7_readPlainOne_28 rfl 2 rfl ?_
  refine zm_callV_i (c := 6) (b := 220) dX7_readPlainOne_29 w_X6_seePeer l_X7_76 rfl (by decide) (by decide) s_X6_seePeer [.ref b2] rfl rfl (Nat.le_of_ble_eq_true rfl) (Nat.le_of_ble_eq_true rfl) ?_
  refine zV.post T ?_
  rintro v M22 ⟨r21, rfl, T⟩
  refine ⟨r21, rfl, ?_⟩
  refine zr_istore dX7_readPlainOne_32 (by decide) (L2 := [(4, .int r21), (0, .ref b0), (1, .ref 220), (2, .ref b2), (3, .int x3)]) rfl ?_
  refine zr_iload dX7_readPlainOne_34 0 rfl ?_
  refine zr_iconst (v := (-1)) dX7_readPlainOne_36 (by decide) ?_
  refine zr_icmp_ne (tgt := 42) dX7_readPlainOne_37 (by decide) (fun h23 => ?_) (fun h23 => ?_)
  · have T := T.1 h23
    refine zr_aload_n dX7_readPlainOne_42 rfl 1 rfl ?_
    refine zr_iload_n dX7_readPlainOne_43 rfl 4 rfl ?_
    refine zr_iconst (v := 0) dX7_readPlainOne_44 (by decide) ?_
    refine zr_iload dX7_readPlainOne_45 0 rfl ?_
    refine zm_callV_v (c := 7) (b := b0) dX7_readPlainOne_47 w_X7_add l_X7_57 rfl (oX7 _ h0) (by decide) s_X7_add [.int x3, .int 0, .int r21] rfl rfl (Nat.le_of_ble_eq_true rfl) (Nat.le_of_ble_eq_true rfl) ?_
    refine zV.post T ?_
    rintro v M25 ⟨rfl, T⟩
    refine ⟨rfl, ?_⟩
    refine zr_aload_n dX7_readPlainOne_50 rfl 2 rfl ?_
    refine zm_callV_v (c := 6) (b := 220) dX7_readPlainOne_51 w_X6_next l_X7_54 rfl (by decide) (by decide) s_X6_next [] rfl rfl (Nat.le_of_ble_eq_true rfl) (Nat.le_of_ble_eq_true rfl) ?_
    refine zV.post T ?_
    rintro v M27 ⟨rfl, T⟩
    refine ⟨rfl, ?_⟩
    refine zr_iconst (v := 1) dX7_readPlainOne_54 (by decide) ?_
    exact zm_zret dX7_readPlainOne_55 rfl (by decide) T
  · have T := T.2 h23
    refine zr_iconst (v := 0) dX7_readPlainOne_40 (by decide) ?_
    exact zm_zret dX7_readPlainOne_41 rfl (by decide) T
set_option maxRecDepth 100000 in
set_option maxHeartbeats 4000000 in
theorem t_X7_holdsOf {d : Nat} {b0 : Nat} {b1 : Nat} {x2 : Int32} {M : zMem} {K : zK} (h0 : b0 ∈ iX7) (h1 : b1 ∈ iX4)
    (T : S_X7_holdsOf_5 (d + 1) b0 b1 x2 0 0 M K) : S_X7_holdsOf (d + 1) b0 b1 x2 M K := by
  show zV m_X7_holdsOf (d + 1) 0 [(0, .ref b0), (1, .ref b1), (2, .int x2)] [] M K
  refine zr_iconst (v := 0) dX7_holdsOf_0 (by decide) ?_
  refine zr_istore_n dX7_holdsOf_1 rfl (by decide) (L2 := [(3, .int 0), (0, .ref b0), (1, .ref b1), (2, .int x2)]) rfl ?_
  refine zr_iconst (v := 0) dX7_holdsOf_2 (by decide) ?_
  refine zr_istore dX7_holdsOf_3 (by decide) (L2 := [(4, .int 0), (3, .int 0), (0, .ref b0), (1, .ref b1), (2, .int x2)]) rfl ?_
  exact zV.pick [2, 3, 4, 1, 0] rfl T
set_option maxRecDepth 100000 in
set_option maxHeartbeats 4000000 in
theorem t_X7_holdsOf_5 {d : Nat} {b0 : Nat} {b1 : Nat} {x2 : Int32} {x3 : Int32} {x4 : Int32} {M : zMem} {K : zK} (h0 : b0 ∈ iX7) (h1 : b1 ∈ iX4)
    (T : ((M.1 b0 1) ≤ x4 → ((x3 &&& 1) = 0 → K (some (.int 0)) M) ∧ (¬ ((x3 &&& 1) = 0) → K (some (.int 1)) M)) ∧ (¬ ((M.1 b0 1) ≤ x4) → vp_in x4 60 ∧ ((¬ ((M.1 (b0 + 1) (Int32.toNatClampNeg x4)) &&& 255) = 16 → (¬ ((M.1 (b0 + 1) (Int32.toNatClampNeg x4)) &&& 255) = 14 → (¬ ((M.1 (b0 + 1) (Int32.toNatClampNeg x4)) &&& 255) = 15 → vp_in x4 60 ∧ (S_X7_oneHolds d b1 x2 (M.1 (b0 + 1) (Int32.toNatClampNeg x4)) M (zB (fun r28 M29 => (r28 = false → S_X7_holdsOf_5 (d + 1) b0 b1 x2 ((x3 <<< (1 &&& 31)) ||| 0) (x4 + 1) M29 K) ∧ (r28 = true → S_X7_holdsOf_5 (d + 1) b0 b1 x2 ((x3 <<< (1 &&& 31)) ||| 1) (x4 + 1) M29 K))))) ∧ (((M.1 (b0 + 1) (Int32.toNatClampNeg x4)) &&& 255) = 15 → (¬ (x3 &&& 1) = 0 → S_X7_holdsOf_5 (d + 1) b0 b1 x2 (((Int32.toUInt32 x3 >>> (Int32.toUInt32 1 &&& Int32.toUInt32 31)).toInt32) &&& (-1)) (x4 + 1) M K) ∧ ((x3 &&& 1) = 0 → S_X7_holdsOf_5 (d + 1) b0 b1 x2 (((Int32.toUInt32 x3 >>> (Int32.toUInt32 1 &&& Int32.toUInt32 31)).toInt32) &&& (-2)) (x4 + 1) M K))) ∧ (((M.1 (b0 + 1) (Int32.toNatClampNeg x4)) &&& 255) = 14 → S_X7_holdsOf_5 (d + 1) b0 b1 x2 (((Int32.toUInt32 x3 >>> (Int32.toUInt32 1 &&& Int32.toUInt32 31)).toInt32) ||| (x3 &&& 1)) (x4 + 1) M K)) ∧ (((M.1 (b0 + 1) (Int32.toNatClampNeg x4)) &&& 255) = 16 → S_X7_holdsOf_5 (d + 1) b0 b1 x2 (x3 ^^^ 1) (x4 + 1) M K)))) : S_X7_holdsOf_5 (d + 1) b0 b1 x2 x3 x4 M K := by
  show zV m_X7_holdsOf (d + 1) 5 [(0, .ref b0), (1, .ref b1), (2, .int x2), (3, .int x3), (4, .int x4)] [] M K
  refine zr_iload dX7_holdsOf_5 4 rfl ?_
  refine zr_aload_n dX7_holdsOf_7 rfl 0 rfl ?_
  refine zm_geti dX7_holdsOf_8 f_X7_15 (oX7 _ h0) (by decide) (by decide) ?_
  refine zr_icmp_ge (tgt := 120) dX7_holdsOf_11 (by decide) (fun h21 => ?_) (fun h21 => ?_)
  · have T := T.1 h21
    refine zr_iload_n dX7_holdsOf_120 rfl 3 rfl ?_
    refine zr_iconst (v := 1) dX7_holdsOf_121 (by decide) ?_
    refine zr_iand dX7_holdsOf_122 ?_
    refine zr_if_eq (tgt := 130) dX7_holdsOf_123 (by decide) (fun h22 => ?_) (fun h22 => ?_)
    · have T := T.1 h22
      refine zr_iconst (v := 0) dX7_holdsOf_130 (by decide) ?_
      exact zm_zret dX7_holdsOf_131 rfl (by decide) T
    · have T := T.2 h22
      refine zr_iconst (v := 1) dX7_holdsOf_126 (by decide) ?_
      refine zr_goto (tgt := 131) dX7_holdsOf_127 (by decide) ?_
      exact zm_zret dX7_holdsOf_131 rfl (by decide) T
  · have T := T.2 h21
    refine zr_aload_n dX7_holdsOf_14 rfl 0 rfl ?_
    refine zm_getr (a := b0 + 1) dX7_holdsOf_15 f_X7_9 (oX7 _ h0) (by decide) (by decide) (rX7_0 _ h0) ?_
    refine zr_iload dX7_holdsOf_18 4 rfl ?_
    obtain ⟨hq23, T⟩ := T
    refine zm_iald (n := 60) (o := (Int32.toNatClampNeg x4)) dX7_holdsOf_20 (aX _ (qX7_0 _ h0)) (lX _ (qX7_0 _ h0)) hq23 rfl ?_
    refine zr_sipush (v := 255) dX7_holdsOf_21 (by decide) ?_
    refine zr_iand dX7_holdsOf_24 ?_
    refine zr_istore dX7_holdsOf_25 (by decide) (L2 := [(5, .int ((M.1 (b0 + 1) (Int32.toNatClampNeg x4)) &&& 255)), (0, .ref b0), (1, .ref b1), (2, .int x2), (3, .int x3), (4, .int x4)]) rfl ?_
    refine zr_iload_n dX7_holdsOf_27 rfl 4 rfl ?_
    refine zr_iconst (v := 1) dX7_holdsOf_28 (by decide) ?_
    refine zr_iand dX7_holdsOf_29 ?_
    refine zr_istore dX7_holdsOf_30 (by decide) (L2 := [(6, .int (x3 &&& 1)), (5, .int ((M.1 (b0 + 1) (Int32.toNatClampNeg x4)) &&& 255)), (0, .ref b0), (1, .ref b1), (2, .int x2), (3, .int x3), (4, .int x4)]) rfl ?_
    refine zr_iload dX7_holdsOf_32 1 rfl ?_
    refine zr_bipush (v := 16) dX7_holdsOf_34 (by decide) ?_
    refine zr_icmp_ne (tgt := 46) dX7_holdsOf_36 (by decide) (fun h24 => ?_) (fun h24 => ?_)
    · have T := T.1 h24
      refine zr_iload dX7_holdsOf_46 1 rfl ?_
      refine zr_bipush (v := 14) dX7_holdsOf_48 (by decide) ?_
      refine zr_icmp_ne (tgt := 63) dX7_holdsOf_50 (by decide) (fun h25 => ?_) (fun h25 => ?_)
      · have T := T.1 h25
        refine zr_iload dX7_holdsOf_63 1 rfl ?_
        refine zr_bipush (v := 15) dX7_holdsOf_65 (by decide) ?_
        refine zr_icmp_ne (tgt := 89) dX7_holdsOf_67 (by decide) (fun h26 => ?_) (fun h26 => ?_)
        · have T := T.1 h26
          refine zr_iload_n dX7_holdsOf_89 rfl 5 rfl ?_
          refine zr_iconst (v := 1) dX7_holdsOf_90 (by decide) ?_
          refine zr_ishl dX7_holdsOf_91 ?_
          refine zr_aload_n dX7_holdsOf_92 rfl 3 rfl ?_
          refine zr_iload_n dX7_holdsOf_93 rfl 4 rfl ?_
          refine zr_aload_n dX7_holdsOf_94 rfl 2 rfl ?_
          refine zm_getr (a := b0 + 1) dX7_holdsOf_95 f_X7_9 (oX7 _ h0) (by decide) (by decide) (rX7_0 _ h0) ?_
          refine zr_iload dX7_holdsOf_98 6 rfl ?_
          obtain ⟨hq27, T⟩ := T
          refine zm_iald (n := 60) (o := (Int32.toNatClampNeg x4)) dX7_holdsOf_100 (aX _ (qX7_0 _ h0)) (lX _ (qX7_0 _ h0)) hq27 rfl ?_
          refine zm_callS_b dX7_holdsOf_101 w_X7_oneHolds l_X7_84 s_X7_oneHolds [.ref b1, .int x2, .int (M.1 (b0 + 1) (Int32.toNatClampNeg x4))] rfl rfl (Nat.le_of_ble_eq_true rfl) (Nat.le_of_ble_eq_true rfl) ?_
          refine zV.post T ?_
          rintro v M29 ⟨r28, rfl, T⟩
          refine ⟨r28, rfl, ?_⟩
          refine zm_ifb_eq (tgt := 111) dX7_holdsOf_104 (by decide) (fun h30 => ?_) (fun h30 => ?_)
          · have T := T.1 h30
            refine zr_iconst (v := 0) dX7_holdsOf_111 (by decide) ?_
            refine zr_ior dX7_holdsOf_112 ?_
            refine zr_istore_n dX7_holdsOf_113 rfl (by decide) (L2 := [(3, .int ((x3 <<< (1 &&& 31)) ||| 0)), (6, .int (x3 &&& 1)), (5, .int ((M.1 (b0 + 1) (Int32.toNatClampNeg x4)) &&& 255)), (0, .ref b0), (1, .ref b1), (2, .int x2), (4, .int x4)]) rfl ?_
            refine zr_iinc (n := 6) (v := x4 + 1) dX7_holdsOf_114 rfl rfl (by decide) (L2 := [(4, .int (x4 + 1)), (3, .int ((x3 <<< (1 &&& 31)) ||| 0)), (6, .int (x3 &&& 1)), (5, .int ((M.1 (b0 + 1) (Int32.toNatClampNeg x4)) &&& 255)), (0, .ref b0), (1, .ref b1), (2, .int x2)]) rfl ?_
            refine zr_goto (tgt := 5) dX7_holdsOf_117 (by decide) ?_
            exact zV.pick [4, 5, 6, 1, 0] rfl T
          · have T := T.2 h30
            refine zr_iconst (v := 1) dX7_holdsOf_107 (by decide) ?_
            refine zr_goto (tgt := 112) dX7_holdsOf_108 (by decide) ?_
            refine zr_ior dX7_holdsOf_112 ?_
            refine zr_istore_n dX7_holdsOf_113 rfl (by decide) (L2 := [(3, .int ((x3 <<< (1 &&& 31)) ||| 1)), (6, .int (x3 &&& 1)), (5, .int ((M.1 (b0 + 1) (Int32.toNatClampNeg x4)) &&& 255)), (0, .ref b0), (1, .ref b1), (2, .int x2), (4, .int x4)]) rfl ?_
            refine zr_iinc (n := 6) (v := x4 + 1) dX7_holdsOf_114 rfl rfl (by decide) (L2 := [(4, .int (x4 + 1)), (3, .int ((x3 <<< (1 &&& 31)) ||| 1)), (6, .int (x3 &&& 1)), (5, .int ((M.1 (b0 + 1) (Int32.toNatClampNeg x4)) &&& 255)), (0, .ref b0), (1, .ref b1), (2, .int x2)]) rfl ?_
            refine zr_goto (tgt := 5) dX7_holdsOf_117 (by decide) ?_
            exact zV.pick [4, 5, 6, 1, 0] rfl T
        · have T := T.2 h26
          refine zr_iload_n dX7_holdsOf_70 rfl 5 rfl ?_
          refine zr_iconst (v := 1) dX7_holdsOf_71 (by decide) ?_
          refine zr_iushr dX7_holdsOf_72 ?_
          refine zr_iload dX7_holdsOf_73 0 rfl ?_
          refine zr_if_ne (tgt := 83) dX7_holdsOf_75 (by decide) (fun h31 => ?_) (fun h31 => ?_)
          · have T := T.1 h31
            refine zr_iconst (v := (-1)) dX7_holdsOf_83 (by decide) ?_
            refine zr_iand dX7_holdsOf_84 ?_
            refine zr_istore_n dX7_holdsOf_85 rfl (by decide) (L2 := [(3, .int (((Int32.toUInt32 x3 >>> (Int32.toUInt32 1 &&& Int32.toUInt32 31)).toInt32) &&& (-1))), (6, .int (x3 &&& 1)), (5, .int ((M.1 (b0 + 1) (Int32.toNatClampNeg x4)) &&& 255)), (0, .ref b0), (1, .ref b1), (2, .int x2), (4, .int x4)]) rfl ?_
            refine zr_goto (tgt := 114) dX7_holdsOf_86 (by decide) ?_
            refine zr_iinc (n := 6) (v := x4 + 1) dX7_holdsOf_114 rfl rfl (by decide) (L2 := [(4, .int (x4 + 1)), (3, .int (((Int32.toUInt32 x3 >>> (Int32.toUInt32 1 &&& Int32.toUInt32 31)).toInt32) &&& (-1))), (6, .int (x3 &&& 1)), (5, .int ((M.1 (b0 + 1) (Int32.toNatClampNeg x4)) &&& 255)), (0, .ref b0), (1, .ref b1), (2, .int x2)]) rfl ?_
            refine zr_goto (tgt := 5) dX7_holdsOf_117 (by decide) ?_
            exact zV.pick [4, 5, 6, 1, 0] rfl T
          · have T := T.2 h31
            refine zr_bipush (v := (-2)) dX7_holdsOf_78 (by decide) ?_
            refine zr_goto (tgt := 84) dX7_holdsOf_80 (by decide) ?_
            refine zr_iand dX7_holdsOf_84 ?_
            refine zr_istore_n dX7_holdsOf_85 rfl (by decide) (L2 := [(3, .int (((Int32.toUInt32 x3 >>> (Int32.toUInt32 1 &&& Int32.toUInt32 31)).toInt32) &&& (-2))), (6, .int (x3 &&& 1)), (5, .int ((M.1 (b0 + 1) (Int32.toNatClampNeg x4)) &&& 255)), (0, .ref b0), (1, .ref b1), (2, .int x2), (4, .int x4)]) rfl ?_
            refine zr_goto (tgt := 114) dX7_holdsOf_86 (by decide) ?_
            refine zr_iinc (n := 6) (v := x4 + 1) dX7_holdsOf_114 rfl rfl (by decide) (L2 := [(4, .int (x4 + 1)), (3, .int (((Int32.toUInt32 x3 >>> (Int32.toUInt32 1 &&& Int32.toUInt32 31)).toInt32) &&& (-2))), (6, .int (x3 &&& 1)), (5, .int ((M.1 (b0 + 1) (Int32.toNatClampNeg x4)) &&& 255)), (0, .ref b0), (1, .ref b1), (2, .int x2)]) rfl ?_
            refine zr_goto (tgt := 5) dX7_holdsOf_117 (by decide) ?_
            exact zV.pick [4, 5, 6, 1, 0] rfl T
      · have T := T.2 h25
        refine zr_iload_n dX7_holdsOf_53 rfl 5 rfl ?_
        refine zr_iconst (v := 1) dX7_holdsOf_54 (by decide) ?_
        refine zr_iushr dX7_holdsOf_55 ?_
        refine zr_iload dX7_holdsOf_56 0 rfl ?_
        refine zr_ior dX7_holdsOf_58 ?_
        refine zr_istore_n dX7_holdsOf_59 rfl (by decide) (L2 := [(3, .int (((Int32.toUInt32 x3 >>> (Int32.toUInt32 1 &&& Int32.toUInt32 31)).toInt32) ||| (x3 &&& 1))), (6, .int (x3 &&& 1)), (5, .int ((M.1 (b0 + 1) (Int32.toNatClampNeg x4)) &&& 255)), (0, .ref b0), (1, .ref b1), (2, .int x2), (4, .int x4)]) rfl ?_
        refine zr_goto (tgt := 114) dX7_holdsOf_60 (by decide) ?_
        refine zr_iinc (n := 6) (v := x4 + 1) dX7_holdsOf_114 rfl rfl (by decide) (L2 := [(4, .int (x4 + 1)), (3, .int (((Int32.toUInt32 x3 >>> (Int32.toUInt32 1 &&& Int32.toUInt32 31)).toInt32) ||| (x3 &&& 1))), (6, .int (x3 &&& 1)), (5, .int ((M.1 (b0 + 1) (Int32.toNatClampNeg x4)) &&& 255)), (0, .ref b0), (1, .ref b1), (2, .int x2)]) rfl ?_
        refine zr_goto (tgt := 5) dX7_holdsOf_117 (by decide) ?_
        exact zV.pick [4, 5, 6, 1, 0] rfl T
    · have T := T.2 h24
      refine zr_iload_n dX7_holdsOf_39 rfl 5 rfl ?_
      refine zr_iconst (v := 1) dX7_holdsOf_40 (by decide) ?_
      refine zr_ixor dX7_holdsOf_41 ?_
      refine zr_istore_n dX7_holdsOf_42 rfl (by decide) (L2 := [(3, .int (x3 ^^^ 1)), (6, .int (x3 &&& 1)), (5, .int ((M.1 (b0 + 1) (Int32.toNatClampNeg x4)) &&& 255)), (0, .ref b0), (1, .ref b1), (2, .int x2), (4, .int x4)]) rfl ?_
      refine zr_goto (tgt := 114) dX7_holdsOf_43 (by decide) ?_
      refine zr_iinc (n := 6) (v := x4 + 1) dX7_holdsOf_114 rfl rfl (by decide) (L2 := [(4, .int (x4 + 1)), (3, .int (x3 ^^^ 1)), (6, .int (x3 &&& 1)), (5, .int ((M.1 (b0 + 1) (Int32.toNatClampNeg x4)) &&& 255)), (0, .ref b0), (1, .ref b1), (2, .int x2)]) rfl ?_
      refine zr_goto (tgt := 5) dX7_holdsOf_117 (by decide) ?_
      exact zV.pick [4, 5, 6, 1, 0] rfl T
set_option maxRecDepth 100000 in
set_option maxHeartbeats 4000000 in
theorem t_X7_oneHolds {d : Nat} {b0 : Nat} {x1 : Int32} {x2 : Int32} {M : zMem} {K : zK} (h0 : b0 ∈ iX4)
    (T : ((x2 &&& 255) = 17 → S_X4_tornBits d b0 M (zI (fun r21 M22 => ((((Int32.toUInt32 r21 >>> (Int32.toUInt32 x1 &&& Int32.toUInt32 31)).toInt32) &&& 1) = 0 → K (some (.int 0)) M22) ∧ (¬ ((((Int32.toUInt32 r21 >>> (Int32.toUInt32 x1 &&& Int32.toUInt32 31)).toInt32) &&& 1) = 0) → K (some (.int 1)) M22)))) ∧ ((x2 &&& 255) = 18 → S_X3_has d (pF b0) ((Int32.toUInt32 x2 >>> (Int32.toUInt32 16 &&& Int32.toUInt32 31)).toInt32) x1 M (zB (fun r24 M25 => (r24 = false → K (some (.int 0)) M25) ∧ (r24 = true → S_X3_isGone d (pF b0) ((Int32.toUInt32 x2 >>> (Int32.toUInt32 16 &&& Int32.toUInt32 31)).toInt32) x1 M25 (zB (fun r27 M28 => (r27 = true → K (some (.int 0)) M28) ∧ (r27 = false → K (some (.int 1)) M28))))))) ∧ ((x2 &&& 255) = 19 → S_X3_isGone d (pF b0) ((Int32.toUInt32 x2 >>> (Int32.toUInt32 16 &&& Int32.toUInt32 31)).toInt32) x1 M (zB (fun r30 M31 => K (some (.int (bi r30))) M31))) ∧ ((x2 &&& 255) = 20 → vp_in x1 24 ∧ (S_X7_compares d (M.1 7 (Int32.toNatClampNeg x1)) (((Int32.toUInt32 x2 >>> (Int32.toUInt32 8 &&& Int32.toUInt32 31)).toInt32) &&& 255) ((Int32.toUInt32 x2 >>> (Int32.toUInt32 16 &&& Int32.toUInt32 31)).toInt32) M (zB (fun r33 M34 => K (some (.int (bi r33))) M34)))) ∧ ((x2 &&& 255) = 21 → S_X4_holderBits d b0 x1 M (zI (fun r35 M36 => S_J6_bitCount_0f7a4 d r35 M36 (zI (fun r37 M38 => S_X7_compares d r37 (((Int32.toUInt32 x2 >>> (Int32.toUInt32 8 &&& Int32.toUInt32 31)).toInt32) &&& 255) ((Int32.toUInt32 x2 >>> (Int32.toUInt32 16 &&& Int32.toUInt32 31)).toInt32) M38 (zB (fun r39 M40 => K (some (.int (bi r39))) M40))))))) ∧ ((x2 &&& 255) = 22 → S_X4_greatestStamp d b0 x1 M (zI (fun r41 M42 => S_X7_compares d r41 (((Int32.toUInt32 x2 >>> (Int32.toUInt32 8 &&& Int32.toUInt32 31)).toInt32) &&& 255) ((Int32.toUInt32 x2 >>> (Int32.toUInt32 16 &&& Int32.toUInt32 31)).toInt32) M42 (zB (fun r43 M44 => K (some (.int (bi r43))) M44))))) ∧ (¬ (x2 &&& 255) = 17 → ¬ (x2 &&& 255) = 18 → ¬ (x2 &&& 255) = 19 → ¬ (x2 &&& 255) = 20 → ¬ (x2 &&& 255) = 21 → ¬ (x2 &&& 255) = 22 → S_X7_compares d x1 (((Int32.toUInt32 x2 >>> (Int32.toUInt32 8 &&& Int32.toUInt32 31)).toInt32) &&& 255) ((Int32.toUInt32 x2 >>> (Int32.toUInt32 16 &&& Int32.toUInt32 31)).toInt32) M (zB (fun r45 M46 => K (some (.int (bi r45))) M46)))) : S_X7_oneHolds (d + 1) b0 x1 x2 M K := by
  show zV m_X7_oneHolds (d + 1) 0 [(0, .ref b0), (1, .int x1), (2, .int x2)] [] M K
  refine zr_iload_n dX7_oneHolds_0 rfl 2 rfl ?_
  refine zr_bipush (v := 8) dX7_oneHolds_1 (by decide) ?_
  refine zr_iushr dX7_oneHolds_3 ?_
  refine zr_sipush (v := 255) dX7_oneHolds_4 (by decide) ?_
  refine zr_iand dX7_oneHolds_7 ?_
  refine zr_istore_n dX7_oneHolds_8 rfl (by decide) (L2 := [(3, .int (((Int32.toUInt32 x2 >>> (Int32.toUInt32 8 &&& Int32.toUInt32 31)).toInt32) &&& 255)), (0, .ref b0), (1, .int x1), (2, .int x2)]) rfl ?_
  refine zr_iload_n dX7_oneHolds_9 rfl 3 rfl ?_
  refine zr_bipush (v := 16) dX7_oneHolds_10 (by decide) ?_
  refine zr_iushr dX7_oneHolds_12 ?_
  refine zr_istore dX7_oneHolds_13 (by decide) (L2 := [(4, .int ((Int32.toUInt32 x2 >>> (Int32.toUInt32 16 &&& Int32.toUInt32 31)).toInt32)), (3, .int (((Int32.toUInt32 x2 >>> (Int32.toUInt32 8 &&& Int32.toUInt32 31)).toInt32) &&& 255)), (0, .ref b0), (1, .int x1), (2, .int x2)]) rfl ?_
  refine zr_iload_n dX7_oneHolds_15 rfl 4 rfl ?_
  refine zr_sipush (v := 255) dX7_oneHolds_16 (by decide) ?_
  refine zr_iand dX7_oneHolds_19 ?_
  by_cases h47 : (x2 &&& 255) = 17
  · have T := T.1 h47
    refine zr_tableIn (tgt := 60) dX7_oneHolds_20 (by rw [h47]; decide) (by rw [h47]; decide) (by rw [h47]; rfl) (by decide) ?_
    refine zr_aload_n dX7_oneHolds_60 rfl 2 rfl ?_
    refine zm_callV_i (c := 4) (b := b0) dX7_oneHolds_61 w_X4_tornBits l_X7_88 rfl (oX4 _ h0) (by decide) s_X4_tornBits [] rfl rfl (Nat.le_of_ble_eq_true rfl) (Nat.le_of_ble_eq_true rfl) ?_
    refine zV.post T ?_
    rintro v M22 ⟨r21, rfl, T⟩
    refine ⟨r21, rfl, ?_⟩
    refine zr_iload_n dX7_oneHolds_64 rfl 3 rfl ?_
    refine zr_iushr dX7_oneHolds_65 ?_
    refine zr_iconst (v := 1) dX7_oneHolds_66 (by decide) ?_
    refine zr_iand dX7_oneHolds_67 ?_
    refine zr_if_eq (tgt := 75) dX7_oneHolds_68 (by decide) (fun h23 => ?_) (fun h23 => ?_)
    · have T := T.1 h23
      refine zr_iconst (v := 0) dX7_oneHolds_75 (by decide) ?_
      exact zm_zret dX7_oneHolds_76 rfl (by decide) T
    · have T := T.2 h23
      refine zr_iconst (v := 1) dX7_oneHolds_71 (by decide) ?_
      refine zr_goto (tgt := 76) dX7_oneHolds_72 (by decide) ?_
      exact zm_zret dX7_oneHolds_76 rfl (by decide) T
  by_cases h48 : (x2 &&& 255) = 18
  · have T := T.2.1 h48
    refine zr_tableIn (tgt := 77) dX7_oneHolds_20 (by rw [h48]; decide) (by rw [h48]; decide) (by rw [h48]; rfl) (by decide) ?_
    refine zr_aload_n dX7_oneHolds_77 rfl 2 rfl ?_
    refine zm_getr (a := pF b0) dX7_oneHolds_78 f_X7_94 (oX4 _ h0) (by decide) (by decide) (rX4_1 _ h0) ?_
    refine zr_iload dX7_oneHolds_81 0 rfl ?_
    refine zr_iload_n dX7_oneHolds_83 rfl 3 rfl ?_
    refine zm_callV_b (c := 3) (b := pF b0) dX7_oneHolds_84 w_X3_has l_X7_98 rfl (oX3 _ (qX4_1 _ h0)) (by decide) s_X3_has [.int ((Int32.toUInt32 x2 >>> (Int32.toUInt32 16 &&& Int32.toUInt32 31)).toInt32), .int x1] rfl rfl (Nat.le_of_ble_eq_true rfl) (Nat.le_of_ble_eq_true rfl) ?_
    refine zV.post T ?_
    rintro v M25 ⟨r24, rfl, T⟩
    refine ⟨r24, rfl, ?_⟩
    refine zm_ifb_eq (tgt := 107) dX7_oneHolds_87 (by decide) (fun h26 => ?_) (fun h26 => ?_)
    · have T := T.1 h26
      refine zr_iconst (v := 0) dX7_oneHolds_107 (by decide) ?_
      exact zm_zret dX7_oneHolds_108 rfl (by decide) T
    · have T := T.2 h26
      refine zr_aload_n dX7_oneHolds_90 rfl 2 rfl ?_
      refine zm_getr (a := pF b0) dX7_oneHolds_91 f_X7_94 (oX4 _ h0) (by decide) (by decide) (rX4_1 _ h0) ?_
      refine zr_iload dX7_oneHolds_94 0 rfl ?_
      refine zr_iload_n dX7_oneHolds_96 rfl 3 rfl ?_
      refine zm_callV_b (c := 3) (b := pF b0) dX7_oneHolds_97 w_X3_isGone l_X7_104 rfl (oX3 _ (qX4_1 _ h0)) (by decide) s_X3_isGone [.int ((Int32.toUInt32 x2 >>> (Int32.toUInt32 16 &&& Int32.toUInt32 31)).toInt32), .int x1] rfl rfl (Nat.le_of_ble_eq_true rfl) (Nat.le_of_ble_eq_true rfl) ?_
      refine zV.post T ?_
      rintro v M28 ⟨r27, rfl, T⟩
      refine ⟨r27, rfl, ?_⟩
      refine zm_ifb_ne (tgt := 107) dX7_oneHolds_100 (by decide) (fun h29 => ?_) (fun h29 => ?_)
      · have T := T.1 h29
        refine zr_iconst (v := 0) dX7_oneHolds_107 (by decide) ?_
        exact zm_zret dX7_oneHolds_108 rfl (by decide) T
      · have T := T.2 h29
        refine zr_iconst (v := 1) dX7_oneHolds_103 (by decide) ?_
        refine zr_goto (tgt := 108) dX7_oneHolds_104 (by decide) ?_
        exact zm_zret dX7_oneHolds_108 rfl (by decide) T
  by_cases h49 : (x2 &&& 255) = 19
  · have T := T.2.2.1 h49
    refine zr_tableIn (tgt := 109) dX7_oneHolds_20 (by rw [h49]; decide) (by rw [h49]; decide) (by rw [h49]; rfl) (by decide) ?_
    refine zr_aload_n dX7_oneHolds_109 rfl 2 rfl ?_
    refine zm_getr (a := pF b0) dX7_oneHolds_110 f_X7_94 (oX4 _ h0) (by decide) (by decide) (rX4_1 _ h0) ?_
    refine zr_iload dX7_oneHolds_113 0 rfl ?_
    refine zr_iload_n dX7_oneHolds_115 rfl 3 rfl ?_
    refine zm_callV_b (c := 3) (b := pF b0) dX7_oneHolds_116 w_X3_isGone l_X7_104 rfl (oX3 _ (qX4_1 _ h0)) (by decide) s_X3_isGone [.int ((Int32.toUInt32 x2 >>> (Int32.toUInt32 16 &&& Int32.toUInt32 31)).toInt32), .int x1] rfl rfl (Nat.le_of_ble_eq_true rfl) (Nat.le_of_ble_eq_true rfl) ?_
    refine zV.post T ?_
    rintro v M31 ⟨r30, rfl, T⟩
    refine ⟨r30, rfl, ?_⟩
    exact zm_zret dX7_oneHolds_119 rfl (bi_01 _) T
  by_cases h50 : (x2 &&& 255) = 20
  · have T := T.2.2.2.1 h50
    refine zr_tableIn (tgt := 120) dX7_oneHolds_20 (by rw [h50]; decide) (by rw [h50]; decide) (by rw [h50]; rfl) (by decide) ?_
    refine zr_aload_n dX7_oneHolds_120 rfl 2 rfl ?_
    refine zm_getr (a := 3) dX7_oneHolds_121 f_X7_107 (oX4 _ h0) (by decide) (by decide) (rX4_0 _ h0) ?_
    refine zm_getr (a := 7) dX7_oneHolds_124 f_X7_111 (by decide) (by decide) (by decide) (by decide) ?_
    refine zr_iload_n dX7_oneHolds_127 rfl 3 rfl ?_
    obtain ⟨hq32, T⟩ := T
    refine zm_iald (n := 24) (o := (Int32.toNatClampNeg x1)) dX7_oneHolds_128 (by decide) (by decide) hq32 rfl ?_
    refine zr_iload_n dX7_oneHolds_129 rfl 1 rfl ?_
    refine zr_iload dX7_oneHolds_130 0 rfl ?_
    refine zm_callS_b dX7_oneHolds_132 w_X7_compares l_X7_116 s_X7_compares [.int (M.1 7 (Int32.toNatClampNeg x1)), .int (((Int32.toUInt32 x2 >>> (Int32.toUInt32 8 &&& Int32.toUInt32 31)).toInt32) &&& 255), .int ((Int32.toUInt32 x2 >>> (Int32.toUInt32 16 &&& Int32.toUInt32 31)).toInt32)] rfl rfl (Nat.le_of_ble_eq_true rfl) (Nat.le_of_ble_eq_true rfl) ?_
    refine zV.post T ?_
    rintro v M34 ⟨r33, rfl, T⟩
    refine ⟨r33, rfl, ?_⟩
    exact zm_zret dX7_oneHolds_135 rfl (bi_01 _) T
  by_cases h51 : (x2 &&& 255) = 21
  · have T := T.2.2.2.2.1 h51
    refine zr_tableIn (tgt := 136) dX7_oneHolds_20 (by rw [h51]; decide) (by rw [h51]; decide) (by rw [h51]; rfl) (by decide) ?_
    refine zr_aload_n dX7_oneHolds_136 rfl 2 rfl ?_
    refine zr_iload_n dX7_oneHolds_137 rfl 3 rfl ?_
    refine zm_callV_i (c := 4) (b := b0) dX7_oneHolds_138 w_X4_holderBits l_X7_120 rfl (oX4 _ h0) (by decide) s_X4_holderBits [.int x1] rfl rfl (Nat.le_of_ble_eq_true rfl) (Nat.le_of_ble_eq_true rfl) ?_
    refine zV.post T ?_
    rintro v M36 ⟨r35, rfl, T⟩
    refine ⟨r35, rfl, ?_⟩
    refine zm_callS_i dX7_oneHolds_141 w_J6_bitCount_0f7a4 l_X7_124 s_J6_bitCount_0f7a4 [.int r35] rfl rfl (Nat.le_of_ble_eq_true rfl) (Nat.le_of_ble_eq_true rfl) ?_
    refine zV.post T ?_
    rintro v M38 ⟨r37, rfl, T⟩
    refine ⟨r37, rfl, ?_⟩
    refine zr_iload_n dX7_oneHolds_144 rfl 1 rfl ?_
    refine zr_iload dX7_oneHolds_145 0 rfl ?_
    refine zm_callS_b dX7_oneHolds_147 w_X7_compares l_X7_116 s_X7_compares [.int r37, .int (((Int32.toUInt32 x2 >>> (Int32.toUInt32 8 &&& Int32.toUInt32 31)).toInt32) &&& 255), .int ((Int32.toUInt32 x2 >>> (Int32.toUInt32 16 &&& Int32.toUInt32 31)).toInt32)] rfl rfl (Nat.le_of_ble_eq_true rfl) (Nat.le_of_ble_eq_true rfl) ?_
    refine zV.post T ?_
    rintro v M40 ⟨r39, rfl, T⟩
    refine ⟨r39, rfl, ?_⟩
    exact zm_zret dX7_oneHolds_150 rfl (bi_01 _) T
  by_cases h52 : (x2 &&& 255) = 22
  · have T := T.2.2.2.2.2.1 h52
    refine zr_tableIn (tgt := 151) dX7_oneHolds_20 (by rw [h52]; decide) (by rw [h52]; decide) (by rw [h52]; rfl) (by decide) ?_
    refine zr_aload_n dX7_oneHolds_151 rfl 2 rfl ?_
    refine zr_iload_n dX7_oneHolds_152 rfl 3 rfl ?_
    refine zm_callV_i (c := 4) (b := b0) dX7_oneHolds_153 w_X4_greatestStamp l_X7_129 rfl (oX4 _ h0) (by decide) s_X4_greatestStamp [.int x1] rfl rfl (Nat.le_of_ble_eq_true rfl) (Nat.le_of_ble_eq_true rfl) ?_
    refine zV.post T ?_
    rintro v M42 ⟨r41, rfl, T⟩
    refine ⟨r41, rfl, ?_⟩
    refine zr_iload_n dX7_oneHolds_156 rfl 1 rfl ?_
    refine zr_iload dX7_oneHolds_157 0 rfl ?_
    refine zm_callS_b dX7_oneHolds_159 w_X7_compares l_X7_116 s_X7_compares [.int r41, .int (((Int32.toUInt32 x2 >>> (Int32.toUInt32 8 &&& Int32.toUInt32 31)).toInt32) &&& 255), .int ((Int32.toUInt32 x2 >>> (Int32.toUInt32 16 &&& Int32.toUInt32 31)).toInt32)] rfl rfl (Nat.le_of_ble_eq_true rfl) (Nat.le_of_ble_eq_true rfl) ?_
    refine zV.post T ?_
    rintro v M44 ⟨r43, rfl, T⟩
    refine ⟨r43, rfl, ?_⟩
    exact zm_zret dX7_oneHolds_162 rfl (bi_01 _) T
  · have T := T.2.2.2.2.2.2 h47 h48 h49 h50 h51 h52
    refine zr_tableOut (tgt := 163) dX7_oneHolds_20 (z_out_17_22 h47 h48 h49 h50 h51 h52) (by decide) ?_
    refine zr_iload_n dX7_oneHolds_163 rfl 3 rfl ?_
    refine zr_iload_n dX7_oneHolds_164 rfl 1 rfl ?_
    refine zr_iload dX7_oneHolds_165 0 rfl ?_
    refine zm_callS_b dX7_oneHolds_167 w_X7_compares l_X7_116 s_X7_compares [.int x1, .int (((Int32.toUInt32 x2 >>> (Int32.toUInt32 8 &&& Int32.toUInt32 31)).toInt32) &&& 255), .int ((Int32.toUInt32 x2 >>> (Int32.toUInt32 16 &&& Int32.toUInt32 31)).toInt32)] rfl rfl (Nat.le_of_ble_eq_true rfl) (Nat.le_of_ble_eq_true rfl) ?_
    refine zV.post T ?_
    rintro v M46 ⟨r45, rfl, T⟩
    refine ⟨r45, rfl, ?_⟩
    exact zm_zret dX7_oneHolds_170 rfl (bi_01 _) T
set_option maxRecDepth 100000 in
set_option maxHeartbeats 4000000 in
theorem t_X7_compares {d : Nat} {x0 : Int32} {x1 : Int32} {x2 : Int32} {M : zMem} {K : zK} 
    (T : (¬ x1 = 60 → (¬ x1 = 62 → (¬ x0 = x2 → K (some (.int 0)) M) ∧ (x0 = x2 → K (some (.int 1)) M)) ∧ (x1 = 62 → (x0 ≤ x2 → K (some (.int 0)) M) ∧ (¬ (x0 ≤ x2) → K (some (.int 1)) M))) ∧ (x1 = 60 → (x2 ≤ x0 → K (some (.int 0)) M) ∧ (¬ (x2 ≤ x0) → K (some (.int 1)) M))) : S_X7_compares d x0 x1 x2 M K := by
  show zV m_X7_compares d 0 [(0, .int x0), (1, .int x1), (2, .int x2)] [] M K
  refine zr_iload_n dX7_compares_0 rfl 1 rfl ?_
  refine zr_bipush (v := 60) dX7_compares_1 (by decide) ?_
  refine zr_icmp_ne (tgt := 17) dX7_compares_3 (by decide) (fun h21 => ?_) (fun h21 => ?_)
  · have T := T.1 h21
    refine zr_iload_n dX7_compares_17 rfl 1 rfl ?_
    refine zr_bipush (v := 62) dX7_compares_18 (by decide) ?_
    refine zr_icmp_ne (tgt := 36) dX7_compares_20 (by decide) (fun h22 => ?_) (fun h22 => ?_)
    · have T := T.1 h22
      refine zr_iload_n dX7_compares_36 rfl 0 rfl ?_
      refine zr_iload_n dX7_compares_37 rfl 2 rfl ?_
      refine zr_icmp_ne (tgt := 45) dX7_compares_38 (by decide) (fun h23 => ?_) (fun h23 => ?_)
      · have T := T.1 h23
        refine zr_iconst (v := 0) dX7_compares_45 (by decide) ?_
        exact zm_zret dX7_compares_46 rfl (by decide) T
      · have T := T.2 h23
        refine zr_iconst (v := 1) dX7_compares_41 (by decide) ?_
        refine zr_goto (tgt := 46) dX7_compares_42 (by decide) ?_
        exact zm_zret dX7_compares_46 rfl (by decide) T
    · have T := T.2 h22
      refine zr_iload_n dX7_compares_23 rfl 0 rfl ?_
      refine zr_iload_n dX7_compares_24 rfl 2 rfl ?_
      refine zr_icmp_le (tgt := 32) dX7_compares_25 (by decide) (fun h24 => ?_) (fun h24 => ?_)
      · have T := T.1 h24
        refine zr_iconst (v := 0) dX7_compares_32 (by decide) ?_
        refine zr_goto (tgt := 46) dX7_compares_33 (by decide) ?_
        exact zm_zret dX7_compares_46 rfl (by decide) T
      · have T := T.2 h24
        refine zr_iconst (v := 1) dX7_compares_28 (by decide) ?_
        refine zr_goto (tgt := 46) dX7_compares_29 (by decide) ?_
        exact zm_zret dX7_compares_46 rfl (by decide) T
  · have T := T.2 h21
    refine zr_iload_n dX7_compares_6 rfl 0 rfl ?_
    refine zr_iload_n dX7_compares_7 rfl 2 rfl ?_
    refine zr_icmp_ge (tgt := 15) dX7_compares_8 (by decide) (fun h25 => ?_) (fun h25 => ?_)
    · have T := T.1 h25
      refine zr_iconst (v := 0) dX7_compares_15 (by decide) ?_
      exact zm_zret dX7_compares_16 rfl (by decide) T
    · have T := T.2 h25
      refine zr_iconst (v := 1) dX7_compares_11 (by decide) ?_
      refine zr_goto (tgt := 16) dX7_compares_12 (by decide) ?_
      exact zm_zret dX7_compares_16 rfl (by decide) T
