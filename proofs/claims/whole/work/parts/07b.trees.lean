set_option maxRecDepth 100000 in
set_option maxHeartbeats 4000000 in
theorem t_X8_copyFrom {d : Nat} {b0 : Nat} {b1 : Nat} {M : zMem} {K : zK} (h0 : b0 ∈ iX8) (h1 : b1 ∈ iX8)
    (T : S_X5_copyFrom d (b0 + 1) (b1 + 1) M (zU (fun M22 => S_X3_copyFrom d (b0 + 8) (b1 + 8) M22 (zU (fun M24 => S_X7_copyFrom d (b0 + 13) (b1 + 13) M24 (zU (fun M26 => K none M26))))))) : S_X8_copyFrom (d + 1) b0 b1 M K := by
  show zV m_X8_copyFrom (d + 1) 0 [(0, .ref b0), (1, .ref b1)] [] M K
  refine zr_aload_n dX8_copyFrom_0 rfl 0 rfl ?_
  refine zm_getr (a := b0 + 1) dX8_copyFrom_1 f_X8_10 (oX8 _ h0) (by decide) (by decide) (rX8_0 _ h0) ?_
  refine zr_aload_n dX8_copyFrom_4 rfl 1 rfl ?_
  refine zm_getr (a := b1 + 1) dX8_copyFrom_5 f_X8_10 (oX8 _ h1) (by decide) (by decide) (rX8_0 _ h1) ?_
  refine zm_callV_v (c := 5) (b := b0 + 1) dX8_copyFrom_8 w_X5_copyFrom l_X8_34 rfl (oX5 _ (qX8_0 _ h0)) (by decide) s_X5_copyFrom [.ref (b1 + 1)] rfl rfl (Nat.le_of_ble_eq_true rfl) (Nat.le_of_ble_eq_true rfl) ?_
  refine zV.post T ?_
  rintro v M22 ⟨rfl, T⟩
  refine ⟨rfl, ?_⟩
  refine zr_aload_n dX8_copyFrom_11 rfl 0 rfl ?_
  refine zm_getr (a := b0 + 8) dX8_copyFrom_12 f_X8_19 (oX8 _ h0) (by decide) (by decide) (rX8_1 _ h0) ?_
  refine zr_aload_n dX8_copyFrom_15 rfl 1 rfl ?_
  refine zm_getr (a := b1 + 8) dX8_copyFrom_16 f_X8_19 (oX8 _ h1) (by decide) (by decide) (rX8_1 _ h1) ?_
  refine zm_callV_v (c := 3) (b := b0 + 8) dX8_copyFrom_19 w_X3_copyFrom l_X8_38 rfl (oX3 _ (qX8_1 _ h0)) (by decide) s_X3_copyFrom [.ref (b1 + 8)] rfl rfl (Nat.le_of_ble_eq_true rfl) (Nat.le_of_ble_eq_true rfl) ?_
  refine zV.post T ?_
  rintro v M24 ⟨rfl, T⟩
  refine ⟨rfl, ?_⟩
  refine zr_aload_n dX8_copyFrom_22 rfl 0 rfl ?_
  refine zm_getr (a := b0 + 13) dX8_copyFrom_23 f_X8_26 (oX8 _ h0) (by decide) (by decide) (rX8_2 _ h0) ?_
  refine zr_aload_n dX8_copyFrom_26 rfl 1 rfl ?_
  refine zm_getr (a := b1 + 13) dX8_copyFrom_27 f_X8_26 (oX8 _ h1) (by decide) (by decide) (rX8_2 _ h1) ?_
  refine zm_callV_v (c := 7) (b := b0 + 13) dX8_copyFrom_30 w_X7_copyFrom l_X8_41 rfl (oX7 _ (qX8_2 _ h0)) (by decide) s_X7_copyFrom [.ref (b1 + 13)] rfl rfl (Nat.le_of_ble_eq_true rfl) (Nat.le_of_ble_eq_true rfl) ?_
  refine zV.post T ?_
  rintro v M26 ⟨rfl, T⟩
  refine ⟨rfl, ?_⟩
  exact zm_vret dX8_copyFrom_33 rfl T
set_option maxRecDepth 100000 in
set_option maxHeartbeats 4000000 in
theorem t_X4_growTrees {d : Nat} {b0 : Nat} {M : zMem} {K : zK} (h0 : b0 ∈ iX4)
    (T : S_X4_growTrees_2 (d + 1) b0 0 M K) : S_X4_growTrees (d + 1) b0 M K := by
  show zV m_X4_growTrees (d + 1) 0 [(0, .ref b0)] [] M K
  refine zr_iconst (v := 0) dX4_growTrees_0 (by decide) ?_
  refine zr_istore_n dX4_growTrees_1 rfl (by decide) (L2 := [(1, .int 0), (0, .ref b0)]) rfl ?_
  exact zV.pick [1, 0] rfl T
set_option maxRecDepth 100000 in
set_option maxHeartbeats 4000000 in
theorem t_X4_growTrees_2 {d : Nat} {b0 : Nat} {x1 : Int32} {M : zMem} {K : zK} (h0 : b0 ∈ iX4)
    (T : (4 ≤ x1 → K none M) ∧ (¬ (4 ≤ x1) → vp_in x1 4 ∧ (S_X9_grow d (pT b0 + 1 + 12 * (Int32.toNatClampNeg x1)) 3 (pF b0) x1 M (zU (fun M24 => S_X4_growTrees_2 (d + 1) b0 (x1 + 1) M24 K))))) : S_X4_growTrees_2 (d + 1) b0 x1 M K := by
  show zV m_X4_growTrees (d + 1) 2 [(0, .ref b0), (1, .int x1)] [] M K
  refine zr_iload_n dX4_growTrees_2 rfl 1 rfl ?_
  refine zr_iconst (v := 4) dX4_growTrees_3 (by decide) ?_
  refine zr_icmp_ge (tgt := 31) dX4_growTrees_4 (by decide) (fun h21 => ?_) (fun h21 => ?_)
  · have T := T.1 h21
    exact zm_vret dX4_growTrees_31 rfl T
  · have T := T.2 h21
    refine zr_aload_n dX4_growTrees_7 rfl 0 rfl ?_
    refine zm_getr (a := pT b0) dX4_growTrees_8 f_X4_12 (oX4 _ h0) (by decide) (by decide) (rX4_2 _ h0) ?_
    refine zr_iload_n dX4_growTrees_11 rfl 1 rfl ?_
    obtain ⟨hq22, T⟩ := T
    refine zm_aald (t := 4) (n := 4) (q := (Int32.toNatClampNeg x1)) (o := pT b0 + 1 + 12 * (Int32.toNatClampNeg x1)) dX4_growTrees_12 (aX _ (qX4_2 _ h0)) (by decide) (by decide) (fun _ => rfl) (lX _ (qX4_2 _ h0)) hq22 rfl (eX9 _ (qX4_2 _ h0) (z_lt hq22)) ?_
    refine zr_aload_n dX4_growTrees_13 rfl 0 rfl ?_
    refine zm_getr (a := 3) dX4_growTrees_14 f_X4_22 (oX4 _ h0) (by decide) (by decide) (rX4_0 _ h0) ?_
    refine zr_aload_n dX4_growTrees_17 rfl 0 rfl ?_
    refine zm_getr (a := pF b0) dX4_growTrees_18 f_X4_26 (oX4 _ h0) (by decide) (by decide) (rX4_1 _ h0) ?_
    refine zr_iload_n dX4_growTrees_21 rfl 1 rfl ?_
    refine zm_callV_v (c := 9) (b := pT b0 + 1 + 12 * (Int32.toNatClampNeg x1)) dX4_growTrees_22 w_X9_grow l_X4_39 rfl (oX9 _ (eX9q _ (qX4_2 _ h0) (z_lt hq22))) (by decide) s_X9_grow [.ref 3, .ref (pF b0), .int x1] rfl rfl (Nat.le_of_ble_eq_true rfl) (Nat.le_of_ble_eq_true rfl) ?_
    refine zV.post T ?_
    rintro v M24 ⟨rfl, T⟩
    refine ⟨rfl, ?_⟩
    refine zr_iinc (n := 1) (v := x1 + 1) dX4_growTrees_25 rfl rfl (by decide) (L2 := [(1, .int (x1 + 1)), (0, .ref b0)]) rfl ?_
    refine zr_goto (tgt := 2) dX4_growTrees_28 (by decide) ?_
    exact zV.pick [1, 0] rfl T
set_option maxRecDepth 100000 in
set_option maxHeartbeats 4000000 in
theorem t_X10_clear {d : Nat}  {M : zMem} {K : zK} 
    (T : (∀ M21 : zMem, M21 = wI M 170 2 0 → K none M21)) : S_X10_clear d  M K := by
  show zV m_X10_clear d 0 [(0, .ref 170)] [] M K
  refine zr_aload_n dX10_clear_0 rfl 0 rfl ?_
  refine zr_iconst (v := 0) dX10_clear_1 (by decide) ?_
  refine zn_puti dX10_clear_2 f_X10_21 (by decide) (by decide) (by decide) (fun M21 e22 => ?_)
  have T := T M21 e22
  exact zm_vret dX10_clear_5 rfl T
set_option maxRecDepth 100000 in
set_option maxHeartbeats 4000000 in
theorem t_X4_holderBits {d : Nat} {b0 : Nat} {x1 : Int32} {M : zMem} {K : zK} (h0 : b0 ∈ iX4)
    (T : S_X4_holderBits_4 (d + 1) b0 x1 0 0 M K) : S_X4_holderBits (d + 1) b0 x1 M K := by
  show zV m_X4_holderBits (d + 1) 0 [(0, .ref b0), (1, .int x1)] [] M K
  refine zr_iconst (v := 0) dX4_holderBits_0 (by decide) ?_
  refine zr_istore_n dX4_holderBits_1 rfl (by decide) (L2 := [(2, .int 0), (0, .ref b0), (1, .int x1)]) rfl ?_
  refine zr_iconst (v := 0) dX4_holderBits_2 (by decide) ?_
  refine zr_istore_n dX4_holderBits_3 rfl (by decide) (L2 := [(3, .int 0), (2, .int 0), (0, .ref b0), (1, .int x1)]) rfl ?_
  exact zV.pick [2, 3, 1, 0] rfl T
set_option maxRecDepth 100000 in
set_option maxHeartbeats 4000000 in
theorem t_X4_holderBits_4 {d : Nat} {b0 : Nat} {x1 : Int32} {x2 : Int32} {x3 : Int32} {M : zMem} {K : zK} (h0 : b0 ∈ iX4)
    (T : ((M.1 3 4) ≤ x3 → K (some (.int x2)) M) ∧ (¬ ((M.1 3 4) ≤ x3) → S_X3_has d (pF b0) x3 x1 M (zB (fun r22 M23 => (r22 = false → S_X4_holderBits_4 (d + 1) b0 x1 x2 (x3 + 1) M23 K) ∧ (r22 = true → S_X4_holderBits_4 (d + 1) b0 x1 (x2 ||| ((1 : Int32) <<< (x3 &&& 31))) (x3 + 1) M23 K))))) : S_X4_holderBits_4 (d + 1) b0 x1 x2 x3 M K := by
  show zV m_X4_holderBits (d + 1) 4 [(0, .ref b0), (1, .int x1), (2, .int x2), (3, .int x3)] [] M K
  refine zr_iload_n dX4_holderBits_4 rfl 3 rfl ?_
  refine zr_aload_n dX4_holderBits_5 rfl 0 rfl ?_
  refine zm_getr (a := 3) dX4_holderBits_6 f_X4_22 (oX4 _ h0) (by decide) (by decide) (rX4_0 _ h0) ?_
  refine zm_geti dX4_holderBits_9 f_X4_50 (by decide) (by decide) (by decide) ?_
  refine zr_icmp_ge (tgt := 39) dX4_holderBits_12 (by decide) (fun h21 => ?_) (fun h21 => ?_)
  · have T := T.1 h21
    refine zr_iload_n dX4_holderBits_39 rfl 2 rfl ?_
    exact zm_iret dX4_holderBits_40 rfl T
  · have T := T.2 h21
    refine zr_aload_n dX4_holderBits_15 rfl 0 rfl ?_
    refine zm_getr (a := pF b0) dX4_holderBits_16 f_X4_26 (oX4 _ h0) (by decide) (by decide) (rX4_1 _ h0) ?_
    refine zr_iload_n dX4_holderBits_19 rfl 3 rfl ?_
    refine zr_iload_n dX4_holderBits_20 rfl 1 rfl ?_
    refine zm_callV_b (c := 3) (b := pF b0) dX4_holderBits_21 w_X3_has l_X4_55 rfl (oX3 _ (qX4_1 _ h0)) (by decide) s_X3_has [.int x3, .int x1] rfl rfl (Nat.le_of_ble_eq_true rfl) (Nat.le_of_ble_eq_true rfl) ?_
    refine zV.post T ?_
    rintro v M23 ⟨r22, rfl, T⟩
    refine ⟨r22, rfl, ?_⟩
    refine zm_ifb_eq (tgt := 33) dX4_holderBits_24 (by decide) (fun h24 => ?_) (fun h24 => ?_)
    · have T := T.1 h24
      refine zr_iinc (n := 3) (v := x3 + 1) dX4_holderBits_33 rfl rfl (by decide) (L2 := [(3, .int (x3 + 1)), (0, .ref b0), (1, .int x1), (2, .int x2)]) rfl ?_
      refine zr_goto (tgt := 4) dX4_holderBits_36 (by decide) ?_
      exact zV.pick [1, 2, 3, 0] rfl T
    · have T := T.2 h24
      refine zr_iload_n dX4_holderBits_27 rfl 2 rfl ?_
      refine zr_iconst (v := 1) dX4_holderBits_28 (by decide) ?_
      refine zr_iload_n dX4_holderBits_29 rfl 3 rfl ?_
      refine zr_ishl dX4_holderBits_30 ?_
      refine zr_ior dX4_holderBits_31 ?_
      refine zr_istore_n dX4_holderBits_32 rfl (by decide) (L2 := [(2, .int (x2 ||| ((1 : Int32) <<< (x3 &&& 31)))), (0, .ref b0), (1, .int x1), (3, .int x3)]) rfl ?_
      refine zr_iinc (n := 3) (v := x3 + 1) dX4_holderBits_33 rfl rfl (by decide) (L2 := [(3, .int (x3 + 1)), (2, .int (x2 ||| ((1 : Int32) <<< (x3 &&& 31)))), (0, .ref b0), (1, .int x1)]) rfl ?_
      refine zr_goto (tgt := 4) dX4_holderBits_36 (by decide) ?_
      exact zV.pick [2, 3, 1, 0] rfl T
set_option maxRecDepth 100000 in
set_option maxHeartbeats 4000000 in
theorem t_X4_goneCount {d : Nat} {b0 : Nat} {x1 : Int32} {M : zMem} {K : zK} (h0 : b0 ∈ iX4)
    (T : S_X4_goneCount_4 (d + 1) b0 x1 0 0 M K) : S_X4_goneCount (d + 1) b0 x1 M K := by
  show zV m_X4_goneCount (d + 1) 0 [(0, .ref b0), (1, .int x1)] [] M K
  refine zr_iconst (v := 0) dX4_goneCount_0 (by decide) ?_
  refine zr_istore_n dX4_goneCount_1 rfl (by decide) (L2 := [(2, .int 0), (0, .ref b0), (1, .int x1)]) rfl ?_
  refine zr_iconst (v := 0) dX4_goneCount_2 (by decide) ?_
  refine zr_istore_n dX4_goneCount_3 rfl (by decide) (L2 := [(3, .int 0), (2, .int 0), (0, .ref b0), (1, .int x1)]) rfl ?_
  exact zV.pick [2, 3, 1, 0] rfl T
set_option maxRecDepth 100000 in
set_option maxHeartbeats 4000000 in
theorem t_X4_goneCount_4 {d : Nat} {b0 : Nat} {x1 : Int32} {x2 : Int32} {x3 : Int32} {M : zMem} {K : zK} (h0 : b0 ∈ iX4)
    (T : ((M.1 3 3) ≤ x3 → K (some (.int x2)) M) ∧ (¬ ((M.1 3 3) ≤ x3) → S_X3_isGone d (pF b0) x1 x3 M (zB (fun r22 M23 => (r22 = false → S_X4_goneCount_4 (d + 1) b0 x1 x2 (x3 + 1) M23 K) ∧ (r22 = true → S_X4_goneCount_4 (d + 1) b0 x1 (x2 + 1) (x3 + 1) M23 K))))) : S_X4_goneCount_4 (d + 1) b0 x1 x2 x3 M K := by
  show zV m_X4_goneCount (d + 1) 4 [(0, .ref b0), (1, .int x1), (2, .int x2), (3, .int x3)] [] M K
  refine zr_iload_n dX4_goneCount_4 rfl 3 rfl ?_
  refine zr_aload_n dX4_goneCount_5 rfl 0 rfl ?_
  refine zm_getr (a := 3) dX4_goneCount_6 f_X4_22 (oX4 _ h0) (by decide) (by decide) (rX4_0 _ h0) ?_
  refine zm_geti dX4_goneCount_9 f_X4_59 (by decide) (by decide) (by decide) ?_
  refine zr_icmp_ge (tgt := 36) dX4_goneCount_12 (by decide) (fun h21 => ?_) (fun h21 => ?_)
  · have T := T.1 h21
    refine zr_iload_n dX4_goneCount_36 rfl 2 rfl ?_
    exact zm_iret dX4_goneCount_37 rfl T
  · have T := T.2 h21
    refine zr_aload_n dX4_goneCount_15 rfl 0 rfl ?_
    refine zm_getr (a := pF b0) dX4_goneCount_16 f_X4_26 (oX4 _ h0) (by decide) (by decide) (rX4_1 _ h0) ?_
    refine zr_iload_n dX4_goneCount_19 rfl 1 rfl ?_
    refine zr_iload_n dX4_goneCount_20 rfl 3 rfl ?_
    refine zm_callV_b (c := 3) (b := pF b0) dX4_goneCount_21 w_X3_isGone l_X4_62 rfl (oX3 _ (qX4_1 _ h0)) (by decide) s_X3_isGone [.int x1, .int x3] rfl rfl (Nat.le_of_ble_eq_true rfl) (Nat.le_of_ble_eq_true rfl) ?_
    refine zV.post T ?_
    rintro v M23 ⟨r22, rfl, T⟩
    refine ⟨r22, rfl, ?_⟩
    refine zm_ifb_eq (tgt := 30) dX4_goneCount_24 (by decide) (fun h24 => ?_) (fun h24 => ?_)
    · have T := T.1 h24
      refine zr_iinc (n := 3) (v := x3 + 1) dX4_goneCount_30 rfl rfl (by decide) (L2 := [(3, .int (x3 + 1)), (0, .ref b0), (1, .int x1), (2, .int x2)]) rfl ?_
      refine zr_goto (tgt := 4) dX4_goneCount_33 (by decide) ?_
      exact zV.pick [1, 2, 3, 0] rfl T
    · have T := T.2 h24
      refine zr_iinc (n := 2) (v := x2 + 1) dX4_goneCount_27 rfl rfl (by decide) (L2 := [(2, .int (x2 + 1)), (0, .ref b0), (1, .int x1), (3, .int x3)]) rfl ?_
      refine zr_iinc (n := 3) (v := x3 + 1) dX4_goneCount_30 rfl rfl (by decide) (L2 := [(3, .int (x3 + 1)), (2, .int (x2 + 1)), (0, .ref b0), (1, .int x1)]) rfl ?_
      refine zr_goto (tgt := 4) dX4_goneCount_33 (by decide) ?_
      exact zV.pick [2, 3, 1, 0] rfl T
set_option maxRecDepth 100000 in
set_option maxHeartbeats 4000000 in
theorem t_X4_sameRootBits {d : Nat} {b0 : Nat} {x1 : Int32} {M : zMem} {K : zK} (h0 : b0 ∈ iX4)
    (T : S_X4_sameRootBits_4 (d + 1) b0 x1 0 0 M K) : S_X4_sameRootBits (d + 1) b0 x1 M K := by
  show zV m_X4_sameRootBits (d + 1) 0 [(0, .ref b0), (1, .int x1)] [] M K
  refine zr_iconst (v := 0) dX4_sameRootBits_0 (by decide) ?_
  refine zr_istore_n dX4_sameRootBits_1 rfl (by decide) (L2 := [(2, .int 0), (0, .ref b0), (1, .int x1)]) rfl ?_
  refine zr_iconst (v := 0) dX4_sameRootBits_2 (by decide) ?_
  refine zr_istore_n dX4_sameRootBits_3 rfl (by decide) (L2 := [(3, .int 0), (2, .int 0), (0, .ref b0), (1, .int x1)]) rfl ?_
  exact zV.pick [2, 3, 1, 0] rfl T
set_option maxRecDepth 100000 in
set_option maxHeartbeats 4000000 in
theorem t_X4_sameRootBits_4 {d : Nat} {b0 : Nat} {x1 : Int32} {x2 : Int32} {x3 : Int32} {M : zMem} {K : zK} (h0 : b0 ∈ iX4)
    (T : ((M.1 3 4) ≤ x3 → K (some (.int x2)) M) ∧ (¬ ((M.1 3 4) ≤ x3) → S_X4_rootOf d b0 x3 M (zI (fun r22 M23 => S_X4_rootOf d b0 x1 M23 (zI (fun r24 M25 => (¬ r22 = r24 → S_X4_sameRootBits_4 (d + 1) b0 x1 x2 (x3 + 1) M25 K) ∧ (r22 = r24 → S_X4_sameRootBits_4 (d + 1) b0 x1 (x2 ||| ((1 : Int32) <<< (x3 &&& 31))) (x3 + 1) M25 K))))))) : S_X4_sameRootBits_4 (d + 1) b0 x1 x2 x3 M K := by
  show zV m_X4_sameRootBits (d + 1) 4 [(0, .ref b0), (1, .int x1), (2, .int x2), (3, .int x3)] [] M K
  refine zr_iload_n dX4_sameRootBits_4 rfl 3 rfl ?_
  refine zr_aload_n dX4_sameRootBits_5 rfl 0 rfl ?_
  refine zm_getr (a := 3) dX4_sameRootBits_6 f_X4_22 (oX4 _ h0) (by decide) (by decide) (rX4_0 _ h0) ?_
  refine zm_geti dX4_sameRootBits_9 f_X4_50 (by decide) (by decide) (by decide) ?_
  refine zr_icmp_ge (tgt := 40) dX4_sameRootBits_12 (by decide) (fun h21 => ?_) (fun h21 => ?_)
  · have T := T.1 h21
    refine zr_iload_n dX4_sameRootBits_40 rfl 2 rfl ?_
    exact zm_iret dX4_sameRootBits_41 rfl T
  · have T := T.2 h21
    refine zr_aload_n dX4_sameRootBits_15 rfl 0 rfl ?_
    refine zr_iload_n dX4_sameRootBits_16 rfl 3 rfl ?_
    refine zm_callV_i (c := 4) (b := b0) dX4_sameRootBits_17 w_X4_rootOf l_X4_65 rfl (oX4 _ h0) (by decide) s_X4_rootOf [.int x3] rfl rfl (Nat.le_of_ble_eq_true rfl) (Nat.le_of_ble_eq_true rfl) ?_
    refine zV.post T ?_
    rintro v M23 ⟨r22, rfl, T⟩
    refine ⟨r22, rfl, ?_⟩
    refine zr_aload_n dX4_sameRootBits_20 rfl 0 rfl ?_
    refine zr_iload_n dX4_sameRootBits_21 rfl 1 rfl ?_
    refine zm_callV_i (c := 4) (b := b0) dX4_sameRootBits_22 w_X4_rootOf l_X4_65 rfl (oX4 _ h0) (by decide) s_X4_rootOf [.int x1] rfl rfl (Nat.le_of_ble_eq_true rfl) (Nat.le_of_ble_eq_true rfl) ?_
    refine zV.post T ?_
    rintro v M25 ⟨r24, rfl, T⟩
    refine ⟨r24, rfl, ?_⟩
    refine zr_icmp_ne (tgt := 34) dX4_sameRootBits_25 (by decide) (fun h26 => ?_) (fun h26 => ?_)
    · have T := T.1 h26
      refine zr_iinc (n := 3) (v := x3 + 1) dX4_sameRootBits_34 rfl rfl (by decide) (L2 := [(3, .int (x3 + 1)), (0, .ref b0), (1, .int x1), (2, .int x2)]) rfl ?_
      refine zr_goto (tgt := 4) dX4_sameRootBits_37 (by decide) ?_
      exact zV.pick [1, 2, 3, 0] rfl T
    · have T := T.2 h26
      refine zr_iload_n dX4_sameRootBits_28 rfl 2 rfl ?_
      refine zr_iconst (v := 1) dX4_sameRootBits_29 (by decide) ?_
      refine zr_iload_n dX4_sameRootBits_30 rfl 3 rfl ?_
      refine zr_ishl dX4_sameRootBits_31 ?_
      refine zr_ior dX4_sameRootBits_32 ?_
      refine zr_istore_n dX4_sameRootBits_33 rfl (by decide) (L2 := [(2, .int (x2 ||| ((1 : Int32) <<< (x3 &&& 31)))), (0, .ref b0), (1, .int x1), (3, .int x3)]) rfl ?_
      refine zr_iinc (n := 3) (v := x3 + 1) dX4_sameRootBits_34 rfl rfl (by decide) (L2 := [(3, .int (x3 + 1)), (2, .int (x2 ||| ((1 : Int32) <<< (x3 &&& 31)))), (0, .ref b0), (1, .int x1)]) rfl ?_
      refine zr_goto (tgt := 4) dX4_sameRootBits_37 (by decide) ?_
      exact zV.pick [2, 3, 1, 0] rfl T
set_option maxRecDepth 100000 in
set_option maxHeartbeats 4000000 in
theorem t_X4_rootOf {d : Nat} {b0 : Nat} {x1 : Int32} {M : zMem} {K : zK} (h0 : b0 ∈ iX4)
    (T : vp_in x1 4 ∧ ((¬ (M.1 (pT b0 + 1 + 12 * (Int32.toNatClampNeg x1)) 12) = 0 → vp_in x1 4 ∧ (K (some (.int (M.1 (pT b0 + 1 + 12 * (Int32.toNatClampNeg x1) + 10) 0))) M)) ∧ ((M.1 (pT b0 + 1 + 12 * (Int32.toNatClampNeg x1)) 12) = 0 → K (some (.int 0)) M))) : S_X4_rootOf d b0 x1 M K := by
  show zV m_X4_rootOf d 0 [(0, .ref b0), (1, .int x1)] [] M K
  refine zr_aload_n dX4_rootOf_0 rfl 0 rfl ?_
  refine zm_getr (a := pT b0) dX4_rootOf_1 f_X4_12 (oX4 _ h0) (by decide) (by decide) (rX4_2 _ h0) ?_
  refine zr_iload_n dX4_rootOf_4 rfl 1 rfl ?_
  obtain ⟨hq21, T⟩ := T
  refine zm_aald (t := 4) (n := 4) (q := (Int32.toNatClampNeg x1)) (o := pT b0 + 1 + 12 * (Int32.toNatClampNeg x1)) dX4_rootOf_5 (aX _ (qX4_2 _ h0)) (by decide) (by decide) (fun _ => rfl) (lX _ (qX4_2 _ h0)) hq21 rfl (eX9 _ (qX4_2 _ h0) (z_lt hq21)) ?_
  refine zm_geti dX4_rootOf_6 f_X4_43 (oX9 _ (eX9q _ (qX4_2 _ h0) (z_lt hq21))) (by decide) (by decide) ?_
  refine zr_if_ne (tgt := 16) dX4_rootOf_9 (by decide) (fun h22 => ?_) (fun h22 => ?_)
  · have T := T.1 h22
    refine zr_aload_n dX4_rootOf_16 rfl 0 rfl ?_
    refine zm_getr (a := pT b0) dX4_rootOf_17 f_X4_12 (oX4 _ h0) (by decide) (by decide) (rX4_2 _ h0) ?_
    refine zr_iload_n dX4_rootOf_20 rfl 1 rfl ?_
    obtain ⟨hq23, T⟩ := T
    refine zm_aald (t := 4) (n := 4) (q := (Int32.toNatClampNeg x1)) (o := pT b0 + 1 + 12 * (Int32.toNatClampNeg x1)) dX4_rootOf_21 (aX _ (qX4_2 _ h0)) (by decide) (by decide) (fun _ => rfl) (lX _ (qX4_2 _ h0)) hq23 rfl (eX9 _ (qX4_2 _ h0) (z_lt hq23)) ?_
    refine zm_getr (a := pT b0 + 1 + 12 * (Int32.toNatClampNeg x1) + 10) dX4_rootOf_22 f_X4_47 (oX9 _ (eX9q _ (qX4_2 _ h0) (z_lt hq23))) (by decide) (by decide) (rX9_10 _ (eX9q _ (qX4_2 _ h0) (z_lt hq23))) ?_
    refine zr_iconst (v := 0) dX4_rootOf_25 (by decide) ?_
    refine zm_iald (n := 24) (o := 0) dX4_rootOf_26 (aX _ (qX9_10 _ (eX9q _ (qX4_2 _ h0) (z_lt hq23)))) (lX _ (qX9_10 _ (eX9q _ (qX4_2 _ h0) (z_lt hq23)))) (zin (by decide)) (by decide) ?_
    exact zm_iret dX4_rootOf_27 rfl T
  · have T := T.2 h22
    refine zr_iconst (v := 0) dX4_rootOf_12 (by decide) ?_
    refine zr_goto (tgt := 27) dX4_rootOf_13 (by decide) ?_
    exact zm_iret dX4_rootOf_27 rfl T
set_option maxRecDepth 100000 in
set_option maxHeartbeats 4000000 in
theorem t_X4_tornBits {d : Nat} {b0 : Nat} {M : zMem} {K : zK} (h0 : b0 ∈ iX4)
    (T : S_X4_tornBits_4 (d + 1) b0 0 1 M K) : S_X4_tornBits (d + 1) b0 M K := by
  show zV m_X4_tornBits (d + 1) 0 [(0, .ref b0)] [] M K
  refine zr_iconst (v := 0) dX4_tornBits_0 (by decide) ?_
  refine zr_istore_n dX4_tornBits_1 rfl (by decide) (L2 := [(1, .int 0), (0, .ref b0)]) rfl ?_
  refine zr_iconst (v := 1) dX4_tornBits_2 (by decide) ?_
  refine zr_istore_n dX4_tornBits_3 rfl (by decide) (L2 := [(2, .int 1), (1, .int 0), (0, .ref b0)]) rfl ?_
  exact zV.pick [2, 1, 0] rfl T
set_option maxRecDepth 100000 in
set_option maxHeartbeats 4000000 in
theorem t_X4_tornBits_4 {d : Nat} {b0 : Nat} {x1 : Int32} {x2 : Int32} {M : zMem} {K : zK} (h0 : b0 ∈ iX4)
    (T : ((M.1 3 4) ≤ x2 → K (some (.int x1)) M) ∧ (¬ ((M.1 3 4) ≤ x2) → S_X4_differBits d b0 0 x2 M (zI (fun r22 M23 => S_X4_tornBits_4 (d + 1) b0 (x1 ||| r22) (x2 + 1) M23 K)))) : S_X4_tornBits_4 (d + 1) b0 x1 x2 M K := by
  show zV m_X4_tornBits (d + 1) 4 [(0, .ref b0), (1, .int x1), (2, .int x2)] [] M K
  refine zr_iload_n dX4_tornBits_4 rfl 2 rfl ?_
  refine zr_aload_n dX4_tornBits_5 rfl 0 rfl ?_
  refine zm_getr (a := 3) dX4_tornBits_6 f_X4_22 (oX4 _ h0) (by decide) (by decide) (rX4_0 _ h0) ?_
  refine zm_geti dX4_tornBits_9 f_X4_50 (by decide) (by decide) (by decide) ?_
  refine zr_icmp_ge (tgt := 30) dX4_tornBits_12 (by decide) (fun h21 => ?_) (fun h21 => ?_)
  · have T := T.1 h21
    refine zr_iload_n dX4_tornBits_30 rfl 1 rfl ?_
    exact zm_iret dX4_tornBits_31 rfl T
  · have T := T.2 h21
    refine zr_iload_n dX4_tornBits_15 rfl 1 rfl ?_
    refine zr_aload_n dX4_tornBits_16 rfl 0 rfl ?_
    refine zr_iconst (v := 0) dX4_tornBits_17 (by decide) ?_
    refine zr_iload_n dX4_tornBits_18 rfl 2 rfl ?_
    refine zm_callV_i (c := 4) (b := b0) dX4_tornBits_19 w_X4_differBits l_X4_76 rfl (oX4 _ h0) (by decide) s_X4_differBits [.int 0, .int x2] rfl rfl (Nat.le_of_ble_eq_true rfl) (Nat.le_of_ble_eq_true rfl) ?_
    refine zV.post T ?_
    rintro v M23 ⟨r22, rfl, T⟩
    refine ⟨r22, rfl, ?_⟩
    refine zr_ior dX4_tornBits_22 ?_
    refine zr_istore_n dX4_tornBits_23 rfl (by decide) (L2 := [(1, .int (x1 ||| r22)), (0, .ref b0), (2, .int x2)]) rfl ?_
    refine zr_iinc (n := 2) (v := x2 + 1) dX4_tornBits_24 rfl rfl (by decide) (L2 := [(2, .int (x2 + 1)), (1, .int (x1 ||| r22)), (0, .ref b0)]) rfl ?_
    refine zr_goto (tgt := 4) dX4_tornBits_27 (by decide) ?_
    exact zV.pick [2, 1, 0] rfl T
set_option maxRecDepth 100000 in
set_option maxHeartbeats 4000000 in
theorem t_X4_differBits {d : Nat} {b0 : Nat} {x1 : Int32} {x2 : Int32} {M : zMem} {K : zK} (h0 : b0 ∈ iX4)
    (T : S_X4_differBits_5 (d + 1) b0 x1 x2 0 0 M K) : S_X4_differBits (d + 1) b0 x1 x2 M K := by
  show zV m_X4_differBits (d + 1) 0 [(0, .ref b0), (1, .int x1), (2, .int x2)] [] M K
  refine zr_iconst (v := 0) dX4_differBits_0 (by decide) ?_
  refine zr_istore_n dX4_differBits_1 rfl (by decide) (L2 := [(3, .int 0), (0, .ref b0), (1, .int x1), (2, .int x2)]) rfl ?_
  refine zr_iconst (v := 0) dX4_differBits_2 (by decide) ?_
  refine zr_istore dX4_differBits_3 (by decide) (L2 := [(4, .int 0), (3, .int 0), (0, .ref b0), (1, .int x1), (2, .int x2)]) rfl ?_
  exact zV.pick [2, 3, 4, 1, 0] rfl T
set_option maxRecDepth 100000 in
set_option maxHeartbeats 4000000 in
theorem t_X4_differBits_5 {d : Nat} {b0 : Nat} {x1 : Int32} {x2 : Int32} {x3 : Int32} {x4 : Int32} {M : zMem} {K : zK} (h0 : b0 ∈ iX4)
    (T : ((M.1 3 3) ≤ x4 → K (some (.int x3)) M) ∧ (¬ ((M.1 3 3) ≤ x4) → S_X3_isSame d (pF b0) x1 x2 x4 M (zB (fun r22 M23 => (r22 = true → S_X4_differBits_5 (d + 1) b0 x1 x2 x3 (x4 + 1) M23 K) ∧ (r22 = false → S_X4_differBits_5 (d + 1) b0 x1 x2 (x3 ||| ((1 : Int32) <<< (x4 &&& 31))) (x4 + 1) M23 K))))) : S_X4_differBits_5 (d + 1) b0 x1 x2 x3 x4 M K := by
  show zV m_X4_differBits (d + 1) 5 [(0, .ref b0), (1, .int x1), (2, .int x2), (3, .int x3), (4, .int x4)] [] M K
  refine zr_iload dX4_differBits_5 4 rfl ?_
  refine zr_aload_n dX4_differBits_7 rfl 0 rfl ?_
  refine zm_getr (a := 3) dX4_differBits_8 f_X4_22 (oX4 _ h0) (by decide) (by decide) (rX4_0 _ h0) ?_
  refine zm_geti dX4_differBits_11 f_X4_59 (by decide) (by decide) (by decide) ?_
  refine zr_icmp_ge (tgt := 44) dX4_differBits_14 (by decide) (fun h21 => ?_) (fun h21 => ?_)
  · have T := T.1 h21
    refine zr_iload_n dX4_differBits_44 rfl 3 rfl ?_
    exact zm_iret dX4_differBits_45 rfl T
  · have T := T.2 h21
    refine zr_aload_n dX4_differBits_17 rfl 0 rfl ?_
    refine zm_getr (a := pF b0) dX4_differBits_18 f_X4_26 (oX4 _ h0) (by decide) (by decide) (rX4_1 _ h0) ?_
    refine zr_iload_n dX4_differBits_21 rfl 1 rfl ?_
    refine zr_iload_n dX4_differBits_22 rfl 2 rfl ?_
    refine zr_iload dX4_differBits_23 4 rfl ?_
    refine zm_callV_b (c := 3) (b := pF b0) dX4_differBits_25 w_X3_isSame l_X4_72 rfl (oX3 _ (qX4_1 _ h0)) (by decide) s_X3_isSame [.int x1, .int x2, .int x4] rfl rfl (Nat.le_of_ble_eq_true rfl) (Nat.le_of_ble_eq_true rfl) ?_
    refine zV.post T ?_
    rintro v M23 ⟨r22, rfl, T⟩
    refine ⟨r22, rfl, ?_⟩
    refine zm_ifb_ne (tgt := 38) dX4_differBits_28 (by decide) (fun h24 => ?_) (fun h24 => ?_)
    · have T := T.1 h24
      refine zr_iinc (n := 4) (v := x4 + 1) dX4_differBits_38 rfl rfl (by decide) (L2 := [(4, .int (x4 + 1)), (0, .ref b0), (1, .int x1), (2, .int x2), (3, .int x3)]) rfl ?_
      refine zr_goto (tgt := 5) dX4_differBits_41 (by decide) ?_
      exact zV.pick [1, 2, 3, 4, 0] rfl T
    · have T := T.2 h24
      refine zr_iload_n dX4_differBits_31 rfl 3 rfl ?_
      refine zr_iconst (v := 1) dX4_differBits_32 (by decide) ?_
      refine zr_iload dX4_differBits_33 4 rfl ?_
      refine zr_ishl dX4_differBits_35 ?_
      refine zr_ior dX4_differBits_36 ?_
      refine zr_istore_n dX4_differBits_37 rfl (by decide) (L2 := [(3, .int (x3 ||| ((1 : Int32) <<< (x4 &&& 31)))), (0, .ref b0), (1, .int x1), (2, .int x2), (4, .int x4)]) rfl ?_
      refine zr_iinc (n := 4) (v := x4 + 1) dX4_differBits_38 rfl rfl (by decide) (L2 := [(4, .int (x4 + 1)), (3, .int (x3 ||| ((1 : Int32) <<< (x4 &&& 31)))), (0, .ref b0), (1, .int x1), (2, .int x2)]) rfl ?_
      refine zr_goto (tgt := 5) dX4_differBits_41 (by decide) ?_
      exact zV.pick [2, 3, 4, 1, 0] rfl T
set_option maxRecDepth 100000 in
set_option maxHeartbeats 4000000 in
theorem t_X4_rootKinds {d : Nat} {b0 : Nat} {M : zMem} {K : zK} (h0 : b0 ∈ iX4)
    (T : S_X4_rootKinds_4 (d + 1) b0 0 0 M K) : S_X4_rootKinds (d + 1) b0 M K := by
  show zV m_X4_rootKinds (d + 1) 0 [(0, .ref b0)] [] M K
  refine zr_iconst (v := 0) dX4_rootKinds_0 (by decide) ?_
  refine zr_istore_n dX4_rootKinds_1 rfl (by decide) (L2 := [(1, .int 0), (0, .ref b0)]) rfl ?_
  refine zr_iconst (v := 0) dX4_rootKinds_2 (by decide) ?_
  refine zr_istore_n dX4_rootKinds_3 rfl (by decide) (L2 := [(2, .int 0), (1, .int 0), (0, .ref b0)]) rfl ?_
  exact zV.pick [2, 1, 0] rfl T
set_option maxRecDepth 100000 in
set_option maxHeartbeats 4000000 in
theorem t_X4_rootKinds_4 {d : Nat} {b0 : Nat} {x1 : Int32} {x2 : Int32} {M : zMem} {K : zK} (h0 : b0 ∈ iX4)
    (T : ((M.1 3 4) ≤ x2 → K (some (.int x1)) M) ∧ (¬ ((M.1 3 4) ≤ x2) → S_X4_sameRootBits d b0 x2 M (zI (fun r22 M23 => (¬ (r22 &&& (((1 : Int32) <<< (x2 &&& 31)) - 1)) = 0 → S_X4_rootKinds_4 (d + 1) b0 x1 (x2 + 1) M23 K) ∧ ((r22 &&& (((1 : Int32) <<< (x2 &&& 31)) - 1)) = 0 → S_X4_rootKinds_4 (d + 1) b0 (x1 + 1) (x2 + 1) M23 K))))) : S_X4_rootKinds_4 (d + 1) b0 x1 x2 M K := by
  show zV m_X4_rootKinds (d + 1) 4 [(0, .ref b0), (1, .int x1), (2, .int x2)] [] M K
  refine zr_iload_n dX4_rootKinds_4 rfl 2 rfl ?_
  refine zr_aload_n dX4_rootKinds_5 rfl 0 rfl ?_
  refine zm_getr (a := 3) dX4_rootKinds_6 f_X4_22 (oX4 _ h0) (by decide) (by decide) (rX4_0 _ h0) ?_
  refine zm_geti dX4_rootKinds_9 f_X4_50 (by decide) (by decide) (by decide) ?_
  refine zr_icmp_ge (tgt := 38) dX4_rootKinds_12 (by decide) (fun h21 => ?_) (fun h21 => ?_)
  · have T := T.1 h21
    refine zr_iload_n dX4_rootKinds_38 rfl 1 rfl ?_
    exact zm_iret dX4_rootKinds_39 rfl T
  · have T := T.2 h21
    refine zr_aload_n dX4_rootKinds_15 rfl 0 rfl ?_
    refine zr_iload_n dX4_rootKinds_16 rfl 2 rfl ?_
    refine zm_callV_i (c := 4) (b := b0) dX4_rootKinds_17 w_X4_sameRootBits l_X4_69 rfl (oX4 _ h0) (by decide) s_X4_sameRootBits [.int x2] rfl rfl (Nat.le_of_ble_eq_true rfl) (Nat.le_of_ble_eq_true rfl) ?_
    refine zV.post T ?_
    rintro v M23 ⟨r22, rfl, T⟩
    refine ⟨r22, rfl, ?_⟩
    refine zr_iconst (v := 1) dX4_rootKinds_20 (by decide) ?_
    refine zr_iload_n dX4_rootKinds_21 rfl 2 rfl ?_
    refine zr_ishl dX4_rootKinds_22 ?_
    refine zr_iconst (v := 1) dX4_rootKinds_23 (by decide) ?_
    refine zr_isub dX4_rootKinds_24 ?_
    refine zr_iand dX4_rootKinds_25 ?_
    refine zr_if_ne (tgt := 32) dX4_rootKinds_26 (by decide) (fun h24 => ?_) (fun h24 => ?_)
    · have T := T.1 h24
      refine zr_iinc (n := 2) (v := x2 + 1) dX4_rootKinds_32 rfl rfl (by decide) (L2 := [(2, .int (x2 + 1)), (0, .ref b0), (1, .int x1)]) rfl ?_
      refine zr_goto (tgt := 4) dX4_rootKinds_35 (by decide) ?_
      exact zV.pick [1, 2, 0] rfl T
    · have T := T.2 h24
      refine zr_iinc (n := 1) (v := x1 + 1) dX4_rootKinds_29 rfl rfl (by decide) (L2 := [(1, .int (x1 + 1)), (0, .ref b0), (2, .int x2)]) rfl ?_
      refine zr_iinc (n := 2) (v := x2 + 1) dX4_rootKinds_32 rfl rfl (by decide) (L2 := [(2, .int (x2 + 1)), (1, .int (x1 + 1)), (0, .ref b0)]) rfl ?_
      refine zr_goto (tgt := 4) dX4_rootKinds_35 (by decide) ?_
      exact zV.pick [2, 1, 0] rfl T
set_option maxRecDepth 100000 in
set_option maxHeartbeats 4000000 in
theorem t_X10_note {d : Nat} {b1 : Nat} {M : zMem} {K : zK} (h1 : b1 ∈ iX3)
    (T : vp_in (M.1 170 1) 9 ∧ (S_X3_copyFrom d (172 + 5 * (Int32.toNatClampNeg (M.1 170 1))) b1 M (zU (fun M23 => K none M23)))) : S_X10_note (d + 1) b1 M K := by
  show zV m_X10_note (d + 1) 0 [(0, .ref 170), (1, .ref b1)] [] M K
  refine zr_aload_n dX10_note_0 rfl 0 rfl ?_
  refine zm_getr (a := 171) dX10_note_1 f_X10_11 (by decide) (by decide) (by decide) (by decide) ?_
  refine zr_aload_n dX10_note_4 rfl 0 rfl ?_
  refine zm_geti dX10_note_5 f_X10_17 (by decide) (by decide) (by decide) ?_
  obtain ⟨hq21, T⟩ := T
  refine zm_aald (t := 6) (n := 9) (q := (Int32.toNatClampNeg (M.1 170 1))) (o := 172 + 5 * (Int32.toNatClampNeg (M.1 170 1))) dX10_note_8 (by decide) (by decide) (by decide) (fun _ => rfl) (by decide) hq21 rfl (e171 (z_lt hq21)) ?_
  refine zr_aload_n dX10_note_9 rfl 1 rfl ?_
  refine zm_callV_v (c := 3) (b := 172 + 5 * (Int32.toNatClampNeg (M.1 170 1))) dX10_note_10 w_X3_copyFrom l_X10_25 rfl (oX3 _ (e171q (z_lt hq21))) (by decide) s_X3_copyFrom [.ref b1] rfl rfl (Nat.le_of_ble_eq_true rfl) (Nat.le_of_ble_eq_true rfl) ?_
  refine zV.post T ?_
  rintro v M23 ⟨rfl, T⟩
  refine ⟨rfl, ?_⟩
  exact zm_vret dX10_note_13 rfl T
set_option maxRecDepth 100000 in
set_option maxHeartbeats 4000000 in
theorem t_X4_tryPut {d : Nat} {b0 : Nat} {x1 : Int32} {x2 : Int32} {x3 : Int32} {M : zMem} {K : zK} (h0 : b0 ∈ iX4)
    (T : S_X3_has d (pF b0) x1 x2 M (zB (fun r21 M22 => (r21 = false → S_X4_tryPut_27 (d + 1) b0 x1 x2 x3 M22 K) ∧ (r21 = true → S_X3_valueOf d (pF b0) x1 x2 M22 (zI (fun r24 M25 => (¬ r24 = x3 → S_X4_tryPut_27 (d + 1) b0 x1 x2 x3 M25 K) ∧ (r24 = x3 → K (some (.int 1)) M25))))))) : S_X4_tryPut (d + 1) b0 x1 x2 x3 M K := by
  show zV m_X4_tryPut (d + 1) 0 [(0, .ref b0), (1, .int x1), (2, .int x2), (3, .int x3)] [] M K
  refine zr_aload_n dX4_tryPut_0 rfl 0 rfl ?_
  refine zm_getr (a := pF b0) dX4_tryPut_1 f_X4_26 (oX4 _ h0) (by decide) (by decide) (rX4_1 _ h0) ?_
  refine zr_iload_n dX4_tryPut_4 rfl 1 rfl ?_
  refine zr_iload_n dX4_tryPut_5 rfl 2 rfl ?_
  refine zm_callV_b (c := 3) (b := pF b0) dX4_tryPut_6 w_X3_has l_X4_55 rfl (oX3 _ (qX4_1 _ h0)) (by decide) s_X3_has [.int x1, .int x2] rfl rfl (Nat.le_of_ble_eq_true rfl) (Nat.le_of_ble_eq_true rfl) ?_
  refine zV.post T ?_
  rintro v M22 ⟨r21, rfl, T⟩
  refine ⟨r21, rfl, ?_⟩
  refine zm_ifb_eq (tgt := 27) dX4_tryPut_9 (by decide) (fun h23 => ?_) (fun h23 => ?_)
  · have T := T.1 h23
    exact zV.pick [0, 1, 2, 3] rfl T
  · have T := T.2 h23
    refine zr_aload_n dX4_tryPut_12 rfl 0 rfl ?_
    refine zm_getr (a := pF b0) dX4_tryPut_13 f_X4_26 (oX4 _ h0) (by decide) (by decide) (rX4_1 _ h0) ?_
    refine zr_iload_n dX4_tryPut_16 rfl 1 rfl ?_
    refine zr_iload_n dX4_tryPut_17 rfl 2 rfl ?_
    refine zm_callV_i (c := 3) (b := pF b0) dX4_tryPut_18 w_X3_valueOf l_X4_110 rfl (oX3 _ (qX4_1 _ h0)) (by decide) s_X3_valueOf [.int x1, .int x2] rfl rfl (Nat.le_of_ble_eq_true rfl) (Nat.le_of_ble_eq_true rfl) ?_
    refine zV.post T ?_
    rintro v M25 ⟨r24, rfl, T⟩
    refine ⟨r24, rfl, ?_⟩
    refine zr_iload_n dX4_tryPut_21 rfl 3 rfl ?_
    refine zr_icmp_ne (tgt := 27) dX4_tryPut_22 (by decide) (fun h26 => ?_) (fun h26 => ?_)
    · have T := T.1 h26
      exact zV.pick [0, 1, 2, 3] rfl T
    · have T := T.2 h26
      refine zr_iconst (v := 1) dX4_tryPut_25 (by decide) ?_
      exact zm_iret dX4_tryPut_26 rfl T
set_option maxRecDepth 100000 in
set_option maxHeartbeats 4000000 in
theorem t_X4_tryPut_27 {d : Nat} {b0 : Nat} {x1 : Int32} {x2 : Int32} {x3 : Int32} {M : zMem} {K : zK} (h0 : b0 ∈ iX4)
    (T : S_X3_write d (pF b0) x1 x2 x3 M (zU (fun M22 => vp_in x1 4 ∧ (S_X9_grow d (pT b0 + 1 + 12 * (Int32.toNatClampNeg x1)) 3 (pF b0) x1 M22 (zU (fun M25 => K (some (.int 0)) M25)))))) : S_X4_tryPut_27 (d + 1) b0 x1 x2 x3 M K := by
  show zV m_X4_tryPut (d + 1) 27 [(0, .ref b0), (1, .int x1), (2, .int x2), (3, .int x3)] [] M K
  refine zr_aload_n dX4_tryPut_27 rfl 0 rfl ?_
  refine zm_getr (a := pF b0) dX4_tryPut_28 f_X4_26 (oX4 _ h0) (by decide) (by decide) (rX4_1 _ h0) ?_
  refine zr_iload_n dX4_tryPut_31 rfl 1 rfl ?_
  refine zr_iload_n dX4_tryPut_32 rfl 2 rfl ?_
  refine zr_iload_n dX4_tryPut_33 rfl 3 rfl ?_
  refine zm_callV_v (c := 3) (b := pF b0) dX4_tryPut_34 w_X3_write l_X4_116 rfl (oX3 _ (qX4_1 _ h0)) (by decide) s_X3_write [.int x1, .int x2, .int x3] rfl rfl (Nat.le_of_ble_eq_true rfl) (Nat.le_of_ble_eq_true rfl) ?_
  refine zV.post T ?_
  rintro v M22 ⟨rfl, T⟩
  refine ⟨rfl, ?_⟩
  refine zr_aload_n dX4_tryPut_37 rfl 0 rfl ?_
  refine zm_getr (a := pT b0) dX4_tryPut_38 f_X4_12 (oX4 _ h0) (by decide) (by decide) (rX4_2 _ h0) ?_
  refine zr_iload_n dX4_tryPut_41 rfl 1 rfl ?_
  obtain ⟨hq23, T⟩ := T
  refine zm_aald (t := 4) (n := 4) (q := (Int32.toNatClampNeg x1)) (o := pT b0 + 1 + 12 * (Int32.toNatClampNeg x1)) dX4_tryPut_42 (aX _ (qX4_2 _ h0)) (by decide) (by decide) (fun _ => rfl) (lX _ (qX4_2 _ h0)) hq23 rfl (eX9 _ (qX4_2 _ h0) (z_lt hq23)) ?_
  refine zr_aload_n dX4_tryPut_43 rfl 0 rfl ?_
  refine zm_getr (a := 3) dX4_tryPut_44 f_X4_22 (oX4 _ h0) (by decide) (by decide) (rX4_0 _ h0) ?_
  refine zr_aload_n dX4_tryPut_47 rfl 0 rfl ?_
  refine zm_getr (a := pF b0) dX4_tryPut_48 f_X4_26 (oX4 _ h0) (by decide) (by decide) (rX4_1 _ h0) ?_
  refine zr_iload_n dX4_tryPut_51 rfl 1 rfl ?_
  refine zm_callV_v (c := 9) (b := pT b0 + 1 + 12 * (Int32.toNatClampNeg x1)) dX4_tryPut_52 w_X9_grow l_X4_39 rfl (oX9 _ (eX9q _ (qX4_2 _ h0) (z_lt hq23))) (by decide) s_X9_grow [.ref 3, .ref (pF b0), .int x1] rfl rfl (Nat.le_of_ble_eq_true rfl) (Nat.le_of_ble_eq_true rfl) ?_
  refine zV.post T ?_
  rintro v M25 ⟨rfl, T⟩
  refine ⟨rfl, ?_⟩
  refine zr_iconst (v := 0) dX4_tryPut_55 (by decide) ?_
  exact zm_iret dX4_tryPut_56 rfl T
set_option maxRecDepth 100000 in
set_option maxHeartbeats 4000000 in
theorem t_X10_keepNoted {d : Nat}  {M : zMem} {K : zK} 
    (T : (∀ M21 : zMem, M21 = wI M 170 1 (((M.1 170 1) + 1) - ((M.1 170 1) + 1) / 9 * 9) → (∀ M23 : zMem, M23 = wI M21 170 2 (if 8 < ((M21.1 170 2) + 1) then 8 else ((M21.1 170 2) + 1)) → K none M23))) : S_X10_keepNoted (d + 1)  M K := by
  show zV m_X10_keepNoted (d + 1) 0 [(0, .ref 170)] [] M K
  refine zr_aload_n dX10_keepNoted_0 rfl 0 rfl ?_
  refine zr_aload_n dX10_keepNoted_1 rfl 0 rfl ?_
  refine zm_geti dX10_keepNoted_2 f_X10_17 (by decide) (by decide) (by decide) ?_
  refine zr_iconst (v := 1) dX10_keepNoted_5 (by decide) ?_
  refine zr_iadd dX10_keepNoted_6 ?_
  refine zr_bipush (v := 9) dX10_keepNoted_7 (by decide) ?_
  refine zr_irem dX10_keepNoted_9 (by decide) ?_
  refine zn_puti dX10_keepNoted_10 f_X10_17 (by decide) (by decide) (by decide) (fun M21 e22 => ?_)
  have T := T M21 e22
  refine zr_aload_n dX10_keepNoted_13 rfl 0 rfl ?_
  refine zr_aload_n dX10_keepNoted_14 rfl 0 rfl ?_
  refine zm_geti dX10_keepNoted_15 f_X10_21 (by decide) (by decide) (by decide) ?_
  refine zr_iconst (v := 1) dX10_keepNoted_18 (by decide) ?_
  refine zr_iadd dX10_keepNoted_19 ?_
  refine zr_bipush (v := 8) dX10_keepNoted_20 (by decide) ?_
  refine zm_mmin dX10_keepNoted_22 l_X10_29 zmw_min (Nat.le_of_ble_eq_true rfl) ?_
  refine zn_puti dX10_keepNoted_25 f_X10_21 (by decide) (by decide) (by decide) (fun M23 e24 => ?_)
  have T := T M23 e24
  exact zm_vret dX10_keepNoted_28 rfl T
set_option maxRecDepth 100000 in
set_option maxHeartbeats 4000000 in
theorem t_X4_tryDrop {d : Nat} {b0 : Nat} {x1 : Int32} {x2 : Int32} {M : zMem} {K : zK} (h0 : b0 ∈ iX4)
    (T : S_X3_has d (pF b0) x1 x2 M (zB (fun r21 M22 => (r21 = false → K (some (.int 1)) M22) ∧ (r21 = true → S_X3_isGone d (pF b0) x1 x2 M22 (zB (fun r24 M25 => (r24 = false → S_X3_write d (pF b0) x1 x2 (-1) M25 (zU (fun M28 => vp_in x1 4 ∧ (S_X9_grow d (pT b0 + 1 + 12 * (Int32.toNatClampNeg x1)) 3 (pF b0) x1 M28 (zU (fun M31 => K (some (.int 0)) M31)))))) ∧ (r24 = true → K (some (.int 1)) M25))))))) : S_X4_tryDrop (d + 1) b0 x1 x2 M K := by
  show zV m_X4_tryDrop (d + 1) 0 [(0, .ref b0), (1, .int x1), (2, .int x2)] [] M K
  refine zr_aload_n dX4_tryDrop_0 rfl 0 rfl ?_
  refine zm_getr (a := pF b0) dX4_tryDrop_1 f_X4_26 (oX4 _ h0) (by decide) (by decide) (rX4_1 _ h0) ?_
  refine zr_iload_n dX4_tryDrop_4 rfl 1 rfl ?_
  refine zr_iload_n dX4_tryDrop_5 rfl 2 rfl ?_
  refine zm_callV_b (c := 3) (b := pF b0) dX4_tryDrop_6 w_X3_has l_X4_55 rfl (oX3 _ (qX4_1 _ h0)) (by decide) s_X3_has [.int x1, .int x2] rfl rfl (Nat.le_of_ble_eq_true rfl) (Nat.le_of_ble_eq_true rfl) ?_
  refine zV.post T ?_
  rintro v M22 ⟨r21, rfl, T⟩
  refine ⟨r21, rfl, ?_⟩
  refine zm_ifb_eq (tgt := 24) dX4_tryDrop_9 (by decide) (fun h23 => ?_) (fun h23 => ?_)
  · have T := T.1 h23
    refine zr_iconst (v := 1) dX4_tryDrop_24 (by decide) ?_
    exact zm_iret dX4_tryDrop_25 rfl T
  · have T := T.2 h23
    refine zr_aload_n dX4_tryDrop_12 rfl 0 rfl ?_
    refine zm_getr (a := pF b0) dX4_tryDrop_13 f_X4_26 (oX4 _ h0) (by decide) (by decide) (rX4_1 _ h0) ?_
    refine zr_iload_n dX4_tryDrop_16 rfl 1 rfl ?_
    refine zr_iload_n dX4_tryDrop_17 rfl 2 rfl ?_
    refine zm_callV_b (c := 3) (b := pF b0) dX4_tryDrop_18 w_X3_isGone l_X4_62 rfl (oX3 _ (qX4_1 _ h0)) (by decide) s_X3_isGone [.int x1, .int x2] rfl rfl (Nat.le_of_ble_eq_true rfl) (Nat.le_of_ble_eq_true rfl) ?_
    refine zV.post T ?_
    rintro v M25 ⟨r24, rfl, T⟩
    refine ⟨r24, rfl, ?_⟩
    refine zm_ifb_eq (tgt := 26) dX4_tryDrop_21 (by decide) (fun h26 => ?_) (fun h26 => ?_)
    · have T := T.1 h26
      refine zr_aload_n dX4_tryDrop_26 rfl 0 rfl ?_
      refine zm_getr (a := pF b0) dX4_tryDrop_27 f_X4_26 (oX4 _ h0) (by decide) (by decide) (rX4_1 _ h0) ?_
      refine zr_iload_n dX4_tryDrop_30 rfl 1 rfl ?_
      refine zr_iload_n dX4_tryDrop_31 rfl 2 rfl ?_
      refine zr_iconst (v := (-1)) dX4_tryDrop_32 (by decide) ?_
      refine zm_callV_v (c := 3) (b := pF b0) dX4_tryDrop_33 w_X3_write l_X4_116 rfl (oX3 _ (qX4_1 _ h0)) (by decide) s_X3_write [.int x1, .int x2, .int (-1)] rfl rfl (Nat.le_of_ble_eq_true rfl) (Nat.le_of_ble_eq_true rfl) ?_
      refine zV.post T ?_
      rintro v M28 ⟨rfl, T⟩
      refine ⟨rfl, ?_⟩
      refine zr_aload_n dX4_tryDrop_36 rfl 0 rfl ?_
      refine zm_getr (a := pT b0) dX4_tryDrop_37 f_X4_12 (oX4 _ h0) (by decide) (by decide) (rX4_2 _ h0) ?_
      refine zr_iload_n dX4_tryDrop_40 rfl 1 rfl ?_
      obtain ⟨hq29, T⟩ := T
      refine zm_aald (t := 4) (n := 4) (q := (Int32.toNatClampNeg x1)) (o := pT b0 + 1 + 12 * (Int32.toNatClampNeg x1)) dX4_tryDrop_41 (aX _ (qX4_2 _ h0)) (by decide) (by decide) (fun _ => rfl) (lX _ (qX4_2 _ h0)) hq29 rfl (eX9 _ (qX4_2 _ h0) (z_lt hq29)) ?_
      refine zr_aload_n dX4_tryDrop_42 rfl 0 rfl ?_
      refine zm_getr (a := 3) dX4_tryDrop_43 f_X4_22 (oX4 _ h0) (by decide) (by decide) (rX4_0 _ h0) ?_
      refine zr_aload_n dX4_tryDrop_46 rfl 0 rfl ?_
      refine zm_getr (a := pF b0) dX4_tryDrop_47 f_X4_26 (oX4 _ h0) (by decide) (by decide) (rX4_1 _ h0) ?_
      refine zr_iload_n dX4_tryDrop_50 rfl 1 rfl ?_
      refine zm_callV_v (c := 9) (b := pT b0 + 1 + 12 * (Int32.toNatClampNeg x1)) dX4_tryDrop_51 w_X9_grow l_X4_39 rfl (oX9 _ (eX9q _ (qX4_2 _ h0) (z_lt hq29))) (by decide) s_X9_grow [.ref 3, .ref (pF b0), .int x1] rfl rfl (Nat.le_of_ble_eq_true rfl) (Nat.le_of_ble_eq_true rfl) ?_
      refine zV.post T ?_
      rintro v M31 ⟨rfl, T⟩
      refine ⟨rfl, ?_⟩
      refine zr_iconst (v := 0) dX4_tryDrop_54 (by decide) ?_
      exact zm_iret dX4_tryDrop_55 rfl T
    · have T := T.2 h26
      refine zr_iconst (v := 1) dX4_tryDrop_24 (by decide) ?_
      exact zm_iret dX4_tryDrop_25 rfl T
set_option maxRecDepth 100000 in
set_option maxHeartbeats 4000000 in
theorem t_X4_tryPull {d : Nat} {b0 : Nat} {x1 : Int32} {x2 : Int32} {M : zMem} {K : zK} (h0 : b0 ∈ iX4)
    (T : S_X3_areCut d (pF b0) x1 x2 M (zB (fun r21 M22 => (r21 = false → S_X4_rootOf d b0 x1 M22 (zI (fun r24 M25 => S_X4_rootOf d b0 x2 M25 (zI (fun r26 M27 => (¬ r24 = r26 → S_X4_findOffers d b0 x1 x2 M27 (zI (fun r29 M30 => (¬ (if (M30.1 3 1) < r29 then (M30.1 3 1) else r29) = 0 → S_X4_tryPull_55 (d + 1) b0 x1 x2 (if (M30.1 3 1) < r29 then (M30.1 3 1) else r29) 0 M30 K) ∧ ((if (M30.1 3 1) < r29 then (M30.1 3 1) else r29) = 0 → K (some (.int 3)) M30)))) ∧ (r24 = r26 → K (some (.int 2)) M27)))))) ∧ (r21 = true → K (some (.int 1)) M22)))) : S_X4_tryPull (d + 1) b0 x1 x2 M K := by
  show zV m_X4_tryPull (d + 1) 0 [(0, .ref b0), (1, .int x1), (2, .int x2)] [] M K
  refine zr_aload_n dX4_tryPull_0 rfl 0 rfl ?_
  refine zm_getr (a := pF b0) dX4_tryPull_1 f_X4_26 (oX4 _ h0) (by decide) (by decide) (rX4_1 _ h0) ?_
  refine zr_iload_n dX4_tryPull_4 rfl 1 rfl ?_
  refine zr_iload_n dX4_tryPull_5 rfl 2 rfl ?_
  refine zm_callV_b (c := 3) (b := pF b0) dX4_tryPull_6 w_X3_areCut l_X4_120 rfl (oX3 _ (qX4_1 _ h0)) (by decide) s_X3_areCut [.int x1, .int x2] rfl rfl (Nat.le_of_ble_eq_true rfl) (Nat.le_of_ble_eq_true rfl) ?_
  refine zV.post T ?_
  rintro v M22 ⟨r21, rfl, T⟩
  refine ⟨r21, rfl, ?_⟩
  refine zm_ifb_eq (tgt := 14) dX4_tryPull_9 (by decide) (fun h23 => ?_) (fun h23 => ?_)
  · have T := T.1 h23
    refine zr_aload_n dX4_tryPull_14 rfl 0 rfl ?_
    refine zr_iload_n dX4_tryPull_15 rfl 1 rfl ?_
    refine zm_callV_i (c := 4) (b := b0) dX4_tryPull_16 w_X4_rootOf l_X4_65 rfl (oX4 _ h0) (by decide) s_X4_rootOf [.int x1] rfl rfl (Nat.le_of_ble_eq_true rfl) (Nat.le_of_ble_eq_true rfl) ?_
    refine zV.post T ?_
    rintro v M25 ⟨r24, rfl, T⟩
    refine ⟨r24, rfl, ?_⟩
    refine zr_aload_n dX4_tryPull_19 rfl 0 rfl ?_
    refine zr_iload_n dX4_tryPull_20 rfl 2 rfl ?_
    refine zm_callV_i (c := 4) (b := b0) dX4_tryPull_21 w_X4_rootOf l_X4_65 rfl (oX4 _ h0) (by decide) s_X4_rootOf [.int x2] rfl rfl (Nat.le_of_ble_eq_true rfl) (Nat.le_of_ble_eq_true rfl) ?_
    refine zV.post T ?_
    rintro v M27 ⟨r26, rfl, T⟩
    refine ⟨r26, rfl, ?_⟩
    refine zr_icmp_ne (tgt := 29) dX4_tryPull_24 (by decide) (fun h28 => ?_) (fun h28 => ?_)
    · have T := T.1 h28
      refine zr_aload_n dX4_tryPull_29 rfl 0 rfl ?_
      refine zr_iload_n dX4_tryPull_30 rfl 1 rfl ?_
      refine zr_iload_n dX4_tryPull_31 rfl 2 rfl ?_
      refine zm_callV_i (c := 4) (b := b0) dX4_tryPull_32 w_X4_findOffers l_X4_123 rfl (oX4 _ h0) (by decide) s_X4_findOffers [.int x1, .int x2] rfl rfl (Nat.le_of_ble_eq_true rfl) (Nat.le_of_ble_eq_true rfl) ?_
      refine zV.post T ?_
      rintro v M30 ⟨r29, rfl, T⟩
      refine ⟨r29, rfl, ?_⟩
      refine zr_aload_n dX4_tryPull_35 rfl 0 rfl ?_
      refine zm_getr (a := 3) dX4_tryPull_36 f_X4_22 (oX4 _ h0) (by decide) (by decide) (rX4_0 _ h0) ?_
      refine zm_geti dX4_tryPull_39 f_X4_126 (by decide) (by decide) (by decide) ?_
      refine zm_mmin dX4_tryPull_42 l_X4_129 zmw_min (Nat.le_of_ble_eq_true rfl) ?_
      refine zr_istore_n dX4_tryPull_45 rfl (by decide) (L2 := [(3, .int (if (M30.1 3 1) < r29 then (M30.1 3 1) else r29)), (0, .ref b0), (1, .int x1), (2, .int x2)]) rfl ?_
      refine zr_iload_n dX4_tryPull_46 rfl 0 rfl ?_
      refine zr_if_ne (tgt := 52) dX4_tryPull_47 (by decide) (fun h31 => ?_) (fun h31 => ?_)
      · have T := T.1 h31
        refine zr_iconst (v := 0) dX4_tryPull_52 (by decide) ?_
        refine zr_istore dX4_tryPull_53 (by decide) (L2 := [(4, .int 0), (3, .int (if (M30.1 3 1) < r29 then (M30.1 3 1) else r29)), (0, .ref b0), (1, .int x1), (2, .int x2)]) rfl ?_
        exact zV.pick [2, 3, 4, 1, 0] rfl T
      · have T := T.2 h31
        refine zr_iconst (v := 3) dX4_tryPull_50 (by decide) ?_
        exact zm_iret dX4_tryPull_51 rfl T
    · have T := T.2 h28
      refine zr_iconst (v := 2) dX4_tryPull_27 (by decide) ?_
      exact zm_iret dX4_tryPull_28 rfl T
  · have T := T.2 h23
    refine zr_iconst (v := 1) dX4_tryPull_12 (by decide) ?_
    exact zm_iret dX4_tryPull_13 rfl T
set_option maxRecDepth 100000 in
set_option maxHeartbeats 4000000 in
theorem t_X4_tryPull_55 {d : Nat} {b0 : Nat} {x1 : Int32} {x2 : Int32} {x3 : Int32} {x4 : Int32} {M : zMem} {K : zK} (h0 : b0 ∈ iX4)
    (T : (x3 ≤ x4 → (∀ M22 : zMem, M22 = wI M (pF b0) 4 ((M.1 (pF b0) 4) + 1) → (∀ M24 : zMem, M24 = wI M22 (pF b0) 5 ((M22.1 (pF b0) 5) + x3) → vp_in x1 4 ∧ (vp_in x1 4 ∧ ((∀ M28 : zMem, M28 = wI M24 (pF b0 + 4) (Int32.toNatClampNeg x1) ((M24.1 (pF b0 + 4) (Int32.toNatClampNeg x1)) + x3) → vp_in x1 4 ∧ (S_X9_grow d (pT b0 + 1 + 12 * (Int32.toNatClampNeg x1)) 3 (pF b0) x1 M28 (zU (fun M32 => K (some (.int 0)) M32))))))))) ∧ (¬ (x3 ≤ x4) → vp_in x4 24 ∧ (S_X3_take d (pF b0) x1 x2 (M.1 (pT b0 + 49) (Int32.toNatClampNeg x4)) M (zU (fun M35 => S_X4_tryPull_55 (d + 1) b0 x1 x2 x3 (x4 + 1) M35 K))))) : S_X4_tryPull_55 (d + 1) b0 x1 x2 x3 x4 M K := by
  show zV m_X4_tryPull (d + 1) 55 [(0, .ref b0), (1, .int x1), (2, .int x2), (3, .int x3), (4, .int x4)] [] M K
  refine zr_iload dX4_tryPull_55 4 rfl ?_
  refine zr_iload_n dX4_tryPull_57 rfl 3 rfl ?_
  refine zr_icmp_ge (tgt := 83) dX4_tryPull_58 (by decide) (fun h21 => ?_) (fun h21 => ?_)
  · have T := T.1 h21
    refine zr_aload_n dX4_tryPull_83 rfl 0 rfl ?_
    refine zm_getr (a := pF b0) dX4_tryPull_84 f_X4_26 (oX4 _ h0) (by decide) (by decide) (rX4_1 _ h0) ?_
    refine zr_dup dX4_tryPull_87 rfl ?_
    refine zm_geti dX4_tryPull_88 f_X4_135 (oX3 _ (qX4_1 _ h0)) (by decide) (by decide) ?_
    refine zr_iconst (v := 1) dX4_tryPull_91 (by decide) ?_
    refine zr_iadd dX4_tryPull_92 ?_
    refine zn_puti dX4_tryPull_93 f_X4_135 (oX3 _ (qX4_1 _ h0)) (by decide) (by decide) (fun M22 e23 => ?_)
    have T := T M22 e23
    refine zr_aload_n dX4_tryPull_96 rfl 0 rfl ?_
    refine zm_getr (a := pF b0) dX4_tryPull_97 f_X4_26 (oX4 _ h0) (by decide) (by decide) (rX4_1 _ h0) ?_
    refine zr_dup dX4_tryPull_100 rfl ?_
    refine zm_geti dX4_tryPull_101 f_X4_138 (oX3 _ (qX4_1 _ h0)) (by decide) (by decide) ?_
    refine zr_iload_n dX4_tryPull_104 rfl 3 rfl ?_
    refine zr_iadd dX4_tryPull_105 ?_
    refine zn_puti dX4_tryPull_106 f_X4_138 (oX3 _ (qX4_1 _ h0)) (by decide) (by decide) (fun M24 e25 => ?_)
    have T := T M24 e25
    refine zr_aload_n dX4_tryPull_109 rfl 0 rfl ?_
    refine zm_getr (a := pF b0) dX4_tryPull_110 f_X4_26 (oX4 _ h0) (by decide) (by decide) (rX4_1 _ h0) ?_
    refine zm_getr (a := pF b0 + 4) dX4_tryPull_113 f_X4_141 (oX3 _ (qX4_1 _ h0)) (by decide) (by decide) (rX3_3 _ (qX4_1 _ h0)) ?_
    refine zr_iload_n dX4_tryPull_116 rfl 1 rfl ?_
    refine zr_dup2 dX4_tryPull_117 rfl rfl ?_
    obtain ⟨hq26, T⟩ := T
    refine zm_iald (n := 4) (o := (Int32.toNatClampNeg x1)) dX4_tryPull_118 (aX _ (qX3_3 _ (qX4_1 _ h0))) (lX _ (qX3_3 _ (qX4_1 _ h0))) hq26 rfl ?_
    refine zr_iload_n dX4_tryPull_119 rfl 3 rfl ?_
    refine zr_iadd dX4_tryPull_120 ?_
    obtain ⟨hq27, T⟩ := T
    refine zn_iast (n := 4) (o := (Int32.toNatClampNeg x1)) dX4_tryPull_121 (aX _ (qX3_3 _ (qX4_1 _ h0))) (lX _ (qX3_3 _ (qX4_1 _ h0))) hq27 rfl (fun M28 e29 => ?_)
    have T := T M28 e29
    refine zr_aload_n dX4_tryPull_122 rfl 0 rfl ?_
    refine zm_getr (a := pT b0) dX4_tryPull_123 f_X4_12 (oX4 _ h0) (by decide) (by decide) (rX4_2 _ h0) ?_
    refine zr_iload_n dX4_tryPull_126 rfl 1 rfl ?_
    obtain ⟨hq30, T⟩ := T
    refine zm_aald (t := 4) (n := 4) (q := (Int32.toNatClampNeg x1)) (o := pT b0 + 1 + 12 * (Int32.toNatClampNeg x1)) dX4_tryPull_127 (aX _ (qX4_2 _ h0)) (by decide) (by decide) (fun _ => rfl) (lX _ (qX4_2 _ h0)) hq30 rfl (eX9 _ (qX4_2 _ h0) (z_lt hq30)) ?_
    refine zr_aload_n dX4_tryPull_128 rfl 0 rfl ?_
    refine zm_getr (a := 3) dX4_tryPull_129 f_X4_22 (oX4 _ h0) (by decide) (by decide) (rX4_0 _ h0) ?_
    refine zr_aload_n dX4_tryPull_132 rfl 0 rfl ?_
    refine zm_getr (a := pF b0) dX4_tryPull_133 f_X4_26 (oX4 _ h0) (by decide) (by decide) (rX4_1 _ h0) ?_
    refine zr_iload_n dX4_tryPull_136 rfl 1 rfl ?_
    refine zm_callV_v (c := 9) (b := pT b0 + 1 + 12 * (Int32.toNatClampNeg x1)) dX4_tryPull_137 w_X9_grow l_X4_39 rfl (oX9 _ (eX9q _ (qX4_2 _ h0) (z_lt hq30))) (by decide) s_X9_grow [.ref 3, .ref (pF b0), .int x1] rfl rfl (Nat.le_of_ble_eq_true rfl) (Nat.le_of_ble_eq_true rfl) ?_
    refine zV.post T ?_
    rintro v M32 ⟨rfl, T⟩
    refine ⟨rfl, ?_⟩
    refine zr_iconst (v := 0) dX4_tryPull_140 (by decide) ?_
    exact zm_iret dX4_tryPull_141 rfl T
  · have T := T.2 h21
    refine zr_aload_n dX4_tryPull_61 rfl 0 rfl ?_
    refine zm_getr (a := pF b0) dX4_tryPull_62 f_X4_26 (oX4 _ h0) (by decide) (by decide) (rX4_1 _ h0) ?_
    refine zr_iload_n dX4_tryPull_65 rfl 1 rfl ?_
    refine zr_iload_n dX4_tryPull_66 rfl 2 rfl ?_
    refine zr_aload_n dX4_tryPull_67 rfl 0 rfl ?_
    refine zm_getr (a := pT b0 + 49) dX4_tryPull_68 f_X4_18 (oX4 _ h0) (by decide) (by decide) (rX4_3 _ h0) ?_
    refine zr_iload dX4_tryPull_71 4 rfl ?_
    obtain ⟨hq33, T⟩ := T
    refine zm_iald (n := 24) (o := (Int32.toNatClampNeg x4)) dX4_tryPull_73 (aX _ (qX4_3 _ h0)) (lX _ (qX4_3 _ h0)) hq33 rfl ?_
    refine zm_callV_v (c := 3) (b := pF b0) dX4_tryPull_74 w_X3_take l_X4_132 rfl (oX3 _ (qX4_1 _ h0)) (by decide) s_X3_take [.int x1, .int x2, .int (M.1 (pT b0 + 49) (Int32.toNatClampNeg x4))] rfl rfl (Nat.le_of_ble_eq_true rfl) (Nat.le_of_ble_eq_true rfl) ?_
    refine zV.post T ?_
    rintro v M35 ⟨rfl, T⟩
    refine ⟨rfl, ?_⟩
    refine zr_iinc (n := 4) (v := x4 + 1) dX4_tryPull_77 rfl rfl (by decide) (L2 := [(4, .int (x4 + 1)), (0, .ref b0), (1, .int x1), (2, .int x2), (3, .int x3)]) rfl ?_
    refine zr_goto (tgt := 55) dX4_tryPull_80 (by decide) ?_
    exact zV.pick [1, 2, 3, 4, 0] rfl T
set_option maxRecDepth 100000 in
set_option maxHeartbeats 4000000 in
theorem t_X4_findOffers {d : Nat} {b0 : Nat} {x1 : Int32} {x2 : Int32} {M : zMem} {K : zK} (h0 : b0 ∈ iX4)
    (T : S_X4_visitedBits d b0 x2 x1 M (zI (fun r21 M22 => vp_in x2 4 ∧ (S_X4_findOffers_21 (d + 1) b0 x1 x2 r21 (pT b0 + 1 + 12 * (Int32.toNatClampNeg x2)) 0 0 M22 K)))) : S_X4_findOffers (d + 1) b0 x1 x2 M K := by
  show zV m_X4_findOffers (d + 1) 0 [(0, .ref b0), (1, .int x1), (2, .int x2)] [] M K
  refine zr_aload_n dX4_findOffers_0 rfl 0 rfl ?_
  refine zr_iload_n dX4_findOffers_1 rfl 2 rfl ?_
  refine zr_iload_n dX4_findOffers_2 rfl 1 rfl ?_
  refine zm_callV_i (c := 4) (b := b0) dX4_findOffers_3 w_X4_visitedBits l_X4_95 rfl (oX4 _ h0) (by decide) s_X4_visitedBits [.int x2, .int x1] rfl rfl (Nat.le_of_ble_eq_true rfl) (Nat.le_of_ble_eq_true rfl) ?_
  refine zV.post T ?_
  rintro v M22 ⟨r21, rfl, T⟩
  refine ⟨r21, rfl, ?_⟩
  refine zr_istore_n dX4_findOffers_6 rfl (by decide) (L2 := [(3, .int r21), (0, .ref b0), (1, .int x1), (2, .int x2)]) rfl ?_
  refine zr_aload_n dX4_findOffers_7 rfl 1 rfl ?_
  refine zm_getr (a := pT b0) dX4_findOffers_8 f_X4_12 (oX4 _ h0) (by decide) (by decide) (rX4_2 _ h0) ?_
  refine zr_iload_n dX4_findOffers_11 rfl 3 rfl ?_
  obtain ⟨hq23, T⟩ := T
  refine zm_aald (t := 4) (n := 4) (q := (Int32.toNatClampNeg x2)) (o := pT b0 + 1 + 12 * (Int32.toNatClampNeg x2)) dX4_findOffers_12 (aX _ (qX4_2 _ h0)) (by decide) (by decide) (fun _ => rfl) (lX _ (qX4_2 _ h0)) hq23 rfl (eX9 _ (qX4_2 _ h0) (z_lt hq23)) ?_
  refine zr_astore dX4_findOffers_13 (by decide) (L2 := [(4, .ref (pT b0 + 1 + 12 * (Int32.toNatClampNeg x2))), (3, .int r21), (0, .ref b0), (1, .int x1), (2, .int x2)]) rfl ?_
  refine zr_iconst (v := 0) dX4_findOffers_15 (by decide) ?_
  refine zr_istore dX4_findOffers_16 (by decide) (L2 := [(5, .int 0), (4, .ref (pT b0 + 1 + 12 * (Int32.toNatClampNeg x2))), (3, .int r21), (0, .ref b0), (1, .int x1), (2, .int x2)]) rfl ?_
  refine zr_iconst (v := 0) dX4_findOffers_18 (by decide) ?_
  refine zr_istore dX4_findOffers_19 (by decide) (L2 := [(6, .int 0), (5, .int 0), (4, .ref (pT b0 + 1 + 12 * (Int32.toNatClampNeg x2))), (3, .int r21), (0, .ref b0), (1, .int x1), (2, .int x2)]) rfl ?_
  exact zV.pick [4, 5, 6, 3, 2, 1, 0] rfl T
set_option maxRecDepth 100000 in
set_option maxHeartbeats 4000000 in
theorem t_X4_findOffers_21 {d : Nat} {b0 : Nat} {x1 : Int32} {x2 : Int32} {x3 : Int32} {b4 : Nat} {x5 : Int32} {x6 : Int32} {M : zMem} {K : zK} (h0 : b0 ∈ iX4) (h4 : b4 ∈ iX9)
    (T : ((M.1 b4 3) ≤ x6 → K (some (.int x5)) M) ∧ (¬ ((M.1 b4 3) ≤ x6) → vp_in x6 24 ∧ (vp_in (M.1 (b4 + 1) (Int32.toNatClampNeg x6)) 24 ∧ (((((Int32.toUInt32 x3 >>> (Int32.toUInt32 (M.1 (b4 + 11) (Int32.toNatClampNeg (M.1 (b4 + 1) (Int32.toNatClampNeg x6)))) &&& Int32.toUInt32 31)).toInt32) &&& 1) = 0 → S_X4_findOffers_21 (d + 1) b0 x1 x2 x3 b4 x5 (x6 + 1) M K) ∧ (¬ ((((Int32.toUInt32 x3 >>> (Int32.toUInt32 (M.1 (b4 + 11) (Int32.toNatClampNeg (M.1 (b4 + 1) (Int32.toNatClampNeg x6)))) &&& Int32.toUInt32 31)).toInt32) &&& 1) = 0) → S_X3_has d (pF b0) x1 (M.1 (b4 + 1) (Int32.toNatClampNeg x6)) M (zB (fun r27 M28 => (r27 = false → vp_in x5 24 ∧ ((∀ M31 : zMem, M31 = wI M28 (pT b0 + 49) (Int32.toNatClampNeg x5) (M.1 (b4 + 1) (Int32.toNatClampNeg x6)) → S_X4_findOffers_21 (d + 1) b0 x1 x2 x3 b4 (x5 + 1) (x6 + 1) M31 K))) ∧ (r27 = true → S_X4_winsOver d b0 x2 x1 (M.1 (b4 + 1) (Int32.toNatClampNeg x6)) M28 (zB (fun r33 M34 => (r33 = false → S_X4_findOffers_21 (d + 1) b0 x1 x2 x3 b4 x5 (x6 + 1) M34 K) ∧ (r33 = true → vp_in x5 24 ∧ ((∀ M37 : zMem, M37 = wI M34 (pT b0 + 49) (Int32.toNatClampNeg x5) (M.1 (b4 + 1) (Int32.toNatClampNeg x6)) → S_X4_findOffers_21 (d + 1) b0 x1 x2 x3 b4 (x5 + 1) (x6 + 1) M37 K))))))))))))) : S_X4_findOffers_21 (d + 1) b0 x1 x2 x3 b4 x5 x6 M K := by
  show zV m_X4_findOffers (d + 1) 21 [(0, .ref b0), (1, .int x1), (2, .int x2), (3, .int x3), (4, .ref b4), (5, .int x5), (6, .int x6)] [] M K
  refine zr_iload dX4_findOffers_21 6 rfl ?_
  refine zr_aload dX4_findOffers_23 4 rfl ?_
  refine zm_geti dX4_findOffers_25 f_X4_98 (oX9 _ h4) (by decide) (by decide) ?_
  refine zr_icmp_ge (tgt := 110) dX4_findOffers_28 (by decide) (fun h21 => ?_) (fun h21 => ?_)
  · have T := T.1 h21
    refine zr_iload dX4_findOffers_110 5 rfl ?_
    exact zm_iret dX4_findOffers_112 rfl T
  · have T := T.2 h21
    refine zr_aload dX4_findOffers_31 4 rfl ?_
    refine zm_getr (a := b4 + 1) dX4_findOffers_33 f_X4_101 (oX9 _ h4) (by decide) (by decide) (rX9_0 _ h4) ?_
    refine zr_iload dX4_findOffers_36 6 rfl ?_
    obtain ⟨hq22, T⟩ := T
    refine zm_iald (n := 24) (o := (Int32.toNatClampNeg x6)) dX4_findOffers_38 (aX _ (qX9_0 _ h4)) (lX _ (qX9_0 _ h4)) hq22 rfl ?_
    refine zr_istore dX4_findOffers_39 (by decide) (L2 := [(7, .int (M.1 (b4 + 1) (Int32.toNatClampNeg x6))), (0, .ref b0), (1, .int x1), (2, .int x2), (3, .int x3), (4, .ref b4), (5, .int x5), (6, .int x6)]) rfl ?_
    refine zr_iload_n dX4_findOffers_41 rfl 4 rfl ?_
    refine zr_aload dX4_findOffers_42 5 rfl ?_
    refine zm_getr (a := b4 + 11) dX4_findOffers_44 f_X4_104 (oX9 _ h4) (by decide) (by decide) (rX9_11 _ h4) ?_
    refine zr_iload dX4_findOffers_47 0 rfl ?_
    obtain ⟨hq23, T⟩ := T
    refine zm_iald (n := 24) (o := (Int32.toNatClampNeg (M.1 (b4 + 1) (Int32.toNatClampNeg x6)))) dX4_findOffers_49 (aX _ (qX9_11 _ h4)) (lX _ (qX9_11 _ h4)) hq23 rfl ?_
    refine zr_iushr dX4_findOffers_50 ?_
    refine zr_iconst (v := 1) dX4_findOffers_51 (by decide) ?_
    refine zr_iand dX4_findOffers_52 ?_
    refine zr_if_eq (tgt := 60) dX4_findOffers_53 (by decide) (fun h24 => ?_) (fun h24 => ?_)
    · have T := T.1 h24
      refine zr_iconst (v := 0) dX4_findOffers_60 (by decide) ?_
      refine zr_istore dX4_findOffers_61 (by decide) (L2 := [(8, .int 0), (7, .int (M.1 (b4 + 1) (Int32.toNatClampNeg x6))), (0, .ref b0), (1, .int x1), (2, .int x2), (3, .int x3), (4, .ref b4), (5, .int x5), (6, .int x6)]) rfl ?_
      refine zr_iload dX4_findOffers_63 0 rfl ?_
      refine zr_if_eq (tgt := 104) dX4_findOffers_65 (by decide) (fun _ => ?_) (fun h => absurd h (by decide))
      refine zr_iinc (n := 8) (v := x6 + 1) dX4_findOffers_104 rfl rfl (by decide) (L2 := [(6, .int (x6 + 1)), (8, .int 0), (7, .int (M.1 (b4 + 1) (Int32.toNatClampNeg x6))), (0, .ref b0), (1, .int x1), (2, .int x2), (3, .int x3), (4, .ref b4), (5, .int x5)]) rfl ?_
      refine zr_goto (tgt := 21) dX4_findOffers_107 (by decide) ?_
      exact zV.pick [3, 4, 5, 6, 7, 8, 0] rfl T
    · have T := T.2 h24
      refine zr_iconst (v := 1) dX4_findOffers_56 (by decide) ?_
      refine zr_goto (tgt := 61) dX4_findOffers_57 (by decide) ?_
      refine zr_istore dX4_findOffers_61 (by decide) (L2 := [(8, .int 1), (7, .int (M.1 (b4 + 1) (Int32.toNatClampNeg x6))), (0, .ref b0), (1, .int x1), (2, .int x2), (3, .int x3), (4, .ref b4), (5, .int x5), (6, .int x6)]) rfl ?_
      refine zr_iload dX4_findOffers_63 0 rfl ?_
      refine zr_if_eq (tgt := 104) dX4_findOffers_65 (by decide) (fun h => absurd h (by decide)) (fun _ => ?_)
      refine zr_aload_n dX4_findOffers_68 rfl 2 rfl ?_
      refine zm_getr (a := pF b0) dX4_findOffers_69 f_X4_26 (oX4 _ h0) (by decide) (by decide) (rX4_1 _ h0) ?_
      refine zr_iload_n dX4_findOffers_72 rfl 3 rfl ?_
      refine zr_iload dX4_findOffers_73 1 rfl ?_
      refine zm_callV_b (c := 3) (b := pF b0) dX4_findOffers_75 w_X3_has l_X4_55 rfl (oX3 _ (qX4_1 _ h0)) (by decide) s_X3_has [.int x1, .int (M.1 (b4 + 1) (Int32.toNatClampNeg x6))] rfl rfl (Nat.le_of_ble_eq_true rfl) (Nat.le_of_ble_eq_true rfl) ?_
      refine zV.post T ?_
      rintro v M28 ⟨r27, rfl, T⟩
      refine ⟨r27, rfl, ?_⟩
      refine zm_ifb_eq (tgt := 92) dX4_findOffers_78 (by decide) (fun h29 => ?_) (fun h29 => ?_)
      · have T := T.1 h29
        refine zr_aload_n dX4_findOffers_92 rfl 2 rfl ?_
        refine zm_getr (a := pT b0 + 49) dX4_findOffers_93 f_X4_18 (oX4 _ h0) (by decide) (by decide) (rX4_3 _ h0) ?_
        refine zr_iload dX4_findOffers_96 7 rfl ?_
        refine zr_iload dX4_findOffers_98 1 rfl ?_
        obtain ⟨hq30, T⟩ := T
        refine zn_iast (n := 24) (o := (Int32.toNatClampNeg x5)) dX4_findOffers_100 (aX _ (qX4_3 _ h0)) (lX _ (qX4_3 _ h0)) hq30 rfl (fun M31 e32 => ?_)
        have T := T M31 e32
        refine zr_iinc (n := 7) (v := x5 + 1) dX4_findOffers_101 rfl rfl (by decide) (L2 := [(5, .int (x5 + 1)), (8, .int 1), (7, .int (M.1 (b4 + 1) (Int32.toNatClampNeg x6))), (0, .ref b0), (1, .int x1), (2, .int x2), (3, .int x3), (4, .ref b4), (6, .int x6)]) rfl ?_
        refine zr_iinc (n := 8) (v := x6 + 1) dX4_findOffers_104 rfl rfl (by decide) (L2 := [(6, .int (x6 + 1)), (5, .int (x5 + 1)), (8, .int 1), (7, .int (M.1 (b4 + 1) (Int32.toNatClampNeg x6))), (0, .ref b0), (1, .int x1), (2, .int x2), (3, .int x3), (4, .ref b4)]) rfl ?_
        refine zr_goto (tgt := 21) dX4_findOffers_107 (by decide) ?_
        exact zV.pick [4, 5, 6, 7, 8, 1, 0] rfl T
      · have T := T.2 h29
        refine zr_aload_n dX4_findOffers_81 rfl 2 rfl ?_
        refine zr_iload_n dX4_findOffers_82 rfl 4 rfl ?_
        refine zr_iload_n dX4_findOffers_83 rfl 3 rfl ?_
        refine zr_iload dX4_findOffers_84 1 rfl ?_
        refine zm_callV_b (c := 4) (b := b0) dX4_findOffers_86 w_X4_winsOver l_X4_107 rfl (oX4 _ h0) (by decide) s_X4_winsOver [.int x2, .int x1, .int (M.1 (b4 + 1) (Int32.toNatClampNeg x6))] rfl rfl (Nat.le_of_ble_eq_true rfl) (Nat.le_of_ble_eq_true rfl) ?_
        refine zV.post T ?_
        rintro v M34 ⟨r33, rfl, T⟩
        refine ⟨r33, rfl, ?_⟩
        refine zm_ifb_eq (tgt := 104) dX4_findOffers_89 (by decide) (fun h35 => ?_) (fun h35 => ?_)
        · have T := T.1 h35
          refine zr_iinc (n := 8) (v := x6 + 1) dX4_findOffers_104 rfl rfl (by decide) (L2 := [(6, .int (x6 + 1)), (8, .int 1), (7, .int (M.1 (b4 + 1) (Int32.toNatClampNeg x6))), (0, .ref b0), (1, .int x1), (2, .int x2), (3, .int x3), (4, .ref b4), (5, .int x5)]) rfl ?_
          refine zr_goto (tgt := 21) dX4_findOffers_107 (by decide) ?_
          exact zV.pick [3, 4, 5, 6, 7, 8, 0] rfl T
        · have T := T.2 h35
          refine zr_aload_n dX4_findOffers_92 rfl 2 rfl ?_
          refine zm_getr (a := pT b0 + 49) dX4_findOffers_93 f_X4_18 (oX4 _ h0) (by decide) (by decide) (rX4_3 _ h0) ?_
          refine zr_iload dX4_findOffers_96 7 rfl ?_
          refine zr_iload dX4_findOffers_98 1 rfl ?_
          obtain ⟨hq36, T⟩ := T
          refine zn_iast (n := 24) (o := (Int32.toNatClampNeg x5)) dX4_findOffers_100 (aX _ (qX4_3 _ h0)) (lX _ (qX4_3 _ h0)) hq36 rfl (fun M37 e38 => ?_)
          have T := T M37 e38
          refine zr_iinc (n := 7) (v := x5 + 1) dX4_findOffers_101 rfl rfl (by decide) (L2 := [(5, .int (x5 + 1)), (8, .int 1), (7, .int (M.1 (b4 + 1) (Int32.toNatClampNeg x6))), (0, .ref b0), (1, .int x1), (2, .int x2), (3, .int x3), (4, .ref b4), (6, .int x6)]) rfl ?_
          refine zr_iinc (n := 8) (v := x6 + 1) dX4_findOffers_104 rfl rfl (by decide) (L2 := [(6, .int (x6 + 1)), (5, .int (x5 + 1)), (8, .int 1), (7, .int (M.1 (b4 + 1) (Int32.toNatClampNeg x6))), (0, .ref b0), (1, .int x1), (2, .int x2), (3, .int x3), (4, .ref b4)]) rfl ?_
          refine zr_goto (tgt := 21) dX4_findOffers_107 (by decide) ?_
          exact zV.pick [4, 5, 6, 7, 8, 1, 0] rfl T
set_option maxRecDepth 100000 in
set_option maxHeartbeats 4000000 in
theorem t_X4_visitedBits {d : Nat} {b0 : Nat} {x1 : Int32} {x2 : Int32} {M : zMem} {K : zK} (h0 : b0 ∈ iX4)
    (T : vp_in x1 4 ∧ (vp_in x2 4 ∧ (S_X4_visitedBits_21 (d + 1) (pT b0 + 1 + 12 * (Int32.toNatClampNeg x1)) (pT b0 + 1 + 12 * (Int32.toNatClampNeg x2)) 0 0 M K))) : S_X4_visitedBits (d + 1) b0 x1 x2 M K := by
  show zV m_X4_visitedBits (d + 1) 0 [(0, .ref b0), (1, .int x1), (2, .int x2)] [] M K
  refine zr_aload_n dX4_visitedBits_0 rfl 0 rfl ?_
  refine zm_getr (a := pT b0) dX4_visitedBits_1 f_X4_12 (oX4 _ h0) (by decide) (by decide) (rX4_2 _ h0) ?_
  refine zr_iload_n dX4_visitedBits_4 rfl 1 rfl ?_
  obtain ⟨hq21, T⟩ := T
  refine zm_aald (t := 4) (n := 4) (q := (Int32.toNatClampNeg x1)) (o := pT b0 + 1 + 12 * (Int32.toNatClampNeg x1)) dX4_visitedBits_5 (aX _ (qX4_2 _ h0)) (by decide) (by decide) (fun _ => rfl) (lX _ (qX4_2 _ h0)) hq21 rfl (eX9 _ (qX4_2 _ h0) (z_lt hq21)) ?_
  refine zr_astore_n dX4_visitedBits_6 rfl (by decide) (L2 := [(3, .ref (pT b0 + 1 + 12 * (Int32.toNatClampNeg x1))), (0, .ref b0), (1, .int x1), (2, .int x2)]) rfl ?_
  refine zr_aload_n dX4_visitedBits_7 rfl 1 rfl ?_
  refine zm_getr (a := pT b0) dX4_visitedBits_8 f_X4_12 (oX4 _ h0) (by decide) (by decide) (rX4_2 _ h0) ?_
  refine zr_iload_n dX4_visitedBits_11 rfl 3 rfl ?_
  obtain ⟨hq22, T⟩ := T
  refine zm_aald (t := 4) (n := 4) (q := (Int32.toNatClampNeg x2)) (o := pT b0 + 1 + 12 * (Int32.toNatClampNeg x2)) dX4_visitedBits_12 (aX _ (qX4_2 _ h0)) (by decide) (by decide) (fun _ => rfl) (lX _ (qX4_2 _ h0)) hq22 rfl (eX9 _ (qX4_2 _ h0) (z_lt hq22)) ?_
  refine zr_astore dX4_visitedBits_13 (by decide) (L2 := [(4, .ref (pT b0 + 1 + 12 * (Int32.toNatClampNeg x2))), (3, .ref (pT b0 + 1 + 12 * (Int32.toNatClampNeg x1))), (0, .ref b0), (1, .int x1), (2, .int x2)]) rfl ?_
  refine zr_iconst (v := 0) dX4_visitedBits_15 (by decide) ?_
  refine zr_istore dX4_visitedBits_16 (by decide) (L2 := [(5, .int 0), (4, .ref (pT b0 + 1 + 12 * (Int32.toNatClampNeg x2))), (3, .ref (pT b0 + 1 + 12 * (Int32.toNatClampNeg x1))), (0, .ref b0), (1, .int x1), (2, .int x2)]) rfl ?_
  refine zr_iconst (v := 0) dX4_visitedBits_18 (by decide) ?_
  refine zr_istore dX4_visitedBits_19 (by decide) (L2 := [(6, .int 0), (5, .int 0), (4, .ref (pT b0 + 1 + 12 * (Int32.toNatClampNeg x2))), (3, .ref (pT b0 + 1 + 12 * (Int32.toNatClampNeg x1))), (0, .ref b0), (1, .int x1), (2, .int x2)]) rfl ?_
  exact zV.pick [3, 2, 1, 0] rfl T
set_option maxRecDepth 100000 in
set_option maxHeartbeats 4000000 in
theorem t_X4_visitedBits_21 {d : Nat} {b3 : Nat} {b4 : Nat} {x5 : Int32} {x6 : Int32} {M : zMem} {K : zK} (h3 : b3 ∈ iX9) (h4 : b4 ∈ iX9)
    (T : ((M.1 b3 12) ≤ x6 → K (some (.int x5)) M) ∧ (¬ ((M.1 b3 12) ≤ x6) → vp_in x6 24 ∧ (((M.1 (b3 + 9) (Int32.toNatClampNeg x6)) = (-1) → S_X4_visitedBits_55 (d + 1) b3 b4 x5 x6 M K) ∧ (¬ ((M.1 (b3 + 9) (Int32.toNatClampNeg x6)) = (-1)) → ((((Int32.toUInt32 x5 >>> (Int32.toUInt32 (M.1 (b3 + 9) (Int32.toNatClampNeg x6)) &&& Int32.toUInt32 31)).toInt32) &&& 1) = 0 → S_X4_visitedBits_21 (d + 1) b3 b4 x5 (x6 + 1) M K) ∧ (¬ ((((Int32.toUInt32 x5 >>> (Int32.toUInt32 (M.1 (b3 + 9) (Int32.toNatClampNeg x6)) &&& Int32.toUInt32 31)).toInt32) &&& 1) = 0) → S_X4_visitedBits_55 (d + 1) b3 b4 x5 x6 M K))))) : S_X4_visitedBits_21 (d + 1) b3 b4 x5 x6 M K := by
  show zV m_X4_visitedBits (d + 1) 21 [(3, .ref b3), (4, .ref b4), (5, .int x5), (6, .int x6)] [] M K
  refine zr_iload dX4_visitedBits_21 3 rfl ?_
  refine zr_aload_n dX4_visitedBits_23 rfl 0 rfl ?_
  refine zm_geti dX4_visitedBits_24 f_X4_43 (oX9 _ h3) (by decide) (by decide) ?_
  refine zr_icmp_ge (tgt := 97) dX4_visitedBits_27 (by decide) (fun h21 => ?_) (fun h21 => ?_)
  · have T := T.1 h21
    refine zr_iload dX4_visitedBits_97 2 rfl ?_
    exact zm_iret dX4_visitedBits_99 rfl T
  · have T := T.2 h21
    refine zr_aload_n dX4_visitedBits_30 rfl 0 rfl ?_
    refine zm_getr (a := b3 + 9) dX4_visitedBits_31 f_X4_88 (oX9 _ h3) (by decide) (by decide) (rX9_9 _ h3) ?_
    refine zr_iload dX4_visitedBits_34 3 rfl ?_
    obtain ⟨hq22, T⟩ := T
    refine zm_iald (n := 24) (o := (Int32.toNatClampNeg x6)) dX4_visitedBits_36 (aX _ (qX9_9 _ h3)) (lX _ (qX9_9 _ h3)) hq22 rfl ?_
    refine zr_istore dX4_visitedBits_37 (by decide) (L2 := [(7, .int (M.1 (b3 + 9) (Int32.toNatClampNeg x6))), (3, .ref b3), (4, .ref b4), (5, .int x5), (6, .int x6)]) rfl ?_
    refine zr_iload dX4_visitedBits_39 0 rfl ?_
    refine zr_iconst (v := (-1)) dX4_visitedBits_41 (by decide) ?_
    refine zr_icmp_eq (tgt := 55) dX4_visitedBits_42 (by decide) (fun h23 => ?_) (fun h23 => ?_)
    · have T := T.1 h23
      exact zV.pick [1, 2, 3, 4] rfl T
    · have T := T.2 h23
      refine zr_iload dX4_visitedBits_45 3 rfl ?_
      refine zr_iload dX4_visitedBits_47 0 rfl ?_
      refine zr_iushr dX4_visitedBits_49 ?_
      refine zr_iconst (v := 1) dX4_visitedBits_50 (by decide) ?_
      refine zr_iand dX4_visitedBits_51 ?_
      refine zr_if_eq (tgt := 59) dX4_visitedBits_52 (by decide) (fun h24 => ?_) (fun h24 => ?_)
      · have T := T.1 h24
        refine zr_iconst (v := 0) dX4_visitedBits_59 (by decide) ?_
        refine zr_istore dX4_visitedBits_60 (by decide) (L2 := [(8, .int 0), (7, .int (M.1 (b3 + 9) (Int32.toNatClampNeg x6))), (3, .ref b3), (4, .ref b4), (5, .int x5), (6, .int x6)]) rfl ?_
        refine zr_iload dX4_visitedBits_62 0 rfl ?_
        refine zr_if_eq (tgt := 91) dX4_visitedBits_64 (by decide) (fun _ => ?_) (fun h => absurd h (by decide))
        refine zr_iinc (n := 5) (v := x6 + 1) dX4_visitedBits_91 rfl rfl (by decide) (L2 := [(6, .int (x6 + 1)), (8, .int 0), (7, .int (M.1 (b3 + 9) (Int32.toNatClampNeg x6))), (3, .ref b3), (4, .ref b4), (5, .int x5)]) rfl ?_
        refine zr_goto (tgt := 21) dX4_visitedBits_94 (by decide) ?_
        exact zV.pick [3, 4, 5, 0] rfl T
      · have T := T.2 h24
        exact zV.pick [1, 2, 3, 4] rfl T
set_option maxRecDepth 100000 in
set_option maxHeartbeats 4000000 in
theorem t_X4_visitedBits_55 {d : Nat} {b3 : Nat} {b4 : Nat} {x5 : Int32} {x6 : Int32} {M : zMem} {K : zK} (h3 : b3 ∈ iX9) (h4 : b4 ∈ iX9)
    (T : vp_in x6 24 ∧ (S_X9_hasDigest d b4 (M.1 (b3 + 10) (Int32.toNatClampNeg x6)) M (zB (fun r23 M24 => (r23 = true → S_X4_visitedBits_21 (d + 1) b3 b4 x5 (x6 + 1) M24 K) ∧ (r23 = false → S_X4_visitedBits_21 (d + 1) b3 b4 (x5 ||| ((1 : Int32) <<< (x6 &&& 31))) (x6 + 1) M24 K))))) : S_X4_visitedBits_55 (d + 1) b3 b4 x5 x6 M K := by
  show zV m_X4_visitedBits (d + 1) 55 [(3, .ref b3), (4, .ref b4), (5, .int x5), (6, .int x6)] [] M K
  refine zr_iconst (v := 1) dX4_visitedBits_55 (by decide) ?_
  refine zr_goto (tgt := 60) dX4_visitedBits_56 (by decide) ?_
  refine zr_istore dX4_visitedBits_60 (by decide) (L2 := [(8, .int 1), (3, .ref b3), (4, .ref b4), (5, .int x5), (6, .int x6)]) rfl ?_
  refine zr_iload dX4_visitedBits_62 0 rfl ?_
  refine zr_if_eq (tgt := 91) dX4_visitedBits_64 (by decide) (fun h => absurd h (by decide)) (fun _ => ?_)
  refine zr_aload dX4_visitedBits_67 2 rfl ?_
  refine zr_aload_n dX4_visitedBits_69 rfl 1 rfl ?_
  refine zm_getr (a := b3 + 10) dX4_visitedBits_70 f_X4_47 (oX9 _ h3) (by decide) (by decide) (rX9_10 _ h3) ?_
  refine zr_iload dX4_visitedBits_73 4 rfl ?_
  obtain ⟨hq22, T⟩ := T
  refine zm_iald (n := 24) (o := (Int32.toNatClampNeg x6)) dX4_visitedBits_75 (aX _ (qX9_10 _ h3)) (lX _ (qX9_10 _ h3)) hq22 rfl ?_
  refine zm_callV_b (c := 9) (b := b4) dX4_visitedBits_76 w_X9_hasDigest l_X4_91 rfl (oX9 _ h4) (by decide) s_X9_hasDigest [.int (M.1 (b3 + 10) (Int32.toNatClampNeg x6))] rfl rfl (Nat.le_of_ble_eq_true rfl) (Nat.le_of_ble_eq_true rfl) ?_
  refine zV.post T ?_
  rintro v M24 ⟨r23, rfl, T⟩
  refine ⟨r23, rfl, ?_⟩
  refine zm_ifb_ne (tgt := 91) dX4_visitedBits_79 (by decide) (fun h25 => ?_) (fun h25 => ?_)
  · have T := T.1 h25
    refine zr_iinc (n := 4) (v := x6 + 1) dX4_visitedBits_91 rfl rfl (by decide) (L2 := [(6, .int (x6 + 1)), (8, .int 1), (3, .ref b3), (4, .ref b4), (5, .int x5)]) rfl ?_
    refine zr_goto (tgt := 21) dX4_visitedBits_94 (by decide) ?_
    exact zV.pick [2, 3, 4, 0] rfl T
  · have T := T.2 h25
    refine zr_iload dX4_visitedBits_82 3 rfl ?_
    refine zr_iconst (v := 1) dX4_visitedBits_84 (by decide) ?_
    refine zr_iload dX4_visitedBits_85 4 rfl ?_
    refine zr_ishl dX4_visitedBits_87 ?_
    refine zr_ior dX4_visitedBits_88 ?_
    refine zr_istore dX4_visitedBits_89 (by decide) (L2 := [(5, .int (x5 ||| ((1 : Int32) <<< (x6 &&& 31)))), (8, .int 1), (3, .ref b3), (4, .ref b4), (6, .int x6)]) rfl ?_
    refine zr_iinc (n := 4) (v := x6 + 1) dX4_visitedBits_91 rfl rfl (by decide) (L2 := [(6, .int (x6 + 1)), (5, .int (x5 ||| ((1 : Int32) <<< (x6 &&& 31)))), (8, .int 1), (3, .ref b3), (4, .ref b4)]) rfl ?_
    refine zr_goto (tgt := 21) dX4_visitedBits_94 (by decide) ?_
    exact zV.pick [3, 4, 1, 0] rfl T
set_option maxRecDepth 100000 in
set_option maxHeartbeats 4000000 in
theorem t_X4_winsOver {d : Nat} {b0 : Nat} {x1 : Int32} {x2 : Int32} {x3 : Int32} {M : zMem} {K : zK} (h0 : b0 ∈ iX4)
    (T : S_X3_valueOf d (pF b0) x1 x3 M (zI (fun r21 M22 => S_X3_valueOf d (pF b0) x2 x3 M22 (zI (fun r23 M24 => S_X3_stampOf d (pF b0) x1 x3 M24 (zI (fun r25 M26 => S_X3_stampOf d (pF b0) x2 x3 M26 (zI (fun r27 M28 => (¬ (M28.1 3 2) = 0 → (¬ r21 = r23 → (¬ (M28.1 3 2) = 1 → (r21 = (-1) → K (some (.int 0)) M28) ∧ (¬ (r21 = (-1)) → (r23 = (-1) → K (some (.int 1)) M28) ∧ (¬ (r23 = (-1)) → (r23 ≤ r21 → K (some (.int 0)) M28) ∧ (¬ (r23 ≤ r21) → K (some (.int 1)) M28)))) ∧ ((M28.1 3 2) = 1 → (r21 ≤ r23 → K (some (.int 0)) M28) ∧ (¬ (r21 ≤ r23) → K (some (.int 1)) M28))) ∧ (r21 = r23 → (r25 ≤ r27 → K (some (.int 0)) M28) ∧ (¬ (r25 ≤ r27) → K (some (.int 1)) M28))) ∧ ((M28.1 3 2) = 0 → (¬ r25 = r27 → (r25 ≤ r27 → K (some (.int 0)) M28) ∧ (¬ (r25 ≤ r27) → K (some (.int 1)) M28)) ∧ (r25 = r27 → (r21 ≤ r23 → K (some (.int 0)) M28) ∧ (¬ (r21 ≤ r23) → K (some (.int 1)) M28)))))))))))) : S_X4_winsOver (d + 1) b0 x1 x2 x3 M K := by
  show zV m_X4_winsOver (d + 1) 0 [(0, .ref b0), (1, .int x1), (2, .int x2), (3, .int x3)] [] M K
  refine zr_aload_n dX4_winsOver_0 rfl 0 rfl ?_
  refine zm_getr (a := pF b0) dX4_winsOver_1 f_X4_26 (oX4 _ h0) (by decide) (by decide) (rX4_1 _ h0) ?_
  refine zr_iload_n dX4_winsOver_4 rfl 1 rfl ?_
  refine zr_iload_n dX4_winsOver_5 rfl 3 rfl ?_
  refine zm_callV_i (c := 3) (b := pF b0) dX4_winsOver_6 w_X3_valueOf l_X4_110 rfl (oX3 _ (qX4_1 _ h0)) (by decide) s_X3_valueOf [.int x1, .int x3] rfl rfl (Nat.le_of_ble_eq_true rfl) (Nat.le_of_ble_eq_true rfl) ?_
  refine zV.post T ?_
  rintro v M22 ⟨r21, rfl, T⟩
  refine ⟨r21, rfl, ?_⟩
  refine zr_istore dX4_winsOver_9 (by decide) (L2 := [(4, .int r21), (0, .ref b0), (1, .int x1), (2, .int x2), (3, .int x3)]) rfl ?_
  refine zr_aload_n dX4_winsOver_11 rfl 1 rfl ?_
  refine zm_getr (a := pF b0) dX4_winsOver_12 f_X4_26 (oX4 _ h0) (by decide) (by decide) (rX4_1 _ h0) ?_
  refine zr_iload_n dX4_winsOver_15 rfl 3 rfl ?_
  refine zr_iload_n dX4_winsOver_16 rfl 4 rfl ?_
  refine zm_callV_i (c := 3) (b := pF b0) dX4_winsOver_17 w_X3_valueOf l_X4_110 rfl (oX3 _ (qX4_1 _ h0)) (by decide) s_X3_valueOf [.int x2, .int x3] rfl rfl (Nat.le_of_ble_eq_true rfl) (Nat.le_of_ble_eq_true rfl) ?_
  refine zV.post T ?_
  rintro v M24 ⟨r23, rfl, T⟩
  refine ⟨r23, rfl, ?_⟩
  refine zr_istore dX4_winsOver_20 (by decide) (L2 := [(5, .int r23), (4, .int r21), (0, .ref b0), (1, .int x1), (2, .int x2), (3, .int x3)]) rfl ?_
  refine zr_aload_n dX4_winsOver_22 rfl 2 rfl ?_
  refine zm_getr (a := pF b0) dX4_winsOver_23 f_X4_26 (oX4 _ h0) (by decide) (by decide) (rX4_1 _ h0) ?_
  refine zr_iload_n dX4_winsOver_26 rfl 3 rfl ?_
  refine zr_iload_n dX4_winsOver_27 rfl 5 rfl ?_
  refine zm_callV_i (c := 3) (b := pF b0) dX4_winsOver_28 w_X3_stampOf l_X4_80 rfl (oX3 _ (qX4_1 _ h0)) (by decide) s_X3_stampOf [.int x1, .int x3] rfl rfl (Nat.le_of_ble_eq_true rfl) (Nat.le_of_ble_eq_true rfl) ?_
  refine zV.post T ?_
  rintro v M26 ⟨r25, rfl, T⟩
  refine ⟨r25, rfl, ?_⟩
  refine zr_istore dX4_winsOver_31 (by decide) (L2 := [(6, .int r25), (5, .int r23), (4, .int r21), (0, .ref b0), (1, .int x1), (2, .int x2), (3, .int x3)]) rfl ?_
  refine zr_aload_n dX4_winsOver_33 rfl 3 rfl ?_
  refine zm_getr (a := pF b0) dX4_winsOver_34 f_X4_26 (oX4 _ h0) (by decide) (by decide) (rX4_1 _ h0) ?_
  refine zr_iload_n dX4_winsOver_37 rfl 5 rfl ?_
  refine zr_iload_n dX4_winsOver_38 rfl 6 rfl ?_
  refine zm_callV_i (c := 3) (b := pF b0) dX4_winsOver_39 w_X3_stampOf l_X4_80 rfl (oX3 _ (qX4_1 _ h0)) (by decide) s_X3_stampOf [.int x2, .int x3] rfl rfl (Nat.le_of_ble_eq_true rfl) (Nat.le_of_ble_eq_true rfl) ?_
  refine zV.post T ?_
  rintro v M28 ⟨r27, rfl, T⟩
  refine ⟨r27, rfl, ?_⟩
  refine zr_istore dX4_winsOver_42 (by decide) (L2 := [(7, .int r27), (6, .int r25), (5, .int r23), (4, .int r21), (0, .ref b0), (1, .int x1), (2, .int x2), (3, .int x3)]) rfl ?_
  refine zr_aload_n dX4_winsOver_44 rfl 4 rfl ?_
  refine zm_getr (a := 3) dX4_winsOver_45 f_X4_22 (oX4 _ h0) (by decide) (by decide) (rX4_0 _ h0) ?_
  refine zm_geti dX4_winsOver_48 f_X4_113 (by decide) (by decide) (by decide) ?_
  refine zr_if_ne (tgt := 89) dX4_winsOver_51 (by decide) (fun h29 => ?_) (fun h29 => ?_)
  · have T := T.1 h29
    refine zr_iload dX4_winsOver_89 3 rfl ?_
    refine zr_iload dX4_winsOver_91 2 rfl ?_
    refine zr_icmp_ne (tgt := 109) dX4_winsOver_93 (by decide) (fun h30 => ?_) (fun h30 => ?_)
    · have T := T.1 h30
      refine zr_aload_n dX4_winsOver_109 rfl 4 rfl ?_
      refine zm_getr (a := 3) dX4_winsOver_110 f_X4_22 (oX4 _ h0) (by decide) (by decide) (rX4_0 _ h0) ?_
      refine zm_geti dX4_winsOver_113 f_X4_113 (by decide) (by decide) (by decide) ?_
      refine zr_iconst (v := 1) dX4_winsOver_116 (by decide) ?_
      refine zr_icmp_ne (tgt := 133) dX4_winsOver_117 (by decide) (fun h31 => ?_) (fun h31 => ?_)
      · have T := T.1 h31
        refine zr_iload dX4_winsOver_133 3 rfl ?_
        refine zr_iconst (v := (-1)) dX4_winsOver_135 (by decide) ?_
        refine zr_icmp_eq (tgt := 156) dX4_winsOver_136 (by decide) (fun h32 => ?_) (fun h32 => ?_)
        · have T := T.1 h32
          refine zr_iconst (v := 0) dX4_winsOver_156 (by decide) ?_
          exact zm_zret dX4_winsOver_157 rfl (by decide) T
        · have T := T.2 h32
          refine zr_iload dX4_winsOver_139 2 rfl ?_
          refine zr_iconst (v := (-1)) dX4_winsOver_141 (by decide) ?_
          refine zr_icmp_eq (tgt := 152) dX4_winsOver_142 (by decide) (fun h33 => ?_) (fun h33 => ?_)
          · have T := T.1 h33
            refine zr_iconst (v := 1) dX4_winsOver_152 (by decide) ?_
            refine zr_goto (tgt := 157) dX4_winsOver_153 (by decide) ?_
            exact zm_zret dX4_winsOver_157 rfl (by decide) T
          · have T := T.2 h33
            refine zr_iload dX4_winsOver_145 3 rfl ?_
            refine zr_iload dX4_winsOver_147 2 rfl ?_
            refine zr_icmp_ge (tgt := 156) dX4_winsOver_149 (by decide) (fun h34 => ?_) (fun h34 => ?_)
            · have T := T.1 h34
              refine zr_iconst (v := 0) dX4_winsOver_156 (by decide) ?_
              exact zm_zret dX4_winsOver_157 rfl (by decide) T
            · have T := T.2 h34
              refine zr_iconst (v := 1) dX4_winsOver_152 (by decide) ?_
              refine zr_goto (tgt := 157) dX4_winsOver_153 (by decide) ?_
              exact zm_zret dX4_winsOver_157 rfl (by decide) T
      · have T := T.2 h31
        refine zr_iload dX4_winsOver_120 3 rfl ?_
        refine zr_iload dX4_winsOver_122 2 rfl ?_
        refine zr_icmp_le (tgt := 131) dX4_winsOver_124 (by decide) (fun h35 => ?_) (fun h35 => ?_)
        · have T := T.1 h35
          refine zr_iconst (v := 0) dX4_winsOver_131 (by decide) ?_
          exact zm_zret dX4_winsOver_132 rfl (by decide) T
        · have T := T.2 h35
          refine zr_iconst (v := 1) dX4_winsOver_127 (by decide) ?_
          refine zr_goto (tgt := 132) dX4_winsOver_128 (by decide) ?_
          exact zm_zret dX4_winsOver_132 rfl (by decide) T
    · have T := T.2 h30
      refine zr_iload dX4_winsOver_96 1 rfl ?_
      refine zr_iload dX4_winsOver_98 0 rfl ?_
      refine zr_icmp_le (tgt := 107) dX4_winsOver_100 (by decide) (fun h36 => ?_) (fun h36 => ?_)
      · have T := T.1 h36
        refine zr_iconst (v := 0) dX4_winsOver_107 (by decide) ?_
        exact zm_zret dX4_winsOver_108 rfl (by decide) T
      · have T := T.2 h36
        refine zr_iconst (v := 1) dX4_winsOver_103 (by decide) ?_
        refine zr_goto (tgt := 108) dX4_winsOver_104 (by decide) ?_
        exact zm_zret dX4_winsOver_108 rfl (by decide) T
  · have T := T.2 h29
    refine zr_iload dX4_winsOver_54 1 rfl ?_
    refine zr_iload dX4_winsOver_56 0 rfl ?_
    refine zr_icmp_ne (tgt := 76) dX4_winsOver_58 (by decide) (fun h37 => ?_) (fun h37 => ?_)
    · have T := T.1 h37
      refine zr_iload dX4_winsOver_76 1 rfl ?_
      refine zr_iload dX4_winsOver_78 0 rfl ?_
      refine zr_icmp_le (tgt := 87) dX4_winsOver_80 (by decide) (fun h38 => ?_) (fun h38 => ?_)
      · have T := T.1 h38
        refine zr_iconst (v := 0) dX4_winsOver_87 (by decide) ?_
        exact zm_zret dX4_winsOver_88 rfl (by decide) T
      · have T := T.2 h38
        refine zr_iconst (v := 1) dX4_winsOver_83 (by decide) ?_
        refine zr_goto (tgt := 88) dX4_winsOver_84 (by decide) ?_
        exact zm_zret dX4_winsOver_88 rfl (by decide) T
    · have T := T.2 h37
      refine zr_iload dX4_winsOver_61 3 rfl ?_
      refine zr_iload dX4_winsOver_63 2 rfl ?_
      refine zr_icmp_le (tgt := 72) dX4_winsOver_65 (by decide) (fun h39 => ?_) (fun h39 => ?_)
      · have T := T.1 h39
        refine zr_iconst (v := 0) dX4_winsOver_72 (by decide) ?_
        refine zr_goto (tgt := 88) dX4_winsOver_73 (by decide) ?_
        exact zm_zret dX4_winsOver_88 rfl (by decide) T
      · have T := T.2 h39
        refine zr_iconst (v := 1) dX4_winsOver_68 (by decide) ?_
        refine zr_goto (tgt := 88) dX4_winsOver_69 (by decide) ?_
        exact zm_zret dX4_winsOver_88 rfl (by decide) T
set_option maxRecDepth 100000 in
set_option maxHeartbeats 4000000 in
theorem t_X4_tryCut {d : Nat} {b0 : Nat} {x1 : Int32} {x2 : Int32} {M : zMem} {K : zK} (h0 : b0 ∈ iX4)
    (T : S_X3_areCut d (pF b0) x1 x2 M (zB (fun r21 M22 => (r21 = false → S_X3_turnLink d (pF b0) x1 x2 M22 (zU (fun M25 => K (some (.int 0)) M25))) ∧ (r21 = true → K (some (.int 1)) M22)))) : S_X4_tryCut (d + 1) b0 x1 x2 M K := by
  show zV m_X4_tryCut (d + 1) 0 [(0, .ref b0), (1, .int x1), (2, .int x2)] [] M K
  refine zr_aload_n dX4_tryCut_0 rfl 0 rfl ?_
  refine zm_getr (a := pF b0) dX4_tryCut_1 f_X4_26 (oX4 _ h0) (by decide) (by decide) (rX4_1 _ h0) ?_
  refine zr_iload_n dX4_tryCut_4 rfl 1 rfl ?_
  refine zr_iload_n dX4_tryCut_5 rfl 2 rfl ?_
  refine zm_callV_b (c := 3) (b := pF b0) dX4_tryCut_6 w_X3_areCut l_X4_120 rfl (oX3 _ (qX4_1 _ h0)) (by decide) s_X3_areCut [.int x1, .int x2] rfl rfl (Nat.le_of_ble_eq_true rfl) (Nat.le_of_ble_eq_true rfl) ?_
  refine zV.post T ?_
  rintro v M22 ⟨r21, rfl, T⟩
  refine ⟨r21, rfl, ?_⟩
  refine zm_ifb_eq (tgt := 14) dX4_tryCut_9 (by decide) (fun h23 => ?_) (fun h23 => ?_)
  · have T := T.1 h23
    refine zr_aload_n dX4_tryCut_14 rfl 0 rfl ?_
    refine zm_getr (a := pF b0) dX4_tryCut_15 f_X4_26 (oX4 _ h0) (by decide) (by decide) (rX4_1 _ h0) ?_
    refine zr_iload_n dX4_tryCut_18 rfl 1 rfl ?_
    refine zr_iload_n dX4_tryCut_19 rfl 2 rfl ?_
    refine zm_callV_v (c := 3) (b := pF b0) dX4_tryCut_20 w_X3_turnLink l_X4_144 rfl (oX3 _ (qX4_1 _ h0)) (by decide) s_X3_turnLink [.int x1, .int x2] rfl rfl (Nat.le_of_ble_eq_true rfl) (Nat.le_of_ble_eq_true rfl) ?_
    refine zV.post T ?_
    rintro v M25 ⟨rfl, T⟩
    refine ⟨rfl, ?_⟩
    refine zr_iconst (v := 0) dX4_tryCut_23 (by decide) ?_
    exact zm_iret dX4_tryCut_24 rfl T
  · have T := T.2 h23
    refine zr_iconst (v := 1) dX4_tryCut_12 (by decide) ?_
    exact zm_iret dX4_tryCut_13 rfl T
set_option maxRecDepth 100000 in
set_option maxHeartbeats 4000000 in
theorem t_X4_tryHeal {d : Nat} {b0 : Nat} {x1 : Int32} {x2 : Int32} {M : zMem} {K : zK} (h0 : b0 ∈ iX4)
    (T : S_X3_areCut d (pF b0) x1 x2 M (zB (fun r21 M22 => (r21 = true → S_X3_turnLink d (pF b0) x1 x2 M22 (zU (fun M25 => K (some (.int 0)) M25))) ∧ (r21 = false → K (some (.int 1)) M22)))) : S_X4_tryHeal (d + 1) b0 x1 x2 M K := by
  show zV m_X4_tryHeal (d + 1) 0 [(0, .ref b0), (1, .int x1), (2, .int x2)] [] M K
  refine zr_aload_n dX4_tryHeal_0 rfl 0 rfl ?_
  refine zm_getr (a := pF b0) dX4_tryHeal_1 f_X4_26 (oX4 _ h0) (by decide) (by decide) (rX4_1 _ h0) ?_
  refine zr_iload_n dX4_tryHeal_4 rfl 1 rfl ?_
  refine zr_iload_n dX4_tryHeal_5 rfl 2 rfl ?_
  refine zm_callV_b (c := 3) (b := pF b0) dX4_tryHeal_6 w_X3_areCut l_X4_120 rfl (oX3 _ (qX4_1 _ h0)) (by decide) s_X3_areCut [.int x1, .int x2] rfl rfl (Nat.le_of_ble_eq_true rfl) (Nat.le_of_ble_eq_true rfl) ?_
  refine zV.post T ?_
  rintro v M22 ⟨r21, rfl, T⟩
  refine ⟨r21, rfl, ?_⟩
  refine zm_ifb_ne (tgt := 14) dX4_tryHeal_9 (by decide) (fun h23 => ?_) (fun h23 => ?_)
  · have T := T.1 h23
    refine zr_aload_n dX4_tryHeal_14 rfl 0 rfl ?_
    refine zm_getr (a := pF b0) dX4_tryHeal_15 f_X4_26 (oX4 _ h0) (by decide) (by decide) (rX4_1 _ h0) ?_
    refine zr_iload_n dX4_tryHeal_18 rfl 1 rfl ?_
    refine zr_iload_n dX4_tryHeal_19 rfl 2 rfl ?_
    refine zm_callV_v (c := 3) (b := pF b0) dX4_tryHeal_20 w_X3_turnLink l_X4_144 rfl (oX3 _ (qX4_1 _ h0)) (by decide) s_X3_turnLink [.int x1, .int x2] rfl rfl (Nat.le_of_ble_eq_true rfl) (Nat.le_of_ble_eq_true rfl) ?_
    refine zV.post T ?_
    rintro v M25 ⟨rfl, T⟩
    refine ⟨rfl, ?_⟩
    refine zr_iconst (v := 0) dX4_tryHeal_23 (by decide) ?_
    exact zm_iret dX4_tryHeal_24 rfl T
  · have T := T.2 h23
    refine zr_iconst (v := 1) dX4_tryHeal_12 (by decide) ?_
    exact zm_iret dX4_tryHeal_13 rfl T
set_option maxRecDepth 100000 in
set_option maxHeartbeats 4000000 in
theorem t_X10_takeBack {d : Nat} {b1 : Nat} {M : zMem} {K : zK} (h1 : b1 ∈ iX3)
    (T : (∀ M21 : zMem, M21 = wI M 170 1 (((M.1 170 1) + 8) - ((M.1 170 1) + 8) / 9 * 9) → (∀ M23 : zMem, M23 = wI M21 170 2 ((M21.1 170 2) - 1) → vp_in (M23.1 170 1) 9 ∧ (S_X3_copyFrom d b1 (172 + 5 * (Int32.toNatClampNeg (M23.1 170 1))) M23 (zU (fun M27 => K none M27)))))) : S_X10_takeBack (d + 1) b1 M K := by
  show zV m_X10_takeBack (d + 1) 0 [(0, .ref 170), (1, .ref b1)] [] M K
  refine zr_aload_n dX10_takeBack_0 rfl 0 rfl ?_
  refine zr_aload_n dX10_takeBack_1 rfl 0 rfl ?_
  refine zm_geti dX10_takeBack_2 f_X10_17 (by decide) (by decide) (by decide) ?_
  refine zr_bipush (v := 8) dX10_takeBack_5 (by decide) ?_
  refine zr_iadd dX10_takeBack_7 ?_
  refine zr_bipush (v := 9) dX10_takeBack_8 (by decide) ?_
  refine zr_irem dX10_takeBack_10 (by decide) ?_
  refine zn_puti dX10_takeBack_11 f_X10_17 (by decide) (by decide) (by decide) (fun M21 e22 => ?_)
  have T := T M21 e22
  refine zr_aload_n dX10_takeBack_14 rfl 0 rfl ?_
  refine zr_dup dX10_takeBack_15 rfl ?_
  refine zm_geti dX10_takeBack_16 f_X10_21 (by decide) (by decide) (by decide) ?_
  refine zr_iconst (v := 1) dX10_takeBack_19 (by decide) ?_
  refine zr_isub dX10_takeBack_20 ?_
  refine zn_puti dX10_takeBack_21 f_X10_21 (by decide) (by decide) (by decide) (fun M23 e24 => ?_)
  have T := T M23 e24
  refine zr_aload_n dX10_takeBack_24 rfl 1 rfl ?_
  refine zr_aload_n dX10_takeBack_25 rfl 0 rfl ?_
  refine zm_getr (a := 171) dX10_takeBack_26 f_X10_11 (by decide) (by decide) (by decide) (by decide) ?_
  refine zr_aload_n dX10_takeBack_29 rfl 0 rfl ?_
  refine zm_geti dX10_takeBack_30 f_X10_17 (by decide) (by decide) (by decide) ?_
  obtain ⟨hq25, T⟩ := T
  refine zm_aald (t := 6) (n := 9) (q := (Int32.toNatClampNeg (M23.1 170 1))) (o := 172 + 5 * (Int32.toNatClampNeg (M23.1 170 1))) dX10_takeBack_33 (by decide) (by decide) (by decide) (fun _ => rfl) (by decide) hq25 rfl (e171 (z_lt hq25)) ?_
  refine zm_callV_v (c := 3) (b := b1) dX10_takeBack_34 w_X3_copyFrom l_X10_25 rfl (oX3 _ h1) (by decide) s_X3_copyFrom [.ref (172 + 5 * (Int32.toNatClampNeg (M23.1 170 1)))] rfl rfl (Nat.le_of_ble_eq_true rfl) (Nat.le_of_ble_eq_true rfl) ?_
  refine zV.post T ?_
  rintro v M27 ⟨rfl, T⟩
  refine ⟨rfl, ?_⟩
  exact zm_vret dX10_takeBack_37 rfl T
set_option maxRecDepth 100000 in
set_option maxHeartbeats 4000000 in
theorem t_X4_copyFrom {d : Nat} {b0 : Nat} {b1 : Nat} {M : zMem} {K : zK} (h0 : b0 ∈ iX4) (h1 : b1 ∈ iX4)
    (T : S_X3_copyFrom d (pF b0) (pF b1) M (zU (fun M22 => S_X4_copyFrom_13 (d + 1) b0 b1 0 M22 K))) : S_X4_copyFrom (d + 1) b0 b1 M K := by
  show zV m_X4_copyFrom (d + 1) 0 [(0, .ref b0), (1, .ref b1)] [] M K
  refine zr_aload_n dX4_copyFrom_0 rfl 0 rfl ?_
  refine zm_getr (a := pF b0) dX4_copyFrom_1 f_X4_26 (oX4 _ h0) (by decide) (by decide) (rX4_1 _ h0) ?_
  refine zr_aload_n dX4_copyFrom_4 rfl 1 rfl ?_
  refine zm_getr (a := pF b1) dX4_copyFrom_5 f_X4_26 (oX4 _ h1) (by decide) (by decide) (rX4_1 _ h1) ?_
  refine zm_callV_v (c := 3) (b := pF b0) dX4_copyFrom_8 w_X3_copyFrom l_X4_30 rfl (oX3 _ (qX4_1 _ h0)) (by decide) s_X3_copyFrom [.ref (pF b1)] rfl rfl (Nat.le_of_ble_eq_true rfl) (Nat.le_of_ble_eq_true rfl) ?_
  refine zV.post T ?_
  rintro v M22 ⟨rfl, T⟩
  refine ⟨rfl, ?_⟩
  refine zr_iconst (v := 0) dX4_copyFrom_11 (by decide) ?_
  refine zr_istore_n dX4_copyFrom_12 rfl (by decide) (L2 := [(2, .int 0), (0, .ref b0), (1, .ref b1)]) rfl ?_
  exact zV.pick [1, 2, 0] rfl T
set_option maxRecDepth 100000 in
set_option maxHeartbeats 4000000 in
theorem t_X4_copyFrom_13 {d : Nat} {b0 : Nat} {b1 : Nat} {x2 : Int32} {M : zMem} {K : zK} (h0 : b0 ∈ iX4) (h1 : b1 ∈ iX4)
    (T : (4 ≤ x2 → K none M) ∧ (¬ (4 ≤ x2) → vp_in x2 4 ∧ (vp_in x2 4 ∧ (S_X9_copyFrom d (pT b0 + 1 + 12 * (Int32.toNatClampNeg x2)) (pT b1 + 1 + 12 * (Int32.toNatClampNeg x2)) M (zU (fun M25 => S_X4_copyFrom_13 (d + 1) b0 b1 (x2 + 1) M25 K)))))) : S_X4_copyFrom_13 (d + 1) b0 b1 x2 M K := by
  show zV m_X4_copyFrom (d + 1) 13 [(0, .ref b0), (1, .ref b1), (2, .int x2)] [] M K
  refine zr_iload_n dX4_copyFrom_13 rfl 2 rfl ?_
  refine zr_iconst (v := 4) dX4_copyFrom_14 (by decide) ?_
  refine zr_icmp_ge (tgt := 39) dX4_copyFrom_15 (by decide) (fun h21 => ?_) (fun h21 => ?_)
  · have T := T.1 h21
    exact zm_vret dX4_copyFrom_39 rfl T
  · have T := T.2 h21
    refine zr_aload_n dX4_copyFrom_18 rfl 0 rfl ?_
    refine zm_getr (a := pT b0) dX4_copyFrom_19 f_X4_12 (oX4 _ h0) (by decide) (by decide) (rX4_2 _ h0) ?_
    refine zr_iload_n dX4_copyFrom_22 rfl 2 rfl ?_
    obtain ⟨hq22, T⟩ := T
    refine zm_aald (t := 4) (n := 4) (q := (Int32.toNatClampNeg x2)) (o := pT b0 + 1 + 12 * (Int32.toNatClampNeg x2)) dX4_copyFrom_23 (aX _ (qX4_2 _ h0)) (by decide) (by decide) (fun _ => rfl) (lX _ (qX4_2 _ h0)) hq22 rfl (eX9 _ (qX4_2 _ h0) (z_lt hq22)) ?_
    refine zr_aload_n dX4_copyFrom_24 rfl 1 rfl ?_
    refine zm_getr (a := pT b1) dX4_copyFrom_25 f_X4_12 (oX4 _ h1) (by decide) (by decide) (rX4_2 _ h1) ?_
    refine zr_iload_n dX4_copyFrom_28 rfl 2 rfl ?_
    obtain ⟨hq23, T⟩ := T
    refine zm_aald (t := 4) (n := 4) (q := (Int32.toNatClampNeg x2)) (o := pT b1 + 1 + 12 * (Int32.toNatClampNeg x2)) dX4_copyFrom_29 (aX _ (qX4_2 _ h1)) (by decide) (by decide) (fun _ => rfl) (lX _ (qX4_2 _ h1)) hq23 rfl (eX9 _ (qX4_2 _ h1) (z_lt hq23)) ?_
    refine zm_callV_v (c := 9) (b := pT b0 + 1 + 12 * (Int32.toNatClampNeg x2)) dX4_copyFrom_30 w_X9_copyFrom l_X4_36 rfl (oX9 _ (eX9q _ (qX4_2 _ h0) (z_lt hq22))) (by decide) s_X9_copyFrom [.ref (pT b1 + 1 + 12 * (Int32.toNatClampNeg x2))] rfl rfl (Nat.le_of_ble_eq_true rfl) (Nat.le_of_ble_eq_true rfl) ?_
    refine zV.post T ?_
    rintro v M25 ⟨rfl, T⟩
    refine ⟨rfl, ?_⟩
    refine zr_iinc (n := 2) (v := x2 + 1) dX4_copyFrom_33 rfl rfl (by decide) (L2 := [(2, .int (x2 + 1)), (0, .ref b0), (1, .ref b1)]) rfl ?_
    refine zr_goto (tgt := 13) dX4_copyFrom_36 (by decide) ?_
    exact zV.pick [1, 2, 0] rfl T
set_option maxRecDepth 100000 in
set_option maxHeartbeats 4000000 in
theorem t_X2_begin {d : Nat} {x1 : Int32} {M : zMem} {K : zK} 
    (T : (∀ M21 : zMem, M21 = wI M 217 0 x1 → S_X2_begin_7 d 0 M21 K)) : S_X2_begin d x1 M K := by
  show zV m_X2_begin d 0 [(0, .ref 217), (1, .int x1)] [] M K
  refine zr_aload_n dX2_begin_0 rfl 0 rfl ?_
  refine zr_iload_n dX2_begin_1 rfl 1 rfl ?_
  refine zn_puti dX2_begin_2 f_X2_9 (by decide) (by decide) (by decide) (fun M21 e22 => ?_)
  have T := T M21 e22
  refine zr_iconst (v := 0) dX2_begin_5 (by decide) ?_
  refine zr_istore_n dX2_begin_6 rfl (by decide) (L2 := [(2, .int 0), (0, .ref 217), (1, .int x1)]) rfl ?_
  exact zV.pick [1, 0] rfl T
set_option maxRecDepth 100000 in
set_option maxHeartbeats 4000000 in
theorem t_X2_begin_7 {d : Nat} {x2 : Int32} {M : zMem} {K : zK} 
    (T : (4 ≤ x2 → K none M) ∧ (¬ (4 ≤ x2) → vp_in x2 4 ∧ ((∀ M23 : zMem, M23 = wI M 218 (Int32.toNatClampNeg x2) 0 → S_X2_begin_7 d (x2 + 1) M23 K)))) : S_X2_begin_7 d x2 M K := by
  show zV m_X2_begin d 7 [(0, .ref 217), (2, .int x2)] [] M K
  refine zr_iload_n dX2_begin_7 rfl 1 rfl ?_
  refine zr_aload_n dX2_begin_8 rfl 0 rfl ?_
  refine zm_getr (a := 218) dX2_begin_9 f_X2_15 (by decide) (by decide) (by decide) (by decide) ?_
  refine zm_alen (t := 0) (v := 4) dX2_begin_12 (by decide) (by decide) (by decide) ?_
  refine zr_icmp_ge (tgt := 29) dX2_begin_13 (by decide) (fun h21 => ?_) (fun h21 => ?_)
  · have T := T.1 h21
    exact zm_vret dX2_begin_29 rfl T
  · have T := T.2 h21
    refine zr_aload_n dX2_begin_16 rfl 0 rfl ?_
    refine zm_getr (a := 218) dX2_begin_17 f_X2_15 (by decide) (by decide) (by decide) (by decide) ?_
    refine zr_iload_n dX2_begin_20 rfl 1 rfl ?_
    refine zr_iconst (v := 0) dX2_begin_21 (by decide) ?_
    obtain ⟨hq22, T⟩ := T
    refine zn_iast (n := 4) (o := (Int32.toNatClampNeg x2)) dX2_begin_22 (by decide) (by decide) hq22 rfl (fun M23 e24 => ?_)
    have T := T M23 e24
    refine zr_iinc (n := 1) (v := x2 + 1) dX2_begin_23 rfl rfl (by decide) (L2 := [(2, .int (x2 + 1)), (0, .ref 217)]) rfl ?_
    refine zr_goto (tgt := 7) dX2_begin_26 (by decide) ?_
    exact zV.pick [1, 0] rfl T
set_option maxRecDepth 100000 in
set_option maxHeartbeats 4000000 in
theorem t_X2_runRounds {d : Nat} {b1 : Nat} {x2 : Int32} {M : zMem} {K : zK} (h1 : b1 ∈ iX4)
    (T : S_X2_runRounds_2 (d + 1) b1 x2 0 M K) : S_X2_runRounds (d + 1) b1 x2 M K := by
  show zV m_X2_runRounds (d + 1) 0 [(0, .ref 217), (1, .ref b1), (2, .int x2)] [] M K
  refine zr_iconst (v := 0) dX2_runRounds_0 (by decide) ?_
  refine zr_istore_n dX2_runRounds_1 rfl (by decide) (L2 := [(3, .int 0), (0, .ref 217), (1, .ref b1), (2, .int x2)]) rfl ?_
  exact zV.pick [1, 2, 3, 0] rfl T
set_option maxRecDepth 100000 in
set_option maxHeartbeats 4000000 in
theorem t_X2_runRounds_2 {d : Nat} {b1 : Nat} {x2 : Int32} {x3 : Int32} {M : zMem} {K : zK} (h1 : b1 ∈ iX4)
    (T : (x2 ≤ x3 → K none M) ∧ (¬ (x2 ≤ x3) → S_X2_runRound d b1 M (zU (fun M23 => S_X2_runRounds_2 (d + 1) b1 x2 (x3 + 1) M23 K)))) : S_X2_runRounds_2 (d + 1) b1 x2 x3 M K := by
  show zV m_X2_runRounds (d + 1) 2 [(0, .ref 217), (1, .ref b1), (2, .int x2), (3, .int x3)] [] M K
  refine zr_iload_n dX2_runRounds_2 rfl 3 rfl ?_
  refine zr_iload_n dX2_runRounds_3 rfl 2 rfl ?_
  refine zr_icmp_ge (tgt := 18) dX2_runRounds_4 (by decide) (fun h21 => ?_) (fun h21 => ?_)
  · have T := T.1 h21
    exact zm_vret dX2_runRounds_18 rfl T
  · have T := T.2 h21
    refine zr_aload_n dX2_runRounds_7 rfl 0 rfl ?_
    refine zr_aload_n dX2_runRounds_8 rfl 1 rfl ?_
    refine zm_callV_v (c := 2) (b := 217) dX2_runRounds_9 w_X2_runRound l_X2_33 rfl (by decide) (by decide) s_X2_runRound [.ref b1] rfl rfl (Nat.le_of_ble_eq_true rfl) (Nat.le_of_ble_eq_true rfl) ?_
    refine zV.post T ?_
    rintro v M23 ⟨rfl, T⟩
    refine ⟨rfl, ?_⟩
    refine zr_iinc (n := 3) (v := x3 + 1) dX2_runRounds_12 rfl rfl (by decide) (L2 := [(3, .int (x3 + 1)), (0, .ref 217), (1, .ref b1), (2, .int x2)]) rfl ?_
    refine zr_goto (tgt := 2) dX2_runRounds_15 (by decide) ?_
    exact zV.pick [1, 2, 3, 0] rfl T
set_option maxRecDepth 100000 in
set_option maxHeartbeats 4000000 in
theorem t_X2_runRound {d : Nat} {b1 : Nat} {M : zMem} {K : zK} (h1 : b1 ∈ iX4)
    (T : S_X2_draw d 8 M (zI (fun r21 M22 => S_X2_draw d (M22.1 3 4) M22 (zI (fun r23 M24 => (2 < r21 → S_X2_draw d (M24.1 3 4) M24 (zI (fun r26 M27 => (¬ r23 = r26 → (¬ r21 = 7 → S_X4_tryPull d b1 r23 r26 M27 (zI (fun r30 M31 => S_X2_countRefusal d r30 M31 (zU (fun M33 => K none M33))))) ∧ (r21 = 7 → S_X3_turnLink d (pF b1) r23 r26 M27 (zU (fun M35 => K none M35)))) ∧ (r23 = r26 → K none M27)))) ∧ (¬ (2 < r21) → S_X2_draw d (M24.1 3 3) M24 (zI (fun r36 M37 => (¬ r21 = 2 → S_X2_draw d 10 M37 (zI (fun r39 M40 => S_X4_tryPut d b1 r23 r36 r39 M40 (zI (fun r41 M42 => S_X2_countRefusal d r41 M42 (zU (fun M44 => K none M44))))))) ∧ (r21 = 2 → S_X4_tryDrop d b1 r23 r36 M37 (zI (fun r45 M46 => S_X2_countRefusal d r45 M46 (zU (fun M48 => K none M48))))))))))))) : S_X2_runRound (d + 1) b1 M K := by
  show zV m_X2_runRound (d + 1) 0 [(0, .ref 217), (1, .ref b1)] [] M K
  refine zr_aload_n dX2_runRound_0 rfl 0 rfl ?_
  refine zr_bipush (v := 8) dX2_runRound_1 (by decide) ?_
  refine zm_callV_i (c := 2) (b := 217) dX2_runRound_3 w_X2_draw l_X2_37 rfl (by decide) (by decide) s_X2_draw [.int 8] rfl rfl (Nat.le_of_ble_eq_true rfl) (Nat.le_of_ble_eq_true rfl) ?_
  refine zV.post T ?_
  rintro v M22 ⟨r21, rfl, T⟩
  refine ⟨r21, rfl, ?_⟩
  refine zr_istore_n dX2_runRound_6 rfl (by decide) (L2 := [(2, .int r21), (0, .ref 217), (1, .ref b1)]) rfl ?_
  refine zr_aload_n dX2_runRound_7 rfl 1 rfl ?_
  refine zr_aload_n dX2_runRound_8 rfl 2 rfl ?_
  refine zm_getr (a := 3) dX2_runRound_9 f_X2_41 (oX4 _ h1) (by decide) (by decide) (rX4_0 _ h1) ?_
  refine zm_geti dX2_runRound_12 f_X2_47 (by decide) (by decide) (by decide) ?_
  refine zm_callV_i (c := 2) (b := 217) dX2_runRound_15 w_X2_draw l_X2_37 rfl (by decide) (by decide) s_X2_draw [.int (M22.1 3 4)] rfl rfl (Nat.le_of_ble_eq_true rfl) (Nat.le_of_ble_eq_true rfl) ?_
  refine zV.post T ?_
  rintro v M24 ⟨r23, rfl, T⟩
  refine ⟨r23, rfl, ?_⟩
  refine zr_istore_n dX2_runRound_18 rfl (by decide) (L2 := [(3, .int r23), (2, .int r21), (0, .ref 217), (1, .ref b1)]) rfl ?_
  refine zr_iload_n dX2_runRound_19 rfl 1 rfl ?_
  refine zr_iconst (v := 2) dX2_runRound_20 (by decide) ?_
  refine zr_icmp_gt (tgt := 70) dX2_runRound_21 (by decide) (fun h25 => ?_) (fun h25 => ?_)
  · have T := T.1 h25
    refine zr_aload_n dX2_runRound_70 rfl 2 rfl ?_
    refine zr_aload_n dX2_runRound_71 rfl 3 rfl ?_
    refine zm_getr (a := 3) dX2_runRound_72 f_X2_41 (oX4 _ h1) (by decide) (by decide) (rX4_0 _ h1) ?_
    refine zm_geti dX2_runRound_75 f_X2_47 (by decide) (by decide) (by decide) ?_
    refine zm_callV_i (c := 2) (b := 217) dX2_runRound_78 w_X2_draw l_X2_37 rfl (by decide) (by decide) s_X2_draw [.int (M24.1 3 4)] rfl rfl (Nat.le_of_ble_eq_true rfl) (Nat.le_of_ble_eq_true rfl) ?_
    refine zV.post T ?_
    rintro v M27 ⟨r26, rfl, T⟩
    refine ⟨r26, rfl, ?_⟩
    refine zr_istore dX2_runRound_81 (by decide) (L2 := [(4, .int r26), (3, .int r23), (2, .int r21), (0, .ref 217), (1, .ref b1)]) rfl ?_
    refine zr_iload_n dX2_runRound_83 rfl 1 rfl ?_
    refine zr_iload dX2_runRound_84 0 rfl ?_
    refine zr_icmp_ne (tgt := 90) dX2_runRound_86 (by decide) (fun h28 => ?_) (fun h28 => ?_)
    · have T := T.1 h28
      refine zr_iload_n dX2_runRound_90 rfl 2 rfl ?_
      refine zr_bipush (v := 7) dX2_runRound_91 (by decide) ?_
      refine zr_icmp_ne (tgt := 109) dX2_runRound_93 (by decide) (fun h29 => ?_) (fun h29 => ?_)
      · have T := T.1 h29
        refine zr_aload_n dX2_runRound_109 rfl 3 rfl ?_
        refine zr_aload_n dX2_runRound_110 rfl 4 rfl ?_
        refine zr_iload_n dX2_runRound_111 rfl 1 rfl ?_
        refine zr_iload dX2_runRound_112 0 rfl ?_
        refine zm_callV_i (c := 4) (b := b1) dX2_runRound_114 w_X4_tryPull l_X2_77 rfl (oX4 _ h1) (by decide) s_X4_tryPull [.int r23, .int r26] rfl rfl (Nat.le_of_ble_eq_true rfl) (Nat.le_of_ble_eq_true rfl) ?_
        refine zV.post T ?_
        rintro v M31 ⟨r30, rfl, T⟩
        refine ⟨r30, rfl, ?_⟩
        refine zm_callV_v (c := 2) (b := 217) dX2_runRound_117 w_X2_countRefusal l_X2_63 rfl (by decide) (by decide) s_X2_countRefusal [.int r30] rfl rfl (Nat.le_of_ble_eq_true rfl) (Nat.le_of_ble_eq_true rfl) ?_
        refine zV.post T ?_
        rintro v M33 ⟨rfl, T⟩
        refine ⟨rfl, ?_⟩
        exact zm_vret dX2_runRound_120 rfl T
      · have T := T.2 h29
        refine zr_aload_n dX2_runRound_96 rfl 4 rfl ?_
        refine zm_getr (a := pF b1) dX2_runRound_97 f_X2_67 (oX4 _ h1) (by decide) (by decide) (rX4_1 _ h1) ?_
        refine zr_iload_n dX2_runRound_100 rfl 1 rfl ?_
        refine zr_iload dX2_runRound_101 0 rfl ?_
        refine zm_callV_v (c := 3) (b := pF b1) dX2_runRound_103 w_X3_turnLink l_X2_71 rfl (oX3 _ (qX4_1 _ h1)) (by decide) s_X3_turnLink [.int r23, .int r26] rfl rfl (Nat.le_of_ble_eq_true rfl) (Nat.le_of_ble_eq_true rfl) ?_
        refine zV.post T ?_
        rintro v M35 ⟨rfl, T⟩
        refine ⟨rfl, ?_⟩
        refine zr_goto (tgt := 120) dX2_runRound_106 (by decide) ?_
        exact zm_vret dX2_runRound_120 rfl T
    · have T := T.2 h28
      exact zm_vret dX2_runRound_89 rfl T
  · have T := T.2 h25
    refine zr_aload_n dX2_runRound_24 rfl 2 rfl ?_
    refine zr_aload_n dX2_runRound_25 rfl 3 rfl ?_
    refine zm_getr (a := 3) dX2_runRound_26 f_X2_41 (oX4 _ h1) (by decide) (by decide) (rX4_0 _ h1) ?_
    refine zm_geti dX2_runRound_29 f_X2_52 (by decide) (by decide) (by decide) ?_
    refine zm_callV_i (c := 2) (b := 217) dX2_runRound_32 w_X2_draw l_X2_37 rfl (by decide) (by decide) s_X2_draw [.int (M24.1 3 3)] rfl rfl (Nat.le_of_ble_eq_true rfl) (Nat.le_of_ble_eq_true rfl) ?_
    refine zV.post T ?_
    rintro v M37 ⟨r36, rfl, T⟩
    refine ⟨r36, rfl, ?_⟩
    refine zr_istore dX2_runRound_35 (by decide) (L2 := [(4, .int r36), (3, .int r23), (2, .int r21), (0, .ref 217), (1, .ref b1)]) rfl ?_
    refine zr_aload_n dX2_runRound_37 rfl 3 rfl ?_
    refine zr_iload_n dX2_runRound_38 rfl 2 rfl ?_
    refine zr_iconst (v := 2) dX2_runRound_39 (by decide) ?_
    refine zr_icmp_ne (tgt := 53) dX2_runRound_40 (by decide) (fun h38 => ?_) (fun h38 => ?_)
    · have T := T.1 h38
      refine zr_aload_n dX2_runRound_53 rfl 4 rfl ?_
      refine zr_iload_n dX2_runRound_54 rfl 1 rfl ?_
      refine zr_iload dX2_runRound_55 0 rfl ?_
      refine zr_aload_n dX2_runRound_57 rfl 3 rfl ?_
      refine zr_bipush (v := 10) dX2_runRound_58 (by decide) ?_
      refine zm_callV_i (c := 2) (b := 217) dX2_runRound_60 w_X2_draw l_X2_37 rfl (by decide) (by decide) s_X2_draw [.int 10] rfl rfl (Nat.le_of_ble_eq_true rfl) (Nat.le_of_ble_eq_true rfl) ?_
      refine zV.post T ?_
      rintro v M40 ⟨r39, rfl, T⟩
      refine ⟨r39, rfl, ?_⟩
      refine zm_callV_i (c := 4) (b := b1) dX2_runRound_63 w_X4_tryPut l_X2_59 rfl (oX4 _ h1) (by decide) s_X4_tryPut [.int r23, .int r36, .int r39] rfl rfl (Nat.le_of_ble_eq_true rfl) (Nat.le_of_ble_eq_true rfl) ?_
      refine zV.post T ?_
      rintro v M42 ⟨r41, rfl, T⟩
      refine ⟨r41, rfl, ?_⟩
      refine zm_callV_v (c := 2) (b := 217) dX2_runRound_66 w_X2_countRefusal l_X2_63 rfl (by decide) (by decide) s_X2_countRefusal [.int r41] rfl rfl (Nat.le_of_ble_eq_true rfl) (Nat.le_of_ble_eq_true rfl) ?_
      refine zV.post T ?_
      rintro v M44 ⟨rfl, T⟩
      refine ⟨rfl, ?_⟩
      exact zm_vret dX2_runRound_69 rfl T
    · have T := T.2 h38
      refine zr_aload_n dX2_runRound_43 rfl 4 rfl ?_
      refine zr_iload_n dX2_runRound_44 rfl 1 rfl ?_
      refine zr_iload dX2_runRound_45 0 rfl ?_
      refine zm_callV_i (c := 4) (b := b1) dX2_runRound_47 w_X4_tryDrop l_X2_55 rfl (oX4 _ h1) (by decide) s_X4_tryDrop [.int r23, .int r36] rfl rfl (Nat.le_of_ble_eq_true rfl) (Nat.le_of_ble_eq_true rfl) ?_
      refine zV.post T ?_
      rintro v M46 ⟨r45, rfl, T⟩
      refine ⟨r45, rfl, ?_⟩
      refine zr_goto (tgt := 66) dX2_runRound_50 (by decide) ?_
      refine zm_callV_v (c := 2) (b := 217) dX2_runRound_66 w_X2_countRefusal l_X2_63 rfl (by decide) (by decide) s_X2_countRefusal [.int r45] rfl rfl (Nat.le_of_ble_eq_true rfl) (Nat.le_of_ble_eq_true rfl) ?_
      refine zV.post T ?_
      rintro v M48 ⟨rfl, T⟩
      refine ⟨rfl, ?_⟩
      exact zm_vret dX2_runRound_69 rfl T
set_option maxRecDepth 100000 in
set_option maxHeartbeats 4000000 in
theorem t_X2_draw {d : Nat} {x1 : Int32} {M : zMem} {K : zK} 
    (T : (∀ M21 : zMem, M21 = wI M 217 0 (((M.1 217 0) * 1103515245) + 12345) → (x1 ≤ 0 → K (some (.int 0)) M21) ∧ (¬ (x1 ≤ 0) → (¬ x1 = 0) ∧ (K (some (.int (((Int32.toUInt32 (M21.1 217 0) >>> (Int32.toUInt32 8 &&& Int32.toUInt32 31)).toInt32) - ((Int32.toUInt32 (M21.1 217 0) >>> (Int32.toUInt32 8 &&& Int32.toUInt32 31)).toInt32) / x1 * x1))) M21)))) : S_X2_draw d x1 M K := by
  show zV m_X2_draw d 0 [(0, .ref 217), (1, .int x1)] [] M K
  refine zr_aload_n dX2_draw_0 rfl 0 rfl ?_
  refine zr_aload_n dX2_draw_1 rfl 0 rfl ?_
  refine zm_geti dX2_draw_2 f_X2_9 (by decide) (by decide) (by decide) ?_
  refine zr_ldc (v := 1103515245) dX2_draw_5 k_X2_32 ?_
  refine zr_imul dX2_draw_7 ?_
  refine zr_sipush (v := 12345) dX2_draw_8 (by decide) ?_
  refine zr_iadd dX2_draw_11 ?_
  refine zn_puti dX2_draw_12 f_X2_9 (by decide) (by decide) (by decide) (fun M21 e22 => ?_)
  have T := T M21 e22
  refine zr_iload_n dX2_draw_15 rfl 1 rfl ?_
  refine zr_if_le (tgt := 31) dX2_draw_16 (by decide) (fun h23 => ?_) (fun h23 => ?_)
  · have T := T.1 h23
    refine zr_iconst (v := 0) dX2_draw_31 (by decide) ?_
    exact zm_iret dX2_draw_32 rfl T
  · have T := T.2 h23
    refine zr_aload_n dX2_draw_19 rfl 0 rfl ?_
    refine zm_geti dX2_draw_20 f_X2_9 (by decide) (by decide) (by decide) ?_
    refine zr_bipush (v := 8) dX2_draw_23 (by decide) ?_
    refine zr_iushr dX2_draw_25 ?_
    refine zr_iload_n dX2_draw_26 rfl 1 rfl ?_
    obtain ⟨hz24, T⟩ := T
    refine zr_irem dX2_draw_27 hz24 ?_
    refine zr_goto (tgt := 32) dX2_draw_28 (by decide) ?_
    exact zm_iret dX2_draw_32 rfl T
set_option maxRecDepth 100000 in
set_option maxHeartbeats 4000000 in
theorem t_X2_countRefusal {d : Nat} {x1 : Int32} {M : zMem} {K : zK} 
    (T : (x1 < 1 → K none M) ∧ (¬ (x1 < 1) → (3 < x1 → K none M) ∧ (¬ (3 < x1) → vp_in x1 4 ∧ (vp_in x1 4 ∧ ((∀ M25 : zMem, M25 = wI M 218 (Int32.toNatClampNeg x1) ((M.1 218 (Int32.toNatClampNeg x1)) + 1) → K none M25)))))) : S_X2_countRefusal d x1 M K := by
  show zV m_X2_countRefusal d 0 [(0, .ref 217), (1, .int x1)] [] M K
  refine zr_iload_n dX2_countRefusal_0 rfl 1 rfl ?_
  refine zr_iconst (v := 1) dX2_countRefusal_1 (by decide) ?_
  refine zr_icmp_lt (tgt := 20) dX2_countRefusal_2 (by decide) (fun h21 => ?_) (fun h21 => ?_)
  · have T := T.1 h21
    exact zm_vret dX2_countRefusal_20 rfl T
  · have T := T.2 h21
    refine zr_iload_n dX2_countRefusal_5 rfl 1 rfl ?_
    refine zr_iconst (v := 3) dX2_countRefusal_6 (by decide) ?_
    refine zr_icmp_gt (tgt := 20) dX2_countRefusal_7 (by decide) (fun h22 => ?_) (fun h22 => ?_)
    · have T := T.1 h22
      exact zm_vret dX2_countRefusal_20 rfl T
    · have T := T.2 h22
      refine zr_aload_n dX2_countRefusal_10 rfl 0 rfl ?_
      refine zm_getr (a := 218) dX2_countRefusal_11 f_X2_15 (by decide) (by decide) (by decide) (by decide) ?_
      refine zr_iload_n dX2_countRefusal_14 rfl 1 rfl ?_
      refine zr_dup2 dX2_countRefusal_15 rfl rfl ?_
      obtain ⟨hq23, T⟩ := T
      refine zm_iald (n := 4) (o := (Int32.toNatClampNeg x1)) dX2_countRefusal_16 (by decide) (by decide) hq23 rfl ?_
      refine zr_iconst (v := 1) dX2_countRefusal_17 (by decide) ?_
      refine zr_iadd dX2_countRefusal_18 ?_
      obtain ⟨hq24, T⟩ := T
      refine zn_iast (n := 4) (o := (Int32.toNatClampNeg x1)) dX2_countRefusal_19 (by decide) (by decide) hq24 rfl (fun M25 e26 => ?_)
      have T := T M25 e26
      exact zm_vret dX2_countRefusal_20 rfl T
set_option maxRecDepth 100000 in
set_option maxHeartbeats 4000000 in
theorem t_X2_keepRefusals {d : Nat}  {M : zMem} {K : zK} 
    (T : (∀ M21 : zMem, M21 = cI M 218 0 219 0 4 → (∀ M23 : zMem, M23 = wI M21 217 3 1 → K none M23))) : S_X2_keepRefusals (d + 1)  M K := by
  show zV m_X2_keepRefusals (d + 1) 0 [(0, .ref 217)] [] M K
  refine zr_aload_n dX2_keepRefusals_0 rfl 0 rfl ?_
  refine zm_getr (a := 218) dX2_keepRefusals_1 f_X2_15 (by decide) (by decide) (by decide) (by decide) ?_
  refine zr_iconst (v := 0) dX2_keepRefusals_4 (by decide) ?_
  refine zr_aload_n dX2_keepRefusals_5 rfl 0 rfl ?_
  refine zm_getr (a := 219) dX2_keepRefusals_6 f_X2_19 (by decide) (by decide) (by decide) (by decide) ?_
  refine zr_iconst (v := 0) dX2_keepRefusals_9 (by decide) ?_
  refine zr_iconst (v := 4) dX2_keepRefusals_10 (by decide) ?_
  refine zn_copyi (n0 := 4) (n1 := 4) (s1 := 0) (d1 := 0) (m1 := 4) dX2_keepRefusals_11 l_X2_26 zcpw (by decide) (by decide) (by decide) (by decide) (by decide) (by decide) (by decide) (by decide) (Nat.le_of_ble_eq_true rfl) (fun M21 e22 => ?_)
  have T := T M21 e22
  refine zr_aload_n dX2_keepRefusals_14 rfl 0 rfl ?_
  refine zr_iconst (v := 1) dX2_keepRefusals_15 (by decide) ?_
  refine zn_putz dX2_keepRefusals_16 f_X2_22 (by decide) (by decide) (by decide) (by decide) (fun M23 e24 => ?_)
  have T := T M23 e24
  exact zm_vret dX2_keepRefusals_19 rfl T
set_option maxRecDepth 100000 in
set_option maxHeartbeats 4000000 in
theorem t_X2_refusedBy {d : Nat} {x1 : Int32} {M : zMem} {K : zK} 
    (T : ((M.1 217 3) = 0 → K (some (.int (-1))) M) ∧ (¬ ((M.1 217 3) = 0) → (x1 < 1 → K (some (.int (-1))) M) ∧ (¬ (x1 < 1) → (3 < x1 → K (some (.int (-1))) M) ∧ (¬ (3 < x1) → vp_in x1 4 ∧ (K (some (.int (M.1 219 (Int32.toNatClampNeg x1)))) M))))) : S_X2_refusedBy d x1 M K := by
  show zV m_X2_refusedBy d 0 [(0, .ref 217), (1, .int x1)] [] M K
  refine zr_aload_n dX2_refusedBy_0 rfl 0 rfl ?_
  refine zm_geti dX2_refusedBy_1 f_X2_22 (by decide) (by decide) (by decide) ?_
  refine zr_if_eq (tgt := 26) dX2_refusedBy_4 (by decide) (fun h21 => ?_) (fun h21 => ?_)
  · have T := T.1 h21
    refine zr_iconst (v := (-1)) dX2_refusedBy_26 (by decide) ?_
    exact zm_iret dX2_refusedBy_27 rfl T
  · have T := T.2 h21
    refine zr_iload_n dX2_refusedBy_7 rfl 1 rfl ?_
    refine zr_iconst (v := 1) dX2_refusedBy_8 (by decide) ?_
    refine zr_icmp_lt (tgt := 26) dX2_refusedBy_9 (by decide) (fun h22 => ?_) (fun h22 => ?_)
    · have T := T.1 h22
      refine zr_iconst (v := (-1)) dX2_refusedBy_26 (by decide) ?_
      exact zm_iret dX2_refusedBy_27 rfl T
    · have T := T.2 h22
      refine zr_iload_n dX2_refusedBy_12 rfl 1 rfl ?_
      refine zr_iconst (v := 3) dX2_refusedBy_13 (by decide) ?_
      refine zr_icmp_gt (tgt := 26) dX2_refusedBy_14 (by decide) (fun h23 => ?_) (fun h23 => ?_)
      · have T := T.1 h23
        refine zr_iconst (v := (-1)) dX2_refusedBy_26 (by decide) ?_
        exact zm_iret dX2_refusedBy_27 rfl T
      · have T := T.2 h23
        refine zr_aload_n dX2_refusedBy_17 rfl 0 rfl ?_
        refine zm_getr (a := 219) dX2_refusedBy_18 f_X2_19 (by decide) (by decide) (by decide) (by decide) ?_
        refine zr_iload_n dX2_refusedBy_21 rfl 1 rfl ?_
        obtain ⟨hq24, T⟩ := T
        refine zm_iald (n := 4) (o := (Int32.toNatClampNeg x1)) dX2_refusedBy_22 (by decide) (by decide) hq24 rfl ?_
        refine zr_goto (tgt := 27) dX2_refusedBy_23 (by decide) ?_
        exact zm_iret dX2_refusedBy_27 rfl T
set_option maxRecDepth 100000 in
set_option maxHeartbeats 4000000 in
theorem t_X4_greatestStamp {d : Nat} {b0 : Nat} {x1 : Int32} {M : zMem} {K : zK} (h0 : b0 ∈ iX4)
    (T : S_X4_greatestStamp_4 (d + 1) b0 x1 0 0 M K) : S_X4_greatestStamp (d + 1) b0 x1 M K := by
  show zV m_X4_greatestStamp (d + 1) 0 [(0, .ref b0), (1, .int x1)] [] M K
  refine zr_iconst (v := 0) dX4_greatestStamp_0 (by decide) ?_
  refine zr_istore_n dX4_greatestStamp_1 rfl (by decide) (L2 := [(2, .int 0), (0, .ref b0), (1, .int x1)]) rfl ?_
  refine zr_iconst (v := 0) dX4_greatestStamp_2 (by decide) ?_
  refine zr_istore_n dX4_greatestStamp_3 rfl (by decide) (L2 := [(3, .int 0), (2, .int 0), (0, .ref b0), (1, .int x1)]) rfl ?_
  exact zV.pick [2, 3, 1, 0] rfl T
set_option maxRecDepth 100000 in
set_option maxHeartbeats 4000000 in
theorem t_X4_greatestStamp_4 {d : Nat} {b0 : Nat} {x1 : Int32} {x2 : Int32} {x3 : Int32} {M : zMem} {K : zK} (h0 : b0 ∈ iX4)
    (T : ((M.1 3 4) ≤ x3 → K (some (.int x2)) M) ∧ (¬ ((M.1 3 4) ≤ x3) → S_X3_stampOf d (pF b0) x3 x1 M (zI (fun r22 M23 => S_X4_greatestStamp_4 (d + 1) b0 x1 (if x2 < r22 then r22 else x2) (x3 + 1) M23 K)))) : S_X4_greatestStamp_4 (d + 1) b0 x1 x2 x3 M K := by
  show zV m_X4_greatestStamp (d + 1) 4 [(0, .ref b0), (1, .int x1), (2, .int x2), (3, .int x3)] [] M K
  refine zr_iload_n dX4_greatestStamp_4 rfl 3 rfl ?_
  refine zr_aload_n dX4_greatestStamp_5 rfl 0 rfl ?_
  refine zm_getr (a := 3) dX4_greatestStamp_6 f_X4_22 (oX4 _ h0) (by decide) (by decide) (rX4_0 _ h0) ?_
  refine zm_geti dX4_greatestStamp_9 f_X4_50 (by decide) (by decide) (by decide) ?_
  refine zr_icmp_ge (tgt := 35) dX4_greatestStamp_12 (by decide) (fun h21 => ?_) (fun h21 => ?_)
  · have T := T.1 h21
    refine zr_iload_n dX4_greatestStamp_35 rfl 2 rfl ?_
    exact zm_iret dX4_greatestStamp_36 rfl T
  · have T := T.2 h21
    refine zr_iload_n dX4_greatestStamp_15 rfl 2 rfl ?_
    refine zr_aload_n dX4_greatestStamp_16 rfl 0 rfl ?_
    refine zm_getr (a := pF b0) dX4_greatestStamp_17 f_X4_26 (oX4 _ h0) (by decide) (by decide) (rX4_1 _ h0) ?_
    refine zr_iload_n dX4_greatestStamp_20 rfl 3 rfl ?_
    refine zr_iload_n dX4_greatestStamp_21 rfl 1 rfl ?_
    refine zm_callV_i (c := 3) (b := pF b0) dX4_greatestStamp_22 w_X3_stampOf l_X4_80 rfl (oX3 _ (qX4_1 _ h0)) (by decide) s_X3_stampOf [.int x3, .int x1] rfl rfl (Nat.le_of_ble_eq_true rfl) (Nat.le_of_ble_eq_true rfl) ?_
    refine zV.post T ?_
    rintro v M23 ⟨r22, rfl, T⟩
    refine ⟨r22, rfl, ?_⟩
    refine zm_mmax dX4_greatestStamp_25 l_X4_83 zmw_max (Nat.le_of_ble_eq_true rfl) ?_
    refine zr_istore_n dX4_greatestStamp_28 rfl (by decide) (L2 := [(2, .int (if x2 < r22 then r22 else x2)), (0, .ref b0), (1, .int x1), (3, .int x3)]) rfl ?_
    refine zr_iinc (n := 3) (v := x3 + 1) dX4_greatestStamp_29 rfl rfl (by decide) (L2 := [(3, .int (x3 + 1)), (2, .int (if x2 < r22 then r22 else x2)), (0, .ref b0), (1, .int x1)]) rfl ?_
    refine zr_goto (tgt := 4) dX4_greatestStamp_32 (by decide) ?_
    exact zV.pick [2, 3, 1, 0] rfl T
