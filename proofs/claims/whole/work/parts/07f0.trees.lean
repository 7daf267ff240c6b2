set_option maxRecDepth 100000 in
set_option maxHeartbeats 4000000 in
theorem t_X12_thrown {d : Nat}  {M : zMem} {K : zK} 
    (T : K (some (.int (M.1 229 0))) M) : S_X12_thrown d  M K := by
  show zV m_X12_thrown d 0 [(0, .ref 229)] [] M K
  refine zr_aload_n dX12_thrown_0 rfl 0 rfl ?_
  refine zm_geti dX12_thrown_1 f_X12_1 (by decide) (by decide) (by decide) ?_
  exact zm_iret dX12_thrown_4 rfl T
set_option maxRecDepth 100000 in
set_option maxHeartbeats 4000000 in
theorem t_X12_feed {d : Nat} {x1 : Int32} {x2 : Int32} {x3 : Int32} {x4 : Int32} {x5 : Int32} {M : zMem} {K : zK} 
    (T : (∀ M21 : zMem, M21 = wI M 229 0 0 → (((M21.1 229 2) + 20) ≤ 940 → S_X12_come d x1 M21 (zU (fun M25 => S_X12_come d x2 M25 (zU (fun M27 => S_X12_come d x3 M27 (zU (fun M29 => S_X12_come d x4 M29 (zU (fun M31 => S_X12_come d x5 M31 (zU (fun M33 => K (some (.int (M33.1 229 2))) M33))))))))))) ∧ (¬ (((M21.1 229 2) + 20) ≤ 940) → K (some (.int (-1))) M21))) : S_X12_feed (d + 1) x1 x2 x3 x4 x5 M K := by
  show zV m_X12_feed (d + 1) 0 [(0, .ref 229), (1, .int x1), (2, .int x2), (3, .int x3), (4, .int x4), (5, .int x5)] [] M K
  refine zr_aload_n dX12_feed_0 rfl 0 rfl ?_
  refine zr_iconst (v := 0) dX12_feed_1 (by decide) ?_
  refine zn_puti dX12_feed_2 f_X12_1 (by decide) (by decide) (by decide) (fun M21 e22 => ?_)
  have T := T M21 e22
  refine zr_aload_n dX12_feed_5 rfl 0 rfl ?_
  refine zm_geti dX12_feed_6 f_X12_11 (by decide) (by decide) (by decide) ?_
  refine zr_bipush (v := 20) dX12_feed_9 (by decide) ?_
  refine zr_iadd dX12_feed_11 ?_
  refine zr_sipush (v := 940) dX12_feed_12 (by decide) ?_
  refine zr_icmp_le (tgt := 20) dX12_feed_15 (by decide) (fun h23 => ?_) (fun h23 => ?_)
  · have T := T.1 h23
    refine zr_aload_n dX12_feed_20 rfl 0 rfl ?_
    refine zr_iload_n dX12_feed_21 rfl 1 rfl ?_
    refine zm_callV_v (c := 12) (b := 229) dX12_feed_22 w_X12_come l_X12_14 rfl (by decide) (by decide) s_X12_come [.int x1] rfl rfl (Nat.le_of_ble_eq_true rfl) (Nat.le_of_ble_eq_true rfl) ?_
    refine zV.post T ?_
    rintro v M25 ⟨rfl, T⟩
    refine ⟨rfl, ?_⟩
    refine zr_aload_n dX12_feed_25 rfl 0 rfl ?_
    refine zr_iload_n dX12_feed_26 rfl 2 rfl ?_
    refine zm_callV_v (c := 12) (b := 229) dX12_feed_27 w_X12_come l_X12_14 rfl (by decide) (by decide) s_X12_come [.int x2] rfl rfl (Nat.le_of_ble_eq_true rfl) (Nat.le_of_ble_eq_true rfl) ?_
    refine zV.post T ?_
    rintro v M27 ⟨rfl, T⟩
    refine ⟨rfl, ?_⟩
    refine zr_aload_n dX12_feed_30 rfl 0 rfl ?_
    refine zr_iload_n dX12_feed_31 rfl 3 rfl ?_
    refine zm_callV_v (c := 12) (b := 229) dX12_feed_32 w_X12_come l_X12_14 rfl (by decide) (by decide) s_X12_come [.int x3] rfl rfl (Nat.le_of_ble_eq_true rfl) (Nat.le_of_ble_eq_true rfl) ?_
    refine zV.post T ?_
    rintro v M29 ⟨rfl, T⟩
    refine ⟨rfl, ?_⟩
    refine zr_aload_n dX12_feed_35 rfl 0 rfl ?_
    refine zr_iload dX12_feed_36 4 rfl ?_
    refine zm_callV_v (c := 12) (b := 229) dX12_feed_38 w_X12_come l_X12_14 rfl (by decide) (by decide) s_X12_come [.int x4] rfl rfl (Nat.le_of_ble_eq_true rfl) (Nat.le_of_ble_eq_true rfl) ?_
    refine zV.post T ?_
    rintro v M31 ⟨rfl, T⟩
    refine ⟨rfl, ?_⟩
    refine zr_aload_n dX12_feed_41 rfl 0 rfl ?_
    refine zr_iload dX12_feed_42 5 rfl ?_
    refine zm_callV_v (c := 12) (b := 229) dX12_feed_44 w_X12_come l_X12_14 rfl (by decide) (by decide) s_X12_come [.int x5] rfl rfl (Nat.le_of_ble_eq_true rfl) (Nat.le_of_ble_eq_true rfl) ?_
    refine zV.post T ?_
    rintro v M33 ⟨rfl, T⟩
    refine ⟨rfl, ?_⟩
    refine zr_aload_n dX12_feed_47 rfl 0 rfl ?_
    refine zm_geti dX12_feed_48 f_X12_11 (by decide) (by decide) (by decide) ?_
    exact zm_iret dX12_feed_51 rfl T
  · have T := T.2 h23
    refine zr_iconst (v := (-1)) dX12_feed_18 (by decide) ?_
    exact zm_iret dX12_feed_19 rfl T
set_option maxRecDepth 100000 in
set_option maxHeartbeats 4000000 in
theorem t_X12_come {d : Nat} {x1 : Int32} {M : zMem} {K : zK} 
    (T : S_X12_come_3 d x1 24 M K) : S_X12_come d x1 M K := by
  show zV m_X12_come d 0 [(0, .ref 229), (1, .int x1)] [] M K
  refine zr_bipush (v := 24) dX12_come_0 (by decide) ?_
  refine zr_istore_n dX12_come_2 rfl (by decide) (L2 := [(2, .int 24), (0, .ref 229), (1, .int x1)]) rfl ?_
  exact zV.pick [1, 2, 0] rfl T
set_option maxRecDepth 100000 in
set_option maxHeartbeats 4000000 in
theorem t_X12_come_3 {d : Nat} {x1 : Int32} {x2 : Int32} {M : zMem} {K : zK} 
    (T : (x2 < 0 → K none M) ∧ (¬ (x2 < 0) → vp_in (M.1 229 2) 940 ∧ ((∀ M23 : zMem, M23 = wI M 230 (Int32.toNatClampNeg (M.1 229 2)) (((Int32.toUInt32 x1 >>> (Int32.toUInt32 x2 &&& Int32.toUInt32 31)).toInt32) &&& 255) → (∀ M25 : zMem, M25 = wI M23 229 2 ((M23.1 229 2) + 1) → S_X12_come_3 d x1 (x2 + (-8)) M25 K))))) : S_X12_come_3 d x1 x2 M K := by
  show zV m_X12_come d 3 [(0, .ref 229), (1, .int x1), (2, .int x2)] [] M K
  refine zr_iload_n dX12_come_3 rfl 2 rfl ?_
  refine zr_if_lt (tgt := 39) dX12_come_4 (by decide) (fun h21 => ?_) (fun h21 => ?_)
  · have T := T.1 h21
    exact zm_vret dX12_come_39 rfl T
  · have T := T.2 h21
    refine zr_aload_n dX12_come_7 rfl 0 rfl ?_
    refine zm_getr (a := 230) dX12_come_8 f_X12_7 (by decide) (by decide) (by decide) (by decide) ?_
    refine zr_aload_n dX12_come_11 rfl 0 rfl ?_
    refine zm_geti dX12_come_12 f_X12_11 (by decide) (by decide) (by decide) ?_
    refine zr_iload_n dX12_come_15 rfl 1 rfl ?_
    refine zr_iload_n dX12_come_16 rfl 2 rfl ?_
    refine zr_iushr dX12_come_17 ?_
    refine zr_sipush (v := 255) dX12_come_18 (by decide) ?_
    refine zr_iand dX12_come_21 ?_
    obtain ⟨hq22, T⟩ := T
    refine zn_iast (n := 940) (o := (Int32.toNatClampNeg (M.1 229 2))) dX12_come_22 (by decide) (by decide) hq22 rfl (fun M23 e24 => ?_)
    have T := T M23 e24
    refine zr_aload_n dX12_come_23 rfl 0 rfl ?_
    refine zr_dup dX12_come_24 rfl ?_
    refine zm_geti dX12_come_25 f_X12_11 (by decide) (by decide) (by decide) ?_
    refine zr_iconst (v := 1) dX12_come_28 (by decide) ?_
    refine zr_iadd dX12_come_29 ?_
    refine zn_puti dX12_come_30 f_X12_11 (by decide) (by decide) (by decide) (fun M25 e26 => ?_)
    have T := T M25 e26
    refine zr_iinc (n := 2) (v := x2 + (-8)) dX12_come_33 rfl rfl (by decide) (L2 := [(2, .int (x2 + (-8))), (0, .ref 229), (1, .int x1)]) rfl ?_
    refine zr_goto (tgt := 3) dX12_come_36 (by decide) ?_
    exact zV.pick [1, 2, 0] rfl T
set_option maxRecDepth 100000 in
set_option maxHeartbeats 4000000 in
theorem t_X12_end {d : Nat} {x1 : Int32} {M : zMem} {K : zK} 
    (T : (∀ M21 : zMem, M21 = wI M 229 0 0 → (x1 < 0 → K (some (.int 0)) M21) ∧ (¬ (x1 < 0) → (x1 ≤ (M21.1 229 2) → (∀ M25 : zMem, M25 = wI M21 229 2 x1 → K (some (.int 1)) M25)) ∧ (¬ (x1 ≤ (M21.1 229 2)) → K (some (.int 0)) M21)))) : S_X12_end d x1 M K := by
  show zV m_X12_end d 0 [(0, .ref 229), (1, .int x1)] [] M K
  refine zr_aload_n dX12_end_0 rfl 0 rfl ?_
  refine zr_iconst (v := 0) dX12_end_1 (by decide) ?_
  refine zn_puti dX12_end_2 f_X12_1 (by decide) (by decide) (by decide) (fun M21 e22 => ?_)
  have T := T M21 e22
  refine zr_iload_n dX12_end_5 rfl 1 rfl ?_
  refine zr_if_lt (tgt := 17) dX12_end_6 (by decide) (fun h23 => ?_) (fun h23 => ?_)
  · have T := T.1 h23
    refine zr_iconst (v := 0) dX12_end_17 (by decide) ?_
    exact zm_zret dX12_end_18 rfl (by decide) T
  · have T := T.2 h23
    refine zr_iload_n dX12_end_9 rfl 1 rfl ?_
    refine zr_aload_n dX12_end_10 rfl 0 rfl ?_
    refine zm_geti dX12_end_11 f_X12_11 (by decide) (by decide) (by decide) ?_
    refine zr_icmp_le (tgt := 19) dX12_end_14 (by decide) (fun h24 => ?_) (fun h24 => ?_)
    · have T := T.1 h24
      refine zr_aload_n dX12_end_19 rfl 0 rfl ?_
      refine zr_iload_n dX12_end_20 rfl 1 rfl ?_
      refine zn_puti dX12_end_21 f_X12_11 (by decide) (by decide) (by decide) (fun M25 e26 => ?_)
      have T := T M25 e26
      refine zr_iconst (v := 1) dX12_end_24 (by decide) ?_
      exact zm_zret dX12_end_25 rfl (by decide) T
    · have T := T.2 h24
      refine zr_iconst (v := 0) dX12_end_17 (by decide) ?_
      exact zm_zret dX12_end_18 rfl (by decide) T
set_option maxRecDepth 100000 in
set_option maxHeartbeats 4000000 in
theorem t_X12_cluster {d : Nat}  {M : zMem} {K : zK} 
    (T : S_X12_begin d 900 M (zU (fun M22 => S_X12_cluster_9 (d + 1) 0 M22 K))) : S_X12_cluster (d + 1)  M K := by
  show zV m_X12_cluster (d + 1) 0 [(0, .ref 229)] [] M K
  refine zr_aload_n dX12_cluster_0 rfl 0 rfl ?_
  refine zr_sipush (v := 900) dX12_cluster_1 (by decide) ?_
  refine zm_callV_v (c := 12) (b := 229) dX12_cluster_4 w_X12_begin l_X12_251 rfl (by decide) (by decide) s_X12_begin [.int 900] rfl rfl (Nat.le_of_ble_eq_true rfl) (Nat.le_of_ble_eq_true rfl) ?_
  refine zV.post T ?_
  rintro v M22 ⟨rfl, T⟩
  refine ⟨rfl, ?_⟩
  refine zr_iconst (v := 0) dX12_cluster_7 (by decide) ?_
  refine zr_istore_n dX12_cluster_8 rfl (by decide) (L2 := [(1, .int 0), (0, .ref 229)]) rfl ?_
  exact zV.pick [1, 0] rfl T
set_option maxRecDepth 100000 in
set_option maxHeartbeats 4000000 in
theorem t_X12_cluster_9 {d : Nat} {x1 : Int32} {M : zMem} {K : zK} 
    (T : (202 ≤ x1 → S_X12_cluster_31 (d + 1) 0 M K) ∧ (¬ (202 ≤ x1) → vp_in x1 202 ∧ ((∀ M23 : zMem, M23 = wI M 232 (Int32.toNatClampNeg x1) 0 → S_X12_cluster_9 (d + 1) (x1 + 1) M23 K)))) : S_X12_cluster_9 (d + 1) x1 M K := by
  show zV m_X12_cluster (d + 1) 9 [(0, .ref 229), (1, .int x1)] [] M K
  refine zr_iload_n dX12_cluster_9 rfl 1 rfl ?_
  refine zr_sipush (v := 202) dX12_cluster_10 (by decide) ?_
  refine zr_icmp_ge (tgt := 29) dX12_cluster_13 (by decide) (fun h21 => ?_) (fun h21 => ?_)
  · have T := T.1 h21
    refine zr_iconst (v := 0) dX12_cluster_29 (by decide) ?_
    refine zr_istore_n dX12_cluster_30 rfl (by decide) (L2 := [(1, .int 0), (0, .ref 229)]) rfl ?_
    exact zV.pick [1, 0] rfl T
  · have T := T.2 h21
    refine zr_aload_n dX12_cluster_16 rfl 0 rfl ?_
    refine zm_getr (a := 232) dX12_cluster_17 f_X12_101 (by decide) (by decide) (by decide) (by decide) ?_
    refine zr_iload_n dX12_cluster_20 rfl 1 rfl ?_
    refine zr_iconst (v := 0) dX12_cluster_21 (by decide) ?_
    obtain ⟨hq22, T⟩ := T
    refine zn_iast (n := 202) (o := (Int32.toNatClampNeg x1)) dX12_cluster_22 (by decide) (by decide) hq22 rfl (fun M23 e24 => ?_)
    have T := T M23 e24
    refine zr_iinc (n := 1) (v := x1 + 1) dX12_cluster_23 rfl rfl (by decide) (L2 := [(1, .int (x1 + 1)), (0, .ref 229)]) rfl ?_
    refine zr_goto (tgt := 9) dX12_cluster_26 (by decide) ?_
    exact zV.pick [1, 0] rfl T
set_option maxRecDepth 100000 in
set_option maxHeartbeats 4000000 in
theorem t_X12_cluster_31 {d : Nat} {x1 : Int32} {M : zMem} {K : zK} 
    (T : (3 ≤ x1 → (∀ M22 : zMem, M22 = wI M 232 2 2 → (∀ M24 : zMem, M24 = wI M22 232 3 4 → (∀ M26 : zMem, M26 = wI M24 229 27 (-1) → S_X12_cluster_70 (d + 1) 0 M26 K)))) ∧ (¬ (3 ≤ x1) → vp_in x1 3 ∧ ((∀ M29 : zMem, M29 = wI M 241 (Int32.toNatClampNeg x1) 0 → S_X12_cluster_31 (d + 1) (x1 + 1) M29 K)))) : S_X12_cluster_31 (d + 1) x1 M K := by
  show zV m_X12_cluster (d + 1) 31 [(0, .ref 229), (1, .int x1)] [] M K
  refine zr_iload_n dX12_cluster_31 rfl 1 rfl ?_
  refine zr_iconst (v := 3) dX12_cluster_32 (by decide) ?_
  refine zr_icmp_ge (tgt := 49) dX12_cluster_33 (by decide) (fun h21 => ?_) (fun h21 => ?_)
  · have T := T.1 h21
    refine zr_aload_n dX12_cluster_49 rfl 0 rfl ?_
    refine zm_getr (a := 232) dX12_cluster_50 f_X12_101 (by decide) (by decide) (by decide) (by decide) ?_
    refine zr_iconst (v := 2) dX12_cluster_53 (by decide) ?_
    refine zr_iconst (v := 2) dX12_cluster_54 (by decide) ?_
    refine zn_iast (n := 202) (o := 2) dX12_cluster_55 (by decide) (by decide) (zin (by decide)) (by decide) (fun M22 e23 => ?_)
    have T := T M22 e23
    refine zr_aload_n dX12_cluster_56 rfl 0 rfl ?_
    refine zm_getr (a := 232) dX12_cluster_57 f_X12_101 (by decide) (by decide) (by decide) (by decide) ?_
    refine zr_iconst (v := 3) dX12_cluster_60 (by decide) ?_
    refine zr_iconst (v := 4) dX12_cluster_61 (by decide) ?_
    refine zn_iast (n := 202) (o := 3) dX12_cluster_62 (by decide) (by decide) (zin (by decide)) (by decide) (fun M24 e25 => ?_)
    have T := T M24 e25
    refine zr_iconst (v := 0) dX12_cluster_63 (by decide) ?_
    refine zr_istore_n dX12_cluster_64 rfl (by decide) (L2 := [(1, .int 0), (0, .ref 229)]) rfl ?_
    refine zr_aload_n dX12_cluster_65 rfl 1 rfl ?_
    refine zr_iconst (v := (-1)) dX12_cluster_66 (by decide) ?_
    refine zn_puti dX12_cluster_67 f_X12_133 (by decide) (by decide) (by decide) (fun M26 e27 => ?_)
    have T := T M26 e27
    exact zV.pick [1, 0] rfl T
  · have T := T.2 h21
    refine zr_aload_n dX12_cluster_36 rfl 0 rfl ?_
    refine zm_getr (a := 241) dX12_cluster_37 f_X12_130 (by decide) (by decide) (by decide) (by decide) ?_
    refine zr_iload_n dX12_cluster_40 rfl 1 rfl ?_
    refine zr_iconst (v := 0) dX12_cluster_41 (by decide) ?_
    obtain ⟨hq28, T⟩ := T
    refine zn_zast (n := 3) (o := (Int32.toNatClampNeg x1)) dX12_cluster_42 (by decide) (by decide) hq28 rfl (by decide) (fun M29 e30 => ?_)
    have T := T M29 e30
    refine zr_iinc (n := 1) (v := x1 + 1) dX12_cluster_43 rfl rfl (by decide) (L2 := [(1, .int (x1 + 1)), (0, .ref 229)]) rfl ?_
    refine zr_goto (tgt := 31) dX12_cluster_46 (by decide) ?_
    exact zV.pick [1, 0] rfl T
set_option maxRecDepth 100000 in
set_option maxHeartbeats 4000000 in
theorem t_X12_cluster_70 {d : Nat} {x1 : Int32} {M : zMem} {K : zK} 
    (T : ((M.1 229 7) = 0 → S_X12_cluster_111 (d + 1) x1 0 M K) ∧ (¬ ((M.1 229 7) = 0) → S_X12_readLine d  M (zB (fun r22 M23 => (r22 = false → (∀ M25 : zMem, M25 = wI M23 229 27 x1 → K (some (.int ((-1) - (M25.1 229 11)))) M25)) ∧ (r22 = true → S_X12_readEnd d  M23 (zB (fun r27 M28 => (r27 = true → S_X12_cluster_70 (d + 1) (x1 + 1) M28 K) ∧ (r27 = false → (∀ M30 : zMem, M30 = wI M28 229 27 x1 → K (some (.int ((-1) - (M30.1 229 11)))) M30))))))))) : S_X12_cluster_70 (d + 1) x1 M K := by
  show zV m_X12_cluster (d + 1) 70 [(0, .ref 229), (1, .int x1)] [] M K
  refine zr_aload_n dX12_cluster_70 rfl 0 rfl ?_
  refine zm_geti dX12_cluster_71 f_X12_30 (by decide) (by decide) (by decide) ?_
  refine zr_if_eq (tgt := 109) dX12_cluster_74 (by decide) (fun h21 => ?_) (fun h21 => ?_)
  · have T := T.1 h21
    refine zr_iconst (v := 0) dX12_cluster_109 (by decide) ?_
    refine zr_istore_n dX12_cluster_110 rfl (by decide) (L2 := [(2, .int 0), (0, .ref 229), (1, .int x1)]) rfl ?_
    exact zV.pick [1, 2, 0] rfl T
  · have T := T.2 h21
    refine zr_aload_n dX12_cluster_77 rfl 0 rfl ?_
    refine zm_callV_b (c := 12) (b := 229) dX12_cluster_78 w_X12_readLine l_X12_254 rfl (by decide) (by decide) s_X12_readLine [] rfl rfl (Nat.le_of_ble_eq_true rfl) (Nat.le_of_ble_eq_true rfl) ?_
    refine zV.post T ?_
    rintro v M23 ⟨r22, rfl, T⟩
    refine ⟨r22, rfl, ?_⟩
    refine zm_ifb_eq (tgt := 91) dX12_cluster_81 (by decide) (fun h24 => ?_) (fun h24 => ?_)
    · have T := T.1 h24
      refine zr_aload_n dX12_cluster_91 rfl 0 rfl ?_
      refine zr_iload_n dX12_cluster_92 rfl 1 rfl ?_
      refine zn_puti dX12_cluster_93 f_X12_133 (by decide) (by decide) (by decide) (fun M25 e26 => ?_)
      have T := T M25 e26
      refine zr_iconst (v := (-1)) dX12_cluster_96 (by decide) ?_
      refine zr_aload_n dX12_cluster_97 rfl 0 rfl ?_
      refine zm_geti dX12_cluster_98 f_X12_69 (by decide) (by decide) (by decide) ?_
      refine zr_isub dX12_cluster_101 ?_
      exact zm_iret dX12_cluster_102 rfl T
    · have T := T.2 h24
      refine zr_aload_n dX12_cluster_84 rfl 0 rfl ?_
      refine zm_callV_b (c := 12) (b := 229) dX12_cluster_85 w_X12_readEnd l_X12_257 rfl (by decide) (by decide) s_X12_readEnd [] rfl rfl (Nat.le_of_ble_eq_true rfl) (Nat.le_of_ble_eq_true rfl) ?_
      refine zV.post T ?_
      rintro v M28 ⟨r27, rfl, T⟩
      refine ⟨r27, rfl, ?_⟩
      refine zm_ifb_ne (tgt := 103) dX12_cluster_88 (by decide) (fun h29 => ?_) (fun h29 => ?_)
      · have T := T.1 h29
        refine zr_iinc (n := 1) (v := x1 + 1) dX12_cluster_103 rfl rfl (by decide) (L2 := [(1, .int (x1 + 1)), (0, .ref 229)]) rfl ?_
        refine zr_goto (tgt := 70) dX12_cluster_106 (by decide) ?_
        exact zV.pick [1, 0] rfl T
      · have T := T.2 h29
        refine zr_aload_n dX12_cluster_91 rfl 0 rfl ?_
        refine zr_iload_n dX12_cluster_92 rfl 1 rfl ?_
        refine zn_puti dX12_cluster_93 f_X12_133 (by decide) (by decide) (by decide) (fun M30 e31 => ?_)
        have T := T M30 e31
        refine zr_iconst (v := (-1)) dX12_cluster_96 (by decide) ?_
        refine zr_aload_n dX12_cluster_97 rfl 0 rfl ?_
        refine zm_geti dX12_cluster_98 f_X12_69 (by decide) (by decide) (by decide) ?_
        refine zr_isub dX12_cluster_101 ?_
        exact zm_iret dX12_cluster_102 rfl T
set_option maxRecDepth 100000 in
set_option maxHeartbeats 4000000 in
theorem t_X12_cluster_111 {d : Nat} {x1 : Int32} {x2 : Int32} {M : zMem} {K : zK} 
    (T : (202 ≤ x2 → S_X12_cluster_138 (d + 1) x1 0 M K) ∧ (¬ (202 ≤ x2) → vp_in x2 202 ∧ (vp_in x2 647 ∧ ((∀ M24 : zMem, M24 = wI M 231 (Int32.toNatClampNeg x2) (M.1 232 (Int32.toNatClampNeg x2)) → S_X12_cluster_111 (d + 1) x1 (x2 + 1) M24 K))))) : S_X12_cluster_111 (d + 1) x1 x2 M K := by
  show zV m_X12_cluster (d + 1) 111 [(0, .ref 229), (1, .int x1), (2, .int x2)] [] M K
  refine zr_iload_n dX12_cluster_111 rfl 2 rfl ?_
  refine zr_sipush (v := 202) dX12_cluster_112 (by decide) ?_
  refine zr_icmp_ge (tgt := 136) dX12_cluster_115 (by decide) (fun h21 => ?_) (fun h21 => ?_)
  · have T := T.1 h21
    refine zr_iconst (v := 0) dX12_cluster_136 (by decide) ?_
    refine zr_istore_n dX12_cluster_137 rfl (by decide) (L2 := [(2, .int 0), (0, .ref 229), (1, .int x1)]) rfl ?_
    exact zV.pick [1, 2, 0] rfl T
  · have T := T.2 h21
    refine zr_aload_n dX12_cluster_118 rfl 0 rfl ?_
    refine zm_getr (a := 231) dX12_cluster_119 f_X12_98 (by decide) (by decide) (by decide) (by decide) ?_
    refine zr_iload_n dX12_cluster_122 rfl 2 rfl ?_
    refine zr_aload_n dX12_cluster_123 rfl 0 rfl ?_
    refine zm_getr (a := 232) dX12_cluster_124 f_X12_101 (by decide) (by decide) (by decide) (by decide) ?_
    refine zr_iload_n dX12_cluster_127 rfl 2 rfl ?_
    obtain ⟨hq22, T⟩ := T
    refine zm_iald (n := 202) (o := (Int32.toNatClampNeg x2)) dX12_cluster_128 (by decide) (by decide) hq22 rfl ?_
    obtain ⟨hq23, T⟩ := T
    refine zn_iast (n := 647) (o := (Int32.toNatClampNeg x2)) dX12_cluster_129 (by decide) (by decide) hq23 rfl (fun M24 e25 => ?_)
    have T := T M24 e25
    refine zr_iinc (n := 2) (v := x2 + 1) dX12_cluster_130 rfl rfl (by decide) (L2 := [(2, .int (x2 + 1)), (0, .ref 229), (1, .int x1)]) rfl ?_
    refine zr_goto (tgt := 111) dX12_cluster_133 (by decide) ?_
    exact zV.pick [1, 2, 0] rfl T
set_option maxRecDepth 100000 in
set_option maxHeartbeats 4000000 in
theorem t_X12_cluster_138 {d : Nat} {x1 : Int32} {x2 : Int32} {M : zMem} {K : zK} 
    (T : (28 ≤ x2 → S_X12_startSo d  M (zU (fun M23 => (∀ M24 : zMem, M24 = wI M23 229 25 0 → K (some (.int x1)) M24)))) ∧ (¬ (28 ≤ x2) → vp_in x2 28 ∧ (vp_in x2 28 ∧ ((∀ M28 : zMem, M28 = wL M 237 (Int32.toNatClampNeg x2) (M.2 238 (Int32.toNatClampNeg x2)) → S_X12_cluster_138 (d + 1) x1 (x2 + 1) M28 K))))) : S_X12_cluster_138 (d + 1) x1 x2 M K := by
  show zV m_X12_cluster (d + 1) 138 [(0, .ref 229), (1, .int x1), (2, .int x2)] [] M K
  refine zr_iload_n dX12_cluster_138 rfl 2 rfl ?_
  refine zr_bipush (v := 28) dX12_cluster_139 (by decide) ?_
  refine zr_icmp_ge (tgt := 162) dX12_cluster_141 (by decide) (fun h21 => ?_) (fun h21 => ?_)
  · have T := T.1 h21
    refine zr_aload_n dX12_cluster_162 rfl 0 rfl ?_
    refine zm_callV_v (c := 12) (b := 229) dX12_cluster_163 w_X12_startSo l_X12_260 rfl (by decide) (by decide) s_X12_startSo [] rfl rfl (Nat.le_of_ble_eq_true rfl) (Nat.le_of_ble_eq_true rfl) ?_
    refine zV.post T ?_
    rintro v M23 ⟨rfl, T⟩
    refine ⟨rfl, ?_⟩
    refine zr_aload_n dX12_cluster_166 rfl 0 rfl ?_
    refine zr_iconst (v := 0) dX12_cluster_167 (by decide) ?_
    refine zn_puti dX12_cluster_168 f_X12_263 (by decide) (by decide) (by decide) (fun M24 e25 => ?_)
    have T := T M24 e25
    refine zr_iload_n dX12_cluster_171 rfl 1 rfl ?_
    exact zm_iret dX12_cluster_172 rfl T
  · have T := T.2 h21
    refine zr_aload_n dX12_cluster_144 rfl 0 rfl ?_
    refine zm_getr (a := 237) dX12_cluster_145 f_X12_116 (by decide) (by decide) (by decide) (by decide) ?_
    refine zr_iload_n dX12_cluster_148 rfl 2 rfl ?_
    refine zr_aload_n dX12_cluster_149 rfl 0 rfl ?_
    refine zm_getr (a := 238) dX12_cluster_150 f_X12_120 (by decide) (by decide) (by decide) (by decide) ?_
    refine zr_iload_n dX12_cluster_153 rfl 2 rfl ?_
    obtain ⟨hq26, T⟩ := T
    refine zm_lald (n := 28) (o := (Int32.toNatClampNeg x2)) dX12_cluster_154 (by decide) (by decide) hq26 rfl ?_
    obtain ⟨hq27, T⟩ := T
    refine zn_last (n := 28) (o := (Int32.toNatClampNeg x2)) dX12_cluster_155 (by decide) (by decide) hq27 rfl (fun M28 e29 => ?_)
    have T := T M28 e29
    refine zr_iinc (n := 2) (v := x2 + 1) dX12_cluster_156 rfl rfl (by decide) (L2 := [(2, .int (x2 + 1)), (0, .ref 229), (1, .int x1)]) rfl ?_
    refine zr_goto (tgt := 138) dX12_cluster_159 (by decide) ?_
    exact zV.pick [1, 2, 0] rfl T
set_option maxRecDepth 100000 in
set_option maxHeartbeats 4000000 in
theorem t_X12_begin {d : Nat} {x1 : Int32} {M : zMem} {K : zK} 
    (T : (∀ M21 : zMem, M21 = wI M 229 0 0 → S_X12_take d  M21 (zI (fun r23 M24 => (∀ M25 : zMem, M25 = wI M24 229 3 r23 → (∀ M27 : zMem, M27 = wI M25 229 4 x1 → (∀ M29 : zMem, M29 = wI M27 229 10 0 → (∀ M31 : zMem, M31 = wI M29 229 5 0 → S_X12_go d  M31 (zU (fun M34 => K none M34)))))))))) : S_X12_begin (d + 1) x1 M K := by
  show zV m_X12_begin (d + 1) 0 [(0, .ref 229), (1, .int x1)] [] M K
  refine zr_aload_n dX12_begin_0 rfl 0 rfl ?_
  refine zr_iconst (v := 0) dX12_begin_1 (by decide) ?_
  refine zn_puti dX12_begin_2 f_X12_1 (by decide) (by decide) (by decide) (fun M21 e22 => ?_)
  have T := T M21 e22
  refine zr_aload_n dX12_begin_5 rfl 0 rfl ?_
  refine zr_aload_n dX12_begin_6 rfl 0 rfl ?_
  refine zm_callV_i (c := 12) (b := 229) dX12_begin_7 w_X12_take l_X12_89 rfl (by decide) (by decide) s_X12_take [] rfl rfl (Nat.le_of_ble_eq_true rfl) (Nat.le_of_ble_eq_true rfl) ?_
  refine zV.post T ?_
  rintro v M24 ⟨r23, rfl, T⟩
  refine ⟨r23, rfl, ?_⟩
  refine zn_puti dX12_begin_10 f_X12_18 (by decide) (by decide) (by decide) (fun M25 e26 => ?_)
  have T := T M25 e26
  refine zr_aload_n dX12_begin_13 rfl 0 rfl ?_
  refine zr_iload_n dX12_begin_14 rfl 1 rfl ?_
  refine zn_puti dX12_begin_15 f_X12_27 (by decide) (by decide) (by decide) (fun M27 e28 => ?_)
  have T := T M27 e28
  refine zr_aload_n dX12_begin_18 rfl 0 rfl ?_
  refine zr_iconst (v := 0) dX12_begin_19 (by decide) ?_
  refine zn_puti dX12_begin_20 f_X12_66 (by decide) (by decide) (by decide) (fun M29 e30 => ?_)
  have T := T M29 e30
  refine zr_aload_n dX12_begin_23 rfl 0 rfl ?_
  refine zr_iconst (v := 0) dX12_begin_24 (by decide) ?_
  refine zn_puti dX12_begin_25 f_X12_21 (by decide) (by decide) (by decide) (fun M31 e32 => ?_)
  have T := T M31 e32
  refine zr_aload_n dX12_begin_28 rfl 0 rfl ?_
  refine zm_callV_v (c := 12) (b := 229) dX12_begin_29 w_X12_go l_X12_82 rfl (by decide) (by decide) s_X12_go [] rfl rfl (Nat.le_of_ble_eq_true rfl) (Nat.le_of_ble_eq_true rfl) ?_
  refine zV.post T ?_
  rintro v M34 ⟨rfl, T⟩
  refine ⟨rfl, ?_⟩
  exact zm_vret dX12_begin_32 rfl T
set_option maxRecDepth 100000 in
set_option maxHeartbeats 4000000 in
theorem t_X12_take {d : Nat}  {M : zMem} {K : zK} 
    (T : (∀ M21 : zMem, M21 = wI M 229 2 0 → K (some (.int (M.1 229 2))) M21)) : S_X12_take d  M K := by
  show zV m_X12_take d 0 [(0, .ref 229)] [] M K
  refine zr_aload_n dX12_take_0 rfl 0 rfl ?_
  refine zm_geti dX12_take_1 f_X12_11 (by decide) (by decide) (by decide) ?_
  refine zr_istore_n dX12_take_4 rfl (by decide) (L2 := [(1, .int (M.1 229 2)), (0, .ref 229)]) rfl ?_
  refine zr_aload_n dX12_take_5 rfl 1 rfl ?_
  refine zr_iconst (v := 0) dX12_take_6 (by decide) ?_
  refine zn_puti dX12_take_7 f_X12_11 (by decide) (by decide) (by decide) (fun M21 e22 => ?_)
  have T := T M21 e22
  refine zr_iload_n dX12_take_10 rfl 0 rfl ?_
  exact zm_iret dX12_take_11 rfl T
set_option maxRecDepth 100000 in
set_option maxHeartbeats 4000000 in
theorem t_X12_go {d : Nat}  {M : zMem} {K : zK} 
    (T : ((M.1 229 3) ≤ (M.1 229 5) → S_X12_go_52 (d + 1)  M K) ∧ (¬ ((M.1 229 3) ≤ (M.1 229 5)) → vp_in (M.1 229 5) 940 ∧ (((M.1 230 (Int32.toNatClampNeg (M.1 229 5))) = 32 → (∀ M24 : zMem, M24 = wI M 229 5 ((M.1 229 5) + 1) → S_X12_go (d + 1)  M24 K)) ∧ (¬ ((M.1 230 (Int32.toNatClampNeg (M.1 229 5))) = 32) → vp_in (M.1 229 5) 940 ∧ ((¬ (M.1 230 (Int32.toNatClampNeg (M.1 229 5))) = 10 → S_X12_go_52 (d + 1)  M K) ∧ ((M.1 230 (Int32.toNatClampNeg (M.1 229 5))) = 10 → (∀ M28 : zMem, M28 = wI M 229 5 ((M.1 229 5) + 1) → S_X12_go (d + 1)  M28 K))))))) : S_X12_go (d + 1)  M K := by
  show zV m_X12_go (d + 1) 0 [(0, .ref 229)] [] M K
  refine zr_aload_n dX12_go_0 rfl 0 rfl ?_
  refine zm_geti dX12_go_1 f_X12_21 (by decide) (by decide) (by decide) ?_
  refine zr_aload_n dX12_go_4 rfl 0 rfl ?_
  refine zm_geti dX12_go_5 f_X12_18 (by decide) (by decide) (by decide) ?_
  refine zr_icmp_ge (tgt := 52) dX12_go_8 (by decide) (fun h21 => ?_) (fun h21 => ?_)
  · have T := T.1 h21
    exact zV.pick [0] rfl T
  · have T := T.2 h21
    refine zr_aload_n dX12_go_11 rfl 0 rfl ?_
    refine zm_getr (a := 230) dX12_go_12 f_X12_7 (by decide) (by decide) (by decide) (by decide) ?_
    refine zr_aload_n dX12_go_15 rfl 0 rfl ?_
    refine zm_geti dX12_go_16 f_X12_21 (by decide) (by decide) (by decide) ?_
    obtain ⟨hq22, T⟩ := T
    refine zm_iald (n := 940) (o := (Int32.toNatClampNeg (M.1 229 5))) dX12_go_19 (by decide) (by decide) hq22 rfl ?_
    refine zr_bipush (v := 32) dX12_go_20 (by decide) ?_
    refine zr_icmp_eq (tgt := 39) dX12_go_22 (by decide) (fun h23 => ?_) (fun h23 => ?_)
    · have T := T.1 h23
      refine zr_aload_n dX12_go_39 rfl 0 rfl ?_
      refine zr_dup dX12_go_40 rfl ?_
      refine zm_geti dX12_go_41 f_X12_21 (by decide) (by decide) (by decide) ?_
      refine zr_iconst (v := 1) dX12_go_44 (by decide) ?_
      refine zr_iadd dX12_go_45 ?_
      refine zn_puti dX12_go_46 f_X12_21 (by decide) (by decide) (by decide) (fun M24 e25 => ?_)
      have T := T M24 e25
      refine zr_goto (tgt := 0) dX12_go_49 (by decide) ?_
      exact zV.pick [0] rfl T
    · have T := T.2 h23
      refine zr_aload_n dX12_go_25 rfl 0 rfl ?_
      refine zm_getr (a := 230) dX12_go_26 f_X12_7 (by decide) (by decide) (by decide) (by decide) ?_
      refine zr_aload_n dX12_go_29 rfl 0 rfl ?_
      refine zm_geti dX12_go_30 f_X12_21 (by decide) (by decide) (by decide) ?_
      obtain ⟨hq26, T⟩ := T
      refine zm_iald (n := 940) (o := (Int32.toNatClampNeg (M.1 229 5))) dX12_go_33 (by decide) (by decide) hq26 rfl ?_
      refine zr_bipush (v := 10) dX12_go_34 (by decide) ?_
      refine zr_icmp_ne (tgt := 52) dX12_go_36 (by decide) (fun h27 => ?_) (fun h27 => ?_)
      · have T := T.1 h27
        exact zV.pick [0] rfl T
      · have T := T.2 h27
        refine zr_aload_n dX12_go_39 rfl 0 rfl ?_
        refine zr_dup dX12_go_40 rfl ?_
        refine zm_geti dX12_go_41 f_X12_21 (by decide) (by decide) (by decide) ?_
        refine zr_iconst (v := 1) dX12_go_44 (by decide) ?_
        refine zr_iadd dX12_go_45 ?_
        refine zn_puti dX12_go_46 f_X12_21 (by decide) (by decide) (by decide) (fun M28 e29 => ?_)
        have T := T M28 e29
        refine zr_goto (tgt := 0) dX12_go_49 (by decide) ?_
        exact zV.pick [0] rfl T
set_option maxRecDepth 100000 in
set_option maxHeartbeats 4000000 in
theorem t_X12_go_52 {d : Nat}  {M : zMem} {K : zK} 
    (T : (∀ M21 : zMem, M21 = wI M 229 6 (M.1 229 5) → ((M21.1 229 3) ≤ (M21.1 229 4) → S_X12_go_96 (d + 1)  M21 K) ∧ (¬ ((M21.1 229 3) ≤ (M21.1 229 4)) → ((M21.1 229 6) < (M21.1 229 4) → S_X12_go_96 (d + 1)  M21 K) ∧ (¬ ((M21.1 229 6) < (M21.1 229 4)) → (∀ M25 : zMem, M25 = wI M21 229 6 (M21.1 229 4) → (∀ M27 : zMem, M27 = wI M25 229 7 1 → K none M27)))))) : S_X12_go_52 (d + 1)  M K := by
  show zV m_X12_go (d + 1) 52 [(0, .ref 229)] [] M K
  refine zr_aload_n dX12_go_52 rfl 0 rfl ?_
  refine zr_aload_n dX12_go_53 rfl 0 rfl ?_
  refine zm_geti dX12_go_54 f_X12_21 (by decide) (by decide) (by decide) ?_
  refine zn_puti dX12_go_57 f_X12_24 (by decide) (by decide) (by decide) (fun M21 e22 => ?_)
  have T := T M21 e22
  refine zr_aload_n dX12_go_60 rfl 0 rfl ?_
  refine zm_geti dX12_go_61 f_X12_18 (by decide) (by decide) (by decide) ?_
  refine zr_aload_n dX12_go_64 rfl 0 rfl ?_
  refine zm_geti dX12_go_65 f_X12_27 (by decide) (by decide) (by decide) ?_
  refine zr_icmp_le (tgt := 96) dX12_go_68 (by decide) (fun h23 => ?_) (fun h23 => ?_)
  · have T := T.1 h23
    exact zV.pick [0] rfl T
  · have T := T.2 h23
    refine zr_aload_n dX12_go_71 rfl 0 rfl ?_
    refine zm_geti dX12_go_72 f_X12_24 (by decide) (by decide) (by decide) ?_
    refine zr_aload_n dX12_go_75 rfl 0 rfl ?_
    refine zm_geti dX12_go_76 f_X12_27 (by decide) (by decide) (by decide) ?_
    refine zr_icmp_lt (tgt := 96) dX12_go_79 (by decide) (fun h24 => ?_) (fun h24 => ?_)
    · have T := T.1 h24
      exact zV.pick [0] rfl T
    · have T := T.2 h24
      refine zr_aload_n dX12_go_82 rfl 0 rfl ?_
      refine zr_aload_n dX12_go_83 rfl 0 rfl ?_
      refine zm_geti dX12_go_84 f_X12_27 (by decide) (by decide) (by decide) ?_
      refine zn_puti dX12_go_87 f_X12_24 (by decide) (by decide) (by decide) (fun M25 e26 => ?_)
      have T := T M25 e26
      refine zr_aload_n dX12_go_90 rfl 0 rfl ?_
      refine zr_iconst (v := 1) dX12_go_91 (by decide) ?_
      refine zn_puti dX12_go_92 f_X12_30 (by decide) (by decide) (by decide) (fun M27 e28 => ?_)
      have T := T M27 e28
      exact zm_vret dX12_go_95 rfl T
set_option maxRecDepth 100000 in
set_option maxHeartbeats 4000000 in
theorem t_X12_go_96 {d : Nat}  {M : zMem} {K : zK} 
    (T : ((M.1 229 5) < (M.1 229 3) → vp_in (M.1 229 5) 940 ∧ (S_X12_isLetter d (M.1 230 (Int32.toNatClampNeg (M.1 229 5))) M (zB (fun r23 M24 => (r23 = true → S_X12_go_198 (d + 1) (M.1 230 (Int32.toNatClampNeg (M.1 229 5))) M24 K) ∧ (r23 = false → S_X12_isDigit d (M.1 230 (Int32.toNatClampNeg (M.1 229 5))) M24 (zB (fun r26 M27 => (r26 = true → S_X12_go_198 (d + 1) (M.1 230 (Int32.toNatClampNeg (M.1 229 5))) M27 K) ∧ (r26 = false → ((M.1 230 (Int32.toNatClampNeg (M.1 229 5))) = 59 → (∀ M30 : zMem, M30 = wI M27 229 7 4 → (∀ M32 : zMem, M32 = wI M30 229 9 (M.1 230 (Int32.toNatClampNeg (M.1 229 5))) → (∀ M34 : zMem, M34 = wI M32 229 5 ((M32.1 229 5) + 1) → K none M34)))) ∧ (¬ ((M.1 230 (Int32.toNatClampNeg (M.1 229 5))) = 59) → ((M.1 230 (Int32.toNatClampNeg (M.1 229 5))) = 60 → (∀ M37 : zMem, M37 = wI M27 229 7 4 → (∀ M39 : zMem, M39 = wI M37 229 9 (M.1 230 (Int32.toNatClampNeg (M.1 229 5))) → (∀ M41 : zMem, M41 = wI M39 229 5 ((M39.1 229 5) + 1) → K none M41)))) ∧ (¬ ((M.1 230 (Int32.toNatClampNeg (M.1 229 5))) = 60) → ((M.1 230 (Int32.toNatClampNeg (M.1 229 5))) = 61 → (∀ M44 : zMem, M44 = wI M27 229 7 4 → (∀ M46 : zMem, M46 = wI M44 229 9 (M.1 230 (Int32.toNatClampNeg (M.1 229 5))) → (∀ M48 : zMem, M48 = wI M46 229 5 ((M46.1 229 5) + 1) → K none M48)))) ∧ (¬ ((M.1 230 (Int32.toNatClampNeg (M.1 229 5))) = 61) → ((M.1 230 (Int32.toNatClampNeg (M.1 229 5))) = 62 → (∀ M51 : zMem, M51 = wI M27 229 7 4 → (∀ M53 : zMem, M53 = wI M51 229 9 (M.1 230 (Int32.toNatClampNeg (M.1 229 5))) → (∀ M55 : zMem, M55 = wI M53 229 5 ((M53.1 229 5) + 1) → K none M55)))) ∧ (¬ ((M.1 230 (Int32.toNatClampNeg (M.1 229 5))) = 62) → ((M.1 230 (Int32.toNatClampNeg (M.1 229 5))) = 40 → (∀ M58 : zMem, M58 = wI M27 229 7 4 → (∀ M60 : zMem, M60 = wI M58 229 9 (M.1 230 (Int32.toNatClampNeg (M.1 229 5))) → (∀ M62 : zMem, M62 = wI M60 229 5 ((M60.1 229 5) + 1) → K none M62)))) ∧ (¬ ((M.1 230 (Int32.toNatClampNeg (M.1 229 5))) = 40) → (¬ (M.1 230 (Int32.toNatClampNeg (M.1 229 5))) = 41 → (∀ M65 : zMem, M65 = wI M27 229 7 1 → (∀ M67 : zMem, M67 = wI M65 229 9 (M.1 230 (Int32.toNatClampNeg (M.1 229 5))) → (∀ M69 : zMem, M69 = wI M67 229 5 ((M67.1 229 5) + 1) → K none M69)))) ∧ ((M.1 230 (Int32.toNatClampNeg (M.1 229 5))) = 41 → (∀ M71 : zMem, M71 = wI M27 229 7 4 → (∀ M73 : zMem, M73 = wI M71 229 9 (M.1 230 (Int32.toNatClampNeg (M.1 229 5))) → (∀ M75 : zMem, M75 = wI M73 229 5 ((M73.1 229 5) + 1) → K none M75))))))))))))))))) ∧ (¬ ((M.1 229 5) < (M.1 229 3)) → (∀ M77 : zMem, M77 = wI M 229 7 0 → K none M77))) : S_X12_go_96 (d + 1)  M K := by
  show zV m_X12_go (d + 1) 96 [(0, .ref 229)] [] M K
  refine zr_aload_n dX12_go_96 rfl 0 rfl ?_
  refine zm_geti dX12_go_97 f_X12_21 (by decide) (by decide) (by decide) ?_
  refine zr_aload_n dX12_go_100 rfl 0 rfl ?_
  refine zm_geti dX12_go_101 f_X12_18 (by decide) (by decide) (by decide) ?_
  refine zr_icmp_lt (tgt := 113) dX12_go_104 (by decide) (fun h21 => ?_) (fun h21 => ?_)
  · have T := T.1 h21
    refine zr_aload_n dX12_go_113 rfl 0 rfl ?_
    refine zm_getr (a := 230) dX12_go_114 f_X12_7 (by decide) (by decide) (by decide) (by decide) ?_
    refine zr_aload_n dX12_go_117 rfl 0 rfl ?_
    refine zm_geti dX12_go_118 f_X12_21 (by decide) (by decide) (by decide) ?_
    obtain ⟨hq22, T⟩ := T
    refine zm_iald (n := 940) (o := (Int32.toNatClampNeg (M.1 229 5))) dX12_go_121 (by decide) (by decide) hq22 rfl ?_
    refine zr_istore_n dX12_go_122 rfl (by decide) (L2 := [(1, .int (M.1 230 (Int32.toNatClampNeg (M.1 229 5)))), (0, .ref 229)]) rfl ?_
    refine zr_iload_n dX12_go_123 rfl 0 rfl ?_
    refine zm_callS_b dX12_go_124 w_X12_isLetter l_X12_33 s_X12_isLetter [.int (M.1 230 (Int32.toNatClampNeg (M.1 229 5)))] rfl rfl (Nat.le_of_ble_eq_true rfl) (Nat.le_of_ble_eq_true rfl) ?_
    refine zV.post T ?_
    rintro v M24 ⟨r23, rfl, T⟩
    refine ⟨r23, rfl, ?_⟩
    refine zm_ifb_ne (tgt := 198) dX12_go_127 (by decide) (fun h25 => ?_) (fun h25 => ?_)
    · have T := T.1 h25
      exact zV.pick [1, 0] rfl T
    · have T := T.2 h25
      refine zr_iload_n dX12_go_130 rfl 0 rfl ?_
      refine zm_callS_b dX12_go_131 w_X12_isDigit l_X12_37 s_X12_isDigit [.int (M.1 230 (Int32.toNatClampNeg (M.1 229 5)))] rfl rfl (Nat.le_of_ble_eq_true rfl) (Nat.le_of_ble_eq_true rfl) ?_
      refine zV.post T ?_
      rintro v M27 ⟨r26, rfl, T⟩
      refine ⟨r26, rfl, ?_⟩
      refine zm_ifb_ne (tgt := 198) dX12_go_134 (by decide) (fun h28 => ?_) (fun h28 => ?_)
      · have T := T.1 h28
        exact zV.pick [1, 0] rfl T
      · have T := T.2 h28
        refine zr_aload_n dX12_go_137 rfl 1 rfl ?_
        refine zr_iload_n dX12_go_138 rfl 0 rfl ?_
        refine zr_bipush (v := 59) dX12_go_139 (by decide) ?_
        refine zr_icmp_eq (tgt := 174) dX12_go_141 (by decide) (fun h29 => ?_) (fun h29 => ?_)
        · have T := T.1 h29
          refine zr_iconst (v := 4) dX12_go_174 (by decide) ?_
          refine zr_goto (tgt := 179) dX12_go_175 (by decide) ?_
          refine zn_puti dX12_go_179 f_X12_30 (by decide) (by decide) (by decide) (fun M30 e31 => ?_)
          have T := T M30 e31
          refine zr_aload_n dX12_go_182 rfl 1 rfl ?_
          refine zr_iload_n dX12_go_183 rfl 0 rfl ?_
          refine zn_puti dX12_go_184 f_X12_40 (by decide) (by decide) (by decide) (fun M32 e33 => ?_)
          have T := T M32 e33
          refine zr_aload_n dX12_go_187 rfl 1 rfl ?_
          refine zr_dup dX12_go_188 rfl ?_
          refine zm_geti dX12_go_189 f_X12_21 (by decide) (by decide) (by decide) ?_
          refine zr_iconst (v := 1) dX12_go_192 (by decide) ?_
          refine zr_iadd dX12_go_193 ?_
          refine zn_puti dX12_go_194 f_X12_21 (by decide) (by decide) (by decide) (fun M34 e35 => ?_)
          have T := T M34 e35
          exact zm_vret dX12_go_197 rfl T
        · have T := T.2 h29
          refine zr_iload_n dX12_go_144 rfl 0 rfl ?_
          refine zr_bipush (v := 60) dX12_go_145 (by decide) ?_
          refine zr_icmp_eq (tgt := 174) dX12_go_147 (by decide) (fun h36 => ?_) (fun h36 => ?_)
          · have T := T.1 h36
            refine zr_iconst (v := 4) dX12_go_174 (by decide) ?_
            refine zr_goto (tgt := 179) dX12_go_175 (by decide) ?_
            refine zn_puti dX12_go_179 f_X12_30 (by decide) (by decide) (by decide) (fun M37 e38 => ?_)
            have T := T M37 e38
            refine zr_aload_n dX12_go_182 rfl 1 rfl ?_
            refine zr_iload_n dX12_go_183 rfl 0 rfl ?_
            refine zn_puti dX12_go_184 f_X12_40 (by decide) (by decide) (by decide) (fun M39 e40 => ?_)
            have T := T M39 e40
            refine zr_aload_n dX12_go_187 rfl 1 rfl ?_
            refine zr_dup dX12_go_188 rfl ?_
            refine zm_geti dX12_go_189 f_X12_21 (by decide) (by decide) (by decide) ?_
            refine zr_iconst (v := 1) dX12_go_192 (by decide) ?_
            refine zr_iadd dX12_go_193 ?_
            refine zn_puti dX12_go_194 f_X12_21 (by decide) (by decide) (by decide) (fun M41 e42 => ?_)
            have T := T M41 e42
            exact zm_vret dX12_go_197 rfl T
          · have T := T.2 h36
            refine zr_iload_n dX12_go_150 rfl 0 rfl ?_
            refine zr_bipush (v := 61) dX12_go_151 (by decide) ?_
            refine zr_icmp_eq (tgt := 174) dX12_go_153 (by decide) (fun h43 => ?_) (fun h43 => ?_)
            · have T := T.1 h43
              refine zr_iconst (v := 4) dX12_go_174 (by decide) ?_
              refine zr_goto (tgt := 179) dX12_go_175 (by decide) ?_
              refine zn_puti dX12_go_179 f_X12_30 (by decide) (by decide) (by decide) (fun M44 e45 => ?_)
              have T := T M44 e45
              refine zr_aload_n dX12_go_182 rfl 1 rfl ?_
              refine zr_iload_n dX12_go_183 rfl 0 rfl ?_
              refine zn_puti dX12_go_184 f_X12_40 (by decide) (by decide) (by decide) (fun M46 e47 => ?_)
              have T := T M46 e47
              refine zr_aload_n dX12_go_187 rfl 1 rfl ?_
              refine zr_dup dX12_go_188 rfl ?_
              refine zm_geti dX12_go_189 f_X12_21 (by decide) (by decide) (by decide) ?_
              refine zr_iconst (v := 1) dX12_go_192 (by decide) ?_
              refine zr_iadd dX12_go_193 ?_
              refine zn_puti dX12_go_194 f_X12_21 (by decide) (by decide) (by decide) (fun M48 e49 => ?_)
              have T := T M48 e49
              exact zm_vret dX12_go_197 rfl T
            · have T := T.2 h43
              refine zr_iload_n dX12_go_156 rfl 0 rfl ?_
              refine zr_bipush (v := 62) dX12_go_157 (by decide) ?_
              refine zr_icmp_eq (tgt := 174) dX12_go_159 (by decide) (fun h50 => ?_) (fun h50 => ?_)
              · have T := T.1 h50
                refine zr_iconst (v := 4) dX12_go_174 (by decide) ?_
                refine zr_goto (tgt := 179) dX12_go_175 (by decide) ?_
                refine zn_puti dX12_go_179 f_X12_30 (by decide) (by decide) (by decide) (fun M51 e52 => ?_)
                have T := T M51 e52
                refine zr_aload_n dX12_go_182 rfl 1 rfl ?_
                refine zr_iload_n dX12_go_183 rfl 0 rfl ?_
                refine zn_puti dX12_go_184 f_X12_40 (by decide) (by decide) (by decide) (fun M53 e54 => ?_)
                have T := T M53 e54
                refine zr_aload_n dX12_go_187 rfl 1 rfl ?_
                refine zr_dup dX12_go_188 rfl ?_
                refine zm_geti dX12_go_189 f_X12_21 (by decide) (by decide) (by decide) ?_
                refine zr_iconst (v := 1) dX12_go_192 (by decide) ?_
                refine zr_iadd dX12_go_193 ?_
                refine zn_puti dX12_go_194 f_X12_21 (by decide) (by decide) (by decide) (fun M55 e56 => ?_)
                have T := T M55 e56
                exact zm_vret dX12_go_197 rfl T
              · have T := T.2 h50
                refine zr_iload_n dX12_go_162 rfl 0 rfl ?_
                refine zr_bipush (v := 40) dX12_go_163 (by decide) ?_
                refine zr_icmp_eq (tgt := 174) dX12_go_165 (by decide) (fun h57 => ?_) (fun h57 => ?_)
                · have T := T.1 h57
                  refine zr_iconst (v := 4) dX12_go_174 (by decide) ?_
                  refine zr_goto (tgt := 179) dX12_go_175 (by decide) ?_
                  refine zn_puti dX12_go_179 f_X12_30 (by decide) (by decide) (by decide) (fun M58 e59 => ?_)
                  have T := T M58 e59
                  refine zr_aload_n dX12_go_182 rfl 1 rfl ?_
                  refine zr_iload_n dX12_go_183 rfl 0 rfl ?_
                  refine zn_puti dX12_go_184 f_X12_40 (by decide) (by decide) (by decide) (fun M60 e61 => ?_)
                  have T := T M60 e61
                  refine zr_aload_n dX12_go_187 rfl 1 rfl ?_
                  refine zr_dup dX12_go_188 rfl ?_
                  refine zm_geti dX12_go_189 f_X12_21 (by decide) (by decide) (by decide) ?_
                  refine zr_iconst (v := 1) dX12_go_192 (by decide) ?_
                  refine zr_iadd dX12_go_193 ?_
                  refine zn_puti dX12_go_194 f_X12_21 (by decide) (by decide) (by decide) (fun M62 e63 => ?_)
                  have T := T M62 e63
                  exact zm_vret dX12_go_197 rfl T
                · have T := T.2 h57
                  refine zr_iload_n dX12_go_168 rfl 0 rfl ?_
                  refine zr_bipush (v := 41) dX12_go_169 (by decide) ?_
                  refine zr_icmp_ne (tgt := 178) dX12_go_171 (by decide) (fun h64 => ?_) (fun h64 => ?_)
                  · have T := T.1 h64
                    refine zr_iconst (v := 1) dX12_go_178 (by decide) ?_
                    refine zn_puti dX12_go_179 f_X12_30 (by decide) (by decide) (by decide) (fun M65 e66 => ?_)
                    have T := T M65 e66
                    refine zr_aload_n dX12_go_182 rfl 1 rfl ?_
                    refine zr_iload_n dX12_go_183 rfl 0 rfl ?_
                    refine zn_puti dX12_go_184 f_X12_40 (by decide) (by decide) (by decide) (fun M67 e68 => ?_)
                    have T := T M67 e68
                    refine zr_aload_n dX12_go_187 rfl 1 rfl ?_
                    refine zr_dup dX12_go_188 rfl ?_
                    refine zm_geti dX12_go_189 f_X12_21 (by decide) (by decide) (by decide) ?_
                    refine zr_iconst (v := 1) dX12_go_192 (by decide) ?_
                    refine zr_iadd dX12_go_193 ?_
                    refine zn_puti dX12_go_194 f_X12_21 (by decide) (by decide) (by decide) (fun M69 e70 => ?_)
                    have T := T M69 e70
                    exact zm_vret dX12_go_197 rfl T
                  · have T := T.2 h64
                    refine zr_iconst (v := 4) dX12_go_174 (by decide) ?_
                    refine zr_goto (tgt := 179) dX12_go_175 (by decide) ?_
                    refine zn_puti dX12_go_179 f_X12_30 (by decide) (by decide) (by decide) (fun M71 e72 => ?_)
                    have T := T M71 e72
                    refine zr_aload_n dX12_go_182 rfl 1 rfl ?_
                    refine zr_iload_n dX12_go_183 rfl 0 rfl ?_
                    refine zn_puti dX12_go_184 f_X12_40 (by decide) (by decide) (by decide) (fun M73 e74 => ?_)
                    have T := T M73 e74
                    refine zr_aload_n dX12_go_187 rfl 1 rfl ?_
                    refine zr_dup dX12_go_188 rfl ?_
                    refine zm_geti dX12_go_189 f_X12_21 (by decide) (by decide) (by decide) ?_
                    refine zr_iconst (v := 1) dX12_go_192 (by decide) ?_
                    refine zr_iadd dX12_go_193 ?_
                    refine zn_puti dX12_go_194 f_X12_21 (by decide) (by decide) (by decide) (fun M75 e76 => ?_)
                    have T := T M75 e76
                    exact zm_vret dX12_go_197 rfl T
  · have T := T.2 h21
    refine zr_aload_n dX12_go_107 rfl 0 rfl ?_
    refine zr_iconst (v := 0) dX12_go_108 (by decide) ?_
    refine zn_puti dX12_go_109 f_X12_30 (by decide) (by decide) (by decide) (fun M77 e78 => ?_)
    have T := T M77 e78
    exact zm_vret dX12_go_112 rfl T
set_option maxRecDepth 100000 in
set_option maxHeartbeats 4000000 in
theorem t_X12_go_198 {d : Nat} {x1 : Int32} {M : zMem} {K : zK} 
    (T : S_X12_isLetter d x1 M (zB (fun r21 M22 => (∀ M23 : zMem, M23 = wL M22 229 12 0 → (∀ M25 : zMem, M25 = wI M23 229 8 0 → S_X12_go_215 (d + 1) (bi r21) 1 M25 K))))) : S_X12_go_198 (d + 1) x1 M K := by
  show zV m_X12_go (d + 1) 198 [(0, .ref 229), (1, .int x1)] [] M K
  refine zr_iload_n dX12_go_198 rfl 1 rfl ?_
  refine zm_callS_b dX12_go_199 w_X12_isLetter l_X12_33 s_X12_isLetter [.int x1] rfl rfl (Nat.le_of_ble_eq_true rfl) (Nat.le_of_ble_eq_true rfl) ?_
  refine zV.post T ?_
  rintro v M22 ⟨r21, rfl, T⟩
  refine ⟨r21, rfl, ?_⟩
  refine zr_istore_n dX12_go_202 rfl (by decide) (L2 := [(2, .int (bi r21)), (0, .ref 229), (1, .int x1)]) rfl ?_
  refine zr_iconst (v := 1) dX12_go_203 (by decide) ?_
  refine zr_istore_n dX12_go_204 rfl (by decide) (L2 := [(3, .int 1), (2, .int (bi r21)), (0, .ref 229), (1, .int x1)]) rfl ?_
  refine zr_aload_n dX12_go_205 rfl 2 rfl ?_
  refine zr_lconst (v := 0) dX12_go_206 (by decide) ?_
  refine zn_putl dX12_go_207 f_X12_43 (by decide) (by decide) (by decide) (fun M23 e24 => ?_)
  have T := T M23 e24
  refine zr_aload_n dX12_go_210 rfl 2 rfl ?_
  refine zr_iconst (v := 0) dX12_go_211 (by decide) ?_
  refine zn_puti dX12_go_212 f_X12_47 (by decide) (by decide) (by decide) (fun M25 e26 => ?_)
  have T := T M25 e26
  exact zV.pick [2, 1, 0] rfl T
set_option maxRecDepth 100000 in
set_option maxHeartbeats 4000000 in
theorem t_X12_go_215 {d : Nat} {x2 : Int32} {x3 : Int32} {M : zMem} {K : zK} 
    (T : S_X12_tapeAt d (M.1 229 5) M (zI (fun r21 M22 => S_X12_isLetter d r21 M22 (zB (fun r23 M24 => (r23 = true → S_X12_go_243 (d + 1) x2 x3 M24 K) ∧ (r23 = false → S_X12_tapeAt d (M24.1 229 5) M24 (zI (fun r26 M27 => S_X12_isDigit d r26 M27 (zB (fun r28 M29 => (r28 = false → (x3 = 0 → (∀ M32 : zMem, M32 = wI M29 229 7 1 → K none M32)) ∧ (¬ (x3 = 0) → (x2 = 0 → (((M29.1 229 5) - (M29.1 229 6)) ≤ 3 → (x2 = 0 → (∀ M37 : zMem, M37 = wI M29 229 7 3 → K none M37)) ∧ (¬ (x2 = 0) → (∀ M39 : zMem, M39 = wI M29 229 7 2 → K none M39))) ∧ (¬ (((M29.1 229 5) - (M29.1 229 6)) ≤ 3) → (∀ M41 : zMem, M41 = wI M29 229 7 1 → K none M41))) ∧ (¬ (x2 = 0) → (((M29.1 229 5) - (M29.1 229 6)) ≤ 7 → (x2 = 0 → (∀ M45 : zMem, M45 = wI M29 229 7 3 → K none M45)) ∧ (¬ (x2 = 0) → (∀ M47 : zMem, M47 = wI M29 229 7 2 → K none M47))) ∧ (¬ (((M29.1 229 5) - (M29.1 229 6)) ≤ 7) → (∀ M49 : zMem, M49 = wI M29 229 7 1 → K none M49))))) ∧ (r28 = true → S_X12_go_243 (d + 1) x2 x3 M29 K))))))))))) : S_X12_go_215 (d + 1) x2 x3 M K := by
  show zV m_X12_go (d + 1) 215 [(0, .ref 229), (2, .int x2), (3, .int x3)] [] M K
  refine zr_aload_n dX12_go_215 rfl 0 rfl ?_
  refine zr_aload_n dX12_go_216 rfl 0 rfl ?_
  refine zm_geti dX12_go_217 f_X12_21 (by decide) (by decide) (by decide) ?_
  refine zm_callV_i (c := 12) (b := 229) dX12_go_220 w_X12_tapeAt l_X12_50 rfl (by decide) (by decide) s_X12_tapeAt [.int (M.1 229 5)] rfl rfl (Nat.le_of_ble_eq_true rfl) (Nat.le_of_ble_eq_true rfl) ?_
  refine zV.post T ?_
  rintro v M22 ⟨r21, rfl, T⟩
  refine ⟨r21, rfl, ?_⟩
  refine zm_callS_b dX12_go_223 w_X12_isLetter l_X12_33 s_X12_isLetter [.int r21] rfl rfl (Nat.le_of_ble_eq_true rfl) (Nat.le_of_ble_eq_true rfl) ?_
  refine zV.post T ?_
  rintro v M24 ⟨r23, rfl, T⟩
  refine ⟨r23, rfl, ?_⟩
  refine zm_ifb_ne (tgt := 243) dX12_go_226 (by decide) (fun h25 => ?_) (fun h25 => ?_)
  · have T := T.1 h25
    exact zV.pick [0, 1, 2] rfl T
  · have T := T.2 h25
    refine zr_aload_n dX12_go_229 rfl 0 rfl ?_
    refine zr_aload_n dX12_go_230 rfl 0 rfl ?_
    refine zm_geti dX12_go_231 f_X12_21 (by decide) (by decide) (by decide) ?_
    refine zm_callV_i (c := 12) (b := 229) dX12_go_234 w_X12_tapeAt l_X12_50 rfl (by decide) (by decide) s_X12_tapeAt [.int (M24.1 229 5)] rfl rfl (Nat.le_of_ble_eq_true rfl) (Nat.le_of_ble_eq_true rfl) ?_
    refine zV.post T ?_
    rintro v M27 ⟨r26, rfl, T⟩
    refine ⟨r26, rfl, ?_⟩
    refine zm_callS_b dX12_go_237 w_X12_isDigit l_X12_37 s_X12_isDigit [.int r26] rfl rfl (Nat.le_of_ble_eq_true rfl) (Nat.le_of_ble_eq_true rfl) ?_
    refine zV.post T ?_
    rintro v M29 ⟨r28, rfl, T⟩
    refine ⟨r28, rfl, ?_⟩
    refine zm_ifb_eq (tgt := 350) dX12_go_240 (by decide) (fun h30 => ?_) (fun h30 => ?_)
    · have T := T.1 h30
      refine zr_aload_n dX12_go_350 rfl 0 rfl ?_
      refine zr_iload_n dX12_go_351 rfl 2 rfl ?_
      refine zr_if_eq (tgt := 377) dX12_go_352 (by decide) (fun h31 => ?_) (fun h31 => ?_)
      · have T := T.1 h31
        refine zr_iconst (v := 1) dX12_go_377 (by decide) ?_
        refine zr_goto (tgt := 390) dX12_go_378 (by decide) ?_
        refine zn_puti dX12_go_390 f_X12_30 (by decide) (by decide) (by decide) (fun M32 e33 => ?_)
        have T := T M32 e33
        exact zm_vret dX12_go_393 rfl T
      · have T := T.2 h31
        refine zr_aload_n dX12_go_355 rfl 0 rfl ?_
        refine zm_geti dX12_go_356 f_X12_21 (by decide) (by decide) (by decide) ?_
        refine zr_aload_n dX12_go_359 rfl 0 rfl ?_
        refine zm_geti dX12_go_360 f_X12_24 (by decide) (by decide) (by decide) ?_
        refine zr_isub dX12_go_363 ?_
        refine zr_iload_n dX12_go_364 rfl 1 rfl ?_
        refine zr_if_eq (tgt := 373) dX12_go_365 (by decide) (fun h34 => ?_) (fun h34 => ?_)
        · have T := T.1 h34
          refine zr_iconst (v := 3) dX12_go_373 (by decide) ?_
          refine zr_icmp_le (tgt := 381) dX12_go_374 (by decide) (fun h35 => ?_) (fun h35 => ?_)
          · have T := T.1 h35
            refine zr_iload_n dX12_go_381 rfl 1 rfl ?_
            refine zr_if_eq (tgt := 389) dX12_go_382 (by decide) (fun h36 => ?_) (fun h36 => ?_)
            · have T := T.1 h36
              refine zr_iconst (v := 3) dX12_go_389 (by decide) ?_
              refine zn_puti dX12_go_390 f_X12_30 (by decide) (by decide) (by decide) (fun M37 e38 => ?_)
              have T := T M37 e38
              exact zm_vret dX12_go_393 rfl T
            · have T := T.2 h36
              refine zr_iconst (v := 2) dX12_go_385 (by decide) ?_
              refine zr_goto (tgt := 390) dX12_go_386 (by decide) ?_
              refine zn_puti dX12_go_390 f_X12_30 (by decide) (by decide) (by decide) (fun M39 e40 => ?_)
              have T := T M39 e40
              exact zm_vret dX12_go_393 rfl T
          · have T := T.2 h35
            refine zr_iconst (v := 1) dX12_go_377 (by decide) ?_
            refine zr_goto (tgt := 390) dX12_go_378 (by decide) ?_
            refine zn_puti dX12_go_390 f_X12_30 (by decide) (by decide) (by decide) (fun M41 e42 => ?_)
            have T := T M41 e42
            exact zm_vret dX12_go_393 rfl T
        · have T := T.2 h34
          refine zr_bipush (v := 7) dX12_go_368 (by decide) ?_
          refine zr_goto (tgt := 374) dX12_go_370 (by decide) ?_
          refine zr_icmp_le (tgt := 381) dX12_go_374 (by decide) (fun h43 => ?_) (fun h43 => ?_)
          · have T := T.1 h43
            refine zr_iload_n dX12_go_381 rfl 1 rfl ?_
            refine zr_if_eq (tgt := 389) dX12_go_382 (by decide) (fun h44 => ?_) (fun h44 => ?_)
            · have T := T.1 h44
              refine zr_iconst (v := 3) dX12_go_389 (by decide) ?_
              refine zn_puti dX12_go_390 f_X12_30 (by decide) (by decide) (by decide) (fun M45 e46 => ?_)
              have T := T M45 e46
              exact zm_vret dX12_go_393 rfl T
            · have T := T.2 h44
              refine zr_iconst (v := 2) dX12_go_385 (by decide) ?_
              refine zr_goto (tgt := 390) dX12_go_386 (by decide) ?_
              refine zn_puti dX12_go_390 f_X12_30 (by decide) (by decide) (by decide) (fun M47 e48 => ?_)
              have T := T M47 e48
              exact zm_vret dX12_go_393 rfl T
          · have T := T.2 h43
            refine zr_iconst (v := 1) dX12_go_377 (by decide) ?_
            refine zr_goto (tgt := 390) dX12_go_378 (by decide) ?_
            refine zn_puti dX12_go_390 f_X12_30 (by decide) (by decide) (by decide) (fun M49 e50 => ?_)
            have T := T M49 e50
            exact zm_vret dX12_go_393 rfl T
    · have T := T.2 h30
      exact zV.pick [0, 1, 2] rfl T
set_option maxRecDepth 100000 in
set_option maxHeartbeats 4000000 in
theorem t_X12_go_243 {d : Nat} {x2 : Int32} {x3 : Int32} {M : zMem} {K : zK} 
    (T : vp_in (M.1 229 5) 940 ∧ ((x3 = 0 → S_X12_go_271 (d + 1) x2 (M.1 230 (Int32.toNatClampNeg (M.1 229 5))) M K) ∧ (¬ (x3 = 0) → S_X12_isLetter d (M.1 230 (Int32.toNatClampNeg (M.1 229 5))) M (zB (fun r23 M24 => (¬ (bi r23) = x2 → S_X12_go_271 (d + 1) x2 (M.1 230 (Int32.toNatClampNeg (M.1 229 5))) M24 K) ∧ ((bi r23) = x2 → (7 ≤ ((M24.1 229 5) - (M24.1 229 6)) → S_X12_go_307 (d + 1) x2 1 (M.1 230 (Int32.toNatClampNeg (M.1 229 5))) M24 K) ∧ (¬ (7 ≤ ((M24.1 229 5) - (M24.1 229 6))) → (∀ M27 : zMem, M27 = wL M24 229 12 (((27 * (M24.2 229 12)) + (Int32.toInt64 (M.1 230 (Int32.toNatClampNeg (M.1 229 5))))) - 96) → S_X12_go_307 (d + 1) x2 1 (M.1 230 (Int32.toNatClampNeg (M.1 229 5))) M27 K)))))))) : S_X12_go_243 (d + 1) x2 x3 M K := by
  show zV m_X12_go (d + 1) 243 [(0, .ref 229), (2, .int x2), (3, .int x3)] [] M K
  refine zr_aload_n dX12_go_243 rfl 0 rfl ?_
  refine zm_getr (a := 230) dX12_go_244 f_X12_7 (by decide) (by decide) (by decide) (by decide) ?_
  refine zr_aload_n dX12_go_247 rfl 0 rfl ?_
  refine zm_geti dX12_go_248 f_X12_21 (by decide) (by decide) (by decide) ?_
  obtain ⟨hq21, T⟩ := T
  refine zm_iald (n := 940) (o := (Int32.toNatClampNeg (M.1 229 5))) dX12_go_251 (by decide) (by decide) hq21 rfl ?_
  refine zr_istore dX12_go_252 (by decide) (L2 := [(4, .int (M.1 230 (Int32.toNatClampNeg (M.1 229 5)))), (0, .ref 229), (2, .int x2), (3, .int x3)]) rfl ?_
  refine zr_iload_n dX12_go_254 rfl 3 rfl ?_
  refine zr_if_eq (tgt := 271) dX12_go_255 (by decide) (fun h22 => ?_) (fun h22 => ?_)
  · have T := T.1 h22
    exact zV.pick [1, 2, 0] rfl T
  · have T := T.2 h22
    refine zr_iload dX12_go_258 0 rfl ?_
    refine zm_callS_b dX12_go_260 w_X12_isLetter l_X12_33 s_X12_isLetter [.int (M.1 230 (Int32.toNatClampNeg (M.1 229 5)))] rfl rfl (Nat.le_of_ble_eq_true rfl) (Nat.le_of_ble_eq_true rfl) ?_
    refine zV.post T ?_
    rintro v M24 ⟨r23, rfl, T⟩
    refine ⟨r23, rfl, ?_⟩
    refine zr_iload_n dX12_go_263 rfl 2 rfl ?_
    refine zr_icmp_ne (tgt := 271) dX12_go_264 (by decide) (fun h25 => ?_) (fun h25 => ?_)
    · have T := T.1 h25
      exact zV.pick [1, 2, 0] rfl T
    · have T := T.2 h25
      refine zr_iconst (v := 1) dX12_go_267 (by decide) ?_
      refine zr_goto (tgt := 272) dX12_go_268 (by decide) ?_
      refine zr_istore_n dX12_go_272 rfl (by decide) (L2 := [(3, .int 1), (4, .int (M.1 230 (Int32.toNatClampNeg (M.1 229 5)))), (0, .ref 229), (2, .int x2)]) rfl ?_
      refine zr_aload_n dX12_go_273 rfl 2 rfl ?_
      refine zm_geti dX12_go_274 f_X12_21 (by decide) (by decide) (by decide) ?_
      refine zr_aload_n dX12_go_277 rfl 2 rfl ?_
      refine zm_geti dX12_go_278 f_X12_24 (by decide) (by decide) (by decide) ?_
      refine zr_isub dX12_go_281 ?_
      refine zr_bipush (v := 7) dX12_go_282 (by decide) ?_
      refine zr_icmp_ge (tgt := 307) dX12_go_284 (by decide) (fun h26 => ?_) (fun h26 => ?_)
      · have T := T.1 h26
        exact zV.pick [2, 3, 0, 1] rfl T
      · have T := T.2 h26
        refine zr_aload_n dX12_go_287 rfl 2 rfl ?_
        refine zr_ldc2 (v := 27) dX12_go_288 k_X12_54 ?_
        refine zr_aload_n dX12_go_291 rfl 2 rfl ?_
        refine zm_getl dX12_go_292 f_X12_43 (by decide) (by decide) (by decide) ?_
        refine zr_lmul dX12_go_295 ?_
        refine zr_iload dX12_go_296 1 rfl ?_
        refine zr_i2l dX12_go_298 ?_
        refine zr_ladd dX12_go_299 ?_
        refine zr_ldc2 (v := 96) dX12_go_300 k_X12_56 ?_
        refine zr_lsub dX12_go_303 ?_
        refine zn_putl dX12_go_304 f_X12_43 (by decide) (by decide) (by decide) (fun M27 e28 => ?_)
        have T := T M27 e28
        exact zV.pick [2, 3, 0, 1] rfl T
set_option maxRecDepth 100000 in
set_option maxHeartbeats 4000000 in
theorem t_X12_go_271 {d : Nat} {x2 : Int32} {x4 : Int32} {M : zMem} {K : zK} 
    (T : (7 ≤ ((M.1 229 5) - (M.1 229 6)) → S_X12_go_307 (d + 1) x2 0 x4 M K) ∧ (¬ (7 ≤ ((M.1 229 5) - (M.1 229 6))) → (∀ M22 : zMem, M22 = wL M 229 12 (((27 * (M.2 229 12)) + (Int32.toInt64 x4)) - 96) → S_X12_go_307 (d + 1) x2 0 x4 M22 K))) : S_X12_go_271 (d + 1) x2 x4 M K := by
  show zV m_X12_go (d + 1) 271 [(0, .ref 229), (2, .int x2), (4, .int x4)] [] M K
  refine zr_iconst (v := 0) dX12_go_271 (by decide) ?_
  refine zr_istore_n dX12_go_272 rfl (by decide) (L2 := [(3, .int 0), (0, .ref 229), (2, .int x2), (4, .int x4)]) rfl ?_
  refine zr_aload_n dX12_go_273 rfl 1 rfl ?_
  refine zm_geti dX12_go_274 f_X12_21 (by decide) (by decide) (by decide) ?_
  refine zr_aload_n dX12_go_277 rfl 1 rfl ?_
  refine zm_geti dX12_go_278 f_X12_24 (by decide) (by decide) (by decide) ?_
  refine zr_isub dX12_go_281 ?_
  refine zr_bipush (v := 7) dX12_go_282 (by decide) ?_
  refine zr_icmp_ge (tgt := 307) dX12_go_284 (by decide) (fun h21 => ?_) (fun h21 => ?_)
  · have T := T.1 h21
    exact zV.pick [1, 2, 0, 3] rfl T
  · have T := T.2 h21
    refine zr_aload_n dX12_go_287 rfl 1 rfl ?_
    refine zr_ldc2 (v := 27) dX12_go_288 k_X12_54 ?_
    refine zr_aload_n dX12_go_291 rfl 1 rfl ?_
    refine zm_getl dX12_go_292 f_X12_43 (by decide) (by decide) (by decide) ?_
    refine zr_lmul dX12_go_295 ?_
    refine zr_iload dX12_go_296 3 rfl ?_
    refine zr_i2l dX12_go_298 ?_
    refine zr_ladd dX12_go_299 ?_
    refine zr_ldc2 (v := 96) dX12_go_300 k_X12_56 ?_
    refine zr_lsub dX12_go_303 ?_
    refine zn_putl dX12_go_304 f_X12_43 (by decide) (by decide) (by decide) (fun M22 e23 => ?_)
    have T := T M22 e23
    exact zV.pick [1, 2, 0, 3] rfl T
set_option maxRecDepth 100000 in
set_option maxHeartbeats 4000000 in
theorem t_X12_go_307 {d : Nat} {x2 : Int32} {x3 : Int32} {x4 : Int32} {M : zMem} {K : zK} 
    (T : (3 ≤ ((M.1 229 5) - (M.1 229 6)) → (∀ M22 : zMem, M22 = wI M 229 5 ((M.1 229 5) + 1) → S_X12_go_215 (d + 1) x2 x3 M22 K)) ∧ (¬ (3 ≤ ((M.1 229 5) - (M.1 229 6))) → (∀ M24 : zMem, M24 = wI M 229 8 (((10 * (M.1 229 8)) + x4) - 48) → (∀ M26 : zMem, M26 = wI M24 229 5 ((M24.1 229 5) + 1) → S_X12_go_215 (d + 1) x2 x3 M26 K)))) : S_X12_go_307 (d + 1) x2 x3 x4 M K := by
  show zV m_X12_go (d + 1) 307 [(0, .ref 229), (2, .int x2), (3, .int x3), (4, .int x4)] [] M K
  refine zr_aload_n dX12_go_307 rfl 0 rfl ?_
  refine zm_geti dX12_go_308 f_X12_21 (by decide) (by decide) (by decide) ?_
  refine zr_aload_n dX12_go_311 rfl 0 rfl ?_
  refine zm_geti dX12_go_312 f_X12_24 (by decide) (by decide) (by decide) ?_
  refine zr_isub dX12_go_315 ?_
  refine zr_iconst (v := 3) dX12_go_316 (by decide) ?_
  refine zr_icmp_ge (tgt := 337) dX12_go_317 (by decide) (fun h21 => ?_) (fun h21 => ?_)
  · have T := T.1 h21
    refine zr_aload_n dX12_go_337 rfl 0 rfl ?_
    refine zr_dup dX12_go_338 rfl ?_
    refine zm_geti dX12_go_339 f_X12_21 (by decide) (by decide) (by decide) ?_
    refine zr_iconst (v := 1) dX12_go_342 (by decide) ?_
    refine zr_iadd dX12_go_343 ?_
    refine zn_puti dX12_go_344 f_X12_21 (by decide) (by decide) (by decide) (fun M22 e23 => ?_)
    have T := T M22 e23
    refine zr_goto (tgt := 215) dX12_go_347 (by decide) ?_
    exact zV.pick [0, 1, 2] rfl T
  · have T := T.2 h21
    refine zr_aload_n dX12_go_320 rfl 0 rfl ?_
    refine zr_bipush (v := 10) dX12_go_321 (by decide) ?_
    refine zr_aload_n dX12_go_323 rfl 0 rfl ?_
    refine zm_geti dX12_go_324 f_X12_47 (by decide) (by decide) (by decide) ?_
    refine zr_imul dX12_go_327 ?_
    refine zr_iload dX12_go_328 3 rfl ?_
    refine zr_iadd dX12_go_330 ?_
    refine zr_bipush (v := 48) dX12_go_331 (by decide) ?_
    refine zr_isub dX12_go_333 ?_
    refine zn_puti dX12_go_334 f_X12_47 (by decide) (by decide) (by decide) (fun M24 e25 => ?_)
    have T := T M24 e25
    refine zr_aload_n dX12_go_337 rfl 0 rfl ?_
    refine zr_dup dX12_go_338 rfl ?_
    refine zm_geti dX12_go_339 f_X12_21 (by decide) (by decide) (by decide) ?_
    refine zr_iconst (v := 1) dX12_go_342 (by decide) ?_
    refine zr_iadd dX12_go_343 ?_
    refine zn_puti dX12_go_344 f_X12_21 (by decide) (by decide) (by decide) (fun M26 e27 => ?_)
    have T := T M26 e27
    refine zr_goto (tgt := 215) dX12_go_347 (by decide) ?_
    exact zV.pick [0, 1, 2] rfl T
set_option maxRecDepth 100000 in
set_option maxHeartbeats 4000000 in
theorem t_X12_isLetter {d : Nat} {x0 : Int32} {M : zMem} {K : zK} 
    (T : (x0 < 97 → K (some (.int 0)) M) ∧ (¬ (x0 < 97) → (122 < x0 → K (some (.int 0)) M) ∧ (¬ (122 < x0) → K (some (.int 1)) M))) : S_X12_isLetter d x0 M K := by
  show zV m_X12_isLetter d 0 [(0, .int x0)] [] M K
  refine zr_iload_n dX12_isLetter_0 rfl 0 rfl ?_
  refine zr_bipush (v := 97) dX12_isLetter_1 (by decide) ?_
  refine zr_icmp_lt (tgt := 16) dX12_isLetter_3 (by decide) (fun h21 => ?_) (fun h21 => ?_)
  · have T := T.1 h21
    refine zr_iconst (v := 0) dX12_isLetter_16 (by decide) ?_
    exact zm_zret dX12_isLetter_17 rfl (by decide) T
  · have T := T.2 h21
    refine zr_iload_n dX12_isLetter_6 rfl 0 rfl ?_
    refine zr_bipush (v := 122) dX12_isLetter_7 (by decide) ?_
    refine zr_icmp_gt (tgt := 16) dX12_isLetter_9 (by decide) (fun h22 => ?_) (fun h22 => ?_)
    · have T := T.1 h22
      refine zr_iconst (v := 0) dX12_isLetter_16 (by decide) ?_
      exact zm_zret dX12_isLetter_17 rfl (by decide) T
    · have T := T.2 h22
      refine zr_iconst (v := 1) dX12_isLetter_12 (by decide) ?_
      refine zr_goto (tgt := 17) dX12_isLetter_13 (by decide) ?_
      exact zm_zret dX12_isLetter_17 rfl (by decide) T
set_option maxRecDepth 100000 in
set_option maxHeartbeats 4000000 in
theorem t_X12_isDigit {d : Nat} {x0 : Int32} {M : zMem} {K : zK} 
    (T : (x0 < 48 → K (some (.int 0)) M) ∧ (¬ (x0 < 48) → (57 < x0 → K (some (.int 0)) M) ∧ (¬ (57 < x0) → K (some (.int 1)) M))) : S_X12_isDigit d x0 M K := by
  show zV m_X12_isDigit d 0 [(0, .int x0)] [] M K
  refine zr_iload_n dX12_isDigit_0 rfl 0 rfl ?_
  refine zr_bipush (v := 48) dX12_isDigit_1 (by decide) ?_
  refine zr_icmp_lt (tgt := 16) dX12_isDigit_3 (by decide) (fun h21 => ?_) (fun h21 => ?_)
  · have T := T.1 h21
    refine zr_iconst (v := 0) dX12_isDigit_16 (by decide) ?_
    exact zm_zret dX12_isDigit_17 rfl (by decide) T
  · have T := T.2 h21
    refine zr_iload_n dX12_isDigit_6 rfl 0 rfl ?_
    refine zr_bipush (v := 57) dX12_isDigit_7 (by decide) ?_
    refine zr_icmp_gt (tgt := 16) dX12_isDigit_9 (by decide) (fun h22 => ?_) (fun h22 => ?_)
    · have T := T.1 h22
      refine zr_iconst (v := 0) dX12_isDigit_16 (by decide) ?_
      exact zm_zret dX12_isDigit_17 rfl (by decide) T
    · have T := T.2 h22
      refine zr_iconst (v := 1) dX12_isDigit_12 (by decide) ?_
      refine zr_goto (tgt := 17) dX12_isDigit_13 (by decide) ?_
      exact zm_zret dX12_isDigit_17 rfl (by decide) T
set_option maxRecDepth 100000 in
set_option maxHeartbeats 4000000 in
theorem t_X12_tapeAt {d : Nat} {x1 : Int32} {M : zMem} {K : zK} 
    (T : ((M.1 229 3) ≤ x1 → K (some (.int 0)) M) ∧ (¬ ((M.1 229 3) ≤ x1) → vp_in x1 940 ∧ (K (some (.int (M.1 230 (Int32.toNatClampNeg x1)))) M))) : S_X12_tapeAt d x1 M K := by
  show zV m_X12_tapeAt d 0 [(0, .ref 229), (1, .int x1)] [] M K
  refine zr_iload_n dX12_tapeAt_0 rfl 1 rfl ?_
  refine zr_aload_n dX12_tapeAt_1 rfl 0 rfl ?_
  refine zm_geti dX12_tapeAt_2 f_X12_18 (by decide) (by decide) (by decide) ?_
  refine zr_icmp_ge (tgt := 17) dX12_tapeAt_5 (by decide) (fun h21 => ?_) (fun h21 => ?_)
  · have T := T.1 h21
    refine zr_iconst (v := 0) dX12_tapeAt_17 (by decide) ?_
    exact zm_iret dX12_tapeAt_18 rfl T
  · have T := T.2 h21
    refine zr_aload_n dX12_tapeAt_8 rfl 0 rfl ?_
    refine zm_getr (a := 230) dX12_tapeAt_9 f_X12_7 (by decide) (by decide) (by decide) (by decide) ?_
    refine zr_iload_n dX12_tapeAt_12 rfl 1 rfl ?_
    obtain ⟨hq22, T⟩ := T
    refine zm_iald (n := 940) (o := (Int32.toNatClampNeg x1)) dX12_tapeAt_13 (by decide) (by decide) hq22 rfl ?_
    refine zr_goto (tgt := 18) dX12_tapeAt_14 (by decide) ?_
    exact zm_iret dX12_tapeAt_18 rfl T
set_option maxRecDepth 100000 in
set_option maxHeartbeats 4000000 in
theorem t_X12_readLine {d : Nat}  {M : zMem} {K : zK} 
    (T : S_X12_isWord d 0 M (zB (fun r21 M22 => (r21 = false → S_X12_isWord d 1 M22 (zB (fun r24 M25 => (r24 = false → S_X12_isWord d 2 M25 (zB (fun r27 M28 => (r27 = false → S_X12_isWord d 6 M28 (zB (fun r30 M31 => (r30 = false → S_X12_isWord d 7 M31 (zB (fun r33 M34 => (r33 = false → S_X12_isWord d 8 M34 (zB (fun r36 M37 => (r36 = false → S_X12_isWord d 12 M37 (zB (fun r39 M40 => (r39 = false → S_X12_bad d 1 M40 (zB (fun r42 M43 => K (some (.int (bi r42))) M43))) ∧ (r39 = true → S_X12_readCut d  M40 (zB (fun r44 M45 => K (some (.int (bi r44))) M45)))))) ∧ (r36 = true → S_X12_readHas d  M37 (zB (fun r46 M47 => K (some (.int (bi r46))) M47)))))) ∧ (r33 = true → S_X12_readPeer d  M34 (zB (fun r48 M49 => K (some (.int (bi r48))) M49)))))) ∧ (r30 = true → S_X12_readKey d  M31 (zB (fun r50 M51 => K (some (.int (bi r50))) M51)))))) ∧ (r27 = true → S_X12_readRule d  M28 (zB (fun r52 M53 => K (some (.int (bi r52))) M53)))))) ∧ (r24 = true → S_X12_isFresh d 1 M25 (zB (fun r54 M55 => (r54 = false → K (some (.int 0)) M55) ∧ (r54 = true → S_X12_readNumber d 1 12 M55 (zB (fun r57 M58 => S_X12_noted d 3 (bi r57) M58 (zB (fun r59 M60 => (r59 = false → K (some (.int 0)) M60) ∧ (r59 = true → K (some (.int 1)) M60)))))))))))) ∧ (r21 = true → S_X12_isFresh d 0 M22 (zB (fun r62 M63 => (r62 = false → K (some (.int 0)) M63) ∧ (r62 = true → S_X12_readNumber d 1 4 M63 (zB (fun r65 M66 => S_X12_noted d 2 (bi r65) M66 (zB (fun r67 M68 => (r67 = false → K (some (.int 0)) M68) ∧ (r67 = true → K (some (.int 1)) M68)))))))))))) : S_X12_readLine (d + 1)  M K := by
  show zV m_X12_readLine (d + 1) 0 [(0, .ref 229)] [] M K
  refine zr_aload_n dX12_readLine_0 rfl 0 rfl ?_
  refine zr_iconst (v := 0) dX12_readLine_1 (by decide) ?_
  refine zm_callV_b (c := 12) (b := 229) dX12_readLine_2 w_X12_isWord l_X12_213 rfl (by decide) (by decide) s_X12_isWord [.int 0] rfl rfl (Nat.le_of_ble_eq_true rfl) (Nat.le_of_ble_eq_true rfl) ?_
  refine zV.post T ?_
  rintro v M22 ⟨r21, rfl, T⟩
  refine ⟨r21, rfl, ?_⟩
  refine zm_ifb_eq (tgt := 36) dX12_readLine_5 (by decide) (fun h23 => ?_) (fun h23 => ?_)
  · have T := T.1 h23
    refine zr_aload_n dX12_readLine_36 rfl 0 rfl ?_
    refine zr_iconst (v := 1) dX12_readLine_37 (by decide) ?_
    refine zm_callV_b (c := 12) (b := 229) dX12_readLine_38 w_X12_isWord l_X12_213 rfl (by decide) (by decide) s_X12_isWord [.int 1] rfl rfl (Nat.le_of_ble_eq_true rfl) (Nat.le_of_ble_eq_true rfl) ?_
    refine zV.post T ?_
    rintro v M25 ⟨r24, rfl, T⟩
    refine ⟨r24, rfl, ?_⟩
    refine zm_ifb_eq (tgt := 73) dX12_readLine_41 (by decide) (fun h26 => ?_) (fun h26 => ?_)
    · have T := T.1 h26
      refine zr_aload_n dX12_readLine_73 rfl 0 rfl ?_
      refine zr_iconst (v := 2) dX12_readLine_74 (by decide) ?_
      refine zm_callV_b (c := 12) (b := 229) dX12_readLine_75 w_X12_isWord l_X12_213 rfl (by decide) (by decide) s_X12_isWord [.int 2] rfl rfl (Nat.le_of_ble_eq_true rfl) (Nat.le_of_ble_eq_true rfl) ?_
      refine zV.post T ?_
      rintro v M28 ⟨r27, rfl, T⟩
      refine ⟨r27, rfl, ?_⟩
      refine zm_ifb_eq (tgt := 86) dX12_readLine_78 (by decide) (fun h29 => ?_) (fun h29 => ?_)
      · have T := T.1 h29
        refine zr_aload_n dX12_readLine_86 rfl 0 rfl ?_
        refine zr_bipush (v := 6) dX12_readLine_87 (by decide) ?_
        refine zm_callV_b (c := 12) (b := 229) dX12_readLine_89 w_X12_isWord l_X12_213 rfl (by decide) (by decide) s_X12_isWord [.int 6] rfl rfl (Nat.le_of_ble_eq_true rfl) (Nat.le_of_ble_eq_true rfl) ?_
        refine zV.post T ?_
        rintro v M31 ⟨r30, rfl, T⟩
        refine ⟨r30, rfl, ?_⟩
        refine zm_ifb_eq (tgt := 100) dX12_readLine_92 (by decide) (fun h32 => ?_) (fun h32 => ?_)
        · have T := T.1 h32
          refine zr_aload_n dX12_readLine_100 rfl 0 rfl ?_
          refine zr_bipush (v := 7) dX12_readLine_101 (by decide) ?_
          refine zm_callV_b (c := 12) (b := 229) dX12_readLine_103 w_X12_isWord l_X12_213 rfl (by decide) (by decide) s_X12_isWord [.int 7] rfl rfl (Nat.le_of_ble_eq_true rfl) (Nat.le_of_ble_eq_true rfl) ?_
          refine zV.post T ?_
          rintro v M34 ⟨r33, rfl, T⟩
          refine ⟨r33, rfl, ?_⟩
          refine zm_ifb_eq (tgt := 114) dX12_readLine_106 (by decide) (fun h35 => ?_) (fun h35 => ?_)
          · have T := T.1 h35
            refine zr_aload_n dX12_readLine_114 rfl 0 rfl ?_
            refine zr_bipush (v := 8) dX12_readLine_115 (by decide) ?_
            refine zm_callV_b (c := 12) (b := 229) dX12_readLine_117 w_X12_isWord l_X12_213 rfl (by decide) (by decide) s_X12_isWord [.int 8] rfl rfl (Nat.le_of_ble_eq_true rfl) (Nat.le_of_ble_eq_true rfl) ?_
            refine zV.post T ?_
            rintro v M37 ⟨r36, rfl, T⟩
            refine ⟨r36, rfl, ?_⟩
            refine zm_ifb_eq (tgt := 128) dX12_readLine_120 (by decide) (fun h38 => ?_) (fun h38 => ?_)
            · have T := T.1 h38
              refine zr_aload_n dX12_readLine_128 rfl 0 rfl ?_
              refine zr_bipush (v := 12) dX12_readLine_129 (by decide) ?_
              refine zm_callV_b (c := 12) (b := 229) dX12_readLine_131 w_X12_isWord l_X12_213 rfl (by decide) (by decide) s_X12_isWord [.int 12] rfl rfl (Nat.le_of_ble_eq_true rfl) (Nat.le_of_ble_eq_true rfl) ?_
              refine zV.post T ?_
              rintro v M40 ⟨r39, rfl, T⟩
              refine ⟨r39, rfl, ?_⟩
              refine zm_ifb_eq (tgt := 144) dX12_readLine_134 (by decide) (fun h41 => ?_) (fun h41 => ?_)
              · have T := T.1 h41
                refine zr_aload_n dX12_readLine_144 rfl 0 rfl ?_
                refine zr_iconst (v := 1) dX12_readLine_145 (by decide) ?_
                refine zm_callV_b (c := 12) (b := 229) dX12_readLine_146 w_X12_bad l_X12_72 rfl (by decide) (by decide) s_X12_bad [.int 1] rfl rfl (Nat.le_of_ble_eq_true rfl) (Nat.le_of_ble_eq_true rfl) ?_
                refine zV.post T ?_
                rintro v M43 ⟨r42, rfl, T⟩
                refine ⟨r42, rfl, ?_⟩
                exact zm_zret dX12_readLine_149 rfl (bi_01 _) T
              · have T := T.2 h41
                refine zr_aload_n dX12_readLine_137 rfl 0 rfl ?_
                refine zm_callV_b (c := 12) (b := 229) dX12_readLine_138 w_X12_readCut l_X12_248 rfl (by decide) (by decide) s_X12_readCut [] rfl rfl (Nat.le_of_ble_eq_true rfl) (Nat.le_of_ble_eq_true rfl) ?_
                refine zV.post T ?_
                rintro v M45 ⟨r44, rfl, T⟩
                refine ⟨r44, rfl, ?_⟩
                refine zr_goto (tgt := 149) dX12_readLine_141 (by decide) ?_
                exact zm_zret dX12_readLine_149 rfl (bi_01 _) T
            · have T := T.2 h38
              refine zr_aload_n dX12_readLine_123 rfl 0 rfl ?_
              refine zm_callV_b (c := 12) (b := 229) dX12_readLine_124 w_X12_readHas l_X12_245 rfl (by decide) (by decide) s_X12_readHas [] rfl rfl (Nat.le_of_ble_eq_true rfl) (Nat.le_of_ble_eq_true rfl) ?_
              refine zV.post T ?_
              rintro v M47 ⟨r46, rfl, T⟩
              refine ⟨r46, rfl, ?_⟩
              exact zm_zret dX12_readLine_127 rfl (bi_01 _) T
          · have T := T.2 h35
            refine zr_aload_n dX12_readLine_109 rfl 0 rfl ?_
            refine zm_callV_b (c := 12) (b := 229) dX12_readLine_110 w_X12_readPeer l_X12_242 rfl (by decide) (by decide) s_X12_readPeer [] rfl rfl (Nat.le_of_ble_eq_true rfl) (Nat.le_of_ble_eq_true rfl) ?_
            refine zV.post T ?_
            rintro v M49 ⟨r48, rfl, T⟩
            refine ⟨r48, rfl, ?_⟩
            exact zm_zret dX12_readLine_113 rfl (bi_01 _) T
        · have T := T.2 h32
          refine zr_aload_n dX12_readLine_95 rfl 0 rfl ?_
          refine zm_callV_b (c := 12) (b := 229) dX12_readLine_96 w_X12_readKey l_X12_239 rfl (by decide) (by decide) s_X12_readKey [] rfl rfl (Nat.le_of_ble_eq_true rfl) (Nat.le_of_ble_eq_true rfl) ?_
          refine zV.post T ?_
          rintro v M51 ⟨r50, rfl, T⟩
          refine ⟨r50, rfl, ?_⟩
          exact zm_zret dX12_readLine_99 rfl (bi_01 _) T
      · have T := T.2 h29
        refine zr_aload_n dX12_readLine_81 rfl 0 rfl ?_
        refine zm_callV_b (c := 12) (b := 229) dX12_readLine_82 w_X12_readRule l_X12_236 rfl (by decide) (by decide) s_X12_readRule [] rfl rfl (Nat.le_of_ble_eq_true rfl) (Nat.le_of_ble_eq_true rfl) ?_
        refine zV.post T ?_
        rintro v M53 ⟨r52, rfl, T⟩
        refine ⟨r52, rfl, ?_⟩
        exact zm_zret dX12_readLine_85 rfl (bi_01 _) T
    · have T := T.2 h26
      refine zr_aload_n dX12_readLine_44 rfl 0 rfl ?_
      refine zr_iconst (v := 1) dX12_readLine_45 (by decide) ?_
      refine zm_callV_b (c := 12) (b := 229) dX12_readLine_46 w_X12_isFresh l_X12_210 rfl (by decide) (by decide) s_X12_isFresh [.int 1] rfl rfl (Nat.le_of_ble_eq_true rfl) (Nat.le_of_ble_eq_true rfl) ?_
      refine zV.post T ?_
      rintro v M55 ⟨r54, rfl, T⟩
      refine ⟨r54, rfl, ?_⟩
      refine zm_ifb_eq (tgt := 71) dX12_readLine_49 (by decide) (fun h56 => ?_) (fun h56 => ?_)
      · have T := T.1 h56
        refine zr_iconst (v := 0) dX12_readLine_71 (by decide) ?_
        exact zm_zret dX12_readLine_72 rfl (by decide) T
      · have T := T.2 h56
        refine zr_aload_n dX12_readLine_52 rfl 0 rfl ?_
        refine zr_iconst (v := 3) dX12_readLine_53 (by decide) ?_
        refine zr_aload_n dX12_readLine_54 rfl 0 rfl ?_
        refine zr_iconst (v := 1) dX12_readLine_55 (by decide) ?_
        refine zr_bipush (v := 12) dX12_readLine_56 (by decide) ?_
        refine zm_callV_b (c := 12) (b := 229) dX12_readLine_58 w_X12_readNumber l_X12_226 rfl (by decide) (by decide) s_X12_readNumber [.int 1, .int 12] rfl rfl (Nat.le_of_ble_eq_true rfl) (Nat.le_of_ble_eq_true rfl) ?_
        refine zV.post T ?_
        rintro v M58 ⟨r57, rfl, T⟩
        refine ⟨r57, rfl, ?_⟩
        refine zm_callV_b (c := 12) (b := 229) dX12_readLine_61 w_X12_noted l_X12_229 rfl (by decide) (by decide) s_X12_noted [.int 3, .int (bi r57)] rfl rfl (Nat.le_of_ble_eq_true rfl) (Nat.le_of_ble_eq_true rfl) ?_
        refine zV.post T ?_
        rintro v M60 ⟨r59, rfl, T⟩
        refine ⟨r59, rfl, ?_⟩
        refine zm_ifb_eq (tgt := 71) dX12_readLine_64 (by decide) (fun h61 => ?_) (fun h61 => ?_)
        · have T := T.1 h61
          refine zr_iconst (v := 0) dX12_readLine_71 (by decide) ?_
          exact zm_zret dX12_readLine_72 rfl (by decide) T
        · have T := T.2 h61
          refine zr_iconst (v := 1) dX12_readLine_67 (by decide) ?_
          refine zr_goto (tgt := 72) dX12_readLine_68 (by decide) ?_
          exact zm_zret dX12_readLine_72 rfl (by decide) T
  · have T := T.2 h23
    refine zr_aload_n dX12_readLine_8 rfl 0 rfl ?_
    refine zr_iconst (v := 0) dX12_readLine_9 (by decide) ?_
    refine zm_callV_b (c := 12) (b := 229) dX12_readLine_10 w_X12_isFresh l_X12_210 rfl (by decide) (by decide) s_X12_isFresh [.int 0] rfl rfl (Nat.le_of_ble_eq_true rfl) (Nat.le_of_ble_eq_true rfl) ?_
    refine zV.post T ?_
    rintro v M63 ⟨r62, rfl, T⟩
    refine ⟨r62, rfl, ?_⟩
    refine zm_ifb_eq (tgt := 34) dX12_readLine_13 (by decide) (fun h64 => ?_) (fun h64 => ?_)
    · have T := T.1 h64
      refine zr_iconst (v := 0) dX12_readLine_34 (by decide) ?_
      exact zm_zret dX12_readLine_35 rfl (by decide) T
    · have T := T.2 h64
      refine zr_aload_n dX12_readLine_16 rfl 0 rfl ?_
      refine zr_iconst (v := 2) dX12_readLine_17 (by decide) ?_
      refine zr_aload_n dX12_readLine_18 rfl 0 rfl ?_
      refine zr_iconst (v := 1) dX12_readLine_19 (by decide) ?_
      refine zr_iconst (v := 4) dX12_readLine_20 (by decide) ?_
      refine zm_callV_b (c := 12) (b := 229) dX12_readLine_21 w_X12_readNumber l_X12_226 rfl (by decide) (by decide) s_X12_readNumber [.int 1, .int 4] rfl rfl (Nat.le_of_ble_eq_true rfl) (Nat.le_of_ble_eq_true rfl) ?_
      refine zV.post T ?_
      rintro v M66 ⟨r65, rfl, T⟩
      refine ⟨r65, rfl, ?_⟩
      refine zm_callV_b (c := 12) (b := 229) dX12_readLine_24 w_X12_noted l_X12_229 rfl (by decide) (by decide) s_X12_noted [.int 2, .int (bi r65)] rfl rfl (Nat.le_of_ble_eq_true rfl) (Nat.le_of_ble_eq_true rfl) ?_
      refine zV.post T ?_
      rintro v M68 ⟨r67, rfl, T⟩
      refine ⟨r67, rfl, ?_⟩
      refine zm_ifb_eq (tgt := 34) dX12_readLine_27 (by decide) (fun h69 => ?_) (fun h69 => ?_)
      · have T := T.1 h69
        refine zr_iconst (v := 0) dX12_readLine_34 (by decide) ?_
        exact zm_zret dX12_readLine_35 rfl (by decide) T
      · have T := T.2 h69
        refine zr_iconst (v := 1) dX12_readLine_30 (by decide) ?_
        refine zr_goto (tgt := 35) dX12_readLine_31 (by decide) ?_
        exact zm_zret dX12_readLine_35 rfl (by decide) T
set_option maxRecDepth 100000 in
set_option maxHeartbeats 4000000 in
theorem t_X12_isWord {d : Nat} {x1 : Int32} {M : zMem} {K : zK} 
    (T : (¬ (M.1 229 7) = 2 → K (some (.int 0)) M) ∧ ((M.1 229 7) = 2 → S_X12_wordOf d x1 M (zJ (fun r22 M23 => (¬ (lg_cmp (M.2 229 12) r22) = 0 → K (some (.int 0)) M23) ∧ ((lg_cmp (M.2 229 12) r22) = 0 → K (some (.int 1)) M23))))) : S_X12_isWord (d + 1) x1 M K := by
  show zV m_X12_isWord (d + 1) 0 [(0, .ref 229), (1, .int x1)] [] M K
  refine zr_aload_n dX12_isWord_0 rfl 0 rfl ?_
  refine zm_geti dX12_isWord_1 f_X12_30 (by decide) (by decide) (by decide) ?_
  refine zr_iconst (v := 2) dX12_isWord_4 (by decide) ?_
  refine zr_icmp_ne (tgt := 24) dX12_isWord_5 (by decide) (fun h21 => ?_) (fun h21 => ?_)
  · have T := T.1 h21
    refine zr_iconst (v := 0) dX12_isWord_24 (by decide) ?_
    exact zm_zret dX12_isWord_25 rfl (by decide) T
  · have T := T.2 h21
    refine zr_aload_n dX12_isWord_8 rfl 0 rfl ?_
    refine zm_getl dX12_isWord_9 f_X12_43 (by decide) (by decide) (by decide) ?_
    refine zr_iload_n dX12_isWord_12 rfl 1 rfl ?_
    refine zm_callS_j dX12_isWord_13 w_X12_wordOf l_X12_62 s_X12_wordOf [.int x1] rfl rfl (Nat.le_of_ble_eq_true rfl) (Nat.le_of_ble_eq_true rfl) ?_
    refine zV.post T ?_
    rintro v M23 ⟨r22, rfl, T⟩
    refine ⟨r22, rfl, ?_⟩
    refine zr_lcmp dX12_isWord_16 ?_
    refine zr_if_ne (tgt := 24) dX12_isWord_17 (by decide) (fun h24 => ?_) (fun h24 => ?_)
    · have T := T.1 h24
      refine zr_iconst (v := 0) dX12_isWord_24 (by decide) ?_
      exact zm_zret dX12_isWord_25 rfl (by decide) T
    · have T := T.2 h24
      refine zr_iconst (v := 1) dX12_isWord_20 (by decide) ?_
      refine zr_goto (tgt := 25) dX12_isWord_21 (by decide) ?_
      exact zm_zret dX12_isWord_25 rfl (by decide) T
set_option maxRecDepth 100000 in
set_option maxHeartbeats 4000000 in
theorem t_X12_wordOf {d : Nat} {x0 : Int32} {M : zMem} {K : zK} 
    (T : (x0 = 0 → S_X12_spelt d 98 105 116 115 0 0 M (zJ (fun r21 M22 => K (some (.long r21)) M22))) ∧ (x0 = 1 → S_X12_spelt d 112 97 103 101 0 0 M (zJ (fun r23 M24 => K (some (.long r23)) M24))) ∧ (x0 = 2 → S_X12_spelt d 114 117 108 101 0 0 M (zJ (fun r25 M26 => K (some (.long r25)) M26))) ∧ (x0 = 3 → S_X12_spelt d 108 97 116 101 0 0 M (zJ (fun r27 M28 => K (some (.long r27)) M28))) ∧ (x0 = 4 → S_X12_spelt d 109 111 115 116 0 0 M (zJ (fun r29 M30 => K (some (.long r29)) M30))) ∧ (x0 = 5 → S_X12_spelt d 108 101 97 115 116 0 M (zJ (fun r31 M32 => K (some (.long r31)) M32))) ∧ (x0 = 6 → S_X12_spelt d 107 101 121 0 0 0 M (zJ (fun r33 M34 => K (some (.long r33)) M34))) ∧ (x0 = 7 → S_X12_spelt d 112 101 101 114 0 0 M (zJ (fun r35 M36 => K (some (.long r35)) M36))) ∧ (x0 = 8 → S_X12_spelt d 104 97 115 0 0 0 M (zJ (fun r37 M38 => K (some (.long r37)) M38))) ∧ (x0 = 9 → S_X12_spelt d 112 117 116 0 0 0 M (zJ (fun r39 M40 => K (some (.long r39)) M40))) ∧ (x0 = 10 → S_X12_spelt d 100 114 111 112 0 0 M (zJ (fun r41 M42 => K (some (.long r41)) M42))) ∧ (x0 = 11 → S_X12_spelt d 112 117 108 108 0 0 M (zJ (fun r43 M44 => K (some (.long r43)) M44))) ∧ (x0 = 12 → S_X12_spelt d 99 117 116 0 0 0 M (zJ (fun r45 M46 => K (some (.long r45)) M46))) ∧ (x0 = 13 → S_X12_spelt d 104 101 97 108 0 0 M (zJ (fun r47 M48 => K (some (.long r47)) M48))) ∧ (x0 = 14 → S_X12_spelt d 111 114 0 0 0 0 M (zJ (fun r49 M50 => K (some (.long r49)) M50))) ∧ (x0 = 15 → S_X12_spelt d 97 110 100 0 0 0 M (zJ (fun r51 M52 => K (some (.long r51)) M52))) ∧ (x0 = 16 → S_X12_spelt d 110 111 116 0 0 0 M (zJ (fun r53 M54 => K (some (.long r53)) M54))) ∧ (x0 = 17 → S_X12_spelt d 116 111 114 110 0 0 M (zJ (fun r55 M56 => K (some (.long r55)) M56))) ∧ (x0 = 18 → S_X12_spelt d 104 101 108 100 0 0 M (zJ (fun r57 M58 => K (some (.long r57)) M58))) ∧ (x0 = 19 → S_X12_spelt d 103 111 110 101 0 0 M (zJ (fun r59 M60 => K (some (.long r59)) M60))) ∧ (x0 = 20 → S_X12_spelt d 108 101 118 101 108 0 M (zJ (fun r61 M62 => K (some (.long r61)) M62))) ∧ (x0 = 21 → S_X12_spelt d 99 111 112 105 101 115 M (zJ (fun r63 M64 => K (some (.long r63)) M64))) ∧ (x0 = 22 → S_X12_spelt d 115 116 97 109 112 0 M (zJ (fun r65 M66 => K (some (.long r65)) M66))) ∧ (¬ x0 = 0 → ¬ x0 = 1 → ¬ x0 = 2 → ¬ x0 = 3 → ¬ x0 = 4 → ¬ x0 = 5 → ¬ x0 = 6 → ¬ x0 = 7 → ¬ x0 = 8 → ¬ x0 = 9 → ¬ x0 = 10 → ¬ x0 = 11 → ¬ x0 = 12 → ¬ x0 = 13 → ¬ x0 = 14 → ¬ x0 = 15 → ¬ x0 = 16 → ¬ x0 = 17 → ¬ x0 = 18 → ¬ x0 = 19 → ¬ x0 = 20 → ¬ x0 = 21 → ¬ x0 = 22 → S_X12_spelt d 110 117 109 98 101 114 M (zJ (fun r67 M68 => K (some (.long r67)) M68)))) : S_X12_wordOf (d + 1) x0 M K := by
  show zV m_X12_wordOf (d + 1) 0 [(0, .int x0)] [] M K
  refine zr_iload_n dX12_wordOf_0 rfl 0 rfl ?_
  by_cases h69 : x0 = 0
  · have T := T.1 h69
    refine zr_tableIn (tgt := 108) dX12_wordOf_1 (by rw [h69]; decide) (by rw [h69]; decide) (by rw [h69]; rfl) (by decide) ?_
    refine zr_bipush (v := 98) dX12_wordOf_108 (by decide) ?_
    refine zr_bipush (v := 105) dX12_wordOf_110 (by decide) ?_
    refine zr_bipush (v := 116) dX12_wordOf_112 (by decide) ?_
    refine zr_bipush (v := 115) dX12_wordOf_114 (by decide) ?_
    refine zr_iconst (v := 0) dX12_wordOf_116 (by decide) ?_
    refine zr_iconst (v := 0) dX12_wordOf_117 (by decide) ?_
    refine zm_callS_j dX12_wordOf_118 w_X12_spelt l_X12_58 s_X12_spelt [.int 98, .int 105, .int 116, .int 115, .int 0, .int 0] rfl rfl (Nat.le_of_ble_eq_true rfl) (Nat.le_of_ble_eq_true rfl) ?_
    refine zV.post T ?_
    rintro v M22 ⟨r21, rfl, T⟩
    refine ⟨r21, rfl, ?_⟩
    exact zm_lret dX12_wordOf_121 rfl T
  by_cases h70 : x0 = 1
  · have T := T.2.1 h70
    refine zr_tableIn (tgt := 122) dX12_wordOf_1 (by rw [h70]; decide) (by rw [h70]; decide) (by rw [h70]; rfl) (by decide) ?_
    refine zr_bipush (v := 112) dX12_wordOf_122 (by decide) ?_
    refine zr_bipush (v := 97) dX12_wordOf_124 (by decide) ?_
    refine zr_bipush (v := 103) dX12_wordOf_126 (by decide) ?_
    refine zr_bipush (v := 101) dX12_wordOf_128 (by decide) ?_
    refine zr_iconst (v := 0) dX12_wordOf_130 (by decide) ?_
    refine zr_iconst (v := 0) dX12_wordOf_131 (by decide) ?_
    refine zm_callS_j dX12_wordOf_132 w_X12_spelt l_X12_58 s_X12_spelt [.int 112, .int 97, .int 103, .int 101, .int 0, .int 0] rfl rfl (Nat.le_of_ble_eq_true rfl) (Nat.le_of_ble_eq_true rfl) ?_
    refine zV.post T ?_
    rintro v M24 ⟨r23, rfl, T⟩
    refine ⟨r23, rfl, ?_⟩
    exact zm_lret dX12_wordOf_135 rfl T
  by_cases h71 : x0 = 2
  · have T := T.2.2.1 h71
    refine zr_tableIn (tgt := 136) dX12_wordOf_1 (by rw [h71]; decide) (by rw [h71]; decide) (by rw [h71]; rfl) (by decide) ?_
    refine zr_bipush (v := 114) dX12_wordOf_136 (by decide) ?_
    refine zr_bipush (v := 117) dX12_wordOf_138 (by decide) ?_
    refine zr_bipush (v := 108) dX12_wordOf_140 (by decide) ?_
    refine zr_bipush (v := 101) dX12_wordOf_142 (by decide) ?_
    refine zr_iconst (v := 0) dX12_wordOf_144 (by decide) ?_
    refine zr_iconst (v := 0) dX12_wordOf_145 (by decide) ?_
    refine zm_callS_j dX12_wordOf_146 w_X12_spelt l_X12_58 s_X12_spelt [.int 114, .int 117, .int 108, .int 101, .int 0, .int 0] rfl rfl (Nat.le_of_ble_eq_true rfl) (Nat.le_of_ble_eq_true rfl) ?_
    refine zV.post T ?_
    rintro v M26 ⟨r25, rfl, T⟩
    refine ⟨r25, rfl, ?_⟩
    exact zm_lret dX12_wordOf_149 rfl T
  by_cases h72 : x0 = 3
  · have T := T.2.2.2.1 h72
    refine zr_tableIn (tgt := 150) dX12_wordOf_1 (by rw [h72]; decide) (by rw [h72]; decide) (by rw [h72]; rfl) (by decide) ?_
    refine zr_bipush (v := 108) dX12_wordOf_150 (by decide) ?_
    refine zr_bipush (v := 97) dX12_wordOf_152 (by decide) ?_
    refine zr_bipush (v := 116) dX12_wordOf_154 (by decide) ?_
    refine zr_bipush (v := 101) dX12_wordOf_156 (by decide) ?_
    refine zr_iconst (v := 0) dX12_wordOf_158 (by decide) ?_
    refine zr_iconst (v := 0) dX12_wordOf_159 (by decide) ?_
    refine zm_callS_j dX12_wordOf_160 w_X12_spelt l_X12_58 s_X12_spelt [.int 108, .int 97, .int 116, .int 101, .int 0, .int 0] rfl rfl (Nat.le_of_ble_eq_true rfl) (Nat.le_of_ble_eq_true rfl) ?_
    refine zV.post T ?_
    rintro v M28 ⟨r27, rfl, T⟩
    refine ⟨r27, rfl, ?_⟩
    exact zm_lret dX12_wordOf_163 rfl T
  by_cases h73 : x0 = 4
  · have T := T.2.2.2.2.1 h73
    refine zr_tableIn (tgt := 164) dX12_wordOf_1 (by rw [h73]; decide) (by rw [h73]; decide) (by rw [h73]; rfl) (by decide) ?_
    refine zr_bipush (v := 109) dX12_wordOf_164 (by decide) ?_
    refine zr_bipush (v := 111) dX12_wordOf_166 (by decide) ?_
    refine zr_bipush (v := 115) dX12_wordOf_168 (by decide) ?_
    refine zr_bipush (v := 116) dX12_wordOf_170 (by decide) ?_
    refine zr_iconst (v := 0) dX12_wordOf_172 (by decide) ?_
    refine zr_iconst (v := 0) dX12_wordOf_173 (by decide) ?_
    refine zm_callS_j dX12_wordOf_174 w_X12_spelt l_X12_58 s_X12_spelt [.int 109, .int 111, .int 115, .int 116, .int 0, .int 0] rfl rfl (Nat.le_of_ble_eq_true rfl) (Nat.le_of_ble_eq_true rfl) ?_
    refine zV.post T ?_
    rintro v M30 ⟨r29, rfl, T⟩
    refine ⟨r29, rfl, ?_⟩
    exact zm_lret dX12_wordOf_177 rfl T
  by_cases h74 : x0 = 5
  · have T := T.2.2.2.2.2.1 h74
    refine zr_tableIn (tgt := 178) dX12_wordOf_1 (by rw [h74]; decide) (by rw [h74]; decide) (by rw [h74]; rfl) (by decide) ?_
    refine zr_bipush (v := 108) dX12_wordOf_178 (by decide) ?_
    refine zr_bipush (v := 101) dX12_wordOf_180 (by decide) ?_
    refine zr_bipush (v := 97) dX12_wordOf_182 (by decide) ?_
    refine zr_bipush (v := 115) dX12_wordOf_184 (by decide) ?_
    refine zr_bipush (v := 116) dX12_wordOf_186 (by decide) ?_
    refine zr_iconst (v := 0) dX12_wordOf_188 (by decide) ?_
    refine zm_callS_j dX12_wordOf_189 w_X12_spelt l_X12_58 s_X12_spelt [.int 108, .int 101, .int 97, .int 115, .int 116, .int 0] rfl rfl (Nat.le_of_ble_eq_true rfl) (Nat.le_of_ble_eq_true rfl) ?_
    refine zV.post T ?_
    rintro v M32 ⟨r31, rfl, T⟩
    refine ⟨r31, rfl, ?_⟩
    exact zm_lret dX12_wordOf_192 rfl T
  by_cases h75 : x0 = 6
  · have T := T.2.2.2.2.2.2.1 h75
    refine zr_tableIn (tgt := 193) dX12_wordOf_1 (by rw [h75]; decide) (by rw [h75]; decide) (by rw [h75]; rfl) (by decide) ?_
    refine zr_bipush (v := 107) dX12_wordOf_193 (by decide) ?_
    refine zr_bipush (v := 101) dX12_wordOf_195 (by decide) ?_
    refine zr_bipush (v := 121) dX12_wordOf_197 (by decide) ?_
    refine zr_iconst (v := 0) dX12_wordOf_199 (by decide) ?_
    refine zr_iconst (v := 0) dX12_wordOf_200 (by decide) ?_
    refine zr_iconst (v := 0) dX12_wordOf_201 (by decide) ?_
    refine zm_callS_j dX12_wordOf_202 w_X12_spelt l_X12_58 s_X12_spelt [.int 107, .int 101, .int 121, .int 0, .int 0, .int 0] rfl rfl (Nat.le_of_ble_eq_true rfl) (Nat.le_of_ble_eq_true rfl) ?_
    refine zV.post T ?_
    rintro v M34 ⟨r33, rfl, T⟩
    refine ⟨r33, rfl, ?_⟩
    exact zm_lret dX12_wordOf_205 rfl T
  by_cases h76 : x0 = 7
  · have T := T.2.2.2.2.2.2.2.1 h76
    refine zr_tableIn (tgt := 206) dX12_wordOf_1 (by rw [h76]; decide) (by rw [h76]; decide) (by rw [h76]; rfl) (by decide) ?_
    refine zr_bipush (v := 112) dX12_wordOf_206 (by decide) ?_
    refine zr_bipush (v := 101) dX12_wordOf_208 (by decide) ?_
    refine zr_bipush (v := 101) dX12_wordOf_210 (by decide) ?_
    refine zr_bipush (v := 114) dX12_wordOf_212 (by decide) ?_
    refine zr_iconst (v := 0) dX12_wordOf_214 (by decide) ?_
    refine zr_iconst (v := 0) dX12_wordOf_215 (by decide) ?_
    refine zm_callS_j dX12_wordOf_216 w_X12_spelt l_X12_58 s_X12_spelt [.int 112, .int 101, .int 101, .int 114, .int 0, .int 0] rfl rfl (Nat.le_of_ble_eq_true rfl) (Nat.le_of_ble_eq_true rfl) ?_
    refine zV.post T ?_
    rintro v M36 ⟨r35, rfl, T⟩
    refine ⟨r35, rfl, ?_⟩
    exact zm_lret dX12_wordOf_219 rfl T
  by_cases h77 : x0 = 8
  · have T := T.2.2.2.2.2.2.2.2.1 h77
    refine zr_tableIn (tgt := 220) dX12_wordOf_1 (by rw [h77]; decide) (by rw [h77]; decide) (by rw [h77]; rfl) (by decide) ?_
    refine zr_bipush (v := 104) dX12_wordOf_220 (by decide) ?_
    refine zr_bipush (v := 97) dX12_wordOf_222 (by decide) ?_
    refine zr_bipush (v := 115) dX12_wordOf_224 (by decide) ?_
    refine zr_iconst (v := 0) dX12_wordOf_226 (by decide) ?_
    refine zr_iconst (v := 0) dX12_wordOf_227 (by decide) ?_
    refine zr_iconst (v := 0) dX12_wordOf_228 (by decide) ?_
    refine zm_callS_j dX12_wordOf_229 w_X12_spelt l_X12_58 s_X12_spelt [.int 104, .int 97, .int 115, .int 0, .int 0, .int 0] rfl rfl (Nat.le_of_ble_eq_true rfl) (Nat.le_of_ble_eq_true rfl) ?_
    refine zV.post T ?_
    rintro v M38 ⟨r37, rfl, T⟩
    refine ⟨r37, rfl, ?_⟩
    exact zm_lret dX12_wordOf_232 rfl T
  by_cases h78 : x0 = 9
  · have T := T.2.2.2.2.2.2.2.2.2.1 h78
    refine zr_tableIn (tgt := 233) dX12_wordOf_1 (by rw [h78]; decide) (by rw [h78]; decide) (by rw [h78]; rfl) (by decide) ?_
    refine zr_bipush (v := 112) dX12_wordOf_233 (by decide) ?_
    refine zr_bipush (v := 117) dX12_wordOf_235 (by decide) ?_
    refine zr_bipush (v := 116) dX12_wordOf_237 (by decide) ?_
    refine zr_iconst (v := 0) dX12_wordOf_239 (by decide) ?_
    refine zr_iconst (v := 0) dX12_wordOf_240 (by decide) ?_
    refine zr_iconst (v := 0) dX12_wordOf_241 (by decide) ?_
    refine zm_callS_j dX12_wordOf_242 w_X12_spelt l_X12_58 s_X12_spelt [.int 112, .int 117, .int 116, .int 0, .int 0, .int 0] rfl rfl (Nat.le_of_ble_eq_true rfl) (Nat.le_of_ble_eq_true rfl) ?_
    refine zV.post T ?_
    rintro v M40 ⟨r39, rfl, T⟩
    refine ⟨r39, rfl, ?_⟩
    exact zm_lret dX12_wordOf_245 rfl T
  by_cases h79 : x0 = 10
  · have T := T.2.2.2.2.2.2.2.2.2.2.1 h79
    refine zr_tableIn (tgt := 246) dX12_wordOf_1 (by rw [h79]; decide) (by rw [h79]; decide) (by rw [h79]; rfl) (by decide) ?_
    refine zr_bipush (v := 100) dX12_wordOf_246 (by decide) ?_
    refine zr_bipush (v := 114) dX12_wordOf_248 (by decide) ?_
    refine zr_bipush (v := 111) dX12_wordOf_250 (by decide) ?_
    refine zr_bipush (v := 112) dX12_wordOf_252 (by decide) ?_
    refine zr_iconst (v := 0) dX12_wordOf_254 (by decide) ?_
    refine zr_iconst (v := 0) dX12_wordOf_255 (by decide) ?_
    refine zm_callS_j dX12_wordOf_256 w_X12_spelt l_X12_58 s_X12_spelt [.int 100, .int 114, .int 111, .int 112, .int 0, .int 0] rfl rfl (Nat.le_of_ble_eq_true rfl) (Nat.le_of_ble_eq_true rfl) ?_
    refine zV.post T ?_
    rintro v M42 ⟨r41, rfl, T⟩
    refine ⟨r41, rfl, ?_⟩
    exact zm_lret dX12_wordOf_259 rfl T
  by_cases h80 : x0 = 11
  · have T := T.2.2.2.2.2.2.2.2.2.2.2.1 h80
    refine zr_tableIn (tgt := 260) dX12_wordOf_1 (by rw [h80]; decide) (by rw [h80]; decide) (by rw [h80]; rfl) (by decide) ?_
    refine zr_bipush (v := 112) dX12_wordOf_260 (by decide) ?_
    refine zr_bipush (v := 117) dX12_wordOf_262 (by decide) ?_
    refine zr_bipush (v := 108) dX12_wordOf_264 (by decide) ?_
    refine zr_bipush (v := 108) dX12_wordOf_266 (by decide) ?_
    refine zr_iconst (v := 0) dX12_wordOf_268 (by decide) ?_
    refine zr_iconst (v := 0) dX12_wordOf_269 (by decide) ?_
    refine zm_callS_j dX12_wordOf_270 w_X12_spelt l_X12_58 s_X12_spelt [.int 112, .int 117, .int 108, .int 108, .int 0, .int 0] rfl rfl (Nat.le_of_ble_eq_true rfl) (Nat.le_of_ble_eq_true rfl) ?_
    refine zV.post T ?_
    rintro v M44 ⟨r43, rfl, T⟩
    refine ⟨r43, rfl, ?_⟩
    exact zm_lret dX12_wordOf_273 rfl T
  by_cases h81 : x0 = 12
  · have T := T.2.2.2.2.2.2.2.2.2.2.2.2.1 h81
    refine zr_tableIn (tgt := 274) dX12_wordOf_1 (by rw [h81]; decide) (by rw [h81]; decide) (by rw [h81]; rfl) (by decide) ?_
    refine zr_bipush (v := 99) dX12_wordOf_274 (by decide) ?_
    refine zr_bipush (v := 117) dX12_wordOf_276 (by decide) ?_
    refine zr_bipush (v := 116) dX12_wordOf_278 (by decide) ?_
    refine zr_iconst (v := 0) dX12_wordOf_280 (by decide) ?_
    refine zr_iconst (v := 0) dX12_wordOf_281 (by decide) ?_
    refine zr_iconst (v := 0) dX12_wordOf_282 (by decide) ?_
    refine zm_callS_j dX12_wordOf_283 w_X12_spelt l_X12_58 s_X12_spelt [.int 99, .int 117, .int 116, .int 0, .int 0, .int 0] rfl rfl (Nat.le_of_ble_eq_true rfl) (Nat.le_of_ble_eq_true rfl) ?_
    refine zV.post T ?_
    rintro v M46 ⟨r45, rfl, T⟩
    refine ⟨r45, rfl, ?_⟩
    exact zm_lret dX12_wordOf_286 rfl T
  by_cases h82 : x0 = 13
  · have T := T.2.2.2.2.2.2.2.2.2.2.2.2.2.1 h82
    refine zr_tableIn (tgt := 287) dX12_wordOf_1 (by rw [h82]; decide) (by rw [h82]; decide) (by rw [h82]; rfl) (by decide) ?_
    refine zr_bipush (v := 104) dX12_wordOf_287 (by decide) ?_
    refine zr_bipush (v := 101) dX12_wordOf_289 (by decide) ?_
    refine zr_bipush (v := 97) dX12_wordOf_291 (by decide) ?_
    refine zr_bipush (v := 108) dX12_wordOf_293 (by decide) ?_
    refine zr_iconst (v := 0) dX12_wordOf_295 (by decide) ?_
    refine zr_iconst (v := 0) dX12_wordOf_296 (by decide) ?_
    refine zm_callS_j dX12_wordOf_297 w_X12_spelt l_X12_58 s_X12_spelt [.int 104, .int 101, .int 97, .int 108, .int 0, .int 0] rfl rfl (Nat.le_of_ble_eq_true rfl) (Nat.le_of_ble_eq_true rfl) ?_
    refine zV.post T ?_
    rintro v M48 ⟨r47, rfl, T⟩
    refine ⟨r47, rfl, ?_⟩
    exact zm_lret dX12_wordOf_300 rfl T
  by_cases h83 : x0 = 14
  · have T := T.2.2.2.2.2.2.2.2.2.2.2.2.2.2.1 h83
    refine zr_tableIn (tgt := 301) dX12_wordOf_1 (by rw [h83]; decide) (by rw [h83]; decide) (by rw [h83]; rfl) (by decide) ?_
    refine zr_bipush (v := 111) dX12_wordOf_301 (by decide) ?_
    refine zr_bipush (v := 114) dX12_wordOf_303 (by decide) ?_
    refine zr_iconst (v := 0) dX12_wordOf_305 (by decide) ?_
    refine zr_iconst (v := 0) dX12_wordOf_306 (by decide) ?_
    refine zr_iconst (v := 0) dX12_wordOf_307 (by decide) ?_
    refine zr_iconst (v := 0) dX12_wordOf_308 (by decide) ?_
    refine zm_callS_j dX12_wordOf_309 w_X12_spelt l_X12_58 s_X12_spelt [.int 111, .int 114, .int 0, .int 0, .int 0, .int 0] rfl rfl (Nat.le_of_ble_eq_true rfl) (Nat.le_of_ble_eq_true rfl) ?_
    refine zV.post T ?_
    rintro v M50 ⟨r49, rfl, T⟩
    refine ⟨r49, rfl, ?_⟩
    exact zm_lret dX12_wordOf_312 rfl T
  by_cases h84 : x0 = 15
  · have T := T.2.2.2.2.2.2.2.2.2.2.2.2.2.2.2.1 h84
    refine zr_tableIn (tgt := 313) dX12_wordOf_1 (by rw [h84]; decide) (by rw [h84]; decide) (by rw [h84]; rfl) (by decide) ?_
    refine zr_bipush (v := 97) dX12_wordOf_313 (by decide) ?_
    refine zr_bipush (v := 110) dX12_wordOf_315 (by decide) ?_
    refine zr_bipush (v := 100) dX12_wordOf_317 (by decide) ?_
    refine zr_iconst (v := 0) dX12_wordOf_319 (by decide) ?_
    refine zr_iconst (v := 0) dX12_wordOf_320 (by decide) ?_
    refine zr_iconst (v := 0) dX12_wordOf_321 (by decide) ?_
    refine zm_callS_j dX12_wordOf_322 w_X12_spelt l_X12_58 s_X12_spelt [.int 97, .int 110, .int 100, .int 0, .int 0, .int 0] rfl rfl (Nat.le_of_ble_eq_true rfl) (Nat.le_of_ble_eq_true rfl) ?_
    refine zV.post T ?_
    rintro v M52 ⟨r51, rfl, T⟩
    refine ⟨r51, rfl, ?_⟩
    exact zm_lret dX12_wordOf_325 rfl T
  by_cases h85 : x0 = 16
  · have T := T.2.2.2.2.2.2.2.2.2.2.2.2.2.2.2.2.1 h85
    refine zr_tableIn (tgt := 326) dX12_wordOf_1 (by rw [h85]; decide) (by rw [h85]; decide) (by rw [h85]; rfl) (by decide) ?_
    refine zr_bipush (v := 110) dX12_wordOf_326 (by decide) ?_
    refine zr_bipush (v := 111) dX12_wordOf_328 (by decide) ?_
    refine zr_bipush (v := 116) dX12_wordOf_330 (by decide) ?_
    refine zr_iconst (v := 0) dX12_wordOf_332 (by decide) ?_
    refine zr_iconst (v := 0) dX12_wordOf_333 (by decide) ?_
    refine zr_iconst (v := 0) dX12_wordOf_334 (by decide) ?_
    refine zm_callS_j dX12_wordOf_335 w_X12_spelt l_X12_58 s_X12_spelt [.int 110, .int 111, .int 116, .int 0, .int 0, .int 0] rfl rfl (Nat.le_of_ble_eq_true rfl) (Nat.le_of_ble_eq_true rfl) ?_
    refine zV.post T ?_
    rintro v M54 ⟨r53, rfl, T⟩
    refine ⟨r53, rfl, ?_⟩
    exact zm_lret dX12_wordOf_338 rfl T
  by_cases h86 : x0 = 17
  · have T := T.2.2.2.2.2.2.2.2.2.2.2.2.2.2.2.2.2.1 h86
    refine zr_tableIn (tgt := 339) dX12_wordOf_1 (by rw [h86]; decide) (by rw [h86]; decide) (by rw [h86]; rfl) (by decide) ?_
    refine zr_bipush (v := 116) dX12_wordOf_339 (by decide) ?_
    refine zr_bipush (v := 111) dX12_wordOf_341 (by decide) ?_
    refine zr_bipush (v := 114) dX12_wordOf_343 (by decide) ?_
    refine zr_bipush (v := 110) dX12_wordOf_345 (by decide) ?_
    refine zr_iconst (v := 0) dX12_wordOf_347 (by decide) ?_
    refine zr_iconst (v := 0) dX12_wordOf_348 (by decide) ?_
    refine zm_callS_j dX12_wordOf_349 w_X12_spelt l_X12_58 s_X12_spelt [.int 116, .int 111, .int 114, .int 110, .int 0, .int 0] rfl rfl (Nat.le_of_ble_eq_true rfl) (Nat.le_of_ble_eq_true rfl) ?_
    refine zV.post T ?_
    rintro v M56 ⟨r55, rfl, T⟩
    refine ⟨r55, rfl, ?_⟩
    exact zm_lret dX12_wordOf_352 rfl T
  by_cases h87 : x0 = 18
  · have T := T.2.2.2.2.2.2.2.2.2.2.2.2.2.2.2.2.2.2.1 h87
    refine zr_tableIn (tgt := 353) dX12_wordOf_1 (by rw [h87]; decide) (by rw [h87]; decide) (by rw [h87]; rfl) (by decide) ?_
    refine zr_bipush (v := 104) dX12_wordOf_353 (by decide) ?_
    refine zr_bipush (v := 101) dX12_wordOf_355 (by decide) ?_
    refine zr_bipush (v := 108) dX12_wordOf_357 (by decide) ?_
    refine zr_bipush (v := 100) dX12_wordOf_359 (by decide) ?_
    refine zr_iconst (v := 0) dX12_wordOf_361 (by decide) ?_
    refine zr_iconst (v := 0) dX12_wordOf_362 (by decide) ?_
    refine zm_callS_j dX12_wordOf_363 w_X12_spelt l_X12_58 s_X12_spelt [.int 104, .int 101, .int 108, .int 100, .int 0, .int 0] rfl rfl (Nat.le_of_ble_eq_true rfl) (Nat.le_of_ble_eq_true rfl) ?_
    refine zV.post T ?_
    rintro v M58 ⟨r57, rfl, T⟩
    refine ⟨r57, rfl, ?_⟩
    exact zm_lret dX12_wordOf_366 rfl T
  by_cases h88 : x0 = 19
  · have T := T.2.2.2.2.2.2.2.2.2.2.2.2.2.2.2.2.2.2.2.1 h88
    refine zr_tableIn (tgt := 367) dX12_wordOf_1 (by rw [h88]; decide) (by rw [h88]; decide) (by rw [h88]; rfl) (by decide) ?_
    refine zr_bipush (v := 103) dX12_wordOf_367 (by decide) ?_
    refine zr_bipush (v := 111) dX12_wordOf_369 (by decide) ?_
    refine zr_bipush (v := 110) dX12_wordOf_371 (by decide) ?_
    refine zr_bipush (v := 101) dX12_wordOf_373 (by decide) ?_
    refine zr_iconst (v := 0) dX12_wordOf_375 (by decide) ?_
    refine zr_iconst (v := 0) dX12_wordOf_376 (by decide) ?_
    refine zm_callS_j dX12_wordOf_377 w_X12_spelt l_X12_58 s_X12_spelt [.int 103, .int 111, .int 110, .int 101, .int 0, .int 0] rfl rfl (Nat.le_of_ble_eq_true rfl) (Nat.le_of_ble_eq_true rfl) ?_
    refine zV.post T ?_
    rintro v M60 ⟨r59, rfl, T⟩
    refine ⟨r59, rfl, ?_⟩
    exact zm_lret dX12_wordOf_380 rfl T
  by_cases h89 : x0 = 20
  · have T := T.2.2.2.2.2.2.2.2.2.2.2.2.2.2.2.2.2.2.2.2.1 h89
    refine zr_tableIn (tgt := 381) dX12_wordOf_1 (by rw [h89]; decide) (by rw [h89]; decide) (by rw [h89]; rfl) (by decide) ?_
    refine zr_bipush (v := 108) dX12_wordOf_381 (by decide) ?_
    refine zr_bipush (v := 101) dX12_wordOf_383 (by decide) ?_
    refine zr_bipush (v := 118) dX12_wordOf_385 (by decide) ?_
    refine zr_bipush (v := 101) dX12_wordOf_387 (by decide) ?_
    refine zr_bipush (v := 108) dX12_wordOf_389 (by decide) ?_
    refine zr_iconst (v := 0) dX12_wordOf_391 (by decide) ?_
    refine zm_callS_j dX12_wordOf_392 w_X12_spelt l_X12_58 s_X12_spelt [.int 108, .int 101, .int 118, .int 101, .int 108, .int 0] rfl rfl (Nat.le_of_ble_eq_true rfl) (Nat.le_of_ble_eq_true rfl) ?_
    refine zV.post T ?_
    rintro v M62 ⟨r61, rfl, T⟩
    refine ⟨r61, rfl, ?_⟩
    exact zm_lret dX12_wordOf_395 rfl T
  by_cases h90 : x0 = 21
  · have T := T.2.2.2.2.2.2.2.2.2.2.2.2.2.2.2.2.2.2.2.2.2.1 h90
    refine zr_tableIn (tgt := 396) dX12_wordOf_1 (by rw [h90]; decide) (by rw [h90]; decide) (by rw [h90]; rfl) (by decide) ?_
    refine zr_bipush (v := 99) dX12_wordOf_396 (by decide) ?_
    refine zr_bipush (v := 111) dX12_wordOf_398 (by decide) ?_
    refine zr_bipush (v := 112) dX12_wordOf_400 (by decide) ?_
    refine zr_bipush (v := 105) dX12_wordOf_402 (by decide) ?_
    refine zr_bipush (v := 101) dX12_wordOf_404 (by decide) ?_
    refine zr_bipush (v := 115) dX12_wordOf_406 (by decide) ?_
    refine zm_callS_j dX12_wordOf_408 w_X12_spelt l_X12_58 s_X12_spelt [.int 99, .int 111, .int 112, .int 105, .int 101, .int 115] rfl rfl (Nat.le_of_ble_eq_true rfl) (Nat.le_of_ble_eq_true rfl) ?_
    refine zV.post T ?_
    rintro v M64 ⟨r63, rfl, T⟩
    refine ⟨r63, rfl, ?_⟩
    exact zm_lret dX12_wordOf_411 rfl T
  by_cases h91 : x0 = 22
  · have T := T.2.2.2.2.2.2.2.2.2.2.2.2.2.2.2.2.2.2.2.2.2.2.1 h91
    refine zr_tableIn (tgt := 412) dX12_wordOf_1 (by rw [h91]; decide) (by rw [h91]; decide) (by rw [h91]; rfl) (by decide) ?_
    refine zr_bipush (v := 115) dX12_wordOf_412 (by decide) ?_
    refine zr_bipush (v := 116) dX12_wordOf_414 (by decide) ?_
    refine zr_bipush (v := 97) dX12_wordOf_416 (by decide) ?_
    refine zr_bipush (v := 109) dX12_wordOf_418 (by decide) ?_
    refine zr_bipush (v := 112) dX12_wordOf_420 (by decide) ?_
    refine zr_iconst (v := 0) dX12_wordOf_422 (by decide) ?_
    refine zm_callS_j dX12_wordOf_423 w_X12_spelt l_X12_58 s_X12_spelt [.int 115, .int 116, .int 97, .int 109, .int 112, .int 0] rfl rfl (Nat.le_of_ble_eq_true rfl) (Nat.le_of_ble_eq_true rfl) ?_
    refine zV.post T ?_
    rintro v M66 ⟨r65, rfl, T⟩
    refine ⟨r65, rfl, ?_⟩
    exact zm_lret dX12_wordOf_426 rfl T
  · have T := T.2.2.2.2.2.2.2.2.2.2.2.2.2.2.2.2.2.2.2.2.2.2.2 h69 h70 h71 h72 h73 h74 h75 h76 h77 h78 h79 h80 h81 h82 h83 h84 h85 h86 h87 h88 h89 h90 h91
    refine zr_tableOut (tgt := 427) dX12_wordOf_1 (z_out_0_22 h69 h70 h71 h72 h73 h74 h75 h76 h77 h78 h79 h80 h81 h82 h83 h84 h85 h86 h87 h88 h89 h90 h91) (by decide) ?_
    refine zr_bipush (v := 110) dX12_wordOf_427 (by decide) ?_
    refine zr_bipush (v := 117) dX12_wordOf_429 (by decide) ?_
    refine zr_bipush (v := 109) dX12_wordOf_431 (by decide) ?_
    refine zr_bipush (v := 98) dX12_wordOf_433 (by decide) ?_
    refine zr_bipush (v := 101) dX12_wordOf_435 (by decide) ?_
    refine zr_bipush (v := 114) dX12_wordOf_437 (by decide) ?_
    refine zm_callS_j dX12_wordOf_439 w_X12_spelt l_X12_58 s_X12_spelt [.int 110, .int 117, .int 109, .int 98, .int 101, .int 114] rfl rfl (Nat.le_of_ble_eq_true rfl) (Nat.le_of_ble_eq_true rfl) ?_
    refine zV.post T ?_
    rintro v M68 ⟨r67, rfl, T⟩
    refine ⟨r67, rfl, ?_⟩
    exact zm_lret dX12_wordOf_442 rfl T
set_option maxRecDepth 100000 in
set_option maxHeartbeats 4000000 in
theorem t_X12_spelt {d : Nat} {x0 : Int32} {x1 : Int32} {x2 : Int32} {x3 : Int32} {x4 : Int32} {x5 : Int32} {M : zMem} {K : zK} 
    (T : (x2 ≤ 0 → S_X12_spelt_38 d x3 x4 x5 (((27 * ((Int32.toInt64 x0) - 96)) + (Int32.toInt64 x1)) - 96) M K) ∧ (¬ (x2 ≤ 0) → S_X12_spelt_38 d x3 x4 x5 (((27 * (((27 * ((Int32.toInt64 x0) - 96)) + (Int32.toInt64 x1)) - 96)) + (Int32.toInt64 x2)) - 96) M K)) : S_X12_spelt d x0 x1 x2 x3 x4 x5 M K := by
  show zV m_X12_spelt d 0 [(0, .int x0), (1, .int x1), (2, .int x2), (3, .int x3), (4, .int x4), (5, .int x5)] [] M K
  refine zr_ldc2 (v := 27) dX12_spelt_0 k_X12_54 ?_
  refine zr_iload_n dX12_spelt_3 rfl 0 rfl ?_
  refine zr_i2l dX12_spelt_4 ?_
  refine zr_ldc2 (v := 96) dX12_spelt_5 k_X12_56 ?_
  refine zr_lsub dX12_spelt_8 ?_
  refine zr_lmul dX12_spelt_9 ?_
  refine zr_iload_n dX12_spelt_10 rfl 1 rfl ?_
  refine zr_i2l dX12_spelt_11 ?_
  refine zr_ladd dX12_spelt_12 ?_
  refine zr_ldc2 (v := 96) dX12_spelt_13 k_X12_56 ?_
  refine zr_lsub dX12_spelt_16 ?_
  refine zr_lstore dX12_spelt_17 (by decide) (L2 := [(6, .long (((27 * ((Int32.toInt64 x0) - 96)) + (Int32.toInt64 x1)) - 96)), (0, .int x0), (1, .int x1), (2, .int x2), (3, .int x3), (4, .int x4), (5, .int x5)]) rfl ?_
  refine zr_iload_n dX12_spelt_19 rfl 3 rfl ?_
  refine zr_if_le (tgt := 38) dX12_spelt_20 (by decide) (fun h21 => ?_) (fun h21 => ?_)
  · have T := T.1 h21
    exact zV.pick [4, 5, 6, 0] rfl T
  · have T := T.2 h21
    refine zr_ldc2 (v := 27) dX12_spelt_23 k_X12_54 ?_
    refine zr_lload dX12_spelt_26 0 rfl ?_
    refine zr_lmul dX12_spelt_28 ?_
    refine zr_iload_n dX12_spelt_29 rfl 3 rfl ?_
    refine zr_i2l dX12_spelt_30 ?_
    refine zr_ladd dX12_spelt_31 ?_
    refine zr_ldc2 (v := 96) dX12_spelt_32 k_X12_56 ?_
    refine zr_lsub dX12_spelt_35 ?_
    refine zr_lstore dX12_spelt_36 (by decide) (L2 := [(6, .long (((27 * (((27 * ((Int32.toInt64 x0) - 96)) + (Int32.toInt64 x1)) - 96)) + (Int32.toInt64 x2)) - 96)), (0, .int x0), (1, .int x1), (2, .int x2), (3, .int x3), (4, .int x4), (5, .int x5)]) rfl ?_
    exact zV.pick [4, 5, 6, 0] rfl T
set_option maxRecDepth 100000 in
set_option maxHeartbeats 4000000 in
theorem t_X12_spelt_38 {d : Nat} {x3 : Int32} {x4 : Int32} {x5 : Int32} {w6 : Int64} {M : zMem} {K : zK} 
    (T : (x3 ≤ 0 → S_X12_spelt_57 d x4 x5 w6 M K) ∧ (¬ (x3 ≤ 0) → S_X12_spelt_57 d x4 x5 (((27 * w6) + (Int32.toInt64 x3)) - 96) M K)) : S_X12_spelt_38 d x3 x4 x5 w6 M K := by
  show zV m_X12_spelt d 38 [(3, .int x3), (4, .int x4), (5, .int x5), (6, .long w6)] [] M K
  refine zr_iload_n dX12_spelt_38 rfl 0 rfl ?_
  refine zr_if_le (tgt := 57) dX12_spelt_39 (by decide) (fun h21 => ?_) (fun h21 => ?_)
  · have T := T.1 h21
    exact zV.pick [1, 2, 3] rfl T
  · have T := T.2 h21
    refine zr_ldc2 (v := 27) dX12_spelt_42 k_X12_54 ?_
    refine zr_lload dX12_spelt_45 3 rfl ?_
    refine zr_lmul dX12_spelt_47 ?_
    refine zr_iload_n dX12_spelt_48 rfl 0 rfl ?_
    refine zr_i2l dX12_spelt_49 ?_
    refine zr_ladd dX12_spelt_50 ?_
    refine zr_ldc2 (v := 96) dX12_spelt_51 k_X12_56 ?_
    refine zr_lsub dX12_spelt_54 ?_
    refine zr_lstore dX12_spelt_55 (by decide) (L2 := [(6, .long (((27 * w6) + (Int32.toInt64 x3)) - 96)), (3, .int x3), (4, .int x4), (5, .int x5)]) rfl ?_
    exact zV.pick [2, 3, 0] rfl T
set_option maxRecDepth 100000 in
set_option maxHeartbeats 4000000 in
theorem t_X12_spelt_57 {d : Nat} {x4 : Int32} {x5 : Int32} {w6 : Int64} {M : zMem} {K : zK} 
    (T : (x4 ≤ 0 → S_X12_spelt_78 d x5 w6 M K) ∧ (¬ (x4 ≤ 0) → S_X12_spelt_78 d x5 (((27 * w6) + (Int32.toInt64 x4)) - 96) M K)) : S_X12_spelt_57 d x4 x5 w6 M K := by
  show zV m_X12_spelt d 57 [(4, .int x4), (5, .int x5), (6, .long w6)] [] M K
  refine zr_iload dX12_spelt_57 0 rfl ?_
  refine zr_if_le (tgt := 78) dX12_spelt_59 (by decide) (fun h21 => ?_) (fun h21 => ?_)
  · have T := T.1 h21
    exact zV.pick [1, 2] rfl T
  · have T := T.2 h21
    refine zr_ldc2 (v := 27) dX12_spelt_62 k_X12_54 ?_
    refine zr_lload dX12_spelt_65 2 rfl ?_
    refine zr_lmul dX12_spelt_67 ?_
    refine zr_iload dX12_spelt_68 0 rfl ?_
    refine zr_i2l dX12_spelt_70 ?_
    refine zr_ladd dX12_spelt_71 ?_
    refine zr_ldc2 (v := 96) dX12_spelt_72 k_X12_56 ?_
    refine zr_lsub dX12_spelt_75 ?_
    refine zr_lstore dX12_spelt_76 (by decide) (L2 := [(6, .long (((27 * w6) + (Int32.toInt64 x4)) - 96)), (4, .int x4), (5, .int x5)]) rfl ?_
    exact zV.pick [2, 0] rfl T
set_option maxRecDepth 100000 in
set_option maxHeartbeats 4000000 in
theorem t_X12_spelt_78 {d : Nat} {x5 : Int32} {w6 : Int64} {M : zMem} {K : zK} 
    (T : (x5 ≤ 0 → K (some (.long w6)) M) ∧ (¬ (x5 ≤ 0) → K (some (.long (((27 * w6) + (Int32.toInt64 x5)) - 96))) M)) : S_X12_spelt_78 d x5 w6 M K := by
  show zV m_X12_spelt d 78 [(5, .int x5), (6, .long w6)] [] M K
  refine zr_iload dX12_spelt_78 0 rfl ?_
  refine zr_if_le (tgt := 99) dX12_spelt_80 (by decide) (fun h21 => ?_) (fun h21 => ?_)
  · have T := T.1 h21
    refine zr_lload dX12_spelt_99 1 rfl ?_
    exact zm_lret dX12_spelt_101 rfl T
  · have T := T.2 h21
    refine zr_ldc2 (v := 27) dX12_spelt_83 k_X12_54 ?_
    refine zr_lload dX12_spelt_86 1 rfl ?_
    refine zr_lmul dX12_spelt_88 ?_
    refine zr_iload dX12_spelt_89 0 rfl ?_
    refine zr_i2l dX12_spelt_91 ?_
    refine zr_ladd dX12_spelt_92 ?_
    refine zr_ldc2 (v := 96) dX12_spelt_93 k_X12_56 ?_
    refine zr_lsub dX12_spelt_96 ?_
    refine zr_lstore dX12_spelt_97 (by decide) (L2 := [(6, .long (((27 * w6) + (Int32.toInt64 x5)) - 96)), (5, .int x5)]) rfl ?_
    refine zr_lload dX12_spelt_99 0 rfl ?_
    exact zm_lret dX12_spelt_101 rfl T
set_option maxRecDepth 100000 in
set_option maxHeartbeats 4000000 in
theorem t_X12_isFresh {d : Nat} {x1 : Int32} {M : zMem} {K : zK} 
    (T : vp_in x1 3 ∧ ((¬ (M.1 241 (Int32.toNatClampNeg x1)) = 0 → S_X12_bad d 3 M (zB (fun r23 M24 => K (some (.int (bi r23))) M24))) ∧ ((M.1 241 (Int32.toNatClampNeg x1)) = 0 → ((M.1 232 0) ≤ 0 → vp_in x1 3 ∧ ((∀ M27 : zMem, M27 = wI M 241 (Int32.toNatClampNeg x1) 1 → S_X12_go d  M27 (zU (fun M30 => K (some (.int 1)) M30))))) ∧ (¬ ((M.1 232 0) ≤ 0) → S_X12_bad d 3 M (zB (fun r31 M32 => K (some (.int (bi r31))) M32)))))) : S_X12_isFresh (d + 1) x1 M K := by
  show zV m_X12_isFresh (d + 1) 0 [(0, .ref 229), (1, .int x1)] [] M K
  refine zr_aload_n dX12_isFresh_0 rfl 0 rfl ?_
  refine zm_getr (a := 241) dX12_isFresh_1 f_X12_130 (by decide) (by decide) (by decide) (by decide) ?_
  refine zr_iload_n dX12_isFresh_4 rfl 1 rfl ?_
  obtain ⟨hq21, T⟩ := T
  refine zm_zald (n := 3) (o := (Int32.toNatClampNeg x1)) dX12_isFresh_5 (by decide) (by decide) hq21 rfl ?_
  refine zr_if_ne (tgt := 18) dX12_isFresh_6 (by decide) (fun h22 => ?_) (fun h22 => ?_)
  · have T := T.1 h22
    refine zr_aload_n dX12_isFresh_18 rfl 0 rfl ?_
    refine zr_iconst (v := 3) dX12_isFresh_19 (by decide) ?_
    refine zm_callV_b (c := 12) (b := 229) dX12_isFresh_20 w_X12_bad l_X12_72 rfl (by decide) (by decide) s_X12_bad [.int 3] rfl rfl (Nat.le_of_ble_eq_true rfl) (Nat.le_of_ble_eq_true rfl) ?_
    refine zV.post T ?_
    rintro v M24 ⟨r23, rfl, T⟩
    refine ⟨r23, rfl, ?_⟩
    exact zm_zret dX12_isFresh_23 rfl (bi_01 _) T
  · have T := T.2 h22
    refine zr_aload_n dX12_isFresh_9 rfl 0 rfl ?_
    refine zm_getr (a := 232) dX12_isFresh_10 f_X12_101 (by decide) (by decide) (by decide) (by decide) ?_
    refine zr_iconst (v := 0) dX12_isFresh_13 (by decide) ?_
    refine zm_iald (n := 202) (o := 0) dX12_isFresh_14 (by decide) (by decide) (zin (by decide)) (by decide) ?_
    refine zr_if_le (tgt := 24) dX12_isFresh_15 (by decide) (fun h25 => ?_) (fun h25 => ?_)
    · have T := T.1 h25
      refine zr_aload_n dX12_isFresh_24 rfl 0 rfl ?_
      refine zm_getr (a := 241) dX12_isFresh_25 f_X12_130 (by decide) (by decide) (by decide) (by decide) ?_
      refine zr_iload_n dX12_isFresh_28 rfl 1 rfl ?_
      refine zr_iconst (v := 1) dX12_isFresh_29 (by decide) ?_
      obtain ⟨hq26, T⟩ := T
      refine zn_zast (n := 3) (o := (Int32.toNatClampNeg x1)) dX12_isFresh_30 (by decide) (by decide) hq26 rfl (by decide) (fun M27 e28 => ?_)
      have T := T M27 e28
      refine zr_aload_n dX12_isFresh_31 rfl 0 rfl ?_
      refine zm_callV_v (c := 12) (b := 229) dX12_isFresh_32 w_X12_go l_X12_82 rfl (by decide) (by decide) s_X12_go [] rfl rfl (Nat.le_of_ble_eq_true rfl) (Nat.le_of_ble_eq_true rfl) ?_
      refine zV.post T ?_
      rintro v M30 ⟨rfl, T⟩
      refine ⟨rfl, ?_⟩
      refine zr_iconst (v := 1) dX12_isFresh_35 (by decide) ?_
      exact zm_zret dX12_isFresh_36 rfl (by decide) T
    · have T := T.2 h25
      refine zr_aload_n dX12_isFresh_18 rfl 0 rfl ?_
      refine zr_iconst (v := 3) dX12_isFresh_19 (by decide) ?_
      refine zm_callV_b (c := 12) (b := 229) dX12_isFresh_20 w_X12_bad l_X12_72 rfl (by decide) (by decide) s_X12_bad [.int 3] rfl rfl (Nat.le_of_ble_eq_true rfl) (Nat.le_of_ble_eq_true rfl) ?_
      refine zV.post T ?_
      rintro v M32 ⟨r31, rfl, T⟩
      refine ⟨r31, rfl, ?_⟩
      exact zm_zret dX12_isFresh_23 rfl (bi_01 _) T
set_option maxRecDepth 100000 in
set_option maxHeartbeats 4000000 in
theorem t_X12_bad {d : Nat} {x1 : Int32} {M : zMem} {K : zK} 
    (T : (¬ (M.1 229 7) = 1 → (∀ M22 : zMem, M22 = wI M 229 10 x1 → (∀ M24 : zMem, M24 = wI M22 229 11 (M22.1 229 6) → K (some (.int 0)) M24))) ∧ ((M.1 229 7) = 1 → (∀ M26 : zMem, M26 = wI M 229 10 1 → (∀ M28 : zMem, M28 = wI M26 229 11 (M26.1 229 6) → K (some (.int 0)) M28)))) : S_X12_bad d x1 M K := by
  show zV m_X12_bad d 0 [(0, .ref 229), (1, .int x1)] [] M K
  refine zr_aload_n dX12_bad_0 rfl 0 rfl ?_
  refine zr_aload_n dX12_bad_1 rfl 0 rfl ?_
  refine zm_geti dX12_bad_2 f_X12_30 (by decide) (by decide) (by decide) ?_
  refine zr_iconst (v := 1) dX12_bad_5 (by decide) ?_
  refine zr_icmp_ne (tgt := 13) dX12_bad_6 (by decide) (fun h21 => ?_) (fun h21 => ?_)
  · have T := T.1 h21
    refine zr_iload_n dX12_bad_13 rfl 1 rfl ?_
    refine zn_puti dX12_bad_14 f_X12_66 (by decide) (by decide) (by decide) (fun M22 e23 => ?_)
    have T := T M22 e23
    refine zr_aload_n dX12_bad_17 rfl 0 rfl ?_
    refine zr_aload_n dX12_bad_18 rfl 0 rfl ?_
    refine zm_geti dX12_bad_19 f_X12_24 (by decide) (by decide) (by decide) ?_
    refine zn_puti dX12_bad_22 f_X12_69 (by decide) (by decide) (by decide) (fun M24 e25 => ?_)
    have T := T M24 e25
    refine zr_iconst (v := 0) dX12_bad_25 (by decide) ?_
    exact zm_zret dX12_bad_26 rfl (by decide) T
  · have T := T.2 h21
    refine zr_iconst (v := 1) dX12_bad_9 (by decide) ?_
    refine zr_goto (tgt := 14) dX12_bad_10 (by decide) ?_
    refine zn_puti dX12_bad_14 f_X12_66 (by decide) (by decide) (by decide) (fun M26 e27 => ?_)
    have T := T M26 e27
    refine zr_aload_n dX12_bad_17 rfl 0 rfl ?_
    refine zr_aload_n dX12_bad_18 rfl 0 rfl ?_
    refine zm_geti dX12_bad_19 f_X12_24 (by decide) (by decide) (by decide) ?_
    refine zn_puti dX12_bad_22 f_X12_69 (by decide) (by decide) (by decide) (fun M28 e29 => ?_)
    have T := T M28 e29
    refine zr_iconst (v := 0) dX12_bad_25 (by decide) ?_
    exact zm_zret dX12_bad_26 rfl (by decide) T
set_option maxRecDepth 100000 in
set_option maxHeartbeats 4000000 in
theorem t_X12_readNumber {d : Nat} {x1 : Int32} {x2 : Int32} {M : zMem} {K : zK} 
    (T : ((M.1 229 7) = 3 → S_X12_isIn d (M.1 229 8) x1 x2 M (zB (fun r22 M23 => (r22 = true → (∀ M25 : zMem, M25 = wI M23 229 13 (M23.1 229 8) → S_X12_go d  M25 (zU (fun M28 => K (some (.int 1)) M28)))) ∧ (r22 = false → S_X12_bad d 2 M23 (zB (fun r29 M30 => K (some (.int (bi r29))) M30)))))) ∧ (¬ ((M.1 229 7) = 3) → S_X12_bad d 1 M (zB (fun r31 M32 => K (some (.int (bi r31))) M32)))) : S_X12_readNumber (d + 1) x1 x2 M K := by
  show zV m_X12_readNumber (d + 1) 0 [(0, .ref 229), (1, .int x1), (2, .int x2)] [] M K
  refine zr_aload_n dX12_readNumber_0 rfl 0 rfl ?_
  refine zm_geti dX12_readNumber_1 f_X12_30 (by decide) (by decide) (by decide) ?_
  refine zr_iconst (v := 3) dX12_readNumber_4 (by decide) ?_
  refine zr_icmp_eq (tgt := 14) dX12_readNumber_5 (by decide) (fun h21 => ?_) (fun h21 => ?_)
  · have T := T.1 h21
    refine zr_aload_n dX12_readNumber_14 rfl 0 rfl ?_
    refine zm_geti dX12_readNumber_15 f_X12_47 (by decide) (by decide) (by decide) ?_
    refine zr_iload_n dX12_readNumber_18 rfl 1 rfl ?_
    refine zr_iload_n dX12_readNumber_19 rfl 2 rfl ?_
    refine zm_callS_b dX12_readNumber_20 w_X12_isIn l_X12_75 s_X12_isIn [.int (M.1 229 8), .int x1, .int x2] rfl rfl (Nat.le_of_ble_eq_true rfl) (Nat.le_of_ble_eq_true rfl) ?_
    refine zV.post T ?_
    rintro v M23 ⟨r22, rfl, T⟩
    refine ⟨r22, rfl, ?_⟩
    refine zm_ifb_ne (tgt := 32) dX12_readNumber_23 (by decide) (fun h24 => ?_) (fun h24 => ?_)
    · have T := T.1 h24
      refine zr_aload_n dX12_readNumber_32 rfl 0 rfl ?_
      refine zr_aload_n dX12_readNumber_33 rfl 0 rfl ?_
      refine zm_geti dX12_readNumber_34 f_X12_47 (by decide) (by decide) (by decide) ?_
      refine zn_puti dX12_readNumber_37 f_X12_79 (by decide) (by decide) (by decide) (fun M25 e26 => ?_)
      have T := T M25 e26
      refine zr_aload_n dX12_readNumber_40 rfl 0 rfl ?_
      refine zm_callV_v (c := 12) (b := 229) dX12_readNumber_41 w_X12_go l_X12_82 rfl (by decide) (by decide) s_X12_go [] rfl rfl (Nat.le_of_ble_eq_true rfl) (Nat.le_of_ble_eq_true rfl) ?_
      refine zV.post T ?_
      rintro v M28 ⟨rfl, T⟩
      refine ⟨rfl, ?_⟩
      refine zr_iconst (v := 1) dX12_readNumber_44 (by decide) ?_
      exact zm_zret dX12_readNumber_45 rfl (by decide) T
    · have T := T.2 h24
      refine zr_aload_n dX12_readNumber_26 rfl 0 rfl ?_
      refine zr_iconst (v := 2) dX12_readNumber_27 (by decide) ?_
      refine zm_callV_b (c := 12) (b := 229) dX12_readNumber_28 w_X12_bad l_X12_72 rfl (by decide) (by decide) s_X12_bad [.int 2] rfl rfl (Nat.le_of_ble_eq_true rfl) (Nat.le_of_ble_eq_true rfl) ?_
      refine zV.post T ?_
      rintro v M30 ⟨r29, rfl, T⟩
      refine ⟨r29, rfl, ?_⟩
      exact zm_zret dX12_readNumber_31 rfl (bi_01 _) T
  · have T := T.2 h21
    refine zr_aload_n dX12_readNumber_8 rfl 0 rfl ?_
    refine zr_iconst (v := 1) dX12_readNumber_9 (by decide) ?_
    refine zm_callV_b (c := 12) (b := 229) dX12_readNumber_10 w_X12_bad l_X12_72 rfl (by decide) (by decide) s_X12_bad [.int 1] rfl rfl (Nat.le_of_ble_eq_true rfl) (Nat.le_of_ble_eq_true rfl) ?_
    refine zV.post T ?_
    rintro v M32 ⟨r31, rfl, T⟩
    refine ⟨r31, rfl, ?_⟩
    exact zm_zret dX12_readNumber_13 rfl (bi_01 _) T
set_option maxRecDepth 100000 in
set_option maxHeartbeats 4000000 in
theorem t_X12_isIn {d : Nat} {x0 : Int32} {x1 : Int32} {x2 : Int32} {M : zMem} {K : zK} 
    (T : (x0 < x1 → K (some (.int 0)) M) ∧ (¬ (x0 < x1) → (x2 < x0 → K (some (.int 0)) M) ∧ (¬ (x2 < x0) → K (some (.int 1)) M))) : S_X12_isIn d x0 x1 x2 M K := by
  show zV m_X12_isIn d 0 [(0, .int x0), (1, .int x1), (2, .int x2)] [] M K
  refine zr_iload_n dX12_isIn_0 rfl 0 rfl ?_
  refine zr_iload_n dX12_isIn_1 rfl 1 rfl ?_
  refine zr_icmp_lt (tgt := 14) dX12_isIn_2 (by decide) (fun h21 => ?_) (fun h21 => ?_)
  · have T := T.1 h21
    refine zr_iconst (v := 0) dX12_isIn_14 (by decide) ?_
    exact zm_zret dX12_isIn_15 rfl (by decide) T
  · have T := T.2 h21
    refine zr_iload_n dX12_isIn_5 rfl 0 rfl ?_
    refine zr_iload_n dX12_isIn_6 rfl 2 rfl ?_
    refine zr_icmp_gt (tgt := 14) dX12_isIn_7 (by decide) (fun h22 => ?_) (fun h22 => ?_)
    · have T := T.1 h22
      refine zr_iconst (v := 0) dX12_isIn_14 (by decide) ?_
      exact zm_zret dX12_isIn_15 rfl (by decide) T
    · have T := T.2 h22
      refine zr_iconst (v := 1) dX12_isIn_10 (by decide) ?_
      refine zr_goto (tgt := 15) dX12_isIn_11 (by decide) ?_
      exact zm_zret dX12_isIn_15 rfl (by decide) T
set_option maxRecDepth 100000 in
set_option maxHeartbeats 4000000 in
theorem t_X12_noted {d : Nat} {x1 : Int32} {x2 : Int32} {M : zMem} {K : zK} 
    (T : (x2 = 0 → (x2 = 0 ∨ x2 = 1) ∧ K (some (.int x2)) M) ∧ (¬ (x2 = 0) → vp_in x1 202 ∧ ((∀ M23 : zMem, M23 = wI M 232 (Int32.toNatClampNeg x1) (M.1 229 13) → (x2 = 0 ∨ x2 = 1) ∧ K (some (.int x2)) M23)))) : S_X12_noted d x1 x2 M K := by
  show zV m_X12_noted d 0 [(0, .ref 229), (1, .int x1), (2, .int x2)] [] M K
  refine zr_iload_n dX12_noted_0 rfl 2 rfl ?_
  refine zr_if_eq (tgt := 14) dX12_noted_1 (by decide) (fun h21 => ?_) (fun h21 => ?_)
  · have T := T.1 h21
    refine zr_iload_n dX12_noted_14 rfl 2 rfl ?_
    exact zm_zret dX12_noted_15 rfl T.1 T.2
  · have T := T.2 h21
    refine zr_aload_n dX12_noted_4 rfl 0 rfl ?_
    refine zm_getr (a := 232) dX12_noted_5 f_X12_101 (by decide) (by decide) (by decide) (by decide) ?_
    refine zr_iload_n dX12_noted_8 rfl 1 rfl ?_
    refine zr_aload_n dX12_noted_9 rfl 0 rfl ?_
    refine zm_geti dX12_noted_10 f_X12_79 (by decide) (by decide) (by decide) ?_
    obtain ⟨hq22, T⟩ := T
    refine zn_iast (n := 202) (o := (Int32.toNatClampNeg x1)) dX12_noted_13 (by decide) (by decide) hq22 rfl (fun M23 e24 => ?_)
    have T := T M23 e24
    refine zr_iload_n dX12_noted_14 rfl 2 rfl ?_
    exact zm_zret dX12_noted_15 rfl T.1 T.2
set_option maxRecDepth 100000 in
set_option maxHeartbeats 4000000 in
theorem t_X12_readRule {d : Nat}  {M : zMem} {K : zK} 
    (T : S_X12_isFresh d 2 M (zB (fun r21 M22 => (r21 = true → S_X12_readRule_14 (d + 1) (-1) 3 M22 K) ∧ (r21 = false → K (some (.int 0)) M22)))) : S_X12_readRule (d + 1)  M K := by
  show zV m_X12_readRule (d + 1) 0 [(0, .ref 229)] [] M K
  refine zr_aload_n dX12_readRule_0 rfl 0 rfl ?_
  refine zr_iconst (v := 2) dX12_readRule_1 (by decide) ?_
  refine zm_callV_b (c := 12) (b := 229) dX12_readRule_2 w_X12_isFresh l_X12_210 rfl (by decide) (by decide) s_X12_isFresh [.int 2] rfl rfl (Nat.le_of_ble_eq_true rfl) (Nat.le_of_ble_eq_true rfl) ?_
  refine zV.post T ?_
  rintro v M22 ⟨r21, rfl, T⟩
  refine ⟨r21, rfl, ?_⟩
  refine zm_ifb_ne (tgt := 10) dX12_readRule_5 (by decide) (fun h23 => ?_) (fun h23 => ?_)
  · have T := T.1 h23
    refine zr_iconst (v := (-1)) dX12_readRule_10 (by decide) ?_
    refine zr_istore_n dX12_readRule_11 rfl (by decide) (L2 := [(1, .int (-1)), (0, .ref 229)]) rfl ?_
    refine zr_iconst (v := 3) dX12_readRule_12 (by decide) ?_
    refine zr_istore_n dX12_readRule_13 rfl (by decide) (L2 := [(2, .int 3), (1, .int (-1)), (0, .ref 229)]) rfl ?_
    exact zV.pick [2, 1, 0] rfl T
  · have T := T.2 h23
    refine zr_iconst (v := 0) dX12_readRule_8 (by decide) ?_
    exact zm_zret dX12_readRule_9 rfl (by decide) T
set_option maxRecDepth 100000 in
set_option maxHeartbeats 4000000 in
theorem t_X12_readRule_14 {d : Nat} {x1 : Int32} {x2 : Int32} {M : zMem} {K : zK} 
    (T : (5 < x2 → (¬ x1 = (-1) → (∀ M23 : zMem, M23 = wI M 232 4 x1 → S_X12_go d  M23 (zU (fun M26 => K (some (.int 1)) M26)))) ∧ (x1 = (-1) → S_X12_bad d 1 M (zB (fun r27 M28 => K (some (.int (bi r27))) M28)))) ∧ (¬ (5 < x2) → S_X12_isWord d x2 M (zB (fun r29 M30 => (r29 = false → S_X12_readRule_14 (d + 1) x1 (x2 + 1) M30 K) ∧ (r29 = true → S_X12_readRule_14 (d + 1) (x2 - 3) (x2 + 1) M30 K))))) : S_X12_readRule_14 (d + 1) x1 x2 M K := by
  show zV m_X12_readRule (d + 1) 14 [(0, .ref 229), (1, .int x1), (2, .int x2)] [] M K
  refine zr_iload_n dX12_readRule_14 rfl 2 rfl ?_
  refine zr_iconst (v := 5) dX12_readRule_15 (by decide) ?_
  refine zr_icmp_gt (tgt := 37) dX12_readRule_16 (by decide) (fun h21 => ?_) (fun h21 => ?_)
  · have T := T.1 h21
    refine zr_iload_n dX12_readRule_37 rfl 1 rfl ?_
    refine zr_iconst (v := (-1)) dX12_readRule_38 (by decide) ?_
    refine zr_icmp_ne (tgt := 48) dX12_readRule_39 (by decide) (fun h22 => ?_) (fun h22 => ?_)
    · have T := T.1 h22
      refine zr_aload_n dX12_readRule_48 rfl 0 rfl ?_
      refine zm_getr (a := 232) dX12_readRule_49 f_X12_101 (by decide) (by decide) (by decide) (by decide) ?_
      refine zr_iconst (v := 4) dX12_readRule_52 (by decide) ?_
      refine zr_iload_n dX12_readRule_53 rfl 1 rfl ?_
      refine zn_iast (n := 202) (o := 4) dX12_readRule_54 (by decide) (by decide) (zin (by decide)) (by decide) (fun M23 e24 => ?_)
      have T := T M23 e24
      refine zr_aload_n dX12_readRule_55 rfl 0 rfl ?_
      refine zm_callV_v (c := 12) (b := 229) dX12_readRule_56 w_X12_go l_X12_82 rfl (by decide) (by decide) s_X12_go [] rfl rfl (Nat.le_of_ble_eq_true rfl) (Nat.le_of_ble_eq_true rfl) ?_
      refine zV.post T ?_
      rintro v M26 ⟨rfl, T⟩
      refine ⟨rfl, ?_⟩
      refine zr_iconst (v := 1) dX12_readRule_59 (by decide) ?_
      exact zm_zret dX12_readRule_60 rfl (by decide) T
    · have T := T.2 h22
      refine zr_aload_n dX12_readRule_42 rfl 0 rfl ?_
      refine zr_iconst (v := 1) dX12_readRule_43 (by decide) ?_
      refine zm_callV_b (c := 12) (b := 229) dX12_readRule_44 w_X12_bad l_X12_72 rfl (by decide) (by decide) s_X12_bad [.int 1] rfl rfl (Nat.le_of_ble_eq_true rfl) (Nat.le_of_ble_eq_true rfl) ?_
      refine zV.post T ?_
      rintro v M28 ⟨r27, rfl, T⟩
      refine ⟨r27, rfl, ?_⟩
      exact zm_zret dX12_readRule_47 rfl (bi_01 _) T
  · have T := T.2 h21
    refine zr_aload_n dX12_readRule_19 rfl 0 rfl ?_
    refine zr_iload_n dX12_readRule_20 rfl 2 rfl ?_
    refine zm_callV_b (c := 12) (b := 229) dX12_readRule_21 w_X12_isWord l_X12_213 rfl (by decide) (by decide) s_X12_isWord [.int x2] rfl rfl (Nat.le_of_ble_eq_true rfl) (Nat.le_of_ble_eq_true rfl) ?_
    refine zV.post T ?_
    rintro v M30 ⟨r29, rfl, T⟩
    refine ⟨r29, rfl, ?_⟩
    refine zm_ifb_eq (tgt := 31) dX12_readRule_24 (by decide) (fun h31 => ?_) (fun h31 => ?_)
    · have T := T.1 h31
      refine zr_iinc (n := 2) (v := x2 + 1) dX12_readRule_31 rfl rfl (by decide) (L2 := [(2, .int (x2 + 1)), (0, .ref 229), (1, .int x1)]) rfl ?_
      refine zr_goto (tgt := 14) dX12_readRule_34 (by decide) ?_
      exact zV.pick [1, 2, 0] rfl T
    · have T := T.2 h31
      refine zr_iload_n dX12_readRule_27 rfl 2 rfl ?_
      refine zr_iconst (v := 3) dX12_readRule_28 (by decide) ?_
      refine zr_isub dX12_readRule_29 ?_
      refine zr_istore_n dX12_readRule_30 rfl (by decide) (L2 := [(1, .int (x2 - 3)), (0, .ref 229), (2, .int x2)]) rfl ?_
      refine zr_iinc (n := 2) (v := x2 + 1) dX12_readRule_31 rfl rfl (by decide) (L2 := [(2, .int (x2 + 1)), (1, .int (x2 - 3)), (0, .ref 229)]) rfl ?_
      refine zr_goto (tgt := 14) dX12_readRule_34 (by decide) ?_
      exact zV.pick [2, 1, 0] rfl T
set_option maxRecDepth 100000 in
set_option maxHeartbeats 4000000 in
theorem t_X12_readKey {d : Nat}  {M : zMem} {K : zK} 
    (T : S_X12_readFirst d 0 24 M (zB (fun r21 M22 => (r21 = false → K (some (.int 0)) M22) ∧ (r21 = true → S_X12_readNew d (M22.1 232 0) M22 (zB (fun r24 M25 => (r24 = true → (∀ M27 : zMem, M27 = wI M25 232 0 ((M25.1 232 0) + 1) → K (some (.int 1)) M27)) ∧ (r24 = false → K (some (.int 0)) M25))))))) : S_X12_readKey (d + 1)  M K := by
  show zV m_X12_readKey (d + 1) 0 [(0, .ref 229)] [] M K
  refine zr_aload_n dX12_readKey_0 rfl 0 rfl ?_
  refine zr_iconst (v := 0) dX12_readKey_1 (by decide) ?_
  refine zr_bipush (v := 24) dX12_readKey_2 (by decide) ?_
  refine zm_callV_b (c := 12) (b := 229) dX12_readKey_4 w_X12_readFirst l_X12_216 rfl (by decide) (by decide) s_X12_readFirst [.int 0, .int 24] rfl rfl (Nat.le_of_ble_eq_true rfl) (Nat.le_of_ble_eq_true rfl) ?_
  refine zV.post T ?_
  rintro v M22 ⟨r21, rfl, T⟩
  refine ⟨r21, rfl, ?_⟩
  refine zm_ifb_eq (tgt := 23) dX12_readKey_7 (by decide) (fun h23 => ?_) (fun h23 => ?_)
  · have T := T.1 h23
    refine zr_iconst (v := 0) dX12_readKey_23 (by decide) ?_
    exact zm_zret dX12_readKey_24 rfl (by decide) T
  · have T := T.2 h23
    refine zr_aload_n dX12_readKey_10 rfl 0 rfl ?_
    refine zr_aload_n dX12_readKey_11 rfl 0 rfl ?_
    refine zm_getr (a := 232) dX12_readKey_12 f_X12_101 (by decide) (by decide) (by decide) (by decide) ?_
    refine zr_iconst (v := 0) dX12_readKey_15 (by decide) ?_
    refine zm_iald (n := 202) (o := 0) dX12_readKey_16 (by decide) (by decide) (zin (by decide)) (by decide) ?_
    refine zm_callV_b (c := 12) (b := 229) dX12_readKey_17 w_X12_readNew l_X12_220 rfl (by decide) (by decide) s_X12_readNew [.int (M22.1 232 0)] rfl rfl (Nat.le_of_ble_eq_true rfl) (Nat.le_of_ble_eq_true rfl) ?_
    refine zV.post T ?_
    rintro v M25 ⟨r24, rfl, T⟩
    refine ⟨r24, rfl, ?_⟩
    refine zm_ifb_ne (tgt := 25) dX12_readKey_20 (by decide) (fun h26 => ?_) (fun h26 => ?_)
    · have T := T.1 h26
      refine zr_aload_n dX12_readKey_25 rfl 0 rfl ?_
      refine zm_getr (a := 232) dX12_readKey_26 f_X12_101 (by decide) (by decide) (by decide) (by decide) ?_
      refine zr_iconst (v := 0) dX12_readKey_29 (by decide) ?_
      refine zr_dup2 dX12_readKey_30 rfl rfl ?_
      refine zm_iald (n := 202) (o := 0) dX12_readKey_31 (by decide) (by decide) (zin (by decide)) (by decide) ?_
      refine zr_iconst (v := 1) dX12_readKey_32 (by decide) ?_
      refine zr_iadd dX12_readKey_33 ?_
      refine zn_iast (n := 202) (o := 0) dX12_readKey_34 (by decide) (by decide) (zin (by decide)) (by decide) (fun M27 e28 => ?_)
      have T := T M27 e28
      refine zr_iconst (v := 1) dX12_readKey_35 (by decide) ?_
      exact zm_zret dX12_readKey_36 rfl (by decide) T
    · have T := T.2 h26
      refine zr_iconst (v := 0) dX12_readKey_23 (by decide) ?_
      exact zm_zret dX12_readKey_24 rfl (by decide) T
set_option maxRecDepth 100000 in
set_option maxHeartbeats 4000000 in
theorem t_X12_readFirst {d : Nat} {x1 : Int32} {x2 : Int32} {M : zMem} {K : zK} 
    (T : vp_in x1 202 ∧ ((¬ (M.1 232 (Int32.toNatClampNeg x1)) = x2 → S_X12_go d  M (zU (fun M24 => K (some (.int 1)) M24))) ∧ ((M.1 232 (Int32.toNatClampNeg x1)) = x2 → S_X12_bad d 4 M (zB (fun r25 M26 => K (some (.int (bi r25))) M26))))) : S_X12_readFirst (d + 1) x1 x2 M K := by
  show zV m_X12_readFirst (d + 1) 0 [(0, .ref 229), (1, .int x1), (2, .int x2)] [] M K
  refine zr_aload_n dX12_readFirst_0 rfl 0 rfl ?_
  refine zm_getr (a := 232) dX12_readFirst_1 f_X12_101 (by decide) (by decide) (by decide) (by decide) ?_
  refine zr_iload_n dX12_readFirst_4 rfl 1 rfl ?_
  obtain ⟨hq21, T⟩ := T
  refine zm_iald (n := 202) (o := (Int32.toNatClampNeg x1)) dX12_readFirst_5 (by decide) (by decide) hq21 rfl ?_
  refine zr_iload_n dX12_readFirst_6 rfl 2 rfl ?_
  refine zr_icmp_ne (tgt := 16) dX12_readFirst_7 (by decide) (fun h22 => ?_) (fun h22 => ?_)
  · have T := T.1 h22
    refine zr_aload_n dX12_readFirst_16 rfl 0 rfl ?_
    refine zm_callV_v (c := 12) (b := 229) dX12_readFirst_17 w_X12_go l_X12_82 rfl (by decide) (by decide) s_X12_go [] rfl rfl (Nat.le_of_ble_eq_true rfl) (Nat.le_of_ble_eq_true rfl) ?_
    refine zV.post T ?_
    rintro v M24 ⟨rfl, T⟩
    refine ⟨rfl, ?_⟩
    refine zr_iconst (v := 1) dX12_readFirst_20 (by decide) ?_
    exact zm_zret dX12_readFirst_21 rfl (by decide) T
  · have T := T.2 h22
    refine zr_aload_n dX12_readFirst_10 rfl 0 rfl ?_
    refine zr_iconst (v := 4) dX12_readFirst_11 (by decide) ?_
    refine zm_callV_b (c := 12) (b := 229) dX12_readFirst_12 w_X12_bad l_X12_72 rfl (by decide) (by decide) s_X12_bad [.int 4] rfl rfl (Nat.le_of_ble_eq_true rfl) (Nat.le_of_ble_eq_true rfl) ?_
    refine zV.post T ?_
    rintro v M26 ⟨r25, rfl, T⟩
    refine ⟨r25, rfl, ?_⟩
    exact zm_zret dX12_readFirst_15 rfl (bi_01 _) T
set_option maxRecDepth 100000 in
set_option maxHeartbeats 4000000 in
theorem t_X12_readNew {d : Nat} {x1 : Int32} {M : zMem} {K : zK} 
    (T : S_X12_isName d  M (zB (fun r21 M22 => (r21 = true → S_X12_findIn d 238 0 (M22.1 232 0) (M22.2 229 12) M22 (zI (fun r24 M25 => (¬ r24 = (-1) → S_X12_bad d 3 M25 (zB (fun r27 M28 => K (some (.int (bi r27))) M28))) ∧ (r24 = (-1) → S_X12_findIn d 238 24 (M25.1 232 1) (M25.2 229 12) M25 (zI (fun r29 M30 => (r29 = (-1) → vp_in x1 28 ∧ ((∀ M33 : zMem, M33 = wL M30 238 (Int32.toNatClampNeg x1) (M30.2 229 12) → S_X12_go d  M33 (zU (fun M36 => K (some (.int 1)) M36))))) ∧ (¬ (r29 = (-1)) → S_X12_bad d 3 M30 (zB (fun r37 M38 => K (some (.int (bi r37))) M38))))))))) ∧ (r21 = false → S_X12_bad d 1 M22 (zB (fun r39 M40 => K (some (.int (bi r39))) M40)))))) : S_X12_readNew (d + 1) x1 M K := by
  show zV m_X12_readNew (d + 1) 0 [(0, .ref 229), (1, .int x1)] [] M K
  refine zr_aload_n dX12_readNew_0 rfl 0 rfl ?_
  refine zm_callV_b (c := 12) (b := 229) dX12_readNew_1 w_X12_isName l_X12_202 rfl (by decide) (by decide) s_X12_isName [] rfl rfl (Nat.le_of_ble_eq_true rfl) (Nat.le_of_ble_eq_true rfl) ?_
  refine zV.post T ?_
  rintro v M22 ⟨r21, rfl, T⟩
  refine ⟨r21, rfl, ?_⟩
  refine zm_ifb_ne (tgt := 13) dX12_readNew_4 (by decide) (fun h23 => ?_) (fun h23 => ?_)
  · have T := T.1 h23
    refine zr_aload_n dX12_readNew_13 rfl 0 rfl ?_
    refine zm_getr (a := 238) dX12_readNew_14 f_X12_120 (by decide) (by decide) (by decide) (by decide) ?_
    refine zr_iconst (v := 0) dX12_readNew_17 (by decide) ?_
    refine zr_aload_n dX12_readNew_18 rfl 0 rfl ?_
    refine zm_getr (a := 232) dX12_readNew_19 f_X12_101 (by decide) (by decide) (by decide) (by decide) ?_
    refine zr_iconst (v := 0) dX12_readNew_22 (by decide) ?_
    refine zm_iald (n := 202) (o := 0) dX12_readNew_23 (by decide) (by decide) (zin (by decide)) (by decide) ?_
    refine zr_aload_n dX12_readNew_24 rfl 0 rfl ?_
    refine zm_getl dX12_readNew_25 f_X12_43 (by decide) (by decide) (by decide) ?_
    refine zm_callS_i dX12_readNew_28 w_X12_findIn l_X12_206 s_X12_findIn [.ref 238, .int 0, .int (M22.1 232 0), .long (M22.2 229 12)] rfl rfl (Nat.le_of_ble_eq_true rfl) (Nat.le_of_ble_eq_true rfl) ?_
    refine zV.post T ?_
    rintro v M25 ⟨r24, rfl, T⟩
    refine ⟨r24, rfl, ?_⟩
    refine zr_iconst (v := (-1)) dX12_readNew_31 (by decide) ?_
    refine zr_icmp_ne (tgt := 58) dX12_readNew_32 (by decide) (fun h26 => ?_) (fun h26 => ?_)
    · have T := T.1 h26
      refine zr_aload_n dX12_readNew_58 rfl 0 rfl ?_
      refine zr_iconst (v := 3) dX12_readNew_59 (by decide) ?_
      refine zm_callV_b (c := 12) (b := 229) dX12_readNew_60 w_X12_bad l_X12_72 rfl (by decide) (by decide) s_X12_bad [.int 3] rfl rfl (Nat.le_of_ble_eq_true rfl) (Nat.le_of_ble_eq_true rfl) ?_
      refine zV.post T ?_
      rintro v M28 ⟨r27, rfl, T⟩
      refine ⟨r27, rfl, ?_⟩
      exact zm_zret dX12_readNew_63 rfl (bi_01 _) T
    · have T := T.2 h26
      refine zr_aload_n dX12_readNew_35 rfl 0 rfl ?_
      refine zm_getr (a := 238) dX12_readNew_36 f_X12_120 (by decide) (by decide) (by decide) (by decide) ?_
      refine zr_bipush (v := 24) dX12_readNew_39 (by decide) ?_
      refine zr_aload_n dX12_readNew_41 rfl 0 rfl ?_
      refine zm_getr (a := 232) dX12_readNew_42 f_X12_101 (by decide) (by decide) (by decide) (by decide) ?_
      refine zr_iconst (v := 1) dX12_readNew_45 (by decide) ?_
      refine zm_iald (n := 202) (o := 1) dX12_readNew_46 (by decide) (by decide) (zin (by decide)) (by decide) ?_
      refine zr_aload_n dX12_readNew_47 rfl 0 rfl ?_
      refine zm_getl dX12_readNew_48 f_X12_43 (by decide) (by decide) (by decide) ?_
      refine zm_callS_i dX12_readNew_51 w_X12_findIn l_X12_206 s_X12_findIn [.ref 238, .int 24, .int (M25.1 232 1), .long (M25.2 229 12)] rfl rfl (Nat.le_of_ble_eq_true rfl) (Nat.le_of_ble_eq_true rfl) ?_
      refine zV.post T ?_
      rintro v M30 ⟨r29, rfl, T⟩
      refine ⟨r29, rfl, ?_⟩
      refine zr_iconst (v := (-1)) dX12_readNew_54 (by decide) ?_
      refine zr_icmp_eq (tgt := 64) dX12_readNew_55 (by decide) (fun h31 => ?_) (fun h31 => ?_)
      · have T := T.1 h31
        refine zr_aload_n dX12_readNew_64 rfl 0 rfl ?_
        refine zm_getr (a := 238) dX12_readNew_65 f_X12_120 (by decide) (by decide) (by decide) (by decide) ?_
        refine zr_iload_n dX12_readNew_68 rfl 1 rfl ?_
        refine zr_aload_n dX12_readNew_69 rfl 0 rfl ?_
        refine zm_getl dX12_readNew_70 f_X12_43 (by decide) (by decide) (by decide) ?_
        obtain ⟨hq32, T⟩ := T
        refine zn_last (n := 28) (o := (Int32.toNatClampNeg x1)) dX12_readNew_73 (by decide) (by decide) hq32 rfl (fun M33 e34 => ?_)
        have T := T M33 e34
        refine zr_aload_n dX12_readNew_74 rfl 0 rfl ?_
        refine zm_callV_v (c := 12) (b := 229) dX12_readNew_75 w_X12_go l_X12_82 rfl (by decide) (by decide) s_X12_go [] rfl rfl (Nat.le_of_ble_eq_true rfl) (Nat.le_of_ble_eq_true rfl) ?_
        refine zV.post T ?_
        rintro v M36 ⟨rfl, T⟩
        refine ⟨rfl, ?_⟩
        refine zr_iconst (v := 1) dX12_readNew_78 (by decide) ?_
        exact zm_zret dX12_readNew_79 rfl (by decide) T
      · have T := T.2 h31
        refine zr_aload_n dX12_readNew_58 rfl 0 rfl ?_
        refine zr_iconst (v := 3) dX12_readNew_59 (by decide) ?_
        refine zm_callV_b (c := 12) (b := 229) dX12_readNew_60 w_X12_bad l_X12_72 rfl (by decide) (by decide) s_X12_bad [.int 3] rfl rfl (Nat.le_of_ble_eq_true rfl) (Nat.le_of_ble_eq_true rfl) ?_
        refine zV.post T ?_
        rintro v M38 ⟨r37, rfl, T⟩
        refine ⟨r37, rfl, ?_⟩
        exact zm_zret dX12_readNew_63 rfl (bi_01 _) T
  · have T := T.2 h23
    refine zr_aload_n dX12_readNew_7 rfl 0 rfl ?_
    refine zr_iconst (v := 1) dX12_readNew_8 (by decide) ?_
    refine zm_callV_b (c := 12) (b := 229) dX12_readNew_9 w_X12_bad l_X12_72 rfl (by decide) (by decide) s_X12_bad [.int 1] rfl rfl (Nat.le_of_ble_eq_true rfl) (Nat.le_of_ble_eq_true rfl) ?_
    refine zV.post T ?_
    rintro v M40 ⟨r39, rfl, T⟩
    refine ⟨r39, rfl, ?_⟩
    exact zm_zret dX12_readNew_12 rfl (bi_01 _) T
set_option maxRecDepth 100000 in
set_option maxHeartbeats 4000000 in
theorem t_X12_isName {d : Nat}  {M : zMem} {K : zK} 
    (T : ((M.1 229 7) = 2 → S_X12_isName_12 (d + 1) 0 M K) ∧ (¬ ((M.1 229 7) = 2) → K (some (.int 0)) M)) : S_X12_isName (d + 1)  M K := by
  show zV m_X12_isName (d + 1) 0 [(0, .ref 229)] [] M K
  refine zr_aload_n dX12_isName_0 rfl 0 rfl ?_
  refine zm_geti dX12_isName_1 f_X12_30 (by decide) (by decide) (by decide) ?_
  refine zr_iconst (v := 2) dX12_isName_4 (by decide) ?_
  refine zr_icmp_eq (tgt := 10) dX12_isName_5 (by decide) (fun h21 => ?_) (fun h21 => ?_)
  · have T := T.1 h21
    refine zr_iconst (v := 0) dX12_isName_10 (by decide) ?_
    refine zr_istore_n dX12_isName_11 rfl (by decide) (L2 := [(1, .int 0), (0, .ref 229)]) rfl ?_
    exact zV.pick [1, 0] rfl T
  · have T := T.2 h21
    refine zr_iconst (v := 0) dX12_isName_8 (by decide) ?_
    exact zm_zret dX12_isName_9 rfl (by decide) T
set_option maxRecDepth 100000 in
set_option maxHeartbeats 4000000 in
theorem t_X12_isName_12 {d : Nat} {x1 : Int32} {M : zMem} {K : zK} 
    (T : (23 < x1 → K (some (.int 1)) M) ∧ (¬ (23 < x1) → S_X12_wordOf d x1 M (zJ (fun r22 M23 => (¬ (lg_cmp (M.2 229 12) r22) = 0 → S_X12_isName_12 (d + 1) (x1 + 1) M23 K) ∧ ((lg_cmp (M.2 229 12) r22) = 0 → K (some (.int 0)) M23))))) : S_X12_isName_12 (d + 1) x1 M K := by
  show zV m_X12_isName (d + 1) 12 [(0, .ref 229), (1, .int x1)] [] M K
  refine zr_iload_n dX12_isName_12 rfl 1 rfl ?_
  refine zr_bipush (v := 23) dX12_isName_13 (by decide) ?_
  refine zr_icmp_gt (tgt := 38) dX12_isName_15 (by decide) (fun h21 => ?_) (fun h21 => ?_)
  · have T := T.1 h21
    refine zr_iconst (v := 1) dX12_isName_38 (by decide) ?_
    exact zm_zret dX12_isName_39 rfl (by decide) T
  · have T := T.2 h21
    refine zr_aload_n dX12_isName_18 rfl 0 rfl ?_
    refine zm_getl dX12_isName_19 f_X12_43 (by decide) (by decide) (by decide) ?_
    refine zr_iload_n dX12_isName_22 rfl 1 rfl ?_
    refine zm_callS_j dX12_isName_23 w_X12_wordOf l_X12_62 s_X12_wordOf [.int x1] rfl rfl (Nat.le_of_ble_eq_true rfl) (Nat.le_of_ble_eq_true rfl) ?_
    refine zV.post T ?_
    rintro v M23 ⟨r22, rfl, T⟩
    refine ⟨r22, rfl, ?_⟩
    refine zr_lcmp dX12_isName_26 ?_
    refine zr_if_ne (tgt := 32) dX12_isName_27 (by decide) (fun h24 => ?_) (fun h24 => ?_)
    · have T := T.1 h24
      refine zr_iinc (n := 1) (v := x1 + 1) dX12_isName_32 rfl rfl (by decide) (L2 := [(1, .int (x1 + 1)), (0, .ref 229)]) rfl ?_
      refine zr_goto (tgt := 12) dX12_isName_35 (by decide) ?_
      exact zV.pick [1, 0] rfl T
    · have T := T.2 h24
      refine zr_iconst (v := 0) dX12_isName_30 (by decide) ?_
      exact zm_zret dX12_isName_31 rfl (by decide) T
set_option maxRecDepth 100000 in
set_option maxHeartbeats 4000000 in
theorem t_X12_findIn {d : Nat} {b0 : Nat} {x1 : Int32} {x2 : Int32} {w3 : Int64} {M : zMem} {K : zK} (h0 : zc b0 = 101 ∧ b0 < zN)
    (T : S_X12_findIn_3 d b0 x1 x2 w3 0 M K) : S_X12_findIn d b0 x1 x2 w3 M K := by
  show zV m_X12_findIn d 0 [(0, .ref b0), (1, .int x1), (2, .int x2), (3, .long w3)] [] M K
  refine zr_iconst (v := 0) dX12_findIn_0 (by decide) ?_
  refine zr_istore dX12_findIn_1 (by decide) (L2 := [(5, .int 0), (0, .ref b0), (1, .int x1), (2, .int x2), (3, .long w3)]) rfl ?_
  exact zV.pick [1, 2, 3, 4, 0] rfl T
set_option maxRecDepth 100000 in
set_option maxHeartbeats 4000000 in
theorem t_X12_findIn_3 {d : Nat} {b0 : Nat} {x1 : Int32} {x2 : Int32} {w3 : Int64} {x5 : Int32} {M : zMem} {K : zK} (h0 : zc b0 = 101 ∧ b0 < zN)
    (T : (x2 ≤ x5 → K (some (.int (-1))) M) ∧ (¬ (x2 ≤ x5) → vp_in (x1 + x5) (zl b0) ∧ ((¬ (lg_cmp (M.2 b0 (Int32.toNatClampNeg (x1 + x5))) w3) = 0 → S_X12_findIn_3 d b0 x1 x2 w3 (x5 + 1) M K) ∧ ((lg_cmp (M.2 b0 (Int32.toNatClampNeg (x1 + x5))) w3) = 0 → K (some (.int x5)) M)))) : S_X12_findIn_3 d b0 x1 x2 w3 x5 M K := by
  show zV m_X12_findIn d 3 [(0, .ref b0), (1, .int x1), (2, .int x2), (3, .long w3), (5, .int x5)] [] M K
  refine zr_iload dX12_findIn_3 4 rfl ?_
  refine zr_iload_n dX12_findIn_5 rfl 2 rfl ?_
  refine zr_icmp_ge (tgt := 29) dX12_findIn_6 (by decide) (fun h21 => ?_) (fun h21 => ?_)
  · have T := T.1 h21
    refine zr_iconst (v := (-1)) dX12_findIn_29 (by decide) ?_
    exact zm_iret dX12_findIn_30 rfl T
  · have T := T.2 h21
    refine zr_aload_n dX12_findIn_9 rfl 0 rfl ?_
    refine zr_iload_n dX12_findIn_10 rfl 1 rfl ?_
    refine zr_iload dX12_findIn_11 4 rfl ?_
    refine zr_iadd dX12_findIn_13 ?_
    obtain ⟨hq22, T⟩ := T
    refine zm_lald (n := zl b0) (o := (Int32.toNatClampNeg (x1 + x5))) dX12_findIn_14 h0 rfl hq22 rfl ?_
    refine zr_lload_n dX12_findIn_15 rfl 3 rfl ?_
    refine zr_lcmp dX12_findIn_16 ?_
    refine zr_if_ne (tgt := 23) dX12_findIn_17 (by decide) (fun h23 => ?_) (fun h23 => ?_)
    · have T := T.1 h23
      refine zr_iinc (n := 4) (v := x5 + 1) dX12_findIn_23 rfl rfl (by decide) (L2 := [(5, .int (x5 + 1)), (0, .ref b0), (1, .int x1), (2, .int x2), (3, .long w3)]) rfl ?_
      refine zr_goto (tgt := 3) dX12_findIn_26 (by decide) ?_
      exact zV.pick [1, 2, 3, 4, 0] rfl T
    · have T := T.2 h23
      refine zr_iload dX12_findIn_20 4 rfl ?_
      exact zm_iret dX12_findIn_22 rfl T
set_option maxRecDepth 100000 in
set_option maxHeartbeats 4000000 in
theorem t_X12_readPeer {d : Nat}  {M : zMem} {K : zK} 
    (T : S_X12_readFirst d 1 4 M (zB (fun r21 M22 => (r21 = false → K (some (.int 0)) M22) ∧ (r21 = true → S_X12_readNew d (24 + (M22.1 232 1)) M22 (zB (fun r24 M25 => (r24 = true → (∀ M27 : zMem, M27 = wI M25 232 1 ((M25.1 232 1) + 1) → K (some (.int 1)) M27)) ∧ (r24 = false → K (some (.int 0)) M25))))))) : S_X12_readPeer (d + 1)  M K := by
  show zV m_X12_readPeer (d + 1) 0 [(0, .ref 229)] [] M K
  refine zr_aload_n dX12_readPeer_0 rfl 0 rfl ?_
  refine zr_iconst (v := 1) dX12_readPeer_1 (by decide) ?_
  refine zr_iconst (v := 4) dX12_readPeer_2 (by decide) ?_
  refine zm_callV_b (c := 12) (b := 229) dX12_readPeer_3 w_X12_readFirst l_X12_216 rfl (by decide) (by decide) s_X12_readFirst [.int 1, .int 4] rfl rfl (Nat.le_of_ble_eq_true rfl) (Nat.le_of_ble_eq_true rfl) ?_
  refine zV.post T ?_
  rintro v M22 ⟨r21, rfl, T⟩
  refine ⟨r21, rfl, ?_⟩
  refine zm_ifb_eq (tgt := 25) dX12_readPeer_6 (by decide) (fun h23 => ?_) (fun h23 => ?_)
  · have T := T.1 h23
    refine zr_iconst (v := 0) dX12_readPeer_25 (by decide) ?_
    exact zm_zret dX12_readPeer_26 rfl (by decide) T
  · have T := T.2 h23
    refine zr_aload_n dX12_readPeer_9 rfl 0 rfl ?_
    refine zr_bipush (v := 24) dX12_readPeer_10 (by decide) ?_
    refine zr_aload_n dX12_readPeer_12 rfl 0 rfl ?_
    refine zm_getr (a := 232) dX12_readPeer_13 f_X12_101 (by decide) (by decide) (by decide) (by decide) ?_
    refine zr_iconst (v := 1) dX12_readPeer_16 (by decide) ?_
    refine zm_iald (n := 202) (o := 1) dX12_readPeer_17 (by decide) (by decide) (zin (by decide)) (by decide) ?_
    refine zr_iadd dX12_readPeer_18 ?_
    refine zm_callV_b (c := 12) (b := 229) dX12_readPeer_19 w_X12_readNew l_X12_220 rfl (by decide) (by decide) s_X12_readNew [.int (24 + (M22.1 232 1))] rfl rfl (Nat.le_of_ble_eq_true rfl) (Nat.le_of_ble_eq_true rfl) ?_
    refine zV.post T ?_
    rintro v M25 ⟨r24, rfl, T⟩
    refine ⟨r24, rfl, ?_⟩
    refine zm_ifb_ne (tgt := 27) dX12_readPeer_22 (by decide) (fun h26 => ?_) (fun h26 => ?_)
    · have T := T.1 h26
      refine zr_aload_n dX12_readPeer_27 rfl 0 rfl ?_
      refine zm_getr (a := 232) dX12_readPeer_28 f_X12_101 (by decide) (by decide) (by decide) (by decide) ?_
      refine zr_iconst (v := 1) dX12_readPeer_31 (by decide) ?_
      refine zr_dup2 dX12_readPeer_32 rfl rfl ?_
      refine zm_iald (n := 202) (o := 1) dX12_readPeer_33 (by decide) (by decide) (zin (by decide)) (by decide) ?_
      refine zr_iconst (v := 1) dX12_readPeer_34 (by decide) ?_
      refine zr_iadd dX12_readPeer_35 ?_
      refine zn_iast (n := 202) (o := 1) dX12_readPeer_36 (by decide) (by decide) (zin (by decide)) (by decide) (fun M27 e28 => ?_)
      have T := T M27 e28
      refine zr_iconst (v := 1) dX12_readPeer_37 (by decide) ?_
      exact zm_zret dX12_readPeer_38 rfl (by decide) T
    · have T := T.2 h26
      refine zr_iconst (v := 0) dX12_readPeer_25 (by decide) ?_
      exact zm_zret dX12_readPeer_26 rfl (by decide) T
set_option maxRecDepth 100000 in
set_option maxHeartbeats 4000000 in
theorem t_X12_readHas {d : Nat}  {M : zMem} {K : zK} 
    (T : S_X12_go d  M (zU (fun M22 => S_X12_isHere d 24 (M22.1 232 1) M22 (zB (fun r23 M24 => (r23 = true → S_X12_go d  M24 (zU (fun M27 => S_X12_isHere d 0 (M27.1 232 0) M27 (zB (fun r28 M29 => (r28 = true → vp_in (106 + ((24 * (M24.1 229 13)) + (M29.1 229 13))) 202 ∧ (((M29.1 232 (Int32.toNatClampNeg (106 + ((24 * (M24.1 229 13)) + (M29.1 229 13))))) ≤ 0 → S_X12_go d  M29 (zU (fun M34 => S_X12_readNumber d 0 999 M34 (zB (fun r35 M36 => S_X12_noted d (10 + ((24 * (M24.1 229 13)) + (M29.1 229 13))) (bi r35) M36 (zB (fun r37 M38 => (r37 = true → (∀ M40 : zMem, M40 = wI M38 232 5 ((M38.1 232 5) + 1) → vp_in (106 + ((24 * (M24.1 229 13)) + (M29.1 229 13))) 202 ∧ ((∀ M43 : zMem, M43 = wI M40 232 (Int32.toNatClampNeg (106 + ((24 * (M24.1 229 13)) + (M29.1 229 13)))) (M40.1 232 5) → K (some (.int 1)) M43)))) ∧ (r37 = false → K (some (.int 0)) M38)))))))) ∧ (¬ ((M29.1 232 (Int32.toNatClampNeg (106 + ((24 * (M24.1 229 13)) + (M29.1 229 13))))) ≤ 0) → S_X12_bad d 3 M29 (zB (fun r45 M46 => K (some (.int (bi r45))) M46))))) ∧ (r28 = false → K (some (.int 0)) M29)))))) ∧ (r23 = false → K (some (.int 0)) M24)))))) : S_X12_readHas (d + 1)  M K := by
  show zV m_X12_readHas (d + 1) 0 [(0, .ref 229)] [] M K
  refine zr_aload_n dX12_readHas_0 rfl 0 rfl ?_
  refine zm_callV_v (c := 12) (b := 229) dX12_readHas_1 w_X12_go l_X12_82 rfl (by decide) (by decide) s_X12_go [] rfl rfl (Nat.le_of_ble_eq_true rfl) (Nat.le_of_ble_eq_true rfl) ?_
  refine zV.post T ?_
  rintro v M22 ⟨rfl, T⟩
  refine ⟨rfl, ?_⟩
  refine zr_aload_n dX12_readHas_4 rfl 0 rfl ?_
  refine zr_bipush (v := 24) dX12_readHas_5 (by decide) ?_
  refine zr_aload_n dX12_readHas_7 rfl 0 rfl ?_
  refine zm_getr (a := 232) dX12_readHas_8 f_X12_101 (by decide) (by decide) (by decide) (by decide) ?_
  refine zr_iconst (v := 1) dX12_readHas_11 (by decide) ?_
  refine zm_iald (n := 202) (o := 1) dX12_readHas_12 (by decide) (by decide) (zin (by decide)) (by decide) ?_
  refine zm_callV_b (c := 12) (b := 229) dX12_readHas_13 w_X12_isHere l_X12_223 rfl (by decide) (by decide) s_X12_isHere [.int 24, .int (M22.1 232 1)] rfl rfl (Nat.le_of_ble_eq_true rfl) (Nat.le_of_ble_eq_true rfl) ?_
  refine zV.post T ?_
  rintro v M24 ⟨r23, rfl, T⟩
  refine ⟨r23, rfl, ?_⟩
  refine zm_ifb_ne (tgt := 21) dX12_readHas_16 (by decide) (fun h25 => ?_) (fun h25 => ?_)
  · have T := T.1 h25
    refine zr_bipush (v := 24) dX12_readHas_21 (by decide) ?_
    refine zr_aload_n dX12_readHas_23 rfl 0 rfl ?_
    refine zm_geti dX12_readHas_24 f_X12_79 (by decide) (by decide) (by decide) ?_
    refine zr_imul dX12_readHas_27 ?_
    refine zr_istore_n dX12_readHas_28 rfl (by decide) (L2 := [(1, .int (24 * (M24.1 229 13))), (0, .ref 229)]) rfl ?_
    refine zr_aload_n dX12_readHas_29 rfl 1 rfl ?_
    refine zm_callV_v (c := 12) (b := 229) dX12_readHas_30 w_X12_go l_X12_82 rfl (by decide) (by decide) s_X12_go [] rfl rfl (Nat.le_of_ble_eq_true rfl) (Nat.le_of_ble_eq_true rfl) ?_
    refine zV.post T ?_
    rintro v M27 ⟨rfl, T⟩
    refine ⟨rfl, ?_⟩
    refine zr_aload_n dX12_readHas_33 rfl 1 rfl ?_
    refine zr_iconst (v := 0) dX12_readHas_34 (by decide) ?_
    refine zr_aload_n dX12_readHas_35 rfl 1 rfl ?_
    refine zm_getr (a := 232) dX12_readHas_36 f_X12_101 (by decide) (by decide) (by decide) (by decide) ?_
    refine zr_iconst (v := 0) dX12_readHas_39 (by decide) ?_
    refine zm_iald (n := 202) (o := 0) dX12_readHas_40 (by decide) (by decide) (zin (by decide)) (by decide) ?_
    refine zm_callV_b (c := 12) (b := 229) dX12_readHas_41 w_X12_isHere l_X12_223 rfl (by decide) (by decide) s_X12_isHere [.int 0, .int (M27.1 232 0)] rfl rfl (Nat.le_of_ble_eq_true rfl) (Nat.le_of_ble_eq_true rfl) ?_
    refine zV.post T ?_
    rintro v M29 ⟨r28, rfl, T⟩
    refine ⟨r28, rfl, ?_⟩
    refine zm_ifb_ne (tgt := 49) dX12_readHas_44 (by decide) (fun h30 => ?_) (fun h30 => ?_)
    · have T := T.1 h30
      refine zr_iload_n dX12_readHas_49 rfl 0 rfl ?_
      refine zr_aload_n dX12_readHas_50 rfl 1 rfl ?_
      refine zm_geti dX12_readHas_51 f_X12_79 (by decide) (by decide) (by decide) ?_
      refine zr_iadd dX12_readHas_54 ?_
      refine zr_istore_n dX12_readHas_55 rfl (by decide) (L2 := [(1, .int ((24 * (M24.1 229 13)) + (M29.1 229 13))), (0, .ref 229)]) rfl ?_
      refine zr_aload_n dX12_readHas_56 rfl 1 rfl ?_
      refine zm_getr (a := 232) dX12_readHas_57 f_X12_101 (by decide) (by decide) (by decide) (by decide) ?_
      refine zr_bipush (v := 106) dX12_readHas_60 (by decide) ?_
      refine zr_iload_n dX12_readHas_62 rfl 0 rfl ?_
      refine zr_iadd dX12_readHas_63 ?_
      obtain ⟨hq31, T⟩ := T
      refine zm_iald (n := 202) (o := (Int32.toNatClampNeg (106 + ((24 * (M24.1 229 13)) + (M29.1 229 13))))) dX12_readHas_64 (by decide) (by decide) hq31 rfl ?_
      refine zr_if_le (tgt := 74) dX12_readHas_65 (by decide) (fun h32 => ?_) (fun h32 => ?_)
      · have T := T.1 h32
        refine zr_aload_n dX12_readHas_74 rfl 1 rfl ?_
        refine zm_callV_v (c := 12) (b := 229) dX12_readHas_75 w_X12_go l_X12_82 rfl (by decide) (by decide) s_X12_go [] rfl rfl (Nat.le_of_ble_eq_true rfl) (Nat.le_of_ble_eq_true rfl) ?_
        refine zV.post T ?_
        rintro v M34 ⟨rfl, T⟩
        refine ⟨rfl, ?_⟩
        refine zr_aload_n dX12_readHas_78 rfl 1 rfl ?_
        refine zr_bipush (v := 10) dX12_readHas_79 (by decide) ?_
        refine zr_iload_n dX12_readHas_81 rfl 0 rfl ?_
        refine zr_iadd dX12_readHas_82 ?_
        refine zr_aload_n dX12_readHas_83 rfl 1 rfl ?_
        refine zr_iconst (v := 0) dX12_readHas_84 (by decide) ?_
        refine zr_sipush (v := 999) dX12_readHas_85 (by decide) ?_
        refine zm_callV_b (c := 12) (b := 229) dX12_readHas_88 w_X12_readNumber l_X12_226 rfl (by decide) (by decide) s_X12_readNumber [.int 0, .int 999] rfl rfl (Nat.le_of_ble_eq_true rfl) (Nat.le_of_ble_eq_true rfl) ?_
        refine zV.post T ?_
        rintro v M36 ⟨r35, rfl, T⟩
        refine ⟨r35, rfl, ?_⟩
        refine zm_callV_b (c := 12) (b := 229) dX12_readHas_91 w_X12_noted l_X12_229 rfl (by decide) (by decide) s_X12_noted [.int (10 + ((24 * (M24.1 229 13)) + (M29.1 229 13))), .int (bi r35)] rfl rfl (Nat.le_of_ble_eq_true rfl) (Nat.le_of_ble_eq_true rfl) ?_
        refine zV.post T ?_
        rintro v M38 ⟨r37, rfl, T⟩
        refine ⟨r37, rfl, ?_⟩
        refine zm_ifb_ne (tgt := 99) dX12_readHas_94 (by decide) (fun h39 => ?_) (fun h39 => ?_)
        · have T := T.1 h39
          refine zr_aload_n dX12_readHas_99 rfl 1 rfl ?_
          refine zm_getr (a := 232) dX12_readHas_100 f_X12_101 (by decide) (by decide) (by decide) (by decide) ?_
          refine zr_iconst (v := 5) dX12_readHas_103 (by decide) ?_
          refine zr_dup2 dX12_readHas_104 rfl rfl ?_
          refine zm_iald (n := 202) (o := 5) dX12_readHas_105 (by decide) (by decide) (zin (by decide)) (by decide) ?_
          refine zr_iconst (v := 1) dX12_readHas_106 (by decide) ?_
          refine zr_iadd dX12_readHas_107 ?_
          refine zn_iast (n := 202) (o := 5) dX12_readHas_108 (by decide) (by decide) (zin (by decide)) (by decide) (fun M40 e41 => ?_)
          have T := T M40 e41
          refine zr_aload_n dX12_readHas_109 rfl 1 rfl ?_
          refine zm_getr (a := 232) dX12_readHas_110 f_X12_101 (by decide) (by decide) (by decide) (by decide) ?_
          refine zr_bipush (v := 106) dX12_readHas_113 (by decide) ?_
          refine zr_iload_n dX12_readHas_115 rfl 0 rfl ?_
          refine zr_iadd dX12_readHas_116 ?_
          refine zr_aload_n dX12_readHas_117 rfl 1 rfl ?_
          refine zm_getr (a := 232) dX12_readHas_118 f_X12_101 (by decide) (by decide) (by decide) (by decide) ?_
          refine zr_iconst (v := 5) dX12_readHas_121 (by decide) ?_
          refine zm_iald (n := 202) (o := 5) dX12_readHas_122 (by decide) (by decide) (zin (by decide)) (by decide) ?_
          obtain ⟨hq42, T⟩ := T
          refine zn_iast (n := 202) (o := (Int32.toNatClampNeg (106 + ((24 * (M24.1 229 13)) + (M29.1 229 13))))) dX12_readHas_123 (by decide) (by decide) hq42 rfl (fun M43 e44 => ?_)
          have T := T M43 e44
          refine zr_iconst (v := 1) dX12_readHas_124 (by decide) ?_
          exact zm_zret dX12_readHas_125 rfl (by decide) T
        · have T := T.2 h39
          refine zr_iconst (v := 0) dX12_readHas_97 (by decide) ?_
          exact zm_zret dX12_readHas_98 rfl (by decide) T
      · have T := T.2 h32
        refine zr_aload_n dX12_readHas_68 rfl 1 rfl ?_
        refine zr_iconst (v := 3) dX12_readHas_69 (by decide) ?_
        refine zm_callV_b (c := 12) (b := 229) dX12_readHas_70 w_X12_bad l_X12_72 rfl (by decide) (by decide) s_X12_bad [.int 3] rfl rfl (Nat.le_of_ble_eq_true rfl) (Nat.le_of_ble_eq_true rfl) ?_
        refine zV.post T ?_
        rintro v M46 ⟨r45, rfl, T⟩
        refine ⟨r45, rfl, ?_⟩
        exact zm_zret dX12_readHas_73 rfl (bi_01 _) T
    · have T := T.2 h30
      refine zr_iconst (v := 0) dX12_readHas_47 (by decide) ?_
      exact zm_zret dX12_readHas_48 rfl (by decide) T
  · have T := T.2 h25
    refine zr_iconst (v := 0) dX12_readHas_19 (by decide) ?_
    exact zm_zret dX12_readHas_20 rfl (by decide) T
set_option maxRecDepth 100000 in
set_option maxHeartbeats 4000000 in
theorem t_X12_isHere {d : Nat} {x1 : Int32} {x2 : Int32} {M : zMem} {K : zK} 
    (T : S_X12_isName d  M (zB (fun r21 M22 => (r21 = true → S_X12_findIn d 238 x1 x2 (M22.2 229 12) M22 (zI (fun r24 M25 => (∀ M26 : zMem, M26 = wI M25 229 13 r24 → (¬ (M26.1 229 13) = (-1) → K (some (.int 1)) M26) ∧ ((M26.1 229 13) = (-1) → S_X12_bad d 3 M26 (zB (fun r29 M30 => (r29 = false → K (some (.int 0)) M30) ∧ (r29 = true → K (some (.int 1)) M30)))))))) ∧ (r21 = false → S_X12_bad d 1 M22 (zB (fun r32 M33 => K (some (.int (bi r32))) M33)))))) : S_X12_isHere (d + 1) x1 x2 M K := by
  show zV m_X12_isHere (d + 1) 0 [(0, .ref 229), (1, .int x1), (2, .int x2)] [] M K
  refine zr_aload_n dX12_isHere_0 rfl 0 rfl ?_
  refine zm_callV_b (c := 12) (b := 229) dX12_isHere_1 w_X12_isName l_X12_202 rfl (by decide) (by decide) s_X12_isName [] rfl rfl (Nat.le_of_ble_eq_true rfl) (Nat.le_of_ble_eq_true rfl) ?_
  refine zV.post T ?_
  rintro v M22 ⟨r21, rfl, T⟩
  refine ⟨r21, rfl, ?_⟩
  refine zm_ifb_ne (tgt := 13) dX12_isHere_4 (by decide) (fun h23 => ?_) (fun h23 => ?_)
  · have T := T.1 h23
    refine zr_aload_n dX12_isHere_13 rfl 0 rfl ?_
    refine zr_aload_n dX12_isHere_14 rfl 0 rfl ?_
    refine zm_getr (a := 238) dX12_isHere_15 f_X12_120 (by decide) (by decide) (by decide) (by decide) ?_
    refine zr_iload_n dX12_isHere_18 rfl 1 rfl ?_
    refine zr_iload_n dX12_isHere_19 rfl 2 rfl ?_
    refine zr_aload_n dX12_isHere_20 rfl 0 rfl ?_
    refine zm_getl dX12_isHere_21 f_X12_43 (by decide) (by decide) (by decide) ?_
    refine zm_callS_i dX12_isHere_24 w_X12_findIn l_X12_206 s_X12_findIn [.ref 238, .int x1, .int x2, .long (M22.2 229 12)] rfl rfl (Nat.le_of_ble_eq_true rfl) (Nat.le_of_ble_eq_true rfl) ?_
    refine zV.post T ?_
    rintro v M25 ⟨r24, rfl, T⟩
    refine ⟨r24, rfl, ?_⟩
    refine zn_puti dX12_isHere_27 f_X12_79 (by decide) (by decide) (by decide) (fun M26 e27 => ?_)
    have T := T M26 e27
    refine zr_aload_n dX12_isHere_30 rfl 0 rfl ?_
    refine zm_geti dX12_isHere_31 f_X12_79 (by decide) (by decide) (by decide) ?_
    refine zr_iconst (v := (-1)) dX12_isHere_34 (by decide) ?_
    refine zr_icmp_ne (tgt := 46) dX12_isHere_35 (by decide) (fun h28 => ?_) (fun h28 => ?_)
    · have T := T.1 h28
      refine zr_iconst (v := 1) dX12_isHere_46 (by decide) ?_
      refine zr_goto (tgt := 51) dX12_isHere_47 (by decide) ?_
      exact zm_zret dX12_isHere_51 rfl (by decide) T
    · have T := T.2 h28
      refine zr_aload_n dX12_isHere_38 rfl 0 rfl ?_
      refine zr_iconst (v := 3) dX12_isHere_39 (by decide) ?_
      refine zm_callV_b (c := 12) (b := 229) dX12_isHere_40 w_X12_bad l_X12_72 rfl (by decide) (by decide) s_X12_bad [.int 3] rfl rfl (Nat.le_of_ble_eq_true rfl) (Nat.le_of_ble_eq_true rfl) ?_
      refine zV.post T ?_
      rintro v M30 ⟨r29, rfl, T⟩
      refine ⟨r29, rfl, ?_⟩
      refine zm_ifb_eq (tgt := 50) dX12_isHere_43 (by decide) (fun h31 => ?_) (fun h31 => ?_)
      · have T := T.1 h31
        refine zr_iconst (v := 0) dX12_isHere_50 (by decide) ?_
        exact zm_zret dX12_isHere_51 rfl (by decide) T
      · have T := T.2 h31
        refine zr_iconst (v := 1) dX12_isHere_46 (by decide) ?_
        refine zr_goto (tgt := 51) dX12_isHere_47 (by decide) ?_
        exact zm_zret dX12_isHere_51 rfl (by decide) T
  · have T := T.2 h23
    refine zr_aload_n dX12_isHere_7 rfl 0 rfl ?_
    refine zr_iconst (v := 1) dX12_isHere_8 (by decide) ?_
    refine zm_callV_b (c := 12) (b := 229) dX12_isHere_9 w_X12_bad l_X12_72 rfl (by decide) (by decide) s_X12_bad [.int 1] rfl rfl (Nat.le_of_ble_eq_true rfl) (Nat.le_of_ble_eq_true rfl) ?_
    refine zV.post T ?_
    rintro v M33 ⟨r32, rfl, T⟩
    refine ⟨r32, rfl, ?_⟩
    exact zm_zret dX12_isHere_12 rfl (bi_01 _) T
set_option maxRecDepth 100000 in
set_option maxHeartbeats 4000000 in
theorem t_X12_readCut {d : Nat}  {M : zMem} {K : zK} 
    (T : S_X12_go d  M (zU (fun M22 => S_X12_isHere d 24 (M22.1 232 1) M22 (zB (fun r23 M24 => (r23 = true → S_X12_go d  M24 (zU (fun M27 => S_X12_isHere d 24 (M27.1 232 1) M27 (zB (fun r28 M29 => (r28 = true → ((M29.1 229 13) = (M24.1 229 13) → S_X12_bad d 3 M29 (zB (fun r32 M33 => K (some (.int (bi r32))) M33))) ∧ (¬ ((M29.1 229 13) = (M24.1 229 13)) → vp_in (6 + (M24.1 229 13)) 202 ∧ (S_X12_has d (M29.1 232 (Int32.toNatClampNeg (6 + (M24.1 229 13)))) (M29.1 229 13) M29 (zB (fun r35 M36 => (r35 = false → vp_in (6 + (M24.1 229 13)) 202 ∧ (vp_in (6 + (M24.1 229 13)) 202 ∧ ((∀ M40 : zMem, M40 = wI M36 232 (Int32.toNatClampNeg (6 + (M24.1 229 13))) ((M36.1 232 (Int32.toNatClampNeg (6 + (M24.1 229 13)))) ||| ((1 : Int32) <<< ((M36.1 229 13) &&& 31))) → vp_in (6 + (M40.1 229 13)) 202 ∧ (vp_in (6 + (M40.1 229 13)) 202 ∧ ((∀ M44 : zMem, M44 = wI M40 232 (Int32.toNatClampNeg (6 + (M40.1 229 13))) ((M40.1 232 (Int32.toNatClampNeg (6 + (M40.1 229 13)))) ||| ((1 : Int32) <<< ((M24.1 229 13) &&& 31))) → S_X12_go d  M44 (zU (fun M47 => K (some (.int 1)) M47))))))))) ∧ (r35 = true → S_X12_bad d 3 M36 (zB (fun r48 M49 => K (some (.int (bi r48))) M49)))))))) ∧ (r28 = false → K (some (.int 0)) M29)))))) ∧ (r23 = false → K (some (.int 0)) M24)))))) : S_X12_readCut (d + 1)  M K := by
  show zV m_X12_readCut (d + 1) 0 [(0, .ref 229)] [] M K
  refine zr_aload_n dX12_readCut_0 rfl 0 rfl ?_
  refine zm_callV_v (c := 12) (b := 229) dX12_readCut_1 w_X12_go l_X12_82 rfl (by decide) (by decide) s_X12_go [] rfl rfl (Nat.le_of_ble_eq_true rfl) (Nat.le_of_ble_eq_true rfl) ?_
  refine zV.post T ?_
  rintro v M22 ⟨rfl, T⟩
  refine ⟨rfl, ?_⟩
  refine zr_aload_n dX12_readCut_4 rfl 0 rfl ?_
  refine zr_bipush (v := 24) dX12_readCut_5 (by decide) ?_
  refine zr_aload_n dX12_readCut_7 rfl 0 rfl ?_
  refine zm_getr (a := 232) dX12_readCut_8 f_X12_101 (by decide) (by decide) (by decide) (by decide) ?_
  refine zr_iconst (v := 1) dX12_readCut_11 (by decide) ?_
  refine zm_iald (n := 202) (o := 1) dX12_readCut_12 (by decide) (by decide) (zin (by decide)) (by decide) ?_
  refine zm_callV_b (c := 12) (b := 229) dX12_readCut_13 w_X12_isHere l_X12_223 rfl (by decide) (by decide) s_X12_isHere [.int 24, .int (M22.1 232 1)] rfl rfl (Nat.le_of_ble_eq_true rfl) (Nat.le_of_ble_eq_true rfl) ?_
  refine zV.post T ?_
  rintro v M24 ⟨r23, rfl, T⟩
  refine ⟨r23, rfl, ?_⟩
  refine zm_ifb_ne (tgt := 21) dX12_readCut_16 (by decide) (fun h25 => ?_) (fun h25 => ?_)
  · have T := T.1 h25
    refine zr_aload_n dX12_readCut_21 rfl 0 rfl ?_
    refine zm_geti dX12_readCut_22 f_X12_79 (by decide) (by decide) (by decide) ?_
    refine zr_istore_n dX12_readCut_25 rfl (by decide) (L2 := [(1, .int (M24.1 229 13)), (0, .ref 229)]) rfl ?_
    refine zr_aload_n dX12_readCut_26 rfl 1 rfl ?_
    refine zm_callV_v (c := 12) (b := 229) dX12_readCut_27 w_X12_go l_X12_82 rfl (by decide) (by decide) s_X12_go [] rfl rfl (Nat.le_of_ble_eq_true rfl) (Nat.le_of_ble_eq_true rfl) ?_
    refine zV.post T ?_
    rintro v M27 ⟨rfl, T⟩
    refine ⟨rfl, ?_⟩
    refine zr_aload_n dX12_readCut_30 rfl 1 rfl ?_
    refine zr_bipush (v := 24) dX12_readCut_31 (by decide) ?_
    refine zr_aload_n dX12_readCut_33 rfl 1 rfl ?_
    refine zm_getr (a := 232) dX12_readCut_34 f_X12_101 (by decide) (by decide) (by decide) (by decide) ?_
    refine zr_iconst (v := 1) dX12_readCut_37 (by decide) ?_
    refine zm_iald (n := 202) (o := 1) dX12_readCut_38 (by decide) (by decide) (zin (by decide)) (by decide) ?_
    refine zm_callV_b (c := 12) (b := 229) dX12_readCut_39 w_X12_isHere l_X12_223 rfl (by decide) (by decide) s_X12_isHere [.int 24, .int (M27.1 232 1)] rfl rfl (Nat.le_of_ble_eq_true rfl) (Nat.le_of_ble_eq_true rfl) ?_
    refine zV.post T ?_
    rintro v M29 ⟨r28, rfl, T⟩
    refine ⟨r28, rfl, ?_⟩
    refine zm_ifb_ne (tgt := 47) dX12_readCut_42 (by decide) (fun h30 => ?_) (fun h30 => ?_)
    · have T := T.1 h30
      refine zr_aload_n dX12_readCut_47 rfl 1 rfl ?_
      refine zm_geti dX12_readCut_48 f_X12_79 (by decide) (by decide) (by decide) ?_
      refine zr_iload_n dX12_readCut_51 rfl 0 rfl ?_
      refine zr_icmp_eq (tgt := 74) dX12_readCut_52 (by decide) (fun h31 => ?_) (fun h31 => ?_)
      · have T := T.1 h31
        refine zr_aload_n dX12_readCut_74 rfl 1 rfl ?_
        refine zr_iconst (v := 3) dX12_readCut_75 (by decide) ?_
        refine zm_callV_b (c := 12) (b := 229) dX12_readCut_76 w_X12_bad l_X12_72 rfl (by decide) (by decide) s_X12_bad [.int 3] rfl rfl (Nat.le_of_ble_eq_true rfl) (Nat.le_of_ble_eq_true rfl) ?_
        refine zV.post T ?_
        rintro v M33 ⟨r32, rfl, T⟩
        refine ⟨r32, rfl, ?_⟩
        exact zm_zret dX12_readCut_79 rfl (bi_01 _) T
      · have T := T.2 h31
        refine zr_aload_n dX12_readCut_55 rfl 1 rfl ?_
        refine zm_getr (a := 232) dX12_readCut_56 f_X12_101 (by decide) (by decide) (by decide) (by decide) ?_
        refine zr_bipush (v := 6) dX12_readCut_59 (by decide) ?_
        refine zr_iload_n dX12_readCut_61 rfl 0 rfl ?_
        refine zr_iadd dX12_readCut_62 ?_
        obtain ⟨hq34, T⟩ := T
        refine zm_iald (n := 202) (o := (Int32.toNatClampNeg (6 + (M24.1 229 13)))) dX12_readCut_63 (by decide) (by decide) hq34 rfl ?_
        refine zr_aload_n dX12_readCut_64 rfl 1 rfl ?_
        refine zm_geti dX12_readCut_65 f_X12_79 (by decide) (by decide) (by decide) ?_
        refine zm_callS_b dX12_readCut_68 w_X12_has l_X12_233 s_X12_has [.int (M29.1 232 (Int32.toNatClampNeg (6 + (M24.1 229 13)))), .int (M29.1 229 13)] rfl rfl (Nat.le_of_ble_eq_true rfl) (Nat.le_of_ble_eq_true rfl) ?_
        refine zV.post T ?_
        rintro v M36 ⟨r35, rfl, T⟩
        refine ⟨r35, rfl, ?_⟩
        refine zm_ifb_eq (tgt := 80) dX12_readCut_71 (by decide) (fun h37 => ?_) (fun h37 => ?_)
        · have T := T.1 h37
          refine zr_aload_n dX12_readCut_80 rfl 1 rfl ?_
          refine zm_getr (a := 232) dX12_readCut_81 f_X12_101 (by decide) (by decide) (by decide) (by decide) ?_
          refine zr_bipush (v := 6) dX12_readCut_84 (by decide) ?_
          refine zr_iload_n dX12_readCut_86 rfl 0 rfl ?_
          refine zr_iadd dX12_readCut_87 ?_
          refine zr_dup2 dX12_readCut_88 rfl rfl ?_
          obtain ⟨hq38, T⟩ := T
          refine zm_iald (n := 202) (o := (Int32.toNatClampNeg (6 + (M24.1 229 13)))) dX12_readCut_89 (by decide) (by decide) hq38 rfl ?_
          refine zr_iconst (v := 1) dX12_readCut_90 (by decide) ?_
          refine zr_aload_n dX12_readCut_91 rfl 1 rfl ?_
          refine zm_geti dX12_readCut_92 f_X12_79 (by decide) (by decide) (by decide) ?_
          refine zr_ishl dX12_readCut_95 ?_
          refine zr_ior dX12_readCut_96 ?_
          obtain ⟨hq39, T⟩ := T
          refine zn_iast (n := 202) (o := (Int32.toNatClampNeg (6 + (M24.1 229 13)))) dX12_readCut_97 (by decide) (by decide) hq39 rfl (fun M40 e41 => ?_)
          have T := T M40 e41
          refine zr_aload_n dX12_readCut_98 rfl 1 rfl ?_
          refine zm_getr (a := 232) dX12_readCut_99 f_X12_101 (by decide) (by decide) (by decide) (by decide) ?_
          refine zr_bipush (v := 6) dX12_readCut_102 (by decide) ?_
          refine zr_aload_n dX12_readCut_104 rfl 1 rfl ?_
          refine zm_geti dX12_readCut_105 f_X12_79 (by decide) (by decide) (by decide) ?_
          refine zr_iadd dX12_readCut_108 ?_
          refine zr_dup2 dX12_readCut_109 rfl rfl ?_
          obtain ⟨hq42, T⟩ := T
          refine zm_iald (n := 202) (o := (Int32.toNatClampNeg (6 + (M40.1 229 13)))) dX12_readCut_110 (by decide) (by decide) hq42 rfl ?_
          refine zr_iconst (v := 1) dX12_readCut_111 (by decide) ?_
          refine zr_iload_n dX12_readCut_112 rfl 0 rfl ?_
          refine zr_ishl dX12_readCut_113 ?_
          refine zr_ior dX12_readCut_114 ?_
          obtain ⟨hq43, T⟩ := T
          refine zn_iast (n := 202) (o := (Int32.toNatClampNeg (6 + (M40.1 229 13)))) dX12_readCut_115 (by decide) (by decide) hq43 rfl (fun M44 e45 => ?_)
          have T := T M44 e45
          refine zr_aload_n dX12_readCut_116 rfl 1 rfl ?_
          refine zm_callV_v (c := 12) (b := 229) dX12_readCut_117 w_X12_go l_X12_82 rfl (by decide) (by decide) s_X12_go [] rfl rfl (Nat.le_of_ble_eq_true rfl) (Nat.le_of_ble_eq_true rfl) ?_
          refine zV.post T ?_
          rintro v M47 ⟨rfl, T⟩
          refine ⟨rfl, ?_⟩
          refine zr_iconst (v := 1) dX12_readCut_120 (by decide) ?_
          exact zm_zret dX12_readCut_121 rfl (by decide) T
        · have T := T.2 h37
          refine zr_aload_n dX12_readCut_74 rfl 1 rfl ?_
          refine zr_iconst (v := 3) dX12_readCut_75 (by decide) ?_
          refine zm_callV_b (c := 12) (b := 229) dX12_readCut_76 w_X12_bad l_X12_72 rfl (by decide) (by decide) s_X12_bad [.int 3] rfl rfl (Nat.le_of_ble_eq_true rfl) (Nat.le_of_ble_eq_true rfl) ?_
          refine zV.post T ?_
          rintro v M49 ⟨r48, rfl, T⟩
          refine ⟨r48, rfl, ?_⟩
          exact zm_zret dX12_readCut_79 rfl (bi_01 _) T
    · have T := T.2 h30
      refine zr_iconst (v := 0) dX12_readCut_45 (by decide) ?_
      exact zm_zret dX12_readCut_46 rfl (by decide) T
  · have T := T.2 h25
    refine zr_iconst (v := 0) dX12_readCut_19 (by decide) ?_
    exact zm_zret dX12_readCut_20 rfl (by decide) T
set_option maxRecDepth 100000 in
set_option maxHeartbeats 4000000 in
theorem t_X12_has {d : Nat} {x0 : Int32} {x1 : Int32} {M : zMem} {K : zK} 
    (T : (¬ ((x0 >>> (x1 &&& 31)) &&& 1) = 1 → K (some (.int 0)) M) ∧ (((x0 >>> (x1 &&& 31)) &&& 1) = 1 → K (some (.int 1)) M)) : S_X12_has d x0 x1 M K := by
  show zV m_X12_has d 0 [(0, .int x0), (1, .int x1)] [] M K
  refine zr_iload_n dX12_has_0 rfl 0 rfl ?_
  refine zr_iload_n dX12_has_1 rfl 1 rfl ?_
  refine zr_ishr dX12_has_2 ?_
  refine zr_iconst (v := 1) dX12_has_3 (by decide) ?_
  refine zr_iand dX12_has_4 ?_
  refine zr_iconst (v := 1) dX12_has_5 (by decide) ?_
  refine zr_icmp_ne (tgt := 13) dX12_has_6 (by decide) (fun h21 => ?_) (fun h21 => ?_)
  · have T := T.1 h21
    refine zr_iconst (v := 0) dX12_has_13 (by decide) ?_
    exact zm_zret dX12_has_14 rfl (by decide) T
  · have T := T.2 h21
    refine zr_iconst (v := 1) dX12_has_9 (by decide) ?_
    refine zr_goto (tgt := 14) dX12_has_10 (by decide) ?_
    exact zm_zret dX12_has_14 rfl (by decide) T
set_option maxRecDepth 100000 in
set_option maxHeartbeats 4000000 in
theorem t_X12_readEnd {d : Nat}  {M : zMem} {K : zK} 
    (T : S_X12_isSign d 59 M (zB (fun r21 M22 => (r21 = true → S_X12_go d  M22 (zU (fun M25 => K (some (.int 1)) M25))) ∧ (r21 = false → S_X12_bad d 1 M22 (zB (fun r26 M27 => K (some (.int (bi r26))) M27)))))) : S_X12_readEnd (d + 1)  M K := by
  show zV m_X12_readEnd (d + 1) 0 [(0, .ref 229)] [] M K
  refine zr_aload_n dX12_readEnd_0 rfl 0 rfl ?_
  refine zr_bipush (v := 59) dX12_readEnd_1 (by decide) ?_
  refine zm_callV_b (c := 12) (b := 229) dX12_readEnd_3 w_X12_isSign l_X12_86 rfl (by decide) (by decide) s_X12_isSign [.int 59] rfl rfl (Nat.le_of_ble_eq_true rfl) (Nat.le_of_ble_eq_true rfl) ?_
  refine zV.post T ?_
  rintro v M22 ⟨r21, rfl, T⟩
  refine ⟨r21, rfl, ?_⟩
  refine zm_ifb_ne (tgt := 15) dX12_readEnd_6 (by decide) (fun h23 => ?_) (fun h23 => ?_)
  · have T := T.1 h23
    refine zr_aload_n dX12_readEnd_15 rfl 0 rfl ?_
    refine zm_callV_v (c := 12) (b := 229) dX12_readEnd_16 w_X12_go l_X12_82 rfl (by decide) (by decide) s_X12_go [] rfl rfl (Nat.le_of_ble_eq_true rfl) (Nat.le_of_ble_eq_true rfl) ?_
    refine zV.post T ?_
    rintro v M25 ⟨rfl, T⟩
    refine ⟨rfl, ?_⟩
    refine zr_iconst (v := 1) dX12_readEnd_19 (by decide) ?_
    exact zm_zret dX12_readEnd_20 rfl (by decide) T
  · have T := T.2 h23
    refine zr_aload_n dX12_readEnd_9 rfl 0 rfl ?_
    refine zr_iconst (v := 1) dX12_readEnd_10 (by decide) ?_
    refine zm_callV_b (c := 12) (b := 229) dX12_readEnd_11 w_X12_bad l_X12_72 rfl (by decide) (by decide) s_X12_bad [.int 1] rfl rfl (Nat.le_of_ble_eq_true rfl) (Nat.le_of_ble_eq_true rfl) ?_
    refine zV.post T ?_
    rintro v M27 ⟨r26, rfl, T⟩
    refine ⟨r26, rfl, ?_⟩
    exact zm_zret dX12_readEnd_14 rfl (bi_01 _) T
set_option maxRecDepth 100000 in
set_option maxHeartbeats 4000000 in
theorem t_X12_isSign {d : Nat} {x1 : Int32} {M : zMem} {K : zK} 
    (T : (¬ (M.1 229 7) = 4 → K (some (.int 0)) M) ∧ ((M.1 229 7) = 4 → (¬ (M.1 229 9) = x1 → K (some (.int 0)) M) ∧ ((M.1 229 9) = x1 → K (some (.int 1)) M))) : S_X12_isSign d x1 M K := by
  show zV m_X12_isSign d 0 [(0, .ref 229), (1, .int x1)] [] M K
  refine zr_aload_n dX12_isSign_0 rfl 0 rfl ?_
  refine zm_geti dX12_isSign_1 f_X12_30 (by decide) (by decide) (by decide) ?_
  refine zr_iconst (v := 4) dX12_isSign_4 (by decide) ?_
  refine zr_icmp_ne (tgt := 20) dX12_isSign_5 (by decide) (fun h21 => ?_) (fun h21 => ?_)
  · have T := T.1 h21
    refine zr_iconst (v := 0) dX12_isSign_20 (by decide) ?_
    exact zm_zret dX12_isSign_21 rfl (by decide) T
  · have T := T.2 h21
    refine zr_aload_n dX12_isSign_8 rfl 0 rfl ?_
    refine zm_geti dX12_isSign_9 f_X12_40 (by decide) (by decide) (by decide) ?_
    refine zr_iload_n dX12_isSign_12 rfl 1 rfl ?_
    refine zr_icmp_ne (tgt := 20) dX12_isSign_13 (by decide) (fun h22 => ?_) (fun h22 => ?_)
    · have T := T.1 h22
      refine zr_iconst (v := 0) dX12_isSign_20 (by decide) ?_
      exact zm_zret dX12_isSign_21 rfl (by decide) T
    · have T := T.2 h22
      refine zr_iconst (v := 1) dX12_isSign_16 (by decide) ?_
      refine zr_goto (tgt := 21) dX12_isSign_17 (by decide) ?_
      exact zm_zret dX12_isSign_21 rfl (by decide) T
set_option maxRecDepth 100000 in
set_option maxHeartbeats 4000000 in
theorem t_X12_startSo {d : Nat}  {M : zMem} {K : zK} 
    (T : S_X12_startSo_4 (d + 1) 202 M K) : S_X12_startSo (d + 1)  M K := by
  show zV m_X12_startSo (d + 1) 0 [(0, .ref 229)] [] M K
  refine zr_sipush (v := 202) dX12_startSo_0 (by decide) ?_
  refine zr_istore_n dX12_startSo_3 rfl (by decide) (L2 := [(1, .int 202), (0, .ref 229)]) rfl ?_
  exact zV.pick [1, 0] rfl T
set_option maxRecDepth 100000 in
set_option maxHeartbeats 4000000 in
theorem t_X12_startSo_4 {d : Nat} {x1 : Int32} {M : zMem} {K : zK} 
    (T : (647 ≤ x1 → (∀ M22 : zMem, M22 = wI M 231 204 (M.1 231 5) → S_X12_startSo_40 (d + 1) 0 M22 K)) ∧ (¬ (647 ≤ x1) → vp_in x1 647 ∧ ((∀ M25 : zMem, M25 = wI M 231 (Int32.toNatClampNeg x1) 0 → S_X12_startSo_4 (d + 1) (x1 + 1) M25 K)))) : S_X12_startSo_4 (d + 1) x1 M K := by
  show zV m_X12_startSo (d + 1) 4 [(0, .ref 229), (1, .int x1)] [] M K
  refine zr_iload_n dX12_startSo_4 rfl 1 rfl ?_
  refine zr_sipush (v := 647) dX12_startSo_5 (by decide) ?_
  refine zr_icmp_ge (tgt := 24) dX12_startSo_8 (by decide) (fun h21 => ?_) (fun h21 => ?_)
  · have T := T.1 h21
    refine zr_aload_n dX12_startSo_24 rfl 0 rfl ?_
    refine zm_getr (a := 231) dX12_startSo_25 f_X12_98 (by decide) (by decide) (by decide) (by decide) ?_
    refine zr_sipush (v := 204) dX12_startSo_28 (by decide) ?_
    refine zr_aload_n dX12_startSo_31 rfl 0 rfl ?_
    refine zm_getr (a := 231) dX12_startSo_32 f_X12_98 (by decide) (by decide) (by decide) (by decide) ?_
    refine zr_iconst (v := 5) dX12_startSo_35 (by decide) ?_
    refine zm_iald (n := 647) (o := 5) dX12_startSo_36 (by decide) (by decide) (zin (by decide)) (by decide) ?_
    refine zn_iast (n := 647) (o := 204) dX12_startSo_37 (by decide) (by decide) (zin (by decide)) (by decide) (fun M22 e23 => ?_)
    have T := T M22 e23
    refine zr_iconst (v := 0) dX12_startSo_38 (by decide) ?_
    refine zr_istore_n dX12_startSo_39 rfl (by decide) (L2 := [(1, .int 0), (0, .ref 229)]) rfl ?_
    exact zV.pick [1, 0] rfl T
  · have T := T.2 h21
    refine zr_aload_n dX12_startSo_11 rfl 0 rfl ?_
    refine zm_getr (a := 231) dX12_startSo_12 f_X12_98 (by decide) (by decide) (by decide) (by decide) ?_
    refine zr_iload_n dX12_startSo_15 rfl 1 rfl ?_
    refine zr_iconst (v := 0) dX12_startSo_16 (by decide) ?_
    obtain ⟨hq24, T⟩ := T
    refine zn_iast (n := 647) (o := (Int32.toNatClampNeg x1)) dX12_startSo_17 (by decide) (by decide) hq24 rfl (fun M25 e26 => ?_)
    have T := T M25 e26
    refine zr_iinc (n := 1) (v := x1 + 1) dX12_startSo_18 rfl rfl (by decide) (L2 := [(1, .int (x1 + 1)), (0, .ref 229)]) rfl ?_
    refine zr_goto (tgt := 4) dX12_startSo_21 (by decide) ?_
    exact zV.pick [1, 0] rfl T
set_option maxRecDepth 100000 in
set_option maxHeartbeats 4000000 in
theorem t_X12_startSo_40 {d : Nat} {x1 : Int32} {M : zMem} {K : zK} 
    (T : (4 ≤ x1 → S_X12_startSo_72 (d + 1) 0 M K) ∧ (¬ (4 ≤ x1) → vp_in (6 + x1) 647 ∧ (vp_in (205 + x1) 647 ∧ ((∀ M24 : zMem, M24 = wI M 231 (Int32.toNatClampNeg (205 + x1)) (M.1 231 (Int32.toNatClampNeg (6 + x1))) → S_X12_startSo_40 (d + 1) (x1 + 1) M24 K))))) : S_X12_startSo_40 (d + 1) x1 M K := by
  show zV m_X12_startSo (d + 1) 40 [(0, .ref 229), (1, .int x1)] [] M K
  refine zr_iload_n dX12_startSo_40 rfl 1 rfl ?_
  refine zr_iconst (v := 4) dX12_startSo_41 (by decide) ?_
  refine zr_icmp_ge (tgt := 70) dX12_startSo_42 (by decide) (fun h21 => ?_) (fun h21 => ?_)
  · have T := T.1 h21
    refine zr_iconst (v := 0) dX12_startSo_70 (by decide) ?_
    refine zr_istore_n dX12_startSo_71 rfl (by decide) (L2 := [(1, .int 0), (0, .ref 229)]) rfl ?_
    exact zV.pick [1, 0] rfl T
  · have T := T.2 h21
    refine zr_aload_n dX12_startSo_45 rfl 0 rfl ?_
    refine zm_getr (a := 231) dX12_startSo_46 f_X12_98 (by decide) (by decide) (by decide) (by decide) ?_
    refine zr_sipush (v := 205) dX12_startSo_49 (by decide) ?_
    refine zr_iload_n dX12_startSo_52 rfl 1 rfl ?_
    refine zr_iadd dX12_startSo_53 ?_
    refine zr_aload_n dX12_startSo_54 rfl 0 rfl ?_
    refine zm_getr (a := 231) dX12_startSo_55 f_X12_98 (by decide) (by decide) (by decide) (by decide) ?_
    refine zr_bipush (v := 6) dX12_startSo_58 (by decide) ?_
    refine zr_iload_n dX12_startSo_60 rfl 1 rfl ?_
    refine zr_iadd dX12_startSo_61 ?_
    obtain ⟨hq22, T⟩ := T
    refine zm_iald (n := 647) (o := (Int32.toNatClampNeg (6 + x1))) dX12_startSo_62 (by decide) (by decide) hq22 rfl ?_
    obtain ⟨hq23, T⟩ := T
    refine zn_iast (n := 647) (o := (Int32.toNatClampNeg (205 + x1))) dX12_startSo_63 (by decide) (by decide) hq23 rfl (fun M24 e25 => ?_)
    have T := T M24 e25
    refine zr_iinc (n := 1) (v := x1 + 1) dX12_startSo_64 rfl rfl (by decide) (L2 := [(1, .int (x1 + 1)), (0, .ref 229)]) rfl ?_
    refine zr_goto (tgt := 40) dX12_startSo_67 (by decide) ?_
    exact zV.pick [1, 0] rfl T
set_option maxRecDepth 100000 in
set_option maxHeartbeats 4000000 in
theorem t_X12_startSo_72 {d : Nat} {x1 : Int32} {M : zMem} {K : zK} 
    (T : (96 ≤ x1 → S_X12_layKeys d  M (zU (fun M23 => K none M23))) ∧ (¬ (96 ≤ x1) → vp_in (10 + x1) 647 ∧ (vp_in (213 + x1) 647 ∧ ((∀ M26 : zMem, M26 = wI M 231 (Int32.toNatClampNeg (213 + x1)) (M.1 231 (Int32.toNatClampNeg (10 + x1))) → vp_in (106 + x1) 647 ∧ (vp_in (309 + x1) 647 ∧ ((∀ M30 : zMem, M30 = wI M26 231 (Int32.toNatClampNeg (309 + x1)) (M26.1 231 (Int32.toNatClampNeg (106 + x1))) → S_X12_startSo_72 (d + 1) (x1 + 1) M30 K)))))))) : S_X12_startSo_72 (d + 1) x1 M K := by
  show zV m_X12_startSo (d + 1) 72 [(0, .ref 229), (1, .int x1)] [] M K
  refine zr_iload_n dX12_startSo_72 rfl 1 rfl ?_
  refine zr_bipush (v := 96) dX12_startSo_73 (by decide) ?_
  refine zr_icmp_ge (tgt := 122) dX12_startSo_75 (by decide) (fun h21 => ?_) (fun h21 => ?_)
  · have T := T.1 h21
    refine zr_aload_n dX12_startSo_122 rfl 0 rfl ?_
    refine zm_callV_v (c := 12) (b := 229) dX12_startSo_123 w_X12_layKeys l_X12_199 rfl (by decide) (by decide) s_X12_layKeys [] rfl rfl (Nat.le_of_ble_eq_true rfl) (Nat.le_of_ble_eq_true rfl) ?_
    refine zV.post T ?_
    rintro v M23 ⟨rfl, T⟩
    refine ⟨rfl, ?_⟩
    exact zm_vret dX12_startSo_126 rfl T
  · have T := T.2 h21
    refine zr_aload_n dX12_startSo_78 rfl 0 rfl ?_
    refine zm_getr (a := 231) dX12_startSo_79 f_X12_98 (by decide) (by decide) (by decide) (by decide) ?_
    refine zr_sipush (v := 213) dX12_startSo_82 (by decide) ?_
    refine zr_iload_n dX12_startSo_85 rfl 1 rfl ?_
    refine zr_iadd dX12_startSo_86 ?_
    refine zr_aload_n dX12_startSo_87 rfl 0 rfl ?_
    refine zm_getr (a := 231) dX12_startSo_88 f_X12_98 (by decide) (by decide) (by decide) (by decide) ?_
    refine zr_bipush (v := 10) dX12_startSo_91 (by decide) ?_
    refine zr_iload_n dX12_startSo_93 rfl 1 rfl ?_
    refine zr_iadd dX12_startSo_94 ?_
    obtain ⟨hq24, T⟩ := T
    refine zm_iald (n := 647) (o := (Int32.toNatClampNeg (10 + x1))) dX12_startSo_95 (by decide) (by decide) hq24 rfl ?_
    obtain ⟨hq25, T⟩ := T
    refine zn_iast (n := 647) (o := (Int32.toNatClampNeg (213 + x1))) dX12_startSo_96 (by decide) (by decide) hq25 rfl (fun M26 e27 => ?_)
    have T := T M26 e27
    refine zr_aload_n dX12_startSo_97 rfl 0 rfl ?_
    refine zm_getr (a := 231) dX12_startSo_98 f_X12_98 (by decide) (by decide) (by decide) (by decide) ?_
    refine zr_sipush (v := 309) dX12_startSo_101 (by decide) ?_
    refine zr_iload_n dX12_startSo_104 rfl 1 rfl ?_
    refine zr_iadd dX12_startSo_105 ?_
    refine zr_aload_n dX12_startSo_106 rfl 0 rfl ?_
    refine zm_getr (a := 231) dX12_startSo_107 f_X12_98 (by decide) (by decide) (by decide) (by decide) ?_
    refine zr_bipush (v := 106) dX12_startSo_110 (by decide) ?_
    refine zr_iload_n dX12_startSo_112 rfl 1 rfl ?_
    refine zr_iadd dX12_startSo_113 ?_
    obtain ⟨hq28, T⟩ := T
    refine zm_iald (n := 647) (o := (Int32.toNatClampNeg (106 + x1))) dX12_startSo_114 (by decide) (by decide) hq28 rfl ?_
    obtain ⟨hq29, T⟩ := T
    refine zn_iast (n := 647) (o := (Int32.toNatClampNeg (309 + x1))) dX12_startSo_115 (by decide) (by decide) hq29 rfl (fun M30 e31 => ?_)
    have T := T M30 e31
    refine zr_iinc (n := 1) (v := x1 + 1) dX12_startSo_116 rfl rfl (by decide) (L2 := [(1, .int (x1 + 1)), (0, .ref 229)]) rfl ?_
    refine zr_goto (tgt := 72) dX12_startSo_119 (by decide) ?_
    exact zV.pick [1, 0] rfl T
set_option maxRecDepth 100000 in
set_option maxHeartbeats 4000000 in
theorem t_X12_layKeys {d : Nat}  {M : zMem} {K : zK} 
    (T : S_X12_layKeys_9 (d + 1) (M.1 231 0) 0 M K) : S_X12_layKeys (d + 1)  M K := by
  show zV m_X12_layKeys (d + 1) 0 [(0, .ref 229)] [] M K
  refine zr_aload_n dX12_layKeys_0 rfl 0 rfl ?_
  refine zm_getr (a := 231) dX12_layKeys_1 f_X12_98 (by decide) (by decide) (by decide) (by decide) ?_
  refine zr_iconst (v := 0) dX12_layKeys_4 (by decide) ?_
  refine zm_iald (n := 647) (o := 0) dX12_layKeys_5 (by decide) (by decide) (zin (by decide)) (by decide) ?_
  refine zr_istore_n dX12_layKeys_6 rfl (by decide) (L2 := [(1, .int (M.1 231 0)), (0, .ref 229)]) rfl ?_
  refine zr_iconst (v := 0) dX12_layKeys_7 (by decide) ?_
  refine zr_istore_n dX12_layKeys_8 rfl (by decide) (L2 := [(2, .int 0), (1, .int (M.1 231 0)), (0, .ref 229)]) rfl ?_
  exact zV.pick [2, 1, 0] rfl T
set_option maxRecDepth 100000 in
set_option maxHeartbeats 4000000 in
theorem t_X12_layKeys_9 {d : Nat} {x1 : Int32} {x2 : Int32} {M : zMem} {K : zK} 
    (T : (x1 ≤ x2 → K none M) ∧ (¬ (x1 ≤ x2) → vp_in x2 28 ∧ (S_X12_digestOf d (M.2 237 (Int32.toNatClampNeg x2)) M (zI (fun r23 M24 => vp_in x2 24 ∧ ((∀ M26 : zMem, M26 = wI M24 242 (Int32.toNatClampNeg x2) r23 → vp_in x2 24 ∧ (S_X12_zeros d (M26.1 242 (Int32.toNatClampNeg x2)) M26 (zI (fun r29 M30 => (¬ (M30.1 231 2) = 0) ∧ (vp_in x2 24 ∧ ((∀ M33 : zMem, M33 = wI M30 243 (Int32.toNatClampNeg x2) (r29 / (M30.1 231 2)) → S_X12_layKeys_56 (d + 1) x1 x2 0 0 M33 K))))))))))))) : S_X12_layKeys_9 (d + 1) x1 x2 M K := by
  show zV m_X12_layKeys (d + 1) 9 [(0, .ref 229), (1, .int x1), (2, .int x2)] [] M K
  refine zr_iload_n dX12_layKeys_9 rfl 2 rfl ?_
  refine zr_iload_n dX12_layKeys_10 rfl 1 rfl ?_
  refine zr_icmp_ge (tgt := 114) dX12_layKeys_11 (by decide) (fun h21 => ?_) (fun h21 => ?_)
  · have T := T.1 h21
    exact zm_vret dX12_layKeys_114 rfl T
  · have T := T.2 h21
    refine zr_aload_n dX12_layKeys_14 rfl 0 rfl ?_
    refine zm_getr (a := 242) dX12_layKeys_15 f_X12_136 (by decide) (by decide) (by decide) (by decide) ?_
    refine zr_iload_n dX12_layKeys_18 rfl 2 rfl ?_
    refine zr_aload_n dX12_layKeys_19 rfl 0 rfl ?_
    refine zm_getr (a := 237) dX12_layKeys_20 f_X12_116 (by decide) (by decide) (by decide) (by decide) ?_
    refine zr_iload_n dX12_layKeys_23 rfl 2 rfl ?_
    obtain ⟨hq22, T⟩ := T
    refine zm_lald (n := 28) (o := (Int32.toNatClampNeg x2)) dX12_layKeys_24 (by decide) (by decide) hq22 rfl ?_
    refine zm_callS_i dX12_layKeys_25 w_X12_digestOf l_X12_282 s_X12_digestOf [.long (M.2 237 (Int32.toNatClampNeg x2))] rfl rfl (Nat.le_of_ble_eq_true rfl) (Nat.le_of_ble_eq_true rfl) ?_
    refine zV.post T ?_
    rintro v M24 ⟨r23, rfl, T⟩
    refine ⟨r23, rfl, ?_⟩
    obtain ⟨hq25, T⟩ := T
    refine zn_iast (n := 24) (o := (Int32.toNatClampNeg x2)) dX12_layKeys_28 (by decide) (by decide) hq25 rfl (fun M26 e27 => ?_)
    have T := T M26 e27
    refine zr_aload_n dX12_layKeys_29 rfl 0 rfl ?_
    refine zm_getr (a := 243) dX12_layKeys_30 f_X12_139 (by decide) (by decide) (by decide) (by decide) ?_
    refine zr_iload_n dX12_layKeys_33 rfl 2 rfl ?_
    refine zr_aload_n dX12_layKeys_34 rfl 0 rfl ?_
    refine zm_getr (a := 242) dX12_layKeys_35 f_X12_136 (by decide) (by decide) (by decide) (by decide) ?_
    refine zr_iload_n dX12_layKeys_38 rfl 2 rfl ?_
    obtain ⟨hq28, T⟩ := T
    refine zm_iald (n := 24) (o := (Int32.toNatClampNeg x2)) dX12_layKeys_39 (by decide) (by decide) hq28 rfl ?_
    refine zm_callS_i dX12_layKeys_40 w_X12_zeros l_X12_285 s_X12_zeros [.int (M26.1 242 (Int32.toNatClampNeg x2))] rfl rfl (Nat.le_of_ble_eq_true rfl) (Nat.le_of_ble_eq_true rfl) ?_
    refine zV.post T ?_
    rintro v M30 ⟨r29, rfl, T⟩
    refine ⟨r29, rfl, ?_⟩
    refine zr_aload_n dX12_layKeys_43 rfl 0 rfl ?_
    refine zm_getr (a := 231) dX12_layKeys_44 f_X12_98 (by decide) (by decide) (by decide) (by decide) ?_
    refine zr_iconst (v := 2) dX12_layKeys_47 (by decide) ?_
    refine zm_iald (n := 647) (o := 2) dX12_layKeys_48 (by decide) (by decide) (zin (by decide)) (by decide) ?_
    obtain ⟨hz31, T⟩ := T
    refine zr_idiv dX12_layKeys_49 hz31 ?_
    obtain ⟨hq32, T⟩ := T
    refine zn_iast (n := 24) (o := (Int32.toNatClampNeg x2)) dX12_layKeys_50 (by decide) (by decide) hq32 rfl (fun M33 e34 => ?_)
    have T := T M33 e34
    refine zr_iconst (v := 0) dX12_layKeys_51 (by decide) ?_
    refine zr_istore_n dX12_layKeys_52 rfl (by decide) (L2 := [(3, .int 0), (0, .ref 229), (1, .int x1), (2, .int x2)]) rfl ?_
    refine zr_iconst (v := 0) dX12_layKeys_53 (by decide) ?_
    refine zr_istore dX12_layKeys_54 (by decide) (L2 := [(4, .int 0), (3, .int 0), (0, .ref 229), (1, .int x1), (2, .int x2)]) rfl ?_
    exact zV.pick [2, 3, 4, 1, 0] rfl T
set_option maxRecDepth 100000 in
set_option maxHeartbeats 4000000 in
theorem t_X12_layKeys_56 {d : Nat} {x1 : Int32} {x2 : Int32} {x3 : Int32} {x4 : Int32} {M : zMem} {K : zK} 
    (T : (x1 ≤ x4 → vp_in x3 24 ∧ ((∀ M23 : zMem, M23 = wI M 244 (Int32.toNatClampNeg x3) x2 → vp_in x2 24 ∧ ((∀ M26 : zMem, M26 = wI M23 245 (Int32.toNatClampNeg x2) x3 → S_X12_layKeys_9 (d + 1) x1 (x2 + 1) M26 K))))) ∧ (¬ (x1 ≤ x4) → vp_in x4 28 ∧ (S_X12_long7 d (M.2 237 (Int32.toNatClampNeg x4)) M (zJ (fun r29 M30 => vp_in x2 28 ∧ (S_X12_long7 d (M30.2 237 (Int32.toNatClampNeg x2)) M30 (zJ (fun r32 M33 => (0 ≤ (lg_cmp r29 r32) → S_X12_layKeys_56 (d + 1) x1 x2 x3 (x4 + 1) M33 K) ∧ (¬ (0 ≤ (lg_cmp r29 r32)) → S_X12_layKeys_56 (d + 1) x1 x2 (x3 + 1) (x4 + 1) M33 K))))))))) : S_X12_layKeys_56 (d + 1) x1 x2 x3 x4 M K := by
  show zV m_X12_layKeys (d + 1) 56 [(0, .ref 229), (1, .int x1), (2, .int x2), (3, .int x3), (4, .int x4)] [] M K
  refine zr_iload dX12_layKeys_56 4 rfl ?_
  refine zr_iload_n dX12_layKeys_58 rfl 1 rfl ?_
  refine zr_icmp_ge (tgt := 94) dX12_layKeys_59 (by decide) (fun h21 => ?_) (fun h21 => ?_)
  · have T := T.1 h21
    refine zr_aload_n dX12_layKeys_94 rfl 0 rfl ?_
    refine zm_getr (a := 244) dX12_layKeys_95 f_X12_142 (by decide) (by decide) (by decide) (by decide) ?_
    refine zr_iload_n dX12_layKeys_98 rfl 3 rfl ?_
    refine zr_iload_n dX12_layKeys_99 rfl 2 rfl ?_
    obtain ⟨hq22, T⟩ := T
    refine zn_iast (n := 24) (o := (Int32.toNatClampNeg x3)) dX12_layKeys_100 (by decide) (by decide) hq22 rfl (fun M23 e24 => ?_)
    have T := T M23 e24
    refine zr_aload_n dX12_layKeys_101 rfl 0 rfl ?_
    refine zm_getr (a := 245) dX12_layKeys_102 f_X12_145 (by decide) (by decide) (by decide) (by decide) ?_
    refine zr_iload_n dX12_layKeys_105 rfl 2 rfl ?_
    refine zr_iload_n dX12_layKeys_106 rfl 3 rfl ?_
    obtain ⟨hq25, T⟩ := T
    refine zn_iast (n := 24) (o := (Int32.toNatClampNeg x2)) dX12_layKeys_107 (by decide) (by decide) hq25 rfl (fun M26 e27 => ?_)
    have T := T M26 e27
    refine zr_iinc (n := 2) (v := x2 + 1) dX12_layKeys_108 rfl rfl (by decide) (L2 := [(2, .int (x2 + 1)), (0, .ref 229), (1, .int x1), (3, .int x3), (4, .int x4)]) rfl ?_
    refine zr_goto (tgt := 9) dX12_layKeys_111 (by decide) ?_
    exact zV.pick [1, 2, 0] rfl T
  · have T := T.2 h21
    refine zr_aload_n dX12_layKeys_62 rfl 0 rfl ?_
    refine zm_getr (a := 237) dX12_layKeys_63 f_X12_116 (by decide) (by decide) (by decide) (by decide) ?_
    refine zr_iload dX12_layKeys_66 4 rfl ?_
    obtain ⟨hq28, T⟩ := T
    refine zm_lald (n := 28) (o := (Int32.toNatClampNeg x4)) dX12_layKeys_68 (by decide) (by decide) hq28 rfl ?_
    refine zm_callS_j dX12_layKeys_69 w_X12_long7 l_X12_272 s_X12_long7 [.long (M.2 237 (Int32.toNatClampNeg x4))] rfl rfl (Nat.le_of_ble_eq_true rfl) (Nat.le_of_ble_eq_true rfl) ?_
    refine zV.post T ?_
    rintro v M30 ⟨r29, rfl, T⟩
    refine ⟨r29, rfl, ?_⟩
    refine zr_aload_n dX12_layKeys_72 rfl 0 rfl ?_
    refine zm_getr (a := 237) dX12_layKeys_73 f_X12_116 (by decide) (by decide) (by decide) (by decide) ?_
    refine zr_iload_n dX12_layKeys_76 rfl 2 rfl ?_
    obtain ⟨hq31, T⟩ := T
    refine zm_lald (n := 28) (o := (Int32.toNatClampNeg x2)) dX12_layKeys_77 (by decide) (by decide) hq31 rfl ?_
    refine zm_callS_j dX12_layKeys_78 w_X12_long7 l_X12_272 s_X12_long7 [.long (M30.2 237 (Int32.toNatClampNeg x2))] rfl rfl (Nat.le_of_ble_eq_true rfl) (Nat.le_of_ble_eq_true rfl) ?_
    refine zV.post T ?_
    rintro v M33 ⟨r32, rfl, T⟩
    refine ⟨r32, rfl, ?_⟩
    refine zr_lcmp dX12_layKeys_81 ?_
    refine zr_if_ge (tgt := 88) dX12_layKeys_82 (by decide) (fun h34 => ?_) (fun h34 => ?_)
    · have T := T.1 h34
      refine zr_iinc (n := 4) (v := x4 + 1) dX12_layKeys_88 rfl rfl (by decide) (L2 := [(4, .int (x4 + 1)), (0, .ref 229), (1, .int x1), (2, .int x2), (3, .int x3)]) rfl ?_
      refine zr_goto (tgt := 56) dX12_layKeys_91 (by decide) ?_
      exact zV.pick [1, 2, 3, 4, 0] rfl T
    · have T := T.2 h34
      refine zr_iinc (n := 3) (v := x3 + 1) dX12_layKeys_85 rfl rfl (by decide) (L2 := [(3, .int (x3 + 1)), (0, .ref 229), (1, .int x1), (2, .int x2), (4, .int x4)]) rfl ?_
      refine zr_iinc (n := 4) (v := x4 + 1) dX12_layKeys_88 rfl rfl (by decide) (L2 := [(4, .int (x4 + 1)), (3, .int (x3 + 1)), (0, .ref 229), (1, .int x1), (2, .int x2)]) rfl ?_
      refine zr_goto (tgt := 56) dX12_layKeys_91 (by decide) ?_
      exact zV.pick [2, 3, 4, 1, 0] rfl T
set_option maxRecDepth 100000 in
set_option maxHeartbeats 4000000 in
theorem t_X12_digestOf {d : Nat} {w0 : Int64} {M : zMem} {K : zK} 
    (T : S_X12_long7 d w0 M (zJ (fun r21 M22 => S_X12_letters d w0 M22 (zI (fun r23 M24 => S_X12_digestOf_20 (d + 1) (-2128831035) r21 387420489 r23 M24 K))))) : S_X12_digestOf (d + 1) w0 M K := by
  show zV m_X12_digestOf (d + 1) 0 [(0, .long w0)] [] M K
  refine zr_ldcw (v := (-2128831035)) dX12_digestOf_0 k_X12_271 ?_
  refine zr_istore_n dX12_digestOf_3 rfl (by decide) (L2 := [(2, .int (-2128831035)), (0, .long w0)]) rfl ?_
  refine zr_lload_n dX12_digestOf_4 rfl 1 rfl ?_
  refine zm_callS_j dX12_digestOf_5 w_X12_long7 l_X12_272 s_X12_long7 [.long w0] rfl rfl (Nat.le_of_ble_eq_true rfl) (Nat.le_of_ble_eq_true rfl) ?_
  refine zV.post T ?_
  rintro v M22 ⟨r21, rfl, T⟩
  refine ⟨r21, rfl, ?_⟩
  refine zr_lstore_n dX12_digestOf_8 rfl (by decide) (L2 := [(3, .long r21), (2, .int (-2128831035)), (0, .long w0)]) rfl ?_
  refine zr_ldc2 (v := 387420489) dX12_digestOf_9 k_X12_276 ?_
  refine zr_lstore dX12_digestOf_12 (by decide) (L2 := [(5, .long 387420489), (3, .long r21), (2, .int (-2128831035)), (0, .long w0)]) rfl ?_
  refine zr_lload_n dX12_digestOf_14 rfl 3 rfl ?_
  refine zm_callS_i dX12_digestOf_15 w_X12_letters l_X12_267 s_X12_letters [.long w0] rfl rfl (Nat.le_of_ble_eq_true rfl) (Nat.le_of_ble_eq_true rfl) ?_
  refine zV.post T ?_
  rintro v M24 ⟨r23, rfl, T⟩
  refine ⟨r23, rfl, ?_⟩
  refine zr_istore dX12_digestOf_18 (by decide) (L2 := [(7, .int r23), (5, .long 387420489), (3, .long r21), (2, .int (-2128831035)), (0, .long w0)]) rfl ?_
  exact zV.pick [3, 2, 1, 0] rfl T
set_option maxRecDepth 100000 in
set_option maxHeartbeats 4000000 in
theorem t_X12_digestOf_20 {d : Nat} {x2 : Int32} {w3 : Int64} {w5 : Int64} {x7 : Int32} {M : zMem} {K : zK} 
    (T : (x7 ≤ 0 → K (some (.int x2)) M) ∧ (¬ (x7 ≤ 0) → (¬ w5 = 0) ∧ (S_X12_mix d x2 (96 + (Int64.toInt32 ((w3 / w5) - (w3 / w5) / 27 * 27))) M (zI (fun r23 M24 => S_X12_digestOf_20 (d + 1) r23 w3 (w5 / 27) (x7 + (-1)) M24 K))))) : S_X12_digestOf_20 (d + 1) x2 w3 w5 x7 M K := by
  show zV m_X12_digestOf (d + 1) 20 [(2, .int x2), (3, .long w3), (5, .long w5), (7, .int x7)] [] M K
  refine zr_iload dX12_digestOf_20 3 rfl ?_
  refine zr_if_le (tgt := 56) dX12_digestOf_22 (by decide) (fun h21 => ?_) (fun h21 => ?_)
  · have T := T.1 h21
    refine zr_iload_n dX12_digestOf_56 rfl 0 rfl ?_
    exact zm_iret dX12_digestOf_57 rfl T
  · have T := T.2 h21
    refine zr_iload_n dX12_digestOf_25 rfl 0 rfl ?_
    refine zr_bipush (v := 96) dX12_digestOf_26 (by decide) ?_
    refine zr_lload_n dX12_digestOf_28 rfl 1 rfl ?_
    refine zr_lload dX12_digestOf_29 2 rfl ?_
    obtain ⟨hz22, T⟩ := T
    refine zr_ldiv dX12_digestOf_31 hz22 ?_
    refine zr_ldc2 (v := 27) dX12_digestOf_32 k_X12_54 ?_
    refine zr_lrem dX12_digestOf_35 (by decide) ?_
    refine zr_l2i dX12_digestOf_36 ?_
    refine zr_iadd dX12_digestOf_37 ?_
    refine zm_callS_i dX12_digestOf_38 w_X12_mix l_X12_278 s_X12_mix [.int x2, .int (96 + (Int64.toInt32 ((w3 / w5) - (w3 / w5) / 27 * 27)))] rfl rfl (Nat.le_of_ble_eq_true rfl) (Nat.le_of_ble_eq_true rfl) ?_
    refine zV.post T ?_
    rintro v M24 ⟨r23, rfl, T⟩
    refine ⟨r23, rfl, ?_⟩
    refine zr_istore_n dX12_digestOf_41 rfl (by decide) (L2 := [(2, .int r23), (3, .long w3), (5, .long w5), (7, .int x7)]) rfl ?_
    refine zr_lload dX12_digestOf_42 2 rfl ?_
    refine zr_ldc2 (v := 27) dX12_digestOf_44 k_X12_54 ?_
    refine zr_ldiv dX12_digestOf_47 (by decide) ?_
    refine zr_lstore dX12_digestOf_48 (by decide) (L2 := [(5, .long (w5 / 27)), (2, .int r23), (3, .long w3), (7, .int x7)]) rfl ?_
    refine zr_iinc (n := 3) (v := x7 + (-1)) dX12_digestOf_50 rfl rfl (by decide) (L2 := [(7, .int (x7 + (-1))), (5, .long (w5 / 27)), (2, .int r23), (3, .long w3)]) rfl ?_
    refine zr_goto (tgt := 20) dX12_digestOf_53 (by decide) ?_
    exact zV.pick [2, 3, 1, 0] rfl T
set_option maxRecDepth 100000 in
set_option maxHeartbeats 4000000 in
theorem t_X12_long7 {d : Nat} {w0 : Int64} {M : zMem} {K : zK} 
    (T : S_X12_letters d w0 M (zI (fun r21 M22 => S_X12_long7_8 (d + 1) w0 r21 M22 K))) : S_X12_long7 (d + 1) w0 M K := by
  show zV m_X12_long7 (d + 1) 0 [(0, .long w0)] [] M K
  refine zr_lload_n dX12_long7_0 rfl 0 rfl ?_
  refine zr_lstore_n dX12_long7_1 rfl (by decide) (L2 := [(2, .long w0), (0, .long w0)]) rfl ?_
  refine zr_lload_n dX12_long7_2 rfl 1 rfl ?_
  refine zm_callS_i dX12_long7_3 w_X12_letters l_X12_267 s_X12_letters [.long w0] rfl rfl (Nat.le_of_ble_eq_true rfl) (Nat.le_of_ble_eq_true rfl) ?_
  refine zV.post T ?_
  rintro v M22 ⟨r21, rfl, T⟩
  refine ⟨r21, rfl, ?_⟩
  refine zr_istore dX12_long7_6 (by decide) (L2 := [(4, .int r21), (2, .long w0), (0, .long w0)]) rfl ?_
  exact zV.pick [1, 0] rfl T
set_option maxRecDepth 100000 in
set_option maxHeartbeats 4000000 in
theorem t_X12_long7_8 {d : Nat} {w2 : Int64} {x4 : Int32} {M : zMem} {K : zK} 
    (T : (7 ≤ x4 → K (some (.long w2)) M) ∧ (¬ (7 ≤ x4) → S_X12_long7_8 (d + 1) (w2 * 27) (x4 + 1) M K)) : S_X12_long7_8 (d + 1) w2 x4 M K := by
  show zV m_X12_long7 (d + 1) 8 [(2, .long w2), (4, .int x4)] [] M K
  refine zr_iload dX12_long7_8 1 rfl ?_
  refine zr_bipush (v := 7) dX12_long7_10 (by decide) ?_
  refine zr_icmp_ge (tgt := 27) dX12_long7_12 (by decide) (fun h21 => ?_) (fun h21 => ?_)
  · have T := T.1 h21
    refine zr_lload_n dX12_long7_27 rfl 0 rfl ?_
    exact zm_lret dX12_long7_28 rfl T
  · have T := T.2 h21
    refine zr_lload_n dX12_long7_15 rfl 0 rfl ?_
    refine zr_ldc2 (v := 27) dX12_long7_16 k_X12_54 ?_
    refine zr_lmul dX12_long7_19 ?_
    refine zr_lstore_n dX12_long7_20 rfl (by decide) (L2 := [(2, .long (w2 * 27)), (4, .int x4)]) rfl ?_
    refine zr_iinc (n := 1) (v := x4 + 1) dX12_long7_21 rfl rfl (by decide) (L2 := [(4, .int (x4 + 1)), (2, .long (w2 * 27))]) rfl ?_
    refine zr_goto (tgt := 8) dX12_long7_24 (by decide) ?_
    exact zV.pick [1, 0] rfl T
set_option maxRecDepth 100000 in
set_option maxHeartbeats 4000000 in
theorem t_X12_letters {d : Nat} {w0 : Int64} {M : zMem} {K : zK} 
    (T : S_X12_letters_4 d 0 w0 M K) : S_X12_letters d w0 M K := by
  show zV m_X12_letters d 0 [(0, .long w0)] [] M K
  refine zr_iconst (v := 0) dX12_letters_0 (by decide) ?_
  refine zr_istore_n dX12_letters_1 rfl (by decide) (L2 := [(2, .int 0), (0, .long w0)]) rfl ?_
  refine zr_lload_n dX12_letters_2 rfl 1 rfl ?_
  refine zr_lstore_n dX12_letters_3 rfl (by decide) (L2 := [(3, .long w0), (2, .int 0), (0, .long w0)]) rfl ?_
  exact zV.pick [1, 0] rfl T
set_option maxRecDepth 100000 in
set_option maxHeartbeats 4000000 in
theorem t_X12_letters_4 {d : Nat} {x2 : Int32} {w3 : Int64} {M : zMem} {K : zK} 
    (T : ((lg_cmp w3 0) ≤ 0 → K (some (.int x2)) M) ∧ (¬ ((lg_cmp w3 0) ≤ 0) → S_X12_letters_4 d (x2 + 1) (w3 / 27) M K)) : S_X12_letters_4 d x2 w3 M K := by
  show zV m_X12_letters d 4 [(2, .int x2), (3, .long w3)] [] M K
  refine zr_lload_n dX12_letters_4 rfl 1 rfl ?_
  refine zr_lconst (v := 0) dX12_letters_5 (by decide) ?_
  refine zr_lcmp dX12_letters_6 ?_
  refine zr_if_le (tgt := 22) dX12_letters_7 (by decide) (fun h21 => ?_) (fun h21 => ?_)
  · have T := T.1 h21
    refine zr_iload_n dX12_letters_22 rfl 0 rfl ?_
    exact zm_iret dX12_letters_23 rfl T
  · have T := T.2 h21
    refine zr_iinc (n := 0) (v := x2 + 1) dX12_letters_10 rfl rfl (by decide) (L2 := [(2, .int (x2 + 1)), (3, .long w3)]) rfl ?_
    refine zr_lload_n dX12_letters_13 rfl 1 rfl ?_
    refine zr_ldc2 (v := 27) dX12_letters_14 k_X12_54 ?_
    refine zr_ldiv dX12_letters_17 (by decide) ?_
    refine zr_lstore_n dX12_letters_18 rfl (by decide) (L2 := [(3, .long (w3 / 27)), (2, .int (x2 + 1))]) rfl ?_
    refine zr_goto (tgt := 4) dX12_letters_19 (by decide) ?_
    exact zV.pick [1, 0] rfl T
set_option maxRecDepth 100000 in
set_option maxHeartbeats 4000000 in
theorem t_X12_mix {d : Nat} {x0 : Int32} {x1 : Int32} {M : zMem} {K : zK} 
    (T : K (some (.int (((x0 ^^^ x1) * 16777619) ^^^ ((Int32.toUInt32 ((x0 ^^^ x1) * 16777619) >>> (Int32.toUInt32 15 &&& Int32.toUInt32 31)).toInt32)))) M) : S_X12_mix d x0 x1 M K := by
  show zV m_X12_mix d 0 [(0, .int x0), (1, .int x1)] [] M K
  refine zr_iload_n dX12_mix_0 rfl 0 rfl ?_
  refine zr_iload_n dX12_mix_1 rfl 1 rfl ?_
  refine zr_ixor dX12_mix_2 ?_
  refine zr_ldcw (v := 16777619) dX12_mix_3 k_X12_266 ?_
  refine zr_imul dX12_mix_6 ?_
  refine zr_istore_n dX12_mix_7 rfl (by decide) (L2 := [(2, .int ((x0 ^^^ x1) * 16777619)), (0, .int x0), (1, .int x1)]) rfl ?_
  refine zr_iload_n dX12_mix_8 rfl 0 rfl ?_
  refine zr_iload_n dX12_mix_9 rfl 0 rfl ?_
  refine zr_bipush (v := 15) dX12_mix_10 (by decide) ?_
  refine zr_iushr dX12_mix_12 ?_
  refine zr_ixor dX12_mix_13 ?_
  exact zm_iret dX12_mix_14 rfl T
set_option maxRecDepth 100000 in
set_option maxHeartbeats 4000000 in
theorem t_X12_zeros {d : Nat} {x0 : Int32} {M : zMem} {K : zK} 
    (T : (¬ x0 = 0 → S_X12_zeros_9 d x0 0 M K) ∧ (x0 = 0 → K (some (.int 32)) M)) : S_X12_zeros d x0 M K := by
  show zV m_X12_zeros d 0 [(0, .int x0)] [] M K
  refine zr_iload_n dX12_zeros_0 rfl 0 rfl ?_
  refine zr_if_ne (tgt := 7) dX12_zeros_1 (by decide) (fun h21 => ?_) (fun h21 => ?_)
  · have T := T.1 h21
    refine zr_iconst (v := 0) dX12_zeros_7 (by decide) ?_
    refine zr_istore_n dX12_zeros_8 rfl (by decide) (L2 := [(1, .int 0), (0, .int x0)]) rfl ?_
    exact zV.pick [1, 0] rfl T
  · have T := T.2 h21
    refine zr_bipush (v := 32) dX12_zeros_4 (by decide) ?_
    exact zm_iret dX12_zeros_6 rfl T
set_option maxRecDepth 100000 in
set_option maxHeartbeats 4000000 in
theorem t_X12_zeros_9 {d : Nat} {x0 : Int32} {x1 : Int32} {M : zMem} {K : zK} 
    (T : (¬ ((x0 >>> (x1 &&& 31)) &&& 1) = 0 → K (some (.int x1)) M) ∧ (((x0 >>> (x1 &&& 31)) &&& 1) = 0 → S_X12_zeros_9 d x0 (x1 + 1) M K)) : S_X12_zeros_9 d x0 x1 M K := by
  show zV m_X12_zeros d 9 [(0, .int x0), (1, .int x1)] [] M K
  refine zr_iload_n dX12_zeros_9 rfl 0 rfl ?_
  refine zr_iload_n dX12_zeros_10 rfl 1 rfl ?_
  refine zr_ishr dX12_zeros_11 ?_
  refine zr_iconst (v := 1) dX12_zeros_12 (by decide) ?_
  refine zr_iand dX12_zeros_13 ?_
  refine zr_if_ne (tgt := 23) dX12_zeros_14 (by decide) (fun h21 => ?_) (fun h21 => ?_)
  · have T := T.1 h21
    refine zr_iload_n dX12_zeros_23 rfl 1 rfl ?_
    exact zm_iret dX12_zeros_24 rfl T
  · have T := T.2 h21
    refine zr_iinc (n := 1) (v := x1 + 1) dX12_zeros_17 rfl rfl (by decide) (L2 := [(1, .int (x1 + 1)), (0, .int x0)]) rfl ?_
    refine zr_goto (tgt := 9) dX12_zeros_20 (by decide) ?_
    exact zV.pick [1, 0] rfl T
set_option maxRecDepth 100000 in
set_option maxHeartbeats 4000000 in
theorem t_X12_fault {d : Nat}  {M : zMem} {K : zK} 
    (T : (∀ M21 : zMem, M21 = wI M 229 0 0 → K (some (.int (M21.1 229 10))) M21)) : S_X12_fault d  M K := by
  show zV m_X12_fault d 0 [(0, .ref 229)] [] M K
  refine zr_aload_n dX12_fault_0 rfl 0 rfl ?_
  refine zr_iconst (v := 0) dX12_fault_1 (by decide) ?_
  refine zn_puti dX12_fault_2 f_X12_1 (by decide) (by decide) (by decide) (fun M21 e22 => ?_)
  have T := T M21 e22
  refine zr_aload_n dX12_fault_5 rfl 0 rfl ?_
  refine zm_geti dX12_fault_6 f_X12_66 (by decide) (by decide) (by decide) ?_
  exact zm_iret dX12_fault_9 rfl T
set_option maxRecDepth 100000 in
set_option maxHeartbeats 4000000 in
theorem t_X12_faultLine {d : Nat}  {M : zMem} {K : zK} 
    (T : (∀ M21 : zMem, M21 = wI M 229 0 0 → K (some (.int (M21.1 229 27))) M21)) : S_X12_faultLine d  M K := by
  show zV m_X12_faultLine d 0 [(0, .ref 229)] [] M K
  refine zr_aload_n dX12_faultLine_0 rfl 0 rfl ?_
  refine zr_iconst (v := 0) dX12_faultLine_1 (by decide) ?_
  refine zn_puti dX12_faultLine_2 f_X12_1 (by decide) (by decide) (by decide) (fun M21 e22 => ?_)
  have T := T M21 e22
  refine zr_aload_n dX12_faultLine_5 rfl 0 rfl ?_
  refine zm_geti dX12_faultLine_6 f_X12_133 (by decide) (by decide) (by decide) ?_
  exact zm_iret dX12_faultLine_9 rfl T
set_option maxRecDepth 100000 in
set_option maxHeartbeats 4000000 in
theorem t_X12_key {d : Nat} {x1 : Int32} {x2 : Int32} {M : zMem} {K : zK} 
    (T : (∀ M21 : zMem, M21 = wI M 229 0 0 → S_X12_isKey d x1 M21 (zB (fun r23 M24 => (r23 = true → (x2 = 0 → vp_in x1 24 ∧ (K (some (.int (M24.1 243 (Int32.toNatClampNeg x1)))) M24)) ∧ (x2 = 1 → vp_in x1 24 ∧ (K (some (.int (M24.1 245 (Int32.toNatClampNeg x1)))) M24)) ∧ (x2 = 2 → S_X12_key_63 (d + 1) x1 0 0 M24 K) ∧ (¬ x2 = 0 → ¬ x2 = 1 → ¬ x2 = 2 → K (some (.int (-1))) M24)) ∧ (r23 = false → K (some (.int (-1))) M24))))) : S_X12_key (d + 1) x1 x2 M K := by
  show zV m_X12_key (d + 1) 0 [(0, .ref 229), (1, .int x1), (2, .int x2)] [] M K
  refine zr_aload_n dX12_key_0 rfl 0 rfl ?_
  refine zr_iconst (v := 0) dX12_key_1 (by decide) ?_
  refine zn_puti dX12_key_2 f_X12_1 (by decide) (by decide) (by decide) (fun M21 e22 => ?_)
  have T := T M21 e22
  refine zr_aload_n dX12_key_5 rfl 0 rfl ?_
  refine zr_iload_n dX12_key_6 rfl 1 rfl ?_
  refine zm_callV_b (c := 12) (b := 229) dX12_key_7 w_X12_isKey l_X12_326 rfl (by decide) (by decide) s_X12_isKey [.int x1] rfl rfl (Nat.le_of_ble_eq_true rfl) (Nat.le_of_ble_eq_true rfl) ?_
  refine zV.post T ?_
  rintro v M24 ⟨r23, rfl, T⟩
  refine ⟨r23, rfl, ?_⟩
  refine zm_ifb_ne (tgt := 15) dX12_key_10 (by decide) (fun h25 => ?_) (fun h25 => ?_)
  · have T := T.1 h25
    refine zr_iload_n dX12_key_15 rfl 2 rfl ?_
    by_cases h28 : x2 = 0
    · have T := T.1 h28
      refine zr_tableIn (tgt := 44) dX12_key_16 (by rw [h28]; decide) (by rw [h28]; decide) (by rw [h28]; rfl) (by decide) ?_
      refine zr_aload_n dX12_key_44 rfl 0 rfl ?_
      refine zm_getr (a := 243) dX12_key_45 f_X12_139 (by decide) (by decide) (by decide) (by decide) ?_
      refine zr_iload_n dX12_key_48 rfl 1 rfl ?_
      obtain ⟨hq26, T⟩ := T
      refine zm_iald (n := 24) (o := (Int32.toNatClampNeg x1)) dX12_key_49 (by decide) (by decide) hq26 rfl ?_
      exact zm_iret dX12_key_50 rfl T
    by_cases h29 : x2 = 1
    · have T := T.2.1 h29
      refine zr_tableIn (tgt := 51) dX12_key_16 (by rw [h29]; decide) (by rw [h29]; decide) (by rw [h29]; rfl) (by decide) ?_
      refine zr_aload_n dX12_key_51 rfl 0 rfl ?_
      refine zm_getr (a := 245) dX12_key_52 f_X12_145 (by decide) (by decide) (by decide) (by decide) ?_
      refine zr_iload_n dX12_key_55 rfl 1 rfl ?_
      obtain ⟨hq27, T⟩ := T
      refine zm_iald (n := 24) (o := (Int32.toNatClampNeg x1)) dX12_key_56 (by decide) (by decide) hq27 rfl ?_
      exact zm_iret dX12_key_57 rfl T
    by_cases h30 : x2 = 2
    · have T := T.2.2.1 h30
      refine zr_tableIn (tgt := 58) dX12_key_16 (by rw [h30]; decide) (by rw [h30]; decide) (by rw [h30]; rfl) (by decide) ?_
      refine zr_iconst (v := 0) dX12_key_58 (by decide) ?_
      refine zr_istore_n dX12_key_59 rfl (by decide) (L2 := [(3, .int 0), (0, .ref 229), (1, .int x1), (2, .int x2)]) rfl ?_
      refine zr_iconst (v := 0) dX12_key_60 (by decide) ?_
      refine zr_istore dX12_key_61 (by decide) (L2 := [(4, .int 0), (3, .int 0), (0, .ref 229), (1, .int x1), (2, .int x2)]) rfl ?_
      exact zV.pick [2, 3, 1, 0] rfl T
    · have T := T.2.2.2 h28 h29 h30
      refine zr_tableOut (tgt := 99) dX12_key_16 (z_out_0_2 h28 h29 h30) (by decide) ?_
      refine zr_iconst (v := (-1)) dX12_key_99 (by decide) ?_
      exact zm_iret dX12_key_100 rfl T
  · have T := T.2 h25
    refine zr_iconst (v := (-1)) dX12_key_13 (by decide) ?_
    exact zm_iret dX12_key_14 rfl T
set_option maxRecDepth 100000 in
set_option maxHeartbeats 4000000 in
theorem t_X12_key_63 {d : Nat} {x1 : Int32} {x3 : Int32} {x4 : Int32} {M : zMem} {K : zK} 
    (T : ((M.1 231 1) ≤ x4 → K (some (.int x3)) M) ∧ (¬ ((M.1 231 1) ≤ x4) → S_X12_hasEntry d x4 x1 M (zB (fun r22 M23 => (r22 = false → S_X12_key_63 (d + 1) x1 x3 (x4 + 1) M23 K) ∧ (r22 = true → S_X12_key_63 (d + 1) x1 (x3 ||| ((1 : Int32) <<< (x4 &&& 31))) (x4 + 1) M23 K))))) : S_X12_key_63 (d + 1) x1 x3 x4 M K := by
  show zV m_X12_key (d + 1) 63 [(0, .ref 229), (1, .int x1), (3, .int x3), (4, .int x4)] [] M K
  refine zr_iload dX12_key_63 3 rfl ?_
  refine zr_aload_n dX12_key_65 rfl 0 rfl ?_
  refine zm_getr (a := 231) dX12_key_66 f_X12_98 (by decide) (by decide) (by decide) (by decide) ?_
  refine zr_iconst (v := 1) dX12_key_69 (by decide) ?_
  refine zm_iald (n := 647) (o := 1) dX12_key_70 (by decide) (by decide) (zin (by decide)) (by decide) ?_
  refine zr_icmp_ge (tgt := 97) dX12_key_71 (by decide) (fun h21 => ?_) (fun h21 => ?_)
  · have T := T.1 h21
    refine zr_iload_n dX12_key_97 rfl 2 rfl ?_
    exact zm_iret dX12_key_98 rfl T
  · have T := T.2 h21
    refine zr_aload_n dX12_key_74 rfl 0 rfl ?_
    refine zr_iload dX12_key_75 3 rfl ?_
    refine zr_iload_n dX12_key_77 rfl 1 rfl ?_
    refine zm_callV_b (c := 12) (b := 229) dX12_key_78 w_X12_hasEntry l_X12_294 rfl (by decide) (by decide) s_X12_hasEntry [.int x4, .int x1] rfl rfl (Nat.le_of_ble_eq_true rfl) (Nat.le_of_ble_eq_true rfl) ?_
    refine zV.post T ?_
    rintro v M23 ⟨r22, rfl, T⟩
    refine ⟨r22, rfl, ?_⟩
    refine zm_ifb_eq (tgt := 91) dX12_key_81 (by decide) (fun h24 => ?_) (fun h24 => ?_)
    · have T := T.1 h24
      refine zr_iinc (n := 3) (v := x4 + 1) dX12_key_91 rfl rfl (by decide) (L2 := [(4, .int (x4 + 1)), (0, .ref 229), (1, .int x1), (3, .int x3)]) rfl ?_
      refine zr_goto (tgt := 63) dX12_key_94 (by decide) ?_
      exact zV.pick [1, 2, 3, 0] rfl T
    · have T := T.2 h24
      refine zr_iload_n dX12_key_84 rfl 2 rfl ?_
      refine zr_iconst (v := 1) dX12_key_85 (by decide) ?_
      refine zr_iload dX12_key_86 3 rfl ?_
      refine zr_ishl dX12_key_88 ?_
      refine zr_ior dX12_key_89 ?_
      refine zr_istore_n dX12_key_90 rfl (by decide) (L2 := [(3, .int (x3 ||| ((1 : Int32) <<< (x4 &&& 31)))), (0, .ref 229), (1, .int x1), (4, .int x4)]) rfl ?_
      refine zr_iinc (n := 3) (v := x4 + 1) dX12_key_91 rfl rfl (by decide) (L2 := [(4, .int (x4 + 1)), (3, .int (x3 ||| ((1 : Int32) <<< (x4 &&& 31)))), (0, .ref 229), (1, .int x1)]) rfl ?_
      refine zr_goto (tgt := 63) dX12_key_94 (by decide) ?_
      exact zV.pick [2, 3, 1, 0] rfl T
set_option maxRecDepth 100000 in
set_option maxHeartbeats 4000000 in
theorem t_X12_isKey {d : Nat} {x1 : Int32} {M : zMem} {K : zK} 
    (T : S_X12_isIn d x1 0 ((M.1 231 0) - 1) M (zB (fun r21 M22 => K (some (.int (bi r21))) M22))) : S_X12_isKey (d + 1) x1 M K := by
  show zV m_X12_isKey (d + 1) 0 [(0, .ref 229), (1, .int x1)] [] M K
  refine zr_iload_n dX12_isKey_0 rfl 1 rfl ?_
  refine zr_iconst (v := 0) dX12_isKey_1 (by decide) ?_
  refine zr_aload_n dX12_isKey_2 rfl 0 rfl ?_
  refine zm_getr (a := 231) dX12_isKey_3 f_X12_98 (by decide) (by decide) (by decide) (by decide) ?_
  refine zr_iconst (v := 0) dX12_isKey_6 (by decide) ?_
  refine zm_iald (n := 647) (o := 0) dX12_isKey_7 (by decide) (by decide) (zin (by decide)) (by decide) ?_
  refine zr_iconst (v := 1) dX12_isKey_8 (by decide) ?_
  refine zr_isub dX12_isKey_9 ?_
  refine zm_callS_b dX12_isKey_10 w_X12_isIn l_X12_75 s_X12_isIn [.int x1, .int 0, .int ((M.1 231 0) - 1)] rfl rfl (Nat.le_of_ble_eq_true rfl) (Nat.le_of_ble_eq_true rfl) ?_
  refine zV.post T ?_
  rintro v M22 ⟨r21, rfl, T⟩
  refine ⟨r21, rfl, ?_⟩
  exact zm_zret dX12_isKey_13 rfl (bi_01 _) T
