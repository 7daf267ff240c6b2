set_option maxRecDepth 100000 in
set_option maxHeartbeats 4000000 in
theorem t_X11_feed {d : Nat} {x1 : Int32} {x2 : Int32} {x3 : Int32} {x4 : Int32} {x5 : Int32} {M : zMem} {K : zK} 
    (T : (((M.1 0 1) + 20) ≤ 940 → S_X11_feedNumber d x1 M (zU (fun M23 => S_X11_feedNumber d x2 M23 (zU (fun M25 => S_X11_feedNumber d x3 M25 (zU (fun M27 => S_X11_feedNumber d x4 M27 (zU (fun M29 => S_X11_feedNumber d x5 M29 (zU (fun M31 => K (some (.int (M31.1 0 1))) M31))))))))))) ∧ (¬ (((M.1 0 1) + 20) ≤ 940) → K (some (.int (-1))) M)) : S_X11_feed (d + 1) x1 x2 x3 x4 x5 M K := by
  show zV m_X11_feed (d + 1) 0 [(0, .ref 0), (1, .int x1), (2, .int x2), (3, .int x3), (4, .int x4), (5, .int x5)] [] M K
  refine zr_aload_n dX11_feed_0 rfl 0 rfl ?_
  refine zm_geti dX11_feed_1 f_X11_13 (by decide) (by decide) (by decide) ?_
  refine zr_bipush (v := 20) dX11_feed_4 (by decide) ?_
  refine zr_iadd dX11_feed_6 ?_
  refine zr_sipush (v := 940) dX11_feed_7 (by decide) ?_
  refine zr_icmp_le (tgt := 15) dX11_feed_10 (by decide) (fun h21 => ?_) (fun h21 => ?_)
  · have T := T.1 h21
    refine zr_aload_n dX11_feed_15 rfl 0 rfl ?_
    refine zr_iload_n dX11_feed_16 rfl 1 rfl ?_
    refine zm_callV_v (c := 11) (b := 0) dX11_feed_17 w_X11_feedNumber l_X11_114 rfl (by decide) (by decide) s_X11_feedNumber [.int x1] rfl rfl (Nat.le_of_ble_eq_true rfl) (Nat.le_of_ble_eq_true rfl) ?_
    refine zV.post T ?_
    rintro v M23 ⟨rfl, T⟩
    refine ⟨rfl, ?_⟩
    refine zr_aload_n dX11_feed_20 rfl 0 rfl ?_
    refine zr_iload_n dX11_feed_21 rfl 2 rfl ?_
    refine zm_callV_v (c := 11) (b := 0) dX11_feed_22 w_X11_feedNumber l_X11_114 rfl (by decide) (by decide) s_X11_feedNumber [.int x2] rfl rfl (Nat.le_of_ble_eq_true rfl) (Nat.le_of_ble_eq_true rfl) ?_
    refine zV.post T ?_
    rintro v M25 ⟨rfl, T⟩
    refine ⟨rfl, ?_⟩
    refine zr_aload_n dX11_feed_25 rfl 0 rfl ?_
    refine zr_iload_n dX11_feed_26 rfl 3 rfl ?_
    refine zm_callV_v (c := 11) (b := 0) dX11_feed_27 w_X11_feedNumber l_X11_114 rfl (by decide) (by decide) s_X11_feedNumber [.int x3] rfl rfl (Nat.le_of_ble_eq_true rfl) (Nat.le_of_ble_eq_true rfl) ?_
    refine zV.post T ?_
    rintro v M27 ⟨rfl, T⟩
    refine ⟨rfl, ?_⟩
    refine zr_aload_n dX11_feed_30 rfl 0 rfl ?_
    refine zr_iload dX11_feed_31 4 rfl ?_
    refine zm_callV_v (c := 11) (b := 0) dX11_feed_33 w_X11_feedNumber l_X11_114 rfl (by decide) (by decide) s_X11_feedNumber [.int x4] rfl rfl (Nat.le_of_ble_eq_true rfl) (Nat.le_of_ble_eq_true rfl) ?_
    refine zV.post T ?_
    rintro v M29 ⟨rfl, T⟩
    refine ⟨rfl, ?_⟩
    refine zr_aload_n dX11_feed_36 rfl 0 rfl ?_
    refine zr_iload dX11_feed_37 5 rfl ?_
    refine zm_callV_v (c := 11) (b := 0) dX11_feed_39 w_X11_feedNumber l_X11_114 rfl (by decide) (by decide) s_X11_feedNumber [.int x5] rfl rfl (Nat.le_of_ble_eq_true rfl) (Nat.le_of_ble_eq_true rfl) ?_
    refine zV.post T ?_
    rintro v M31 ⟨rfl, T⟩
    refine ⟨rfl, ?_⟩
    refine zr_aload_n dX11_feed_42 rfl 0 rfl ?_
    refine zm_geti dX11_feed_43 f_X11_13 (by decide) (by decide) (by decide) ?_
    exact zm_iret dX11_feed_46 rfl T
  · have T := T.2 h21
    refine zr_iconst (v := (-1)) dX11_feed_13 (by decide) ?_
    exact zm_iret dX11_feed_14 rfl T
set_option maxRecDepth 100000 in
set_option maxHeartbeats 4000000 in
theorem t_X11_feedNumber {d : Nat} {x1 : Int32} {M : zMem} {K : zK} 
    (T : S_X11_feedNumber_3 d x1 24 M K) : S_X11_feedNumber d x1 M K := by
  show zV m_X11_feedNumber d 0 [(0, .ref 0), (1, .int x1)] [] M K
  refine zr_bipush (v := 24) dX11_feedNumber_0 (by decide) ?_
  refine zr_istore_n dX11_feedNumber_2 rfl (by decide) (L2 := [(2, .int 24), (0, .ref 0), (1, .int x1)]) rfl ?_
  exact zV.pick [1, 2, 0] rfl T
set_option maxRecDepth 100000 in
set_option maxHeartbeats 4000000 in
theorem t_X11_feedNumber_3 {d : Nat} {x1 : Int32} {x2 : Int32} {M : zMem} {K : zK} 
    (T : (x2 < 0 → K none M) ∧ (¬ (x2 < 0) → vp_in (M.1 0 1) 940 ∧ ((∀ M23 : zMem, M23 = wI M 1 (Int32.toNatClampNeg (M.1 0 1)) (Int32.toInt8 ((Int32.toInt8 ((Int32.toUInt32 x1 >>> (Int32.toUInt32 x2 &&& Int32.toUInt32 31)).toInt32)).toInt32)).toInt32 → (∀ M25 : zMem, M25 = wI M23 0 1 ((M23.1 0 1) + 1) → S_X11_feedNumber_3 d x1 (x2 + (-8)) M25 K))))) : S_X11_feedNumber_3 d x1 x2 M K := by
  show zV m_X11_feedNumber d 3 [(0, .ref 0), (1, .int x1), (2, .int x2)] [] M K
  refine zr_iload_n dX11_feedNumber_3 rfl 2 rfl ?_
  refine zr_if_lt (tgt := 36) dX11_feedNumber_4 (by decide) (fun h21 => ?_) (fun h21 => ?_)
  · have T := T.1 h21
    exact zm_vret dX11_feedNumber_36 rfl T
  · have T := T.2 h21
    refine zr_aload_n dX11_feedNumber_7 rfl 0 rfl ?_
    refine zm_getr (a := 1) dX11_feedNumber_8 f_X11_9 (by decide) (by decide) (by decide) (by decide) ?_
    refine zr_aload_n dX11_feedNumber_11 rfl 0 rfl ?_
    refine zm_geti dX11_feedNumber_12 f_X11_13 (by decide) (by decide) (by decide) ?_
    refine zr_iload_n dX11_feedNumber_15 rfl 1 rfl ?_
    refine zr_iload_n dX11_feedNumber_16 rfl 2 rfl ?_
    refine zr_iushr dX11_feedNumber_17 ?_
    refine zr_i2b dX11_feedNumber_18 ?_
    obtain ⟨hq22, T⟩ := T
    refine zn_bast (n := 940) (o := (Int32.toNatClampNeg (M.1 0 1))) dX11_feedNumber_19 (by decide) (by decide) hq22 rfl (fun M23 e24 => ?_)
    have T := T M23 e24
    refine zr_aload_n dX11_feedNumber_20 rfl 0 rfl ?_
    refine zr_dup dX11_feedNumber_21 rfl ?_
    refine zm_geti dX11_feedNumber_22 f_X11_13 (by decide) (by decide) (by decide) ?_
    refine zr_iconst (v := 1) dX11_feedNumber_25 (by decide) ?_
    refine zr_iadd dX11_feedNumber_26 ?_
    refine zn_puti dX11_feedNumber_27 f_X11_13 (by decide) (by decide) (by decide) (fun M25 e26 => ?_)
    have T := T M25 e26
    refine zr_iinc (n := 2) (v := x2 + (-8)) dX11_feedNumber_30 rfl rfl (by decide) (L2 := [(2, .int (x2 + (-8))), (0, .ref 0), (1, .int x1)]) rfl ?_
    refine zr_goto (tgt := 3) dX11_feedNumber_33 (by decide) ?_
    exact zV.pick [1, 2, 0] rfl T
set_option maxRecDepth 100000 in
set_option maxHeartbeats 4000000 in
theorem t_X11_end {d : Nat} {x1 : Int32} {M : zMem} {K : zK} 
    (T : (x1 < 0 → K (some (.int 0)) M) ∧ (¬ (x1 < 0) → (x1 ≤ (M.1 0 1) → (∀ M23 : zMem, M23 = wI M 0 1 x1 → K (some (.int 1)) M23)) ∧ (¬ (x1 ≤ (M.1 0 1)) → K (some (.int 0)) M))) : S_X11_end d x1 M K := by
  show zV m_X11_end d 0 [(0, .ref 0), (1, .int x1)] [] M K
  refine zr_iload_n dX11_end_0 rfl 1 rfl ?_
  refine zr_if_lt (tgt := 12) dX11_end_1 (by decide) (fun h21 => ?_) (fun h21 => ?_)
  · have T := T.1 h21
    refine zr_iconst (v := 0) dX11_end_12 (by decide) ?_
    exact zm_zret dX11_end_13 rfl (by decide) T
  · have T := T.2 h21
    refine zr_iload_n dX11_end_4 rfl 1 rfl ?_
    refine zr_aload_n dX11_end_5 rfl 0 rfl ?_
    refine zm_geti dX11_end_6 f_X11_13 (by decide) (by decide) (by decide) ?_
    refine zr_icmp_le (tgt := 14) dX11_end_9 (by decide) (fun h22 => ?_) (fun h22 => ?_)
    · have T := T.1 h22
      refine zr_aload_n dX11_end_14 rfl 0 rfl ?_
      refine zr_iload_n dX11_end_15 rfl 1 rfl ?_
      refine zn_puti dX11_end_16 f_X11_13 (by decide) (by decide) (by decide) (fun M23 e24 => ?_)
      have T := T M23 e24
      refine zr_iconst (v := 1) dX11_end_19 (by decide) ?_
      exact zm_zret dX11_end_20 rfl (by decide) T
    · have T := T.2 h22
      refine zr_iconst (v := 0) dX11_end_12 (by decide) ?_
      exact zm_zret dX11_end_13 rfl (by decide) T
set_option maxRecDepth 100000 in
set_option maxHeartbeats 4000000 in
theorem t_X11_cluster {d : Nat}  {M : zMem} {K : zK} 
    (T : S_X6_open d (M.1 0 1) 900 M (zU (fun M22 => S_X1_read d  M22 (zB (fun r23 M24 => S_X11_closeText d (M24.1 220 10) M24 (zU (fun M26 => (r23 = true → S_X7_clear d 30 M26 (zU (fun M29 => S_X8_copyFrom d 2 17 M29 (zU (fun M31 => S_X4_growTrees d 63 M31 (zU (fun M33 => S_X10_clear d  M33 (zU (fun M35 => K (some (.int (M35.1 220 10))) M35))))))))) ∧ (r23 = false → K (some (.int ((-1) - (M26.1 220 12)))) M26)))))))) : S_X11_cluster (d + 1)  M K := by
  show zV m_X11_cluster (d + 1) 0 [(0, .ref 0)] [] M K
  refine zr_aload_n dX11_cluster_0 rfl 0 rfl ?_
  refine zm_getr (a := 220) dX11_cluster_1 f_X11_73 (by decide) (by decide) (by decide) (by decide) ?_
  refine zr_aload_n dX11_cluster_4 rfl 0 rfl ?_
  refine zm_geti dX11_cluster_5 f_X11_13 (by decide) (by decide) (by decide) ?_
  refine zr_sipush (v := 900) dX11_cluster_8 (by decide) ?_
  refine zm_callV_v (c := 6) (b := 220) dX11_cluster_11 w_X6_open l_X11_118 rfl (by decide) (by decide) s_X6_open [.int (M.1 0 1), .int 900] rfl rfl (Nat.le_of_ble_eq_true rfl) (Nat.le_of_ble_eq_true rfl) ?_
  refine zV.post T ?_
  rintro v M22 ⟨rfl, T⟩
  refine ⟨rfl, ?_⟩
  refine zr_aload_n dX11_cluster_14 rfl 0 rfl ?_
  refine zm_getr (a := 221) dX11_cluster_15 f_X11_82 (by decide) (by decide) (by decide) (by decide) ?_
  refine zm_callV_b (c := 1) (b := 221) dX11_cluster_18 w_X1_read l_X11_122 rfl (by decide) (by decide) s_X1_read [] rfl rfl (Nat.le_of_ble_eq_true rfl) (Nat.le_of_ble_eq_true rfl) ?_
  refine zV.post T ?_
  rintro v M24 ⟨r23, rfl, T⟩
  refine ⟨r23, rfl, ?_⟩
  refine zr_istore_n dX11_cluster_21 rfl (by decide) (L2 := [(1, .int (bi r23)), (0, .ref 0)]) rfl ?_
  refine zr_aload_n dX11_cluster_22 rfl 1 rfl ?_
  refine zr_aload_n dX11_cluster_23 rfl 1 rfl ?_
  refine zm_getr (a := 220) dX11_cluster_24 f_X11_73 (by decide) (by decide) (by decide) (by decide) ?_
  refine zm_geti dX11_cluster_27 f_X11_126 (by decide) (by decide) (by decide) ?_
  refine zm_callV_v (c := 11) (b := 0) dX11_cluster_30 w_X11_closeText l_X11_129 rfl (by decide) (by decide) s_X11_closeText [.int (M24.1 220 10)] rfl rfl (Nat.le_of_ble_eq_true rfl) (Nat.le_of_ble_eq_true rfl) ?_
  refine zV.post T ?_
  rintro v M26 ⟨rfl, T⟩
  refine ⟨rfl, ?_⟩
  refine zr_iload_n dX11_cluster_33 rfl 0 rfl ?_
  refine zm_ifb_ne (tgt := 47) dX11_cluster_34 (by decide) (fun h27 => ?_) (fun h27 => ?_)
  · have T := T.1 h27
    refine zr_aload_n dX11_cluster_47 rfl 1 rfl ?_
    refine zm_getr (a := 17) dX11_cluster_48 f_X11_24 (by decide) (by decide) (by decide) (by decide) ?_
    refine zm_getr (a := 30) dX11_cluster_51 f_X11_135 (by decide) (by decide) (by decide) (by decide) ?_
    refine zm_callV_v (c := 7) (b := 30) dX11_cluster_54 w_X7_clear l_X11_139 rfl (by decide) (by decide) s_X7_clear [] rfl rfl (Nat.le_of_ble_eq_true rfl) (Nat.le_of_ble_eq_true rfl) ?_
    refine zV.post T ?_
    rintro v M29 ⟨rfl, T⟩
    refine ⟨rfl, ?_⟩
    refine zr_aload_n dX11_cluster_57 rfl 1 rfl ?_
    refine zm_getr (a := 2) dX11_cluster_58 f_X11_20 (by decide) (by decide) (by decide) (by decide) ?_
    refine zr_aload_n dX11_cluster_61 rfl 1 rfl ?_
    refine zm_getr (a := 17) dX11_cluster_62 f_X11_24 (by decide) (by decide) (by decide) (by decide) ?_
    refine zm_callV_v (c := 8) (b := 2) dX11_cluster_65 w_X8_copyFrom l_X11_144 rfl (by decide) (by decide) s_X8_copyFrom [.ref 17] rfl rfl (Nat.le_of_ble_eq_true rfl) (Nat.le_of_ble_eq_true rfl) ?_
    refine zV.post T ?_
    rintro v M31 ⟨rfl, T⟩
    refine ⟨rfl, ?_⟩
    refine zr_aload_n dX11_cluster_68 rfl 1 rfl ?_
    refine zm_getr (a := 63) dX11_cluster_69 f_X11_44 (by decide) (by decide) (by decide) (by decide) ?_
    refine zm_callV_v (c := 4) (b := 63) dX11_cluster_72 w_X4_growTrees l_X11_148 rfl (by decide) (by decide) s_X4_growTrees [] rfl rfl (Nat.le_of_ble_eq_true rfl) (Nat.le_of_ble_eq_true rfl) ?_
    refine zV.post T ?_
    rintro v M33 ⟨rfl, T⟩
    refine ⟨rfl, ?_⟩
    refine zr_aload_n dX11_cluster_75 rfl 1 rfl ?_
    refine zm_getr (a := 170) dX11_cluster_76 f_X11_57 (by decide) (by decide) (by decide) (by decide) ?_
    refine zm_callV_v (c := 10) (b := 170) dX11_cluster_79 w_X10_clear l_X11_151 rfl (by decide) (by decide) s_X10_clear [] rfl rfl (Nat.le_of_ble_eq_true rfl) (Nat.le_of_ble_eq_true rfl) ?_
    refine zV.post T ?_
    rintro v M35 ⟨rfl, T⟩
    refine ⟨rfl, ?_⟩
    refine zr_aload_n dX11_cluster_82 rfl 1 rfl ?_
    refine zm_getr (a := 220) dX11_cluster_83 f_X11_73 (by decide) (by decide) (by decide) (by decide) ?_
    refine zm_geti dX11_cluster_86 f_X11_126 (by decide) (by decide) (by decide) ?_
    exact zm_iret dX11_cluster_89 rfl T
  · have T := T.2 h27
    refine zr_iconst (v := (-1)) dX11_cluster_37 (by decide) ?_
    refine zr_aload_n dX11_cluster_38 rfl 1 rfl ?_
    refine zm_getr (a := 220) dX11_cluster_39 f_X11_73 (by decide) (by decide) (by decide) (by decide) ?_
    refine zm_geti dX11_cluster_42 f_X11_132 (by decide) (by decide) (by decide) ?_
    refine zr_isub dX11_cluster_45 ?_
    exact zm_iret dX11_cluster_46 rfl T
set_option maxRecDepth 100000 in
set_option maxHeartbeats 4000000 in
theorem t_X11_mix {d : Nat} {x0 : Int32} {x1 : Int32} {M : zMem} {K : zK} 
    (T : K (some (.int (((x0 ^^^ x1) * 16777619) ^^^ ((Int32.toUInt32 ((x0 ^^^ x1) * 16777619) >>> (Int32.toUInt32 15 &&& Int32.toUInt32 31)).toInt32)))) M) : S_X11_mix d x0 x1 M K := by
  show zV m_X11_mix d 0 [(0, .int x0), (1, .int x1)] [] M K
  refine zr_iload_n dX11_mix_0 rfl 0 rfl ?_
  refine zr_iload_n dX11_mix_1 rfl 1 rfl ?_
  refine zr_ixor dX11_mix_2 ?_
  refine zr_ldcw (v := 16777619) dX11_mix_3 k_X11_427 ?_
  refine zr_imul dX11_mix_6 ?_
  refine zr_istore_n dX11_mix_7 rfl (by decide) (L2 := [(2, .int ((x0 ^^^ x1) * 16777619)), (0, .int x0), (1, .int x1)]) rfl ?_
  refine zr_iload_n dX11_mix_8 rfl 0 rfl ?_
  refine zr_iload_n dX11_mix_9 rfl 0 rfl ?_
  refine zr_bipush (v := 15) dX11_mix_10 (by decide) ?_
  refine zr_iushr dX11_mix_12 ?_
  refine zr_ixor dX11_mix_13 ?_
  exact zm_iret dX11_mix_14 rfl T
set_option maxRecDepth 100000 in
set_option maxHeartbeats 4000000 in
theorem t_X11_closeText {d : Nat} {x1 : Int32} {M : zMem} {K : zK} 
    (T : (∀ M21 : zMem, M21 = wI M 0 1 0 → (∀ M23 : zMem, M23 = wI M21 0 16 (M21.1 220 11) → (¬ (M23.1 0 16) = 0 → (∀ M26 : zMem, M26 = wI M23 0 17 x1 → K none M26)) ∧ ((M23.1 0 16) = 0 → (∀ M28 : zMem, M28 = wI M23 0 17 (-1) → K none M28))))) : S_X11_closeText d x1 M K := by
  show zV m_X11_closeText d 0 [(0, .ref 0), (1, .int x1)] [] M K
  refine zr_aload_n dX11_closeText_0 rfl 0 rfl ?_
  refine zr_iconst (v := 0) dX11_closeText_1 (by decide) ?_
  refine zn_puti dX11_closeText_2 f_X11_13 (by decide) (by decide) (by decide) (fun M21 e22 => ?_)
  have T := T M21 e22
  refine zr_aload_n dX11_closeText_5 rfl 0 rfl ?_
  refine zr_aload_n dX11_closeText_6 rfl 0 rfl ?_
  refine zm_getr (a := 220) dX11_closeText_7 f_X11_73 (by decide) (by decide) (by decide) (by decide) ?_
  refine zm_geti dX11_closeText_10 f_X11_152 (by decide) (by decide) (by decide) ?_
  refine zn_puti dX11_closeText_13 f_X11_108 (by decide) (by decide) (by decide) (fun M23 e24 => ?_)
  have T := T M23 e24
  refine zr_aload_n dX11_closeText_16 rfl 0 rfl ?_
  refine zr_aload_n dX11_closeText_17 rfl 0 rfl ?_
  refine zm_geti dX11_closeText_18 f_X11_108 (by decide) (by decide) (by decide) ?_
  refine zr_if_ne (tgt := 28) dX11_closeText_21 (by decide) (fun h25 => ?_) (fun h25 => ?_)
  · have T := T.1 h25
    refine zr_iload_n dX11_closeText_28 rfl 1 rfl ?_
    refine zn_puti dX11_closeText_29 f_X11_111 (by decide) (by decide) (by decide) (fun M26 e27 => ?_)
    have T := T M26 e27
    exact zm_vret dX11_closeText_32 rfl T
  · have T := T.2 h25
    refine zr_iconst (v := (-1)) dX11_closeText_24 (by decide) ?_
    refine zr_goto (tgt := 29) dX11_closeText_25 (by decide) ?_
    refine zn_puti dX11_closeText_29 f_X11_111 (by decide) (by decide) (by decide) (fun M28 e29 => ?_)
    have T := T M28 e29
    exact zm_vret dX11_closeText_32 rfl T
set_option maxRecDepth 100000 in
set_option maxHeartbeats 4000000 in
theorem t_X11_fault {d : Nat}  {M : zMem} {K : zK} 
    (T : K (some (.int (M.1 0 16))) M) : S_X11_fault d  M K := by
  show zV m_X11_fault d 0 [(0, .ref 0)] [] M K
  refine zr_aload_n dX11_fault_0 rfl 0 rfl ?_
  refine zm_geti dX11_fault_1 f_X11_108 (by decide) (by decide) (by decide) ?_
  exact zm_iret dX11_fault_4 rfl T
set_option maxRecDepth 100000 in
set_option maxHeartbeats 4000000 in
theorem t_X11_faultLine {d : Nat}  {M : zMem} {K : zK} 
    (T : K (some (.int (M.1 0 17))) M) : S_X11_faultLine d  M K := by
  show zV m_X11_faultLine d 0 [(0, .ref 0)] [] M K
  refine zr_aload_n dX11_faultLine_0 rfl 0 rfl ?_
  refine zm_geti dX11_faultLine_1 f_X11_111 (by decide) (by decide) (by decide) ?_
  exact zm_iret dX11_faultLine_4 rfl T
set_option maxRecDepth 100000 in
set_option maxHeartbeats 4000000 in
theorem t_X11_key {d : Nat} {x1 : Int32} {x2 : Int32} {M : zMem} {K : zK} 
    (T : S_X11_isKey d x1 M (zB (fun r21 M22 => (r21 = true → (x2 = 0 → vp_in x1 24 ∧ (K (some (.int (M22.1 7 (Int32.toNatClampNeg x1)))) M22)) ∧ (x2 = 1 → vp_in x1 24 ∧ (K (some (.int (M22.1 9 (Int32.toNatClampNeg x1)))) M22)) ∧ (x2 = 2 → S_X4_holderBits d 63 x1 M22 (zI (fun r26 M27 => K (some (.int r26)) M27))) ∧ (¬ x2 = 0 → ¬ x2 = 1 → ¬ x2 = 2 → K (some (.int (-1))) M22)) ∧ (r21 = false → K (some (.int (-1))) M22)))) : S_X11_key (d + 1) x1 x2 M K := by
  show zV m_X11_key (d + 1) 0 [(0, .ref 0), (1, .int x1), (2, .int x2)] [] M K
  refine zr_aload_n dX11_key_0 rfl 0 rfl ?_
  refine zr_iload_n dX11_key_1 rfl 1 rfl ?_
  refine zm_callV_b (c := 11) (b := 0) dX11_key_2 w_X11_isKey l_X11_153 rfl (by decide) (by decide) s_X11_isKey [.int x1] rfl rfl (Nat.le_of_ble_eq_true rfl) (Nat.le_of_ble_eq_true rfl) ?_
  refine zV.post T ?_
  rintro v M22 ⟨r21, rfl, T⟩
  refine ⟨r21, rfl, ?_⟩
  refine zm_ifb_ne (tgt := 10) dX11_key_5 (by decide) (fun h23 => ?_) (fun h23 => ?_)
  · have T := T.1 h23
    refine zr_iload_n dX11_key_10 rfl 2 rfl ?_
    by_cases h28 : x2 = 0
    · have T := T.1 h28
      refine zr_tableIn (tgt := 36) dX11_key_11 (by rw [h28]; decide) (by rw [h28]; decide) (by rw [h28]; rfl) (by decide) ?_
      refine zr_aload_n dX11_key_36 rfl 0 rfl ?_
      refine zm_getr (a := 2) dX11_key_37 f_X11_20 (by decide) (by decide) (by decide) (by decide) ?_
      refine zm_getr (a := 3) dX11_key_40 f_X11_33 (by decide) (by decide) (by decide) (by decide) ?_
      refine zm_getr (a := 7) dX11_key_43 f_X11_157 (by decide) (by decide) (by decide) (by decide) ?_
      refine zr_iload_n dX11_key_46 rfl 1 rfl ?_
      obtain ⟨hq24, T⟩ := T
      refine zm_iald (n := 24) (o := (Int32.toNatClampNeg x1)) dX11_key_47 (by decide) (by decide) hq24 rfl ?_
      exact zm_iret dX11_key_48 rfl T
    by_cases h29 : x2 = 1
    · have T := T.2.1 h29
      refine zr_tableIn (tgt := 49) dX11_key_11 (by rw [h29]; decide) (by rw [h29]; decide) (by rw [h29]; rfl) (by decide) ?_
      refine zr_aload_n dX11_key_49 rfl 0 rfl ?_
      refine zm_getr (a := 2) dX11_key_50 f_X11_20 (by decide) (by decide) (by decide) (by decide) ?_
      refine zm_getr (a := 3) dX11_key_53 f_X11_33 (by decide) (by decide) (by decide) (by decide) ?_
      refine zm_getr (a := 9) dX11_key_56 f_X11_162 (by decide) (by decide) (by decide) (by decide) ?_
      refine zr_iload_n dX11_key_59 rfl 1 rfl ?_
      obtain ⟨hq25, T⟩ := T
      refine zm_iald (n := 24) (o := (Int32.toNatClampNeg x1)) dX11_key_60 (by decide) (by decide) hq25 rfl ?_
      exact zm_iret dX11_key_61 rfl T
    by_cases h30 : x2 = 2
    · have T := T.2.2.1 h30
      refine zr_tableIn (tgt := 62) dX11_key_11 (by rw [h30]; decide) (by rw [h30]; decide) (by rw [h30]; rfl) (by decide) ?_
      refine zr_aload_n dX11_key_62 rfl 0 rfl ?_
      refine zm_getr (a := 63) dX11_key_63 f_X11_44 (by decide) (by decide) (by decide) (by decide) ?_
      refine zr_iload_n dX11_key_66 rfl 1 rfl ?_
      refine zm_callV_i (c := 4) (b := 63) dX11_key_67 w_X4_holderBits l_X11_165 rfl (by decide) (by decide) s_X4_holderBits [.int x1] rfl rfl (Nat.le_of_ble_eq_true rfl) (Nat.le_of_ble_eq_true rfl) ?_
      refine zV.post T ?_
      rintro v M27 ⟨r26, rfl, T⟩
      refine ⟨r26, rfl, ?_⟩
      exact zm_iret dX11_key_70 rfl T
    · have T := T.2.2.2 h28 h29 h30
      refine zr_tableOut (tgt := 71) dX11_key_11 (z_out_0_2 h28 h29 h30) (by decide) ?_
      refine zr_iconst (v := (-1)) dX11_key_71 (by decide) ?_
      exact zm_iret dX11_key_72 rfl T
  · have T := T.2 h23
    refine zr_iconst (v := (-1)) dX11_key_8 (by decide) ?_
    exact zm_iret dX11_key_9 rfl T
set_option maxRecDepth 100000 in
set_option maxHeartbeats 4000000 in
theorem t_X11_isKey {d : Nat} {x1 : Int32} {M : zMem} {K : zK} 
    (T : (x1 < 0 → K (some (.int 0)) M) ∧ (¬ (x1 < 0) → ((M.1 3 3) ≤ x1 → K (some (.int 0)) M) ∧ (¬ ((M.1 3 3) ≤ x1) → K (some (.int 1)) M))) : S_X11_isKey d x1 M K := by
  show zV m_X11_isKey d 0 [(0, .ref 0), (1, .int x1)] [] M K
  refine zr_iload_n dX11_isKey_0 rfl 1 rfl ?_
  refine zr_if_lt (tgt := 22) dX11_isKey_1 (by decide) (fun h21 => ?_) (fun h21 => ?_)
  · have T := T.1 h21
    refine zr_iconst (v := 0) dX11_isKey_22 (by decide) ?_
    exact zm_zret dX11_isKey_23 rfl (by decide) T
  · have T := T.2 h21
    refine zr_iload_n dX11_isKey_4 rfl 1 rfl ?_
    refine zr_aload_n dX11_isKey_5 rfl 0 rfl ?_
    refine zm_getr (a := 2) dX11_isKey_6 f_X11_20 (by decide) (by decide) (by decide) (by decide) ?_
    refine zm_getr (a := 3) dX11_isKey_9 f_X11_33 (by decide) (by decide) (by decide) (by decide) ?_
    refine zm_geti dX11_isKey_12 f_X11_404 (by decide) (by decide) (by decide) ?_
    refine zr_icmp_ge (tgt := 22) dX11_isKey_15 (by decide) (fun h22 => ?_) (fun h22 => ?_)
    · have T := T.1 h22
      refine zr_iconst (v := 0) dX11_isKey_22 (by decide) ?_
      exact zm_zret dX11_isKey_23 rfl (by decide) T
    · have T := T.2 h22
      refine zr_iconst (v := 1) dX11_isKey_18 (by decide) ?_
      refine zr_goto (tgt := 23) dX11_isKey_19 (by decide) ?_
      exact zm_zret dX11_isKey_23 rfl (by decide) T
set_option maxRecDepth 100000 in
set_option maxHeartbeats 4000000 in
theorem t_X11_peer {d : Nat} {x1 : Int32} {x2 : Int32} {M : zMem} {K : zK} 
    (T : S_X11_isPeer d x1 M (zB (fun r21 M22 => (r21 = true → (x2 = 0 → vp_in x1 4 ∧ (K (some (.int (M22.1 (65 + 12 * (Int32.toNatClampNeg x1)) 3))) M22)) ∧ (x2 = 1 → S_X4_goneCount d 63 x1 M22 (zI (fun r25 M26 => K (some (.int r25)) M26))) ∧ (x2 = 2 → vp_in x1 4 ∧ (K (some (.int (M22.1 (65 + 12 * (Int32.toNatClampNeg x1)) 12))) M22)) ∧ (x2 = 3 → vp_in x1 4 ∧ ((¬ (M22.1 (65 + 12 * (Int32.toNatClampNeg x1)) 12) = 0 → vp_in x1 4 ∧ (K (some (.int (M22.1 (65 + 12 * (Int32.toNatClampNeg x1) + 4) 0))) M22)) ∧ ((M22.1 (65 + 12 * (Int32.toNatClampNeg x1)) 12) = 0 → K (some (.int (-1))) M22))) ∧ (x2 = 4 → vp_in x1 4 ∧ (K (some (.int (M22.1 13 (Int32.toNatClampNeg x1)))) M22)) ∧ (x2 = 5 → S_X4_sameRootBits d 63 x1 M22 (zI (fun r32 M33 => K (some (.int r32)) M33))) ∧ (x2 = 6 → vp_in x1 4 ∧ (K (some (.int (M22.1 14 (Int32.toNatClampNeg x1)))) M22)) ∧ (¬ x2 = 0 → ¬ x2 = 1 → ¬ x2 = 2 → ¬ x2 = 3 → ¬ x2 = 4 → ¬ x2 = 5 → ¬ x2 = 6 → K (some (.int (-1))) M22)) ∧ (r21 = false → K (some (.int (-1))) M22)))) : S_X11_peer (d + 1) x1 x2 M K := by
  show zV m_X11_peer (d + 1) 0 [(0, .ref 0), (1, .int x1), (2, .int x2)] [] M K
  refine zr_aload_n dX11_peer_0 rfl 0 rfl ?_
  refine zr_iload_n dX11_peer_1 rfl 1 rfl ?_
  refine zm_callV_b (c := 11) (b := 0) dX11_peer_2 w_X11_isPeer l_X11_179 rfl (by decide) (by decide) s_X11_isPeer [.int x1] rfl rfl (Nat.le_of_ble_eq_true rfl) (Nat.le_of_ble_eq_true rfl) ?_
  refine zV.post T ?_
  rintro v M22 ⟨r21, rfl, T⟩
  refine ⟨r21, rfl, ?_⟩
  refine zm_ifb_ne (tgt := 10) dX11_peer_5 (by decide) (fun h23 => ?_) (fun h23 => ?_)
  · have T := T.1 h23
    refine zr_iload_n dX11_peer_10 rfl 2 rfl ?_
    by_cases h35 : x2 = 0
    · have T := T.1 h35
      refine zr_tableIn (tgt := 52) dX11_peer_11 (by rw [h35]; decide) (by rw [h35]; decide) (by rw [h35]; rfl) (by decide) ?_
      refine zr_aload_n dX11_peer_52 rfl 0 rfl ?_
      refine zm_getr (a := 63) dX11_peer_53 f_X11_44 (by decide) (by decide) (by decide) (by decide) ?_
      refine zm_getr (a := 64) dX11_peer_56 f_X11_182 (by decide) (by decide) (by decide) (by decide) ?_
      refine zr_iload_n dX11_peer_59 rfl 1 rfl ?_
      obtain ⟨hq24, T⟩ := T
      refine zm_aald (t := 4) (n := 4) (q := (Int32.toNatClampNeg x1)) (o := 65 + 12 * (Int32.toNatClampNeg x1)) dX11_peer_60 (by decide) (by decide) (by decide) (fun _ => rfl) (by decide) hq24 rfl (e64 (z_lt hq24)) ?_
      refine zm_geti dX11_peer_61 f_X11_186 (oX9 _ (e64q (z_lt hq24))) (by decide) (by decide) ?_
      exact zm_iret dX11_peer_64 rfl T
    by_cases h36 : x2 = 1
    · have T := T.2.1 h36
      refine zr_tableIn (tgt := 65) dX11_peer_11 (by rw [h36]; decide) (by rw [h36]; decide) (by rw [h36]; rfl) (by decide) ?_
      refine zr_aload_n dX11_peer_65 rfl 0 rfl ?_
      refine zm_getr (a := 63) dX11_peer_66 f_X11_44 (by decide) (by decide) (by decide) (by decide) ?_
      refine zr_iload_n dX11_peer_69 rfl 1 rfl ?_
      refine zm_callV_i (c := 4) (b := 63) dX11_peer_70 w_X4_goneCount l_X11_191 rfl (by decide) (by decide) s_X4_goneCount [.int x1] rfl rfl (Nat.le_of_ble_eq_true rfl) (Nat.le_of_ble_eq_true rfl) ?_
      refine zV.post T ?_
      rintro v M26 ⟨r25, rfl, T⟩
      refine ⟨r25, rfl, ?_⟩
      exact zm_iret dX11_peer_73 rfl T
    by_cases h37 : x2 = 2
    · have T := T.2.2.1 h37
      refine zr_tableIn (tgt := 74) dX11_peer_11 (by rw [h37]; decide) (by rw [h37]; decide) (by rw [h37]; rfl) (by decide) ?_
      refine zr_aload_n dX11_peer_74 rfl 0 rfl ?_
      refine zm_getr (a := 63) dX11_peer_75 f_X11_44 (by decide) (by decide) (by decide) (by decide) ?_
      refine zm_getr (a := 64) dX11_peer_78 f_X11_182 (by decide) (by decide) (by decide) (by decide) ?_
      refine zr_iload_n dX11_peer_81 rfl 1 rfl ?_
      obtain ⟨hq27, T⟩ := T
      refine zm_aald (t := 4) (n := 4) (q := (Int32.toNatClampNeg x1)) (o := 65 + 12 * (Int32.toNatClampNeg x1)) dX11_peer_82 (by decide) (by decide) (by decide) (fun _ => rfl) (by decide) hq27 rfl (e64 (z_lt hq27)) ?_
      refine zm_geti dX11_peer_83 f_X11_194 (oX9 _ (e64q (z_lt hq27))) (by decide) (by decide) ?_
      exact zm_iret dX11_peer_86 rfl T
    by_cases h38 : x2 = 3
    · have T := T.2.2.2.1 h38
      refine zr_tableIn (tgt := 87) dX11_peer_11 (by rw [h38]; decide) (by rw [h38]; decide) (by rw [h38]; rfl) (by decide) ?_
      refine zr_aload_n dX11_peer_87 rfl 0 rfl ?_
      refine zm_getr (a := 63) dX11_peer_88 f_X11_44 (by decide) (by decide) (by decide) (by decide) ?_
      refine zm_getr (a := 64) dX11_peer_91 f_X11_182 (by decide) (by decide) (by decide) (by decide) ?_
      refine zr_iload_n dX11_peer_94 rfl 1 rfl ?_
      obtain ⟨hq28, T⟩ := T
      refine zm_aald (t := 4) (n := 4) (q := (Int32.toNatClampNeg x1)) (o := 65 + 12 * (Int32.toNatClampNeg x1)) dX11_peer_95 (by decide) (by decide) (by decide) (fun _ => rfl) (by decide) hq28 rfl (e64 (z_lt hq28)) ?_
      refine zm_geti dX11_peer_96 f_X11_194 (oX9 _ (e64q (z_lt hq28))) (by decide) (by decide) ?_
      refine zr_if_ne (tgt := 106) dX11_peer_99 (by decide) (fun h29 => ?_) (fun h29 => ?_)
      · have T := T.1 h29
        refine zr_aload_n dX11_peer_106 rfl 0 rfl ?_
        refine zm_getr (a := 63) dX11_peer_107 f_X11_44 (by decide) (by decide) (by decide) (by decide) ?_
        refine zm_getr (a := 64) dX11_peer_110 f_X11_182 (by decide) (by decide) (by decide) (by decide) ?_
        refine zr_iload_n dX11_peer_113 rfl 1 rfl ?_
        obtain ⟨hq30, T⟩ := T
        refine zm_aald (t := 4) (n := 4) (q := (Int32.toNatClampNeg x1)) (o := 65 + 12 * (Int32.toNatClampNeg x1)) dX11_peer_114 (by decide) (by decide) (by decide) (fun _ => rfl) (by decide) hq30 rfl (e64 (z_lt hq30)) ?_
        refine zm_getr (a := 65 + 12 * (Int32.toNatClampNeg x1) + 4) dX11_peer_115 f_X11_197 (oX9 _ (e64q (z_lt hq30))) (by decide) (by decide) (rX9_4 _ (e64q (z_lt hq30))) ?_
        refine zr_iconst (v := 0) dX11_peer_118 (by decide) ?_
        refine zm_iald (n := 24) (o := 0) dX11_peer_119 (aX _ (qX9_4 _ (e64q (z_lt hq30)))) (lX _ (qX9_4 _ (e64q (z_lt hq30)))) (zin (by decide)) (by decide) ?_
        exact zm_iret dX11_peer_120 rfl T
      · have T := T.2 h29
        refine zr_iconst (v := (-1)) dX11_peer_102 (by decide) ?_
        refine zr_goto (tgt := 120) dX11_peer_103 (by decide) ?_
        exact zm_iret dX11_peer_120 rfl T
    by_cases h39 : x2 = 4
    · have T := T.2.2.2.2.1 h39
      refine zr_tableIn (tgt := 121) dX11_peer_11 (by rw [h39]; decide) (by rw [h39]; decide) (by rw [h39]; rfl) (by decide) ?_
      refine zr_aload_n dX11_peer_121 rfl 0 rfl ?_
      refine zm_getr (a := 2) dX11_peer_122 f_X11_20 (by decide) (by decide) (by decide) (by decide) ?_
      refine zm_getr (a := 10) dX11_peer_125 f_X11_37 (by decide) (by decide) (by decide) (by decide) ?_
      refine zm_getr (a := 13) dX11_peer_128 f_X11_200 (by decide) (by decide) (by decide) (by decide) ?_
      refine zr_iload_n dX11_peer_131 rfl 1 rfl ?_
      obtain ⟨hq31, T⟩ := T
      refine zm_iald (n := 4) (o := (Int32.toNatClampNeg x1)) dX11_peer_132 (by decide) (by decide) hq31 rfl ?_
      exact zm_iret dX11_peer_133 rfl T
    by_cases h40 : x2 = 5
    · have T := T.2.2.2.2.2.1 h40
      refine zr_tableIn (tgt := 134) dX11_peer_11 (by rw [h40]; decide) (by rw [h40]; decide) (by rw [h40]; rfl) (by decide) ?_
      refine zr_aload_n dX11_peer_134 rfl 0 rfl ?_
      refine zm_getr (a := 63) dX11_peer_135 f_X11_44 (by decide) (by decide) (by decide) (by decide) ?_
      refine zr_iload_n dX11_peer_138 rfl 1 rfl ?_
      refine zm_callV_i (c := 4) (b := 63) dX11_peer_139 w_X4_sameRootBits l_X11_203 rfl (by decide) (by decide) s_X4_sameRootBits [.int x1] rfl rfl (Nat.le_of_ble_eq_true rfl) (Nat.le_of_ble_eq_true rfl) ?_
      refine zV.post T ?_
      rintro v M33 ⟨r32, rfl, T⟩
      refine ⟨r32, rfl, ?_⟩
      exact zm_iret dX11_peer_142 rfl T
    by_cases h41 : x2 = 6
    · have T := T.2.2.2.2.2.2.1 h41
      refine zr_tableIn (tgt := 143) dX11_peer_11 (by rw [h41]; decide) (by rw [h41]; decide) (by rw [h41]; rfl) (by decide) ?_
      refine zr_aload_n dX11_peer_143 rfl 0 rfl ?_
      refine zm_getr (a := 2) dX11_peer_144 f_X11_20 (by decide) (by decide) (by decide) (by decide) ?_
      refine zm_getr (a := 10) dX11_peer_147 f_X11_37 (by decide) (by decide) (by decide) (by decide) ?_
      refine zm_getr (a := 14) dX11_peer_150 f_X11_206 (by decide) (by decide) (by decide) (by decide) ?_
      refine zr_iload_n dX11_peer_153 rfl 1 rfl ?_
      obtain ⟨hq34, T⟩ := T
      refine zm_iald (n := 4) (o := (Int32.toNatClampNeg x1)) dX11_peer_154 (by decide) (by decide) hq34 rfl ?_
      exact zm_iret dX11_peer_155 rfl T
    · have T := T.2.2.2.2.2.2.2 h35 h36 h37 h38 h39 h40 h41
      refine zr_tableOut (tgt := 156) dX11_peer_11 (z_out_0_6 h35 h36 h37 h38 h39 h40 h41) (by decide) ?_
      refine zr_iconst (v := (-1)) dX11_peer_156 (by decide) ?_
      exact zm_iret dX11_peer_157 rfl T
  · have T := T.2 h23
    refine zr_iconst (v := (-1)) dX11_peer_8 (by decide) ?_
    exact zm_iret dX11_peer_9 rfl T
set_option maxRecDepth 100000 in
set_option maxHeartbeats 4000000 in
theorem t_X11_isPeer {d : Nat} {x1 : Int32} {M : zMem} {K : zK} 
    (T : (x1 < 0 → K (some (.int 0)) M) ∧ (¬ (x1 < 0) → ((M.1 3 4) ≤ x1 → K (some (.int 0)) M) ∧ (¬ ((M.1 3 4) ≤ x1) → K (some (.int 1)) M))) : S_X11_isPeer d x1 M K := by
  show zV m_X11_isPeer d 0 [(0, .ref 0), (1, .int x1)] [] M K
  refine zr_iload_n dX11_isPeer_0 rfl 1 rfl ?_
  refine zr_if_lt (tgt := 22) dX11_isPeer_1 (by decide) (fun h21 => ?_) (fun h21 => ?_)
  · have T := T.1 h21
    refine zr_iconst (v := 0) dX11_isPeer_22 (by decide) ?_
    exact zm_zret dX11_isPeer_23 rfl (by decide) T
  · have T := T.2 h21
    refine zr_iload_n dX11_isPeer_4 rfl 1 rfl ?_
    refine zr_aload_n dX11_isPeer_5 rfl 0 rfl ?_
    refine zm_getr (a := 2) dX11_isPeer_6 f_X11_20 (by decide) (by decide) (by decide) (by decide) ?_
    refine zm_getr (a := 3) dX11_isPeer_9 f_X11_33 (by decide) (by decide) (by decide) (by decide) ?_
    refine zm_geti dX11_isPeer_12 f_X11_415 (by decide) (by decide) (by decide) ?_
    refine zr_icmp_ge (tgt := 22) dX11_isPeer_15 (by decide) (fun h22 => ?_) (fun h22 => ?_)
    · have T := T.1 h22
      refine zr_iconst (v := 0) dX11_isPeer_22 (by decide) ?_
      exact zm_zret dX11_isPeer_23 rfl (by decide) T
    · have T := T.2 h22
      refine zr_iconst (v := 1) dX11_isPeer_18 (by decide) ?_
      refine zr_goto (tgt := 23) dX11_isPeer_19 (by decide) ?_
      exact zm_zret dX11_isPeer_23 rfl (by decide) T
set_option maxRecDepth 100000 in
set_option maxHeartbeats 4000000 in
theorem t_X11_now {d : Nat} {x1 : Int32} {M : zMem} {K : zK} 
    (T : (x1 = 0 → K (some (.int (M.1 10 4))) M) ∧ (x1 = 1 → K (some (.int (M.1 10 5))) M) ∧ (x1 = 2 → K (some (.int (M.1 10 6))) M) ∧ (x1 = 3 → S_X4_tornBits d 63 M (zI (fun r21 M22 => K (some (.int r21)) M22))) ∧ (x1 = 4 → S_X4_rootKinds d 63 M (zI (fun r23 M24 => K (some (.int r23)) M24))) ∧ (¬ x1 = 0 → ¬ x1 = 1 → ¬ x1 = 2 → ¬ x1 = 3 → ¬ x1 = 4 → K (some (.int (-1))) M)) : S_X11_now (d + 1) x1 M K := by
  show zV m_X11_now (d + 1) 0 [(0, .ref 0), (1, .int x1)] [] M K
  refine zr_iload_n dX11_now_0 rfl 1 rfl ?_
  by_cases h25 : x1 = 0
  · have T := T.1 h25
    refine zr_tableIn (tgt := 36) dX11_now_1 (by rw [h25]; decide) (by rw [h25]; decide) (by rw [h25]; rfl) (by decide) ?_
    refine zr_aload_n dX11_now_36 rfl 0 rfl ?_
    refine zm_getr (a := 2) dX11_now_37 f_X11_20 (by decide) (by decide) (by decide) (by decide) ?_
    refine zm_getr (a := 10) dX11_now_40 f_X11_37 (by decide) (by decide) (by decide) (by decide) ?_
    refine zm_geti dX11_now_43 f_X11_236 (by decide) (by decide) (by decide) ?_
    exact zm_iret dX11_now_46 rfl T
  by_cases h26 : x1 = 1
  · have T := T.2.1 h26
    refine zr_tableIn (tgt := 47) dX11_now_1 (by rw [h26]; decide) (by rw [h26]; decide) (by rw [h26]; rfl) (by decide) ?_
    refine zr_aload_n dX11_now_47 rfl 0 rfl ?_
    refine zm_getr (a := 2) dX11_now_48 f_X11_20 (by decide) (by decide) (by decide) (by decide) ?_
    refine zm_getr (a := 10) dX11_now_51 f_X11_37 (by decide) (by decide) (by decide) (by decide) ?_
    refine zm_geti dX11_now_54 f_X11_239 (by decide) (by decide) (by decide) ?_
    exact zm_iret dX11_now_57 rfl T
  by_cases h27 : x1 = 2
  · have T := T.2.2.1 h27
    refine zr_tableIn (tgt := 58) dX11_now_1 (by rw [h27]; decide) (by rw [h27]; decide) (by rw [h27]; rfl) (by decide) ?_
    refine zr_aload_n dX11_now_58 rfl 0 rfl ?_
    refine zm_getr (a := 2) dX11_now_59 f_X11_20 (by decide) (by decide) (by decide) (by decide) ?_
    refine zm_getr (a := 10) dX11_now_62 f_X11_37 (by decide) (by decide) (by decide) (by decide) ?_
    refine zm_geti dX11_now_65 f_X11_242 (by decide) (by decide) (by decide) ?_
    exact zm_iret dX11_now_68 rfl T
  by_cases h28 : x1 = 3
  · have T := T.2.2.2.1 h28
    refine zr_tableIn (tgt := 69) dX11_now_1 (by rw [h28]; decide) (by rw [h28]; decide) (by rw [h28]; rfl) (by decide) ?_
    refine zr_aload_n dX11_now_69 rfl 0 rfl ?_
    refine zm_getr (a := 63) dX11_now_70 f_X11_44 (by decide) (by decide) (by decide) (by decide) ?_
    refine zm_callV_i (c := 4) (b := 63) dX11_now_73 w_X4_tornBits l_X11_245 rfl (by decide) (by decide) s_X4_tornBits [] rfl rfl (Nat.le_of_ble_eq_true rfl) (Nat.le_of_ble_eq_true rfl) ?_
    refine zV.post T ?_
    rintro v M22 ⟨r21, rfl, T⟩
    refine ⟨r21, rfl, ?_⟩
    exact zm_iret dX11_now_76 rfl T
  by_cases h29 : x1 = 4
  · have T := T.2.2.2.2.1 h29
    refine zr_tableIn (tgt := 77) dX11_now_1 (by rw [h29]; decide) (by rw [h29]; decide) (by rw [h29]; rfl) (by decide) ?_
    refine zr_aload_n dX11_now_77 rfl 0 rfl ?_
    refine zm_getr (a := 63) dX11_now_78 f_X11_44 (by decide) (by decide) (by decide) (by decide) ?_
    refine zm_callV_i (c := 4) (b := 63) dX11_now_81 w_X4_rootKinds l_X11_249 rfl (by decide) (by decide) s_X4_rootKinds [] rfl rfl (Nat.le_of_ble_eq_true rfl) (Nat.le_of_ble_eq_true rfl) ?_
    refine zV.post T ?_
    rintro v M24 ⟨r23, rfl, T⟩
    refine ⟨r23, rfl, ?_⟩
    exact zm_iret dX11_now_84 rfl T
  · have T := T.2.2.2.2.2 h25 h26 h27 h28 h29
    refine zr_tableOut (tgt := 85) dX11_now_1 (z_out_0_4 h25 h26 h27 h28 h29) (by decide) ?_
    refine zr_iconst (v := (-1)) dX11_now_85 (by decide) ?_
    exact zm_iret dX11_now_86 rfl T
set_option maxRecDepth 100000 in
set_option maxHeartbeats 4000000 in
theorem t_X11_put {d : Nat} {x1 : Int32} {x2 : Int32} {x3 : Int32} {M : zMem} {K : zK} 
    (T : S_X11_isPeer d x1 M (zB (fun r21 M22 => (r21 = false → K (some (.int (-1))) M22) ∧ (r21 = true → S_X11_isKey d x2 M22 (zB (fun r24 M25 => (r24 = false → K (some (.int (-1))) M25) ∧ (r24 = true → (x3 < 0 → K (some (.int (-1))) M25) ∧ (¬ (x3 < 0) → (x3 ≤ 999 → S_X10_note d 10 M25 (zU (fun M30 => S_X4_tryPut d 63 x1 x2 x3 M30 (zI (fun r31 M32 => S_X11_keepIfDone d r31 M32 (zI (fun r33 M34 => K (some (.int r33)) M34))))))) ∧ (¬ (x3 ≤ 999) → K (some (.int (-1))) M25))))))))) : S_X11_put (d + 1) x1 x2 x3 M K := by
  show zV m_X11_put (d + 1) 0 [(0, .ref 0), (1, .int x1), (2, .int x2), (3, .int x3)] [] M K
  refine zr_aload_n dX11_put_0 rfl 0 rfl ?_
  refine zr_iload_n dX11_put_1 rfl 1 rfl ?_
  refine zm_callV_b (c := 11) (b := 0) dX11_put_2 w_X11_isPeer l_X11_179 rfl (by decide) (by decide) s_X11_isPeer [.int x1] rfl rfl (Nat.le_of_ble_eq_true rfl) (Nat.le_of_ble_eq_true rfl) ?_
  refine zV.post T ?_
  rintro v M22 ⟨r21, rfl, T⟩
  refine ⟨r21, rfl, ?_⟩
  refine zm_ifb_eq (tgt := 27) dX11_put_5 (by decide) (fun h23 => ?_) (fun h23 => ?_)
  · have T := T.1 h23
    refine zr_iconst (v := (-1)) dX11_put_27 (by decide) ?_
    exact zm_iret dX11_put_28 rfl T
  · have T := T.2 h23
    refine zr_aload_n dX11_put_8 rfl 0 rfl ?_
    refine zr_iload_n dX11_put_9 rfl 2 rfl ?_
    refine zm_callV_b (c := 11) (b := 0) dX11_put_10 w_X11_isKey l_X11_153 rfl (by decide) (by decide) s_X11_isKey [.int x2] rfl rfl (Nat.le_of_ble_eq_true rfl) (Nat.le_of_ble_eq_true rfl) ?_
    refine zV.post T ?_
    rintro v M25 ⟨r24, rfl, T⟩
    refine ⟨r24, rfl, ?_⟩
    refine zm_ifb_eq (tgt := 27) dX11_put_13 (by decide) (fun h26 => ?_) (fun h26 => ?_)
    · have T := T.1 h26
      refine zr_iconst (v := (-1)) dX11_put_27 (by decide) ?_
      exact zm_iret dX11_put_28 rfl T
    · have T := T.2 h26
      refine zr_iload_n dX11_put_16 rfl 3 rfl ?_
      refine zr_if_lt (tgt := 27) dX11_put_17 (by decide) (fun h27 => ?_) (fun h27 => ?_)
      · have T := T.1 h27
        refine zr_iconst (v := (-1)) dX11_put_27 (by decide) ?_
        exact zm_iret dX11_put_28 rfl T
      · have T := T.2 h27
        refine zr_iload_n dX11_put_20 rfl 3 rfl ?_
        refine zr_sipush (v := 999) dX11_put_21 (by decide) ?_
        refine zr_icmp_le (tgt := 29) dX11_put_24 (by decide) (fun h28 => ?_) (fun h28 => ?_)
        · have T := T.1 h28
          refine zr_aload_n dX11_put_29 rfl 0 rfl ?_
          refine zm_getr (a := 170) dX11_put_30 f_X11_57 (by decide) (by decide) (by decide) (by decide) ?_
          refine zr_aload_n dX11_put_33 rfl 0 rfl ?_
          refine zm_getr (a := 2) dX11_put_34 f_X11_20 (by decide) (by decide) (by decide) (by decide) ?_
          refine zm_getr (a := 10) dX11_put_37 f_X11_37 (by decide) (by decide) (by decide) (by decide) ?_
          refine zm_callV_v (c := 10) (b := 170) dX11_put_40 w_X10_note l_X11_252 rfl (by decide) (by decide) s_X10_note [.ref 10] rfl rfl (Nat.le_of_ble_eq_true rfl) (Nat.le_of_ble_eq_true rfl) ?_
          refine zV.post T ?_
          rintro v M30 ⟨rfl, T⟩
          refine ⟨rfl, ?_⟩
          refine zr_aload_n dX11_put_43 rfl 0 rfl ?_
          refine zr_aload_n dX11_put_44 rfl 0 rfl ?_
          refine zm_getr (a := 63) dX11_put_45 f_X11_44 (by decide) (by decide) (by decide) (by decide) ?_
          refine zr_iload_n dX11_put_48 rfl 1 rfl ?_
          refine zr_iload_n dX11_put_49 rfl 2 rfl ?_
          refine zr_iload_n dX11_put_50 rfl 3 rfl ?_
          refine zm_callV_i (c := 4) (b := 63) dX11_put_51 w_X4_tryPut l_X11_256 rfl (by decide) (by decide) s_X4_tryPut [.int x1, .int x2, .int x3] rfl rfl (Nat.le_of_ble_eq_true rfl) (Nat.le_of_ble_eq_true rfl) ?_
          refine zV.post T ?_
          rintro v M32 ⟨r31, rfl, T⟩
          refine ⟨r31, rfl, ?_⟩
          refine zm_callV_i (c := 11) (b := 0) dX11_put_54 w_X11_keepIfDone l_X11_260 rfl (by decide) (by decide) s_X11_keepIfDone [.int r31] rfl rfl (Nat.le_of_ble_eq_true rfl) (Nat.le_of_ble_eq_true rfl) ?_
          refine zV.post T ?_
          rintro v M34 ⟨r33, rfl, T⟩
          refine ⟨r33, rfl, ?_⟩
          exact zm_iret dX11_put_57 rfl T
        · have T := T.2 h28
          refine zr_iconst (v := (-1)) dX11_put_27 (by decide) ?_
          exact zm_iret dX11_put_28 rfl T
set_option maxRecDepth 100000 in
set_option maxHeartbeats 4000000 in
theorem t_X11_keepIfDone {d : Nat} {x1 : Int32} {M : zMem} {K : zK} 
    (T : (¬ x1 = 0 → K (some (.int x1)) M) ∧ (x1 = 0 → S_X10_keepNoted d  M (zU (fun M23 => K (some (.int x1)) M23)))) : S_X11_keepIfDone (d + 1) x1 M K := by
  show zV m_X11_keepIfDone (d + 1) 0 [(0, .ref 0), (1, .int x1)] [] M K
  refine zr_iload_n dX11_keepIfDone_0 rfl 1 rfl ?_
  refine zr_if_ne (tgt := 11) dX11_keepIfDone_1 (by decide) (fun h21 => ?_) (fun h21 => ?_)
  · have T := T.1 h21
    refine zr_iload_n dX11_keepIfDone_11 rfl 1 rfl ?_
    exact zm_iret dX11_keepIfDone_12 rfl T
  · have T := T.2 h21
    refine zr_aload_n dX11_keepIfDone_4 rfl 0 rfl ?_
    refine zm_getr (a := 170) dX11_keepIfDone_5 f_X11_57 (by decide) (by decide) (by decide) (by decide) ?_
    refine zm_callV_v (c := 10) (b := 170) dX11_keepIfDone_8 w_X10_keepNoted l_X11_278 rfl (by decide) (by decide) s_X10_keepNoted [] rfl rfl (Nat.le_of_ble_eq_true rfl) (Nat.le_of_ble_eq_true rfl) ?_
    refine zV.post T ?_
    rintro v M23 ⟨rfl, T⟩
    refine ⟨rfl, ?_⟩
    refine zr_iload_n dX11_keepIfDone_11 rfl 1 rfl ?_
    exact zm_iret dX11_keepIfDone_12 rfl T
set_option maxRecDepth 100000 in
set_option maxHeartbeats 4000000 in
theorem t_X11_drop {d : Nat} {x1 : Int32} {x2 : Int32} {M : zMem} {K : zK} 
    (T : S_X11_isPeer d x1 M (zB (fun r21 M22 => (r21 = false → K (some (.int (-1))) M22) ∧ (r21 = true → S_X11_isKey d x2 M22 (zB (fun r24 M25 => (r24 = true → S_X10_note d 10 M25 (zU (fun M28 => S_X4_tryDrop d 63 x1 x2 M28 (zI (fun r29 M30 => S_X11_keepIfDone d r29 M30 (zI (fun r31 M32 => K (some (.int r31)) M32))))))) ∧ (r24 = false → K (some (.int (-1))) M25))))))) : S_X11_drop (d + 1) x1 x2 M K := by
  show zV m_X11_drop (d + 1) 0 [(0, .ref 0), (1, .int x1), (2, .int x2)] [] M K
  refine zr_aload_n dX11_drop_0 rfl 0 rfl ?_
  refine zr_iload_n dX11_drop_1 rfl 1 rfl ?_
  refine zm_callV_b (c := 11) (b := 0) dX11_drop_2 w_X11_isPeer l_X11_179 rfl (by decide) (by decide) s_X11_isPeer [.int x1] rfl rfl (Nat.le_of_ble_eq_true rfl) (Nat.le_of_ble_eq_true rfl) ?_
  refine zV.post T ?_
  rintro v M22 ⟨r21, rfl, T⟩
  refine ⟨r21, rfl, ?_⟩
  refine zm_ifb_eq (tgt := 16) dX11_drop_5 (by decide) (fun h23 => ?_) (fun h23 => ?_)
  · have T := T.1 h23
    refine zr_iconst (v := (-1)) dX11_drop_16 (by decide) ?_
    exact zm_iret dX11_drop_17 rfl T
  · have T := T.2 h23
    refine zr_aload_n dX11_drop_8 rfl 0 rfl ?_
    refine zr_iload_n dX11_drop_9 rfl 2 rfl ?_
    refine zm_callV_b (c := 11) (b := 0) dX11_drop_10 w_X11_isKey l_X11_153 rfl (by decide) (by decide) s_X11_isKey [.int x2] rfl rfl (Nat.le_of_ble_eq_true rfl) (Nat.le_of_ble_eq_true rfl) ?_
    refine zV.post T ?_
    rintro v M25 ⟨r24, rfl, T⟩
    refine ⟨r24, rfl, ?_⟩
    refine zm_ifb_ne (tgt := 18) dX11_drop_13 (by decide) (fun h26 => ?_) (fun h26 => ?_)
    · have T := T.1 h26
      refine zr_aload_n dX11_drop_18 rfl 0 rfl ?_
      refine zm_getr (a := 170) dX11_drop_19 f_X11_57 (by decide) (by decide) (by decide) (by decide) ?_
      refine zr_aload_n dX11_drop_22 rfl 0 rfl ?_
      refine zm_getr (a := 2) dX11_drop_23 f_X11_20 (by decide) (by decide) (by decide) (by decide) ?_
      refine zm_getr (a := 10) dX11_drop_26 f_X11_37 (by decide) (by decide) (by decide) (by decide) ?_
      refine zm_callV_v (c := 10) (b := 170) dX11_drop_29 w_X10_note l_X11_252 rfl (by decide) (by decide) s_X10_note [.ref 10] rfl rfl (Nat.le_of_ble_eq_true rfl) (Nat.le_of_ble_eq_true rfl) ?_
      refine zV.post T ?_
      rintro v M28 ⟨rfl, T⟩
      refine ⟨rfl, ?_⟩
      refine zr_aload_n dX11_drop_32 rfl 0 rfl ?_
      refine zr_aload_n dX11_drop_33 rfl 0 rfl ?_
      refine zm_getr (a := 63) dX11_drop_34 f_X11_44 (by decide) (by decide) (by decide) (by decide) ?_
      refine zr_iload_n dX11_drop_37 rfl 1 rfl ?_
      refine zr_iload_n dX11_drop_38 rfl 2 rfl ?_
      refine zm_callV_i (c := 4) (b := 63) dX11_drop_39 w_X4_tryDrop l_X11_263 rfl (by decide) (by decide) s_X4_tryDrop [.int x1, .int x2] rfl rfl (Nat.le_of_ble_eq_true rfl) (Nat.le_of_ble_eq_true rfl) ?_
      refine zV.post T ?_
      rintro v M30 ⟨r29, rfl, T⟩
      refine ⟨r29, rfl, ?_⟩
      refine zm_callV_i (c := 11) (b := 0) dX11_drop_42 w_X11_keepIfDone l_X11_260 rfl (by decide) (by decide) s_X11_keepIfDone [.int r29] rfl rfl (Nat.le_of_ble_eq_true rfl) (Nat.le_of_ble_eq_true rfl) ?_
      refine zV.post T ?_
      rintro v M32 ⟨r31, rfl, T⟩
      refine ⟨r31, rfl, ?_⟩
      exact zm_iret dX11_drop_45 rfl T
    · have T := T.2 h26
      refine zr_iconst (v := (-1)) dX11_drop_16 (by decide) ?_
      exact zm_iret dX11_drop_17 rfl T
set_option maxRecDepth 100000 in
set_option maxHeartbeats 4000000 in
theorem t_X11_pull {d : Nat} {x1 : Int32} {x2 : Int32} {M : zMem} {K : zK} 
    (T : S_X11_areTwo d x1 x2 M (zB (fun r21 M22 => (r21 = true → S_X10_note d 10 M22 (zU (fun M25 => S_X4_tryPull d 63 x1 x2 M25 (zI (fun r26 M27 => S_X11_keepIfDone d r26 M27 (zI (fun r28 M29 => K (some (.int r28)) M29))))))) ∧ (r21 = false → K (some (.int (-1))) M22)))) : S_X11_pull (d + 1) x1 x2 M K := by
  show zV m_X11_pull (d + 1) 0 [(0, .ref 0), (1, .int x1), (2, .int x2)] [] M K
  refine zr_aload_n dX11_pull_0 rfl 0 rfl ?_
  refine zr_iload_n dX11_pull_1 rfl 1 rfl ?_
  refine zr_iload_n dX11_pull_2 rfl 2 rfl ?_
  refine zm_callV_b (c := 11) (b := 0) dX11_pull_3 w_X11_areTwo l_X11_266 rfl (by decide) (by decide) s_X11_areTwo [.int x1, .int x2] rfl rfl (Nat.le_of_ble_eq_true rfl) (Nat.le_of_ble_eq_true rfl) ?_
  refine zV.post T ?_
  rintro v M22 ⟨r21, rfl, T⟩
  refine ⟨r21, rfl, ?_⟩
  refine zm_ifb_ne (tgt := 11) dX11_pull_6 (by decide) (fun h23 => ?_) (fun h23 => ?_)
  · have T := T.1 h23
    refine zr_aload_n dX11_pull_11 rfl 0 rfl ?_
    refine zm_getr (a := 170) dX11_pull_12 f_X11_57 (by decide) (by decide) (by decide) (by decide) ?_
    refine zr_aload_n dX11_pull_15 rfl 0 rfl ?_
    refine zm_getr (a := 2) dX11_pull_16 f_X11_20 (by decide) (by decide) (by decide) (by decide) ?_
    refine zm_getr (a := 10) dX11_pull_19 f_X11_37 (by decide) (by decide) (by decide) (by decide) ?_
    refine zm_callV_v (c := 10) (b := 170) dX11_pull_22 w_X10_note l_X11_252 rfl (by decide) (by decide) s_X10_note [.ref 10] rfl rfl (Nat.le_of_ble_eq_true rfl) (Nat.le_of_ble_eq_true rfl) ?_
    refine zV.post T ?_
    rintro v M25 ⟨rfl, T⟩
    refine ⟨rfl, ?_⟩
    refine zr_aload_n dX11_pull_25 rfl 0 rfl ?_
    refine zr_aload_n dX11_pull_26 rfl 0 rfl ?_
    refine zm_getr (a := 63) dX11_pull_27 f_X11_44 (by decide) (by decide) (by decide) (by decide) ?_
    refine zr_iload_n dX11_pull_30 rfl 1 rfl ?_
    refine zr_iload_n dX11_pull_31 rfl 2 rfl ?_
    refine zm_callV_i (c := 4) (b := 63) dX11_pull_32 w_X4_tryPull l_X11_269 rfl (by decide) (by decide) s_X4_tryPull [.int x1, .int x2] rfl rfl (Nat.le_of_ble_eq_true rfl) (Nat.le_of_ble_eq_true rfl) ?_
    refine zV.post T ?_
    rintro v M27 ⟨r26, rfl, T⟩
    refine ⟨r26, rfl, ?_⟩
    refine zm_callV_i (c := 11) (b := 0) dX11_pull_35 w_X11_keepIfDone l_X11_260 rfl (by decide) (by decide) s_X11_keepIfDone [.int r26] rfl rfl (Nat.le_of_ble_eq_true rfl) (Nat.le_of_ble_eq_true rfl) ?_
    refine zV.post T ?_
    rintro v M29 ⟨r28, rfl, T⟩
    refine ⟨r28, rfl, ?_⟩
    exact zm_iret dX11_pull_38 rfl T
  · have T := T.2 h23
    refine zr_iconst (v := (-1)) dX11_pull_9 (by decide) ?_
    exact zm_iret dX11_pull_10 rfl T
set_option maxRecDepth 100000 in
set_option maxHeartbeats 4000000 in
theorem t_X11_areTwo {d : Nat} {x1 : Int32} {x2 : Int32} {M : zMem} {K : zK} 
    (T : S_X11_isPeer d x1 M (zB (fun r21 M22 => (r21 = false → K (some (.int 0)) M22) ∧ (r21 = true → S_X11_isPeer d x2 M22 (zB (fun r24 M25 => (r24 = false → K (some (.int 0)) M25) ∧ (r24 = true → (x1 = x2 → K (some (.int 0)) M25) ∧ (¬ (x1 = x2) → K (some (.int 1)) M25)))))))) : S_X11_areTwo (d + 1) x1 x2 M K := by
  show zV m_X11_areTwo (d + 1) 0 [(0, .ref 0), (1, .int x1), (2, .int x2)] [] M K
  refine zr_aload_n dX11_areTwo_0 rfl 0 rfl ?_
  refine zr_iload_n dX11_areTwo_1 rfl 1 rfl ?_
  refine zm_callV_b (c := 11) (b := 0) dX11_areTwo_2 w_X11_isPeer l_X11_179 rfl (by decide) (by decide) s_X11_isPeer [.int x1] rfl rfl (Nat.le_of_ble_eq_true rfl) (Nat.le_of_ble_eq_true rfl) ?_
  refine zV.post T ?_
  rintro v M22 ⟨r21, rfl, T⟩
  refine ⟨r21, rfl, ?_⟩
  refine zm_ifb_eq (tgt := 25) dX11_areTwo_5 (by decide) (fun h23 => ?_) (fun h23 => ?_)
  · have T := T.1 h23
    refine zr_iconst (v := 0) dX11_areTwo_25 (by decide) ?_
    exact zm_zret dX11_areTwo_26 rfl (by decide) T
  · have T := T.2 h23
    refine zr_aload_n dX11_areTwo_8 rfl 0 rfl ?_
    refine zr_iload_n dX11_areTwo_9 rfl 2 rfl ?_
    refine zm_callV_b (c := 11) (b := 0) dX11_areTwo_10 w_X11_isPeer l_X11_179 rfl (by decide) (by decide) s_X11_isPeer [.int x2] rfl rfl (Nat.le_of_ble_eq_true rfl) (Nat.le_of_ble_eq_true rfl) ?_
    refine zV.post T ?_
    rintro v M25 ⟨r24, rfl, T⟩
    refine ⟨r24, rfl, ?_⟩
    refine zm_ifb_eq (tgt := 25) dX11_areTwo_13 (by decide) (fun h26 => ?_) (fun h26 => ?_)
    · have T := T.1 h26
      refine zr_iconst (v := 0) dX11_areTwo_25 (by decide) ?_
      exact zm_zret dX11_areTwo_26 rfl (by decide) T
    · have T := T.2 h26
      refine zr_iload_n dX11_areTwo_16 rfl 1 rfl ?_
      refine zr_iload_n dX11_areTwo_17 rfl 2 rfl ?_
      refine zr_icmp_eq (tgt := 25) dX11_areTwo_18 (by decide) (fun h27 => ?_) (fun h27 => ?_)
      · have T := T.1 h27
        refine zr_iconst (v := 0) dX11_areTwo_25 (by decide) ?_
        exact zm_zret dX11_areTwo_26 rfl (by decide) T
      · have T := T.2 h27
        refine zr_iconst (v := 1) dX11_areTwo_21 (by decide) ?_
        refine zr_goto (tgt := 26) dX11_areTwo_22 (by decide) ?_
        exact zm_zret dX11_areTwo_26 rfl (by decide) T
set_option maxRecDepth 100000 in
set_option maxHeartbeats 4000000 in
theorem t_X11_cut {d : Nat} {x1 : Int32} {x2 : Int32} {M : zMem} {K : zK} 
    (T : S_X11_areTwo d x1 x2 M (zB (fun r21 M22 => (r21 = true → S_X10_note d 10 M22 (zU (fun M25 => S_X4_tryCut d 63 x1 x2 M25 (zI (fun r26 M27 => S_X11_keepIfDone d r26 M27 (zI (fun r28 M29 => K (some (.int r28)) M29))))))) ∧ (r21 = false → K (some (.int (-1))) M22)))) : S_X11_cut (d + 1) x1 x2 M K := by
  show zV m_X11_cut (d + 1) 0 [(0, .ref 0), (1, .int x1), (2, .int x2)] [] M K
  refine zr_aload_n dX11_cut_0 rfl 0 rfl ?_
  refine zr_iload_n dX11_cut_1 rfl 1 rfl ?_
  refine zr_iload_n dX11_cut_2 rfl 2 rfl ?_
  refine zm_callV_b (c := 11) (b := 0) dX11_cut_3 w_X11_areTwo l_X11_266 rfl (by decide) (by decide) s_X11_areTwo [.int x1, .int x2] rfl rfl (Nat.le_of_ble_eq_true rfl) (Nat.le_of_ble_eq_true rfl) ?_
  refine zV.post T ?_
  rintro v M22 ⟨r21, rfl, T⟩
  refine ⟨r21, rfl, ?_⟩
  refine zm_ifb_ne (tgt := 11) dX11_cut_6 (by decide) (fun h23 => ?_) (fun h23 => ?_)
  · have T := T.1 h23
    refine zr_aload_n dX11_cut_11 rfl 0 rfl ?_
    refine zm_getr (a := 170) dX11_cut_12 f_X11_57 (by decide) (by decide) (by decide) (by decide) ?_
    refine zr_aload_n dX11_cut_15 rfl 0 rfl ?_
    refine zm_getr (a := 2) dX11_cut_16 f_X11_20 (by decide) (by decide) (by decide) (by decide) ?_
    refine zm_getr (a := 10) dX11_cut_19 f_X11_37 (by decide) (by decide) (by decide) (by decide) ?_
    refine zm_callV_v (c := 10) (b := 170) dX11_cut_22 w_X10_note l_X11_252 rfl (by decide) (by decide) s_X10_note [.ref 10] rfl rfl (Nat.le_of_ble_eq_true rfl) (Nat.le_of_ble_eq_true rfl) ?_
    refine zV.post T ?_
    rintro v M25 ⟨rfl, T⟩
    refine ⟨rfl, ?_⟩
    refine zr_aload_n dX11_cut_25 rfl 0 rfl ?_
    refine zr_aload_n dX11_cut_26 rfl 0 rfl ?_
    refine zm_getr (a := 63) dX11_cut_27 f_X11_44 (by decide) (by decide) (by decide) (by decide) ?_
    refine zr_iload_n dX11_cut_30 rfl 1 rfl ?_
    refine zr_iload_n dX11_cut_31 rfl 2 rfl ?_
    refine zm_callV_i (c := 4) (b := 63) dX11_cut_32 w_X4_tryCut l_X11_272 rfl (by decide) (by decide) s_X4_tryCut [.int x1, .int x2] rfl rfl (Nat.le_of_ble_eq_true rfl) (Nat.le_of_ble_eq_true rfl) ?_
    refine zV.post T ?_
    rintro v M27 ⟨r26, rfl, T⟩
    refine ⟨r26, rfl, ?_⟩
    refine zm_callV_i (c := 11) (b := 0) dX11_cut_35 w_X11_keepIfDone l_X11_260 rfl (by decide) (by decide) s_X11_keepIfDone [.int r26] rfl rfl (Nat.le_of_ble_eq_true rfl) (Nat.le_of_ble_eq_true rfl) ?_
    refine zV.post T ?_
    rintro v M29 ⟨r28, rfl, T⟩
    refine ⟨r28, rfl, ?_⟩
    exact zm_iret dX11_cut_38 rfl T
  · have T := T.2 h23
    refine zr_iconst (v := (-1)) dX11_cut_9 (by decide) ?_
    exact zm_iret dX11_cut_10 rfl T
set_option maxRecDepth 100000 in
set_option maxHeartbeats 4000000 in
theorem t_X11_heal {d : Nat} {x1 : Int32} {x2 : Int32} {M : zMem} {K : zK} 
    (T : S_X11_areTwo d x1 x2 M (zB (fun r21 M22 => (r21 = true → S_X10_note d 10 M22 (zU (fun M25 => S_X4_tryHeal d 63 x1 x2 M25 (zI (fun r26 M27 => S_X11_keepIfDone d r26 M27 (zI (fun r28 M29 => K (some (.int r28)) M29))))))) ∧ (r21 = false → K (some (.int (-1))) M22)))) : S_X11_heal (d + 1) x1 x2 M K := by
  show zV m_X11_heal (d + 1) 0 [(0, .ref 0), (1, .int x1), (2, .int x2)] [] M K
  refine zr_aload_n dX11_heal_0 rfl 0 rfl ?_
  refine zr_iload_n dX11_heal_1 rfl 1 rfl ?_
  refine zr_iload_n dX11_heal_2 rfl 2 rfl ?_
  refine zm_callV_b (c := 11) (b := 0) dX11_heal_3 w_X11_areTwo l_X11_266 rfl (by decide) (by decide) s_X11_areTwo [.int x1, .int x2] rfl rfl (Nat.le_of_ble_eq_true rfl) (Nat.le_of_ble_eq_true rfl) ?_
  refine zV.post T ?_
  rintro v M22 ⟨r21, rfl, T⟩
  refine ⟨r21, rfl, ?_⟩
  refine zm_ifb_ne (tgt := 11) dX11_heal_6 (by decide) (fun h23 => ?_) (fun h23 => ?_)
  · have T := T.1 h23
    refine zr_aload_n dX11_heal_11 rfl 0 rfl ?_
    refine zm_getr (a := 170) dX11_heal_12 f_X11_57 (by decide) (by decide) (by decide) (by decide) ?_
    refine zr_aload_n dX11_heal_15 rfl 0 rfl ?_
    refine zm_getr (a := 2) dX11_heal_16 f_X11_20 (by decide) (by decide) (by decide) (by decide) ?_
    refine zm_getr (a := 10) dX11_heal_19 f_X11_37 (by decide) (by decide) (by decide) (by decide) ?_
    refine zm_callV_v (c := 10) (b := 170) dX11_heal_22 w_X10_note l_X11_252 rfl (by decide) (by decide) s_X10_note [.ref 10] rfl rfl (Nat.le_of_ble_eq_true rfl) (Nat.le_of_ble_eq_true rfl) ?_
    refine zV.post T ?_
    rintro v M25 ⟨rfl, T⟩
    refine ⟨rfl, ?_⟩
    refine zr_aload_n dX11_heal_25 rfl 0 rfl ?_
    refine zr_aload_n dX11_heal_26 rfl 0 rfl ?_
    refine zm_getr (a := 63) dX11_heal_27 f_X11_44 (by decide) (by decide) (by decide) (by decide) ?_
    refine zr_iload_n dX11_heal_30 rfl 1 rfl ?_
    refine zr_iload_n dX11_heal_31 rfl 2 rfl ?_
    refine zm_callV_i (c := 4) (b := 63) dX11_heal_32 w_X4_tryHeal l_X11_275 rfl (by decide) (by decide) s_X4_tryHeal [.int x1, .int x2] rfl rfl (Nat.le_of_ble_eq_true rfl) (Nat.le_of_ble_eq_true rfl) ?_
    refine zV.post T ?_
    rintro v M27 ⟨r26, rfl, T⟩
    refine ⟨r26, rfl, ?_⟩
    refine zm_callV_i (c := 11) (b := 0) dX11_heal_35 w_X11_keepIfDone l_X11_260 rfl (by decide) (by decide) s_X11_keepIfDone [.int r26] rfl rfl (Nat.le_of_ble_eq_true rfl) (Nat.le_of_ble_eq_true rfl) ?_
    refine zV.post T ?_
    rintro v M29 ⟨r28, rfl, T⟩
    refine ⟨r28, rfl, ?_⟩
    exact zm_iret dX11_heal_38 rfl T
  · have T := T.2 h23
    refine zr_iconst (v := (-1)) dX11_heal_9 (by decide) ?_
    exact zm_iret dX11_heal_10 rfl T
set_option maxRecDepth 100000 in
set_option maxHeartbeats 4000000 in
theorem t_X11_undo {d : Nat}  {M : zMem} {K : zK} 
    (T : (¬ (M.1 170 2) = 0 → S_X10_takeBack d 10 M (zU (fun M23 => S_X4_growTrees d 63 M23 (zU (fun M25 => K (some (.int (M25.1 170 2))) M25))))) ∧ ((M.1 170 2) = 0 → K (some (.int (-1))) M)) : S_X11_undo (d + 1)  M K := by
  show zV m_X11_undo (d + 1) 0 [(0, .ref 0)] [] M K
  refine zr_aload_n dX11_undo_0 rfl 0 rfl ?_
  refine zm_getr (a := 170) dX11_undo_1 f_X11_57 (by decide) (by decide) (by decide) (by decide) ?_
  refine zm_geti dX11_undo_4 f_X11_281 (by decide) (by decide) (by decide) ?_
  refine zr_if_ne (tgt := 12) dX11_undo_7 (by decide) (fun h21 => ?_) (fun h21 => ?_)
  · have T := T.1 h21
    refine zr_aload_n dX11_undo_12 rfl 0 rfl ?_
    refine zm_getr (a := 170) dX11_undo_13 f_X11_57 (by decide) (by decide) (by decide) (by decide) ?_
    refine zr_aload_n dX11_undo_16 rfl 0 rfl ?_
    refine zm_getr (a := 2) dX11_undo_17 f_X11_20 (by decide) (by decide) (by decide) (by decide) ?_
    refine zm_getr (a := 10) dX11_undo_20 f_X11_37 (by decide) (by decide) (by decide) (by decide) ?_
    refine zm_callV_v (c := 10) (b := 170) dX11_undo_23 w_X10_takeBack l_X11_284 rfl (by decide) (by decide) s_X10_takeBack [.ref 10] rfl rfl (Nat.le_of_ble_eq_true rfl) (Nat.le_of_ble_eq_true rfl) ?_
    refine zV.post T ?_
    rintro v M23 ⟨rfl, T⟩
    refine ⟨rfl, ?_⟩
    refine zr_aload_n dX11_undo_26 rfl 0 rfl ?_
    refine zm_getr (a := 63) dX11_undo_27 f_X11_44 (by decide) (by decide) (by decide) (by decide) ?_
    refine zm_callV_v (c := 4) (b := 63) dX11_undo_30 w_X4_growTrees l_X11_148 rfl (by decide) (by decide) s_X4_growTrees [] rfl rfl (Nat.le_of_ble_eq_true rfl) (Nat.le_of_ble_eq_true rfl) ?_
    refine zV.post T ?_
    rintro v M25 ⟨rfl, T⟩
    refine ⟨rfl, ?_⟩
    refine zr_aload_n dX11_undo_33 rfl 0 rfl ?_
    refine zm_getr (a := 170) dX11_undo_34 f_X11_57 (by decide) (by decide) (by decide) (by decide) ?_
    refine zm_geti dX11_undo_37 f_X11_281 (by decide) (by decide) (by decide) ?_
    exact zm_iret dX11_undo_40 rfl T
  · have T := T.2 h21
    refine zr_iconst (v := (-1)) dX11_undo_10 (by decide) ?_
    exact zm_iret dX11_undo_11 rfl T
set_option maxRecDepth 100000 in
set_option maxHeartbeats 4000000 in
theorem t_X11_visits {d : Nat} {x1 : Int32} {x2 : Int32} {M : zMem} {K : zK} 
    (T : S_X11_areTwo d x1 x2 M (zB (fun r21 M22 => (r21 = false → K (some (.int (-1))) M22) ∧ (r21 = true → S_X4_visitedBits d 63 x1 x2 M22 (zI (fun r24 M25 => S_J6_bitCount_0f7a4 d r24 M25 (zI (fun r26 M27 => K (some (.int r26)) M27)))))))) : S_X11_visits (d + 1) x1 x2 M K := by
  show zV m_X11_visits (d + 1) 0 [(0, .ref 0), (1, .int x1), (2, .int x2)] [] M K
  refine zr_aload_n dX11_visits_0 rfl 0 rfl ?_
  refine zr_iload_n dX11_visits_1 rfl 1 rfl ?_
  refine zr_iload_n dX11_visits_2 rfl 2 rfl ?_
  refine zm_callV_b (c := 11) (b := 0) dX11_visits_3 w_X11_areTwo l_X11_266 rfl (by decide) (by decide) s_X11_areTwo [.int x1, .int x2] rfl rfl (Nat.le_of_ble_eq_true rfl) (Nat.le_of_ble_eq_true rfl) ?_
  refine zV.post T ?_
  rintro v M22 ⟨r21, rfl, T⟩
  refine ⟨r21, rfl, ?_⟩
  refine zm_ifb_eq (tgt := 24) dX11_visits_6 (by decide) (fun h23 => ?_) (fun h23 => ?_)
  · have T := T.1 h23
    refine zr_iconst (v := (-1)) dX11_visits_24 (by decide) ?_
    exact zm_iret dX11_visits_25 rfl T
  · have T := T.2 h23
    refine zr_aload_n dX11_visits_9 rfl 0 rfl ?_
    refine zm_getr (a := 63) dX11_visits_10 f_X11_44 (by decide) (by decide) (by decide) (by decide) ?_
    refine zr_iload_n dX11_visits_13 rfl 1 rfl ?_
    refine zr_iload_n dX11_visits_14 rfl 2 rfl ?_
    refine zm_callV_i (c := 4) (b := 63) dX11_visits_15 w_X4_visitedBits l_X11_287 rfl (by decide) (by decide) s_X4_visitedBits [.int x1, .int x2] rfl rfl (Nat.le_of_ble_eq_true rfl) (Nat.le_of_ble_eq_true rfl) ?_
    refine zV.post T ?_
    rintro v M25 ⟨r24, rfl, T⟩
    refine ⟨r24, rfl, ?_⟩
    refine zm_callS_i dX11_visits_18 w_J6_bitCount_0f7a4 l_X11_290 s_J6_bitCount_0f7a4 [.int r24] rfl rfl (Nat.le_of_ble_eq_true rfl) (Nat.le_of_ble_eq_true rfl) ?_
    refine zV.post T ?_
    rintro v M27 ⟨r26, rfl, T⟩
    refine ⟨r26, rfl, ?_⟩
    refine zr_goto (tgt := 25) dX11_visits_21 (by decide) ?_
    exact zm_iret dX11_visits_25 rfl T
set_option maxRecDepth 100000 in
set_option maxHeartbeats 4000000 in
theorem t_X11_differs {d : Nat} {x1 : Int32} {x2 : Int32} {M : zMem} {K : zK} 
    (T : S_X11_areTwo d x1 x2 M (zB (fun r21 M22 => (r21 = false → K (some (.int (-1))) M22) ∧ (r21 = true → S_X4_differBits d 63 x1 x2 M22 (zI (fun r24 M25 => K (some (.int r24)) M25)))))) : S_X11_differs (d + 1) x1 x2 M K := by
  show zV m_X11_differs (d + 1) 0 [(0, .ref 0), (1, .int x1), (2, .int x2)] [] M K
  refine zr_aload_n dX11_differs_0 rfl 0 rfl ?_
  refine zr_iload_n dX11_differs_1 rfl 1 rfl ?_
  refine zr_iload_n dX11_differs_2 rfl 2 rfl ?_
  refine zm_callV_b (c := 11) (b := 0) dX11_differs_3 w_X11_areTwo l_X11_266 rfl (by decide) (by decide) s_X11_areTwo [.int x1, .int x2] rfl rfl (Nat.le_of_ble_eq_true rfl) (Nat.le_of_ble_eq_true rfl) ?_
  refine zV.post T ?_
  rintro v M22 ⟨r21, rfl, T⟩
  refine ⟨r21, rfl, ?_⟩
  refine zm_ifb_eq (tgt := 21) dX11_differs_6 (by decide) (fun h23 => ?_) (fun h23 => ?_)
  · have T := T.1 h23
    refine zr_iconst (v := (-1)) dX11_differs_21 (by decide) ?_
    exact zm_iret dX11_differs_22 rfl T
  · have T := T.2 h23
    refine zr_aload_n dX11_differs_9 rfl 0 rfl ?_
    refine zm_getr (a := 63) dX11_differs_10 f_X11_44 (by decide) (by decide) (by decide) (by decide) ?_
    refine zr_iload_n dX11_differs_13 rfl 1 rfl ?_
    refine zr_iload_n dX11_differs_14 rfl 2 rfl ?_
    refine zm_callV_i (c := 4) (b := 63) dX11_differs_15 w_X4_differBits l_X11_295 rfl (by decide) (by decide) s_X4_differBits [.int x1, .int x2] rfl rfl (Nat.le_of_ble_eq_true rfl) (Nat.le_of_ble_eq_true rfl) ?_
    refine zV.post T ?_
    rintro v M25 ⟨r24, rfl, T⟩
    refine ⟨r24, rfl, ?_⟩
    refine zr_goto (tgt := 22) dX11_differs_18 (by decide) ?_
    exact zm_iret dX11_differs_22 rfl T
set_option maxRecDepth 100000 in
set_option maxHeartbeats 4000000 in
theorem t_X11_offers {d : Nat} {x1 : Int32} {x2 : Int32} {M : zMem} {K : zK} 
    (T : S_X11_areTwo d x1 x2 M (zB (fun r21 M22 => (r21 = true → S_X4_findOffers d 63 x1 x2 M22 (zI (fun r24 M25 => (∀ M26 : zMem, M26 = wI M25 0 13 r24 → (¬ (0 : Int32) < 0 ∧ ¬ (0 : Int32) < 0 ∧ ¬ (M26.1 0 13) < 0 ∧ Int32.toNatClampNeg 0 + Int32.toNatClampNeg (M26.1 0 13) ≤ 24 ∧ Int32.toNatClampNeg 0 + Int32.toNatClampNeg (M26.1 0 13) ≤ 24) ∧ ((∀ M29 : zMem, M29 = cI M26 113 0 227 0 (Int32.toNatClampNeg (M26.1 0 13)) → K (some (.int (M29.1 0 13))) M29)))))) ∧ (r21 = false → K (some (.int (-1))) M22)))) : S_X11_offers (d + 1) x1 x2 M K := by
  show zV m_X11_offers (d + 1) 0 [(0, .ref 0), (1, .int x1), (2, .int x2)] [] M K
  refine zr_aload_n dX11_offers_0 rfl 0 rfl ?_
  refine zr_iload_n dX11_offers_1 rfl 1 rfl ?_
  refine zr_iload_n dX11_offers_2 rfl 2 rfl ?_
  refine zm_callV_b (c := 11) (b := 0) dX11_offers_3 w_X11_areTwo l_X11_266 rfl (by decide) (by decide) s_X11_areTwo [.int x1, .int x2] rfl rfl (Nat.le_of_ble_eq_true rfl) (Nat.le_of_ble_eq_true rfl) ?_
  refine zV.post T ?_
  rintro v M22 ⟨r21, rfl, T⟩
  refine ⟨r21, rfl, ?_⟩
  refine zm_ifb_ne (tgt := 11) dX11_offers_6 (by decide) (fun h23 => ?_) (fun h23 => ?_)
  · have T := T.1 h23
    refine zr_aload_n dX11_offers_11 rfl 0 rfl ?_
    refine zr_aload_n dX11_offers_12 rfl 0 rfl ?_
    refine zm_getr (a := 63) dX11_offers_13 f_X11_44 (by decide) (by decide) (by decide) (by decide) ?_
    refine zr_iload_n dX11_offers_16 rfl 1 rfl ?_
    refine zr_iload_n dX11_offers_17 rfl 2 rfl ?_
    refine zm_callV_i (c := 4) (b := 63) dX11_offers_18 w_X4_findOffers l_X11_298 rfl (by decide) (by decide) s_X4_findOffers [.int x1, .int x2] rfl rfl (Nat.le_of_ble_eq_true rfl) (Nat.le_of_ble_eq_true rfl) ?_
    refine zV.post T ?_
    rintro v M25 ⟨r24, rfl, T⟩
    refine ⟨r24, rfl, ?_⟩
    refine zn_puti dX11_offers_21 f_X11_99 (by decide) (by decide) (by decide) (fun M26 e27 => ?_)
    have T := T M26 e27
    refine zr_aload_n dX11_offers_24 rfl 0 rfl ?_
    refine zm_getr (a := 63) dX11_offers_25 f_X11_44 (by decide) (by decide) (by decide) (by decide) ?_
    refine zm_getr (a := 113) dX11_offers_28 f_X11_301 (by decide) (by decide) (by decide) (by decide) ?_
    refine zr_iconst (v := 0) dX11_offers_31 (by decide) ?_
    refine zr_aload_n dX11_offers_32 rfl 0 rfl ?_
    refine zm_getr (a := 227) dX11_offers_33 f_X11_95 (by decide) (by decide) (by decide) (by decide) ?_
    refine zr_iconst (v := 0) dX11_offers_36 (by decide) ?_
    refine zr_aload_n dX11_offers_37 rfl 0 rfl ?_
    refine zm_geti dX11_offers_38 f_X11_99 (by decide) (by decide) (by decide) ?_
    obtain ⟨hc28, T⟩ := T
    refine zn_copyi (n0 := 24) (n1 := 24) (s1 := 0) (d1 := 0) (m1 := (Int32.toNatClampNeg (M26.1 0 13))) dX11_offers_41 l_X11_304 zcpw (by decide) (by decide) (by decide) (by decide) hc28 (by decide) (by decide) rfl (Nat.le_of_ble_eq_true rfl) (fun M29 e30 => ?_)
    have T := T M29 e30
    refine zr_aload_n dX11_offers_44 rfl 0 rfl ?_
    refine zm_geti dX11_offers_45 f_X11_99 (by decide) (by decide) (by decide) ?_
    exact zm_iret dX11_offers_48 rfl T
  · have T := T.2 h23
    refine zr_iconst (v := (-1)) dX11_offers_9 (by decide) ?_
    exact zm_iret dX11_offers_10 rfl T
set_option maxRecDepth 100000 in
set_option maxHeartbeats 4000000 in
theorem t_X11_offerAt {d : Nat} {x1 : Int32} {M : zMem} {K : zK} 
    (T : (x1 < 0 → K (some (.int (-1))) M) ∧ (¬ (x1 < 0) → ((M.1 0 13) ≤ x1 → K (some (.int (-1))) M) ∧ (¬ ((M.1 0 13) ≤ x1) → vp_in x1 24 ∧ (K (some (.int (M.1 227 (Int32.toNatClampNeg x1)))) M)))) : S_X11_offerAt d x1 M K := by
  show zV m_X11_offerAt d 0 [(0, .ref 0), (1, .int x1)] [] M K
  refine zr_iload_n dX11_offerAt_0 rfl 1 rfl ?_
  refine zr_if_lt (tgt := 21) dX11_offerAt_1 (by decide) (fun h21 => ?_) (fun h21 => ?_)
  · have T := T.1 h21
    refine zr_iconst (v := (-1)) dX11_offerAt_21 (by decide) ?_
    exact zm_iret dX11_offerAt_22 rfl T
  · have T := T.2 h21
    refine zr_iload_n dX11_offerAt_4 rfl 1 rfl ?_
    refine zr_aload_n dX11_offerAt_5 rfl 0 rfl ?_
    refine zm_geti dX11_offerAt_6 f_X11_99 (by decide) (by decide) (by decide) ?_
    refine zr_icmp_ge (tgt := 21) dX11_offerAt_9 (by decide) (fun h22 => ?_) (fun h22 => ?_)
    · have T := T.1 h22
      refine zr_iconst (v := (-1)) dX11_offerAt_21 (by decide) ?_
      exact zm_iret dX11_offerAt_22 rfl T
    · have T := T.2 h22
      refine zr_aload_n dX11_offerAt_12 rfl 0 rfl ?_
      refine zm_getr (a := 227) dX11_offerAt_13 f_X11_95 (by decide) (by decide) (by decide) (by decide) ?_
      refine zr_iload_n dX11_offerAt_16 rfl 1 rfl ?_
      obtain ⟨hq23, T⟩ := T
      refine zm_iald (n := 24) (o := (Int32.toNatClampNeg x1)) dX11_offerAt_17 (by decide) (by decide) hq23 rfl ?_
      refine zr_goto (tgt := 22) dX11_offerAt_18 (by decide) ?_
      exact zm_iret dX11_offerAt_22 rfl T
set_option maxRecDepth 100000 in
set_option maxHeartbeats 4000000 in
theorem t_X11_fresh {d : Nat} {x1 : Int32} {x2 : Int32} {x3 : Int32} {M : zMem} {K : zK} 
    (T : S_X11_isPeer d x1 M (zB (fun r21 M22 => (r21 = false → K (some (.int (-1))) M22) ∧ (r21 = true → S_X11_isKey d x2 M22 (zB (fun r24 M25 => (r24 = false → K (some (.int (-1))) M25) ∧ (r24 = true → (x3 < 0 → K (some (.int (-1))) M25) ∧ (¬ (x3 < 0) → (x3 ≤ 999 → S_X4_copyFrom d 114 63 M25 (zU (fun M30 => S_X4_tryPut d 114 x1 x2 x3 M30 (zI (fun r31 M32 => (r31 = 0 → vp_in x1 4 ∧ (vp_in x1 4 ∧ (S_X9_countMissing d (121 + 12 * (Int32.toNatClampNeg x1)) (65 + 12 * (Int32.toNatClampNeg x1)) M32 (zI (fun r36 M37 => K (some (.int r36)) M37))))) ∧ (¬ (r31 = 0) → K (some (.int 0)) M32)))))) ∧ (¬ (x3 ≤ 999) → K (some (.int (-1))) M25))))))))) : S_X11_fresh (d + 1) x1 x2 x3 M K := by
  show zV m_X11_fresh (d + 1) 0 [(0, .ref 0), (1, .int x1), (2, .int x2), (3, .int x3)] [] M K
  refine zr_aload_n dX11_fresh_0 rfl 0 rfl ?_
  refine zr_iload_n dX11_fresh_1 rfl 1 rfl ?_
  refine zm_callV_b (c := 11) (b := 0) dX11_fresh_2 w_X11_isPeer l_X11_179 rfl (by decide) (by decide) s_X11_isPeer [.int x1] rfl rfl (Nat.le_of_ble_eq_true rfl) (Nat.le_of_ble_eq_true rfl) ?_
  refine zV.post T ?_
  rintro v M22 ⟨r21, rfl, T⟩
  refine ⟨r21, rfl, ?_⟩
  refine zm_ifb_eq (tgt := 27) dX11_fresh_5 (by decide) (fun h23 => ?_) (fun h23 => ?_)
  · have T := T.1 h23
    refine zr_iconst (v := (-1)) dX11_fresh_27 (by decide) ?_
    exact zm_iret dX11_fresh_28 rfl T
  · have T := T.2 h23
    refine zr_aload_n dX11_fresh_8 rfl 0 rfl ?_
    refine zr_iload_n dX11_fresh_9 rfl 2 rfl ?_
    refine zm_callV_b (c := 11) (b := 0) dX11_fresh_10 w_X11_isKey l_X11_153 rfl (by decide) (by decide) s_X11_isKey [.int x2] rfl rfl (Nat.le_of_ble_eq_true rfl) (Nat.le_of_ble_eq_true rfl) ?_
    refine zV.post T ?_
    rintro v M25 ⟨r24, rfl, T⟩
    refine ⟨r24, rfl, ?_⟩
    refine zm_ifb_eq (tgt := 27) dX11_fresh_13 (by decide) (fun h26 => ?_) (fun h26 => ?_)
    · have T := T.1 h26
      refine zr_iconst (v := (-1)) dX11_fresh_27 (by decide) ?_
      exact zm_iret dX11_fresh_28 rfl T
    · have T := T.2 h26
      refine zr_iload_n dX11_fresh_16 rfl 3 rfl ?_
      refine zr_if_lt (tgt := 27) dX11_fresh_17 (by decide) (fun h27 => ?_) (fun h27 => ?_)
      · have T := T.1 h27
        refine zr_iconst (v := (-1)) dX11_fresh_27 (by decide) ?_
        exact zm_iret dX11_fresh_28 rfl T
      · have T := T.2 h27
        refine zr_iload_n dX11_fresh_20 rfl 3 rfl ?_
        refine zr_sipush (v := 999) dX11_fresh_21 (by decide) ?_
        refine zr_icmp_le (tgt := 29) dX11_fresh_24 (by decide) (fun h28 => ?_) (fun h28 => ?_)
        · have T := T.1 h28
          refine zr_aload_n dX11_fresh_29 rfl 0 rfl ?_
          refine zm_getr (a := 114) dX11_fresh_30 f_X11_51 (by decide) (by decide) (by decide) (by decide) ?_
          refine zr_aload_n dX11_fresh_33 rfl 0 rfl ?_
          refine zm_getr (a := 63) dX11_fresh_34 f_X11_44 (by decide) (by decide) (by decide) (by decide) ?_
          refine zm_callV_v (c := 4) (b := 114) dX11_fresh_37 w_X4_copyFrom l_X11_310 rfl (by decide) (by decide) s_X4_copyFrom [.ref 63] rfl rfl (Nat.le_of_ble_eq_true rfl) (Nat.le_of_ble_eq_true rfl) ?_
          refine zV.post T ?_
          rintro v M30 ⟨rfl, T⟩
          refine ⟨rfl, ?_⟩
          refine zr_aload_n dX11_fresh_40 rfl 0 rfl ?_
          refine zm_getr (a := 114) dX11_fresh_41 f_X11_51 (by decide) (by decide) (by decide) (by decide) ?_
          refine zr_iload_n dX11_fresh_44 rfl 1 rfl ?_
          refine zr_iload_n dX11_fresh_45 rfl 2 rfl ?_
          refine zr_iload_n dX11_fresh_46 rfl 3 rfl ?_
          refine zm_callV_i (c := 4) (b := 114) dX11_fresh_47 w_X4_tryPut l_X11_256 rfl (by decide) (by decide) s_X4_tryPut [.int x1, .int x2, .int x3] rfl rfl (Nat.le_of_ble_eq_true rfl) (Nat.le_of_ble_eq_true rfl) ?_
          refine zV.post T ?_
          rintro v M32 ⟨r31, rfl, T⟩
          refine ⟨r31, rfl, ?_⟩
          refine zr_if_eq (tgt := 55) dX11_fresh_50 (by decide) (fun h33 => ?_) (fun h33 => ?_)
          · have T := T.1 h33
            refine zr_aload_n dX11_fresh_55 rfl 0 rfl ?_
            refine zm_getr (a := 114) dX11_fresh_56 f_X11_51 (by decide) (by decide) (by decide) (by decide) ?_
            refine zm_getr (a := 120) dX11_fresh_59 f_X11_182 (by decide) (by decide) (by decide) (by decide) ?_
            refine zr_iload_n dX11_fresh_62 rfl 1 rfl ?_
            obtain ⟨hq34, T⟩ := T
            refine zm_aald (t := 4) (n := 4) (q := (Int32.toNatClampNeg x1)) (o := 121 + 12 * (Int32.toNatClampNeg x1)) dX11_fresh_63 (by decide) (by decide) (by decide) (fun _ => rfl) (by decide) hq34 rfl (e120 (z_lt hq34)) ?_
            refine zr_aload_n dX11_fresh_64 rfl 0 rfl ?_
            refine zm_getr (a := 63) dX11_fresh_65 f_X11_44 (by decide) (by decide) (by decide) (by decide) ?_
            refine zm_getr (a := 64) dX11_fresh_68 f_X11_182 (by decide) (by decide) (by decide) (by decide) ?_
            refine zr_iload_n dX11_fresh_71 rfl 1 rfl ?_
            obtain ⟨hq35, T⟩ := T
            refine zm_aald (t := 4) (n := 4) (q := (Int32.toNatClampNeg x1)) (o := 65 + 12 * (Int32.toNatClampNeg x1)) dX11_fresh_72 (by decide) (by decide) (by decide) (fun _ => rfl) (by decide) hq35 rfl (e64 (z_lt hq35)) ?_
            refine zm_callV_i (c := 9) (b := 121 + 12 * (Int32.toNatClampNeg x1)) dX11_fresh_73 w_X9_countMissing l_X11_313 rfl (oX9 _ (e120q (z_lt hq34))) (by decide) s_X9_countMissing [.ref (65 + 12 * (Int32.toNatClampNeg x1))] rfl rfl (Nat.le_of_ble_eq_true rfl) (Nat.le_of_ble_eq_true rfl) ?_
            refine zV.post T ?_
            rintro v M37 ⟨r36, rfl, T⟩
            refine ⟨r36, rfl, ?_⟩
            exact zm_iret dX11_fresh_76 rfl T
          · have T := T.2 h33
            refine zr_iconst (v := 0) dX11_fresh_53 (by decide) ?_
            exact zm_iret dX11_fresh_54 rfl T
        · have T := T.2 h28
          refine zr_iconst (v := (-1)) dX11_fresh_27 (by decide) ?_
          exact zm_iret dX11_fresh_28 rfl T
set_option maxRecDepth 100000 in
set_option maxHeartbeats 4000000 in
theorem t_X11_pulls {d : Nat} {x1 : Int32} {x2 : Int32} {M : zMem} {K : zK} 
    (T : S_X11_areTwo d x1 x2 M (zB (fun r21 M22 => (r21 = false → K (some (.int (-1))) M22) ∧ (r21 = true → S_X3_areCut d 10 x1 x2 M22 (zB (fun r24 M25 => (r24 = false → S_X4_copyFrom d 114 63 M25 (zU (fun M28 => S_X11_pulls_39 (d + 1) x1 x2 0 M28 K))) ∧ (r24 = true → K (some (.int (-1))) M25))))))) : S_X11_pulls (d + 1) x1 x2 M K := by
  show zV m_X11_pulls (d + 1) 0 [(0, .ref 0), (1, .int x1), (2, .int x2)] [] M K
  refine zr_aload_n dX11_pulls_0 rfl 0 rfl ?_
  refine zr_iload_n dX11_pulls_1 rfl 1 rfl ?_
  refine zr_iload_n dX11_pulls_2 rfl 2 rfl ?_
  refine zm_callV_b (c := 11) (b := 0) dX11_pulls_3 w_X11_areTwo l_X11_266 rfl (by decide) (by decide) s_X11_areTwo [.int x1, .int x2] rfl rfl (Nat.le_of_ble_eq_true rfl) (Nat.le_of_ble_eq_true rfl) ?_
  refine zV.post T ?_
  rintro v M22 ⟨r21, rfl, T⟩
  refine ⟨r21, rfl, ?_⟩
  refine zm_ifb_eq (tgt := 24) dX11_pulls_6 (by decide) (fun h23 => ?_) (fun h23 => ?_)
  · have T := T.1 h23
    refine zr_iconst (v := (-1)) dX11_pulls_24 (by decide) ?_
    exact zm_iret dX11_pulls_25 rfl T
  · have T := T.2 h23
    refine zr_aload_n dX11_pulls_9 rfl 0 rfl ?_
    refine zm_getr (a := 2) dX11_pulls_10 f_X11_20 (by decide) (by decide) (by decide) (by decide) ?_
    refine zm_getr (a := 10) dX11_pulls_13 f_X11_37 (by decide) (by decide) (by decide) (by decide) ?_
    refine zr_iload_n dX11_pulls_16 rfl 1 rfl ?_
    refine zr_iload_n dX11_pulls_17 rfl 2 rfl ?_
    refine zm_callV_b (c := 3) (b := 10) dX11_pulls_18 w_X3_areCut l_X11_317 rfl (by decide) (by decide) s_X3_areCut [.int x1, .int x2] rfl rfl (Nat.le_of_ble_eq_true rfl) (Nat.le_of_ble_eq_true rfl) ?_
    refine zV.post T ?_
    rintro v M25 ⟨r24, rfl, T⟩
    refine ⟨r24, rfl, ?_⟩
    refine zm_ifb_eq (tgt := 26) dX11_pulls_21 (by decide) (fun h26 => ?_) (fun h26 => ?_)
    · have T := T.1 h26
      refine zr_aload_n dX11_pulls_26 rfl 0 rfl ?_
      refine zm_getr (a := 114) dX11_pulls_27 f_X11_51 (by decide) (by decide) (by decide) (by decide) ?_
      refine zr_aload_n dX11_pulls_30 rfl 0 rfl ?_
      refine zm_getr (a := 63) dX11_pulls_31 f_X11_44 (by decide) (by decide) (by decide) (by decide) ?_
      refine zm_callV_v (c := 4) (b := 114) dX11_pulls_34 w_X4_copyFrom l_X11_310 rfl (by decide) (by decide) s_X4_copyFrom [.ref 63] rfl rfl (Nat.le_of_ble_eq_true rfl) (Nat.le_of_ble_eq_true rfl) ?_
      refine zV.post T ?_
      rintro v M28 ⟨rfl, T⟩
      refine ⟨rfl, ?_⟩
      refine zr_iconst (v := 0) dX11_pulls_37 (by decide) ?_
      refine zr_istore_n dX11_pulls_38 rfl (by decide) (L2 := [(3, .int 0), (0, .ref 0), (1, .int x1), (2, .int x2)]) rfl ?_
      exact zV.pick [1, 2, 3, 0] rfl T
    · have T := T.2 h26
      refine zr_iconst (v := (-1)) dX11_pulls_24 (by decide) ?_
      exact zm_iret dX11_pulls_25 rfl T
set_option maxRecDepth 100000 in
set_option maxHeartbeats 4000000 in
theorem t_X11_pulls_39 {d : Nat} {x1 : Int32} {x2 : Int32} {x3 : Int32} {M : zMem} {K : zK} 
    (T : (100 ≤ x3 → S_X4_rootOf d 114 x1 M (zI (fun r22 M23 => S_X4_rootOf d 114 x2 M23 (zI (fun r24 M25 => (¬ r22 = r24 → K (some (.int (-1))) M25) ∧ (r22 = r24 → K (some (.int 100)) M25)))))) ∧ (¬ (100 ≤ x3) → S_X4_rootOf d 114 x1 M (zI (fun r27 M28 => S_X4_rootOf d 114 x2 M28 (zI (fun r29 M30 => (¬ r27 = r29 → (¬ (x3 - x3 / 2 * 2) = 0 → S_X4_tryPull d 114 x2 x1 M30 (zI (fun r33 M34 => S_X11_pulls_39 (d + 1) x1 x2 (x3 + 1) M34 K))) ∧ ((x3 - x3 / 2 * 2) = 0 → S_X4_tryPull d 114 x1 x2 M30 (zI (fun r35 M36 => S_X11_pulls_39 (d + 1) x1 x2 (x3 + 1) M36 K)))) ∧ (r27 = r29 → K (some (.int x3)) M30))))))) : S_X11_pulls_39 (d + 1) x1 x2 x3 M K := by
  show zV m_X11_pulls (d + 1) 39 [(0, .ref 0), (1, .int x1), (2, .int x2), (3, .int x3)] [] M K
  refine zr_iload_n dX11_pulls_39 rfl 3 rfl ?_
  refine zr_bipush (v := 100) dX11_pulls_40 (by decide) ?_
  refine zr_icmp_ge (tgt := 101) dX11_pulls_42 (by decide) (fun h21 => ?_) (fun h21 => ?_)
  · have T := T.1 h21
    refine zr_aload_n dX11_pulls_101 rfl 0 rfl ?_
    refine zm_getr (a := 114) dX11_pulls_102 f_X11_51 (by decide) (by decide) (by decide) (by decide) ?_
    refine zr_iload_n dX11_pulls_105 rfl 1 rfl ?_
    refine zm_callV_i (c := 4) (b := 114) dX11_pulls_106 w_X4_rootOf l_X11_211 rfl (by decide) (by decide) s_X4_rootOf [.int x1] rfl rfl (Nat.le_of_ble_eq_true rfl) (Nat.le_of_ble_eq_true rfl) ?_
    refine zV.post T ?_
    rintro v M23 ⟨r22, rfl, T⟩
    refine ⟨r22, rfl, ?_⟩
    refine zr_aload_n dX11_pulls_109 rfl 0 rfl ?_
    refine zm_getr (a := 114) dX11_pulls_110 f_X11_51 (by decide) (by decide) (by decide) (by decide) ?_
    refine zr_iload_n dX11_pulls_113 rfl 2 rfl ?_
    refine zm_callV_i (c := 4) (b := 114) dX11_pulls_114 w_X4_rootOf l_X11_211 rfl (by decide) (by decide) s_X4_rootOf [.int x2] rfl rfl (Nat.le_of_ble_eq_true rfl) (Nat.le_of_ble_eq_true rfl) ?_
    refine zV.post T ?_
    rintro v M25 ⟨r24, rfl, T⟩
    refine ⟨r24, rfl, ?_⟩
    refine zr_icmp_ne (tgt := 125) dX11_pulls_117 (by decide) (fun h26 => ?_) (fun h26 => ?_)
    · have T := T.1 h26
      refine zr_iconst (v := (-1)) dX11_pulls_125 (by decide) ?_
      exact zm_iret dX11_pulls_126 rfl T
    · have T := T.2 h26
      refine zr_bipush (v := 100) dX11_pulls_120 (by decide) ?_
      refine zr_goto (tgt := 126) dX11_pulls_122 (by decide) ?_
      exact zm_iret dX11_pulls_126 rfl T
  · have T := T.2 h21
    refine zr_aload_n dX11_pulls_45 rfl 0 rfl ?_
    refine zm_getr (a := 114) dX11_pulls_46 f_X11_51 (by decide) (by decide) (by decide) (by decide) ?_
    refine zr_iload_n dX11_pulls_49 rfl 1 rfl ?_
    refine zm_callV_i (c := 4) (b := 114) dX11_pulls_50 w_X4_rootOf l_X11_211 rfl (by decide) (by decide) s_X4_rootOf [.int x1] rfl rfl (Nat.le_of_ble_eq_true rfl) (Nat.le_of_ble_eq_true rfl) ?_
    refine zV.post T ?_
    rintro v M28 ⟨r27, rfl, T⟩
    refine ⟨r27, rfl, ?_⟩
    refine zr_aload_n dX11_pulls_53 rfl 0 rfl ?_
    refine zm_getr (a := 114) dX11_pulls_54 f_X11_51 (by decide) (by decide) (by decide) (by decide) ?_
    refine zr_iload_n dX11_pulls_57 rfl 2 rfl ?_
    refine zm_callV_i (c := 4) (b := 114) dX11_pulls_58 w_X4_rootOf l_X11_211 rfl (by decide) (by decide) s_X4_rootOf [.int x2] rfl rfl (Nat.le_of_ble_eq_true rfl) (Nat.le_of_ble_eq_true rfl) ?_
    refine zV.post T ?_
    rintro v M30 ⟨r29, rfl, T⟩
    refine ⟨r29, rfl, ?_⟩
    refine zr_icmp_ne (tgt := 66) dX11_pulls_61 (by decide) (fun h31 => ?_) (fun h31 => ?_)
    · have T := T.1 h31
      refine zr_iload_n dX11_pulls_66 rfl 3 rfl ?_
      refine zr_iconst (v := 2) dX11_pulls_67 (by decide) ?_
      refine zr_irem dX11_pulls_68 (by decide) ?_
      refine zr_if_ne (tgt := 85) dX11_pulls_69 (by decide) (fun h32 => ?_) (fun h32 => ?_)
      · have T := T.1 h32
        refine zr_aload_n dX11_pulls_85 rfl 0 rfl ?_
        refine zm_getr (a := 114) dX11_pulls_86 f_X11_51 (by decide) (by decide) (by decide) (by decide) ?_
        refine zr_iload_n dX11_pulls_89 rfl 2 rfl ?_
        refine zr_iload_n dX11_pulls_90 rfl 1 rfl ?_
        refine zm_callV_i (c := 4) (b := 114) dX11_pulls_91 w_X4_tryPull l_X11_269 rfl (by decide) (by decide) s_X4_tryPull [.int x2, .int x1] rfl rfl (Nat.le_of_ble_eq_true rfl) (Nat.le_of_ble_eq_true rfl) ?_
        refine zV.post T ?_
        rintro v M34 ⟨r33, rfl, T⟩
        refine ⟨r33, rfl, ?_⟩
        refine zr_pop dX11_pulls_94 rfl ?_
        refine zr_iinc (n := 3) (v := x3 + 1) dX11_pulls_95 rfl rfl (by decide) (L2 := [(3, .int (x3 + 1)), (0, .ref 0), (1, .int x1), (2, .int x2)]) rfl ?_
        refine zr_goto (tgt := 39) dX11_pulls_98 (by decide) ?_
        exact zV.pick [1, 2, 3, 0] rfl T
      · have T := T.2 h32
        refine zr_aload_n dX11_pulls_72 rfl 0 rfl ?_
        refine zm_getr (a := 114) dX11_pulls_73 f_X11_51 (by decide) (by decide) (by decide) (by decide) ?_
        refine zr_iload_n dX11_pulls_76 rfl 1 rfl ?_
        refine zr_iload_n dX11_pulls_77 rfl 2 rfl ?_
        refine zm_callV_i (c := 4) (b := 114) dX11_pulls_78 w_X4_tryPull l_X11_269 rfl (by decide) (by decide) s_X4_tryPull [.int x1, .int x2] rfl rfl (Nat.le_of_ble_eq_true rfl) (Nat.le_of_ble_eq_true rfl) ?_
        refine zV.post T ?_
        rintro v M36 ⟨r35, rfl, T⟩
        refine ⟨r35, rfl, ?_⟩
        refine zr_pop dX11_pulls_81 rfl ?_
        refine zr_goto (tgt := 95) dX11_pulls_82 (by decide) ?_
        refine zr_iinc (n := 3) (v := x3 + 1) dX11_pulls_95 rfl rfl (by decide) (L2 := [(3, .int (x3 + 1)), (0, .ref 0), (1, .int x1), (2, .int x2)]) rfl ?_
        refine zr_goto (tgt := 39) dX11_pulls_98 (by decide) ?_
        exact zV.pick [1, 2, 3, 0] rfl T
    · have T := T.2 h31
      refine zr_iload_n dX11_pulls_64 rfl 3 rfl ?_
      exact zm_iret dX11_pulls_65 rfl T
set_option maxRecDepth 100000 in
set_option maxHeartbeats 4000000 in
theorem t_X11_path {d : Nat} {x1 : Int32} {x2 : Int32} {M : zMem} {K : zK} 
    (T : S_X11_isPeer d x1 M (zB (fun r21 M22 => (r21 = false → K (some (.int (-1))) M22) ∧ (r21 = true → S_X11_isKey d x2 M22 (zB (fun r24 M25 => (r24 = false → K (some (.int (-1))) M25) ∧ (r24 = true → S_X3_has d 10 x1 x2 M25 (zB (fun r27 M28 => (r27 = true → vp_in x1 4 ∧ (S_X9_depthOf d (65 + 12 * (Int32.toNatClampNeg x1)) x2 M28 (zI (fun r31 M32 => K (some (.int r31)) M32)))) ∧ (r27 = false → K (some (.int (-1))) M28)))))))))) : S_X11_path (d + 1) x1 x2 M K := by
  show zV m_X11_path (d + 1) 0 [(0, .ref 0), (1, .int x1), (2, .int x2)] [] M K
  refine zr_aload_n dX11_path_0 rfl 0 rfl ?_
  refine zr_iload_n dX11_path_1 rfl 1 rfl ?_
  refine zm_callV_b (c := 11) (b := 0) dX11_path_2 w_X11_isPeer l_X11_179 rfl (by decide) (by decide) s_X11_isPeer [.int x1] rfl rfl (Nat.le_of_ble_eq_true rfl) (Nat.le_of_ble_eq_true rfl) ?_
  refine zV.post T ?_
  rintro v M22 ⟨r21, rfl, T⟩
  refine ⟨r21, rfl, ?_⟩
  refine zm_ifb_eq (tgt := 31) dX11_path_5 (by decide) (fun h23 => ?_) (fun h23 => ?_)
  · have T := T.1 h23
    refine zr_iconst (v := (-1)) dX11_path_31 (by decide) ?_
    exact zm_iret dX11_path_32 rfl T
  · have T := T.2 h23
    refine zr_aload_n dX11_path_8 rfl 0 rfl ?_
    refine zr_iload_n dX11_path_9 rfl 2 rfl ?_
    refine zm_callV_b (c := 11) (b := 0) dX11_path_10 w_X11_isKey l_X11_153 rfl (by decide) (by decide) s_X11_isKey [.int x2] rfl rfl (Nat.le_of_ble_eq_true rfl) (Nat.le_of_ble_eq_true rfl) ?_
    refine zV.post T ?_
    rintro v M25 ⟨r24, rfl, T⟩
    refine ⟨r24, rfl, ?_⟩
    refine zm_ifb_eq (tgt := 31) dX11_path_13 (by decide) (fun h26 => ?_) (fun h26 => ?_)
    · have T := T.1 h26
      refine zr_iconst (v := (-1)) dX11_path_31 (by decide) ?_
      exact zm_iret dX11_path_32 rfl T
    · have T := T.2 h26
      refine zr_aload_n dX11_path_16 rfl 0 rfl ?_
      refine zm_getr (a := 2) dX11_path_17 f_X11_20 (by decide) (by decide) (by decide) (by decide) ?_
      refine zm_getr (a := 10) dX11_path_20 f_X11_37 (by decide) (by decide) (by decide) (by decide) ?_
      refine zr_iload_n dX11_path_23 rfl 1 rfl ?_
      refine zr_iload_n dX11_path_24 rfl 2 rfl ?_
      refine zm_callV_b (c := 3) (b := 10) dX11_path_25 w_X3_has l_X11_214 rfl (by decide) (by decide) s_X3_has [.int x1, .int x2] rfl rfl (Nat.le_of_ble_eq_true rfl) (Nat.le_of_ble_eq_true rfl) ?_
      refine zV.post T ?_
      rintro v M28 ⟨r27, rfl, T⟩
      refine ⟨r27, rfl, ?_⟩
      refine zm_ifb_ne (tgt := 33) dX11_path_28 (by decide) (fun h29 => ?_) (fun h29 => ?_)
      · have T := T.1 h29
        refine zr_aload_n dX11_path_33 rfl 0 rfl ?_
        refine zm_getr (a := 63) dX11_path_34 f_X11_44 (by decide) (by decide) (by decide) (by decide) ?_
        refine zm_getr (a := 64) dX11_path_37 f_X11_182 (by decide) (by decide) (by decide) (by decide) ?_
        refine zr_iload_n dX11_path_40 rfl 1 rfl ?_
        obtain ⟨hq30, T⟩ := T
        refine zm_aald (t := 4) (n := 4) (q := (Int32.toNatClampNeg x1)) (o := 65 + 12 * (Int32.toNatClampNeg x1)) dX11_path_41 (by decide) (by decide) (by decide) (fun _ => rfl) (by decide) hq30 rfl (e64 (z_lt hq30)) ?_
        refine zr_iload_n dX11_path_42 rfl 2 rfl ?_
        refine zm_callV_i (c := 9) (b := 65 + 12 * (Int32.toNatClampNeg x1)) dX11_path_43 w_X9_depthOf l_X11_320 rfl (oX9 _ (e64q (z_lt hq30))) (by decide) s_X9_depthOf [.int x2] rfl rfl (Nat.le_of_ble_eq_true rfl) (Nat.le_of_ble_eq_true rfl) ?_
        refine zV.post T ?_
        rintro v M32 ⟨r31, rfl, T⟩
        refine ⟨r31, rfl, ?_⟩
        exact zm_iret dX11_path_46 rfl T
      · have T := T.2 h29
        refine zr_iconst (v := (-1)) dX11_path_31 (by decide) ?_
        exact zm_iret dX11_path_32 rfl T
set_option maxRecDepth 100000 in
set_option maxHeartbeats 4000000 in
theorem t_X11_addName {d : Nat} {w1 : Int64} {M : zMem} {K : zK} 
    (T : S_X11_addName_2 (d + 1) w1 0 M K) : S_X11_addName (d + 1) w1 M K := by
  show zV m_X11_addName (d + 1) 0 [(0, .ref 0), (1, .long w1)] [] M K
  refine zr_iconst (v := 0) dX11_addName_0 (by decide) ?_
  refine zr_istore_n dX11_addName_1 rfl (by decide) (L2 := [(3, .int 0), (0, .ref 0), (1, .long w1)]) rfl ?_
  exact zV.pick [1, 2, 0] rfl T
set_option maxRecDepth 100000 in
set_option maxHeartbeats 4000000 in
theorem t_X11_addName_2 {d : Nat} {w1 : Int64} {x3 : Int32} {M : zMem} {K : zK} 
    (T : (7 ≤ x3 → K none M) ∧ (¬ (7 ≤ x3) → S_X5_signOf d w1 x3 M (zI (fun r22 M23 => (r22 = 0 → S_X11_addName_2 (d + 1) w1 (x3 + 1) M23 K) ∧ (¬ (r22 = 0) → S_X11_addByte d r22 M23 (zU (fun M26 => S_X11_addName_2 (d + 1) w1 (x3 + 1) M26 K))))))) : S_X11_addName_2 (d + 1) w1 x3 M K := by
  show zV m_X11_addName (d + 1) 2 [(0, .ref 0), (1, .long w1), (3, .int x3)] [] M K
  refine zr_iload_n dX11_addName_2 rfl 2 rfl ?_
  refine zr_bipush (v := 7) dX11_addName_3 (by decide) ?_
  refine zr_icmp_ge (tgt := 32) dX11_addName_5 (by decide) (fun h21 => ?_) (fun h21 => ?_)
  · have T := T.1 h21
    exact zm_vret dX11_addName_32 rfl T
  · have T := T.2 h21
    refine zr_lload_n dX11_addName_8 rfl 1 rfl ?_
    refine zr_iload_n dX11_addName_9 rfl 2 rfl ?_
    refine zm_callS_i dX11_addName_10 w_X5_signOf l_X11_353 s_X5_signOf [.long w1, .int x3] rfl rfl (Nat.le_of_ble_eq_true rfl) (Nat.le_of_ble_eq_true rfl) ?_
    refine zV.post T ?_
    rintro v M23 ⟨r22, rfl, T⟩
    refine ⟨r22, rfl, ?_⟩
    refine zr_istore dX11_addName_13 (by decide) (L2 := [(4, .int r22), (0, .ref 0), (1, .long w1), (3, .int x3)]) rfl ?_
    refine zr_iload dX11_addName_15 0 rfl ?_
    refine zr_if_eq (tgt := 26) dX11_addName_17 (by decide) (fun h24 => ?_) (fun h24 => ?_)
    · have T := T.1 h24
      refine zr_iinc (n := 3) (v := x3 + 1) dX11_addName_26 rfl rfl (by decide) (L2 := [(3, .int (x3 + 1)), (4, .int r22), (0, .ref 0), (1, .long w1)]) rfl ?_
      refine zr_goto (tgt := 2) dX11_addName_29 (by decide) ?_
      exact zV.pick [2, 3, 0] rfl T
    · have T := T.2 h24
      refine zr_aload_n dX11_addName_20 rfl 1 rfl ?_
      refine zr_iload dX11_addName_21 0 rfl ?_
      refine zm_callV_v (c := 11) (b := 0) dX11_addName_23 w_X11_addByte l_X11_357 rfl (by decide) (by decide) s_X11_addByte [.int r22] rfl rfl (Nat.le_of_ble_eq_true rfl) (Nat.le_of_ble_eq_true rfl) ?_
      refine zV.post T ?_
      rintro v M26 ⟨rfl, T⟩
      refine ⟨rfl, ?_⟩
      refine zr_iinc (n := 3) (v := x3 + 1) dX11_addName_26 rfl rfl (by decide) (L2 := [(3, .int (x3 + 1)), (4, .int r22), (0, .ref 0), (1, .long w1)]) rfl ?_
      refine zr_goto (tgt := 2) dX11_addName_29 (by decide) ?_
      exact zV.pick [2, 3, 0] rfl T
set_option maxRecDepth 100000 in
set_option maxHeartbeats 4000000 in
theorem t_X11_addByte {d : Nat} {x1 : Int32} {M : zMem} {K : zK} 
    (T : (48 ≤ (M.1 0 15) → K none M) ∧ (¬ (48 ≤ (M.1 0 15)) → vp_in (M.1 0 15) 48 ∧ ((∀ M23 : zMem, M23 = wI M 228 (Int32.toNatClampNeg (M.1 0 15)) (Int32.toInt8 ((Int32.toInt8 x1).toInt32)).toInt32 → (∀ M25 : zMem, M25 = wI M23 0 15 ((M23.1 0 15) + 1) → K none M25))))) : S_X11_addByte d x1 M K := by
  show zV m_X11_addByte d 0 [(0, .ref 0), (1, .int x1)] [] M K
  refine zr_aload_n dX11_addByte_0 rfl 0 rfl ?_
  refine zm_geti dX11_addByte_1 f_X11_105 (by decide) (by decide) (by decide) ?_
  refine zr_bipush (v := 48) dX11_addByte_4 (by decide) ?_
  refine zr_icmp_ge (tgt := 30) dX11_addByte_6 (by decide) (fun h21 => ?_) (fun h21 => ?_)
  · have T := T.1 h21
    exact zm_vret dX11_addByte_30 rfl T
  · have T := T.2 h21
    refine zr_aload_n dX11_addByte_9 rfl 0 rfl ?_
    refine zm_getr (a := 228) dX11_addByte_10 f_X11_102 (by decide) (by decide) (by decide) (by decide) ?_
    refine zr_aload_n dX11_addByte_13 rfl 0 rfl ?_
    refine zm_geti dX11_addByte_14 f_X11_105 (by decide) (by decide) (by decide) ?_
    refine zr_iload_n dX11_addByte_17 rfl 1 rfl ?_
    refine zr_i2b dX11_addByte_18 ?_
    obtain ⟨hq22, T⟩ := T
    refine zn_bast (n := 48) (o := (Int32.toNatClampNeg (M.1 0 15))) dX11_addByte_19 (by decide) (by decide) hq22 rfl (fun M23 e24 => ?_)
    have T := T M23 e24
    refine zr_aload_n dX11_addByte_20 rfl 0 rfl ?_
    refine zr_dup dX11_addByte_21 rfl ?_
    refine zm_geti dX11_addByte_22 f_X11_105 (by decide) (by decide) (by decide) ?_
    refine zr_iconst (v := 1) dX11_addByte_25 (by decide) ?_
    refine zr_iadd dX11_addByte_26 ?_
    refine zn_puti dX11_addByte_27 f_X11_105 (by decide) (by decide) (by decide) (fun M25 e26 => ?_)
    have T := T M25 e26
    exact zm_vret dX11_addByte_30 rfl T
set_option maxRecDepth 100000 in
set_option maxHeartbeats 4000000 in
theorem t_X11_addNumber {d : Nat} {x1 : Int32} {M : zMem} {K : zK} 
    (T : (x1 < 10 → S_X11_addByte d (48 + (x1 - x1 / 10 * 10)) M (zU (fun M23 => K none M23))) ∧ (¬ (x1 < 10) → S_X11_addByte d (48 + ((x1 / 10) - (x1 / 10) / 10 * 10)) M (zU (fun M25 => S_X11_addByte d (48 + (x1 - x1 / 10 * 10)) M25 (zU (fun M27 => K none M27)))))) : S_X11_addNumber (d + 1) x1 M K := by
  show zV m_X11_addNumber (d + 1) 0 [(0, .ref 0), (1, .int x1)] [] M K
  refine zr_iload_n dX11_addNumber_0 rfl 1 rfl ?_
  refine zr_bipush (v := 10) dX11_addNumber_1 (by decide) ?_
  refine zr_icmp_lt (tgt := 20) dX11_addNumber_3 (by decide) (fun h21 => ?_) (fun h21 => ?_)
  · have T := T.1 h21
    refine zr_aload_n dX11_addNumber_20 rfl 0 rfl ?_
    refine zr_bipush (v := 48) dX11_addNumber_21 (by decide) ?_
    refine zr_iload_n dX11_addNumber_23 rfl 1 rfl ?_
    refine zr_bipush (v := 10) dX11_addNumber_24 (by decide) ?_
    refine zr_irem dX11_addNumber_26 (by decide) ?_
    refine zr_iadd dX11_addNumber_27 ?_
    refine zm_callV_v (c := 11) (b := 0) dX11_addNumber_28 w_X11_addByte l_X11_357 rfl (by decide) (by decide) s_X11_addByte [.int (48 + (x1 - x1 / 10 * 10))] rfl rfl (Nat.le_of_ble_eq_true rfl) (Nat.le_of_ble_eq_true rfl) ?_
    refine zV.post T ?_
    rintro v M23 ⟨rfl, T⟩
    refine ⟨rfl, ?_⟩
    exact zm_vret dX11_addNumber_31 rfl T
  · have T := T.2 h21
    refine zr_aload_n dX11_addNumber_6 rfl 0 rfl ?_
    refine zr_bipush (v := 48) dX11_addNumber_7 (by decide) ?_
    refine zr_iload_n dX11_addNumber_9 rfl 1 rfl ?_
    refine zr_bipush (v := 10) dX11_addNumber_10 (by decide) ?_
    refine zr_idiv dX11_addNumber_12 (by decide) ?_
    refine zr_bipush (v := 10) dX11_addNumber_13 (by decide) ?_
    refine zr_irem dX11_addNumber_15 (by decide) ?_
    refine zr_iadd dX11_addNumber_16 ?_
    refine zm_callV_v (c := 11) (b := 0) dX11_addNumber_17 w_X11_addByte l_X11_357 rfl (by decide) (by decide) s_X11_addByte [.int (48 + ((x1 / 10) - (x1 / 10) / 10 * 10))] rfl rfl (Nat.le_of_ble_eq_true rfl) (Nat.le_of_ble_eq_true rfl) ?_
    refine zV.post T ?_
    rintro v M25 ⟨rfl, T⟩
    refine ⟨rfl, ?_⟩
    refine zr_aload_n dX11_addNumber_20 rfl 0 rfl ?_
    refine zr_bipush (v := 48) dX11_addNumber_21 (by decide) ?_
    refine zr_iload_n dX11_addNumber_23 rfl 1 rfl ?_
    refine zr_bipush (v := 10) dX11_addNumber_24 (by decide) ?_
    refine zr_irem dX11_addNumber_26 (by decide) ?_
    refine zr_iadd dX11_addNumber_27 ?_
    refine zm_callV_v (c := 11) (b := 0) dX11_addNumber_28 w_X11_addByte l_X11_357 rfl (by decide) (by decide) s_X11_addByte [.int (48 + (x1 - x1 / 10 * 10))] rfl rfl (Nat.le_of_ble_eq_true rfl) (Nat.le_of_ble_eq_true rfl) ?_
    refine zV.post T ?_
    rintro v M27 ⟨rfl, T⟩
    refine ⟨rfl, ?_⟩
    exact zm_vret dX11_addNumber_31 rfl T
set_option maxRecDepth 100000 in
set_option maxHeartbeats 4000000 in
theorem t_X11_byteAt {d : Nat} {x1 : Int32} {M : zMem} {K : zK} 
    (T : (x1 < 0 → K (some (.int (-1))) M) ∧ (¬ (x1 < 0) → ((M.1 0 15) ≤ x1 → K (some (.int (-1))) M) ∧ (¬ ((M.1 0 15) ≤ x1) → vp_in x1 48 ∧ (K (some (.int ((M.1 228 (Int32.toNatClampNeg x1)) &&& 255))) M)))) : S_X11_byteAt d x1 M K := by
  show zV m_X11_byteAt d 0 [(0, .ref 0), (1, .int x1)] [] M K
  refine zr_iload_n dX11_byteAt_0 rfl 1 rfl ?_
  refine zr_if_lt (tgt := 25) dX11_byteAt_1 (by decide) (fun h21 => ?_) (fun h21 => ?_)
  · have T := T.1 h21
    refine zr_iconst (v := (-1)) dX11_byteAt_25 (by decide) ?_
    exact zm_iret dX11_byteAt_26 rfl T
  · have T := T.2 h21
    refine zr_iload_n dX11_byteAt_4 rfl 1 rfl ?_
    refine zr_aload_n dX11_byteAt_5 rfl 0 rfl ?_
    refine zm_geti dX11_byteAt_6 f_X11_105 (by decide) (by decide) (by decide) ?_
    refine zr_icmp_ge (tgt := 25) dX11_byteAt_9 (by decide) (fun h22 => ?_) (fun h22 => ?_)
    · have T := T.1 h22
      refine zr_iconst (v := (-1)) dX11_byteAt_25 (by decide) ?_
      exact zm_iret dX11_byteAt_26 rfl T
    · have T := T.2 h22
      refine zr_aload_n dX11_byteAt_12 rfl 0 rfl ?_
      refine zm_getr (a := 228) dX11_byteAt_13 f_X11_102 (by decide) (by decide) (by decide) (by decide) ?_
      refine zr_iload_n dX11_byteAt_16 rfl 1 rfl ?_
      obtain ⟨hq23, T⟩ := T
      refine zm_bald (n := 48) (o := (Int32.toNatClampNeg x1)) dX11_byteAt_17 (by decide) (by decide) hq23 rfl ?_
      refine zr_sipush (v := 255) dX11_byteAt_18 (by decide) ?_
      refine zr_iand dX11_byteAt_21 ?_
      refine zr_goto (tgt := 26) dX11_byteAt_22 (by decide) ?_
      exact zm_iret dX11_byteAt_26 rfl T
set_option maxRecDepth 100000 in
set_option maxHeartbeats 4000000 in
theorem t_X11_drawn {d : Nat} {x1 : Int32} {x2 : Int32} {M : zMem} {K : zK} 
    (T : (x1 < 1 → K (some (.int (-1))) M) ∧ (¬ (x1 < 1) → (x1 ≤ 60 → S_X5_hasBoth d 3 M (zB (fun r23 M24 => (r23 = true → S_X10_note d 10 M24 (zU (fun M27 => S_X2_begin d x2 M27 (zU (fun M29 => S_X2_runRounds d 63 x1 M29 (zU (fun M31 => S_X2_keepRefusals d  M31 (zU (fun M33 => S_X10_keepNoted d  M33 (zU (fun M35 => K (some (.int x1)) M35))))))))))) ∧ (r23 = false → K (some (.int 0)) M24)))) ∧ (¬ (x1 ≤ 60) → K (some (.int (-1))) M))) : S_X11_drawn (d + 1) x1 x2 M K := by
  show zV m_X11_drawn (d + 1) 0 [(0, .ref 0), (1, .int x1), (2, .int x2)] [] M K
  refine zr_iload_n dX11_drawn_0 rfl 1 rfl ?_
  refine zr_iconst (v := 1) dX11_drawn_1 (by decide) ?_
  refine zr_icmp_lt (tgt := 11) dX11_drawn_2 (by decide) (fun h21 => ?_) (fun h21 => ?_)
  · have T := T.1 h21
    refine zr_iconst (v := (-1)) dX11_drawn_11 (by decide) ?_
    exact zm_iret dX11_drawn_12 rfl T
  · have T := T.2 h21
    refine zr_iload_n dX11_drawn_5 rfl 1 rfl ?_
    refine zr_bipush (v := 60) dX11_drawn_6 (by decide) ?_
    refine zr_icmp_le (tgt := 13) dX11_drawn_8 (by decide) (fun h22 => ?_) (fun h22 => ?_)
    · have T := T.1 h22
      refine zr_aload_n dX11_drawn_13 rfl 0 rfl ?_
      refine zm_getr (a := 2) dX11_drawn_14 f_X11_20 (by decide) (by decide) (by decide) (by decide) ?_
      refine zm_getr (a := 3) dX11_drawn_17 f_X11_33 (by decide) (by decide) (by decide) (by decide) ?_
      refine zm_callV_b (c := 5) (b := 3) dX11_drawn_20 w_X5_hasBoth l_X11_369 rfl (by decide) (by decide) s_X5_hasBoth [] rfl rfl (Nat.le_of_ble_eq_true rfl) (Nat.le_of_ble_eq_true rfl) ?_
      refine zV.post T ?_
      rintro v M24 ⟨r23, rfl, T⟩
      refine ⟨r23, rfl, ?_⟩
      refine zm_ifb_ne (tgt := 28) dX11_drawn_23 (by decide) (fun h25 => ?_) (fun h25 => ?_)
      · have T := T.1 h25
        refine zr_aload_n dX11_drawn_28 rfl 0 rfl ?_
        refine zm_getr (a := 170) dX11_drawn_29 f_X11_57 (by decide) (by decide) (by decide) (by decide) ?_
        refine zr_aload_n dX11_drawn_32 rfl 0 rfl ?_
        refine zm_getr (a := 2) dX11_drawn_33 f_X11_20 (by decide) (by decide) (by decide) (by decide) ?_
        refine zm_getr (a := 10) dX11_drawn_36 f_X11_37 (by decide) (by decide) (by decide) (by decide) ?_
        refine zm_callV_v (c := 10) (b := 170) dX11_drawn_39 w_X10_note l_X11_252 rfl (by decide) (by decide) s_X10_note [.ref 10] rfl rfl (Nat.le_of_ble_eq_true rfl) (Nat.le_of_ble_eq_true rfl) ?_
        refine zV.post T ?_
        rintro v M27 ⟨rfl, T⟩
        refine ⟨rfl, ?_⟩
        refine zr_aload_n dX11_drawn_42 rfl 0 rfl ?_
        refine zm_getr (a := 217) dX11_drawn_43 f_X11_64 (by decide) (by decide) (by decide) (by decide) ?_
        refine zr_iload_n dX11_drawn_46 rfl 2 rfl ?_
        refine zm_callV_v (c := 2) (b := 217) dX11_drawn_47 w_X2_begin l_X11_372 rfl (by decide) (by decide) s_X2_begin [.int x2] rfl rfl (Nat.le_of_ble_eq_true rfl) (Nat.le_of_ble_eq_true rfl) ?_
        refine zV.post T ?_
        rintro v M29 ⟨rfl, T⟩
        refine ⟨rfl, ?_⟩
        refine zr_aload_n dX11_drawn_50 rfl 0 rfl ?_
        refine zm_getr (a := 217) dX11_drawn_51 f_X11_64 (by decide) (by decide) (by decide) (by decide) ?_
        refine zr_aload_n dX11_drawn_54 rfl 0 rfl ?_
        refine zm_getr (a := 63) dX11_drawn_55 f_X11_44 (by decide) (by decide) (by decide) (by decide) ?_
        refine zr_iload_n dX11_drawn_58 rfl 1 rfl ?_
        refine zm_callV_v (c := 2) (b := 217) dX11_drawn_59 w_X2_runRounds l_X11_375 rfl (by decide) (by decide) s_X2_runRounds [.ref 63, .int x1] rfl rfl (Nat.le_of_ble_eq_true rfl) (Nat.le_of_ble_eq_true rfl) ?_
        refine zV.post T ?_
        rintro v M31 ⟨rfl, T⟩
        refine ⟨rfl, ?_⟩
        refine zr_aload_n dX11_drawn_62 rfl 0 rfl ?_
        refine zm_getr (a := 217) dX11_drawn_63 f_X11_64 (by decide) (by decide) (by decide) (by decide) ?_
        refine zm_callV_v (c := 2) (b := 217) dX11_drawn_66 w_X2_keepRefusals l_X11_379 rfl (by decide) (by decide) s_X2_keepRefusals [] rfl rfl (Nat.le_of_ble_eq_true rfl) (Nat.le_of_ble_eq_true rfl) ?_
        refine zV.post T ?_
        rintro v M33 ⟨rfl, T⟩
        refine ⟨rfl, ?_⟩
        refine zr_aload_n dX11_drawn_69 rfl 0 rfl ?_
        refine zm_getr (a := 170) dX11_drawn_70 f_X11_57 (by decide) (by decide) (by decide) (by decide) ?_
        refine zm_callV_v (c := 10) (b := 170) dX11_drawn_73 w_X10_keepNoted l_X11_278 rfl (by decide) (by decide) s_X10_keepNoted [] rfl rfl (Nat.le_of_ble_eq_true rfl) (Nat.le_of_ble_eq_true rfl) ?_
        refine zV.post T ?_
        rintro v M35 ⟨rfl, T⟩
        refine ⟨rfl, ?_⟩
        refine zr_iload_n dX11_drawn_76 rfl 1 rfl ?_
        exact zm_iret dX11_drawn_77 rfl T
      · have T := T.2 h25
        refine zr_iconst (v := 0) dX11_drawn_26 (by decide) ?_
        exact zm_iret dX11_drawn_27 rfl T
    · have T := T.2 h22
      refine zr_iconst (v := (-1)) dX11_drawn_11 (by decide) ?_
      exact zm_iret dX11_drawn_12 rfl T
set_option maxRecDepth 100000 in
set_option maxHeartbeats 4000000 in
theorem t_X11_refused {d : Nat} {x1 : Int32} {M : zMem} {K : zK} 
    (T : S_X2_refusedBy d x1 M (zI (fun r21 M22 => K (some (.int r21)) M22))) : S_X11_refused (d + 1) x1 M K := by
  show zV m_X11_refused (d + 1) 0 [(0, .ref 0), (1, .int x1)] [] M K
  refine zr_aload_n dX11_refused_0 rfl 0 rfl ?_
  refine zm_getr (a := 217) dX11_refused_1 f_X11_64 (by decide) (by decide) (by decide) (by decide) ?_
  refine zr_iload_n dX11_refused_4 rfl 1 rfl ?_
  refine zm_callV_i (c := 2) (b := 217) dX11_refused_5 w_X2_refusedBy l_X11_382 rfl (by decide) (by decide) s_X2_refusedBy [.int x1] rfl rfl (Nat.le_of_ble_eq_true rfl) (Nat.le_of_ble_eq_true rfl) ?_
  refine zV.post T ?_
  rintro v M22 ⟨r21, rfl, T⟩
  refine ⟨r21, rfl, ?_⟩
  exact zm_iret dX11_refused_8 rfl T
set_option maxRecDepth 100000 in
set_option maxHeartbeats 4000000 in
theorem t_X11_odds {d : Nat} {x1 : Int32} {x2 : Int32} {M : zMem} {K : zK} 
    (T : (x1 < 1 → K (some (.int (-1))) M) ∧ (¬ (x1 < 1) → (x1 ≤ 20 → S_X5_hasBoth d 3 M (zB (fun r23 M24 => (r23 = true → S_X11_odds_33 (d + 1) x1 x2 0 0 M24 K) ∧ (r23 = false → K (some (.int x1)) M24)))) ∧ (¬ (x1 ≤ 20) → K (some (.int (-1))) M))) : S_X11_odds (d + 1) x1 x2 M K := by
  show zV m_X11_odds (d + 1) 0 [(0, .ref 0), (1, .int x1), (2, .int x2)] [] M K
  refine zr_iload_n dX11_odds_0 rfl 1 rfl ?_
  refine zr_iconst (v := 1) dX11_odds_1 (by decide) ?_
  refine zr_icmp_lt (tgt := 11) dX11_odds_2 (by decide) (fun h21 => ?_) (fun h21 => ?_)
  · have T := T.1 h21
    refine zr_iconst (v := (-1)) dX11_odds_11 (by decide) ?_
    exact zm_iret dX11_odds_12 rfl T
  · have T := T.2 h21
    refine zr_iload_n dX11_odds_5 rfl 1 rfl ?_
    refine zr_bipush (v := 20) dX11_odds_6 (by decide) ?_
    refine zr_icmp_le (tgt := 13) dX11_odds_8 (by decide) (fun h22 => ?_) (fun h22 => ?_)
    · have T := T.1 h22
      refine zr_aload_n dX11_odds_13 rfl 0 rfl ?_
      refine zm_getr (a := 2) dX11_odds_14 f_X11_20 (by decide) (by decide) (by decide) (by decide) ?_
      refine zm_getr (a := 3) dX11_odds_17 f_X11_33 (by decide) (by decide) (by decide) (by decide) ?_
      refine zm_callV_b (c := 5) (b := 3) dX11_odds_20 w_X5_hasBoth l_X11_369 rfl (by decide) (by decide) s_X5_hasBoth [] rfl rfl (Nat.le_of_ble_eq_true rfl) (Nat.le_of_ble_eq_true rfl) ?_
      refine zV.post T ?_
      rintro v M24 ⟨r23, rfl, T⟩
      refine ⟨r23, rfl, ?_⟩
      refine zm_ifb_ne (tgt := 28) dX11_odds_23 (by decide) (fun h25 => ?_) (fun h25 => ?_)
      · have T := T.1 h25
        refine zr_iconst (v := 0) dX11_odds_28 (by decide) ?_
        refine zr_istore_n dX11_odds_29 rfl (by decide) (L2 := [(3, .int 0), (0, .ref 0), (1, .int x1), (2, .int x2)]) rfl ?_
        refine zr_iconst (v := 0) dX11_odds_30 (by decide) ?_
        refine zr_istore dX11_odds_31 (by decide) (L2 := [(4, .int 0), (3, .int 0), (0, .ref 0), (1, .int x1), (2, .int x2)]) rfl ?_
        exact zV.pick [2, 3, 4, 1, 0] rfl T
      · have T := T.2 h25
        refine zr_iload_n dX11_odds_26 rfl 1 rfl ?_
        exact zm_iret dX11_odds_27 rfl T
    · have T := T.2 h22
      refine zr_iconst (v := (-1)) dX11_odds_11 (by decide) ?_
      exact zm_iret dX11_odds_12 rfl T
set_option maxRecDepth 100000 in
set_option maxHeartbeats 4000000 in
theorem t_X11_odds_33 {d : Nat} {x1 : Int32} {x2 : Int32} {x3 : Int32} {x4 : Int32} {M : zMem} {K : zK} 
    (T : (x1 ≤ x4 → K (some (.int x3)) M) ∧ (¬ (x1 ≤ x4) → S_X4_copyFrom d 114 63 M (zU (fun M23 => S_X2_begin d (x2 + x4) M23 (zU (fun M25 => S_X2_runRounds d 114 20 M25 (zU (fun M27 => S_X4_rootKinds d 114 M27 (zI (fun r28 M29 => (¬ r28 = 1 → S_X11_odds_33 (d + 1) x1 x2 x3 (x4 + 1) M29 K) ∧ (r28 = 1 → S_X11_odds_33 (d + 1) x1 x2 (x3 + 1) (x4 + 1) M29 K))))))))))) : S_X11_odds_33 (d + 1) x1 x2 x3 x4 M K := by
  show zV m_X11_odds (d + 1) 33 [(0, .ref 0), (1, .int x1), (2, .int x2), (3, .int x3), (4, .int x4)] [] M K
  refine zr_iload dX11_odds_33 4 rfl ?_
  refine zr_iload_n dX11_odds_35 rfl 1 rfl ?_
  refine zr_icmp_ge (tgt := 94) dX11_odds_36 (by decide) (fun h21 => ?_) (fun h21 => ?_)
  · have T := T.1 h21
    refine zr_iload_n dX11_odds_94 rfl 3 rfl ?_
    exact zm_iret dX11_odds_95 rfl T
  · have T := T.2 h21
    refine zr_aload_n dX11_odds_39 rfl 0 rfl ?_
    refine zm_getr (a := 114) dX11_odds_40 f_X11_51 (by decide) (by decide) (by decide) (by decide) ?_
    refine zr_aload_n dX11_odds_43 rfl 0 rfl ?_
    refine zm_getr (a := 63) dX11_odds_44 f_X11_44 (by decide) (by decide) (by decide) (by decide) ?_
    refine zm_callV_v (c := 4) (b := 114) dX11_odds_47 w_X4_copyFrom l_X11_310 rfl (by decide) (by decide) s_X4_copyFrom [.ref 63] rfl rfl (Nat.le_of_ble_eq_true rfl) (Nat.le_of_ble_eq_true rfl) ?_
    refine zV.post T ?_
    rintro v M23 ⟨rfl, T⟩
    refine ⟨rfl, ?_⟩
    refine zr_aload_n dX11_odds_50 rfl 0 rfl ?_
    refine zm_getr (a := 217) dX11_odds_51 f_X11_64 (by decide) (by decide) (by decide) (by decide) ?_
    refine zr_iload_n dX11_odds_54 rfl 2 rfl ?_
    refine zr_iload dX11_odds_55 4 rfl ?_
    refine zr_iadd dX11_odds_57 ?_
    refine zm_callV_v (c := 2) (b := 217) dX11_odds_58 w_X2_begin l_X11_372 rfl (by decide) (by decide) s_X2_begin [.int (x2 + x4)] rfl rfl (Nat.le_of_ble_eq_true rfl) (Nat.le_of_ble_eq_true rfl) ?_
    refine zV.post T ?_
    rintro v M25 ⟨rfl, T⟩
    refine ⟨rfl, ?_⟩
    refine zr_aload_n dX11_odds_61 rfl 0 rfl ?_
    refine zm_getr (a := 217) dX11_odds_62 f_X11_64 (by decide) (by decide) (by decide) (by decide) ?_
    refine zr_aload_n dX11_odds_65 rfl 0 rfl ?_
    refine zm_getr (a := 114) dX11_odds_66 f_X11_51 (by decide) (by decide) (by decide) (by decide) ?_
    refine zr_bipush (v := 20) dX11_odds_69 (by decide) ?_
    refine zm_callV_v (c := 2) (b := 217) dX11_odds_71 w_X2_runRounds l_X11_375 rfl (by decide) (by decide) s_X2_runRounds [.ref 114, .int 20] rfl rfl (Nat.le_of_ble_eq_true rfl) (Nat.le_of_ble_eq_true rfl) ?_
    refine zV.post T ?_
    rintro v M27 ⟨rfl, T⟩
    refine ⟨rfl, ?_⟩
    refine zr_aload_n dX11_odds_74 rfl 0 rfl ?_
    refine zm_getr (a := 114) dX11_odds_75 f_X11_51 (by decide) (by decide) (by decide) (by decide) ?_
    refine zm_callV_i (c := 4) (b := 114) dX11_odds_78 w_X4_rootKinds l_X11_249 rfl (by decide) (by decide) s_X4_rootKinds [] rfl rfl (Nat.le_of_ble_eq_true rfl) (Nat.le_of_ble_eq_true rfl) ?_
    refine zV.post T ?_
    rintro v M29 ⟨r28, rfl, T⟩
    refine ⟨r28, rfl, ?_⟩
    refine zr_iconst (v := 1) dX11_odds_81 (by decide) ?_
    refine zr_icmp_ne (tgt := 88) dX11_odds_82 (by decide) (fun h30 => ?_) (fun h30 => ?_)
    · have T := T.1 h30
      refine zr_iinc (n := 4) (v := x4 + 1) dX11_odds_88 rfl rfl (by decide) (L2 := [(4, .int (x4 + 1)), (0, .ref 0), (1, .int x1), (2, .int x2), (3, .int x3)]) rfl ?_
      refine zr_goto (tgt := 33) dX11_odds_91 (by decide) ?_
      exact zV.pick [1, 2, 3, 4, 0] rfl T
    · have T := T.2 h30
      refine zr_iinc (n := 3) (v := x3 + 1) dX11_odds_85 rfl rfl (by decide) (L2 := [(3, .int (x3 + 1)), (0, .ref 0), (1, .int x1), (2, .int x2), (4, .int x4)]) rfl ?_
      refine zr_iinc (n := 4) (v := x4 + 1) dX11_odds_88 rfl rfl (by decide) (L2 := [(4, .int (x4 + 1)), (3, .int (x3 + 1)), (0, .ref 0), (1, .int x1), (2, .int x2)]) rfl ?_
      refine zr_goto (tgt := 33) dX11_odds_91 (by decide) ?_
      exact zV.pick [2, 3, 4, 1, 0] rfl T
set_option maxRecDepth 100000 in
set_option maxHeartbeats 4000000 in
theorem t_X11_book {d : Nat} {x1 : Int32} {M : zMem} {K : zK} 
    (T : (x1 < 0 → K (some (.int (-1000))) M) ∧ (¬ (x1 < 0) → (x1 ≤ 1 → S_X6_open d (M.1 0 1) 400 M (zU (fun M24 => S_X0_read d  M24 (zB (fun r25 M26 => S_X11_closeText d (M26.1 220 10) M26 (zU (fun M28 => (r25 = true → S_X4_copyFrom d 114 63 M28 (zU (fun M31 => S_X0_judge d 114 M31 (zI (fun r32 M33 => (¬ x1 = 1 → K (some (.int r32)) M33) ∧ (x1 = 1 → ((M33.1 222 9) ≤ 0 → K (some (.int r32)) M33) ∧ (¬ ((M33.1 222 9) ≤ 0) → S_X10_note d 10 M33 (zU (fun M37 => S_X10_keepNoted d  M37 (zU (fun M39 => S_X4_copyFrom d 63 114 M39 (zU (fun M41 => K (some (.int r32)) M41))))))))))))) ∧ (r25 = false → K (some (.int ((-2) - (M28.1 220 12)))) M28)))))))) ∧ (¬ (x1 ≤ 1) → K (some (.int (-1000))) M))) : S_X11_book (d + 1) x1 M K := by
  show zV m_X11_book (d + 1) 0 [(0, .ref 0), (1, .int x1)] [] M K
  refine zr_iload_n dX11_book_0 rfl 1 rfl ?_
  refine zr_if_lt (tgt := 9) dX11_book_1 (by decide) (fun h21 => ?_) (fun h21 => ?_)
  · have T := T.1 h21
    refine zr_sipush (v := (-1000)) dX11_book_9 (by decide) ?_
    exact zm_iret dX11_book_12 rfl T
  · have T := T.2 h21
    refine zr_iload_n dX11_book_4 rfl 1 rfl ?_
    refine zr_iconst (v := 1) dX11_book_5 (by decide) ?_
    refine zr_icmp_le (tgt := 13) dX11_book_6 (by decide) (fun h22 => ?_) (fun h22 => ?_)
    · have T := T.1 h22
      refine zr_aload_n dX11_book_13 rfl 0 rfl ?_
      refine zm_getr (a := 220) dX11_book_14 f_X11_73 (by decide) (by decide) (by decide) (by decide) ?_
      refine zr_aload_n dX11_book_17 rfl 0 rfl ?_
      refine zm_geti dX11_book_18 f_X11_13 (by decide) (by decide) (by decide) ?_
      refine zr_sipush (v := 400) dX11_book_21 (by decide) ?_
      refine zm_callV_v (c := 6) (b := 220) dX11_book_24 w_X6_open l_X11_118 rfl (by decide) (by decide) s_X6_open [.int (M.1 0 1), .int 400] rfl rfl (Nat.le_of_ble_eq_true rfl) (Nat.le_of_ble_eq_true rfl) ?_
      refine zV.post T ?_
      rintro v M24 ⟨rfl, T⟩
      refine ⟨rfl, ?_⟩
      refine zr_aload_n dX11_book_27 rfl 0 rfl ?_
      refine zm_getr (a := 222) dX11_book_28 f_X11_91 (by decide) (by decide) (by decide) (by decide) ?_
      refine zm_callV_b (c := 0) (b := 222) dX11_book_31 w_X0_read l_X11_385 rfl (by decide) (by decide) s_X0_read [] rfl rfl (Nat.le_of_ble_eq_true rfl) (Nat.le_of_ble_eq_true rfl) ?_
      refine zV.post T ?_
      rintro v M26 ⟨r25, rfl, T⟩
      refine ⟨r25, rfl, ?_⟩
      refine zr_istore_n dX11_book_34 rfl (by decide) (L2 := [(2, .int (bi r25)), (0, .ref 0), (1, .int x1)]) rfl ?_
      refine zr_aload_n dX11_book_35 rfl 1 rfl ?_
      refine zr_aload_n dX11_book_36 rfl 1 rfl ?_
      refine zm_getr (a := 220) dX11_book_37 f_X11_73 (by decide) (by decide) (by decide) (by decide) ?_
      refine zm_geti dX11_book_40 f_X11_126 (by decide) (by decide) (by decide) ?_
      refine zm_callV_v (c := 11) (b := 0) dX11_book_43 w_X11_closeText l_X11_129 rfl (by decide) (by decide) s_X11_closeText [.int (M26.1 220 10)] rfl rfl (Nat.le_of_ble_eq_true rfl) (Nat.le_of_ble_eq_true rfl) ?_
      refine zV.post T ?_
      rintro v M28 ⟨rfl, T⟩
      refine ⟨rfl, ?_⟩
      refine zr_iload_n dX11_book_46 rfl 0 rfl ?_
      refine zm_ifb_ne (tgt := 61) dX11_book_47 (by decide) (fun h29 => ?_) (fun h29 => ?_)
      · have T := T.1 h29
        refine zr_aload_n dX11_book_61 rfl 1 rfl ?_
        refine zm_getr (a := 114) dX11_book_62 f_X11_51 (by decide) (by decide) (by decide) (by decide) ?_
        refine zr_aload_n dX11_book_65 rfl 1 rfl ?_
        refine zm_getr (a := 63) dX11_book_66 f_X11_44 (by decide) (by decide) (by decide) (by decide) ?_
        refine zm_callV_v (c := 4) (b := 114) dX11_book_69 w_X4_copyFrom l_X11_310 rfl (by decide) (by decide) s_X4_copyFrom [.ref 63] rfl rfl (Nat.le_of_ble_eq_true rfl) (Nat.le_of_ble_eq_true rfl) ?_
        refine zV.post T ?_
        rintro v M31 ⟨rfl, T⟩
        refine ⟨rfl, ?_⟩
        refine zr_aload_n dX11_book_72 rfl 1 rfl ?_
        refine zm_getr (a := 222) dX11_book_73 f_X11_91 (by decide) (by decide) (by decide) (by decide) ?_
        refine zr_aload_n dX11_book_76 rfl 1 rfl ?_
        refine zm_getr (a := 114) dX11_book_77 f_X11_51 (by decide) (by decide) (by decide) (by decide) ?_
        refine zm_callV_i (c := 0) (b := 222) dX11_book_80 w_X0_judge l_X11_386 rfl (by decide) (by decide) s_X0_judge [.ref 114] rfl rfl (Nat.le_of_ble_eq_true rfl) (Nat.le_of_ble_eq_true rfl) ?_
        refine zV.post T ?_
        rintro v M33 ⟨r32, rfl, T⟩
        refine ⟨r32, rfl, ?_⟩
        refine zr_istore_n dX11_book_83 rfl (by decide) (L2 := [(3, .int r32), (2, .int (bi r25)), (0, .ref 0), (1, .int x1)]) rfl ?_
        refine zr_iload_n dX11_book_84 rfl 3 rfl ?_
        refine zr_iconst (v := 1) dX11_book_85 (by decide) ?_
        refine zr_icmp_ne (tgt := 131) dX11_book_86 (by decide) (fun h34 => ?_) (fun h34 => ?_)
        · have T := T.1 h34
          refine zr_iload_n dX11_book_131 rfl 0 rfl ?_
          exact zm_iret dX11_book_132 rfl T
        · have T := T.2 h34
          refine zr_aload_n dX11_book_89 rfl 2 rfl ?_
          refine zm_getr (a := 222) dX11_book_90 f_X11_91 (by decide) (by decide) (by decide) (by decide) ?_
          refine zm_geti dX11_book_93 f_X11_390 (by decide) (by decide) (by decide) ?_
          refine zr_if_le (tgt := 131) dX11_book_96 (by decide) (fun h35 => ?_) (fun h35 => ?_)
          · have T := T.1 h35
            refine zr_iload_n dX11_book_131 rfl 0 rfl ?_
            exact zm_iret dX11_book_132 rfl T
          · have T := T.2 h35
            refine zr_aload_n dX11_book_99 rfl 2 rfl ?_
            refine zm_getr (a := 170) dX11_book_100 f_X11_57 (by decide) (by decide) (by decide) (by decide) ?_
            refine zr_aload_n dX11_book_103 rfl 2 rfl ?_
            refine zm_getr (a := 2) dX11_book_104 f_X11_20 (by decide) (by decide) (by decide) (by decide) ?_
            refine zm_getr (a := 10) dX11_book_107 f_X11_37 (by decide) (by decide) (by decide) (by decide) ?_
            refine zm_callV_v (c := 10) (b := 170) dX11_book_110 w_X10_note l_X11_252 rfl (by decide) (by decide) s_X10_note [.ref 10] rfl rfl (Nat.le_of_ble_eq_true rfl) (Nat.le_of_ble_eq_true rfl) ?_
            refine zV.post T ?_
            rintro v M37 ⟨rfl, T⟩
            refine ⟨rfl, ?_⟩
            refine zr_aload_n dX11_book_113 rfl 2 rfl ?_
            refine zm_getr (a := 170) dX11_book_114 f_X11_57 (by decide) (by decide) (by decide) (by decide) ?_
            refine zm_callV_v (c := 10) (b := 170) dX11_book_117 w_X10_keepNoted l_X11_278 rfl (by decide) (by decide) s_X10_keepNoted [] rfl rfl (Nat.le_of_ble_eq_true rfl) (Nat.le_of_ble_eq_true rfl) ?_
            refine zV.post T ?_
            rintro v M39 ⟨rfl, T⟩
            refine ⟨rfl, ?_⟩
            refine zr_aload_n dX11_book_120 rfl 2 rfl ?_
            refine zm_getr (a := 63) dX11_book_121 f_X11_44 (by decide) (by decide) (by decide) (by decide) ?_
            refine zr_aload_n dX11_book_124 rfl 2 rfl ?_
            refine zm_getr (a := 114) dX11_book_125 f_X11_51 (by decide) (by decide) (by decide) (by decide) ?_
            refine zm_callV_v (c := 4) (b := 63) dX11_book_128 w_X4_copyFrom l_X11_310 rfl (by decide) (by decide) s_X4_copyFrom [.ref 114] rfl rfl (Nat.le_of_ble_eq_true rfl) (Nat.le_of_ble_eq_true rfl) ?_
            refine zV.post T ?_
            rintro v M41 ⟨rfl, T⟩
            refine ⟨rfl, ?_⟩
            refine zr_iload_n dX11_book_131 rfl 0 rfl ?_
            exact zm_iret dX11_book_132 rfl T
      · have T := T.2 h29
        refine zr_bipush (v := (-2)) dX11_book_50 (by decide) ?_
        refine zr_aload_n dX11_book_52 rfl 1 rfl ?_
        refine zm_getr (a := 220) dX11_book_53 f_X11_73 (by decide) (by decide) (by decide) (by decide) ?_
        refine zm_geti dX11_book_56 f_X11_132 (by decide) (by decide) (by decide) ?_
        refine zr_isub dX11_book_59 ?_
        exact zm_iret dX11_book_60 rfl T
    · have T := T.2 h22
      refine zr_sipush (v := (-1000)) dX11_book_9 (by decide) ?_
      exact zm_iret dX11_book_12 rfl T
set_option maxRecDepth 100000 in
set_option maxHeartbeats 4000000 in
theorem t_X11_told {d : Nat} {x1 : Int32} {M : zMem} {K : zK} 
    (T : S_X0_tell d x1 M (zI (fun r21 M22 => K (some (.int r21)) M22))) : S_X11_told (d + 1) x1 M K := by
  show zV m_X11_told (d + 1) 0 [(0, .ref 0), (1, .int x1)] [] M K
  refine zr_aload_n dX11_told_0 rfl 0 rfl ?_
  refine zm_getr (a := 222) dX11_told_1 f_X11_91 (by decide) (by decide) (by decide) (by decide) ?_
  refine zr_iload_n dX11_told_4 rfl 1 rfl ?_
  refine zm_callV_i (c := 0) (b := 222) dX11_told_5 w_X0_tell l_X11_393 rfl (by decide) (by decide) s_X0_tell [.int x1] rfl rfl (Nat.le_of_ble_eq_true rfl) (Nat.le_of_ble_eq_true rfl) ?_
  refine zV.post T ?_
  rintro v M22 ⟨r21, rfl, T⟩
  refine ⟨r21, rfl, ?_⟩
  exact zm_iret dX11_told_8 rfl T
set_option maxRecDepth 100000 in
set_option maxHeartbeats 4000000 in
theorem t_X11_sentence {d : Nat}  {M : zMem} {K : zK} 
    (T : S_X6_open d (M.1 0 1) 200 M (zU (fun M22 => S_X7_read d 30 3 M22 (zB (fun r23 M24 => S_X11_closeText d 0 M24 (zU (fun M26 => (r23 = true → S_X7_copyFrom d 15 30 M26 (zU (fun M29 => K (some (.int (M29.1 15 2))) M29))) ∧ (r23 = false → K (some (.int ((-1) - (M26.1 220 12)))) M26)))))))) : S_X11_sentence (d + 1)  M K := by
  show zV m_X11_sentence (d + 1) 0 [(0, .ref 0)] [] M K
  refine zr_aload_n dX11_sentence_0 rfl 0 rfl ?_
  refine zm_getr (a := 220) dX11_sentence_1 f_X11_73 (by decide) (by decide) (by decide) (by decide) ?_
  refine zr_aload_n dX11_sentence_4 rfl 0 rfl ?_
  refine zm_geti dX11_sentence_5 f_X11_13 (by decide) (by decide) (by decide) ?_
  refine zr_sipush (v := 200) dX11_sentence_8 (by decide) ?_
  refine zm_callV_v (c := 6) (b := 220) dX11_sentence_11 w_X6_open l_X11_118 rfl (by decide) (by decide) s_X6_open [.int (M.1 0 1), .int 200] rfl rfl (Nat.le_of_ble_eq_true rfl) (Nat.le_of_ble_eq_true rfl) ?_
  refine zV.post T ?_
  rintro v M22 ⟨rfl, T⟩
  refine ⟨rfl, ?_⟩
  refine zr_aload_n dX11_sentence_14 rfl 0 rfl ?_
  refine zm_getr (a := 17) dX11_sentence_15 f_X11_24 (by decide) (by decide) (by decide) (by decide) ?_
  refine zm_getr (a := 30) dX11_sentence_18 f_X11_135 (by decide) (by decide) (by decide) (by decide) ?_
  refine zr_aload_n dX11_sentence_21 rfl 0 rfl ?_
  refine zm_getr (a := 220) dX11_sentence_22 f_X11_73 (by decide) (by decide) (by decide) (by decide) ?_
  refine zr_aload_n dX11_sentence_25 rfl 0 rfl ?_
  refine zm_getr (a := 2) dX11_sentence_26 f_X11_20 (by decide) (by decide) (by decide) (by decide) ?_
  refine zm_getr (a := 3) dX11_sentence_29 f_X11_33 (by decide) (by decide) (by decide) (by decide) ?_
  refine zm_callV_b (c := 7) (b := 30) dX11_sentence_32 w_X7_read l_X11_395 rfl (by decide) (by decide) s_X7_read [.ref 220, .ref 3] rfl rfl (Nat.le_of_ble_eq_true rfl) (Nat.le_of_ble_eq_true rfl) ?_
  refine zV.post T ?_
  rintro v M24 ⟨r23, rfl, T⟩
  refine ⟨r23, rfl, ?_⟩
  refine zr_istore_n dX11_sentence_35 rfl (by decide) (L2 := [(1, .int (bi r23)), (0, .ref 0)]) rfl ?_
  refine zr_aload_n dX11_sentence_36 rfl 1 rfl ?_
  refine zr_iconst (v := 0) dX11_sentence_37 (by decide) ?_
  refine zm_callV_v (c := 11) (b := 0) dX11_sentence_38 w_X11_closeText l_X11_129 rfl (by decide) (by decide) s_X11_closeText [.int 0] rfl rfl (Nat.le_of_ble_eq_true rfl) (Nat.le_of_ble_eq_true rfl) ?_
  refine zV.post T ?_
  rintro v M26 ⟨rfl, T⟩
  refine ⟨rfl, ?_⟩
  refine zr_iload_n dX11_sentence_41 rfl 0 rfl ?_
  refine zm_ifb_ne (tgt := 55) dX11_sentence_42 (by decide) (fun h27 => ?_) (fun h27 => ?_)
  · have T := T.1 h27
    refine zr_aload_n dX11_sentence_55 rfl 1 rfl ?_
    refine zm_getr (a := 2) dX11_sentence_56 f_X11_20 (by decide) (by decide) (by decide) (by decide) ?_
    refine zm_getr (a := 15) dX11_sentence_59 f_X11_135 (by decide) (by decide) (by decide) (by decide) ?_
    refine zr_aload_n dX11_sentence_62 rfl 1 rfl ?_
    refine zm_getr (a := 17) dX11_sentence_63 f_X11_24 (by decide) (by decide) (by decide) (by decide) ?_
    refine zm_getr (a := 30) dX11_sentence_66 f_X11_135 (by decide) (by decide) (by decide) (by decide) ?_
    refine zm_callV_v (c := 7) (b := 15) dX11_sentence_69 w_X7_copyFrom l_X11_398 rfl (by decide) (by decide) s_X7_copyFrom [.ref 30] rfl rfl (Nat.le_of_ble_eq_true rfl) (Nat.le_of_ble_eq_true rfl) ?_
    refine zV.post T ?_
    rintro v M29 ⟨rfl, T⟩
    refine ⟨rfl, ?_⟩
    refine zr_aload_n dX11_sentence_72 rfl 1 rfl ?_
    refine zm_getr (a := 2) dX11_sentence_73 f_X11_20 (by decide) (by decide) (by decide) (by decide) ?_
    refine zm_getr (a := 15) dX11_sentence_76 f_X11_135 (by decide) (by decide) (by decide) (by decide) ?_
    refine zm_geti dX11_sentence_79 f_X11_401 (by decide) (by decide) (by decide) ?_
    exact zm_iret dX11_sentence_82 rfl T
  · have T := T.2 h27
    refine zr_iconst (v := (-1)) dX11_sentence_45 (by decide) ?_
    refine zr_aload_n dX11_sentence_46 rfl 1 rfl ?_
    refine zm_getr (a := 220) dX11_sentence_47 f_X11_73 (by decide) (by decide) (by decide) (by decide) ?_
    refine zm_geti dX11_sentence_50 f_X11_132 (by decide) (by decide) (by decide) ?_
    refine zr_isub dX11_sentence_53 ?_
    exact zm_iret dX11_sentence_54 rfl T
set_option maxRecDepth 100000 in
set_option maxHeartbeats 4000000 in
theorem t_X11_said {d : Nat} {x1 : Int32} {M : zMem} {K : zK} 
    (T : ((M.1 15 2) = 0 → K (some (.int (-1))) M) ∧ (¬ ((M.1 15 2) = 0) → ((-1) ≤ x1 → S_X11_said_24 (d + 1) x1 0 0 M K) ∧ (¬ ((-1) ≤ x1) → K (some (.int (-1))) M))) : S_X11_said (d + 1) x1 M K := by
  show zV m_X11_said (d + 1) 0 [(0, .ref 0), (1, .int x1)] [] M K
  refine zr_aload_n dX11_said_0 rfl 0 rfl ?_
  refine zm_getr (a := 2) dX11_said_1 f_X11_20 (by decide) (by decide) (by decide) (by decide) ?_
  refine zm_getr (a := 15) dX11_said_4 f_X11_135 (by decide) (by decide) (by decide) (by decide) ?_
  refine zm_geti dX11_said_7 f_X11_401 (by decide) (by decide) (by decide) ?_
  refine zr_if_eq (tgt := 18) dX11_said_10 (by decide) (fun h21 => ?_) (fun h21 => ?_)
  · have T := T.1 h21
    refine zr_iconst (v := (-1)) dX11_said_18 (by decide) ?_
    exact zm_iret dX11_said_19 rfl T
  · have T := T.2 h21
    refine zr_iload_n dX11_said_13 rfl 1 rfl ?_
    refine zr_iconst (v := (-1)) dX11_said_14 (by decide) ?_
    refine zr_icmp_ge (tgt := 20) dX11_said_15 (by decide) (fun h22 => ?_) (fun h22 => ?_)
    · have T := T.1 h22
      refine zr_iconst (v := 0) dX11_said_20 (by decide) ?_
      refine zr_istore_n dX11_said_21 rfl (by decide) (L2 := [(2, .int 0), (0, .ref 0), (1, .int x1)]) rfl ?_
      refine zr_iconst (v := 0) dX11_said_22 (by decide) ?_
      refine zr_istore_n dX11_said_23 rfl (by decide) (L2 := [(3, .int 0), (2, .int 0), (0, .ref 0), (1, .int x1)]) rfl ?_
      exact zV.pick [2, 3, 1, 0] rfl T
    · have T := T.2 h22
      refine zr_iconst (v := (-1)) dX11_said_18 (by decide) ?_
      exact zm_iret dX11_said_19 rfl T
set_option maxRecDepth 100000 in
set_option maxHeartbeats 4000000 in
theorem t_X11_said_24 {d : Nat} {x1 : Int32} {x2 : Int32} {x3 : Int32} {M : zMem} {K : zK} 
    (T : ((M.1 3 3) ≤ x3 → (¬ x1 = (-1) → K (some (.int (-1))) M) ∧ (x1 = (-1) → K (some (.int x2)) M)) ∧ (¬ ((M.1 3 3) ≤ x3) → S_X7_holdsOf d 15 63 x3 M (zB (fun r23 M24 => (r23 = false → S_X11_said_24 (d + 1) x1 x2 (x3 + 1) M24 K) ∧ (r23 = true → (¬ x2 = x1 → S_X11_said_24 (d + 1) x1 (x2 + 1) (x3 + 1) M24 K) ∧ (x2 = x1 → K (some (.int x3)) M24)))))) : S_X11_said_24 (d + 1) x1 x2 x3 M K := by
  show zV m_X11_said (d + 1) 24 [(0, .ref 0), (1, .int x1), (2, .int x2), (3, .int x3)] [] M K
  refine zr_iload_n dX11_said_24 rfl 3 rfl ?_
  refine zr_aload_n dX11_said_25 rfl 0 rfl ?_
  refine zm_getr (a := 2) dX11_said_26 f_X11_20 (by decide) (by decide) (by decide) (by decide) ?_
  refine zm_getr (a := 3) dX11_said_29 f_X11_33 (by decide) (by decide) (by decide) (by decide) ?_
  refine zm_geti dX11_said_32 f_X11_404 (by decide) (by decide) (by decide) ?_
  refine zr_icmp_ge (tgt := 72) dX11_said_35 (by decide) (fun h21 => ?_) (fun h21 => ?_)
  · have T := T.1 h21
    refine zr_iload_n dX11_said_72 rfl 1 rfl ?_
    refine zr_iconst (v := (-1)) dX11_said_73 (by decide) ?_
    refine zr_icmp_ne (tgt := 81) dX11_said_74 (by decide) (fun h22 => ?_) (fun h22 => ?_)
    · have T := T.1 h22
      refine zr_iconst (v := (-1)) dX11_said_81 (by decide) ?_
      exact zm_iret dX11_said_82 rfl T
    · have T := T.2 h22
      refine zr_iload_n dX11_said_77 rfl 2 rfl ?_
      refine zr_goto (tgt := 82) dX11_said_78 (by decide) ?_
      exact zm_iret dX11_said_82 rfl T
  · have T := T.2 h21
    refine zr_aload_n dX11_said_38 rfl 0 rfl ?_
    refine zm_getr (a := 2) dX11_said_39 f_X11_20 (by decide) (by decide) (by decide) (by decide) ?_
    refine zm_getr (a := 15) dX11_said_42 f_X11_135 (by decide) (by decide) (by decide) (by decide) ?_
    refine zr_aload_n dX11_said_45 rfl 0 rfl ?_
    refine zm_getr (a := 63) dX11_said_46 f_X11_44 (by decide) (by decide) (by decide) (by decide) ?_
    refine zr_iload_n dX11_said_49 rfl 3 rfl ?_
    refine zm_callV_b (c := 7) (b := 15) dX11_said_50 w_X7_holdsOf l_X11_407 rfl (by decide) (by decide) s_X7_holdsOf [.ref 63, .int x3] rfl rfl (Nat.le_of_ble_eq_true rfl) (Nat.le_of_ble_eq_true rfl) ?_
    refine zV.post T ?_
    rintro v M24 ⟨r23, rfl, T⟩
    refine ⟨r23, rfl, ?_⟩
    refine zm_ifb_eq (tgt := 66) dX11_said_53 (by decide) (fun h25 => ?_) (fun h25 => ?_)
    · have T := T.1 h25
      refine zr_iinc (n := 3) (v := x3 + 1) dX11_said_66 rfl rfl (by decide) (L2 := [(3, .int (x3 + 1)), (0, .ref 0), (1, .int x1), (2, .int x2)]) rfl ?_
      refine zr_goto (tgt := 24) dX11_said_69 (by decide) ?_
      exact zV.pick [1, 2, 3, 0] rfl T
    · have T := T.2 h25
      refine zr_iload_n dX11_said_56 rfl 2 rfl ?_
      refine zr_iload_n dX11_said_57 rfl 1 rfl ?_
      refine zr_icmp_ne (tgt := 63) dX11_said_58 (by decide) (fun h26 => ?_) (fun h26 => ?_)
      · have T := T.1 h26
        refine zr_iinc (n := 2) (v := x2 + 1) dX11_said_63 rfl rfl (by decide) (L2 := [(2, .int (x2 + 1)), (0, .ref 0), (1, .int x1), (3, .int x3)]) rfl ?_
        refine zr_iinc (n := 3) (v := x3 + 1) dX11_said_66 rfl rfl (by decide) (L2 := [(3, .int (x3 + 1)), (2, .int (x2 + 1)), (0, .ref 0), (1, .int x1)]) rfl ?_
        refine zr_goto (tgt := 24) dX11_said_69 (by decide) ?_
        exact zV.pick [2, 3, 1, 0] rfl T
      · have T := T.2 h26
        refine zr_iload_n dX11_said_61 rfl 3 rfl ?_
        exact zm_iret dX11_said_62 rfl T
set_option maxRecDepth 100000 in
set_option maxHeartbeats 4000000 in
theorem t_X11_image {d : Nat} {x1 : Int32} {M : zMem} {K : zK} 
    (T : (x1 < 0 → K (some (.int 0)) M) ∧ (¬ (x1 < 0) → (x1 < 2 → vp_in x1 2 ∧ (S_X8_copyFrom d (33 + 15 * (Int32.toNatClampNeg x1)) 2 M (zU (fun M25 => vp_in x1 2 ∧ ((∀ M27 : zMem, M27 = wI M25 (33 + 15 * (Int32.toNatClampNeg x1)) 3 1 → K (some (.int 1)) M27)))))) ∧ (¬ (x1 < 2) → K (some (.int 0)) M))) : S_X11_image (d + 1) x1 M K := by
  show zV m_X11_image (d + 1) 0 [(0, .ref 0), (1, .int x1)] [] M K
  refine zr_iload_n dX11_image_0 rfl 1 rfl ?_
  refine zr_if_lt (tgt := 9) dX11_image_1 (by decide) (fun h21 => ?_) (fun h21 => ?_)
  · have T := T.1 h21
    refine zr_iconst (v := 0) dX11_image_9 (by decide) ?_
    exact zm_zret dX11_image_10 rfl (by decide) T
  · have T := T.2 h21
    refine zr_iload_n dX11_image_4 rfl 1 rfl ?_
    refine zr_iconst (v := 2) dX11_image_5 (by decide) ?_
    refine zr_icmp_lt (tgt := 11) dX11_image_6 (by decide) (fun h22 => ?_) (fun h22 => ?_)
    · have T := T.1 h22
      refine zr_aload_n dX11_image_11 rfl 0 rfl ?_
      refine zm_getr (a := 32) dX11_image_12 f_X11_27 (by decide) (by decide) (by decide) (by decide) ?_
      refine zr_iload_n dX11_image_15 rfl 1 rfl ?_
      obtain ⟨hq23, T⟩ := T
      refine zm_aald (t := 5) (n := 2) (q := (Int32.toNatClampNeg x1)) (o := 33 + 15 * (Int32.toNatClampNeg x1)) dX11_image_16 (by decide) (by decide) (by decide) (fun _ => rfl) (by decide) hq23 rfl (e32 (z_lt hq23)) ?_
      refine zr_aload_n dX11_image_17 rfl 0 rfl ?_
      refine zm_getr (a := 2) dX11_image_18 f_X11_20 (by decide) (by decide) (by decide) (by decide) ?_
      refine zm_callV_v (c := 8) (b := 33 + 15 * (Int32.toNatClampNeg x1)) dX11_image_21 w_X8_copyFrom l_X11_144 rfl (oX8 _ (e32q (z_lt hq23))) (by decide) s_X8_copyFrom [.ref 2] rfl rfl (Nat.le_of_ble_eq_true rfl) (Nat.le_of_ble_eq_true rfl) ?_
      refine zV.post T ?_
      rintro v M25 ⟨rfl, T⟩
      refine ⟨rfl, ?_⟩
      refine zr_aload_n dX11_image_24 rfl 0 rfl ?_
      refine zm_getr (a := 32) dX11_image_25 f_X11_27 (by decide) (by decide) (by decide) (by decide) ?_
      refine zr_iload_n dX11_image_28 rfl 1 rfl ?_
      obtain ⟨hq26, T⟩ := T
      refine zm_aald (t := 5) (n := 2) (q := (Int32.toNatClampNeg x1)) (o := 33 + 15 * (Int32.toNatClampNeg x1)) dX11_image_29 (by decide) (by decide) (by decide) (fun _ => rfl) (by decide) hq26 rfl (e32 (z_lt hq26)) ?_
      refine zr_iconst (v := 1) dX11_image_30 (by decide) ?_
      refine zn_putz dX11_image_31 f_X11_411 (oX8 _ (e32q (z_lt hq26))) (by decide) (by decide) (by decide) (fun M27 e28 => ?_)
      have T := T M27 e28
      refine zr_iconst (v := 1) dX11_image_34 (by decide) ?_
      exact zm_zret dX11_image_35 rfl (by decide) T
    · have T := T.2 h22
      refine zr_iconst (v := 0) dX11_image_9 (by decide) ?_
      exact zm_zret dX11_image_10 rfl (by decide) T
set_option maxRecDepth 100000 in
set_option maxHeartbeats 4000000 in
theorem t_X11_restore {d : Nat} {x1 : Int32} {M : zMem} {K : zK} 
    (T : (x1 < 0 → K (some (.int 0)) M) ∧ (¬ (x1 < 0) → (2 ≤ x1 → K (some (.int 0)) M) ∧ (¬ (2 ≤ x1) → vp_in x1 2 ∧ ((¬ (M.1 (33 + 15 * (Int32.toNatClampNeg x1)) 3) = 0 → vp_in x1 2 ∧ (S_X8_copyFrom d 2 (33 + 15 * (Int32.toNatClampNeg x1)) M (zU (fun M27 => S_X4_growTrees d 63 M27 (zU (fun M29 => S_X10_clear d  M29 (zU (fun M31 => K (some (.int 1)) M31)))))))) ∧ ((M.1 (33 + 15 * (Int32.toNatClampNeg x1)) 3) = 0 → K (some (.int 0)) M))))) : S_X11_restore (d + 1) x1 M K := by
  show zV m_X11_restore (d + 1) 0 [(0, .ref 0), (1, .int x1)] [] M K
  refine zr_iload_n dX11_restore_0 rfl 1 rfl ?_
  refine zr_if_lt (tgt := 21) dX11_restore_1 (by decide) (fun h21 => ?_) (fun h21 => ?_)
  · have T := T.1 h21
    refine zr_iconst (v := 0) dX11_restore_21 (by decide) ?_
    exact zm_zret dX11_restore_22 rfl (by decide) T
  · have T := T.2 h21
    refine zr_iload_n dX11_restore_4 rfl 1 rfl ?_
    refine zr_iconst (v := 2) dX11_restore_5 (by decide) ?_
    refine zr_icmp_ge (tgt := 21) dX11_restore_6 (by decide) (fun h22 => ?_) (fun h22 => ?_)
    · have T := T.1 h22
      refine zr_iconst (v := 0) dX11_restore_21 (by decide) ?_
      exact zm_zret dX11_restore_22 rfl (by decide) T
    · have T := T.2 h22
      refine zr_aload_n dX11_restore_9 rfl 0 rfl ?_
      refine zm_getr (a := 32) dX11_restore_10 f_X11_27 (by decide) (by decide) (by decide) (by decide) ?_
      refine zr_iload_n dX11_restore_13 rfl 1 rfl ?_
      obtain ⟨hq23, T⟩ := T
      refine zm_aald (t := 5) (n := 2) (q := (Int32.toNatClampNeg x1)) (o := 33 + 15 * (Int32.toNatClampNeg x1)) dX11_restore_14 (by decide) (by decide) (by decide) (fun _ => rfl) (by decide) hq23 rfl (e32 (z_lt hq23)) ?_
      refine zm_geti dX11_restore_15 f_X11_411 (oX8 _ (e32q (z_lt hq23))) (by decide) (by decide) ?_
      refine zr_if_ne (tgt := 23) dX11_restore_18 (by decide) (fun h24 => ?_) (fun h24 => ?_)
      · have T := T.1 h24
        refine zr_aload_n dX11_restore_23 rfl 0 rfl ?_
        refine zm_getr (a := 2) dX11_restore_24 f_X11_20 (by decide) (by decide) (by decide) (by decide) ?_
        refine zr_aload_n dX11_restore_27 rfl 0 rfl ?_
        refine zm_getr (a := 32) dX11_restore_28 f_X11_27 (by decide) (by decide) (by decide) (by decide) ?_
        refine zr_iload_n dX11_restore_31 rfl 1 rfl ?_
        obtain ⟨hq25, T⟩ := T
        refine zm_aald (t := 5) (n := 2) (q := (Int32.toNatClampNeg x1)) (o := 33 + 15 * (Int32.toNatClampNeg x1)) dX11_restore_32 (by decide) (by decide) (by decide) (fun _ => rfl) (by decide) hq25 rfl (e32 (z_lt hq25)) ?_
        refine zm_callV_v (c := 8) (b := 2) dX11_restore_33 w_X8_copyFrom l_X11_144 rfl (by decide) (by decide) s_X8_copyFrom [.ref (33 + 15 * (Int32.toNatClampNeg x1))] rfl rfl (Nat.le_of_ble_eq_true rfl) (Nat.le_of_ble_eq_true rfl) ?_
        refine zV.post T ?_
        rintro v M27 ⟨rfl, T⟩
        refine ⟨rfl, ?_⟩
        refine zr_aload_n dX11_restore_36 rfl 0 rfl ?_
        refine zm_getr (a := 63) dX11_restore_37 f_X11_44 (by decide) (by decide) (by decide) (by decide) ?_
        refine zm_callV_v (c := 4) (b := 63) dX11_restore_40 w_X4_growTrees l_X11_148 rfl (by decide) (by decide) s_X4_growTrees [] rfl rfl (Nat.le_of_ble_eq_true rfl) (Nat.le_of_ble_eq_true rfl) ?_
        refine zV.post T ?_
        rintro v M29 ⟨rfl, T⟩
        refine ⟨rfl, ?_⟩
        refine zr_aload_n dX11_restore_43 rfl 0 rfl ?_
        refine zm_getr (a := 170) dX11_restore_44 f_X11_57 (by decide) (by decide) (by decide) (by decide) ?_
        refine zm_callV_v (c := 10) (b := 170) dX11_restore_47 w_X10_clear l_X11_151 rfl (by decide) (by decide) s_X10_clear [] rfl rfl (Nat.le_of_ble_eq_true rfl) (Nat.le_of_ble_eq_true rfl) ?_
        refine zV.post T ?_
        rintro v M31 ⟨rfl, T⟩
        refine ⟨rfl, ?_⟩
        refine zr_iconst (v := 1) dX11_restore_50 (by decide) ?_
        exact zm_zret dX11_restore_51 rfl (by decide) T
      · have T := T.2 h24
        refine zr_iconst (v := 0) dX11_restore_21 (by decide) ?_
        exact zm_zret dX11_restore_22 rfl (by decide) T
set_option maxRecDepth 100000 in
set_option maxHeartbeats 4000000 in
theorem t_X11_count {d : Nat} {x1 : Int32} {M : zMem} {K : zK} 
    (T : (x1 = 0 → K (some (.int (M.1 3 3))) M) ∧ (x1 = 1 → K (some (.int (M.1 3 4))) M) ∧ (x1 = 2 → K (some (.int (M.1 3 0))) M) ∧ (x1 = 3 → K (some (.int (M.1 3 1))) M) ∧ (x1 = 4 → K (some (.int (M.1 3 2))) M) ∧ (x1 = 5 → K (some (.int (M.1 0 1))) M) ∧ (¬ x1 = 0 → ¬ x1 = 1 → ¬ x1 = 2 → ¬ x1 = 3 → ¬ x1 = 4 → ¬ x1 = 5 → K (some (.int (-1))) M)) : S_X11_count d x1 M K := by
  show zV m_X11_count d 0 [(0, .ref 0), (1, .int x1)] [] M K
  refine zr_iload_n dX11_count_0 rfl 1 rfl ?_
  by_cases h21 : x1 = 0
  · have T := T.1 h21
    refine zr_tableIn (tgt := 40) dX11_count_1 (by rw [h21]; decide) (by rw [h21]; decide) (by rw [h21]; rfl) (by decide) ?_
    refine zr_aload_n dX11_count_40 rfl 0 rfl ?_
    refine zm_getr (a := 2) dX11_count_41 f_X11_20 (by decide) (by decide) (by decide) (by decide) ?_
    refine zm_getr (a := 3) dX11_count_44 f_X11_33 (by decide) (by decide) (by decide) (by decide) ?_
    refine zm_geti dX11_count_47 f_X11_404 (by decide) (by decide) (by decide) ?_
    exact zm_iret dX11_count_50 rfl T
  by_cases h22 : x1 = 1
  · have T := T.2.1 h22
    refine zr_tableIn (tgt := 51) dX11_count_1 (by rw [h22]; decide) (by rw [h22]; decide) (by rw [h22]; rfl) (by decide) ?_
    refine zr_aload_n dX11_count_51 rfl 0 rfl ?_
    refine zm_getr (a := 2) dX11_count_52 f_X11_20 (by decide) (by decide) (by decide) (by decide) ?_
    refine zm_getr (a := 3) dX11_count_55 f_X11_33 (by decide) (by decide) (by decide) (by decide) ?_
    refine zm_geti dX11_count_58 f_X11_415 (by decide) (by decide) (by decide) ?_
    exact zm_iret dX11_count_61 rfl T
  by_cases h23 : x1 = 2
  · have T := T.2.2.1 h23
    refine zr_tableIn (tgt := 62) dX11_count_1 (by rw [h23]; decide) (by rw [h23]; decide) (by rw [h23]; rfl) (by decide) ?_
    refine zr_aload_n dX11_count_62 rfl 0 rfl ?_
    refine zm_getr (a := 2) dX11_count_63 f_X11_20 (by decide) (by decide) (by decide) (by decide) ?_
    refine zm_getr (a := 3) dX11_count_66 f_X11_33 (by decide) (by decide) (by decide) (by decide) ?_
    refine zm_geti dX11_count_69 f_X11_418 (by decide) (by decide) (by decide) ?_
    exact zm_iret dX11_count_72 rfl T
  by_cases h24 : x1 = 3
  · have T := T.2.2.2.1 h24
    refine zr_tableIn (tgt := 73) dX11_count_1 (by rw [h24]; decide) (by rw [h24]; decide) (by rw [h24]; rfl) (by decide) ?_
    refine zr_aload_n dX11_count_73 rfl 0 rfl ?_
    refine zm_getr (a := 2) dX11_count_74 f_X11_20 (by decide) (by decide) (by decide) (by decide) ?_
    refine zm_getr (a := 3) dX11_count_77 f_X11_33 (by decide) (by decide) (by decide) (by decide) ?_
    refine zm_geti dX11_count_80 f_X11_421 (by decide) (by decide) (by decide) ?_
    exact zm_iret dX11_count_83 rfl T
  by_cases h25 : x1 = 4
  · have T := T.2.2.2.2.1 h25
    refine zr_tableIn (tgt := 84) dX11_count_1 (by rw [h25]; decide) (by rw [h25]; decide) (by rw [h25]; rfl) (by decide) ?_
    refine zr_aload_n dX11_count_84 rfl 0 rfl ?_
    refine zm_getr (a := 2) dX11_count_85 f_X11_20 (by decide) (by decide) (by decide) (by decide) ?_
    refine zm_getr (a := 3) dX11_count_88 f_X11_33 (by decide) (by decide) (by decide) (by decide) ?_
    refine zm_geti dX11_count_91 f_X11_424 (by decide) (by decide) (by decide) ?_
    exact zm_iret dX11_count_94 rfl T
  by_cases h26 : x1 = 5
  · have T := T.2.2.2.2.2.1 h26
    refine zr_tableIn (tgt := 95) dX11_count_1 (by rw [h26]; decide) (by rw [h26]; decide) (by rw [h26]; rfl) (by decide) ?_
    refine zr_aload_n dX11_count_95 rfl 0 rfl ?_
    refine zm_geti dX11_count_96 f_X11_13 (by decide) (by decide) (by decide) ?_
    exact zm_iret dX11_count_99 rfl T
  · have T := T.2.2.2.2.2.2 h21 h22 h23 h24 h25 h26
    refine zr_tableOut (tgt := 100) dX11_count_1 (z_out_0_5 h21 h22 h23 h24 h25 h26) (by decide) ?_
    refine zr_iconst (v := (-1)) dX11_count_100 (by decide) ?_
    exact zm_iret dX11_count_101 rfl T
set_option maxRecDepth 100000 in
set_option maxHeartbeats 4000000 in
theorem t_X11_termOf {d : Nat} {x0 : Int32} {x1 : Int32} {x2 : Int32} {M : zMem} {K : zK} 
    (T : S_X11_termOf_8 d x0 x1 x2 x0 x1 0 M K) : S_X11_termOf d x0 x1 x2 M K := by
  show zV m_X11_termOf d 0 [(0, .int x0), (1, .int x1), (2, .int x2)] [] M K
  refine zr_iload_n dX11_termOf_0 rfl 0 rfl ?_
  refine zr_istore_n dX11_termOf_1 rfl (by decide) (L2 := [(3, .int x0), (0, .int x0), (1, .int x1), (2, .int x2)]) rfl ?_
  refine zr_iload_n dX11_termOf_2 rfl 2 rfl ?_
  refine zr_istore dX11_termOf_3 (by decide) (L2 := [(4, .int x1), (3, .int x0), (0, .int x0), (1, .int x1), (2, .int x2)]) rfl ?_
  refine zr_iconst (v := 0) dX11_termOf_5 (by decide) ?_
  refine zr_istore dX11_termOf_6 (by decide) (L2 := [(5, .int 0), (4, .int x1), (3, .int x0), (0, .int x0), (1, .int x1), (2, .int x2)]) rfl ?_
  exact zV.pick [3, 4, 5, 2, 1, 0] rfl T
set_option maxRecDepth 100000 in
set_option maxHeartbeats 4000000 in
theorem t_X11_termOf_8 {d : Nat} {x0 : Int32} {x1 : Int32} {x2 : Int32} {x3 : Int32} {x4 : Int32} {x5 : Int32} {M : zMem} {K : zK} 
    (T : (24 ≤ x5 → S_X11_termOf_39 d x0 x1 x2 x3 M K) ∧ (¬ (24 ≤ x5) → (x4 ≤ 0 → S_X11_termOf_39 d x0 x1 x2 x3 M K) ∧ (¬ (x4 ≤ 0) → (¬ x4 = 0) ∧ (S_X11_termOf_8 d x0 x1 x2 x4 (x3 - x3 / x4 * x4) (x5 + 1) M K)))) : S_X11_termOf_8 d x0 x1 x2 x3 x4 x5 M K := by
  show zV m_X11_termOf d 8 [(0, .int x0), (1, .int x1), (2, .int x2), (3, .int x3), (4, .int x4), (5, .int x5)] [] M K
  refine zr_iload dX11_termOf_8 5 rfl ?_
  refine zr_bipush (v := 24) dX11_termOf_10 (by decide) ?_
  refine zr_icmp_ge (tgt := 39) dX11_termOf_12 (by decide) (fun h21 => ?_) (fun h21 => ?_)
  · have T := T.1 h21
    exact zV.pick [0, 1, 2, 3] rfl T
  · have T := T.2 h21
    refine zr_iload dX11_termOf_15 4 rfl ?_
    refine zr_if_le (tgt := 39) dX11_termOf_17 (by decide) (fun h22 => ?_) (fun h22 => ?_)
    · have T := T.1 h22
      exact zV.pick [0, 1, 2, 3] rfl T
    · have T := T.2 h22
      refine zr_iload_n dX11_termOf_20 rfl 3 rfl ?_
      refine zr_iload dX11_termOf_21 4 rfl ?_
      obtain ⟨hz23, T⟩ := T
      refine zr_irem dX11_termOf_23 hz23 ?_
      refine zr_istore dX11_termOf_24 (by decide) (L2 := [(6, .int (x3 - x3 / x4 * x4)), (0, .int x0), (1, .int x1), (2, .int x2), (3, .int x3), (4, .int x4), (5, .int x5)]) rfl ?_
      refine zr_iload dX11_termOf_26 5 rfl ?_
      refine zr_istore_n dX11_termOf_28 rfl (by decide) (L2 := [(3, .int x4), (6, .int (x3 - x3 / x4 * x4)), (0, .int x0), (1, .int x1), (2, .int x2), (4, .int x4), (5, .int x5)]) rfl ?_
      refine zr_iload dX11_termOf_29 1 rfl ?_
      refine zr_istore dX11_termOf_31 (by decide) (L2 := [(4, .int (x3 - x3 / x4 * x4)), (3, .int x4), (6, .int (x3 - x3 / x4 * x4)), (0, .int x0), (1, .int x1), (2, .int x2), (5, .int x5)]) rfl ?_
      refine zr_iinc (n := 6) (v := x5 + 1) dX11_termOf_33 rfl rfl (by decide) (L2 := [(5, .int (x5 + 1)), (4, .int (x3 - x3 / x4 * x4)), (3, .int x4), (6, .int (x3 - x3 / x4 * x4)), (0, .int x0), (1, .int x1), (2, .int x2)]) rfl ?_
      refine zr_goto (tgt := 8) dX11_termOf_36 (by decide) ?_
      exact zV.pick [4, 5, 6, 2, 1, 0] rfl T
set_option maxRecDepth 100000 in
set_option maxHeartbeats 4000000 in
theorem t_X11_termOf_39 {d : Nat} {x0 : Int32} {x1 : Int32} {x2 : Int32} {x3 : Int32} {M : zMem} {K : zK} 
    (T : (¬ x2 = 0 → (¬ x3 = 0 → (¬ x3 = 0) ∧ (K (some (.int (x1 / x3))) M)) ∧ (x3 = 0 → K (some (.int x1)) M)) ∧ (x2 = 0 → (¬ x3 = 0 → (¬ x3 = 0) ∧ (K (some (.int (x0 / x3))) M)) ∧ (x3 = 0 → K (some (.int x0)) M))) : S_X11_termOf_39 d x0 x1 x2 x3 M K := by
  show zV m_X11_termOf d 39 [(0, .int x0), (1, .int x1), (2, .int x2), (3, .int x3)] [] M K
  refine zr_iload_n dX11_termOf_39 rfl 2 rfl ?_
  refine zr_if_ne (tgt := 47) dX11_termOf_40 (by decide) (fun h21 => ?_) (fun h21 => ?_)
  · have T := T.1 h21
    refine zr_iload_n dX11_termOf_47 rfl 1 rfl ?_
    refine zr_istore dX11_termOf_48 (by decide) (L2 := [(5, .int x1), (0, .int x0), (1, .int x1), (2, .int x2), (3, .int x3)]) rfl ?_
    refine zr_iload_n dX11_termOf_50 rfl 4 rfl ?_
    refine zr_if_ne (tgt := 59) dX11_termOf_51 (by decide) (fun h22 => ?_) (fun h22 => ?_)
    · have T := T.1 h22
      refine zr_iload dX11_termOf_59 0 rfl ?_
      refine zr_iload_n dX11_termOf_61 rfl 4 rfl ?_
      obtain ⟨hz23, T⟩ := T
      refine zr_idiv dX11_termOf_62 hz23 ?_
      exact zm_iret dX11_termOf_63 rfl T
    · have T := T.2 h22
      refine zr_iload dX11_termOf_54 0 rfl ?_
      refine zr_goto (tgt := 63) dX11_termOf_56 (by decide) ?_
      exact zm_iret dX11_termOf_63 rfl T
  · have T := T.2 h21
    refine zr_iload_n dX11_termOf_43 rfl 0 rfl ?_
    refine zr_goto (tgt := 48) dX11_termOf_44 (by decide) ?_
    refine zr_istore dX11_termOf_48 (by decide) (L2 := [(5, .int x0), (0, .int x0), (1, .int x1), (2, .int x2), (3, .int x3)]) rfl ?_
    refine zr_iload_n dX11_termOf_50 rfl 4 rfl ?_
    refine zr_if_ne (tgt := 59) dX11_termOf_51 (by decide) (fun h24 => ?_) (fun h24 => ?_)
    · have T := T.1 h24
      refine zr_iload dX11_termOf_59 0 rfl ?_
      refine zr_iload_n dX11_termOf_61 rfl 4 rfl ?_
      obtain ⟨hz25, T⟩ := T
      refine zr_idiv dX11_termOf_62 hz25 ?_
      exact zm_iret dX11_termOf_63 rfl T
    · have T := T.2 h24
      refine zr_iload dX11_termOf_54 0 rfl ?_
      refine zr_goto (tgt := 63) dX11_termOf_56 (by decide) ?_
      exact zm_iret dX11_termOf_63 rfl T
