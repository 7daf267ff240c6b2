set_option maxRecDepth 100000 in
set_option maxHeartbeats 4000000 in
theorem t_X5_clear {d : Nat} {b0 : Nat} {M : zMem} {K : zK} (h0 : b0 ∈ iX5)
    (T : (∀ M21 : zMem, M21 = wI M b0 0 2 → (∀ M23 : zMem, M23 = wI M21 b0 1 4 → (∀ M25 : zMem, M25 = wI M23 b0 2 0 → (∀ M27 : zMem, M27 = wI M25 b0 3 0 → (∀ M29 : zMem, M29 = wI M27 b0 4 0 → K none M29)))))) : S_X5_clear d b0 M K := by
  show zV m_X5_clear d 0 [(0, .ref b0)] [] M K
  refine zr_aload_n dX5_clear_0 rfl 0 rfl ?_
  refine zr_iconst (v := 2) dX5_clear_1 (by decide) ?_
  refine zn_puti dX5_clear_2 f_X5_9 (oX5 _ h0) (by decide) (by decide) (fun M21 e22 => ?_)
  have T := T M21 e22
  refine zr_aload_n dX5_clear_5 rfl 0 rfl ?_
  refine zr_iconst (v := 4) dX5_clear_6 (by decide) ?_
  refine zn_puti dX5_clear_7 f_X5_15 (oX5 _ h0) (by decide) (by decide) (fun M23 e24 => ?_)
  have T := T M23 e24
  refine zr_aload_n dX5_clear_10 rfl 0 rfl ?_
  refine zr_iconst (v := 0) dX5_clear_11 (by decide) ?_
  refine zn_puti dX5_clear_12 f_X5_18 (oX5 _ h0) (by decide) (by decide) (fun M25 e26 => ?_)
  have T := T M25 e26
  refine zr_aload_n dX5_clear_15 rfl 0 rfl ?_
  refine zr_iconst (v := 0) dX5_clear_16 (by decide) ?_
  refine zn_puti dX5_clear_17 f_X5_21 (oX5 _ h0) (by decide) (by decide) (fun M27 e28 => ?_)
  have T := T M27 e28
  refine zr_aload_n dX5_clear_20 rfl 0 rfl ?_
  refine zr_iconst (v := 0) dX5_clear_21 (by decide) ?_
  refine zn_puti dX5_clear_22 f_X5_24 (oX5 _ h0) (by decide) (by decide) (fun M29 e30 => ?_)
  have T := T M29 e30
  exact zm_vret dX5_clear_25 rfl T
set_option maxRecDepth 100000 in
set_option maxHeartbeats 4000000 in
theorem t_X3_clear {d : Nat} {b0 : Nat} {M : zMem} {K : zK} (h0 : b0 ∈ iX3)
    (T : S_X3_clear_2 d b0 0 M K) : S_X3_clear d b0 M K := by
  show zV m_X3_clear d 0 [(0, .ref b0)] [] M K
  refine zr_iconst (v := 0) dX3_clear_0 (by decide) ?_
  refine zr_istore_n dX3_clear_1 rfl (by decide) (L2 := [(1, .int 0), (0, .ref b0)]) rfl ?_
  exact zV.pick [1, 0] rfl T
set_option maxRecDepth 100000 in
set_option maxHeartbeats 4000000 in
theorem t_X3_clear_2 {d : Nat} {b0 : Nat} {x1 : Int32} {M : zMem} {K : zK} (h0 : b0 ∈ iX3)
    (T : (96 ≤ x1 → S_X3_clear_33 d b0 0 M K) ∧ (¬ (96 ≤ x1) → vp_in x1 96 ∧ ((∀ M23 : zMem, M23 = wI M (b0 + 2) (Int32.toNatClampNeg x1) 0 → vp_in x1 96 ∧ ((∀ M26 : zMem, M26 = wI M23 (b0 + 1) (Int32.toNatClampNeg x1) 0 → S_X3_clear_2 d b0 (x1 + 1) M26 K)))))) : S_X3_clear_2 d b0 x1 M K := by
  show zV m_X3_clear d 2 [(0, .ref b0), (1, .int x1)] [] M K
  refine zr_iload_n dX3_clear_2 rfl 1 rfl ?_
  refine zr_aload_n dX3_clear_3 rfl 0 rfl ?_
  refine zm_getr (a := b0 + 2) dX3_clear_4 f_X3_15 (oX3 _ h0) (by decide) (by decide) (rX3_1 _ h0) ?_
  refine zm_alen (t := 0) (v := 96) dX3_clear_7 (aX _ (qX3_1 _ h0)) (by decide) (by rw [lX _ (qX3_1 _ h0)]; decide) ?_
  refine zr_icmp_ge (tgt := 31) dX3_clear_8 (by decide) (fun h21 => ?_) (fun h21 => ?_)
  · have T := T.1 h21
    refine zr_iconst (v := 0) dX3_clear_31 (by decide) ?_
    refine zr_istore_n dX3_clear_32 rfl (by decide) (L2 := [(1, .int 0), (0, .ref b0)]) rfl ?_
    exact zV.pick [1, 0] rfl T
  · have T := T.2 h21
    refine zr_aload_n dX3_clear_11 rfl 0 rfl ?_
    refine zm_getr (a := b0 + 2) dX3_clear_12 f_X3_15 (oX3 _ h0) (by decide) (by decide) (rX3_1 _ h0) ?_
    refine zr_iload_n dX3_clear_15 rfl 1 rfl ?_
    refine zr_iconst (v := 0) dX3_clear_16 (by decide) ?_
    obtain ⟨hq22, T⟩ := T
    refine zn_iast (n := 96) (o := (Int32.toNatClampNeg x1)) dX3_clear_17 (aX _ (qX3_1 _ h0)) (lX _ (qX3_1 _ h0)) hq22 rfl (fun M23 e24 => ?_)
    have T := T M23 e24
    refine zr_aload_n dX3_clear_18 rfl 0 rfl ?_
    refine zm_getr (a := b0 + 1) dX3_clear_19 f_X3_9 (oX3 _ h0) (by decide) (by decide) (rX3_0 _ h0) ?_
    refine zr_iload_n dX3_clear_22 rfl 1 rfl ?_
    refine zr_iconst (v := 0) dX3_clear_23 (by decide) ?_
    obtain ⟨hq25, T⟩ := T
    refine zn_iast (n := 96) (o := (Int32.toNatClampNeg x1)) dX3_clear_24 (aX _ (qX3_0 _ h0)) (lX _ (qX3_0 _ h0)) hq25 rfl (fun M26 e27 => ?_)
    have T := T M26 e27
    refine zr_iinc (n := 1) (v := x1 + 1) dX3_clear_25 rfl rfl (by decide) (L2 := [(1, .int (x1 + 1)), (0, .ref b0)]) rfl ?_
    refine zr_goto (tgt := 2) dX3_clear_28 (by decide) ?_
    exact zV.pick [1, 0] rfl T
set_option maxRecDepth 100000 in
set_option maxHeartbeats 4000000 in
theorem t_X3_clear_33 {d : Nat} {b0 : Nat} {x1 : Int32} {M : zMem} {K : zK} (h0 : b0 ∈ iX3)
    (T : (4 ≤ x1 → (∀ M22 : zMem, M22 = wI M b0 4 0 → (∀ M24 : zMem, M24 = wI M22 b0 5 0 → (∀ M26 : zMem, M26 = wI M24 b0 6 0 → K none M26)))) ∧ (¬ (4 ≤ x1) → vp_in x1 4 ∧ ((∀ M29 : zMem, M29 = wI M (b0 + 3) (Int32.toNatClampNeg x1) 0 → vp_in x1 4 ∧ ((∀ M32 : zMem, M32 = wI M29 (b0 + 4) (Int32.toNatClampNeg x1) 0 → S_X3_clear_33 d b0 (x1 + 1) M32 K)))))) : S_X3_clear_33 d b0 x1 M K := by
  show zV m_X3_clear d 33 [(0, .ref b0), (1, .int x1)] [] M K
  refine zr_iload_n dX3_clear_33 rfl 1 rfl ?_
  refine zr_iconst (v := 4) dX3_clear_34 (by decide) ?_
  refine zr_icmp_ge (tgt := 58) dX3_clear_35 (by decide) (fun h21 => ?_) (fun h21 => ?_)
  · have T := T.1 h21
    refine zr_aload_n dX3_clear_58 rfl 0 rfl ?_
    refine zr_iconst (v := 0) dX3_clear_59 (by decide) ?_
    refine zn_puti dX3_clear_60 f_X3_24 (oX3 _ h0) (by decide) (by decide) (fun M22 e23 => ?_)
    have T := T M22 e23
    refine zr_aload_n dX3_clear_63 rfl 0 rfl ?_
    refine zr_iconst (v := 0) dX3_clear_64 (by decide) ?_
    refine zn_puti dX3_clear_65 f_X3_28 (oX3 _ h0) (by decide) (by decide) (fun M24 e25 => ?_)
    have T := T M24 e25
    refine zr_aload_n dX3_clear_68 rfl 0 rfl ?_
    refine zr_iconst (v := 0) dX3_clear_69 (by decide) ?_
    refine zn_puti dX3_clear_70 f_X3_31 (oX3 _ h0) (by decide) (by decide) (fun M26 e27 => ?_)
    have T := T M26 e27
    exact zm_vret dX3_clear_73 rfl T
  · have T := T.2 h21
    refine zr_aload_n dX3_clear_38 rfl 0 rfl ?_
    refine zm_getr (a := b0 + 3) dX3_clear_39 f_X3_18 (oX3 _ h0) (by decide) (by decide) (rX3_2 _ h0) ?_
    refine zr_iload_n dX3_clear_42 rfl 1 rfl ?_
    refine zr_iconst (v := 0) dX3_clear_43 (by decide) ?_
    obtain ⟨hq28, T⟩ := T
    refine zn_iast (n := 4) (o := (Int32.toNatClampNeg x1)) dX3_clear_44 (aX _ (qX3_2 _ h0)) (lX _ (qX3_2 _ h0)) hq28 rfl (fun M29 e30 => ?_)
    have T := T M29 e30
    refine zr_aload_n dX3_clear_45 rfl 0 rfl ?_
    refine zm_getr (a := b0 + 4) dX3_clear_46 f_X3_21 (oX3 _ h0) (by decide) (by decide) (rX3_3 _ h0) ?_
    refine zr_iload_n dX3_clear_49 rfl 1 rfl ?_
    refine zr_iconst (v := 0) dX3_clear_50 (by decide) ?_
    obtain ⟨hq31, T⟩ := T
    refine zn_iast (n := 4) (o := (Int32.toNatClampNeg x1)) dX3_clear_51 (aX _ (qX3_3 _ h0)) (lX _ (qX3_3 _ h0)) hq31 rfl (fun M32 e33 => ?_)
    have T := T M32 e33
    refine zr_iinc (n := 1) (v := x1 + 1) dX3_clear_52 rfl rfl (by decide) (L2 := [(1, .int (x1 + 1)), (0, .ref b0)]) rfl ?_
    refine zr_goto (tgt := 33) dX3_clear_55 (by decide) ?_
    exact zV.pick [1, 0] rfl T
set_option maxRecDepth 100000 in
set_option maxHeartbeats 4000000 in
theorem t_X5_isTold {d : Nat} {b0 : Nat} {w1 : Int64} {M : zMem} {K : zK} (h0 : b0 ∈ iX5)
    (T : S_X5_indexOf d (b0 + 1) (M.1 b0 3) w1 M (zI (fun r21 M22 => (¬ r21 = (-1) → K (some (.int 1)) M22) ∧ (r21 = (-1) → S_X5_indexOf d (b0 + 2) (M22.1 b0 4) w1 M22 (zI (fun r24 M25 => (r24 = (-1) → K (some (.int 0)) M25) ∧ (¬ (r24 = (-1)) → K (some (.int 1)) M25))))))) : S_X5_isTold (d + 1) b0 w1 M K := by
  show zV m_X5_isTold (d + 1) 0 [(0, .ref b0), (1, .long w1)] [] M K
  refine zr_aload_n dX5_isTold_0 rfl 0 rfl ?_
  refine zm_getr (a := b0 + 1) dX5_isTold_1 f_X5_27 (oX5 _ h0) (by decide) (by decide) (rX5_5 _ h0) ?_
  refine zr_aload_n dX5_isTold_4 rfl 0 rfl ?_
  refine zm_geti dX5_isTold_5 f_X5_21 (oX5 _ h0) (by decide) (by decide) ?_
  refine zr_lload_n dX5_isTold_8 rfl 1 rfl ?_
  refine zm_callS_i dX5_isTold_9 w_X5_indexOf l_X5_53 s_X5_indexOf [.ref (b0 + 1), .int (M.1 b0 3), .long w1] rfl rfl (Nat.le_of_ble_eq_true rfl) (Nat.le_of_ble_eq_true rfl) ?_
  refine zV.post T ?_
  rintro v M22 ⟨r21, rfl, T⟩
  refine ⟨r21, rfl, ?_⟩
  refine zr_iconst (v := (-1)) dX5_isTold_12 (by decide) ?_
  refine zr_icmp_ne (tgt := 32) dX5_isTold_13 (by decide) (fun h23 => ?_) (fun h23 => ?_)
  · have T := T.1 h23
    refine zr_iconst (v := 1) dX5_isTold_32 (by decide) ?_
    refine zr_goto (tgt := 37) dX5_isTold_33 (by decide) ?_
    exact zm_zret dX5_isTold_37 rfl (by decide) T
  · have T := T.2 h23
    refine zr_aload_n dX5_isTold_16 rfl 0 rfl ?_
    refine zm_getr (a := b0 + 2) dX5_isTold_17 f_X5_31 (oX5 _ h0) (by decide) (by decide) (rX5_6 _ h0) ?_
    refine zr_aload_n dX5_isTold_20 rfl 0 rfl ?_
    refine zm_geti dX5_isTold_21 f_X5_24 (oX5 _ h0) (by decide) (by decide) ?_
    refine zr_lload_n dX5_isTold_24 rfl 1 rfl ?_
    refine zm_callS_i dX5_isTold_25 w_X5_indexOf l_X5_53 s_X5_indexOf [.ref (b0 + 2), .int (M22.1 b0 4), .long w1] rfl rfl (Nat.le_of_ble_eq_true rfl) (Nat.le_of_ble_eq_true rfl) ?_
    refine zV.post T ?_
    rintro v M25 ⟨r24, rfl, T⟩
    refine ⟨r24, rfl, ?_⟩
    refine zr_iconst (v := (-1)) dX5_isTold_28 (by decide) ?_
    refine zr_icmp_eq (tgt := 36) dX5_isTold_29 (by decide) (fun h26 => ?_) (fun h26 => ?_)
    · have T := T.1 h26
      refine zr_iconst (v := 0) dX5_isTold_36 (by decide) ?_
      exact zm_zret dX5_isTold_37 rfl (by decide) T
    · have T := T.2 h26
      refine zr_iconst (v := 1) dX5_isTold_32 (by decide) ?_
      refine zr_goto (tgt := 37) dX5_isTold_33 (by decide) ?_
      exact zm_zret dX5_isTold_37 rfl (by decide) T
set_option maxRecDepth 100000 in
set_option maxHeartbeats 4000000 in
theorem t_X5_indexOf {d : Nat} {b0 : Nat} {x1 : Int32} {w2 : Int64} {M : zMem} {K : zK} (h0 : zc b0 = 101 ∧ b0 < zN)
    (T : S_X5_indexOf_3 d b0 x1 w2 0 M K) : S_X5_indexOf d b0 x1 w2 M K := by
  show zV m_X5_indexOf d 0 [(0, .ref b0), (1, .int x1), (2, .long w2)] [] M K
  refine zr_iconst (v := 0) dX5_indexOf_0 (by decide) ?_
  refine zr_istore dX5_indexOf_1 (by decide) (L2 := [(4, .int 0), (0, .ref b0), (1, .int x1), (2, .long w2)]) rfl ?_
  exact zV.pick [1, 2, 3, 0] rfl T
set_option maxRecDepth 100000 in
set_option maxHeartbeats 4000000 in
theorem t_X5_indexOf_3 {d : Nat} {b0 : Nat} {x1 : Int32} {w2 : Int64} {x4 : Int32} {M : zMem} {K : zK} (h0 : zc b0 = 101 ∧ b0 < zN)
    (T : (x1 ≤ x4 → K (some (.int (-1))) M) ∧ (¬ (x1 ≤ x4) → ((nI (zl b0)) ≤ x4 → K (some (.int (-1))) M) ∧ (¬ ((nI (zl b0)) ≤ x4) → vp_in x4 (zl b0) ∧ ((¬ (lg_cmp (M.2 b0 (Int32.toNatClampNeg x4)) w2) = 0 → S_X5_indexOf_3 d b0 x1 w2 (x4 + 1) M K) ∧ ((lg_cmp (M.2 b0 (Int32.toNatClampNeg x4)) w2) = 0 → K (some (.int x4)) M))))) : S_X5_indexOf_3 d b0 x1 w2 x4 M K := by
  show zV m_X5_indexOf d 3 [(0, .ref b0), (1, .int x1), (2, .long w2), (4, .int x4)] [] M K
  refine zr_iload dX5_indexOf_3 3 rfl ?_
  refine zr_iload_n dX5_indexOf_5 rfl 1 rfl ?_
  refine zr_icmp_ge (tgt := 34) dX5_indexOf_6 (by decide) (fun h21 => ?_) (fun h21 => ?_)
  · have T := T.1 h21
    refine zr_iconst (v := (-1)) dX5_indexOf_34 (by decide) ?_
    exact zm_iret dX5_indexOf_35 rfl T
  · have T := T.2 h21
    refine zr_iload dX5_indexOf_9 3 rfl ?_
    refine zr_aload_n dX5_indexOf_11 rfl 0 rfl ?_
    refine zm_alen (t := 1) (v := nI (zl b0)) dX5_indexOf_12 h0 (by decide) rfl ?_
    refine zr_icmp_ge (tgt := 34) dX5_indexOf_13 (by decide) (fun h22 => ?_) (fun h22 => ?_)
    · have T := T.1 h22
      refine zr_iconst (v := (-1)) dX5_indexOf_34 (by decide) ?_
      exact zm_iret dX5_indexOf_35 rfl T
    · have T := T.2 h22
      refine zr_aload_n dX5_indexOf_16 rfl 0 rfl ?_
      refine zr_iload dX5_indexOf_17 3 rfl ?_
      obtain ⟨hq23, T⟩ := T
      refine zm_lald (n := zl b0) (o := (Int32.toNatClampNeg x4)) dX5_indexOf_19 h0 rfl hq23 rfl ?_
      refine zr_lload_n dX5_indexOf_20 rfl 2 rfl ?_
      refine zr_lcmp dX5_indexOf_21 ?_
      refine zr_if_ne (tgt := 28) dX5_indexOf_22 (by decide) (fun h24 => ?_) (fun h24 => ?_)
      · have T := T.1 h24
        refine zr_iinc (n := 3) (v := x4 + 1) dX5_indexOf_28 rfl rfl (by decide) (L2 := [(4, .int (x4 + 1)), (0, .ref b0), (1, .int x1), (2, .long w2)]) rfl ?_
        refine zr_goto (tgt := 3) dX5_indexOf_31 (by decide) ?_
        exact zV.pick [1, 2, 3, 0] rfl T
      · have T := T.2 h24
        refine zr_iload dX5_indexOf_25 3 rfl ?_
        exact zm_iret dX5_indexOf_27 rfl T
set_option maxRecDepth 100000 in
set_option maxHeartbeats 4000000 in
theorem t_X5_peerNamed {d : Nat} {b0 : Nat} {w1 : Int64} {M : zMem} {K : zK} (h0 : b0 ∈ iX5)
    (T : S_X5_indexOf d (b0 + 2) (M.1 b0 4) w1 M (zI (fun r21 M22 => K (some (.int r21)) M22))) : S_X5_peerNamed (d + 1) b0 w1 M K := by
  show zV m_X5_peerNamed (d + 1) 0 [(0, .ref b0), (1, .long w1)] [] M K
  refine zr_aload_n dX5_peerNamed_0 rfl 0 rfl ?_
  refine zm_getr (a := b0 + 2) dX5_peerNamed_1 f_X5_31 (oX5 _ h0) (by decide) (by decide) (rX5_6 _ h0) ?_
  refine zr_aload_n dX5_peerNamed_4 rfl 0 rfl ?_
  refine zm_geti dX5_peerNamed_5 f_X5_24 (oX5 _ h0) (by decide) (by decide) ?_
  refine zr_lload_n dX5_peerNamed_8 rfl 1 rfl ?_
  refine zm_callS_i dX5_peerNamed_9 w_X5_indexOf l_X5_53 s_X5_indexOf [.ref (b0 + 2), .int (M.1 b0 4), .long w1] rfl rfl (Nat.le_of_ble_eq_true rfl) (Nat.le_of_ble_eq_true rfl) ?_
  refine zV.post T ?_
  rintro v M22 ⟨r21, rfl, T⟩
  refine ⟨r21, rfl, ?_⟩
  exact zm_iret dX5_peerNamed_12 rfl T
set_option maxRecDepth 100000 in
set_option maxHeartbeats 4000000 in
theorem t_X5_keyNamed {d : Nat} {b0 : Nat} {w1 : Int64} {M : zMem} {K : zK} (h0 : b0 ∈ iX5)
    (T : S_X5_indexOf d (b0 + 1) (M.1 b0 3) w1 M (zI (fun r21 M22 => K (some (.int r21)) M22))) : S_X5_keyNamed (d + 1) b0 w1 M K := by
  show zV m_X5_keyNamed (d + 1) 0 [(0, .ref b0), (1, .long w1)] [] M K
  refine zr_aload_n dX5_keyNamed_0 rfl 0 rfl ?_
  refine zm_getr (a := b0 + 1) dX5_keyNamed_1 f_X5_27 (oX5 _ h0) (by decide) (by decide) (rX5_5 _ h0) ?_
  refine zr_aload_n dX5_keyNamed_4 rfl 0 rfl ?_
  refine zm_geti dX5_keyNamed_5 f_X5_21 (oX5 _ h0) (by decide) (by decide) ?_
  refine zr_lload_n dX5_keyNamed_8 rfl 1 rfl ?_
  refine zm_callS_i dX5_keyNamed_9 w_X5_indexOf l_X5_53 s_X5_indexOf [.ref (b0 + 1), .int (M.1 b0 3), .long w1] rfl rfl (Nat.le_of_ble_eq_true rfl) (Nat.le_of_ble_eq_true rfl) ?_
  refine zV.post T ?_
  rintro v M22 ⟨r21, rfl, T⟩
  refine ⟨r21, rfl, ?_⟩
  exact zm_iret dX5_keyNamed_12 rfl T
set_option maxRecDepth 100000 in
set_option maxHeartbeats 4000000 in
theorem t_X3_has {d : Nat} {b0 : Nat} {x1 : Int32} {x2 : Int32} {M : zMem} {K : zK} (h0 : b0 ∈ iX3)
    (T : vp_in ((x1 * 24) + x2) 96 ∧ (((M.1 (b0 + 2) (Int32.toNatClampNeg ((x1 * 24) + x2))) ≤ 0 → K (some (.int 0)) M) ∧ (¬ ((M.1 (b0 + 2) (Int32.toNatClampNeg ((x1 * 24) + x2))) ≤ 0) → K (some (.int 1)) M))) : S_X3_has d b0 x1 x2 M K := by
  show zV m_X3_has d 0 [(0, .ref b0), (1, .int x1), (2, .int x2)] [] M K
  refine zr_aload_n dX3_has_0 rfl 0 rfl ?_
  refine zm_getr (a := b0 + 2) dX3_has_1 f_X3_15 (oX3 _ h0) (by decide) (by decide) (rX3_1 _ h0) ?_
  refine zr_iload_n dX3_has_4 rfl 1 rfl ?_
  refine zr_bipush (v := 24) dX3_has_5 (by decide) ?_
  refine zr_imul dX3_has_7 ?_
  refine zr_iload_n dX3_has_8 rfl 2 rfl ?_
  refine zr_iadd dX3_has_9 ?_
  obtain ⟨hq21, T⟩ := T
  refine zm_iald (n := 96) (o := (Int32.toNatClampNeg ((x1 * 24) + x2))) dX3_has_10 (aX _ (qX3_1 _ h0)) (lX _ (qX3_1 _ h0)) hq21 rfl ?_
  refine zr_if_le (tgt := 18) dX3_has_11 (by decide) (fun h22 => ?_) (fun h22 => ?_)
  · have T := T.1 h22
    refine zr_iconst (v := 0) dX3_has_18 (by decide) ?_
    exact zm_zret dX3_has_19 rfl (by decide) T
  · have T := T.2 h22
    refine zr_iconst (v := 1) dX3_has_14 (by decide) ?_
    refine zr_goto (tgt := 19) dX3_has_15 (by decide) ?_
    exact zm_zret dX3_has_19 rfl (by decide) T
set_option maxRecDepth 100000 in
set_option maxHeartbeats 4000000 in
theorem t_X3_write {d : Nat} {b0 : Nat} {x1 : Int32} {x2 : Int32} {x3 : Int32} {M : zMem} {K : zK} (h0 : b0 ∈ iX3)
    (T : (∀ M21 : zMem, M21 = wI M b0 6 ((M.1 b0 6) + 1) → vp_in ((x1 * 24) + x2) 96 ∧ ((∀ M24 : zMem, M24 = wI M21 (b0 + 1) (Int32.toNatClampNeg ((x1 * 24) + x2)) x3 → vp_in ((x1 * 24) + x2) 96 ∧ ((∀ M27 : zMem, M27 = wI M24 (b0 + 2) (Int32.toNatClampNeg ((x1 * 24) + x2)) (M24.1 b0 6) → K none M27)))))) : S_X3_write d b0 x1 x2 x3 M K := by
  show zV m_X3_write d 0 [(0, .ref b0), (1, .int x1), (2, .int x2), (3, .int x3)] [] M K
  refine zr_aload_n dX3_write_0 rfl 0 rfl ?_
  refine zr_dup dX3_write_1 rfl ?_
  refine zm_geti dX3_write_2 f_X3_31 (oX3 _ h0) (by decide) (by decide) ?_
  refine zr_iconst (v := 1) dX3_write_5 (by decide) ?_
  refine zr_iadd dX3_write_6 ?_
  refine zn_puti dX3_write_7 f_X3_31 (oX3 _ h0) (by decide) (by decide) (fun M21 e22 => ?_)
  have T := T M21 e22
  refine zr_aload_n dX3_write_10 rfl 0 rfl ?_
  refine zm_getr (a := b0 + 1) dX3_write_11 f_X3_9 (oX3 _ h0) (by decide) (by decide) (rX3_0 _ h0) ?_
  refine zr_iload_n dX3_write_14 rfl 1 rfl ?_
  refine zr_bipush (v := 24) dX3_write_15 (by decide) ?_
  refine zr_imul dX3_write_17 ?_
  refine zr_iload_n dX3_write_18 rfl 2 rfl ?_
  refine zr_iadd dX3_write_19 ?_
  refine zr_iload_n dX3_write_20 rfl 3 rfl ?_
  obtain ⟨hq23, T⟩ := T
  refine zn_iast (n := 96) (o := (Int32.toNatClampNeg ((x1 * 24) + x2))) dX3_write_21 (aX _ (qX3_0 _ h0)) (lX _ (qX3_0 _ h0)) hq23 rfl (fun M24 e25 => ?_)
  have T := T M24 e25
  refine zr_aload_n dX3_write_22 rfl 0 rfl ?_
  refine zm_getr (a := b0 + 2) dX3_write_23 f_X3_15 (oX3 _ h0) (by decide) (by decide) (rX3_1 _ h0) ?_
  refine zr_iload_n dX3_write_26 rfl 1 rfl ?_
  refine zr_bipush (v := 24) dX3_write_27 (by decide) ?_
  refine zr_imul dX3_write_29 ?_
  refine zr_iload_n dX3_write_30 rfl 2 rfl ?_
  refine zr_iadd dX3_write_31 ?_
  refine zr_aload_n dX3_write_32 rfl 0 rfl ?_
  refine zm_geti dX3_write_33 f_X3_31 (oX3 _ h0) (by decide) (by decide) ?_
  obtain ⟨hq26, T⟩ := T
  refine zn_iast (n := 96) (o := (Int32.toNatClampNeg ((x1 * 24) + x2))) dX3_write_36 (aX _ (qX3_1 _ h0)) (lX _ (qX3_1 _ h0)) hq26 rfl (fun M27 e28 => ?_)
  have T := T M27 e28
  exact zm_vret dX3_write_37 rfl T
set_option maxRecDepth 100000 in
set_option maxHeartbeats 4000000 in
theorem t_X3_areCut {d : Nat} {b0 : Nat} {x1 : Int32} {x2 : Int32} {M : zMem} {K : zK} (h0 : b0 ∈ iX3)
    (T : vp_in x1 4 ∧ (((((Int32.toUInt32 (M.1 (b0 + 3) (Int32.toNatClampNeg x1)) >>> (Int32.toUInt32 x2 &&& Int32.toUInt32 31)).toInt32) &&& 1) = 0 → K (some (.int 0)) M) ∧ (¬ ((((Int32.toUInt32 (M.1 (b0 + 3) (Int32.toNatClampNeg x1)) >>> (Int32.toUInt32 x2 &&& Int32.toUInt32 31)).toInt32) &&& 1) = 0) → K (some (.int 1)) M))) : S_X3_areCut d b0 x1 x2 M K := by
  show zV m_X3_areCut d 0 [(0, .ref b0), (1, .int x1), (2, .int x2)] [] M K
  refine zr_aload_n dX3_areCut_0 rfl 0 rfl ?_
  refine zm_getr (a := b0 + 3) dX3_areCut_1 f_X3_18 (oX3 _ h0) (by decide) (by decide) (rX3_2 _ h0) ?_
  refine zr_iload_n dX3_areCut_4 rfl 1 rfl ?_
  obtain ⟨hq21, T⟩ := T
  refine zm_iald (n := 4) (o := (Int32.toNatClampNeg x1)) dX3_areCut_5 (aX _ (qX3_2 _ h0)) (lX _ (qX3_2 _ h0)) hq21 rfl ?_
  refine zr_iload_n dX3_areCut_6 rfl 2 rfl ?_
  refine zr_iushr dX3_areCut_7 ?_
  refine zr_iconst (v := 1) dX3_areCut_8 (by decide) ?_
  refine zr_iand dX3_areCut_9 ?_
  refine zr_if_eq (tgt := 17) dX3_areCut_10 (by decide) (fun h22 => ?_) (fun h22 => ?_)
  · have T := T.1 h22
    refine zr_iconst (v := 0) dX3_areCut_17 (by decide) ?_
    exact zm_zret dX3_areCut_18 rfl (by decide) T
  · have T := T.2 h22
    refine zr_iconst (v := 1) dX3_areCut_13 (by decide) ?_
    refine zr_goto (tgt := 18) dX3_areCut_14 (by decide) ?_
    exact zm_zret dX3_areCut_18 rfl (by decide) T
set_option maxRecDepth 100000 in
set_option maxHeartbeats 4000000 in
theorem t_X3_turnLink {d : Nat} {b0 : Nat} {x1 : Int32} {x2 : Int32} {M : zMem} {K : zK} (h0 : b0 ∈ iX3)
    (T : vp_in x1 4 ∧ (vp_in x1 4 ∧ ((∀ M23 : zMem, M23 = wI M (b0 + 3) (Int32.toNatClampNeg x1) ((M.1 (b0 + 3) (Int32.toNatClampNeg x1)) ^^^ ((1 : Int32) <<< (x2 &&& 31))) → vp_in x2 4 ∧ (vp_in x2 4 ∧ ((∀ M27 : zMem, M27 = wI M23 (b0 + 3) (Int32.toNatClampNeg x2) ((M23.1 (b0 + 3) (Int32.toNatClampNeg x2)) ^^^ ((1 : Int32) <<< (x1 &&& 31))) → K none M27))))))) : S_X3_turnLink d b0 x1 x2 M K := by
  show zV m_X3_turnLink d 0 [(0, .ref b0), (1, .int x1), (2, .int x2)] [] M K
  refine zr_aload_n dX3_turnLink_0 rfl 0 rfl ?_
  refine zm_getr (a := b0 + 3) dX3_turnLink_1 f_X3_18 (oX3 _ h0) (by decide) (by decide) (rX3_2 _ h0) ?_
  refine zr_iload_n dX3_turnLink_4 rfl 1 rfl ?_
  refine zr_dup2 dX3_turnLink_5 rfl rfl ?_
  obtain ⟨hq21, T⟩ := T
  refine zm_iald (n := 4) (o := (Int32.toNatClampNeg x1)) dX3_turnLink_6 (aX _ (qX3_2 _ h0)) (lX _ (qX3_2 _ h0)) hq21 rfl ?_
  refine zr_iconst (v := 1) dX3_turnLink_7 (by decide) ?_
  refine zr_iload_n dX3_turnLink_8 rfl 2 rfl ?_
  refine zr_ishl dX3_turnLink_9 ?_
  refine zr_ixor dX3_turnLink_10 ?_
  obtain ⟨hq22, T⟩ := T
  refine zn_iast (n := 4) (o := (Int32.toNatClampNeg x1)) dX3_turnLink_11 (aX _ (qX3_2 _ h0)) (lX _ (qX3_2 _ h0)) hq22 rfl (fun M23 e24 => ?_)
  have T := T M23 e24
  refine zr_aload_n dX3_turnLink_12 rfl 0 rfl ?_
  refine zm_getr (a := b0 + 3) dX3_turnLink_13 f_X3_18 (oX3 _ h0) (by decide) (by decide) (rX3_2 _ h0) ?_
  refine zr_iload_n dX3_turnLink_16 rfl 2 rfl ?_
  refine zr_dup2 dX3_turnLink_17 rfl rfl ?_
  obtain ⟨hq25, T⟩ := T
  refine zm_iald (n := 4) (o := (Int32.toNatClampNeg x2)) dX3_turnLink_18 (aX _ (qX3_2 _ h0)) (lX _ (qX3_2 _ h0)) hq25 rfl ?_
  refine zr_iconst (v := 1) dX3_turnLink_19 (by decide) ?_
  refine zr_iload_n dX3_turnLink_20 rfl 1 rfl ?_
  refine zr_ishl dX3_turnLink_21 ?_
  refine zr_ixor dX3_turnLink_22 ?_
  obtain ⟨hq26, T⟩ := T
  refine zn_iast (n := 4) (o := (Int32.toNatClampNeg x2)) dX3_turnLink_23 (aX _ (qX3_2 _ h0)) (lX _ (qX3_2 _ h0)) hq26 rfl (fun M27 e28 => ?_)
  have T := T M27 e28
  exact zm_vret dX3_turnLink_24 rfl T
set_option maxRecDepth 100000 in
set_option maxHeartbeats 4000000 in
theorem t_X5_settle {d : Nat} {b0 : Nat} {M : zMem} {K : zK} (h0 : b0 ∈ iX5)
    (T : S_X5_settle_2 (d + 1) b0 0 M K) : S_X5_settle (d + 1) b0 M K := by
  show zV m_X5_settle (d + 1) 0 [(0, .ref b0)] [] M K
  refine zr_iconst (v := 0) dX5_settle_0 (by decide) ?_
  refine zr_istore_n dX5_settle_1 rfl (by decide) (L2 := [(1, .int 0), (0, .ref b0)]) rfl ?_
  exact zV.pick [1, 0] rfl T
set_option maxRecDepth 100000 in
set_option maxHeartbeats 4000000 in
theorem t_X5_settle_2 {d : Nat} {b0 : Nat} {x1 : Int32} {M : zMem} {K : zK} (h0 : b0 ∈ iX5)
    (T : ((M.1 b0 3) ≤ x1 → S_X5_settle_49 (d + 1) b0 0 M K) ∧ (¬ ((M.1 b0 3) ≤ x1) → vp_in x1 24 ∧ (S_X5_digestOf d (M.2 (b0 + 1) (Int32.toNatClampNeg x1)) M (zI (fun r23 M24 => vp_in x1 24 ∧ ((∀ M26 : zMem, M26 = wI M24 (b0 + 3) (Int32.toNatClampNeg x1) r23 → vp_in x1 24 ∧ (S_X5_levelOf d b0 (M26.1 (b0 + 3) (Int32.toNatClampNeg x1)) M26 (zI (fun r29 M30 => vp_in x1 24 ∧ ((∀ M32 : zMem, M32 = wI M30 (b0 + 4) (Int32.toNatClampNeg x1) r29 → S_X5_settle_2 (d + 1) b0 (x1 + 1) M32 K)))))))))))) : S_X5_settle_2 (d + 1) b0 x1 M K := by
  show zV m_X5_settle (d + 1) 2 [(0, .ref b0), (1, .int x1)] [] M K
  refine zr_iload_n dX5_settle_2 rfl 1 rfl ?_
  refine zr_aload_n dX5_settle_3 rfl 0 rfl ?_
  refine zm_geti dX5_settle_4 f_X5_21 (oX5 _ h0) (by decide) (by decide) ?_
  refine zr_icmp_ge (tgt := 47) dX5_settle_7 (by decide) (fun h21 => ?_) (fun h21 => ?_)
  · have T := T.1 h21
    refine zr_iconst (v := 0) dX5_settle_47 (by decide) ?_
    refine zr_istore_n dX5_settle_48 rfl (by decide) (L2 := [(1, .int 0), (0, .ref b0)]) rfl ?_
    exact zV.pick [1, 0] rfl T
  · have T := T.2 h21
    refine zr_aload_n dX5_settle_10 rfl 0 rfl ?_
    refine zm_getr (a := b0 + 3) dX5_settle_11 f_X5_34 (oX5 _ h0) (by decide) (by decide) (rX5_7 _ h0) ?_
    refine zr_iload_n dX5_settle_14 rfl 1 rfl ?_
    refine zr_aload_n dX5_settle_15 rfl 0 rfl ?_
    refine zm_getr (a := b0 + 1) dX5_settle_16 f_X5_27 (oX5 _ h0) (by decide) (by decide) (rX5_5 _ h0) ?_
    refine zr_iload_n dX5_settle_19 rfl 1 rfl ?_
    obtain ⟨hq22, T⟩ := T
    refine zm_lald (n := 24) (o := (Int32.toNatClampNeg x1)) dX5_settle_20 (aX _ (qX5_5 _ h0)) (lX _ (qX5_5 _ h0)) hq22 rfl ?_
    refine zm_callS_i dX5_settle_21 w_X5_digestOf l_X5_57 s_X5_digestOf [.long (M.2 (b0 + 1) (Int32.toNatClampNeg x1))] rfl rfl (Nat.le_of_ble_eq_true rfl) (Nat.le_of_ble_eq_true rfl) ?_
    refine zV.post T ?_
    rintro v M24 ⟨r23, rfl, T⟩
    refine ⟨r23, rfl, ?_⟩
    obtain ⟨hq25, T⟩ := T
    refine zn_iast (n := 24) (o := (Int32.toNatClampNeg x1)) dX5_settle_24 (aX _ (qX5_7 _ h0)) (lX _ (qX5_7 _ h0)) hq25 rfl (fun M26 e27 => ?_)
    have T := T M26 e27
    refine zr_aload_n dX5_settle_25 rfl 0 rfl ?_
    refine zm_getr (a := b0 + 4) dX5_settle_26 f_X5_38 (oX5 _ h0) (by decide) (by decide) (rX5_8 _ h0) ?_
    refine zr_iload_n dX5_settle_29 rfl 1 rfl ?_
    refine zr_aload_n dX5_settle_30 rfl 0 rfl ?_
    refine zr_aload_n dX5_settle_31 rfl 0 rfl ?_
    refine zm_getr (a := b0 + 3) dX5_settle_32 f_X5_34 (oX5 _ h0) (by decide) (by decide) (rX5_7 _ h0) ?_
    refine zr_iload_n dX5_settle_35 rfl 1 rfl ?_
    obtain ⟨hq28, T⟩ := T
    refine zm_iald (n := 24) (o := (Int32.toNatClampNeg x1)) dX5_settle_36 (aX _ (qX5_7 _ h0)) (lX _ (qX5_7 _ h0)) hq28 rfl ?_
    refine zm_callV_i (c := 5) (b := b0) dX5_settle_37 w_X5_levelOf l_X5_61 rfl (oX5 _ h0) (by decide) s_X5_levelOf [.int (M26.1 (b0 + 3) (Int32.toNatClampNeg x1))] rfl rfl (Nat.le_of_ble_eq_true rfl) (Nat.le_of_ble_eq_true rfl) ?_
    refine zV.post T ?_
    rintro v M30 ⟨r29, rfl, T⟩
    refine ⟨r29, rfl, ?_⟩
    obtain ⟨hq31, T⟩ := T
    refine zn_iast (n := 24) (o := (Int32.toNatClampNeg x1)) dX5_settle_40 (aX _ (qX5_8 _ h0)) (lX _ (qX5_8 _ h0)) hq31 rfl (fun M32 e33 => ?_)
    have T := T M32 e33
    refine zr_iinc (n := 1) (v := x1 + 1) dX5_settle_41 rfl rfl (by decide) (L2 := [(1, .int (x1 + 1)), (0, .ref b0)]) rfl ?_
    refine zr_goto (tgt := 2) dX5_settle_44 (by decide) ?_
    exact zV.pick [1, 0] rfl T
set_option maxRecDepth 100000 in
set_option maxHeartbeats 4000000 in
theorem t_X5_settle_49 {d : Nat} {b0 : Nat} {x1 : Int32} {M : zMem} {K : zK} (h0 : b0 ∈ iX5)
    (T : ((M.1 b0 3) ≤ x1 → K none M) ∧ (¬ ((M.1 b0 3) ≤ x1) → S_X5_settle_61 (d + 1) b0 x1 0 0 M K)) : S_X5_settle_49 (d + 1) b0 x1 M K := by
  show zV m_X5_settle (d + 1) 49 [(0, .ref b0), (1, .int x1)] [] M K
  refine zr_iload_n dX5_settle_49 rfl 1 rfl ?_
  refine zr_aload_n dX5_settle_50 rfl 0 rfl ?_
  refine zm_geti dX5_settle_51 f_X5_21 (oX5 _ h0) (by decide) (by decide) ?_
  refine zr_icmp_ge (tgt := 114) dX5_settle_54 (by decide) (fun h21 => ?_) (fun h21 => ?_)
  · have T := T.1 h21
    exact zm_vret dX5_settle_114 rfl T
  · have T := T.2 h21
    refine zr_iconst (v := 0) dX5_settle_57 (by decide) ?_
    refine zr_istore_n dX5_settle_58 rfl (by decide) (L2 := [(2, .int 0), (0, .ref b0), (1, .int x1)]) rfl ?_
    refine zr_iconst (v := 0) dX5_settle_59 (by decide) ?_
    refine zr_istore_n dX5_settle_60 rfl (by decide) (L2 := [(3, .int 0), (2, .int 0), (0, .ref b0), (1, .int x1)]) rfl ?_
    exact zV.pick [2, 3, 1, 0] rfl T
set_option maxRecDepth 100000 in
set_option maxHeartbeats 4000000 in
theorem t_X5_settle_61 {d : Nat} {b0 : Nat} {x1 : Int32} {x2 : Int32} {x3 : Int32} {M : zMem} {K : zK} (h0 : b0 ∈ iX5)
    (T : ((M.1 b0 3) ≤ x3 → vp_in x1 24 ∧ ((∀ M23 : zMem, M23 = wI M (b0 + 6) (Int32.toNatClampNeg x1) x2 → vp_in x2 24 ∧ ((∀ M26 : zMem, M26 = wI M23 (b0 + 5) (Int32.toNatClampNeg x2) x1 → S_X5_settle_49 (d + 1) b0 (x1 + 1) M26 K))))) ∧ (¬ ((M.1 b0 3) ≤ x3) → vp_in x3 24 ∧ (vp_in x1 24 ∧ ((0 ≤ (lg_cmp (M.2 (b0 + 1) (Int32.toNatClampNeg x3)) (M.2 (b0 + 1) (Int32.toNatClampNeg x1))) → S_X5_settle_61 (d + 1) b0 x1 x2 (x3 + 1) M K) ∧ (¬ (0 ≤ (lg_cmp (M.2 (b0 + 1) (Int32.toNatClampNeg x3)) (M.2 (b0 + 1) (Int32.toNatClampNeg x1)))) → S_X5_settle_61 (d + 1) b0 x1 (x2 + 1) (x3 + 1) M K))))) : S_X5_settle_61 (d + 1) b0 x1 x2 x3 M K := by
  show zV m_X5_settle (d + 1) 61 [(0, .ref b0), (1, .int x1), (2, .int x2), (3, .int x3)] [] M K
  refine zr_iload_n dX5_settle_61 rfl 3 rfl ?_
  refine zr_aload_n dX5_settle_62 rfl 0 rfl ?_
  refine zm_geti dX5_settle_63 f_X5_21 (oX5 _ h0) (by decide) (by decide) ?_
  refine zr_icmp_ge (tgt := 94) dX5_settle_66 (by decide) (fun h21 => ?_) (fun h21 => ?_)
  · have T := T.1 h21
    refine zr_aload_n dX5_settle_94 rfl 0 rfl ?_
    refine zm_getr (a := b0 + 6) dX5_settle_95 f_X5_44 (oX5 _ h0) (by decide) (by decide) (rX5_10 _ h0) ?_
    refine zr_iload_n dX5_settle_98 rfl 1 rfl ?_
    refine zr_iload_n dX5_settle_99 rfl 2 rfl ?_
    obtain ⟨hq22, T⟩ := T
    refine zn_iast (n := 24) (o := (Int32.toNatClampNeg x1)) dX5_settle_100 (aX _ (qX5_10 _ h0)) (lX _ (qX5_10 _ h0)) hq22 rfl (fun M23 e24 => ?_)
    have T := T M23 e24
    refine zr_aload_n dX5_settle_101 rfl 0 rfl ?_
    refine zm_getr (a := b0 + 5) dX5_settle_102 f_X5_41 (oX5 _ h0) (by decide) (by decide) (rX5_9 _ h0) ?_
    refine zr_iload_n dX5_settle_105 rfl 2 rfl ?_
    refine zr_iload_n dX5_settle_106 rfl 1 rfl ?_
    obtain ⟨hq25, T⟩ := T
    refine zn_iast (n := 24) (o := (Int32.toNatClampNeg x2)) dX5_settle_107 (aX _ (qX5_9 _ h0)) (lX _ (qX5_9 _ h0)) hq25 rfl (fun M26 e27 => ?_)
    have T := T M26 e27
    refine zr_iinc (n := 1) (v := x1 + 1) dX5_settle_108 rfl rfl (by decide) (L2 := [(1, .int (x1 + 1)), (0, .ref b0), (2, .int x2), (3, .int x3)]) rfl ?_
    refine zr_goto (tgt := 49) dX5_settle_111 (by decide) ?_
    exact zV.pick [1, 0] rfl T
  · have T := T.2 h21
    refine zr_aload_n dX5_settle_69 rfl 0 rfl ?_
    refine zm_getr (a := b0 + 1) dX5_settle_70 f_X5_27 (oX5 _ h0) (by decide) (by decide) (rX5_5 _ h0) ?_
    refine zr_iload_n dX5_settle_73 rfl 3 rfl ?_
    obtain ⟨hq28, T⟩ := T
    refine zm_lald (n := 24) (o := (Int32.toNatClampNeg x3)) dX5_settle_74 (aX _ (qX5_5 _ h0)) (lX _ (qX5_5 _ h0)) hq28 rfl ?_
    refine zr_aload_n dX5_settle_75 rfl 0 rfl ?_
    refine zm_getr (a := b0 + 1) dX5_settle_76 f_X5_27 (oX5 _ h0) (by decide) (by decide) (rX5_5 _ h0) ?_
    refine zr_iload_n dX5_settle_79 rfl 1 rfl ?_
    obtain ⟨hq29, T⟩ := T
    refine zm_lald (n := 24) (o := (Int32.toNatClampNeg x1)) dX5_settle_80 (aX _ (qX5_5 _ h0)) (lX _ (qX5_5 _ h0)) hq29 rfl ?_
    refine zr_lcmp dX5_settle_81 ?_
    refine zr_if_ge (tgt := 88) dX5_settle_82 (by decide) (fun h30 => ?_) (fun h30 => ?_)
    · have T := T.1 h30
      refine zr_iinc (n := 3) (v := x3 + 1) dX5_settle_88 rfl rfl (by decide) (L2 := [(3, .int (x3 + 1)), (0, .ref b0), (1, .int x1), (2, .int x2)]) rfl ?_
      refine zr_goto (tgt := 61) dX5_settle_91 (by decide) ?_
      exact zV.pick [1, 2, 3, 0] rfl T
    · have T := T.2 h30
      refine zr_iinc (n := 2) (v := x2 + 1) dX5_settle_85 rfl rfl (by decide) (L2 := [(2, .int (x2 + 1)), (0, .ref b0), (1, .int x1), (3, .int x3)]) rfl ?_
      refine zr_iinc (n := 3) (v := x3 + 1) dX5_settle_88 rfl rfl (by decide) (L2 := [(3, .int (x3 + 1)), (2, .int (x2 + 1)), (0, .ref b0), (1, .int x1)]) rfl ?_
      refine zr_goto (tgt := 61) dX5_settle_91 (by decide) ?_
      exact zV.pick [2, 3, 1, 0] rfl T
set_option maxRecDepth 100000 in
set_option maxHeartbeats 4000000 in
theorem t_X5_digestOf {d : Nat} {w0 : Int64} {M : zMem} {K : zK} 
    (T : S_X5_digestOf_5 (d + 1) w0 (-2128831035) 0 M K) : S_X5_digestOf (d + 1) w0 M K := by
  show zV m_X5_digestOf (d + 1) 0 [(0, .long w0)] [] M K
  refine zr_ldc (v := (-2128831035)) dX5_digestOf_0 k_X5_65 ?_
  refine zr_istore_n dX5_digestOf_2 rfl (by decide) (L2 := [(2, .int (-2128831035)), (0, .long w0)]) rfl ?_
  refine zr_iconst (v := 0) dX5_digestOf_3 (by decide) ?_
  refine zr_istore_n dX5_digestOf_4 rfl (by decide) (L2 := [(3, .int 0), (2, .int (-2128831035)), (0, .long w0)]) rfl ?_
  exact zV.pick [2, 1, 0] rfl T
set_option maxRecDepth 100000 in
set_option maxHeartbeats 4000000 in
theorem t_X5_digestOf_5 {d : Nat} {w0 : Int64} {x2 : Int32} {x3 : Int32} {M : zMem} {K : zK} 
    (T : (7 ≤ x3 → K (some (.int x2)) M) ∧ (¬ (7 ≤ x3) → S_X5_signOf d w0 x3 M (zI (fun r22 M23 => (r22 = 0 → S_X5_digestOf_5 (d + 1) w0 x2 (x3 + 1) M23 K) ∧ (¬ (r22 = 0) → S_X11_mix d x2 r22 M23 (zI (fun r25 M26 => S_X5_digestOf_5 (d + 1) w0 r25 (x3 + 1) M26 K))))))) : S_X5_digestOf_5 (d + 1) w0 x2 x3 M K := by
  show zV m_X5_digestOf (d + 1) 5 [(0, .long w0), (2, .int x2), (3, .int x3)] [] M K
  refine zr_iload_n dX5_digestOf_5 rfl 2 rfl ?_
  refine zr_bipush (v := 7) dX5_digestOf_6 (by decide) ?_
  refine zr_icmp_ge (tgt := 36) dX5_digestOf_8 (by decide) (fun h21 => ?_) (fun h21 => ?_)
  · have T := T.1 h21
    refine zr_iload_n dX5_digestOf_36 rfl 1 rfl ?_
    exact zm_iret dX5_digestOf_37 rfl T
  · have T := T.2 h21
    refine zr_lload_n dX5_digestOf_11 rfl 0 rfl ?_
    refine zr_iload_n dX5_digestOf_12 rfl 2 rfl ?_
    refine zm_callS_i dX5_digestOf_13 w_X5_signOf l_X5_66 s_X5_signOf [.long w0, .int x3] rfl rfl (Nat.le_of_ble_eq_true rfl) (Nat.le_of_ble_eq_true rfl) ?_
    refine zV.post T ?_
    rintro v M23 ⟨r22, rfl, T⟩
    refine ⟨r22, rfl, ?_⟩
    refine zr_istore dX5_digestOf_16 (by decide) (L2 := [(4, .int r22), (0, .long w0), (2, .int x2), (3, .int x3)]) rfl ?_
    refine zr_iload dX5_digestOf_18 0 rfl ?_
    refine zr_if_eq (tgt := 30) dX5_digestOf_20 (by decide) (fun h24 => ?_) (fun h24 => ?_)
    · have T := T.1 h24
      refine zr_iinc (n := 3) (v := x3 + 1) dX5_digestOf_30 rfl rfl (by decide) (L2 := [(3, .int (x3 + 1)), (4, .int r22), (0, .long w0), (2, .int x2)]) rfl ?_
      refine zr_goto (tgt := 5) dX5_digestOf_33 (by decide) ?_
      exact zV.pick [2, 3, 0] rfl T
    · have T := T.2 h24
      refine zr_iload_n dX5_digestOf_23 rfl 2 rfl ?_
      refine zr_iload dX5_digestOf_24 0 rfl ?_
      refine zm_callSN_i (host := RX11) dX5_digestOf_26 w_X11_mix n_X5_70 s_X11_mix [.int x2, .int r22] rfl rfl (Nat.le_of_ble_eq_true rfl) (Nat.le_of_ble_eq_true rfl) ?_
      refine zV.post T ?_
      rintro v M26 ⟨r25, rfl, T⟩
      refine ⟨r25, rfl, ?_⟩
      refine zr_istore_n dX5_digestOf_29 rfl (by decide) (L2 := [(2, .int r25), (4, .int r22), (0, .long w0), (3, .int x3)]) rfl ?_
      refine zr_iinc (n := 3) (v := x3 + 1) dX5_digestOf_30 rfl rfl (by decide) (L2 := [(3, .int (x3 + 1)), (2, .int r25), (4, .int r22), (0, .long w0)]) rfl ?_
      refine zr_goto (tgt := 5) dX5_digestOf_33 (by decide) ?_
      exact zV.pick [3, 1, 0] rfl T
set_option maxRecDepth 100000 in
set_option maxHeartbeats 4000000 in
theorem t_X5_signOf {d : Nat} {w0 : Int64} {x2 : Int32} {M : zMem} {K : zK} 
    (T : K (some (.int ((Int64.toInt32 ((Int64.toUInt64 w0 >>> ((Int32.toInt64 (8 * (6 - x2))).toUInt64 &&& Int64.toUInt64 63)).toInt64)) &&& 255))) M) : S_X5_signOf d w0 x2 M K := by
  show zV m_X5_signOf d 0 [(0, .long w0), (2, .int x2)] [] M K
  refine zr_lload_n dX5_signOf_0 rfl 0 rfl ?_
  refine zr_bipush (v := 8) dX5_signOf_1 (by decide) ?_
  refine zr_bipush (v := 6) dX5_signOf_3 (by decide) ?_
  refine zr_iload_n dX5_signOf_5 rfl 1 rfl ?_
  refine zr_isub dX5_signOf_6 ?_
  refine zr_imul dX5_signOf_7 ?_
  refine zr_lushr dX5_signOf_8 ?_
  refine zr_l2i dX5_signOf_9 ?_
  refine zr_sipush (v := 255) dX5_signOf_10 (by decide) ?_
  refine zr_iand dX5_signOf_13 ?_
  exact zm_iret dX5_signOf_14 rfl T
set_option maxRecDepth 100000 in
set_option maxHeartbeats 4000000 in
theorem t_X5_levelOf {d : Nat} {b0 : Nat} {x1 : Int32} {M : zMem} {K : zK} (h0 : b0 ∈ iX5)
    (T : S_X5_levelOf_2 d b0 x1 0 M K) : S_X5_levelOf d b0 x1 M K := by
  show zV m_X5_levelOf d 0 [(0, .ref b0), (1, .int x1)] [] M K
  refine zr_iconst (v := 0) dX5_levelOf_0 (by decide) ?_
  refine zr_istore_n dX5_levelOf_1 rfl (by decide) (L2 := [(2, .int 0), (0, .ref b0), (1, .int x1)]) rfl ?_
  exact zV.pick [1, 2, 0] rfl T
set_option maxRecDepth 100000 in
set_option maxHeartbeats 4000000 in
theorem t_X5_levelOf_2 {d : Nat} {b0 : Nat} {x1 : Int32} {x2 : Int32} {M : zMem} {K : zK} (h0 : b0 ∈ iX5)
    (T : (32 ≤ x2 → S_X5_levelOf_22 d b0 x2 M K) ∧ (¬ (32 ≤ x2) → (¬ (((Int32.toUInt32 x1 >>> (Int32.toUInt32 x2 &&& Int32.toUInt32 31)).toInt32) &&& 1) = 0 → S_X5_levelOf_22 d b0 x2 M K) ∧ ((((Int32.toUInt32 x1 >>> (Int32.toUInt32 x2 &&& Int32.toUInt32 31)).toInt32) &&& 1) = 0 → S_X5_levelOf_2 d b0 x1 (x2 + 1) M K))) : S_X5_levelOf_2 d b0 x1 x2 M K := by
  show zV m_X5_levelOf d 2 [(0, .ref b0), (1, .int x1), (2, .int x2)] [] M K
  refine zr_iload_n dX5_levelOf_2 rfl 2 rfl ?_
  refine zr_bipush (v := 32) dX5_levelOf_3 (by decide) ?_
  refine zr_icmp_ge (tgt := 22) dX5_levelOf_5 (by decide) (fun h21 => ?_) (fun h21 => ?_)
  · have T := T.1 h21
    exact zV.pick [0, 2] rfl T
  · have T := T.2 h21
    refine zr_iload_n dX5_levelOf_8 rfl 1 rfl ?_
    refine zr_iload_n dX5_levelOf_9 rfl 2 rfl ?_
    refine zr_iushr dX5_levelOf_10 ?_
    refine zr_iconst (v := 1) dX5_levelOf_11 (by decide) ?_
    refine zr_iand dX5_levelOf_12 ?_
    refine zr_if_ne (tgt := 22) dX5_levelOf_13 (by decide) (fun h22 => ?_) (fun h22 => ?_)
    · have T := T.1 h22
      exact zV.pick [0, 2] rfl T
    · have T := T.2 h22
      refine zr_iinc (n := 2) (v := x2 + 1) dX5_levelOf_16 rfl rfl (by decide) (L2 := [(2, .int (x2 + 1)), (0, .ref b0), (1, .int x1)]) rfl ?_
      refine zr_goto (tgt := 2) dX5_levelOf_19 (by decide) ?_
      exact zV.pick [1, 2, 0] rfl T
set_option maxRecDepth 100000 in
set_option maxHeartbeats 4000000 in
theorem t_X5_levelOf_22 {d : Nat} {b0 : Nat} {x2 : Int32} {M : zMem} {K : zK} (h0 : b0 ∈ iX5)
    (T : (1 ≤ (M.1 b0 0) → (¬ (M.1 b0 0) = 0) ∧ (K (some (.int (x2 / (M.1 b0 0)))) M)) ∧ (¬ (1 ≤ (M.1 b0 0)) → K (some (.int 0)) M)) : S_X5_levelOf_22 d b0 x2 M K := by
  show zV m_X5_levelOf d 22 [(0, .ref b0), (2, .int x2)] [] M K
  refine zr_aload_n dX5_levelOf_22 rfl 0 rfl ?_
  refine zm_geti dX5_levelOf_23 f_X5_9 (oX5 _ h0) (by decide) (by decide) ?_
  refine zr_iconst (v := 1) dX5_levelOf_26 (by decide) ?_
  refine zr_icmp_ge (tgt := 34) dX5_levelOf_27 (by decide) (fun h21 => ?_) (fun h21 => ?_)
  · have T := T.1 h21
    refine zr_iload_n dX5_levelOf_34 rfl 1 rfl ?_
    refine zr_aload_n dX5_levelOf_35 rfl 0 rfl ?_
    refine zm_geti dX5_levelOf_36 f_X5_9 (oX5 _ h0) (by decide) (by decide) ?_
    obtain ⟨hz22, T⟩ := T
    refine zr_idiv dX5_levelOf_39 hz22 ?_
    exact zm_iret dX5_levelOf_40 rfl T
  · have T := T.2 h21
    refine zr_iconst (v := 0) dX5_levelOf_30 (by decide) ?_
    refine zr_goto (tgt := 40) dX5_levelOf_31 (by decide) ?_
    exact zm_iret dX5_levelOf_40 rfl T
set_option maxRecDepth 100000 in
set_option maxHeartbeats 4000000 in
theorem t_X5_copyFrom {d : Nat} {b0 : Nat} {b1 : Nat} {M : zMem} {K : zK} (h0 : b0 ∈ iX5) (h1 : b1 ∈ iX5)
    (T : (∀ M21 : zMem, M21 = wI M b0 0 (M.1 b1 0) → (∀ M23 : zMem, M23 = wI M21 b0 1 (M21.1 b1 1) → (∀ M25 : zMem, M25 = wI M23 b0 2 (M23.1 b1 2) → (∀ M27 : zMem, M27 = wI M25 b0 3 (M25.1 b1 3) → (∀ M29 : zMem, M29 = wI M27 b0 4 (M27.1 b1 4) → (∀ M31 : zMem, M31 = cL M29 (b1 + 1) 0 (b0 + 1) 0 24 → (∀ M33 : zMem, M33 = cL M31 (b1 + 2) 0 (b0 + 2) 0 4 → (∀ M35 : zMem, M35 = cI M33 (b1 + 3) 0 (b0 + 3) 0 24 → (∀ M37 : zMem, M37 = cI M35 (b1 + 4) 0 (b0 + 4) 0 24 → (∀ M39 : zMem, M39 = cI M37 (b1 + 5) 0 (b0 + 5) 0 24 → (∀ M41 : zMem, M41 = cI M39 (b1 + 6) 0 (b0 + 6) 0 24 → K none M41)))))))))))) : S_X5_copyFrom (d + 1) b0 b1 M K := by
  show zV m_X5_copyFrom (d + 1) 0 [(0, .ref b0), (1, .ref b1)] [] M K
  refine zr_aload_n dX5_copyFrom_0 rfl 0 rfl ?_
  refine zr_aload_n dX5_copyFrom_1 rfl 1 rfl ?_
  refine zm_geti dX5_copyFrom_2 f_X5_9 (oX5 _ h1) (by decide) (by decide) ?_
  refine zn_puti dX5_copyFrom_5 f_X5_9 (oX5 _ h0) (by decide) (by decide) (fun M21 e22 => ?_)
  have T := T M21 e22
  refine zr_aload_n dX5_copyFrom_8 rfl 0 rfl ?_
  refine zr_aload_n dX5_copyFrom_9 rfl 1 rfl ?_
  refine zm_geti dX5_copyFrom_10 f_X5_15 (oX5 _ h1) (by decide) (by decide) ?_
  refine zn_puti dX5_copyFrom_13 f_X5_15 (oX5 _ h0) (by decide) (by decide) (fun M23 e24 => ?_)
  have T := T M23 e24
  refine zr_aload_n dX5_copyFrom_16 rfl 0 rfl ?_
  refine zr_aload_n dX5_copyFrom_17 rfl 1 rfl ?_
  refine zm_geti dX5_copyFrom_18 f_X5_18 (oX5 _ h1) (by decide) (by decide) ?_
  refine zn_puti dX5_copyFrom_21 f_X5_18 (oX5 _ h0) (by decide) (by decide) (fun M25 e26 => ?_)
  have T := T M25 e26
  refine zr_aload_n dX5_copyFrom_24 rfl 0 rfl ?_
  refine zr_aload_n dX5_copyFrom_25 rfl 1 rfl ?_
  refine zm_geti dX5_copyFrom_26 f_X5_21 (oX5 _ h1) (by decide) (by decide) ?_
  refine zn_puti dX5_copyFrom_29 f_X5_21 (oX5 _ h0) (by decide) (by decide) (fun M27 e28 => ?_)
  have T := T M27 e28
  refine zr_aload_n dX5_copyFrom_32 rfl 0 rfl ?_
  refine zr_aload_n dX5_copyFrom_33 rfl 1 rfl ?_
  refine zm_geti dX5_copyFrom_34 f_X5_24 (oX5 _ h1) (by decide) (by decide) ?_
  refine zn_puti dX5_copyFrom_37 f_X5_24 (oX5 _ h0) (by decide) (by decide) (fun M29 e30 => ?_)
  have T := T M29 e30
  refine zr_aload_n dX5_copyFrom_40 rfl 1 rfl ?_
  refine zm_getr (a := b1 + 1) dX5_copyFrom_41 f_X5_27 (oX5 _ h1) (by decide) (by decide) (rX5_5 _ h1) ?_
  refine zr_iconst (v := 0) dX5_copyFrom_44 (by decide) ?_
  refine zr_aload_n dX5_copyFrom_45 rfl 0 rfl ?_
  refine zm_getr (a := b0 + 1) dX5_copyFrom_46 f_X5_27 (oX5 _ h0) (by decide) (by decide) (rX5_5 _ h0) ?_
  refine zr_iconst (v := 0) dX5_copyFrom_49 (by decide) ?_
  refine zr_bipush (v := 24) dX5_copyFrom_50 (by decide) ?_
  refine zn_copyl (n0 := 24) (n1 := 24) (s1 := 0) (d1 := 0) (m1 := 24) dX5_copyFrom_52 l_X5_47 zcpw (aX _ (qX5_5 _ h1)) (lX _ (qX5_5 _ h1)) (aX _ (qX5_5 _ h0)) (lX _ (qX5_5 _ h0)) (by decide) (by decide) (by decide) (by decide) (Nat.le_of_ble_eq_true rfl) (fun M31 e32 => ?_)
  have T := T M31 e32
  refine zr_aload_n dX5_copyFrom_55 rfl 1 rfl ?_
  refine zm_getr (a := b1 + 2) dX5_copyFrom_56 f_X5_31 (oX5 _ h1) (by decide) (by decide) (rX5_6 _ h1) ?_
  refine zr_iconst (v := 0) dX5_copyFrom_59 (by decide) ?_
  refine zr_aload_n dX5_copyFrom_60 rfl 0 rfl ?_
  refine zm_getr (a := b0 + 2) dX5_copyFrom_61 f_X5_31 (oX5 _ h0) (by decide) (by decide) (rX5_6 _ h0) ?_
  refine zr_iconst (v := 0) dX5_copyFrom_64 (by decide) ?_
  refine zr_iconst (v := 4) dX5_copyFrom_65 (by decide) ?_
  refine zn_copyl (n0 := 4) (n1 := 4) (s1 := 0) (d1 := 0) (m1 := 4) dX5_copyFrom_66 l_X5_47 zcpw (aX _ (qX5_6 _ h1)) (lX _ (qX5_6 _ h1)) (aX _ (qX5_6 _ h0)) (lX _ (qX5_6 _ h0)) (by decide) (by decide) (by decide) (by decide) (Nat.le_of_ble_eq_true rfl) (fun M33 e34 => ?_)
  have T := T M33 e34
  refine zr_aload_n dX5_copyFrom_69 rfl 1 rfl ?_
  refine zm_getr (a := b1 + 3) dX5_copyFrom_70 f_X5_34 (oX5 _ h1) (by decide) (by decide) (rX5_7 _ h1) ?_
  refine zr_iconst (v := 0) dX5_copyFrom_73 (by decide) ?_
  refine zr_aload_n dX5_copyFrom_74 rfl 0 rfl ?_
  refine zm_getr (a := b0 + 3) dX5_copyFrom_75 f_X5_34 (oX5 _ h0) (by decide) (by decide) (rX5_7 _ h0) ?_
  refine zr_iconst (v := 0) dX5_copyFrom_78 (by decide) ?_
  refine zr_bipush (v := 24) dX5_copyFrom_79 (by decide) ?_
  refine zn_copyi (n0 := 24) (n1 := 24) (s1 := 0) (d1 := 0) (m1 := 24) dX5_copyFrom_81 l_X5_47 zcpw (aX _ (qX5_7 _ h1)) (lX _ (qX5_7 _ h1)) (aX _ (qX5_7 _ h0)) (lX _ (qX5_7 _ h0)) (by decide) (by decide) (by decide) (by decide) (Nat.le_of_ble_eq_true rfl) (fun M35 e36 => ?_)
  have T := T M35 e36
  refine zr_aload_n dX5_copyFrom_84 rfl 1 rfl ?_
  refine zm_getr (a := b1 + 4) dX5_copyFrom_85 f_X5_38 (oX5 _ h1) (by decide) (by decide) (rX5_8 _ h1) ?_
  refine zr_iconst (v := 0) dX5_copyFrom_88 (by decide) ?_
  refine zr_aload_n dX5_copyFrom_89 rfl 0 rfl ?_
  refine zm_getr (a := b0 + 4) dX5_copyFrom_90 f_X5_38 (oX5 _ h0) (by decide) (by decide) (rX5_8 _ h0) ?_
  refine zr_iconst (v := 0) dX5_copyFrom_93 (by decide) ?_
  refine zr_bipush (v := 24) dX5_copyFrom_94 (by decide) ?_
  refine zn_copyi (n0 := 24) (n1 := 24) (s1 := 0) (d1 := 0) (m1 := 24) dX5_copyFrom_96 l_X5_47 zcpw (aX _ (qX5_8 _ h1)) (lX _ (qX5_8 _ h1)) (aX _ (qX5_8 _ h0)) (lX _ (qX5_8 _ h0)) (by decide) (by decide) (by decide) (by decide) (Nat.le_of_ble_eq_true rfl) (fun M37 e38 => ?_)
  have T := T M37 e38
  refine zr_aload_n dX5_copyFrom_99 rfl 1 rfl ?_
  refine zm_getr (a := b1 + 5) dX5_copyFrom_100 f_X5_41 (oX5 _ h1) (by decide) (by decide) (rX5_9 _ h1) ?_
  refine zr_iconst (v := 0) dX5_copyFrom_103 (by decide) ?_
  refine zr_aload_n dX5_copyFrom_104 rfl 0 rfl ?_
  refine zm_getr (a := b0 + 5) dX5_copyFrom_105 f_X5_41 (oX5 _ h0) (by decide) (by decide) (rX5_9 _ h0) ?_
  refine zr_iconst (v := 0) dX5_copyFrom_108 (by decide) ?_
  refine zr_bipush (v := 24) dX5_copyFrom_109 (by decide) ?_
  refine zn_copyi (n0 := 24) (n1 := 24) (s1 := 0) (d1 := 0) (m1 := 24) dX5_copyFrom_111 l_X5_47 zcpw (aX _ (qX5_9 _ h1)) (lX _ (qX5_9 _ h1)) (aX _ (qX5_9 _ h0)) (lX _ (qX5_9 _ h0)) (by decide) (by decide) (by decide) (by decide) (Nat.le_of_ble_eq_true rfl) (fun M39 e40 => ?_)
  have T := T M39 e40
  refine zr_aload_n dX5_copyFrom_114 rfl 1 rfl ?_
  refine zm_getr (a := b1 + 6) dX5_copyFrom_115 f_X5_44 (oX5 _ h1) (by decide) (by decide) (rX5_10 _ h1) ?_
  refine zr_iconst (v := 0) dX5_copyFrom_118 (by decide) ?_
  refine zr_aload_n dX5_copyFrom_119 rfl 0 rfl ?_
  refine zm_getr (a := b0 + 6) dX5_copyFrom_120 f_X5_44 (oX5 _ h0) (by decide) (by decide) (rX5_10 _ h0) ?_
  refine zr_iconst (v := 0) dX5_copyFrom_123 (by decide) ?_
  refine zr_bipush (v := 24) dX5_copyFrom_124 (by decide) ?_
  refine zn_copyi (n0 := 24) (n1 := 24) (s1 := 0) (d1 := 0) (m1 := 24) dX5_copyFrom_126 l_X5_47 zcpw (aX _ (qX5_10 _ h1)) (lX _ (qX5_10 _ h1)) (aX _ (qX5_10 _ h0)) (lX _ (qX5_10 _ h0)) (by decide) (by decide) (by decide) (by decide) (Nat.le_of_ble_eq_true rfl) (fun M41 e42 => ?_)
  have T := T M41 e42
  exact zm_vret dX5_copyFrom_129 rfl T
set_option maxRecDepth 100000 in
set_option maxHeartbeats 4000000 in
theorem t_X3_copyFrom {d : Nat} {b0 : Nat} {b1 : Nat} {M : zMem} {K : zK} (h0 : b0 ∈ iX3) (h1 : b1 ∈ iX3)
    (T : (∀ M21 : zMem, M21 = cI M (b1 + 1) 0 (b0 + 1) 0 96 → (∀ M23 : zMem, M23 = cI M21 (b1 + 2) 0 (b0 + 2) 0 96 → (∀ M25 : zMem, M25 = cI M23 (b1 + 3) 0 (b0 + 3) 0 4 → (∀ M27 : zMem, M27 = cI M25 (b1 + 4) 0 (b0 + 4) 0 4 → (∀ M29 : zMem, M29 = wI M27 b0 4 (M27.1 b1 4) → (∀ M31 : zMem, M31 = wI M29 b0 5 (M29.1 b1 5) → (∀ M33 : zMem, M33 = wI M31 b0 6 (M31.1 b1 6) → K none M33)))))))) : S_X3_copyFrom (d + 1) b0 b1 M K := by
  show zV m_X3_copyFrom (d + 1) 0 [(0, .ref b0), (1, .ref b1)] [] M K
  refine zr_aload_n dX3_copyFrom_0 rfl 1 rfl ?_
  refine zm_getr (a := b1 + 1) dX3_copyFrom_1 f_X3_9 (oX3 _ h1) (by decide) (by decide) (rX3_0 _ h1) ?_
  refine zr_iconst (v := 0) dX3_copyFrom_4 (by decide) ?_
  refine zr_aload_n dX3_copyFrom_5 rfl 0 rfl ?_
  refine zm_getr (a := b0 + 1) dX3_copyFrom_6 f_X3_9 (oX3 _ h0) (by decide) (by decide) (rX3_0 _ h0) ?_
  refine zr_iconst (v := 0) dX3_copyFrom_9 (by decide) ?_
  refine zr_bipush (v := 96) dX3_copyFrom_10 (by decide) ?_
  refine zn_copyi (n0 := 96) (n1 := 96) (s1 := 0) (d1 := 0) (m1 := 96) dX3_copyFrom_12 l_X3_34 zcpw (aX _ (qX3_0 _ h1)) (lX _ (qX3_0 _ h1)) (aX _ (qX3_0 _ h0)) (lX _ (qX3_0 _ h0)) (by decide) (by decide) (by decide) (by decide) (Nat.le_of_ble_eq_true rfl) (fun M21 e22 => ?_)
  have T := T M21 e22
  refine zr_aload_n dX3_copyFrom_15 rfl 1 rfl ?_
  refine zm_getr (a := b1 + 2) dX3_copyFrom_16 f_X3_15 (oX3 _ h1) (by decide) (by decide) (rX3_1 _ h1) ?_
  refine zr_iconst (v := 0) dX3_copyFrom_19 (by decide) ?_
  refine zr_aload_n dX3_copyFrom_20 rfl 0 rfl ?_
  refine zm_getr (a := b0 + 2) dX3_copyFrom_21 f_X3_15 (oX3 _ h0) (by decide) (by decide) (rX3_1 _ h0) ?_
  refine zr_iconst (v := 0) dX3_copyFrom_24 (by decide) ?_
  refine zr_bipush (v := 96) dX3_copyFrom_25 (by decide) ?_
  refine zn_copyi (n0 := 96) (n1 := 96) (s1 := 0) (d1 := 0) (m1 := 96) dX3_copyFrom_27 l_X3_34 zcpw (aX _ (qX3_1 _ h1)) (lX _ (qX3_1 _ h1)) (aX _ (qX3_1 _ h0)) (lX _ (qX3_1 _ h0)) (by decide) (by decide) (by decide) (by decide) (Nat.le_of_ble_eq_true rfl) (fun M23 e24 => ?_)
  have T := T M23 e24
  refine zr_aload_n dX3_copyFrom_30 rfl 1 rfl ?_
  refine zm_getr (a := b1 + 3) dX3_copyFrom_31 f_X3_18 (oX3 _ h1) (by decide) (by decide) (rX3_2 _ h1) ?_
  refine zr_iconst (v := 0) dX3_copyFrom_34 (by decide) ?_
  refine zr_aload_n dX3_copyFrom_35 rfl 0 rfl ?_
  refine zm_getr (a := b0 + 3) dX3_copyFrom_36 f_X3_18 (oX3 _ h0) (by decide) (by decide) (rX3_2 _ h0) ?_
  refine zr_iconst (v := 0) dX3_copyFrom_39 (by decide) ?_
  refine zr_iconst (v := 4) dX3_copyFrom_40 (by decide) ?_
  refine zn_copyi (n0 := 4) (n1 := 4) (s1 := 0) (d1 := 0) (m1 := 4) dX3_copyFrom_41 l_X3_34 zcpw (aX _ (qX3_2 _ h1)) (lX _ (qX3_2 _ h1)) (aX _ (qX3_2 _ h0)) (lX _ (qX3_2 _ h0)) (by decide) (by decide) (by decide) (by decide) (Nat.le_of_ble_eq_true rfl) (fun M25 e26 => ?_)
  have T := T M25 e26
  refine zr_aload_n dX3_copyFrom_44 rfl 1 rfl ?_
  refine zm_getr (a := b1 + 4) dX3_copyFrom_45 f_X3_21 (oX3 _ h1) (by decide) (by decide) (rX3_3 _ h1) ?_
  refine zr_iconst (v := 0) dX3_copyFrom_48 (by decide) ?_
  refine zr_aload_n dX3_copyFrom_49 rfl 0 rfl ?_
  refine zm_getr (a := b0 + 4) dX3_copyFrom_50 f_X3_21 (oX3 _ h0) (by decide) (by decide) (rX3_3 _ h0) ?_
  refine zr_iconst (v := 0) dX3_copyFrom_53 (by decide) ?_
  refine zr_iconst (v := 4) dX3_copyFrom_54 (by decide) ?_
  refine zn_copyi (n0 := 4) (n1 := 4) (s1 := 0) (d1 := 0) (m1 := 4) dX3_copyFrom_55 l_X3_34 zcpw (aX _ (qX3_3 _ h1)) (lX _ (qX3_3 _ h1)) (aX _ (qX3_3 _ h0)) (lX _ (qX3_3 _ h0)) (by decide) (by decide) (by decide) (by decide) (Nat.le_of_ble_eq_true rfl) (fun M27 e28 => ?_)
  have T := T M27 e28
  refine zr_aload_n dX3_copyFrom_58 rfl 0 rfl ?_
  refine zr_aload_n dX3_copyFrom_59 rfl 1 rfl ?_
  refine zm_geti dX3_copyFrom_60 f_X3_24 (oX3 _ h1) (by decide) (by decide) ?_
  refine zn_puti dX3_copyFrom_63 f_X3_24 (oX3 _ h0) (by decide) (by decide) (fun M29 e30 => ?_)
  have T := T M29 e30
  refine zr_aload_n dX3_copyFrom_66 rfl 0 rfl ?_
  refine zr_aload_n dX3_copyFrom_67 rfl 1 rfl ?_
  refine zm_geti dX3_copyFrom_68 f_X3_28 (oX3 _ h1) (by decide) (by decide) ?_
  refine zn_puti dX3_copyFrom_71 f_X3_28 (oX3 _ h0) (by decide) (by decide) (fun M31 e32 => ?_)
  have T := T M31 e32
  refine zr_aload_n dX3_copyFrom_74 rfl 0 rfl ?_
  refine zr_aload_n dX3_copyFrom_75 rfl 1 rfl ?_
  refine zm_geti dX3_copyFrom_76 f_X3_31 (oX3 _ h1) (by decide) (by decide) ?_
  refine zn_puti dX3_copyFrom_79 f_X3_31 (oX3 _ h0) (by decide) (by decide) (fun M33 e34 => ?_)
  have T := T M33 e34
  exact zm_vret dX3_copyFrom_82 rfl T
set_option maxRecDepth 100000 in
set_option maxHeartbeats 4000000 in
theorem t_X9_grow {d : Nat} {b0 : Nat} {b1 : Nat} {b2 : Nat} {x3 : Int32} {M : zMem} {K : zK} (h0 : b0 ∈ iX9) (h1 : b1 ∈ iX5) (h2 : b2 ∈ iX3)
    (T : (∀ M21 : zMem, M21 = wI M b0 3 0 → (∀ M23 : zMem, M23 = wI M21 b0 12 0 → S_X9_grow_13 (d + 1) b0 b1 b2 x3 0 M23 K))) : S_X9_grow (d + 1) b0 b1 b2 x3 M K := by
  show zV m_X9_grow (d + 1) 0 [(0, .ref b0), (1, .ref b1), (2, .ref b2), (3, .int x3)] [] M K
  refine zr_aload_n dX9_grow_0 rfl 0 rfl ?_
  refine zr_iconst (v := 0) dX9_grow_1 (by decide) ?_
  refine zn_puti dX9_grow_2 f_X9_21 (oX9 _ h0) (by decide) (by decide) (fun M21 e22 => ?_)
  have T := T M21 e22
  refine zr_aload_n dX9_grow_5 rfl 0 rfl ?_
  refine zr_iconst (v := 0) dX9_grow_6 (by decide) ?_
  refine zn_puti dX9_grow_7 f_X9_49 (oX9 _ h0) (by decide) (by decide) (fun M23 e24 => ?_)
  have T := T M23 e24
  refine zr_iconst (v := 0) dX9_grow_10 (by decide) ?_
  refine zr_istore dX9_grow_11 (by decide) (L2 := [(4, .int 0), (0, .ref b0), (1, .ref b1), (2, .ref b2), (3, .int x3)]) rfl ?_
  exact zV.pick [1, 2, 3, 4, 0] rfl T
set_option maxRecDepth 100000 in
set_option maxHeartbeats 4000000 in
theorem t_X9_grow_13 {d : Nat} {b0 : Nat} {b1 : Nat} {b2 : Nat} {x3 : Int32} {x4 : Int32} {M : zMem} {K : zK} (h0 : b0 ∈ iX9) (h1 : b1 ∈ iX5) (h2 : b2 ∈ iX3)
    (T : ((M.1 b1 3) ≤ x4 → S_X9_growNode d b0 0 (M.1 b0 3) (-1) 0 M (zI (fun r22 M23 => K none M23))) ∧ (¬ ((M.1 b1 3) ≤ x4) → vp_in x4 24 ∧ (vp_in (M.1 (b1 + 5) (Int32.toNatClampNeg x4)) 24 ∧ ((∀ M26 : zMem, M26 = wI M (b0 + 11) (Int32.toNatClampNeg (M.1 (b1 + 5) (Int32.toNatClampNeg x4))) (-1) → S_X3_has d b2 x3 (M.1 (b1 + 5) (Int32.toNatClampNeg x4)) M26 (zB (fun r28 M29 => (r28 = false → S_X9_grow_13 (d + 1) b0 b1 b2 x3 (x4 + 1) M29 K) ∧ (r28 = true → vp_in (M29.1 b0 3) 24 ∧ ((∀ M32 : zMem, M32 = wI M29 (b0 + 1) (Int32.toNatClampNeg (M29.1 b0 3)) (M.1 (b1 + 5) (Int32.toNatClampNeg x4)) → vp_in (M.1 (b1 + 5) (Int32.toNatClampNeg x4)) 24 ∧ (vp_in (M32.1 b0 3) 24 ∧ ((∀ M36 : zMem, M36 = wI M32 (b0 + 2) (Int32.toNatClampNeg (M32.1 b0 3)) (M32.1 (b1 + 4) (Int32.toNatClampNeg (M.1 (b1 + 5) (Int32.toNatClampNeg x4)))) → S_X3_digestOf d b2 b1 x3 (M.1 (b1 + 5) (Int32.toNatClampNeg x4)) M36 (zI (fun r38 M39 => vp_in (M36.1 b0 3) 24 ∧ ((∀ M41 : zMem, M41 = wI M39 (b0 + 3) (Int32.toNatClampNeg (M36.1 b0 3)) r38 → (∀ M43 : zMem, M43 = wI M41 b0 3 ((M41.1 b0 3) + 1) → S_X9_grow_13 (d + 1) b0 b1 b2 x3 (x4 + 1) M43 K)))))))))))))))))) : S_X9_grow_13 (d + 1) b0 b1 b2 x3 x4 M K := by
  show zV m_X9_grow (d + 1) 13 [(0, .ref b0), (1, .ref b1), (2, .ref b2), (3, .int x3), (4, .int x4)] [] M K
  refine zr_iload dX9_grow_13 4 rfl ?_
  refine zr_aload_n dX9_grow_15 rfl 1 rfl ?_
  refine zm_geti dX9_grow_16 f_X9_58 (oX5 _ h1) (by decide) (by decide) ?_
  refine zr_icmp_ge (tgt := 109) dX9_grow_19 (by decide) (fun h21 => ?_) (fun h21 => ?_)
  · have T := T.1 h21
    refine zr_aload_n dX9_grow_109 rfl 0 rfl ?_
    refine zr_iconst (v := 0) dX9_grow_110 (by decide) ?_
    refine zr_aload_n dX9_grow_111 rfl 0 rfl ?_
    refine zm_geti dX9_grow_112 f_X9_21 (oX9 _ h0) (by decide) (by decide) ?_
    refine zr_iconst (v := (-1)) dX9_grow_115 (by decide) ?_
    refine zr_iconst (v := 0) dX9_grow_116 (by decide) ?_
    refine zm_callV_i (c := 9) (b := b0) dX9_grow_117 w_X9_growNode l_X9_79 rfl (oX9 _ h0) (by decide) s_X9_growNode [.int 0, .int (M.1 b0 3), .int (-1), .int 0] rfl rfl (Nat.le_of_ble_eq_true rfl) (Nat.le_of_ble_eq_true rfl) ?_
    refine zV.post T ?_
    rintro v M23 ⟨r22, rfl, T⟩
    refine ⟨r22, rfl, ?_⟩
    refine zr_pop dX9_grow_120 rfl ?_
    exact zm_vret dX9_grow_121 rfl T
  · have T := T.2 h21
    refine zr_aload_n dX9_grow_22 rfl 1 rfl ?_
    refine zm_getr (a := b1 + 5) dX9_grow_23 f_X9_63 (oX5 _ h1) (by decide) (by decide) (rX5_9 _ h1) ?_
    refine zr_iload dX9_grow_26 4 rfl ?_
    obtain ⟨hq24, T⟩ := T
    refine zm_iald (n := 24) (o := (Int32.toNatClampNeg x4)) dX9_grow_28 (aX _ (qX5_9 _ h1)) (lX _ (qX5_9 _ h1)) hq24 rfl ?_
    refine zr_istore dX9_grow_29 (by decide) (L2 := [(5, .int (M.1 (b1 + 5) (Int32.toNatClampNeg x4))), (0, .ref b0), (1, .ref b1), (2, .ref b2), (3, .int x3), (4, .int x4)]) rfl ?_
    refine zr_aload_n dX9_grow_31 rfl 1 rfl ?_
    refine zm_getr (a := b0 + 11) dX9_grow_32 f_X9_46 (oX9 _ h0) (by decide) (by decide) (rX9_11 _ h0) ?_
    refine zr_iload dX9_grow_35 0 rfl ?_
    refine zr_iconst (v := (-1)) dX9_grow_37 (by decide) ?_
    obtain ⟨hq25, T⟩ := T
    refine zn_iast (n := 24) (o := (Int32.toNatClampNeg (M.1 (b1 + 5) (Int32.toNatClampNeg x4)))) dX9_grow_38 (aX _ (qX9_11 _ h0)) (lX _ (qX9_11 _ h0)) hq25 rfl (fun M26 e27 => ?_)
    have T := T M26 e27
    refine zr_aload_n dX9_grow_39 rfl 3 rfl ?_
    refine zr_iload_n dX9_grow_40 rfl 4 rfl ?_
    refine zr_iload dX9_grow_41 0 rfl ?_
    refine zm_callV_b (c := 3) (b := b2) dX9_grow_43 w_X3_has l_X9_66 rfl (oX3 _ h2) (by decide) s_X3_has [.int x3, .int (M.1 (b1 + 5) (Int32.toNatClampNeg x4))] rfl rfl (Nat.le_of_ble_eq_true rfl) (Nat.le_of_ble_eq_true rfl) ?_
    refine zV.post T ?_
    rintro v M29 ⟨r28, rfl, T⟩
    refine ⟨r28, rfl, ?_⟩
    refine zm_ifb_eq (tgt := 103) dX9_grow_46 (by decide) (fun h30 => ?_) (fun h30 => ?_)
    · have T := T.1 h30
      refine zr_iinc (n := 5) (v := x4 + 1) dX9_grow_103 rfl rfl (by decide) (L2 := [(4, .int (x4 + 1)), (5, .int (M.1 (b1 + 5) (Int32.toNatClampNeg x4))), (0, .ref b0), (1, .ref b1), (2, .ref b2), (3, .int x3)]) rfl ?_
      refine zr_goto (tgt := 13) dX9_grow_106 (by decide) ?_
      exact zV.pick [2, 3, 4, 5, 0] rfl T
    · have T := T.2 h30
      refine zr_aload_n dX9_grow_49 rfl 1 rfl ?_
      refine zm_getr (a := b0 + 1) dX9_grow_50 f_X9_9 (oX9 _ h0) (by decide) (by decide) (rX9_0 _ h0) ?_
      refine zr_aload_n dX9_grow_53 rfl 1 rfl ?_
      refine zm_geti dX9_grow_54 f_X9_21 (oX9 _ h0) (by decide) (by decide) ?_
      refine zr_iload dX9_grow_57 0 rfl ?_
      obtain ⟨hq31, T⟩ := T
      refine zn_iast (n := 24) (o := (Int32.toNatClampNeg (M29.1 b0 3))) dX9_grow_59 (aX _ (qX9_0 _ h0)) (lX _ (qX9_0 _ h0)) hq31 rfl (fun M32 e33 => ?_)
      have T := T M32 e33
      refine zr_aload_n dX9_grow_60 rfl 1 rfl ?_
      refine zm_getr (a := b0 + 2) dX9_grow_61 f_X9_15 (oX9 _ h0) (by decide) (by decide) (rX9_1 _ h0) ?_
      refine zr_aload_n dX9_grow_64 rfl 1 rfl ?_
      refine zm_geti dX9_grow_65 f_X9_21 (oX9 _ h0) (by decide) (by decide) ?_
      refine zr_aload_n dX9_grow_68 rfl 2 rfl ?_
      refine zm_getr (a := b1 + 4) dX9_grow_69 f_X9_72 (oX5 _ h1) (by decide) (by decide) (rX5_8 _ h1) ?_
      refine zr_iload dX9_grow_72 0 rfl ?_
      obtain ⟨hq34, T⟩ := T
      refine zm_iald (n := 24) (o := (Int32.toNatClampNeg (M.1 (b1 + 5) (Int32.toNatClampNeg x4)))) dX9_grow_74 (aX _ (qX5_8 _ h1)) (lX _ (qX5_8 _ h1)) hq34 rfl ?_
      obtain ⟨hq35, T⟩ := T
      refine zn_iast (n := 24) (o := (Int32.toNatClampNeg (M32.1 b0 3))) dX9_grow_75 (aX _ (qX9_1 _ h0)) (lX _ (qX9_1 _ h0)) hq35 rfl (fun M36 e37 => ?_)
      have T := T M36 e37
      refine zr_aload_n dX9_grow_76 rfl 1 rfl ?_
      refine zm_getr (a := b0 + 3) dX9_grow_77 f_X9_18 (oX9 _ h0) (by decide) (by decide) (rX9_2 _ h0) ?_
      refine zr_aload_n dX9_grow_80 rfl 1 rfl ?_
      refine zm_geti dX9_grow_81 f_X9_21 (oX9 _ h0) (by decide) (by decide) ?_
      refine zr_aload_n dX9_grow_84 rfl 3 rfl ?_
      refine zr_aload_n dX9_grow_85 rfl 2 rfl ?_
      refine zr_iload_n dX9_grow_86 rfl 4 rfl ?_
      refine zr_iload dX9_grow_87 0 rfl ?_
      refine zm_callV_i (c := 3) (b := b2) dX9_grow_89 w_X3_digestOf l_X9_75 rfl (oX3 _ h2) (by decide) s_X3_digestOf [.ref b1, .int x3, .int (M.1 (b1 + 5) (Int32.toNatClampNeg x4))] rfl rfl (Nat.le_of_ble_eq_true rfl) (Nat.le_of_ble_eq_true rfl) ?_
      refine zV.post T ?_
      rintro v M39 ⟨r38, rfl, T⟩
      refine ⟨r38, rfl, ?_⟩
      obtain ⟨hq40, T⟩ := T
      refine zn_iast (n := 24) (o := (Int32.toNatClampNeg (M36.1 b0 3))) dX9_grow_92 (aX _ (qX9_2 _ h0)) (lX _ (qX9_2 _ h0)) hq40 rfl (fun M41 e42 => ?_)
      have T := T M41 e42
      refine zr_aload_n dX9_grow_93 rfl 1 rfl ?_
      refine zr_dup dX9_grow_94 rfl ?_
      refine zm_geti dX9_grow_95 f_X9_21 (oX9 _ h0) (by decide) (by decide) ?_
      refine zr_iconst (v := 1) dX9_grow_98 (by decide) ?_
      refine zr_iadd dX9_grow_99 ?_
      refine zn_puti dX9_grow_100 f_X9_21 (oX9 _ h0) (by decide) (by decide) (fun M43 e44 => ?_)
      have T := T M43 e44
      refine zr_iinc (n := 5) (v := x4 + 1) dX9_grow_103 rfl rfl (by decide) (L2 := [(4, .int (x4 + 1)), (5, .int (M.1 (b1 + 5) (Int32.toNatClampNeg x4))), (0, .ref b0), (1, .ref b1), (2, .ref b2), (3, .int x3)]) rfl ?_
      refine zr_goto (tgt := 13) dX9_grow_106 (by decide) ?_
      exact zV.pick [2, 3, 4, 5, 0] rfl T
set_option maxRecDepth 100000 in
set_option maxHeartbeats 4000000 in
theorem t_X3_digestOf {d : Nat} {b0 : Nat} {b1 : Nat} {x2 : Int32} {x3 : Int32} {M : zMem} {K : zK} (h0 : b0 ∈ iX3) (h1 : b1 ∈ iX5)
    (T : vp_in x3 24 ∧ (S_X3_stampOf d b0 x2 x3 M (zI (fun r22 M23 => S_X11_mix d (M.1 (b1 + 3) (Int32.toNatClampNeg x3)) r22 M23 (zI (fun r24 M25 => S_X3_valueOf d b0 x2 x3 M25 (zI (fun r26 M27 => S_X11_mix d r24 (r26 + 1) M27 (zI (fun r28 M29 => K (some (.int r28)) M29)))))))))) : S_X3_digestOf (d + 1) b0 b1 x2 x3 M K := by
  show zV m_X3_digestOf (d + 1) 0 [(0, .ref b0), (1, .ref b1), (2, .int x2), (3, .int x3)] [] M K
  refine zr_aload_n dX3_digestOf_0 rfl 1 rfl ?_
  refine zm_getr (a := b1 + 3) dX3_digestOf_1 f_X3_48 (oX5 _ h1) (by decide) (by decide) (rX5_7 _ h1) ?_
  refine zr_iload_n dX3_digestOf_4 rfl 3 rfl ?_
  obtain ⟨hq21, T⟩ := T
  refine zm_iald (n := 24) (o := (Int32.toNatClampNeg x3)) dX3_digestOf_5 (aX _ (qX5_7 _ h1)) (lX _ (qX5_7 _ h1)) hq21 rfl ?_
  refine zr_aload_n dX3_digestOf_6 rfl 0 rfl ?_
  refine zr_iload_n dX3_digestOf_7 rfl 2 rfl ?_
  refine zr_iload_n dX3_digestOf_8 rfl 3 rfl ?_
  refine zm_callV_i (c := 3) (b := b0) dX3_digestOf_9 w_X3_stampOf l_X3_53 rfl (oX3 _ h0) (by decide) s_X3_stampOf [.int x2, .int x3] rfl rfl (Nat.le_of_ble_eq_true rfl) (Nat.le_of_ble_eq_true rfl) ?_
  refine zV.post T ?_
  rintro v M23 ⟨r22, rfl, T⟩
  refine ⟨r22, rfl, ?_⟩
  refine zm_callSN_i (host := RX11) dX3_digestOf_12 w_X11_mix n_X3_56 s_X11_mix [.int (M.1 (b1 + 3) (Int32.toNatClampNeg x3)), .int r22] rfl rfl (Nat.le_of_ble_eq_true rfl) (Nat.le_of_ble_eq_true rfl) ?_
  refine zV.post T ?_
  rintro v M25 ⟨r24, rfl, T⟩
  refine ⟨r24, rfl, ?_⟩
  refine zr_aload_n dX3_digestOf_15 rfl 0 rfl ?_
  refine zr_iload_n dX3_digestOf_16 rfl 2 rfl ?_
  refine zr_iload_n dX3_digestOf_17 rfl 3 rfl ?_
  refine zm_callV_i (c := 3) (b := b0) dX3_digestOf_18 w_X3_valueOf l_X3_44 rfl (oX3 _ h0) (by decide) s_X3_valueOf [.int x2, .int x3] rfl rfl (Nat.le_of_ble_eq_true rfl) (Nat.le_of_ble_eq_true rfl) ?_
  refine zV.post T ?_
  rintro v M27 ⟨r26, rfl, T⟩
  refine ⟨r26, rfl, ?_⟩
  refine zr_iconst (v := 1) dX3_digestOf_21 (by decide) ?_
  refine zr_iadd dX3_digestOf_22 ?_
  refine zm_callSN_i (host := RX11) dX3_digestOf_23 w_X11_mix n_X3_56 s_X11_mix [.int r24, .int (r26 + 1)] rfl rfl (Nat.le_of_ble_eq_true rfl) (Nat.le_of_ble_eq_true rfl) ?_
  refine zV.post T ?_
  rintro v M29 ⟨r28, rfl, T⟩
  refine ⟨r28, rfl, ?_⟩
  exact zm_iret dX3_digestOf_26 rfl T
set_option maxRecDepth 100000 in
set_option maxHeartbeats 4000000 in
theorem t_X3_stampOf {d : Nat} {b0 : Nat} {x1 : Int32} {x2 : Int32} {M : zMem} {K : zK} (h0 : b0 ∈ iX3)
    (T : vp_in ((x1 * 24) + x2) 96 ∧ (K (some (.int (M.1 (b0 + 2) (Int32.toNatClampNeg ((x1 * 24) + x2))))) M)) : S_X3_stampOf d b0 x1 x2 M K := by
  show zV m_X3_stampOf d 0 [(0, .ref b0), (1, .int x1), (2, .int x2)] [] M K
  refine zr_aload_n dX3_stampOf_0 rfl 0 rfl ?_
  refine zm_getr (a := b0 + 2) dX3_stampOf_1 f_X3_15 (oX3 _ h0) (by decide) (by decide) (rX3_1 _ h0) ?_
  refine zr_iload_n dX3_stampOf_4 rfl 1 rfl ?_
  refine zr_bipush (v := 24) dX3_stampOf_5 (by decide) ?_
  refine zr_imul dX3_stampOf_7 ?_
  refine zr_iload_n dX3_stampOf_8 rfl 2 rfl ?_
  refine zr_iadd dX3_stampOf_9 ?_
  obtain ⟨hq21, T⟩ := T
  refine zm_iald (n := 96) (o := (Int32.toNatClampNeg ((x1 * 24) + x2))) dX3_stampOf_10 (aX _ (qX3_1 _ h0)) (lX _ (qX3_1 _ h0)) hq21 rfl ?_
  exact zm_iret dX3_stampOf_11 rfl T
set_option maxRecDepth 100000 in
set_option maxHeartbeats 4000000 in
theorem t_X3_valueOf {d : Nat} {b0 : Nat} {x1 : Int32} {x2 : Int32} {M : zMem} {K : zK} (h0 : b0 ∈ iX3)
    (T : vp_in ((x1 * 24) + x2) 96 ∧ (K (some (.int (M.1 (b0 + 1) (Int32.toNatClampNeg ((x1 * 24) + x2))))) M)) : S_X3_valueOf d b0 x1 x2 M K := by
  show zV m_X3_valueOf d 0 [(0, .ref b0), (1, .int x1), (2, .int x2)] [] M K
  refine zr_aload_n dX3_valueOf_0 rfl 0 rfl ?_
  refine zm_getr (a := b0 + 1) dX3_valueOf_1 f_X3_9 (oX3 _ h0) (by decide) (by decide) (rX3_0 _ h0) ?_
  refine zr_iload_n dX3_valueOf_4 rfl 1 rfl ?_
  refine zr_bipush (v := 24) dX3_valueOf_5 (by decide) ?_
  refine zr_imul dX3_valueOf_7 ?_
  refine zr_iload_n dX3_valueOf_8 rfl 2 rfl ?_
  refine zr_iadd dX3_valueOf_9 ?_
  obtain ⟨hq21, T⟩ := T
  refine zm_iald (n := 96) (o := (Int32.toNatClampNeg ((x1 * 24) + x2))) dX3_valueOf_10 (aX _ (qX3_0 _ h0)) (lX _ (qX3_0 _ h0)) hq21 rfl ?_
  exact zm_iret dX3_valueOf_11 rfl T
set_option maxRecDepth 100000 in
set_option maxHeartbeats 4000000 in
theorem t_X9_growNode {d : Nat} {b0 : Nat} {x1 : Int32} {x2 : Int32} {x3 : Int32} {x4 : Int32} {M : zMem} {K : zK} (h0 : b0 ∈ iX9)
    (T : (x2 ≤ x1 → K (some (.int 0)) M) ∧ (¬ (x2 ≤ x1) → (24 < x4 → K (some (.int 0)) M) ∧ (¬ (24 < x4) → ((M.1 b0 12) < 24 → (∀ M24 : zMem, M24 = wI M b0 12 ((M.1 b0 12) + 1) → S_X9_topLevel d b0 x1 x2 M24 (zI (fun r26 M27 => S_X9_openNode d b0 (M.1 b0 12) r26 x3 M27 (zU (fun M29 => S_X9_fillNode d b0 (M.1 b0 12) x1 x2 x4 M29 (zI (fun r30 M31 => vp_in (M.1 b0 12) 24 ∧ ((∀ M33 : zMem, M33 = wI M31 (b0 + 10) (Int32.toNatClampNeg (M.1 b0 12)) r30 → vp_in (M.1 b0 12) 24 ∧ (K (some (.int (M33.1 (b0 + 10) (Int32.toNatClampNeg (M.1 b0 12))))) M33))))))))))) ∧ (¬ ((M.1 b0 12) < 24) → K (some (.int 0)) M)))) : S_X9_growNode (d + 1) b0 x1 x2 x3 x4 M K := by
  show zV m_X9_growNode (d + 1) 0 [(0, .ref b0), (1, .int x1), (2, .int x2), (3, .int x3), (4, .int x4)] [] M K
  refine zr_iload_n dX9_growNode_0 rfl 1 rfl ?_
  refine zr_iload_n dX9_growNode_1 rfl 2 rfl ?_
  refine zr_icmp_ge (tgt := 21) dX9_growNode_2 (by decide) (fun h21 => ?_) (fun h21 => ?_)
  · have T := T.1 h21
    refine zr_iconst (v := 0) dX9_growNode_21 (by decide) ?_
    exact zm_iret dX9_growNode_22 rfl T
  · have T := T.2 h21
    refine zr_iload dX9_growNode_5 4 rfl ?_
    refine zr_bipush (v := 24) dX9_growNode_7 (by decide) ?_
    refine zr_icmp_gt (tgt := 21) dX9_growNode_9 (by decide) (fun h22 => ?_) (fun h22 => ?_)
    · have T := T.1 h22
      refine zr_iconst (v := 0) dX9_growNode_21 (by decide) ?_
      exact zm_iret dX9_growNode_22 rfl T
    · have T := T.2 h22
      refine zr_aload_n dX9_growNode_12 rfl 0 rfl ?_
      refine zm_geti dX9_growNode_13 f_X9_49 (oX9 _ h0) (by decide) (by decide) ?_
      refine zr_bipush (v := 24) dX9_growNode_16 (by decide) ?_
      refine zr_icmp_lt (tgt := 23) dX9_growNode_18 (by decide) (fun h23 => ?_) (fun h23 => ?_)
      · have T := T.1 h23
        refine zr_aload_n dX9_growNode_23 rfl 0 rfl ?_
        refine zm_geti dX9_growNode_24 f_X9_49 (oX9 _ h0) (by decide) (by decide) ?_
        refine zr_istore dX9_growNode_27 (by decide) (L2 := [(5, .int (M.1 b0 12)), (0, .ref b0), (1, .int x1), (2, .int x2), (3, .int x3), (4, .int x4)]) rfl ?_
        refine zr_aload_n dX9_growNode_29 rfl 1 rfl ?_
        refine zr_dup dX9_growNode_30 rfl ?_
        refine zm_geti dX9_growNode_31 f_X9_49 (oX9 _ h0) (by decide) (by decide) ?_
        refine zr_iconst (v := 1) dX9_growNode_34 (by decide) ?_
        refine zr_iadd dX9_growNode_35 ?_
        refine zn_puti dX9_growNode_36 f_X9_49 (oX9 _ h0) (by decide) (by decide) (fun M24 e25 => ?_)
        have T := T M24 e25
        refine zr_aload_n dX9_growNode_39 rfl 1 rfl ?_
        refine zr_iload dX9_growNode_40 0 rfl ?_
        refine zr_aload_n dX9_growNode_42 rfl 1 rfl ?_
        refine zr_iload_n dX9_growNode_43 rfl 2 rfl ?_
        refine zr_iload_n dX9_growNode_44 rfl 3 rfl ?_
        refine zm_callV_i (c := 9) (b := b0) dX9_growNode_45 w_X9_topLevel l_X9_83 rfl (oX9 _ h0) (by decide) s_X9_topLevel [.int x1, .int x2] rfl rfl (Nat.le_of_ble_eq_true rfl) (Nat.le_of_ble_eq_true rfl) ?_
        refine zV.post T ?_
        rintro v M27 ⟨r26, rfl, T⟩
        refine ⟨r26, rfl, ?_⟩
        refine zr_iload_n dX9_growNode_48 rfl 4 rfl ?_
        refine zm_callV_v (c := 9) (b := b0) dX9_growNode_49 w_X9_openNode l_X9_87 rfl (oX9 _ h0) (by decide) s_X9_openNode [.int (M.1 b0 12), .int r26, .int x3] rfl rfl (Nat.le_of_ble_eq_true rfl) (Nat.le_of_ble_eq_true rfl) ?_
        refine zV.post T ?_
        rintro v M29 ⟨rfl, T⟩
        refine ⟨rfl, ?_⟩
        refine zr_aload_n dX9_growNode_52 rfl 1 rfl ?_
        refine zm_getr (a := b0 + 10) dX9_growNode_53 f_X9_43 (oX9 _ h0) (by decide) (by decide) (rX9_10 _ h0) ?_
        refine zr_iload dX9_growNode_56 0 rfl ?_
        refine zr_aload_n dX9_growNode_58 rfl 1 rfl ?_
        refine zr_iload dX9_growNode_59 0 rfl ?_
        refine zr_iload_n dX9_growNode_61 rfl 2 rfl ?_
        refine zr_iload_n dX9_growNode_62 rfl 3 rfl ?_
        refine zr_iload dX9_growNode_63 5 rfl ?_
        refine zm_callV_i (c := 9) (b := b0) dX9_growNode_65 w_X9_fillNode l_X9_91 rfl (oX9 _ h0) (by decide) s_X9_fillNode [.int (M.1 b0 12), .int x1, .int x2, .int x4] rfl rfl (Nat.le_of_ble_eq_true rfl) (Nat.le_of_ble_eq_true rfl) ?_
        refine zV.post T ?_
        rintro v M31 ⟨r30, rfl, T⟩
        refine ⟨r30, rfl, ?_⟩
        obtain ⟨hq32, T⟩ := T
        refine zn_iast (n := 24) (o := (Int32.toNatClampNeg (M.1 b0 12))) dX9_growNode_68 (aX _ (qX9_10 _ h0)) (lX _ (qX9_10 _ h0)) hq32 rfl (fun M33 e34 => ?_)
        have T := T M33 e34
        refine zr_aload_n dX9_growNode_69 rfl 1 rfl ?_
        refine zm_getr (a := b0 + 10) dX9_growNode_70 f_X9_43 (oX9 _ h0) (by decide) (by decide) (rX9_10 _ h0) ?_
        refine zr_iload dX9_growNode_73 0 rfl ?_
        obtain ⟨hq35, T⟩ := T
        refine zm_iald (n := 24) (o := (Int32.toNatClampNeg (M.1 b0 12))) dX9_growNode_75 (aX _ (qX9_10 _ h0)) (lX _ (qX9_10 _ h0)) hq35 rfl ?_
        exact zm_iret dX9_growNode_76 rfl T
      · have T := T.2 h23
        refine zr_iconst (v := 0) dX9_growNode_21 (by decide) ?_
        exact zm_iret dX9_growNode_22 rfl T
set_option maxRecDepth 100000 in
set_option maxHeartbeats 4000000 in
theorem t_X9_topLevel {d : Nat} {b0 : Nat} {x1 : Int32} {x2 : Int32} {M : zMem} {K : zK} (h0 : b0 ∈ iX9)
    (T : S_X9_topLevel_5 d b0 x2 0 x1 M K) : S_X9_topLevel d b0 x1 x2 M K := by
  show zV m_X9_topLevel d 0 [(0, .ref b0), (1, .int x1), (2, .int x2)] [] M K
  refine zr_iconst (v := 0) dX9_topLevel_0 (by decide) ?_
  refine zr_istore_n dX9_topLevel_1 rfl (by decide) (L2 := [(3, .int 0), (0, .ref b0), (1, .int x1), (2, .int x2)]) rfl ?_
  refine zr_iload_n dX9_topLevel_2 rfl 2 rfl ?_
  refine zr_istore dX9_topLevel_3 (by decide) (L2 := [(4, .int x1), (3, .int 0), (0, .ref b0), (1, .int x1), (2, .int x2)]) rfl ?_
  exact zV.pick [2, 4, 1, 0] rfl T
set_option maxRecDepth 100000 in
set_option maxHeartbeats 4000000 in
theorem t_X9_topLevel_5 {d : Nat} {b0 : Nat} {x2 : Int32} {x3 : Int32} {x4 : Int32} {M : zMem} {K : zK} (h0 : b0 ∈ iX9)
    (T : (x2 ≤ x4 → K (some (.int x3)) M) ∧ (¬ (x2 ≤ x4) → vp_in x4 24 ∧ (((M.1 (b0 + 2) (Int32.toNatClampNeg x4)) ≤ x3 → S_X9_topLevel_5 d b0 x2 x3 (x4 + 1) M K) ∧ (¬ ((M.1 (b0 + 2) (Int32.toNatClampNeg x4)) ≤ x3) → vp_in x4 24 ∧ (S_X9_topLevel_5 d b0 x2 (M.1 (b0 + 2) (Int32.toNatClampNeg x4)) (x4 + 1) M K))))) : S_X9_topLevel_5 d b0 x2 x3 x4 M K := by
  show zV m_X9_topLevel d 5 [(0, .ref b0), (2, .int x2), (3, .int x3), (4, .int x4)] [] M K
  refine zr_iload dX9_topLevel_5 3 rfl ?_
  refine zr_iload_n dX9_topLevel_7 rfl 1 rfl ?_
  refine zr_icmp_ge (tgt := 36) dX9_topLevel_8 (by decide) (fun h21 => ?_) (fun h21 => ?_)
  · have T := T.1 h21
    refine zr_iload_n dX9_topLevel_36 rfl 2 rfl ?_
    exact zm_iret dX9_topLevel_37 rfl T
  · have T := T.2 h21
    refine zr_aload_n dX9_topLevel_11 rfl 0 rfl ?_
    refine zm_getr (a := b0 + 2) dX9_topLevel_12 f_X9_15 (oX9 _ h0) (by decide) (by decide) (rX9_1 _ h0) ?_
    refine zr_iload dX9_topLevel_15 3 rfl ?_
    obtain ⟨hq22, T⟩ := T
    refine zm_iald (n := 24) (o := (Int32.toNatClampNeg x4)) dX9_topLevel_17 (aX _ (qX9_1 _ h0)) (lX _ (qX9_1 _ h0)) hq22 rfl ?_
    refine zr_iload_n dX9_topLevel_18 rfl 2 rfl ?_
    refine zr_icmp_le (tgt := 30) dX9_topLevel_19 (by decide) (fun h23 => ?_) (fun h23 => ?_)
    · have T := T.1 h23
      refine zr_iinc (n := 3) (v := x4 + 1) dX9_topLevel_30 rfl rfl (by decide) (L2 := [(4, .int (x4 + 1)), (0, .ref b0), (2, .int x2), (3, .int x3)]) rfl ?_
      refine zr_goto (tgt := 5) dX9_topLevel_33 (by decide) ?_
      exact zV.pick [1, 2, 3, 0] rfl T
    · have T := T.2 h23
      refine zr_aload_n dX9_topLevel_22 rfl 0 rfl ?_
      refine zm_getr (a := b0 + 2) dX9_topLevel_23 f_X9_15 (oX9 _ h0) (by decide) (by decide) (rX9_1 _ h0) ?_
      refine zr_iload dX9_topLevel_26 3 rfl ?_
      obtain ⟨hq24, T⟩ := T
      refine zm_iald (n := 24) (o := (Int32.toNatClampNeg x4)) dX9_topLevel_28 (aX _ (qX9_1 _ h0)) (lX _ (qX9_1 _ h0)) hq24 rfl ?_
      refine zr_istore_n dX9_topLevel_29 rfl (by decide) (L2 := [(3, .int (M.1 (b0 + 2) (Int32.toNatClampNeg x4))), (0, .ref b0), (2, .int x2), (4, .int x4)]) rfl ?_
      refine zr_iinc (n := 3) (v := x4 + 1) dX9_topLevel_30 rfl rfl (by decide) (L2 := [(4, .int (x4 + 1)), (3, .int (M.1 (b0 + 2) (Int32.toNatClampNeg x4))), (0, .ref b0), (2, .int x2)]) rfl ?_
      refine zr_goto (tgt := 5) dX9_topLevel_33 (by decide) ?_
      exact zV.pick [2, 3, 1, 0] rfl T
set_option maxRecDepth 100000 in
set_option maxHeartbeats 4000000 in
theorem t_X9_openNode {d : Nat} {b0 : Nat} {x1 : Int32} {x2 : Int32} {x3 : Int32} {M : zMem} {K : zK} (h0 : b0 ∈ iX9)
    (T : vp_in x1 24 ∧ ((∀ M22 : zMem, M22 = wI M (b0 + 4) (Int32.toNatClampNeg x1) x2 → vp_in x1 24 ∧ ((∀ M25 : zMem, M25 = wI M22 (b0 + 5) (Int32.toNatClampNeg x1) 0 → vp_in x1 24 ∧ ((∀ M28 : zMem, M28 = wI M25 (b0 + 8) (Int32.toNatClampNeg x1) 0 → vp_in x1 24 ∧ ((∀ M31 : zMem, M31 = wI M28 (b0 + 9) (Int32.toNatClampNeg x1) x3 → (x3 = (-1) → K none M31) ∧ (¬ (x3 = (-1)) → vp_in x3 24 ∧ (vp_in x3 24 ∧ ((∀ M36 : zMem, M36 = wI M31 (b0 + 8) (Int32.toNatClampNeg x3) ((M31.1 (b0 + 8) (Int32.toNatClampNeg x3)) + 1) → K none M36))))))))))))) : S_X9_openNode d b0 x1 x2 x3 M K := by
  show zV m_X9_openNode d 0 [(0, .ref b0), (1, .int x1), (2, .int x2), (3, .int x3)] [] M K
  refine zr_aload_n dX9_openNode_0 rfl 0 rfl ?_
  refine zm_getr (a := b0 + 4) dX9_openNode_1 f_X9_25 (oX9 _ h0) (by decide) (by decide) (rX9_4 _ h0) ?_
  refine zr_iload_n dX9_openNode_4 rfl 1 rfl ?_
  refine zr_iload_n dX9_openNode_5 rfl 2 rfl ?_
  obtain ⟨hq21, T⟩ := T
  refine zn_iast (n := 24) (o := (Int32.toNatClampNeg x1)) dX9_openNode_6 (aX _ (qX9_4 _ h0)) (lX _ (qX9_4 _ h0)) hq21 rfl (fun M22 e23 => ?_)
  have T := T M22 e23
  refine zr_aload_n dX9_openNode_7 rfl 0 rfl ?_
  refine zm_getr (a := b0 + 5) dX9_openNode_8 f_X9_28 (oX9 _ h0) (by decide) (by decide) (rX9_5 _ h0) ?_
  refine zr_iload_n dX9_openNode_11 rfl 1 rfl ?_
  refine zr_iconst (v := 0) dX9_openNode_12 (by decide) ?_
  obtain ⟨hq24, T⟩ := T
  refine zn_iast (n := 24) (o := (Int32.toNatClampNeg x1)) dX9_openNode_13 (aX _ (qX9_5 _ h0)) (lX _ (qX9_5 _ h0)) hq24 rfl (fun M25 e26 => ?_)
  have T := T M25 e26
  refine zr_aload_n dX9_openNode_14 rfl 0 rfl ?_
  refine zm_getr (a := b0 + 8) dX9_openNode_15 f_X9_37 (oX9 _ h0) (by decide) (by decide) (rX9_8 _ h0) ?_
  refine zr_iload_n dX9_openNode_18 rfl 1 rfl ?_
  refine zr_iconst (v := 0) dX9_openNode_19 (by decide) ?_
  obtain ⟨hq27, T⟩ := T
  refine zn_iast (n := 24) (o := (Int32.toNatClampNeg x1)) dX9_openNode_20 (aX _ (qX9_8 _ h0)) (lX _ (qX9_8 _ h0)) hq27 rfl (fun M28 e29 => ?_)
  have T := T M28 e29
  refine zr_aload_n dX9_openNode_21 rfl 0 rfl ?_
  refine zm_getr (a := b0 + 9) dX9_openNode_22 f_X9_40 (oX9 _ h0) (by decide) (by decide) (rX9_9 _ h0) ?_
  refine zr_iload_n dX9_openNode_25 rfl 1 rfl ?_
  refine zr_iload_n dX9_openNode_26 rfl 3 rfl ?_
  obtain ⟨hq30, T⟩ := T
  refine zn_iast (n := 24) (o := (Int32.toNatClampNeg x1)) dX9_openNode_27 (aX _ (qX9_9 _ h0)) (lX _ (qX9_9 _ h0)) hq30 rfl (fun M31 e32 => ?_)
  have T := T M31 e32
  refine zr_iload_n dX9_openNode_28 rfl 3 rfl ?_
  refine zr_iconst (v := (-1)) dX9_openNode_29 (by decide) ?_
  refine zr_icmp_eq (tgt := 43) dX9_openNode_30 (by decide) (fun h33 => ?_) (fun h33 => ?_)
  · have T := T.1 h33
    exact zm_vret dX9_openNode_43 rfl T
  · have T := T.2 h33
    refine zr_aload_n dX9_openNode_33 rfl 0 rfl ?_
    refine zm_getr (a := b0 + 8) dX9_openNode_34 f_X9_37 (oX9 _ h0) (by decide) (by decide) (rX9_8 _ h0) ?_
    refine zr_iload_n dX9_openNode_37 rfl 3 rfl ?_
    refine zr_dup2 dX9_openNode_38 rfl rfl ?_
    obtain ⟨hq34, T⟩ := T
    refine zm_iald (n := 24) (o := (Int32.toNatClampNeg x3)) dX9_openNode_39 (aX _ (qX9_8 _ h0)) (lX _ (qX9_8 _ h0)) hq34 rfl ?_
    refine zr_iconst (v := 1) dX9_openNode_40 (by decide) ?_
    refine zr_iadd dX9_openNode_41 ?_
    obtain ⟨hq35, T⟩ := T
    refine zn_iast (n := 24) (o := (Int32.toNatClampNeg x3)) dX9_openNode_42 (aX _ (qX9_8 _ h0)) (lX _ (qX9_8 _ h0)) hq35 rfl (fun M36 e37 => ?_)
    have T := T M36 e37
    exact zm_vret dX9_openNode_43 rfl T
set_option maxRecDepth 100000 in
set_option maxHeartbeats 4000000 in
theorem t_X9_fillNode {d : Nat} {b0 : Nat} {x1 : Int32} {x2 : Int32} {x3 : Int32} {x4 : Int32} {M : zMem} {K : zK} (h0 : b0 ∈ iX9)
    (T : vp_in x1 24 ∧ (S_X9_fillNode_16 (d + 1) b0 x1 x3 x4 ((M.1 (b0 + 4) (Int32.toNatClampNeg x1)) + 1) x2 x2 M K)) : S_X9_fillNode (d + 1) b0 x1 x2 x3 x4 M K := by
  show zV m_X9_fillNode (d + 1) 0 [(0, .ref b0), (1, .int x1), (2, .int x2), (3, .int x3), (4, .int x4)] [] M K
  refine zr_aload_n dX9_fillNode_0 rfl 0 rfl ?_
  refine zm_getr (a := b0 + 4) dX9_fillNode_1 f_X9_25 (oX9 _ h0) (by decide) (by decide) (rX9_4 _ h0) ?_
  refine zr_iload_n dX9_fillNode_4 rfl 1 rfl ?_
  obtain ⟨hq21, T⟩ := T
  refine zm_iald (n := 24) (o := (Int32.toNatClampNeg x1)) dX9_fillNode_5 (aX _ (qX9_4 _ h0)) (lX _ (qX9_4 _ h0)) hq21 rfl ?_
  refine zr_iconst (v := 1) dX9_fillNode_6 (by decide) ?_
  refine zr_iadd dX9_fillNode_7 ?_
  refine zr_istore dX9_fillNode_8 (by decide) (L2 := [(5, .int ((M.1 (b0 + 4) (Int32.toNatClampNeg x1)) + 1)), (0, .ref b0), (1, .int x1), (2, .int x2), (3, .int x3), (4, .int x4)]) rfl ?_
  refine zr_iload_n dX9_fillNode_10 rfl 3 rfl ?_
  refine zr_istore dX9_fillNode_11 (by decide) (L2 := [(6, .int x2), (5, .int ((M.1 (b0 + 4) (Int32.toNatClampNeg x1)) + 1)), (0, .ref b0), (1, .int x1), (2, .int x2), (3, .int x3), (4, .int x4)]) rfl ?_
  refine zr_iload_n dX9_fillNode_13 rfl 4 rfl ?_
  refine zr_istore dX9_fillNode_14 (by decide) (L2 := [(7, .int x2), (6, .int x2), (5, .int ((M.1 (b0 + 4) (Int32.toNatClampNeg x1)) + 1)), (0, .ref b0), (1, .int x1), (2, .int x2), (3, .int x3), (4, .int x4)]) rfl ?_
  exact zV.pick [3, 4, 6, 7, 2, 1, 0] rfl T
set_option maxRecDepth 100000 in
set_option maxHeartbeats 4000000 in
theorem t_X9_fillNode_16 {d : Nat} {b0 : Nat} {x1 : Int32} {x3 : Int32} {x4 : Int32} {x5 : Int32} {x6 : Int32} {x7 : Int32} {M : zMem} {K : zK} (h0 : b0 ∈ iX9)
    (T : (x3 ≤ x7 → S_X9_growNode d b0 x6 x3 x1 (x4 + 1) M (zI (fun r22 M23 => S_X11_mix d x5 r22 M23 (zI (fun r24 M25 => K (some (.int r24)) M25))))) ∧ (¬ (x3 ≤ x7) → vp_in x7 24 ∧ (vp_in x1 24 ∧ ((¬ (M.1 (b0 + 2) (Int32.toNatClampNeg x7)) = (M.1 (b0 + 4) (Int32.toNatClampNeg x1)) → S_X9_fillNode_16 (d + 1) b0 x1 x3 x4 x5 x6 (x7 + 1) M K) ∧ ((M.1 (b0 + 2) (Int32.toNatClampNeg x7)) = (M.1 (b0 + 4) (Int32.toNatClampNeg x1)) → S_X9_growNode d b0 x6 x7 x1 (x4 + 1) M (zI (fun r29 M30 => S_X11_mix d x5 r29 M30 (zI (fun r31 M32 => vp_in x7 24 ∧ (S_X11_mix d r31 (M32.1 (b0 + 3) (Int32.toNatClampNeg x7)) M32 (zI (fun r34 M35 => vp_in x7 24 ∧ (S_X9_addKey d b0 x1 (M35.1 (b0 + 1) (Int32.toNatClampNeg x7)) M35 (zU (fun M38 => S_X9_fillNode_16 (d + 1) b0 x1 x3 x4 r34 (x7 + 1) (x7 + 1) M38 K))))))))))))))) : S_X9_fillNode_16 (d + 1) b0 x1 x3 x4 x5 x6 x7 M K := by
  show zV m_X9_fillNode (d + 1) 16 [(0, .ref b0), (1, .int x1), (3, .int x3), (4, .int x4), (5, .int x5), (6, .int x6), (7, .int x7)] [] M K
  refine zr_iload dX9_fillNode_16 6 rfl ?_
  refine zr_iload_n dX9_fillNode_18 rfl 2 rfl ?_
  refine zr_icmp_ge (tgt := 96) dX9_fillNode_19 (by decide) (fun h21 => ?_) (fun h21 => ?_)
  · have T := T.1 h21
    refine zr_iload dX9_fillNode_96 4 rfl ?_
    refine zr_aload_n dX9_fillNode_98 rfl 0 rfl ?_
    refine zr_iload dX9_fillNode_99 5 rfl ?_
    refine zr_iload_n dX9_fillNode_101 rfl 2 rfl ?_
    refine zr_iload_n dX9_fillNode_102 rfl 1 rfl ?_
    refine zr_iload dX9_fillNode_103 3 rfl ?_
    refine zr_iconst (v := 1) dX9_fillNode_105 (by decide) ?_
    refine zr_iadd dX9_fillNode_106 ?_
    refine zm_callV_i (c := 9) (b := b0) dX9_fillNode_107 w_X9_growNode l_X9_79 rfl (oX9 _ h0) (by decide) s_X9_growNode [.int x6, .int x3, .int x1, .int (x4 + 1)] rfl rfl (Nat.le_of_ble_eq_true rfl) (Nat.le_of_ble_eq_true rfl) ?_
    refine zV.post T ?_
    rintro v M23 ⟨r22, rfl, T⟩
    refine ⟨r22, rfl, ?_⟩
    refine zm_callSN_i (host := RX11) dX9_fillNode_110 w_X11_mix n_X9_94 s_X11_mix [.int x5, .int r22] rfl rfl (Nat.le_of_ble_eq_true rfl) (Nat.le_of_ble_eq_true rfl) ?_
    refine zV.post T ?_
    rintro v M25 ⟨r24, rfl, T⟩
    refine ⟨r24, rfl, ?_⟩
    exact zm_iret dX9_fillNode_113 rfl T
  · have T := T.2 h21
    refine zr_aload_n dX9_fillNode_22 rfl 0 rfl ?_
    refine zm_getr (a := b0 + 2) dX9_fillNode_23 f_X9_15 (oX9 _ h0) (by decide) (by decide) (rX9_1 _ h0) ?_
    refine zr_iload dX9_fillNode_26 6 rfl ?_
    obtain ⟨hq26, T⟩ := T
    refine zm_iald (n := 24) (o := (Int32.toNatClampNeg x7)) dX9_fillNode_28 (aX _ (qX9_1 _ h0)) (lX _ (qX9_1 _ h0)) hq26 rfl ?_
    refine zr_aload_n dX9_fillNode_29 rfl 0 rfl ?_
    refine zm_getr (a := b0 + 4) dX9_fillNode_30 f_X9_25 (oX9 _ h0) (by decide) (by decide) (rX9_4 _ h0) ?_
    refine zr_iload_n dX9_fillNode_33 rfl 1 rfl ?_
    obtain ⟨hq27, T⟩ := T
    refine zm_iald (n := 24) (o := (Int32.toNatClampNeg x1)) dX9_fillNode_34 (aX _ (qX9_4 _ h0)) (lX _ (qX9_4 _ h0)) hq27 rfl ?_
    refine zr_icmp_ne (tgt := 90) dX9_fillNode_35 (by decide) (fun h28 => ?_) (fun h28 => ?_)
    · have T := T.1 h28
      refine zr_iinc (n := 6) (v := x7 + 1) dX9_fillNode_90 rfl rfl (by decide) (L2 := [(7, .int (x7 + 1)), (0, .ref b0), (1, .int x1), (3, .int x3), (4, .int x4), (5, .int x5), (6, .int x6)]) rfl ?_
      refine zr_goto (tgt := 16) dX9_fillNode_93 (by decide) ?_
      exact zV.pick [1, 2, 3, 4, 5, 6, 0] rfl T
    · have T := T.2 h28
      refine zr_iload dX9_fillNode_38 4 rfl ?_
      refine zr_aload_n dX9_fillNode_40 rfl 0 rfl ?_
      refine zr_iload dX9_fillNode_41 5 rfl ?_
      refine zr_iload dX9_fillNode_43 6 rfl ?_
      refine zr_iload_n dX9_fillNode_45 rfl 1 rfl ?_
      refine zr_iload dX9_fillNode_46 3 rfl ?_
      refine zr_iconst (v := 1) dX9_fillNode_48 (by decide) ?_
      refine zr_iadd dX9_fillNode_49 ?_
      refine zm_callV_i (c := 9) (b := b0) dX9_fillNode_50 w_X9_growNode l_X9_79 rfl (oX9 _ h0) (by decide) s_X9_growNode [.int x6, .int x7, .int x1, .int (x4 + 1)] rfl rfl (Nat.le_of_ble_eq_true rfl) (Nat.le_of_ble_eq_true rfl) ?_
      refine zV.post T ?_
      rintro v M30 ⟨r29, rfl, T⟩
      refine ⟨r29, rfl, ?_⟩
      refine zm_callSN_i (host := RX11) dX9_fillNode_53 w_X11_mix n_X9_94 s_X11_mix [.int x5, .int r29] rfl rfl (Nat.le_of_ble_eq_true rfl) (Nat.le_of_ble_eq_true rfl) ?_
      refine zV.post T ?_
      rintro v M32 ⟨r31, rfl, T⟩
      refine ⟨r31, rfl, ?_⟩
      refine zr_istore dX9_fillNode_56 (by decide) (L2 := [(5, .int r31), (0, .ref b0), (1, .int x1), (3, .int x3), (4, .int x4), (6, .int x6), (7, .int x7)]) rfl ?_
      refine zr_iload dX9_fillNode_58 0 rfl ?_
      refine zr_aload_n dX9_fillNode_60 rfl 1 rfl ?_
      refine zm_getr (a := b0 + 3) dX9_fillNode_61 f_X9_18 (oX9 _ h0) (by decide) (by decide) (rX9_2 _ h0) ?_
      refine zr_iload dX9_fillNode_64 6 rfl ?_
      obtain ⟨hq33, T⟩ := T
      refine zm_iald (n := 24) (o := (Int32.toNatClampNeg x7)) dX9_fillNode_66 (aX _ (qX9_2 _ h0)) (lX _ (qX9_2 _ h0)) hq33 rfl ?_
      refine zm_callSN_i (host := RX11) dX9_fillNode_67 w_X11_mix n_X9_94 s_X11_mix [.int r31, .int (M32.1 (b0 + 3) (Int32.toNatClampNeg x7))] rfl rfl (Nat.le_of_ble_eq_true rfl) (Nat.le_of_ble_eq_true rfl) ?_
      refine zV.post T ?_
      rintro v M35 ⟨r34, rfl, T⟩
      refine ⟨r34, rfl, ?_⟩
      refine zr_istore dX9_fillNode_70 (by decide) (L2 := [(5, .int r34), (0, .ref b0), (1, .int x1), (3, .int x3), (4, .int x4), (6, .int x6), (7, .int x7)]) rfl ?_
      refine zr_aload_n dX9_fillNode_72 rfl 1 rfl ?_
      refine zr_iload_n dX9_fillNode_73 rfl 2 rfl ?_
      refine zr_aload_n dX9_fillNode_74 rfl 1 rfl ?_
      refine zm_getr (a := b0 + 1) dX9_fillNode_75 f_X9_9 (oX9 _ h0) (by decide) (by decide) (rX9_0 _ h0) ?_
      refine zr_iload dX9_fillNode_78 6 rfl ?_
      obtain ⟨hq36, T⟩ := T
      refine zm_iald (n := 24) (o := (Int32.toNatClampNeg x7)) dX9_fillNode_80 (aX _ (qX9_0 _ h0)) (lX _ (qX9_0 _ h0)) hq36 rfl ?_
      refine zm_callV_v (c := 9) (b := b0) dX9_fillNode_81 w_X9_addKey l_X9_97 rfl (oX9 _ h0) (by decide) s_X9_addKey [.int x1, .int (M35.1 (b0 + 1) (Int32.toNatClampNeg x7))] rfl rfl (Nat.le_of_ble_eq_true rfl) (Nat.le_of_ble_eq_true rfl) ?_
      refine zV.post T ?_
      rintro v M38 ⟨rfl, T⟩
      refine ⟨rfl, ?_⟩
      refine zr_iload dX9_fillNode_84 6 rfl ?_
      refine zr_iconst (v := 1) dX9_fillNode_86 (by decide) ?_
      refine zr_iadd dX9_fillNode_87 ?_
      refine zr_istore dX9_fillNode_88 (by decide) (L2 := [(6, .int (x7 + 1)), (5, .int r34), (0, .ref b0), (1, .int x1), (3, .int x3), (4, .int x4), (7, .int x7)]) rfl ?_
      refine zr_iinc (n := 6) (v := x7 + 1) dX9_fillNode_90 rfl rfl (by decide) (L2 := [(7, .int (x7 + 1)), (6, .int (x7 + 1)), (5, .int r34), (0, .ref b0), (1, .int x1), (3, .int x3), (4, .int x4)]) rfl ?_
      refine zr_goto (tgt := 16) dX9_fillNode_93 (by decide) ?_
      exact zV.pick [3, 4, 5, 6, 2, 1, 0] rfl T
set_option maxRecDepth 100000 in
set_option maxHeartbeats 4000000 in
theorem t_X9_addKey {d : Nat} {b0 : Nat} {x1 : Int32} {x2 : Int32} {M : zMem} {K : zK} (h0 : b0 ∈ iX9)
    (T : vp_in x1 24 ∧ ((¬ (M.1 (b0 + 5) (Int32.toNatClampNeg x1)) = 0 → S_X9_addKey_16 d b0 x1 x2 M K) ∧ ((M.1 (b0 + 5) (Int32.toNatClampNeg x1)) = 0 → vp_in x1 24 ∧ ((∀ M24 : zMem, M24 = wI M (b0 + 6) (Int32.toNatClampNeg x1) x2 → S_X9_addKey_16 d b0 x1 x2 M24 K))))) : S_X9_addKey d b0 x1 x2 M K := by
  show zV m_X9_addKey d 0 [(0, .ref b0), (1, .int x1), (2, .int x2)] [] M K
  refine zr_aload_n dX9_addKey_0 rfl 0 rfl ?_
  refine zm_getr (a := b0 + 5) dX9_addKey_1 f_X9_28 (oX9 _ h0) (by decide) (by decide) (rX9_5 _ h0) ?_
  refine zr_iload_n dX9_addKey_4 rfl 1 rfl ?_
  obtain ⟨hq21, T⟩ := T
  refine zm_iald (n := 24) (o := (Int32.toNatClampNeg x1)) dX9_addKey_5 (aX _ (qX9_5 _ h0)) (lX _ (qX9_5 _ h0)) hq21 rfl ?_
  refine zr_if_ne (tgt := 16) dX9_addKey_6 (by decide) (fun h22 => ?_) (fun h22 => ?_)
  · have T := T.1 h22
    exact zV.pick [0, 1, 2] rfl T
  · have T := T.2 h22
    refine zr_aload_n dX9_addKey_9 rfl 0 rfl ?_
    refine zm_getr (a := b0 + 6) dX9_addKey_10 f_X9_31 (oX9 _ h0) (by decide) (by decide) (rX9_6 _ h0) ?_
    refine zr_iload_n dX9_addKey_13 rfl 1 rfl ?_
    refine zr_iload_n dX9_addKey_14 rfl 2 rfl ?_
    obtain ⟨hq23, T⟩ := T
    refine zn_iast (n := 24) (o := (Int32.toNatClampNeg x1)) dX9_addKey_15 (aX _ (qX9_6 _ h0)) (lX _ (qX9_6 _ h0)) hq23 rfl (fun M24 e25 => ?_)
    have T := T M24 e25
    exact zV.pick [0, 1, 2] rfl T
set_option maxRecDepth 100000 in
set_option maxHeartbeats 4000000 in
theorem t_X9_addKey_16 {d : Nat} {b0 : Nat} {x1 : Int32} {x2 : Int32} {M : zMem} {K : zK} (h0 : b0 ∈ iX9)
    (T : vp_in x1 24 ∧ ((∀ M22 : zMem, M22 = wI M (b0 + 7) (Int32.toNatClampNeg x1) x2 → vp_in x1 24 ∧ (vp_in x1 24 ∧ ((∀ M26 : zMem, M26 = wI M22 (b0 + 5) (Int32.toNatClampNeg x1) ((M22.1 (b0 + 5) (Int32.toNatClampNeg x1)) + 1) → vp_in x2 24 ∧ ((∀ M29 : zMem, M29 = wI M26 (b0 + 11) (Int32.toNatClampNeg x2) x1 → K none M29)))))))) : S_X9_addKey_16 d b0 x1 x2 M K := by
  show zV m_X9_addKey d 16 [(0, .ref b0), (1, .int x1), (2, .int x2)] [] M K
  refine zr_aload_n dX9_addKey_16 rfl 0 rfl ?_
  refine zm_getr (a := b0 + 7) dX9_addKey_17 f_X9_34 (oX9 _ h0) (by decide) (by decide) (rX9_7 _ h0) ?_
  refine zr_iload_n dX9_addKey_20 rfl 1 rfl ?_
  refine zr_iload_n dX9_addKey_21 rfl 2 rfl ?_
  obtain ⟨hq21, T⟩ := T
  refine zn_iast (n := 24) (o := (Int32.toNatClampNeg x1)) dX9_addKey_22 (aX _ (qX9_7 _ h0)) (lX _ (qX9_7 _ h0)) hq21 rfl (fun M22 e23 => ?_)
  have T := T M22 e23
  refine zr_aload_n dX9_addKey_23 rfl 0 rfl ?_
  refine zm_getr (a := b0 + 5) dX9_addKey_24 f_X9_28 (oX9 _ h0) (by decide) (by decide) (rX9_5 _ h0) ?_
  refine zr_iload_n dX9_addKey_27 rfl 1 rfl ?_
  refine zr_dup2 dX9_addKey_28 rfl rfl ?_
  obtain ⟨hq24, T⟩ := T
  refine zm_iald (n := 24) (o := (Int32.toNatClampNeg x1)) dX9_addKey_29 (aX _ (qX9_5 _ h0)) (lX _ (qX9_5 _ h0)) hq24 rfl ?_
  refine zr_iconst (v := 1) dX9_addKey_30 (by decide) ?_
  refine zr_iadd dX9_addKey_31 ?_
  obtain ⟨hq25, T⟩ := T
  refine zn_iast (n := 24) (o := (Int32.toNatClampNeg x1)) dX9_addKey_32 (aX _ (qX9_5 _ h0)) (lX _ (qX9_5 _ h0)) hq25 rfl (fun M26 e27 => ?_)
  have T := T M26 e27
  refine zr_aload_n dX9_addKey_33 rfl 0 rfl ?_
  refine zm_getr (a := b0 + 11) dX9_addKey_34 f_X9_46 (oX9 _ h0) (by decide) (by decide) (rX9_11 _ h0) ?_
  refine zr_iload_n dX9_addKey_37 rfl 2 rfl ?_
  refine zr_iload_n dX9_addKey_38 rfl 1 rfl ?_
  obtain ⟨hq28, T⟩ := T
  refine zn_iast (n := 24) (o := (Int32.toNatClampNeg x2)) dX9_addKey_39 (aX _ (qX9_11 _ h0)) (lX _ (qX9_11 _ h0)) hq28 rfl (fun M29 e30 => ?_)
  have T := T M29 e30
  exact zm_vret dX9_addKey_40 rfl T
set_option maxRecDepth 100000 in
set_option maxHeartbeats 4000000 in
theorem t_X3_isGone {d : Nat} {b0 : Nat} {x1 : Int32} {x2 : Int32} {M : zMem} {K : zK} (h0 : b0 ∈ iX3)
    (T : S_X3_has d b0 x1 x2 M (zB (fun r21 M22 => (r21 = false → K (some (.int 0)) M22) ∧ (r21 = true → S_X3_valueOf d b0 x1 x2 M22 (zI (fun r24 M25 => (¬ r24 = (-1) → K (some (.int 0)) M25) ∧ (r24 = (-1) → K (some (.int 1)) M25))))))) : S_X3_isGone (d + 1) b0 x1 x2 M K := by
  show zV m_X3_isGone (d + 1) 0 [(0, .ref b0), (1, .int x1), (2, .int x2)] [] M K
  refine zr_aload_n dX3_isGone_0 rfl 0 rfl ?_
  refine zr_iload_n dX3_isGone_1 rfl 1 rfl ?_
  refine zr_iload_n dX3_isGone_2 rfl 2 rfl ?_
  refine zm_callV_b (c := 3) (b := b0) dX3_isGone_3 w_X3_has l_X3_40 rfl (oX3 _ h0) (by decide) s_X3_has [.int x1, .int x2] rfl rfl (Nat.le_of_ble_eq_true rfl) (Nat.le_of_ble_eq_true rfl) ?_
  refine zV.post T ?_
  rintro v M22 ⟨r21, rfl, T⟩
  refine ⟨r21, rfl, ?_⟩
  refine zm_ifb_eq (tgt := 23) dX3_isGone_6 (by decide) (fun h23 => ?_) (fun h23 => ?_)
  · have T := T.1 h23
    refine zr_iconst (v := 0) dX3_isGone_23 (by decide) ?_
    exact zm_zret dX3_isGone_24 rfl (by decide) T
  · have T := T.2 h23
    refine zr_aload_n dX3_isGone_9 rfl 0 rfl ?_
    refine zr_iload_n dX3_isGone_10 rfl 1 rfl ?_
    refine zr_iload_n dX3_isGone_11 rfl 2 rfl ?_
    refine zm_callV_i (c := 3) (b := b0) dX3_isGone_12 w_X3_valueOf l_X3_44 rfl (oX3 _ h0) (by decide) s_X3_valueOf [.int x1, .int x2] rfl rfl (Nat.le_of_ble_eq_true rfl) (Nat.le_of_ble_eq_true rfl) ?_
    refine zV.post T ?_
    rintro v M25 ⟨r24, rfl, T⟩
    refine ⟨r24, rfl, ?_⟩
    refine zr_iconst (v := (-1)) dX3_isGone_15 (by decide) ?_
    refine zr_icmp_ne (tgt := 23) dX3_isGone_16 (by decide) (fun h26 => ?_) (fun h26 => ?_)
    · have T := T.1 h26
      refine zr_iconst (v := 0) dX3_isGone_23 (by decide) ?_
      exact zm_zret dX3_isGone_24 rfl (by decide) T
    · have T := T.2 h26
      refine zr_iconst (v := 1) dX3_isGone_19 (by decide) ?_
      refine zr_goto (tgt := 24) dX3_isGone_20 (by decide) ?_
      exact zm_zret dX3_isGone_24 rfl (by decide) T
set_option maxRecDepth 100000 in
set_option maxHeartbeats 4000000 in
theorem t_X3_isSame {d : Nat} {b0 : Nat} {x1 : Int32} {x2 : Int32} {x3 : Int32} {M : zMem} {K : zK} (h0 : b0 ∈ iX3)
    (T : S_X3_stampOf d b0 x1 x3 M (zI (fun r21 M22 => S_X3_stampOf d b0 x2 x3 M22 (zI (fun r23 M24 => (¬ r21 = r23 → K (some (.int 0)) M24) ∧ (r21 = r23 → S_X3_has d b0 x1 x3 M24 (zB (fun r26 M27 => (r26 = false → K (some (.int 1)) M27) ∧ (r26 = true → S_X3_valueOf d b0 x1 x3 M27 (zI (fun r29 M30 => S_X3_valueOf d b0 x2 x3 M30 (zI (fun r31 M32 => (¬ r29 = r31 → K (some (.int 0)) M32) ∧ (r29 = r31 → K (some (.int 1)) M32)))))))))))))) : S_X3_isSame (d + 1) b0 x1 x2 x3 M K := by
  show zV m_X3_isSame (d + 1) 0 [(0, .ref b0), (1, .int x1), (2, .int x2), (3, .int x3)] [] M K
  refine zr_aload_n dX3_isSame_0 rfl 0 rfl ?_
  refine zr_iload_n dX3_isSame_1 rfl 1 rfl ?_
  refine zr_iload_n dX3_isSame_2 rfl 3 rfl ?_
  refine zm_callV_i (c := 3) (b := b0) dX3_isSame_3 w_X3_stampOf l_X3_53 rfl (oX3 _ h0) (by decide) s_X3_stampOf [.int x1, .int x3] rfl rfl (Nat.le_of_ble_eq_true rfl) (Nat.le_of_ble_eq_true rfl) ?_
  refine zV.post T ?_
  rintro v M22 ⟨r21, rfl, T⟩
  refine ⟨r21, rfl, ?_⟩
  refine zr_aload_n dX3_isSame_6 rfl 0 rfl ?_
  refine zr_iload_n dX3_isSame_7 rfl 2 rfl ?_
  refine zr_iload_n dX3_isSame_8 rfl 3 rfl ?_
  refine zm_callV_i (c := 3) (b := b0) dX3_isSame_9 w_X3_stampOf l_X3_53 rfl (oX3 _ h0) (by decide) s_X3_stampOf [.int x2, .int x3] rfl rfl (Nat.le_of_ble_eq_true rfl) (Nat.le_of_ble_eq_true rfl) ?_
  refine zV.post T ?_
  rintro v M24 ⟨r23, rfl, T⟩
  refine ⟨r23, rfl, ?_⟩
  refine zr_icmp_ne (tgt := 43) dX3_isSame_12 (by decide) (fun h25 => ?_) (fun h25 => ?_)
  · have T := T.1 h25
    refine zr_iconst (v := 0) dX3_isSame_43 (by decide) ?_
    exact zm_zret dX3_isSame_44 rfl (by decide) T
  · have T := T.2 h25
    refine zr_aload_n dX3_isSame_15 rfl 0 rfl ?_
    refine zr_iload_n dX3_isSame_16 rfl 1 rfl ?_
    refine zr_iload_n dX3_isSame_17 rfl 3 rfl ?_
    refine zm_callV_b (c := 3) (b := b0) dX3_isSame_18 w_X3_has l_X3_40 rfl (oX3 _ h0) (by decide) s_X3_has [.int x1, .int x3] rfl rfl (Nat.le_of_ble_eq_true rfl) (Nat.le_of_ble_eq_true rfl) ?_
    refine zV.post T ?_
    rintro v M27 ⟨r26, rfl, T⟩
    refine ⟨r26, rfl, ?_⟩
    refine zm_ifb_eq (tgt := 39) dX3_isSame_21 (by decide) (fun h28 => ?_) (fun h28 => ?_)
    · have T := T.1 h28
      refine zr_iconst (v := 1) dX3_isSame_39 (by decide) ?_
      refine zr_goto (tgt := 44) dX3_isSame_40 (by decide) ?_
      exact zm_zret dX3_isSame_44 rfl (by decide) T
    · have T := T.2 h28
      refine zr_aload_n dX3_isSame_24 rfl 0 rfl ?_
      refine zr_iload_n dX3_isSame_25 rfl 1 rfl ?_
      refine zr_iload_n dX3_isSame_26 rfl 3 rfl ?_
      refine zm_callV_i (c := 3) (b := b0) dX3_isSame_27 w_X3_valueOf l_X3_44 rfl (oX3 _ h0) (by decide) s_X3_valueOf [.int x1, .int x3] rfl rfl (Nat.le_of_ble_eq_true rfl) (Nat.le_of_ble_eq_true rfl) ?_
      refine zV.post T ?_
      rintro v M30 ⟨r29, rfl, T⟩
      refine ⟨r29, rfl, ?_⟩
      refine zr_aload_n dX3_isSame_30 rfl 0 rfl ?_
      refine zr_iload_n dX3_isSame_31 rfl 2 rfl ?_
      refine zr_iload_n dX3_isSame_32 rfl 3 rfl ?_
      refine zm_callV_i (c := 3) (b := b0) dX3_isSame_33 w_X3_valueOf l_X3_44 rfl (oX3 _ h0) (by decide) s_X3_valueOf [.int x2, .int x3] rfl rfl (Nat.le_of_ble_eq_true rfl) (Nat.le_of_ble_eq_true rfl) ?_
      refine zV.post T ?_
      rintro v M32 ⟨r31, rfl, T⟩
      refine ⟨r31, rfl, ?_⟩
      refine zr_icmp_ne (tgt := 43) dX3_isSame_36 (by decide) (fun h33 => ?_) (fun h33 => ?_)
      · have T := T.1 h33
        refine zr_iconst (v := 0) dX3_isSame_43 (by decide) ?_
        exact zm_zret dX3_isSame_44 rfl (by decide) T
      · have T := T.2 h33
        refine zr_iconst (v := 1) dX3_isSame_39 (by decide) ?_
        refine zr_goto (tgt := 44) dX3_isSame_40 (by decide) ?_
        exact zm_zret dX3_isSame_44 rfl (by decide) T
set_option maxRecDepth 100000 in
set_option maxHeartbeats 4000000 in
theorem t_X9_hasDigest {d : Nat} {b0 : Nat} {x1 : Int32} {M : zMem} {K : zK} (h0 : b0 ∈ iX9)
    (T : S_X9_hasDigest_2 d b0 x1 0 M K) : S_X9_hasDigest d b0 x1 M K := by
  show zV m_X9_hasDigest d 0 [(0, .ref b0), (1, .int x1)] [] M K
  refine zr_iconst (v := 0) dX9_hasDigest_0 (by decide) ?_
  refine zr_istore_n dX9_hasDigest_1 rfl (by decide) (L2 := [(2, .int 0), (0, .ref b0), (1, .int x1)]) rfl ?_
  exact zV.pick [1, 2, 0] rfl T
set_option maxRecDepth 100000 in
set_option maxHeartbeats 4000000 in
theorem t_X9_hasDigest_2 {d : Nat} {b0 : Nat} {x1 : Int32} {x2 : Int32} {M : zMem} {K : zK} (h0 : b0 ∈ iX9)
    (T : ((M.1 b0 12) ≤ x2 → K (some (.int 0)) M) ∧ (¬ ((M.1 b0 12) ≤ x2) → vp_in x2 24 ∧ ((¬ (M.1 (b0 + 10) (Int32.toNatClampNeg x2)) = x1 → S_X9_hasDigest_2 d b0 x1 (x2 + 1) M K) ∧ ((M.1 (b0 + 10) (Int32.toNatClampNeg x2)) = x1 → K (some (.int 1)) M)))) : S_X9_hasDigest_2 d b0 x1 x2 M K := by
  show zV m_X9_hasDigest d 2 [(0, .ref b0), (1, .int x1), (2, .int x2)] [] M K
  refine zr_iload_n dX9_hasDigest_2 rfl 2 rfl ?_
  refine zr_aload_n dX9_hasDigest_3 rfl 0 rfl ?_
  refine zm_geti dX9_hasDigest_4 f_X9_49 (oX9 _ h0) (by decide) (by decide) ?_
  refine zr_icmp_ge (tgt := 28) dX9_hasDigest_7 (by decide) (fun h21 => ?_) (fun h21 => ?_)
  · have T := T.1 h21
    refine zr_iconst (v := 0) dX9_hasDigest_28 (by decide) ?_
    exact zm_zret dX9_hasDigest_29 rfl (by decide) T
  · have T := T.2 h21
    refine zr_aload_n dX9_hasDigest_10 rfl 0 rfl ?_
    refine zm_getr (a := b0 + 10) dX9_hasDigest_11 f_X9_43 (oX9 _ h0) (by decide) (by decide) (rX9_10 _ h0) ?_
    refine zr_iload_n dX9_hasDigest_14 rfl 2 rfl ?_
    obtain ⟨hq22, T⟩ := T
    refine zm_iald (n := 24) (o := (Int32.toNatClampNeg x2)) dX9_hasDigest_15 (aX _ (qX9_10 _ h0)) (lX _ (qX9_10 _ h0)) hq22 rfl ?_
    refine zr_iload_n dX9_hasDigest_16 rfl 1 rfl ?_
    refine zr_icmp_ne (tgt := 22) dX9_hasDigest_17 (by decide) (fun h23 => ?_) (fun h23 => ?_)
    · have T := T.1 h23
      refine zr_iinc (n := 2) (v := x2 + 1) dX9_hasDigest_22 rfl rfl (by decide) (L2 := [(2, .int (x2 + 1)), (0, .ref b0), (1, .int x1)]) rfl ?_
      refine zr_goto (tgt := 2) dX9_hasDigest_25 (by decide) ?_
      exact zV.pick [1, 2, 0] rfl T
    · have T := T.2 h23
      refine zr_iconst (v := 1) dX9_hasDigest_20 (by decide) ?_
      exact zm_zret dX9_hasDigest_21 rfl (by decide) T
set_option maxRecDepth 100000 in
set_option maxHeartbeats 4000000 in
theorem t_X3_take {d : Nat} {b0 : Nat} {x1 : Int32} {x2 : Int32} {x3 : Int32} {M : zMem} {K : zK} (h0 : b0 ∈ iX3)
    (T : S_X3_valueOf d b0 x2 x3 M (zI (fun r21 M22 => vp_in ((x1 * 24) + x3) 96 ∧ ((∀ M24 : zMem, M24 = wI M22 (b0 + 1) (Int32.toNatClampNeg ((x1 * 24) + x3)) r21 → S_X3_stampOf d b0 x2 x3 M24 (zI (fun r26 M27 => vp_in ((x1 * 24) + x3) 96 ∧ ((∀ M29 : zMem, M29 = wI M27 (b0 + 2) (Int32.toNatClampNeg ((x1 * 24) + x3)) r26 → K none M29))))))))) : S_X3_take (d + 1) b0 x1 x2 x3 M K := by
  show zV m_X3_take (d + 1) 0 [(0, .ref b0), (1, .int x1), (2, .int x2), (3, .int x3)] [] M K
  refine zr_aload_n dX3_take_0 rfl 0 rfl ?_
  refine zm_getr (a := b0 + 1) dX3_take_1 f_X3_9 (oX3 _ h0) (by decide) (by decide) (rX3_0 _ h0) ?_
  refine zr_iload_n dX3_take_4 rfl 1 rfl ?_
  refine zr_bipush (v := 24) dX3_take_5 (by decide) ?_
  refine zr_imul dX3_take_7 ?_
  refine zr_iload_n dX3_take_8 rfl 3 rfl ?_
  refine zr_iadd dX3_take_9 ?_
  refine zr_aload_n dX3_take_10 rfl 0 rfl ?_
  refine zr_iload_n dX3_take_11 rfl 2 rfl ?_
  refine zr_iload_n dX3_take_12 rfl 3 rfl ?_
  refine zm_callV_i (c := 3) (b := b0) dX3_take_13 w_X3_valueOf l_X3_44 rfl (oX3 _ h0) (by decide) s_X3_valueOf [.int x2, .int x3] rfl rfl (Nat.le_of_ble_eq_true rfl) (Nat.le_of_ble_eq_true rfl) ?_
  refine zV.post T ?_
  rintro v M22 ⟨r21, rfl, T⟩
  refine ⟨r21, rfl, ?_⟩
  obtain ⟨hq23, T⟩ := T
  refine zn_iast (n := 96) (o := (Int32.toNatClampNeg ((x1 * 24) + x3))) dX3_take_16 (aX _ (qX3_0 _ h0)) (lX _ (qX3_0 _ h0)) hq23 rfl (fun M24 e25 => ?_)
  have T := T M24 e25
  refine zr_aload_n dX3_take_17 rfl 0 rfl ?_
  refine zm_getr (a := b0 + 2) dX3_take_18 f_X3_15 (oX3 _ h0) (by decide) (by decide) (rX3_1 _ h0) ?_
  refine zr_iload_n dX3_take_21 rfl 1 rfl ?_
  refine zr_bipush (v := 24) dX3_take_22 (by decide) ?_
  refine zr_imul dX3_take_24 ?_
  refine zr_iload_n dX3_take_25 rfl 3 rfl ?_
  refine zr_iadd dX3_take_26 ?_
  refine zr_aload_n dX3_take_27 rfl 0 rfl ?_
  refine zr_iload_n dX3_take_28 rfl 2 rfl ?_
  refine zr_iload_n dX3_take_29 rfl 3 rfl ?_
  refine zm_callV_i (c := 3) (b := b0) dX3_take_30 w_X3_stampOf l_X3_53 rfl (oX3 _ h0) (by decide) s_X3_stampOf [.int x2, .int x3] rfl rfl (Nat.le_of_ble_eq_true rfl) (Nat.le_of_ble_eq_true rfl) ?_
  refine zV.post T ?_
  rintro v M27 ⟨r26, rfl, T⟩
  refine ⟨r26, rfl, ?_⟩
  obtain ⟨hq28, T⟩ := T
  refine zn_iast (n := 96) (o := (Int32.toNatClampNeg ((x1 * 24) + x3))) dX3_take_33 (aX _ (qX3_1 _ h0)) (lX _ (qX3_1 _ h0)) hq28 rfl (fun M29 e30 => ?_)
  have T := T M29 e30
  exact zm_vret dX3_take_34 rfl T
set_option maxRecDepth 100000 in
set_option maxHeartbeats 4000000 in
theorem t_X9_copyFrom {d : Nat} {b0 : Nat} {b1 : Nat} {M : zMem} {K : zK} (h0 : b0 ∈ iX9) (h1 : b1 ∈ iX9)
    (T : (∀ M21 : zMem, M21 = wI M b0 3 (M.1 b1 3) → (∀ M23 : zMem, M23 = wI M21 b0 12 (M21.1 b1 12) → (∀ M25 : zMem, M25 = cI M23 (b1 + 1) 0 (b0 + 1) 0 24 → (∀ M27 : zMem, M27 = cI M25 (b1 + 4) 0 (b0 + 4) 0 24 → (∀ M29 : zMem, M29 = cI M27 (b1 + 5) 0 (b0 + 5) 0 24 → (∀ M31 : zMem, M31 = cI M29 (b1 + 6) 0 (b0 + 6) 0 24 → (∀ M33 : zMem, M33 = cI M31 (b1 + 7) 0 (b0 + 7) 0 24 → (∀ M35 : zMem, M35 = cI M33 (b1 + 8) 0 (b0 + 8) 0 24 → (∀ M37 : zMem, M37 = cI M35 (b1 + 9) 0 (b0 + 9) 0 24 → (∀ M39 : zMem, M39 = cI M37 (b1 + 10) 0 (b0 + 10) 0 24 → (∀ M41 : zMem, M41 = cI M39 (b1 + 11) 0 (b0 + 11) 0 24 → K none M41)))))))))))) : S_X9_copyFrom (d + 1) b0 b1 M K := by
  show zV m_X9_copyFrom (d + 1) 0 [(0, .ref b0), (1, .ref b1)] [] M K
  refine zr_aload_n dX9_copyFrom_0 rfl 0 rfl ?_
  refine zr_aload_n dX9_copyFrom_1 rfl 1 rfl ?_
  refine zm_geti dX9_copyFrom_2 f_X9_21 (oX9 _ h1) (by decide) (by decide) ?_
  refine zn_puti dX9_copyFrom_5 f_X9_21 (oX9 _ h0) (by decide) (by decide) (fun M21 e22 => ?_)
  have T := T M21 e22
  refine zr_aload_n dX9_copyFrom_8 rfl 0 rfl ?_
  refine zr_aload_n dX9_copyFrom_9 rfl 1 rfl ?_
  refine zm_geti dX9_copyFrom_10 f_X9_49 (oX9 _ h1) (by decide) (by decide) ?_
  refine zn_puti dX9_copyFrom_13 f_X9_49 (oX9 _ h0) (by decide) (by decide) (fun M23 e24 => ?_)
  have T := T M23 e24
  refine zr_aload_n dX9_copyFrom_16 rfl 1 rfl ?_
  refine zm_getr (a := b1 + 1) dX9_copyFrom_17 f_X9_9 (oX9 _ h1) (by decide) (by decide) (rX9_0 _ h1) ?_
  refine zr_iconst (v := 0) dX9_copyFrom_20 (by decide) ?_
  refine zr_aload_n dX9_copyFrom_21 rfl 0 rfl ?_
  refine zm_getr (a := b0 + 1) dX9_copyFrom_22 f_X9_9 (oX9 _ h0) (by decide) (by decide) (rX9_0 _ h0) ?_
  refine zr_iconst (v := 0) dX9_copyFrom_25 (by decide) ?_
  refine zr_bipush (v := 24) dX9_copyFrom_26 (by decide) ?_
  refine zn_copyi (n0 := 24) (n1 := 24) (s1 := 0) (d1 := 0) (m1 := 24) dX9_copyFrom_28 l_X9_52 zcpw (aX _ (qX9_0 _ h1)) (lX _ (qX9_0 _ h1)) (aX _ (qX9_0 _ h0)) (lX _ (qX9_0 _ h0)) (by decide) (by decide) (by decide) (by decide) (Nat.le_of_ble_eq_true rfl) (fun M25 e26 => ?_)
  have T := T M25 e26
  refine zr_aload_n dX9_copyFrom_31 rfl 1 rfl ?_
  refine zm_getr (a := b1 + 4) dX9_copyFrom_32 f_X9_25 (oX9 _ h1) (by decide) (by decide) (rX9_4 _ h1) ?_
  refine zr_iconst (v := 0) dX9_copyFrom_35 (by decide) ?_
  refine zr_aload_n dX9_copyFrom_36 rfl 0 rfl ?_
  refine zm_getr (a := b0 + 4) dX9_copyFrom_37 f_X9_25 (oX9 _ h0) (by decide) (by decide) (rX9_4 _ h0) ?_
  refine zr_iconst (v := 0) dX9_copyFrom_40 (by decide) ?_
  refine zr_bipush (v := 24) dX9_copyFrom_41 (by decide) ?_
  refine zn_copyi (n0 := 24) (n1 := 24) (s1 := 0) (d1 := 0) (m1 := 24) dX9_copyFrom_43 l_X9_52 zcpw (aX _ (qX9_4 _ h1)) (lX _ (qX9_4 _ h1)) (aX _ (qX9_4 _ h0)) (lX _ (qX9_4 _ h0)) (by decide) (by decide) (by decide) (by decide) (Nat.le_of_ble_eq_true rfl) (fun M27 e28 => ?_)
  have T := T M27 e28
  refine zr_aload_n dX9_copyFrom_46 rfl 1 rfl ?_
  refine zm_getr (a := b1 + 5) dX9_copyFrom_47 f_X9_28 (oX9 _ h1) (by decide) (by decide) (rX9_5 _ h1) ?_
  refine zr_iconst (v := 0) dX9_copyFrom_50 (by decide) ?_
  refine zr_aload_n dX9_copyFrom_51 rfl 0 rfl ?_
  refine zm_getr (a := b0 + 5) dX9_copyFrom_52 f_X9_28 (oX9 _ h0) (by decide) (by decide) (rX9_5 _ h0) ?_
  refine zr_iconst (v := 0) dX9_copyFrom_55 (by decide) ?_
  refine zr_bipush (v := 24) dX9_copyFrom_56 (by decide) ?_
  refine zn_copyi (n0 := 24) (n1 := 24) (s1 := 0) (d1 := 0) (m1 := 24) dX9_copyFrom_58 l_X9_52 zcpw (aX _ (qX9_5 _ h1)) (lX _ (qX9_5 _ h1)) (aX _ (qX9_5 _ h0)) (lX _ (qX9_5 _ h0)) (by decide) (by decide) (by decide) (by decide) (Nat.le_of_ble_eq_true rfl) (fun M29 e30 => ?_)
  have T := T M29 e30
  refine zr_aload_n dX9_copyFrom_61 rfl 1 rfl ?_
  refine zm_getr (a := b1 + 6) dX9_copyFrom_62 f_X9_31 (oX9 _ h1) (by decide) (by decide) (rX9_6 _ h1) ?_
  refine zr_iconst (v := 0) dX9_copyFrom_65 (by decide) ?_
  refine zr_aload_n dX9_copyFrom_66 rfl 0 rfl ?_
  refine zm_getr (a := b0 + 6) dX9_copyFrom_67 f_X9_31 (oX9 _ h0) (by decide) (by decide) (rX9_6 _ h0) ?_
  refine zr_iconst (v := 0) dX9_copyFrom_70 (by decide) ?_
  refine zr_bipush (v := 24) dX9_copyFrom_71 (by decide) ?_
  refine zn_copyi (n0 := 24) (n1 := 24) (s1 := 0) (d1 := 0) (m1 := 24) dX9_copyFrom_73 l_X9_52 zcpw (aX _ (qX9_6 _ h1)) (lX _ (qX9_6 _ h1)) (aX _ (qX9_6 _ h0)) (lX _ (qX9_6 _ h0)) (by decide) (by decide) (by decide) (by decide) (Nat.le_of_ble_eq_true rfl) (fun M31 e32 => ?_)
  have T := T M31 e32
  refine zr_aload_n dX9_copyFrom_76 rfl 1 rfl ?_
  refine zm_getr (a := b1 + 7) dX9_copyFrom_77 f_X9_34 (oX9 _ h1) (by decide) (by decide) (rX9_7 _ h1) ?_
  refine zr_iconst (v := 0) dX9_copyFrom_80 (by decide) ?_
  refine zr_aload_n dX9_copyFrom_81 rfl 0 rfl ?_
  refine zm_getr (a := b0 + 7) dX9_copyFrom_82 f_X9_34 (oX9 _ h0) (by decide) (by decide) (rX9_7 _ h0) ?_
  refine zr_iconst (v := 0) dX9_copyFrom_85 (by decide) ?_
  refine zr_bipush (v := 24) dX9_copyFrom_86 (by decide) ?_
  refine zn_copyi (n0 := 24) (n1 := 24) (s1 := 0) (d1 := 0) (m1 := 24) dX9_copyFrom_88 l_X9_52 zcpw (aX _ (qX9_7 _ h1)) (lX _ (qX9_7 _ h1)) (aX _ (qX9_7 _ h0)) (lX _ (qX9_7 _ h0)) (by decide) (by decide) (by decide) (by decide) (Nat.le_of_ble_eq_true rfl) (fun M33 e34 => ?_)
  have T := T M33 e34
  refine zr_aload_n dX9_copyFrom_91 rfl 1 rfl ?_
  refine zm_getr (a := b1 + 8) dX9_copyFrom_92 f_X9_37 (oX9 _ h1) (by decide) (by decide) (rX9_8 _ h1) ?_
  refine zr_iconst (v := 0) dX9_copyFrom_95 (by decide) ?_
  refine zr_aload_n dX9_copyFrom_96 rfl 0 rfl ?_
  refine zm_getr (a := b0 + 8) dX9_copyFrom_97 f_X9_37 (oX9 _ h0) (by decide) (by decide) (rX9_8 _ h0) ?_
  refine zr_iconst (v := 0) dX9_copyFrom_100 (by decide) ?_
  refine zr_bipush (v := 24) dX9_copyFrom_101 (by decide) ?_
  refine zn_copyi (n0 := 24) (n1 := 24) (s1 := 0) (d1 := 0) (m1 := 24) dX9_copyFrom_103 l_X9_52 zcpw (aX _ (qX9_8 _ h1)) (lX _ (qX9_8 _ h1)) (aX _ (qX9_8 _ h0)) (lX _ (qX9_8 _ h0)) (by decide) (by decide) (by decide) (by decide) (Nat.le_of_ble_eq_true rfl) (fun M35 e36 => ?_)
  have T := T M35 e36
  refine zr_aload_n dX9_copyFrom_106 rfl 1 rfl ?_
  refine zm_getr (a := b1 + 9) dX9_copyFrom_107 f_X9_40 (oX9 _ h1) (by decide) (by decide) (rX9_9 _ h1) ?_
  refine zr_iconst (v := 0) dX9_copyFrom_110 (by decide) ?_
  refine zr_aload_n dX9_copyFrom_111 rfl 0 rfl ?_
  refine zm_getr (a := b0 + 9) dX9_copyFrom_112 f_X9_40 (oX9 _ h0) (by decide) (by decide) (rX9_9 _ h0) ?_
  refine zr_iconst (v := 0) dX9_copyFrom_115 (by decide) ?_
  refine zr_bipush (v := 24) dX9_copyFrom_116 (by decide) ?_
  refine zn_copyi (n0 := 24) (n1 := 24) (s1 := 0) (d1 := 0) (m1 := 24) dX9_copyFrom_118 l_X9_52 zcpw (aX _ (qX9_9 _ h1)) (lX _ (qX9_9 _ h1)) (aX _ (qX9_9 _ h0)) (lX _ (qX9_9 _ h0)) (by decide) (by decide) (by decide) (by decide) (Nat.le_of_ble_eq_true rfl) (fun M37 e38 => ?_)
  have T := T M37 e38
  refine zr_aload_n dX9_copyFrom_121 rfl 1 rfl ?_
  refine zm_getr (a := b1 + 10) dX9_copyFrom_122 f_X9_43 (oX9 _ h1) (by decide) (by decide) (rX9_10 _ h1) ?_
  refine zr_iconst (v := 0) dX9_copyFrom_125 (by decide) ?_
  refine zr_aload_n dX9_copyFrom_126 rfl 0 rfl ?_
  refine zm_getr (a := b0 + 10) dX9_copyFrom_127 f_X9_43 (oX9 _ h0) (by decide) (by decide) (rX9_10 _ h0) ?_
  refine zr_iconst (v := 0) dX9_copyFrom_130 (by decide) ?_
  refine zr_bipush (v := 24) dX9_copyFrom_131 (by decide) ?_
  refine zn_copyi (n0 := 24) (n1 := 24) (s1 := 0) (d1 := 0) (m1 := 24) dX9_copyFrom_133 l_X9_52 zcpw (aX _ (qX9_10 _ h1)) (lX _ (qX9_10 _ h1)) (aX _ (qX9_10 _ h0)) (lX _ (qX9_10 _ h0)) (by decide) (by decide) (by decide) (by decide) (Nat.le_of_ble_eq_true rfl) (fun M39 e40 => ?_)
  have T := T M39 e40
  refine zr_aload_n dX9_copyFrom_136 rfl 1 rfl ?_
  refine zm_getr (a := b1 + 11) dX9_copyFrom_137 f_X9_46 (oX9 _ h1) (by decide) (by decide) (rX9_11 _ h1) ?_
  refine zr_iconst (v := 0) dX9_copyFrom_140 (by decide) ?_
  refine zr_aload_n dX9_copyFrom_141 rfl 0 rfl ?_
  refine zm_getr (a := b0 + 11) dX9_copyFrom_142 f_X9_46 (oX9 _ h0) (by decide) (by decide) (rX9_11 _ h0) ?_
  refine zr_iconst (v := 0) dX9_copyFrom_145 (by decide) ?_
  refine zr_bipush (v := 24) dX9_copyFrom_146 (by decide) ?_
  refine zn_copyi (n0 := 24) (n1 := 24) (s1 := 0) (d1 := 0) (m1 := 24) dX9_copyFrom_148 l_X9_52 zcpw (aX _ (qX9_11 _ h1)) (lX _ (qX9_11 _ h1)) (aX _ (qX9_11 _ h0)) (lX _ (qX9_11 _ h0)) (by decide) (by decide) (by decide) (by decide) (Nat.le_of_ble_eq_true rfl) (fun M41 e42 => ?_)
  have T := T M41 e42
  exact zm_vret dX9_copyFrom_151 rfl T
set_option maxRecDepth 100000 in
set_option maxHeartbeats 4000000 in
theorem t_X9_countMissing {d : Nat} {b0 : Nat} {b1 : Nat} {M : zMem} {K : zK} (h0 : b0 ∈ iX9) (h1 : b1 ∈ iX9)
    (T : S_X9_countMissing_4 (d + 1) b0 b1 0 0 M K) : S_X9_countMissing (d + 1) b0 b1 M K := by
  show zV m_X9_countMissing (d + 1) 0 [(0, .ref b0), (1, .ref b1)] [] M K
  refine zr_iconst (v := 0) dX9_countMissing_0 (by decide) ?_
  refine zr_istore_n dX9_countMissing_1 rfl (by decide) (L2 := [(2, .int 0), (0, .ref b0), (1, .ref b1)]) rfl ?_
  refine zr_iconst (v := 0) dX9_countMissing_2 (by decide) ?_
  refine zr_istore_n dX9_countMissing_3 rfl (by decide) (L2 := [(3, .int 0), (2, .int 0), (0, .ref b0), (1, .ref b1)]) rfl ?_
  exact zV.pick [2, 3, 1, 0] rfl T
set_option maxRecDepth 100000 in
set_option maxHeartbeats 4000000 in
theorem t_X9_countMissing_4 {d : Nat} {b0 : Nat} {b1 : Nat} {x2 : Int32} {x3 : Int32} {M : zMem} {K : zK} (h0 : b0 ∈ iX9) (h1 : b1 ∈ iX9)
    (T : ((M.1 b0 12) ≤ x3 → K (some (.int x2)) M) ∧ (¬ ((M.1 b0 12) ≤ x3) → vp_in x3 24 ∧ (S_X9_hasDigest d b1 (M.1 (b0 + 10) (Int32.toNatClampNeg x3)) M (zB (fun r23 M24 => (r23 = true → S_X9_countMissing_4 (d + 1) b0 b1 x2 (x3 + 1) M24 K) ∧ (r23 = false → S_X9_countMissing_4 (d + 1) b0 b1 (x2 + 1) (x3 + 1) M24 K)))))) : S_X9_countMissing_4 (d + 1) b0 b1 x2 x3 M K := by
  show zV m_X9_countMissing (d + 1) 4 [(0, .ref b0), (1, .ref b1), (2, .int x2), (3, .int x3)] [] M K
  refine zr_iload_n dX9_countMissing_4 rfl 3 rfl ?_
  refine zr_aload_n dX9_countMissing_5 rfl 0 rfl ?_
  refine zm_geti dX9_countMissing_6 f_X9_49 (oX9 _ h0) (by decide) (by decide) ?_
  refine zr_icmp_ge (tgt := 34) dX9_countMissing_9 (by decide) (fun h21 => ?_) (fun h21 => ?_)
  · have T := T.1 h21
    refine zr_iload_n dX9_countMissing_34 rfl 2 rfl ?_
    exact zm_iret dX9_countMissing_35 rfl T
  · have T := T.2 h21
    refine zr_aload_n dX9_countMissing_12 rfl 1 rfl ?_
    refine zr_aload_n dX9_countMissing_13 rfl 0 rfl ?_
    refine zm_getr (a := b0 + 10) dX9_countMissing_14 f_X9_43 (oX9 _ h0) (by decide) (by decide) (rX9_10 _ h0) ?_
    refine zr_iload_n dX9_countMissing_17 rfl 3 rfl ?_
    obtain ⟨hq22, T⟩ := T
    refine zm_iald (n := 24) (o := (Int32.toNatClampNeg x3)) dX9_countMissing_18 (aX _ (qX9_10 _ h0)) (lX _ (qX9_10 _ h0)) hq22 rfl ?_
    refine zm_callV_b (c := 9) (b := b1) dX9_countMissing_19 w_X9_hasDigest l_X9_101 rfl (oX9 _ h1) (by decide) s_X9_hasDigest [.int (M.1 (b0 + 10) (Int32.toNatClampNeg x3))] rfl rfl (Nat.le_of_ble_eq_true rfl) (Nat.le_of_ble_eq_true rfl) ?_
    refine zV.post T ?_
    rintro v M24 ⟨r23, rfl, T⟩
    refine ⟨r23, rfl, ?_⟩
    refine zm_ifb_ne (tgt := 28) dX9_countMissing_22 (by decide) (fun h25 => ?_) (fun h25 => ?_)
    · have T := T.1 h25
      refine zr_iinc (n := 3) (v := x3 + 1) dX9_countMissing_28 rfl rfl (by decide) (L2 := [(3, .int (x3 + 1)), (0, .ref b0), (1, .ref b1), (2, .int x2)]) rfl ?_
      refine zr_goto (tgt := 4) dX9_countMissing_31 (by decide) ?_
      exact zV.pick [1, 2, 3, 0] rfl T
    · have T := T.2 h25
      refine zr_iinc (n := 2) (v := x2 + 1) dX9_countMissing_25 rfl rfl (by decide) (L2 := [(2, .int (x2 + 1)), (0, .ref b0), (1, .ref b1), (3, .int x3)]) rfl ?_
      refine zr_iinc (n := 3) (v := x3 + 1) dX9_countMissing_28 rfl rfl (by decide) (L2 := [(3, .int (x3 + 1)), (2, .int (x2 + 1)), (0, .ref b0), (1, .ref b1)]) rfl ?_
      refine zr_goto (tgt := 4) dX9_countMissing_31 (by decide) ?_
      exact zV.pick [2, 3, 1, 0] rfl T
set_option maxRecDepth 100000 in
set_option maxHeartbeats 4000000 in
theorem t_X9_depthOf {d : Nat} {b0 : Nat} {x1 : Int32} {M : zMem} {K : zK} (h0 : b0 ∈ iX9)
    (T : vp_in x1 24 ∧ (S_X9_depthOf_9 d b0 0 (M.1 (b0 + 11) (Int32.toNatClampNeg x1)) M K)) : S_X9_depthOf d b0 x1 M K := by
  show zV m_X9_depthOf d 0 [(0, .ref b0), (1, .int x1)] [] M K
  refine zr_iconst (v := 0) dX9_depthOf_0 (by decide) ?_
  refine zr_istore_n dX9_depthOf_1 rfl (by decide) (L2 := [(2, .int 0), (0, .ref b0), (1, .int x1)]) rfl ?_
  refine zr_aload_n dX9_depthOf_2 rfl 1 rfl ?_
  refine zm_getr (a := b0 + 11) dX9_depthOf_3 f_X9_46 (oX9 _ h0) (by decide) (by decide) (rX9_11 _ h0) ?_
  refine zr_iload_n dX9_depthOf_6 rfl 2 rfl ?_
  obtain ⟨hq21, T⟩ := T
  refine zm_iald (n := 24) (o := (Int32.toNatClampNeg x1)) dX9_depthOf_7 (aX _ (qX9_11 _ h0)) (lX _ (qX9_11 _ h0)) hq21 rfl ?_
  refine zr_istore_n dX9_depthOf_8 rfl (by decide) (L2 := [(3, .int (M.1 (b0 + 11) (Int32.toNatClampNeg x1))), (2, .int 0), (0, .ref b0), (1, .int x1)]) rfl ?_
  exact zV.pick [2, 1, 0] rfl T
set_option maxRecDepth 100000 in
set_option maxHeartbeats 4000000 in
theorem t_X9_depthOf_9 {d : Nat} {b0 : Nat} {x2 : Int32} {x3 : Int32} {M : zMem} {K : zK} (h0 : b0 ∈ iX9)
    (T : (x3 = (-1) → K (some (.int x2)) M) ∧ (¬ (x3 = (-1)) → (24 ≤ x2 → K (some (.int x2)) M) ∧ (¬ (24 ≤ x2) → vp_in x3 24 ∧ (S_X9_depthOf_9 d b0 (x2 + 1) (M.1 (b0 + 9) (Int32.toNatClampNeg x3)) M K)))) : S_X9_depthOf_9 d b0 x2 x3 M K := by
  show zV m_X9_depthOf d 9 [(0, .ref b0), (2, .int x2), (3, .int x3)] [] M K
  refine zr_iload_n dX9_depthOf_9 rfl 2 rfl ?_
  refine zr_iconst (v := (-1)) dX9_depthOf_10 (by decide) ?_
  refine zr_icmp_eq (tgt := 33) dX9_depthOf_11 (by decide) (fun h21 => ?_) (fun h21 => ?_)
  · have T := T.1 h21
    refine zr_iload_n dX9_depthOf_33 rfl 1 rfl ?_
    exact zm_iret dX9_depthOf_34 rfl T
  · have T := T.2 h21
    refine zr_iload_n dX9_depthOf_14 rfl 1 rfl ?_
    refine zr_bipush (v := 24) dX9_depthOf_15 (by decide) ?_
    refine zr_icmp_ge (tgt := 33) dX9_depthOf_17 (by decide) (fun h22 => ?_) (fun h22 => ?_)
    · have T := T.1 h22
      refine zr_iload_n dX9_depthOf_33 rfl 1 rfl ?_
      exact zm_iret dX9_depthOf_34 rfl T
    · have T := T.2 h22
      refine zr_iinc (n := 1) (v := x2 + 1) dX9_depthOf_20 rfl rfl (by decide) (L2 := [(2, .int (x2 + 1)), (0, .ref b0), (3, .int x3)]) rfl ?_
      refine zr_aload_n dX9_depthOf_23 rfl 1 rfl ?_
      refine zm_getr (a := b0 + 9) dX9_depthOf_24 f_X9_40 (oX9 _ h0) (by decide) (by decide) (rX9_9 _ h0) ?_
      refine zr_iload_n dX9_depthOf_27 rfl 2 rfl ?_
      obtain ⟨hq23, T⟩ := T
      refine zm_iald (n := 24) (o := (Int32.toNatClampNeg x3)) dX9_depthOf_28 (aX _ (qX9_9 _ h0)) (lX _ (qX9_9 _ h0)) hq23 rfl ?_
      refine zr_istore_n dX9_depthOf_29 rfl (by decide) (L2 := [(3, .int (M.1 (b0 + 9) (Int32.toNatClampNeg x3))), (2, .int (x2 + 1)), (0, .ref b0)]) rfl ?_
      refine zr_goto (tgt := 9) dX9_depthOf_30 (by decide) ?_
      exact zV.pick [2, 1, 0] rfl T
set_option maxRecDepth 100000 in
set_option maxHeartbeats 4000000 in
theorem t_X3_firstCut {d : Nat} {b0 : Nat} {x1 : Int32} {M : zMem} {K : zK} (h0 : b0 ∈ iX3)
    (T : S_X3_firstCut_2 (d + 1) b0 x1 0 M K) : S_X3_firstCut (d + 1) b0 x1 M K := by
  show zV m_X3_firstCut (d + 1) 0 [(0, .ref b0), (1, .int x1)] [] M K
  refine zr_iconst (v := 0) dX3_firstCut_0 (by decide) ?_
  refine zr_istore_n dX3_firstCut_1 rfl (by decide) (L2 := [(2, .int 0), (0, .ref b0), (1, .int x1)]) rfl ?_
  exact zV.pick [1, 2, 0] rfl T
set_option maxRecDepth 100000 in
set_option maxHeartbeats 4000000 in
theorem t_X3_firstCut_2 {d : Nat} {b0 : Nat} {x1 : Int32} {x2 : Int32} {M : zMem} {K : zK} (h0 : b0 ∈ iX3)
    (T : (4 ≤ x2 → K (some (.int (-1))) M) ∧ (¬ (4 ≤ x2) → S_X3_areCut d b0 x1 x2 M (zB (fun r22 M23 => (r22 = false → S_X3_firstCut_2 (d + 1) b0 x1 (x2 + 1) M23 K) ∧ (r22 = true → K (some (.int x2)) M23))))) : S_X3_firstCut_2 (d + 1) b0 x1 x2 M K := by
  show zV m_X3_firstCut (d + 1) 2 [(0, .ref b0), (1, .int x1), (2, .int x2)] [] M K
  refine zr_iload_n dX3_firstCut_2 rfl 2 rfl ?_
  refine zr_iconst (v := 4) dX3_firstCut_3 (by decide) ?_
  refine zr_icmp_ge (tgt := 24) dX3_firstCut_4 (by decide) (fun h21 => ?_) (fun h21 => ?_)
  · have T := T.1 h21
    refine zr_iconst (v := (-1)) dX3_firstCut_24 (by decide) ?_
    exact zm_iret dX3_firstCut_25 rfl T
  · have T := T.2 h21
    refine zr_aload_n dX3_firstCut_7 rfl 0 rfl ?_
    refine zr_iload_n dX3_firstCut_8 rfl 1 rfl ?_
    refine zr_iload_n dX3_firstCut_9 rfl 2 rfl ?_
    refine zm_callV_b (c := 3) (b := b0) dX3_firstCut_10 w_X3_areCut l_X3_59 rfl (oX3 _ h0) (by decide) s_X3_areCut [.int x1, .int x2] rfl rfl (Nat.le_of_ble_eq_true rfl) (Nat.le_of_ble_eq_true rfl) ?_
    refine zV.post T ?_
    rintro v M23 ⟨r22, rfl, T⟩
    refine ⟨r22, rfl, ?_⟩
    refine zm_ifb_eq (tgt := 18) dX3_firstCut_13 (by decide) (fun h24 => ?_) (fun h24 => ?_)
    · have T := T.1 h24
      refine zr_iinc (n := 2) (v := x2 + 1) dX3_firstCut_18 rfl rfl (by decide) (L2 := [(2, .int (x2 + 1)), (0, .ref b0), (1, .int x1)]) rfl ?_
      refine zr_goto (tgt := 2) dX3_firstCut_21 (by decide) ?_
      exact zV.pick [1, 2, 0] rfl T
    · have T := T.2 h24
      refine zr_iload_n dX3_firstCut_16 rfl 2 rfl ?_
      exact zm_iret dX3_firstCut_17 rfl T
set_option maxRecDepth 100000 in
set_option maxHeartbeats 4000000 in
theorem t_X5_hasBoth {d : Nat} {b0 : Nat} {M : zMem} {K : zK} (h0 : b0 ∈ iX5)
    (T : ((M.1 b0 3) ≤ 0 → K (some (.int 0)) M) ∧ (¬ ((M.1 b0 3) ≤ 0) → ((M.1 b0 4) ≤ 0 → K (some (.int 0)) M) ∧ (¬ ((M.1 b0 4) ≤ 0) → K (some (.int 1)) M))) : S_X5_hasBoth d b0 M K := by
  show zV m_X5_hasBoth d 0 [(0, .ref b0)] [] M K
  refine zr_aload_n dX5_hasBoth_0 rfl 0 rfl ?_
  refine zm_geti dX5_hasBoth_1 f_X5_21 (oX5 _ h0) (by decide) (by decide) ?_
  refine zr_if_le (tgt := 18) dX5_hasBoth_4 (by decide) (fun h21 => ?_) (fun h21 => ?_)
  · have T := T.1 h21
    refine zr_iconst (v := 0) dX5_hasBoth_18 (by decide) ?_
    exact zm_zret dX5_hasBoth_19 rfl (by decide) T
  · have T := T.2 h21
    refine zr_aload_n dX5_hasBoth_7 rfl 0 rfl ?_
    refine zm_geti dX5_hasBoth_8 f_X5_24 (oX5 _ h0) (by decide) (by decide) ?_
    refine zr_if_le (tgt := 18) dX5_hasBoth_11 (by decide) (fun h22 => ?_) (fun h22 => ?_)
    · have T := T.1 h22
      refine zr_iconst (v := 0) dX5_hasBoth_18 (by decide) ?_
      exact zm_zret dX5_hasBoth_19 rfl (by decide) T
    · have T := T.2 h22
      refine zr_iconst (v := 1) dX5_hasBoth_14 (by decide) ?_
      refine zr_goto (tgt := 19) dX5_hasBoth_15 (by decide) ?_
      exact zm_zret dX5_hasBoth_19 rfl (by decide) T
set_option maxRecDepth 100000 in
set_option maxHeartbeats 4000000 in
theorem t_X9_tell {d : Nat} {b0 : Nat} {x1 : Int32} {x2 : Int32} {M : zMem} {K : zK} (h0 : b0 ∈ iX9)
    (T : (x2 = 0 → vp_in x1 24 ∧ (K (some (.int (M.1 (b0 + 4) (Int32.toNatClampNeg x1)))) M)) ∧ (x2 = 1 → vp_in x1 24 ∧ (K (some (.int (M.1 (b0 + 5) (Int32.toNatClampNeg x1)))) M)) ∧ (x2 = 2 → vp_in x1 24 ∧ (K (some (.int (M.1 (b0 + 6) (Int32.toNatClampNeg x1)))) M)) ∧ (x2 = 3 → vp_in x1 24 ∧ (K (some (.int (M.1 (b0 + 7) (Int32.toNatClampNeg x1)))) M)) ∧ (x2 = 4 → vp_in x1 24 ∧ (K (some (.int (M.1 (b0 + 8) (Int32.toNatClampNeg x1)))) M)) ∧ (x2 = 5 → vp_in x1 24 ∧ (K (some (.int (M.1 (b0 + 9) (Int32.toNatClampNeg x1)))) M)) ∧ (¬ x2 = 0 → ¬ x2 = 1 → ¬ x2 = 2 → ¬ x2 = 3 → ¬ x2 = 4 → ¬ x2 = 5 → vp_in x1 24 ∧ (K (some (.int (M.1 (b0 + 10) (Int32.toNatClampNeg x1)))) M))) : S_X9_tell d b0 x1 x2 M K := by
  show zV m_X9_tell d 0 [(0, .ref b0), (1, .int x1), (2, .int x2)] [] M K
  refine zr_iload_n dX9_tell_0 rfl 2 rfl ?_
  by_cases h28 : x2 = 0
  · have T := T.1 h28
    refine zr_tableIn (tgt := 40) dX9_tell_1 (by rw [h28]; decide) (by rw [h28]; decide) (by rw [h28]; rfl) (by decide) ?_
    refine zr_aload_n dX9_tell_40 rfl 0 rfl ?_
    refine zm_getr (a := b0 + 4) dX9_tell_41 f_X9_25 (oX9 _ h0) (by decide) (by decide) (rX9_4 _ h0) ?_
    refine zr_iload_n dX9_tell_44 rfl 1 rfl ?_
    obtain ⟨hq21, T⟩ := T
    refine zm_iald (n := 24) (o := (Int32.toNatClampNeg x1)) dX9_tell_45 (aX _ (qX9_4 _ h0)) (lX _ (qX9_4 _ h0)) hq21 rfl ?_
    exact zm_iret dX9_tell_46 rfl T
  by_cases h29 : x2 = 1
  · have T := T.2.1 h29
    refine zr_tableIn (tgt := 47) dX9_tell_1 (by rw [h29]; decide) (by rw [h29]; decide) (by rw [h29]; rfl) (by decide) ?_
    refine zr_aload_n dX9_tell_47 rfl 0 rfl ?_
    refine zm_getr (a := b0 + 5) dX9_tell_48 f_X9_28 (oX9 _ h0) (by decide) (by decide) (rX9_5 _ h0) ?_
    refine zr_iload_n dX9_tell_51 rfl 1 rfl ?_
    obtain ⟨hq22, T⟩ := T
    refine zm_iald (n := 24) (o := (Int32.toNatClampNeg x1)) dX9_tell_52 (aX _ (qX9_5 _ h0)) (lX _ (qX9_5 _ h0)) hq22 rfl ?_
    exact zm_iret dX9_tell_53 rfl T
  by_cases h30 : x2 = 2
  · have T := T.2.2.1 h30
    refine zr_tableIn (tgt := 54) dX9_tell_1 (by rw [h30]; decide) (by rw [h30]; decide) (by rw [h30]; rfl) (by decide) ?_
    refine zr_aload_n dX9_tell_54 rfl 0 rfl ?_
    refine zm_getr (a := b0 + 6) dX9_tell_55 f_X9_31 (oX9 _ h0) (by decide) (by decide) (rX9_6 _ h0) ?_
    refine zr_iload_n dX9_tell_58 rfl 1 rfl ?_
    obtain ⟨hq23, T⟩ := T
    refine zm_iald (n := 24) (o := (Int32.toNatClampNeg x1)) dX9_tell_59 (aX _ (qX9_6 _ h0)) (lX _ (qX9_6 _ h0)) hq23 rfl ?_
    exact zm_iret dX9_tell_60 rfl T
  by_cases h31 : x2 = 3
  · have T := T.2.2.2.1 h31
    refine zr_tableIn (tgt := 61) dX9_tell_1 (by rw [h31]; decide) (by rw [h31]; decide) (by rw [h31]; rfl) (by decide) ?_
    refine zr_aload_n dX9_tell_61 rfl 0 rfl ?_
    refine zm_getr (a := b0 + 7) dX9_tell_62 f_X9_34 (oX9 _ h0) (by decide) (by decide) (rX9_7 _ h0) ?_
    refine zr_iload_n dX9_tell_65 rfl 1 rfl ?_
    obtain ⟨hq24, T⟩ := T
    refine zm_iald (n := 24) (o := (Int32.toNatClampNeg x1)) dX9_tell_66 (aX _ (qX9_7 _ h0)) (lX _ (qX9_7 _ h0)) hq24 rfl ?_
    exact zm_iret dX9_tell_67 rfl T
  by_cases h32 : x2 = 4
  · have T := T.2.2.2.2.1 h32
    refine zr_tableIn (tgt := 68) dX9_tell_1 (by rw [h32]; decide) (by rw [h32]; decide) (by rw [h32]; rfl) (by decide) ?_
    refine zr_aload_n dX9_tell_68 rfl 0 rfl ?_
    refine zm_getr (a := b0 + 8) dX9_tell_69 f_X9_37 (oX9 _ h0) (by decide) (by decide) (rX9_8 _ h0) ?_
    refine zr_iload_n dX9_tell_72 rfl 1 rfl ?_
    obtain ⟨hq25, T⟩ := T
    refine zm_iald (n := 24) (o := (Int32.toNatClampNeg x1)) dX9_tell_73 (aX _ (qX9_8 _ h0)) (lX _ (qX9_8 _ h0)) hq25 rfl ?_
    exact zm_iret dX9_tell_74 rfl T
  by_cases h33 : x2 = 5
  · have T := T.2.2.2.2.2.1 h33
    refine zr_tableIn (tgt := 75) dX9_tell_1 (by rw [h33]; decide) (by rw [h33]; decide) (by rw [h33]; rfl) (by decide) ?_
    refine zr_aload_n dX9_tell_75 rfl 0 rfl ?_
    refine zm_getr (a := b0 + 9) dX9_tell_76 f_X9_40 (oX9 _ h0) (by decide) (by decide) (rX9_9 _ h0) ?_
    refine zr_iload_n dX9_tell_79 rfl 1 rfl ?_
    obtain ⟨hq26, T⟩ := T
    refine zm_iald (n := 24) (o := (Int32.toNatClampNeg x1)) dX9_tell_80 (aX _ (qX9_9 _ h0)) (lX _ (qX9_9 _ h0)) hq26 rfl ?_
    exact zm_iret dX9_tell_81 rfl T
  · have T := T.2.2.2.2.2.2 h28 h29 h30 h31 h32 h33
    refine zr_tableOut (tgt := 82) dX9_tell_1 (z_out_0_5 h28 h29 h30 h31 h32 h33) (by decide) ?_
    refine zr_aload_n dX9_tell_82 rfl 0 rfl ?_
    refine zm_getr (a := b0 + 10) dX9_tell_83 f_X9_43 (oX9 _ h0) (by decide) (by decide) (rX9_10 _ h0) ?_
    refine zr_iload_n dX9_tell_86 rfl 1 rfl ?_
    obtain ⟨hq27, T⟩ := T
    refine zm_iald (n := 24) (o := (Int32.toNatClampNeg x1)) dX9_tell_87 (aX _ (qX9_10 _ h0)) (lX _ (qX9_10 _ h0)) hq27 rfl ?_
    exact zm_iret dX9_tell_88 rfl T
