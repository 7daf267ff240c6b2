-- ===== the larger constructors =====
theorem zy_0 : Cond.code yX4_init cX4_init 3 none ∈ z_good := z_int1 187 (by decide +kernel) (by decide +kernel)
theorem zy_1 : Cond.initialized RX4 ∈ z_good := z_int1 6 (by decide +kernel) (by decide +kernel)
theorem zy_2 : Cond.instanceMethod yX4_init ∈ z_good := z_int1 186 (by decide +kernel) (by decide +kernel)
theorem zy_3 : Cond.methodLink RX4 3 Lib.objectInit ∈ z_good := z_int1 188 (by decide +kernel) (by decide +kernel)
theorem zy_4 : Cond.classLink RX4 9 RX9 ∈ z_good := z_int1 189 (by decide +kernel) (by decide +kernel)
theorem zao_0 : Cond.arrayOver (.object RX9) ∈ lw_tbl := by
  have h : Cond.arrayOver (.object RX9) ∈ tables_1_1 := List.mem_of_getElem? (i := 190) (by decide +kernel)
  exact zx_tbl (show _ ∈ tables_1 from List.mem_append_left _ h)
theorem zy_5 : Cond.instantiable RX9 13 ∈ z_good := z_int1 191 (by decide +kernel) (by decide +kernel)
theorem zy_6 : Cond.code yX10_init cX10_init 2 none ∈ z_good := z_int2 31 (by decide +kernel) (by decide +kernel)
theorem zy_7 : Cond.initialized RX10 ∈ z_good := z_int1 8 (by decide +kernel) (by decide +kernel)
theorem zy_8 : Cond.instanceMethod yX10_init ∈ z_good := z_int2 30 (by decide +kernel) (by decide +kernel)
theorem zy_9 : Cond.methodLink RX10 3 Lib.objectInit ∈ z_good := z_int2 32 (by decide +kernel) (by decide +kernel)
theorem zy_10 : Cond.classLink RX10 9 RX3 ∈ z_good := z_int2 33 (by decide +kernel) (by decide +kernel)
theorem zao_1 : Cond.arrayOver (.object RX3) ∈ lw_tbl := by
  have h : Cond.arrayOver (.object RX3) ∈ tables_1_2 := List.mem_of_getElem? (i := 34) (by decide +kernel)
  exact zx_tbl (show _ ∈ tables_1 from List.mem_append_right _ (List.mem_append_left _ h))
theorem zy_11 : Cond.code yX11_init cX11_init 1 none ∈ z_good := z_int1 29 (by decide +kernel) (by decide +kernel)
theorem zy_12 : Cond.initialized RX11 ∈ z_good := z_int1 1 (by decide +kernel) (by decide +kernel)
theorem zy_13 : Cond.instanceMethod yX11_init ∈ z_good := z_int1 28 (by decide +kernel) (by decide +kernel)
theorem zy_14 : Cond.methodLink RX11 1 Lib.objectInit ∈ z_good := z_int1 30 (by decide +kernel) (by decide +kernel)
theorem zy_15 : Cond.classLink RX11 17 RX8 ∈ z_good := z_int1 33 (by decide +kernel) (by decide +kernel)
theorem zy_16 : Cond.instantiable RX8 4 ∈ z_good := z_int1 34 (by decide +kernel) (by decide +kernel)
theorem zao_2 : Cond.arrayOver (.object RX8) ∈ lw_tbl := by
  have h : Cond.arrayOver (.object RX8) ∈ tables_1_1 := List.mem_of_getElem? (i := 182) (by decide +kernel)
  exact zx_tbl (show _ ∈ tables_1 from List.mem_append_left _ h)
theorem zy_17 : Cond.classLink RX11 31 RX4 ∈ z_good := z_int1 183 (by decide +kernel) (by decide +kernel)
theorem zy_18 : Cond.instantiable RX4 4 ∈ z_good := z_int1 184 (by decide +kernel) (by decide +kernel)
theorem zy_19 : Cond.methodLink RX11 41 yX4_init ∈ z_good := z_int1 185 (by decide +kernel) (by decide +kernel)
theorem zy_20 : Cond.classLink RX11 48 RX3 ∈ z_good := z_int2 25 (by decide +kernel) (by decide +kernel)
theorem zy_21 : Cond.classLink RX11 54 RX10 ∈ z_good := z_int2 27 (by decide +kernel) (by decide +kernel)
theorem zy_22 : Cond.instantiable RX10 3 ∈ z_good := z_int2 28 (by decide +kernel) (by decide +kernel)
theorem zy_23 : Cond.methodLink RX11 56 yX10_init ∈ z_good := z_int2 29 (by decide +kernel) (by decide +kernel)
theorem zy_24 : Cond.classLink RX11 61 RX2 ∈ z_good := z_int2 47 (by decide +kernel) (by decide +kernel)
theorem zy_25 : Cond.instantiable RX2 4 ∈ z_good := z_int2 48 (by decide +kernel) (by decide +kernel)
theorem zy_26 : Cond.classLink RX11 68 RX6 ∈ z_good := z_int2 66 (by decide +kernel) (by decide +kernel)
theorem zy_27 : Cond.instantiable RX6 13 ∈ z_good := z_int2 67 (by decide +kernel) (by decide +kernel)
theorem zy_28 : Cond.methodLink RX11 70 yX6_init ∈ z_good := z_int2 68 (by decide +kernel) (by decide +kernel)
theorem zy_29 : Cond.classLink RX11 77 RX1 ∈ z_good := z_int2 123 (by decide +kernel) (by decide +kernel)
theorem zy_30 : Cond.instantiable RX1 4 ∈ z_good := z_int2 124 (by decide +kernel) (by decide +kernel)
theorem zy_31 : Cond.methodLink RX11 79 yX1_init ∈ z_good := z_int2 125 (by decide +kernel) (by decide +kernel)
theorem zy_32 : Cond.classLink RX11 86 RX0 ∈ z_good := z_int2 142 (by decide +kernel) (by decide +kernel)
theorem zy_33 : Cond.instantiable RX0 12 ∈ z_good := z_int2 143 (by decide +kernel) (by decide +kernel)
theorem zy_34 : Cond.methodLink RX11 88 yX0_init ∈ z_good := z_int2 144 (by decide +kernel) (by decide +kernel)
theorem zy_35 : Cond.code yX12_init cX12_init 1 none ∈ z_good := z_int6 153 (by decide +kernel) (by decide +kernel)
theorem zy_36 : Cond.initialized RX12 ∈ z_good := z_int1 13 (by decide +kernel) (by decide +kernel)
theorem zy_37 : Cond.instanceMethod yX12_init ∈ z_good := z_int6 152 (by decide +kernel) (by decide +kernel)
theorem zy_38 : Cond.methodLink RX12 93 Lib.objectInit ∈ z_good := z_int6 154 (by decide +kernel) (by decide +kernel)
def m_X4_init : z_MD := (yX4_init, cX4_init, 3, none)
theorem w_X4_init : z_mth m_X4_init 2 := ⟨zy_0, zy_1, by decide +kernel, ⟨by decide +kernel, by decide +kernel, by decide +kernel⟩, by decide +kernel⟩
theorem s_X4_init : Cond.instanceMethod yX4_init ∈ z_good := zy_2
theorem dv_X4 : ∀ j, j < 4 → defaultValue (tyX4 j) = vp_V [.null, .null, .null, .null] j := by
  intro j hj
  rcases (show j = 0 ∨ j = 1 ∨ j = 2 ∨ j = 3 by omega) with rfl | rfl | rfl | rfl <;> rfl
theorem nn_X4_11 : (RX4, 11, yX9_init, RX11) ∈ z_nest := by decide +kernel
theorem e_X4_63 : zE M0 63 = .inr (4, [.ref 3, .ref 10, .ref 64, .ref 113]) := by rw [zE_o (c := 4) (by decide) (by decide)]; rfl
set_option maxRecDepth 20000 in
theorem k_X4_63 {d : Nat} {G : Nat → va_E} {K : z_K} (hG : G 63 = .inr (4, [.null, .null, .null, .null])) (h : K none 114 (zF G 63 64 114)) : z_N m_X4_init (d + 2) 50 1136 0 0 0 [(0, .ref 63), (1, .ref 3), (2, .ref 10)] [] 64 G K := by
  rw [← zP_fin (G := G) (N := 64) (e := 114) e_X4_63] at h
  rw [zP_0 64 hG]
  refine zo_aload_n dX4_init_0 rfl 0 rfl ?_
  refine zo_objInit dX4_init_1 zy_3 zx_0 zx_1 (Nat.le_of_ble_eq_true rfl) ?_
  refine zo_aload_n dX4_init_4 rfl 0 rfl ?_
  refine zo_iconst (v := 4) dX4_init_5 (by decide) ?_
  refine zk_anew (n := 4) (t := 4) dX4_init_6 zy_4 zao_0 (fun _ => rfl) (by decide) (by decide) (by decide) (by decide) (by decide) ?_
  rw [zP_0 (b := 64) 65 (z_up_s _ _ _)]
  refine zo_dup dX4_init_9 rfl ?_
  refine zo_iconst (v := 0) dX4_init_10 (by decide) ?_
  refine zo_new (ci := 9) (fs := [.null, .null, .null, .int 0, .null, .null, .null, .null, .null, .null, .null, .null, .int 0]) dX4_init_11 zy_4 zy_5 zx_11 rfl uX9 tyX9 tyX9_ok dv_X9 (fun _ _ => rfl) (by decide) (by decide) ?_
  refine zo_dup dX4_init_14 rfl ?_
  refine zo_callIN (mc2 := 11) (ms2 := 264) (As := []) (b := 65) (st := [.ref 65, .int 0, .ref 64, .ref 64, .ref 63]) dX4_init_15 w_X9_init nn_X4_11 rfl rfl s_X9_init rfl (Nat.le_of_ble_eq_true rfl) (Nat.le_of_ble_eq_true rfl) (by decide) (by decide) (k_X9 (d := d + 0) (by decide) (z_up_s _ _ _) ⟨rfl, ?_⟩)
  rw [zP_call (by decide) (by decide) (by decide)]
  refine zk_aast (ci := 9) (r0 := (RX9, TX9, 13)) dX4_init_18 (by decide) (by decide) ((zP_in (by decide) (by decide)).trans (e_X9 65 (by decide))) rfl (fun _ => rfl) (by unfold vp_in; decide) ?_
  refine zo_dup dX4_init_19 rfl ?_
  refine zo_iconst (v := 1) dX4_init_20 (by decide) ?_
  refine zo_new (ci := 9) (fs := [.null, .null, .null, .int 0, .null, .null, .null, .null, .null, .null, .null, .null, .int 0]) dX4_init_21 zy_4 zy_5 zx_11 rfl uX9 tyX9 tyX9_ok dv_X9 (fun _ _ => rfl) (by decide) (by decide) ?_
  refine zo_dup dX4_init_24 rfl ?_
  refine zo_callIN (mc2 := 11) (ms2 := 264) (As := []) (b := 77) (st := [.ref 77, .int 1, .ref 64, .ref 64, .ref 63]) dX4_init_25 w_X9_init nn_X4_11 rfl rfl s_X9_init rfl (Nat.le_of_ble_eq_true rfl) (Nat.le_of_ble_eq_true rfl) (by decide) (by decide) (k_X9 (d := d + 0) (by decide) (z_up_s _ _ _) ⟨rfl, ?_⟩)
  rw [zP_call (by decide) (by decide) (by decide)]
  refine zk_aast (ci := 9) (r0 := (RX9, TX9, 13)) dX4_init_28 (by decide) (by decide) ((zP_in (by decide) (by decide)).trans (e_X9 77 (by decide))) rfl (fun _ => rfl) (by unfold vp_in; decide) ?_
  refine zo_dup dX4_init_29 rfl ?_
  refine zo_iconst (v := 2) dX4_init_30 (by decide) ?_
  refine zo_new (ci := 9) (fs := [.null, .null, .null, .int 0, .null, .null, .null, .null, .null, .null, .null, .null, .int 0]) dX4_init_31 zy_4 zy_5 zx_11 rfl uX9 tyX9 tyX9_ok dv_X9 (fun _ _ => rfl) (by decide) (by decide) ?_
  refine zo_dup dX4_init_34 rfl ?_
  refine zo_callIN (mc2 := 11) (ms2 := 264) (As := []) (b := 89) (st := [.ref 89, .int 2, .ref 64, .ref 64, .ref 63]) dX4_init_35 w_X9_init nn_X4_11 rfl rfl s_X9_init rfl (Nat.le_of_ble_eq_true rfl) (Nat.le_of_ble_eq_true rfl) (by decide) (by decide) (k_X9 (d := d + 0) (by decide) (z_up_s _ _ _) ⟨rfl, ?_⟩)
  rw [zP_call (by decide) (by decide) (by decide)]
  refine zk_aast (ci := 9) (r0 := (RX9, TX9, 13)) dX4_init_38 (by decide) (by decide) ((zP_in (by decide) (by decide)).trans (e_X9 89 (by decide))) rfl (fun _ => rfl) (by unfold vp_in; decide) ?_
  refine zo_dup dX4_init_39 rfl ?_
  refine zo_iconst (v := 3) dX4_init_40 (by decide) ?_
  refine zo_new (ci := 9) (fs := [.null, .null, .null, .int 0, .null, .null, .null, .null, .null, .null, .null, .null, .int 0]) dX4_init_41 zy_4 zy_5 zx_11 rfl uX9 tyX9 tyX9_ok dv_X9 (fun _ _ => rfl) (by decide) (by decide) ?_
  refine zo_dup dX4_init_44 rfl ?_
  refine zo_callIN (mc2 := 11) (ms2 := 264) (As := []) (b := 101) (st := [.ref 101, .int 3, .ref 64, .ref 64, .ref 63]) dX4_init_45 w_X9_init nn_X4_11 rfl rfl s_X9_init rfl (Nat.le_of_ble_eq_true rfl) (Nat.le_of_ble_eq_true rfl) (by decide) (by decide) (k_X9 (d := d + 0) (by decide) (z_up_s _ _ _) ⟨rfl, ?_⟩)
  rw [zP_call (by decide) (by decide) (by decide)]
  refine zk_aast (ci := 9) (r0 := (RX9, TX9, 13)) dX4_init_48 (by decide) (by decide) ((zP_in (by decide) (by decide)).trans (e_X9 101 (by decide))) rfl (fun _ => rfl) (by unfold vp_in; decide) ?_
  refine zk_arr (by decide) (by decide) (by decide) (by decide +kernel) (by decide) (by decide) (by decide) ?_
  refine zk_putF dX4_init_49 f_X4_12 rfl rfl (by decide) (Nat.le_of_ble_eq_true rfl) (fun _ _ => ⟨rfl, rfl⟩) ?_
  refine zo_aload_n dX4_init_52 rfl 0 rfl ?_
  refine zo_bipush (v := 24) dX4_init_53 (by decide) ?_
  refine zk_newI (n := 24) dX4_init_55 (by decide) (by decide) (aO_i (by decide +kernel)) (by decide) (by decide) (by decide) (by decide) (by decide) ?_
  refine zk_putF dX4_init_57 f_X4_18 rfl rfl (by decide) (Nat.le_of_ble_eq_true rfl) (fun _ _ => ⟨rfl, rfl⟩) ?_
  refine zo_aload_n dX4_init_60 rfl 0 rfl ?_
  refine zo_aload_n dX4_init_61 rfl 1 rfl ?_
  refine zk_putF dX4_init_62 f_X4_22 rfl rfl (by decide) (Nat.le_of_ble_eq_true rfl) (fun _ _ => ⟨rfl, rfl⟩) ?_
  refine zo_aload_n dX4_init_65 rfl 0 rfl ?_
  refine zo_aload_n dX4_init_66 rfl 2 rfl ?_
  refine zk_putF dX4_init_67 f_X4_26 rfl rfl (by decide) (Nat.le_of_ble_eq_true rfl) (fun _ _ => ⟨rfl, rfl⟩) ?_
  exact zo_ret (v := none) h rfl dX4_init_70
theorem e_X4_114 : zE M0 114 = .inr (4, [.ref 3, .ref 115, .ref 120, .ref 169]) := by rw [zE_o (c := 4) (by decide) (by decide)]; rfl
set_option maxRecDepth 20000 in
theorem k_X4_114 {d : Nat} {G : Nat → va_E} {K : z_K} (hG : G 114 = .inr (4, [.null, .null, .null, .null])) (h : K none 170 (zF G 114 120 170)) : z_N m_X4_init (d + 2) 50 1136 0 0 0 [(0, .ref 114), (1, .ref 3), (2, .ref 115)] [] 120 G K := by
  rw [← zP_fin (G := G) (N := 120) (e := 170) e_X4_114] at h
  rw [zP_0 120 hG]
  refine zo_aload_n dX4_init_0 rfl 0 rfl ?_
  refine zo_objInit dX4_init_1 zy_3 zx_0 zx_1 (Nat.le_of_ble_eq_true rfl) ?_
  refine zo_aload_n dX4_init_4 rfl 0 rfl ?_
  refine zo_iconst (v := 4) dX4_init_5 (by decide) ?_
  refine zk_anew (n := 4) (t := 4) dX4_init_6 zy_4 zao_0 (fun _ => rfl) (by decide) (by decide) (by decide) (by decide) (by decide) ?_
  rw [zP_0 (b := 120) 121 (z_up_s _ _ _)]
  refine zo_dup dX4_init_9 rfl ?_
  refine zo_iconst (v := 0) dX4_init_10 (by decide) ?_
  refine zo_new (ci := 9) (fs := [.null, .null, .null, .int 0, .null, .null, .null, .null, .null, .null, .null, .null, .int 0]) dX4_init_11 zy_4 zy_5 zx_11 rfl uX9 tyX9 tyX9_ok dv_X9 (fun _ _ => rfl) (by decide) (by decide) ?_
  refine zo_dup dX4_init_14 rfl ?_
  refine zo_callIN (mc2 := 11) (ms2 := 264) (As := []) (b := 121) (st := [.ref 121, .int 0, .ref 120, .ref 120, .ref 114]) dX4_init_15 w_X9_init nn_X4_11 rfl rfl s_X9_init rfl (Nat.le_of_ble_eq_true rfl) (Nat.le_of_ble_eq_true rfl) (by decide) (by decide) (k_X9 (d := d + 0) (by decide) (z_up_s _ _ _) ⟨rfl, ?_⟩)
  rw [zP_call (by decide) (by decide) (by decide)]
  refine zk_aast (ci := 9) (r0 := (RX9, TX9, 13)) dX4_init_18 (by decide) (by decide) ((zP_in (by decide) (by decide)).trans (e_X9 121 (by decide))) rfl (fun _ => rfl) (by unfold vp_in; decide) ?_
  refine zo_dup dX4_init_19 rfl ?_
  refine zo_iconst (v := 1) dX4_init_20 (by decide) ?_
  refine zo_new (ci := 9) (fs := [.null, .null, .null, .int 0, .null, .null, .null, .null, .null, .null, .null, .null, .int 0]) dX4_init_21 zy_4 zy_5 zx_11 rfl uX9 tyX9 tyX9_ok dv_X9 (fun _ _ => rfl) (by decide) (by decide) ?_
  refine zo_dup dX4_init_24 rfl ?_
  refine zo_callIN (mc2 := 11) (ms2 := 264) (As := []) (b := 133) (st := [.ref 133, .int 1, .ref 120, .ref 120, .ref 114]) dX4_init_25 w_X9_init nn_X4_11 rfl rfl s_X9_init rfl (Nat.le_of_ble_eq_true rfl) (Nat.le_of_ble_eq_true rfl) (by decide) (by decide) (k_X9 (d := d + 0) (by decide) (z_up_s _ _ _) ⟨rfl, ?_⟩)
  rw [zP_call (by decide) (by decide) (by decide)]
  refine zk_aast (ci := 9) (r0 := (RX9, TX9, 13)) dX4_init_28 (by decide) (by decide) ((zP_in (by decide) (by decide)).trans (e_X9 133 (by decide))) rfl (fun _ => rfl) (by unfold vp_in; decide) ?_
  refine zo_dup dX4_init_29 rfl ?_
  refine zo_iconst (v := 2) dX4_init_30 (by decide) ?_
  refine zo_new (ci := 9) (fs := [.null, .null, .null, .int 0, .null, .null, .null, .null, .null, .null, .null, .null, .int 0]) dX4_init_31 zy_4 zy_5 zx_11 rfl uX9 tyX9 tyX9_ok dv_X9 (fun _ _ => rfl) (by decide) (by decide) ?_
  refine zo_dup dX4_init_34 rfl ?_
  refine zo_callIN (mc2 := 11) (ms2 := 264) (As := []) (b := 145) (st := [.ref 145, .int 2, .ref 120, .ref 120, .ref 114]) dX4_init_35 w_X9_init nn_X4_11 rfl rfl s_X9_init rfl (Nat.le_of_ble_eq_true rfl) (Nat.le_of_ble_eq_true rfl) (by decide) (by decide) (k_X9 (d := d + 0) (by decide) (z_up_s _ _ _) ⟨rfl, ?_⟩)
  rw [zP_call (by decide) (by decide) (by decide)]
  refine zk_aast (ci := 9) (r0 := (RX9, TX9, 13)) dX4_init_38 (by decide) (by decide) ((zP_in (by decide) (by decide)).trans (e_X9 145 (by decide))) rfl (fun _ => rfl) (by unfold vp_in; decide) ?_
  refine zo_dup dX4_init_39 rfl ?_
  refine zo_iconst (v := 3) dX4_init_40 (by decide) ?_
  refine zo_new (ci := 9) (fs := [.null, .null, .null, .int 0, .null, .null, .null, .null, .null, .null, .null, .null, .int 0]) dX4_init_41 zy_4 zy_5 zx_11 rfl uX9 tyX9 tyX9_ok dv_X9 (fun _ _ => rfl) (by decide) (by decide) ?_
  refine zo_dup dX4_init_44 rfl ?_
  refine zo_callIN (mc2 := 11) (ms2 := 264) (As := []) (b := 157) (st := [.ref 157, .int 3, .ref 120, .ref 120, .ref 114]) dX4_init_45 w_X9_init nn_X4_11 rfl rfl s_X9_init rfl (Nat.le_of_ble_eq_true rfl) (Nat.le_of_ble_eq_true rfl) (by decide) (by decide) (k_X9 (d := d + 0) (by decide) (z_up_s _ _ _) ⟨rfl, ?_⟩)
  rw [zP_call (by decide) (by decide) (by decide)]
  refine zk_aast (ci := 9) (r0 := (RX9, TX9, 13)) dX4_init_48 (by decide) (by decide) ((zP_in (by decide) (by decide)).trans (e_X9 157 (by decide))) rfl (fun _ => rfl) (by unfold vp_in; decide) ?_
  refine zk_arr (by decide) (by decide) (by decide) (by decide +kernel) (by decide) (by decide) (by decide) ?_
  refine zk_putF dX4_init_49 f_X4_12 rfl rfl (by decide) (Nat.le_of_ble_eq_true rfl) (fun _ _ => ⟨rfl, rfl⟩) ?_
  refine zo_aload_n dX4_init_52 rfl 0 rfl ?_
  refine zo_bipush (v := 24) dX4_init_53 (by decide) ?_
  refine zk_newI (n := 24) dX4_init_55 (by decide) (by decide) (aO_i (by decide +kernel)) (by decide) (by decide) (by decide) (by decide) (by decide) ?_
  refine zk_putF dX4_init_57 f_X4_18 rfl rfl (by decide) (Nat.le_of_ble_eq_true rfl) (fun _ _ => ⟨rfl, rfl⟩) ?_
  refine zo_aload_n dX4_init_60 rfl 0 rfl ?_
  refine zo_aload_n dX4_init_61 rfl 1 rfl ?_
  refine zk_putF dX4_init_62 f_X4_22 rfl rfl (by decide) (Nat.le_of_ble_eq_true rfl) (fun _ _ => ⟨rfl, rfl⟩) ?_
  refine zo_aload_n dX4_init_65 rfl 0 rfl ?_
  refine zo_aload_n dX4_init_66 rfl 2 rfl ?_
  refine zk_putF dX4_init_67 f_X4_26 rfl rfl (by decide) (Nat.le_of_ble_eq_true rfl) (fun _ _ => ⟨rfl, rfl⟩) ?_
  exact zo_ret (v := none) h rfl dX4_init_70
def m_X10_init : z_MD := (yX10_init, cX10_init, 2, none)
theorem w_X10_init : z_mth m_X10_init 0 := ⟨zy_6, zy_7, by decide +kernel, ⟨by decide +kernel, by decide +kernel, by decide +kernel⟩, by decide +kernel⟩
theorem s_X10_init : Cond.instanceMethod yX10_init ∈ z_good := zy_8
theorem dv_X10 : ∀ j, j < 3 → defaultValue (tyX10 j) = vp_V [.null, .int 0, .int 0] j := by
  intro j hj
  rcases (show j = 0 ∨ j = 1 ∨ j = 2 by omega) with rfl | rfl | rfl <;> rfl
theorem nn_X10_24 : (RX10, 24, yX3_init, RX11) ∈ z_nest := by decide +kernel
theorem e_X10 : zE M0 170 = .inr (10, [.ref 171, .int 0, .int 0]) := by rw [zE_o (c := 10) (by decide) (by decide)]; rfl
set_option maxRecDepth 20000 in
theorem k_X10 {d : Nat} {G : Nat → va_E} {K : z_K} (hG : G 170 = .inr (10, [.null, .int 0, .int 0])) (h : K none 217 (zF G 170 171 217)) : z_N m_X10_init (d + 2) 46 1872 0 0 0 [(0, .ref 170)] [] 171 G K := by
  rw [← zP_fin (G := G) (N := 171) (e := 217) e_X10] at h
  rw [zP_0 171 hG]
  refine zo_aload_n dX10_init_0 rfl 0 rfl ?_
  refine zo_objInit dX10_init_1 zy_9 zx_0 zx_1 (Nat.le_of_ble_eq_true rfl) ?_
  refine zo_aload_n dX10_init_4 rfl 0 rfl ?_
  refine zo_bipush (v := 9) dX10_init_5 (by decide) ?_
  refine zk_anew (n := 9) (t := 6) dX10_init_7 zy_10 zao_1 (fun _ => rfl) (by decide) (by decide) (by decide) (by decide) (by decide) ?_
  refine zo_putF dX10_init_10 f_X10_11 rfl rfl (by decide) ((z_up_n _ _ (by decide)).trans zP_b) (Nat.le_of_ble_eq_true rfl) (fun _ _ => ⟨rfl, rfl⟩) ?_
  rw [zP_swap (by decide)]
  refine zo_aload_n dX10_init_13 rfl 0 rfl ?_
  refine zo_iconst (v := 0) dX10_init_14 (by decide) ?_
  refine zo_put dX10_init_15 f_X10_17 (by decide) ((z_up_n _ _ (by decide)).trans zP_b) (Nat.le_of_ble_eq_true rfl) (fun _ _ => ⟨rfl, rfl⟩) ?_
  rw [zP_swap (by decide)]
  refine zo_aload_n dX10_init_18 rfl 0 rfl ?_
  refine zo_iconst (v := 0) dX10_init_19 (by decide) ?_
  refine zo_put dX10_init_20 f_X10_21 (by decide) ((z_up_n _ _ (by decide)).trans zP_b) (Nat.le_of_ble_eq_true rfl) (fun _ _ => ⟨rfl, rfl⟩) ?_
  rw [zP_swap (by decide)]
  rw [zP_0 (b := 171) 172 (z_up_s _ _ _)]
  refine zo_iconst (v := 0) dX10_init_23 (by decide) ?_
  refine zo_istore_n dX10_init_24 rfl (by decide) (L2 := [(1, .int 0), (0, .ref 170)]) rfl ?_
  refine zo_iload_n dX10_init_25 rfl 0 rfl ?_
  refine zo_aload_n dX10_init_26 rfl 1 rfl ?_
  refine zo_get dX10_init_27 f_X10_11 (by decide) ((zP_o (by decide) (by decide)).trans ((z_up_n _ _ (by decide)).trans zP_b)) rfl ?_
  refine zo_alen (v := 9) dX10_init_30 (by decide) zP_b (fun _ => rfl) (by decide) ?_
  refine zo_icmp_ge (tgt := 53) dX10_init_31 (by decide) (fun q => absurd q (by decide)) (fun _ => ?_)
  refine zo_aload_n dX10_init_34 rfl 1 rfl ?_
  refine zo_get dX10_init_35 f_X10_11 (by decide) ((zP_o (by decide) (by decide)).trans ((z_up_n _ _ (by decide)).trans zP_b)) rfl ?_
  refine zo_iload_n dX10_init_38 rfl 0 rfl ?_
  refine zo_new (ci := 3) (fs := [.null, .null, .null, .null, .int 0, .int 0, .int 0]) dX10_init_39 zy_10 zx_29 zx_7 rfl uX3 tyX3 tyX3_ok dv_X3 (fun _ _ => rfl) (by decide) (by decide) ?_
  refine zo_dup dX10_init_42 rfl ?_
  refine zo_callIN (mc2 := 4) (ms2 := 200) (As := []) (b := 172) (st := [.ref 172, .int 0, .ref 171]) dX10_init_43 w_X3_init nn_X10_24 rfl rfl s_X3_init rfl (Nat.le_of_ble_eq_true rfl) (Nat.le_of_ble_eq_true rfl) (by decide) (by decide) (k_X3 (d := d + 0) (by decide) (z_up_s _ _ _) ⟨rfl, ?_⟩)
  rw [zP_call (by decide) (by decide) (by decide)]
  refine zk_aast (ci := 3) (r0 := (RX3, TX3, 7)) dX10_init_46 (by decide) (by decide) ((zP_in (by decide) (by decide)).trans (e_X3 172 (by decide))) rfl (fun _ => rfl) (by unfold vp_in; decide) ?_
  refine zo_iinc (n := 0) (v := 1) dX10_init_47 rfl (by decide) (by decide) (L2 := [(1, .int 1), (0, .ref 170)]) rfl ?_
  refine zo_goto (tgt := 25) dX10_init_50 (by decide) ?_
  refine zo_iload_n dX10_init_25 rfl 0 rfl ?_
  refine zo_aload_n dX10_init_26 rfl 1 rfl ?_
  refine zo_get dX10_init_27 f_X10_11 (by decide) ((zP_o (by decide) (by decide)).trans ((z_up_n _ _ (by decide)).trans zP_b)) rfl ?_
  refine zo_alen (v := 9) dX10_init_30 (by decide) zP_b (fun _ => rfl) (by decide) ?_
  refine zo_icmp_ge (tgt := 53) dX10_init_31 (by decide) (fun q => absurd q (by decide)) (fun _ => ?_)
  refine zo_aload_n dX10_init_34 rfl 1 rfl ?_
  refine zo_get dX10_init_35 f_X10_11 (by decide) ((zP_o (by decide) (by decide)).trans ((z_up_n _ _ (by decide)).trans zP_b)) rfl ?_
  refine zo_iload_n dX10_init_38 rfl 0 rfl ?_
  refine zo_new (ci := 3) (fs := [.null, .null, .null, .null, .int 0, .int 0, .int 0]) dX10_init_39 zy_10 zx_29 zx_7 rfl uX3 tyX3 tyX3_ok dv_X3 (fun _ _ => rfl) (by decide) (by decide) ?_
  refine zo_dup dX10_init_42 rfl ?_
  refine zo_callIN (mc2 := 4) (ms2 := 200) (As := []) (b := 177) (st := [.ref 177, .int 1, .ref 171]) dX10_init_43 w_X3_init nn_X10_24 rfl rfl s_X3_init rfl (Nat.le_of_ble_eq_true rfl) (Nat.le_of_ble_eq_true rfl) (by decide) (by decide) (k_X3 (d := d + 0) (by decide) (z_up_s _ _ _) ⟨rfl, ?_⟩)
  rw [zP_call (by decide) (by decide) (by decide)]
  refine zk_aast (ci := 3) (r0 := (RX3, TX3, 7)) dX10_init_46 (by decide) (by decide) ((zP_in (by decide) (by decide)).trans (e_X3 177 (by decide))) rfl (fun _ => rfl) (by unfold vp_in; decide) ?_
  refine zo_iinc (n := 0) (v := 2) dX10_init_47 rfl (by decide) (by decide) (L2 := [(1, .int 2), (0, .ref 170)]) rfl ?_
  refine zo_goto (tgt := 25) dX10_init_50 (by decide) ?_
  refine zo_iload_n dX10_init_25 rfl 0 rfl ?_
  refine zo_aload_n dX10_init_26 rfl 1 rfl ?_
  refine zo_get dX10_init_27 f_X10_11 (by decide) ((zP_o (by decide) (by decide)).trans ((z_up_n _ _ (by decide)).trans zP_b)) rfl ?_
  refine zo_alen (v := 9) dX10_init_30 (by decide) zP_b (fun _ => rfl) (by decide) ?_
  refine zo_icmp_ge (tgt := 53) dX10_init_31 (by decide) (fun q => absurd q (by decide)) (fun _ => ?_)
  refine zo_aload_n dX10_init_34 rfl 1 rfl ?_
  refine zo_get dX10_init_35 f_X10_11 (by decide) ((zP_o (by decide) (by decide)).trans ((z_up_n _ _ (by decide)).trans zP_b)) rfl ?_
  refine zo_iload_n dX10_init_38 rfl 0 rfl ?_
  refine zo_new (ci := 3) (fs := [.null, .null, .null, .null, .int 0, .int 0, .int 0]) dX10_init_39 zy_10 zx_29 zx_7 rfl uX3 tyX3 tyX3_ok dv_X3 (fun _ _ => rfl) (by decide) (by decide) ?_
  refine zo_dup dX10_init_42 rfl ?_
  refine zo_callIN (mc2 := 4) (ms2 := 200) (As := []) (b := 182) (st := [.ref 182, .int 2, .ref 171]) dX10_init_43 w_X3_init nn_X10_24 rfl rfl s_X3_init rfl (Nat.le_of_ble_eq_true rfl) (Nat.le_of_ble_eq_true rfl) (by decide) (by decide) (k_X3 (d := d + 0) (by decide) (z_up_s _ _ _) ⟨rfl, ?_⟩)
  rw [zP_call (by decide) (by decide) (by decide)]
  refine zk_aast (ci := 3) (r0 := (RX3, TX3, 7)) dX10_init_46 (by decide) (by decide) ((zP_in (by decide) (by decide)).trans (e_X3 182 (by decide))) rfl (fun _ => rfl) (by unfold vp_in; decide) ?_
  refine zo_iinc (n := 0) (v := 3) dX10_init_47 rfl (by decide) (by decide) (L2 := [(1, .int 3), (0, .ref 170)]) rfl ?_
  refine zo_goto (tgt := 25) dX10_init_50 (by decide) ?_
  refine zo_iload_n dX10_init_25 rfl 0 rfl ?_
  refine zo_aload_n dX10_init_26 rfl 1 rfl ?_
  refine zo_get dX10_init_27 f_X10_11 (by decide) ((zP_o (by decide) (by decide)).trans ((z_up_n _ _ (by decide)).trans zP_b)) rfl ?_
  refine zo_alen (v := 9) dX10_init_30 (by decide) zP_b (fun _ => rfl) (by decide) ?_
  refine zo_icmp_ge (tgt := 53) dX10_init_31 (by decide) (fun q => absurd q (by decide)) (fun _ => ?_)
  refine zo_aload_n dX10_init_34 rfl 1 rfl ?_
  refine zo_get dX10_init_35 f_X10_11 (by decide) ((zP_o (by decide) (by decide)).trans ((z_up_n _ _ (by decide)).trans zP_b)) rfl ?_
  refine zo_iload_n dX10_init_38 rfl 0 rfl ?_
  refine zo_new (ci := 3) (fs := [.null, .null, .null, .null, .int 0, .int 0, .int 0]) dX10_init_39 zy_10 zx_29 zx_7 rfl uX3 tyX3 tyX3_ok dv_X3 (fun _ _ => rfl) (by decide) (by decide) ?_
  refine zo_dup dX10_init_42 rfl ?_
  refine zo_callIN (mc2 := 4) (ms2 := 200) (As := []) (b := 187) (st := [.ref 187, .int 3, .ref 171]) dX10_init_43 w_X3_init nn_X10_24 rfl rfl s_X3_init rfl (Nat.le_of_ble_eq_true rfl) (Nat.le_of_ble_eq_true rfl) (by decide) (by decide) (k_X3 (d := d + 0) (by decide) (z_up_s _ _ _) ⟨rfl, ?_⟩)
  rw [zP_call (by decide) (by decide) (by decide)]
  refine zk_aast (ci := 3) (r0 := (RX3, TX3, 7)) dX10_init_46 (by decide) (by decide) ((zP_in (by decide) (by decide)).trans (e_X3 187 (by decide))) rfl (fun _ => rfl) (by unfold vp_in; decide) ?_
  refine zo_iinc (n := 0) (v := 4) dX10_init_47 rfl (by decide) (by decide) (L2 := [(1, .int 4), (0, .ref 170)]) rfl ?_
  refine zo_goto (tgt := 25) dX10_init_50 (by decide) ?_
  refine zo_iload_n dX10_init_25 rfl 0 rfl ?_
  refine zo_aload_n dX10_init_26 rfl 1 rfl ?_
  refine zo_get dX10_init_27 f_X10_11 (by decide) ((zP_o (by decide) (by decide)).trans ((z_up_n _ _ (by decide)).trans zP_b)) rfl ?_
  refine zo_alen (v := 9) dX10_init_30 (by decide) zP_b (fun _ => rfl) (by decide) ?_
  refine zo_icmp_ge (tgt := 53) dX10_init_31 (by decide) (fun q => absurd q (by decide)) (fun _ => ?_)
  refine zo_aload_n dX10_init_34 rfl 1 rfl ?_
  refine zo_get dX10_init_35 f_X10_11 (by decide) ((zP_o (by decide) (by decide)).trans ((z_up_n _ _ (by decide)).trans zP_b)) rfl ?_
  refine zo_iload_n dX10_init_38 rfl 0 rfl ?_
  refine zo_new (ci := 3) (fs := [.null, .null, .null, .null, .int 0, .int 0, .int 0]) dX10_init_39 zy_10 zx_29 zx_7 rfl uX3 tyX3 tyX3_ok dv_X3 (fun _ _ => rfl) (by decide) (by decide) ?_
  refine zo_dup dX10_init_42 rfl ?_
  refine zo_callIN (mc2 := 4) (ms2 := 200) (As := []) (b := 192) (st := [.ref 192, .int 4, .ref 171]) dX10_init_43 w_X3_init nn_X10_24 rfl rfl s_X3_init rfl (Nat.le_of_ble_eq_true rfl) (Nat.le_of_ble_eq_true rfl) (by decide) (by decide) (k_X3 (d := d + 0) (by decide) (z_up_s _ _ _) ⟨rfl, ?_⟩)
  rw [zP_call (by decide) (by decide) (by decide)]
  refine zk_aast (ci := 3) (r0 := (RX3, TX3, 7)) dX10_init_46 (by decide) (by decide) ((zP_in (by decide) (by decide)).trans (e_X3 192 (by decide))) rfl (fun _ => rfl) (by unfold vp_in; decide) ?_
  refine zo_iinc (n := 0) (v := 5) dX10_init_47 rfl (by decide) (by decide) (L2 := [(1, .int 5), (0, .ref 170)]) rfl ?_
  refine zo_goto (tgt := 25) dX10_init_50 (by decide) ?_
  refine zo_iload_n dX10_init_25 rfl 0 rfl ?_
  refine zo_aload_n dX10_init_26 rfl 1 rfl ?_
  refine zo_get dX10_init_27 f_X10_11 (by decide) ((zP_o (by decide) (by decide)).trans ((z_up_n _ _ (by decide)).trans zP_b)) rfl ?_
  refine zo_alen (v := 9) dX10_init_30 (by decide) zP_b (fun _ => rfl) (by decide) ?_
  refine zo_icmp_ge (tgt := 53) dX10_init_31 (by decide) (fun q => absurd q (by decide)) (fun _ => ?_)
  refine zo_aload_n dX10_init_34 rfl 1 rfl ?_
  refine zo_get dX10_init_35 f_X10_11 (by decide) ((zP_o (by decide) (by decide)).trans ((z_up_n _ _ (by decide)).trans zP_b)) rfl ?_
  refine zo_iload_n dX10_init_38 rfl 0 rfl ?_
  refine zo_new (ci := 3) (fs := [.null, .null, .null, .null, .int 0, .int 0, .int 0]) dX10_init_39 zy_10 zx_29 zx_7 rfl uX3 tyX3 tyX3_ok dv_X3 (fun _ _ => rfl) (by decide) (by decide) ?_
  refine zo_dup dX10_init_42 rfl ?_
  refine zo_callIN (mc2 := 4) (ms2 := 200) (As := []) (b := 197) (st := [.ref 197, .int 5, .ref 171]) dX10_init_43 w_X3_init nn_X10_24 rfl rfl s_X3_init rfl (Nat.le_of_ble_eq_true rfl) (Nat.le_of_ble_eq_true rfl) (by decide) (by decide) (k_X3 (d := d + 0) (by decide) (z_up_s _ _ _) ⟨rfl, ?_⟩)
  rw [zP_call (by decide) (by decide) (by decide)]
  refine zk_aast (ci := 3) (r0 := (RX3, TX3, 7)) dX10_init_46 (by decide) (by decide) ((zP_in (by decide) (by decide)).trans (e_X3 197 (by decide))) rfl (fun _ => rfl) (by unfold vp_in; decide) ?_
  refine zo_iinc (n := 0) (v := 6) dX10_init_47 rfl (by decide) (by decide) (L2 := [(1, .int 6), (0, .ref 170)]) rfl ?_
  refine zo_goto (tgt := 25) dX10_init_50 (by decide) ?_
  refine zo_iload_n dX10_init_25 rfl 0 rfl ?_
  refine zo_aload_n dX10_init_26 rfl 1 rfl ?_
  refine zo_get dX10_init_27 f_X10_11 (by decide) ((zP_o (by decide) (by decide)).trans ((z_up_n _ _ (by decide)).trans zP_b)) rfl ?_
  refine zo_alen (v := 9) dX10_init_30 (by decide) zP_b (fun _ => rfl) (by decide) ?_
  refine zo_icmp_ge (tgt := 53) dX10_init_31 (by decide) (fun q => absurd q (by decide)) (fun _ => ?_)
  refine zo_aload_n dX10_init_34 rfl 1 rfl ?_
  refine zo_get dX10_init_35 f_X10_11 (by decide) ((zP_o (by decide) (by decide)).trans ((z_up_n _ _ (by decide)).trans zP_b)) rfl ?_
  refine zo_iload_n dX10_init_38 rfl 0 rfl ?_
  refine zo_new (ci := 3) (fs := [.null, .null, .null, .null, .int 0, .int 0, .int 0]) dX10_init_39 zy_10 zx_29 zx_7 rfl uX3 tyX3 tyX3_ok dv_X3 (fun _ _ => rfl) (by decide) (by decide) ?_
  refine zo_dup dX10_init_42 rfl ?_
  refine zo_callIN (mc2 := 4) (ms2 := 200) (As := []) (b := 202) (st := [.ref 202, .int 6, .ref 171]) dX10_init_43 w_X3_init nn_X10_24 rfl rfl s_X3_init rfl (Nat.le_of_ble_eq_true rfl) (Nat.le_of_ble_eq_true rfl) (by decide) (by decide) (k_X3 (d := d + 0) (by decide) (z_up_s _ _ _) ⟨rfl, ?_⟩)
  rw [zP_call (by decide) (by decide) (by decide)]
  refine zk_aast (ci := 3) (r0 := (RX3, TX3, 7)) dX10_init_46 (by decide) (by decide) ((zP_in (by decide) (by decide)).trans (e_X3 202 (by decide))) rfl (fun _ => rfl) (by unfold vp_in; decide) ?_
  refine zo_iinc (n := 0) (v := 7) dX10_init_47 rfl (by decide) (by decide) (L2 := [(1, .int 7), (0, .ref 170)]) rfl ?_
  refine zo_goto (tgt := 25) dX10_init_50 (by decide) ?_
  refine zo_iload_n dX10_init_25 rfl 0 rfl ?_
  refine zo_aload_n dX10_init_26 rfl 1 rfl ?_
  refine zo_get dX10_init_27 f_X10_11 (by decide) ((zP_o (by decide) (by decide)).trans ((z_up_n _ _ (by decide)).trans zP_b)) rfl ?_
  refine zo_alen (v := 9) dX10_init_30 (by decide) zP_b (fun _ => rfl) (by decide) ?_
  refine zo_icmp_ge (tgt := 53) dX10_init_31 (by decide) (fun q => absurd q (by decide)) (fun _ => ?_)
  refine zo_aload_n dX10_init_34 rfl 1 rfl ?_
  refine zo_get dX10_init_35 f_X10_11 (by decide) ((zP_o (by decide) (by decide)).trans ((z_up_n _ _ (by decide)).trans zP_b)) rfl ?_
  refine zo_iload_n dX10_init_38 rfl 0 rfl ?_
  refine zo_new (ci := 3) (fs := [.null, .null, .null, .null, .int 0, .int 0, .int 0]) dX10_init_39 zy_10 zx_29 zx_7 rfl uX3 tyX3 tyX3_ok dv_X3 (fun _ _ => rfl) (by decide) (by decide) ?_
  refine zo_dup dX10_init_42 rfl ?_
  refine zo_callIN (mc2 := 4) (ms2 := 200) (As := []) (b := 207) (st := [.ref 207, .int 7, .ref 171]) dX10_init_43 w_X3_init nn_X10_24 rfl rfl s_X3_init rfl (Nat.le_of_ble_eq_true rfl) (Nat.le_of_ble_eq_true rfl) (by decide) (by decide) (k_X3 (d := d + 0) (by decide) (z_up_s _ _ _) ⟨rfl, ?_⟩)
  rw [zP_call (by decide) (by decide) (by decide)]
  refine zk_aast (ci := 3) (r0 := (RX3, TX3, 7)) dX10_init_46 (by decide) (by decide) ((zP_in (by decide) (by decide)).trans (e_X3 207 (by decide))) rfl (fun _ => rfl) (by unfold vp_in; decide) ?_
  refine zo_iinc (n := 0) (v := 8) dX10_init_47 rfl (by decide) (by decide) (L2 := [(1, .int 8), (0, .ref 170)]) rfl ?_
  refine zo_goto (tgt := 25) dX10_init_50 (by decide) ?_
  refine zo_iload_n dX10_init_25 rfl 0 rfl ?_
  refine zo_aload_n dX10_init_26 rfl 1 rfl ?_
  refine zo_get dX10_init_27 f_X10_11 (by decide) ((zP_o (by decide) (by decide)).trans ((z_up_n _ _ (by decide)).trans zP_b)) rfl ?_
  refine zo_alen (v := 9) dX10_init_30 (by decide) zP_b (fun _ => rfl) (by decide) ?_
  refine zo_icmp_ge (tgt := 53) dX10_init_31 (by decide) (fun q => absurd q (by decide)) (fun _ => ?_)
  refine zo_aload_n dX10_init_34 rfl 1 rfl ?_
  refine zo_get dX10_init_35 f_X10_11 (by decide) ((zP_o (by decide) (by decide)).trans ((z_up_n _ _ (by decide)).trans zP_b)) rfl ?_
  refine zo_iload_n dX10_init_38 rfl 0 rfl ?_
  refine zo_new (ci := 3) (fs := [.null, .null, .null, .null, .int 0, .int 0, .int 0]) dX10_init_39 zy_10 zx_29 zx_7 rfl uX3 tyX3 tyX3_ok dv_X3 (fun _ _ => rfl) (by decide) (by decide) ?_
  refine zo_dup dX10_init_42 rfl ?_
  refine zo_callIN (mc2 := 4) (ms2 := 200) (As := []) (b := 212) (st := [.ref 212, .int 8, .ref 171]) dX10_init_43 w_X3_init nn_X10_24 rfl rfl s_X3_init rfl (Nat.le_of_ble_eq_true rfl) (Nat.le_of_ble_eq_true rfl) (by decide) (by decide) (k_X3 (d := d + 0) (by decide) (z_up_s _ _ _) ⟨rfl, ?_⟩)
  rw [zP_call (by decide) (by decide) (by decide)]
  refine zk_aast (ci := 3) (r0 := (RX3, TX3, 7)) dX10_init_46 (by decide) (by decide) ((zP_in (by decide) (by decide)).trans (e_X3 212 (by decide))) rfl (fun _ => rfl) (by unfold vp_in; decide) ?_
  refine zo_iinc (n := 0) (v := 9) dX10_init_47 rfl (by decide) (by decide) (L2 := [(1, .int 9), (0, .ref 170)]) rfl ?_
  refine zo_goto (tgt := 25) dX10_init_50 (by decide) ?_
  refine zo_iload_n dX10_init_25 rfl 0 rfl ?_
  refine zo_aload_n dX10_init_26 rfl 1 rfl ?_
  refine zo_get dX10_init_27 f_X10_11 (by decide) ((zP_o (by decide) (by decide)).trans ((z_up_n _ _ (by decide)).trans zP_b)) rfl ?_
  refine zo_alen (v := 9) dX10_init_30 (by decide) zP_b (fun _ => rfl) (by decide) ?_
  refine zo_icmp_ge (tgt := 53) dX10_init_31 (by decide) (fun _ => ?_) (fun q => absurd (by decide) q)
  refine zk_arr (by decide) (by decide) (by decide) (by decide +kernel) (by decide) (by decide) (by decide) ?_
  exact zo_ret (v := none) h rfl dX10_init_53
def m_X11_init : z_MD := (yX11_init, cX11_init, 1, none)
theorem w_X11_init : z_mth m_X11_init 0 := ⟨zy_11, zy_12, by decide +kernel, ⟨by decide +kernel, by decide +kernel, by decide +kernel⟩, by decide +kernel⟩
theorem s_X11_init : Cond.instanceMethod yX11_init ∈ z_good := zy_13
theorem dv_X11 : ∀ j, j < 18 → defaultValue (tyX11 j) = vp_V [.null, .int 0, .null, .null, .null, .null, .null, .null, .null, .null, .null, .null, .null, .int 0, .null, .int 0, .int 0, .int 0] j := by
  intro j hj
  rcases (show j = 0 ∨ j = 1 ∨ j = 2 ∨ j = 3 ∨ j = 4 ∨ j = 5 ∨ j = 6 ∨ j = 7 ∨ j = 8 ∨ j = 9 ∨ j = 10 ∨ j = 11 ∨ j = 12 ∨ j = 13 ∨ j = 14 ∨ j = 15 ∨ j = 16 ∨ j = 17 by omega) with rfl | rfl | rfl | rfl | rfl | rfl | rfl | rfl | rfl | rfl | rfl | rfl | rfl | rfl | rfl | rfl | rfl | rfl <;> rfl
theorem nn_X11_19 : (RX11, 19, yX8_init, RX11) ∈ z_nest := by decide +kernel
theorem nn_X11_50 : (RX11, 50, yX3_init, RX11) ∈ z_nest := by decide +kernel
theorem nn_X11_63 : (RX11, 63, yX2_init, RX11) ∈ z_nest := by decide +kernel
theorem e_X11 : zE M0 0 = .inr (11, [.ref 1, .int 0, .ref 2, .ref 17, .ref 32, .ref 63, .ref 114, .ref 170, .ref 217, .ref 220, .ref 221, .ref 222, .ref 227, .int 0, .ref 228, .int 0, .int 0, .int (-1)]) := by rw [zE_o (c := 11) (by decide) (by decide)]; rfl
set_option maxRecDepth 20000 in
theorem k_X11 {d : Nat} {G : Nat → va_E} {K : z_K} (hG : G 0 = .inr (11, [.null, .int 0, .null, .null, .null, .null, .null, .null, .null, .null, .null, .null, .null, .int 0, .null, .int 0, .int 0, .int 0])) (h : K none 229 (zF G 0 1 229)) : z_N m_X11_init (d + 3) 228 7213 0 0 0 [(0, .ref 0)] [] 1 G K := by
  rw [← zP_fin (G := G) (N := 1) (e := 229) e_X11] at h
  rw [zP_0 1 hG]
  refine zo_aload_n dX11_init_0 rfl 0 rfl ?_
  refine zo_objInit dX11_init_1 zy_14 zx_0 zx_1 (Nat.le_of_ble_eq_true rfl) ?_
  refine zo_aload_n dX11_init_4 rfl 0 rfl ?_
  refine zo_sipush (v := 940) dX11_init_5 (by decide) ?_
  refine zk_newB (n := 940) dX11_init_8 (by decide) (by decide) (aO_b (by decide +kernel)) (by decide) (by decide) (by decide) (by decide) (by decide) ?_
  refine zk_putF dX11_init_10 f_X11_9 rfl rfl (by decide) (Nat.le_of_ble_eq_true rfl) (fun _ _ => ⟨rfl, rfl⟩) ?_
  refine zo_aload_n dX11_init_13 rfl 0 rfl ?_
  refine zo_iconst (v := 0) dX11_init_14 (by decide) ?_
  refine zk_put dX11_init_15 f_X11_13 (by decide) (Nat.le_of_ble_eq_true rfl) (fun _ _ => ⟨rfl, rfl⟩) ?_
  refine zo_aload_n dX11_init_18 rfl 0 rfl ?_
  refine zo_new (ci := 8) (fs := [.null, .null, .null, .int 0]) dX11_init_19 zy_15 zy_16 zx_23 rfl uX8 tyX8 tyX8_ok dv_X8 (fun _ _ => rfl) (by decide) (by decide) ?_
  refine zo_dup dX11_init_22 rfl ?_
  refine zo_callIN (mc2 := 14) (ms2 := 405) (As := []) (b := 2) (st := [.ref 2, .ref 0]) dX11_init_23 w_X8_init nn_X11_19 rfl rfl s_X8_init rfl (Nat.le_of_ble_eq_true rfl) (Nat.le_of_ble_eq_true rfl) (by decide) (by decide) (k_X8 (d := d + 0) (by decide) (z_up_s _ _ _) ⟨rfl, ?_⟩)
  rw [zP_call (by decide) (by decide) (by decide)]
  refine zk_putF dX11_init_26 f_X11_20 rfl rfl (by decide) (Nat.le_of_ble_eq_true rfl) (fun _ _ => ⟨rfl, rfl⟩) ?_
  refine zo_aload_n dX11_init_29 rfl 0 rfl ?_
  refine zo_new (ci := 8) (fs := [.null, .null, .null, .int 0]) dX11_init_30 zy_15 zy_16 zx_23 rfl uX8 tyX8 tyX8_ok dv_X8 (fun _ _ => rfl) (by decide) (by decide) ?_
  refine zo_dup dX11_init_33 rfl ?_
  refine zo_callIN (mc2 := 14) (ms2 := 405) (As := []) (b := 17) (st := [.ref 17, .ref 0]) dX11_init_34 w_X8_init nn_X11_19 rfl rfl s_X8_init rfl (Nat.le_of_ble_eq_true rfl) (Nat.le_of_ble_eq_true rfl) (by decide) (by decide) (k_X8 (d := d + 0) (by decide) (z_up_s _ _ _) ⟨rfl, ?_⟩)
  rw [zP_call (by decide) (by decide) (by decide)]
  refine zk_putF dX11_init_37 f_X11_24 rfl rfl (by decide) (Nat.le_of_ble_eq_true rfl) (fun _ _ => ⟨rfl, rfl⟩) ?_
  refine zo_aload_n dX11_init_40 rfl 0 rfl ?_
  refine zo_iconst (v := 2) dX11_init_41 (by decide) ?_
  refine zk_anew (n := 2) (t := 5) dX11_init_42 zy_15 zao_2 (fun _ => rfl) (by decide) (by decide) (by decide) (by decide) (by decide) ?_
  rw [zP_0 (b := 32) 33 (z_up_s _ _ _)]
  refine zo_dup dX11_init_45 rfl ?_
  refine zo_iconst (v := 0) dX11_init_46 (by decide) ?_
  refine zo_new (ci := 8) (fs := [.null, .null, .null, .int 0]) dX11_init_47 zy_15 zy_16 zx_23 rfl uX8 tyX8 tyX8_ok dv_X8 (fun _ _ => rfl) (by decide) (by decide) ?_
  refine zo_dup dX11_init_50 rfl ?_
  refine zo_callIN (mc2 := 14) (ms2 := 405) (As := []) (b := 33) (st := [.ref 33, .int 0, .ref 32, .ref 32, .ref 0]) dX11_init_51 w_X8_init nn_X11_19 rfl rfl s_X8_init rfl (Nat.le_of_ble_eq_true rfl) (Nat.le_of_ble_eq_true rfl) (by decide) (by decide) (k_X8 (d := d + 0) (by decide) (z_up_s _ _ _) ⟨rfl, ?_⟩)
  rw [zP_call (by decide) (by decide) (by decide)]
  refine zk_aast (ci := 8) (r0 := (RX8, TX8, 4)) dX11_init_54 (by decide) (by decide) ((zP_in (by decide) (by decide)).trans (e_X8 33 (by decide))) rfl (fun _ => rfl) (by unfold vp_in; decide) ?_
  refine zo_dup dX11_init_55 rfl ?_
  refine zo_iconst (v := 1) dX11_init_56 (by decide) ?_
  refine zo_new (ci := 8) (fs := [.null, .null, .null, .int 0]) dX11_init_57 zy_15 zy_16 zx_23 rfl uX8 tyX8 tyX8_ok dv_X8 (fun _ _ => rfl) (by decide) (by decide) ?_
  refine zo_dup dX11_init_60 rfl ?_
  refine zo_callIN (mc2 := 14) (ms2 := 405) (As := []) (b := 48) (st := [.ref 48, .int 1, .ref 32, .ref 32, .ref 0]) dX11_init_61 w_X8_init nn_X11_19 rfl rfl s_X8_init rfl (Nat.le_of_ble_eq_true rfl) (Nat.le_of_ble_eq_true rfl) (by decide) (by decide) (k_X8 (d := d + 0) (by decide) (z_up_s _ _ _) ⟨rfl, ?_⟩)
  rw [zP_call (by decide) (by decide) (by decide)]
  refine zk_aast (ci := 8) (r0 := (RX8, TX8, 4)) dX11_init_64 (by decide) (by decide) ((zP_in (by decide) (by decide)).trans (e_X8 48 (by decide))) rfl (fun _ => rfl) (by unfold vp_in; decide) ?_
  refine zk_arr (by decide) (by decide) (by decide) (by decide +kernel) (by decide) (by decide) (by decide) ?_
  refine zk_putF dX11_init_65 f_X11_27 rfl rfl (by decide) (Nat.le_of_ble_eq_true rfl) (fun _ _ => ⟨rfl, rfl⟩) ?_
  refine zo_aload_n dX11_init_68 rfl 0 rfl ?_
  refine zo_new (ci := 4) (fs := [.null, .null, .null, .null]) dX11_init_69 zy_17 zy_18 zy_1 rfl uX4 tyX4 tyX4_ok dv_X4 (fun _ _ => rfl) (by decide) (by decide) ?_
  refine zo_dup dX11_init_72 rfl ?_
  refine zo_aload_n dX11_init_73 rfl 0 rfl ?_
  refine zo_get dX11_init_74 f_X11_20 (by decide) ((z_up_n _ _ (by decide)).trans zP_b) rfl ?_
  refine zo_get dX11_init_77 f_X11_33 (by decide) ((z_up_n _ _ (by decide)).trans ((zP_in (by decide) (by decide)).trans (e_X8 2 (by decide)))) rfl ?_
  refine zo_aload_n dX11_init_80 rfl 0 rfl ?_
  refine zo_get dX11_init_81 f_X11_20 (by decide) ((z_up_n _ _ (by decide)).trans zP_b) rfl ?_
  refine zo_get dX11_init_84 f_X11_37 (by decide) ((z_up_n _ _ (by decide)).trans ((zP_in (by decide) (by decide)).trans (e_X8 2 (by decide)))) rfl ?_
  refine zo_callI (mc2 := 50) (ms2 := 1136) (As := [.ref 3, .ref 10]) (b := 63) (st := [.ref 63, .ref 0]) dX11_init_87 w_X4_init zy_19 rfl rfl s_X4_init rfl (Nat.le_of_ble_eq_true rfl) (Nat.le_of_ble_eq_true rfl) (by decide) (by decide) (k_X4_63 (d := d + 0) (z_up_s _ _ _) ⟨rfl, ?_⟩)
  rw [zP_call (by decide) (by decide) (by decide)]
  refine zk_putF dX11_init_90 f_X11_44 rfl rfl (by decide) (Nat.le_of_ble_eq_true rfl) (fun _ _ => ⟨rfl, rfl⟩) ?_
  refine zo_aload_n dX11_init_93 rfl 0 rfl ?_
  refine zo_new (ci := 4) (fs := [.null, .null, .null, .null]) dX11_init_94 zy_17 zy_18 zy_1 rfl uX4 tyX4 tyX4_ok dv_X4 (fun _ _ => rfl) (by decide) (by decide) ?_
  refine zo_dup dX11_init_97 rfl ?_
  refine zo_aload_n dX11_init_98 rfl 0 rfl ?_
  refine zo_get dX11_init_99 f_X11_20 (by decide) ((z_up_n _ _ (by decide)).trans zP_b) rfl ?_
  refine zo_get dX11_init_102 f_X11_33 (by decide) ((z_up_n _ _ (by decide)).trans ((zP_in (by decide) (by decide)).trans (e_X8 2 (by decide)))) rfl ?_
  rw [zP_0 (b := 114) 115 (z_up_s _ _ _)]
  refine zo_new (ci := 3) (fs := [.null, .null, .null, .null, .int 0, .int 0, .int 0]) dX11_init_105 zy_20 zx_29 zx_7 rfl uX3 tyX3 tyX3_ok dv_X3 (fun _ _ => rfl) (by decide) (by decide) ?_
  refine zo_dup dX11_init_108 rfl ?_
  refine zo_callIN (mc2 := 4) (ms2 := 200) (As := []) (b := 115) (st := [.ref 115, .ref 3, .ref 114, .ref 114, .ref 0]) dX11_init_109 w_X3_init nn_X11_50 rfl rfl s_X3_init rfl (Nat.le_of_ble_eq_true rfl) (Nat.le_of_ble_eq_true rfl) (by decide) (by decide) (k_X3 (d := d + 1) (by decide) (z_up_s _ _ _) ⟨rfl, ?_⟩)
  rw [zP_call (by decide) (by decide) (by decide)]
  refine zo_callI (mc2 := 50) (ms2 := 1136) (As := [.ref 3, .ref 115]) (b := 114) (st := [.ref 114, .ref 0]) dX11_init_112 w_X4_init zy_19 rfl rfl s_X4_init rfl (Nat.le_of_ble_eq_true rfl) (Nat.le_of_ble_eq_true rfl) (by decide) (by decide) (k_X4_114 (d := d + 0) zP_b ⟨rfl, ?_⟩)
  rw [zP_call2 (by decide) (by decide) (by decide) (by decide)]
  refine zk_putF dX11_init_115 f_X11_51 rfl rfl (by decide) (Nat.le_of_ble_eq_true rfl) (fun _ _ => ⟨rfl, rfl⟩) ?_
  refine zo_aload_n dX11_init_118 rfl 0 rfl ?_
  refine zo_new (ci := 10) (fs := [.null, .int 0, .int 0]) dX11_init_119 zy_21 zy_22 zy_7 rfl uX10 tyX10 tyX10_ok dv_X10 (fun _ _ => rfl) (by decide) (by decide) ?_
  refine zo_dup dX11_init_122 rfl ?_
  refine zo_callI (mc2 := 46) (ms2 := 1872) (As := []) (b := 170) (st := [.ref 170, .ref 0]) dX11_init_123 w_X10_init zy_23 rfl rfl s_X10_init rfl (Nat.le_of_ble_eq_true rfl) (Nat.le_of_ble_eq_true rfl) (by decide) (by decide) (k_X10 (d := d + 0) (z_up_s _ _ _) ⟨rfl, ?_⟩)
  rw [zP_call (by decide) (by decide) (by decide)]
  refine zk_putF dX11_init_126 f_X11_57 rfl rfl (by decide) (Nat.le_of_ble_eq_true rfl) (fun _ _ => ⟨rfl, rfl⟩) ?_
  refine zo_aload_n dX11_init_129 rfl 0 rfl ?_
  refine zo_new (ci := 2) (fs := [.int 0, .null, .null, .int 0]) dX11_init_130 zy_24 zy_25 zx_34 rfl uX2 tyX2 tyX2_ok dv_X2 (fun _ _ => rfl) (by decide) (by decide) ?_
  refine zo_dup dX11_init_133 rfl ?_
  refine zo_callIN (mc2 := 2) (ms2 := 8) (As := []) (b := 217) (st := [.ref 217, .ref 0]) dX11_init_134 w_X2_init nn_X11_63 rfl rfl s_X2_init rfl (Nat.le_of_ble_eq_true rfl) (Nat.le_of_ble_eq_true rfl) (by decide) (by decide) (k_X2 (d := d + 1) (z_up_s _ _ _) ⟨rfl, ?_⟩)
  rw [zP_call (by decide) (by decide) (by decide)]
  refine zk_putF dX11_init_137 f_X11_64 rfl rfl (by decide) (Nat.le_of_ble_eq_true rfl) (fun _ _ => ⟨rfl, rfl⟩) ?_
  refine zo_aload_n dX11_init_140 rfl 0 rfl ?_
  refine zo_new (ci := 6) (fs := [.null, .int 0, .int 0, .int 0, .int 0, .int 0, .int 0, .long 0, .int 0, .int 0, .int 0, .int 0, .int 0]) dX11_init_141 zy_26 zy_27 zx_38 rfl uX6 tyX6 tyX6_ok dv_X6 (fun _ _ => rfl) (by decide) (by decide) ?_
  refine zo_dup dX11_init_144 rfl ?_
  refine zo_aload_n dX11_init_145 rfl 0 rfl ?_
  refine zo_get dX11_init_146 f_X11_9 (by decide) ((z_up_n _ _ (by decide)).trans zP_b) rfl ?_
  refine zo_callI (mc2 := 0) (ms2 := 0) (As := [.ref 1]) (b := 220) (st := [.ref 220, .ref 0]) dX11_init_149 w_X6_init zy_28 rfl rfl s_X6_init rfl (Nat.le_of_ble_eq_true rfl) (Nat.le_of_ble_eq_true rfl) (by decide) (by decide) (k_X6 (d := d + 1) (z_up_s _ _ _) ⟨rfl, ?_⟩)
  rw [zP_call (by decide) (by decide) (by decide)]
  refine zk_putF dX11_init_152 f_X11_73 rfl rfl (by decide) (Nat.le_of_ble_eq_true rfl) (fun _ _ => ⟨rfl, rfl⟩) ?_
  refine zo_aload_n dX11_init_155 rfl 0 rfl ?_
  refine zo_new (ci := 1) (fs := [.null, .null, .null, .int 0]) dX11_init_156 zy_29 zy_30 zx_42 rfl uX1 tyX1 tyX1_ok dv_X1 (fun _ _ => rfl) (by decide) (by decide) ?_
  refine zo_dup dX11_init_159 rfl ?_
  refine zo_aload_n dX11_init_160 rfl 0 rfl ?_
  refine zo_get dX11_init_161 f_X11_73 (by decide) ((z_up_n _ _ (by decide)).trans zP_b) rfl ?_
  refine zo_aload_n dX11_init_164 rfl 0 rfl ?_
  refine zo_get dX11_init_165 f_X11_24 (by decide) ((z_up_n _ _ (by decide)).trans zP_b) rfl ?_
  refine zo_callI (mc2 := 0) (ms2 := 0) (As := [.ref 220, .ref 17]) (b := 221) (st := [.ref 221, .ref 0]) dX11_init_168 w_X1_init zy_31 rfl rfl s_X1_init rfl (Nat.le_of_ble_eq_true rfl) (Nat.le_of_ble_eq_true rfl) (by decide) (by decide) (k_X1 (d := d + 1) ((z_up_n _ _ (by decide)).trans (zP_in (by decide) (by decide))) (z_up_s _ _ _) ⟨rfl, ?_⟩)
  rw [zP_call (by decide) (by decide) (by decide)]
  refine zk_putF dX11_init_171 f_X11_82 rfl rfl (by decide) (Nat.le_of_ble_eq_true rfl) (fun _ _ => ⟨rfl, rfl⟩) ?_
  refine zo_aload_n dX11_init_174 rfl 0 rfl ?_
  refine zo_new (ci := 0) (fs := [.null, .null, .null, .null, .null, .null, .int 0, .int 0, .int 0, .int 0, .int 0, .int 0]) dX11_init_175 zy_32 zy_33 zx_48 rfl uX0 tyX0 tyX0_ok dv_X0 (fun _ _ => rfl) (by decide) (by decide) ?_
  refine zo_dup dX11_init_178 rfl ?_
  refine zo_aload_n dX11_init_179 rfl 0 rfl ?_
  refine zo_get dX11_init_180 f_X11_73 (by decide) ((z_up_n _ _ (by decide)).trans zP_b) rfl ?_
  refine zo_aload_n dX11_init_183 rfl 0 rfl ?_
  refine zo_get dX11_init_184 f_X11_20 (by decide) ((z_up_n _ _ (by decide)).trans zP_b) rfl ?_
  refine zo_get dX11_init_187 f_X11_33 (by decide) ((z_up_n _ _ (by decide)).trans ((zP_in (by decide) (by decide)).trans (e_X8 2 (by decide)))) rfl ?_
  refine zo_callI (mc2 := 4) (ms2 := 160) (As := [.ref 220, .ref 3]) (b := 222) (st := [.ref 222, .ref 0]) dX11_init_190 w_X0_init zy_34 rfl rfl s_X0_init rfl (Nat.le_of_ble_eq_true rfl) (Nat.le_of_ble_eq_true rfl) (by decide) (by decide) (k_X0 (d := d + 1) (z_up_s _ _ _) ⟨rfl, ?_⟩)
  rw [zP_call (by decide) (by decide) (by decide)]
  refine zk_putF dX11_init_193 f_X11_91 rfl rfl (by decide) (Nat.le_of_ble_eq_true rfl) (fun _ _ => ⟨rfl, rfl⟩) ?_
  refine zo_aload_n dX11_init_196 rfl 0 rfl ?_
  refine zo_bipush (v := 24) dX11_init_197 (by decide) ?_
  refine zk_newI (n := 24) dX11_init_199 (by decide) (by decide) (aO_i (by decide +kernel)) (by decide) (by decide) (by decide) (by decide) (by decide) ?_
  refine zk_putF dX11_init_201 f_X11_95 rfl rfl (by decide) (Nat.le_of_ble_eq_true rfl) (fun _ _ => ⟨rfl, rfl⟩) ?_
  refine zo_aload_n dX11_init_204 rfl 0 rfl ?_
  refine zo_iconst (v := 0) dX11_init_205 (by decide) ?_
  refine zk_put dX11_init_206 f_X11_99 (by decide) (Nat.le_of_ble_eq_true rfl) (fun _ _ => ⟨rfl, rfl⟩) ?_
  refine zo_aload_n dX11_init_209 rfl 0 rfl ?_
  refine zo_bipush (v := 48) dX11_init_210 (by decide) ?_
  refine zk_newB (n := 48) dX11_init_212 (by decide) (by decide) (aO_b (by decide +kernel)) (by decide) (by decide) (by decide) (by decide) (by decide) ?_
  refine zk_putF dX11_init_214 f_X11_102 rfl rfl (by decide) (Nat.le_of_ble_eq_true rfl) (fun _ _ => ⟨rfl, rfl⟩) ?_
  refine zo_aload_n dX11_init_217 rfl 0 rfl ?_
  refine zo_iconst (v := 0) dX11_init_218 (by decide) ?_
  refine zk_put dX11_init_219 f_X11_105 (by decide) (Nat.le_of_ble_eq_true rfl) (fun _ _ => ⟨rfl, rfl⟩) ?_
  refine zo_aload_n dX11_init_222 rfl 0 rfl ?_
  refine zo_iconst (v := 0) dX11_init_223 (by decide) ?_
  refine zk_put dX11_init_224 f_X11_108 (by decide) (Nat.le_of_ble_eq_true rfl) (fun _ _ => ⟨rfl, rfl⟩) ?_
  refine zo_aload_n dX11_init_227 rfl 0 rfl ?_
  refine zo_iconst (v := (-1)) dX11_init_228 (by decide) ?_
  refine zk_put dX11_init_229 f_X11_111 (by decide) (Nat.le_of_ble_eq_true rfl) (fun _ _ => ⟨rfl, rfl⟩) ?_
  exact zo_ret (v := none) h rfl dX11_init_232
def m_X12_init : z_MD := (yX12_init, cX12_init, 1, none)
theorem w_X12_init : z_mth m_X12_init 0 := ⟨zy_35, zy_36, by decide +kernel, ⟨by decide +kernel, by decide +kernel, by decide +kernel⟩, by decide +kernel⟩
theorem s_X12_init : Cond.instanceMethod yX12_init ∈ z_good := zy_37
theorem dv_X12 : ∀ j, j < 60 → defaultValue (tyX12 j) = vp_V [.int 0, .null, .int 0, .int 0, .int 0, .int 0, .int 0, .int 0, .int 0, .int 0, .int 0, .int 0, .long 0, .int 0, .null, .null, .null, .null, .null, .null, .null, .null, .null, .null, .null, .int 0, .int 0, .int 0, .null, .null, .null, .null, .null, .null, .null, .null, .null, .null, .null, .null, .null, .null, .null, .int 0, .int 0, .null, .int 0, .null, .null, .int 0, .int 0, .null, .null, .int 0, .int 0, .null, .int 0, .int 0, .int 0, .int 0] j := by
  intro j hj
  rcases (show j = 0 ∨ j = 1 ∨ j = 2 ∨ j = 3 ∨ j = 4 ∨ j = 5 ∨ j = 6 ∨ j = 7 ∨ j = 8 ∨ j = 9 ∨ j = 10 ∨ j = 11 ∨ j = 12 ∨ j = 13 ∨ j = 14 ∨ j = 15 ∨ j = 16 ∨ j = 17 ∨ j = 18 ∨ j = 19 ∨ j = 20 ∨ j = 21 ∨ j = 22 ∨ j = 23 ∨ j = 24 ∨ j = 25 ∨ j = 26 ∨ j = 27 ∨ j = 28 ∨ j = 29 ∨ j = 30 ∨ j = 31 ∨ j = 32 ∨ j = 33 ∨ j = 34 ∨ j = 35 ∨ j = 36 ∨ j = 37 ∨ j = 38 ∨ j = 39 ∨ j = 40 ∨ j = 41 ∨ j = 42 ∨ j = 43 ∨ j = 44 ∨ j = 45 ∨ j = 46 ∨ j = 47 ∨ j = 48 ∨ j = 49 ∨ j = 50 ∨ j = 51 ∨ j = 52 ∨ j = 53 ∨ j = 54 ∨ j = 55 ∨ j = 56 ∨ j = 57 ∨ j = 58 ∨ j = 59 by omega) with rfl | rfl | rfl | rfl | rfl | rfl | rfl | rfl | rfl | rfl | rfl | rfl | rfl | rfl | rfl | rfl | rfl | rfl | rfl | rfl | rfl | rfl | rfl | rfl | rfl | rfl | rfl | rfl | rfl | rfl | rfl | rfl | rfl | rfl | rfl | rfl | rfl | rfl | rfl | rfl | rfl | rfl | rfl | rfl | rfl | rfl | rfl | rfl | rfl | rfl | rfl | rfl | rfl | rfl | rfl | rfl | rfl | rfl | rfl | rfl <;> rfl
theorem e_X12 : zE M0 229 = .inr (12, [.int 0, .ref 230, .int 0, .int 0, .int 0, .int 0, .int 0, .int 0, .int 0, .int 0, .int 0, .int 0, .long 0, .int 0, .ref 231, .ref 232, .ref 233, .ref 234, .ref 235, .ref 236, .ref 237, .ref 238, .ref 239, .ref 240, .ref 241, .int 0, .int 0, .int (-1), .ref 242, .ref 243, .ref 244, .ref 245, .ref 246, .ref 247, .ref 248, .ref 249, .ref 250, .ref 251, .ref 252, .ref 253, .ref 254, .ref 255, .ref 256, .int 0, .int 0, .ref 257, .int 0, .ref 258, .ref 259, .int 0, .int 0, .ref 260, .ref 261, .int 0, .int 0, .ref 262, .int 0, .int 0, .int 0, .int 0]) := by rw [zE_o (c := 12) (by decide) (by decide)]; rfl
set_option maxRecDepth 20000 in
theorem k_X12 {d : Nat} {G : Nat → va_E} {K : z_K} (hG : G 229 = .inr (12, [.int 0, .null, .int 0, .int 0, .int 0, .int 0, .int 0, .int 0, .int 0, .int 0, .int 0, .int 0, .long 0, .int 0, .null, .null, .null, .null, .null, .null, .null, .null, .null, .null, .null, .int 0, .int 0, .int 0, .null, .null, .null, .null, .null, .null, .null, .null, .null, .null, .null, .null, .null, .null, .null, .int 0, .int 0, .null, .int 0, .null, .null, .int 0, .int 0, .null, .null, .int 0, .int 0, .null, .int 0, .int 0, .int 0, .int 0])) (h : K none 263 (z_up (z_up (zF G 229 230 263) 231 (.inl (0, 647, .inl (upd (fun _ => 0) ((2 : Int32).toNatClampNeg) 2)))) 231 (.inl (0, 647, .inl (upd (upd (fun _ => 0) ((2 : Int32).toNatClampNeg) 2) ((3 : Int32).toNatClampNeg) 4))))) : z_N m_X12_init (d + 1) 33 6220 0 0 0 [(0, .ref 229)] [] 230 G K := by
  rw [← zP_fin (G := G) (N := 230) (e := 263) e_X12] at h
  rw [zP_0 230 hG]
  refine zo_aload_n dX12_init_0 rfl 0 rfl ?_
  refine zo_objInit dX12_init_1 zy_38 zx_0 zx_1 (Nat.le_of_ble_eq_true rfl) ?_
  refine zo_aload_n dX12_init_4 rfl 0 rfl ?_
  refine zo_sipush (v := 940) dX12_init_5 (by decide) ?_
  refine zk_newI (n := 940) dX12_init_8 (by decide) (by decide) (aO_i (by decide +kernel)) (by decide) (by decide) (by decide) (by decide) (by decide) ?_
  refine zk_putF dX12_init_10 f_X12_7 rfl rfl (by decide) (Nat.le_of_ble_eq_true rfl) (fun _ _ => ⟨rfl, rfl⟩) ?_
  refine zo_aload_n dX12_init_13 rfl 0 rfl ?_
  refine zo_sipush (v := 647) dX12_init_14 (by decide) ?_
  refine zk_newI (n := 647) dX12_init_17 (by decide) (by decide) (aO_i (by decide +kernel)) (by decide) (by decide) (by decide) (by decide) (by decide) ?_
  refine zk_putF dX12_init_19 f_X12_98 rfl rfl (by decide) (Nat.le_of_ble_eq_true rfl) (fun _ _ => ⟨rfl, rfl⟩) ?_
  refine zo_aload_n dX12_init_22 rfl 0 rfl ?_
  refine zo_sipush (v := 202) dX12_init_23 (by decide) ?_
  refine zk_newI (n := 202) dX12_init_26 (by decide) (by decide) (aO_i (by decide +kernel)) (by decide) (by decide) (by decide) (by decide) (by decide) ?_
  refine zk_putF dX12_init_28 f_X12_101 rfl rfl (by decide) (Nat.le_of_ble_eq_true rfl) (fun _ _ => ⟨rfl, rfl⟩) ?_
  refine zo_aload_n dX12_init_31 rfl 0 rfl ?_
  refine zo_sipush (v := 1294) dX12_init_32 (by decide) ?_
  refine zk_newI (n := 1294) dX12_init_35 (by decide) (by decide) (aO_i (by decide +kernel)) (by decide) (by decide) (by decide) (by decide) (by decide) ?_
  refine zk_putF dX12_init_37 f_X12_104 rfl rfl (by decide) (Nat.le_of_ble_eq_true rfl) (fun _ _ => ⟨rfl, rfl⟩) ?_
  refine zo_aload_n dX12_init_40 rfl 0 rfl ?_
  refine zo_sipush (v := 1624) dX12_init_41 (by decide) ?_
  refine zk_newI (n := 1624) dX12_init_44 (by decide) (by decide) (aO_i (by decide +kernel)) (by decide) (by decide) (by decide) (by decide) (by decide) ?_
  refine zk_putF dX12_init_46 f_X12_107 rfl rfl (by decide) (Nat.le_of_ble_eq_true rfl) (fun _ _ => ⟨rfl, rfl⟩) ?_
  refine zo_aload_n dX12_init_49 rfl 0 rfl ?_
  refine zo_sipush (v := 203) dX12_init_50 (by decide) ?_
  refine zk_newI (n := 203) dX12_init_53 (by decide) (by decide) (aO_i (by decide +kernel)) (by decide) (by decide) (by decide) (by decide) (by decide) ?_
  refine zk_putF dX12_init_55 f_X12_110 rfl rfl (by decide) (Nat.le_of_ble_eq_true rfl) (fun _ _ => ⟨rfl, rfl⟩) ?_
  refine zo_aload_n dX12_init_58 rfl 0 rfl ?_
  refine zo_sipush (v := 203) dX12_init_59 (by decide) ?_
  refine zk_newI (n := 203) dX12_init_62 (by decide) (by decide) (aO_i (by decide +kernel)) (by decide) (by decide) (by decide) (by decide) (by decide) ?_
  refine zk_putF dX12_init_64 f_X12_113 rfl rfl (by decide) (Nat.le_of_ble_eq_true rfl) (fun _ _ => ⟨rfl, rfl⟩) ?_
  refine zo_aload_n dX12_init_67 rfl 0 rfl ?_
  refine zo_bipush (v := 28) dX12_init_68 (by decide) ?_
  refine zk_newL (n := 28) dX12_init_70 (by decide) (by decide) (aO_l (by decide +kernel)) (by decide) (by decide) (by decide) (by decide) (by decide) ?_
  refine zk_putF dX12_init_72 f_X12_116 rfl rfl (by decide) (Nat.le_of_ble_eq_true rfl) (fun _ _ => ⟨rfl, rfl⟩) ?_
  refine zo_aload_n dX12_init_75 rfl 0 rfl ?_
  refine zo_bipush (v := 28) dX12_init_76 (by decide) ?_
  refine zk_newL (n := 28) dX12_init_78 (by decide) (by decide) (aO_l (by decide +kernel)) (by decide) (by decide) (by decide) (by decide) (by decide) ?_
  refine zk_putF dX12_init_80 f_X12_120 rfl rfl (by decide) (Nat.le_of_ble_eq_true rfl) (fun _ _ => ⟨rfl, rfl⟩) ?_
  refine zo_aload_n dX12_init_83 rfl 0 rfl ?_
  refine zo_bipush (v := 56) dX12_init_84 (by decide) ?_
  refine zk_newL (n := 56) dX12_init_86 (by decide) (by decide) (aO_l (by decide +kernel)) (by decide) (by decide) (by decide) (by decide) (by decide) ?_
  refine zk_putF dX12_init_88 f_X12_123 rfl rfl (by decide) (Nat.le_of_ble_eq_true rfl) (fun _ _ => ⟨rfl, rfl⟩) ?_
  refine zo_aload_n dX12_init_91 rfl 0 rfl ?_
  refine zo_iconst (v := 2) dX12_init_92 (by decide) ?_
  refine zk_newZ (n := 2) dX12_init_93 (by decide) (by decide) (aO_z (by decide +kernel)) (by decide) (by decide) (by decide) (by decide) (by decide) ?_
  refine zk_putF dX12_init_95 f_X12_126 rfl rfl (by decide) (Nat.le_of_ble_eq_true rfl) (fun _ _ => ⟨rfl, rfl⟩) ?_
  refine zo_aload_n dX12_init_98 rfl 0 rfl ?_
  refine zo_iconst (v := 3) dX12_init_99 (by decide) ?_
  refine zk_newZ (n := 3) dX12_init_100 (by decide) (by decide) (aO_z (by decide +kernel)) (by decide) (by decide) (by decide) (by decide) (by decide) ?_
  refine zk_putF dX12_init_102 f_X12_130 rfl rfl (by decide) (Nat.le_of_ble_eq_true rfl) (fun _ _ => ⟨rfl, rfl⟩) ?_
  refine zo_aload_n dX12_init_105 rfl 0 rfl ?_
  refine zo_iconst (v := (-1)) dX12_init_106 (by decide) ?_
  refine zk_put dX12_init_107 f_X12_133 (by decide) (Nat.le_of_ble_eq_true rfl) (fun _ _ => ⟨rfl, rfl⟩) ?_
  refine zo_aload_n dX12_init_110 rfl 0 rfl ?_
  refine zo_bipush (v := 24) dX12_init_111 (by decide) ?_
  refine zk_newI (n := 24) dX12_init_113 (by decide) (by decide) (aO_i (by decide +kernel)) (by decide) (by decide) (by decide) (by decide) (by decide) ?_
  refine zk_putF dX12_init_115 f_X12_136 rfl rfl (by decide) (Nat.le_of_ble_eq_true rfl) (fun _ _ => ⟨rfl, rfl⟩) ?_
  refine zo_aload_n dX12_init_118 rfl 0 rfl ?_
  refine zo_bipush (v := 24) dX12_init_119 (by decide) ?_
  refine zk_newI (n := 24) dX12_init_121 (by decide) (by decide) (aO_i (by decide +kernel)) (by decide) (by decide) (by decide) (by decide) (by decide) ?_
  refine zk_putF dX12_init_123 f_X12_139 rfl rfl (by decide) (Nat.le_of_ble_eq_true rfl) (fun _ _ => ⟨rfl, rfl⟩) ?_
  refine zo_aload_n dX12_init_126 rfl 0 rfl ?_
  refine zo_bipush (v := 24) dX12_init_127 (by decide) ?_
  refine zk_newI (n := 24) dX12_init_129 (by decide) (by decide) (aO_i (by decide +kernel)) (by decide) (by decide) (by decide) (by decide) (by decide) ?_
  refine zk_putF dX12_init_131 f_X12_142 rfl rfl (by decide) (Nat.le_of_ble_eq_true rfl) (fun _ _ => ⟨rfl, rfl⟩) ?_
  refine zo_aload_n dX12_init_134 rfl 0 rfl ?_
  refine zo_bipush (v := 24) dX12_init_135 (by decide) ?_
  refine zk_newI (n := 24) dX12_init_137 (by decide) (by decide) (aO_i (by decide +kernel)) (by decide) (by decide) (by decide) (by decide) (by decide) ?_
  refine zk_putF dX12_init_139 f_X12_145 rfl rfl (by decide) (Nat.le_of_ble_eq_true rfl) (fun _ _ => ⟨rfl, rfl⟩) ?_
  refine zo_aload_n dX12_init_142 rfl 0 rfl ?_
  refine zo_iconst (v := 2) dX12_init_143 (by decide) ?_
  refine zk_newI (n := 2) dX12_init_144 (by decide) (by decide) (aO_i (by decide +kernel)) (by decide) (by decide) (by decide) (by decide) (by decide) ?_
  refine zk_putF dX12_init_146 f_X12_148 rfl rfl (by decide) (Nat.le_of_ble_eq_true rfl) (fun _ _ => ⟨rfl, rfl⟩) ?_
  refine zo_aload_n dX12_init_149 rfl 0 rfl ?_
  refine zo_bipush (v := 48) dX12_init_150 (by decide) ?_
  refine zk_newI (n := 48) dX12_init_152 (by decide) (by decide) (aO_i (by decide +kernel)) (by decide) (by decide) (by decide) (by decide) (by decide) ?_
  refine zk_putF dX12_init_154 f_X12_151 rfl rfl (by decide) (Nat.le_of_ble_eq_true rfl) (fun _ _ => ⟨rfl, rfl⟩) ?_
  refine zo_aload_n dX12_init_157 rfl 0 rfl ?_
  refine zo_bipush (v := 48) dX12_init_158 (by decide) ?_
  refine zk_newI (n := 48) dX12_init_160 (by decide) (by decide) (aO_i (by decide +kernel)) (by decide) (by decide) (by decide) (by decide) (by decide) ?_
  refine zk_putF dX12_init_162 f_X12_154 rfl rfl (by decide) (Nat.le_of_ble_eq_true rfl) (fun _ _ => ⟨rfl, rfl⟩) ?_
  refine zo_aload_n dX12_init_165 rfl 0 rfl ?_
  refine zo_bipush (v := 48) dX12_init_166 (by decide) ?_
  refine zk_newI (n := 48) dX12_init_168 (by decide) (by decide) (aO_i (by decide +kernel)) (by decide) (by decide) (by decide) (by decide) (by decide) ?_
  refine zk_putF dX12_init_170 f_X12_157 rfl rfl (by decide) (Nat.le_of_ble_eq_true rfl) (fun _ _ => ⟨rfl, rfl⟩) ?_
  refine zo_aload_n dX12_init_173 rfl 0 rfl ?_
  refine zo_bipush (v := 48) dX12_init_174 (by decide) ?_
  refine zk_newI (n := 48) dX12_init_176 (by decide) (by decide) (aO_i (by decide +kernel)) (by decide) (by decide) (by decide) (by decide) (by decide) ?_
  refine zk_putF dX12_init_178 f_X12_160 rfl rfl (by decide) (Nat.le_of_ble_eq_true rfl) (fun _ _ => ⟨rfl, rfl⟩) ?_
  refine zo_aload_n dX12_init_181 rfl 0 rfl ?_
  refine zo_bipush (v := 48) dX12_init_182 (by decide) ?_
  refine zk_newI (n := 48) dX12_init_184 (by decide) (by decide) (aO_i (by decide +kernel)) (by decide) (by decide) (by decide) (by decide) (by decide) ?_
  refine zk_putF dX12_init_186 f_X12_163 rfl rfl (by decide) (Nat.le_of_ble_eq_true rfl) (fun _ _ => ⟨rfl, rfl⟩) ?_
  refine zo_aload_n dX12_init_189 rfl 0 rfl ?_
  refine zo_bipush (v := 48) dX12_init_190 (by decide) ?_
  refine zk_newI (n := 48) dX12_init_192 (by decide) (by decide) (aO_i (by decide +kernel)) (by decide) (by decide) (by decide) (by decide) (by decide) ?_
  refine zk_putF dX12_init_194 f_X12_166 rfl rfl (by decide) (Nat.le_of_ble_eq_true rfl) (fun _ _ => ⟨rfl, rfl⟩) ?_
  refine zo_aload_n dX12_init_197 rfl 0 rfl ?_
  refine zo_bipush (v := 48) dX12_init_198 (by decide) ?_
  refine zk_newI (n := 48) dX12_init_200 (by decide) (by decide) (aO_i (by decide +kernel)) (by decide) (by decide) (by decide) (by decide) (by decide) ?_
  refine zk_putF dX12_init_202 f_X12_169 rfl rfl (by decide) (Nat.le_of_ble_eq_true rfl) (fun _ _ => ⟨rfl, rfl⟩) ?_
  refine zo_aload_n dX12_init_205 rfl 0 rfl ?_
  refine zo_bipush (v := 48) dX12_init_206 (by decide) ?_
  refine zk_newI (n := 48) dX12_init_208 (by decide) (by decide) (aO_i (by decide +kernel)) (by decide) (by decide) (by decide) (by decide) (by decide) ?_
  refine zk_putF dX12_init_210 f_X12_172 rfl rfl (by decide) (Nat.le_of_ble_eq_true rfl) (fun _ _ => ⟨rfl, rfl⟩) ?_
  refine zo_aload_n dX12_init_213 rfl 0 rfl ?_
  refine zo_bipush (v := 24) dX12_init_214 (by decide) ?_
  refine zk_newI (n := 24) dX12_init_216 (by decide) (by decide) (aO_i (by decide +kernel)) (by decide) (by decide) (by decide) (by decide) (by decide) ?_
  refine zk_putF dX12_init_218 f_X12_175 rfl rfl (by decide) (Nat.le_of_ble_eq_true rfl) (fun _ _ => ⟨rfl, rfl⟩) ?_
  refine zo_aload_n dX12_init_221 rfl 0 rfl ?_
  refine zo_bipush (v := 24) dX12_init_222 (by decide) ?_
  refine zk_newI (n := 24) dX12_init_224 (by decide) (by decide) (aO_i (by decide +kernel)) (by decide) (by decide) (by decide) (by decide) (by decide) ?_
  refine zk_putF dX12_init_226 f_X12_178 rfl rfl (by decide) (Nat.le_of_ble_eq_true rfl) (fun _ _ => ⟨rfl, rfl⟩) ?_
  refine zo_aload_n dX12_init_229 rfl 0 rfl ?_
  refine zo_bipush (v := 48) dX12_init_230 (by decide) ?_
  refine zk_newI (n := 48) dX12_init_232 (by decide) (by decide) (aO_i (by decide +kernel)) (by decide) (by decide) (by decide) (by decide) (by decide) ?_
  refine zk_putF dX12_init_234 f_X12_181 rfl rfl (by decide) (Nat.le_of_ble_eq_true rfl) (fun _ _ => ⟨rfl, rfl⟩) ?_
  refine zo_aload_n dX12_init_237 rfl 0 rfl ?_
  refine zo_iconst (v := 4) dX12_init_238 (by decide) ?_
  refine zk_newI (n := 4) dX12_init_239 (by decide) (by decide) (aO_i (by decide +kernel)) (by decide) (by decide) (by decide) (by decide) (by decide) ?_
  refine zk_putF dX12_init_241 f_X12_184 rfl rfl (by decide) (Nat.le_of_ble_eq_true rfl) (fun _ _ => ⟨rfl, rfl⟩) ?_
  refine zo_aload_n dX12_init_244 rfl 0 rfl ?_
  refine zo_iconst (v := 4) dX12_init_245 (by decide) ?_
  refine zk_newI (n := 4) dX12_init_246 (by decide) (by decide) (aO_i (by decide +kernel)) (by decide) (by decide) (by decide) (by decide) (by decide) ?_
  refine zk_putF dX12_init_248 f_X12_187 rfl rfl (by decide) (Nat.le_of_ble_eq_true rfl) (fun _ _ => ⟨rfl, rfl⟩) ?_
  refine zo_aload_n dX12_init_251 rfl 0 rfl ?_
  refine zo_sipush (v := 160) dX12_init_252 (by decide) ?_
  refine zk_newI (n := 160) dX12_init_255 (by decide) (by decide) (aO_i (by decide +kernel)) (by decide) (by decide) (by decide) (by decide) (by decide) ?_
  refine zk_putF dX12_init_257 f_X12_190 rfl rfl (by decide) (Nat.le_of_ble_eq_true rfl) (fun _ _ => ⟨rfl, rfl⟩) ?_
  refine zo_aload_n dX12_init_260 rfl 0 rfl ?_
  refine zo_iconst (v := 4) dX12_init_261 (by decide) ?_
  refine zk_newI (n := 4) dX12_init_262 (by decide) (by decide) (aO_i (by decide +kernel)) (by decide) (by decide) (by decide) (by decide) (by decide) ?_
  refine zk_putF dX12_init_264 f_X12_193 rfl rfl (by decide) (Nat.le_of_ble_eq_true rfl) (fun _ _ => ⟨rfl, rfl⟩) ?_
  refine zo_aload_n dX12_init_267 rfl 0 rfl ?_
  refine zo_sipush (v := 240) dX12_init_268 (by decide) ?_
  refine zk_newI (n := 240) dX12_init_271 (by decide) (by decide) (aO_i (by decide +kernel)) (by decide) (by decide) (by decide) (by decide) (by decide) ?_
  refine zk_putF dX12_init_273 f_X12_196 rfl rfl (by decide) (Nat.le_of_ble_eq_true rfl) (fun _ _ => ⟨rfl, rfl⟩) ?_
  refine zo_aload_n dX12_init_276 rfl 0 rfl ?_
  refine zo_get dX12_init_277 f_X12_98 (by decide) zP_b rfl ?_
  refine zo_iconst (v := 2) dX12_init_280 (by decide) ?_
  refine zo_iconst (v := 2) dX12_init_281 (by decide) ?_
  refine zo_iast (n := 647) dX12_init_282 (by decide) ((zP_in (by decide) (by decide)).trans (aO_i (by decide +kernel))) (by unfold vp_in; decide) ?_
  refine zo_aload_n dX12_init_283 rfl 0 rfl ?_
  refine zo_get dX12_init_284 f_X12_98 (by decide) ((z_up_n _ _ (by decide)).trans zP_b) rfl ?_
  refine zo_iconst (v := 3) dX12_init_287 (by decide) ?_
  refine zo_iconst (v := 4) dX12_init_288 (by decide) ?_
  refine zo_iast (n := 647) dX12_init_289 (by decide) (z_up_s _ _ _) (by unfold vp_in; decide) ?_
  exact zo_ret (v := none) h rfl dX12_init_290
