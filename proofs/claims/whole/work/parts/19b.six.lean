-- ===== mean and part =====
section
variable {d : Nat} {x1 x2 x3 : Int32} {M : zMem} {K : zK} {X : zMem → Prop}
theorem tq_mean (T : S_X11_isPeer (d + 5) x1 M (zB fun r M1 => (r = false → X M1) ∧ (r = true → (x2 < 0 → X M1) ∧ (¬ x2 < 0 → (1 < x2 → X M1) ∧ (¬ 1 < x2 → vp_in x1 4 ∧ (¬ M1.1 (65 + 12 * Int32.toNatClampNeg x1) 3 = 0 → S_X11_termOf (d + 5) (M1.1 (65 + 12 * Int32.toNatClampNeg x1) 3) (M1.1 (65 + 12 * Int32.toNatClampNeg x1) 12) x2 M1 (zI fun r M2 => K (some (.int r)) M2)) ∧ (M1.1 (65 + 12 * Int32.toNatClampNeg x1) 3 = 0 → X M1)))))) : zT m_X11_mean (d + 6) 0 [(0, .ref 0), (1, .int x1), (2, .int x2)] [] M K X := by
  have thr : ∀ M2, X M2 → zT m_X11_mean (d + 6) 32 [(0, .ref 0), (1, .int x1), (2, .int x2)] [] M2 K X := fun M2 h => zt_throwW (i := 7) (by decide) rfl dX11_mean_32 dX11_mean_35 dX11_mean_36 dX11_mean_39 dX11_mean_42 (by decide) (by decide) ⟨rfl, M2, rfl, h⟩
  refine zt_aload_n dX11_mean_0 rfl 0 rfl ?_
  refine zt_iload_n dX11_mean_1 rfl 1 rfl ?_
  refine zq_callV_b (c := 11) (b := 0) dX11_mean_2 w_X11_isPeer l_X11_179 rfl (by decide) (by decide) s_X11_isPeer [.int x1] rfl rfl (Nat.le_of_ble_eq_true rfl) (Nat.le_of_ble_eq_true rfl) ?_
  refine zV.post T ?_
  rintro v M1 ⟨r1, rfl, T⟩
  refine ⟨r1, rfl, ?_⟩
  refine zq_ifb_eq (tgt := 32) dX11_mean_5 (by decide) (fun h => thr _ (T.1 h)) (fun h => ?_)
  have T := T.2 h
  refine zt_iload_n dX11_mean_8 rfl 2 rfl ?_
  refine zt_if_lt (tgt := 32) dX11_mean_9 (by decide) (fun h => thr _ (T.1 h)) (fun h => ?_)
  have T := T.2 h
  refine zt_iload_n dX11_mean_12 rfl 2 rfl ?_
  refine zt_iconst (v := 1) dX11_mean_13 (by decide) ?_
  refine zt_icmp_gt (tgt := 32) dX11_mean_14 (by decide) (fun h => thr _ (T.1 h)) (fun h => ?_)
  obtain ⟨hq, T⟩ := T.2 h
  refine zt_aload_n dX11_mean_17 rfl 0 rfl ?_
  refine zq_getr (a := 63) dX11_mean_18 f_X11_44 (by decide) (by decide) (by decide) (by decide) ?_
  refine zq_getr (a := 64) dX11_mean_21 f_X11_182 (by decide) (by decide) (by decide) (by decide) ?_
  refine zt_iload_n dX11_mean_24 rfl 1 rfl ?_
  refine zq_aald (t := 4) (n := 4) (q := (Int32.toNatClampNeg x1)) (o := 65 + 12 * (Int32.toNatClampNeg x1)) dX11_mean_25 (by decide) (by decide) (by decide) (fun _ => rfl) (by decide) hq rfl (e64 (z_lt hq)) ?_
  refine zq_geti dX11_mean_26 f_X11_186 (oX9 _ (e64q (z_lt hq))) (by decide) (by decide) ?_
  refine zt_if_ne (tgt := 43) dX11_mean_29 (by decide) (fun h => ?_) (fun h => thr _ (T.2 h))
  have T := T.1 h
  refine zT.of ?_
  refine zr_aload_n dX11_mean_43 rfl 0 rfl ?_
  refine zm_getr (a := 63) dX11_mean_44 f_X11_44 (by decide) (by decide) (by decide) (by decide) ?_
  refine zm_getr (a := 64) dX11_mean_47 f_X11_182 (by decide) (by decide) (by decide) (by decide) ?_
  refine zr_iload_n dX11_mean_50 rfl 1 rfl ?_
  refine zm_aald (t := 4) (n := 4) (q := (Int32.toNatClampNeg x1)) (o := 65 + 12 * (Int32.toNatClampNeg x1)) dX11_mean_51 (by decide) (by decide) (by decide) (fun _ => rfl) (by decide) hq rfl (e64 (z_lt hq)) ?_
  refine zm_geti dX11_mean_52 f_X11_186 (oX9 _ (e64q (z_lt hq))) (by decide) (by decide) ?_
  refine zr_aload_n dX11_mean_55 rfl 0 rfl ?_
  refine zm_getr (a := 63) dX11_mean_56 f_X11_44 (by decide) (by decide) (by decide) (by decide) ?_
  refine zm_getr (a := 64) dX11_mean_59 f_X11_182 (by decide) (by decide) (by decide) (by decide) ?_
  refine zr_iload_n dX11_mean_62 rfl 1 rfl ?_
  refine zm_aald (t := 4) (n := 4) (q := (Int32.toNatClampNeg x1)) (o := 65 + 12 * (Int32.toNatClampNeg x1)) dX11_mean_63 (by decide) (by decide) (by decide) (fun _ => rfl) (by decide) hq rfl (e64 (z_lt hq)) ?_
  refine zm_geti dX11_mean_64 f_X11_194 (oX9 _ (e64q (z_lt hq))) (by decide) (by decide) ?_
  refine zr_iload_n dX11_mean_67 rfl 2 rfl ?_
  refine zm_callS_i dX11_mean_68 w_X11_termOf l_X11_325 s_X11_termOf [.int (M1.1 (65 + 12 * Int32.toNatClampNeg x1) 3), .int (M1.1 (65 + 12 * Int32.toNatClampNeg x1) 12), .int x2] rfl rfl (Nat.le_of_ble_eq_true rfl) (Nat.le_of_ble_eq_true rfl) ?_
  refine zV.post T ?_
  rintro v M4 ⟨r4, rfl, T⟩
  refine ⟨r4, rfl, ?_⟩
  exact zm_iret dX11_mean_71 rfl T
theorem tq_part (T : S_X11_areTwo (d + 5) x1 x2 M (zB fun r M1 => (r = false → X M1) ∧ (r = true → (x3 < 0 → X M1) ∧ (¬ x3 < 0 → (1 < x3 → X M1) ∧ (¬ 1 < x3 → vp_in x1 4 ∧ (¬ M1.1 (65 + 12 * Int32.toNatClampNeg x1) 12 = 0 → S_X4_visitedBits (d + 5) 63 x1 x2 M1 (zI fun r M2 => S_J6_bitCount_0f7a4 (d + 5) r M2 (zI fun r M3 => S_X11_termOf (d + 5) r (M3.1 (65 + 12 * Int32.toNatClampNeg x1) 12) x3 M3 (zI fun r M2 => K (some (.int r)) M2)))) ∧ (M1.1 (65 + 12 * Int32.toNatClampNeg x1) 12 = 0 → X M1)))))) : zT m_X11_part (d + 6) 0 [(0, .ref 0), (1, .int x1), (2, .int x2), (3, .int x3)] [] M K X := by
  have thr : ∀ M2, X M2 → zT m_X11_part (d + 6) 33 [(0, .ref 0), (1, .int x1), (2, .int x2), (3, .int x3)] [] M2 K X := fun M2 h => zt_throwW (i := 8) (by decide) rfl dX11_part_33 dX11_part_36 dX11_part_37 dX11_part_40 dX11_part_43 (by decide) (by decide) ⟨rfl, M2, rfl, h⟩
  refine zt_aload_n dX11_part_0 rfl 0 rfl ?_
  refine zt_iload_n dX11_part_1 rfl 1 rfl ?_
  refine zt_iload_n dX11_part_2 rfl 2 rfl ?_
  refine zq_callV_b (c := 11) (b := 0) dX11_part_3 w_X11_areTwo l_X11_266 rfl (by decide) (by decide) s_X11_areTwo [.int x1, .int x2] rfl rfl (Nat.le_of_ble_eq_true rfl) (Nat.le_of_ble_eq_true rfl) ?_
  refine zV.post T ?_
  rintro v M1 ⟨r1, rfl, T⟩
  refine ⟨r1, rfl, ?_⟩
  refine zq_ifb_eq (tgt := 33) dX11_part_6 (by decide) (fun h => thr _ (T.1 h)) (fun h => ?_)
  have T := T.2 h
  refine zt_iload_n dX11_part_9 rfl 3 rfl ?_
  refine zt_if_lt (tgt := 33) dX11_part_10 (by decide) (fun h => thr _ (T.1 h)) (fun h => ?_)
  have T := T.2 h
  refine zt_iload_n dX11_part_13 rfl 3 rfl ?_
  refine zt_iconst (v := 1) dX11_part_14 (by decide) ?_
  refine zt_icmp_gt (tgt := 33) dX11_part_15 (by decide) (fun h => thr _ (T.1 h)) (fun h => ?_)
  obtain ⟨hq, T⟩ := T.2 h
  refine zt_aload_n dX11_part_18 rfl 0 rfl ?_
  refine zq_getr (a := 63) dX11_part_19 f_X11_44 (by decide) (by decide) (by decide) (by decide) ?_
  refine zq_getr (a := 64) dX11_part_22 f_X11_182 (by decide) (by decide) (by decide) (by decide) ?_
  refine zt_iload_n dX11_part_25 rfl 1 rfl ?_
  refine zq_aald (t := 4) (n := 4) (q := (Int32.toNatClampNeg x1)) (o := 65 + 12 * (Int32.toNatClampNeg x1)) dX11_part_26 (by decide) (by decide) (by decide) (fun _ => rfl) (by decide) hq rfl (e64 (z_lt hq)) ?_
  refine zq_geti dX11_part_27 f_X11_194 (oX9 _ (e64q (z_lt hq))) (by decide) (by decide) ?_
  refine zt_if_ne (tgt := 44) dX11_part_30 (by decide) (fun h => ?_) (fun h => thr _ (T.2 h))
  have T := T.1 h
  refine zT.of ?_
  refine zr_aload_n dX11_part_44 rfl 0 rfl ?_
  refine zm_getr (a := 63) dX11_part_45 f_X11_44 (by decide) (by decide) (by decide) (by decide) ?_
  refine zr_iload_n dX11_part_48 rfl 1 rfl ?_
  refine zr_iload_n dX11_part_49 rfl 2 rfl ?_
  refine zm_callV_i (c := 4) (b := 63) dX11_part_50 w_X4_visitedBits l_X11_287 rfl (by decide) (by decide) s_X4_visitedBits [.int x1, .int x2] rfl rfl (Nat.le_of_ble_eq_true rfl) (Nat.le_of_ble_eq_true rfl) ?_
  refine zV.post T ?_
  rintro v M2 ⟨r2, rfl, T⟩
  refine ⟨r2, rfl, ?_⟩
  refine zm_callS_i dX11_part_53 w_J6_bitCount_0f7a4 l_X11_290 s_J6_bitCount_0f7a4 [.int r2] rfl rfl (Nat.le_of_ble_eq_true rfl) (Nat.le_of_ble_eq_true rfl) ?_
  refine zV.post T ?_
  rintro v M3 ⟨r3, rfl, T⟩
  refine ⟨r3, rfl, ?_⟩
  refine zr_aload_n dX11_part_56 rfl 0 rfl ?_
  refine zm_getr (a := 63) dX11_part_57 f_X11_44 (by decide) (by decide) (by decide) (by decide) ?_
  refine zm_getr (a := 64) dX11_part_60 f_X11_182 (by decide) (by decide) (by decide) (by decide) ?_
  refine zr_iload_n dX11_part_63 rfl 1 rfl ?_
  refine zm_aald (t := 4) (n := 4) (q := (Int32.toNatClampNeg x1)) (o := 65 + 12 * (Int32.toNatClampNeg x1)) dX11_part_64 (by decide) (by decide) (by decide) (fun _ => rfl) (by decide) hq rfl (e64 (z_lt hq)) ?_
  refine zm_geti dX11_part_65 f_X11_194 (oX9 _ (e64q (z_lt hq))) (by decide) (by decide) ?_
  refine zr_iload_n dX11_part_68 rfl 3 rfl ?_
  refine zm_callS_i dX11_part_69 w_X11_termOf l_X11_325 s_X11_termOf [.int r3, .int (M3.1 (65 + 12 * Int32.toNatClampNeg x1) 12), .int x3] rfl rfl (Nat.le_of_ble_eq_true rfl) (Nat.le_of_ble_eq_true rfl) ?_
  refine zV.post T ?_
  rintro v M4 ⟨r4, rfl, T⟩
  refine ⟨r4, rfl, ?_⟩
  exact zm_iret dX11_part_72 rfl T
end
